/-! transform -/
theorem tr_d {C D : Int} (hC : 0 ≤ C ∧ C < 9223372036854775808) (hD : 0 < D ∧ D ≤ 1000000000) : fr_l C / fr_l D = fr_l (C / D) := by
  rw [fr_ld (by omega) (by omega), (fr_tq _ _).1 hC.1]
theorem tr_q {C D : Int} (hC : 0 ≤ C ∧ C < 9223372036854775808) (hD : 0 < D ∧ D ≤ 1000000000) : 0 ≤ C / D ∧ C / D < 9223372036854775808 := by
  have h1 : 0 ≤ C / D := Int.ediv_nonneg hC.1 (by omega)
  have h2 : C / D ≤ C := Int.ediv_le_self D hC.1
  omega
theorem tr_r {C : Int} (hC : 0 ≤ C ∧ C < 9223372036854775808) : fr_l C - fr_l C / 1000 * 1000 = fr_l (C % 1000) := by
  rw [show (1000 : Int64) = fr_l 1000 from rfl, tr_d hC (by omega), fr_lm, fr_ls]
  exact congrArg fr_l (by omega)
theorem tr_5 {C : Int} (hC : 0 ≤ C ∧ C < 9223372036854775808) : fr_l C / 1000000000 = fr_l (C / 1000000000) := tr_d (D := 1000000000) hC (by omega)
theorem tr_7 {C : Int} (hC : 0 ≤ C ∧ C < 9223372036854775808) : fr_l C / 1000000 - fr_l C / 1000000 / 1000 * 1000 = fr_l (C / 1000000 % 1000) := by
  rw [show fr_l C / 1000000 = fr_l (C / 1000000) from tr_d (D := 1000000) hC (by omega)]
  exact tr_r (tr_q hC (by omega))
theorem tr_9 {C : Int} (hC : 0 ≤ C ∧ C < 9223372036854775808) : fr_l C / 1000 - fr_l C / 1000 / 1000 * 1000 = fr_l (C / 1000 % 1000) := by
  rw [show fr_l C / 1000 = fr_l (C / 1000) from tr_d (D := 1000) hC (by omega)]
  exact tr_r (tr_q hC (by omega))
theorem fr_lex (v : Int64) : ∃ P : Int, (-9223372036854775808 ≤ P ∧ P < 9223372036854775808) ∧ v = fr_l P := by
  have h1 := Int64.le_toInt v
  have h2 := Int64.toInt_lt v
  exact ⟨v.toInt, by omega, fr_lof v⟩
theorem tr_n9 : ¬ (1000000000 : Int64) = 0 := by decide
theorem tr_n6 : ¬ (1000000 : Int64) = 0 := by decide
theorem tr_n3 : ¬ (1000 : Int64) = 0 := by decide
/-- the reference's end, refused -/
theorem tr_83b {post : Int32 → SY → Prop} {f : Int32} {t b c : Nat → Int32} {v1 v2 : Int32} {x5 x7 x9 x11 : Int64} (h : post (-1000000) (f, t, b, c)) : wY_transform_83 post v1 v2 x5 x7 x9 x11 0 f t b c := by
  unfold wY_transform_83
  rcases rg_c v1 with h1 | ⟨d, hd, rfl⟩
  · exact rg_Yn h1 (br_t rfl h)
  · rcases rg_c v2 with h2 | ⟨i, hi, rfl⟩
    · exact rg_Yy hd (br_f rg_1 (rg_Yn h2 (br_t rfl h)))
    · exact rg_Yy hd (br_f rg_1 (rg_Yy hi (br_f rg_1 (br_t rfl h))))
theorem tr_82b {post : Int32 → SY → Prop} {f : Int32} {t b c : Nat → Int32} {v1 v2 : Int32} {x5 x7 x9 x11 : Int64} (h : post (-1000000) (f, t, b, c)) : wY_transform_82 post v1 v2 x5 x7 x9 x11 f t b c := by
  unfold wY_transform_82
  exact tr_83b h
theorem tr_83r {post : Int32 → SY → Prop} {f : Int32} {t b c : Nat → Int32} {v1 v2 z : Int32} {x5 x7 x9 x11 : Int64} (g : ¬ ∃ d i : Nat, d < 4 ∧ i < 4 ∧ v1 = nI d ∧ v2 = nI i) (h : post (-1000000) (f, t, b, c)) : wY_transform_83 post v1 v2 x5 x7 x9 x11 z f t b c := by
  unfold wY_transform_83
  rcases rg_c v1 with h1 | ⟨d, hd, rfl⟩
  · exact rg_Yn h1 (br_t rfl h)
  · rcases rg_c v2 with h2 | ⟨i, hi, rfl⟩
    · exact rg_Yy hd (br_f rg_1 (rg_Yn h2 (br_t rfl h)))
    · exact absurd ⟨d, i, hd, hi, rfl, rfl⟩ g
/-- refused for a register -/
theorem tr_Yr {post : Int32 → SY → Prop} {f : Int32} {t b c : Nat → Int32} {v1 v2 : Int32} {v3 : Int64} (g : ¬ ∃ d i : Nat, d < 4 ∧ i < 4 ∧ v1 = nI d ∧ v2 = nI i) (h : post (-1000000) (f, t, b, c)) : wpY_transform post (f, t, b, c) v1 v2 v3 := by
  unfold wpY_transform
  dsimp only
  exact ⟨tr_n9, nm_e ⟨tr_n6, tr_n3, nm_e ⟨tr_n3, tr_n3, nm_e ⟨tr_n3, nm_e (br_c (fun _ => tr_82b h) (fun _ => br_c (fun _ => tr_82b h) (fun _ => br_c (fun _ => tr_82b h) (fun _ => br_c (fun _ => tr_82b h) (fun _ => br_c (fun _ => tr_82b h) (fun _ => tr_83r g h))))))⟩⟩⟩⟩
theorem tr_Xr {post : Int32 → SX → Prop} {t b : Nat → Int32} {v1 v2 : Int32} {v3 : Int64} (g : ¬ ∃ d i : Nat, d < 4 ∧ i < 4 ∧ v1 = nI d ∧ v2 = nI i) (h : post (-1000000) (t, b)) : wpX_transform post (t, b) v1 v2 v3 := by
  unfold wpX_transform
  dsimp only
  rcases rg_c v1 with h1 | ⟨d, hd, rfl⟩
  · exact rg_Xn h1 (br_t rfl h)
  · rcases rg_c v2 with h2 | ⟨i, hi, rfl⟩
    · exact rg_Xy hd (br_f rg_1 (rg_Xn h2 (br_t rfl h)))
    · exact absurd ⟨d, i, hd, hi, rfl, rfl⟩ g
/-- a packed number that reads as four coefficients -/
def tr_G (C : Int) : Prop := 0 ≤ C ∧ C ≤ 99099099099 ∧ C / 1000000 % 1000 ≤ 99 ∧ C / 1000 % 1000 ≤ 99 ∧ C % 1000 ≤ 99
theorem tr_Yn {post : Int32 → SY → Prop} {f : Int32} {t b c : Nat → Int32} {v1 v2 : Int32} {C : Int} (hC : -9223372036854775808 ≤ C ∧ C < 9223372036854775808) (g : ¬ tr_G C) (h : post (-1000000) (f, t, b, c)) : wpY_transform post (f, t, b, c) v1 v2 (fr_l C) := by
  unfold wpY_transform
  dsimp only
  by_cases n : C < 0
  · exact ⟨tr_n9, nm_e ⟨tr_n6, tr_n3, nm_e ⟨tr_n3, tr_n3, nm_e ⟨tr_n3, nm_e (fr_lblt C 0 (fun _ => tr_82b h) (fun c => absurd n (by omega)))⟩⟩⟩⟩
  · have hC' : 0 ≤ C ∧ C < 9223372036854775808 := by omega
    refine ⟨tr_n9, nm_r (tr_5 hC') ⟨tr_n6, tr_n3, nm_r (tr_7 hC') ⟨tr_n3, tr_n3, nm_r (tr_9 hC') ⟨tr_n3, nm_r (tr_r hC') ?_⟩⟩⟩⟩
    have q1 := tr_q (D := 1000000000) hC' (by omega)
    refine fr_lblt C 0 (fun c => absurd c n) (fun _ => fr_lblt 99 (C / 1000000000) (fun _ => tr_82b h) (fun c1 => fr_lblt 99 (C / 1000000 % 1000) (fun _ => tr_82b h) (fun c2 => fr_lblt 99 (C / 1000 % 1000) (fun _ => tr_82b h) (fun c3 => fr_lblt 99 (C % 1000) (fun _ => tr_82b h) (fun c4 => ?_)))))
    exact absurd (show tr_G C from ⟨by omega, by omega, by omega, by omega, by omega⟩) g
theorem tr_Yy {post : Int32 → SY → Prop} {f : Int32} {t b c : Nat → Int32} {d i : Nat} (hd : d < 4) (hi : i < 4) {C : Int} (g : tr_G C) {T B : Int} (ht : t i = fr_i T) (hb : b i = fr_i B) (hr : st_R T B) (hP : -1000000000 ≤ C / 1000000000 * T + C / 1000000 % 1000 * B ∧ C / 1000000000 * T + C / 1000000 % 1000 * B ≤ 1000000000) (hQ : -1000000000 ≤ C / 1000 % 1000 * T + C % 1000 * B ∧ C / 1000 % 1000 * T + C % 1000 * B ≤ 1000000000) (h0 : C / 1000 % 1000 * T + C % 1000 * B = 0 → post (-1000001) (f, t, b, c)) (hy : C / 1000 % 1000 * T + C % 1000 * B ≠ 0 → st_F (C / 1000000000 * T + C / 1000000 % 1000 * B) (C / 1000 % 1000 * T + C % 1000 * B) → ∀ c' : Nat → Int32, post (nI (ch_l 40 (st_T (C / 1000000000 * T + C / 1000000 % 1000 * B) (C / 1000 % 1000 * T + C % 1000 * B)) (st_B (C / 1000000000 * T + C / 1000000 % 1000 * B) (C / 1000 % 1000 * T + C % 1000 * B)))) (nI (ch_l 40 (st_T (C / 1000000000 * T + C / 1000000 % 1000 * B) (C / 1000 % 1000 * T + C % 1000 * B)) (st_B (C / 1000000000 * T + C / 1000000 % 1000 * B) (C / 1000 % 1000 * T + C % 1000 * B))), upd t d (fr_i (st_T (C / 1000000000 * T + C / 1000000 % 1000 * B) (C / 1000 % 1000 * T + C % 1000 * B))), upd b d (fr_i (st_B (C / 1000000000 * T + C / 1000000 % 1000 * B) (C / 1000 % 1000 * T + C % 1000 * B))), c')) (hn : C / 1000 % 1000 * T + C % 1000 * B ≠ 0 → ¬ st_F (C / 1000000000 * T + C / 1000000 % 1000 * B) (C / 1000 % 1000 * T + C % 1000 * B) → post (-1000002) (f, t, b, c)) : wpY_transform post (f, t, b, c) (nI d) (nI i) (fr_l C) := by
  unfold st_R at hr
  unfold tr_G at g
  unfold wpY_transform
  dsimp only
  have hC' : 0 ≤ C ∧ C < 9223372036854775808 := by omega
  refine ⟨tr_n9, nm_r (tr_5 hC') ⟨tr_n6, tr_n3, nm_r (tr_7 hC') ⟨tr_n3, tr_n3, nm_r (tr_9 hC') ⟨tr_n3, nm_r (tr_r hC') ?_⟩⟩⟩⟩
  have q1 : 0 ≤ C / 1000000000 ∧ C / 1000000000 ≤ 99 := by omega
  refine fr_lblt C 0 (fun c => absurd c (by omega)) (fun _ => fr_lblt 99 (C / 1000000000) (fun c => absurd c (by omega)) (fun c1 => fr_lblt 99 (C / 1000000 % 1000) (fun c => absurd c (by omega)) (fun c2 => fr_lblt 99 (C / 1000 % 1000) (fun c => absurd c (by omega)) (fun c3 => fr_lblt 99 (C % 1000) (fun c => absurd c (by omega)) (fun c4 => ?_)))))
  clear c1 c2 c3 c4
  unfold wY_transform_83
  generalize C / 1000000000 = K at *
  generalize C / 1000000 % 1000 = L at *
  generalize C / 1000 % 1000 = M at *
  generalize C % 1000 = N at *
  rw [rg_at hi t, rg_at hi b, ht, hb, fr_il (by omega), fr_il (by omega)]
  refine rg_Yy hd (br_f rg_1 (rg_Yy hi (br_f rg_1 (br_f rg_1 ⟨rg_in hi, rg_in hi, nm_r (by rw [fr_lm, fr_lm, fr_la]) ?_⟩))))
  refine fr_lbeq (M * T + N * B) 0 (fun z => h0 z) (fun z => ⟨rg_in hi, rg_in hi, ?_⟩)
  rw [fr_lm, fr_lm, fr_la]
  refine st_Y hd z hP hQ (fun hF => br_f rg_1 ?_) (fun hF => br_t rfl (hn z hF))
  exact tm_Y hd pk_us pk_us (st_r z hP hQ hF) (hy z hF)
/-- X's walk -/
theorem tr_Xn {post : Int32 → SX → Prop} {t b : Nat → Int32} {d i : Nat} (hd : d < 4) (hi : i < 4) {C : Int} (hC : -9223372036854775808 ≤ C ∧ C < 9223372036854775808) (g : ¬ tr_G C) (h : post (-1000000) (t, b)) : wpX_transform post (t, b) (nI d) (nI i) (fr_l C) := by
  unfold wpX_transform
  dsimp only
  refine rg_Xy hd (br_f rg_1 (rg_Xy hi (br_f rg_1 ?_)))
  refine fr_lblt C 0 (fun _ => h) (fun n => fr_lble C 99099099099 (fun c => ?_) (fun _ => h))
  have hC' : 0 ≤ C ∧ C < 9223372036854775808 := by omega
  refine ⟨tr_n9, nm_r (by rw [tr_5 hC', fr_li (by omega)]) ⟨tr_n6, tr_n3, nm_r (by rw [tr_7 hC', fr_li (by omega)]) ⟨tr_n3, tr_n3, nm_r (by rw [tr_9 hC', fr_li (by omega)]) ⟨tr_n3, nm_r (by rw [tr_r hC', fr_li (by omega)]) ?_⟩⟩⟩⟩
  refine fr_blt 99 (C / 1000000 % 1000) (fun _ => h) (fun c2 => fr_blt 99 (C / 1000 % 1000) (fun _ => h) (fun c3 => fr_ble (C % 1000) 99 (fun c4 => ?_) (fun _ => h)))
  exact absurd (show tr_G C from ⟨by omega, by omega, by omega, by omega, by omega⟩) g
theorem tr_Xy {post : Int32 → SX → Prop} {t b : Nat → Int32} {d i : Nat} (hd : d < 4) (hi : i < 4) {C : Int} (g : tr_G C) {T B : Int} (ht : t i = fr_i T) (hb : b i = fr_i B) (h : wpX_store post (t, b) (nI d) (fr_i (C / 1000000000 * T + C / 1000000 % 1000 * B)) (fr_i (C / 1000 % 1000 * T + C % 1000 * B))) : wpX_transform post (t, b) (nI d) (nI i) (fr_l C) := by
  unfold tr_G at g
  unfold wpX_transform
  dsimp only
  refine rg_Xy hd (br_f rg_1 (rg_Xy hi (br_f rg_1 ?_)))
  refine fr_lblt C 0 (fun c => absurd c (by omega)) (fun n => fr_lble C 99099099099 (fun c => ?_) (fun c => absurd c (by omega)))
  have hC' : 0 ≤ C ∧ C < 9223372036854775808 := by omega
  refine ⟨tr_n9, nm_r (by rw [tr_5 hC', fr_li (by omega)]) ⟨tr_n6, tr_n3, nm_r (by rw [tr_7 hC', fr_li (by omega)]) ⟨tr_n3, tr_n3, nm_r (by rw [tr_9 hC', fr_li (by omega)]) ⟨tr_n3, nm_r (by rw [tr_r hC', fr_li (by omega)]) ?_⟩⟩⟩⟩
  refine fr_blt 99 (C / 1000000 % 1000) (fun c => absurd c (by omega)) (fun c2 => fr_blt 99 (C / 1000 % 1000) (fun c => absurd c (by omega)) (fun c3 => fr_ble (C % 1000) 99 (fun c4 => ?_) (fun c => absurd c (by omega))))
  refine ⟨rg_in hi, nm_r ((rg_at hi t).trans ht) ⟨rg_in hi, nm_r ((rg_at hi b).trans hb) ?_⟩⟩
  rw [fr_im, fr_im, fr_im, fr_im, fr_ia, fr_ia]
  exact h
theorem tr_m {a b : Int} (ha : 0 ≤ a ∧ a ≤ 99) (hb : -9999 ≤ b ∧ b ≤ 9999) : -989901 ≤ a * b ∧ a * b ≤ 989901 := by
  have h := mu_b (a := a) (b := b) (M := 99) (N := 9999) (by omega) (by omega)
  omega
theorem i_vc_transform {k : Nat} {u : SX} {v : SY} (I : i_Rel k u v) (hk : k + 5 ≤ 2560) (v1 : Int32) (v2 : Int32) (a2 : Int64) : wpX_transform (fun r u' => wpY_transform (fun r' v' => r' = r ∧ i_Rel (k + 5) u' v') v v1 v2 a2) u v1 v2 a2 := by
  obtain ⟨t, b, f, c, rfl, rfl, R⟩ := I
  obtain ⟨C, hC, rfl⟩ := fr_lex a2
  by_cases q : ∃ d i : Nat, d < 4 ∧ i < 4 ∧ v1 = nI d ∧ v2 = nI i
  · obtain ⟨d, i, hd, hi, rfl, rfl⟩ := q
    by_cases g : tr_G C
    · obtain ⟨T, B, ht, hb, hr⟩ := R i hi
      have r1 := hr
      unfold st_R at r1
      have g1 := g
      unfold tr_G at g1
      have m1 := tr_m (a := C / 1000000000) (b := T) (by omega) (by omega)
      have m2 := tr_m (a := C / 1000000 % 1000) (b := B) (by omega) (by omega)
      have m3 := tr_m (a := C / 1000 % 1000) (b := T) (by omega) (by omega)
      have m4 := tr_m (a := C % 1000) (b := B) (by omega) (by omega)
      have hP : -1000000000 ≤ C / 1000000000 * T + C / 1000000 % 1000 * B ∧ C / 1000000000 * T + C / 1000000 % 1000 * B ≤ 1000000000 := by omega
      have hQ : -1000000000 ≤ C / 1000 % 1000 * T + C % 1000 * B ∧ C / 1000 % 1000 * T + C % 1000 * B ≤ 1000000000 := by omega
      refine tr_Xy hd hi g ht hb (ap_X hd hP hQ (fun z => ?_) (fun q0 hF => ?_) (fun q0 hF => ?_))
      · exact tr_Yy hd hi g ht hb hr hP hQ (fun _ => ⟨rfl, rl_i R⟩) (fun n => absurd z n) (fun n => absurd z n)
      · exact tr_Yy hd hi g ht hb hr hP hQ (fun z => absurd z q0) (fun _ _ c' => ⟨rfl, rl_i (rl_u R (st_r q0 hP hQ hF))⟩) (fun _ n => absurd hF n)
      · exact tr_Yy hd hi g ht hb hr hP hQ (fun z => absurd z q0) (fun _ n => absurd n hF) (fun _ _ => ⟨rfl, rl_i R⟩)
    · exact tr_Xn hd hi hC g (tr_Yn hC g ⟨rfl, rl_i R⟩)
  · exact tr_Xr q (tr_Yr q ⟨rfl, rl_i R⟩)
