/-! the relation; the constructors; set, top, bottom, terms, term, compare -/
def rl_R (t b : Nat → Int32) : Prop := ∀ j, j < 4 → ∃ T B : Int, t j = fr_i T ∧ b j = fr_i B ∧ st_R T B
/-- both keep the same fractions, in the document's range; what the reference's chain holds between calls doesn't matter -/
def i_Rel (_ : Nat) (u : SX) (v : SY) : Prop := ∃ (t b : Nat → Int32) (f : Int32) (c : Nat → Int32), u = (t, b) ∧ v = (f, t, b, c) ∧ rl_R t b
theorem i_up {k : Nat} {u : SX} {v : SY} (h : i_Rel k u v) : i_Rel (k + 5) u v := h
theorem rl_i {k : Nat} {t b : Nat → Int32} {f : Int32} {c : Nat → Int32} (h : rl_R t b) : i_Rel k (t, b) (f, t, b, c) := ⟨t, b, f, c, rfl, rfl, h⟩
theorem rl_u {t b : Nat → Int32} {d : Nat} {T B : Int} (h : rl_R t b) (hr : st_R T B) : rl_R (upd t d (fr_i T)) (upd b d (fr_i B)) := by
  intro j hj
  by_cases e : j = d
  · subst e
    exact ⟨T, B, pk_us, pk_us, hr⟩
  · obtain ⟨T', B', h1, h2, h3⟩ := h j hj
    exact ⟨T', B', by rw [pk_un e]; exact h1, by rw [pk_un e]; exact h2, h3⟩
theorem in_X {post : SX → Prop} {t b : Nat → Int32} (n j : Nat) (hj : j < 4) (h : wX_init_20 post n (nI (j + 1)) t (upd b j 1)) : wX_init_20 post (n + 1) (nI j) t b :=
  br_f (nI_ge (b := 4) hj (by omega)) ⟨rg_in hj, nm_r (rg_up hj b 1) (nm_r (nI_1 j) h)⟩
theorem in_Xe {post : SX → Prop} {t b : Nat → Int32} (h : post (t, b)) : wX_init_20 post 1 (nI 4) t b :=
  br_t (nI_le (a := 4) (Nat.le_refl 4) (by omega)) h
theorem in_Y {post : SY → Prop} {f : Int32} {t b c : Nat → Int32} (n j : Nat) (hj : j < 4) (h : wY_init_28 post f n (nI (j + 1)) t (upd b j 1) c) : wY_init_28 post f (n + 1) (nI j) t b c :=
  br_f (nI_ge (b := 4) hj (by omega)) ⟨rg_in hj, nm_r (rg_up hj b 1) (nm_r (nI_1 j) h)⟩
theorem in_Ye {post : SY → Prop} {f : Int32} {t b c : Nat → Int32} (h : post (f, t, b, c)) : wY_init_28 post f 1 (nI 4) t b c :=
  br_t (nI_le (a := 4) (Nat.le_refl 4) (by omega)) h
theorem in_R : rl_R (fun _ => 0) (upd (upd (upd (upd (fun _ => 0) 0 1) 1 1) 2 1) 3 1) := by
  intro j hj
  refine ⟨0, 1, rfl, ?_, by unfold st_R; omega⟩
  obtain rfl | rfl | rfl | rfl : j = 0 ∨ j = 1 ∨ j = 2 ∨ j = 3 := by omega
  all_goals rfl
theorem i_vc0 : wpX_init (fun u => wpY_init (fun v => i_Rel 0 u v)) :=
  ⟨5, in_X 4 0 (by omega) (in_X 3 1 (by omega) (in_X 2 2 (by omega) (in_X 1 3 (by omega) (in_Xe ⟨5, in_Y 4 0 (by omega) (in_Y 3 1 (by omega) (in_Y 2 2 (by omega) (in_Y 1 3 (by omega) (in_Ye (rl_i in_R)))))⟩))))⟩
theorem fr_ex (v : Int32) : ∃ P : Int, (-2147483648 ≤ P ∧ P < 2147483648) ∧ v = fr_i P := by
  have h1 := Int32.le_toInt v
  have h2 := Int32.toInt_lt v
  exact ⟨v.toInt, by omega, fr_iof v⟩
theorem se_n1 : narrow .boolean (.int 1) = .int 1 := rfl
theorem se_Yn {post : Int32 → SY → Prop} {f : Int32} {t b c : Nat → Int32} {j : Nat} (hj : j < 4) {P Q : Int} (hP : -2147483648 ≤ P ∧ P < 2147483648) (hQ : -2147483648 ≤ Q ∧ Q < 2147483648) (g : ¬ st_R P Q) (h : post 0 (f, t, b, c)) : wpY_set post (f, t, b, c) (nI j) (fr_i P) (fr_i Q) := by
  unfold st_R at g
  unfold wpY_set
  dsimp only
  exact rg_Yy hj (br_f rg_1 (fr_blt P (-9999) (fun _ => h) (fun _ => fr_blt 9999 P (fun _ => h) (fun _ => fr_blt Q 1 (fun _ => h) (fun _ => fr_ble Q 9999 (fun _ => absurd (show -9999 ≤ P ∧ P ≤ 9999 ∧ 1 ≤ Q ∧ Q ≤ 9999 by omega) g) (fun _ => h))))))
theorem se_Yy {post : Int32 → SY → Prop} {f : Int32} {t b c : Nat → Int32} {j : Nat} (hj : j < 4) {P Q : Int} (g : st_R P Q) (h : post 1 (f, upd t j (fr_i (st_T P Q)), upd b j (fr_i (st_B P Q)), c)) : wpY_set post (f, t, b, c) (nI j) (fr_i P) (fr_i Q) := by
  unfold st_R at g
  unfold wpY_set
  dsimp only
  refine rg_Yy hj (br_f rg_1 (fr_blt P (-9999) (fun c => absurd c (by omega)) (fun _ => fr_blt 9999 P (fun c => absurd c (by omega)) (fun _ => fr_blt Q 1 (fun c => absurd c (by omega)) (fun _ => fr_ble Q 9999 (fun _ => ?_) (fun c => absurd c (by omega)))))))
  rw [fr_il (by omega), fr_il (by omega)]
  exact st_Yy hj (by omega) (by omega) (by omega) (st_fit (by omega) (by omega) (by omega)) ⟨se_n1, h⟩
theorem i_vc_set {k : Nat} {u : SX} {v : SY} (I : i_Rel k u v) (hk : k + 5 ≤ 2560) (v1 : Int32) (v2 : Int32) (v3 : Int32) : wpX_set (fun r u' => wpY_set (fun r' v' => r' = r ∧ i_Rel (k + 5) u' v') v v1 v2 v3) u v1 v2 v3 := by
  obtain ⟨t, b, f, c, rfl, rfl, R⟩ := I
  obtain ⟨P, hP, rfl⟩ := fr_ex v2
  obtain ⟨Q, hQ, rfl⟩ := fr_ex v3
  unfold wpX_set
  dsimp only
  rcases rg_c v1 with h | ⟨j, hj, rfl⟩
  · refine rg_Xn h (br_t rfl ?_)
    unfold wpY_set
    dsimp only
    exact rg_Yn h (br_t rfl ⟨rfl, rl_i R⟩)
  · by_cases g : st_R P Q
    · have g' := g
      unfold st_R at g'
      refine rg_Xy hj (br_f rg_1 (fr_blt Q 1 (fun c => absurd c (by omega)) (fun _ => fx_y (by omega) (by omega) (br_f rg_1 (st_Xy hj (by omega) (by omega) (by omega) (st_fit (by omega) (by omega) (by omega)) ?_)))))
      exact se_Yy hj g ⟨rfl, rl_i (rl_u R (st_r (by omega) (by omega) (by omega) (st_fit (by omega) (by omega) (by omega))))⟩
    · have g' := g
      unfold st_R at g'
      have K := se_Yn (post := fun r' v' => r' = 0 ∧ i_Rel (k + 5) (t, b) v') (f := f) (t := t) (b := b) (c := c) hj hP hQ g ⟨rfl, rl_i R⟩
      exact rg_Xy hj (br_f rg_1 (fr_blt Q 1 (fun _ => K) (fun _ => fx_n (by omega) (by omega) (by omega) (br_t rfl K))))
theorem i_vc_top {k : Nat} {u : SX} {v : SY} (I : i_Rel k u v) (hk : k + 5 ≤ 2560) (v1 : Int32) : wpX_top (fun r => wpY_top (fun r' => r' = r ∧ i_Rel (k + 5) u v) v v1) u v1 := by
  obtain ⟨t, b, f, c, rfl, rfl, R⟩ := I
  unfold wpX_top wpY_top
  dsimp only
  rcases rg_c v1 with h | ⟨j, hj, rfl⟩
  · exact rg_Xn h (br_t rfl (rg_Yn h (br_t rfl ⟨rfl, rl_i R⟩)))
  · exact rg_Xy hj (br_f rg_1 ⟨rg_in hj, rg_Yy hj (br_f rg_1 ⟨rg_in hj, rfl, rl_i R⟩)⟩)
theorem i_vc_bottom {k : Nat} {u : SX} {v : SY} (I : i_Rel k u v) (hk : k + 5 ≤ 2560) (v1 : Int32) : wpX_bottom (fun r => wpY_bottom (fun r' => r' = r ∧ i_Rel (k + 5) u v) v v1) u v1 := by
  obtain ⟨t, b, f, c, rfl, rfl, R⟩ := I
  unfold wpX_bottom wpY_bottom
  dsimp only
  rcases rg_c v1 with h | ⟨j, hj, rfl⟩
  · exact rg_Xn h (br_t rfl (rg_Yn h (br_t rfl ⟨rfl, rl_i R⟩)))
  · exact rg_Xy hj (br_f rg_1 ⟨rg_in hj, rg_Yy hj (br_f rg_1 ⟨rg_in hj, rfl, rl_i R⟩)⟩)
theorem i_vc_terms {k : Nat} {u : SX} {v : SY} (I : i_Rel k u v) (hk : k + 5 ≤ 2560) (v1 : Int32) : wpX_terms (fun r => wpY_terms (fun r' v' => r' = r ∧ i_Rel (k + 5) u v') v v1) u v1 := by
  obtain ⟨t, b, f, c, rfl, rfl, R⟩ := I
  unfold wpX_terms
  dsimp only
  rcases rg_c v1 with h | ⟨j, hj, rfl⟩
  · refine rg_Xn h (br_t rfl ?_)
    unfold wpY_terms
    dsimp only
    exact rg_Yn h (br_t rfl ⟨rfl, rl_i R⟩)
  · obtain ⟨T, B, ht, hb, hr⟩ := R j hj
    exact rg_Xy hj (br_f rg_1 (cl_X hj ht hb hr (tm_Y hj ht hb hr (fun c' => ⟨rfl, rl_i R⟩))))
theorem te_l {T B : Int} : ch_l 40 T B < 41 := Nat.lt_succ_of_le (ch_le 40 T B)
theorem i_vc_term {k : Nat} {u : SX} {v : SY} (I : i_Rel k u v) (hk : k + 5 ≤ 2560) (v1 : Int32) (v2 : Int32) : wpX_term (fun r => wpY_term (fun r' v' => r' = r ∧ i_Rel (k + 5) u v') v v1 v2) u v1 v2 := by
  obtain ⟨t, b, f, c, rfl, rfl, R⟩ := I
  unfold wpX_term wpY_term
  dsimp only
  rcases rg_c v1 with h | ⟨j, hj, rfl⟩
  · exact rg_Xn h (br_t rfl (rg_Yn h (br_t rfl ⟨rfl, rl_i R⟩)))
  · obtain ⟨T, B, ht, hb, hr⟩ := R j hj
    have hr' := hr
    unfold st_R at hr'
    have hl := te_l (T := T) (B := B)
    refine rg_Xy hj (br_f rg_1 ?_)
    by_cases h0 : v2 < 0
    · refine br_f (fun z => absurd h0 (Int32.not_lt.mpr z)) (rg_Yy hj (br_f rg_1 (cl_Y hj ht hb hr (fun c' _ => ?_))))
      exact br_t h0 ⟨rfl, rl_i R⟩
    · obtain ⟨i, hi, rfl⟩ := nI_of h0
      refine br_t (Int32.not_lt.mp h0) ⟨rg_in hj, nm_r ((rg_at hj t).trans ht) ⟨rg_in hj, nm_r ((rg_at hj b).trans hb) ⟨41, ?_⟩⟩⟩
      refine ch_Xt hi 40 T B i 0 41 (ch_e40 (by omega)) (by omega) (by omega) (by omega) (by omega) (fun c1 => ?_) (fun c1 => ?_)
      · refine rg_Yy hj (br_f rg_1 (cl_Y hj ht hb hr (fun c' hc => ?_)))
        refine br_f h0 (pk_le (ch_l 40 T B) i (fun c => absurd c (by omega)) (fun _ => ⟨vp_in_nI (by omega) (by omega), ?_, rl_i R⟩))
        rw [nI_clamp hi]
        exact hc i c1
      · refine rg_Yy hj (br_f rg_1 (cl_Y hj ht hb hr (fun c' hc => ?_)))
        exact br_f h0 (pk_le (ch_l 40 T B) i (fun _ => ⟨rfl, rl_i R⟩) (fun c => absurd c (by omega)))
theorem mu_b {a b : Int} {M N : Nat} (ha : a.natAbs ≤ M) (hb : b.natAbs ≤ N) : (a * b).natAbs ≤ M * N := by
  rw [Int.natAbs_mul]
  exact Nat.mul_le_mul ha hb
theorem mu_9 {a b : Int} (ha : -9999 ≤ a ∧ a ≤ 9999) (hb : -9999 ≤ b ∧ b ≤ 9999) : -99980001 ≤ a * b ∧ a * b ≤ 99980001 := by
  have h := mu_b (a := a) (b := b) (M := 9999) (N := 9999) (by omega) (by omega)
  omega
/-- how a / b and c / d stand -/
def od_c (x y : Int) : Int32 := if x < y then -1 else if y < x then 1 else 0
theorem od_X {post : Int32 → Prop} {t b : Nat → Int32} {i j : Nat} (hi : i < 4) (hj : j < 4) {T B T' B' : Int} (ht : t i = fr_i T) (hb : b i = fr_i B) (hr : st_R T B) (ht' : t j = fr_i T') (hb' : b j = fr_i B') (hr' : st_R T' B') (h : post (od_c (T * B') (T' * B))) : wpX_order post (t, b) (nI i) (nI j) := by
  unfold st_R at hr hr'
  have m1 := mu_9 (a := T) (b := B') (by omega) (by omega)
  have m2 := mu_9 (a := T') (b := B) (by omega) (by omega)
  unfold od_c at h
  unfold wpX_order
  dsimp only
  refine ⟨rg_in hi, rg_in hj, nm_r (by rw [rg_at hi t, rg_at hj b, ht, hb', fr_im]) ⟨rg_in hj, rg_in hi, nm_r (by rw [rg_at hj t, rg_at hi b, ht', hb, fr_im]) ?_⟩⟩
  refine fr_beq (T * B') (T' * B) (fun c => ?_) (fun c => fr_ble (T' * B) (T * B') (fun c2 => ?_) (fun c2 => ?_))
  · rw [if_neg (by omega), if_neg (by omega)] at h; exact h
  · rw [if_neg (by omega), if_pos (by omega)] at h; exact h
  · rw [if_pos (by omega)] at h; exact h
theorem od_Y {post : Int32 → Prop} {f : Int32} {t b c : Nat → Int32} {i j : Nat} (hi : i < 4) (hj : j < 4) {T B T' B' : Int} (ht : t i = fr_i T) (hb : b i = fr_i B) (hr : st_R T B) (ht' : t j = fr_i T') (hb' : b j = fr_i B') (hr' : st_R T' B') (h : post (od_c (T * B') (T' * B))) : wpY_compare post (f, t, b, c) (nI i) (nI j) := by
  unfold st_R at hr hr'
  have m1 := mu_9 (a := T) (b := B') (by omega) (by omega)
  have m2 := mu_9 (a := T') (b := B) (by omega) (by omega)
  unfold od_c at h
  unfold wpY_compare
  dsimp only
  refine rg_Yy hi (br_f rg_1 (rg_Yy hj (br_f rg_1 ⟨rg_in hi, rg_in hj, nm_r (by rw [rg_at hi t, rg_at hj b, ht, hb', fr_il (by omega), fr_il (by omega), fr_lm]) ⟨rg_in hj, rg_in hi, nm_r (by rw [rg_at hj t, rg_at hi b, ht', hb, fr_il (by omega), fr_il (by omega), fr_lm]) ?_⟩⟩)))
  refine fr_lble (T' * B) (T * B') (fun c => fr_lble (T * B') (T' * B) (fun c2 => ?_) (fun c2 => ?_)) (fun c => ?_)
  · rw [if_neg (by omega), if_neg (by omega)] at h; exact h
  · rw [if_neg (by omega), if_pos (by omega)] at h; exact h
  · rw [if_pos (by omega)] at h; exact h
theorem i_vc_compare {k : Nat} {u : SX} {v : SY} (I : i_Rel k u v) (hk : k + 5 ≤ 2560) (v1 : Int32) (v2 : Int32) : wpX_compare (fun r => wpY_compare (fun r' => r' = r ∧ i_Rel (k + 5) u v) v v1 v2) u v1 v2 := by
  obtain ⟨t, b, f, c, rfl, rfl, R⟩ := I
  unfold wpX_compare
  dsimp only
  rcases rg_c v1 with h | ⟨i, hi, rfl⟩
  · refine rg_Xn h (br_t rfl ?_)
    unfold wpY_compare
    dsimp only
    exact rg_Yn h (br_t rfl ⟨rfl, rl_i R⟩)
  · rcases rg_c v2 with h | ⟨j, hj, rfl⟩
    · refine rg_Xy hi (br_f rg_1 (rg_Xn h (br_t rfl ?_)))
      unfold wpY_compare
      dsimp only
      exact rg_Yy hi (br_f rg_1 (rg_Yn h (br_t rfl ⟨rfl, rl_i R⟩)))
    · obtain ⟨T, B, ht, hb, hr⟩ := R i hi
      obtain ⟨T', B', ht', hb', hr'⟩ := R j hj
      exact rg_Xy hi (br_f rg_1 (rg_Xy hj (br_f rg_1 (od_X hi hj ht hb hr ht' hb' hr' (od_Y hi hj ht hb hr ht' hb' hr' ⟨rfl, rl_i R⟩)))))
