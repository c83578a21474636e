/-! cut -/
/-- the reference's loop, from the last term to the first -/
theorem ct_Y {post : Int32 → SY → Prop} {x1 : Int32} {f : Int32} {t b c : Nat → Int32} {a : Nat → Int} {N : Nat} (hN : N ≤ 64) (hc : ∀ j, j < N → c j = fr_i (a j)) (ha : ∀ j, j < N → -1000000 ≤ a j ∧ a j ≤ 1000000) : ∀ (j n : Nat) (P Q : Int), j ≤ N → j < n → wpY_store (fun r_24 u => match u with | (f_25, t_26, b_27, c_28) => (wpY_terms (fun r_29 u => match u with | (f_30, t_31, b_32, c_33) => (post r_29 (f_30, t_31, b_32, c_33))) (f_25, t_26, b_27, c_28) x1)) (f, t, b, c) x1 (fr_l (ch_b a j P Q).1) (fr_l (ch_b a j P Q).2) → wY_cut_68 post x1 f t b c n (fr_l P) (fr_l Q) (fr_i ((j : Int) - 1)) := by
  intro j
  induction j with
  | zero =>
    intro n P Q hj hn h
    obtain ⟨n, rfl⟩ : ∃ i, n = i + 1 := ⟨n - 1, by omega⟩
    exact br_t (by decide) h
  | succ j ih =>
    intro n P Q hj hn h
    obtain ⟨n, rfl⟩ : ∃ i, n = i + 1 := ⟨n - 1, by omega⟩
    have e : fr_i (((j + 1 : Nat) : Int) - 1) = nI j := by
      rw [fr_nI]
      exact congrArg fr_i (by omega)
    rw [e]
    have hA := ha j (by omega)
    refine br_f (nI_pos (by omega)) ⟨vp_in_nI (by omega) (by omega), nm_r ?_ (nm_r ?_ (ih n (a j * P + Q) P (by omega) (by omega) h))⟩
    · rw [nI_clamp (by omega), hc j (by omega), fr_il (by omega), fr_lm, fr_la]
    · rw [fr_nI, show (-1 : Int32) = fr_i (-1) from rfl, fr_ia]
      exact congrArg fr_i (by omega)
theorem ct_Y45 {post : Int32 → SY → Prop} {f : Int32} {t b c : Nat → Int32} {d : Nat} {T B : Int} (hr : st_R T B) (hc : ∀ j, j < ch_l 40 T B → c j = fr_i (ch_t j T B)) {L : Nat} (h1 : 1 ≤ L) (hL : L ≤ ch_l 40 T B) (h : wpY_store (fun r_24 u => match u with | (f_25, t_26, b_27, c_28) => (wpY_terms (fun r_29 u => match u with | (f_30, t_31, b_32, c_33) => (post r_29 (f_30, t_31, b_32, c_33))) (f_25, t_26, b_27, c_28) (nI d))) (f, t, b, c) (nI d) (fr_l (ch_v L T B).1) (fr_l (ch_v L T B).2)) : wY_cut_45 post (nI d) (nI L) f t b c := by
  unfold st_R at hr
  have hl := te_l (T := T) (B := B)
  obtain ⟨j, rfl⟩ : ∃ j, L = j + 1 := ⟨L - 1, by omega⟩
  have hA := ch_tb 40 j T B (by omega) (by omega) (by omega)
  unfold wY_cut_45
  rw [nI_pred]
  refine ⟨vp_in_nI (by omega) (by omega), nm_r ?_ (nm_r ?_ ⟨j + 1, ct_Y (a := fun i => ch_t i T B) (N := ch_l 40 T B) (by omega) hc (fun i hi => ch_tb 40 i T B hi (by omega) (by omega)) j (j + 1) (ch_t j T B * 1 + 0) 1 (by omega) (by omega) ?_⟩)⟩
  · rw [nI_clamp (by omega), hc j (by omega), fr_il (by omega)]
    exact congrArg fr_l (by omega)
  · rw [fr_nI]
    refine (fr_is ((j + 1 : Nat) : Int) 2).trans (congrArg fr_i (by omega))
  · have e : ch_b (fun i => ch_t i T B) j (ch_t j T B * 1 + 0) 1 = ch_v (j + 1) T B := ch_bv (j + 1) T B
    rw [e]
    exact h
theorem ct_Xr {post : Int32 → SX → Prop} {t b : Nat → Int32} {v1 v2 v3 : Int32} (g : ¬ ∃ d i n : Nat, d < 4 ∧ i < 4 ∧ 1 ≤ n ∧ n < 2 ^ 31 ∧ v1 = nI d ∧ v2 = nI i ∧ v3 = nI n) (h : post (-1000000) (t, b)) : wpX_cut post (t, b) v1 v2 v3 := by
  unfold wpX_cut
  dsimp only
  rcases rg_c v1 with h1 | ⟨d, hd, rfl⟩
  · exact rg_Xn h1 (br_t rfl h)
  · rcases rg_c v2 with h2 | ⟨i, hi, rfl⟩
    · exact rg_Xy hd (br_f rg_1 (rg_Xn h2 (br_t rfl h)))
    · refine rg_Xy hd (br_f rg_1 (rg_Xy hi (br_f rg_1 (br_c (fun z => ?_) (fun _ => h)))))
      obtain ⟨n, hn, rfl⟩ := nI_of (x := v3) (Int32.not_lt.mpr (Int32.le_trans (by decide) z))
      have := (nI_leI (a := 1) (by omega) hn).mp z
      exact absurd ⟨d, i, n, hd, hi, this, hn, rfl, rfl, rfl⟩ g
theorem ct_Yr {post : Int32 → SY → Prop} {f : Int32} {t b c : Nat → Int32} {v1 v2 v3 : Int32} (g : ¬ ∃ d i n : Nat, d < 4 ∧ i < 4 ∧ 1 ≤ n ∧ n < 2 ^ 31 ∧ v1 = nI d ∧ v2 = nI i ∧ v3 = nI n) (h : post (-1000000) (f, t, b, c)) : wpY_cut post (f, t, b, c) v1 v2 v3 := by
  unfold wpY_cut
  dsimp only
  rcases rg_c v1 with h1 | ⟨d, hd, rfl⟩
  · exact rg_Yn h1 (br_t rfl h)
  · rcases rg_c v2 with h2 | ⟨i, hi, rfl⟩
    · exact rg_Yy hd (br_f rg_1 (rg_Yn h2 (br_t rfl h)))
    · refine rg_Yy hd (br_f rg_1 (rg_Yy hi (br_f rg_1 (br_c (fun z => ?_) (fun _ => h)))))
      obtain ⟨n, hn, rfl⟩ := nI_of (x := v3) (Int32.not_lt.mpr (Int32.le_trans (by decide) z))
      have := (nI_leI (a := 1) (by omega) hn).mp z
      exact absurd ⟨d, i, n, hd, hi, this, hn, rfl, rfl, rfl⟩ g
theorem i_vc_cut {k : Nat} {u : SX} {v : SY} (I : i_Rel k u v) (hk : k + 5 ≤ 2560) (v1 : Int32) (v2 : Int32) (v3 : Int32) : wpX_cut (fun r u' => wpY_cut (fun r' v' => r' = r ∧ i_Rel (k + 5) u' v') v v1 v2 v3) u v1 v2 v3 := by
  obtain ⟨t, b, f, c, rfl, rfl, R⟩ := I
  by_cases g : ∃ d i n : Nat, d < 4 ∧ i < 4 ∧ 1 ≤ n ∧ n < 2 ^ 31 ∧ v1 = nI d ∧ v2 = nI i ∧ v3 = nI n
  · obtain ⟨d, i, n, hd, hi, n1, hn, rfl, rfl, rfl⟩ := g
    obtain ⟨T, B, ht, hb, hr⟩ := R i hi
    have hr' := hr
    unfold st_R at hr'
    have hl := te_l (T := T) (B := B)
    have hl1 : 1 ≤ ch_l 40 T B := by rw [ch_ls (by omega)]; omega
    have V := ch_vf (p := T) (q := B) (r := min n (ch_l 40 T B)) (by omega) (by omega) (by omega) (by omega)
    have F := st_fit (p := (ch_v (min n (ch_l 40 T B)) T B).1) (q := (ch_v (min n (ch_l 40 T B)) T B).2) (by omega) (by omega) (by omega)
    have S := st_r (p := (ch_v (min n (ch_l 40 T B)) T B).1) (q := (ch_v (min n (ch_l 40 T B)) T B).2) (by omega) (by omega) (by omega) F
    have h1n : (1 : Int32) ≤ nI n := nI_le (a := 1) n1 hn
    unfold wpX_cut
    dsimp only
    refine rg_Xy hd (br_f rg_1 (rg_Xy hi (br_f rg_1 (br_t h1n ⟨rg_in hi, nm_r ((rg_at hi t).trans ht) ⟨rg_in hi, nm_r ((rg_at hi b).trans hb) ⟨41, ?_⟩⟩⟩))))
    refine ch_Xc hn 40 T B n 0 41 1 0 0 1 (ch_e40 (by omega)) (by omega) (by omega) (by omega) (by omega) ?_
    rw [Int.one_mul, Int.zero_mul, Int.one_mul, Int.zero_mul, Int.add_zero, Int.zero_add]
    unfold wX_cut_133
    refine st_Xy hd (by omega) (by omega) (by omega) F ?_
    dsimp only
    unfold wpY_cut
    dsimp only
    refine rg_Yy hd (br_f rg_1 (rg_Yy hi (br_f rg_1 (br_t h1n (cl_Y hi ht hb hr (fun c' hc => ?_))))))
    have Z : ∀ L, min n (ch_l 40 T B) = L → wY_cut_45 (fun r' v' => r' = nI (ch_l 40 (st_T (ch_v (min n (ch_l 40 T B)) T B).1 (ch_v (min n (ch_l 40 T B)) T B).2) (st_B (ch_v (min n (ch_l 40 T B)) T B).1 (ch_v (min n (ch_l 40 T B)) T B).2)) ∧ i_Rel (k + 5) (upd t d (fr_i (st_T (ch_v (min n (ch_l 40 T B)) T B).1 (ch_v (min n (ch_l 40 T B)) T B).2)), upd b d (fr_i (st_B (ch_v (min n (ch_l 40 T B)) T B).1 (ch_v (min n (ch_l 40 T B)) T B).2))) v') (nI d) (nI L) (nI (ch_l 40 T B)) t b c' := by
      intro L eL
      rw [eL] at V F S ⊢
      refine ct_Y45 hr hc (by omega) (by omega) (st_Yy hd (by omega) (by omega) (by omega) F ?_)
      exact tm_Y hd pk_us pk_us S (fun c'' => ⟨rfl, rl_i (rl_u R S)⟩)
    exact pk_le (ch_l 40 T B) n (fun z => Z _ (by omega)) (fun z => Z _ (by omega))
  · exact ct_Xr g (ct_Yr g ⟨rfl, rl_i R⟩)
