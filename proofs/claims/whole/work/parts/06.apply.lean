/-! apply: the reference's walk to its store, one theorem an operation -/
theorem ap_195n {post : Int32 → SY → Prop} {x2 : Int32} {f : Int32} {t b c : Nat → Int32} (h : post (-1000002) (f, t, b, c)) : wY_apply_195 post x2 0 f t b c := by
  unfold wY_apply_195
  exact br_t rfl h
theorem ap_195y {post : Int32 → SY → Prop} {f : Int32} {t b c : Nat → Int32} {d : Nat} (hd : d < 4) {T B : Int} (ht : t d = fr_i T) (hb : b d = fr_i B) (hr : st_R T B) (h : ∀ c' : Nat → Int32, post (nI (ch_l 40 T B)) (nI (ch_l 40 T B), t, b, c')) : wY_apply_195 post (nI d) 1 f t b c := by
  unfold wY_apply_195
  exact br_f rg_1 (tm_Y hd ht hb hr h)
theorem ap_173 {post : Int32 → SY → Prop} {x1 x2 : Int32} {x5 x7 x9 x11 : Int64} {r : Int32} {f : Int32} {t b c : Nat → Int32} (h3 : ¬ x1 = 3) (h : wY_apply_195 post x2 r f t b c) : wY_apply_173 post x1 x2 x5 x7 x9 x11 r f t b c := by
  unfold wY_apply_173
  exact br_f h3 h
theorem ap_151 {post : Int32 → SY → Prop} {x1 x2 : Int32} {x5 x7 x9 x11 : Int64} {r : Int32} {f : Int32} {t b c : Nat → Int32} (h2 : ¬ x1 = 2) (h : wY_apply_173 post x1 x2 x5 x7 x9 x11 r f t b c) : wY_apply_151 post x1 x2 x5 x7 x9 x11 r f t b c := by
  unfold wY_apply_151
  exact br_f h2 h
theorem ap_123 {post : Int32 → SY → Prop} {x1 x2 : Int32} {x5 x7 x9 x11 : Int64} {r : Int32} {f : Int32} {t b c : Nat → Int32} (h1 : ¬ x1 = 1) (h : wY_apply_151 post x1 x2 x5 x7 x9 x11 r f t b c) : wY_apply_123 post x1 x2 x5 x7 x9 x11 r f t b c := by
  unfold wY_apply_123
  exact br_f h1 h
/-- X's store, then whatever the reference does -/
theorem ap_X {post : Int32 → SX → Prop} {t b : Nat → Int32} {d : Nat} (hd : d < 4) {P Q : Int} (hP : -1000000000 ≤ P ∧ P ≤ 1000000000) (hQ : -1000000000 ≤ Q ∧ Q ≤ 1000000000) (h0 : Q = 0 → post (-1000001) (t, b)) (hy : Q ≠ 0 → st_F P Q → post (nI (ch_l 40 (st_T P Q) (st_B P Q))) (upd t d (fr_i (st_T P Q)), upd b d (fr_i (st_B P Q)))) (hn : Q ≠ 0 → ¬ st_F P Q → post (-1000002) (t, b)) : wpX_store post (t, b) (nI d) (fr_i P) (fr_i Q) := by
  by_cases q0 : Q = 0
  · subst q0
    exact st_X0 (h0 rfl)
  · by_cases hF : st_F P Q
    · exact st_Xy hd q0 hP hQ hF (hy q0 hF)
    · exact st_Xn q0 hP hQ hF (hn q0 hF)
/-- the reference's store, then apply's end -/
theorem ap_Y {post : Int32 → SY → Prop} {f : Int32} {t b c : Nat → Int32} {d : Nat} (hd : d < 4) {P Q : Int} (hP : -1000000000 ≤ P ∧ P ≤ 1000000000) (hQ : -1000000000 ≤ Q ∧ Q ≤ 1000000000) (q0 : Q ≠ 0) {K : Int32 → SY → Prop} (hK : ∀ r f t b c, wY_apply_195 post (nI d) r f t b c → K r (f, t, b, c)) (hy : st_F P Q → ∀ c' : Nat → Int32, post (nI (ch_l 40 (st_T P Q) (st_B P Q))) (nI (ch_l 40 (st_T P Q) (st_B P Q)), upd t d (fr_i (st_T P Q)), upd b d (fr_i (st_B P Q)), c')) (hn : ¬ st_F P Q → post (-1000002) (f, t, b, c)) : wpY_store K (f, t, b, c) (nI d) (fr_l P) (fr_l Q) :=
  st_Y hd q0 hP hQ (fun hF => hK _ _ _ _ _ (ap_195y hd pk_us pk_us (st_r q0 hP hQ hF) (hy hF))) (fun hF => hK _ _ _ _ _ (ap_195n (hn hF)))
theorem ap_Y0 {post : Int32 → SY → Prop} {f : Int32} {t b c : Nat → Int32} {d i j : Nat} (hd : d < 4) (hi : i < 4) (hj : j < 4) {T B T' B' : Int} (ht : t i = fr_i T) (hb : b i = fr_i B) (hr : st_R T B) (ht' : t j = fr_i T') (hb' : b j = fr_i B') (hr' : st_R T' B') (hP : -1000000000 ≤ T * B' + T' * B ∧ T * B' + T' * B ≤ 1000000000) (hQ : -1000000000 ≤ B * B' ∧ B * B' ≤ 1000000000) (q0 : B * B' ≠ 0) (hy : st_F (T * B' + T' * B) (B * B') → ∀ c' : Nat → Int32, post (nI (ch_l 40 (st_T (T * B' + T' * B) (B * B')) (st_B (T * B' + T' * B) (B * B')))) (nI (ch_l 40 (st_T (T * B' + T' * B) (B * B')) (st_B (T * B' + T' * B) (B * B'))), upd t d (fr_i (st_T (T * B' + T' * B) (B * B'))), upd b d (fr_i (st_B (T * B' + T' * B) (B * B'))), c')) (hn : ¬ st_F (T * B' + T' * B) (B * B') → post (-1000002) (f, t, b, c)) : wY_apply_55 post 0 (nI d) (nI i) (nI j) f t b c := by
  unfold st_R at hr hr'
  unfold wY_apply_55
  refine ⟨rg_in hi, nm_r (by rw [rg_at hi t, ht, fr_il (by omega)]) ⟨rg_in hi, nm_r (by rw [rg_at hi b, hb, fr_il (by omega)]) ⟨rg_in hj, nm_r (by rw [rg_at hj t, ht', fr_il (by omega)]) ⟨rg_in hj, nm_r (by rw [rg_at hj b, hb', fr_il (by omega)]) ?_⟩⟩⟩⟩
  refine br_t rfl ?_
  rw [fr_lm, fr_lm, fr_lm, fr_la]
  exact ap_Y hd hP hQ q0 (fun r f t b c z => ap_123 (by decide) (ap_151 (by decide) (ap_173 (by decide) z))) hy hn
theorem ap_Y1 {post : Int32 → SY → Prop} {f : Int32} {t b c : Nat → Int32} {d i j : Nat} (hd : d < 4) (hi : i < 4) (hj : j < 4) {T B T' B' : Int} (ht : t i = fr_i T) (hb : b i = fr_i B) (hr : st_R T B) (ht' : t j = fr_i T') (hb' : b j = fr_i B') (hr' : st_R T' B') (hP : -1000000000 ≤ T * B' - T' * B ∧ T * B' - T' * B ≤ 1000000000) (hQ : -1000000000 ≤ B * B' ∧ B * B' ≤ 1000000000) (q0 : B * B' ≠ 0) (hy : st_F (T * B' - T' * B) (B * B') → ∀ c' : Nat → Int32, post (nI (ch_l 40 (st_T (T * B' - T' * B) (B * B')) (st_B (T * B' - T' * B) (B * B')))) (nI (ch_l 40 (st_T (T * B' - T' * B) (B * B')) (st_B (T * B' - T' * B) (B * B'))), upd t d (fr_i (st_T (T * B' - T' * B) (B * B'))), upd b d (fr_i (st_B (T * B' - T' * B) (B * B'))), c')) (hn : ¬ st_F (T * B' - T' * B) (B * B') → post (-1000002) (f, t, b, c)) : wY_apply_55 post 1 (nI d) (nI i) (nI j) f t b c := by
  unfold st_R at hr hr'
  unfold wY_apply_55
  refine ⟨rg_in hi, nm_r (by rw [rg_at hi t, ht, fr_il (by omega)]) ⟨rg_in hi, nm_r (by rw [rg_at hi b, hb, fr_il (by omega)]) ⟨rg_in hj, nm_r (by rw [rg_at hj t, ht', fr_il (by omega)]) ⟨rg_in hj, nm_r (by rw [rg_at hj b, hb', fr_il (by omega)]) ?_⟩⟩⟩⟩
  refine br_f (by decide) ?_
  unfold wY_apply_123
  refine br_t rfl ?_
  rw [fr_lm, fr_lm, fr_lm, fr_ls]
  exact ap_Y hd hP hQ q0 (fun r f t b c z => ap_151 (by decide) (ap_173 (by decide) z)) hy hn
theorem ap_Y2 {post : Int32 → SY → Prop} {f : Int32} {t b c : Nat → Int32} {d i j : Nat} (hd : d < 4) (hi : i < 4) (hj : j < 4) {T B T' B' : Int} (ht : t i = fr_i T) (hb : b i = fr_i B) (hr : st_R T B) (ht' : t j = fr_i T') (hb' : b j = fr_i B') (hr' : st_R T' B') (hP : -1000000000 ≤ T * T' ∧ T * T' ≤ 1000000000) (hQ : -1000000000 ≤ B * B' ∧ B * B' ≤ 1000000000) (q0 : B * B' ≠ 0) (hy : st_F (T * T') (B * B') → ∀ c' : Nat → Int32, post (nI (ch_l 40 (st_T (T * T') (B * B')) (st_B (T * T') (B * B')))) (nI (ch_l 40 (st_T (T * T') (B * B')) (st_B (T * T') (B * B'))), upd t d (fr_i (st_T (T * T') (B * B'))), upd b d (fr_i (st_B (T * T') (B * B'))), c')) (hn : ¬ st_F (T * T') (B * B') → post (-1000002) (f, t, b, c)) : wY_apply_55 post 2 (nI d) (nI i) (nI j) f t b c := by
  unfold st_R at hr hr'
  unfold wY_apply_55
  refine ⟨rg_in hi, nm_r (by rw [rg_at hi t, ht, fr_il (by omega)]) ⟨rg_in hi, nm_r (by rw [rg_at hi b, hb, fr_il (by omega)]) ⟨rg_in hj, nm_r (by rw [rg_at hj t, ht', fr_il (by omega)]) ⟨rg_in hj, nm_r (by rw [rg_at hj b, hb', fr_il (by omega)]) ?_⟩⟩⟩⟩
  refine br_f (by decide) (ap_123 (by decide) ?_)
  unfold wY_apply_151
  refine br_t rfl ?_
  rw [fr_lm, fr_lm]
  exact ap_Y hd hP hQ q0 (fun r f t b c z => ap_173 (by decide) z) hy hn
theorem ap_Y3 {post : Int32 → SY → Prop} {f : Int32} {t b c : Nat → Int32} {d i j : Nat} (hd : d < 4) (hi : i < 4) (hj : j < 4) {T B T' B' : Int} (ht : t i = fr_i T) (hb : b i = fr_i B) (hr : st_R T B) (ht' : t j = fr_i T') (hb' : b j = fr_i B') (hr' : st_R T' B') (hP : -1000000000 ≤ T * B' ∧ T * B' ≤ 1000000000) (hQ : -1000000000 ≤ B * T' ∧ B * T' ≤ 1000000000) (q0 : B * T' ≠ 0) (hy : st_F (T * B') (B * T') → ∀ c' : Nat → Int32, post (nI (ch_l 40 (st_T (T * B') (B * T')) (st_B (T * B') (B * T')))) (nI (ch_l 40 (st_T (T * B') (B * T')) (st_B (T * B') (B * T'))), upd t d (fr_i (st_T (T * B') (B * T'))), upd b d (fr_i (st_B (T * B') (B * T'))), c')) (hn : ¬ st_F (T * B') (B * T') → post (-1000002) (f, t, b, c)) : wY_apply_55 post 3 (nI d) (nI i) (nI j) f t b c := by
  unfold st_R at hr hr'
  unfold wY_apply_55
  refine ⟨rg_in hi, nm_r (by rw [rg_at hi t, ht, fr_il (by omega)]) ⟨rg_in hi, nm_r (by rw [rg_at hi b, hb, fr_il (by omega)]) ⟨rg_in hj, nm_r (by rw [rg_at hj t, ht', fr_il (by omega)]) ⟨rg_in hj, nm_r (by rw [rg_at hj b, hb', fr_il (by omega)]) ?_⟩⟩⟩⟩
  refine br_f (by decide) (ap_123 (by decide) (ap_151 (by decide) ?_))
  unfold wY_apply_173
  refine br_t rfl ?_
  rw [fr_lm, fr_lm]
  exact ap_Y hd hP hQ q0 (fun r f t b c z => z) hy hn
/-! refusals: each call of isRegister that says no -/
theorem ap_Yb {post : Int32 → SY → Prop} {f : Int32} {t b c : Nat → Int32} {v1 v2 v3 v4 : Int32} (g : ¬ (∃ o d i j : Nat, o < 4 ∧ d < 4 ∧ i < 4 ∧ j < 4 ∧ v1 = nI o ∧ v2 = nI d ∧ v3 = nI i ∧ v4 = nI j)) (h : post (-1000000) (f, t, b, c)) : wpY_apply post (f, t, b, c) v1 v2 v3 v4 := by
  unfold wpY_apply
  dsimp only
  refine br_c (fun _ => h) (fun n0 => br_c (fun _ => h) (fun n3 => ?_))
  rcases rg_c v2 with h2 | ⟨d, hd, rfl⟩
  · exact rg_Yn h2 (br_t rfl h)
  · rcases rg_c v3 with h3 | ⟨i, hi, rfl⟩
    · exact rg_Yy hd (br_f rg_1 (rg_Yn h3 (br_t rfl h)))
    · rcases rg_c v4 with h4 | ⟨j, hj, rfl⟩
      · exact rg_Yy hd (br_f rg_1 (rg_Yy hi (br_f rg_1 (rg_Yn h4 (br_t rfl h)))))
      · obtain ⟨o, ho, rfl⟩ := nI_of n0
        have z : ¬ 3 < o := fun z => n3 (nI_lt (a := 3) z ho)
        exact absurd ⟨o, d, i, j, by omega, hd, hi, hj, rfl, rfl, rfl, rfl⟩ g
theorem ap_Xb {post : Int32 → SX → Prop} {t b : Nat → Int32} {v1 v2 v3 v4 : Int32} (g : ¬ (∃ o d i j : Nat, o < 4 ∧ d < 4 ∧ i < 4 ∧ j < 4 ∧ v1 = nI o ∧ v2 = nI d ∧ v3 = nI i ∧ v4 = nI j)) (h : post (-1000000) (t, b)) : wpX_apply post (t, b) v1 v2 v3 v4 := by
  unfold wpX_apply
  dsimp only
  refine br_c (fun _ => h) (fun n0 => br_c (fun _ => h) (fun n3 => ?_))
  rcases rg_c v2 with h2 | ⟨d, hd, rfl⟩
  · exact rg_Xn h2 (br_t rfl h)
  · rcases rg_c v3 with h3 | ⟨i, hi, rfl⟩
    · exact rg_Xy hd (br_f rg_1 (rg_Xn h3 (br_t rfl h)))
    · rcases rg_c v4 with h4 | ⟨j, hj, rfl⟩
      · exact rg_Xy hd (br_f rg_1 (rg_Xy hi (br_f rg_1 (rg_Xn h4 (br_t rfl h)))))
      · obtain ⟨o, ho, rfl⟩ := nI_of n0
        have z : ¬ 3 < o := fun z => n3 (nI_lt (a := 3) z ho)
        exact absurd ⟨o, d, i, j, by omega, hd, hi, hj, rfl, rfl, rfl, rfl⟩ g
theorem ap_X0 {post : Int32 → SX → Prop} {t b : Nat → Int32} {d i j : Nat} (hd : d < 4) (hi : i < 4) (hj : j < 4) {T B T' B' : Int} (ht : t i = fr_i T) (hb : b i = fr_i B) (hr : st_R T B) (ht' : t j = fr_i T') (hb' : b j = fr_i B') (hr' : st_R T' B') (h : wpX_store post (t, b) (nI d) (fr_i (T * B' + T' * B)) (fr_i (B * B'))) : wpX_apply post (t, b) 0 (nI d) (nI i) (nI j) := by
  unfold wpX_apply
  dsimp only
  refine br_f (by decide) (br_f (by decide) (rg_Xy hd (br_f rg_1 (rg_Xy hi (br_f rg_1 (rg_Xy hj (br_f rg_1 ?_)))))))
  refine ⟨rg_in hi, nm_r ((rg_at hi t).trans ht) ⟨rg_in hi, nm_r ((rg_at hi b).trans hb) ⟨rg_in hj, nm_r ((rg_at hj t).trans ht') ⟨rg_in hj, nm_r ((rg_at hj b).trans hb') ?_⟩⟩⟩⟩
  refine br_f (by decide) (br_f (by decide) (br_t rfl ?_))
  rw [fr_im, fr_im, fr_im, fr_ia]
  exact h
theorem ap_X1 {post : Int32 → SX → Prop} {t b : Nat → Int32} {d i j : Nat} (hd : d < 4) (hi : i < 4) (hj : j < 4) {T B T' B' : Int} (ht : t i = fr_i T) (hb : b i = fr_i B) (hr : st_R T B) (ht' : t j = fr_i T') (hb' : b j = fr_i B') (hr' : st_R T' B') (h : wpX_store post (t, b) (nI d) (fr_i (T * B' - T' * B)) (fr_i (B * B'))) : wpX_apply post (t, b) 1 (nI d) (nI i) (nI j) := by
  unfold wpX_apply
  dsimp only
  refine br_f (by decide) (br_f (by decide) (rg_Xy hd (br_f rg_1 (rg_Xy hi (br_f rg_1 (rg_Xy hj (br_f rg_1 ?_)))))))
  refine ⟨rg_in hi, nm_r ((rg_at hi t).trans ht) ⟨rg_in hi, nm_r ((rg_at hi b).trans hb) ⟨rg_in hj, nm_r ((rg_at hj t).trans ht') ⟨rg_in hj, nm_r ((rg_at hj b).trans hb') ?_⟩⟩⟩⟩
  refine br_f (by decide) (br_f (by decide) (br_f (by decide) (br_t rfl ?_)))
  rw [fr_im, fr_im, fr_im, fr_is]
  exact h
theorem ap_X2 {post : Int32 → SX → Prop} {t b : Nat → Int32} {d i j : Nat} (hd : d < 4) (hi : i < 4) (hj : j < 4) {T B T' B' : Int} (ht : t i = fr_i T) (hb : b i = fr_i B) (hr : st_R T B) (ht' : t j = fr_i T') (hb' : b j = fr_i B') (hr' : st_R T' B') (h : wpX_store post (t, b) (nI d) (fr_i (T * T')) (fr_i (B * B'))) : wpX_apply post (t, b) 2 (nI d) (nI i) (nI j) := by
  unfold wpX_apply
  dsimp only
  refine br_f (by decide) (br_f (by decide) (rg_Xy hd (br_f rg_1 (rg_Xy hi (br_f rg_1 (rg_Xy hj (br_f rg_1 ?_)))))))
  refine ⟨rg_in hi, nm_r ((rg_at hi t).trans ht) ⟨rg_in hi, nm_r ((rg_at hi b).trans hb) ⟨rg_in hj, nm_r ((rg_at hj t).trans ht') ⟨rg_in hj, nm_r ((rg_at hj b).trans hb') ?_⟩⟩⟩⟩
  refine br_f (by decide) (br_f (by decide) (br_f (by decide) (br_f (by decide) (br_t rfl ?_))))
  rw [fr_im, fr_im]
  exact h
theorem ap_X3 {post : Int32 → SX → Prop} {t b : Nat → Int32} {d i j : Nat} (hd : d < 4) (hi : i < 4) (hj : j < 4) {T B T' B' : Int} (ht : t i = fr_i T) (hb : b i = fr_i B) (hr : st_R T B) (ht' : t j = fr_i T') (hb' : b j = fr_i B') (hr' : st_R T' B') (h : wpX_store post (t, b) (nI d) (fr_i (T * B')) (fr_i (B * T'))) : wpX_apply post (t, b) 3 (nI d) (nI i) (nI j) := by
  unfold wpX_apply
  dsimp only
  refine br_f (by decide) (br_f (by decide) (rg_Xy hd (br_f rg_1 (rg_Xy hi (br_f rg_1 (rg_Xy hj (br_f rg_1 ?_)))))))
  refine ⟨rg_in hi, nm_r ((rg_at hi t).trans ht) ⟨rg_in hi, nm_r ((rg_at hi b).trans hb) ⟨rg_in hj, nm_r ((rg_at hj t).trans ht') ⟨rg_in hj, nm_r ((rg_at hj b).trans hb') ?_⟩⟩⟩⟩
  refine br_f (by decide) (br_t (by decide) ?_)
  rw [fr_im, fr_im]
  exact h
theorem ap_Yr {post : Int32 → SY → Prop} {f : Int32} {t b c : Nat → Int32} {x : Int32} {d i j : Nat} (hd : d < 4) (hi : i < 4) (hj : j < 4) (h0 : ¬ x < 0) (h3 : ¬ 3 < x) (hn : x = 3 → t j = 0 → post (-1000001) (f, t, b, c)) (hy : (x = 3 → ¬ t j = 0) → wY_apply_55 post x (nI d) (nI i) (nI j) f t b c) : wpY_apply post (f, t, b, c) x (nI d) (nI i) (nI j) := by
  unfold wpY_apply
  dsimp only
  refine br_f h0 (br_f h3 (rg_Yy hd (br_f rg_1 (rg_Yy hi (br_f rg_1 (rg_Yy hj (br_f rg_1 ?_)))))))
  rw [rg_at hj t]
  exact br_c (fun e => ⟨rg_in hj, br_c (fun z => hn e z) (fun z => hy (fun _ => z))⟩) (fun e => hy (fun z => absurd z e))
theorem ap_m0 {k : Nat} {f : Int32} {t b c : Nat → Int32} (R : rl_R t b) {d i j : Nat} (hd : d < 4) (hi : i < 4) (hj : j < 4) : wpX_apply (fun r u' => wpY_apply (fun r' v' => r' = r ∧ i_Rel (k + 5) u' v') (f, t, b, c) 0 (nI d) (nI i) (nI j)) (t, b) 0 (nI d) (nI i) (nI j) := by
  obtain ⟨T, B, ht, hb, hr⟩ := R i hi
  obtain ⟨T', B', ht', hb', hr'⟩ := R j hj
  have r1 := hr
  have r2 := hr'
  unfold st_R at r1 r2
  have m1 := mu_9 (a := T) (b := B') (by omega) (by omega)
  have m2 := mu_9 (a := T') (b := B) (by omega) (by omega)
  have m3 := mu_9 (a := T) (b := T') (by omega) (by omega)
  have m4 := mu_9 (a := B) (b := B') (by omega) (by omega)
  have m5 := mu_9 (a := B) (b := T') (by omega) (by omega)
  have m6 : 0 < B * B' := Int.mul_pos (by omega) (by omega)
  have hP : -1000000000 ≤ T * B' + T' * B ∧ T * B' + T' * B ≤ 1000000000 := by omega
  have hQ : -1000000000 ≤ B * B' ∧ B * B' ≤ 1000000000 := by omega
  refine ap_X0 hd hi hj ht hb hr ht' hb' hr' (ap_X hd hP hQ (fun z => absurd z (by omega)) (fun q0 hF => ?_) (fun q0 hF => ?_))
  · exact ap_Yr hd hi hj (by decide) (by decide) (fun z => absurd z (by decide)) (fun _ => ap_Y0 hd hi hj ht hb hr ht' hb' hr' hP hQ q0 (fun _ c' => ⟨rfl, rl_i (rl_u R (st_r q0 hP hQ hF))⟩) (fun n => absurd hF n))
  · exact ap_Yr hd hi hj (by decide) (by decide) (fun z => absurd z (by decide)) (fun _ => ap_Y0 hd hi hj ht hb hr ht' hb' hr' hP hQ q0 (fun n => absurd n hF) (fun _ => ⟨rfl, rl_i R⟩))
theorem ap_m1 {k : Nat} {f : Int32} {t b c : Nat → Int32} (R : rl_R t b) {d i j : Nat} (hd : d < 4) (hi : i < 4) (hj : j < 4) : wpX_apply (fun r u' => wpY_apply (fun r' v' => r' = r ∧ i_Rel (k + 5) u' v') (f, t, b, c) 1 (nI d) (nI i) (nI j)) (t, b) 1 (nI d) (nI i) (nI j) := by
  obtain ⟨T, B, ht, hb, hr⟩ := R i hi
  obtain ⟨T', B', ht', hb', hr'⟩ := R j hj
  have r1 := hr
  have r2 := hr'
  unfold st_R at r1 r2
  have m1 := mu_9 (a := T) (b := B') (by omega) (by omega)
  have m2 := mu_9 (a := T') (b := B) (by omega) (by omega)
  have m3 := mu_9 (a := T) (b := T') (by omega) (by omega)
  have m4 := mu_9 (a := B) (b := B') (by omega) (by omega)
  have m5 := mu_9 (a := B) (b := T') (by omega) (by omega)
  have m6 : 0 < B * B' := Int.mul_pos (by omega) (by omega)
  have hP : -1000000000 ≤ T * B' - T' * B ∧ T * B' - T' * B ≤ 1000000000 := by omega
  have hQ : -1000000000 ≤ B * B' ∧ B * B' ≤ 1000000000 := by omega
  refine ap_X1 hd hi hj ht hb hr ht' hb' hr' (ap_X hd hP hQ (fun z => absurd z (by omega)) (fun q0 hF => ?_) (fun q0 hF => ?_))
  · exact ap_Yr hd hi hj (by decide) (by decide) (fun z => absurd z (by decide)) (fun _ => ap_Y1 hd hi hj ht hb hr ht' hb' hr' hP hQ q0 (fun _ c' => ⟨rfl, rl_i (rl_u R (st_r q0 hP hQ hF))⟩) (fun n => absurd hF n))
  · exact ap_Yr hd hi hj (by decide) (by decide) (fun z => absurd z (by decide)) (fun _ => ap_Y1 hd hi hj ht hb hr ht' hb' hr' hP hQ q0 (fun n => absurd n hF) (fun _ => ⟨rfl, rl_i R⟩))
theorem ap_m2 {k : Nat} {f : Int32} {t b c : Nat → Int32} (R : rl_R t b) {d i j : Nat} (hd : d < 4) (hi : i < 4) (hj : j < 4) : wpX_apply (fun r u' => wpY_apply (fun r' v' => r' = r ∧ i_Rel (k + 5) u' v') (f, t, b, c) 2 (nI d) (nI i) (nI j)) (t, b) 2 (nI d) (nI i) (nI j) := by
  obtain ⟨T, B, ht, hb, hr⟩ := R i hi
  obtain ⟨T', B', ht', hb', hr'⟩ := R j hj
  have r1 := hr
  have r2 := hr'
  unfold st_R at r1 r2
  have m1 := mu_9 (a := T) (b := B') (by omega) (by omega)
  have m2 := mu_9 (a := T') (b := B) (by omega) (by omega)
  have m3 := mu_9 (a := T) (b := T') (by omega) (by omega)
  have m4 := mu_9 (a := B) (b := B') (by omega) (by omega)
  have m5 := mu_9 (a := B) (b := T') (by omega) (by omega)
  have m6 : 0 < B * B' := Int.mul_pos (by omega) (by omega)
  have hP : -1000000000 ≤ T * T' ∧ T * T' ≤ 1000000000 := by omega
  have hQ : -1000000000 ≤ B * B' ∧ B * B' ≤ 1000000000 := by omega
  refine ap_X2 hd hi hj ht hb hr ht' hb' hr' (ap_X hd hP hQ (fun z => absurd z (by omega)) (fun q0 hF => ?_) (fun q0 hF => ?_))
  · exact ap_Yr hd hi hj (by decide) (by decide) (fun z => absurd z (by decide)) (fun _ => ap_Y2 hd hi hj ht hb hr ht' hb' hr' hP hQ q0 (fun _ c' => ⟨rfl, rl_i (rl_u R (st_r q0 hP hQ hF))⟩) (fun n => absurd hF n))
  · exact ap_Yr hd hi hj (by decide) (by decide) (fun z => absurd z (by decide)) (fun _ => ap_Y2 hd hi hj ht hb hr ht' hb' hr' hP hQ q0 (fun n => absurd n hF) (fun _ => ⟨rfl, rl_i R⟩))
theorem ap_m3 {k : Nat} {f : Int32} {t b c : Nat → Int32} (R : rl_R t b) {d i j : Nat} (hd : d < 4) (hi : i < 4) (hj : j < 4) : wpX_apply (fun r u' => wpY_apply (fun r' v' => r' = r ∧ i_Rel (k + 5) u' v') (f, t, b, c) 3 (nI d) (nI i) (nI j)) (t, b) 3 (nI d) (nI i) (nI j) := by
  obtain ⟨T, B, ht, hb, hr⟩ := R i hi
  obtain ⟨T', B', ht', hb', hr'⟩ := R j hj
  have r1 := hr
  have r2 := hr'
  unfold st_R at r1 r2
  have m1 := mu_9 (a := T) (b := B') (by omega) (by omega)
  have m2 := mu_9 (a := T') (b := B) (by omega) (by omega)
  have m3 := mu_9 (a := T) (b := T') (by omega) (by omega)
  have m4 := mu_9 (a := B) (b := B') (by omega) (by omega)
  have m5 := mu_9 (a := B) (b := T') (by omega) (by omega)
  have m6 : 0 < B * B' := Int.mul_pos (by omega) (by omega)
  have hP : -1000000000 ≤ T * B' ∧ T * B' ≤ 1000000000 := by omega
  have hQ : -1000000000 ≤ B * T' ∧ B * T' ≤ 1000000000 := by omega
  have z0 : B * T' = 0 ↔ t j = 0 := by
    rw [ht']
    constructor
    · intro z
      rcases Int.mul_eq_zero.mp z with z | z
      · omega
      · rw [z]; rfl
    · intro z
      by_cases e : T' = 0
      · rw [e, Int.mul_zero]
      · exact absurd z (fr_ine e (by omega))
  refine ap_X3 hd hi hj ht hb hr ht' hb' hr' (ap_X hd hP hQ (fun z => ?_) (fun q0 hF => ?_) (fun q0 hF => ?_))
  · exact ap_Yr hd hi hj (by decide) (by decide) (fun _ _ => ⟨rfl, rl_i R⟩) (fun n => absurd (z0.mp z) (n rfl))
  · exact ap_Yr hd hi hj (by decide) (by decide) (fun _ z => absurd (z0.mpr z) q0) (fun _ => ap_Y3 hd hi hj ht hb hr ht' hb' hr' hP hQ q0 (fun _ c' => ⟨rfl, rl_i (rl_u R (st_r q0 hP hQ hF))⟩) (fun n => absurd hF n))
  · exact ap_Yr hd hi hj (by decide) (by decide) (fun _ z => absurd (z0.mpr z) q0) (fun _ => ap_Y3 hd hi hj ht hb hr ht' hb' hr' hP hQ q0 (fun n => absurd n hF) (fun _ => ⟨rfl, rl_i R⟩))
theorem i_vc_apply {k : Nat} {u : SX} {v : SY} (I : i_Rel k u v) (hk : k + 5 ≤ 2560) (v1 : Int32) (v2 : Int32) (v3 : Int32) (v4 : Int32) : wpX_apply (fun r u' => wpY_apply (fun r' v' => r' = r ∧ i_Rel (k + 5) u' v') v v1 v2 v3 v4) u v1 v2 v3 v4 := by
  obtain ⟨t, b, f, c, rfl, rfl, R⟩ := I
  by_cases g : ∃ o d i j : Nat, o < 4 ∧ d < 4 ∧ i < 4 ∧ j < 4 ∧ v1 = nI o ∧ v2 = nI d ∧ v3 = nI i ∧ v4 = nI j
  · obtain ⟨o, d, i, j, ho, hd, hi, hj, rfl, rfl, rfl, rfl⟩ := g
    obtain rfl | rfl | rfl | rfl : o = 0 ∨ o = 1 ∨ o = 2 ∨ o = 3 := by omega
    · exact ap_m0 R hd hi hj
    · exact ap_m1 R hd hi hj
    · exact ap_m2 R hd hi hj
    · exact ap_m3 R hd hi hj
  · exact ap_Xb g (ap_Yb g ⟨rfl, rl_i R⟩)
