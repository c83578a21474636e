/-! registers, chainLength, terms, store -/
theorem rg_c (v : Int32) : (v < 0 ∨ nI 4 ≤ v) ∨ ∃ j : Nat, j < 4 ∧ v = nI j := by
  rcases pk_ix v (n := 4) (by omega) with h | h | h
  · exact Or.inl (Or.inl h)
  · exact Or.inl (Or.inr h)
  · exact Or.inr h
theorem rg_Xn {post : Int32 → Prop} {v : Int32} (h : v < 0 ∨ nI 4 ≤ v) (hp : post 0) : wpX_isRegister post v := by
  unfold wpX_isRegister
  rcases h with h | h
  · exact br_t h hp
  · exact br_c (fun _ => hp) (fun _ => br_t h hp)
theorem rg_Xy {post : Int32 → Prop} {j : Nat} (h : j < 4) (hp : post 1) : wpX_isRegister post (nI j) := by
  unfold wpX_isRegister
  exact br_f (nI_pos (by omega)) (br_f (nI_ge (b := 4) h (by omega)) hp)
theorem rg_Yn {post : Int32 → Prop} {f : Int32} {t b c : Nat → Int32} {v : Int32} (h : v < 0 ∨ nI 4 ≤ v) (hp : post 0) : wpY_isRegister post (f, t, b, c) v := by
  unfold wpY_isRegister
  dsimp only
  rcases h with h | h
  · exact br_t h hp
  · exact br_c (fun _ => hp) (fun _ => br_t h hp)
theorem rg_Yy {post : Int32 → Prop} {f : Int32} {t b c : Nat → Int32} {j : Nat} (h : j < 4) (hp : post 1) : wpY_isRegister post (f, t, b, c) (nI j) := by
  unfold wpY_isRegister
  dsimp only
  exact br_f (nI_pos (by omega)) (br_f (nI_ge (b := 4) h (by omega)) hp)
theorem rg_1 : ¬ (1 : Int32) = 0 := by decide
theorem rg_in {j : Nat} (h : j < 4) : vp_in (nI j) 4 := vp_in_nI h (by omega)
theorem rg_at {j : Nat} (h : j < 4) (a : Nat → Int32) : a (nI j).toNatClampNeg = a j := by rw [nI_clamp (by omega)]
theorem rg_up {j : Nat} (h : j < 4) (a : Nat → Int32) (x : Int32) : upd a (nI j).toNatClampNeg x = upd a j x := by rw [nI_clamp (by omega)]
/-- what a register may hold -/
def st_R (T B : Int) : Prop := -9999 ≤ T ∧ T ≤ 9999 ∧ 1 ≤ B ∧ B ≤ 9999
theorem cl_X {post : Int32 → Prop} {t b : Nat → Int32} {d : Nat} (hd : d < 4) {T B : Int} (ht : t d = fr_i T) (hb : b d = fr_i B) (hr : st_R T B) (h : post (nI (ch_l 40 T B))) : wpX_chainLength post (t, b) (nI d) := by
  unfold st_R at hr
  unfold wpX_chainLength
  dsimp only
  refine ⟨rg_in hd, nm_r ((rg_at hd t).trans ht) ⟨rg_in hd, nm_r ((rg_at hd b).trans hb) ⟨41, ?_⟩⟩⟩
  exact ch_X 40 T B 0 0 41 (ch_e40 (by omega)) (by omega) (by omega) (by omega) (by omega) (by rw [Nat.zero_add]; exact h)
theorem cl_Y {post : SY → Prop} {f : Int32} {t b c : Nat → Int32} {d : Nat} (hd : d < 4) {T B : Int} (ht : t d = fr_i T) (hb : b d = fr_i B) (hr : st_R T B) (h : ∀ c' : Nat → Int32, (∀ j, j < ch_l 40 T B → c' j = fr_i (ch_t j T B)) → post (nI (ch_l 40 T B), t, b, c')) : wpY_expand post (f, t, b, c) (nI d) := by
  unfold st_R at hr
  unfold wpY_expand
  dsimp only
  refine ⟨rg_in hd, nm_r ((rg_at hd t).trans ht) ⟨rg_in hd, nm_r ((rg_at hd b).trans hb) ⟨41, ?_⟩⟩⟩
  refine ch_Y 40 T B 0 41 c (ch_e40 (by omega)) (by omega) (by omega) (by omega) (by omega) (fun c' _ h2 => ?_)
  rw [Nat.zero_add]
  exact h c' (fun j hj => by have e := h2 j hj; rw [Nat.zero_add] at e; exact e)
theorem tm_Y {post : Int32 → SY → Prop} {f : Int32} {t b c : Nat → Int32} {d : Nat} (hd : d < 4) {T B : Int} (ht : t d = fr_i T) (hb : b d = fr_i B) (hr : st_R T B) (h : ∀ c' : Nat → Int32, post (nI (ch_l 40 T B)) (nI (ch_l 40 T B), t, b, c')) : wpY_terms post (f, t, b, c) (nI d) := by
  unfold wpY_terms
  dsimp only
  exact rg_Yy hd (br_f rg_1 (cl_Y hd ht hb hr (fun c' _ => h c')))
/-! lowest terms -/
def st_T (p q : Int) : Int := (if q < 0 then -p else p) / (Int.gcd p q : Int)
def st_B (p q : Int) : Int := (if q < 0 then -q else q) / (Int.gcd p q : Int)
def st_F (p q : Int) : Prop := -9999 ≤ st_T p q ∧ st_T p q ≤ 9999 ∧ st_B p q ≤ 9999
theorem st_g {p q : Int} (hq : 0 < q) : 1 ≤ (Int.gcd p q : Int) ∧ (Int.gcd p q : Int) ≤ q ∧ p / (Int.gcd p q : Int) * (Int.gcd p q : Int) = p ∧ q / (Int.gcd p q : Int) * (Int.gcd p q : Int) = q ∧ 1 ≤ q / (Int.gcd p q : Int) ∧ q / (Int.gcd p q : Int) ≤ q ∧ p.tdiv (Int.gcd p q : Int) = p / (Int.gcd p q : Int) ∧ q.tdiv (Int.gcd p q : Int) = q / (Int.gcd p q : Int) := by
  have d1 : (Int.gcd p q : Int) ∣ p := Int.gcd_dvd_left ..
  have d2 : (Int.gcd p q : Int) ∣ q := Int.gcd_dvd_right ..
  have g0 : 0 < Int.gcd p q := Int.gcd_pos_of_ne_zero_right p (by omega)
  have g1 : (0 : Int) < (Int.gcd p q : Int) := by omega
  have g2 := Int.le_of_dvd hq d2
  have e2 := Int.ediv_mul_cancel d2
  refine ⟨by omega, g2, Int.ediv_mul_cancel d1, e2, (Int.le_ediv_iff_mul_le g1).mpr (by omega), Int.ediv_le_self _ (by omega), Int.tdiv_eq_ediv_of_dvd d1, Int.tdiv_eq_ediv_of_dvd d2⟩
theorem st_b {p g M : Int} (hg : 1 ≤ g) (h : p / g * g = p) (hp : -M ≤ p ∧ p ≤ M) : -M ≤ p / g ∧ p / g ≤ M := by
  have t := fr_tb (a := p) (b := g) (M := M) (by omega) hp
  by_cases h0 : 0 ≤ p
  · rw [(fr_tq p g).1 h0] at t; exact t
  · have h1 : p / g ≤ 0 := by
      rcases Int.lt_or_le 0 (p / g) with z | z
      · have := Int.mul_pos z (show 0 < g by omega)
        omega
      · exact z
    have h2 : p / g * g ≤ p / g * 1 := Int.mul_le_mul_of_nonpos_left h1 hg
    omega
/-- the numbers of a fraction in lowest terms -/
theorem st_n {p q : Int} {M : Int} (hq : q ≠ 0) (hp : -M ≤ p ∧ p ≤ M) (hM : -M ≤ q ∧ q ≤ M) : -M ≤ st_T p q ∧ st_T p q ≤ M ∧ 1 ≤ st_B p q ∧ st_B p q ≤ M := by
  unfold st_T st_B
  by_cases h : q < 0
  · rw [if_pos h, if_pos h]
    have G := st_g (p := -p) (q := -q) (by omega)
    rw [Int.neg_gcd, Int.gcd_neg] at G
    have B := st_b (M := M) G.1 G.2.2.1 (by omega)
    omega
  · rw [if_neg h, if_neg h]
    have G := st_g (p := p) (q := q) (by omega)
    have B := st_b (M := M) G.1 G.2.2.1 (by omega)
    omega
theorem st_fit {p q : Int} (hq : q ≠ 0) (hp : -9999 ≤ p ∧ p ≤ 9999) (hM : -9999 ≤ q ∧ q ≤ 9999) : st_F p q := by
  have H := st_n hq hp hM
  exact ⟨H.1, H.2.1, H.2.2.2⟩
theorem st_r {p q : Int} (hq : q ≠ 0) (hp : -1000000000 ≤ p ∧ p ≤ 1000000000) (hM : -1000000000 ≤ q ∧ q ≤ 1000000000) (h : st_F p q) : st_R (st_T p q) (st_B p q) := by
  have H := st_n hq hp hM
  exact ⟨h.1, h.2.1, H.2.2.1, h.2.2⟩
/-! X's store -/
theorem fx_y {post : Int32 → Prop} {T B : Int} (h : -9999 ≤ T ∧ T ≤ 9999 ∧ B ≤ 9999) (hB : 0 ≤ B) (hp : post 1) : wpX_fits post (fr_i T) (fr_i B) := by
  unfold wpX_fits
  exact fr_blt T (-9999) (fun c => absurd c (by omega)) (fun _ => fr_blt 9999 T (fun c => absurd c (by omega)) (fun _ => fr_blt 9999 B (fun c => absurd c (by omega)) (fun _ => hp)))
theorem fx_n {post : Int32 → Prop} {T B : Int} (h : ¬ (-9999 ≤ T ∧ T ≤ 9999 ∧ B ≤ 9999)) (hT : -2147483648 ≤ T ∧ T < 2147483648) (hB : -2147483648 ≤ B ∧ B < 2147483648) (hp : post 0) : wpX_fits post (fr_i T) (fr_i B) := by
  unfold wpX_fits
  exact fr_blt T (-9999) (fun _ => hp) (fun _ => fr_blt 9999 T (fun _ => hp) (fun _ => fr_blt 9999 B (fun _ => hp) (fun _ => absurd (show -9999 ≤ T ∧ T ≤ 9999 ∧ B ≤ 9999 by omega) h)))
theorem st_X16 {post : Int32 → SX → Prop} {t b : Nat → Int32} {d : Nat} {x2 x3 z0 : Int32} {p q : Int} (hp : -1000000000 ≤ p ∧ p ≤ 1000000000) (hq : 0 < q ∧ q ≤ 1000000000) (e2 : z0 * x2 = fr_i p) (e3 : z0 * x3 = fr_i q) (h : wX_store_59 post (nI d) (fr_i (p / (Int.gcd p q : Int))) (fr_i (q / (Int.gcd p q : Int))) t b) : wX_store_16 post (nI d) x2 x3 z0 t b := by
  have G := st_g (p := p) hq.1
  unfold wX_store_16
  refine nm_r e2 (nm_r e3 (gd_cX (by omega) (by omega) (fr_ble (Int.gcd p q : Int) 1 (fun c => ?_) (fun c => ⟨fr_ine (by omega) (by omega), nm_r (fr_id (by omega) (by omega)) ⟨fr_ine (by omega) (by omega), nm_r (fr_id (by omega) (by omega)) ?_⟩⟩))))
  · have e : (Int.gcd p q : Int) = 1 := by omega
    rw [e, Int.ediv_one, Int.ediv_one] at h
    exact h
  · rw [G.2.2.2.2.2.2.1, G.2.2.2.2.2.2.2]
    exact h
theorem st_X {post : Int32 → SX → Prop} {t b : Nat → Int32} {d : Nat} {p q : Int} (hq : q ≠ 0) (hp : -1000000000 ≤ p ∧ p ≤ 1000000000) (hM : -1000000000 ≤ q ∧ q ≤ 1000000000) (h : wX_store_59 post (nI d) (fr_i (st_T p q)) (fr_i (st_B p q)) t b) : wpX_store post (t, b) (nI d) (fr_i p) (fr_i q) := by
  unfold st_T st_B at h
  unfold wpX_store
  dsimp only
  refine br_f (fr_ine hq (by omega)) (fr_ble 0 q (fun c => ?_) (fun c => ?_))
  · rw [if_neg (by omega), if_neg (by omega)] at h
    exact st_X16 (by omega) (by omega) (by rw [show (1 : Int32) = fr_i 1 from rfl, fr_im, Int.one_mul]) (by rw [show (1 : Int32) = fr_i 1 from rfl, fr_im, Int.one_mul]) h
  · rw [if_pos (by omega), if_pos (by omega)] at h
    refine st_X16 (p := -p) (q := -q) (by omega) (by omega) (by rw [show (-1 : Int32) = fr_i (-1) from rfl, fr_im, Int.neg_one_mul]) (by rw [show (-1 : Int32) = fr_i (-1) from rfl, fr_im, Int.neg_one_mul]) ?_
    rw [Int.neg_gcd, Int.gcd_neg]
    exact h
theorem st_X0 {post : Int32 → SX → Prop} {t b : Nat → Int32} {d x : Int32} (h : post (-1000001) (t, b)) : wpX_store post (t, b) d x 0 := by
  unfold wpX_store
  dsimp only
  exact br_t rfl h
theorem st_Xy {post : Int32 → SX → Prop} {t b : Nat → Int32} {d : Nat} (hd : d < 4) {p q : Int} (hq : q ≠ 0) (hp : -1000000000 ≤ p ∧ p ≤ 1000000000) (hM : -1000000000 ≤ q ∧ q ≤ 1000000000) (hF : st_F p q) (h : post (nI (ch_l 40 (st_T p q) (st_B p q))) (upd t d (fr_i (st_T p q)), upd b d (fr_i (st_B p q)))) : wpX_store post (t, b) (nI d) (fr_i p) (fr_i q) := by
  have H := st_n hq hp hM
  refine st_X hq hp hM ?_
  unfold wX_store_59
  exact fx_y hF (by omega) (br_f rg_1 ⟨rg_in hd, nm_r (rg_up hd t _) ⟨rg_in hd, nm_r (rg_up hd b _) (cl_X hd pk_us pk_us (st_r hq hp hM hF) h)⟩⟩)
theorem st_Xn {post : Int32 → SX → Prop} {t b : Nat → Int32} {d : Nat} {p q : Int} (hq : q ≠ 0) (hp : -1000000000 ≤ p ∧ p ≤ 1000000000) (hM : -1000000000 ≤ q ∧ q ≤ 1000000000) (hF : ¬ st_F p q) (h : post (-1000002) (t, b)) : wpX_store post (t, b) (nI d) (fr_i p) (fr_i q) := by
  have H := st_n hq hp hM
  refine st_X hq hp hM ?_
  unfold wX_store_59
  exact fx_n hF (by omega) (by omega) (br_t rfl h)
/-! the reference's store -/
theorem st_Y32 {post : Int32 → SY → Prop} {f : Int32} {t b c : Nat → Int32} {d : Nat} (hd : d < 4) {p q : Int} (hp : -1000000000 ≤ p ∧ p ≤ 1000000000) (hq : 0 < q ∧ q ≤ 1000000000) (hy : (-9999 ≤ p / (Int.gcd p q : Int) ∧ p / (Int.gcd p q : Int) ≤ 9999 ∧ q / (Int.gcd p q : Int) ≤ 9999) → post 1 (f, upd t d (fr_i (p / (Int.gcd p q : Int))), upd b d (fr_i (q / (Int.gcd p q : Int))), c)) (hn : ¬ (-9999 ≤ p / (Int.gcd p q : Int) ∧ p / (Int.gcd p q : Int) ≤ 9999 ∧ q / (Int.gcd p q : Int) ≤ 9999) → post 0 (f, t, b, c)) : wY_store_32 post (nI d) (fr_l p) (fr_l q) f t b c := by
  have G := st_g (p := p) hq.1
  have P := st_b (M := 1000000000) G.1 G.2.2.1 hp
  unfold wY_store_32
  refine gd_cY (by omega) (by omega) ⟨fr_lne (by omega) (by omega), nm_r (fr_ld (by omega) (by omega)) ⟨fr_lne (by omega) (by omega), nm_r (fr_ld (by omega) (by omega)) ?_⟩⟩
  rw [G.2.2.2.2.2.2.1, G.2.2.2.2.2.2.2]
  refine fr_lblt (p / (Int.gcd p q : Int)) (-9999) (fun c => hn (by omega)) (fun c1 => fr_lblt 9999 (p / (Int.gcd p q : Int)) (fun c => hn (by omega)) (fun c2 => fr_lble (q / (Int.gcd p q : Int)) 9999 (fun c3 => ⟨rg_in hd, nm_r ?_ ⟨rg_in hd, nm_r ?_ (hy (by omega))⟩⟩) (fun c => hn (by omega))))
  · rw [rg_up hd, fr_li (by omega)]
  · rw [rg_up hd, fr_li (by omega)]
theorem st_Y {post : Int32 → SY → Prop} {f : Int32} {t b c : Nat → Int32} {d : Nat} (hd : d < 4) {p q : Int} (hq : q ≠ 0) (hp : -1000000000 ≤ p ∧ p ≤ 1000000000) (hM : -1000000000 ≤ q ∧ q ≤ 1000000000) (hy : st_F p q → post 1 (f, upd t d (fr_i (st_T p q)), upd b d (fr_i (st_B p q)), c)) (hn : ¬ st_F p q → post 0 (f, t, b, c)) : wpY_store post (f, t, b, c) (nI d) (fr_l p) (fr_l q) := by
  unfold st_F st_T st_B at hy hn
  unfold wpY_store
  dsimp only
  refine fr_lble 0 q (fun c => ?_) (fun c => ?_)
  · rw [if_neg (by omega), if_neg (by omega)] at hy hn
    exact fr_lble 0 q (fun _ => st_Y32 hd hp (by omega) hy hn) (fun c => absurd c (by omega))
  · rw [if_pos (by omega), if_pos (by omega)] at hy hn
    refine fr_lble 0 q (fun c => absurd c (by omega)) (fun _ => ?_)
    rw [show (0 : Int64) = fr_l 0 from rfl, fr_ls, fr_ls, Int.zero_sub, Int.zero_sub]
    refine st_Y32 (p := -p) (q := -q) hd (by omega) (by omega) ?_ ?_
    · rw [Int.neg_gcd, Int.gcd_neg]; exact hy
    · rw [Int.neg_gcd, Int.gcd_neg]; exact hn
theorem st_Yy {post : Int32 → SY → Prop} {f : Int32} {t b c : Nat → Int32} {d : Nat} (hd : d < 4) {p q : Int} (hq : q ≠ 0) (hp : -1000000000 ≤ p ∧ p ≤ 1000000000) (hM : -1000000000 ≤ q ∧ q ≤ 1000000000) (hF : st_F p q) (h : post 1 (f, upd t d (fr_i (st_T p q)), upd b d (fr_i (st_B p q)), c)) : wpY_store post (f, t, b, c) (nI d) (fr_l p) (fr_l q) :=
  st_Y hd hq hp hM (fun _ => h) (fun n => absurd hF n)
theorem st_Yn {post : Int32 → SY → Prop} {f : Int32} {t b c : Nat → Int32} {d : Nat} (hd : d < 4) {p q : Int} (hq : q ≠ 0) (hp : -1000000000 ≤ p ∧ p ≤ 1000000000) (hM : -1000000000 ≤ q ∧ q ≤ 1000000000) (hF : ¬ st_F p q) (h : post 0 (f, t, b, c)) : wpY_store post (f, t, b, c) (nI d) (fr_l p) (fr_l q) :=
  st_Y hd hq hp hM (fun n => absurd n hF) (fun _ => h)
