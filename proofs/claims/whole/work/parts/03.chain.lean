/-! the chain of p / q: its length (by k steps at most), its terms, the values of its beginnings -/
def ch_l : Nat → Int → Int → Nat
  | 0, _, _ => 0
  | k + 1, p, q => if q ≤ 0 then 0 else ch_l k q (p % q) + 1
def ch_e : Nat → Int → Int → Prop
  | 0, _, q => q = 0
  | k + 1, p, q => q = 0 ∨ (0 < q ∧ ch_e k q (p % q))
def ch_t : Nat → Int → Int → Int
  | 0, p, q => p / q
  | j + 1, p, q => ch_t j q (p % q)
def ch_v : Nat → Int → Int → Int × Int
  | 0, _, _ => (1, 0)
  | r + 1, p, q => (p / q * (ch_v r q (p % q)).1 + (ch_v r q (p % q)).2, (ch_v r q (p % q)).1)
theorem ch_l0 (k : Nat) (p : Int) : ch_l k p 0 = 0 := by
  cases k with
  | zero => rfl
  | succ k => exact if_pos (Int.le_refl 0)
theorem ch_ls {k : Nat} {p q : Int} (hq : 0 < q) : ch_l (k + 1) p q = ch_l k q (p % q) + 1 := if_neg (by omega)
theorem ch_le : ∀ (k : Nat) (p q : Int), ch_l k p q ≤ k := by
  intro k
  induction k with
  | zero => intro p q; exact Nat.le_refl 0
  | succ k ih =>
    intro p q
    show (if q ≤ 0 then 0 else ch_l k q (p % q) + 1) ≤ k + 1
    have := ih q (p % q)
    split <;> omega
/-- the walk ends: the product halves -/
theorem ch_end : ∀ (k : Nat) (a b : Nat), b ≤ a → a * b < 2 ^ k → ch_e k a b := by
  intro k
  induction k with
  | zero =>
    intro a b hab h
    show (b : Int) = 0
    cases b with
    | zero => rfl
    | succ b =>
      have := Nat.mul_le_mul hab (Nat.le_refl (b + 1))
      have h1 : (b + 1) * (b + 1) = b * b + b + b + 1 := by grind
      omega
  | succ k ih =>
    intro a b hab h
    by_cases hb : b = 0
    · exact Or.inl (by omega)
    · have h1 := Nat.mod_lt a (show 0 < b by omega)
      refine Or.inr ⟨by omega, ?_⟩
      have e := ih b (a % b) (by omega) (gd_half (by omega) hab h)
      rw [Int.natCast_emod] at e
      exact e
theorem ch_e40 {p q : Int} (hq : 1 ≤ q ∧ q ≤ 9999) : ch_e 40 p q := by
  have hm := fr_dm (p := p) (q := q) (by omega)
  refine Or.inr ⟨by omega, ?_⟩
  obtain ⟨a, rfl⟩ : ∃ a : Nat, q = (a : Int) := ⟨q.toNat, by omega⟩
  obtain ⟨b, hb⟩ : ∃ b : Nat, p % (a : Int) = (b : Int) := ⟨(p % (a : Int)).toNat, by omega⟩
  rw [hb]
  refine ch_end 39 a b (by omega) ?_
  have h1 : a * b ≤ 9999 * 9999 := Nat.mul_le_mul (by omega) (by omega)
  have h2 : 9999 * 9999 < 2 ^ 39 := by decide
  omega
/-- one step of the walk, in ints -/
theorem ch_st {p q : Int} (hq : 0 < q) : fr_i p - fr_i (p / q) * fr_i q = fr_i (p % q) := by
  rw [fr_im, fr_is, (fr_dm (p := p) hq).2.2.1]
/-- chainLength's loop -/
theorem ch_X {post : Int32 → Prop} {t b : Nat → Int32} : ∀ (k : Nat) (p q : Int) (m s n : Nat), ch_e k p q → -1000000 ≤ p ∧ p ≤ 1000000 → q ≤ 1000000 → k < n → s + k ≤ 1000 → post (nI (m + ch_l k p q)) → wX_chainLength_20 post t b n (fr_i p) (fr_i q) (nI m) (nI s) := by
  intro k
  induction k with
  | zero =>
    intro p q m s n he hp hq hn hs h
    obtain ⟨n, rfl⟩ : ∃ i, n = i + 1 := ⟨n - 1, by omega⟩
    have he : q = 0 := he
    subst he
    exact br_c (fun _ => h) (fun _ => br_t (by decide) h)
  | succ k ih =>
    intro p q m s n he hp hq hn hs h
    obtain ⟨n, rfl⟩ : ∃ i, n = i + 1 := ⟨n - 1, by omega⟩
    rcases he with he | ⟨h0, he⟩
    · subst he
      rw [ch_l0] at h
      exact br_c (fun _ => h) (fun _ => br_t (by decide) h)
    · have hm := fr_dm (p := p) h0
      rw [ch_ls h0] at h
      refine pk_le 1000 s (fun c => absurd c (by omega)) (fun _ => fr_ble q 0 (fun c => absurd c (by omega)) (fun _ => fr_fX (by omega) (by omega) (nm_r (ch_st h0) (nm_r (nI_1 m) (nm_r (nI_1 s) ?_)))))
      exact ih q (p % q) (m + 1) (s + 1) n he (by omega) (by omega) (by omega) (by omega) (by rw [Nat.add_assoc, Nat.add_comm 1]; exact h)
/-- expand's loop -/
theorem ch_Y {post : SY → Prop} {t b : Nat → Int32} : ∀ (k : Nat) (p q : Int) (m n : Nat) (c : Nat → Int32), ch_e k p q → -1000000 ≤ p ∧ p ≤ 1000000 → q ≤ 1000000 → k < n → m + k ≤ 64 → (∀ c' : Nat → Int32, (∀ j, j < m → c' j = c j) → (∀ j, j < ch_l k p q → c' (m + j) = fr_i (ch_t j p q)) → post (nI (m + ch_l k p q), t, b, c')) → wY_expand_19 post n (fr_i p) (fr_i q) (nI m) t b c := by
  intro k
  induction k with
  | zero =>
    intro p q m n c he hp hq hn hs h
    obtain ⟨n, rfl⟩ : ∃ i, n = i + 1 := ⟨n - 1, by omega⟩
    have he : q = 0 := he
    subst he
    exact br_t rfl (h c (fun _ _ => rfl) (fun j hj => absurd hj (Nat.not_lt_zero j)))
  | succ k ih =>
    intro p q m n c he hp hq hn hs h
    obtain ⟨n, rfl⟩ : ∃ i, n = i + 1 := ⟨n - 1, by omega⟩
    rcases he with he | ⟨h0, he⟩
    · subst he
      rw [ch_l0] at h
      exact br_t rfl (h c (fun _ _ => rfl) (fun j hj => absurd hj (Nat.not_lt_zero j)))
    · have hm := fr_dm (p := p) h0
      rw [ch_ls h0] at h
      refine br_f (fr_ine (by omega) (by omega)) (pk_le 64 m (fun c => absurd c (by omega)) (fun _ => fr_fY (by omega) (by omega) ⟨vp_in_nI (by omega) (by omega), nm_r (by rw [nI_clamp (by omega)]) (nm_r (nI_1 m) (nm_r (ch_st h0) ?_))⟩))
      refine ih q (p % q) (m + 1) n (upd c m (fr_i (p / q))) he (by omega) (by omega) (by omega) (by omega) (fun c' h1 h2 => ?_)
      rw [Nat.add_assoc, Nat.add_comm 1]
      refine h c' (fun j hj => ?_) (fun j hj => ?_)
      · rw [h1 j (by omega), pk_un (by omega)]
      · cases j with
        | zero => rw [h1 (m + 0) (by omega)]; exact pk_us
        | succ j =>
          have e := h2 j (by omega)
          rw [Nat.add_assoc, Nat.add_comm 1] at e
          exact e
/-- term's loop -/
theorem ch_Xt {post : Int32 → Prop} {t b : Nat → Int32} {i : Nat} (hi : i < 2 ^ 31) : ∀ (k : Nat) (p q : Int) (r s n : Nat), ch_e k p q → -1000000 ≤ p ∧ p ≤ 1000000 → q ≤ 1000000 → k < n → s + r = i → (r < ch_l k p q → post (fr_i (ch_t r p q))) → (ch_l k p q ≤ r → post (-1000001)) → wX_term_35 post (nI i) t b n (fr_i p) (fr_i q) (nI s) := by
  intro k
  induction k with
  | zero =>
    intro p q r s n he hp hq hn hs h1 h2
    obtain ⟨n, rfl⟩ : ∃ i, n = i + 1 := ⟨n - 1, by omega⟩
    have he : q = 0 := he
    subst he
    have z : wX_term_72 post (fr_i p) (fr_i 0) t b := br_t (by decide) (h2 (Nat.zero_le r))
    exact br_c (fun _ => z) (fun _ => br_t (by decide) z)
  | succ k ih =>
    intro p q r s n he hp hq hn hs h1 h2
    obtain ⟨n, rfl⟩ : ∃ i, n = i + 1 := ⟨n - 1, by omega⟩
    rcases he with he | ⟨h0, he⟩
    · subst he
      rw [ch_l0] at h2
      have z : wX_term_72 post (fr_i p) (fr_i 0) t b := br_t (by decide) (h2 (Nat.zero_le r))
      exact br_c (fun _ => z) (fun _ => br_t (by decide) z)
    · have hm := fr_dm (p := p) h0
      rw [ch_ls h0] at h1 h2
      refine pk_le i s (fun c => ?_) (fun c => fr_ble q 0 (fun c => absurd c (by omega)) (fun _ => fr_fX (by omega) (by omega) (nm_r (ch_st h0) (nm_r (nI_1 s) ?_))))
      · obtain rfl : r = 0 := by omega
        exact fr_ble q 0 (fun c => absurd c (by omega)) (fun _ => fr_fX (by omega) (by omega) (h1 (by omega)))
      · obtain ⟨r, rfl⟩ : ∃ x, r = x + 1 := ⟨r - 1, by omega⟩
        exact ih q (p % q) r (s + 1) n he (by omega) (by omega) (by omega) (by omega) (fun c => h1 (by omega)) (fun c => h2 (by omega))
/-- cut's loop in X -/
theorem ch_Xc {post : Int32 → SX → Prop} {x1 : Int32} {t b : Nat → Int32} {i : Nat} (hi : i < 2 ^ 31) : ∀ (k : Nat) (p q : Int) (r s n : Nat) (A B C D : Int), ch_e k p q → -1000000 ≤ p ∧ p ≤ 1000000 → q ≤ 1000000 → k < n → s + r = i → wX_cut_133 post x1 (fr_i (A * (ch_v (min r (ch_l k p q)) p q).1 + C * (ch_v (min r (ch_l k p q)) p q).2)) (fr_i (B * (ch_v (min r (ch_l k p q)) p q).1 + D * (ch_v (min r (ch_l k p q)) p q).2)) t b → wX_cut_53 post x1 (nI i) t b n (fr_i p) (fr_i q) (fr_i A) (fr_i B) (fr_i C) (fr_i D) (nI s) := by
  intro k
  induction k with
  | zero =>
    intro p q r s n A B C D he hp hq hn hs h
    obtain ⟨n, rfl⟩ : ∃ i, n = i + 1 := ⟨n - 1, by omega⟩
    have he : q = 0 := he
    subst he
    rw [show min r (ch_l 0 p 0) = 0 from Nat.min_eq_right (Nat.zero_le r)] at h
    have z : wX_cut_133 post x1 (fr_i A) (fr_i B) t b := by
      have e : ∀ x y : Int, x * (ch_v 0 p 0).1 + y * (ch_v 0 p 0).2 = x := fun x y => by show x * 1 + y * 0 = x; omega
      rw [e, e] at h
      exact h
    exact br_c (fun _ => z) (fun _ => br_t (by decide) z)
  | succ k ih =>
    intro p q r s n A B C D he hp hq hn hs h
    obtain ⟨n, rfl⟩ : ∃ i, n = i + 1 := ⟨n - 1, by omega⟩
    have z0 : min r (ch_l (k + 1) p q) = 0 → wX_cut_133 post x1 (fr_i A) (fr_i B) t b := by
      intro m0
      rw [m0] at h
      have e : ∀ x y : Int, x * (ch_v 0 p q).1 + y * (ch_v 0 p q).2 = x := fun x y => by show x * 1 + y * 0 = x; omega
      rw [e, e] at h
      exact h
    rcases he with he | ⟨h0, he⟩
    · subst he
      have z := z0 (by rw [ch_l0]; omega)
      exact br_c (fun _ => z) (fun _ => br_t (by decide) z)
    · have hm := fr_dm (p := p) h0
      refine pk_le i s (fun c => z0 (by omega)) (fun c => fr_ble q 0 (fun c => absurd c (by omega)) (fun _ => fr_fX (by omega) (by omega) (nm_r (ch_st h0) (nm_r (by rw [fr_im, fr_ia]) (nm_r (by rw [fr_im, fr_ia]) (nm_r (nI_1 s) ?_))))))
      obtain ⟨r, rfl⟩ : ∃ x, r = x + 1 := ⟨r - 1, by omega⟩
      refine ih q (p % q) r (s + 1) n _ _ A B he (by omega) (by omega) (by omega) (by omega) ?_
      rw [ch_ls h0, show min (r + 1) (ch_l k q (p % q) + 1) = min r (ch_l k q (p % q)) + 1 by omega] at h
      have e : ∀ x y : Int, x * (ch_v (min r (ch_l k q (p % q)) + 1) p q).1 + y * (ch_v (min r (ch_l k q (p % q)) + 1) p q).2 = (p / q * x + y) * (ch_v (min r (ch_l k q (p % q))) q (p % q)).1 + x * (ch_v (min r (ch_l k q (p % q))) q (p % q)).2 := by
        intro x y
        show x * (p / q * (ch_v (min r (ch_l k q (p % q))) q (p % q)).1 + (ch_v (min r (ch_l k q (p % q))) q (p % q)).2) + y * (ch_v (min r (ch_l k q (p % q))) q (p % q)).1 = _
        generalize (ch_v (min r (ch_l k q (p % q))) q (p % q)).1 = V
        generalize (ch_v (min r (ch_l k q (p % q))) q (p % q)).2 = W
        generalize p / q = w
        grind
      rw [e, e] at h
      exact h
/-- the terms are small -/
theorem ch_tb : ∀ (k j : Nat) (p q : Int), j < ch_l k p q → -1000000 ≤ p ∧ p ≤ 1000000 → q ≤ 1000000 → -1000000 ≤ ch_t j p q ∧ ch_t j p q ≤ 1000000 := by
  intro k
  induction k with
  | zero => intro j p q hj; exact absurd hj (Nat.not_lt_zero j)
  | succ k ih =>
    intro j p q hj hp hq
    by_cases h0 : 0 < q
    · have hm := fr_dm (p := p) h0
      rw [ch_ls h0] at hj
      cases j with
      | zero =>
        show -1000000 ≤ p / q ∧ p / q ≤ 1000000
        refine ⟨(Int.le_ediv_iff_mul_le h0).mpr ?_, Int.le_of_lt_add_one ((Int.ediv_lt_iff_lt_mul h0).mpr ?_)⟩ <;> omega
      | succ j => exact ih j q (p % q) (by omega) (by omega) (by omega)
    · have e : ch_l (k + 1) p q = 0 := if_pos (by omega)
      omega
/-- the reference's cut goes from the last term to the first -/
def ch_b (a : Nat → Int) : Nat → Int → Int → Int × Int
  | 0, P, Q => (P, Q)
  | j + 1, P, Q => ch_b a j (a j * P + Q) P
theorem ch_bf : ∀ (j : Nat) (a : Nat → Int) (P Q : Int), ch_b a (j + 1) P Q = (a 0 * (ch_b (fun i => a (i + 1)) j P Q).1 + (ch_b (fun i => a (i + 1)) j P Q).2, (ch_b (fun i => a (i + 1)) j P Q).1) := by
  intro j
  induction j with
  | zero => intro a P Q; rfl
  | succ j ih => intro a P Q; exact ih a (a (j + 1) * P + Q) P
theorem ch_bv : ∀ (L : Nat) (p q : Int), ch_b (fun i => ch_t i p q) L 1 0 = ch_v L p q := by
  intro L
  induction L with
  | zero => intro p q; rfl
  | succ L ih =>
    intro p q
    rw [ch_bf]
    show (p / q * (ch_b (fun i => ch_t i q (p % q)) L 1 0).1 + (ch_b (fun i => ch_t i q (p % q)) L 1 0).2, (ch_b (fun i => ch_t i q (p % q)) L 1 0).1) = _
    rw [ih q (p % q)]
    rfl
/-- the beginnings' values are small -/
theorem ch_vb : ∀ (k r : Nat) (p q : Int), r ≤ ch_l k p q → 0 ≤ q → q < p → 1 ≤ (ch_v r p q).1 ∧ (ch_v r p q).1 ≤ p ∧ 0 ≤ (ch_v r p q).2 ∧ (ch_v r p q).2 ≤ q ∧ (ch_v r p q).2 ≤ (ch_v r p q).1 ∧ (ch_v r p q).1 - (ch_v r p q).2 ≤ p - q := by
  intro k
  induction k with
  | zero =>
    intro r p q hr h0 h1
    obtain rfl : r = 0 := Nat.le_zero.mp hr
    show 1 ≤ (1 : Int) ∧ (1 : Int) ≤ p ∧ 0 ≤ (0 : Int) ∧ (0 : Int) ≤ q ∧ (0 : Int) ≤ (1 : Int) ∧ (1 : Int) - 0 ≤ p - q
    omega
  | succ k ih =>
    intro r p q hr h0 h1
    cases r with
    | zero =>
      show 1 ≤ (1 : Int) ∧ (1 : Int) ≤ p ∧ 0 ≤ (0 : Int) ∧ (0 : Int) ≤ q ∧ (0 : Int) ≤ (1 : Int) ∧ (1 : Int) - 0 ≤ p - q
      omega
    | succ r =>
      by_cases hq : 0 < q
      · have hm := fr_dm (p := p) hq
        rw [ch_ls hq] at hr
        have H := ih r q (p % q) (by omega) (by omega) (by omega)
        show 1 ≤ p / q * (ch_v r q (p % q)).1 + (ch_v r q (p % q)).2 ∧ p / q * (ch_v r q (p % q)).1 + (ch_v r q (p % q)).2 ≤ p ∧ 0 ≤ (ch_v r q (p % q)).1 ∧ (ch_v r q (p % q)).1 ≤ q ∧ (ch_v r q (p % q)).1 ≤ p / q * (ch_v r q (p % q)).1 + (ch_v r q (p % q)).2 ∧ p / q * (ch_v r q (p % q)).1 + (ch_v r q (p % q)).2 - (ch_v r q (p % q)).1 ≤ p - q
        have hw : 1 ≤ p / q := (Int.le_ediv_iff_mul_le hq).mpr (by omega)
        generalize (ch_v r q (p % q)).1 = V at H ⊢
        generalize (ch_v r q (p % q)).2 = W at H ⊢
        have e1 : V ≤ p / q * V := by
          have := Int.mul_le_mul_of_nonneg_right hw (show 0 ≤ V by omega)
          omega
        have e2 : (p / q - 1) * V ≤ (p / q - 1) * q := Int.mul_le_mul_of_nonneg_left H.2.1 (by omega)
        rw [Int.sub_mul, Int.sub_mul, Int.one_mul, Int.one_mul] at e2
        omega
      · have e : ch_l (k + 1) p q = 0 := if_pos (by omega)
        omega
/-- the value of a beginning of a register's chain fits -/
theorem ch_vf {p q : Int} {r : Nat} (hp : -9999 ≤ p ∧ p ≤ 9999) (hq : 1 ≤ q ∧ q ≤ 9999) (h1 : 1 ≤ r) (hr : r ≤ ch_l 40 p q) : -9999 ≤ (ch_v r p q).1 ∧ (ch_v r p q).1 ≤ 9999 ∧ 1 ≤ (ch_v r p q).2 ∧ (ch_v r p q).2 ≤ 9999 := by
  have h0 : 0 < q := by omega
  have hm := fr_dm (p := p) h0
  rw [ch_ls h0] at hr
  obtain ⟨r, rfl⟩ : ∃ x, r = x + 1 := ⟨r - 1, by omega⟩
  have H := ch_vb 39 r q (p % q) (by omega) (by omega) (by omega)
  show -9999 ≤ p / q * (ch_v r q (p % q)).1 + (ch_v r q (p % q)).2 ∧ p / q * (ch_v r q (p % q)).1 + (ch_v r q (p % q)).2 ≤ 9999 ∧ 1 ≤ (ch_v r q (p % q)).1 ∧ (ch_v r q (p % q)).1 ≤ 9999
  generalize (ch_v r q (p % q)).1 = V at H ⊢
  generalize (ch_v r q (p % q)).2 = W at H ⊢
  by_cases hw : 0 ≤ p / q
  · have e1 : 0 ≤ p / q * V := Int.mul_nonneg hw (by omega)
    have e2 : p / q * V ≤ p / q * q := Int.mul_le_mul_of_nonneg_left H.2.1 hw
    omega
  · have e1 : (-(p / q) - 1) * V ≤ (-(p / q) - 1) * q := Int.mul_le_mul_of_nonneg_left H.2.1 (by omega)
    have e2 : 0 ≤ (-(p / q) - 1) * V := Int.mul_nonneg (by omega) (by omega)
    rw [Int.sub_mul, Int.sub_mul, Int.one_mul, Int.one_mul, Int.neg_mul, Int.neg_mul] at e1
    rw [Int.sub_mul, Int.one_mul, Int.neg_mul] at e2
    omega
