/-! Euclid's walk for the greatest common divisor: each step halves the product -/
theorem gd_half {a b k : Nat} (hb : 0 < b) (hab : b ≤ a) (h : a * b < 2 ^ (k + 1)) : b * (a % b) < 2 ^ k := by
  have h1 := Nat.mod_lt a hb
  have h2 := Nat.div_add_mod a b
  have h3 : b * 1 ≤ b * (a / b) := Nat.mul_le_mul_left b (Nat.div_pos hab hb)
  have h4 : 2 * (a % b) ≤ a := by omega
  have h5 : b * (2 * (a % b)) ≤ b * a := Nat.mul_le_mul_left b h4
  rw [Nat.mul_comm a b, Nat.pow_succ] at h
  rw [Nat.mul_left_comm] at h5
  omega
theorem gd_rec {a b : Nat} : Nat.gcd b (a % b) = Nat.gcd a b := by
  rw [Nat.gcd_comm b (a % b), ← Nat.gcd_rec, Nat.gcd_comm]
theorem gd_X {post : Int32 → Prop} : ∀ (k a b s n : Nat), b ≤ a → a * b < 2 ^ k → k < n → s + k ≤ 1000 → a < 2 ^ 31 → post (nI (Nat.gcd a b)) → wX_commonDivisor_16 post n (nI a) (nI b) (nI s) := by
  intro k
  induction k with
  | zero =>
    intro a b s n hab hk hn hs ha hp
    have hb : b = 0 := by
      cases b with
      | zero => rfl
      | succ b =>
        have := Nat.mul_le_mul hab (Nat.le_refl (b + 1))
        have h1 : (b + 1) * (b + 1) = b * b + b + b + 1 := by grind
        omega
    subst hb
    rw [Nat.gcd_zero_right] at hp
    obtain ⟨m, rfl⟩ : ∃ m, n = m + 1 := ⟨n - 1, by omega⟩
    exact br_c (fun _ => hp) (fun _ => br_t (nI_le (b := 0) (Nat.le_refl 0) (by omega)) hp)
  | succ k ih =>
    intro a b s n hab hk hn hs ha hp
    obtain ⟨m, rfl⟩ : ∃ m, n = m + 1 := ⟨n - 1, by omega⟩
    by_cases hb : b = 0
    · subst hb
      rw [Nat.gcd_zero_right] at hp
      exact br_c (fun _ => hp) (fun _ => br_t (nI_le (b := 0) (Nat.le_refl 0) (by omega)) hp)
    · refine pk_le 1000 s (fun c => absurd c (by omega)) (fun _ => br_f (nI_nle (by omega) (by omega)) ⟨nI_ne0 (by omega) (by omega), nm_r (pk_rem ha (by omega) (by omega)) (nm_r (nI_1 s) ?_)⟩)
      have h1 := Nat.mod_lt a (show 0 < b by omega)
      exact ih b (a % b) (s + 1) m (by omega) (gd_half (by omega) hab hk) (by omega) (by omega) (by omega) (by rw [gd_rec]; exact hp)
theorem gd_2 {a b : Nat} (ha : a < 2 ^ 31) (hb : b < 2 ^ 31) : a * b < 2 ^ 62 := by
  have := Nat.mul_le_mul (show a ≤ 2 ^ 31 - 1 by omega) (show b ≤ 2 ^ 31 - 1 by omega)
  have e : (2 ^ 31 - 1) * (2 ^ 31 - 1) < 2 ^ 62 := by decide
  omega
theorem gd_X0 {post : Int32 → Prop} {a b : Nat} (ha : a < 2 ^ 31) (h0 : 0 < a) (hb : b < 2 ^ 31) (hp : post (nI (Nat.gcd a b))) : wX_commonDivisor_16 post 65 (nI a) (nI b) 0 := by
  by_cases hab : b ≤ a
  · exact gd_X 62 a b 0 65 hab (gd_2 ha hb) (by omega) (by omega) ha hp
  · refine br_f (nI_ge (a := 0) (b := 1000) (by omega) (by omega)) (br_f (nI_nle (by omega) (by omega)) ⟨nI_ne0 (by omega) (by omega), nm_r (pk_rem ha (by omega) (by omega)) (nm_r (nI_1 0) ?_)⟩)
    rw [Nat.mod_eq_of_lt (by omega)]
    exact gd_X 62 b a 1 64 (by omega) (gd_2 hb ha) (by omega) (by omega) hb (by rw [Nat.gcd_comm]; exact hp)
theorem gd_Y {post : Int64 → Prop} {f : Int32} {t b c : Nat → Int32} : ∀ (k x y n : Nat), y ≤ x → x * y < 2 ^ k → k < n → x < 2 ^ 63 → post (lN (Nat.gcd x y)) → wY_common_18 post f t b c n (lN y) (lN x) := by
  intro k
  induction k with
  | zero =>
    intro x y n hab hk hn ha hp
    have hb : y = 0 := by
      cases y with
      | zero => rfl
      | succ b =>
        have := Nat.mul_le_mul hab (Nat.le_refl (b + 1))
        have h1 : (b + 1) * (b + 1) = b * b + b + b + 1 := by grind
        omega
    subst hb
    rw [Nat.gcd_zero_right] at hp
    obtain ⟨m, rfl⟩ : ∃ m, n = m + 1 := ⟨n - 1, by omega⟩
    exact br_t rfl hp
  | succ k ih =>
    intro x y n hab hk hn ha hp
    obtain ⟨m, rfl⟩ : ∃ m, n = m + 1 := ⟨n - 1, by omega⟩
    by_cases hb : y = 0
    · subst hb
      rw [Nat.gcd_zero_right] at hp
      exact br_t rfl hp
    · have hz : ¬ lN y = 0 := fun z => hb ((pk_lEQ (b := 0) (by omega) (by omega)).mp z)
      refine br_f hz ⟨hz, nm_r (pk_lRem ha (by omega) (by omega)) ?_⟩
      have h1 := Nat.mod_lt x (show 0 < y by omega)
      exact ih y (x % y) m (by omega) (gd_half (by omega) hab hk) (by omega) (by omega) (by rw [gd_rec]; exact hp)
theorem gd_Y0 {post : Int64 → Prop} {f : Int32} {t b c : Nat → Int32} {x y : Nat} (hx : x < 2 ^ 31) (h0 : 0 < x) (hy : y < 2 ^ 31) (hp : post (lN (Nat.gcd x y))) : wY_common_18 post f t b c 65 (lN y) (lN x) := by
  by_cases hab : y ≤ x
  · exact gd_Y 62 x y 65 hab (gd_2 hx hy) (by omega) (by omega) hp
  · have hz : ¬ lN y = 0 := fun z => absurd ((pk_lEQ (b := 0) (by omega) (by omega)).mp z) (by omega)
    refine br_f hz ⟨hz, nm_r (pk_lRem (by omega) (by omega) (by omega)) ?_⟩
    rw [Nat.mod_eq_of_lt (by omega)]
    exact gd_Y 62 y x 64 (by omega) (gd_2 hy hx) (by omega) (by omega) (by rw [Nat.gcd_comm]; exact hp)
/-- X's common divisor -/
theorem gd_cX {post : Int32 → Prop} {p q : Int} (hp : -2147483647 ≤ p ∧ p ≤ 2147483647) (hq : 0 < q ∧ q ≤ 2147483647) (h : post (fr_i (Int.gcd p q))) : wpX_commonDivisor post (fr_i p) (fr_i q) := by
  obtain ⟨b, rfl⟩ : ∃ b : Nat, q = (b : Int) := ⟨q.toNat, by omega⟩
  rw [← fr_nI] at h ⊢
  unfold wpX_commonDivisor
  refine fr_ble 0 p (fun c => ⟨65, ?_⟩) (fun c => nm_r (fr_in p) ⟨65, ?_⟩)
  · obtain ⟨a, rfl⟩ : ∃ a : Nat, p = (a : Int) := ⟨p.toNat, by omega⟩
    rw [← fr_nI]
    exact gd_X0 (by omega) (by omega) (by omega) (by rw [Nat.gcd_comm]; exact h)
  · obtain ⟨a, rfl⟩ : ∃ a : Nat, p = -(a : Int) := ⟨(-p).toNat, by omega⟩
    rw [Int.neg_neg, ← fr_nI]
    rw [Int.neg_gcd] at h
    exact gd_X0 (by omega) (by omega) (by omega) (by rw [Nat.gcd_comm]; exact h)
/-- the reference's -/
theorem gd_cY {post : Int64 → Prop} {f : Int32} {t b c : Nat → Int32} {p q : Int} (hp : -2147483647 ≤ p ∧ p ≤ 2147483647) (hq : 0 < q ∧ q ≤ 2147483647) (h : post (fr_l (Int.gcd p q))) : wpY_common post (f, t, b, c) (fr_l p) (fr_l q) := by
  obtain ⟨y, rfl⟩ : ∃ y : Nat, q = (y : Int) := ⟨q.toNat, by omega⟩
  rw [← fr_lN] at h ⊢
  unfold wpY_common
  dsimp only
  refine fr_lble 0 p (fun c => ⟨65, ?_⟩) (fun c => nm_r (fr_ls 0 p) ⟨65, ?_⟩)
  · obtain ⟨a, rfl⟩ : ∃ a : Nat, p = (a : Int) := ⟨p.toNat, by omega⟩
    rw [← fr_lN]
    exact gd_Y0 (by omega) (by omega) (by omega) (by rw [Nat.gcd_comm]; exact h)
  · obtain ⟨a, rfl⟩ : ∃ a : Nat, p = -(a : Int) := ⟨(-p).toNat, by omega⟩
    rw [show (0 : Int) - -(a : Int) = (a : Int) by omega, ← fr_lN]
    rw [Int.neg_gcd] at h
    exact gd_Y0 (by omega) (by omega) (by omega) (by rw [Nat.gcd_comm]; exact h)
