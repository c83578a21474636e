section
theorem pk_us {f : Nat → Int32} {k : Nat} {x : Int32} : upd f k x k = x := if_pos rfl
theorem pk_un {f : Nat → Int32} {k j : Nat} {x : Int32} (h : j ≠ k) : upd f k x j = f j := if_neg h
theorem pk_sub {a b : Nat} (h : b ≤ a) : nI a - nI b = nI (a - b) := by
  obtain ⟨c, rfl⟩ : ∃ c, a = c + b := ⟨a - b, by omega⟩
  rw [← nI_add, Int32.add_sub_cancel, Nat.add_sub_cancel]
theorem pk_m1 (n : Nat) : nI (n + 1) + (-1) = nI n := by
  rw [← nI_1, Int32.add_assoc, show (1 : Int32) + (-1) = 0 from rfl, Int32.add_zero]
theorem pk_mul (a b : Nat) : nI a * nI b = nI (a * b) := (Int32.ofNat_mul a b).symm
theorem pk_div {a d : Nat} (ha : a < 2 ^ 31) (h0 : 0 < d) (hd : d < 2 ^ 31) : nI a / nI d = nI (a / d) := by
  apply Int32.toInt_inj.mp
  rw [lg_idiv_nonneg (by rw [nI_toInt ha]; omega) (by rw [nI_toInt hd]; omega), nI_toInt ha, nI_toInt hd, nI_toInt (Nat.lt_of_le_of_lt (Nat.div_le_self a d) ha)]
  first | rfl | exact (Int.natCast_ediv _ _).symm
theorem pk_rem {a d : Nat} (ha : a < 2 ^ 31) (h0 : 0 < d) (hd : d < 2 ^ 31) : nI a - nI a / nI d * nI d = nI (a % d) := by
  rw [pk_div ha h0 hd, pk_mul, pk_sub (Nat.div_mul_le_self a d)]
  exact congrArg nI (by have := Nat.div_add_mod' a d; omega)
theorem pk_ix (x : Int32) {n : Nat} (hn : n < 2 ^ 31) : x < 0 ∨ nI n ≤ x ∨ ∃ j : Nat, j < n ∧ x = nI j := by
  by_cases h : x < 0
  · exact Or.inl h
  · obtain ⟨j, hj, rfl⟩ := nI_of h
    by_cases h2 : j < n
    · exact Or.inr (Or.inr ⟨j, h2, rfl⟩)
    · exact Or.inr (Or.inl (nI_le (by omega) hj))
theorem pk_le {x y : Int32} {A B : Prop} (a b : Nat) (f : a ≤ b → A) (g : b < a → B) (hx : x = nI a := by rfl) (hy : y = nI b := by rfl) (ha : a < 2 ^ 31 := by omega) (hb : b < 2 ^ 31 := by omega) : (x ≤ y → A) ∧ (¬ x ≤ y → B) := by
  subst hx hy
  rw [nI_leI ha hb]
  exact ⟨f, fun z => g (by omega)⟩
theorem pk_lt {x y : Int32} {A B : Prop} (a b : Nat) (f : a < b → A) (g : b ≤ a → B) (hx : x = nI a := by rfl) (hy : y = nI b := by rfl) (ha : a < 2 ^ 31 := by omega) (hb : b < 2 ^ 31 := by omega) : (x < y → A) ∧ (¬ x < y → B) := by
  subst hx hy
  rw [nI_ltI ha hb]
  exact ⟨f, fun z => g (by omega)⟩
theorem pk_eq {x y : Int32} {A B : Prop} (a b : Nat) (f : a = b → A) (g : a ≠ b → B) (hx : x = nI a := by rfl) (hy : y = nI b := by rfl) (ha : a < 2 ^ 31 := by omega) (hb : b < 2 ^ 31 := by omega) : (x = y → A) ∧ (¬ x = y → B) := by
  subst hx hy
  rw [nI_eq ha hb]
  exact ⟨f, g⟩
theorem pk_in {x : Int32} (n N : Nat) (h : n < N) (hx : x = nI n := by rfl) (hN : N < 2 ^ 31 := by omega) : vp_in x N := by
  subst hx
  exact vp_in_nI h hN
theorem pk_cl {x : Int32} (n : Nat) (hx : x = nI n := by rfl) (h : n < 2 ^ 31 := by omega) : x.toNatClampNeg = n := by
  subst hx
  exact nI_clamp h
theorem pk_lT {n : Nat} (h : n < 2 ^ 63) : (lN n).toInt = (n : Int) := lg_ofNat_toInt h
theorem pk_lLT {a b : Nat} (ha : a < 2 ^ 63) (hb : b < 2 ^ 63) : lN a < lN b ↔ a < b := by
  rw [Int64.lt_iff_toInt_lt, pk_lT ha, pk_lT hb]; omega
theorem pk_lLE {a b : Nat} (ha : a < 2 ^ 63) (hb : b < 2 ^ 63) : lN a ≤ lN b ↔ a ≤ b := by
  rw [Int64.le_iff_toInt_le, pk_lT ha, pk_lT hb]; omega
theorem pk_lEQ {a b : Nat} (ha : a < 2 ^ 63) (hb : b < 2 ^ 63) : lN a = lN b ↔ a = b := by
  rw [← Int64.toInt_inj, pk_lT ha, pk_lT hb]; omega
theorem pk_lOf {x : Int64} (h : ¬ x < 0) : ∃ k : Nat, k < 2 ^ 63 ∧ x = lN k := by
  rw [Int64.lt_iff_toInt_lt] at h
  have h0 : (0 : Int64).toInt = 0 := by decide
  have hx := Int64.toInt_lt x
  refine ⟨x.toInt.toNat, by omega, Int64.toInt_inj.mp ?_⟩
  rw [pk_lT (by omega)]
  omega
theorem pk_lDiv {a b : Nat} (ha : a < 2 ^ 63) (h0 : 0 < b) (hb : b < 2 ^ 63) : lN a / lN b = lN (a / b) := by
  apply Int64.toInt_inj.mp
  rw [lg_ldiv_nonneg (by rw [pk_lT ha]; omega) (by rw [pk_lT hb]; omega), pk_lT ha, pk_lT hb, pk_lT (Nat.lt_of_le_of_lt (Nat.div_le_self a b) ha)]
  rfl
theorem pk_lRem {a b : Nat} (ha : a < 2 ^ 63) (h0 : 0 < b) (hb : b < 2 ^ 63) : lN a - lN a / lN b * lN b = lN (a % b) := by
  rw [pk_lDiv ha h0 hb, lN_mul, lN_sub (Nat.div_mul_le_self a b)]
  exact congrArg lN (by have := Nat.div_add_mod' a b; omega)
theorem pk_least (P : Nat → Prop) (h : ∃ k, P k) : ∃ k, P k ∧ ∀ j, j < k → ¬ P j := by
  obtain ⟨k, hk⟩ := h
  induction k using Nat.strongRecOn with
  | ind k ih =>
    by_cases e : ∃ j, j < k ∧ P j
    · obtain ⟨j, hj, pj⟩ := e
      exact ih j hj pj
    · exact ⟨k, hk, fun j hj pj => e ⟨j, hj, pj⟩⟩

/-! whole numbers as ints and longs -/
def fr_i (z : Int) : Int32 := Int32.ofInt z
def fr_l (z : Int) : Int64 := Int64.ofInt z
theorem fr_it {z : Int} (h : -2147483648 ≤ z ∧ z < 2147483648) : (fr_i z).toInt = z :=
  Int32.toInt_ofInt_of_le (by omega) (by omega)
theorem fr_lt {z : Int} (h : -9223372036854775808 ≤ z ∧ z < 9223372036854775808) : (fr_l z).toInt = z :=
  Int64.toInt_ofInt_of_le (by omega) (by omega)
theorem fr_iof (x : Int32) : x = fr_i x.toInt := (Int32.ofInt_toInt x).symm
theorem fr_lof (x : Int64) : x = fr_l x.toInt := (Int64.ofInt_toInt x).symm
theorem fr_ia (a b : Int) : fr_i a + fr_i b = fr_i (a + b) := (Int32.ofInt_add a b).symm
theorem fr_is (a b : Int) : fr_i a - fr_i b = fr_i (a - b) := (Int32.ofInt_sub a b).symm
theorem fr_im (a b : Int) : fr_i a * fr_i b = fr_i (a * b) := (Int32.ofInt_mul a b).symm
theorem fr_in (a : Int) : - fr_i a = fr_i (-a) := (Int32.ofInt_neg a).symm
theorem fr_la (a b : Int) : fr_l a + fr_l b = fr_l (a + b) := (Int64.ofInt_add a b).symm
theorem fr_ls (a b : Int) : fr_l a - fr_l b = fr_l (a - b) := (Int64.ofInt_sub a b).symm
theorem fr_lm (a b : Int) : fr_l a * fr_l b = fr_l (a * b) := (Int64.ofInt_mul a b).symm
theorem fr_ln (a : Int) : - fr_l a = fr_l (-a) := (Int64.ofInt_neg a).symm
theorem fr_nI (n : Nat) : nI n = fr_i n := (Int32.ofInt_eq_ofNat).symm
theorem fr_lN (n : Nat) : lN n = fr_l n := (Int64.ofInt_eq_ofNat).symm
theorem fr_ble {x y : Int32} {A B : Prop} (a b : Int) (f : a ≤ b → A) (g : b < a → B) (hx : x = fr_i a := by rfl) (hy : y = fr_i b := by rfl) (ha : -2147483648 ≤ a ∧ a < 2147483648 := by omega) (hb : -2147483648 ≤ b ∧ b < 2147483648 := by omega) : (x ≤ y → A) ∧ (¬ x ≤ y → B) := by
  subst hx hy
  rw [Int32.le_iff_toInt_le, fr_it ha, fr_it hb]
  exact ⟨f, fun z => g (by omega)⟩
theorem fr_blt {x y : Int32} {A B : Prop} (a b : Int) (f : a < b → A) (g : b ≤ a → B) (hx : x = fr_i a := by rfl) (hy : y = fr_i b := by rfl) (ha : -2147483648 ≤ a ∧ a < 2147483648 := by omega) (hb : -2147483648 ≤ b ∧ b < 2147483648 := by omega) : (x < y → A) ∧ (¬ x < y → B) := by
  subst hx hy
  rw [Int32.lt_iff_toInt_lt, fr_it ha, fr_it hb]
  exact ⟨f, fun z => g (by omega)⟩
theorem fr_beq {x y : Int32} {A B : Prop} (a b : Int) (f : a = b → A) (g : a ≠ b → B) (hx : x = fr_i a := by rfl) (hy : y = fr_i b := by rfl) (ha : -2147483648 ≤ a ∧ a < 2147483648 := by omega) (hb : -2147483648 ≤ b ∧ b < 2147483648 := by omega) : (x = y → A) ∧ (¬ x = y → B) := by
  subst hx hy
  rw [← Int32.toInt_inj, fr_it ha, fr_it hb]
  exact ⟨f, g⟩
theorem fr_lble {x y : Int64} {A B : Prop} (a b : Int) (f : a ≤ b → A) (g : b < a → B) (hx : x = fr_l a := by rfl) (hy : y = fr_l b := by rfl) (ha : -9223372036854775808 ≤ a ∧ a < 9223372036854775808 := by omega) (hb : -9223372036854775808 ≤ b ∧ b < 9223372036854775808 := by omega) : (x ≤ y → A) ∧ (¬ x ≤ y → B) := by
  subst hx hy
  rw [Int64.le_iff_toInt_le, fr_lt ha, fr_lt hb]
  exact ⟨f, fun z => g (by omega)⟩
theorem fr_lblt {x y : Int64} {A B : Prop} (a b : Int) (f : a < b → A) (g : b ≤ a → B) (hx : x = fr_l a := by rfl) (hy : y = fr_l b := by rfl) (ha : -9223372036854775808 ≤ a ∧ a < 9223372036854775808 := by omega) (hb : -9223372036854775808 ≤ b ∧ b < 9223372036854775808 := by omega) : (x < y → A) ∧ (¬ x < y → B) := by
  subst hx hy
  rw [Int64.lt_iff_toInt_lt, fr_lt ha, fr_lt hb]
  exact ⟨f, fun z => g (by omega)⟩
theorem fr_lbeq {x y : Int64} {A B : Prop} (a b : Int) (f : a = b → A) (g : a ≠ b → B) (hx : x = fr_l a := by rfl) (hy : y = fr_l b := by rfl) (ha : -9223372036854775808 ≤ a ∧ a < 9223372036854775808 := by omega) (hb : -9223372036854775808 ≤ b ∧ b < 9223372036854775808 := by omega) : (x = y → A) ∧ (¬ x = y → B) := by
  subst hx hy
  rw [← Int64.toInt_inj, fr_lt ha, fr_lt hb]
  exact ⟨f, g⟩
theorem fr_ine {a : Int} (h0 : a ≠ 0) (h : -2147483648 ≤ a ∧ a < 2147483648) : ¬ fr_i a = 0 := by
  intro z
  have e := congrArg Int32.toInt z
  rw [fr_it h] at e
  exact h0 e
theorem fr_lne {a : Int} (h0 : a ≠ 0) (h : -9223372036854775808 ≤ a ∧ a < 9223372036854775808) : ¬ fr_l a = 0 := by
  intro z
  have e := congrArg Int64.toInt z
  rw [fr_lt h] at e
  exact h0 e
theorem fr_il {z : Int} (h : -2147483648 ≤ z ∧ z < 2147483648) : (fr_i z).toInt64 = fr_l z := by
  apply Int64.toInt_inj.mp
  rw [Int32.toInt_toInt64, fr_it h, fr_lt (by omega)]
theorem fr_li {z : Int} (h : -2147483648 ≤ z ∧ z < 2147483648) : (fr_l z).toInt32 = fr_i z := by
  apply Int32.toInt_inj.mp
  rw [Int64.toInt_toInt32, fr_lt (by omega), fr_it h]
  exact Int.bmod_eq_of_le (by omega) (by omega)
/-! division -/
theorem fr_tq (a b : Int) : (0 ≤ a → a.tdiv b = a / b) ∧ (a < 0 → a.tdiv b = -((-a) / b)) := by
  refine ⟨fun h => Int.tdiv_eq_ediv_of_nonneg h, fun h => ?_⟩
  rw [← Int.tdiv_eq_ediv_of_nonneg (a := -a) (by omega), Int.neg_tdiv, Int.neg_neg]
theorem fr_tb {a b M : Int} (hb : 0 < b) (h : -M ≤ a ∧ a ≤ M) : -M ≤ a.tdiv b ∧ a.tdiv b ≤ M := by
  by_cases h0 : 0 ≤ a
  · rw [(fr_tq a b).1 h0]
    have h1 : 0 ≤ a / b := Int.ediv_nonneg h0 (by omega)
    have h2 : a / b ≤ a := Int.ediv_le_self b h0
    omega
  · rw [(fr_tq a b).2 (by omega)]
    have h1 : 0 ≤ (-a) / b := Int.ediv_nonneg (by omega) (by omega)
    have h2 : (-a) / b ≤ -a := Int.ediv_le_self b (by omega)
    omega
theorem fr_id {a b : Int} (ha : -2147483647 ≤ a ∧ a ≤ 2147483647) (hb : 0 < b ∧ b ≤ 2147483647) : fr_i a / fr_i b = fr_i (a.tdiv b) := by
  have t := fr_tb hb.1 ha
  apply Int32.toInt_inj.mp
  rw [Int32.toInt_div, fr_it (by omega), fr_it (by omega), fr_it (by omega)]
  exact Int.bmod_eq_of_le (by omega) (by omega)
theorem fr_ld {a b : Int} (ha : -9223372036854775807 ≤ a ∧ a ≤ 9223372036854775807) (hb : 0 < b ∧ b ≤ 9223372036854775807) : fr_l a / fr_l b = fr_l (a.tdiv b) := by
  have t := fr_tb hb.1 ha
  apply Int64.toInt_inj.mp
  rw [Int64.toInt_div, fr_lt (by omega), fr_lt (by omega), fr_lt (by omega)]
  exact Int.bmod_eq_of_le (by omega) (by omega)
theorem fr_dv {p q d : Int} (hq : 0 < q) (h1 : d * q ≤ p) (h2 : p < d * q + q) : p / q = d := by
  have a := (Int.le_ediv_iff_mul_le hq).mpr h1
  have b : p / q < d + 1 := (Int.ediv_lt_iff_lt_mul hq).mpr (by rw [Int.add_mul, Int.one_mul]; exact h2)
  omega
theorem fr_dm {p q : Int} (hq : 0 < q) : p / q * q ≤ p ∧ p < p / q * q + q ∧ p % q = p - p / q * q ∧ 0 ≤ p % q ∧ p % q < q := by
  have h1 := Int.emod_nonneg p (b := q) (by omega)
  have h2 := Int.emod_lt_of_pos p hq
  have h3 := Int.mul_ediv_add_emod p q
  rw [Int.mul_comm] at h3
  omega
/-- X's floor -/
theorem fr_fX {post : Int32 → Prop} {p q : Int} (hp : -1000000000 ≤ p ∧ p ≤ 1000000000) (hq : 0 < q ∧ q ≤ 1000000000) (h : post (fr_i (p / q))) : wpX_floor post (fr_i p) (fr_i q) := by
  unfold wpX_floor
  refine ⟨fr_ine (by omega) (by omega), nm_r (fr_id (by omega) (by omega)) ?_⟩
  rw [fr_im]
  have hm := fr_dm (p := p) hq.1
  have hb : -1000000000 ≤ p.tdiv q * q ∧ p.tdiv q * q ≤ 1000000000 ∧ (p.tdiv q * q ≤ p → p / q = p.tdiv q) ∧ (p < p.tdiv q * q → p / q = p.tdiv q - 1) := by
    by_cases h0 : 0 ≤ p
    · rw [(fr_tq p q).1 h0]
      have h1 : 0 ≤ p / q * q := Int.mul_nonneg (Int.ediv_nonneg h0 (by omega)) (by omega)
      refine ⟨by omega, by omega, fun _ => rfl, fun c => absurd c (by omega)⟩
    · rw [(fr_tq p q).2 (by omega)]
      have hn := fr_dm (p := -p) hq.1
      have h1 : 0 ≤ (-p) / q * q := Int.mul_nonneg (Int.ediv_nonneg (by omega) (by omega)) (by omega)
      rw [Int.neg_mul]
      refine ⟨by omega, by omega, fun c => fr_dv hq.1 (by rw [Int.neg_mul]; omega) (by rw [Int.neg_mul]; omega), fun c => fr_dv hq.1 ?_ ?_⟩
      · rw [Int.sub_mul, Int.neg_mul, Int.one_mul]; omega
      · rw [Int.sub_mul, Int.neg_mul, Int.one_mul]; omega
  refine fr_ble (p.tdiv q * q) p (fun c => ?_) (fun c => ?_)
  · rw [← hb.2.2.1 c]; exact h
  · have e : fr_i (p.tdiv q) - 1 = fr_i (p / q) := by
      rw [hb.2.2.2 c]; exact fr_is _ 1
    rw [e]; exact h
/-- the reference's floor -/
theorem fr_fY {post : Int32 → Prop} {p q : Int} {f : Int32} {t b c : Nat → Int32} (hp : -1000000000 ≤ p ∧ p ≤ 1000000000) (hq : 0 < q ∧ q ≤ 1000000000) (h : post (fr_i (p / q))) : wpY_floor post (f, t, b, c) (fr_i p) (fr_i q) := by
  unfold wpY_floor
  dsimp only
  refine fr_blt p 0 (fun n => ⟨fr_ine (by omega) (by omega), ?_⟩) (fun n => ⟨fr_ine (by omega) (by omega), ?_⟩)
  · have e : fr_i q - 1 - fr_i p = fr_i (q - 1 - p) := by
      rw [show fr_i q - 1 = fr_i (q - 1) from fr_is q 1, fr_is]
    rw [e, fr_id (by omega) (by omega), fr_in, (fr_tq _ _).1 (by omega)]
    have hm := fr_dm (p := q - 1 - p) hq.1
    have z : p / q = -((q - 1 - p) / q) := fr_dv hq.1 (by rw [Int.neg_mul]; omega) (by rw [Int.neg_mul]; omega)
    rw [← z]; exact h
  · rw [fr_id (by omega) (by omega), (fr_tq _ _).1 n]; exact h
end
section
/-! Euclid's walk for the greatest common divisor: each step halves the product -/
theorem gd_half {a b k : Nat} (hb : 0 < b) (hab : b ≤ a) (h : a * b < 2 ^ (k + 1)) : b * (a % b) < 2 ^ k := by
  have h1 := Nat.mod_lt a hb
  have h2 := Nat.div_add_mod a b
  have h3 : b * 1 ≤ b * (a / b) := Nat.mul_le_mul_left b (Nat.div_pos hab hb)
  have h4 : 2 * (a % b) ≤ a := by omega
  have h5 : b * (2 * (a % b)) ≤ b * a := Nat.mul_le_mul_left b h4
  rw [Nat.mul_comm a b, Nat.pow_succ] at h
  rw [Nat.mul_left_comm] at h5
  omega
theorem gd_rec {a b : Nat} : Nat.gcd b (a % b) = Nat.gcd a b := by
  rw [Nat.gcd_comm b (a % b), ← Nat.gcd_rec, Nat.gcd_comm]
theorem gd_X {post : Int32 → Prop} : ∀ (k a b s n : Nat), b ≤ a → a * b < 2 ^ k → k < n → s + k ≤ 1000 → a < 2 ^ 31 → post (nI (Nat.gcd a b)) → wX_commonDivisor_16 post n (nI a) (nI b) (nI s) := by
  intro k
  induction k with
  | zero =>
    intro a b s n hab hk hn hs ha hp
    have hb : b = 0 := by
      cases b with
      | zero => rfl
      | succ b =>
        have := Nat.mul_le_mul hab (Nat.le_refl (b + 1))
        have h1 : (b + 1) * (b + 1) = b * b + b + b + 1 := by grind
        omega
    subst hb
    rw [Nat.gcd_zero_right] at hp
    obtain ⟨m, rfl⟩ : ∃ m, n = m + 1 := ⟨n - 1, by omega⟩
    exact br_c (fun _ => hp) (fun _ => br_t (nI_le (b := 0) (Nat.le_refl 0) (by omega)) hp)
  | succ k ih =>
    intro a b s n hab hk hn hs ha hp
    obtain ⟨m, rfl⟩ : ∃ m, n = m + 1 := ⟨n - 1, by omega⟩
    by_cases hb : b = 0
    · subst hb
      rw [Nat.gcd_zero_right] at hp
      exact br_c (fun _ => hp) (fun _ => br_t (nI_le (b := 0) (Nat.le_refl 0) (by omega)) hp)
    · refine pk_le 1000 s (fun c => absurd c (by omega)) (fun _ => br_f (nI_nle (by omega) (by omega)) ⟨nI_ne0 (by omega) (by omega), nm_r (pk_rem ha (by omega) (by omega)) (nm_r (nI_1 s) ?_)⟩)
      have h1 := Nat.mod_lt a (show 0 < b by omega)
      exact ih b (a % b) (s + 1) m (by omega) (gd_half (by omega) hab hk) (by omega) (by omega) (by omega) (by rw [gd_rec]; exact hp)
theorem gd_2 {a b : Nat} (ha : a < 2 ^ 31) (hb : b < 2 ^ 31) : a * b < 2 ^ 62 := by
  have := Nat.mul_le_mul (show a ≤ 2 ^ 31 - 1 by omega) (show b ≤ 2 ^ 31 - 1 by omega)
  have e : (2 ^ 31 - 1) * (2 ^ 31 - 1) < 2 ^ 62 := by decide
  omega
theorem gd_X0 {post : Int32 → Prop} {a b : Nat} (ha : a < 2 ^ 31) (h0 : 0 < a) (hb : b < 2 ^ 31) (hp : post (nI (Nat.gcd a b))) : wX_commonDivisor_16 post 65 (nI a) (nI b) 0 := by
  by_cases hab : b ≤ a
  · exact gd_X 62 a b 0 65 hab (gd_2 ha hb) (by omega) (by omega) ha hp
  · refine br_f (nI_ge (a := 0) (b := 1000) (by omega) (by omega)) (br_f (nI_nle (by omega) (by omega)) ⟨nI_ne0 (by omega) (by omega), nm_r (pk_rem ha (by omega) (by omega)) (nm_r (nI_1 0) ?_)⟩)
    rw [Nat.mod_eq_of_lt (by omega)]
    exact gd_X 62 b a 1 64 (by omega) (gd_2 hb ha) (by omega) (by omega) hb (by rw [Nat.gcd_comm]; exact hp)
theorem gd_Y {post : Int64 → Prop} {f : Int32} {t b c : Nat → Int32} : ∀ (k x y n : Nat), y ≤ x → x * y < 2 ^ k → k < n → x < 2 ^ 63 → post (lN (Nat.gcd x y)) → wY_common_18 post f t b c n (lN y) (lN x) := by
  intro k
  induction k with
  | zero =>
    intro x y n hab hk hn ha hp
    have hb : y = 0 := by
      cases y with
      | zero => rfl
      | succ b =>
        have := Nat.mul_le_mul hab (Nat.le_refl (b + 1))
        have h1 : (b + 1) * (b + 1) = b * b + b + b + 1 := by grind
        omega
    subst hb
    rw [Nat.gcd_zero_right] at hp
    obtain ⟨m, rfl⟩ : ∃ m, n = m + 1 := ⟨n - 1, by omega⟩
    exact br_t rfl hp
  | succ k ih =>
    intro x y n hab hk hn ha hp
    obtain ⟨m, rfl⟩ : ∃ m, n = m + 1 := ⟨n - 1, by omega⟩
    by_cases hb : y = 0
    · subst hb
      rw [Nat.gcd_zero_right] at hp
      exact br_t rfl hp
    · have hz : ¬ lN y = 0 := fun z => hb ((pk_lEQ (b := 0) (by omega) (by omega)).mp z)
      refine br_f hz ⟨hz, nm_r (pk_lRem ha (by omega) (by omega)) ?_⟩
      have h1 := Nat.mod_lt x (show 0 < y by omega)
      exact ih y (x % y) m (by omega) (gd_half (by omega) hab hk) (by omega) (by omega) (by rw [gd_rec]; exact hp)
theorem gd_Y0 {post : Int64 → Prop} {f : Int32} {t b c : Nat → Int32} {x y : Nat} (hx : x < 2 ^ 31) (h0 : 0 < x) (hy : y < 2 ^ 31) (hp : post (lN (Nat.gcd x y))) : wY_common_18 post f t b c 65 (lN y) (lN x) := by
  by_cases hab : y ≤ x
  · exact gd_Y 62 x y 65 hab (gd_2 hx hy) (by omega) (by omega) hp
  · have hz : ¬ lN y = 0 := fun z => absurd ((pk_lEQ (b := 0) (by omega) (by omega)).mp z) (by omega)
    refine br_f hz ⟨hz, nm_r (pk_lRem (by omega) (by omega) (by omega)) ?_⟩
    rw [Nat.mod_eq_of_lt (by omega)]
    exact gd_Y 62 y x 64 (by omega) (gd_2 hy hx) (by omega) (by omega) (by rw [Nat.gcd_comm]; exact hp)
/-- X's common divisor -/
theorem gd_cX {post : Int32 → Prop} {p q : Int} (hp : -2147483647 ≤ p ∧ p ≤ 2147483647) (hq : 0 < q ∧ q ≤ 2147483647) (h : post (fr_i (Int.gcd p q))) : wpX_commonDivisor post (fr_i p) (fr_i q) := by
  obtain ⟨b, rfl⟩ : ∃ b : Nat, q = (b : Int) := ⟨q.toNat, by omega⟩
  rw [← fr_nI] at h ⊢
  unfold wpX_commonDivisor
  refine fr_ble 0 p (fun c => ⟨65, ?_⟩) (fun c => nm_r (fr_in p) ⟨65, ?_⟩)
  · obtain ⟨a, rfl⟩ : ∃ a : Nat, p = (a : Int) := ⟨p.toNat, by omega⟩
    rw [← fr_nI]
    exact gd_X0 (by omega) (by omega) (by omega) (by rw [Nat.gcd_comm]; exact h)
  · obtain ⟨a, rfl⟩ : ∃ a : Nat, p = -(a : Int) := ⟨(-p).toNat, by omega⟩
    rw [Int.neg_neg, ← fr_nI]
    rw [Int.neg_gcd] at h
    exact gd_X0 (by omega) (by omega) (by omega) (by rw [Nat.gcd_comm]; exact h)
/-- the reference's -/
theorem gd_cY {post : Int64 → Prop} {f : Int32} {t b c : Nat → Int32} {p q : Int} (hp : -2147483647 ≤ p ∧ p ≤ 2147483647) (hq : 0 < q ∧ q ≤ 2147483647) (h : post (fr_l (Int.gcd p q))) : wpY_common post (f, t, b, c) (fr_l p) (fr_l q) := by
  obtain ⟨y, rfl⟩ : ∃ y : Nat, q = (y : Int) := ⟨q.toNat, by omega⟩
  rw [← fr_lN] at h ⊢
  unfold wpY_common
  dsimp only
  refine fr_lble 0 p (fun c => ⟨65, ?_⟩) (fun c => nm_r (fr_ls 0 p) ⟨65, ?_⟩)
  · obtain ⟨a, rfl⟩ : ∃ a : Nat, p = (a : Int) := ⟨p.toNat, by omega⟩
    rw [← fr_lN]
    exact gd_Y0 (by omega) (by omega) (by omega) (by rw [Nat.gcd_comm]; exact h)
  · obtain ⟨a, rfl⟩ : ∃ a : Nat, p = -(a : Int) := ⟨(-p).toNat, by omega⟩
    rw [show (0 : Int) - -(a : Int) = (a : Int) by omega, ← fr_lN]
    rw [Int.neg_gcd] at h
    exact gd_Y0 (by omega) (by omega) (by omega) (by rw [Nat.gcd_comm]; exact h)
end
section
/-! the chain of p / q: its length (by k steps at most), its terms, the values of its beginnings -/
def ch_l : Nat → Int → Int → Nat
  | 0, _, _ => 0
  | k + 1, p, q => if q ≤ 0 then 0 else ch_l k q (p % q) + 1
def ch_e : Nat → Int → Int → Prop
  | 0, _, q => q = 0
  | k + 1, p, q => q = 0 ∨ (0 < q ∧ ch_e k q (p % q))
def ch_t : Nat → Int → Int → Int
  | 0, p, q => p / q
  | j + 1, p, q => ch_t j q (p % q)
def ch_v : Nat → Int → Int → Int × Int
  | 0, _, _ => (1, 0)
  | r + 1, p, q => (p / q * (ch_v r q (p % q)).1 + (ch_v r q (p % q)).2, (ch_v r q (p % q)).1)
theorem ch_l0 (k : Nat) (p : Int) : ch_l k p 0 = 0 := by
  cases k with
  | zero => rfl
  | succ k => exact if_pos (Int.le_refl 0)
theorem ch_ls {k : Nat} {p q : Int} (hq : 0 < q) : ch_l (k + 1) p q = ch_l k q (p % q) + 1 := if_neg (by omega)
theorem ch_le : ∀ (k : Nat) (p q : Int), ch_l k p q ≤ k := by
  intro k
  induction k with
  | zero => intro p q; exact Nat.le_refl 0
  | succ k ih =>
    intro p q
    show (if q ≤ 0 then 0 else ch_l k q (p % q) + 1) ≤ k + 1
    have := ih q (p % q)
    split <;> omega
/-- the walk ends: the product halves -/
theorem ch_end : ∀ (k : Nat) (a b : Nat), b ≤ a → a * b < 2 ^ k → ch_e k a b := by
  intro k
  induction k with
  | zero =>
    intro a b hab h
    show (b : Int) = 0
    cases b with
    | zero => rfl
    | succ b =>
      have := Nat.mul_le_mul hab (Nat.le_refl (b + 1))
      have h1 : (b + 1) * (b + 1) = b * b + b + b + 1 := by grind
      omega
  | succ k ih =>
    intro a b hab h
    by_cases hb : b = 0
    · exact Or.inl (by omega)
    · have h1 := Nat.mod_lt a (show 0 < b by omega)
      refine Or.inr ⟨by omega, ?_⟩
      have e := ih b (a % b) (by omega) (gd_half (by omega) hab h)
      rw [Int.natCast_emod] at e
      exact e
theorem ch_e40 {p q : Int} (hq : 1 ≤ q ∧ q ≤ 9999) : ch_e 40 p q := by
  have hm := fr_dm (p := p) (q := q) (by omega)
  refine Or.inr ⟨by omega, ?_⟩
  obtain ⟨a, rfl⟩ : ∃ a : Nat, q = (a : Int) := ⟨q.toNat, by omega⟩
  obtain ⟨b, hb⟩ : ∃ b : Nat, p % (a : Int) = (b : Int) := ⟨(p % (a : Int)).toNat, by omega⟩
  rw [hb]
  refine ch_end 39 a b (by omega) ?_
  have h1 : a * b ≤ 9999 * 9999 := Nat.mul_le_mul (by omega) (by omega)
  have h2 : 9999 * 9999 < 2 ^ 39 := by decide
  omega
/-- one step of the walk, in ints -/
theorem ch_st {p q : Int} (hq : 0 < q) : fr_i p - fr_i (p / q) * fr_i q = fr_i (p % q) := by
  rw [fr_im, fr_is, (fr_dm (p := p) hq).2.2.1]
/-- chainLength's loop -/
theorem ch_X {post : Int32 → Prop} {t b : Nat → Int32} : ∀ (k : Nat) (p q : Int) (m s n : Nat), ch_e k p q → -1000000 ≤ p ∧ p ≤ 1000000 → q ≤ 1000000 → k < n → s + k ≤ 1000 → post (nI (m + ch_l k p q)) → wX_chainLength_20 post t b n (fr_i p) (fr_i q) (nI m) (nI s) := by
  intro k
  induction k with
  | zero =>
    intro p q m s n he hp hq hn hs h
    obtain ⟨n, rfl⟩ : ∃ i, n = i + 1 := ⟨n - 1, by omega⟩
    have he : q = 0 := he
    subst he
    exact br_c (fun _ => h) (fun _ => br_t (by decide) h)
  | succ k ih =>
    intro p q m s n he hp hq hn hs h
    obtain ⟨n, rfl⟩ : ∃ i, n = i + 1 := ⟨n - 1, by omega⟩
    rcases he with he | ⟨h0, he⟩
    · subst he
      rw [ch_l0] at h
      exact br_c (fun _ => h) (fun _ => br_t (by decide) h)
    · have hm := fr_dm (p := p) h0
      rw [ch_ls h0] at h
      refine pk_le 1000 s (fun c => absurd c (by omega)) (fun _ => fr_ble q 0 (fun c => absurd c (by omega)) (fun _ => fr_fX (by omega) (by omega) (nm_r (ch_st h0) (nm_r (nI_1 m) (nm_r (nI_1 s) ?_)))))
      exact ih q (p % q) (m + 1) (s + 1) n he (by omega) (by omega) (by omega) (by omega) (by rw [Nat.add_assoc, Nat.add_comm 1]; exact h)
/-- expand's loop -/
theorem ch_Y {post : SY → Prop} {t b : Nat → Int32} : ∀ (k : Nat) (p q : Int) (m n : Nat) (c : Nat → Int32), ch_e k p q → -1000000 ≤ p ∧ p ≤ 1000000 → q ≤ 1000000 → k < n → m + k ≤ 64 → (∀ c' : Nat → Int32, (∀ j, j < m → c' j = c j) → (∀ j, j < ch_l k p q → c' (m + j) = fr_i (ch_t j p q)) → post (nI (m + ch_l k p q), t, b, c')) → wY_expand_19 post n (fr_i p) (fr_i q) (nI m) t b c := by
  intro k
  induction k with
  | zero =>
    intro p q m n c he hp hq hn hs h
    obtain ⟨n, rfl⟩ : ∃ i, n = i + 1 := ⟨n - 1, by omega⟩
    have he : q = 0 := he
    subst he
    exact br_t rfl (h c (fun _ _ => rfl) (fun j hj => absurd hj (Nat.not_lt_zero j)))
  | succ k ih =>
    intro p q m n c he hp hq hn hs h
    obtain ⟨n, rfl⟩ : ∃ i, n = i + 1 := ⟨n - 1, by omega⟩
    rcases he with he | ⟨h0, he⟩
    · subst he
      rw [ch_l0] at h
      exact br_t rfl (h c (fun _ _ => rfl) (fun j hj => absurd hj (Nat.not_lt_zero j)))
    · have hm := fr_dm (p := p) h0
      rw [ch_ls h0] at h
      refine br_f (fr_ine (by omega) (by omega)) (pk_le 64 m (fun c => absurd c (by omega)) (fun _ => fr_fY (by omega) (by omega) ⟨vp_in_nI (by omega) (by omega), nm_r (by rw [nI_clamp (by omega)]) (nm_r (nI_1 m) (nm_r (ch_st h0) ?_))⟩))
      refine ih q (p % q) (m + 1) n (upd c m (fr_i (p / q))) he (by omega) (by omega) (by omega) (by omega) (fun c' h1 h2 => ?_)
      rw [Nat.add_assoc, Nat.add_comm 1]
      refine h c' (fun j hj => ?_) (fun j hj => ?_)
      · rw [h1 j (by omega), pk_un (by omega)]
      · cases j with
        | zero => rw [h1 (m + 0) (by omega)]; exact pk_us
        | succ j =>
          have e := h2 j (by omega)
          rw [Nat.add_assoc, Nat.add_comm 1] at e
          exact e
/-- term's loop -/
theorem ch_Xt {post : Int32 → Prop} {t b : Nat → Int32} {i : Nat} (hi : i < 2 ^ 31) : ∀ (k : Nat) (p q : Int) (r s n : Nat), ch_e k p q → -1000000 ≤ p ∧ p ≤ 1000000 → q ≤ 1000000 → k < n → s + r = i → (r < ch_l k p q → post (fr_i (ch_t r p q))) → (ch_l k p q ≤ r → post (-1000001)) → wX_term_35 post (nI i) t b n (fr_i p) (fr_i q) (nI s) := by
  intro k
  induction k with
  | zero =>
    intro p q r s n he hp hq hn hs h1 h2
    obtain ⟨n, rfl⟩ : ∃ i, n = i + 1 := ⟨n - 1, by omega⟩
    have he : q = 0 := he
    subst he
    have z : wX_term_72 post (fr_i p) (fr_i 0) t b := br_t (by decide) (h2 (Nat.zero_le r))
    exact br_c (fun _ => z) (fun _ => br_t (by decide) z)
  | succ k ih =>
    intro p q r s n he hp hq hn hs h1 h2
    obtain ⟨n, rfl⟩ : ∃ i, n = i + 1 := ⟨n - 1, by omega⟩
    rcases he with he | ⟨h0, he⟩
    · subst he
      rw [ch_l0] at h2
      have z : wX_term_72 post (fr_i p) (fr_i 0) t b := br_t (by decide) (h2 (Nat.zero_le r))
      exact br_c (fun _ => z) (fun _ => br_t (by decide) z)
    · have hm := fr_dm (p := p) h0
      rw [ch_ls h0] at h1 h2
      refine pk_le i s (fun c => ?_) (fun c => fr_ble q 0 (fun c => absurd c (by omega)) (fun _ => fr_fX (by omega) (by omega) (nm_r (ch_st h0) (nm_r (nI_1 s) ?_))))
      · obtain rfl : r = 0 := by omega
        exact fr_ble q 0 (fun c => absurd c (by omega)) (fun _ => fr_fX (by omega) (by omega) (h1 (by omega)))
      · obtain ⟨r, rfl⟩ : ∃ x, r = x + 1 := ⟨r - 1, by omega⟩
        exact ih q (p % q) r (s + 1) n he (by omega) (by omega) (by omega) (by omega) (fun c => h1 (by omega)) (fun c => h2 (by omega))
/-- cut's loop in X -/
theorem ch_Xc {post : Int32 → SX → Prop} {x1 : Int32} {t b : Nat → Int32} {i : Nat} (hi : i < 2 ^ 31) : ∀ (k : Nat) (p q : Int) (r s n : Nat) (A B C D : Int), ch_e k p q → -1000000 ≤ p ∧ p ≤ 1000000 → q ≤ 1000000 → k < n → s + r = i → wX_cut_133 post x1 (fr_i (A * (ch_v (min r (ch_l k p q)) p q).1 + C * (ch_v (min r (ch_l k p q)) p q).2)) (fr_i (B * (ch_v (min r (ch_l k p q)) p q).1 + D * (ch_v (min r (ch_l k p q)) p q).2)) t b → wX_cut_53 post x1 (nI i) t b n (fr_i p) (fr_i q) (fr_i A) (fr_i B) (fr_i C) (fr_i D) (nI s) := by
  intro k
  induction k with
  | zero =>
    intro p q r s n A B C D he hp hq hn hs h
    obtain ⟨n, rfl⟩ : ∃ i, n = i + 1 := ⟨n - 1, by omega⟩
    have he : q = 0 := he
    subst he
    rw [show min r (ch_l 0 p 0) = 0 from Nat.min_eq_right (Nat.zero_le r)] at h
    have z : wX_cut_133 post x1 (fr_i A) (fr_i B) t b := by
      have e : ∀ x y : Int, x * (ch_v 0 p 0).1 + y * (ch_v 0 p 0).2 = x := fun x y => by show x * 1 + y * 0 = x; omega
      rw [e, e] at h
      exact h
    exact br_c (fun _ => z) (fun _ => br_t (by decide) z)
  | succ k ih =>
    intro p q r s n A B C D he hp hq hn hs h
    obtain ⟨n, rfl⟩ : ∃ i, n = i + 1 := ⟨n - 1, by omega⟩
    have z0 : min r (ch_l (k + 1) p q) = 0 → wX_cut_133 post x1 (fr_i A) (fr_i B) t b := by
      intro m0
      rw [m0] at h
      have e : ∀ x y : Int, x * (ch_v 0 p q).1 + y * (ch_v 0 p q).2 = x := fun x y => by show x * 1 + y * 0 = x; omega
      rw [e, e] at h
      exact h
    rcases he with he | ⟨h0, he⟩
    · subst he
      have z := z0 (by rw [ch_l0]; omega)
      exact br_c (fun _ => z) (fun _ => br_t (by decide) z)
    · have hm := fr_dm (p := p) h0
      refine pk_le i s (fun c => z0 (by omega)) (fun c => fr_ble q 0 (fun c => absurd c (by omega)) (fun _ => fr_fX (by omega) (by omega) (nm_r (ch_st h0) (nm_r (by rw [fr_im, fr_ia]) (nm_r (by rw [fr_im, fr_ia]) (nm_r (nI_1 s) ?_))))))
      obtain ⟨r, rfl⟩ : ∃ x, r = x + 1 := ⟨r - 1, by omega⟩
      refine ih q (p % q) r (s + 1) n _ _ A B he (by omega) (by omega) (by omega) (by omega) ?_
      rw [ch_ls h0, show min (r + 1) (ch_l k q (p % q) + 1) = min r (ch_l k q (p % q)) + 1 by omega] at h
      have e : ∀ x y : Int, x * (ch_v (min r (ch_l k q (p % q)) + 1) p q).1 + y * (ch_v (min r (ch_l k q (p % q)) + 1) p q).2 = (p / q * x + y) * (ch_v (min r (ch_l k q (p % q))) q (p % q)).1 + x * (ch_v (min r (ch_l k q (p % q))) q (p % q)).2 := by
        intro x y
        show x * (p / q * (ch_v (min r (ch_l k q (p % q))) q (p % q)).1 + (ch_v (min r (ch_l k q (p % q))) q (p % q)).2) + y * (ch_v (min r (ch_l k q (p % q))) q (p % q)).1 = _
        generalize (ch_v (min r (ch_l k q (p % q))) q (p % q)).1 = V
        generalize (ch_v (min r (ch_l k q (p % q))) q (p % q)).2 = W
        generalize p / q = w
        grind
      rw [e, e] at h
      exact h
/-- the terms are small -/
theorem ch_tb : ∀ (k j : Nat) (p q : Int), j < ch_l k p q → -1000000 ≤ p ∧ p ≤ 1000000 → q ≤ 1000000 → -1000000 ≤ ch_t j p q ∧ ch_t j p q ≤ 1000000 := by
  intro k
  induction k with
  | zero => intro j p q hj; exact absurd hj (Nat.not_lt_zero j)
  | succ k ih =>
    intro j p q hj hp hq
    by_cases h0 : 0 < q
    · have hm := fr_dm (p := p) h0
      rw [ch_ls h0] at hj
      cases j with
      | zero =>
        show -1000000 ≤ p / q ∧ p / q ≤ 1000000
        refine ⟨(Int.le_ediv_iff_mul_le h0).mpr ?_, Int.le_of_lt_add_one ((Int.ediv_lt_iff_lt_mul h0).mpr ?_)⟩ <;> omega
      | succ j => exact ih j q (p % q) (by omega) (by omega) (by omega)
    · have e : ch_l (k + 1) p q = 0 := if_pos (by omega)
      omega
/-- the reference's cut goes from the last term to the first -/
def ch_b (a : Nat → Int) : Nat → Int → Int → Int × Int
  | 0, P, Q => (P, Q)
  | j + 1, P, Q => ch_b a j (a j * P + Q) P
theorem ch_bf : ∀ (j : Nat) (a : Nat → Int) (P Q : Int), ch_b a (j + 1) P Q = (a 0 * (ch_b (fun i => a (i + 1)) j P Q).1 + (ch_b (fun i => a (i + 1)) j P Q).2, (ch_b (fun i => a (i + 1)) j P Q).1) := by
  intro j
  induction j with
  | zero => intro a P Q; rfl
  | succ j ih => intro a P Q; exact ih a (a (j + 1) * P + Q) P
theorem ch_bv : ∀ (L : Nat) (p q : Int), ch_b (fun i => ch_t i p q) L 1 0 = ch_v L p q := by
  intro L
  induction L with
  | zero => intro p q; rfl
  | succ L ih =>
    intro p q
    rw [ch_bf]
    show (p / q * (ch_b (fun i => ch_t i q (p % q)) L 1 0).1 + (ch_b (fun i => ch_t i q (p % q)) L 1 0).2, (ch_b (fun i => ch_t i q (p % q)) L 1 0).1) = _
    rw [ih q (p % q)]
    rfl
/-- the beginnings' values are small -/
theorem ch_vb : ∀ (k r : Nat) (p q : Int), r ≤ ch_l k p q → 0 ≤ q → q < p → 1 ≤ (ch_v r p q).1 ∧ (ch_v r p q).1 ≤ p ∧ 0 ≤ (ch_v r p q).2 ∧ (ch_v r p q).2 ≤ q ∧ (ch_v r p q).2 ≤ (ch_v r p q).1 ∧ (ch_v r p q).1 - (ch_v r p q).2 ≤ p - q := by
  intro k
  induction k with
  | zero =>
    intro r p q hr h0 h1
    obtain rfl : r = 0 := Nat.le_zero.mp hr
    show 1 ≤ (1 : Int) ∧ (1 : Int) ≤ p ∧ 0 ≤ (0 : Int) ∧ (0 : Int) ≤ q ∧ (0 : Int) ≤ (1 : Int) ∧ (1 : Int) - 0 ≤ p - q
    omega
  | succ k ih =>
    intro r p q hr h0 h1
    cases r with
    | zero =>
      show 1 ≤ (1 : Int) ∧ (1 : Int) ≤ p ∧ 0 ≤ (0 : Int) ∧ (0 : Int) ≤ q ∧ (0 : Int) ≤ (1 : Int) ∧ (1 : Int) - 0 ≤ p - q
      omega
    | succ r =>
      by_cases hq : 0 < q
      · have hm := fr_dm (p := p) hq
        rw [ch_ls hq] at hr
        have H := ih r q (p % q) (by omega) (by omega) (by omega)
        show 1 ≤ p / q * (ch_v r q (p % q)).1 + (ch_v r q (p % q)).2 ∧ p / q * (ch_v r q (p % q)).1 + (ch_v r q (p % q)).2 ≤ p ∧ 0 ≤ (ch_v r q (p % q)).1 ∧ (ch_v r q (p % q)).1 ≤ q ∧ (ch_v r q (p % q)).1 ≤ p / q * (ch_v r q (p % q)).1 + (ch_v r q (p % q)).2 ∧ p / q * (ch_v r q (p % q)).1 + (ch_v r q (p % q)).2 - (ch_v r q (p % q)).1 ≤ p - q
        have hw : 1 ≤ p / q := (Int.le_ediv_iff_mul_le hq).mpr (by omega)
        generalize (ch_v r q (p % q)).1 = V at H ⊢
        generalize (ch_v r q (p % q)).2 = W at H ⊢
        have e1 : V ≤ p / q * V := by
          have := Int.mul_le_mul_of_nonneg_right hw (show 0 ≤ V by omega)
          omega
        have e2 : (p / q - 1) * V ≤ (p / q - 1) * q := Int.mul_le_mul_of_nonneg_left H.2.1 (by omega)
        rw [Int.sub_mul, Int.sub_mul, Int.one_mul, Int.one_mul] at e2
        omega
      · have e : ch_l (k + 1) p q = 0 := if_pos (by omega)
        omega
/-- the value of a beginning of a register's chain fits -/
theorem ch_vf {p q : Int} {r : Nat} (hp : -9999 ≤ p ∧ p ≤ 9999) (hq : 1 ≤ q ∧ q ≤ 9999) (h1 : 1 ≤ r) (hr : r ≤ ch_l 40 p q) : -9999 ≤ (ch_v r p q).1 ∧ (ch_v r p q).1 ≤ 9999 ∧ 1 ≤ (ch_v r p q).2 ∧ (ch_v r p q).2 ≤ 9999 := by
  have h0 : 0 < q := by omega
  have hm := fr_dm (p := p) h0
  rw [ch_ls h0] at hr
  obtain ⟨r, rfl⟩ : ∃ x, r = x + 1 := ⟨r - 1, by omega⟩
  have H := ch_vb 39 r q (p % q) (by omega) (by omega) (by omega)
  show -9999 ≤ p / q * (ch_v r q (p % q)).1 + (ch_v r q (p % q)).2 ∧ p / q * (ch_v r q (p % q)).1 + (ch_v r q (p % q)).2 ≤ 9999 ∧ 1 ≤ (ch_v r q (p % q)).1 ∧ (ch_v r q (p % q)).1 ≤ 9999
  generalize (ch_v r q (p % q)).1 = V at H ⊢
  generalize (ch_v r q (p % q)).2 = W at H ⊢
  by_cases hw : 0 ≤ p / q
  · have e1 : 0 ≤ p / q * V := Int.mul_nonneg hw (by omega)
    have e2 : p / q * V ≤ p / q * q := Int.mul_le_mul_of_nonneg_left H.2.1 hw
    omega
  · have e1 : (-(p / q) - 1) * V ≤ (-(p / q) - 1) * q := Int.mul_le_mul_of_nonneg_left H.2.1 (by omega)
    have e2 : 0 ≤ (-(p / q) - 1) * V := Int.mul_nonneg (by omega) (by omega)
    rw [Int.sub_mul, Int.sub_mul, Int.one_mul, Int.one_mul, Int.neg_mul, Int.neg_mul] at e1
    rw [Int.sub_mul, Int.one_mul, Int.neg_mul] at e2
    omega
end
section
/-! registers, chainLength, terms, store -/
theorem rg_c (v : Int32) : (v < 0 ∨ nI 4 ≤ v) ∨ ∃ j : Nat, j < 4 ∧ v = nI j := by
  rcases pk_ix v (n := 4) (by omega) with h | h | h
  · exact Or.inl (Or.inl h)
  · exact Or.inl (Or.inr h)
  · exact Or.inr h
theorem rg_Xn {post : Int32 → Prop} {v : Int32} (h : v < 0 ∨ nI 4 ≤ v) (hp : post 0) : wpX_isRegister post v := by
  unfold wpX_isRegister
  rcases h with h | h
  · exact br_t h hp
  · exact br_c (fun _ => hp) (fun _ => br_t h hp)
theorem rg_Xy {post : Int32 → Prop} {j : Nat} (h : j < 4) (hp : post 1) : wpX_isRegister post (nI j) := by
  unfold wpX_isRegister
  exact br_f (nI_pos (by omega)) (br_f (nI_ge (b := 4) h (by omega)) hp)
theorem rg_Yn {post : Int32 → Prop} {f : Int32} {t b c : Nat → Int32} {v : Int32} (h : v < 0 ∨ nI 4 ≤ v) (hp : post 0) : wpY_isRegister post (f, t, b, c) v := by
  unfold wpY_isRegister
  dsimp only
  rcases h with h | h
  · exact br_t h hp
  · exact br_c (fun _ => hp) (fun _ => br_t h hp)
theorem rg_Yy {post : Int32 → Prop} {f : Int32} {t b c : Nat → Int32} {j : Nat} (h : j < 4) (hp : post 1) : wpY_isRegister post (f, t, b, c) (nI j) := by
  unfold wpY_isRegister
  dsimp only
  exact br_f (nI_pos (by omega)) (br_f (nI_ge (b := 4) h (by omega)) hp)
theorem rg_1 : ¬ (1 : Int32) = 0 := by decide
theorem rg_in {j : Nat} (h : j < 4) : vp_in (nI j) 4 := vp_in_nI h (by omega)
theorem rg_at {j : Nat} (h : j < 4) (a : Nat → Int32) : a (nI j).toNatClampNeg = a j := by rw [nI_clamp (by omega)]
theorem rg_up {j : Nat} (h : j < 4) (a : Nat → Int32) (x : Int32) : upd a (nI j).toNatClampNeg x = upd a j x := by rw [nI_clamp (by omega)]
/-- what a register may hold -/
def st_R (T B : Int) : Prop := -9999 ≤ T ∧ T ≤ 9999 ∧ 1 ≤ B ∧ B ≤ 9999
theorem cl_X {post : Int32 → Prop} {t b : Nat → Int32} {d : Nat} (hd : d < 4) {T B : Int} (ht : t d = fr_i T) (hb : b d = fr_i B) (hr : st_R T B) (h : post (nI (ch_l 40 T B))) : wpX_chainLength post (t, b) (nI d) := by
  unfold st_R at hr
  unfold wpX_chainLength
  dsimp only
  refine ⟨rg_in hd, nm_r ((rg_at hd t).trans ht) ⟨rg_in hd, nm_r ((rg_at hd b).trans hb) ⟨41, ?_⟩⟩⟩
  exact ch_X 40 T B 0 0 41 (ch_e40 (by omega)) (by omega) (by omega) (by omega) (by omega) (by rw [Nat.zero_add]; exact h)
theorem cl_Y {post : SY → Prop} {f : Int32} {t b c : Nat → Int32} {d : Nat} (hd : d < 4) {T B : Int} (ht : t d = fr_i T) (hb : b d = fr_i B) (hr : st_R T B) (h : ∀ c' : Nat → Int32, (∀ j, j < ch_l 40 T B → c' j = fr_i (ch_t j T B)) → post (nI (ch_l 40 T B), t, b, c')) : wpY_expand post (f, t, b, c) (nI d) := by
  unfold st_R at hr
  unfold wpY_expand
  dsimp only
  refine ⟨rg_in hd, nm_r ((rg_at hd t).trans ht) ⟨rg_in hd, nm_r ((rg_at hd b).trans hb) ⟨41, ?_⟩⟩⟩
  refine ch_Y 40 T B 0 41 c (ch_e40 (by omega)) (by omega) (by omega) (by omega) (by omega) (fun c' _ h2 => ?_)
  rw [Nat.zero_add]
  exact h c' (fun j hj => by have e := h2 j hj; rw [Nat.zero_add] at e; exact e)
theorem tm_Y {post : Int32 → SY → Prop} {f : Int32} {t b c : Nat → Int32} {d : Nat} (hd : d < 4) {T B : Int} (ht : t d = fr_i T) (hb : b d = fr_i B) (hr : st_R T B) (h : ∀ c' : Nat → Int32, post (nI (ch_l 40 T B)) (nI (ch_l 40 T B), t, b, c')) : wpY_terms post (f, t, b, c) (nI d) := by
  unfold wpY_terms
  dsimp only
  exact rg_Yy hd (br_f rg_1 (cl_Y hd ht hb hr (fun c' _ => h c')))
/-! lowest terms -/
def st_T (p q : Int) : Int := (if q < 0 then -p else p) / (Int.gcd p q : Int)
def st_B (p q : Int) : Int := (if q < 0 then -q else q) / (Int.gcd p q : Int)
def st_F (p q : Int) : Prop := -9999 ≤ st_T p q ∧ st_T p q ≤ 9999 ∧ st_B p q ≤ 9999
theorem st_g {p q : Int} (hq : 0 < q) : 1 ≤ (Int.gcd p q : Int) ∧ (Int.gcd p q : Int) ≤ q ∧ p / (Int.gcd p q : Int) * (Int.gcd p q : Int) = p ∧ q / (Int.gcd p q : Int) * (Int.gcd p q : Int) = q ∧ 1 ≤ q / (Int.gcd p q : Int) ∧ q / (Int.gcd p q : Int) ≤ q ∧ p.tdiv (Int.gcd p q : Int) = p / (Int.gcd p q : Int) ∧ q.tdiv (Int.gcd p q : Int) = q / (Int.gcd p q : Int) := by
  have d1 : (Int.gcd p q : Int) ∣ p := Int.gcd_dvd_left ..
  have d2 : (Int.gcd p q : Int) ∣ q := Int.gcd_dvd_right ..
  have g0 : 0 < Int.gcd p q := Int.gcd_pos_of_ne_zero_right p (by omega)
  have g1 : (0 : Int) < (Int.gcd p q : Int) := by omega
  have g2 := Int.le_of_dvd hq d2
  have e2 := Int.ediv_mul_cancel d2
  refine ⟨by omega, g2, Int.ediv_mul_cancel d1, e2, (Int.le_ediv_iff_mul_le g1).mpr (by omega), Int.ediv_le_self _ (by omega), Int.tdiv_eq_ediv_of_dvd d1, Int.tdiv_eq_ediv_of_dvd d2⟩
theorem st_b {p g M : Int} (hg : 1 ≤ g) (h : p / g * g = p) (hp : -M ≤ p ∧ p ≤ M) : -M ≤ p / g ∧ p / g ≤ M := by
  have t := fr_tb (a := p) (b := g) (M := M) (by omega) hp
  by_cases h0 : 0 ≤ p
  · rw [(fr_tq p g).1 h0] at t; exact t
  · have h1 : p / g ≤ 0 := by
      rcases Int.lt_or_le 0 (p / g) with z | z
      · have := Int.mul_pos z (show 0 < g by omega)
        omega
      · exact z
    have h2 : p / g * g ≤ p / g * 1 := Int.mul_le_mul_of_nonpos_left h1 hg
    omega
/-- the numbers of a fraction in lowest terms -/
theorem st_n {p q : Int} {M : Int} (hq : q ≠ 0) (hp : -M ≤ p ∧ p ≤ M) (hM : -M ≤ q ∧ q ≤ M) : -M ≤ st_T p q ∧ st_T p q ≤ M ∧ 1 ≤ st_B p q ∧ st_B p q ≤ M := by
  unfold st_T st_B
  by_cases h : q < 0
  · rw [if_pos h, if_pos h]
    have G := st_g (p := -p) (q := -q) (by omega)
    rw [Int.neg_gcd, Int.gcd_neg] at G
    have B := st_b (M := M) G.1 G.2.2.1 (by omega)
    omega
  · rw [if_neg h, if_neg h]
    have G := st_g (p := p) (q := q) (by omega)
    have B := st_b (M := M) G.1 G.2.2.1 (by omega)
    omega
theorem st_fit {p q : Int} (hq : q ≠ 0) (hp : -9999 ≤ p ∧ p ≤ 9999) (hM : -9999 ≤ q ∧ q ≤ 9999) : st_F p q := by
  have H := st_n hq hp hM
  exact ⟨H.1, H.2.1, H.2.2.2⟩
theorem st_r {p q : Int} (hq : q ≠ 0) (hp : -1000000000 ≤ p ∧ p ≤ 1000000000) (hM : -1000000000 ≤ q ∧ q ≤ 1000000000) (h : st_F p q) : st_R (st_T p q) (st_B p q) := by
  have H := st_n hq hp hM
  exact ⟨h.1, h.2.1, H.2.2.1, h.2.2⟩
/-! X's store -/
theorem fx_y {post : Int32 → Prop} {T B : Int} (h : -9999 ≤ T ∧ T ≤ 9999 ∧ B ≤ 9999) (hB : 0 ≤ B) (hp : post 1) : wpX_fits post (fr_i T) (fr_i B) := by
  unfold wpX_fits
  exact fr_blt T (-9999) (fun c => absurd c (by omega)) (fun _ => fr_blt 9999 T (fun c => absurd c (by omega)) (fun _ => fr_blt 9999 B (fun c => absurd c (by omega)) (fun _ => hp)))
theorem fx_n {post : Int32 → Prop} {T B : Int} (h : ¬ (-9999 ≤ T ∧ T ≤ 9999 ∧ B ≤ 9999)) (hT : -2147483648 ≤ T ∧ T < 2147483648) (hB : -2147483648 ≤ B ∧ B < 2147483648) (hp : post 0) : wpX_fits post (fr_i T) (fr_i B) := by
  unfold wpX_fits
  exact fr_blt T (-9999) (fun _ => hp) (fun _ => fr_blt 9999 T (fun _ => hp) (fun _ => fr_blt 9999 B (fun _ => hp) (fun _ => absurd (show -9999 ≤ T ∧ T ≤ 9999 ∧ B ≤ 9999 by omega) h)))
theorem st_X16 {post : Int32 → SX → Prop} {t b : Nat → Int32} {d : Nat} {x2 x3 z0 : Int32} {p q : Int} (hp : -1000000000 ≤ p ∧ p ≤ 1000000000) (hq : 0 < q ∧ q ≤ 1000000000) (e2 : z0 * x2 = fr_i p) (e3 : z0 * x3 = fr_i q) (h : wX_store_59 post (nI d) (fr_i (p / (Int.gcd p q : Int))) (fr_i (q / (Int.gcd p q : Int))) t b) : wX_store_16 post (nI d) x2 x3 z0 t b := by
  have G := st_g (p := p) hq.1
  unfold wX_store_16
  refine nm_r e2 (nm_r e3 (gd_cX (by omega) (by omega) (fr_ble (Int.gcd p q : Int) 1 (fun c => ?_) (fun c => ⟨fr_ine (by omega) (by omega), nm_r (fr_id (by omega) (by omega)) ⟨fr_ine (by omega) (by omega), nm_r (fr_id (by omega) (by omega)) ?_⟩⟩))))
  · have e : (Int.gcd p q : Int) = 1 := by omega
    rw [e, Int.ediv_one, Int.ediv_one] at h
    exact h
  · rw [G.2.2.2.2.2.2.1, G.2.2.2.2.2.2.2]
    exact h
theorem st_X {post : Int32 → SX → Prop} {t b : Nat → Int32} {d : Nat} {p q : Int} (hq : q ≠ 0) (hp : -1000000000 ≤ p ∧ p ≤ 1000000000) (hM : -1000000000 ≤ q ∧ q ≤ 1000000000) (h : wX_store_59 post (nI d) (fr_i (st_T p q)) (fr_i (st_B p q)) t b) : wpX_store post (t, b) (nI d) (fr_i p) (fr_i q) := by
  unfold st_T st_B at h
  unfold wpX_store
  dsimp only
  refine br_f (fr_ine hq (by omega)) (fr_ble 0 q (fun c => ?_) (fun c => ?_))
  · rw [if_neg (by omega), if_neg (by omega)] at h
    exact st_X16 (by omega) (by omega) (by rw [show (1 : Int32) = fr_i 1 from rfl, fr_im, Int.one_mul]) (by rw [show (1 : Int32) = fr_i 1 from rfl, fr_im, Int.one_mul]) h
  · rw [if_pos (by omega), if_pos (by omega)] at h
    refine st_X16 (p := -p) (q := -q) (by omega) (by omega) (by rw [show (-1 : Int32) = fr_i (-1) from rfl, fr_im, Int.neg_one_mul]) (by rw [show (-1 : Int32) = fr_i (-1) from rfl, fr_im, Int.neg_one_mul]) ?_
    rw [Int.neg_gcd, Int.gcd_neg]
    exact h
theorem st_X0 {post : Int32 → SX → Prop} {t b : Nat → Int32} {d x : Int32} (h : post (-1000001) (t, b)) : wpX_store post (t, b) d x 0 := by
  unfold wpX_store
  dsimp only
  exact br_t rfl h
theorem st_Xy {post : Int32 → SX → Prop} {t b : Nat → Int32} {d : Nat} (hd : d < 4) {p q : Int} (hq : q ≠ 0) (hp : -1000000000 ≤ p ∧ p ≤ 1000000000) (hM : -1000000000 ≤ q ∧ q ≤ 1000000000) (hF : st_F p q) (h : post (nI (ch_l 40 (st_T p q) (st_B p q))) (upd t d (fr_i (st_T p q)), upd b d (fr_i (st_B p q)))) : wpX_store post (t, b) (nI d) (fr_i p) (fr_i q) := by
  have H := st_n hq hp hM
  refine st_X hq hp hM ?_
  unfold wX_store_59
  exact fx_y hF (by omega) (br_f rg_1 ⟨rg_in hd, nm_r (rg_up hd t _) ⟨rg_in hd, nm_r (rg_up hd b _) (cl_X hd pk_us pk_us (st_r hq hp hM hF) h)⟩⟩)
theorem st_Xn {post : Int32 → SX → Prop} {t b : Nat → Int32} {d : Nat} {p q : Int} (hq : q ≠ 0) (hp : -1000000000 ≤ p ∧ p ≤ 1000000000) (hM : -1000000000 ≤ q ∧ q ≤ 1000000000) (hF : ¬ st_F p q) (h : post (-1000002) (t, b)) : wpX_store post (t, b) (nI d) (fr_i p) (fr_i q) := by
  have H := st_n hq hp hM
  refine st_X hq hp hM ?_
  unfold wX_store_59
  exact fx_n hF (by omega) (by omega) (br_t rfl h)
/-! the reference's store -/
theorem st_Y32 {post : Int32 → SY → Prop} {f : Int32} {t b c : Nat → Int32} {d : Nat} (hd : d < 4) {p q : Int} (hp : -1000000000 ≤ p ∧ p ≤ 1000000000) (hq : 0 < q ∧ q ≤ 1000000000) (hy : (-9999 ≤ p / (Int.gcd p q : Int) ∧ p / (Int.gcd p q : Int) ≤ 9999 ∧ q / (Int.gcd p q : Int) ≤ 9999) → post 1 (f, upd t d (fr_i (p / (Int.gcd p q : Int))), upd b d (fr_i (q / (Int.gcd p q : Int))), c)) (hn : ¬ (-9999 ≤ p / (Int.gcd p q : Int) ∧ p / (Int.gcd p q : Int) ≤ 9999 ∧ q / (Int.gcd p q : Int) ≤ 9999) → post 0 (f, t, b, c)) : wY_store_32 post (nI d) (fr_l p) (fr_l q) f t b c := by
  have G := st_g (p := p) hq.1
  have P := st_b (M := 1000000000) G.1 G.2.2.1 hp
  unfold wY_store_32
  refine gd_cY (by omega) (by omega) ⟨fr_lne (by omega) (by omega), nm_r (fr_ld (by omega) (by omega)) ⟨fr_lne (by omega) (by omega), nm_r (fr_ld (by omega) (by omega)) ?_⟩⟩
  rw [G.2.2.2.2.2.2.1, G.2.2.2.2.2.2.2]
  refine fr_lblt (p / (Int.gcd p q : Int)) (-9999) (fun c => hn (by omega)) (fun c1 => fr_lblt 9999 (p / (Int.gcd p q : Int)) (fun c => hn (by omega)) (fun c2 => fr_lble (q / (Int.gcd p q : Int)) 9999 (fun c3 => ⟨rg_in hd, nm_r ?_ ⟨rg_in hd, nm_r ?_ (hy (by omega))⟩⟩) (fun c => hn (by omega))))
  · rw [rg_up hd, fr_li (by omega)]
  · rw [rg_up hd, fr_li (by omega)]
theorem st_Y {post : Int32 → SY → Prop} {f : Int32} {t b c : Nat → Int32} {d : Nat} (hd : d < 4) {p q : Int} (hq : q ≠ 0) (hp : -1000000000 ≤ p ∧ p ≤ 1000000000) (hM : -1000000000 ≤ q ∧ q ≤ 1000000000) (hy : st_F p q → post 1 (f, upd t d (fr_i (st_T p q)), upd b d (fr_i (st_B p q)), c)) (hn : ¬ st_F p q → post 0 (f, t, b, c)) : wpY_store post (f, t, b, c) (nI d) (fr_l p) (fr_l q) := by
  unfold st_F st_T st_B at hy hn
  unfold wpY_store
  dsimp only
  refine fr_lble 0 q (fun c => ?_) (fun c => ?_)
  · rw [if_neg (by omega), if_neg (by omega)] at hy hn
    exact fr_lble 0 q (fun _ => st_Y32 hd hp (by omega) hy hn) (fun c => absurd c (by omega))
  · rw [if_pos (by omega), if_pos (by omega)] at hy hn
    refine fr_lble 0 q (fun c => absurd c (by omega)) (fun _ => ?_)
    rw [show (0 : Int64) = fr_l 0 from rfl, fr_ls, fr_ls, Int.zero_sub, Int.zero_sub]
    refine st_Y32 (p := -p) (q := -q) hd (by omega) (by omega) ?_ ?_
    · rw [Int.neg_gcd, Int.gcd_neg]; exact hy
    · rw [Int.neg_gcd, Int.gcd_neg]; exact hn
theorem st_Yy {post : Int32 → SY → Prop} {f : Int32} {t b c : Nat → Int32} {d : Nat} (hd : d < 4) {p q : Int} (hq : q ≠ 0) (hp : -1000000000 ≤ p ∧ p ≤ 1000000000) (hM : -1000000000 ≤ q ∧ q ≤ 1000000000) (hF : st_F p q) (h : post 1 (f, upd t d (fr_i (st_T p q)), upd b d (fr_i (st_B p q)), c)) : wpY_store post (f, t, b, c) (nI d) (fr_l p) (fr_l q) :=
  st_Y hd hq hp hM (fun _ => h) (fun n => absurd hF n)
theorem st_Yn {post : Int32 → SY → Prop} {f : Int32} {t b c : Nat → Int32} {d : Nat} (hd : d < 4) {p q : Int} (hq : q ≠ 0) (hp : -1000000000 ≤ p ∧ p ≤ 1000000000) (hM : -1000000000 ≤ q ∧ q ≤ 1000000000) (hF : ¬ st_F p q) (h : post 0 (f, t, b, c)) : wpY_store post (f, t, b, c) (nI d) (fr_l p) (fr_l q) :=
  st_Y hd hq hp hM (fun n => absurd n hF) (fun _ => h)
end
section
/-! the relation; the constructors; set, top, bottom, terms, term, compare -/
def rl_R (t b : Nat → Int32) : Prop := ∀ j, j < 4 → ∃ T B : Int, t j = fr_i T ∧ b j = fr_i B ∧ st_R T B
/-- both keep the same fractions, in the document's range; what the reference's chain holds between calls doesn't matter -/
def i_Rel (_ : Nat) (u : SX) (v : SY) : Prop := ∃ (t b : Nat → Int32) (f : Int32) (c : Nat → Int32), u = (t, b) ∧ v = (f, t, b, c) ∧ rl_R t b
theorem i_up {k : Nat} {u : SX} {v : SY} (h : i_Rel k u v) : i_Rel (k + 5) u v := h
theorem rl_i {k : Nat} {t b : Nat → Int32} {f : Int32} {c : Nat → Int32} (h : rl_R t b) : i_Rel k (t, b) (f, t, b, c) := ⟨t, b, f, c, rfl, rfl, h⟩
theorem rl_u {t b : Nat → Int32} {d : Nat} {T B : Int} (h : rl_R t b) (hr : st_R T B) : rl_R (upd t d (fr_i T)) (upd b d (fr_i B)) := by
  intro j hj
  by_cases e : j = d
  · subst e
    exact ⟨T, B, pk_us, pk_us, hr⟩
  · obtain ⟨T', B', h1, h2, h3⟩ := h j hj
    exact ⟨T', B', by rw [pk_un e]; exact h1, by rw [pk_un e]; exact h2, h3⟩
theorem in_X {post : SX → Prop} {t b : Nat → Int32} (n j : Nat) (hj : j < 4) (h : wX_init_20 post n (nI (j + 1)) t (upd b j 1)) : wX_init_20 post (n + 1) (nI j) t b :=
  br_f (nI_ge (b := 4) hj (by omega)) ⟨rg_in hj, nm_r (rg_up hj b 1) (nm_r (nI_1 j) h)⟩
theorem in_Xe {post : SX → Prop} {t b : Nat → Int32} (h : post (t, b)) : wX_init_20 post 1 (nI 4) t b :=
  br_t (nI_le (a := 4) (Nat.le_refl 4) (by omega)) h
theorem in_Y {post : SY → Prop} {f : Int32} {t b c : Nat → Int32} (n j : Nat) (hj : j < 4) (h : wY_init_28 post f n (nI (j + 1)) t (upd b j 1) c) : wY_init_28 post f (n + 1) (nI j) t b c :=
  br_f (nI_ge (b := 4) hj (by omega)) ⟨rg_in hj, nm_r (rg_up hj b 1) (nm_r (nI_1 j) h)⟩
theorem in_Ye {post : SY → Prop} {f : Int32} {t b c : Nat → Int32} (h : post (f, t, b, c)) : wY_init_28 post f 1 (nI 4) t b c :=
  br_t (nI_le (a := 4) (Nat.le_refl 4) (by omega)) h
theorem in_R : rl_R (fun _ => 0) (upd (upd (upd (upd (fun _ => 0) 0 1) 1 1) 2 1) 3 1) := by
  intro j hj
  refine ⟨0, 1, rfl, ?_, by unfold st_R; omega⟩
  obtain rfl | rfl | rfl | rfl : j = 0 ∨ j = 1 ∨ j = 2 ∨ j = 3 := by omega
  all_goals rfl
theorem i_vc0 : wpX_init (fun u => wpY_init (fun v => i_Rel 0 u v)) :=
  ⟨5, in_X 4 0 (by omega) (in_X 3 1 (by omega) (in_X 2 2 (by omega) (in_X 1 3 (by omega) (in_Xe ⟨5, in_Y 4 0 (by omega) (in_Y 3 1 (by omega) (in_Y 2 2 (by omega) (in_Y 1 3 (by omega) (in_Ye (rl_i in_R)))))⟩))))⟩
theorem fr_ex (v : Int32) : ∃ P : Int, (-2147483648 ≤ P ∧ P < 2147483648) ∧ v = fr_i P := by
  have h1 := Int32.le_toInt v
  have h2 := Int32.toInt_lt v
  exact ⟨v.toInt, by omega, fr_iof v⟩
theorem se_n1 : narrow .boolean (.int 1) = .int 1 := rfl
theorem se_Yn {post : Int32 → SY → Prop} {f : Int32} {t b c : Nat → Int32} {j : Nat} (hj : j < 4) {P Q : Int} (hP : -2147483648 ≤ P ∧ P < 2147483648) (hQ : -2147483648 ≤ Q ∧ Q < 2147483648) (g : ¬ st_R P Q) (h : post 0 (f, t, b, c)) : wpY_set post (f, t, b, c) (nI j) (fr_i P) (fr_i Q) := by
  unfold st_R at g
  unfold wpY_set
  dsimp only
  exact rg_Yy hj (br_f rg_1 (fr_blt P (-9999) (fun _ => h) (fun _ => fr_blt 9999 P (fun _ => h) (fun _ => fr_blt Q 1 (fun _ => h) (fun _ => fr_ble Q 9999 (fun _ => absurd (show -9999 ≤ P ∧ P ≤ 9999 ∧ 1 ≤ Q ∧ Q ≤ 9999 by omega) g) (fun _ => h))))))
theorem se_Yy {post : Int32 → SY → Prop} {f : Int32} {t b c : Nat → Int32} {j : Nat} (hj : j < 4) {P Q : Int} (g : st_R P Q) (h : post 1 (f, upd t j (fr_i (st_T P Q)), upd b j (fr_i (st_B P Q)), c)) : wpY_set post (f, t, b, c) (nI j) (fr_i P) (fr_i Q) := by
  unfold st_R at g
  unfold wpY_set
  dsimp only
  refine rg_Yy hj (br_f rg_1 (fr_blt P (-9999) (fun c => absurd c (by omega)) (fun _ => fr_blt 9999 P (fun c => absurd c (by omega)) (fun _ => fr_blt Q 1 (fun c => absurd c (by omega)) (fun _ => fr_ble Q 9999 (fun _ => ?_) (fun c => absurd c (by omega)))))))
  rw [fr_il (by omega), fr_il (by omega)]
  exact st_Yy hj (by omega) (by omega) (by omega) (st_fit (by omega) (by omega) (by omega)) ⟨se_n1, h⟩
theorem i_vc_set {k : Nat} {u : SX} {v : SY} (I : i_Rel k u v) (hk : k + 5 ≤ 2560) (v1 : Int32) (v2 : Int32) (v3 : Int32) : wpX_set (fun r u' => wpY_set (fun r' v' => r' = r ∧ i_Rel (k + 5) u' v') v v1 v2 v3) u v1 v2 v3 := by
  obtain ⟨t, b, f, c, rfl, rfl, R⟩ := I
  obtain ⟨P, hP, rfl⟩ := fr_ex v2
  obtain ⟨Q, hQ, rfl⟩ := fr_ex v3
  unfold wpX_set
  dsimp only
  rcases rg_c v1 with h | ⟨j, hj, rfl⟩
  · refine rg_Xn h (br_t rfl ?_)
    unfold wpY_set
    dsimp only
    exact rg_Yn h (br_t rfl ⟨rfl, rl_i R⟩)
  · by_cases g : st_R P Q
    · have g' := g
      unfold st_R at g'
      refine rg_Xy hj (br_f rg_1 (fr_blt Q 1 (fun c => absurd c (by omega)) (fun _ => fx_y (by omega) (by omega) (br_f rg_1 (st_Xy hj (by omega) (by omega) (by omega) (st_fit (by omega) (by omega) (by omega)) ?_)))))
      exact se_Yy hj g ⟨rfl, rl_i (rl_u R (st_r (by omega) (by omega) (by omega) (st_fit (by omega) (by omega) (by omega))))⟩
    · have g' := g
      unfold st_R at g'
      have K := se_Yn (post := fun r' v' => r' = 0 ∧ i_Rel (k + 5) (t, b) v') (f := f) (t := t) (b := b) (c := c) hj hP hQ g ⟨rfl, rl_i R⟩
      exact rg_Xy hj (br_f rg_1 (fr_blt Q 1 (fun _ => K) (fun _ => fx_n (by omega) (by omega) (by omega) (br_t rfl K))))
theorem i_vc_top {k : Nat} {u : SX} {v : SY} (I : i_Rel k u v) (hk : k + 5 ≤ 2560) (v1 : Int32) : wpX_top (fun r => wpY_top (fun r' => r' = r ∧ i_Rel (k + 5) u v) v v1) u v1 := by
  obtain ⟨t, b, f, c, rfl, rfl, R⟩ := I
  unfold wpX_top wpY_top
  dsimp only
  rcases rg_c v1 with h | ⟨j, hj, rfl⟩
  · exact rg_Xn h (br_t rfl (rg_Yn h (br_t rfl ⟨rfl, rl_i R⟩)))
  · exact rg_Xy hj (br_f rg_1 ⟨rg_in hj, rg_Yy hj (br_f rg_1 ⟨rg_in hj, rfl, rl_i R⟩)⟩)
theorem i_vc_bottom {k : Nat} {u : SX} {v : SY} (I : i_Rel k u v) (hk : k + 5 ≤ 2560) (v1 : Int32) : wpX_bottom (fun r => wpY_bottom (fun r' => r' = r ∧ i_Rel (k + 5) u v) v v1) u v1 := by
  obtain ⟨t, b, f, c, rfl, rfl, R⟩ := I
  unfold wpX_bottom wpY_bottom
  dsimp only
  rcases rg_c v1 with h | ⟨j, hj, rfl⟩
  · exact rg_Xn h (br_t rfl (rg_Yn h (br_t rfl ⟨rfl, rl_i R⟩)))
  · exact rg_Xy hj (br_f rg_1 ⟨rg_in hj, rg_Yy hj (br_f rg_1 ⟨rg_in hj, rfl, rl_i R⟩)⟩)
theorem i_vc_terms {k : Nat} {u : SX} {v : SY} (I : i_Rel k u v) (hk : k + 5 ≤ 2560) (v1 : Int32) : wpX_terms (fun r => wpY_terms (fun r' v' => r' = r ∧ i_Rel (k + 5) u v') v v1) u v1 := by
  obtain ⟨t, b, f, c, rfl, rfl, R⟩ := I
  unfold wpX_terms
  dsimp only
  rcases rg_c v1 with h | ⟨j, hj, rfl⟩
  · refine rg_Xn h (br_t rfl ?_)
    unfold wpY_terms
    dsimp only
    exact rg_Yn h (br_t rfl ⟨rfl, rl_i R⟩)
  · obtain ⟨T, B, ht, hb, hr⟩ := R j hj
    exact rg_Xy hj (br_f rg_1 (cl_X hj ht hb hr (tm_Y hj ht hb hr (fun c' => ⟨rfl, rl_i R⟩))))
theorem te_l {T B : Int} : ch_l 40 T B < 41 := Nat.lt_succ_of_le (ch_le 40 T B)
theorem i_vc_term {k : Nat} {u : SX} {v : SY} (I : i_Rel k u v) (hk : k + 5 ≤ 2560) (v1 : Int32) (v2 : Int32) : wpX_term (fun r => wpY_term (fun r' v' => r' = r ∧ i_Rel (k + 5) u v') v v1 v2) u v1 v2 := by
  obtain ⟨t, b, f, c, rfl, rfl, R⟩ := I
  unfold wpX_term wpY_term
  dsimp only
  rcases rg_c v1 with h | ⟨j, hj, rfl⟩
  · exact rg_Xn h (br_t rfl (rg_Yn h (br_t rfl ⟨rfl, rl_i R⟩)))
  · obtain ⟨T, B, ht, hb, hr⟩ := R j hj
    have hr' := hr
    unfold st_R at hr'
    have hl := te_l (T := T) (B := B)
    refine rg_Xy hj (br_f rg_1 ?_)
    by_cases h0 : v2 < 0
    · refine br_f (fun z => absurd h0 (Int32.not_lt.mpr z)) (rg_Yy hj (br_f rg_1 (cl_Y hj ht hb hr (fun c' _ => ?_))))
      exact br_t h0 ⟨rfl, rl_i R⟩
    · obtain ⟨i, hi, rfl⟩ := nI_of h0
      refine br_t (Int32.not_lt.mp h0) ⟨rg_in hj, nm_r ((rg_at hj t).trans ht) ⟨rg_in hj, nm_r ((rg_at hj b).trans hb) ⟨41, ?_⟩⟩⟩
      refine ch_Xt hi 40 T B i 0 41 (ch_e40 (by omega)) (by omega) (by omega) (by omega) (by omega) (fun c1 => ?_) (fun c1 => ?_)
      · refine rg_Yy hj (br_f rg_1 (cl_Y hj ht hb hr (fun c' hc => ?_)))
        refine br_f h0 (pk_le (ch_l 40 T B) i (fun c => absurd c (by omega)) (fun _ => ⟨vp_in_nI (by omega) (by omega), ?_, rl_i R⟩))
        rw [nI_clamp hi]
        exact hc i c1
      · refine rg_Yy hj (br_f rg_1 (cl_Y hj ht hb hr (fun c' hc => ?_)))
        exact br_f h0 (pk_le (ch_l 40 T B) i (fun _ => ⟨rfl, rl_i R⟩) (fun c => absurd c (by omega)))
theorem mu_b {a b : Int} {M N : Nat} (ha : a.natAbs ≤ M) (hb : b.natAbs ≤ N) : (a * b).natAbs ≤ M * N := by
  rw [Int.natAbs_mul]
  exact Nat.mul_le_mul ha hb
theorem mu_9 {a b : Int} (ha : -9999 ≤ a ∧ a ≤ 9999) (hb : -9999 ≤ b ∧ b ≤ 9999) : -99980001 ≤ a * b ∧ a * b ≤ 99980001 := by
  have h := mu_b (a := a) (b := b) (M := 9999) (N := 9999) (by omega) (by omega)
  omega
/-- how a / b and c / d stand -/
def od_c (x y : Int) : Int32 := if x < y then -1 else if y < x then 1 else 0
theorem od_X {post : Int32 → Prop} {t b : Nat → Int32} {i j : Nat} (hi : i < 4) (hj : j < 4) {T B T' B' : Int} (ht : t i = fr_i T) (hb : b i = fr_i B) (hr : st_R T B) (ht' : t j = fr_i T') (hb' : b j = fr_i B') (hr' : st_R T' B') (h : post (od_c (T * B') (T' * B))) : wpX_order post (t, b) (nI i) (nI j) := by
  unfold st_R at hr hr'
  have m1 := mu_9 (a := T) (b := B') (by omega) (by omega)
  have m2 := mu_9 (a := T') (b := B) (by omega) (by omega)
  unfold od_c at h
  unfold wpX_order
  dsimp only
  refine ⟨rg_in hi, rg_in hj, nm_r (by rw [rg_at hi t, rg_at hj b, ht, hb', fr_im]) ⟨rg_in hj, rg_in hi, nm_r (by rw [rg_at hj t, rg_at hi b, ht', hb, fr_im]) ?_⟩⟩
  refine fr_beq (T * B') (T' * B) (fun c => ?_) (fun c => fr_ble (T' * B) (T * B') (fun c2 => ?_) (fun c2 => ?_))
  · rw [if_neg (by omega), if_neg (by omega)] at h; exact h
  · rw [if_neg (by omega), if_pos (by omega)] at h; exact h
  · rw [if_pos (by omega)] at h; exact h
theorem od_Y {post : Int32 → Prop} {f : Int32} {t b c : Nat → Int32} {i j : Nat} (hi : i < 4) (hj : j < 4) {T B T' B' : Int} (ht : t i = fr_i T) (hb : b i = fr_i B) (hr : st_R T B) (ht' : t j = fr_i T') (hb' : b j = fr_i B') (hr' : st_R T' B') (h : post (od_c (T * B') (T' * B))) : wpY_compare post (f, t, b, c) (nI i) (nI j) := by
  unfold st_R at hr hr'
  have m1 := mu_9 (a := T) (b := B') (by omega) (by omega)
  have m2 := mu_9 (a := T') (b := B) (by omega) (by omega)
  unfold od_c at h
  unfold wpY_compare
  dsimp only
  refine rg_Yy hi (br_f rg_1 (rg_Yy hj (br_f rg_1 ⟨rg_in hi, rg_in hj, nm_r (by rw [rg_at hi t, rg_at hj b, ht, hb', fr_il (by omega), fr_il (by omega), fr_lm]) ⟨rg_in hj, rg_in hi, nm_r (by rw [rg_at hj t, rg_at hi b, ht', hb, fr_il (by omega), fr_il (by omega), fr_lm]) ?_⟩⟩)))
  refine fr_lble (T' * B) (T * B') (fun c => fr_lble (T * B') (T' * B) (fun c2 => ?_) (fun c2 => ?_)) (fun c => ?_)
  · rw [if_neg (by omega), if_neg (by omega)] at h; exact h
  · rw [if_neg (by omega), if_pos (by omega)] at h; exact h
  · rw [if_pos (by omega)] at h; exact h
theorem i_vc_compare {k : Nat} {u : SX} {v : SY} (I : i_Rel k u v) (hk : k + 5 ≤ 2560) (v1 : Int32) (v2 : Int32) : wpX_compare (fun r => wpY_compare (fun r' => r' = r ∧ i_Rel (k + 5) u v) v v1 v2) u v1 v2 := by
  obtain ⟨t, b, f, c, rfl, rfl, R⟩ := I
  unfold wpX_compare
  dsimp only
  rcases rg_c v1 with h | ⟨i, hi, rfl⟩
  · refine rg_Xn h (br_t rfl ?_)
    unfold wpY_compare
    dsimp only
    exact rg_Yn h (br_t rfl ⟨rfl, rl_i R⟩)
  · rcases rg_c v2 with h | ⟨j, hj, rfl⟩
    · refine rg_Xy hi (br_f rg_1 (rg_Xn h (br_t rfl ?_)))
      unfold wpY_compare
      dsimp only
      exact rg_Yy hi (br_f rg_1 (rg_Yn h (br_t rfl ⟨rfl, rl_i R⟩)))
    · obtain ⟨T, B, ht, hb, hr⟩ := R i hi
      obtain ⟨T', B', ht', hb', hr'⟩ := R j hj
      exact rg_Xy hi (br_f rg_1 (rg_Xy hj (br_f rg_1 (od_X hi hj ht hb hr ht' hb' hr' (od_Y hi hj ht hb hr ht' hb' hr' ⟨rfl, rl_i R⟩)))))
end
section
/-! apply: the reference's walk to its store, one theorem an operation -/
theorem ap_195n {post : Int32 → SY → Prop} {x2 : Int32} {f : Int32} {t b c : Nat → Int32} (h : post (-1000002) (f, t, b, c)) : wY_apply_195 post x2 0 f t b c := by
  unfold wY_apply_195
  exact br_t rfl h
theorem ap_195y {post : Int32 → SY → Prop} {f : Int32} {t b c : Nat → Int32} {d : Nat} (hd : d < 4) {T B : Int} (ht : t d = fr_i T) (hb : b d = fr_i B) (hr : st_R T B) (h : ∀ c' : Nat → Int32, post (nI (ch_l 40 T B)) (nI (ch_l 40 T B), t, b, c')) : wY_apply_195 post (nI d) 1 f t b c := by
  unfold wY_apply_195
  exact br_f rg_1 (tm_Y hd ht hb hr h)
theorem ap_173 {post : Int32 → SY → Prop} {x1 x2 : Int32} {x5 x7 x9 x11 : Int64} {r : Int32} {f : Int32} {t b c : Nat → Int32} (h3 : ¬ x1 = 3) (h : wY_apply_195 post x2 r f t b c) : wY_apply_173 post x1 x2 x5 x7 x9 x11 r f t b c := by
  unfold wY_apply_173
  exact br_f h3 h
theorem ap_151 {post : Int32 → SY → Prop} {x1 x2 : Int32} {x5 x7 x9 x11 : Int64} {r : Int32} {f : Int32} {t b c : Nat → Int32} (h2 : ¬ x1 = 2) (h : wY_apply_173 post x1 x2 x5 x7 x9 x11 r f t b c) : wY_apply_151 post x1 x2 x5 x7 x9 x11 r f t b c := by
  unfold wY_apply_151
  exact br_f h2 h
theorem ap_123 {post : Int32 → SY → Prop} {x1 x2 : Int32} {x5 x7 x9 x11 : Int64} {r : Int32} {f : Int32} {t b c : Nat → Int32} (h1 : ¬ x1 = 1) (h : wY_apply_151 post x1 x2 x5 x7 x9 x11 r f t b c) : wY_apply_123 post x1 x2 x5 x7 x9 x11 r f t b c := by
  unfold wY_apply_123
  exact br_f h1 h
/-- X's store, then whatever the reference does -/
theorem ap_X {post : Int32 → SX → Prop} {t b : Nat → Int32} {d : Nat} (hd : d < 4) {P Q : Int} (hP : -1000000000 ≤ P ∧ P ≤ 1000000000) (hQ : -1000000000 ≤ Q ∧ Q ≤ 1000000000) (h0 : Q = 0 → post (-1000001) (t, b)) (hy : Q ≠ 0 → st_F P Q → post (nI (ch_l 40 (st_T P Q) (st_B P Q))) (upd t d (fr_i (st_T P Q)), upd b d (fr_i (st_B P Q)))) (hn : Q ≠ 0 → ¬ st_F P Q → post (-1000002) (t, b)) : wpX_store post (t, b) (nI d) (fr_i P) (fr_i Q) := by
  by_cases q0 : Q = 0
  · subst q0
    exact st_X0 (h0 rfl)
  · by_cases hF : st_F P Q
    · exact st_Xy hd q0 hP hQ hF (hy q0 hF)
    · exact st_Xn q0 hP hQ hF (hn q0 hF)
/-- the reference's store, then apply's end -/
theorem ap_Y {post : Int32 → SY → Prop} {f : Int32} {t b c : Nat → Int32} {d : Nat} (hd : d < 4) {P Q : Int} (hP : -1000000000 ≤ P ∧ P ≤ 1000000000) (hQ : -1000000000 ≤ Q ∧ Q ≤ 1000000000) (q0 : Q ≠ 0) {K : Int32 → SY → Prop} (hK : ∀ r f t b c, wY_apply_195 post (nI d) r f t b c → K r (f, t, b, c)) (hy : st_F P Q → ∀ c' : Nat → Int32, post (nI (ch_l 40 (st_T P Q) (st_B P Q))) (nI (ch_l 40 (st_T P Q) (st_B P Q)), upd t d (fr_i (st_T P Q)), upd b d (fr_i (st_B P Q)), c')) (hn : ¬ st_F P Q → post (-1000002) (f, t, b, c)) : wpY_store K (f, t, b, c) (nI d) (fr_l P) (fr_l Q) :=
  st_Y hd q0 hP hQ (fun hF => hK _ _ _ _ _ (ap_195y hd pk_us pk_us (st_r q0 hP hQ hF) (hy hF))) (fun hF => hK _ _ _ _ _ (ap_195n (hn hF)))
theorem ap_Y0 {post : Int32 → SY → Prop} {f : Int32} {t b c : Nat → Int32} {d i j : Nat} (hd : d < 4) (hi : i < 4) (hj : j < 4) {T B T' B' : Int} (ht : t i = fr_i T) (hb : b i = fr_i B) (hr : st_R T B) (ht' : t j = fr_i T') (hb' : b j = fr_i B') (hr' : st_R T' B') (hP : -1000000000 ≤ T * B' + T' * B ∧ T * B' + T' * B ≤ 1000000000) (hQ : -1000000000 ≤ B * B' ∧ B * B' ≤ 1000000000) (q0 : B * B' ≠ 0) (hy : st_F (T * B' + T' * B) (B * B') → ∀ c' : Nat → Int32, post (nI (ch_l 40 (st_T (T * B' + T' * B) (B * B')) (st_B (T * B' + T' * B) (B * B')))) (nI (ch_l 40 (st_T (T * B' + T' * B) (B * B')) (st_B (T * B' + T' * B) (B * B'))), upd t d (fr_i (st_T (T * B' + T' * B) (B * B'))), upd b d (fr_i (st_B (T * B' + T' * B) (B * B'))), c')) (hn : ¬ st_F (T * B' + T' * B) (B * B') → post (-1000002) (f, t, b, c)) : wY_apply_55 post 0 (nI d) (nI i) (nI j) f t b c := by
  unfold st_R at hr hr'
  unfold wY_apply_55
  refine ⟨rg_in hi, nm_r (by rw [rg_at hi t, ht, fr_il (by omega)]) ⟨rg_in hi, nm_r (by rw [rg_at hi b, hb, fr_il (by omega)]) ⟨rg_in hj, nm_r (by rw [rg_at hj t, ht', fr_il (by omega)]) ⟨rg_in hj, nm_r (by rw [rg_at hj b, hb', fr_il (by omega)]) ?_⟩⟩⟩⟩
  refine br_t rfl ?_
  rw [fr_lm, fr_lm, fr_lm, fr_la]
  exact ap_Y hd hP hQ q0 (fun r f t b c z => ap_123 (by decide) (ap_151 (by decide) (ap_173 (by decide) z))) hy hn
theorem ap_Y1 {post : Int32 → SY → Prop} {f : Int32} {t b c : Nat → Int32} {d i j : Nat} (hd : d < 4) (hi : i < 4) (hj : j < 4) {T B T' B' : Int} (ht : t i = fr_i T) (hb : b i = fr_i B) (hr : st_R T B) (ht' : t j = fr_i T') (hb' : b j = fr_i B') (hr' : st_R T' B') (hP : -1000000000 ≤ T * B' - T' * B ∧ T * B' - T' * B ≤ 1000000000) (hQ : -1000000000 ≤ B * B' ∧ B * B' ≤ 1000000000) (q0 : B * B' ≠ 0) (hy : st_F (T * B' - T' * B) (B * B') → ∀ c' : Nat → Int32, post (nI (ch_l 40 (st_T (T * B' - T' * B) (B * B')) (st_B (T * B' - T' * B) (B * B')))) (nI (ch_l 40 (st_T (T * B' - T' * B) (B * B')) (st_B (T * B' - T' * B) (B * B'))), upd t d (fr_i (st_T (T * B' - T' * B) (B * B'))), upd b d (fr_i (st_B (T * B' - T' * B) (B * B'))), c')) (hn : ¬ st_F (T * B' - T' * B) (B * B') → post (-1000002) (f, t, b, c)) : wY_apply_55 post 1 (nI d) (nI i) (nI j) f t b c := by
  unfold st_R at hr hr'
  unfold wY_apply_55
  refine ⟨rg_in hi, nm_r (by rw [rg_at hi t, ht, fr_il (by omega)]) ⟨rg_in hi, nm_r (by rw [rg_at hi b, hb, fr_il (by omega)]) ⟨rg_in hj, nm_r (by rw [rg_at hj t, ht', fr_il (by omega)]) ⟨rg_in hj, nm_r (by rw [rg_at hj b, hb', fr_il (by omega)]) ?_⟩⟩⟩⟩
  refine br_f (by decide) ?_
  unfold wY_apply_123
  refine br_t rfl ?_
  rw [fr_lm, fr_lm, fr_lm, fr_ls]
  exact ap_Y hd hP hQ q0 (fun r f t b c z => ap_151 (by decide) (ap_173 (by decide) z)) hy hn
theorem ap_Y2 {post : Int32 → SY → Prop} {f : Int32} {t b c : Nat → Int32} {d i j : Nat} (hd : d < 4) (hi : i < 4) (hj : j < 4) {T B T' B' : Int} (ht : t i = fr_i T) (hb : b i = fr_i B) (hr : st_R T B) (ht' : t j = fr_i T') (hb' : b j = fr_i B') (hr' : st_R T' B') (hP : -1000000000 ≤ T * T' ∧ T * T' ≤ 1000000000) (hQ : -1000000000 ≤ B * B' ∧ B * B' ≤ 1000000000) (q0 : B * B' ≠ 0) (hy : st_F (T * T') (B * B') → ∀ c' : Nat → Int32, post (nI (ch_l 40 (st_T (T * T') (B * B')) (st_B (T * T') (B * B')))) (nI (ch_l 40 (st_T (T * T') (B * B')) (st_B (T * T') (B * B'))), upd t d (fr_i (st_T (T * T') (B * B'))), upd b d (fr_i (st_B (T * T') (B * B'))), c')) (hn : ¬ st_F (T * T') (B * B') → post (-1000002) (f, t, b, c)) : wY_apply_55 post 2 (nI d) (nI i) (nI j) f t b c := by
  unfold st_R at hr hr'
  unfold wY_apply_55
  refine ⟨rg_in hi, nm_r (by rw [rg_at hi t, ht, fr_il (by omega)]) ⟨rg_in hi, nm_r (by rw [rg_at hi b, hb, fr_il (by omega)]) ⟨rg_in hj, nm_r (by rw [rg_at hj t, ht', fr_il (by omega)]) ⟨rg_in hj, nm_r (by rw [rg_at hj b, hb', fr_il (by omega)]) ?_⟩⟩⟩⟩
  refine br_f (by decide) (ap_123 (by decide) ?_)
  unfold wY_apply_151
  refine br_t rfl ?_
  rw [fr_lm, fr_lm]
  exact ap_Y hd hP hQ q0 (fun r f t b c z => ap_173 (by decide) z) hy hn
theorem ap_Y3 {post : Int32 → SY → Prop} {f : Int32} {t b c : Nat → Int32} {d i j : Nat} (hd : d < 4) (hi : i < 4) (hj : j < 4) {T B T' B' : Int} (ht : t i = fr_i T) (hb : b i = fr_i B) (hr : st_R T B) (ht' : t j = fr_i T') (hb' : b j = fr_i B') (hr' : st_R T' B') (hP : -1000000000 ≤ T * B' ∧ T * B' ≤ 1000000000) (hQ : -1000000000 ≤ B * T' ∧ B * T' ≤ 1000000000) (q0 : B * T' ≠ 0) (hy : st_F (T * B') (B * T') → ∀ c' : Nat → Int32, post (nI (ch_l 40 (st_T (T * B') (B * T')) (st_B (T * B') (B * T')))) (nI (ch_l 40 (st_T (T * B') (B * T')) (st_B (T * B') (B * T'))), upd t d (fr_i (st_T (T * B') (B * T'))), upd b d (fr_i (st_B (T * B') (B * T'))), c')) (hn : ¬ st_F (T * B') (B * T') → post (-1000002) (f, t, b, c)) : wY_apply_55 post 3 (nI d) (nI i) (nI j) f t b c := by
  unfold st_R at hr hr'
  unfold wY_apply_55
  refine ⟨rg_in hi, nm_r (by rw [rg_at hi t, ht, fr_il (by omega)]) ⟨rg_in hi, nm_r (by rw [rg_at hi b, hb, fr_il (by omega)]) ⟨rg_in hj, nm_r (by rw [rg_at hj t, ht', fr_il (by omega)]) ⟨rg_in hj, nm_r (by rw [rg_at hj b, hb', fr_il (by omega)]) ?_⟩⟩⟩⟩
  refine br_f (by decide) (ap_123 (by decide) (ap_151 (by decide) ?_))
  unfold wY_apply_173
  refine br_t rfl ?_
  rw [fr_lm, fr_lm]
  exact ap_Y hd hP hQ q0 (fun r f t b c z => z) hy hn
/-! refusals: each call of isRegister that says no -/
theorem ap_Yb {post : Int32 → SY → Prop} {f : Int32} {t b c : Nat → Int32} {v1 v2 v3 v4 : Int32} (g : ¬ (∃ o d i j : Nat, o < 4 ∧ d < 4 ∧ i < 4 ∧ j < 4 ∧ v1 = nI o ∧ v2 = nI d ∧ v3 = nI i ∧ v4 = nI j)) (h : post (-1000000) (f, t, b, c)) : wpY_apply post (f, t, b, c) v1 v2 v3 v4 := by
  unfold wpY_apply
  dsimp only
  refine br_c (fun _ => h) (fun n0 => br_c (fun _ => h) (fun n3 => ?_))
  rcases rg_c v2 with h2 | ⟨d, hd, rfl⟩
  · exact rg_Yn h2 (br_t rfl h)
  · rcases rg_c v3 with h3 | ⟨i, hi, rfl⟩
    · exact rg_Yy hd (br_f rg_1 (rg_Yn h3 (br_t rfl h)))
    · rcases rg_c v4 with h4 | ⟨j, hj, rfl⟩
      · exact rg_Yy hd (br_f rg_1 (rg_Yy hi (br_f rg_1 (rg_Yn h4 (br_t rfl h)))))
      · obtain ⟨o, ho, rfl⟩ := nI_of n0
        have z : ¬ 3 < o := fun z => n3 (nI_lt (a := 3) z ho)
        exact absurd ⟨o, d, i, j, by omega, hd, hi, hj, rfl, rfl, rfl, rfl⟩ g
theorem ap_Xb {post : Int32 → SX → Prop} {t b : Nat → Int32} {v1 v2 v3 v4 : Int32} (g : ¬ (∃ o d i j : Nat, o < 4 ∧ d < 4 ∧ i < 4 ∧ j < 4 ∧ v1 = nI o ∧ v2 = nI d ∧ v3 = nI i ∧ v4 = nI j)) (h : post (-1000000) (t, b)) : wpX_apply post (t, b) v1 v2 v3 v4 := by
  unfold wpX_apply
  dsimp only
  refine br_c (fun _ => h) (fun n0 => br_c (fun _ => h) (fun n3 => ?_))
  rcases rg_c v2 with h2 | ⟨d, hd, rfl⟩
  · exact rg_Xn h2 (br_t rfl h)
  · rcases rg_c v3 with h3 | ⟨i, hi, rfl⟩
    · exact rg_Xy hd (br_f rg_1 (rg_Xn h3 (br_t rfl h)))
    · rcases rg_c v4 with h4 | ⟨j, hj, rfl⟩
      · exact rg_Xy hd (br_f rg_1 (rg_Xy hi (br_f rg_1 (rg_Xn h4 (br_t rfl h)))))
      · obtain ⟨o, ho, rfl⟩ := nI_of n0
        have z : ¬ 3 < o := fun z => n3 (nI_lt (a := 3) z ho)
        exact absurd ⟨o, d, i, j, by omega, hd, hi, hj, rfl, rfl, rfl, rfl⟩ g
theorem ap_X0 {post : Int32 → SX → Prop} {t b : Nat → Int32} {d i j : Nat} (hd : d < 4) (hi : i < 4) (hj : j < 4) {T B T' B' : Int} (ht : t i = fr_i T) (hb : b i = fr_i B) (hr : st_R T B) (ht' : t j = fr_i T') (hb' : b j = fr_i B') (hr' : st_R T' B') (h : wpX_store post (t, b) (nI d) (fr_i (T * B' + T' * B)) (fr_i (B * B'))) : wpX_apply post (t, b) 0 (nI d) (nI i) (nI j) := by
  unfold wpX_apply
  dsimp only
  refine br_f (by decide) (br_f (by decide) (rg_Xy hd (br_f rg_1 (rg_Xy hi (br_f rg_1 (rg_Xy hj (br_f rg_1 ?_)))))))
  refine ⟨rg_in hi, nm_r ((rg_at hi t).trans ht) ⟨rg_in hi, nm_r ((rg_at hi b).trans hb) ⟨rg_in hj, nm_r ((rg_at hj t).trans ht') ⟨rg_in hj, nm_r ((rg_at hj b).trans hb') ?_⟩⟩⟩⟩
  refine br_f (by decide) (br_f (by decide) (br_t rfl ?_))
  rw [fr_im, fr_im, fr_im, fr_ia]
  exact h
theorem ap_X1 {post : Int32 → SX → Prop} {t b : Nat → Int32} {d i j : Nat} (hd : d < 4) (hi : i < 4) (hj : j < 4) {T B T' B' : Int} (ht : t i = fr_i T) (hb : b i = fr_i B) (hr : st_R T B) (ht' : t j = fr_i T') (hb' : b j = fr_i B') (hr' : st_R T' B') (h : wpX_store post (t, b) (nI d) (fr_i (T * B' - T' * B)) (fr_i (B * B'))) : wpX_apply post (t, b) 1 (nI d) (nI i) (nI j) := by
  unfold wpX_apply
  dsimp only
  refine br_f (by decide) (br_f (by decide) (rg_Xy hd (br_f rg_1 (rg_Xy hi (br_f rg_1 (rg_Xy hj (br_f rg_1 ?_)))))))
  refine ⟨rg_in hi, nm_r ((rg_at hi t).trans ht) ⟨rg_in hi, nm_r ((rg_at hi b).trans hb) ⟨rg_in hj, nm_r ((rg_at hj t).trans ht') ⟨rg_in hj, nm_r ((rg_at hj b).trans hb') ?_⟩⟩⟩⟩
  refine br_f (by decide) (br_f (by decide) (br_f (by decide) (br_t rfl ?_)))
  rw [fr_im, fr_im, fr_im, fr_is]
  exact h
theorem ap_X2 {post : Int32 → SX → Prop} {t b : Nat → Int32} {d i j : Nat} (hd : d < 4) (hi : i < 4) (hj : j < 4) {T B T' B' : Int} (ht : t i = fr_i T) (hb : b i = fr_i B) (hr : st_R T B) (ht' : t j = fr_i T') (hb' : b j = fr_i B') (hr' : st_R T' B') (h : wpX_store post (t, b) (nI d) (fr_i (T * T')) (fr_i (B * B'))) : wpX_apply post (t, b) 2 (nI d) (nI i) (nI j) := by
  unfold wpX_apply
  dsimp only
  refine br_f (by decide) (br_f (by decide) (rg_Xy hd (br_f rg_1 (rg_Xy hi (br_f rg_1 (rg_Xy hj (br_f rg_1 ?_)))))))
  refine ⟨rg_in hi, nm_r ((rg_at hi t).trans ht) ⟨rg_in hi, nm_r ((rg_at hi b).trans hb) ⟨rg_in hj, nm_r ((rg_at hj t).trans ht') ⟨rg_in hj, nm_r ((rg_at hj b).trans hb') ?_⟩⟩⟩⟩
  refine br_f (by decide) (br_f (by decide) (br_f (by decide) (br_f (by decide) (br_t rfl ?_))))
  rw [fr_im, fr_im]
  exact h
theorem ap_X3 {post : Int32 → SX → Prop} {t b : Nat → Int32} {d i j : Nat} (hd : d < 4) (hi : i < 4) (hj : j < 4) {T B T' B' : Int} (ht : t i = fr_i T) (hb : b i = fr_i B) (hr : st_R T B) (ht' : t j = fr_i T') (hb' : b j = fr_i B') (hr' : st_R T' B') (h : wpX_store post (t, b) (nI d) (fr_i (T * B')) (fr_i (B * T'))) : wpX_apply post (t, b) 3 (nI d) (nI i) (nI j) := by
  unfold wpX_apply
  dsimp only
  refine br_f (by decide) (br_f (by decide) (rg_Xy hd (br_f rg_1 (rg_Xy hi (br_f rg_1 (rg_Xy hj (br_f rg_1 ?_)))))))
  refine ⟨rg_in hi, nm_r ((rg_at hi t).trans ht) ⟨rg_in hi, nm_r ((rg_at hi b).trans hb) ⟨rg_in hj, nm_r ((rg_at hj t).trans ht') ⟨rg_in hj, nm_r ((rg_at hj b).trans hb') ?_⟩⟩⟩⟩
  refine br_f (by decide) (br_t (by decide) ?_)
  rw [fr_im, fr_im]
  exact h
theorem ap_Yr {post : Int32 → SY → Prop} {f : Int32} {t b c : Nat → Int32} {x : Int32} {d i j : Nat} (hd : d < 4) (hi : i < 4) (hj : j < 4) (h0 : ¬ x < 0) (h3 : ¬ 3 < x) (hn : x = 3 → t j = 0 → post (-1000001) (f, t, b, c)) (hy : (x = 3 → ¬ t j = 0) → wY_apply_55 post x (nI d) (nI i) (nI j) f t b c) : wpY_apply post (f, t, b, c) x (nI d) (nI i) (nI j) := by
  unfold wpY_apply
  dsimp only
  refine br_f h0 (br_f h3 (rg_Yy hd (br_f rg_1 (rg_Yy hi (br_f rg_1 (rg_Yy hj (br_f rg_1 ?_)))))))
  rw [rg_at hj t]
  exact br_c (fun e => ⟨rg_in hj, br_c (fun z => hn e z) (fun z => hy (fun _ => z))⟩) (fun e => hy (fun z => absurd z e))
theorem ap_m0 {k : Nat} {f : Int32} {t b c : Nat → Int32} (R : rl_R t b) {d i j : Nat} (hd : d < 4) (hi : i < 4) (hj : j < 4) : wpX_apply (fun r u' => wpY_apply (fun r' v' => r' = r ∧ i_Rel (k + 5) u' v') (f, t, b, c) 0 (nI d) (nI i) (nI j)) (t, b) 0 (nI d) (nI i) (nI j) := by
  obtain ⟨T, B, ht, hb, hr⟩ := R i hi
  obtain ⟨T', B', ht', hb', hr'⟩ := R j hj
  have r1 := hr
  have r2 := hr'
  unfold st_R at r1 r2
  have m1 := mu_9 (a := T) (b := B') (by omega) (by omega)
  have m2 := mu_9 (a := T') (b := B) (by omega) (by omega)
  have m3 := mu_9 (a := T) (b := T') (by omega) (by omega)
  have m4 := mu_9 (a := B) (b := B') (by omega) (by omega)
  have m5 := mu_9 (a := B) (b := T') (by omega) (by omega)
  have m6 : 0 < B * B' := Int.mul_pos (by omega) (by omega)
  have hP : -1000000000 ≤ T * B' + T' * B ∧ T * B' + T' * B ≤ 1000000000 := by omega
  have hQ : -1000000000 ≤ B * B' ∧ B * B' ≤ 1000000000 := by omega
  refine ap_X0 hd hi hj ht hb hr ht' hb' hr' (ap_X hd hP hQ (fun z => absurd z (by omega)) (fun q0 hF => ?_) (fun q0 hF => ?_))
  · exact ap_Yr hd hi hj (by decide) (by decide) (fun z => absurd z (by decide)) (fun _ => ap_Y0 hd hi hj ht hb hr ht' hb' hr' hP hQ q0 (fun _ c' => ⟨rfl, rl_i (rl_u R (st_r q0 hP hQ hF))⟩) (fun n => absurd hF n))
  · exact ap_Yr hd hi hj (by decide) (by decide) (fun z => absurd z (by decide)) (fun _ => ap_Y0 hd hi hj ht hb hr ht' hb' hr' hP hQ q0 (fun n => absurd n hF) (fun _ => ⟨rfl, rl_i R⟩))
theorem ap_m1 {k : Nat} {f : Int32} {t b c : Nat → Int32} (R : rl_R t b) {d i j : Nat} (hd : d < 4) (hi : i < 4) (hj : j < 4) : wpX_apply (fun r u' => wpY_apply (fun r' v' => r' = r ∧ i_Rel (k + 5) u' v') (f, t, b, c) 1 (nI d) (nI i) (nI j)) (t, b) 1 (nI d) (nI i) (nI j) := by
  obtain ⟨T, B, ht, hb, hr⟩ := R i hi
  obtain ⟨T', B', ht', hb', hr'⟩ := R j hj
  have r1 := hr
  have r2 := hr'
  unfold st_R at r1 r2
  have m1 := mu_9 (a := T) (b := B') (by omega) (by omega)
  have m2 := mu_9 (a := T') (b := B) (by omega) (by omega)
  have m3 := mu_9 (a := T) (b := T') (by omega) (by omega)
  have m4 := mu_9 (a := B) (b := B') (by omega) (by omega)
  have m5 := mu_9 (a := B) (b := T') (by omega) (by omega)
  have m6 : 0 < B * B' := Int.mul_pos (by omega) (by omega)
  have hP : -1000000000 ≤ T * B' - T' * B ∧ T * B' - T' * B ≤ 1000000000 := by omega
  have hQ : -1000000000 ≤ B * B' ∧ B * B' ≤ 1000000000 := by omega
  refine ap_X1 hd hi hj ht hb hr ht' hb' hr' (ap_X hd hP hQ (fun z => absurd z (by omega)) (fun q0 hF => ?_) (fun q0 hF => ?_))
  · exact ap_Yr hd hi hj (by decide) (by decide) (fun z => absurd z (by decide)) (fun _ => ap_Y1 hd hi hj ht hb hr ht' hb' hr' hP hQ q0 (fun _ c' => ⟨rfl, rl_i (rl_u R (st_r q0 hP hQ hF))⟩) (fun n => absurd hF n))
  · exact ap_Yr hd hi hj (by decide) (by decide) (fun z => absurd z (by decide)) (fun _ => ap_Y1 hd hi hj ht hb hr ht' hb' hr' hP hQ q0 (fun n => absurd n hF) (fun _ => ⟨rfl, rl_i R⟩))
theorem ap_m2 {k : Nat} {f : Int32} {t b c : Nat → Int32} (R : rl_R t b) {d i j : Nat} (hd : d < 4) (hi : i < 4) (hj : j < 4) : wpX_apply (fun r u' => wpY_apply (fun r' v' => r' = r ∧ i_Rel (k + 5) u' v') (f, t, b, c) 2 (nI d) (nI i) (nI j)) (t, b) 2 (nI d) (nI i) (nI j) := by
  obtain ⟨T, B, ht, hb, hr⟩ := R i hi
  obtain ⟨T', B', ht', hb', hr'⟩ := R j hj
  have r1 := hr
  have r2 := hr'
  unfold st_R at r1 r2
  have m1 := mu_9 (a := T) (b := B') (by omega) (by omega)
  have m2 := mu_9 (a := T') (b := B) (by omega) (by omega)
  have m3 := mu_9 (a := T) (b := T') (by omega) (by omega)
  have m4 := mu_9 (a := B) (b := B') (by omega) (by omega)
  have m5 := mu_9 (a := B) (b := T') (by omega) (by omega)
  have m6 : 0 < B * B' := Int.mul_pos (by omega) (by omega)
  have hP : -1000000000 ≤ T * T' ∧ T * T' ≤ 1000000000 := by omega
  have hQ : -1000000000 ≤ B * B' ∧ B * B' ≤ 1000000000 := by omega
  refine ap_X2 hd hi hj ht hb hr ht' hb' hr' (ap_X hd hP hQ (fun z => absurd z (by omega)) (fun q0 hF => ?_) (fun q0 hF => ?_))
  · exact ap_Yr hd hi hj (by decide) (by decide) (fun z => absurd z (by decide)) (fun _ => ap_Y2 hd hi hj ht hb hr ht' hb' hr' hP hQ q0 (fun _ c' => ⟨rfl, rl_i (rl_u R (st_r q0 hP hQ hF))⟩) (fun n => absurd hF n))
  · exact ap_Yr hd hi hj (by decide) (by decide) (fun z => absurd z (by decide)) (fun _ => ap_Y2 hd hi hj ht hb hr ht' hb' hr' hP hQ q0 (fun n => absurd n hF) (fun _ => ⟨rfl, rl_i R⟩))
theorem ap_m3 {k : Nat} {f : Int32} {t b c : Nat → Int32} (R : rl_R t b) {d i j : Nat} (hd : d < 4) (hi : i < 4) (hj : j < 4) : wpX_apply (fun r u' => wpY_apply (fun r' v' => r' = r ∧ i_Rel (k + 5) u' v') (f, t, b, c) 3 (nI d) (nI i) (nI j)) (t, b) 3 (nI d) (nI i) (nI j) := by
  obtain ⟨T, B, ht, hb, hr⟩ := R i hi
  obtain ⟨T', B', ht', hb', hr'⟩ := R j hj
  have r1 := hr
  have r2 := hr'
  unfold st_R at r1 r2
  have m1 := mu_9 (a := T) (b := B') (by omega) (by omega)
  have m2 := mu_9 (a := T') (b := B) (by omega) (by omega)
  have m3 := mu_9 (a := T) (b := T') (by omega) (by omega)
  have m4 := mu_9 (a := B) (b := B') (by omega) (by omega)
  have m5 := mu_9 (a := B) (b := T') (by omega) (by omega)
  have m6 : 0 < B * B' := Int.mul_pos (by omega) (by omega)
  have hP : -1000000000 ≤ T * B' ∧ T * B' ≤ 1000000000 := by omega
  have hQ : -1000000000 ≤ B * T' ∧ B * T' ≤ 1000000000 := by omega
  have z0 : B * T' = 0 ↔ t j = 0 := by
    rw [ht']
    constructor
    · intro z
      rcases Int.mul_eq_zero.mp z with z | z
      · omega
      · rw [z]; rfl
    · intro z
      by_cases e : T' = 0
      · rw [e, Int.mul_zero]
      · exact absurd z (fr_ine e (by omega))
  refine ap_X3 hd hi hj ht hb hr ht' hb' hr' (ap_X hd hP hQ (fun z => ?_) (fun q0 hF => ?_) (fun q0 hF => ?_))
  · exact ap_Yr hd hi hj (by decide) (by decide) (fun _ _ => ⟨rfl, rl_i R⟩) (fun n => absurd (z0.mp z) (n rfl))
  · exact ap_Yr hd hi hj (by decide) (by decide) (fun _ z => absurd (z0.mpr z) q0) (fun _ => ap_Y3 hd hi hj ht hb hr ht' hb' hr' hP hQ q0 (fun _ c' => ⟨rfl, rl_i (rl_u R (st_r q0 hP hQ hF))⟩) (fun n => absurd hF n))
  · exact ap_Yr hd hi hj (by decide) (by decide) (fun _ z => absurd (z0.mpr z) q0) (fun _ => ap_Y3 hd hi hj ht hb hr ht' hb' hr' hP hQ q0 (fun n => absurd n hF) (fun _ => ⟨rfl, rl_i R⟩))
theorem i_vc_apply {k : Nat} {u : SX} {v : SY} (I : i_Rel k u v) (hk : k + 5 ≤ 2560) (v1 : Int32) (v2 : Int32) (v3 : Int32) (v4 : Int32) : wpX_apply (fun r u' => wpY_apply (fun r' v' => r' = r ∧ i_Rel (k + 5) u' v') v v1 v2 v3 v4) u v1 v2 v3 v4 := by
  obtain ⟨t, b, f, c, rfl, rfl, R⟩ := I
  by_cases g : ∃ o d i j : Nat, o < 4 ∧ d < 4 ∧ i < 4 ∧ j < 4 ∧ v1 = nI o ∧ v2 = nI d ∧ v3 = nI i ∧ v4 = nI j
  · obtain ⟨o, d, i, j, ho, hd, hi, hj, rfl, rfl, rfl, rfl⟩ := g
    obtain rfl | rfl | rfl | rfl : o = 0 ∨ o = 1 ∨ o = 2 ∨ o = 3 := by omega
    · exact ap_m0 R hd hi hj
    · exact ap_m1 R hd hi hj
    · exact ap_m2 R hd hi hj
    · exact ap_m3 R hd hi hj
  · exact ap_Xb g (ap_Yb g ⟨rfl, rl_i R⟩)
end
section
/-! transform -/
theorem tr_d {C D : Int} (hC : 0 ≤ C ∧ C < 9223372036854775808) (hD : 0 < D ∧ D ≤ 1000000000) : fr_l C / fr_l D = fr_l (C / D) := by
  rw [fr_ld (by omega) (by omega), (fr_tq _ _).1 hC.1]
theorem tr_q {C D : Int} (hC : 0 ≤ C ∧ C < 9223372036854775808) (hD : 0 < D ∧ D ≤ 1000000000) : 0 ≤ C / D ∧ C / D < 9223372036854775808 := by
  have h1 : 0 ≤ C / D := Int.ediv_nonneg hC.1 (by omega)
  have h2 : C / D ≤ C := Int.ediv_le_self D hC.1
  omega
theorem tr_r {C : Int} (hC : 0 ≤ C ∧ C < 9223372036854775808) : fr_l C - fr_l C / 1000 * 1000 = fr_l (C % 1000) := by
  rw [show (1000 : Int64) = fr_l 1000 from rfl, tr_d hC (by omega), fr_lm, fr_ls]
  exact congrArg fr_l (by omega)
theorem tr_5 {C : Int} (hC : 0 ≤ C ∧ C < 9223372036854775808) : fr_l C / 1000000000 = fr_l (C / 1000000000) := tr_d (D := 1000000000) hC (by omega)
theorem tr_7 {C : Int} (hC : 0 ≤ C ∧ C < 9223372036854775808) : fr_l C / 1000000 - fr_l C / 1000000 / 1000 * 1000 = fr_l (C / 1000000 % 1000) := by
  rw [show fr_l C / 1000000 = fr_l (C / 1000000) from tr_d (D := 1000000) hC (by omega)]
  exact tr_r (tr_q hC (by omega))
theorem tr_9 {C : Int} (hC : 0 ≤ C ∧ C < 9223372036854775808) : fr_l C / 1000 - fr_l C / 1000 / 1000 * 1000 = fr_l (C / 1000 % 1000) := by
  rw [show fr_l C / 1000 = fr_l (C / 1000) from tr_d (D := 1000) hC (by omega)]
  exact tr_r (tr_q hC (by omega))
theorem fr_lex (v : Int64) : ∃ P : Int, (-9223372036854775808 ≤ P ∧ P < 9223372036854775808) ∧ v = fr_l P := by
  have h1 := Int64.le_toInt v
  have h2 := Int64.toInt_lt v
  exact ⟨v.toInt, by omega, fr_lof v⟩
theorem tr_n9 : ¬ (1000000000 : Int64) = 0 := by decide
theorem tr_n6 : ¬ (1000000 : Int64) = 0 := by decide
theorem tr_n3 : ¬ (1000 : Int64) = 0 := by decide
/-- the reference's end, refused -/
theorem tr_83b {post : Int32 → SY → Prop} {f : Int32} {t b c : Nat → Int32} {v1 v2 : Int32} {x5 x7 x9 x11 : Int64} (h : post (-1000000) (f, t, b, c)) : wY_transform_83 post v1 v2 x5 x7 x9 x11 0 f t b c := by
  unfold wY_transform_83
  rcases rg_c v1 with h1 | ⟨d, hd, rfl⟩
  · exact rg_Yn h1 (br_t rfl h)
  · rcases rg_c v2 with h2 | ⟨i, hi, rfl⟩
    · exact rg_Yy hd (br_f rg_1 (rg_Yn h2 (br_t rfl h)))
    · exact rg_Yy hd (br_f rg_1 (rg_Yy hi (br_f rg_1 (br_t rfl h))))
theorem tr_82b {post : Int32 → SY → Prop} {f : Int32} {t b c : Nat → Int32} {v1 v2 : Int32} {x5 x7 x9 x11 : Int64} (h : post (-1000000) (f, t, b, c)) : wY_transform_82 post v1 v2 x5 x7 x9 x11 f t b c := by
  unfold wY_transform_82
  exact tr_83b h
theorem tr_83r {post : Int32 → SY → Prop} {f : Int32} {t b c : Nat → Int32} {v1 v2 z : Int32} {x5 x7 x9 x11 : Int64} (g : ¬ ∃ d i : Nat, d < 4 ∧ i < 4 ∧ v1 = nI d ∧ v2 = nI i) (h : post (-1000000) (f, t, b, c)) : wY_transform_83 post v1 v2 x5 x7 x9 x11 z f t b c := by
  unfold wY_transform_83
  rcases rg_c v1 with h1 | ⟨d, hd, rfl⟩
  · exact rg_Yn h1 (br_t rfl h)
  · rcases rg_c v2 with h2 | ⟨i, hi, rfl⟩
    · exact rg_Yy hd (br_f rg_1 (rg_Yn h2 (br_t rfl h)))
    · exact absurd ⟨d, i, hd, hi, rfl, rfl⟩ g
/-- refused for a register -/
theorem tr_Yr {post : Int32 → SY → Prop} {f : Int32} {t b c : Nat → Int32} {v1 v2 : Int32} {v3 : Int64} (g : ¬ ∃ d i : Nat, d < 4 ∧ i < 4 ∧ v1 = nI d ∧ v2 = nI i) (h : post (-1000000) (f, t, b, c)) : wpY_transform post (f, t, b, c) v1 v2 v3 := by
  unfold wpY_transform
  dsimp only
  exact ⟨tr_n9, nm_e ⟨tr_n6, tr_n3, nm_e ⟨tr_n3, tr_n3, nm_e ⟨tr_n3, nm_e (br_c (fun _ => tr_82b h) (fun _ => br_c (fun _ => tr_82b h) (fun _ => br_c (fun _ => tr_82b h) (fun _ => br_c (fun _ => tr_82b h) (fun _ => br_c (fun _ => tr_82b h) (fun _ => tr_83r g h))))))⟩⟩⟩⟩
theorem tr_Xr {post : Int32 → SX → Prop} {t b : Nat → Int32} {v1 v2 : Int32} {v3 : Int64} (g : ¬ ∃ d i : Nat, d < 4 ∧ i < 4 ∧ v1 = nI d ∧ v2 = nI i) (h : post (-1000000) (t, b)) : wpX_transform post (t, b) v1 v2 v3 := by
  unfold wpX_transform
  dsimp only
  rcases rg_c v1 with h1 | ⟨d, hd, rfl⟩
  · exact rg_Xn h1 (br_t rfl h)
  · rcases rg_c v2 with h2 | ⟨i, hi, rfl⟩
    · exact rg_Xy hd (br_f rg_1 (rg_Xn h2 (br_t rfl h)))
    · exact absurd ⟨d, i, hd, hi, rfl, rfl⟩ g
/-- a packed number that reads as four coefficients -/
def tr_G (C : Int) : Prop := 0 ≤ C ∧ C ≤ 99099099099 ∧ C / 1000000 % 1000 ≤ 99 ∧ C / 1000 % 1000 ≤ 99 ∧ C % 1000 ≤ 99
theorem tr_Yn {post : Int32 → SY → Prop} {f : Int32} {t b c : Nat → Int32} {v1 v2 : Int32} {C : Int} (hC : -9223372036854775808 ≤ C ∧ C < 9223372036854775808) (g : ¬ tr_G C) (h : post (-1000000) (f, t, b, c)) : wpY_transform post (f, t, b, c) v1 v2 (fr_l C) := by
  unfold wpY_transform
  dsimp only
  by_cases n : C < 0
  · exact ⟨tr_n9, nm_e ⟨tr_n6, tr_n3, nm_e ⟨tr_n3, tr_n3, nm_e ⟨tr_n3, nm_e (fr_lblt C 0 (fun _ => tr_82b h) (fun c => absurd n (by omega)))⟩⟩⟩⟩
  · have hC' : 0 ≤ C ∧ C < 9223372036854775808 := by omega
    refine ⟨tr_n9, nm_r (tr_5 hC') ⟨tr_n6, tr_n3, nm_r (tr_7 hC') ⟨tr_n3, tr_n3, nm_r (tr_9 hC') ⟨tr_n3, nm_r (tr_r hC') ?_⟩⟩⟩⟩
    have q1 := tr_q (D := 1000000000) hC' (by omega)
    refine fr_lblt C 0 (fun c => absurd c n) (fun _ => fr_lblt 99 (C / 1000000000) (fun _ => tr_82b h) (fun c1 => fr_lblt 99 (C / 1000000 % 1000) (fun _ => tr_82b h) (fun c2 => fr_lblt 99 (C / 1000 % 1000) (fun _ => tr_82b h) (fun c3 => fr_lblt 99 (C % 1000) (fun _ => tr_82b h) (fun c4 => ?_)))))
    exact absurd (show tr_G C from ⟨by omega, by omega, by omega, by omega, by omega⟩) g
theorem tr_Yy {post : Int32 → SY → Prop} {f : Int32} {t b c : Nat → Int32} {d i : Nat} (hd : d < 4) (hi : i < 4) {C : Int} (g : tr_G C) {T B : Int} (ht : t i = fr_i T) (hb : b i = fr_i B) (hr : st_R T B) (hP : -1000000000 ≤ C / 1000000000 * T + C / 1000000 % 1000 * B ∧ C / 1000000000 * T + C / 1000000 % 1000 * B ≤ 1000000000) (hQ : -1000000000 ≤ C / 1000 % 1000 * T + C % 1000 * B ∧ C / 1000 % 1000 * T + C % 1000 * B ≤ 1000000000) (h0 : C / 1000 % 1000 * T + C % 1000 * B = 0 → post (-1000001) (f, t, b, c)) (hy : C / 1000 % 1000 * T + C % 1000 * B ≠ 0 → st_F (C / 1000000000 * T + C / 1000000 % 1000 * B) (C / 1000 % 1000 * T + C % 1000 * B) → ∀ c' : Nat → Int32, post (nI (ch_l 40 (st_T (C / 1000000000 * T + C / 1000000 % 1000 * B) (C / 1000 % 1000 * T + C % 1000 * B)) (st_B (C / 1000000000 * T + C / 1000000 % 1000 * B) (C / 1000 % 1000 * T + C % 1000 * B)))) (nI (ch_l 40 (st_T (C / 1000000000 * T + C / 1000000 % 1000 * B) (C / 1000 % 1000 * T + C % 1000 * B)) (st_B (C / 1000000000 * T + C / 1000000 % 1000 * B) (C / 1000 % 1000 * T + C % 1000 * B))), upd t d (fr_i (st_T (C / 1000000000 * T + C / 1000000 % 1000 * B) (C / 1000 % 1000 * T + C % 1000 * B))), upd b d (fr_i (st_B (C / 1000000000 * T + C / 1000000 % 1000 * B) (C / 1000 % 1000 * T + C % 1000 * B))), c')) (hn : C / 1000 % 1000 * T + C % 1000 * B ≠ 0 → ¬ st_F (C / 1000000000 * T + C / 1000000 % 1000 * B) (C / 1000 % 1000 * T + C % 1000 * B) → post (-1000002) (f, t, b, c)) : wpY_transform post (f, t, b, c) (nI d) (nI i) (fr_l C) := by
  unfold st_R at hr
  unfold tr_G at g
  unfold wpY_transform
  dsimp only
  have hC' : 0 ≤ C ∧ C < 9223372036854775808 := by omega
  refine ⟨tr_n9, nm_r (tr_5 hC') ⟨tr_n6, tr_n3, nm_r (tr_7 hC') ⟨tr_n3, tr_n3, nm_r (tr_9 hC') ⟨tr_n3, nm_r (tr_r hC') ?_⟩⟩⟩⟩
  have q1 : 0 ≤ C / 1000000000 ∧ C / 1000000000 ≤ 99 := by omega
  refine fr_lblt C 0 (fun c => absurd c (by omega)) (fun _ => fr_lblt 99 (C / 1000000000) (fun c => absurd c (by omega)) (fun c1 => fr_lblt 99 (C / 1000000 % 1000) (fun c => absurd c (by omega)) (fun c2 => fr_lblt 99 (C / 1000 % 1000) (fun c => absurd c (by omega)) (fun c3 => fr_lblt 99 (C % 1000) (fun c => absurd c (by omega)) (fun c4 => ?_)))))
  clear c1 c2 c3 c4
  unfold wY_transform_83
  generalize C / 1000000000 = K at *
  generalize C / 1000000 % 1000 = L at *
  generalize C / 1000 % 1000 = M at *
  generalize C % 1000 = N at *
  rw [rg_at hi t, rg_at hi b, ht, hb, fr_il (by omega), fr_il (by omega)]
  refine rg_Yy hd (br_f rg_1 (rg_Yy hi (br_f rg_1 (br_f rg_1 ⟨rg_in hi, rg_in hi, nm_r (by rw [fr_lm, fr_lm, fr_la]) ?_⟩))))
  refine fr_lbeq (M * T + N * B) 0 (fun z => h0 z) (fun z => ⟨rg_in hi, rg_in hi, ?_⟩)
  rw [fr_lm, fr_lm, fr_la]
  refine st_Y hd z hP hQ (fun hF => br_f rg_1 ?_) (fun hF => br_t rfl (hn z hF))
  exact tm_Y hd pk_us pk_us (st_r z hP hQ hF) (hy z hF)
/-- X's walk -/
theorem tr_Xn {post : Int32 → SX → Prop} {t b : Nat → Int32} {d i : Nat} (hd : d < 4) (hi : i < 4) {C : Int} (hC : -9223372036854775808 ≤ C ∧ C < 9223372036854775808) (g : ¬ tr_G C) (h : post (-1000000) (t, b)) : wpX_transform post (t, b) (nI d) (nI i) (fr_l C) := by
  unfold wpX_transform
  dsimp only
  refine rg_Xy hd (br_f rg_1 (rg_Xy hi (br_f rg_1 ?_)))
  refine fr_lblt C 0 (fun _ => h) (fun n => fr_lble C 99099099099 (fun c => ?_) (fun _ => h))
  have hC' : 0 ≤ C ∧ C < 9223372036854775808 := by omega
  refine ⟨tr_n9, nm_r (by rw [tr_5 hC', fr_li (by omega)]) ⟨tr_n6, tr_n3, nm_r (by rw [tr_7 hC', fr_li (by omega)]) ⟨tr_n3, tr_n3, nm_r (by rw [tr_9 hC', fr_li (by omega)]) ⟨tr_n3, nm_r (by rw [tr_r hC', fr_li (by omega)]) ?_⟩⟩⟩⟩
  refine fr_blt 99 (C / 1000000 % 1000) (fun _ => h) (fun c2 => fr_blt 99 (C / 1000 % 1000) (fun _ => h) (fun c3 => fr_ble (C % 1000) 99 (fun c4 => ?_) (fun _ => h)))
  exact absurd (show tr_G C from ⟨by omega, by omega, by omega, by omega, by omega⟩) g
theorem tr_Xy {post : Int32 → SX → Prop} {t b : Nat → Int32} {d i : Nat} (hd : d < 4) (hi : i < 4) {C : Int} (g : tr_G C) {T B : Int} (ht : t i = fr_i T) (hb : b i = fr_i B) (h : wpX_store post (t, b) (nI d) (fr_i (C / 1000000000 * T + C / 1000000 % 1000 * B)) (fr_i (C / 1000 % 1000 * T + C % 1000 * B))) : wpX_transform post (t, b) (nI d) (nI i) (fr_l C) := by
  unfold tr_G at g
  unfold wpX_transform
  dsimp only
  refine rg_Xy hd (br_f rg_1 (rg_Xy hi (br_f rg_1 ?_)))
  refine fr_lblt C 0 (fun c => absurd c (by omega)) (fun n => fr_lble C 99099099099 (fun c => ?_) (fun c => absurd c (by omega)))
  have hC' : 0 ≤ C ∧ C < 9223372036854775808 := by omega
  refine ⟨tr_n9, nm_r (by rw [tr_5 hC', fr_li (by omega)]) ⟨tr_n6, tr_n3, nm_r (by rw [tr_7 hC', fr_li (by omega)]) ⟨tr_n3, tr_n3, nm_r (by rw [tr_9 hC', fr_li (by omega)]) ⟨tr_n3, nm_r (by rw [tr_r hC', fr_li (by omega)]) ?_⟩⟩⟩⟩
  refine fr_blt 99 (C / 1000000 % 1000) (fun c => absurd c (by omega)) (fun c2 => fr_blt 99 (C / 1000 % 1000) (fun c => absurd c (by omega)) (fun c3 => fr_ble (C % 1000) 99 (fun c4 => ?_) (fun c => absurd c (by omega))))
  refine ⟨rg_in hi, nm_r ((rg_at hi t).trans ht) ⟨rg_in hi, nm_r ((rg_at hi b).trans hb) ?_⟩⟩
  rw [fr_im, fr_im, fr_im, fr_im, fr_ia, fr_ia]
  exact h
theorem tr_m {a b : Int} (ha : 0 ≤ a ∧ a ≤ 99) (hb : -9999 ≤ b ∧ b ≤ 9999) : -989901 ≤ a * b ∧ a * b ≤ 989901 := by
  have h := mu_b (a := a) (b := b) (M := 99) (N := 9999) (by omega) (by omega)
  omega
theorem i_vc_transform {k : Nat} {u : SX} {v : SY} (I : i_Rel k u v) (hk : k + 5 ≤ 2560) (v1 : Int32) (v2 : Int32) (a2 : Int64) : wpX_transform (fun r u' => wpY_transform (fun r' v' => r' = r ∧ i_Rel (k + 5) u' v') v v1 v2 a2) u v1 v2 a2 := by
  obtain ⟨t, b, f, c, rfl, rfl, R⟩ := I
  obtain ⟨C, hC, rfl⟩ := fr_lex a2
  by_cases q : ∃ d i : Nat, d < 4 ∧ i < 4 ∧ v1 = nI d ∧ v2 = nI i
  · obtain ⟨d, i, hd, hi, rfl, rfl⟩ := q
    by_cases g : tr_G C
    · obtain ⟨T, B, ht, hb, hr⟩ := R i hi
      have r1 := hr
      unfold st_R at r1
      have g1 := g
      unfold tr_G at g1
      have m1 := tr_m (a := C / 1000000000) (b := T) (by omega) (by omega)
      have m2 := tr_m (a := C / 1000000 % 1000) (b := B) (by omega) (by omega)
      have m3 := tr_m (a := C / 1000 % 1000) (b := T) (by omega) (by omega)
      have m4 := tr_m (a := C % 1000) (b := B) (by omega) (by omega)
      have hP : -1000000000 ≤ C / 1000000000 * T + C / 1000000 % 1000 * B ∧ C / 1000000000 * T + C / 1000000 % 1000 * B ≤ 1000000000 := by omega
      have hQ : -1000000000 ≤ C / 1000 % 1000 * T + C % 1000 * B ∧ C / 1000 % 1000 * T + C % 1000 * B ≤ 1000000000 := by omega
      refine tr_Xy hd hi g ht hb (ap_X hd hP hQ (fun z => ?_) (fun q0 hF => ?_) (fun q0 hF => ?_))
      · exact tr_Yy hd hi g ht hb hr hP hQ (fun _ => ⟨rfl, rl_i R⟩) (fun n => absurd z n) (fun n => absurd z n)
      · exact tr_Yy hd hi g ht hb hr hP hQ (fun z => absurd z q0) (fun _ _ c' => ⟨rfl, rl_i (rl_u R (st_r q0 hP hQ hF))⟩) (fun _ n => absurd hF n)
      · exact tr_Yy hd hi g ht hb hr hP hQ (fun z => absurd z q0) (fun _ n => absurd n hF) (fun _ _ => ⟨rfl, rl_i R⟩)
    · exact tr_Xn hd hi hC g (tr_Yn hC g ⟨rfl, rl_i R⟩)
  · exact tr_Xr q (tr_Yr q ⟨rfl, rl_i R⟩)
end
section
/-! between: the least denominator; bw_f p q x is the least whole number that is at least p x / q -/
def bw_f (p q x : Int) : Int := -((-p * x) / q)
theorem bw_ge {p q x : Int} (hq : 0 < q) : p * x ≤ bw_f p q x * q := by
  have h := fr_dm (p := -p * x) hq
  unfold bw_f
  rw [Int.neg_mul] at h ⊢
  rw [Int.neg_mul]
  omega
theorem bw_le {p q x n : Int} (hq : 0 < q) (h : p * x ≤ n * q) : bw_f p q x ≤ n := by
  have h1 : -n ≤ (-p * x) / q := (Int.le_ediv_iff_mul_le hq).mpr (by rw [Int.neg_mul, Int.neg_mul]; omega)
  unfold bw_f
  omega
theorem bw_q {p q : Int} (hq : 0 < q) : bw_f p q q = p := by
  unfold bw_f
  rw [Int.mul_ediv_cancel _ (by omega), Int.neg_neg]
/-- it fits -/
theorem bw_b {p q x : Int} (hq : 0 < q) (hp : -9999 ≤ p ∧ p ≤ 9999) (hx : 1 ≤ x ∧ x ≤ q) : -9999 ≤ bw_f p q x ∧ bw_f p q x ≤ 9999 := by
  have g := bw_ge (p := p) (x := x) hq
  by_cases h0 : 0 ≤ p
  · have h1 : bw_f p q x ≤ p := bw_le hq (Int.mul_le_mul_of_nonneg_left hx.2 h0)
    have h2 : 0 ≤ p * x := Int.mul_nonneg h0 (by omega)
    have h3 : 0 ≤ bw_f p q x := by
      rcases Int.lt_or_le (bw_f p q x) 0 with z | z
      · have := Int.mul_neg_of_neg_of_pos z hq
        omega
      · exact z
    omega
  · have h1 : p * x ≤ 0 := Int.mul_nonpos_of_nonpos_of_nonneg (by omega) (by omega)
    have h2 : bw_f p q x ≤ 0 := bw_le hq (by rw [Int.zero_mul]; exact h1)
    have h3 : p * q ≤ p * x := Int.mul_le_mul_of_nonpos_left (by omega) hx.2
    have h4 : p ≤ bw_f p q x := by
      rcases Int.lt_or_le (bw_f p q x) p with z | z
      · have := Int.mul_lt_mul_of_pos_right z hq
        omega
      · exact z
    omega
/-- the denominator x serves -/
def bw_o (p q r s x : Int) : Prop := bw_f p q x * s ≤ r * x
/-- the least one that serves -/
theorem bw_m {p q r s : Int} (hq : 1 ≤ q) (h : p * s ≤ r * q) : ∃ m : Nat, 1 ≤ m ∧ (m : Int) ≤ q ∧ bw_o p q r s m ∧ ∀ x : Int, 1 ≤ x → x < m → ¬ bw_o p q r s x := by
  have hq' : ∃ k : Nat, 1 ≤ k ∧ bw_o p q r s k := ⟨q.toNat, by omega, by
    have e : ((q.toNat : Nat) : Int) = q := by omega
    unfold bw_o
    rw [e, bw_q (by omega)]
    exact h⟩
  obtain ⟨m, hm, hl⟩ := pk_least (fun k => 1 ≤ k ∧ bw_o p q r s k) hq'
  refine ⟨m, hm.1, ?_, hm.2, fun x h1 h2 h3 => ?_⟩
  · rcases Int.lt_or_le q m with z | z
    · refine absurd ⟨show 1 ≤ q.toNat by omega, ?_⟩ (hl q.toNat (by omega))
      have e : ((q.toNat : Nat) : Int) = q := by omega
      unfold bw_o
      rw [e, bw_q (by omega)]
      exact h
    · exact z
  · have e : ((x.toNat : Nat) : Int) = x := by omega
    refine absurd ⟨show 1 ≤ x.toNat by omega, ?_⟩ (hl x.toNat (by omega))
    rw [e]
    exact h3
/-- at the least one nothing can be cut -/
theorem bw_g {p q r s m : Int} (hq : 1 ≤ q) (hs : 1 ≤ s) (h1 : 1 ≤ m) (ho : bw_o p q r s m) (hl : ∀ x : Int, 1 ≤ x → x < m → ¬ bw_o p q r s x) : (Int.gcd (bw_f p q m) m : Int) = 1 := by
  have G := st_g (p := bw_f p q m) (q := m) (by omega)
  have F := bw_ge (p := p) (x := m) (q := q) (by omega)
  unfold bw_o at ho
  generalize (Int.gcd (bw_f p q m) m : Int) = g at G ⊢
  generalize bw_f p q m / g = L at G
  generalize hM : m / g = M at G
  obtain ⟨g1, _, eL, eM, M1, M2, _, _⟩ := G
  rcases Int.lt_or_le 1 g with z | z
  · exfalso
    have lt : M < m := by
      have : M * 1 < M * g := Int.mul_lt_mul_of_pos_left z (by omega)
      omega
    refine hl M M1 lt ?_
    unfold bw_o
    rw [← eL, ← eM] at ho F
    have F' : p * M ≤ L * q := by
      refine Int.le_of_mul_le_mul_right (a := g) ?_ (by omega)
      have e1 : p * M * g = p * (M * g) := Int.mul_assoc ..
      have e2 : L * q * g = L * g * q := by rw [Int.mul_assoc, Int.mul_comm q g, ← Int.mul_assoc]
      rw [e1, e2]
      exact F
    have O' : L * s ≤ r * M := by
      refine Int.le_of_mul_le_mul_right (a := g) ?_ (by omega)
      have e1 : r * M * g = r * (M * g) := Int.mul_assoc ..
      have e2 : L * s * g = L * g * s := by rw [Int.mul_assoc, Int.mul_comm s g, ← Int.mul_assoc]
      rw [e1, e2]
      exact ho
    have := Int.mul_le_mul_of_nonneg_right (bw_le (p := p) (x := M) (n := L) (q := q) (by omega) F') (show 0 ≤ s by omega)
    omega
  · omega
theorem bw_s {P m : Int} (h1 : 1 ≤ m) (g : (Int.gcd P m : Int) = 1) : st_T P m = P ∧ st_B P m = m := by
  unfold st_T st_B
  rw [g, if_neg (by omega), if_neg (by omega), Int.ediv_one, Int.ediv_one]
  exact ⟨rfl, rfl⟩
/-- a floor of between, X's and the reference's argument -/
theorem bw_a (p x : Int) : -fr_i p * fr_i x = fr_i (-p * x) := by rw [fr_in, fr_im]
theorem bw_r (p q x : Int) : -fr_i (-p * x / q) = fr_i (bw_f p q x) := by rw [fr_in]; rfl
/-- X's loop -/
theorem bw_X {post : Int32 → SX → Prop} {t b : Nat → Int32} {d h : Nat} (hd : d < 4) (hh : h < 4) {p q r s : Int} (hp : st_R p q) (hr : st_R r s) (ht : t h = fr_i r) (hb : b h = fr_i s) {m : Nat} (m1 : 1 ≤ m) (mq : (m : Int) ≤ q) (ho : bw_o p q r s m) (hl : ∀ x : Int, 1 ≤ x → x < m → ¬ bw_o p q r s x) (H : post (fr_i m) (upd t d (fr_i (bw_f p q m)), upd b d (fr_i m))) : ∀ (e x n : Nat), x + e = m → e < n → 1 ≤ x → wX_between_85 post (nI d) (nI h) (fr_i p) (fr_i q) t b n (fr_i x) := by
  unfold st_R at hp hr
  have hB := bw_b (p := p) (q := q) (x := m) (by omega) (by omega) (by omega)
  have hG := bw_g (p := p) (q := q) (r := r) (s := s) (m := m) (by omega) (by omega) (by omega) ho hl
  have hS := bw_s (P := bw_f p q m) (m := m) (by omega) hG
  have K : ∀ P : Int32 → SX → Prop, (∀ z, P z (upd t d (fr_i (bw_f p q m)), upd b d (fr_i m))) → wpX_store P (t, b) (nI d) (fr_i (bw_f p q m)) (fr_i m) := by
    intro P hP
    refine st_Xy hd (by omega) (by omega) (by omega) (st_fit (by omega) (by omega) (by omega)) ?_
    rw [hS.1, hS.2]
    exact hP _
  intro e
  induction e with
  | zero =>
    intro x n hx hn h1
    obtain rfl : x = m := by omega
    obtain ⟨n, rfl⟩ : ∃ i, n = i + 1 := ⟨n - 1, by omega⟩
    refine fr_ble q x (fun c => ?_) (fun c => ?_)
    · have e : q = (x : Int) := by omega
      have z : p = bw_f p q x := by rw [← e, bw_q (by omega)]
      have K' := K (fun r_18 u => post (fr_i x) u) (fun _ => H)
      rw [← z, ← e] at K'
      exact K'
    · have mx := mu_9 (a := -p) (b := x) (by omega) (by omega)
      rw [bw_a]
      refine fr_fX (by omega) (by omega) (nm_r (bw_r p q x) ⟨rg_in hh, rg_in hh, ?_⟩)
      rw [rg_at hh t, rg_at hh b, ht, hb, fr_im, fr_im]
      have b1 := mu_9 (a := r) (b := x) (by omega) (by omega)
      have b2 := mu_9 (a := bw_f p q x) (b := s) (by omega) (by omega)
      unfold bw_o at ho
      exact fr_blt (r * x) (bw_f p q x * s) (fun c => absurd c (by omega)) (fun _ => K (fun r_27 u => post (fr_i x) u) (fun _ => H))
  | succ e ih =>
    intro x n hx hn h1
    obtain ⟨n, rfl⟩ : ∃ i, n = i + 1 := ⟨n - 1, by omega⟩
    have mx := mu_9 (a := -p) (b := x) (by omega) (by omega)
    have no := hl x (by omega) (by omega)
    have bx := bw_b (p := p) (q := q) (x := x) (by omega) (by omega) (by omega)
    refine fr_ble q x (fun c => absurd c (by omega)) (fun c => ?_)
    rw [bw_a]
    refine fr_fX (by omega) (by omega) (nm_r (bw_r p q x) ⟨rg_in hh, rg_in hh, ?_⟩)
    rw [rg_at hh t, rg_at hh b, ht, hb, fr_im, fr_im]
    have b1 := mu_9 (a := r) (b := x) (by omega) (by omega)
    have b2 := mu_9 (a := bw_f p q x) (b := s) (by omega) (by omega)
    unfold bw_o at no
    refine fr_blt (r * x) (bw_f p q x * s) (fun _ => nm_r (show fr_i x + 1 = fr_i ((x + 1 : Nat) : Int) from fr_ia x 1) ?_) (fun c => absurd c (by omega))
    exact ih (x + 1) n (by omega) (by omega) (by omega)
/-- the reference's loop -/
theorem bw_Y {post : Int32 → SY → Prop} {f : Int32} {t b c : Nat → Int32} {d l h : Nat} (hd : d < 4) (hll : l < 4) (hh : h < 4) {p q r s : Int} (hp : st_R p q) (htl : t l = fr_i p) (hbl : b l = fr_i q) (hr : st_R r s) (ht : t h = fr_i r) (hb : b h = fr_i s) {m : Nat} (m1 : 1 ≤ m) (mq : (m : Int) ≤ q) (ho : bw_o p q r s m) (hl : ∀ x : Int, 1 ≤ x → x < m → ¬ bw_o p q r s x) (H : post (fr_i m) (f, upd t d (fr_i (bw_f p q m)), upd b d (fr_i m), c)) : ∀ (e x n : Nat), x + e = m → e < n → 1 ≤ x → wY_between_62 post (nI d) (nI l) (nI h) f t b c n (fr_i x) := by
  unfold st_R at hp hr
  have hB := bw_b (p := p) (q := q) (x := m) (by omega) (by omega) (by omega)
  have hG := bw_g (p := p) (q := q) (r := r) (s := s) (m := m) (by omega) (by omega) (by omega) ho hl
  have hS := bw_s (P := bw_f p q m) (m := m) (by omega) hG
  have K : ∀ P : Int32 → SY → Prop, (∀ z, P z (f, upd t d (fr_i (bw_f p q m)), upd b d (fr_i m), c)) → wpY_store P (f, t, b, c) (nI d) (fr_l (bw_f p q m)) (fr_l m) := by
    intro P hP
    refine st_Yy hd (by omega) (by omega) (by omega) (st_fit (by omega) (by omega) (by omega)) ?_
    rw [hS.1, hS.2]
    exact hP _
  have S : ∀ (x n : Nat), 1 ≤ x → (x : Int) ≤ q → (r * x < bw_f p q x * s → wY_between_62 post (nI d) (nI l) (nI h) f t b c n (fr_i ((x + 1 : Nat) : Int))) → (bw_f p q x * s ≤ r * x → wpY_store (fun r_44 u => match u with | (f_45, t_46, b_47, c_48) => (vp_in (nI d) 4 ∧ (post (b_47 (nI d).toNatClampNeg) (f_45, t_46, b_47, c_48)))) (f, t, b, c) (nI d) (fr_l (bw_f p q x)) (fr_l x)) → wY_between_62 post (nI d) (nI l) (nI h) f t b c (n + 1) (fr_i x) := by
    intro x n h1 h2 A Z
    have mx := mu_9 (a := -p) (b := x) (by omega) (by omega)
    have bx := bw_b (p := p) (q := q) (x := x) (by omega) (by omega) (by omega)
    have b1 := mu_9 (a := r) (b := x) (by omega) (by omega)
    have b2 := mu_9 (a := bw_f p q x) (b := s) (by omega) (by omega)
    refine fr_blt 9999 x (fun c => absurd c (by omega)) (fun _ => ⟨rg_in hll, rg_in hll, ?_⟩)
    rw [rg_at hll t, rg_at hll b, htl, hbl, bw_a]
    refine fr_fY (by omega) (by omega) (nm_r (bw_r p q x) ⟨rg_in hh, rg_in hh, ?_⟩)
    rw [rg_at hh t, rg_at hh b, ht, hb, fr_il (by omega), fr_il (by omega), fr_il (by omega), fr_il (by omega), fr_lm, fr_lm]
    exact fr_lblt (r * x) (bw_f p q x * s) (fun z => nm_r (show fr_i x + 1 = fr_i ((x + 1 : Nat) : Int) from fr_ia x 1) (A z)) (fun z => Z z)
  intro e
  induction e with
  | zero =>
    intro x n hx hn h1
    obtain rfl : x = m := by omega
    obtain ⟨n, rfl⟩ : ∃ i, n = i + 1 := ⟨n - 1, by omega⟩
    refine S x n (by omega) (by omega) (fun z => absurd z (by unfold bw_o at ho; omega)) (fun _ => K _ (fun _ => ⟨rg_in hd, ?_⟩))
    rw [rg_at hd (upd b d (fr_i x)), pk_us]
    exact H
  | succ e ih =>
    intro x n hx hn h1
    obtain ⟨n, rfl⟩ : ∃ i, n = i + 1 := ⟨n - 1, by omega⟩
    have no := hl x (by omega) (by omega)
    exact S x n (by omega) (by omega) (fun _ => ih (x + 1) n (by omega) (by omega) (by omega)) (fun z => absurd z no)
/-- both loops from their starts, low and high known -/
theorem bw_j {k : Nat} {f : Int32} {t b c : Nat → Int32} (R : rl_R t b) {d l h : Nat} (hd : d < 4) (hll : l < 4) (hh : h < 4) {p q r s : Int} (hp : st_R p q) (htl : t l = fr_i p) (hbl : b l = fr_i q) (hr : st_R r s) (ht : t h = fr_i r) (hb : b h = fr_i s) (hle : p * s ≤ r * q) : ∃ m : Nat, (m : Int) ≤ q ∧ (∀ post : Int32 → SX → Prop, post (fr_i m) (upd t d (fr_i (bw_f p q m)), upd b d (fr_i m)) → wX_between_62 post (nI d) (nI l) (nI h) t b) ∧ (∀ post : Int32 → SY → Prop, post (fr_i m) (f, upd t d (fr_i (bw_f p q m)), upd b d (fr_i m), c) → ∃ n62 : Nat, wY_between_62 post (nI d) (nI l) (nI h) f t b c n62 1) ∧ i_Rel (k + 5) (upd t d (fr_i (bw_f p q m)), upd b d (fr_i m)) (f, upd t d (fr_i (bw_f p q m)), upd b d (fr_i m), c) := by
  have hp' := hp
  unfold st_R at hp'
  obtain ⟨m, m1, mq, ho, hl⟩ := bw_m (p := p) (q := q) (r := r) (s := s) (by omega) hle
  have hB := bw_b (p := p) (q := q) (x := m) (by omega) (by omega) (by omega)
  refine ⟨m, mq, fun post H => ?_, fun post H => ?_, rl_i (rl_u R ⟨by omega, by omega, by omega, by omega⟩)⟩
  · unfold wX_between_62
    exact ⟨rg_in hll, nm_r ((rg_at hll t).trans htl) ⟨rg_in hll, nm_r ((rg_at hll b).trans hbl) ⟨m, bw_X hd hh hp hr ht hb m1 mq ho hl H (m - 1) 1 m (by omega) (by omega) (by omega)⟩⟩⟩
  · exact ⟨m, bw_Y hd hll hh hp htl hbl hr ht hb m1 mq ho hl H (m - 1) 1 m (by omega) (by omega) (by omega)⟩
theorem od_0 {x y : Int} : 0 < od_c x y ↔ y < x := by
  unfold od_c
  by_cases h : x < y
  · rw [if_pos h]
    exact ⟨fun z => absurd z (by decide), fun z => absurd z (by omega)⟩
  · rw [if_neg h]
    by_cases h2 : y < x
    · rw [if_pos h2]
      exact ⟨fun _ => h2, fun _ => by decide⟩
    · rw [if_neg h2]
      exact ⟨fun z => absurd z (by decide), fun z => absurd z h2⟩
theorem bw_Xr {post : Int32 → SX → Prop} {t b : Nat → Int32} {v1 v2 v3 : Int32} (g : ¬ ∃ d i j : Nat, d < 4 ∧ i < 4 ∧ j < 4 ∧ v1 = nI d ∧ v2 = nI i ∧ v3 = nI j) (h : post (-1000000) (t, b)) : wpX_between post (t, b) v1 v2 v3 := by
  unfold wpX_between
  dsimp only
  rcases rg_c v1 with h1 | ⟨d, hd, rfl⟩
  · exact rg_Xn h1 (br_t rfl h)
  · rcases rg_c v2 with h2 | ⟨i, hi, rfl⟩
    · exact rg_Xy hd (br_f rg_1 (rg_Xn h2 (br_t rfl h)))
    · rcases rg_c v3 with h3 | ⟨j, hj, rfl⟩
      · exact rg_Xy hd (br_f rg_1 (rg_Xy hi (br_f rg_1 (rg_Xn h3 (br_t rfl h)))))
      · exact absurd ⟨d, i, j, hd, hi, hj, rfl, rfl, rfl⟩ g
theorem bw_Yr {post : Int32 → SY → Prop} {f : Int32} {t b c : Nat → Int32} {v1 v2 v3 : Int32} (g : ¬ ∃ d i j : Nat, d < 4 ∧ i < 4 ∧ j < 4 ∧ v1 = nI d ∧ v2 = nI i ∧ v3 = nI j) (h : post (-1000000) (f, t, b, c)) : wpY_between post (f, t, b, c) v1 v2 v3 := by
  unfold wpY_between
  dsimp only
  rcases rg_c v1 with h1 | ⟨d, hd, rfl⟩
  · exact rg_Yn h1 (br_t rfl h)
  · rcases rg_c v2 with h2 | ⟨i, hi, rfl⟩
    · exact rg_Yy hd (br_f rg_1 (rg_Yn h2 (br_t rfl h)))
    · rcases rg_c v3 with h3 | ⟨j, hj, rfl⟩
      · exact rg_Yy hd (br_f rg_1 (rg_Yy hi (br_f rg_1 (rg_Yn h3 (br_t rfl h)))))
      · exact absurd ⟨d, i, j, hd, hi, hj, rfl, rfl, rfl⟩ g
theorem i_vc_between {k : Nat} {u : SX} {v : SY} (I : i_Rel k u v) (hk : k + 5 ≤ 2560) (v1 : Int32) (v2 : Int32) (v3 : Int32) : wpX_between (fun r u' => wpY_between (fun r' v' => r' = r ∧ i_Rel (k + 5) u' v') v v1 v2 v3) u v1 v2 v3 := by
  obtain ⟨t, b, f, c, rfl, rfl, R⟩ := I
  by_cases g : ∃ d i j : Nat, d < 4 ∧ i < 4 ∧ j < 4 ∧ v1 = nI d ∧ v2 = nI i ∧ v3 = nI j
  · obtain ⟨d, i, j, hd, hi, hj, rfl, rfl, rfl⟩ := g
    obtain ⟨T, B, ht, hb, hr⟩ := R i hi
    obtain ⟨T', B', ht', hb', hr'⟩ := R j hj
    unfold wpX_between
    dsimp only
    refine rg_Xy hd (br_f rg_1 (rg_Xy hi (br_f rg_1 (rg_Xy hj (br_f rg_1 (od_X hi hj ht hb hr ht' hb' hr' ?_))))))
    by_cases lo : T' * B < T * B'
    · obtain ⟨m, mq, hX, hY, hR⟩ := bw_j (k := k) (f := f) (c := c) R (d := d) hd hj hi hr' ht' hb' hr ht hb (by omega)
      refine br_t (od_0.mpr lo) ?_
      unfold wX_between_38
      refine br_t rfl ?_
      unfold wX_between_50
      refine br_t rfl (hX _ ?_)
      unfold wpY_between
      dsimp only
      refine rg_Yy hd (br_f rg_1 (rg_Yy hi (br_f rg_1 (rg_Yy hj (br_f rg_1 (od_Y hi hj ht hb hr ht' hb' hr' (br_t (od_0.mpr lo) ?_)))))))
      unfold wY_between_41
      exact od_Y hi hj ht hb hr ht' hb' hr' (br_t (od_0.mpr lo) (hY _ ⟨rfl, hR⟩))
    · obtain ⟨m, mq, hX, hY, hR⟩ := bw_j (k := k) (f := f) (c := c) R (d := d) hd hi hj hr ht hb hr' ht' hb' (by omega)
      have lo' : ¬ 0 < od_c (T * B') (T' * B) := fun z => lo (od_0.mp z)
      refine br_f lo' ?_
      unfold wX_between_38
      refine br_f rg_1 ?_
      unfold wX_between_50
      refine br_f rg_1 (hX _ ?_)
      unfold wpY_between
      dsimp only
      refine rg_Yy hd (br_f rg_1 (rg_Yy hi (br_f rg_1 (rg_Yy hj (br_f rg_1 (od_Y hi hj ht hb hr ht' hb' hr' (br_f lo' ?_)))))))
      unfold wY_between_41
      exact od_Y hi hj ht hb hr ht' hb' hr' (br_f lo' (hY _ ⟨rfl, hR⟩))
  · exact bw_Xr g (bw_Yr g ⟨rfl, rl_i R⟩)
end
section
/-! cut -/
/-- the reference's loop, from the last term to the first -/
theorem ct_Y {post : Int32 → SY → Prop} {x1 : Int32} {f : Int32} {t b c : Nat → Int32} {a : Nat → Int} {N : Nat} (hN : N ≤ 64) (hc : ∀ j, j < N → c j = fr_i (a j)) (ha : ∀ j, j < N → -1000000 ≤ a j ∧ a j ≤ 1000000) : ∀ (j n : Nat) (P Q : Int), j ≤ N → j < n → wpY_store (fun r_24 u => match u with | (f_25, t_26, b_27, c_28) => (wpY_terms (fun r_29 u => match u with | (f_30, t_31, b_32, c_33) => (post r_29 (f_30, t_31, b_32, c_33))) (f_25, t_26, b_27, c_28) x1)) (f, t, b, c) x1 (fr_l (ch_b a j P Q).1) (fr_l (ch_b a j P Q).2) → wY_cut_68 post x1 f t b c n (fr_l P) (fr_l Q) (fr_i ((j : Int) - 1)) := by
  intro j
  induction j with
  | zero =>
    intro n P Q hj hn h
    obtain ⟨n, rfl⟩ : ∃ i, n = i + 1 := ⟨n - 1, by omega⟩
    exact br_t (by decide) h
  | succ j ih =>
    intro n P Q hj hn h
    obtain ⟨n, rfl⟩ : ∃ i, n = i + 1 := ⟨n - 1, by omega⟩
    have e : fr_i (((j + 1 : Nat) : Int) - 1) = nI j := by
      rw [fr_nI]
      exact congrArg fr_i (by omega)
    rw [e]
    have hA := ha j (by omega)
    refine br_f (nI_pos (by omega)) ⟨vp_in_nI (by omega) (by omega), nm_r ?_ (nm_r ?_ (ih n (a j * P + Q) P (by omega) (by omega) h))⟩
    · rw [nI_clamp (by omega), hc j (by omega), fr_il (by omega), fr_lm, fr_la]
    · rw [fr_nI, show (-1 : Int32) = fr_i (-1) from rfl, fr_ia]
      exact congrArg fr_i (by omega)
theorem ct_Y45 {post : Int32 → SY → Prop} {f : Int32} {t b c : Nat → Int32} {d : Nat} {T B : Int} (hr : st_R T B) (hc : ∀ j, j < ch_l 40 T B → c j = fr_i (ch_t j T B)) {L : Nat} (h1 : 1 ≤ L) (hL : L ≤ ch_l 40 T B) (h : wpY_store (fun r_24 u => match u with | (f_25, t_26, b_27, c_28) => (wpY_terms (fun r_29 u => match u with | (f_30, t_31, b_32, c_33) => (post r_29 (f_30, t_31, b_32, c_33))) (f_25, t_26, b_27, c_28) (nI d))) (f, t, b, c) (nI d) (fr_l (ch_v L T B).1) (fr_l (ch_v L T B).2)) : wY_cut_45 post (nI d) (nI L) f t b c := by
  unfold st_R at hr
  have hl := te_l (T := T) (B := B)
  obtain ⟨j, rfl⟩ : ∃ j, L = j + 1 := ⟨L - 1, by omega⟩
  have hA := ch_tb 40 j T B (by omega) (by omega) (by omega)
  unfold wY_cut_45
  rw [nI_pred]
  refine ⟨vp_in_nI (by omega) (by omega), nm_r ?_ (nm_r ?_ ⟨j + 1, ct_Y (a := fun i => ch_t i T B) (N := ch_l 40 T B) (by omega) hc (fun i hi => ch_tb 40 i T B hi (by omega) (by omega)) j (j + 1) (ch_t j T B * 1 + 0) 1 (by omega) (by omega) ?_⟩)⟩
  · rw [nI_clamp (by omega), hc j (by omega), fr_il (by omega)]
    exact congrArg fr_l (by omega)
  · rw [fr_nI]
    refine (fr_is ((j + 1 : Nat) : Int) 2).trans (congrArg fr_i (by omega))
  · have e : ch_b (fun i => ch_t i T B) j (ch_t j T B * 1 + 0) 1 = ch_v (j + 1) T B := ch_bv (j + 1) T B
    rw [e]
    exact h
theorem ct_Xr {post : Int32 → SX → Prop} {t b : Nat → Int32} {v1 v2 v3 : Int32} (g : ¬ ∃ d i n : Nat, d < 4 ∧ i < 4 ∧ 1 ≤ n ∧ n < 2 ^ 31 ∧ v1 = nI d ∧ v2 = nI i ∧ v3 = nI n) (h : post (-1000000) (t, b)) : wpX_cut post (t, b) v1 v2 v3 := by
  unfold wpX_cut
  dsimp only
  rcases rg_c v1 with h1 | ⟨d, hd, rfl⟩
  · exact rg_Xn h1 (br_t rfl h)
  · rcases rg_c v2 with h2 | ⟨i, hi, rfl⟩
    · exact rg_Xy hd (br_f rg_1 (rg_Xn h2 (br_t rfl h)))
    · refine rg_Xy hd (br_f rg_1 (rg_Xy hi (br_f rg_1 (br_c (fun z => ?_) (fun _ => h)))))
      obtain ⟨n, hn, rfl⟩ := nI_of (x := v3) (Int32.not_lt.mpr (Int32.le_trans (by decide) z))
      have := (nI_leI (a := 1) (by omega) hn).mp z
      exact absurd ⟨d, i, n, hd, hi, this, hn, rfl, rfl, rfl⟩ g
theorem ct_Yr {post : Int32 → SY → Prop} {f : Int32} {t b c : Nat → Int32} {v1 v2 v3 : Int32} (g : ¬ ∃ d i n : Nat, d < 4 ∧ i < 4 ∧ 1 ≤ n ∧ n < 2 ^ 31 ∧ v1 = nI d ∧ v2 = nI i ∧ v3 = nI n) (h : post (-1000000) (f, t, b, c)) : wpY_cut post (f, t, b, c) v1 v2 v3 := by
  unfold wpY_cut
  dsimp only
  rcases rg_c v1 with h1 | ⟨d, hd, rfl⟩
  · exact rg_Yn h1 (br_t rfl h)
  · rcases rg_c v2 with h2 | ⟨i, hi, rfl⟩
    · exact rg_Yy hd (br_f rg_1 (rg_Yn h2 (br_t rfl h)))
    · refine rg_Yy hd (br_f rg_1 (rg_Yy hi (br_f rg_1 (br_c (fun z => ?_) (fun _ => h)))))
      obtain ⟨n, hn, rfl⟩ := nI_of (x := v3) (Int32.not_lt.mpr (Int32.le_trans (by decide) z))
      have := (nI_leI (a := 1) (by omega) hn).mp z
      exact absurd ⟨d, i, n, hd, hi, this, hn, rfl, rfl, rfl⟩ g
theorem i_vc_cut {k : Nat} {u : SX} {v : SY} (I : i_Rel k u v) (hk : k + 5 ≤ 2560) (v1 : Int32) (v2 : Int32) (v3 : Int32) : wpX_cut (fun r u' => wpY_cut (fun r' v' => r' = r ∧ i_Rel (k + 5) u' v') v v1 v2 v3) u v1 v2 v3 := by
  obtain ⟨t, b, f, c, rfl, rfl, R⟩ := I
  by_cases g : ∃ d i n : Nat, d < 4 ∧ i < 4 ∧ 1 ≤ n ∧ n < 2 ^ 31 ∧ v1 = nI d ∧ v2 = nI i ∧ v3 = nI n
  · obtain ⟨d, i, n, hd, hi, n1, hn, rfl, rfl, rfl⟩ := g
    obtain ⟨T, B, ht, hb, hr⟩ := R i hi
    have hr' := hr
    unfold st_R at hr'
    have hl := te_l (T := T) (B := B)
    have hl1 : 1 ≤ ch_l 40 T B := by rw [ch_ls (by omega)]; omega
    have V := ch_vf (p := T) (q := B) (r := min n (ch_l 40 T B)) (by omega) (by omega) (by omega) (by omega)
    have F := st_fit (p := (ch_v (min n (ch_l 40 T B)) T B).1) (q := (ch_v (min n (ch_l 40 T B)) T B).2) (by omega) (by omega) (by omega)
    have S := st_r (p := (ch_v (min n (ch_l 40 T B)) T B).1) (q := (ch_v (min n (ch_l 40 T B)) T B).2) (by omega) (by omega) (by omega) F
    have h1n : (1 : Int32) ≤ nI n := nI_le (a := 1) n1 hn
    unfold wpX_cut
    dsimp only
    refine rg_Xy hd (br_f rg_1 (rg_Xy hi (br_f rg_1 (br_t h1n ⟨rg_in hi, nm_r ((rg_at hi t).trans ht) ⟨rg_in hi, nm_r ((rg_at hi b).trans hb) ⟨41, ?_⟩⟩⟩))))
    refine ch_Xc hn 40 T B n 0 41 1 0 0 1 (ch_e40 (by omega)) (by omega) (by omega) (by omega) (by omega) ?_
    rw [Int.one_mul, Int.zero_mul, Int.one_mul, Int.zero_mul, Int.add_zero, Int.zero_add]
    unfold wX_cut_133
    refine st_Xy hd (by omega) (by omega) (by omega) F ?_
    dsimp only
    unfold wpY_cut
    dsimp only
    refine rg_Yy hd (br_f rg_1 (rg_Yy hi (br_f rg_1 (br_t h1n (cl_Y hi ht hb hr (fun c' hc => ?_))))))
    have Z : ∀ L, min n (ch_l 40 T B) = L → wY_cut_45 (fun r' v' => r' = nI (ch_l 40 (st_T (ch_v (min n (ch_l 40 T B)) T B).1 (ch_v (min n (ch_l 40 T B)) T B).2) (st_B (ch_v (min n (ch_l 40 T B)) T B).1 (ch_v (min n (ch_l 40 T B)) T B).2)) ∧ i_Rel (k + 5) (upd t d (fr_i (st_T (ch_v (min n (ch_l 40 T B)) T B).1 (ch_v (min n (ch_l 40 T B)) T B).2)), upd b d (fr_i (st_B (ch_v (min n (ch_l 40 T B)) T B).1 (ch_v (min n (ch_l 40 T B)) T B).2))) v') (nI d) (nI L) (nI (ch_l 40 T B)) t b c' := by
      intro L eL
      rw [eL] at V F S ⊢
      refine ct_Y45 hr hc (by omega) (by omega) (st_Yy hd (by omega) (by omega) (by omega) F ?_)
      exact tm_Y hd pk_us pk_us S (fun c'' => ⟨rfl, rl_i (rl_u R S)⟩)
    exact pk_le (ch_l 40 T B) n (fun z => Z _ (by omega)) (fun z => Z _ (by omega))
  · exact ct_Xr g (ct_Yr g ⟨rfl, rl_i R⟩)
end
