theorem pk_us {f : Nat → Int32} {k : Nat} {x : Int32} : upd f k x k = x := if_pos rfl
theorem pk_un {f : Nat → Int32} {k j : Nat} {x : Int32} (h : j ≠ k) : upd f k x j = f j := if_neg h
theorem pk_sub {a b : Nat} (h : b ≤ a) : nI a - nI b = nI (a - b) := by
  obtain ⟨c, rfl⟩ : ∃ c, a = c + b := ⟨a - b, by omega⟩
  rw [← nI_add, Int32.add_sub_cancel, Nat.add_sub_cancel]
theorem pk_m1 (n : Nat) : nI (n + 1) + (-1) = nI n := by
  rw [← nI_1, Int32.add_assoc, show (1 : Int32) + (-1) = 0 from rfl, Int32.add_zero]
theorem pk_mul (a b : Nat) : nI a * nI b = nI (a * b) := (Int32.ofNat_mul a b).symm
theorem pk_div {a d : Nat} (ha : a < 2 ^ 31) (h0 : 0 < d) (hd : d < 2 ^ 31) : nI a / nI d = nI (a / d) := by
  apply Int32.toInt_inj.mp
  rw [lg_idiv_nonneg (by rw [nI_toInt ha]; omega) (by rw [nI_toInt hd]; omega), nI_toInt ha, nI_toInt hd, nI_toInt (Nat.lt_of_le_of_lt (Nat.div_le_self a d) ha)]
  first | rfl | exact (Int.natCast_ediv _ _).symm
theorem pk_rem {a d : Nat} (ha : a < 2 ^ 31) (h0 : 0 < d) (hd : d < 2 ^ 31) : nI a - nI a / nI d * nI d = nI (a % d) := by
  rw [pk_div ha h0 hd, pk_mul, pk_sub (Nat.div_mul_le_self a d)]
  exact congrArg nI (by have := Nat.div_add_mod' a d; omega)
theorem pk_ix (x : Int32) {n : Nat} (hn : n < 2 ^ 31) : x < 0 ∨ nI n ≤ x ∨ ∃ j : Nat, j < n ∧ x = nI j := by
  by_cases h : x < 0
  · exact Or.inl h
  · obtain ⟨j, hj, rfl⟩ := nI_of h
    by_cases h2 : j < n
    · exact Or.inr (Or.inr ⟨j, h2, rfl⟩)
    · exact Or.inr (Or.inl (nI_le (by omega) hj))
theorem pk_le {x y : Int32} {A B : Prop} (a b : Nat) (f : a ≤ b → A) (g : b < a → B) (hx : x = nI a := by rfl) (hy : y = nI b := by rfl) (ha : a < 2 ^ 31 := by omega) (hb : b < 2 ^ 31 := by omega) : (x ≤ y → A) ∧ (¬ x ≤ y → B) := by
  subst hx hy
  rw [nI_leI ha hb]
  exact ⟨f, fun z => g (by omega)⟩
theorem pk_lt {x y : Int32} {A B : Prop} (a b : Nat) (f : a < b → A) (g : b ≤ a → B) (hx : x = nI a := by rfl) (hy : y = nI b := by rfl) (ha : a < 2 ^ 31 := by omega) (hb : b < 2 ^ 31 := by omega) : (x < y → A) ∧ (¬ x < y → B) := by
  subst hx hy
  rw [nI_ltI ha hb]
  exact ⟨f, fun z => g (by omega)⟩
theorem pk_eq {x y : Int32} {A B : Prop} (a b : Nat) (f : a = b → A) (g : a ≠ b → B) (hx : x = nI a := by rfl) (hy : y = nI b := by rfl) (ha : a < 2 ^ 31 := by omega) (hb : b < 2 ^ 31 := by omega) : (x = y → A) ∧ (¬ x = y → B) := by
  subst hx hy
  rw [nI_eq ha hb]
  exact ⟨f, g⟩
theorem pk_in {x : Int32} (n N : Nat) (h : n < N) (hx : x = nI n := by rfl) (hN : N < 2 ^ 31 := by omega) : vp_in x N := by
  subst hx
  exact vp_in_nI h hN
theorem pk_cl {x : Int32} (n : Nat) (hx : x = nI n := by rfl) (h : n < 2 ^ 31 := by omega) : x.toNatClampNeg = n := by
  subst hx
  exact nI_clamp h
theorem pk_lT {n : Nat} (h : n < 2 ^ 63) : (lN n).toInt = (n : Int) := lg_ofNat_toInt h
theorem pk_lLT {a b : Nat} (ha : a < 2 ^ 63) (hb : b < 2 ^ 63) : lN a < lN b ↔ a < b := by
  rw [Int64.lt_iff_toInt_lt, pk_lT ha, pk_lT hb]; omega
theorem pk_lLE {a b : Nat} (ha : a < 2 ^ 63) (hb : b < 2 ^ 63) : lN a ≤ lN b ↔ a ≤ b := by
  rw [Int64.le_iff_toInt_le, pk_lT ha, pk_lT hb]; omega
theorem pk_lEQ {a b : Nat} (ha : a < 2 ^ 63) (hb : b < 2 ^ 63) : lN a = lN b ↔ a = b := by
  rw [← Int64.toInt_inj, pk_lT ha, pk_lT hb]; omega
theorem pk_lOf {x : Int64} (h : ¬ x < 0) : ∃ k : Nat, k < 2 ^ 63 ∧ x = lN k := by
  rw [Int64.lt_iff_toInt_lt] at h
  have h0 : (0 : Int64).toInt = 0 := by decide
  have hx := Int64.toInt_lt x
  refine ⟨x.toInt.toNat, by omega, Int64.toInt_inj.mp ?_⟩
  rw [pk_lT (by omega)]
  omega
theorem pk_lDiv {a b : Nat} (ha : a < 2 ^ 63) (h0 : 0 < b) (hb : b < 2 ^ 63) : lN a / lN b = lN (a / b) := by
  apply Int64.toInt_inj.mp
  rw [lg_ldiv_nonneg (by rw [pk_lT ha]; omega) (by rw [pk_lT hb]; omega), pk_lT ha, pk_lT hb, pk_lT (Nat.lt_of_le_of_lt (Nat.div_le_self a b) ha)]
  rfl
theorem pk_lRem {a b : Nat} (ha : a < 2 ^ 63) (h0 : 0 < b) (hb : b < 2 ^ 63) : lN a - lN a / lN b * lN b = lN (a % b) := by
  rw [pk_lDiv ha h0 hb, lN_mul, lN_sub (Nat.div_mul_le_self a b)]
  exact congrArg lN (by have := Nat.div_add_mod' a b; omega)
theorem pk_least (P : Nat → Prop) (h : ∃ k, P k) : ∃ k, P k ∧ ∀ j, j < k → ¬ P j := by
  obtain ⟨k, hk⟩ := h
  induction k using Nat.strongRecOn with
  | ind k ih =>
    by_cases e : ∃ j, j < k ∧ P j
    · obtain ⟨j, hj, pj⟩ := e
      exact ih j hj pj
    · exact ⟨k, hk, fun j hj pj => e ⟨j, hj, pj⟩⟩

/-! whole numbers as ints and longs -/
def fr_i (z : Int) : Int32 := Int32.ofInt z
def fr_l (z : Int) : Int64 := Int64.ofInt z
theorem fr_it {z : Int} (h : -2147483648 ≤ z ∧ z < 2147483648) : (fr_i z).toInt = z :=
  Int32.toInt_ofInt_of_le (by omega) (by omega)
theorem fr_lt {z : Int} (h : -9223372036854775808 ≤ z ∧ z < 9223372036854775808) : (fr_l z).toInt = z :=
  Int64.toInt_ofInt_of_le (by omega) (by omega)
theorem fr_iof (x : Int32) : x = fr_i x.toInt := (Int32.ofInt_toInt x).symm
theorem fr_lof (x : Int64) : x = fr_l x.toInt := (Int64.ofInt_toInt x).symm
theorem fr_ia (a b : Int) : fr_i a + fr_i b = fr_i (a + b) := (Int32.ofInt_add a b).symm
theorem fr_is (a b : Int) : fr_i a - fr_i b = fr_i (a - b) := (Int32.ofInt_sub a b).symm
theorem fr_im (a b : Int) : fr_i a * fr_i b = fr_i (a * b) := (Int32.ofInt_mul a b).symm
theorem fr_in (a : Int) : - fr_i a = fr_i (-a) := (Int32.ofInt_neg a).symm
theorem fr_la (a b : Int) : fr_l a + fr_l b = fr_l (a + b) := (Int64.ofInt_add a b).symm
theorem fr_ls (a b : Int) : fr_l a - fr_l b = fr_l (a - b) := (Int64.ofInt_sub a b).symm
theorem fr_lm (a b : Int) : fr_l a * fr_l b = fr_l (a * b) := (Int64.ofInt_mul a b).symm
theorem fr_ln (a : Int) : - fr_l a = fr_l (-a) := (Int64.ofInt_neg a).symm
theorem fr_nI (n : Nat) : nI n = fr_i n := (Int32.ofInt_eq_ofNat).symm
theorem fr_lN (n : Nat) : lN n = fr_l n := (Int64.ofInt_eq_ofNat).symm
theorem fr_ble {x y : Int32} {A B : Prop} (a b : Int) (f : a ≤ b → A) (g : b < a → B) (hx : x = fr_i a := by rfl) (hy : y = fr_i b := by rfl) (ha : -2147483648 ≤ a ∧ a < 2147483648 := by omega) (hb : -2147483648 ≤ b ∧ b < 2147483648 := by omega) : (x ≤ y → A) ∧ (¬ x ≤ y → B) := by
  subst hx hy
  rw [Int32.le_iff_toInt_le, fr_it ha, fr_it hb]
  exact ⟨f, fun z => g (by omega)⟩
theorem fr_blt {x y : Int32} {A B : Prop} (a b : Int) (f : a < b → A) (g : b ≤ a → B) (hx : x = fr_i a := by rfl) (hy : y = fr_i b := by rfl) (ha : -2147483648 ≤ a ∧ a < 2147483648 := by omega) (hb : -2147483648 ≤ b ∧ b < 2147483648 := by omega) : (x < y → A) ∧ (¬ x < y → B) := by
  subst hx hy
  rw [Int32.lt_iff_toInt_lt, fr_it ha, fr_it hb]
  exact ⟨f, fun z => g (by omega)⟩
theorem fr_beq {x y : Int32} {A B : Prop} (a b : Int) (f : a = b → A) (g : a ≠ b → B) (hx : x = fr_i a := by rfl) (hy : y = fr_i b := by rfl) (ha : -2147483648 ≤ a ∧ a < 2147483648 := by omega) (hb : -2147483648 ≤ b ∧ b < 2147483648 := by omega) : (x = y → A) ∧ (¬ x = y → B) := by
  subst hx hy
  rw [← Int32.toInt_inj, fr_it ha, fr_it hb]
  exact ⟨f, g⟩
theorem fr_lble {x y : Int64} {A B : Prop} (a b : Int) (f : a ≤ b → A) (g : b < a → B) (hx : x = fr_l a := by rfl) (hy : y = fr_l b := by rfl) (ha : -9223372036854775808 ≤ a ∧ a < 9223372036854775808 := by omega) (hb : -9223372036854775808 ≤ b ∧ b < 9223372036854775808 := by omega) : (x ≤ y → A) ∧ (¬ x ≤ y → B) := by
  subst hx hy
  rw [Int64.le_iff_toInt_le, fr_lt ha, fr_lt hb]
  exact ⟨f, fun z => g (by omega)⟩
theorem fr_lblt {x y : Int64} {A B : Prop} (a b : Int) (f : a < b → A) (g : b ≤ a → B) (hx : x = fr_l a := by rfl) (hy : y = fr_l b := by rfl) (ha : -9223372036854775808 ≤ a ∧ a < 9223372036854775808 := by omega) (hb : -9223372036854775808 ≤ b ∧ b < 9223372036854775808 := by omega) : (x < y → A) ∧ (¬ x < y → B) := by
  subst hx hy
  rw [Int64.lt_iff_toInt_lt, fr_lt ha, fr_lt hb]
  exact ⟨f, fun z => g (by omega)⟩
theorem fr_lbeq {x y : Int64} {A B : Prop} (a b : Int) (f : a = b → A) (g : a ≠ b → B) (hx : x = fr_l a := by rfl) (hy : y = fr_l b := by rfl) (ha : -9223372036854775808 ≤ a ∧ a < 9223372036854775808 := by omega) (hb : -9223372036854775808 ≤ b ∧ b < 9223372036854775808 := by omega) : (x = y → A) ∧ (¬ x = y → B) := by
  subst hx hy
  rw [← Int64.toInt_inj, fr_lt ha, fr_lt hb]
  exact ⟨f, g⟩
theorem fr_ine {a : Int} (h0 : a ≠ 0) (h : -2147483648 ≤ a ∧ a < 2147483648) : ¬ fr_i a = 0 := by
  intro z
  have e := congrArg Int32.toInt z
  rw [fr_it h] at e
  exact h0 e
theorem fr_lne {a : Int} (h0 : a ≠ 0) (h : -9223372036854775808 ≤ a ∧ a < 9223372036854775808) : ¬ fr_l a = 0 := by
  intro z
  have e := congrArg Int64.toInt z
  rw [fr_lt h] at e
  exact h0 e
theorem fr_il {z : Int} (h : -2147483648 ≤ z ∧ z < 2147483648) : (fr_i z).toInt64 = fr_l z := by
  apply Int64.toInt_inj.mp
  rw [Int32.toInt_toInt64, fr_it h, fr_lt (by omega)]
theorem fr_li {z : Int} (h : -2147483648 ≤ z ∧ z < 2147483648) : (fr_l z).toInt32 = fr_i z := by
  apply Int32.toInt_inj.mp
  rw [Int64.toInt_toInt32, fr_lt (by omega), fr_it h]
  exact Int.bmod_eq_of_le (by omega) (by omega)
/-! division -/
theorem fr_tq (a b : Int) : (0 ≤ a → a.tdiv b = a / b) ∧ (a < 0 → a.tdiv b = -((-a) / b)) := by
  refine ⟨fun h => Int.tdiv_eq_ediv_of_nonneg h, fun h => ?_⟩
  rw [← Int.tdiv_eq_ediv_of_nonneg (a := -a) (by omega), Int.neg_tdiv, Int.neg_neg]
theorem fr_tb {a b M : Int} (hb : 0 < b) (h : -M ≤ a ∧ a ≤ M) : -M ≤ a.tdiv b ∧ a.tdiv b ≤ M := by
  by_cases h0 : 0 ≤ a
  · rw [(fr_tq a b).1 h0]
    have h1 : 0 ≤ a / b := Int.ediv_nonneg h0 (by omega)
    have h2 : a / b ≤ a := Int.ediv_le_self b h0
    omega
  · rw [(fr_tq a b).2 (by omega)]
    have h1 : 0 ≤ (-a) / b := Int.ediv_nonneg (by omega) (by omega)
    have h2 : (-a) / b ≤ -a := Int.ediv_le_self b (by omega)
    omega
theorem fr_id {a b : Int} (ha : -2147483647 ≤ a ∧ a ≤ 2147483647) (hb : 0 < b ∧ b ≤ 2147483647) : fr_i a / fr_i b = fr_i (a.tdiv b) := by
  have t := fr_tb hb.1 ha
  apply Int32.toInt_inj.mp
  rw [Int32.toInt_div, fr_it (by omega), fr_it (by omega), fr_it (by omega)]
  exact Int.bmod_eq_of_le (by omega) (by omega)
theorem fr_ld {a b : Int} (ha : -9223372036854775807 ≤ a ∧ a ≤ 9223372036854775807) (hb : 0 < b ∧ b ≤ 9223372036854775807) : fr_l a / fr_l b = fr_l (a.tdiv b) := by
  have t := fr_tb hb.1 ha
  apply Int64.toInt_inj.mp
  rw [Int64.toInt_div, fr_lt (by omega), fr_lt (by omega), fr_lt (by omega)]
  exact Int.bmod_eq_of_le (by omega) (by omega)
theorem fr_dv {p q d : Int} (hq : 0 < q) (h1 : d * q ≤ p) (h2 : p < d * q + q) : p / q = d := by
  have a := (Int.le_ediv_iff_mul_le hq).mpr h1
  have b : p / q < d + 1 := (Int.ediv_lt_iff_lt_mul hq).mpr (by rw [Int.add_mul, Int.one_mul]; exact h2)
  omega
theorem fr_dm {p q : Int} (hq : 0 < q) : p / q * q ≤ p ∧ p < p / q * q + q ∧ p % q = p - p / q * q ∧ 0 ≤ p % q ∧ p % q < q := by
  have h1 := Int.emod_nonneg p (b := q) (by omega)
  have h2 := Int.emod_lt_of_pos p hq
  have h3 := Int.mul_ediv_add_emod p q
  rw [Int.mul_comm] at h3
  omega
/-- X's floor -/
theorem fr_fX {post : Int32 → Prop} {p q : Int} (hp : -1000000000 ≤ p ∧ p ≤ 1000000000) (hq : 0 < q ∧ q ≤ 1000000000) (h : post (fr_i (p / q))) : wpX_floor post (fr_i p) (fr_i q) := by
  unfold wpX_floor
  refine ⟨fr_ine (by omega) (by omega), nm_r (fr_id (by omega) (by omega)) ?_⟩
  rw [fr_im]
  have hm := fr_dm (p := p) hq.1
  have hb : -1000000000 ≤ p.tdiv q * q ∧ p.tdiv q * q ≤ 1000000000 ∧ (p.tdiv q * q ≤ p → p / q = p.tdiv q) ∧ (p < p.tdiv q * q → p / q = p.tdiv q - 1) := by
    by_cases h0 : 0 ≤ p
    · rw [(fr_tq p q).1 h0]
      have h1 : 0 ≤ p / q * q := Int.mul_nonneg (Int.ediv_nonneg h0 (by omega)) (by omega)
      refine ⟨by omega, by omega, fun _ => rfl, fun c => absurd c (by omega)⟩
    · rw [(fr_tq p q).2 (by omega)]
      have hn := fr_dm (p := -p) hq.1
      have h1 : 0 ≤ (-p) / q * q := Int.mul_nonneg (Int.ediv_nonneg (by omega) (by omega)) (by omega)
      rw [Int.neg_mul]
      refine ⟨by omega, by omega, fun c => fr_dv hq.1 (by rw [Int.neg_mul]; omega) (by rw [Int.neg_mul]; omega), fun c => fr_dv hq.1 ?_ ?_⟩
      · rw [Int.sub_mul, Int.neg_mul, Int.one_mul]; omega
      · rw [Int.sub_mul, Int.neg_mul, Int.one_mul]; omega
  refine fr_ble (p.tdiv q * q) p (fun c => ?_) (fun c => ?_)
  · rw [← hb.2.2.1 c]; exact h
  · have e : fr_i (p.tdiv q) - 1 = fr_i (p / q) := by
      rw [hb.2.2.2 c]; exact fr_is _ 1
    rw [e]; exact h
/-- the reference's floor -/
theorem fr_fY {post : Int32 → Prop} {p q : Int} {f : Int32} {t b c : Nat → Int32} (hp : -1000000000 ≤ p ∧ p ≤ 1000000000) (hq : 0 < q ∧ q ≤ 1000000000) (h : post (fr_i (p / q))) : wpY_floor post (f, t, b, c) (fr_i p) (fr_i q) := by
  unfold wpY_floor
  dsimp only
  refine fr_blt p 0 (fun n => ⟨fr_ine (by omega) (by omega), ?_⟩) (fun n => ⟨fr_ine (by omega) (by omega), ?_⟩)
  · have e : fr_i q - 1 - fr_i p = fr_i (q - 1 - p) := by
      rw [show fr_i q - 1 = fr_i (q - 1) from fr_is q 1, fr_is]
    rw [e, fr_id (by omega) (by omega), fr_in, (fr_tq _ _).1 (by omega)]
    have hm := fr_dm (p := q - 1 - p) hq.1
    have z : p / q = -((q - 1 - p) / q) := fr_dv hq.1 (by rw [Int.neg_mul]; omega) (by rw [Int.neg_mul]; omega)
    rw [← z]; exact h
  · rw [fr_id (by omega) (by omega), (fr_tq _ _).1 n]; exact h
