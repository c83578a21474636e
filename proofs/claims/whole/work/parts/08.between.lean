/-! between: the least denominator; bw_f p q x is the least whole number that is at least p x / q -/
def bw_f (p q x : Int) : Int := -((-p * x) / q)
theorem bw_ge {p q x : Int} (hq : 0 < q) : p * x ≤ bw_f p q x * q := by
  have h := fr_dm (p := -p * x) hq
  unfold bw_f
  rw [Int.neg_mul] at h ⊢
  rw [Int.neg_mul]
  omega
theorem bw_le {p q x n : Int} (hq : 0 < q) (h : p * x ≤ n * q) : bw_f p q x ≤ n := by
  have h1 : -n ≤ (-p * x) / q := (Int.le_ediv_iff_mul_le hq).mpr (by rw [Int.neg_mul, Int.neg_mul]; omega)
  unfold bw_f
  omega
theorem bw_q {p q : Int} (hq : 0 < q) : bw_f p q q = p := by
  unfold bw_f
  rw [Int.mul_ediv_cancel _ (by omega), Int.neg_neg]
/-- it fits -/
theorem bw_b {p q x : Int} (hq : 0 < q) (hp : -9999 ≤ p ∧ p ≤ 9999) (hx : 1 ≤ x ∧ x ≤ q) : -9999 ≤ bw_f p q x ∧ bw_f p q x ≤ 9999 := by
  have g := bw_ge (p := p) (x := x) hq
  by_cases h0 : 0 ≤ p
  · have h1 : bw_f p q x ≤ p := bw_le hq (Int.mul_le_mul_of_nonneg_left hx.2 h0)
    have h2 : 0 ≤ p * x := Int.mul_nonneg h0 (by omega)
    have h3 : 0 ≤ bw_f p q x := by
      rcases Int.lt_or_le (bw_f p q x) 0 with z | z
      · have := Int.mul_neg_of_neg_of_pos z hq
        omega
      · exact z
    omega
  · have h1 : p * x ≤ 0 := Int.mul_nonpos_of_nonpos_of_nonneg (by omega) (by omega)
    have h2 : bw_f p q x ≤ 0 := bw_le hq (by rw [Int.zero_mul]; exact h1)
    have h3 : p * q ≤ p * x := Int.mul_le_mul_of_nonpos_left (by omega) hx.2
    have h4 : p ≤ bw_f p q x := by
      rcases Int.lt_or_le (bw_f p q x) p with z | z
      · have := Int.mul_lt_mul_of_pos_right z hq
        omega
      · exact z
    omega
/-- the denominator x serves -/
def bw_o (p q r s x : Int) : Prop := bw_f p q x * s ≤ r * x
/-- the least one that serves -/
theorem bw_m {p q r s : Int} (hq : 1 ≤ q) (h : p * s ≤ r * q) : ∃ m : Nat, 1 ≤ m ∧ (m : Int) ≤ q ∧ bw_o p q r s m ∧ ∀ x : Int, 1 ≤ x → x < m → ¬ bw_o p q r s x := by
  have hq' : ∃ k : Nat, 1 ≤ k ∧ bw_o p q r s k := ⟨q.toNat, by omega, by
    have e : ((q.toNat : Nat) : Int) = q := by omega
    unfold bw_o
    rw [e, bw_q (by omega)]
    exact h⟩
  obtain ⟨m, hm, hl⟩ := pk_least (fun k => 1 ≤ k ∧ bw_o p q r s k) hq'
  refine ⟨m, hm.1, ?_, hm.2, fun x h1 h2 h3 => ?_⟩
  · rcases Int.lt_or_le q m with z | z
    · refine absurd ⟨show 1 ≤ q.toNat by omega, ?_⟩ (hl q.toNat (by omega))
      have e : ((q.toNat : Nat) : Int) = q := by omega
      unfold bw_o
      rw [e, bw_q (by omega)]
      exact h
    · exact z
  · have e : ((x.toNat : Nat) : Int) = x := by omega
    refine absurd ⟨show 1 ≤ x.toNat by omega, ?_⟩ (hl x.toNat (by omega))
    rw [e]
    exact h3
/-- at the least one nothing can be cut -/
theorem bw_g {p q r s m : Int} (hq : 1 ≤ q) (hs : 1 ≤ s) (h1 : 1 ≤ m) (ho : bw_o p q r s m) (hl : ∀ x : Int, 1 ≤ x → x < m → ¬ bw_o p q r s x) : (Int.gcd (bw_f p q m) m : Int) = 1 := by
  have G := st_g (p := bw_f p q m) (q := m) (by omega)
  have F := bw_ge (p := p) (x := m) (q := q) (by omega)
  unfold bw_o at ho
  generalize (Int.gcd (bw_f p q m) m : Int) = g at G ⊢
  generalize bw_f p q m / g = L at G
  generalize hM : m / g = M at G
  obtain ⟨g1, _, eL, eM, M1, M2, _, _⟩ := G
  rcases Int.lt_or_le 1 g with z | z
  · exfalso
    have lt : M < m := by
      have : M * 1 < M * g := Int.mul_lt_mul_of_pos_left z (by omega)
      omega
    refine hl M M1 lt ?_
    unfold bw_o
    rw [← eL, ← eM] at ho F
    have F' : p * M ≤ L * q := by
      refine Int.le_of_mul_le_mul_right (a := g) ?_ (by omega)
      have e1 : p * M * g = p * (M * g) := Int.mul_assoc ..
      have e2 : L * q * g = L * g * q := by rw [Int.mul_assoc, Int.mul_comm q g, ← Int.mul_assoc]
      rw [e1, e2]
      exact F
    have O' : L * s ≤ r * M := by
      refine Int.le_of_mul_le_mul_right (a := g) ?_ (by omega)
      have e1 : r * M * g = r * (M * g) := Int.mul_assoc ..
      have e2 : L * s * g = L * g * s := by rw [Int.mul_assoc, Int.mul_comm s g, ← Int.mul_assoc]
      rw [e1, e2]
      exact ho
    have := Int.mul_le_mul_of_nonneg_right (bw_le (p := p) (x := M) (n := L) (q := q) (by omega) F') (show 0 ≤ s by omega)
    omega
  · omega
theorem bw_s {P m : Int} (h1 : 1 ≤ m) (g : (Int.gcd P m : Int) = 1) : st_T P m = P ∧ st_B P m = m := by
  unfold st_T st_B
  rw [g, if_neg (by omega), if_neg (by omega), Int.ediv_one, Int.ediv_one]
  exact ⟨rfl, rfl⟩
/-- a floor of between, X's and the reference's argument -/
theorem bw_a (p x : Int) : -fr_i p * fr_i x = fr_i (-p * x) := by rw [fr_in, fr_im]
theorem bw_r (p q x : Int) : -fr_i (-p * x / q) = fr_i (bw_f p q x) := by rw [fr_in]; rfl
/-- X's loop -/
theorem bw_X {post : Int32 → SX → Prop} {t b : Nat → Int32} {d h : Nat} (hd : d < 4) (hh : h < 4) {p q r s : Int} (hp : st_R p q) (hr : st_R r s) (ht : t h = fr_i r) (hb : b h = fr_i s) {m : Nat} (m1 : 1 ≤ m) (mq : (m : Int) ≤ q) (ho : bw_o p q r s m) (hl : ∀ x : Int, 1 ≤ x → x < m → ¬ bw_o p q r s x) (H : post (fr_i m) (upd t d (fr_i (bw_f p q m)), upd b d (fr_i m))) : ∀ (e x n : Nat), x + e = m → e < n → 1 ≤ x → wX_between_85 post (nI d) (nI h) (fr_i p) (fr_i q) t b n (fr_i x) := by
  unfold st_R at hp hr
  have hB := bw_b (p := p) (q := q) (x := m) (by omega) (by omega) (by omega)
  have hG := bw_g (p := p) (q := q) (r := r) (s := s) (m := m) (by omega) (by omega) (by omega) ho hl
  have hS := bw_s (P := bw_f p q m) (m := m) (by omega) hG
  have K : ∀ P : Int32 → SX → Prop, (∀ z, P z (upd t d (fr_i (bw_f p q m)), upd b d (fr_i m))) → wpX_store P (t, b) (nI d) (fr_i (bw_f p q m)) (fr_i m) := by
    intro P hP
    refine st_Xy hd (by omega) (by omega) (by omega) (st_fit (by omega) (by omega) (by omega)) ?_
    rw [hS.1, hS.2]
    exact hP _
  intro e
  induction e with
  | zero =>
    intro x n hx hn h1
    obtain rfl : x = m := by omega
    obtain ⟨n, rfl⟩ : ∃ i, n = i + 1 := ⟨n - 1, by omega⟩
    refine fr_ble q x (fun c => ?_) (fun c => ?_)
    · have e : q = (x : Int) := by omega
      have z : p = bw_f p q x := by rw [← e, bw_q (by omega)]
      have K' := K (fun r_18 u => post (fr_i x) u) (fun _ => H)
      rw [← z, ← e] at K'
      exact K'
    · have mx := mu_9 (a := -p) (b := x) (by omega) (by omega)
      rw [bw_a]
      refine fr_fX (by omega) (by omega) (nm_r (bw_r p q x) ⟨rg_in hh, rg_in hh, ?_⟩)
      rw [rg_at hh t, rg_at hh b, ht, hb, fr_im, fr_im]
      have b1 := mu_9 (a := r) (b := x) (by omega) (by omega)
      have b2 := mu_9 (a := bw_f p q x) (b := s) (by omega) (by omega)
      unfold bw_o at ho
      exact fr_blt (r * x) (bw_f p q x * s) (fun c => absurd c (by omega)) (fun _ => K (fun r_27 u => post (fr_i x) u) (fun _ => H))
  | succ e ih =>
    intro x n hx hn h1
    obtain ⟨n, rfl⟩ : ∃ i, n = i + 1 := ⟨n - 1, by omega⟩
    have mx := mu_9 (a := -p) (b := x) (by omega) (by omega)
    have no := hl x (by omega) (by omega)
    have bx := bw_b (p := p) (q := q) (x := x) (by omega) (by omega) (by omega)
    refine fr_ble q x (fun c => absurd c (by omega)) (fun c => ?_)
    rw [bw_a]
    refine fr_fX (by omega) (by omega) (nm_r (bw_r p q x) ⟨rg_in hh, rg_in hh, ?_⟩)
    rw [rg_at hh t, rg_at hh b, ht, hb, fr_im, fr_im]
    have b1 := mu_9 (a := r) (b := x) (by omega) (by omega)
    have b2 := mu_9 (a := bw_f p q x) (b := s) (by omega) (by omega)
    unfold bw_o at no
    refine fr_blt (r * x) (bw_f p q x * s) (fun _ => nm_r (show fr_i x + 1 = fr_i ((x + 1 : Nat) : Int) from fr_ia x 1) ?_) (fun c => absurd c (by omega))
    exact ih (x + 1) n (by omega) (by omega) (by omega)
/-- the reference's loop -/
theorem bw_Y {post : Int32 → SY → Prop} {f : Int32} {t b c : Nat → Int32} {d l h : Nat} (hd : d < 4) (hll : l < 4) (hh : h < 4) {p q r s : Int} (hp : st_R p q) (htl : t l = fr_i p) (hbl : b l = fr_i q) (hr : st_R r s) (ht : t h = fr_i r) (hb : b h = fr_i s) {m : Nat} (m1 : 1 ≤ m) (mq : (m : Int) ≤ q) (ho : bw_o p q r s m) (hl : ∀ x : Int, 1 ≤ x → x < m → ¬ bw_o p q r s x) (H : post (fr_i m) (f, upd t d (fr_i (bw_f p q m)), upd b d (fr_i m), c)) : ∀ (e x n : Nat), x + e = m → e < n → 1 ≤ x → wY_between_62 post (nI d) (nI l) (nI h) f t b c n (fr_i x) := by
  unfold st_R at hp hr
  have hB := bw_b (p := p) (q := q) (x := m) (by omega) (by omega) (by omega)
  have hG := bw_g (p := p) (q := q) (r := r) (s := s) (m := m) (by omega) (by omega) (by omega) ho hl
  have hS := bw_s (P := bw_f p q m) (m := m) (by omega) hG
  have K : ∀ P : Int32 → SY → Prop, (∀ z, P z (f, upd t d (fr_i (bw_f p q m)), upd b d (fr_i m), c)) → wpY_store P (f, t, b, c) (nI d) (fr_l (bw_f p q m)) (fr_l m) := by
    intro P hP
    refine st_Yy hd (by omega) (by omega) (by omega) (st_fit (by omega) (by omega) (by omega)) ?_
    rw [hS.1, hS.2]
    exact hP _
  have S : ∀ (x n : Nat), 1 ≤ x → (x : Int) ≤ q → (r * x < bw_f p q x * s → wY_between_62 post (nI d) (nI l) (nI h) f t b c n (fr_i ((x + 1 : Nat) : Int))) → (bw_f p q x * s ≤ r * x → wpY_store (fun r_44 u => match u with | (f_45, t_46, b_47, c_48) => (vp_in (nI d) 4 ∧ (post (b_47 (nI d).toNatClampNeg) (f_45, t_46, b_47, c_48)))) (f, t, b, c) (nI d) (fr_l (bw_f p q x)) (fr_l x)) → wY_between_62 post (nI d) (nI l) (nI h) f t b c (n + 1) (fr_i x) := by
    intro x n h1 h2 A Z
    have mx := mu_9 (a := -p) (b := x) (by omega) (by omega)
    have bx := bw_b (p := p) (q := q) (x := x) (by omega) (by omega) (by omega)
    have b1 := mu_9 (a := r) (b := x) (by omega) (by omega)
    have b2 := mu_9 (a := bw_f p q x) (b := s) (by omega) (by omega)
    refine fr_blt 9999 x (fun c => absurd c (by omega)) (fun _ => ⟨rg_in hll, rg_in hll, ?_⟩)
    rw [rg_at hll t, rg_at hll b, htl, hbl, bw_a]
    refine fr_fY (by omega) (by omega) (nm_r (bw_r p q x) ⟨rg_in hh, rg_in hh, ?_⟩)
    rw [rg_at hh t, rg_at hh b, ht, hb, fr_il (by omega), fr_il (by omega), fr_il (by omega), fr_il (by omega), fr_lm, fr_lm]
    exact fr_lblt (r * x) (bw_f p q x * s) (fun z => nm_r (show fr_i x + 1 = fr_i ((x + 1 : Nat) : Int) from fr_ia x 1) (A z)) (fun z => Z z)
  intro e
  induction e with
  | zero =>
    intro x n hx hn h1
    obtain rfl : x = m := by omega
    obtain ⟨n, rfl⟩ : ∃ i, n = i + 1 := ⟨n - 1, by omega⟩
    refine S x n (by omega) (by omega) (fun z => absurd z (by unfold bw_o at ho; omega)) (fun _ => K _ (fun _ => ⟨rg_in hd, ?_⟩))
    rw [rg_at hd (upd b d (fr_i x)), pk_us]
    exact H
  | succ e ih =>
    intro x n hx hn h1
    obtain ⟨n, rfl⟩ : ∃ i, n = i + 1 := ⟨n - 1, by omega⟩
    have no := hl x (by omega) (by omega)
    exact S x n (by omega) (by omega) (fun _ => ih (x + 1) n (by omega) (by omega) (by omega)) (fun z => absurd z no)
/-- both loops from their starts, low and high known -/
theorem bw_j {k : Nat} {f : Int32} {t b c : Nat → Int32} (R : rl_R t b) {d l h : Nat} (hd : d < 4) (hll : l < 4) (hh : h < 4) {p q r s : Int} (hp : st_R p q) (htl : t l = fr_i p) (hbl : b l = fr_i q) (hr : st_R r s) (ht : t h = fr_i r) (hb : b h = fr_i s) (hle : p * s ≤ r * q) : ∃ m : Nat, (m : Int) ≤ q ∧ (∀ post : Int32 → SX → Prop, post (fr_i m) (upd t d (fr_i (bw_f p q m)), upd b d (fr_i m)) → wX_between_62 post (nI d) (nI l) (nI h) t b) ∧ (∀ post : Int32 → SY → Prop, post (fr_i m) (f, upd t d (fr_i (bw_f p q m)), upd b d (fr_i m), c) → ∃ n62 : Nat, wY_between_62 post (nI d) (nI l) (nI h) f t b c n62 1) ∧ i_Rel (k + 5) (upd t d (fr_i (bw_f p q m)), upd b d (fr_i m)) (f, upd t d (fr_i (bw_f p q m)), upd b d (fr_i m), c) := by
  have hp' := hp
  unfold st_R at hp'
  obtain ⟨m, m1, mq, ho, hl⟩ := bw_m (p := p) (q := q) (r := r) (s := s) (by omega) hle
  have hB := bw_b (p := p) (q := q) (x := m) (by omega) (by omega) (by omega)
  refine ⟨m, mq, fun post H => ?_, fun post H => ?_, rl_i (rl_u R ⟨by omega, by omega, by omega, by omega⟩)⟩
  · unfold wX_between_62
    exact ⟨rg_in hll, nm_r ((rg_at hll t).trans htl) ⟨rg_in hll, nm_r ((rg_at hll b).trans hbl) ⟨m, bw_X hd hh hp hr ht hb m1 mq ho hl H (m - 1) 1 m (by omega) (by omega) (by omega)⟩⟩⟩
  · exact ⟨m, bw_Y hd hll hh hp htl hbl hr ht hb m1 mq ho hl H (m - 1) 1 m (by omega) (by omega) (by omega)⟩
theorem od_0 {x y : Int} : 0 < od_c x y ↔ y < x := by
  unfold od_c
  by_cases h : x < y
  · rw [if_pos h]
    exact ⟨fun z => absurd z (by decide), fun z => absurd z (by omega)⟩
  · rw [if_neg h]
    by_cases h2 : y < x
    · rw [if_pos h2]
      exact ⟨fun _ => h2, fun _ => by decide⟩
    · rw [if_neg h2]
      exact ⟨fun z => absurd z (by decide), fun z => absurd z h2⟩
theorem bw_Xr {post : Int32 → SX → Prop} {t b : Nat → Int32} {v1 v2 v3 : Int32} (g : ¬ ∃ d i j : Nat, d < 4 ∧ i < 4 ∧ j < 4 ∧ v1 = nI d ∧ v2 = nI i ∧ v3 = nI j) (h : post (-1000000) (t, b)) : wpX_between post (t, b) v1 v2 v3 := by
  unfold wpX_between
  dsimp only
  rcases rg_c v1 with h1 | ⟨d, hd, rfl⟩
  · exact rg_Xn h1 (br_t rfl h)
  · rcases rg_c v2 with h2 | ⟨i, hi, rfl⟩
    · exact rg_Xy hd (br_f rg_1 (rg_Xn h2 (br_t rfl h)))
    · rcases rg_c v3 with h3 | ⟨j, hj, rfl⟩
      · exact rg_Xy hd (br_f rg_1 (rg_Xy hi (br_f rg_1 (rg_Xn h3 (br_t rfl h)))))
      · exact absurd ⟨d, i, j, hd, hi, hj, rfl, rfl, rfl⟩ g
theorem bw_Yr {post : Int32 → SY → Prop} {f : Int32} {t b c : Nat → Int32} {v1 v2 v3 : Int32} (g : ¬ ∃ d i j : Nat, d < 4 ∧ i < 4 ∧ j < 4 ∧ v1 = nI d ∧ v2 = nI i ∧ v3 = nI j) (h : post (-1000000) (f, t, b, c)) : wpY_between post (f, t, b, c) v1 v2 v3 := by
  unfold wpY_between
  dsimp only
  rcases rg_c v1 with h1 | ⟨d, hd, rfl⟩
  · exact rg_Yn h1 (br_t rfl h)
  · rcases rg_c v2 with h2 | ⟨i, hi, rfl⟩
    · exact rg_Yy hd (br_f rg_1 (rg_Yn h2 (br_t rfl h)))
    · rcases rg_c v3 with h3 | ⟨j, hj, rfl⟩
      · exact rg_Yy hd (br_f rg_1 (rg_Yy hi (br_f rg_1 (rg_Yn h3 (br_t rfl h)))))
      · exact absurd ⟨d, i, j, hd, hi, hj, rfl, rfl, rfl⟩ g
theorem i_vc_between {k : Nat} {u : SX} {v : SY} (I : i_Rel k u v) (hk : k + 5 ≤ 2560) (v1 : Int32) (v2 : Int32) (v3 : Int32) : wpX_between (fun r u' => wpY_between (fun r' v' => r' = r ∧ i_Rel (k + 5) u' v') v v1 v2 v3) u v1 v2 v3 := by
  obtain ⟨t, b, f, c, rfl, rfl, R⟩ := I
  by_cases g : ∃ d i j : Nat, d < 4 ∧ i < 4 ∧ j < 4 ∧ v1 = nI d ∧ v2 = nI i ∧ v3 = nI j
  · obtain ⟨d, i, j, hd, hi, hj, rfl, rfl, rfl⟩ := g
    obtain ⟨T, B, ht, hb, hr⟩ := R i hi
    obtain ⟨T', B', ht', hb', hr'⟩ := R j hj
    unfold wpX_between
    dsimp only
    refine rg_Xy hd (br_f rg_1 (rg_Xy hi (br_f rg_1 (rg_Xy hj (br_f rg_1 (od_X hi hj ht hb hr ht' hb' hr' ?_))))))
    by_cases lo : T' * B < T * B'
    · obtain ⟨m, mq, hX, hY, hR⟩ := bw_j (k := k) (f := f) (c := c) R (d := d) hd hj hi hr' ht' hb' hr ht hb (by omega)
      refine br_t (od_0.mpr lo) ?_
      unfold wX_between_38
      refine br_t rfl ?_
      unfold wX_between_50
      refine br_t rfl (hX _ ?_)
      unfold wpY_between
      dsimp only
      refine rg_Yy hd (br_f rg_1 (rg_Yy hi (br_f rg_1 (rg_Yy hj (br_f rg_1 (od_Y hi hj ht hb hr ht' hb' hr' (br_t (od_0.mpr lo) ?_)))))))
      unfold wY_between_41
      exact od_Y hi hj ht hb hr ht' hb' hr' (br_t (od_0.mpr lo) (hY _ ⟨rfl, hR⟩))
    · obtain ⟨m, mq, hX, hY, hR⟩ := bw_j (k := k) (f := f) (c := c) R (d := d) hd hi hj hr ht hb hr' ht' hb' (by omega)
      have lo' : ¬ 0 < od_c (T * B') (T' * B) := fun z => lo (od_0.mp z)
      refine br_f lo' ?_
      unfold wX_between_38
      refine br_f rg_1 ?_
      unfold wX_between_50
      refine br_f rg_1 (hX _ ?_)
      unfold wpY_between
      dsimp only
      refine rg_Yy hd (br_f rg_1 (rg_Yy hi (br_f rg_1 (rg_Yy hj (br_f rg_1 (od_Y hi hj ht hb hr ht' hb' hr' (br_f lo' ?_)))))))
      unfold wY_between_41
      exact od_Y hi hj ht hb hr ht' hb' hr' (br_f lo' (hY _ ⟨rfl, hR⟩))
  · exact bw_Xr g (bw_Yr g ⟨rfl, rl_i R⟩)
