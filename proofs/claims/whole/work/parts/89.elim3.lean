/-! SUMS: what the solved rows tell of a set -/
/-- the steps' rows on a set -/
def crS (m : Nat → Nat) (S t q : Nat) : Int := if S.testBit q = true then er m t q else 0
theorem crS_b {m : Nat → Nat} {S : Nat} (hw : wb m) (t q : Nat) : (crS m S t q).natAbs ≤ 2 := by
  unfold crS
  split
  · exact er_b hw t q
  · decide
theorem crS_zs {m : Nat → Nat} {S t : Nat} {y : Nat → Int} (hw : m 0 ≤ 10) (ht : t < 8) (hy : ∀ q, S.testBit q = false → y q = 0) : zs (fun q => crS m S t q * y q) 10 = zs (fun q => ee m t q * y q) (m 0) := by
  rw [← er_zs hw ht]
  refine zs_congr 10 fun q _ => ?_
  unfold crS
  cases b : S.testBit q with
  | true => rw [if_pos rfl]
  | false => rw [hy q b, Int.mul_zero, Int.mul_zero]
/-- solved -/
def sv (m : Nat → Nat) (S k : Nat) (pv : Nat → Nat) (A : Nat → Nat → Int) (D P : Nat) : Prop :=
  (k ≤ m 1 ∧ D ≠ 0 ∧ D ≤ 10321920 ∧ cn (fun q => P.testBit q) 10 = k ∧ ∀ q, P.testBit q = true ↔ ∃ i, i < k ∧ pv i = q) ∧
  (∀ i, i < k → pv i < m 0 ∧ S.testBit (pv i) = true ∧ A i (pv i) ≠ 0 ∧ (∀ j, j < k → j ≠ i → A i (pv j) = 0) ∧ gz (A i) = 1 ∧ (∀ q, q < 10 → S.testBit q = false → A i q = 0) ∧ (A i (pv i)).natAbs ∣ D) ∧
  (∀ i q, i < m 1 → q < 10 → (A i q).natAbs ≤ 10321920) ∧
  ∀ y : Nat → Int, (∀ i, i < k → zs (fun q => A i q * y q) 10 = 0) ↔ (∀ t, t < m 1 → zs (fun q => crS m S t q * y q) 10 = 0)
theorem el_sv {m pv : Nat → Nat} {S k P : Nat} {A cs : Nat → Nat → Int} {W : Nat → Int} (hw : wb m) (hS : S < 2 ^ m 0) (h : el (crS m S) (fun q => S.testBit q = false) (m 1) k pv (m 0) A cs W P) : sv m S k pv A (W P).natAbs P := by
  have w0 := hw.1
  have w1 := hw.2.1
  have bd := el_bd w1 h w0
  obtain ⟨⟨h1, h2, h3, h4, h5⟩, h6, h7, h8, h9⟩ := h
  refine ⟨⟨h1, fun c => h4 (Int.natAbs_eq_zero.mp c), Nat.le_trans (h3.2 P h2) (fc_8 k (by omega)), Classical.byContradiction fun c => h4 (h3.1 P h2 c), h5⟩, fun i hi => ?_, bd.1, fun y => Iff.trans ?_ (h9 y)⟩
  · obtain ⟨a1, a2, a3, a4⟩ := h6 i hi
    obtain ⟨b1, b2, b3⟩ := h8 i (by omega)
    refine ⟨a1, ?_, a2, a3, b2.resolve_left fun z => a2 (z _ (by omega)), b3, bd.2 i hi⟩
    cases e : S.testBit (pv i) with
    | true => rfl
    | false => exact absurd (b3 _ (by omega) e) a2
  · constructor
    · intro hy t ht
      by_cases g : t < k
      · exact hy t g
      · refine zs_0 10 fun q hq => ?_
        have : A t q = 0 := by
          by_cases gq : q < m 0
          · exact (h7 t (by omega) ht).1 q gq
          · refine (h8 t ht).2.2 q hq ?_
            have : 2 ^ m 0 ≤ 2 ^ q := Nat.pow_le_pow_right (by decide) (by omega)
            exact Nat.testBit_lt_two_pow (by omega)
        rw [this, Int.zero_mul]
    · intro hy i hi
      exact hy i (by omega)
theorem cn_dif {Q R : Nat → Bool} (h : ∀ q, R q = true → Q q = true) : ∀ n, cn (fun q => Q q && ! R q) n + cn R n = cn Q n
  | 0 => rfl
  | n + 1 => by
    have := cn_dif h n
    rw [cn_s, cn_s, cn_s]
    show cn (fun q => Q q && ! R q) n + cond (Q n && ! R n) 1 0 + (cn R n + cond (R n) 1 0) = cn Q n + cond (Q n) 1 0
    have hn := h n
    cases e1 : R n with
    | true =>
      rw [hn e1]
      show cn (fun q => Q q && ! R q) n + 0 + (cn R n + 1) = cn Q n + 1
      omega
    | false =>
      cases e2 : Q n with
      | true =>
        show cn (fun q => Q q && ! R q) n + 1 + (cn R n + 0) = cn Q n + 1
        omega
      | false =>
        show cn (fun q => Q q && ! R q) n + 0 + (cn R n + 0) = cn Q n + 0
        omega
theorem cn_ex {Q : Nat → Bool} : ∀ n, cn Q n ≠ 0 → ∃ q, q < n ∧ Q q = true
  | 0, h => absurd rfl h
  | n + 1, h => by
    cases e : Q n with
    | true => exact ⟨n, by omega, e⟩
    | false =>
      rw [cn_s, e] at h
      obtain ⟨q, hq, h2⟩ := cn_ex n h
      exact ⟨q, by omega, h2⟩
/-- the weights by one free place -/
def kv (A : Nat → Nat → Int) (pv : Nat → Nat) (l : Nat) (D : Int) : Nat → Nat → Int
  | 0, q => if q = l then D else 0
  | i + 1, q => if q = pv i then - A i l * (D / A i (pv i)) else kv A pv l D i q
theorem kv_o {A : Nat → Nat → Int} {pv : Nat → Nat} {l : Nat} {D : Int} {q : Nat} : ∀ k, (∀ i, i < k → pv i ≠ q) → kv A pv l D k q = if q = l then D else 0
  | 0, _ => rfl
  | k + 1, h => (if_neg fun c => h k (by omega) c.symm).trans (kv_o k fun i hi => h i (by omega))
theorem kv_i {A : Nat → Nat → Int} {pv : Nat → Nat} {l : Nat} {D : Int} {i : Nat} : ∀ k, i < k → (∀ j, j < k → j ≠ i → pv j ≠ pv i) → kv A pv l D k (pv i) = - A i l * (D / A i (pv i))
  | 0, h, _ => absurd h (by omega)
  | k + 1, h, hd => by
    by_cases e : i = k
    · rw [e]
      exact if_pos rfl
    · exact (if_neg fun c => hd k (by omega) (fun g => e g.symm) c.symm).trans (kv_i k (by omega) fun j hj => hd j (by omega))
def lcz (A : Nat → Nat → Int) (pv : Nat → Nat) : Nat → Nat
  | 0 => 1
  | i + 1 => lcz A pv i / Nat.gcd (lcz A pv i) (A i (pv i)).natAbs * (A i (pv i)).natAbs
theorem lc_eq {a b : Nat} : a / Nat.gcd a b * b = Nat.lcm a b := by
  unfold Nat.lcm
  obtain ⟨z, hz⟩ := Nat.gcd_dvd_left a b
  by_cases g : Nat.gcd a b = 0
  · rw [g, Nat.div_zero, Nat.div_zero, Nat.zero_mul]
  · have g0 := Nat.pos_of_ne_zero g
    generalize Nat.gcd a b = y at hz g0
    rw [hz, Nat.mul_div_cancel_left _ g0, Nat.mul_assoc, Nat.mul_div_cancel_left _ g0]
theorem lcz_s {A : Nat → Nat → Int} {pv : Nat → Nat} {i : Nat} : lcz A pv (i + 1) = Nat.lcm (lcz A pv i) (A i (pv i)).natAbs := lc_eq
theorem lcz_to {A : Nat → Nat → Int} {pv : Nat → Nat} {e : Nat} : ∀ k, (∀ i, i < k → (A i (pv i)).natAbs ∣ e) → lcz A pv k ∣ e
  | 0, _ => Nat.one_dvd e
  | k + 1, h => by
    rw [lcz_s]
    exact Nat.lcm_dvd (lcz_to k fun i hi => h i (by omega)) (h k (by omega))
theorem lcz_of {A : Nat → Nat → Int} {pv : Nat → Nat} : ∀ k i, i < k → (A i (pv i)).natAbs ∣ lcz A pv k
  | 0, i, h => absurd h (by omega)
  | k + 1, i, h => by
    rw [lcz_s]
    by_cases e : i = k
    · rw [e]
      exact Nat.dvd_lcm_right _ _
    · exact Nat.dvd_trans (lcz_of k i (by omega)) (Nat.dvd_lcm_left _ _)
theorem dvn {a : Int} {n : Nat} (h : a.natAbs ∣ n) : a ∣ (n : Int) := Int.natAbs_dvd_natAbs.mp (by rw [Int.natAbs_natCast]; exact h)
section SV
variable {m pv : Nat → Nat} {S k D P : Nat} {A : Nat → Nat → Int}
theorem sv_pd (h : sv m S k pv A D P) {i j : Nat} (hi : i < k) (hj : j < k) (hne : j ≠ i) : pv j ≠ pv i := fun c => by
  have := (h.2.1 i hi).2.2.2.1 j hj hne
  rw [c] at this
  exact (h.2.1 i hi).2.2.1 this
theorem sv_sub (h : sv m S k pv A D P) {q : Nat} (hq : P.testBit q = true) : S.testBit q = true := by
  obtain ⟨i, hi, e⟩ := (h.1.2.2.2.2 q).mp hq
  rw [← e]
  exact (h.2.1 i hi).2.1
theorem sv_lc (h : sv m S k pv A D P) {i : Nat} (hi : i ≤ k) : lcz A pv i ∣ D ∧ 0 < lcz A pv i ∧ lcz A pv i ≤ 10321920 := by
  have h1 : lcz A pv i ∣ D := lcz_to i fun j hj => (h.2.1 j (by omega)).2.2.2.2.2.2
  refine ⟨h1, Nat.pos_of_dvd_of_pos h1 (Nat.pos_of_ne_zero h.1.2.1), Nat.le_trans (Nat.le_of_dvd (Nat.pos_of_ne_zero h.1.2.1) h1) h.1.2.2.1⟩
/-- a row on a vector: the own place and the free ones -/
theorem sv_row (hw : m 0 ≤ 10) (h : sv m S k pv A D P) {i l : Nat} (hi : i < k) (hl : l < 10) (hlP : P.testBit l = false) {y : Nat → Int} (hy : ∀ q, q < 10 → S.testBit q = true → P.testBit q = false → q ≠ l → y q = 0) : zs (fun q => A i q * y q) 10 = A i (pv i) * y (pv i) + A i l * y l := by
  obtain ⟨a1, a2, a3, a4, a5, a6, a7⟩ := h.2.1 i hi
  have hne : pv i ≠ l := fun c => by
    rw [← c, (h.1.2.2.2.2 _).mpr ⟨i, hi, rfl⟩] at hlP
    exact absurd hlP (by decide)
  refine zs_two (f := fun q => A i q * y q) hne 10 (by omega) hl fun q hq h1 h2 => ?_
  show A i q * y q = 0
  cases b : S.testBit q with
  | false => rw [a6 q hq b, Int.zero_mul]
  | true =>
    cases b2 : P.testBit q with
    | false => rw [hy q hq b b2 h2, Int.mul_zero]
    | true =>
      obtain ⟨j, hj, e⟩ := (h.1.2.2.2.2 q).mp b2
      rw [← e, a4 j hj fun c => h1 (by rw [← e, c]), Int.zero_mul]
theorem kv_out (h : sv m S k pv A D P) {l q : Nat} {E : Int} (hq : P.testBit q = false) : kv A pv l E k q = if q = l then E else 0 := kv_o k fun i hi c => by
  rw [(h.1.2.2.2.2 q).mpr ⟨i, hi, c⟩] at hq
  exact absurd hq (by decide)
theorem kv_in (h : sv m S k pv A D P) {l i : Nat} {E : Int} (hi : i < k) : kv A pv l E k (pv i) = - A i l * (E / A i (pv i)) := kv_i k hi fun _ hj hne => sv_pd h hi hj hne
theorem kv_ker (hw : m 0 ≤ 10) (h : sv m S k pv A D P) {l : Nat} {E : Int} (hl : l < 10) (hlP : P.testBit l = false) (hE : ∀ i, i < k → A i (pv i) ∣ E) : ∀ i, i < k → zs (fun q => A i q * kv A pv l E k q) 10 = 0 := fun i hi => by
  rw [sv_row hw h hi hl hlP (y := kv A pv l E k) (fun q _ _ hb hne => by rw [kv_out h hb, if_neg hne]), kv_in h hi, kv_out h hlP, if_pos rfl, Int.neg_mul, Int.mul_neg, Int.mul_left_comm, Int.mul_ediv_cancel' (hE i hi)]
  omega
theorem kv_S (h : sv m S k pv A D P) {l q : Nat} {E : Int} (hl : S.testBit l = true) (hq : S.testBit q = false) : kv A pv l E k q = 0 := by
  have b : P.testBit q = false := by
    cases b : P.testBit q with
    | false => rfl
    | true =>
      rw [sv_sub h b] at hq
      exact absurd hq (by decide)
  rw [kv_out h b, if_neg fun c => by
    rw [c, hl] at hq
    exact absurd hq (by decide)]
/-- what a least vector on the set has to be -/
theorem sv_ker (hw : wb m) (h : sv m S k pv A D P) {y : Nat → Int} (hy : ∀ q, S.testBit q = false → y q = 0) : (∀ i, i < k → zs (fun q => A i q * y q) 10 = 0) ↔ ∀ t, t < m 1 → zs (fun q => ee m t q * y q) (m 0) = 0 := by
  have w1 := hw.2.1
  rw [h.2.2.2 y]
  refine forall_congr' fun t => forall_congr' fun ht => ?_
  rw [crS_zs hw.1 (by omega) hy]
def isv (m : Nat → Nat) (S : Nat) : Prop := ∃ x, elm m (m 1) x ∧ spt x = S
theorem isv_x (hw : wb m) (h : sv m S k pv A D P) {x : Nat → Nat} (hx : elm m (m 1) x) (hs : spt x = S) : (∀ q, S.testBit q = true ↔ x q ≠ 0) ∧ ∀ i, i < k → zs (fun q => A i q * (x q : Int)) 10 = 0 := by
  have hb : ∀ q, S.testBit q = true ↔ x q ≠ 0 := fun q => by
    rw [← hs]
    exact spt_tb (fun p hp => hx.1 p (by have := hw.1; omega)) q
  refine ⟨hb, (sv_ker hw h fun q hq => ?_).mpr fun t ht => hx.2.1 t ht⟩
  have : x q = 0 := Classical.byContradiction fun c => by
    rw [(hb q).mpr c] at hq
    exact absurd hq (by decide)
  rw [this]
  rfl
theorem sum_a (hw : wb m) (h : sv m S k pv A D P) (hk : k + 1 ≠ szS S) : ¬ isv m S := by
  rintro ⟨x, hx, hs⟩
  obtain ⟨hb, hker⟩ := isv_x hw h hx hs
  have w0 := hw.1
  have cnt := cn_dif (Q := fun q => S.testBit q) (R := fun q => P.testBit q) (fun q hq => sv_sub h hq) 10
  have e1 : cn (fun q => S.testBit q) 10 = szS S := rfl
  rw [e1, h.1.2.2.2.1] at cnt
  by_cases g0 : cn (fun q => S.testBit q && ! P.testBit q) 10 = 0
  · obtain ⟨p, hp⟩ := hx.2.2.1
    have hp10 : p < 10 := Classical.byContradiction fun c => hp (hx.1 p (by omega))
    have z := cn_zero 10 g0
    have inP : ∀ q, q < 10 → S.testBit q = true → P.testBit q = true := fun q hq hS => by
      have := z q hq
      rw [hS] at this
      cases b : P.testBit q with
      | true => rfl
      | false =>
        rw [b] at this
        exact absurd this (by decide)
    obtain ⟨i, hi, e⟩ := (h.1.2.2.2.2 p).mp (inP p hp10 ((hb p).mpr hp))
    obtain ⟨a1, a2, a3, a4, a5, a6, a7⟩ := h.2.1 i hi
    have e2 := zs_one (f := fun q => A i q * (x q : Int)) (q := pv i) 10 (by omega) (fun q hq hne => by
      show A i q * (x q : Int) = 0
      cases b : S.testBit q with
      | false => rw [a6 q hq b, Int.zero_mul]
      | true =>
        obtain ⟨j, hj, ej⟩ := (h.1.2.2.2.2 q).mp (inP q hq b)
        rw [← ej, a4 j hj fun c => hne (by rw [← ej, c]), Int.zero_mul])
    rw [hker i hi] at e2
    have := mz0 a3 e2.symm
    rw [e] at this
    omega
  · obtain ⟨f1, hf1, b1⟩ := cn_ex 10 g0
    have dr := cn_drop (Q := fun q => S.testBit q && ! P.testBit q) (R := fun q => (S.testBit q && ! P.testBit q) && decide (q ≠ f1)) (p := f1) (fun q => rfl) b1 10 hf1
    obtain ⟨f2, hf2, b2⟩ := cn_ex (Q := fun q => (S.testBit q && ! P.testBit q) && decide (q ≠ f1)) 10 (by omega)
    rw [Bool.and_eq_true] at b1
    rw [Bool.and_eq_true, Bool.and_eq_true] at b2
    have n1 : P.testBit f1 = false := by
      cases b : P.testBit f1 with
      | false => rfl
      | true => rw [b] at b1; exact absurd b1.2 (by decide)
    have n2 : P.testBit f2 = false := by
      cases b : P.testBit f2 with
      | false => rfl
      | true => rw [b] at b2; exact absurd b2.1.2 (by decide)
    have ne : f2 ≠ f1 := of_decide_eq_true b2.2
    have kk := kv_ker w0 h (E := (D : Int)) hf2 n2 (fun i hi => dvn (h.2.1 i hi).2.2.2.2.2.2)
    have kS := fun q hq => kv_S h (E := (D : Int)) (q := q) b2.1.1 hq
    obtain ⟨a, b, a0, hab⟩ := sgn_prop (y := kv A pv f2 (D : Int) k) w0 (elm_ray.mp hx) ((sv_ker hw h kS).mp kk) (fun p hp => kS p (by
      cases c : S.testBit p with
      | false => rfl
      | true => exact absurd hp ((hb p).mp c)))
    have e1 := hab f1
    rw [kv_out h n1, if_neg (fun c => ne c.symm), Int.mul_zero] at e1
    have x1 : ((x f1 : Nat) : Int) ≠ 0 := by
      have := (hb f1).mp b1.1
      omega
    have b0 : b = 0 := (Int.mul_eq_zero.mp e1.symm).resolve_right x1
    have e2 := hab f2
    rw [kv_out h n2, if_pos rfl, b0, Int.zero_mul] at e2
    have := mz0 (by omega) e2
    have := h.1.2.1
    omega
/-- one free place -/
theorem one_free (h : sv m S k pv A D P) (hk : k + 1 = szS S) : ∃ l, l < 10 ∧ S.testBit l = true ∧ P.testBit l = false ∧ ∀ q, q < 10 → S.testBit q = true → P.testBit q = false → q = l := by
  have cnt := cn_dif (Q := fun q => S.testBit q) (R := fun q => P.testBit q) (fun q hq => sv_sub h hq) 10
  have e1 : cn (fun q => S.testBit q) 10 = szS S := rfl
  rw [e1, h.1.2.2.2.1] at cnt
  obtain ⟨l, hl, b1⟩ := cn_ex (Q := fun q => S.testBit q && ! P.testBit q) 10 (by omega)
  have dr := cn_drop (Q := fun q => S.testBit q && ! P.testBit q) (R := fun q => (S.testBit q && ! P.testBit q) && decide (q ≠ l)) (p := l) (fun q => rfl) b1 10 hl
  have z := cn_zero (P := fun q => (S.testBit q && ! P.testBit q) && decide (q ≠ l)) 10 (by omega)
  rw [Bool.and_eq_true] at b1
  refine ⟨l, hl, b1.1, ?_, fun q hq hS hP => Classical.byContradiction fun c => ?_⟩
  · cases b : P.testBit l with
    | false => rfl
    | true => rw [b] at b1; exact absurd b1.2 (by decide)
  · have := z q hq
    rw [hS, hP, decide_eq_true c] at this
    exact absurd this (by decide)
def opp (a b : Int) : Prop := (0 < a ∧ b < 0) ∨ (a < 0 ∧ 0 < b)
theorem sum_b (hw : wb m) (h : sv m S k pv A D P) {l i : Nat} (hl : l < 10) (hlS : S.testBit l = true) (hlP : P.testBit l = false) (hu : ∀ q, q < 10 → S.testBit q = true → P.testBit q = false → q = l) (hi : i < k) (hn : ¬ opp (A i (pv i)) (A i l)) : ¬ isv m S := by
  rintro ⟨x, hx, hs⟩
  obtain ⟨hb, hker⟩ := isv_x hw h hx hs
  have e := sv_row hw.1 h hi hl hlP (y := fun q => (x q : Int)) (fun q hq h1 h2 h3 => absurd (hu q hq h1 h2) h3)
  rw [hker i hi] at e
  have x1 := (hb l).mp hlS
  have x2 := (hb (pv i)).mp (h.2.1 i hi).2.1
  have o0 := (h.2.1 i hi).2.2.1
  have p1 : 0 < ((x l : Nat) : Int) := by omega
  have p2 : 0 < ((x (pv i) : Nat) : Int) := by omega
  have e : 0 = A i (pv i) * ((x (pv i) : Nat) : Int) + A i l * ((x l : Nat) : Int) := e
  apply hn
  rcases Int.lt_trichotomy (A i (pv i)) 0 with g | g | g
  · have := Int.mul_neg_of_neg_of_pos g p2
    right
    refine ⟨g, Classical.byContradiction fun c => ?_⟩
    have : A i l * ((x l : Nat) : Int) ≤ 0 := Int.mul_nonpos_of_nonpos_of_nonneg (by omega) (by omega)
    omega
  · exact absurd g o0
  · have := Int.mul_pos g p2
    left
    refine ⟨g, Classical.byContradiction fun c => ?_⟩
    have : 0 ≤ A i l * ((x l : Nat) : Int) := Int.mul_nonneg (by omega) (by omega)
    omega
theorem opp_pos {o r z : Int} (h : opp o r) (hz : 0 < o * z) : 0 < - r * z := by
  rcases h with ⟨a, b⟩ | ⟨a, b⟩
  · have z0 : 0 < z := Classical.byContradiction fun c => by
      have : o * z ≤ 0 := Int.mul_nonpos_of_nonneg_of_nonpos (by omega) (by omega)
      omega
    exact Int.mul_pos (by omega) z0
  · have z0 : z < 0 := Classical.byContradiction fun c => by
      have : o * z ≤ 0 := Int.mul_nonpos_of_nonpos_of_nonneg (by omega) (by omega)
      omega
    exact Int.mul_pos_of_neg_of_neg (by omega) z0
theorem sum_c (hw : wb m) (h : sv m S k pv A D P) {l : Nat} (hl : l < 10) (hlS : S.testBit l = true) (hlP : P.testBit l = false) (hu : ∀ q, q < 10 → S.testBit q = true → P.testBit q = false → q = l) (ho : ∀ i, i < k → opp (A i (pv i)) (A i l)) (hS : S < 2 ^ m 0) : isv m S ∧ ∀ q, kv A pv l (lcz A pv k : Int) k q = (ivw m S q : Int) := by
  have w0 := hw.1
  have lc := sv_lc h (Nat.le_refl k)
  have dv : ∀ i, i < k → A i (pv i) ∣ ((lcz A pv k : Nat) : Int) := fun i hi => dvn (lcz_of k i hi)
  have hS10 : ∀ q, S.testBit q = true → q < m 0 := fun q hq => Classical.byContradiction fun c => by
    have : 2 ^ m 0 ≤ 2 ^ q := Nat.pow_le_pow_right (by decide) (by omega)
    rw [Nat.testBit_lt_two_pow (by omega)] at hq
    exact absurd hq (by decide)
  have pos : ∀ q, S.testBit q = true → 0 < kv A pv l (lcz A pv k : Int) k q := fun q hq => by
    cases b : P.testBit q with
    | false =>
      rw [hu q (by have := hS10 q hq; omega) hq b, kv_out h hlP, if_pos rfl]
      omega
    | true =>
      obtain ⟨i, hi, e⟩ := (h.1.2.2.2.2 q).mp b
      rw [← e, kv_in h hi]
      refine opp_pos (ho i hi) ?_
      rw [Int.mul_ediv_cancel' (dv i hi)]
      omega
  have zer : ∀ q, S.testBit q = false → kv A pv l (lcz A pv k : Int) k q = 0 := fun q hq => kv_S h hlS hq
  have ex : ∀ q, (((kv A pv l (lcz A pv k : Int) k q).toNat : Nat) : Int) = kv A pv l (lcz A pv k : Int) k q := fun q => Int.toNat_of_nonneg (by
    cases b : S.testBit q with
    | true => have := pos q b; omega
    | false => rw [zer q b]; omega)
  have hb : ∀ q, S.testBit q = true ↔ (kv A pv l (lcz A pv k : Int) k q).toNat ≠ 0 := fun q => by
    constructor
    · intro hq
      have := pos q hq
      omega
    · intro hq
      cases b : S.testBit q with
      | true => rfl
      | false =>
        rw [zer q b] at hq
        exact absurd rfl hq
  have kk := kv_ker w0 h (E := (lcz A pv k : Int)) hl hlP dv
  have hel : elm m (m 1) (fun q => (kv A pv l (lcz A pv k : Int) k q).toNat) := by
    refine ⟨fun p hp => ?_, fun t ht => ?_, ⟨l, (hb l).mp hlS⟩, fun y hy1 hy2 hy3 hy4 p hp => Classical.byContradiction fun c => ?_, fun d hd => ?_⟩
    · exact Classical.byContradiction fun c => by
        have := hS10 p ((hb p).mpr c)
        omega
    · have := (sv_ker hw h zer).mp kk t ht
      rw [← this]
      exact zs_congr _ fun q _ => by rw [ex q]
    · have ky := (sv_ker hw h (y := fun q => (y q : Int)) (fun q hq => by
        have : y q = 0 := hy4 q (Classical.byContradiction fun c => by
          rw [(hb q).mpr c] at hq
          exact absurd hq (by decide))
        show ((y q : Nat) : Int) = 0
        rw [this]
        rfl)).mpr (fun t ht => hy2 t ht)
      have row : ∀ i, i < k → A i (pv i) * (y (pv i) : Int) + A i l * (y l : Int) = 0 := fun i hi => by
        rw [← ky i hi]
        exact (sv_row w0 h hi hl hlP (y := fun q => (y q : Int)) (fun q hq h1 h2 h3 => absurd (hu q hq h1 h2) h3)).symm
      have yl : y l ≠ 0 := fun yl => by
        obtain ⟨s, hs⟩ := hy3
        have sS : S.testBit s = true := (hb s).mpr fun c => hs (hy4 s c)
        cases b : P.testBit s with
        | false => exact hs (by rw [hu s (by have := hS10 s sS; omega) sS b]; exact yl)
        | true =>
          obtain ⟨i, hi, e⟩ := (h.1.2.2.2.2 s).mp b
          have := row i hi
          rw [yl] at this
          have this : A i (pv i) * (y (pv i) : Int) = 0 := by
            have z : A i l * ((0 : Nat) : Int) = 0 := Int.mul_zero _
            omega
          have := mz0 (h.2.1 i hi).2.2.1 this
          rw [e] at this
          omega
      have pS : S.testBit p = true := (hb p).mpr c
      cases b : P.testBit p with
      | false => exact yl (by rw [← hu p (by have := hS10 p pS; omega) pS b]; exact hp)
      | true =>
        obtain ⟨i, hi, e⟩ := (h.1.2.2.2.2 p).mp b
        have := row i hi
        rw [e, hp] at this
        have z : A i p * ((0 : Nat) : Int) = 0 := Int.mul_zero _
        have this : A i l * (y l : Int) = 0 := by omega
        rcases Int.mul_eq_zero.mp this with g | g
        · rcases ho i hi with g' | g' <;> omega
        · omega
    · have hd' : ∀ q, d ∣ (kv A pv l (lcz A pv k : Int) k q).natAbs := fun q => by
        have := hd q
        have e := ex q
        have e2 : (kv A pv l (lcz A pv k : Int) k q).toNat = (kv A pv l (lcz A pv k : Int) k q).natAbs := by omega
        have this : d ∣ (kv A pv l (lcz A pv k : Int) k q).toNat := this
        rw [e2] at this
        exact this
      have dl0 := hd' l
      rw [kv_out h hlP, if_pos rfl, Int.natAbs_natCast] at dl0
      obtain ⟨e, he⟩ := dl0
      have d0 : 0 < d := Nat.pos_of_ne_zero fun c => by rw [c, Nat.zero_mul] at he; omega
      have e0 : 0 < e := Nat.pos_of_ne_zero fun c => by rw [c, Nat.mul_zero] at he; omega
      have all : lcz A pv k ∣ e := lcz_to k fun i hi => by
        obtain ⟨z, hz⟩ := lcz_of k i hi
        have h1 := hd' (pv i)
        rw [kv_in h hi, Int.natAbs_mul, Int.natAbs_neg] at h1
        have o0 : (A i (pv i)).natAbs ≠ 0 := fun c => (h.2.1 i hi).2.2.1 (Int.natAbs_eq_zero.mp c)
        have ez : (((lcz A pv k : Nat) : Int) / A i (pv i)).natAbs = z := by
          have := congrArg Int.natAbs (Int.mul_ediv_cancel' (dv i hi))
          rw [Int.natAbs_mul, Int.natAbs_natCast] at this
          exact Nat.eq_of_mul_eq_mul_left (Nat.pos_of_ne_zero o0) (this.trans hz)
        rw [ez] at h1
        have h2 : d ∣ (A i (pv i)).natAbs * z := ⟨e, by rw [← hz, he]⟩
        have cop : Nat.gcd (A i (pv i)).natAbs (A i l).natAbs = 1 := by
          have g1 := (h.2.1 i hi).2.2.2.2.1
          have : Nat.gcd (A i (pv i)).natAbs (A i l).natAbs ∣ gz (A i) := dvd_gcn 10 fun q hq => by
            obtain ⟨a1, a2, a3, a4, a5, a6, a7⟩ := h.2.1 i hi
            cases b : S.testBit q with
            | false => rw [a6 q hq b]; exact Nat.dvd_zero _
            | true =>
              cases b2 : P.testBit q with
              | false => rw [hu q hq b b2]; exact Nat.gcd_dvd_right _ _
              | true =>
                obtain ⟨j, hj, ej⟩ := (h.1.2.2.2.2 q).mp b2
                by_cases g : j = i
                · rw [← ej, g]
                  exact Nat.gcd_dvd_left _ _
                · rw [← ej, a4 j hj g]
                  exact Nat.dvd_zero _
          rw [g1] at this
          exact Nat.dvd_one.mp this
        have h3 : d ∣ z := by
          have := Nat.dvd_gcd h2 h1
          rw [Nat.gcd_mul_right, cop, Nat.one_mul] at this
          exact this
        obtain ⟨y, hy⟩ := h3
        refine ⟨y, ?_⟩
        rw [hy, Nat.mul_left_comm] at hz
        rw [he] at hz
        exact Nat.eq_of_mul_eq_mul_left d0 hz
      have := Nat.le_of_dvd e0 all
      rw [he] at this
      have h2 : d * e ≤ 1 * e := by omega
      have := Nat.le_of_mul_le_mul_right h2 e0
      omega
  have hsp : spt (fun q => (kv A pv l (lcz A pv k : Int) k q).toNat) = S := Nat.eq_of_testBit_eq fun q => by
    have := spt_tb (x := fun q => (kv A pv l (lcz A pv k : Int) k q).toNat) (fun p hp => hel.1 p (by omega)) q
    cases b : S.testBit q with
    | true => exact this.mpr ((hb q).mp b)
    | false =>
      cases b2 : (spt (fun q => (kv A pv l (lcz A pv k : Int) k q).toNat)).testBit q with
      | false => rfl
      | true =>
        have := (hb q).mpr (this.mp b2)
        rw [b] at this
        exact absurd this (by decide)
  refine ⟨⟨_, hel, hsp⟩, fun q => ?_⟩
  have := ivw_eq w0 (elm_ray.mp hel)
  rw [hsp] at this
  rw [this]
  exact (ex q).symm
end SV
