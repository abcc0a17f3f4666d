/-! SUMS: how large the weights can be -/
theorem zs_add {f g : Nat → Int} : ∀ n, zs (fun p => f p + g p) n = zs f n + zs g n
  | 0 => rfl
  | n + 1 => by
    show zs (fun p => f p + g p) n + (f n + g n) = zs f n + f n + (zs g n + g n)
    rw [zs_add n]
    omega
theorem zs_mul {f : Nat → Int} {a : Int} : ∀ n, zs (fun p => a * f p) n = a * zs f n
  | 0 => by show (0 : Int) = a * 0; omega
  | n + 1 => by
    show zs (fun p => a * f p) n + a * f n = a * (zs f n + f n)
    rw [zs_mul n, Int.mul_add]
theorem zs_trim {f : Nat → Int} {P : Nat} (h : ∀ p, P ≤ p → f p = 0) : ∀ k, zs f (P + k) = zs f P
  | 0 => rfl
  | k + 1 => by
    show zs f (P + k) + f (P + k) = _
    rw [h (P + k) (by omega), zs_trim h k]
    omega
/-- what a step adds to a weighted sum -/
def su (m : Nat → Nat) (j : Nat) (x : Nat → Nat) : Int := zs (fun p => ee m j p * (x p : Int)) (m 0)
def Kc (m : Nat → Nat) (t : Nat) : (Nat → Nat) → Prop := fun x => inp m x ∧ lin m t x
theorem su_lnr {m : Nat → Nat} {j : Nat} {C : (Nat → Nat) → Prop} : lnr C (su m j) := by
  refine ⟨fun x y a b => ?_, fun x y a b h => ?_, fun x d => ?_⟩
  · unfold su
    rw [← zs_mul, ← zs_mul, ← zs_add]
    refine zs_congr _ fun p _ => ?_
    show ee m j p * ((a * x p + b * y p : Nat) : Int) = _
    rw [Int.natCast_add, Int.natCast_mul, Int.natCast_mul, Int.mul_add, Int.mul_left_comm, Int.mul_left_comm (ee m j p) (b : Int)]
  · unfold su
    rw [Int.sub_eq_add_neg, Int.neg_mul_eq_neg_mul, ← zs_mul, ← zs_mul, ← zs_add]
    refine zs_congr _ fun p _ => ?_
    show ee m j p * ((a * x p - b * y p : Nat) : Int) = _
    rw [Int.ofNat_sub (h p), Int.natCast_mul, Int.natCast_mul, Int.mul_sub, Int.mul_left_comm, Int.mul_left_comm (ee m j p) (b : Int), Int.neg_mul]
    omega
  · unfold su
    rw [← zs_mul]
    refine zs_congr _ fun p _ => ?_
    show ee m j p * ((d * x p : Nat) : Int) = _
    rw [Int.natCast_mul, Int.mul_left_comm]
theorem Kc_s {m : Nat → Nat} {t : Nat} : Kc m (t + 1) = cut (Kc m t) (su m t) := funext fun x => propext (by
  constructor
  · intro h
    exact ⟨⟨h.1, fun j hj => h.2 j (by omega)⟩, h.2 t (by omega)⟩
  · intro h
    refine ⟨h.1.1, fun j hj => ?_⟩
    by_cases e : j = t
    · rw [e]
      exact h.2
    · exact h.1.2 j (by omega))
theorem Kc_0 {m : Nat → Nat} (hw : m 0 ≤ 10) : cone (Kc m 0) := by
  refine ⟨fun x y a b hx hy => ⟨fun p hp => ?_, fun j hj => absurd hj (by omega)⟩, fun x y a b hx hy _ => ⟨fun p hp => ?_, fun j hj => absurd hj (by omega)⟩, fun x d hd hx => ⟨fun p hp => ?_, fun j hj => absurd hj (by omega)⟩, fun x hx p hp => hx.1 p (by omega)⟩
  · show a * x p + b * y p = 0
    rw [hx.1 p hp, hy.1 p hp, Nat.mul_zero, Nat.mul_zero]
  · show a * x p - b * y p = 0
    rw [hx.1 p hp, Nat.mul_zero, Nat.zero_sub]
  · exact (Nat.mul_eq_zero.mp (hx.1 p hp)).resolve_left (by omega)
theorem Kc_cone {m : Nat → Nat} (hw : m 0 ≤ 10) : ∀ t, cone (Kc m t)
  | 0 => Kc_0 hw
  | t + 1 => by
    rw [Kc_s]
    exact cut_cone (Kc_cone hw t) su_lnr
theorem elm_ray {m x : Nat → Nat} {t : Nat} : elm m t x ↔ ray (Kc m t) x := by
  constructor
  · intro ⟨h1, h2, h3, h4, h5⟩
    exact ⟨⟨h1, h2⟩, h3, fun y hy hn hs => h4 y hy.1 hy.2 hn hs, h5⟩
  · intro ⟨h1, h3, h4, h5⟩
    exact ⟨h1.1, h1.2, h3, fun y a b hn hs => h4 y ⟨a, b⟩ hn hs, h5⟩
theorem big {y : Nat → Int} : ∀ n, ∃ N : Nat, ∀ p, p < n → (y p).natAbs ≤ N
  | 0 => ⟨0, fun p hp => absurd hp (by omega)⟩
  | n + 1 => by
    obtain ⟨N, h⟩ := big (y := y) n
    refine ⟨N + (y n).natAbs, fun p hp => ?_⟩
    by_cases e : p = n
    · rw [e]
      omega
    · have := h p (by omega)
      omega
/-- any balanced vector on a least vector's places is in proportion to it -/
theorem sgn_prop {m x : Nat → Nat} {t : Nat} {y : Nat → Int} (hw : m 0 ≤ 10) (hx : ray (Kc m t) x) (hy : ∀ j, j < t → zs (fun p => ee m j p * y p) (m 0) = 0) (hs : ∀ p, x p = 0 → y p = 0) : ∃ (a : Nat) (b : Int), a ≠ 0 ∧ ∀ p, (a : Int) * y p = b * (x p : Int) := by
  obtain ⟨N, hN⟩ := big (y := y) 10
  have hx0 : ∀ p, m 0 ≤ p → x p = 0 := hx.1.1
  have nn : ∀ p, 0 ≤ (N : Int) * (x p : Int) + y p := fun p => by
    by_cases e : x p = 0
    · rw [hs p e, e]
      show 0 ≤ (N : Int) * 0 + 0
      omega
    · have hp : p < 10 := ten (Kc_cone hw t) hx.1 e
      have h1 := hN p hp
      have h2 : N * 1 ≤ N * x p := Nat.mul_le_mul_left _ (Nat.pos_of_ne_zero e)
      have h3 : ((N * x p : Nat) : Int) = (N : Int) * (x p : Int) := Int.natCast_mul _ _
      omega
  have ez : ∀ p, ((((N : Int) * (x p : Int) + y p).toNat : Nat) : Int) = (N : Int) * (x p : Int) + y p := fun p => Int.toNat_of_nonneg (nn p)
  have z0 : ∀ p, x p = 0 → ((N : Int) * (x p : Int) + y p).toNat = 0 := fun p hp => by
    rw [hs p hp, hp]
    show ((N : Int) * 0 + 0).toNat = 0
    omega
  have hz : Kc m t (fun p => ((N : Int) * (x p : Int) + y p).toNat) := by
    refine ⟨fun p hp => z0 p (hx0 p hp), fun j hj => ?_⟩
    have e1 : zs (fun p => ee m j p * ((((N : Int) * (x p : Int) + y p).toNat : Nat) : Int)) (m 0) = zs (fun p => (N : Int) * (ee m j p * (x p : Int)) + ee m j p * y p) (m 0) := zs_congr _ fun p _ => by
      rw [ez p, Int.mul_add, Int.mul_left_comm]
    rw [e1, zs_add, zs_mul, hy j hj, hx.1.2 j hj, Int.mul_zero]
    rfl
  by_cases hn : nz (fun p => ((N : Int) * (x p : Int) + y p).toNat)
  · obtain ⟨α, β, α0, β0, h⟩ := propn (Kc_cone hw t) hx hz hn z0
    refine ⟨β, (α : Int) - (β : Int) * (N : Int), β0, fun p => ?_⟩
    have h1 : ((α * x p : Nat) : Int) = ((β * ((N : Int) * (x p : Int) + y p).toNat : Nat) : Int) := congrArg _ (h p)
    rw [Int.natCast_mul, Int.natCast_mul, ez p, Int.mul_add, ← Int.mul_assoc] at h1
    rw [Int.sub_mul]
    omega
  · refine ⟨1, -(N : Int), by decide, fun p => ?_⟩
    have h0 : ((N : Int) * (x p : Int) + y p).toNat = 0 := Classical.byContradiction fun c => hn ⟨p, c⟩
    have := ez p
    rw [h0] at this
    rw [Int.neg_mul]
    omega
theorem sbl {M k j : Nat} (h : M < k) : M - j < k := Nat.lt_of_le_of_lt (Nat.sub_le _ _) h
/-- one bit less -/
theorem tb_sub : ∀ n M p q, M < 2 ^ n → p < n → M.testBit p = true → (M - 2 ^ p).testBit q = (M.testBit q && decide (q ≠ p))
  | 0, M, p, q, _, hp, _ => absurd hp (by omega)
  | n + 1, M, p, q, hM, hp, hb => by
    have big : n < q → M.testBit q = false ∧ (M - 2 ^ p).testBit q = false := fun h => by
      have : 2 ^ (n + 1) ≤ 2 ^ q := Nat.pow_le_pow_right (by decide) h
      exact ⟨Nat.testBit_lt_two_pow (by omega), Nat.testBit_lt_two_pow (sbl (by omega))⟩
    by_cases hq : n < q
    · rw [(big hq).1, (big hq).2]
      rfl
    · cases e : M.testBit n with
      | true =>
        have t := top_t hM e
        have bb : ∀ q, q < n → M.testBit q = (M - 2 ^ n).testBit q := fun q hq => by
          have b := bit_b (n := n) (K := M - 2 ^ n) hq
          rw [Nat.sub_add_cancel t.1] at b
          exact b
        by_cases ep : p = n
        · rw [ep]
          by_cases eq : q = n
          · rw [eq, decide_eq_false (fun c => c rfl), Bool.and_false]
            exact Nat.testBit_lt_two_pow t.2
          · rw [bb q (by omega), decide_eq_true eq, Bool.and_true]
        · have hb' : (M - 2 ^ n).testBit p = true := by
            rw [← bb p (by omega)]
            exact hb
          have g : 2 ^ p ≤ M - 2 ^ n := Nat.ge_two_pow_of_testBit hb'
          have e2 : M - 2 ^ p = (M - 2 ^ n - 2 ^ p) + 2 ^ n := by omega
          rw [e2]
          by_cases eq : q = n
          · rw [eq, bit_a (sbl t.2), e, decide_eq_true (show n ≠ p from fun c => ep c.symm)]
            rfl
          · rw [bit_b (by omega), tb_sub n (M - 2 ^ n) p q t.2 (by omega) hb', ← bb q (by omega)]
      | false =>
        have t := top_f hM e
        have hpn : p < n := by
          by_cases c : p = n
          · rw [c, e] at hb
            exact absurd hb (by decide)
          · omega
        exact tb_sub n M p q t hpn hb
theorem cn_drop {Q R : Nat → Bool} {p : Nat} (hR : ∀ q, R q = (Q q && decide (q ≠ p))) (hQ : Q p = true) : ∀ n, p < n → cn R n + 1 = cn Q n
  | 0, h => absurd h (by omega)
  | n + 1, h => by
    rw [cn_s, cn_s]
    by_cases e : p = n
    · have : cn R n = cn Q n := cn_cg n fun k hk => by
        rw [hR k, decide_eq_true (by omega), Bool.and_true]
      rw [this, ← e, hR p, hQ, decide_eq_false (fun c => c rfl)]
      rfl
    · have := cn_drop hR hQ n (by omega)
      rw [hR n, decide_eq_true (show n ≠ p from fun c => e c.symm), Bool.and_true]
      omega
def fc : Nat → Nat
  | 0 => 1
  | r + 1 => 2 * (r + 1) * fc r
theorem fc_8 : ∀ r, r < 9 → fc r ≤ 10321920 := by decide
def bz (M : Nat) : Nat := cn (fun p => M.testBit p) 10
theorem bz_sub {M p : Nat} (hM : M < 2 ^ 10) (hp : p < 10) (hb : M.testBit p = true) : bz (M - 2 ^ p) + 1 = bz M := cn_drop (fun q => tb_sub 10 M p q hM hp hb) hb 10 hp
theorem sub_sub {N S p : Nat} (hN : N < 2 ^ 10) (hp : p < 10) (hb : N.testBit p = true) (h : N &&& S = N) : (N - 2 ^ p) &&& S = N - 2 ^ p := sub_iff.mpr fun q hq => by
  rw [tb_sub 10 N p q hN hp hb, Bool.and_eq_true] at hq
  exact sub_iff.mp h q hq.1
/-- a longest product of rows that does not vanish on S -/
theorem longest {S : Nat} {c : Nat → Nat → Int} (hS : S < 2 ^ 10) (hc : ∀ j p, (c j p).natAbs ≤ 2) : ∀ t, ∃ (r : Nat) (W : Nat → Int), r ≤ t ∧ (∀ M, M < 2 ^ 10 → bz M ≠ r → W M = 0) ∧ (∀ M, M < 2 ^ 10 → (W M).natAbs ≤ fc r) ∧ (∃ M0, M0 &&& S = M0 ∧ W M0 ≠ 0) ∧ (∀ i, i < t → ∀ N, N &&& S = N → wd 10 (c i) W N = 0) ∧ ∀ x : Nat → Int, (∀ i, i < t → zs (fun q => c i q * x q) 10 = 0) → ∀ M, M < 2 ^ 10 → ct 10 x W M = 0
  | 0 => by
    refine ⟨0, fun M => if M = 0 then 1 else 0, Nat.le_refl _, fun M hM h => if_neg fun e => h ?_, fun M _ => ?_, ⟨0, Nat.zero_and _, by decide⟩, fun i hi => absurd hi (by omega), fun x _ M hM => ?_⟩
    · rw [e]
      decide
    · show (if M = 0 then (1 : Int) else 0).natAbs ≤ 1
      split <;> decide
    · -- adding a bit never gives the empty set
      have : ∀ n (W : Nat → Int), (∀ K p, W (K + 2 ^ p) = 0) → ∀ M, ct n x W M = 0 := fun n => by
        induction n with
        | zero => intro W _ M; rfl
        | succ n ih =>
          intro W hW M
          cases e : M.testBit n with
          | true =>
            rw [ct_t e, ih (fun K => W (K + 2 ^ n)) (fun K p => by
              show W (K + 2 ^ p + 2 ^ n) = 0
              exact hW _ n)]
            rfl
          | false =>
            rw [ct_f e, ih W hW, hW]
            omega
      refine this 10 _ (fun K p => if_neg ?_) M
      have : 0 < 2 ^ p := Nat.pow_pos (by decide)
      omega
  | t + 1 => by
    obtain ⟨r, W, h1, h2, h3, h4, h5, h6⟩ := longest hS hc t
    have lt : ∀ N, N &&& S = N → N < 2 ^ 10 := fun N h => Nat.lt_of_le_of_lt (sub_le h) hS
    by_cases e : ∃ N, N &&& S = N ∧ wd 10 (c t) W N ≠ 0
    · have van : ∀ (d V : Nat → Int) (N : Nat), (∀ p, (d p).natAbs ≤ 2) → N < 2 ^ 10 → (∀ p, p < 10 → N.testBit p = true → V (N - 2 ^ p) = 0) → wd 10 d V N = 0 := fun d V N hd hN h => by
        have := wd_b (n := 10) (B := 0) (c := d) (W := V) hd N hN (fun p hp hb => by rw [h p hp hb]; decide)
        rw [Nat.mul_zero] at this
        omega
      refine ⟨r + 1, wd 10 (c t) W, by omega, fun M hM h => ?_, fun M hM => ?_, e, fun i hi N hN => ?_, fun x hx M hM => ?_⟩
      · refine van _ _ M (hc t) hM fun p hp hb => h2 _ (sbl hM) fun c => h ?_
        have := bz_sub hM hp hb
        omega
      · by_cases g : bz M = r + 1
        · have := wd_b (n := 10) (B := fc r) (c := c t) (W := W) (hc t) M hM (fun p hp hb => h3 _ (sbl hM))
          have e2 : cn (fun p => M.testBit p) 10 = r + 1 := g
          rw [e2] at this
          exact this
        · have : wd 10 (c t) W M = 0 := van _ _ M (hc t) hM fun p hp hb => h2 _ (sbl hM) fun c => g (by
            have := bz_sub hM hp hb
            omega)
          rw [this]
          exact Nat.zero_le _
      · have hN' := lt N hN
        by_cases ei : i = t
        · rw [ei]
          exact wd_self hN'
        · rw [wd_anti N hN']
          have := van (c t) (wd 10 (c i) W) N (hc t) hN' (fun p hp hb => h5 i (by omega) _ (sub_sub hN' hp hb hN))
          rw [this]
          rfl
      · rw [ct_wd M hM, hx t (by omega), Int.zero_mul]
        have := wd_cg (n := 10) (c := c t) (d := c t) (W := ct 10 x W) (V := fun _ => 0) (fun _ _ => rfl) (h6 x (fun i hi => hx i (by omega))) M hM
        rw [this, wd_0]
        rfl
    · refine ⟨r, W, by omega, h2, h3, h4, fun i hi N hN => ?_, fun x hx => h6 x (fun i hi => hx i (by omega))⟩
      by_cases ei : i = t
      · rw [ei]
        exact Classical.byContradiction fun c => e ⟨N, hN, c⟩
      · exact h5 i (by omega) N hN
theorem bs_tb {Q : Nat → Bool} {q : Nat} : ∀ n, (bs Q n).testBit q = (decide (q < n) && Q q)
  | 0 => by
    show (0 : Nat).testBit q = _
    rw [Nat.zero_testBit, decide_eq_false (by omega)]
    rfl
  | n + 1 => by
    show (bs Q n ||| cond (Q n) (2 ^ n) 0).testBit q = _
    rw [Nat.testBit_or, bs_tb n]
    by_cases e : q = n
    · rw [e, decide_eq_false (by omega), decide_eq_true (by omega), Bool.false_and, Bool.false_or, Bool.true_and]
      cases Q n with
      | true => exact Nat.testBit_two_pow_self
      | false => exact Nat.zero_testBit _
    · have : (cond (Q n) (2 ^ n) 0).testBit q = false := by
        cases Q n with
        | true =>
          rw [cond_true, Nat.testBit_two_pow]
          exact decide_eq_false (fun c => e c.symm)
        | false => exact Nat.zero_testBit _
      rw [this, Bool.or_false]
      congr 1
      exact decide_eq_decide.mpr (by omega)
/-- a step's row, nothing beyond the places -/
def er (m : Nat → Nat) (j p : Nat) : Int := if p < m 0 ∧ j < 8 then ee m j p else 0
theorem er_b {m : Nat → Nat} (hw : wb m) (j p : Nat) : (er m j p).natAbs ≤ 2 := by
  unfold er
  split
  · rename_i h
    have w0 := hw.1
    have := hw.2.2.2.2.2.1 j p h.2 (by omega)
    unfold ee gv tk
    omega
  · decide
theorem er_zs {m : Nat → Nat} {j : Nat} {y : Nat → Int} (hw : m 0 ≤ 10) (hj : j < 8) : zs (fun q => er m j q * y q) 10 = zs (fun q => ee m j q * y q) (m 0) := by
  have h1 := zs_trim (f := fun q => er m j q * y q) (P := m 0) (fun p hp => by
    show er m j p * y p = 0
    unfold er
    rw [if_neg (by omega), Int.zero_mul]) (10 - m 0)
  rw [show m 0 + (10 - m 0) = 10 by omega] at h1
  rw [h1]
  refine zs_congr _ fun p hp => ?_
  unfold er
  rw [if_pos ⟨hp, hj⟩]
/-- the weights of a least vector -/
theorem ray_le {m x : Nat → Nat} {t : Nat} (hw : wb m) (ht : t ≤ 8) (hx : ray (Kc m t) x) : ∀ p, x p ≤ 10321920 := by
  have w0 := hw.1
  have hC := Kc_cone w0 t
  have tbS : ∀ q, (spt x).testBit q = true ↔ x q ≠ 0 := fun q => by
    unfold spt
    rw [bs_tb, Bool.and_eq_true]
    constructor
    · intro h
      exact of_decide_eq_true h.2
    · intro h
      exact ⟨decide_eq_true (ten hC hx.1 h), decide_eq_true h⟩
  have hS : spt x < 2 ^ 10 := bs_lt 10
  obtain ⟨r, W, h1, h2, h3, ⟨M0, h4, h4'⟩, h5, h6'⟩ := longest (S := spt x) (c := er m) hS (er_b hw) t
  have h6 := h6' (fun q => (x q : Int)) (fun i hi => by
    rw [er_zs w0 (by omega)]
    exact hx.1.2 i hi)
  generalize spt x = S at tbS hS h4 h5
  -- it is not all of S
  have ne : M0 ≠ S := fun c => by
    obtain ⟨p, hp⟩ := hx.2.1
    have hb := (tbS p).mpr hp
    have hp10 := ten hC hx.1 hp
    have g : 2 ^ p ≤ S := Nat.ge_two_pow_of_testBit hb
    have := ct_one (n := 10) (p := p) (x := fun q => (x q : Int)) (W := W) (S - 2 ^ p) (sbl hS) hp10 (by rw [tb_sub 10 S p p hS hp10 hb, decide_eq_false (fun c => c rfl), Bool.and_false]) (fun q hq hqp hqb => by
      rw [tb_sub 10 S p q hS hp10 hb, decide_eq_true hqp, Bool.and_true] at hqb
      have : x q = 0 := Classical.byContradiction fun d => by
        rw [(tbS q).mpr d] at hqb
        exact absurd hqb (by decide)
      show ((x q : Nat) : Int) = 0
      rw [this]
      rfl)
    rw [h6 _ (sbl hS), Nat.sub_add_cancel g, ← c, Int.natAbs_mul] at this
    have : ((x p : Nat) : Int).natAbs * (W M0).natAbs = 0 := this.symm
    rcases Nat.mul_eq_zero.mp this with z | z
    · omega
    · omega
  obtain ⟨p, p1, p2⟩ : ∃ p, S.testBit p = true ∧ M0.testBit p = false := Classical.byContradiction fun c => ne (Nat.eq_of_testBit_eq fun i => by
    cases e : S.testBit i with
    | true =>
      cases e2 : M0.testBit i with
      | true => rfl
      | false => exact absurd ⟨i, e, e2⟩ c
    | false =>
      cases e2 : M0.testBit i with
      | false => rfl
      | true =>
        rw [sub_iff.mp h4 i e2] at e
        exact absurd e (by decide))
  have hp10 : p < 10 := ten hC hx.1 ((tbS p).mp p1)
  have tbN : ∀ q, (M0 ||| 2 ^ p).testBit q = (M0.testBit q || decide (p = q)) := fun q => by rw [Nat.testBit_or, Nat.testBit_two_pow]
  have hNS : (M0 ||| 2 ^ p) &&& S = M0 ||| 2 ^ p := sub_iff.mpr fun q hq => by
    rw [tbN, Bool.or_eq_true] at hq
    rcases hq with g | g
    · exact sub_iff.mp h4 q g
    · rw [← of_decide_eq_true g]
      exact p1
  have hN : M0 ||| 2 ^ p < 2 ^ 10 := Nat.lt_of_le_of_lt (sub_le hNS) hS
  have hNp : (M0 ||| 2 ^ p).testBit p = true := by rw [tbN, decide_eq_true rfl, Bool.or_true]
  have eM : (M0 ||| 2 ^ p) - 2 ^ p = M0 := Nat.eq_of_testBit_eq fun q => by
    rw [tb_sub 10 _ p q hN hp10 hNp, tbN]
    by_cases e : q = p
    · rw [e, p2, decide_eq_false (show ¬ p ≠ p from fun c => c rfl), Bool.and_false]
    · rw [decide_eq_true e, decide_eq_false (fun c => e c.symm), Bool.or_false, Bool.and_true]
  generalize M0 ||| 2 ^ p = N at hNS hN hNp eM
  obtain ⟨a, b, a0, hab⟩ := sgn_prop (y := fun q => wd 10 (dl q) W N) w0 hx (fun j hj => by
    rw [← er_zs w0 (by omega), wd_sum]
    exact h5 j hj N hNS) (fun q hq => wd_out N (by
    cases e : N.testBit q with
    | false => rfl
    | true => exact absurd hq ((tbS q).mp (sub_iff.mp hNS q e))) hN)
  have yp : wd 10 (dl p) W N ≠ 0 := fun c => by
    have := wd_in (n := 10) (q := p) (W := W) N hp10 hNp hN
    rw [c, eM] at this
    have this : (0 : Int).natAbs = (W M0).natAbs := this
    rw [Int.natAbs_zero] at this
    exact h4' (Int.natAbs_eq_zero.mp this.symm)
  have b0 : b.natAbs ≠ 0 := fun c => by
    have e := hab p
    rw [Int.natAbs_eq_zero.mp c, Int.zero_mul] at e
    rcases Int.mul_eq_zero.mp e with z | z
    · omega
    · exact yp z
  have abs : ∀ q, a * (wd 10 (dl q) W N).natAbs = b.natAbs * x q := fun q => by
    have := congrArg Int.natAbs (hab q)
    rw [Int.natAbs_mul, Int.natAbs_mul] at this
    exact this
  -- reduced
  have hg : 0 < Nat.gcd a b.natAbs := Nat.gcd_pos_of_pos_left _ (Nat.pos_of_ne_zero a0)
  have ea : a = Nat.gcd a b.natAbs * (a / Nat.gcd a b.natAbs) := (Nat.mul_div_cancel' (Nat.gcd_dvd_left _ _)).symm
  have eb : b.natAbs = Nat.gcd a b.natAbs * (b.natAbs / Nat.gcd a b.natAbs) := (Nat.mul_div_cancel' (Nat.gcd_dvd_right _ _)).symm
  have cop : Nat.Coprime (a / Nat.gcd a b.natAbs) (b.natAbs / Nat.gcd a b.natAbs) := Nat.coprime_div_gcd_div_gcd hg
  generalize a / Nat.gcd a b.natAbs = a' at ea cop
  generalize b.natAbs / Nat.gcd a b.natAbs = b' at eb cop
  have b1 : b' ≠ 0 := fun c => b0 (by rw [eb, c, Nat.mul_zero])
  generalize Nat.gcd a b.natAbs = g at ea eb hg
  have h' : ∀ q, a' * (wd 10 (dl q) W N).natAbs = b' * x q := fun q => by
    have := abs q
    rw [ea, eb, Nat.mul_assoc, Nat.mul_assoc] at this
    exact Nat.eq_of_mul_eq_mul_left hg this
  have a1 : a' = 1 := hx.2.2.2 a' fun q => cop.dvd_of_dvd_mul_left ⟨_, (h' q).symm⟩
  intro q
  have hq := h' q
  rw [a1, Nat.one_mul] at hq
  by_cases e : N.testBit q = true
  · have q10 : q < 10 := ten hC hx.1 ((tbS q).mp (sub_iff.mp hNS q e))
    rw [wd_in N q10 e hN] at hq
    have k1 := h3 (N - 2 ^ q) (sbl hN)
    have k2 := fc_8 r (by omega)
    have k3 : 1 * x q ≤ b' * x q := Nat.mul_le_mul_right _ (Nat.pos_of_ne_zero b1)
    omega
  · have e' : N.testBit q = false := by
      cases c : N.testBit q with
      | false => rfl
      | true => exact absurd c e
    rw [wd_out N e' hN] at hq
    have hq : (0 : Int).natAbs = b' * x q := hq
    rw [Int.natAbs_zero] at hq
    have := (Nat.mul_eq_zero.mp hq.symm).resolve_left b1
    omega
