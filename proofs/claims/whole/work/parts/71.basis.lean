/-! SUMS: bases, and a vector's own faces -/
theorem zs_0 {f : Nat → Int} : ∀ n, (∀ p, p < n → f p = 0) → zs f n = 0
  | 0, _ => rfl
  | n + 1, h => by
    show zs f n + f n = 0
    rw [zs_0 n (fun p hp => h p (by omega)), h n (by omega)]
    rfl
theorem zs_one {f : Nat → Int} {q : Nat} : ∀ n, q < n → (∀ p, p < n → p ≠ q → f p = 0) → zs f n = f q
  | 0, h, _ => absurd h (by omega)
  | n + 1, h, h2 => by
    show zs f n + f n = f q
    by_cases e : q = n
    · rw [zs_0 n (fun p hp => h2 p (by omega) (by omega)), e]
      omega
    · rw [zs_one n (by omega) (fun p hp => h2 p (by omega)), h2 n (by omega) (fun c => e c.symm)]
      omega
theorem zs_swap {F : Nat → Nat → Int} {k : Nat} : ∀ n, zs (fun a => zs (fun b => F a b) k) n = zs (fun b => zs (fun a => F a b) n) k
  | 0 => (zs_0 k (fun _ _ => rfl)).symm
  | n + 1 => by
    show zs (fun a => zs (fun b => F a b) k) n + zs (fun b => F n b) k = zs (fun b => zs (fun a => F a b) n + F n b) k
    rw [zs_swap n, zs_add]
/-- the product of rows that is longest on all places -/
def bsW (m : Nat → Nat) (t r : Nat) (W : Nat → Int) : Prop := (∀ M, M < 2 ^ 10 → bz M ≠ r → W M = 0) ∧ (∃ M0, M0 &&& (2 ^ m 0 - 1) = M0 ∧ W M0 ≠ 0) ∧ (∀ i, i < t → ∀ N, N &&& (2 ^ m 0 - 1) = N → wd 10 (er m i) W N = 0) ∧ ∀ x : Nat → Int, (∀ i, i < t → zs (fun q => er m i q * x q) 10 = 0) → ∀ M, M < 2 ^ 10 → ct 10 x W M = 0
theorem bsW_ex {m : Nat → Nat} {t : Nat} (hw : wb m) : ∃ r W, r ≤ t ∧ bsW m t r W := by
  have p := p2_le hw.1
  obtain ⟨r, W, h1, h2, h3, h4, h5, h6⟩ := longest (S := 2 ^ m 0 - 1) (c := er m) (by omega) (er_b hw) t
  exact ⟨r, W, h1, h2, h4, h5, h6⟩
section BASIS
variable {m : Nat → Nat} {t r : Nat} {W : Nat → Int}
def bas (m : Nat → Nat) (W : Nat → Int) (M : Nat) : Prop := M &&& (2 ^ m 0 - 1) = M ∧ W M ≠ 0
theorem full_tb {P q : Nat} : (2 ^ P - 1).testBit q = decide (q < P) := Nat.testBit_two_pow_sub_one P q
theorem sgn_abs (y : Int) : y.sign * y = (y.natAbs : Int) := by
  rcases Int.lt_trichotomy y 0 with h | h | h
  · rw [Int.sign_eq_neg_one_of_neg h]
    omega
  · rw [h]
    rfl
  · rw [Int.sign_eq_one_of_pos h]
    omega
theorem bas_lt (hw : m 0 ≤ 10) {M : Nat} (h : M &&& (2 ^ m 0 - 1) = M) : M < 2 ^ 10 := by
  have p := p2_le hw
  have := sub_le h
  omega
/-- balanced: no row sees it -/
def rz (m : Nat → Nat) (t : Nat) (x : Nat → Int) : Prop := ∀ i, i < t → zs (fun q => er m i q * x q) 10 = 0
theorem ind (hw : m 0 ≤ 10) (hB : bsW m t r W) {M : Nat} (hM : bas m W M) {x : Nat → Int} (hx : rz m t x) (h0 : ∀ q, q < 10 → M.testBit q = false → x q = 0) : ∀ q, q < 10 → x q = 0 := fun q hq => by
  have hlt := bas_lt hw hM.1
  cases e : M.testBit q with
  | false => exact h0 q hq e
  | true =>
    have g : 2 ^ q ≤ M := Nat.ge_two_pow_of_testBit e
    have := ct_one (n := 10) (p := q) (x := x) (W := W) (M - 2 ^ q) (sbl hlt) hq (by rw [tb_sub 10 M q q hlt hq e, decide_eq_false (show ¬ q ≠ q from fun c => c rfl), Bool.and_false]) (fun s hs hsq hsb => by
      rw [tb_sub 10 M q s hlt hq e, decide_eq_true hsq, Bool.and_true] at hsb
      exact h0 s hs hsb)
    rw [hB.2.2.2 x hx _ (sbl hlt), Nat.sub_add_cancel g, Int.natAbs_mul] at this
    have this : (x q).natAbs * (W M).natAbs = 0 := this.symm
    rcases Nat.mul_eq_zero.mp this with z | z
    · exact Int.natAbs_eq_zero.mp z
    · exact absurd (Int.natAbs_eq_zero.mp z) hM.2
/-- the balanced vector on a basis and one place more -/
def yq (W : Nat → Int) (M q s : Nat) : Int := wd 10 (dl s) W (M ||| 2 ^ q)
theorem or_tb {M q s : Nat} : (M ||| 2 ^ q).testBit s = (M.testBit s || decide (q = s)) := by rw [Nat.testBit_or, Nat.testBit_two_pow]
theorem or_in (hw : m 0 ≤ 10) {M q : Nat} (hM : M &&& (2 ^ m 0 - 1) = M) (hq : q < m 0) : (M ||| 2 ^ q) &&& (2 ^ m 0 - 1) = M ||| 2 ^ q := sub_iff.mpr fun s hs => by
  rw [or_tb, Bool.or_eq_true] at hs
  rcases hs with g | g
  · exact sub_iff.mp hM s g
  · rw [full_tb, ← of_decide_eq_true g]
    exact decide_eq_true hq
theorem yq_rz (hw : m 0 ≤ 10) (hB : bsW m t r W) {M q : Nat} (hM : bas m W M) (hq : q < m 0) : rz m t (yq W M q) := fun i hi => by
  have e : zs (fun s => er m i s * yq W M q s) 10 = wd 10 (er m i) W (M ||| 2 ^ q) := wd_sum _
  rw [e]
  exact hB.2.2.1 i hi _ (or_in hw hM.1 hq)
theorem yq_out (hw : m 0 ≤ 10) {M q s : Nat} (hM : bas m W M) (hq : q < m 0) (h1 : M.testBit s = false) (h2 : s ≠ q) : yq W M q s = 0 := wd_out _ (by rw [or_tb, h1, decide_eq_false (fun c => h2 c.symm)]; rfl) (bas_lt hw (or_in hw hM.1 hq))
theorem or_sub {M q : Nat} (hlt : M ||| 2 ^ q < 2 ^ 10) (hq : q < 10) (h : M.testBit q = false) : (M ||| 2 ^ q) - 2 ^ q = M := Nat.eq_of_testBit_eq fun s => by
  rw [tb_sub 10 _ q s hlt hq (by rw [or_tb, decide_eq_true rfl, Bool.or_true]), or_tb]
  by_cases e : s = q
  · rw [e, h, decide_eq_false (show ¬ q ≠ q from fun c => c rfl), Bool.and_false]
  · rw [decide_eq_true e, decide_eq_false (fun c => e c.symm), Bool.or_false, Bool.and_true]
theorem yq_q (hw : m 0 ≤ 10) {M q : Nat} (hM : bas m W M) (hq : q < m 0) (h : M.testBit q = false) : (yq W M q q).natAbs = (W M).natAbs := by
  have hlt := bas_lt hw (or_in hw hM.1 hq)
  have := wd_in (n := 10) (q := q) (W := W) (M ||| 2 ^ q) (by omega) (by rw [or_tb, decide_eq_true rfl, Bool.or_true]) hlt
  rw [or_sub hlt (by omega) h] at this
  exact this
/-- exchange: another basis -/
theorem yq_s (hw : m 0 ≤ 10) {M q s : Nat} (hM : bas m W M) (hq : q < m 0) (hs : s < 10) (h : M.testBit s = true) (hne : yq W M q s ≠ 0) : bas m W ((M ||| 2 ^ q) - 2 ^ s) := by
  have hin := or_in hw hM.1 hq
  have hlt := bas_lt hw hin
  have hb : (M ||| 2 ^ q).testBit s = true := by rw [or_tb, h]; rfl
  refine ⟨sub_sub hlt hs hb hin, fun c => hne ?_⟩
  have : (yq W M q s).natAbs = (W ((M ||| 2 ^ q) - 2 ^ s)).natAbs := wd_in (n := 10) (q := s) (W := W) (M ||| 2 ^ q) hs hb hlt
  rw [c] at this
  exact Int.natAbs_eq_zero.mp this
/-- a least vector lies on a basis and one place more -/
theorem near (hw : wb m) (ht : t ≤ 8) (hB : bsW m t r W) {v : Nat → Nat} (hv : ray (Kc m t) v) : ∀ k M, bas m W M → cn (fun s => decide (v s ≠ 0) && ! M.testBit s) 10 ≤ k → ∃ M p, bas m W M ∧ p < m 0 ∧ v p ≠ 0 ∧ M.testBit p = false ∧ ∀ s, v s ≠ 0 → s = p ∨ M.testBit s = true := fun k => by
  have w0 := hw.1
  have hC := Kc_cone w0 t
  have v10 : ∀ s, v s ≠ 0 → s < m 0 := fun s hs => Classical.byContradiction fun c => hs (hv.1.1 s (by omega))
  have vz : rz m t (fun q => (v q : Int)) := fun i hi => by
    rw [er_zs w0 (by omega)]
    exact hv.1.2 i hi
  induction k with
  | zero =>
    intro M hM hk
    have hz := cn_zero (P := fun s => decide (v s ≠ 0) && ! M.testBit s) 10 (Nat.le_zero.mp hk)
    obtain ⟨q, hq⟩ := hv.2.1
    have := ind w0 hB hM vz (fun s hs hsb => by
      have := hz s hs
      rw [hsb, Bool.not_false, Bool.and_true] at this
      have : ¬ v s ≠ 0 := of_decide_eq_false this
      show ((v s : Nat) : Int) = 0
      omega) q (ten hC hv.1 hq)
    exact absurd (show ((v q : Nat) : Int) = 0 from this) (by omega)
  | succ k ih =>
    intro M hM hk
    by_cases e0 : ∃ q, v q ≠ 0 ∧ M.testBit q = false
    · obtain ⟨q, q1, q2⟩ := e0
      by_cases e1 : ∃ q', q' ≠ q ∧ v q' ≠ 0 ∧ M.testBit q' = false
      · obtain ⟨q', a1, a2, a3⟩ := e1
        have hq := v10 q q1
        -- some place of the basis off v can go
        have ex : ∃ s, s < 10 ∧ M.testBit s = true ∧ v s = 0 ∧ yq W M q s ≠ 0 := Classical.byContradiction fun c => by
          obtain ⟨a, b, a0, hab⟩ := sgn_prop (y := yq W M q) w0 hv (fun j hj => by
            rw [← er_zs w0 (by omega)]
            exact yq_rz w0 hB hM hq j hj) (fun s hs => Classical.byContradiction fun d => by
            cases g : M.testBit s with
            | false =>
              have : s = q := Classical.byContradiction fun z => d (yq_out w0 hM hq g z)
              rw [this] at hs
              exact q1 hs
            | true =>
              have s10 : s < 10 := Classical.byContradiction fun z => by
                rw [tb_lt (P := 10) (bas_lt w0 hM.1) (by omega)] at g
                exact absurd g (by decide)
              exact c ⟨s, s10, g, hs, d⟩)
          have h1 := hab q'
          rw [yq_out w0 hM hq a3 a1, Int.mul_zero] at h1
          have b0 : b = 0 := (Int.mul_eq_zero.mp h1.symm).resolve_right (by omega)
          have h2 := hab q
          rw [b0, Int.zero_mul] at h2
          have h3 : yq W M q q = 0 := (Int.mul_eq_zero.mp h2).resolve_left (by omega)
          have h4 := yq_q w0 hM hq q2
          rw [h3] at h4
          exact hM.2 (Int.natAbs_eq_zero.mp h4.symm)
        obtain ⟨s, s1, s2, s3, s4⟩ := ex
        have hM' := yq_s w0 hM hq s1 s2 s4
        have hlt := bas_lt w0 (or_in w0 hM.1 hq)
        have tb' : ∀ x, ((M ||| 2 ^ q) - 2 ^ s).testBit x = ((M.testBit x || decide (q = x)) && decide (x ≠ s)) := fun x => by rw [tb_sub 10 _ s x hlt s1 (by rw [or_tb, s2]; rfl), or_tb]
        refine ih _ hM' ?_
        have lt : cn (fun x => decide (v x ≠ 0) && ! ((M ||| 2 ^ q) - 2 ^ s).testBit x) 10 < cn (fun x => decide (v x ≠ 0) && ! M.testBit x) 10 := by
          refine cn_lt 10 (fun x _ hx => ?_) ⟨q, by omega, ?_, ?_⟩
          · rw [Bool.and_eq_true] at hx
            rw [hx.1, Bool.true_and]
            have vx := of_decide_eq_true hx.1
            have xs : x ≠ s := fun c => vx (by rw [c]; exact s3)
            rw [tb', decide_eq_true xs, Bool.and_true] at hx
            cases g : M.testBit x with
            | false => rfl
            | true =>
              rw [g, Bool.true_or] at hx
              exact absurd hx.2 (by decide)
          · show (decide (v q ≠ 0) && ! ((M ||| 2 ^ q) - 2 ^ s).testBit q) = false
            have qs : q ≠ s := fun c => q1 (by rw [c]; exact s3)
            rw [tb', decide_eq_true (rfl : q = q), Bool.or_true, decide_eq_true qs]
            exact Bool.and_false _
          · show (decide (v q ≠ 0) && ! M.testBit q) = true
            rw [decide_eq_true q1, q2]
            rfl
        omega
      · refine ⟨M, q, hM, v10 q q1, q1, q2, fun s hs => ?_⟩
        by_cases c : s = q
        · exact Or.inl c
        · refine Or.inr ?_
          cases g : M.testBit s with
          | true => rfl
          | false => exact absurd ⟨s, c, hs, g⟩ e1
    · obtain ⟨q, hq⟩ := hv.2.1
      have := ind w0 hB hM vz (fun s hs hsb => by
        have : v s = 0 := Classical.byContradiction fun d => e0 ⟨s, d, hsb⟩
        show ((v s : Nat) : Int) = 0
        omega) q (ten hC hv.1 hq)
      exact absurd (show ((v q : Nat) : Int) = 0 from this) (by omega)
/-- places off the basis -/
def off (m : Nat → Nat) (M q : Nat) : Bool := decide (q < m 0) && ! M.testBit q
/-- the vector for a place off the basis, its own place positive -/
def yh (W : Nat → Int) (M q s : Nat) : Int := (yq W M q q).sign * yq W M q s
theorem yh_q (hw : m 0 ≤ 10) {M q : Nat} (hM : bas m W M) (h : off m M q = true) : yh W M q q = ((W M).natAbs : Int) := by
  unfold off at h
  rw [Bool.and_eq_true, Bool.not_eq_true'] at h
  unfold yh
  rw [sgn_abs, yq_q hw hM (of_decide_eq_true h.1) h.2]
/-- every balanced vector is made of those -/
theorem made (hw : m 0 ≤ 10) (hB : bsW m t r W) {M : Nat} (hM : bas m W M) {x : Nat → Int} (hx : rz m t x) (hx0 : ∀ q, m 0 ≤ q → x q = 0) : ∀ s, s < 10 → ((W M).natAbs : Int) * x s = zs (fun q => cond (off m M q) (x q * yh W M q s) 0) 10 := by
  have off_t : ∀ q, off m M q = true → q < m 0 ∧ M.testBit q = false := fun q h => by
    unfold off at h
    rw [Bool.and_eq_true, Bool.not_eq_true'] at h
    exact ⟨of_decide_eq_true h.1, h.2⟩
  have key := ind hw hB hM (x := fun s => ((W M).natAbs : Int) * x s + (-1) * zs (fun q => cond (off m M q) (x q * yh W M q s) 0) 10) (fun i hi => by
    have e1 : zs (fun s => er m i s * (((W M).natAbs : Int) * x s + (-1) * zs (fun q => cond (off m M q) (x q * yh W M q s) 0) 10)) 10 = zs (fun s => ((W M).natAbs : Int) * (er m i s * x s) + (-1) * zs (fun q => er m i s * cond (off m M q) (x q * yh W M q s) 0) 10) 10 := zs_congr _ fun s _ => by
      rw [zs_mul, Int.mul_add, Int.mul_left_comm, Int.mul_left_comm (er m i s) (-1)]
    rw [e1, zs_add, zs_mul, zs_mul, hx i hi, zs_swap]
    have e2 : zs (fun q => zs (fun s => er m i s * cond (off m M q) (x q * yh W M q s) 0) 10) 10 = 0 := zs_0 10 fun q _ => by
      cases g : off m M q with
      | false => exact zs_0 10 fun s _ => Int.mul_zero _
      | true =>
        have e3 : zs (fun s => er m i s * cond true (x q * yh W M q s) 0) 10 = zs (fun s => (x q * (yq W M q q).sign) * (er m i s * yq W M q s)) 10 := zs_congr _ fun s _ => by
          show er m i s * (x q * ((yq W M q q).sign * yq W M q s)) = _
          rw [← Int.mul_assoc (x q), Int.mul_left_comm]
        rw [e3, zs_mul, yq_rz hw hB hM (off_t q g).1 i hi, Int.mul_zero]
    rw [e2]
    omega) (fun s hs hsb => by
    show ((W M).natAbs : Int) * x s + (-1) * zs (fun q => cond (off m M q) (x q * yh W M q s) 0) 10 = 0
    by_cases g : off m M s = true
    · rw [zs_one 10 hs (fun q hq hqs => by
        cases g2 : off m M q with
        | false => rfl
        | true =>
          show x q * ((yq W M q q).sign * yq W M q s) = 0
          rw [yq_out hw hM (off_t q g2).1 hsb (fun c => hqs c.symm), Int.mul_zero, Int.mul_zero])]
      rw [g, cond_true, yh_q hw hM g, Int.mul_comm]
      omega
    · have sP : m 0 ≤ s := Classical.byContradiction fun c => g (by
        unfold off
        rw [decide_eq_true (by omega), hsb]
        rfl)
      rw [hx0 s sP, zs_0 10 (fun q hq => by
        cases g2 : off m M q with
        | false => rfl
        | true =>
          show x q * ((yq W M q q).sign * yq W M q s) = 0
          have := (off_t q g2).1
          rw [yq_out hw hM (off_t q g2).1 hsb (by omega), Int.mul_zero, Int.mul_zero])]
      omega)
  intro s hs
  have := key s hs
  have this : ((W M).natAbs : Int) * x s + (-1) * zs (fun q => cond (off m M q) (x q * yh W M q s) 0) 10 = 0 := this
  omega
/-- a measure that is zero at v, told by the places where v is zero -/
theorem dual (hw : wb m) (ht : t ≤ 8) (hB : bsW m t r W) {v : Nat → Nat} (hv : ray (Kc m t) v) {g : Nat → Int} (hg : zs (fun p => g p * (v p : Int)) 10 = 0) : ∃ (M p : Nat) (Λ : Nat) (h : Nat → Int), bas m W M ∧ p < m 0 ∧ M.testBit p = false ∧ (∀ s, v s ≠ 0 → s = p ∨ M.testBit s = true) ∧ Λ ≠ 0 ∧ ∀ x : Nat → Int, rz m t x → (∀ q, m 0 ≤ q → x q = 0) → (Λ : Int) * zs (fun s => g s * x s) 10 = zs (fun q => cond (off m M q && decide (q ≠ p)) (x q * h q) 0) 10 := by
  have w0 := hw.1
  obtain ⟨M1, hM1⟩ := hB.2.1
  obtain ⟨M, p, hM, h1, h2, h3, h4⟩ := near hw ht hB hv _ M1 hM1 (Nat.le_refl _)
  have Λ0 : (W M).natAbs ≠ 0 := fun c => hM.2 (Int.natAbs_eq_zero.mp c)
  have gen : ∀ x : Nat → Int, rz m t x → (∀ q, m 0 ≤ q → x q = 0) → ((W M).natAbs : Int) * zs (fun s => g s * x s) 10 = zs (fun q => cond (off m M q) (x q * zs (fun s => g s * yh W M q s) 10) 0) 10 := fun x hx hx0 => by
    have e1 : ((W M).natAbs : Int) * zs (fun s => g s * x s) 10 = zs (fun s => zs (fun q => cond (off m M q) (x q * (g s * yh W M q s)) 0) 10) 10 := by
      rw [← zs_mul]
      refine zs_congr _ fun s hs => ?_
      rw [Int.mul_left_comm, made w0 hB hM hx hx0 s hs, ← zs_mul]
      refine zs_congr _ fun q _ => ?_
      cases off m M q with
      | false => exact Int.mul_zero _
      | true => exact Int.mul_left_comm _ _ _
    rw [e1, zs_swap]
    refine zs_congr _ fun q _ => ?_
    cases off m M q with
    | false => exact zs_0 10 fun _ _ => rfl
    | true => exact zs_mul 10
  have vz : rz m t (fun q => (v q : Int)) := fun i hi => by
    rw [er_zs w0 (by omega)]
    exact hv.1.2 i hi
  have offp : off m M p = true := by
    unfold off
    rw [decide_eq_true h1, h3]
    rfl
  have hp0 : zs (fun s => g s * yh W M p s) 10 = 0 := by
    have := gen (fun q => (v q : Int)) vz (fun q hq => by
      show ((v q : Nat) : Int) = 0
      rw [hv.1.1 q hq]
      rfl)
    rw [hg, Int.mul_zero, zs_one 10 (show p < 10 by omega) (fun q hq hqp => by
      cases e : off m M q with
      | false => rfl
      | true =>
        unfold off at e
        rw [Bool.and_eq_true, Bool.not_eq_true'] at e
        have : v q = 0 := Classical.byContradiction fun d => by
          rcases h4 q d with z | z
          · exact hqp z
          · rw [z] at e
            exact absurd e.2 (by decide)
        show ((v q : Nat) : Int) * _ = 0
        rw [this]
        exact Int.zero_mul _), offp] at this
    exact (Int.mul_eq_zero.mp this.symm).resolve_left (by omega)
  refine ⟨M, p, (W M).natAbs, fun q => zs (fun s => g s * yh W M q s) 10, hM, h1, h3, h4, Λ0, fun x hx hx0 => ?_⟩
  rw [gen x hx hx0]
  refine zs_congr _ fun q _ => ?_
  by_cases e : q = p
  · rw [e, offp, cond_true, hp0, Int.mul_zero, decide_eq_false (show ¬ p ≠ p from fun c => c rfl)]
    rfl
  · rw [decide_eq_true e, Bool.and_true]
end BASIS
