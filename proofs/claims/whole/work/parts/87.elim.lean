/-! SUMS: elimination, pure -/
theorem wd_linc {n : Nat} {c d W : Nat → Int} {a b : Int} : ∀ M, wd n (fun p => a * c p + b * d p) W M = a * wd n c W M + b * wd n d W M := by
  induction n generalizing W with
  | zero => intro M; show (0 : Int) = a * 0 + b * 0; omega
  | succ n ih =>
    intro M
    cases e : M.testBit n with
    | true =>
      rw [wd_t e, wd_t e, wd_t e, ih]
      simp only [Int.add_mul, Int.mul_sub, Int.mul_assoc]
      omega
    | false => rw [wd_f e, wd_f e, wd_f e, ih]
/-- a row in proportion to two others -/
theorem wd_comb {u c d W : Nat → Int} {g a b : Int} (h : ∀ q, q < 10 → g * u q = a * c q + b * d q) (M : Nat) (hM : M < 2 ^ 10) : g * wd 10 u W M = a * wd 10 c W M + b * wd 10 d W M := by
  have e : wd 10 (fun q => g * u q + 0 * u q) W M = wd 10 (fun q => a * c q + b * d q) W M := wd_cg (fun q hq => by
    show g * u q + 0 * u q = a * c q + b * d q
    rw [h q hq, Int.zero_mul, Int.add_zero]) (fun _ _ => rfl) M hM
  rw [wd_linc, wd_linc, Int.zero_mul, Int.add_zero] at e
  exact e
theorem wd_mulW {n : Nat} {c W : Nat → Int} {a : Int} (M : Nat) : wd n c (fun K => a * W K) M = a * wd n c W M := by
  have := wd_lin (n := n) (c := c) (W := W) (V := W) (a := a) (b := 0) M
  simp only [Int.zero_mul, Int.add_zero] at this
  exact this
/-- a product of so many rows with small entries -/
def dgW (W : Nat → Int) (k : Nat) : Prop := (∀ M, M < 2 ^ 10 → bz M ≠ k → W M = 0) ∧ ∀ M, M < 2 ^ 10 → (W M).natAbs ≤ fc k
theorem dgW_0 : dgW (fun M => if M = 0 then 1 else 0) 0 := by
  refine ⟨fun M hM h => if_neg fun e => h ?_, fun M _ => ?_⟩
  · rw [e]
    decide
  · show (if M = 0 then (1 : Int) else 0).natAbs ≤ 1
    split <;> decide
theorem dgW_s {W c : Nat → Int} {k : Nat} (h : dgW W k) (hc : ∀ p, (c p).natAbs ≤ 2) : dgW (wd 10 c W) (k + 1) := by
  have van : ∀ N, N < 2 ^ 10 → (∀ p, p < 10 → N.testBit p = true → W (N - 2 ^ p) = 0) → wd 10 c W N = 0 := fun N hN h => by
    have := wd_b (n := 10) (B := 0) (c := c) (W := W) hc N hN (fun p hp hb => by rw [h p hp hb]; decide)
    rw [Nat.mul_zero] at this
    omega
  have z : ∀ M, M < 2 ^ 10 → bz M ≠ k + 1 → wd 10 c W M = 0 := fun M hM g => van M hM fun p hp hb => h.1 _ (sbl hM) fun c => g (by
    have := bz_sub hM hp hb
    omega)
  refine ⟨z, fun M hM => ?_⟩
  by_cases g : bz M = k + 1
  · have := wd_b (n := 10) (B := fc k) (c := c) (W := W) hc M hM (fun p hp hb => h.2 _ (sbl hM))
    have e2 : cn (fun p => M.testBit p) 10 = k + 1 := g
    rw [e2] at this
    exact this
  · rw [z M hM g]
    exact Nat.zero_le _
theorem gcn_cg {x y : Nat → Nat} : ∀ n, (∀ p, p < n → x p = y p) → gcn x n = gcn y n
  | 0, _ => rfl
  | n + 1, h => by
    show Nat.gcd (gcn x n) (x n) = Nat.gcd (gcn y n) (y n)
    rw [gcn_cg n (fun p hp => h p (by omega)), h n (by omega)]
theorem gcn_mul {x : Nat → Nat} {w : Nat} : ∀ n, gcn (fun p => x p * w) n = gcn x n * w
  | 0 => (Nat.zero_mul w).symm
  | n + 1 => by
    show Nat.gcd (gcn (fun p => x p * w) n) (x n * w) = Nat.gcd (gcn x n) (x n) * w
    rw [gcn_mul n, Nat.gcd_mul_right]
theorem gcn_cop {x : Nat → Nat} {d w : Nat} (h1 : gcn x 10 = 1) (h : ∀ p, p < 10 → d ∣ x p * w) : d ∣ w := by
  have := dvd_gcn (x := fun p => x p * w) 10 h
  rw [gcn_mul, h1, Nat.one_mul] at this
  exact this
/-- a row without a common divisor is at most any row in proportion to it -/
theorem pb {f v : Nat → Nat} {D a : Nat} (h1 : gcn f 10 = 1) (hD : D ≠ 0) (h : ∀ q, q < 10 → D * f q = a * v q) : a ∣ D ∧ ∀ q, q < 10 → f q ≤ v q := by
  have hd : a ∣ D := gcn_cop h1 fun q hq => ⟨v q, by rw [Nat.mul_comm, h q hq]⟩
  refine ⟨hd, fun q hq => ?_⟩
  obtain ⟨l, hl⟩ := hd
  have a0 : 0 < a := Nat.pos_of_ne_zero fun c => hD (by rw [hl, c, Nat.zero_mul])
  have l0 : 0 < l := Nat.pos_of_ne_zero fun c => hD (by rw [hl, c, Nat.mul_zero])
  have e := h q hq
  rw [hl, Nat.mul_assoc] at e
  have e2 := Nat.eq_of_mul_eq_mul_left a0 e
  have := Nat.mul_le_mul_right (f q) l0
  omega
/-- a row divided by its common divisor -/
def gz (f : Nat → Int) : Nat := gcn (fun q => (f q).natAbs) 10
def shr (f : Nat → Int) (q : Nat) : Int := f q / (gz f : Int)
def pz (f : Nat → Int) : Prop := (∀ q, q < 10 → f q = 0) ∨ gz f = 1
theorem gz_dvd {f : Nat → Int} {q : Nat} (h : q < 10) : (gz f : Int) ∣ f q := Int.natAbs_dvd_natAbs.mp (by rw [Int.natAbs_natCast]; exact gcn_dvd 10 q h)
theorem gz_0 {f : Nat → Int} (h : gz f = 0) : ∀ q, q < 10 → f q = 0 := fun q hq => by
  have := gz_dvd (f := f) hq
  rw [h] at this
  exact Int.zero_dvd.mp this
theorem shr_mul {f : Nat → Int} {q : Nat} (h : q < 10) : (gz f : Int) * shr f q = f q := Int.mul_ediv_cancel' (gz_dvd h)
theorem shr_ex (f : Nat → Int) : ∃ g : Int, g ≠ 0 ∧ ∀ q, q < 10 → g * shr f q = f q := by
  by_cases h : gz f = 0
  · refine ⟨1, by decide, fun q hq => ?_⟩
    have e := gz_0 h q hq
    unfold shr
    rw [e, Int.zero_ediv]
    rfl
  · exact ⟨(gz f : Int), by omega, fun q hq => shr_mul hq⟩
theorem shr_pz (f : Nat → Int) : pz (shr f) := by
  by_cases h : gz f = 0
  · refine Or.inl fun q hq => ?_
    unfold shr
    rw [gz_0 h q hq, Int.zero_ediv]
  · refine Or.inr ?_
    have e : gz (shr f) * gz f = gz f := by
      unfold gz
      rw [← gcn_mul]
      refine gcn_cg 10 fun q hq => ?_
      have := congrArg Int.natAbs (shr_mul (f := f) hq)
      rw [Int.natAbs_mul, Nat.mul_comm] at this
      exact this
    have e2 : gz (shr f) * gz f = 1 * gz f := by omega
    exact Nat.eq_of_mul_eq_mul_right (Nat.pos_of_ne_zero h) e2
/-- a row that vanishes on a set, multiplied: one place more -/
theorem wd_at {u W : Nat → Int} {P q : Nat} (hP : P ||| 2 ^ q < 2 ^ 10) (hq : q < 10) (hb : P.testBit q = false) (h : ∀ s, s < 10 → P.testBit s = true → u s = 0) : (wd 10 u W (P ||| 2 ^ q)).natAbs = (u q).natAbs * (W P).natAbs := by
  have e : wd 10 u W (P ||| 2 ^ q) = u q * wd 10 (dl q) W (P ||| 2 ^ q) := by
    rw [← wd_sum]
    refine zs_one 10 hq fun s hs hne => ?_
    cases c : P.testBit s with
    | true => rw [h s hs c, Int.zero_mul]
    | false =>
      rw [wd_out _ (by rw [or_tb, c, decide_eq_false (fun c => hne c.symm)]; rfl) hP, Int.mul_zero]
  rw [e, Int.natAbs_mul, wd_in _ hq (by rw [or_tb, decide_eq_true rfl, Bool.or_true]) hP, or_sub hP hq hb]
theorem zs_two {f : Nat → Int} {a b : Nat} (hab : a ≠ b) : ∀ n, a < n → b < n → (∀ p, p < n → p ≠ a → p ≠ b → f p = 0) → zs f n = f a + f b
  | 0, h, _, _ => absurd h (by omega)
  | n + 1, ha, hb, h => by
    show zs f n + f n = f a + f b
    by_cases e : a = n
    · rw [zs_one (q := b) n (by omega) (fun p hp hne => h p (by omega) (by omega) hne), e, Int.add_comm]
    · by_cases e2 : b = n
      · rw [zs_one (q := a) n (by omega) (fun p hp hne => h p (by omega) hne (by omega)), e2]
      · rw [zs_two hab n (by omega) (by omega) (fun p hp => h p (by omega)), h n (by omega) (fun c => e c.symm) (fun c => e2 c.symm), Int.add_zero]
/-- the same with one place of the set left -/
theorem wd_at2 {u W : Nat → Int} {P q r : Nat} (hP : P ||| 2 ^ q < 2 ^ 10) (hq : q < 10) (hr : r < 10) (hb : P.testBit q = false) (hbr : P.testBit r = true) (h : ∀ s, s < 10 → s ≠ r → P.testBit s = true → u s = 0) (h0 : wd 10 u W (P ||| 2 ^ q) = 0) : (u q).natAbs * (W P).natAbs = (u r).natAbs * (W ((P ||| 2 ^ q) - 2 ^ r)).natAbs := by
  have hqr : q ≠ r := fun c => by rw [c, hbr] at hb; exact absurd hb (by decide)
  have e : wd 10 u W (P ||| 2 ^ q) = u q * wd 10 (dl q) W (P ||| 2 ^ q) + u r * wd 10 (dl r) W (P ||| 2 ^ q) := by
    rw [← wd_sum]
    refine zs_two hqr 10 hq hr fun s hs hne hne2 => ?_
    cases c : P.testBit s with
    | true => rw [h s hs hne2 c, Int.zero_mul]
    | false =>
      rw [wd_out _ (by rw [or_tb, c, decide_eq_false (fun c => hne c.symm)]; rfl) hP, Int.mul_zero]
  rw [h0] at e
  have e2 : u q * wd 10 (dl q) W (P ||| 2 ^ q) = - (u r * wd 10 (dl r) W (P ||| 2 ^ q)) := by omega
  have e3 := congrArg Int.natAbs e2
  rw [Int.natAbs_neg, Int.natAbs_mul, Int.natAbs_mul, wd_in _ hq (by rw [or_tb, decide_eq_true rfl, Bool.or_true]) hP, or_sub hP hq hb, wd_in _ hr (by rw [or_tb, hbr]; rfl) hP] at e3
  exact e3
