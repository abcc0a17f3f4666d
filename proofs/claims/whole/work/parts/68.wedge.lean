/-! SUMS: products of rows, as functions of sets -/
def wd : Nat → (Nat → Int) → (Nat → Int) → Nat → Int
  | 0, _, _, _ => 0
  | n + 1, c, W, M => if M.testBit n = true then c n * W (M - 2 ^ n) - wd n c (fun K => W (K + 2 ^ n)) (M - 2 ^ n) else wd n c W M
theorem wd_t {n M : Nat} {c W : Nat → Int} (h : M.testBit n = true) : wd (n + 1) c W M = c n * W (M - 2 ^ n) - wd n c (fun K => W (K + 2 ^ n)) (M - 2 ^ n) := if_pos h
theorem wd_f {n M : Nat} {c W : Nat → Int} (h : M.testBit n = false) : wd (n + 1) c W M = wd n c W M := if_neg (by rw [h]; decide)
/-- the highest bit -/
theorem top_t {n M : Nat} (h : M < 2 ^ (n + 1)) (hb : M.testBit n = true) : 2 ^ n ≤ M ∧ M - 2 ^ n < 2 ^ n := by
  have h1 : 2 ^ n ≤ M := Classical.byContradiction fun c => by
    rw [Nat.testBit_lt_two_pow (by omega)] at hb
    exact absurd hb (by decide)
  rw [Nat.pow_succ] at h
  omega
theorem top_f {n M : Nat} (h : M < 2 ^ (n + 1)) (hb : M.testBit n = false) : M < 2 ^ n := Classical.byContradiction fun c => by
  have e : M.testBit n = true := by
    rw [Nat.pow_succ] at h
    have : M = 2 ^ n + (M - 2 ^ n) := by omega
    rw [this, Nat.testBit_two_pow_add_eq, Nat.testBit_lt_two_pow (by omega)]
    rfl
  rw [e] at hb
  exact absurd hb (by decide)
theorem bit_a {n K : Nat} (h : K < 2 ^ n) : (K + 2 ^ n).testBit n = true := by
  rw [Nat.add_comm, Nat.testBit_two_pow_add_eq, Nat.testBit_lt_two_pow h]
  rfl
theorem bit_b {n K p : Nat} (hp : p < n) : (K + 2 ^ n).testBit p = K.testBit p := by
  rw [Nat.add_comm]
  exact Nat.testBit_two_pow_add_gt hp K
theorem wd_cg {n : Nat} {c d W V : Nat → Int} : (∀ p, p < n → c p = d p) → (∀ K, K < 2 ^ n → W K = V K) → ∀ M, M < 2 ^ n → wd n c W M = wd n d V M := by
  induction n generalizing W V with
  | zero => intro _ _ M _; rfl
  | succ n ih =>
    intro h1 h2 M hM
    have hp : 2 ^ (n + 1) = 2 ^ n + 2 ^ n := by rw [Nat.pow_succ]; omega
    cases e : M.testBit n with
    | true =>
      have t := top_t hM e
      rw [wd_t e, wd_t e, h1 n (by omega), h2 (M - 2 ^ n) (by omega), ih (fun p hp => h1 p (by omega)) (fun K hK => h2 (K + 2 ^ n) (by omega)) (M - 2 ^ n) t.2]
    | false =>
      rw [wd_f e, wd_f e]
      exact ih (fun p hp => h1 p (by omega)) (fun K hK => h2 K (by omega)) M (top_f hM e)
theorem wd_lin {n : Nat} {c W V : Nat → Int} {a b : Int} : ∀ M, wd n c (fun K => a * W K + b * V K) M = a * wd n c W M + b * wd n c V M := by
  induction n generalizing W V with
  | zero => intro M; show (0 : Int) = a * 0 + b * 0; omega
  | succ n ih =>
    intro M
    cases e : M.testBit n with
    | true =>
      rw [wd_t e, wd_t e, wd_t e, ih]
      simp only [Int.mul_add, Int.mul_sub, Int.mul_left_comm]
      omega
    | false => rw [wd_f e, wd_f e, wd_f e, ih]
theorem wd_neg {n : Nat} {c W : Nat → Int} : ∀ M, wd n c (fun K => - W K) M = - wd n c W M := fun M => by
  have := wd_lin (n := n) (c := c) (W := W) (V := W) (a := -1) (b := 0) M
  simp only [Int.zero_mul, Int.add_zero, Int.neg_mul, Int.one_mul] at this
  exact this
theorem wd_0 {n : Nat} {c : Nat → Int} : ∀ M, wd n c (fun _ => 0) M = 0 := fun M => by
  have := wd_lin (n := n) (c := c) (W := fun _ => 0) (V := fun _ => 0) (a := 0) (b := 0) M
  simp only [Int.zero_mul, Int.add_zero] at this
  exact this
theorem wd_anti {n : Nat} {c d W : Nat → Int} : ∀ M, M < 2 ^ n → wd n c (wd n d W) M = - wd n d (wd n c W) M := by
  induction n generalizing W with
  | zero => intro M _; rfl
  | succ n ih =>
    intro M hM
    have key : ∀ c d : Nat → Int, M.testBit n = true → wd (n + 1) c (wd (n + 1) d W) M = c n * wd n d W (M - 2 ^ n) - d n * wd n c W (M - 2 ^ n) + wd n c (wd n d (fun K => W (K + 2 ^ n))) (M - 2 ^ n) := fun c d e => by
      have t := top_t hM e
      have lo : ∀ K, K < 2 ^ n → wd (n + 1) d W K = wd n d W K := fun K hK => wd_f (Nat.testBit_lt_two_pow hK)
      have hi : ∀ K, K < 2 ^ n → wd (n + 1) d W (K + 2 ^ n) = d n * W K + (-1) * wd n d (fun K => W (K + 2 ^ n)) K := fun K hK => by
        rw [wd_t (bit_a hK), Nat.add_sub_cancel]
        omega
      rw [wd_t e, lo _ t.2, wd_cg (fun _ _ => rfl) hi _ t.2, wd_lin]
      omega
    cases e : M.testBit n with
    | true =>
      have t := top_t hM e
      rw [key c d e, key d c e, ih _ t.2]
      omega
    | false =>
      have t := top_f hM e
      have lo : ∀ d K, K < 2 ^ n → wd (n + 1) d W K = wd n d W K := fun d K hK => wd_f (Nat.testBit_lt_two_pow hK)
      rw [wd_f e, wd_f e, wd_cg (fun _ _ => rfl) (lo d) M t, wd_cg (fun _ _ => rfl) (lo c) M t]
      exact ih M t
theorem wd_self {n : Nat} {c W : Nat → Int} {M : Nat} (h : M < 2 ^ n) : wd n c (wd n c W) M = 0 := by
  have := wd_anti (n := n) (c := c) (d := c) (W := W) M h
  omega
theorem abs_sub_le {x y : Int} : (x - y).natAbs ≤ x.natAbs + y.natAbs := by omega
theorem wd_b {n B : Nat} {c W : Nat → Int} (hc : ∀ p, (c p).natAbs ≤ 2) : ∀ M, M < 2 ^ n → (∀ p, p < n → M.testBit p = true → (W (M - 2 ^ p)).natAbs ≤ B) → (wd n c W M).natAbs ≤ 2 * cn (fun p => M.testBit p) n * B := by
  induction n generalizing W with
  | zero => intro M _ _; show (0 : Int).natAbs ≤ _; exact Nat.zero_le _
  | succ n ih =>
    intro M hM h
    cases e : M.testBit n with
    | true =>
      have t := top_t hM e
      have h1 := h n (by omega) e
      have ecn : cn (fun p => M.testBit p) (n + 1) = cn (fun p => (M - 2 ^ n).testBit p) n + 1 := by
        rw [cn_s, e]
        congr 1
        refine cn_cg n fun p hp => ?_
        have := bit_b (n := n) (K := M - 2 ^ n) hp
        rw [Nat.sub_add_cancel t.1] at this
        exact this
      have h2 := ih (W := fun K => W (K + 2 ^ n)) (M - 2 ^ n) t.2 (fun p hp hb => by
        have b := bit_b (n := n) (K := M - 2 ^ n) hp
        rw [Nat.sub_add_cancel t.1] at b
        have := h p (by omega) (b.trans hb)
        have g : 2 ^ p ≤ M - 2 ^ n := Nat.ge_two_pow_of_testBit hb
        have e2 : M - 2 ^ n - 2 ^ p + 2 ^ n = M - 2 ^ p := by omega
        show (W (M - 2 ^ n - 2 ^ p + 2 ^ n)).natAbs ≤ B
        rw [e2]
        exact this)
      have h3 : (c n * W (M - 2 ^ n)).natAbs ≤ 2 * B := by
        rw [Int.natAbs_mul]
        exact Nat.mul_le_mul (hc n) h1
      rw [wd_t e, ecn]
      have h4 := abs_sub_le (x := c n * W (M - 2 ^ n)) (y := wd n c (fun K => W (K + 2 ^ n)) (M - 2 ^ n))
      generalize cn (fun p => (M - 2 ^ n).testBit p) n = k at h2 ⊢
      have h5 : 2 * (k + 1) * B = 2 * k * B + 2 * B := by
        rw [Nat.mul_add, Nat.mul_one, Nat.add_mul]
      omega
    | false =>
      have ecn : cn (fun p => M.testBit p) (n + 1) = cn (fun p => M.testBit p) n := by
        rw [cn_s, e]
        rfl
      rw [wd_f e, ecn]
      exact ih M (top_f hM e) (fun p hp => h p (by omega))
/-- one place alone -/
def dl (q p : Nat) : Int := if p = q then 1 else 0
theorem wd_c0 {n : Nat} {c W : Nat → Int} (h : ∀ p, p < n → c p = 0) : ∀ M, wd n c W M = 0 := by
  induction n generalizing W with
  | zero => intro M; rfl
  | succ n ih =>
    intro M
    cases e : M.testBit n with
    | true => rw [wd_t e, h n (by omega), ih (fun p hp => h p (by omega))]; omega
    | false => rw [wd_f e, ih (fun p hp => h p (by omega))]
theorem wd_sum {n : Nat} {c W : Nat → Int} : ∀ M, zs (fun q => c q * wd n (dl q) W M) n = wd n c W M := by
  induction n generalizing W with
  | zero => intro M; rfl
  | succ n ih =>
    intro M
    show zs (fun q => c q * wd (n + 1) (dl q) W M) n + c n * wd (n + 1) (dl n) W M = _
    have dn : ∀ p, p < n → dl n p = 0 := fun p hp => if_neg (by omega)
    have dn1 : dl n n = 1 := if_pos rfl
    cases e : M.testBit n with
    | true =>
      have e1 : zs (fun q => c q * wd (n + 1) (dl q) W M) n = - zs (fun q => c q * wd n (dl q) (fun K => W (K + 2 ^ n)) (M - 2 ^ n)) n := by
        have : ∀ k, k ≤ n → zs (fun q => c q * wd (n + 1) (dl q) W M) k = - zs (fun q => c q * wd n (dl q) (fun K => W (K + 2 ^ n)) (M - 2 ^ n)) k := fun k => by
          induction k with
          | zero => intro _; rfl
          | succ k ihk =>
            intro hk
            show zs (fun q => c q * wd (n + 1) (dl q) W M) k + c k * wd (n + 1) (dl k) W M = -(zs (fun q => c q * wd n (dl q) (fun K => W (K + 2 ^ n)) (M - 2 ^ n)) k + c k * wd n (dl k) (fun K => W (K + 2 ^ n)) (M - 2 ^ n))
            rw [ihk (by omega), wd_t e, show dl k n = 0 from if_neg (by omega), Int.zero_mul, Int.zero_sub, Int.mul_neg]
            omega
        exact this n (Nat.le_refl _)
      rw [e1, ih, wd_t e, wd_t e, wd_c0 dn, dn1]
      simp only [Int.one_mul, Int.sub_zero]
      omega
    | false =>
      have e1 : zs (fun q => c q * wd (n + 1) (dl q) W M) n = zs (fun q => c q * wd n (dl q) W M) n := zs_congr n fun q _ => by rw [wd_f e]
      rw [e1, ih, wd_f e, wd_f e, wd_c0 dn]
      omega
theorem wd_out {n q : Nat} {W : Nat → Int} : ∀ M, M.testBit q = false → M < 2 ^ n → wd n (dl q) W M = 0 := by
  induction n generalizing W with
  | zero => intro M _ _; rfl
  | succ n ih =>
    intro M h hM
    cases e : M.testBit n with
    | true =>
      have t := top_t hM e
      have nq : n ≠ q := fun c => by rw [c, h] at e; exact absurd e (by decide)
      rw [wd_t e, show dl q n = 0 from if_neg nq]
      by_cases hq : q < n
      · have b := bit_b (n := n) (K := M - 2 ^ n) hq
        rw [Nat.sub_add_cancel t.1] at b
        rw [ih (M - 2 ^ n) (b.symm.trans h) t.2]
        omega
      · rw [wd_c0 (n := n) (c := dl q) (fun p hp => (if_neg (by omega) : dl q p = 0))]
        omega
    | false =>
      rw [wd_f e]
      exact ih M h (top_f hM e)
theorem wd_in {n q : Nat} {W : Nat → Int} : ∀ M, q < n → M.testBit q = true → M < 2 ^ n → (wd n (dl q) W M).natAbs = (W (M - 2 ^ q)).natAbs := by
  induction n generalizing W with
  | zero => intro M h; omega
  | succ n ih =>
    intro M hq h hM
    by_cases eq : q = n
    · rw [eq] at h ⊢
      rw [wd_t h, show dl n n = 1 from if_pos rfl, wd_c0 (n := n) (c := dl n) (fun p hp => (if_neg (by omega) : dl n p = 0))]
      congr 1
      omega
    · have hq' : q < n := by omega
      cases e : M.testBit n with
      | true =>
        have t := top_t hM e
        have b := bit_b (n := n) (K := M - 2 ^ n) hq'
        rw [Nat.sub_add_cancel t.1] at b
        have hb : (M - 2 ^ n).testBit q = true := b.symm.trans h
        have := ih (W := fun K => W (K + 2 ^ n)) (M - 2 ^ n) hq' hb t.2
        have g : 2 ^ q ≤ M - 2 ^ n := Nat.ge_two_pow_of_testBit hb
        have e2 : M - 2 ^ n - 2 ^ q + 2 ^ n = M - 2 ^ q := by omega
        have this : (wd n (dl q) (fun K => W (K + 2 ^ n)) (M - 2 ^ n)).natAbs = (W (M - 2 ^ n - 2 ^ q + 2 ^ n)).natAbs := this
        rw [e2] at this
        rw [wd_t e, show dl q n = 0 from if_neg (by omega), Int.zero_mul, Int.zero_sub, Int.natAbs_neg]
        exact this
      | false =>
        rw [wd_f e]
        exact ih M hq' h (top_f hM e)
/-- a vector goes in -/
def ct : Nat → (Nat → Int) → (Nat → Int) → Nat → Int
  | 0, _, _, _ => 0
  | n + 1, x, W, M => if M.testBit n = true then - ct n x (fun K => W (K + 2 ^ n)) (M - 2 ^ n) else ct n x W M + x n * W (M + 2 ^ n)
theorem ct_t {n M : Nat} {x W : Nat → Int} (h : M.testBit n = true) : ct (n + 1) x W M = - ct n x (fun K => W (K + 2 ^ n)) (M - 2 ^ n) := if_pos h
theorem ct_f {n M : Nat} {x W : Nat → Int} (h : M.testBit n = false) : ct (n + 1) x W M = ct n x W M + x n * W (M + 2 ^ n) := if_neg (by rw [h]; decide)
theorem ct_cg {n : Nat} {x W V : Nat → Int} : (∀ K, K < 2 ^ n → W K = V K) → ∀ M, M < 2 ^ n → ct n x W M = ct n x V M := by
  induction n generalizing W V with
  | zero => intro _ M _; rfl
  | succ n ih =>
    intro h2 M hM
    have hp : 2 ^ (n + 1) = 2 ^ n + 2 ^ n := by rw [Nat.pow_succ]; omega
    cases e : M.testBit n with
    | true =>
      have t := top_t hM e
      rw [ct_t e, ct_t e, ih (fun K hK => h2 (K + 2 ^ n) (by omega)) (M - 2 ^ n) t.2]
    | false =>
      have t := top_f hM e
      rw [ct_f e, ct_f e, ih (fun K hK => h2 K (by omega)) M t, h2 (M + 2 ^ n) (by omega)]
theorem ct_lin {n : Nat} {x W V : Nat → Int} {a b : Int} : ∀ M, ct n x (fun K => a * W K + b * V K) M = a * ct n x W M + b * ct n x V M := by
  induction n generalizing W V with
  | zero => intro M; show (0 : Int) = a * 0 + b * 0; omega
  | succ n ih =>
    intro M
    cases e : M.testBit n with
    | true =>
      rw [ct_t e, ct_t e, ct_t e, ih, Int.mul_neg, Int.mul_neg]
      omega
    | false =>
      rw [ct_f e, ct_f e, ct_f e, ih]
      simp only [Int.mul_add, Int.mul_left_comm]
      omega
theorem ct_wd {n : Nat} {x c W : Nat → Int} : ∀ M, M < 2 ^ n → ct n x (wd n c W) M = zs (fun q => c q * x q) n * W M - wd n c (ct n x W) M := by
  induction n generalizing W with
  | zero => intro M _; show (0 : Int) = 0 * W M - 0; omega
  | succ n ih =>
    intro M hM
    have hp : 2 ^ (n + 1) = 2 ^ n + 2 ^ n := by rw [Nat.pow_succ]; omega
    have lo : ∀ K, K < 2 ^ n → wd (n + 1) c W K = wd n c W K := fun K hK => wd_f (Nat.testBit_lt_two_pow hK)
    have hi : ∀ K, K < 2 ^ n → wd (n + 1) c W (K + 2 ^ n) = c n * W K + (-1) * wd n c (fun K => W (K + 2 ^ n)) K := fun K hK => by
      rw [wd_t (bit_a hK), Nat.add_sub_cancel]
      omega
    have clo : ∀ K, K < 2 ^ n → ct (n + 1) x W K = 1 * ct n x W K + x n * W (K + 2 ^ n) := fun K hK => by
      rw [ct_f (Nat.testBit_lt_two_pow hK), Int.one_mul]
    have chi : ∀ K, K < 2 ^ n → ct (n + 1) x W (K + 2 ^ n) = - ct n x (fun K => W (K + 2 ^ n)) K := fun K hK => by
      rw [ct_t (bit_a hK), Nat.add_sub_cancel]
    show _ = (zs (fun q => c q * x q) n + c n * x n) * W M - _
    cases e : M.testBit n with
    | false =>
      have t := top_f hM e
      rw [ct_f e, ct_cg lo M t, ih M t, hi M t, wd_f e, wd_cg (fun _ _ => rfl) clo M t, wd_lin]
      simp only [Int.add_mul, Int.mul_add, Int.one_mul]
      have a1 : x n * (c n * W M) = c n * x n * W M := by
        rw [← Int.mul_assoc, Int.mul_comm (x n)]
      have a2 : x n * (-1 * wd n c (fun K => W (K + 2 ^ n)) M) = - (x n * wd n c (fun K => W (K + 2 ^ n)) M) := by
        rw [Int.neg_mul, Int.one_mul, Int.mul_neg]
      rw [a1, a2]
      omega
    | true =>
      have t := top_t hM e
      rw [ct_t e, ct_cg hi (M - 2 ^ n) t.2, ct_lin, ih (M - 2 ^ n) t.2, wd_t e, clo _ t.2, wd_cg (fun _ _ => rfl) chi _ t.2, wd_neg, Nat.sub_add_cancel t.1]
      simp only [Int.add_mul, Int.mul_add, Int.one_mul]
      have a1 : c n * (x n * W M) = c n * x n * W M := (Int.mul_assoc _ _ _).symm
      rw [a1]
      omega
theorem ct_none {n : Nat} {x W : Nat → Int} : ∀ M, M < 2 ^ n → (∀ q, q < n → M.testBit q = false → x q = 0) → ct n x W M = 0 := by
  induction n generalizing W with
  | zero => intro M _ _; rfl
  | succ n ih =>
    intro M hM h
    cases e : M.testBit n with
    | true =>
      have t := top_t hM e
      rw [ct_t e, ih (M - 2 ^ n) t.2 (fun q hq hb => h q (by omega) (by
        have b := bit_b (n := n) (K := M - 2 ^ n) hq
        rw [Nat.sub_add_cancel t.1] at b
        rw [b]; exact hb))]
      rfl
    | false => rw [ct_f e, ih M (top_f hM e) (fun q hq hb => h q (by omega) hb), h n (by omega) e]; omega
theorem ct_one {n p : Nat} {x W : Nat → Int} : ∀ M, M < 2 ^ n → p < n → M.testBit p = false → (∀ q, q < n → q ≠ p → M.testBit q = false → x q = 0) → (ct n x W M).natAbs = (x p * W (M + 2 ^ p)).natAbs := by
  induction n generalizing W with
  | zero => intro M _ h; omega
  | succ n ih =>
    intro M hM hp hb h
    cases e : M.testBit n with
    | true =>
      have t := top_t hM e
      have np : p ≠ n := fun c => by rw [c, e] at hb; exact absurd hb (by decide)
      have bb : ∀ q, q < n → M.testBit q = (M - 2 ^ n).testBit q := fun q hq => by
        have b := bit_b (n := n) (K := M - 2 ^ n) hq
        rw [Nat.sub_add_cancel t.1] at b
        exact b
      have := ih (W := fun K => W (K + 2 ^ n)) (M - 2 ^ n) t.2 (by omega) (by rw [← bb p (by omega)]; exact hb) (fun q hq hqp hqb => h q (by omega) hqp (by rw [bb q hq]; exact hqb))
      rw [ct_t e, Int.natAbs_neg, this, show M - 2 ^ n + 2 ^ p + 2 ^ n = M + 2 ^ p by omega]
    | false =>
      have t := top_f hM e
      by_cases np : p = n
      · rw [np] at h ⊢
        rw [ct_f e, ct_none M t (fun q hq hqb => h q (by omega) (by omega) hqb), Int.zero_add]
      · rw [ct_f e, h n (by omega) (by omega) e, Int.zero_mul, Int.add_zero]
        exact ih M t (by omega) hb (fun q hq => h q (by omega))
