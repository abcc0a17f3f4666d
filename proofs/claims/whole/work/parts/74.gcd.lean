/-! SUMS: the greatest common divisor in a hundred divisions -/
theorem lN_div {a b : Nat} (ha : a < 2 ^ 62) (hb : b < 2 ^ 62) : lN a / lN b = lN (a / b) := by
  have h1 : a / b ≤ a := Nat.div_le_self a b
  apply Int64.toInt_inj.mp
  rw [Int64.toInt_div, pf_lI (by omega), pf_lI (by omega), pf_lI (by omega), ← Int.ofNat_tdiv]
  generalize a / b = c at h1
  exact Int.bmod_eq_of_le (by omega) (by omega)
theorem lN_sb {a b : Nat} (h : b ≤ a) : lN a - lN b = lN (a - b) := by
  have e : lN (a - b) + lN b = lN a := by
    rw [lN_add]
    congr 1
    omega
  rw [← e]
  exact Int64.add_sub_cancel _ _
theorem lN_rem {a b : Nat} (ha : a < 2 ^ 62) (hb : b < 2 ^ 62) : lN a - lN a / lN b * lN b = lN (a % b) := by
  have h := Nat.div_add_mod a b
  have h2 : b * (a / b) = a / b * b := Nat.mul_comm _ _
  rw [lN_div ha hb, lN_mul, lN_sb (by omega)]
  congr 1
  omega
theorem lN_0 {a : Nat} (ha : a < 2 ^ 62) : lN a = 0 ↔ a = 0 := by
  constructor
  · intro h
    have := congrArg Int64.toInt h
    rw [pf_lI (by omega)] at this
    have this : (a : Int) = 0 := this
    omega
  · intro h
    rw [h]
    rfl
/-- k divisions -/
def eu : Nat → Nat → Nat → Nat × Nat
  | 0, a, b => (a, b)
  | k + 1, a, b => if b = 0 then (a, b) else eu k b (a % b)
def fb : Nat → Nat
  | 0 => 0
  | 1 => 1
  | n + 2 => fb n + fb (n + 1)
theorem fb_s {n : Nat} : fb (n + 2) = fb n + fb (n + 1) := rfl
theorem fb_m : ∀ n, fb n ≤ fb (n + 1)
  | 0 => by decide
  | n + 1 => by
    rw [fb_s]
    omega
theorem fb_5 : ∀ j, 5 ^ j ≤ fb (4 * j + 1)
  | 0 => by decide
  | j + 1 => by
    have ih := fb_5 j
    have m1 := fb_m (4 * j + 1)
    have e1 := fb_s (n := 4 * j + 1)
    have e2 := fb_s (n := 4 * j + 1 + 1)
    have e3 := fb_s (n := 4 * j + 1 + 2)
    have e4 : 4 * (j + 1) + 1 = 4 * j + 1 + 4 := by omega
    rw [e4, Nat.pow_succ]
    have e5 : fb (4 * j + 1 + 4) = fb (4 * j + 1 + 2) + fb (4 * j + 1 + 3) := e3
    have e6 : fb (4 * j + 1 + 3) = fb (4 * j + 1 + 1) + fb (4 * j + 1 + 2) := e2
    omega
theorem eu_b : ∀ k a b, (eu k a b).2 ≠ 0 → fb (k + 1) ≤ b ∧ (b ≤ a → fb (k + 2) ≤ a)
  | 0, a, b, h => by
    have h : b ≠ 0 := h
    exact ⟨by show 1 ≤ b; omega, fun g => by show 1 ≤ a; omega⟩
  | k + 1, a, b, h => by
    unfold eu at h
    by_cases e : b = 0
    · rw [if_pos e] at h
      exact absurd e h
    · rw [if_neg e] at h
      have ih := eu_b k b (a % b) h
      have lt := Nat.mod_lt a (Nat.pos_of_ne_zero e)
      have h2 := ih.2 (by omega)
      refine ⟨h2, fun g => ?_⟩
      have h3 := Nat.div_add_mod a b
      have h4 : 1 ≤ a / b := (Nat.le_div_iff_mul_le (Nat.pos_of_ne_zero e)).mpr (by omega)
      have h5 : b * 1 ≤ b * (a / b) := Nat.mul_le_mul_left _ h4
      have e2 := fb_s (n := k + 1)
      have e3 : fb (k + 1 + 2) = fb (k + 1) + fb (k + 1 + 1) := e2
      have e4 : fb (k + 1 + 1) = fb (k + 2) := rfl
      omega
theorem eu_g : ∀ k a b, Nat.gcd (eu k a b).1 (eu k a b).2 = Nat.gcd a b
  | 0, a, b => rfl
  | k + 1, a, b => by
    unfold eu
    by_cases e : b = 0
    · rw [if_pos e]
    · rw [if_neg e, eu_g k b (a % b), Nat.gcd_comm b, ← Nat.gcd_rec, Nat.gcd_comm]
theorem eu_end {a b : Nat} (hb : b < 5 ^ 25) : (eu 100 a b).1 = Nat.gcd a b := by
  have h := eu_g 100 a b
  have z : (eu 100 a b).2 = 0 := Classical.byContradiction fun c => by
    have h1 := (eu_b 100 a b c).1
    have h2 := fb_5 25
    have e : fb (100 + 1) = fb (4 * 25 + 1) := rfl
    omega
  rw [z, Nat.gcd_zero_right] at h
  exact h
section GCD
variable {I : Nat → Nat → Int32} {L : Nat → Nat → Int64} {q r1 r2 : Nat → Nat} {w : Bool} {K : km_K}
theorem c_gcd_loop0 : ∀ k n a b, n + k = 100 → a < 2 ^ 62 → b < 2 ^ 62 → K (some (.long (lN (eu k a b).1))) (I, L, kr q false r1 r2) → kW sh kp 166 9 [none, none, none, none, some (.long (lN a)), none, some (.long (lN b)), none, some (.int (nI n)), none, none] [] (I, L, kr q false r1 r2) K
  | 0, n, a, b, hn, ha, hb, h => bV_commonDivisor_0_9 (pk_le 100 n (fun _ => bV_commonDivisor_0_44 h) (fun y => absurd y (by omega)))
  | k + 1, n, a, b, hn, ha, hb, h => by
    unfold eu at h
    refine bV_commonDivisor_0_9 (pk_le 100 n (fun y => absurd y (by omega)) (fun _ => bV_commonDivisor_0_16 ⟨fun y => bV_commonDivisor_0_44 ?_, fun y => bV_commonDivisor_0_23 ⟨fun c => y (lg0.mpr c), ?_⟩⟩))
    · rw [if_pos ((lN_0 hb).mp (lg0.mp y))] at h
      exact h
    · have b0 : b ≠ 0 := fun c => y (lg0.mpr ((lN_0 hb).mpr c))
      have lt := Nat.mod_lt a (Nat.pos_of_ne_zero b0)
      rw [if_neg b0] at h
      rw [lN_rem ha hb, nI_1]
      exact c_gcd_loop0 k (n + 1) b (a % b) (by omega) hb (by omega) h
theorem c_gcd_loop1 : ∀ k n a b, n + k = 100 → a < 2 ^ 62 → b < 2 ^ 62 → K (some (.long (lN (eu k a b).1))) (I, L, kr q true r1 r2) → kW sh kp 166 9 [none, none, none, none, some (.long (lN a)), none, some (.long (lN b)), none, some (.int (nI n)), none, none] [] (I, L, kr q true r1 r2) K
  | 0, n, a, b, hn, ha, hb, h => bV_commonDivisor_1_9 (pk_le 100 n (fun _ => bV_commonDivisor_1_44 h) (fun y => absurd y (by omega)))
  | k + 1, n, a, b, hn, ha, hb, h => by
    unfold eu at h
    refine bV_commonDivisor_1_9 (pk_le 100 n (fun y => absurd y (by omega)) (fun _ => bV_commonDivisor_1_16 ⟨fun y => bV_commonDivisor_1_44 ?_, fun y => bV_commonDivisor_1_23 ⟨fun c => y (lg0.mpr c), ?_⟩⟩))
    · rw [if_pos ((lN_0 hb).mp (lg0.mp y))] at h
      exact h
    · have b0 : b ≠ 0 := fun c => y (lg0.mpr ((lN_0 hb).mpr c))
      have lt := Nat.mod_lt a (Nat.pos_of_ne_zero b0)
      rw [if_neg b0] at h
      rw [lN_rem ha hb, nI_1]
      exact c_gcd_loop1 k (n + 1) b (a % b) (by omega) hb (by omega) h
theorem c_gcd {a b : Nat} (ha : a < 5 ^ 25) (hb : b < 5 ^ 25) (h : K (some (.long (lN (Nat.gcd a b)))) (I, L, kr q w r1 r2)) : kC sh kp 166 [.long (lN a), .long (lN b)] (I, L, kr q w r1 r2) K := by
  rw [← eu_end hb] at h
  have a62 : a < 2 ^ 62 := Nat.lt_trans ha (by decide)
  have b62 : b < 2 ^ 62 := Nat.lt_trans hb (by decide)
  cases w with
  | false => exact ⟨rfl, bV_commonDivisor_0_0 (c_gcd_loop0 100 0 a b rfl a62 b62 h)⟩
  | true => exact ⟨rfl, bV_commonDivisor_1_0 (c_gcd_loop1 100 0 a b rfl a62 b62 h)⟩
end GCD
/-- a new least vector comes from one pair alone -/
theorem pair_uniq {C : (Nat → Nat) → Prop} {s : (Nat → Nat) → Int} {u v u' v' : Nat → Nat} (ha : adj C u v) (hu' : ray C u') (hv' : ray C v') (su : 0 < s u) (sv : s v < 0) (su' : 0 < s u') (sv' : s v' < 0) (h : ∀ p, u p = 0 → v p = 0 → u' p = 0 ∧ v' p = 0) : u' = u ∧ v' = v := by
  refine ⟨?_, ?_⟩
  · rcases ha u' hu' (fun p a b => (h p a b).1) with z | z
    · exact z
    · rw [z] at su'
      omega
  · rcases ha v' hv' (fun p a b => (h p a b).2) with z | z
    · rw [z] at sv'
      omega
    · exact z
theorem zero_pair {C : (Nat → Nat) → Prop} {s : (Nat → Nat) → Int} {u v e : Nat → Nat} (ha : adj C u v) (he : ray C e) (su : 0 < s u) (sv : s v < 0) (se : s e = 0) (h : ∀ p, u p = 0 → v p = 0 → e p = 0) : False := by
  rcases ha e he h with z | z
  · rw [z] at se
    omega
  · rw [z] at se
    omega
