/-! SUMS: the reference's longs with a sign, and its common divisor -/
def lZ (x : Int) : Int64 := Int64.ofInt x
theorem lZ_i {x : Int} (h : x.natAbs < 2 ^ 62) : (lZ x).toInt = x := by
  unfold lZ
  rw [Int64.toInt_ofInt, show Int64.size = 2 ^ 64 from rfl]
  exact Int.bmod_eq_of_le (by omega) (by omega)
theorem lZ_n {n : Nat} (h : n < 2 ^ 62) : lZ (n : Int) = lN n := Int64.toInt_inj.mp (by rw [lZ_i (by omega), pf_lI (by omega)])
theorem lZ_neg {x : Int} (h : x.natAbs < 2 ^ 62) : - lZ x = lZ (- x) := by
  apply Int64.toInt_inj.mp
  rw [Int64.toInt_neg, lZ_i h, lZ_i (by omega)]
  exact Int.bmod_eq_of_le (by omega) (by omega)
section MCOM
variable {I : Nat → Nat → Int32} {L : Nat → Nat → Int64} {q r1 r2 : Nat → Nat} {w : Bool} {K : km_K}
theorem m_com_loop : ∀ k a b, b ≤ k → a < 2 ^ 62 → b < 2 ^ 62 → K (some (.long (lN (Nat.gcd a b)))) (I, L, kr q w r1 r2) → kW sh kp 102 28 [none, none, none, none, some (.long (lN a)), none, some (.long (lN b)), none, none, none] [] (I, L, kr q w r1 r2) K
  | 0, a, b, hk, ha, hb, h => by
    have b0 : b = 0 := by omega
    rw [b0, Nat.gcd_zero_right] at h
    rw [b0]
    exact bM_common_28 ⟨fun _ => bM_common_53 h, fun y => absurd (lg0.mpr rfl) y⟩
  | k + 1, a, b, hk, ha, hb, h => by
    refine bM_common_28 ⟨fun y => bM_common_53 ?_, fun y => bM_common_35 ⟨fun c => y (lg0.mpr c), ?_⟩⟩
    · rw [(lN_0 hb).mp (lg0.mp y), Nat.gcd_zero_right] at h
      exact h
    · have b0 : b ≠ 0 := fun c => y (lg0.mpr ((lN_0 hb).mpr c))
      have lt := Nat.mod_lt a (Nat.pos_of_ne_zero b0)
      rw [Nat.gcd_comm, Nat.gcd_rec, Nat.gcd_comm] at h
      rw [lN_rem ha hb]
      exact m_com_loop k b (a % b) (by omega) hb (by omega) h
theorem m_common {x y : Int} (hx : x.natAbs < 2 ^ 62) (hy : y.natAbs < 2 ^ 62) (h : K (some (.long (lN (Nat.gcd x.natAbs y.natAbs)))) (I, L, kr q w r1 r2)) : kC sh kp 102 [.long (lZ x), .long (lZ y)] (I, L, kr q w r1 r2) K := by
  have z0 : (0 : Int64).toInt = 0 := by decide
  have ab : ∀ v : Int, v.natAbs < 2 ^ 62 → (0 ≤ v → lZ v = lN v.natAbs) ∧ (v < 0 → - lZ v = lN v.natAbs) := fun v hv => by
    refine ⟨fun g => ?_, fun g => ?_⟩
    · rw [← lZ_n hv]
      congr 1
      omega
    · rw [lZ_neg hv, ← lZ_n hv]
      congr 1
      omega
  have two : kW sh kp 102 12 [none, none, some (.long (lZ y)), none, none, none, none, none, none, none] [.long (lN x.natAbs)] (I, L, kr q w r1 r2) K := by
    refine bM_common_12 ⟨fun g => bM_common_25 (bM_common_26 ?_), fun g => bM_common_20 (bM_common_26 ?_)⟩
    · rw [lg_ge, lZ_i hy, z0] at g
      rw [(ab y hy).1 g]
      exact m_com_loop _ _ _ (Nat.le_refl _) hx hy h
    · rw [lg_ge, lZ_i hy, z0] at g
      rw [(ab y hy).2 (by omega)]
      exact m_com_loop _ _ _ (Nat.le_refl _) hx hy h
  refine ⟨rfl, bM_common_0 ⟨fun g => bM_common_11 ?_, fun g => bM_common_6 ?_⟩⟩
  · rw [lg_ge, lZ_i hx, z0] at g
    rw [(ab x hx).1 g]
    exact two
  · rw [lg_ge, lZ_i hx, z0] at g
    rw [(ab x hx).2 (by omega)]
    exact two
end MCOM
