/-! THE PROGRAM IS THE CODE: decided by the kernel, method by method -/
theorem kp_c0 : ∀ i, i < 12 → kp_c (0 + i) = true := by decide +kernel
theorem kp_c1 : ∀ i, i < 12 → kp_c (12 + i) = true := by decide +kernel
theorem kp_c2 : ∀ i, i < 12 → kp_c (24 + i) = true := by decide +kernel
theorem kp_c3 : ∀ i, i < 12 → kp_c (36 + i) = true := by decide +kernel
theorem kp_c4 : ∀ i, i < 12 → kp_c (48 + i) = true := by decide +kernel
theorem kp_c5 : ∀ i, i < 12 → kp_c (60 + i) = true := by decide +kernel
theorem kp_c6 : ∀ i, i < 12 → kp_c (72 + i) = true := by decide +kernel
theorem kp_c7 : ∀ i, i < 12 → kp_c (84 + i) = true := by decide +kernel
theorem kp_c8 : ∀ i, i < 12 → kp_c (96 + i) = true := by decide +kernel
theorem kp_c9 : ∀ i, i < 12 → kp_c (108 + i) = true := by decide +kernel
theorem kp_c10 : ∀ i, i < 12 → kp_c (120 + i) = true := by decide +kernel
theorem kp_c11 : ∀ i, i < 12 → kp_c (132 + i) = true := by decide +kernel
theorem kp_c12 : ∀ i, i < 12 → kp_c (144 + i) = true := by decide +kernel
theorem kp_c13 : ∀ i, i < 12 → kp_c (156 + i) = true := by decide +kernel
theorem kp_c14 : ∀ i, i < 12 → kp_c (168 + i) = true := by decide +kernel
theorem kp_c15 : ∀ i, i < 12 → kp_c (180 + i) = true := by decide +kernel
theorem kp_c16 : ∀ i, i < 12 → kp_c (192 + i) = true := by decide +kernel
theorem kp_c17 : ∀ i, i < 12 → kp_c (204 + i) = true := by decide +kernel
theorem kp_c18 : ∀ i, i < 12 → kp_c (216 + i) = true := by decide +kernel
theorem kp_c19 : ∀ i, i < 7 → kp_c (228 + i) = true := by decide +kernel
theorem kn_len : kn_m.length = 235 := by decide +kernel
theorem kp_all (mid : Nat) (h : mid < 235) : kp_c mid = true := by
  by_cases h0 : mid < 12
  · have q := kp_c0 (mid - 0) (by omega)
    rw [show 0 + (mid - 0) = mid by omega] at q
    exact q
  by_cases h1 : mid < 24
  · have q := kp_c1 (mid - 12) (by omega)
    rw [show 12 + (mid - 12) = mid by omega] at q
    exact q
  by_cases h2 : mid < 36
  · have q := kp_c2 (mid - 24) (by omega)
    rw [show 24 + (mid - 24) = mid by omega] at q
    exact q
  by_cases h3 : mid < 48
  · have q := kp_c3 (mid - 36) (by omega)
    rw [show 36 + (mid - 36) = mid by omega] at q
    exact q
  by_cases h4 : mid < 60
  · have q := kp_c4 (mid - 48) (by omega)
    rw [show 48 + (mid - 48) = mid by omega] at q
    exact q
  by_cases h5 : mid < 72
  · have q := kp_c5 (mid - 60) (by omega)
    rw [show 60 + (mid - 60) = mid by omega] at q
    exact q
  by_cases h6 : mid < 84
  · have q := kp_c6 (mid - 72) (by omega)
    rw [show 72 + (mid - 72) = mid by omega] at q
    exact q
  by_cases h7 : mid < 96
  · have q := kp_c7 (mid - 84) (by omega)
    rw [show 84 + (mid - 84) = mid by omega] at q
    exact q
  by_cases h8 : mid < 108
  · have q := kp_c8 (mid - 96) (by omega)
    rw [show 96 + (mid - 96) = mid by omega] at q
    exact q
  by_cases h9 : mid < 120
  · have q := kp_c9 (mid - 108) (by omega)
    rw [show 108 + (mid - 108) = mid by omega] at q
    exact q
  by_cases h10 : mid < 132
  · have q := kp_c10 (mid - 120) (by omega)
    rw [show 120 + (mid - 120) = mid by omega] at q
    exact q
  by_cases h11 : mid < 144
  · have q := kp_c11 (mid - 132) (by omega)
    rw [show 132 + (mid - 132) = mid by omega] at q
    exact q
  by_cases h12 : mid < 156
  · have q := kp_c12 (mid - 144) (by omega)
    rw [show 144 + (mid - 144) = mid by omega] at q
    exact q
  by_cases h13 : mid < 168
  · have q := kp_c13 (mid - 156) (by omega)
    rw [show 156 + (mid - 156) = mid by omega] at q
    exact q
  by_cases h14 : mid < 180
  · have q := kp_c14 (mid - 168) (by omega)
    rw [show 168 + (mid - 168) = mid by omega] at q
    exact q
  by_cases h15 : mid < 192
  · have q := kp_c15 (mid - 180) (by omega)
    rw [show 180 + (mid - 180) = mid by omega] at q
    exact q
  by_cases h16 : mid < 204
  · have q := kp_c16 (mid - 192) (by omega)
    rw [show 192 + (mid - 192) = mid by omega] at q
    exact q
  by_cases h17 : mid < 216
  · have q := kp_c17 (mid - 204) (by omega)
    rw [show 204 + (mid - 204) = mid by omega] at q
    exact q
  by_cases h18 : mid < 228
  · have q := kp_c18 (mid - 216) (by omega)
    rw [show 216 + (mid - 216) = mid by omega] at q
    exact q
  have q := kp_c19 (mid - 228) (by omega)
  rw [show 228 + (mid - 228) = mid by omega] at q
  exact q
theorem kp_ok : ∀ mid qc, kn_m[mid]? = some qc → kP_ok (kp mid) qc := by
  intro mid qc h
  have hl : mid < kn_m.length := (List.getElem?_eq_some_iff.mp h).1
  rw [kn_len] at hl
  have q := kp_all mid hl
  unfold kp_c at q
  rw [h] at q
  exact kP_b_ok q
