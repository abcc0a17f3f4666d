/-! SUMS: unit vectors first (printed by wip/whole/gen/fa.py) -/
theorem spt_un : ∀ k, k < 10 → spt (un k) = 2 ^ k := by decide +kernel
theorem c_fillJ {I : Nat → Nat → Int32} {L : Nat → Nat → Int64} {q r1 r2 : Nat → Nat} {w : Bool} {K : km_K} {x : Nat} (hs : sh x = (11, 10)) (h : ∀ L', (∀ a k, a ≠ x → L' a k = L a k) → (∀ p, p < 10 → L' x p = 0) → K none (I, L', kr q w r1 r2)) : kC sh kp 234 [.ref x, .long 0] (I, L, kr q w r1 r2) K := by
  refine ⟨rfl, bJ_fillJ_0 ?_⟩
  rw [hs]
  refine ⟨rfl, up0 (Pr := fun p => ∀ L', (∀ a k, a ≠ x → L' a k = L a k) → (∀ j, j < p → L' x j = 0) → kW sh kp 234 6 [some (.ref x), some (.long 0), none, some (.int (nI p)), some (.int (nI 10))] [] (I, L', kr q w r1 r2) K) (e := 10) (fun L1 f1 f2 => ?_) (fun p hp ih L1 f1 f2 => ?_) L (fun _ _ _ => rfl) (fun j hj => absurd hj (by omega))⟩
  · exact bJ_fillJ_6 (pk_le 10 10 (fun _ => bJ_fillJ_22 (h L1 f1 f2)) (fun y => absurd y (by omega)))
  · refine bJ_fillJ_6 (pk_le 10 p (fun y => absurd y (by omega)) (fun _ => bJ_fillJ_12 ?_))
    rw [hs, nI_clamp (by omega), nI_1]
    refine ⟨rfl, vp_in_nI hp (by decide), ih _ (fun a k z => by rw [up_a z]; exact f1 a k z) (fun j hj => ?_)⟩
    by_cases e : j = p
    · rw [e, up_s]
    · rw [up_k e]
      exact f2 j (by omega)
section FAI0
variable {I : Nat → Nat → Int32} {L : Nat → Nat → Int64} {q r1 r2 : Nat → Nat} {K : km_K} {m : Nat → Nat}
theorem c_init0 (hw : m 0 ≤ 10) (hg : gR r1 r2) (h1 : I 1 0 = nI (m 0)) (h : ∀ I' L', (∀ a k, a ≠ 56 → a ≠ 57 → a ≠ 59 → I' a k = I a k) → (∀ a k, (a < 90 ∨ 218 ≤ a) → L' a k = L a k) → I' 56 0 = nI (m 0) → vo 57 r1 I' L' (m 0) un → kW sh kp 162 52 [some (.ref 56), some (.ref 1), none] [] (I', L', kr q false r1 r2) K) : kC sh kp 162 [.ref 56, .ref 1] (I, L, kr q false r1 r2) K := by
  refine ⟨rfl, bV_findAll_0_0 ?_⟩
  rw [h1]
  refine up0 (Pr := fun k => ∀ I' L', (∀ a k, a ≠ 56 → a ≠ 57 → a ≠ 59 → I' a k = I a k) → (∀ a k, (a < 90 ∨ 218 ≤ a) → L' a k = L a k) → I' 56 0 = nI (m 0) → vo 57 r1 I' L' k un → kW sh kp 162 10 [some (.ref 56), some (.ref 1), some (.int (nI k))] [] (I', L', kr q false r1 r2) K) (e := m 0) (fun I1 L1 f1 f2 f3 f4 => ?_) (fun k hk ih I1 L1 f1 f2 f3 f4 => ?_) _ L (fun a k z1 z2 z3 => up_a z1) (fun _ _ _ => rfl) up_s (fun i hi => absurd hi (by omega))
  · exact bV_findAll_0_10 (pk_le (m 0) (m 0) (fun _ => h I1 L1 f1 f2 f3 f4) (fun y => absurd y (by omega)) f3)
  · have g := hg.1 k (by omega)
    have hs : sh (r1 k) = (11, 10) := gsh (by omega) (by omega)
    refine bV_findAll_0_10 (pk_le (m 0) k (fun y => absurd y (by omega)) (fun _ => bV_findAll_0_18 ⟨vp_in_nI (by omega) (by decide), ?_⟩) f3)
    rw [nI_clamp (by omega)]
    show kC sh kp 234 [.ref (r1 k), .long 0] _ _
    refine c_fillJ hs fun L2 g1 g2 => bV_findAll_0_28 ?_
    rw [nI_clamp (by omega), nI_1, sh1 k (by omega)]
    show vp_in (nI k) 64 ∧ (sh (r1 k)).1 = 11 ∧ vp_in (nI k) (sh (r1 k)).2 ∧ vp_in (nI k) 64 ∧ kW sh kp 162 10 _ [] (km_up I1 57 k (nI (2 ^ k)), km_up L2 (r1 k) k 1, _) K
    rw [hs]
    refine ⟨vp_in_nI (by omega) (by decide), rfl, vp_in_nI (by omega) (by decide), vp_in_nI (by omega) (by decide), ih _ _ (fun a j z1 z2 z3 => by rw [up_a (by omega)]; exact f1 a j z1 z2 z3) (fun a j z => by rw [up_a (by omega), g1 a j (by omega)]; exact f2 a j z) (by rw [up_a (by decide)]; exact f3) (fun i hi => ?_)⟩
    by_cases e : i = k
    · rw [e]
      refine ⟨by rw [up_s, spt_un k (by omega)], fun p hp => ?_⟩
      by_cases ep : p = k
      · rw [ep, up_s]
        unfold un
        rw [if_pos rfl]
        rfl
      · rw [up_k ep, g2 p hp]
        unfold un
        rw [if_neg ep]
        rfl
    · have := f4 i (by omega)
      have gi := hg.2.1 i k (by omega) (by omega) e
      refine ⟨by rw [up_k e]; exact this.1, fun p hp => ?_⟩
      rw [up_a gi.1, g1 _ p gi.1]
      exact this.2 p hp
end FAI0
section FAI1
variable {I : Nat → Nat → Int32} {L : Nat → Nat → Int64} {q r1 r2 : Nat → Nat} {K : km_K} {m : Nat → Nat}
theorem c_init1 (hw : m 0 ≤ 10) (hg : gR r1 r2) (h1 : I 1 0 = nI (m 0)) (h : ∀ I' L', (∀ a k, a ≠ 56 → a ≠ 57 → a ≠ 59 → I' a k = I a k) → (∀ a k, (a < 90 ∨ 218 ≤ a) → L' a k = L a k) → I' 56 0 = nI (m 0) → vo 59 r2 I' L' (m 0) un → kW sh kp 162 52 [some (.ref 56), some (.ref 1), none] [] (I', L', kr q true r1 r2) K) : kC sh kp 162 [.ref 56, .ref 1] (I, L, kr q true r1 r2) K := by
  refine ⟨rfl, bV_findAll_1_0 ?_⟩
  rw [h1]
  refine up0 (Pr := fun k => ∀ I' L', (∀ a k, a ≠ 56 → a ≠ 57 → a ≠ 59 → I' a k = I a k) → (∀ a k, (a < 90 ∨ 218 ≤ a) → L' a k = L a k) → I' 56 0 = nI (m 0) → vo 59 r2 I' L' k un → kW sh kp 162 10 [some (.ref 56), some (.ref 1), some (.int (nI k))] [] (I', L', kr q true r1 r2) K) (e := m 0) (fun I1 L1 f1 f2 f3 f4 => ?_) (fun k hk ih I1 L1 f1 f2 f3 f4 => ?_) _ L (fun a k z1 z2 z3 => up_a z1) (fun _ _ _ => rfl) up_s (fun i hi => absurd hi (by omega))
  · exact bV_findAll_1_10 (pk_le (m 0) (m 0) (fun _ => h I1 L1 f1 f2 f3 f4) (fun y => absurd y (by omega)) f3)
  · have g := hg.1 k (by omega)
    have hs : sh (r2 k) = (11, 10) := gsh (by omega) (by omega)
    refine bV_findAll_1_10 (pk_le (m 0) k (fun y => absurd y (by omega)) (fun _ => bV_findAll_1_18 ⟨vp_in_nI (by omega) (by decide), ?_⟩) f3)
    rw [nI_clamp (by omega)]
    show kC sh kp 234 [.ref (r2 k), .long 0] _ _
    refine c_fillJ hs fun L2 g1 g2 => bV_findAll_1_28 ?_
    rw [nI_clamp (by omega), nI_1, sh1 k (by omega)]
    show vp_in (nI k) 64 ∧ (sh (r2 k)).1 = 11 ∧ vp_in (nI k) (sh (r2 k)).2 ∧ vp_in (nI k) 64 ∧ kW sh kp 162 10 _ [] (km_up I1 59 k (nI (2 ^ k)), km_up L2 (r2 k) k 1, _) K
    rw [hs]
    refine ⟨vp_in_nI (by omega) (by decide), rfl, vp_in_nI (by omega) (by decide), vp_in_nI (by omega) (by decide), ih _ _ (fun a j z1 z2 z3 => by rw [up_a (by omega)]; exact f1 a j z1 z2 z3) (fun a j z => by rw [up_a (by omega), g1 a j (by omega)]; exact f2 a j z) (by rw [up_a (by decide)]; exact f3) (fun i hi => ?_)⟩
    by_cases e : i = k
    · rw [e]
      refine ⟨by rw [up_s, spt_un k (by omega)], fun p hp => ?_⟩
      by_cases ep : p = k
      · rw [ep, up_s]
        unfold un
        rw [if_pos rfl]
        rfl
      · rw [up_k ep, g2 p hp]
        unfold un
        rw [if_neg ep]
        rfl
    · have := f4 i (by omega)
      have gi := hg.2.1 i k (by omega) (by omega) e
      refine ⟨by rw [up_k e]; exact this.1, fun p hp => ?_⟩
      rw [up_a gi.2, g1 _ p gi.2]
      exact this.2 p hp
end FAI1
