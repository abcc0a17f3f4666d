/-! SAVE: the state is kept, the search from home is stale -/
def fV (I : Nat → Nat → Int32) (L : Nat → Nat → Int64) (I' : Nat → Nat → Int32) (L' : Nat → Nat → Int64) : Prop := (∀ a k, (a < 14 ∨ 43 < a) → (a = 0 → k ≠ 3 ∧ k ≠ 5) → I' a k = I a k) ∧ ∀ a k, (a < 14 ∨ 43 < a) → L' a k = L a k
/-- the rows kept, after one more -/
def kms (n : Nat) (ms : Nat → Nat → Nat) (m : Nat → Nat) : Nat → Nat → Nat := if n < 5 then (fun i => if i = n then m else ms i) else fun i => if i = 4 then m else ms (i + 1)
def kn1 (n : Nat) : Nat := if n < 5 then n + 1 else 5
section SAVE
variable {I : Nat → Nat → Int32} {L : Nat → Nat → Int64} {q r1 r2 : Nat → Nat} {w : Bool} {K : km_K} {m : Nat → Nat}
theorem kp_lo {q : Nat → Nat} {i : Nat} (hq : kq q) (hi : i < 5) : 14 ≤ q i := by
  have := hq.1 i hi
  unfold isKp at this
  omega
theorem c_save {n : Nat} {ms : Nat → Nat → Nat} (hq : kq q) (hn : n ≤ 5) (hw : wb m) (hc : I 0 3 = nI n) (hR : cR I L 1 m) (hk : ∀ i, i < n → cR I L (q i) (ms i))
    (h : ∀ I' L' q', kq q' → fV I L I' L' → I' 0 3 = nI (kn1 n) → I' 0 5 = 0 → (∀ i, i < kn1 n → cR I' L' (q' i) (kms n ms m i)) → K none (I', L', kr q' w r1 r2)) : kC sh kp 44 [.ref 0] (I, L, kr q w r1 r2) K := by
  refine ⟨rfl, bX_save_0 (c_keep hq hn hw hc hR hk (fun g I' L' f1 f2 f3 => bX_save_8 ?_) (fun g I' L' q' hq' f1 f2 f3 => bX_save_8 ?_))⟩
  · have e1 : kn1 n = n + 1 := if_pos g
    have e2 : kms n ms m = fun i => if i = n then m else ms i := if_pos g
    rw [e1, e2] at h
    refine h _ _ q hq ⟨fun a k ha hz => ?_, f1.2⟩ (by rw [up_k (by decide)]; exact f2) up_s (fun i hi => cR_fr (fun a k z1 z2 => up_a ?_) (fun _ _ _ _ => rfl) (f3 i hi))
    · by_cases ea : a = 0
      · rw [up_k (hz ea).2]
        exact f1.1 a k ha (fun e => (hz e).1)
      · rw [up_a ea]
        exact f1.1 a k ha (fun e => (hz e).1)
    · have := kp_lo hq (i := i) (by omega)
      omega
  · have e1 : kn1 n = 5 := if_neg (by omega)
    have e2 : kms n ms m = fun i => if i = 4 then m else ms (i + 1) := if_neg (by omega)
    rw [e1, e2] at h
    refine h _ _ q' hq' ⟨fun a k ha hz => ?_, f1.2⟩ (by rw [up_k (by decide)]; exact f2) up_s (fun i hi => cR_fr (fun a k z1 z2 => up_a ?_) (fun _ _ _ _ => rfl) (f3 i hi))
    · by_cases ea : a = 0
      · rw [up_k (hz ea).2]
        exact f1.1 a k ha (fun e => (hz e).1)
      · rw [up_a ea]
        exact f1.1 a k ha (fun e => (hz e).1)
    · have := kp_lo hq' (i := i) (by omega)
      omega
end SAVE
