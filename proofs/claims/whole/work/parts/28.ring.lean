/-! THE REFERENCE'S RING OF STATES -/
/-- the ring holds the rows ms 0 .. ms (n-1), oldest first, before place a -/
def rg (I : Nat → Nat → Int32) (a n : Nat) (ms : Nat → Nat → Nat) : Prop := ∀ i, i < n → ∀ k, k < 212 → I 73 (212 * ((a + 5 - n + i) % 5) + k) = nI (ms i k)
def fG (I I' : Nat → Nat → Int32) : Prop := ∀ b k, b ≠ 73 → (b = 71 → k ≠ 2 ∧ k ≠ 3) → I' b k = I b k
theorem rg_next {I I' : Nat → Nat → Int32} {a n : Nat} {ms : Nat → Nat → Nat} {m : Nat → Nat} (ha : a < 5) (hn : n ≤ 5) (h : rg I a n ms) (h1 : ∀ k, k < 212 → I' 73 (212 * a + k) = nI (m k)) (h2 : ∀ k, (k < 212 * a ∨ 212 * a + 212 ≤ k) → I' 73 k = I 73 k) : rg I' ((a + 1) % 5) (if n < 5 then n + 1 else 5) (if n < 5 then (fun i => if i = n then m else ms i) else fun i => if i = 4 then m else ms (i + 1)) := by
  intro i hi k hk
  by_cases z : n < 5
  · rw [if_pos z] at hi
    rw [if_pos z, if_pos z]
    by_cases e : i = n
    · have e2 : ((a + 1) % 5 + 5 - (n + 1) + i) % 5 = a := by omega
      rw [e2, h1 k hk]
      show _ = nI ((if i = n then m else ms i) k)
      rw [if_pos e]
    · have e2 : ((a + 1) % 5 + 5 - (n + 1) + i) % 5 = (a + 5 - n + i) % 5 := by omega
      have e3 : (a + 5 - n + i) % 5 ≠ a := by omega
      rw [e2]
      show _ = nI ((if i = n then m else ms i) k)
      rw [if_neg e, ← h i (by omega) k hk]
      refine h2 _ ?_
      generalize (a + 5 - n + i) % 5 = x at e3
      omega
  · rw [if_neg z] at hi
    rw [if_neg z, if_neg z]
    have e5 : n = 5 := by omega
    by_cases e : i = 4
    · have e2 : ((a + 1) % 5 + 5 - 5 + i) % 5 = a := by omega
      rw [e2, h1 k hk]
      show _ = nI ((if i = 4 then m else ms (i + 1)) k)
      rw [if_pos e]
    · have e2 : ((a + 1) % 5 + 5 - 5 + i) % 5 = (a + 5 - n + (i + 1)) % 5 := by omega
      have e3 : (a + 5 - n + (i + 1)) % 5 ≠ a := by omega
      rw [e2]
      show _ = nI ((if i = 4 then m else ms (i + 1)) k)
      rw [if_neg e, ← h (i + 1) (by omega) k hk]
      refine h2 _ ?_
      generalize (a + 5 - n + (i + 1)) % 5 = x at e3
      omega
section RING
variable {I : Nat → Nat → Int32} {L : Nat → Nat → Int64} {q r1 r2 : Nat → Nat} {w : Bool} {K : km_K} {m : Nat → Nat}
theorem m_keepsState {a n : Nat} {ms : Nat → Nat → Nat} (hn : nN I m) (ha : a < 5) (hn5 : n ≤ 5) (h3 : I 71 3 = nI a) (h2 : I 71 2 = nI n) (hr : rg I a n ms) (h : ∀ I', fG I I' → I' 71 3 = nI ((a + 1) % 5) → I' 71 2 = nI (if n < 5 then n + 1 else 5) → rg I' ((a + 1) % 5) (if n < 5 then n + 1 else 5) (if n < 5 then (fun i => if i = n then m else ms i) else fun i => if i = 4 then m else ms (i + 1)) → K none (I', L, kr q w r1 r2)) : kC sh kp 59 [.ref 71] (I, L, kr q w r1 r2) K := by
  refine ⟨rfl, bM_keepsState_0 (up0 (Pr := fun i => ∀ I', (∀ b k, b ≠ 73 → I' b k = I b k) → (∀ k, k < i → I' 73 (212 * a + k) = nI (m k)) → (∀ k, (k < 212 * a ∨ 212 * a + 212 ≤ k) → I' 73 k = I 73 k) → kW sh kp 59 2 [some (.ref 71), some (.int (nI i))] [] (I', L, kr q w r1 r2) K) (e := 212) ?_ (fun i hi ih => ?_) I (fun _ _ _ => rfl) (fun k hk => absurd hk (by omega)) (fun _ _ => rfl))⟩
  · intro I' f1 f2 f3
    refine bM_keepsState_2 (pk_le 212 212 (fun _ => bM_keepsState_36 ?_) (fun g => absurd g (by omega)))
    have e3 : I' 71 3 = nI a := (f1 71 3 (by decide)).trans h3
    have e2 : I' 71 2 = nI n := (f1 71 2 (by decide)).trans h2
    rw [e3, up_k (by decide), e2, nI_1, fa_lit 5, pk_rem (by omega) (by decide) (by decide)]
    have fin : ∀ v : Nat, v = (if n < 5 then n + 1 else 5) → K none (km_up (km_up I' 71 3 (nI ((a + 1) % 5))) 71 2 (nI v), L, kr q w r1 r2) := fun v hv => by
      refine h _ (fun b k hb hz => ?_) (by rw [up_k (by decide), up_s]) (by rw [up_s, hv]) ?_
      · by_cases eb : b = 71
        · rw [up_k (hz eb).1, up_k (hz eb).2]
          exact f1 b k hb
        · rw [up_a eb, up_a eb]
          exact f1 b k hb
      · refine rg_next ha hn5 hr (fun k hk => ?_) (fun k hk => ?_)
        · rw [up_a (by decide), up_a (by decide)]
          exact f2 k hk
        · rw [up_a (by decide), up_a (by decide)]
          exact f3 k hk
    refine pk_le 5 n (fun g => bM_keepsState_65 (bM_keepsState_66 ⟨rfl, ?_⟩)) (fun g => bM_keepsState_61 (bM_keepsState_66 ⟨rfl, ?_⟩))
    · rw [fa_lit 0, nI_add]
      exact fin _ (by rw [if_neg (by omega)]; omega)
    · rw [nI_1]
      exact fin _ (by rw [if_pos g])
  · intro I' f1 f2 f3
    have e3 : I' 71 3 = nI a := (f1 71 3 (by decide)).trans h3
    refine bM_keepsState_2 (pk_le 212 i (fun g => absurd g (by omega)) (fun _ => bM_keepsState_9 ⟨vp_in_nI hi (by decide), ?_, ?_⟩))
    · rw [e3, fa_lit 212, pk_mul, nI_add]
      exact vp_in_nI (by omega) (by decide)
    · rw [e3, fa_lit 212, pk_mul, nI_add, nI_clamp (by omega), nI_clamp (by omega), nI_1, f1 72 i (by decide), hn i hi]
      refine ih _ (fun b k hb => ?_) (fun k hk => ?_) (fun k hk => ?_)
      · rw [up_a hb]
        exact f1 b k hb
      · by_cases e : k = i
        · rw [e, up_s]
        · rw [up_k (by omega)]
          exact f2 k (by omega)
      · rw [up_k (by omega)]
        exact f3 k hk
end RING
