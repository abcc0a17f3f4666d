/-! SUMS: the class's rows (printed by wip/whole/gen/dd.py) -/
/-- rows of weights with their sets -/
def vo (S : Nat) (ρ : Nat → Nat) (I : Nat → Nat → Int32) (L : Nat → Nat → Int64) (n : Nat) (u : Nat → Nat → Nat) : Prop := ∀ k, k < n → I S k = nI (spt (u k)) ∧ ∀ p, p < 10 → L (ρ k) p = lN (u k p)
theorem gsh {a : Nat} (h1 : 90 ≤ a) (h2 : a < 218) : sh a = (11, 10) := by
  unfold sh
  have e1 : Nat.blt a 90 = false := by
    cases e : Nat.blt a 90 with
    | false => rfl
    | true => exact absurd (Nat.le_of_ble_eq_true e) (by omega)
  have e2 : Nat.blt a 218 = true := Nat.ble_eq_true_of_le h2
  rw [e1, e2]
  rfl
section CINV0
variable {I : Nat → Nat → Int32} {L : Nat → Nat → Int64} {q r1 r2 : Nat → Nat} {K : km_K} {u : Nat → Nat → Nat}
theorem c_weighted0 {n k T : Nat} {f : Nat → Nat} (hg : gR r1 r2) (hn : n ≤ 64) (hk : k < n) (hv : vo 57 r1 I L n u) (hf : ∀ p, p < 10 → f p < 32) (hT : sm0 (fun p => u k p * f p) 10 = T) (h : K (some (.int (nI T))) (I, L, kr q false r1 r2)) : kC sh kp 160 [.ref 56, .int (nI k), .long (lN (mp 32 f 10))] (I, L, kr q false r1 r2) K := by
  have g := hg.1 k (by omega)
  have hs : sh (r1 k) = (11, 10) := gsh (by omega) (by omega)
  refine ⟨rfl, bV_weighted_0_0 (up0 (Pr := fun p => kW sh kp 160 6 [some (.ref 56), some (.int (nI k)), some (.long (lN (mp 32 f 10))), none, some (.long (lN (sm0 (fun p => u k p * f p) p))), none, some (.int (nI p))] [] (I, L, kr q false r1 r2) K) (e := 10) ?_ (fun p hp ih => ?_))⟩
  · refine bV_weighted_0_6 (pk_le 10 10 (fun _ => bV_weighted_0_41 ?_) (fun y => absurd y (by omega)))
    rw [lN_i, hT]
    exact h
  · refine bV_weighted_0_6 (pk_le 10 p (fun y => absurd y (by omega)) (fun _ => bV_weighted_0_13 ⟨vp_in_nI (by omega) (by decide), ?_, ?_, ?_⟩))
    · rw [nI_clamp (by omega)]
      show (sh (r1 k)).1 = 11
      rw [hs]
    · rw [nI_clamp (by omega)]
      show vp_in (nI p) (sh (r1 k)).2
      rw [hs]
      exact vp_in_nI hp (by decide)
    · rw [nI_clamp (show k < 2 ^ 31 by omega), nI_clamp (show p < 2 ^ 31 by omega)]
      show kC sh kp 170 _ _ (fun v M1 => kW sh kp 160 30 _ (v.toList ++ [.long (L (r1 k) p), _]) M1 K)
      rw [(hv k hk).2 p hp]
      have fp := hf p hp
      refine s_tok hp hf (bV_weighted_0_30 ?_)
      rw [nI_l (by omega), lN_mul, lN_add, nI_1]
      exact ih
theorem c_adj0 {n a b : Nat} (hn : n ≤ 64) (ha : a < n) (hb : b < n) (h0 : I 56 0 = nI n) (hv : vo 57 r1 I L n u) (h1 : (∀ k, k < n → k ≠ a → k ≠ b → ¬ spt (u k) &&& (spt (u a) ||| spt (u b)) = spt (u k)) → K (some (.int 1)) (I, L, kr q false r1 r2)) (h2 : (∃ k, k < n ∧ k ≠ a ∧ k ≠ b ∧ spt (u k) &&& (spt (u a) ||| spt (u b)) = spt (u k)) → K (some (.int 0)) (I, L, kr q false r1 r2)) : kC sh kp 164 [.ref 56, .int (nI a), .int (nI b)] (I, L, kr q false r1 r2) K := by
  refine ⟨rfl, bV_areAdjacent_0_0 ⟨vp_in_nI (by omega) (by decide), vp_in_nI (by omega) (by decide), ?_⟩⟩
  rw [nI_clamp (by omega), nI_clamp (by omega), (hv a ha).1, (hv b hb).1, fa_or]
  refine up0 (Pr := fun k => (∀ j, j < k → j ≠ a → j ≠ b → ¬ spt (u j) &&& (spt (u a) ||| spt (u b)) = spt (u j)) → kW sh kp 164 17 [some (.ref 56), some (.int (nI a)), some (.int (nI b)), some (.int (nI (spt (u a) ||| spt (u b)))), some (.int (nI k))] [] (I, L, kr q false r1 r2) K) (e := n) (fun g => ?_) (fun k hk ih g => ?_) (fun j hj => absurd hj (by omega))
  · exact bV_areAdjacent_0_17 (pk_le n n (fun _ => bV_areAdjacent_0_60 (h1 g)) (fun y => absurd y (by omega)) h0)
  · have pass : (k = a ∨ k = b ∨ ¬ spt (u k) &&& (spt (u a) ||| spt (u b)) = spt (u k)) → kW sh kp 164 54 [some (.ref 56), some (.int (nI a)), some (.int (nI b)), some (.int (nI (spt (u a) ||| spt (u b)))), some (.int (nI k))] [] (I, L, kr q false r1 r2) K := fun e => bV_areAdjacent_0_54 (by
      rw [nI_1]
      refine ih fun j hj j1 j2 => ?_
      by_cases c : j = k
      · rw [c] at j1 j2 ⊢
        rcases e with e | e | e
        · exact absurd e j1
        · exact absurd e j2
        · exact e
      · exact g j (by omega) j1 j2)
    refine bV_areAdjacent_0_17 (pk_le n k (fun y => absurd y (by omega)) (fun _ => bV_areAdjacent_0_26 (pk_eq k a (fun y => pass (Or.inl y)) (fun y1 => bV_areAdjacent_0_32 (pk_eq k b (fun y => pass (Or.inr (Or.inl y))) (fun y2 => bV_areAdjacent_0_38 ?_))))) h0)
    rw [nI_clamp (by omega), (hv k hk).1]
    exact ⟨vp_in_nI (by omega) (by decide), fun y => pass (Or.inr (Or.inr fun c => y ((cmp_0 (bs_lt 10)).mpr c))), fun y => bV_areAdjacent_0_52 (h2 ⟨k, hk, y1, y2, (cmp_0 (bs_lt 10)).mp y⟩)⟩
end CINV0
section CINV1
variable {I : Nat → Nat → Int32} {L : Nat → Nat → Int64} {q r1 r2 : Nat → Nat} {K : km_K} {u : Nat → Nat → Nat}
theorem c_weighted1 {n k T : Nat} {f : Nat → Nat} (hg : gR r1 r2) (hn : n ≤ 64) (hk : k < n) (hv : vo 59 r2 I L n u) (hf : ∀ p, p < 10 → f p < 32) (hT : sm0 (fun p => u k p * f p) 10 = T) (h : K (some (.int (nI T))) (I, L, kr q true r1 r2)) : kC sh kp 160 [.ref 56, .int (nI k), .long (lN (mp 32 f 10))] (I, L, kr q true r1 r2) K := by
  have g := hg.1 k (by omega)
  have hs : sh (r2 k) = (11, 10) := gsh (by omega) (by omega)
  refine ⟨rfl, bV_weighted_1_0 (up0 (Pr := fun p => kW sh kp 160 6 [some (.ref 56), some (.int (nI k)), some (.long (lN (mp 32 f 10))), none, some (.long (lN (sm0 (fun p => u k p * f p) p))), none, some (.int (nI p))] [] (I, L, kr q true r1 r2) K) (e := 10) ?_ (fun p hp ih => ?_))⟩
  · refine bV_weighted_1_6 (pk_le 10 10 (fun _ => bV_weighted_1_41 ?_) (fun y => absurd y (by omega)))
    rw [lN_i, hT]
    exact h
  · refine bV_weighted_1_6 (pk_le 10 p (fun y => absurd y (by omega)) (fun _ => bV_weighted_1_13 ⟨vp_in_nI (by omega) (by decide), ?_, ?_, ?_⟩))
    · rw [nI_clamp (by omega)]
      show (sh (r2 k)).1 = 11
      rw [hs]
    · rw [nI_clamp (by omega)]
      show vp_in (nI p) (sh (r2 k)).2
      rw [hs]
      exact vp_in_nI hp (by decide)
    · rw [nI_clamp (show k < 2 ^ 31 by omega), nI_clamp (show p < 2 ^ 31 by omega)]
      show kC sh kp 170 _ _ (fun v M1 => kW sh kp 160 30 _ (v.toList ++ [.long (L (r2 k) p), _]) M1 K)
      rw [(hv k hk).2 p hp]
      have fp := hf p hp
      refine s_tok hp hf (bV_weighted_1_30 ?_)
      rw [nI_l (by omega), lN_mul, lN_add, nI_1]
      exact ih
theorem c_adj1 {n a b : Nat} (hn : n ≤ 64) (ha : a < n) (hb : b < n) (h0 : I 56 0 = nI n) (hv : vo 59 r2 I L n u) (h1 : (∀ k, k < n → k ≠ a → k ≠ b → ¬ spt (u k) &&& (spt (u a) ||| spt (u b)) = spt (u k)) → K (some (.int 1)) (I, L, kr q true r1 r2)) (h2 : (∃ k, k < n ∧ k ≠ a ∧ k ≠ b ∧ spt (u k) &&& (spt (u a) ||| spt (u b)) = spt (u k)) → K (some (.int 0)) (I, L, kr q true r1 r2)) : kC sh kp 164 [.ref 56, .int (nI a), .int (nI b)] (I, L, kr q true r1 r2) K := by
  refine ⟨rfl, bV_areAdjacent_1_0 ⟨vp_in_nI (by omega) (by decide), vp_in_nI (by omega) (by decide), ?_⟩⟩
  rw [nI_clamp (by omega), nI_clamp (by omega), (hv a ha).1, (hv b hb).1, fa_or]
  refine up0 (Pr := fun k => (∀ j, j < k → j ≠ a → j ≠ b → ¬ spt (u j) &&& (spt (u a) ||| spt (u b)) = spt (u j)) → kW sh kp 164 17 [some (.ref 56), some (.int (nI a)), some (.int (nI b)), some (.int (nI (spt (u a) ||| spt (u b)))), some (.int (nI k))] [] (I, L, kr q true r1 r2) K) (e := n) (fun g => ?_) (fun k hk ih g => ?_) (fun j hj => absurd hj (by omega))
  · exact bV_areAdjacent_1_17 (pk_le n n (fun _ => bV_areAdjacent_1_60 (h1 g)) (fun y => absurd y (by omega)) h0)
  · have pass : (k = a ∨ k = b ∨ ¬ spt (u k) &&& (spt (u a) ||| spt (u b)) = spt (u k)) → kW sh kp 164 54 [some (.ref 56), some (.int (nI a)), some (.int (nI b)), some (.int (nI (spt (u a) ||| spt (u b)))), some (.int (nI k))] [] (I, L, kr q true r1 r2) K := fun e => bV_areAdjacent_1_54 (by
      rw [nI_1]
      refine ih fun j hj j1 j2 => ?_
      by_cases c : j = k
      · rw [c] at j1 j2 ⊢
        rcases e with e | e | e
        · exact absurd e j1
        · exact absurd e j2
        · exact e
      · exact g j (by omega) j1 j2)
    refine bV_areAdjacent_1_17 (pk_le n k (fun y => absurd y (by omega)) (fun _ => bV_areAdjacent_1_26 (pk_eq k a (fun y => pass (Or.inl y)) (fun y1 => bV_areAdjacent_1_32 (pk_eq k b (fun y => pass (Or.inr (Or.inl y))) (fun y2 => bV_areAdjacent_1_38 ?_))))) h0)
    rw [nI_clamp (by omega), (hv k hk).1]
    exact ⟨vp_in_nI (by omega) (by decide), fun y => pass (Or.inr (Or.inr fun c => y ((cmp_0 (bs_lt 10)).mpr c))), fun y => bV_areAdjacent_1_52 (h2 ⟨k, hk, y1, y2, (cmp_0 (bs_lt 10)).mp y⟩)⟩
end CINV1
