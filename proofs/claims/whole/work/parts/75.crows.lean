/-! SUMS: the class's rows (printed by wip/whole/gen/dd.py) -/
/-- rows of weights with their sets -/
def vo (S : Nat) (ρ : Nat → Nat) (I : Nat → Nat → Int32) (L : Nat → Nat → Int64) (n : Nat) (u : Nat → Nat → Nat) : Prop := ∀ k, k < n → I S k = nI (spt (u k)) ∧ ∀ p, p < 10 → L (ρ k) p = lN (u k p)
theorem gsh {a : Nat} (h1 : 90 ≤ a) (h2 : a < 218) : sh a = (11, 10) := by
  unfold sh
  have e1 : Nat.blt a 90 = false := by
    cases e : Nat.blt a 90 with
    | false => rfl
    | true => exact absurd (Nat.le_of_ble_eq_true e) (by omega)
  have e2 : Nat.blt a 218 = true := Nat.ble_eq_true_of_le h2
  rw [e1, e2]
  rfl
theorem gcn_lt {x : Nat → Nat} (h : ∀ p, x p < 5 ^ 25) : ∀ n, gcn x n < 5 ^ 25
  | 0 => by show 0 < 5 ^ 25; decide
  | n + 1 => by
    show Nat.gcd (gcn x n) (x n) < 5 ^ 25
    by_cases e : x n = 0
    · rw [e, Nat.gcd_zero_right]
      exact gcn_lt h n
    · exact Nat.lt_of_le_of_lt (Nat.gcd_le_right _ (Nat.pos_of_ne_zero e)) (h n)
theorem lg_le {x y : Int64} : lg_cmp x y ≤ 0 ↔ x.toInt ≤ y.toInt := by
  unfold lg_cmp
  by_cases h1 : x > y
  · rw [if_pos h1]
    have h1 : y < x := h1
    rw [Int64.lt_iff_toInt_lt] at h1
    exact ⟨fun c => absurd c (by decide), fun c => by omega⟩
  · rw [if_neg h1]
    have h1 : ¬ y < x := h1
    rw [Int64.lt_iff_toInt_lt] at h1
    refine ⟨fun _ => by omega, fun _ => ?_⟩
    split <;> decide
theorem lg_ge {x y : Int64} : 0 ≤ lg_cmp x y ↔ y.toInt ≤ x.toInt := by
  unfold lg_cmp
  by_cases h1 : x > y
  · rw [if_pos h1]
    have h1 : y < x := h1
    rw [Int64.lt_iff_toInt_lt] at h1
    exact ⟨fun _ => by omega, fun _ => by decide⟩
  · rw [if_neg h1]
    have h1 : ¬ y < x := h1
    rw [Int64.lt_iff_toInt_lt] at h1
    by_cases h2 : x = y
    · rw [if_pos h2, h2]
      exact ⟨fun _ => Int.le_refl _, fun _ => by decide⟩
    · rw [if_neg h2]
      refine ⟨fun c => absurd c (by decide), fun c => absurd (Int64.toInt_inj.mp ?_) h2⟩
      omega
theorem lg_1 {g : Nat} (hg : g < 2 ^ 62) : lg_cmp (lN g) 1 ≤ 0 ↔ g ≤ 1 := by
  rw [lg_le, pf_lI (by omega), show (1 : Int64).toInt = 1 by decide]
  omega
section CINV0
variable {I : Nat → Nat → Int32} {L : Nat → Nat → Int64} {q r1 r2 : Nat → Nat} {K : km_K} {u : Nat → Nat → Nat}
theorem c_weighted0 {n k T : Nat} {f : Nat → Nat} (hg : gR r1 r2) (hn : n ≤ 64) (hk : k < n) (hv : vo 57 r1 I L n u) (hf : ∀ p, p < 10 → f p < 32) (hT : sm0 (fun p => u k p * f p) 10 = T) (h : K (some (.int (nI T))) (I, L, kr q false r1 r2)) : kC sh kp 160 [.ref 56, .int (nI k), .long (lN (mp 32 f 10))] (I, L, kr q false r1 r2) K := by
  have g := hg.1 k (by omega)
  have hs : sh (r1 k) = (11, 10) := gsh (by omega) (by omega)
  refine ⟨rfl, bV_weighted_0_0 (up0 (Pr := fun p => kW sh kp 160 6 [some (.ref 56), some (.int (nI k)), some (.long (lN (mp 32 f 10))), none, some (.long (lN (sm0 (fun p => u k p * f p) p))), none, some (.int (nI p))] [] (I, L, kr q false r1 r2) K) (e := 10) ?_ (fun p hp ih => ?_))⟩
  · refine bV_weighted_0_6 (pk_le 10 10 (fun _ => bV_weighted_0_41 ?_) (fun y => absurd y (by omega)))
    rw [lN_i, hT]
    exact h
  · refine bV_weighted_0_6 (pk_le 10 p (fun y => absurd y (by omega)) (fun _ => bV_weighted_0_13 ⟨vp_in_nI (by omega) (by decide), ?_, ?_, ?_⟩))
    · rw [nI_clamp (by omega)]
      show (sh (r1 k)).1 = 11
      rw [hs]
    · rw [nI_clamp (by omega)]
      show vp_in (nI p) (sh (r1 k)).2
      rw [hs]
      exact vp_in_nI hp (by decide)
    · rw [nI_clamp (show k < 2 ^ 31 by omega), nI_clamp (show p < 2 ^ 31 by omega)]
      show kC sh kp 170 _ _ (fun v M1 => kW sh kp 160 30 _ (v.toList ++ [.long (L (r1 k) p), _]) M1 K)
      rw [(hv k hk).2 p hp]
      have fp := hf p hp
      refine s_tok hp hf (bV_weighted_0_30 ?_)
      rw [nI_l (by omega), lN_mul, lN_add, nI_1]
      exact ih
theorem c_adj0 {n a b : Nat} (hn : n ≤ 64) (ha : a < n) (hb : b < n) (h0 : I 56 0 = nI n) (hv : vo 57 r1 I L n u) (h1 : (∀ k, k < n → k ≠ a → k ≠ b → ¬ spt (u k) &&& (spt (u a) ||| spt (u b)) = spt (u k)) → K (some (.int 1)) (I, L, kr q false r1 r2)) (h2 : (∃ k, k < n ∧ k ≠ a ∧ k ≠ b ∧ spt (u k) &&& (spt (u a) ||| spt (u b)) = spt (u k)) → K (some (.int 0)) (I, L, kr q false r1 r2)) : kC sh kp 164 [.ref 56, .int (nI a), .int (nI b)] (I, L, kr q false r1 r2) K := by
  refine ⟨rfl, bV_areAdjacent_0_0 ⟨vp_in_nI (by omega) (by decide), vp_in_nI (by omega) (by decide), ?_⟩⟩
  rw [nI_clamp (by omega), nI_clamp (by omega), (hv a ha).1, (hv b hb).1, fa_or]
  refine up0 (Pr := fun k => (∀ j, j < k → j ≠ a → j ≠ b → ¬ spt (u j) &&& (spt (u a) ||| spt (u b)) = spt (u j)) → kW sh kp 164 17 [some (.ref 56), some (.int (nI a)), some (.int (nI b)), some (.int (nI (spt (u a) ||| spt (u b)))), some (.int (nI k))] [] (I, L, kr q false r1 r2) K) (e := n) (fun g => ?_) (fun k hk ih g => ?_) (fun j hj => absurd hj (by omega))
  · exact bV_areAdjacent_0_17 (pk_le n n (fun _ => bV_areAdjacent_0_60 (h1 g)) (fun y => absurd y (by omega)) h0)
  · have pass : (k = a ∨ k = b ∨ ¬ spt (u k) &&& (spt (u a) ||| spt (u b)) = spt (u k)) → kW sh kp 164 54 [some (.ref 56), some (.int (nI a)), some (.int (nI b)), some (.int (nI (spt (u a) ||| spt (u b)))), some (.int (nI k))] [] (I, L, kr q false r1 r2) K := fun e => bV_areAdjacent_0_54 (by
      rw [nI_1]
      refine ih fun j hj j1 j2 => ?_
      by_cases c : j = k
      · rw [c] at j1 j2 ⊢
        rcases e with e | e | e
        · exact absurd e j1
        · exact absurd e j2
        · exact e
      · exact g j (by omega) j1 j2)
    refine bV_areAdjacent_0_17 (pk_le n k (fun y => absurd y (by omega)) (fun _ => bV_areAdjacent_0_26 (pk_eq k a (fun y => pass (Or.inl y)) (fun y1 => bV_areAdjacent_0_32 (pk_eq k b (fun y => pass (Or.inr (Or.inl y))) (fun y2 => bV_areAdjacent_0_38 ?_))))) h0)
    rw [nI_clamp (by omega), (hv k hk).1]
    exact ⟨vp_in_nI (by omega) (by decide), fun y => pass (Or.inr (Or.inr fun c => y ((cmp_0 (bs_lt 10)).mpr c))), fun y => bV_areAdjacent_0_52 (h2 ⟨k, hk, y1, y2, (cmp_0 (bs_lt 10)).mp y⟩)⟩
theorem c_comb0 {n n' a b ta tb : Nat} {ka kb : Int64} (hg : gR r1 r2) (hn : n ≤ 64) (hn' : n' < 64) (ha : a < n) (hb : b < n) (hka : ka = lN ta) (hkb : kb = lN tb) (hx : ∀ p, ta * u a p + tb * u b p < 5 ^ 25) (h3 : I 56 3 = nI n') (hv : vo 57 r1 I L n u) (h : ∀ I' L', (∀ c k, c ≠ 59 → (c = 56 → k ≠ 3) → I' c k = I c k) → (∀ k, k ≠ n' → I' 59 k = I 59 k) → (∀ c k, c ≠ r2 n' → L' c k = L c k) → I' 56 3 = nI (n' + 1) → I' 59 n' = nI (spt (u a) ||| spt (u b)) → (∀ p, p < 10 → L' (r2 n') p = lN ((ta * u a p + tb * u b p) / gcn (fun p => ta * u a p + tb * u b p) 10)) → K none (I', L', kr q false r1 r2)) : kC sh kp 165 [.ref 56, .int (nI a), .long ka, .int (nI b), .long kb] (I, L, kr q false r1 r2) K := by
  have ga := hg.1 a (by omega)
  have gb := hg.1 b (by omega)
  have gn := hg.1 n' hn'
  have sa : sh (r1 a) = (11, 10) := gsh (by omega) (by omega)
  have sb : sh (r1 b) = (11, 10) := gsh (by omega) (by omega)
  have sn : sh (r2 n') = (11, 10) := gsh (by omega) (by omega)
  have na : r1 a ≠ r2 n' := hg.2.2 a n' (by omega) hn'
  have nb : r1 b ≠ r2 n' := hg.2.2 b n' (by omega) hn'
  have gl : ∀ p, gcn (fun p => ta * u a p + tb * u b p) p < 5 ^ 25 := gcn_lt hx
  refine ⟨rfl, bV_addCombined_0_0 (pk_lt n' 64 (fun _ => bV_addCombined_0_10 ⟨by rw [h3]; exact vp_in_nI hn' (by decide), ?_⟩) (fun y => absurd y (by omega)) h3)⟩
  rw [h3, nI_clamp (by omega)]
  show kW sh kp 165 27 [some (.ref 56), some (.int (nI a)), some (.long ka), none, some (.int (nI b)), some (.long kb), none, some (.ref (r2 n')), some (.long 0), none, some (.int 0)] [] _ K
  rw [hka, hkb]
  -- the row is written
  refine up0 (Pr := fun p => ∀ L', (∀ c k, c ≠ r2 n' → L' c k = L c k) → (∀ j, j < p → L' (r2 n') j = lN (ta * u a j + tb * u b j)) → kW sh kp 165 27 [some (.ref 56), some (.int (nI a)), some (.long (lN ta)), none, some (.int (nI b)), some (.long (lN tb)), none, some (.ref (r2 n')), some (.long (lN (gcn (fun p => ta * u a p + tb * u b p) p))), none, some (.int (nI p))] [] (I, L', kr q false r1 r2) K) (e := 10) (fun L1 f1 f2 => ?_) (fun p hp ih L1 f1 f2 => ?_) L (fun _ _ _ => rfl) (fun j hj => absurd hj (by omega))
  · refine bV_addCombined_0_27 (pk_le 10 10 (fun _ => bV_addCombined_0_82 ?_) (fun y => absurd y (by omega)))
    have hG := gl 10
    -- the end
    have fin : ∀ L2, (∀ c k, c ≠ r2 n' → L2 c k = L c k) → (∀ j, j < 10 → L2 (r2 n') j = lN ((ta * u a j + tb * u b j) / gcn (fun p => ta * u a p + tb * u b p) 10)) → kW sh kp 165 115 [some (.ref 56), some (.int (nI a)), none, none, some (.int (nI b)), none, none, none, none, none, none] [] (I, L2, kr q false r1 r2) K := fun L2 g1 g2 => bV_addCombined_0_115 (by
      rw [h3, nI_clamp (show n' < 2 ^ 31 by omega), nI_clamp (show a < 2 ^ 31 by omega), nI_clamp (show b < 2 ^ 31 by omega), (hv a ha).1, (hv b hb).1, fa_or, up_a (show (56 : Nat) ≠ 59 by decide), h3, nI_1]
      refine ⟨vp_in_nI (by omega) (by decide), vp_in_nI (by omega) (by decide), vp_in_nI hn' (by decide), h _ L2 (fun c k z1 z2 => ?_) (fun k hk => ?_) g1 up_s ?_ g2⟩
      · by_cases e : c = 56
        · rw [up_k (z2 e), up_a z1]
        · rw [up_a e, up_a z1]
      · rw [up_a (by decide), up_k hk]
      · rw [up_a (by decide), up_s])
    generalize hGe : gcn (fun p => ta * u a p + tb * u b p) 10 = G at hG fin
    by_cases e1 : G ≤ 1
    · have div1 : ∀ j, j < 10 → (ta * u a j + tb * u b j) / G = ta * u a j + tb * u b j := fun j hj => by
        have d := gcn_dvd (x := fun p => ta * u a p + tb * u b p) 10 j hj
        rw [hGe] at d
        by_cases e0 : G = 0
        · rw [e0] at d
          have : ta * u a j + tb * u b j = 0 := Nat.eq_zero_of_zero_dvd d
          rw [this, Nat.zero_div]
        · rw [show G = 1 by omega, Nat.div_one]
      refine bV_addCombined_0_85 (pk_le 10 0 (fun y => absurd y (by omega)) (fun _ => bV_addCombined_0_92 ⟨fun _ => fin L1 f1 (fun j hj => by rw [div1 j hj]; exact f2 j hj), fun y => absurd ((lg_1 (by omega)).mpr e1) y⟩))
    · refine up0 (Pr := fun p => ∀ L', (∀ c k, c ≠ r2 n' → L' c k = L c k) → (∀ j, j < 10 → L' (r2 n') j = if j < p then lN ((ta * u a j + tb * u b j) / G) else lN (ta * u a j + tb * u b j)) → kW sh kp 165 85 [some (.ref 56), some (.int (nI a)), none, none, some (.int (nI b)), none, none, some (.ref (r2 n')), some (.long (lN G)), none, some (.int (nI p))] [] (I, L', kr q false r1 r2) K) (e := 10) (fun L2 g1 g2 => ?_) (fun p hp ih L2 g1 g2 => ?_) L1 f1 (fun j hj => by rw [if_neg (by omega)]; exact f2 j hj)
      · exact bV_addCombined_0_85 (pk_le 10 10 (fun _ => fin L2 g1 (fun j hj => by rw [g2 j hj, if_pos hj])) (fun y => absurd y (by omega)))
      · refine bV_addCombined_0_85 (pk_le 10 p (fun y => absurd y (by omega)) (fun _ => bV_addCombined_0_92 ⟨fun y => absurd ((lg_1 (by omega)).mp y) e1, fun _ => bV_addCombined_0_99 ?_⟩))
        have x62 : ta * u a p + tb * u b p < 2 ^ 62 := Nat.lt_trans (hx p) (by decide)
        rw [sn, nI_clamp (by omega), g2 p hp, if_neg (by omega), lN_div x62 (by omega), nI_1]
        refine ⟨rfl, vp_in_nI hp (by decide), fun c => e1 (by rw [(lN_0 (by omega)).mp c]; decide), rfl, vp_in_nI hp (by decide), ih _ (fun c k z => by rw [up_a z]; exact g1 c k z) (fun j hj => ?_)⟩
        by_cases e : j = p
        · rw [e, up_s, if_pos (by omega)]
        · rw [up_k e, g2 j hj]
          by_cases e2 : j < p
          · rw [if_pos e2, if_pos (by omega)]
          · rw [if_neg e2, if_neg (by omega)]
  · refine bV_addCombined_0_27 (pk_le 10 p (fun y => absurd y (by omega)) (fun _ => bV_addCombined_0_34 ?_))
    rw [nI_clamp (show a < 2 ^ 31 by omega), nI_clamp (show b < 2 ^ 31 by omega), nI_clamp (show p < 2 ^ 31 by omega), sn]
    show vp_in (nI a) 64 ∧ (sh (r1 a)).1 = 11 ∧ vp_in (nI p) (sh (r1 a)).2 ∧ vp_in (nI b) 64 ∧ (sh (r1 b)).1 = 11 ∧ vp_in (nI p) (sh (r1 b)).2 ∧ _ ∧ _ ∧ _ ∧ _ ∧ kC sh kp 166 [_, .long (km_up L1 (r2 n') p (lN ta * L1 (r1 a) p + lN tb * L1 (r1 b) p) (r2 n') p)] (I, km_up L1 (r2 n') p (lN ta * L1 (r1 a) p + lN tb * L1 (r1 b) p), _) _
    rw [sa, sb, f1 (r1 a) p na, f1 (r1 b) p nb, (hv a ha).2 p hp, (hv b hb).2 p hp, lN_mul, lN_mul, lN_add, up_s]
    have vp : vp_in (nI p) 10 := vp_in_nI hp (by decide)
    refine ⟨vp_in_nI (by omega) (by decide), rfl, vp, vp_in_nI (by omega) (by decide), rfl, vp, rfl, vp, rfl, vp, c_gcd (gl p) (hx p) (bV_addCombined_0_74 ?_)⟩
    rw [nI_1]
    refine ih _ (fun c k z => by rw [up_a z]; exact f1 c k z) (fun j hj => ?_)
    by_cases e : j = p
    · rw [e, up_s]
    · rw [up_k e]
      exact f2 j (by omega)
end CINV0
section CINV1
variable {I : Nat → Nat → Int32} {L : Nat → Nat → Int64} {q r1 r2 : Nat → Nat} {K : km_K} {u : Nat → Nat → Nat}
theorem c_weighted1 {n k T : Nat} {f : Nat → Nat} (hg : gR r1 r2) (hn : n ≤ 64) (hk : k < n) (hv : vo 59 r2 I L n u) (hf : ∀ p, p < 10 → f p < 32) (hT : sm0 (fun p => u k p * f p) 10 = T) (h : K (some (.int (nI T))) (I, L, kr q true r1 r2)) : kC sh kp 160 [.ref 56, .int (nI k), .long (lN (mp 32 f 10))] (I, L, kr q true r1 r2) K := by
  have g := hg.1 k (by omega)
  have hs : sh (r2 k) = (11, 10) := gsh (by omega) (by omega)
  refine ⟨rfl, bV_weighted_1_0 (up0 (Pr := fun p => kW sh kp 160 6 [some (.ref 56), some (.int (nI k)), some (.long (lN (mp 32 f 10))), none, some (.long (lN (sm0 (fun p => u k p * f p) p))), none, some (.int (nI p))] [] (I, L, kr q true r1 r2) K) (e := 10) ?_ (fun p hp ih => ?_))⟩
  · refine bV_weighted_1_6 (pk_le 10 10 (fun _ => bV_weighted_1_41 ?_) (fun y => absurd y (by omega)))
    rw [lN_i, hT]
    exact h
  · refine bV_weighted_1_6 (pk_le 10 p (fun y => absurd y (by omega)) (fun _ => bV_weighted_1_13 ⟨vp_in_nI (by omega) (by decide), ?_, ?_, ?_⟩))
    · rw [nI_clamp (by omega)]
      show (sh (r2 k)).1 = 11
      rw [hs]
    · rw [nI_clamp (by omega)]
      show vp_in (nI p) (sh (r2 k)).2
      rw [hs]
      exact vp_in_nI hp (by decide)
    · rw [nI_clamp (show k < 2 ^ 31 by omega), nI_clamp (show p < 2 ^ 31 by omega)]
      show kC sh kp 170 _ _ (fun v M1 => kW sh kp 160 30 _ (v.toList ++ [.long (L (r2 k) p), _]) M1 K)
      rw [(hv k hk).2 p hp]
      have fp := hf p hp
      refine s_tok hp hf (bV_weighted_1_30 ?_)
      rw [nI_l (by omega), lN_mul, lN_add, nI_1]
      exact ih
theorem c_adj1 {n a b : Nat} (hn : n ≤ 64) (ha : a < n) (hb : b < n) (h0 : I 56 0 = nI n) (hv : vo 59 r2 I L n u) (h1 : (∀ k, k < n → k ≠ a → k ≠ b → ¬ spt (u k) &&& (spt (u a) ||| spt (u b)) = spt (u k)) → K (some (.int 1)) (I, L, kr q true r1 r2)) (h2 : (∃ k, k < n ∧ k ≠ a ∧ k ≠ b ∧ spt (u k) &&& (spt (u a) ||| spt (u b)) = spt (u k)) → K (some (.int 0)) (I, L, kr q true r1 r2)) : kC sh kp 164 [.ref 56, .int (nI a), .int (nI b)] (I, L, kr q true r1 r2) K := by
  refine ⟨rfl, bV_areAdjacent_1_0 ⟨vp_in_nI (by omega) (by decide), vp_in_nI (by omega) (by decide), ?_⟩⟩
  rw [nI_clamp (by omega), nI_clamp (by omega), (hv a ha).1, (hv b hb).1, fa_or]
  refine up0 (Pr := fun k => (∀ j, j < k → j ≠ a → j ≠ b → ¬ spt (u j) &&& (spt (u a) ||| spt (u b)) = spt (u j)) → kW sh kp 164 17 [some (.ref 56), some (.int (nI a)), some (.int (nI b)), some (.int (nI (spt (u a) ||| spt (u b)))), some (.int (nI k))] [] (I, L, kr q true r1 r2) K) (e := n) (fun g => ?_) (fun k hk ih g => ?_) (fun j hj => absurd hj (by omega))
  · exact bV_areAdjacent_1_17 (pk_le n n (fun _ => bV_areAdjacent_1_60 (h1 g)) (fun y => absurd y (by omega)) h0)
  · have pass : (k = a ∨ k = b ∨ ¬ spt (u k) &&& (spt (u a) ||| spt (u b)) = spt (u k)) → kW sh kp 164 54 [some (.ref 56), some (.int (nI a)), some (.int (nI b)), some (.int (nI (spt (u a) ||| spt (u b)))), some (.int (nI k))] [] (I, L, kr q true r1 r2) K := fun e => bV_areAdjacent_1_54 (by
      rw [nI_1]
      refine ih fun j hj j1 j2 => ?_
      by_cases c : j = k
      · rw [c] at j1 j2 ⊢
        rcases e with e | e | e
        · exact absurd e j1
        · exact absurd e j2
        · exact e
      · exact g j (by omega) j1 j2)
    refine bV_areAdjacent_1_17 (pk_le n k (fun y => absurd y (by omega)) (fun _ => bV_areAdjacent_1_26 (pk_eq k a (fun y => pass (Or.inl y)) (fun y1 => bV_areAdjacent_1_32 (pk_eq k b (fun y => pass (Or.inr (Or.inl y))) (fun y2 => bV_areAdjacent_1_38 ?_))))) h0)
    rw [nI_clamp (by omega), (hv k hk).1]
    exact ⟨vp_in_nI (by omega) (by decide), fun y => pass (Or.inr (Or.inr fun c => y ((cmp_0 (bs_lt 10)).mpr c))), fun y => bV_areAdjacent_1_52 (h2 ⟨k, hk, y1, y2, (cmp_0 (bs_lt 10)).mp y⟩)⟩
theorem c_comb1 {n n' a b ta tb : Nat} {ka kb : Int64} (hg : gR r1 r2) (hn : n ≤ 64) (hn' : n' < 64) (ha : a < n) (hb : b < n) (hka : ka = lN ta) (hkb : kb = lN tb) (hx : ∀ p, ta * u a p + tb * u b p < 5 ^ 25) (h3 : I 56 3 = nI n') (hv : vo 59 r2 I L n u) (h : ∀ I' L', (∀ c k, c ≠ 57 → (c = 56 → k ≠ 3) → I' c k = I c k) → (∀ k, k ≠ n' → I' 57 k = I 57 k) → (∀ c k, c ≠ r1 n' → L' c k = L c k) → I' 56 3 = nI (n' + 1) → I' 57 n' = nI (spt (u a) ||| spt (u b)) → (∀ p, p < 10 → L' (r1 n') p = lN ((ta * u a p + tb * u b p) / gcn (fun p => ta * u a p + tb * u b p) 10)) → K none (I', L', kr q true r1 r2)) : kC sh kp 165 [.ref 56, .int (nI a), .long ka, .int (nI b), .long kb] (I, L, kr q true r1 r2) K := by
  have ga := hg.1 a (by omega)
  have gb := hg.1 b (by omega)
  have gn := hg.1 n' hn'
  have sa : sh (r2 a) = (11, 10) := gsh (by omega) (by omega)
  have sb : sh (r2 b) = (11, 10) := gsh (by omega) (by omega)
  have sn : sh (r1 n') = (11, 10) := gsh (by omega) (by omega)
  have na : r2 a ≠ r1 n' := fun c => hg.2.2 n' a hn' (by omega) c.symm
  have nb : r2 b ≠ r1 n' := fun c => hg.2.2 n' b hn' (by omega) c.symm
  have gl : ∀ p, gcn (fun p => ta * u a p + tb * u b p) p < 5 ^ 25 := gcn_lt hx
  refine ⟨rfl, bV_addCombined_1_0 (pk_lt n' 64 (fun _ => bV_addCombined_1_10 ⟨by rw [h3]; exact vp_in_nI hn' (by decide), ?_⟩) (fun y => absurd y (by omega)) h3)⟩
  rw [h3, nI_clamp (by omega)]
  show kW sh kp 165 27 [some (.ref 56), some (.int (nI a)), some (.long ka), none, some (.int (nI b)), some (.long kb), none, some (.ref (r1 n')), some (.long 0), none, some (.int 0)] [] _ K
  rw [hka, hkb]
  -- the row is written
  refine up0 (Pr := fun p => ∀ L', (∀ c k, c ≠ r1 n' → L' c k = L c k) → (∀ j, j < p → L' (r1 n') j = lN (ta * u a j + tb * u b j)) → kW sh kp 165 27 [some (.ref 56), some (.int (nI a)), some (.long (lN ta)), none, some (.int (nI b)), some (.long (lN tb)), none, some (.ref (r1 n')), some (.long (lN (gcn (fun p => ta * u a p + tb * u b p) p))), none, some (.int (nI p))] [] (I, L', kr q true r1 r2) K) (e := 10) (fun L1 f1 f2 => ?_) (fun p hp ih L1 f1 f2 => ?_) L (fun _ _ _ => rfl) (fun j hj => absurd hj (by omega))
  · refine bV_addCombined_1_27 (pk_le 10 10 (fun _ => bV_addCombined_1_82 ?_) (fun y => absurd y (by omega)))
    have hG := gl 10
    -- the end
    have fin : ∀ L2, (∀ c k, c ≠ r1 n' → L2 c k = L c k) → (∀ j, j < 10 → L2 (r1 n') j = lN ((ta * u a j + tb * u b j) / gcn (fun p => ta * u a p + tb * u b p) 10)) → kW sh kp 165 115 [some (.ref 56), some (.int (nI a)), none, none, some (.int (nI b)), none, none, none, none, none, none] [] (I, L2, kr q true r1 r2) K := fun L2 g1 g2 => bV_addCombined_1_115 (by
      rw [h3, nI_clamp (show n' < 2 ^ 31 by omega), nI_clamp (show a < 2 ^ 31 by omega), nI_clamp (show b < 2 ^ 31 by omega), (hv a ha).1, (hv b hb).1, fa_or, up_a (show (56 : Nat) ≠ 57 by decide), h3, nI_1]
      refine ⟨vp_in_nI (by omega) (by decide), vp_in_nI (by omega) (by decide), vp_in_nI hn' (by decide), h _ L2 (fun c k z1 z2 => ?_) (fun k hk => ?_) g1 up_s ?_ g2⟩
      · by_cases e : c = 56
        · rw [up_k (z2 e), up_a z1]
        · rw [up_a e, up_a z1]
      · rw [up_a (by decide), up_k hk]
      · rw [up_a (by decide), up_s])
    generalize hGe : gcn (fun p => ta * u a p + tb * u b p) 10 = G at hG fin
    by_cases e1 : G ≤ 1
    · have div1 : ∀ j, j < 10 → (ta * u a j + tb * u b j) / G = ta * u a j + tb * u b j := fun j hj => by
        have d := gcn_dvd (x := fun p => ta * u a p + tb * u b p) 10 j hj
        rw [hGe] at d
        by_cases e0 : G = 0
        · rw [e0] at d
          have : ta * u a j + tb * u b j = 0 := Nat.eq_zero_of_zero_dvd d
          rw [this, Nat.zero_div]
        · rw [show G = 1 by omega, Nat.div_one]
      refine bV_addCombined_1_85 (pk_le 10 0 (fun y => absurd y (by omega)) (fun _ => bV_addCombined_1_92 ⟨fun _ => fin L1 f1 (fun j hj => by rw [div1 j hj]; exact f2 j hj), fun y => absurd ((lg_1 (by omega)).mpr e1) y⟩))
    · refine up0 (Pr := fun p => ∀ L', (∀ c k, c ≠ r1 n' → L' c k = L c k) → (∀ j, j < 10 → L' (r1 n') j = if j < p then lN ((ta * u a j + tb * u b j) / G) else lN (ta * u a j + tb * u b j)) → kW sh kp 165 85 [some (.ref 56), some (.int (nI a)), none, none, some (.int (nI b)), none, none, some (.ref (r1 n')), some (.long (lN G)), none, some (.int (nI p))] [] (I, L', kr q true r1 r2) K) (e := 10) (fun L2 g1 g2 => ?_) (fun p hp ih L2 g1 g2 => ?_) L1 f1 (fun j hj => by rw [if_neg (by omega)]; exact f2 j hj)
      · exact bV_addCombined_1_85 (pk_le 10 10 (fun _ => fin L2 g1 (fun j hj => by rw [g2 j hj, if_pos hj])) (fun y => absurd y (by omega)))
      · refine bV_addCombined_1_85 (pk_le 10 p (fun y => absurd y (by omega)) (fun _ => bV_addCombined_1_92 ⟨fun y => absurd ((lg_1 (by omega)).mp y) e1, fun _ => bV_addCombined_1_99 ?_⟩))
        have x62 : ta * u a p + tb * u b p < 2 ^ 62 := Nat.lt_trans (hx p) (by decide)
        rw [sn, nI_clamp (by omega), g2 p hp, if_neg (by omega), lN_div x62 (by omega), nI_1]
        refine ⟨rfl, vp_in_nI hp (by decide), fun c => e1 (by rw [(lN_0 (by omega)).mp c]; decide), rfl, vp_in_nI hp (by decide), ih _ (fun c k z => by rw [up_a z]; exact g1 c k z) (fun j hj => ?_)⟩
        by_cases e : j = p
        · rw [e, up_s, if_pos (by omega)]
        · rw [up_k e, g2 j hj]
          by_cases e2 : j < p
          · rw [if_pos e2, if_pos (by omega)]
          · rw [if_neg e2, if_neg (by omega)]
  · refine bV_addCombined_1_27 (pk_le 10 p (fun y => absurd y (by omega)) (fun _ => bV_addCombined_1_34 ?_))
    rw [nI_clamp (show a < 2 ^ 31 by omega), nI_clamp (show b < 2 ^ 31 by omega), nI_clamp (show p < 2 ^ 31 by omega), sn]
    show vp_in (nI a) 64 ∧ (sh (r2 a)).1 = 11 ∧ vp_in (nI p) (sh (r2 a)).2 ∧ vp_in (nI b) 64 ∧ (sh (r2 b)).1 = 11 ∧ vp_in (nI p) (sh (r2 b)).2 ∧ _ ∧ _ ∧ _ ∧ _ ∧ kC sh kp 166 [_, .long (km_up L1 (r1 n') p (lN ta * L1 (r2 a) p + lN tb * L1 (r2 b) p) (r1 n') p)] (I, km_up L1 (r1 n') p (lN ta * L1 (r2 a) p + lN tb * L1 (r2 b) p), _) _
    rw [sa, sb, f1 (r2 a) p na, f1 (r2 b) p nb, (hv a ha).2 p hp, (hv b hb).2 p hp, lN_mul, lN_mul, lN_add, up_s]
    have vp : vp_in (nI p) 10 := vp_in_nI hp (by decide)
    refine ⟨vp_in_nI (by omega) (by decide), rfl, vp, vp_in_nI (by omega) (by decide), rfl, vp, rfl, vp, rfl, vp, c_gcd (gl p) (hx p) (bV_addCombined_1_74 ?_)⟩
    rw [nI_1]
    refine ih _ (fun c k z => by rw [up_a z]; exact f1 c k z) (fun j hj => ?_)
    by_cases e : j = p
    · rw [e, up_s]
    · rw [up_k e]
      exact f2 j (by omega)
end CINV1
