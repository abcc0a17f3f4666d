/-! SUMS: rows by their sets (printed by wip/whole/gen/ord.py) -/
def sgk (k i : Nat) : Nat := if i = k - 1 then k else if i = k then k - 1 else i
def sw2 (r : Nat → Nat) (k : Nat) : Nat → Nat := ups (ups r k (r (k - 1))) (k - 1) (r k)
theorem sw2_eq {r : Nat → Nat} {k i : Nat} : sw2 r k i = r (sgk k i) := by
  unfold sw2 sgk
  by_cases e1 : i = k - 1
  · rw [e1, ups_s, if_pos rfl]
  · rw [ups_o e1, if_neg e1]
    by_cases e2 : i = k
    · rw [e2, ups_s, if_pos rfl]
    · rw [ups_o e2, if_neg e2]
theorem sgk_lt {k i n : Nat} (hk : k < n) (hi : i < n) : sgk k i < n := by
  unfold sgk
  split
  · exact hk
  · split <;> omega
theorem sgk_inj {k i j : Nat} (h : sgk k i = sgk k j) : i = j := by
  unfold sgk at h
  split at h
  · split at h
    · omega
    · split at h <;> omega
  · split at h
    · split at h
      · omega
      · split at h <;> omega
    · split at h
      · omega
      · split at h <;> omega
theorem sgk_sgk {k i : Nat} (hk : 1 ≤ k) : sgk k (sgk k i) = i := by
  unfold sgk
  by_cases e1 : i = k - 1
  · rw [if_pos e1, if_neg (by omega), if_pos rfl, e1]
  · rw [if_neg e1]
    by_cases e2 : i = k
    · rw [if_pos e2, if_pos rfl, e2]
    · rw [if_neg e2, if_neg e1, if_neg e2]
theorem kr_up58 {q r1 r2 : Nat → Nat} {w : Bool} {j v : Nat} : km_up (kr q w r1 r2) 58 j v = kr q w (ups r1 j v) r2 := funext fun a => funext fun k => by
  by_cases e : a = 58
  · subst e
    show (if 58 = 58 ∧ k = j then v else r1 k) = if k = j then v else r1 k
    by_cases z : k = j
    · rw [if_pos ⟨rfl, z⟩, if_pos z]
    · rw [if_neg (fun y => z y.2), if_neg z]
  · rw [up_a e]
    unfold kr
    rw [beq_n e]
    rfl
theorem kr_up60 {q r1 r2 : Nat → Nat} {w : Bool} {j v : Nat} : km_up (kr q w r1 r2) 60 j v = kr q w r1 (ups r2 j v) := funext fun a => funext fun k => by
  by_cases e : a = 60
  · subst e
    show (if 60 = 60 ∧ k = j then v else r2 k) = if k = j then v else r2 k
    by_cases z : k = j
    · rw [if_pos ⟨rfl, z⟩, if_pos z]
    · rw [if_neg (fun y => z y.2), if_neg z]
  · rw [up_a e]
    unfold kr
    rw [beq_n e]
    rfl
theorem gR_1 {r1 r2 : Nat → Nat} {k : Nat} (hk : k < 64) (h : gR r1 r2) : gR (sw2 r1 k) r2 := by
  refine ⟨fun i hi => ?_, fun i j hi hj hij => ?_, fun i j hi hj => ?_⟩
  · rw [sw2_eq]
    have a := h.1 _ (sgk_lt hk hi)
    have b := h.1 i hi
    exact ⟨a.1, a.2.1, b.2.2⟩
  · rw [sw2_eq, sw2_eq]
    exact ⟨(h.2.1 _ _ (sgk_lt hk hi) (sgk_lt hk hj) (fun c => hij (sgk_inj c))).1, (h.2.1 i j hi hj hij).2⟩
  · rw [sw2_eq]
    exact h.2.2 _ _ (sgk_lt hk hi) hj
theorem gR_2 {r1 r2 : Nat → Nat} {k : Nat} (hk : k < 64) (h : gR r1 r2) : gR r1 (sw2 r2 k) := by
  refine ⟨fun i hi => ?_, fun i j hi hj hij => ?_, fun i j hi hj => ?_⟩
  · rw [sw2_eq]
    have a := h.1 _ (sgk_lt hk hi)
    have b := h.1 i hi
    exact ⟨b.1, b.2.1, a.2.2⟩
  · rw [sw2_eq, sw2_eq]
    exact ⟨(h.2.1 i j hi hj hij).1, (h.2.1 _ _ (sgk_lt hk hi) (sgk_lt hk hj) (fun c => hij (sgk_inj c))).2⟩
  · rw [sw2_eq]
    exact h.2.2 _ _ hi (sgk_lt hk hj)
theorem rys_sgk {m : Nat → Nat} {t n k : Nat} {u : Nat → Nat → Nat} (hk : k < n) (hk1 : 1 ≤ k) (h : rys m t n u) : rys m t n (fun i => u (sgk k i)) := by
  refine ⟨fun i hi => h.1 _ (sgk_lt hk hi), fun i j hi hj e => sgk_inj (h.2.1 _ _ (sgk_lt hk hi) (sgk_lt hk hj) e), fun x hx => ?_⟩
  obtain ⟨i, hi, e⟩ := h.2.2 x hx
  exact ⟨sgk k i, sgk_lt hk hi, by rw [e]; show u i = u (sgk k (sgk k i)); rw [sgk_sgk hk1]⟩
theorem rys_ne {m : Nat → Nat} {t n i j : Nat} {u : Nat → Nat → Nat} (hw : m 0 ≤ 10) (h : rys m t n u) (hi : i < n) (hj : j < n) (hij : i ≠ j) : spt (u i) ≠ spt (u j) := fun c => hij (h.2.1 i j hi hj (by
  have h10 : ∀ i, i < n → ∀ p, 10 ≤ p → u i p = 0 := fun i hi => (Kc_cone hw t).2.2.2 _ (h.1 i hi).1
  refine ray_eq (Kc_cone hw t) (h.1 i hi) (h.1 j hj) fun p hp => Classical.byContradiction fun d => ?_
  have := (spt_tb (h10 j hj) p).mpr d
  rw [← c] at this
  exact (spt_tb (h10 i hi) p).mp this hp))
def srt (u : Nat → Nat → Nat) (i : Nat) : Prop := ∀ a b, a < b → b < i → spt (u a) < spt (u b)
section ORD0
variable {I : Nat → Nat → Int32} {L : Nat → Nat → Int64} {q r2 : Nat → Nat} {K : km_K} {m : Nat → Nat} {t n : Nat}
def oq0 (I : Nat → Nat → Int32) (L : Nat → Nat → Int64) (r2 : Nat → Nat) (m : Nat → Nat) (t n : Nat) (I' : Nat → Nat → Int32) (r : Nat → Nat) (u : Nat → Nat → Nat) : Prop := (∀ a k, a ≠ 57 → I' a k = I a k) ∧ gR r r2 ∧ rys m t n u ∧ vo 57 r I' L n u
theorem c_order_i0 (hw : m 0 ≤ 10) (hn : n ≤ 64) (h0 : I 56 0 = nI n) {i : Nat} (hi : i < n) (h : ∀ I' r u, oq0 I L r2 m t n I' r u → srt u (i + 1) → kW sh kp 168 101 [some (.ref 56), some (.int (nI i)), none, none, none] [] (I', L, kr q false r r2) K) : ∀ j I' r u, j ≤ i → oq0 I L r2 m t n I' r u → (∀ a b, a < b → b ≤ i → a ≠ j → b ≠ j → spt (u a) < spt (u b)) → (∀ b, j < b → b ≤ i → spt (u j) < spt (u b)) → kW sh kp 168 12 [some (.ref 56), some (.int (nI i)), some (.int (nI j)), none, none] [] (I', L, kr q false r r2) K
  | 0, I', r, u, hj, hq, h1, h2 => bV_orderBySupport_0_12 (pk_le 0 0 (fun _ => h I' r u hq fun a b hab hb => by
      by_cases e : a = 0
      · rw [e]
        exact h2 b (by omega) (by omega)
      · exact h1 a b hab (by omega) e (by omega)) (fun y => absurd y (by omega)))
  | j + 1, I', r, u, hj, hq, h1, h2 => by
    have a1 := hq.2.2.2 (j + 1) (by omega)
    have a0 := hq.2.2.2 j (by omega)
    have ne := rys_ne hw hq.2.2.1 (show j < n by omega) (show j + 1 < n by omega) (by omega)
    have b1 : spt (u (j + 1)) < 2 ^ 10 := bs_lt 10
    have b0 : spt (u j) < 2 ^ 10 := bs_lt 10
    have v1 : vp_in (nI (j + 1)) 64 := vp_in_nI (by omega) (by decide)
    have v0 : vp_in (nI j) 64 := vp_in_nI (by omega) (by decide)
    refine bV_orderBySupport_0_12 (pk_le (j + 1) 0 (fun y => absurd y (by omega)) (fun _ => bV_orderBySupport_0_16 ?_))
    rw [nI_pred, nI_clamp (show j < 2 ^ 31 by omega), nI_clamp (show j + 1 < 2 ^ 31 by omega), a0.1, a1.1]
    refine ⟨v0, v1, pk_le (spt (u j)) (spt (u (j + 1))) (fun y => h I' r u hq fun a b hab hb => ?_) (fun y => bV_orderBySupport_0_33 ?_)⟩
    · by_cases e1 : a = j + 1
      · rw [e1] at hab ⊢
        exact h2 b hab (by omega)
      · by_cases e2 : b = j + 1
        · rw [e2]
          by_cases e3 : a = j
          · rw [e3]
            omega
          · have := h1 a j (by omega) (by omega) e1 (by omega)
            omega
        · exact h1 a b hab (by omega) e1 e2
    · rw [nI_pred, nI_clamp (show j < 2 ^ 31 by omega), nI_clamp (show j + 1 < 2 ^ 31 by omega), a0.1, a1.1]
      show vp_in _ 64 ∧ vp_in _ 64 ∧ vp_in _ 64 ∧ vp_in _ 64 ∧ vp_in _ 64 ∧ vp_in _ 64 ∧ (sh (r j)).1 = 11 ∧ vp_in _ 64 ∧ (sh (r (j + 1))).1 = 11 ∧ vp_in _ 64 ∧ kW sh kp 168 12 _ [] (_, L, km_up (km_up (kr q false r r2) 58 (j + 1) (r j)) 58 j (r (j + 1))) K
      have g0 := hq.2.1.1 j (by omega)
      have g1 := hq.2.1.1 (j + 1) (by omega)
      rw [gsh (a := r j) (by omega) (by omega), gsh (a := r (j + 1)) (by omega) (by omega), kr_up58, kr_up58, ← Int32.sub_eq_add_neg, nI_pred]
      refine ⟨v1, v0, v1, v0, v1, v0, rfl, v1, rfl, v0, c_order_i0 hw hn h0 hi h j _ (sw2 r (j + 1)) (fun i => u (sgk (j + 1) i)) (by omega) ⟨fun a k z => by rw [up_a z, up_a z]; exact hq.1 a k z, gR_1 (by omega) hq.2.1, rys_sgk (by omega) (by omega) hq.2.2.1, fun c hc => ?_⟩ (fun a b hab hb ha hb' => ?_) (fun b hb hb2 => ?_)⟩
      · have s := hq.2.2.2 (sgk (j + 1) c) (sgk_lt (by omega) hc)
        refine ⟨?_, fun p hp => by rw [sw2_eq]; exact s.2 p hp⟩
        rw [← s.1]
        unfold sgk
        rw [Nat.add_sub_cancel]
        by_cases e1 : c = j
        · rw [e1, up_s, if_pos rfl, a1.1]
        · rw [up_k e1, if_neg e1]
          by_cases e2 : c = j + 1
          · rw [e2, up_s, if_pos rfl, a0.1]
          · rw [up_k e2, if_neg e2]
      · show spt (u (sgk (j + 1) a)) < spt (u (sgk (j + 1) b))
        unfold sgk
        rw [Nat.add_sub_cancel, if_neg ha, if_neg hb']
        by_cases e1 : a = j + 1
        · rw [if_pos e1, if_neg (by omega)]
          exact h1 j b (by omega) hb (by omega) (by omega)
        · rw [if_neg e1]
          by_cases e2 : b = j + 1
          · rw [if_pos e2]
            exact h1 a j (by omega) (by omega) e1 (by omega)
          · rw [if_neg e2]
            exact h1 a b hab hb e1 e2
      · show spt (u (sgk (j + 1) j)) < spt (u (sgk (j + 1) b))
        unfold sgk
        rw [Nat.add_sub_cancel, if_pos rfl, if_neg (show b ≠ j by omega)]
        by_cases e2 : b = j + 1
        · rw [if_pos e2]
          omega
        · rw [if_neg e2]
          exact h2 b (by omega) hb2
theorem c_order0 (hw : m 0 ≤ 10) (hn : n ≤ 64) (h0 : I 56 0 = nI n) {r : Nat → Nat} {u : Nat → Nat → Nat} (hq0 : oq0 I L r2 m t n I r u) (h : ∀ I' r u, oq0 I L r2 m t n I' r u → srt u n → K none (I', L, kr q false r r2)) : kC sh kp 168 [.ref 56] (I, L, kr q false r r2) K := by
  have loop : ∀ k i I' r u, (i + k = n ∨ (k = 0 ∧ n ≤ i)) ∧ i ≤ 65 → 1 ≤ i → oq0 I L r2 m t n I' r u → srt u i → kW sh kp 168 2 [some (.ref 56), some (.int (nI i)), none, none, none] [] (I', L, kr q false r r2) K := fun k => by
    induction k with
    | zero =>
      intro i I' r u hk h1 hq hs
      have e0 : I' 56 0 = nI n := (hq.1 56 0 (by decide)).trans h0
      refine bV_orderBySupport_0_2 ?_
      rw [e0]
      have hni : n ≤ i := by omega
      have fin : kW sh kp 168 107 [none, none, none, none, none] [] (I', L, kr q false r r2) K := bV_orderBySupport_0_107 (h I' r u hq fun a b hab hb => hs a b hab (by omega))
      exact pk_le n i (fun _ => fin) (fun y => absurd y (by omega))
    | succ k ih =>
      intro i I' r u hk h1 hq hs
      have e0 : I' 56 0 = nI n := (hq.1 56 0 (by decide)).trans h0
      refine bV_orderBySupport_0_2 (pk_le n i (fun y => absurd y (by omega)) (fun _ => bV_orderBySupport_0_10 ?_) e0)
      refine c_order_i0 (I := I) hw hn h0 (show i < n by omega) (fun I2 r' u' hq2 hs2 => bV_orderBySupport_0_101 ?_) i I' r u (Nat.le_refl _) hq (fun a b hab hb _ hb' => hs a b hab (by omega)) (fun b hb hb2 => absurd hb (by omega))
      rw [nI_1]
      exact ih (i + 1) I2 r' u' (by omega) (by omega) hq2 hs2
  refine ⟨rfl, bV_orderBySupport_0_0 ?_⟩
  exact loop (n - 1) 1 I r u (by omega) (Nat.le_refl _) hq0 (fun a b hab hb => absurd hb (by omega))
end ORD0
section ORD1
variable {I : Nat → Nat → Int32} {L : Nat → Nat → Int64} {q r1 : Nat → Nat} {K : km_K} {m : Nat → Nat} {t n : Nat}
def oq1 (I : Nat → Nat → Int32) (L : Nat → Nat → Int64) (r1 : Nat → Nat) (m : Nat → Nat) (t n : Nat) (I' : Nat → Nat → Int32) (r : Nat → Nat) (u : Nat → Nat → Nat) : Prop := (∀ a k, a ≠ 59 → I' a k = I a k) ∧ gR r1 r ∧ rys m t n u ∧ vo 59 r I' L n u
theorem c_order_i1 (hw : m 0 ≤ 10) (hn : n ≤ 64) (h0 : I 56 0 = nI n) {i : Nat} (hi : i < n) (h : ∀ I' r u, oq1 I L r1 m t n I' r u → srt u (i + 1) → kW sh kp 168 101 [some (.ref 56), some (.int (nI i)), none, none, none] [] (I', L, kr q true r1 r) K) : ∀ j I' r u, j ≤ i → oq1 I L r1 m t n I' r u → (∀ a b, a < b → b ≤ i → a ≠ j → b ≠ j → spt (u a) < spt (u b)) → (∀ b, j < b → b ≤ i → spt (u j) < spt (u b)) → kW sh kp 168 12 [some (.ref 56), some (.int (nI i)), some (.int (nI j)), none, none] [] (I', L, kr q true r1 r) K
  | 0, I', r, u, hj, hq, h1, h2 => bV_orderBySupport_1_12 (pk_le 0 0 (fun _ => h I' r u hq fun a b hab hb => by
      by_cases e : a = 0
      · rw [e]
        exact h2 b (by omega) (by omega)
      · exact h1 a b hab (by omega) e (by omega)) (fun y => absurd y (by omega)))
  | j + 1, I', r, u, hj, hq, h1, h2 => by
    have a1 := hq.2.2.2 (j + 1) (by omega)
    have a0 := hq.2.2.2 j (by omega)
    have ne := rys_ne hw hq.2.2.1 (show j < n by omega) (show j + 1 < n by omega) (by omega)
    have b1 : spt (u (j + 1)) < 2 ^ 10 := bs_lt 10
    have b0 : spt (u j) < 2 ^ 10 := bs_lt 10
    have v1 : vp_in (nI (j + 1)) 64 := vp_in_nI (by omega) (by decide)
    have v0 : vp_in (nI j) 64 := vp_in_nI (by omega) (by decide)
    refine bV_orderBySupport_1_12 (pk_le (j + 1) 0 (fun y => absurd y (by omega)) (fun _ => bV_orderBySupport_1_16 ?_))
    rw [nI_pred, nI_clamp (show j < 2 ^ 31 by omega), nI_clamp (show j + 1 < 2 ^ 31 by omega), a0.1, a1.1]
    refine ⟨v0, v1, pk_le (spt (u j)) (spt (u (j + 1))) (fun y => h I' r u hq fun a b hab hb => ?_) (fun y => bV_orderBySupport_1_33 ?_)⟩
    · by_cases e1 : a = j + 1
      · rw [e1] at hab ⊢
        exact h2 b hab (by omega)
      · by_cases e2 : b = j + 1
        · rw [e2]
          by_cases e3 : a = j
          · rw [e3]
            omega
          · have := h1 a j (by omega) (by omega) e1 (by omega)
            omega
        · exact h1 a b hab (by omega) e1 e2
    · rw [nI_pred, nI_clamp (show j < 2 ^ 31 by omega), nI_clamp (show j + 1 < 2 ^ 31 by omega), a0.1, a1.1]
      show vp_in _ 64 ∧ vp_in _ 64 ∧ vp_in _ 64 ∧ vp_in _ 64 ∧ vp_in _ 64 ∧ vp_in _ 64 ∧ (sh (r j)).1 = 11 ∧ vp_in _ 64 ∧ (sh (r (j + 1))).1 = 11 ∧ vp_in _ 64 ∧ kW sh kp 168 12 _ [] (_, L, km_up (km_up (kr q true r1 r) 60 (j + 1) (r j)) 60 j (r (j + 1))) K
      have g0 := hq.2.1.1 j (by omega)
      have g1 := hq.2.1.1 (j + 1) (by omega)
      rw [gsh (a := r j) (by omega) (by omega), gsh (a := r (j + 1)) (by omega) (by omega), kr_up60, kr_up60, ← Int32.sub_eq_add_neg, nI_pred]
      refine ⟨v1, v0, v1, v0, v1, v0, rfl, v1, rfl, v0, c_order_i1 hw hn h0 hi h j _ (sw2 r (j + 1)) (fun i => u (sgk (j + 1) i)) (by omega) ⟨fun a k z => by rw [up_a z, up_a z]; exact hq.1 a k z, gR_2 (by omega) hq.2.1, rys_sgk (by omega) (by omega) hq.2.2.1, fun c hc => ?_⟩ (fun a b hab hb ha hb' => ?_) (fun b hb hb2 => ?_)⟩
      · have s := hq.2.2.2 (sgk (j + 1) c) (sgk_lt (by omega) hc)
        refine ⟨?_, fun p hp => by rw [sw2_eq]; exact s.2 p hp⟩
        rw [← s.1]
        unfold sgk
        rw [Nat.add_sub_cancel]
        by_cases e1 : c = j
        · rw [e1, up_s, if_pos rfl, a1.1]
        · rw [up_k e1, if_neg e1]
          by_cases e2 : c = j + 1
          · rw [e2, up_s, if_pos rfl, a0.1]
          · rw [up_k e2, if_neg e2]
      · show spt (u (sgk (j + 1) a)) < spt (u (sgk (j + 1) b))
        unfold sgk
        rw [Nat.add_sub_cancel, if_neg ha, if_neg hb']
        by_cases e1 : a = j + 1
        · rw [if_pos e1, if_neg (by omega)]
          exact h1 j b (by omega) hb (by omega) (by omega)
        · rw [if_neg e1]
          by_cases e2 : b = j + 1
          · rw [if_pos e2]
            exact h1 a j (by omega) (by omega) e1 (by omega)
          · rw [if_neg e2]
            exact h1 a b hab hb e1 e2
      · show spt (u (sgk (j + 1) j)) < spt (u (sgk (j + 1) b))
        unfold sgk
        rw [Nat.add_sub_cancel, if_pos rfl, if_neg (show b ≠ j by omega)]
        by_cases e2 : b = j + 1
        · rw [if_pos e2]
          omega
        · rw [if_neg e2]
          exact h2 b (by omega) hb2
theorem c_order1 (hw : m 0 ≤ 10) (hn : n ≤ 64) (h0 : I 56 0 = nI n) {r : Nat → Nat} {u : Nat → Nat → Nat} (hq0 : oq1 I L r1 m t n I r u) (h : ∀ I' r u, oq1 I L r1 m t n I' r u → srt u n → K none (I', L, kr q true r1 r)) : kC sh kp 168 [.ref 56] (I, L, kr q true r1 r) K := by
  have loop : ∀ k i I' r u, (i + k = n ∨ (k = 0 ∧ n ≤ i)) ∧ i ≤ 65 → 1 ≤ i → oq1 I L r1 m t n I' r u → srt u i → kW sh kp 168 2 [some (.ref 56), some (.int (nI i)), none, none, none] [] (I', L, kr q true r1 r) K := fun k => by
    induction k with
    | zero =>
      intro i I' r u hk h1 hq hs
      have e0 : I' 56 0 = nI n := (hq.1 56 0 (by decide)).trans h0
      refine bV_orderBySupport_1_2 ?_
      rw [e0]
      have hni : n ≤ i := by omega
      have fin : kW sh kp 168 107 [none, none, none, none, none] [] (I', L, kr q true r1 r) K := bV_orderBySupport_1_107 (h I' r u hq fun a b hab hb => hs a b hab (by omega))
      exact pk_le n i (fun _ => fin) (fun y => absurd y (by omega))
    | succ k ih =>
      intro i I' r u hk h1 hq hs
      have e0 : I' 56 0 = nI n := (hq.1 56 0 (by decide)).trans h0
      refine bV_orderBySupport_1_2 (pk_le n i (fun y => absurd y (by omega)) (fun _ => bV_orderBySupport_1_10 ?_) e0)
      refine c_order_i1 (I := I) hw hn h0 (show i < n by omega) (fun I2 r' u' hq2 hs2 => bV_orderBySupport_1_101 ?_) i I' r u (Nat.le_refl _) hq (fun a b hab hb _ hb' => hs a b hab (by omega)) (fun b hb hb2 => absurd hb (by omega))
      rw [nI_1]
      exact ih (i + 1) I2 r' u' (by omega) (by omega) hq2 hs2
  refine ⟨rfl, bV_orderBySupport_1_0 ?_⟩
  exact loop (n - 1) 1 I r u (by omega) (Nat.le_refl _) hq0 (fun a b hab hb => absurd hb (by omega))
end ORD1
