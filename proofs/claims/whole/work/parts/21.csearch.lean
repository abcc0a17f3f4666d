/-! THE CLASS'S SEARCH (printed by wip/whole/gen/csearch.py, once for each of the two searches) -/
def cS (I : Nat → Nat → Int32) (L : Nat → Nat → Int64) (B M D : Nat) (s : sst) : Prop := I B 3 = nI s.1 ∧ ∀ j, j < s.1 → L M j = lN (s.2.1 j) ∧ I D j = nI (s.2.2 j)
def cU (I : Nat → Nat → Int32) (T : Nat) (u : Nat → Nat) : Prop := ∀ k, k < 512 → I T k = sI (u k)
def fE (B M D T : Nat) (I : Nat → Nat → Int32) (L : Nat → Nat → Int64) (I' : Nat → Nat → Int32) (L' : Nat → Nat → Int64) : Prop := (∀ a k, (a = B → k ≠ 3) → a ≠ D → a ≠ T → I' a k = I a k) ∧ ∀ a k, a ≠ M → L' a k = L a k
def fP (B M D N T : Nat) (I : Nat → Nat → Int32) (L : Nat → Nat → Int64) (I' : Nat → Nat → Int32) (L' : Nat → Nat → Int64) : Prop := (∀ a k, (a = B → k ≠ 3 ∧ k ≠ 6) → a ≠ D → a ≠ N → a ≠ T → I' a k = I a k) ∧ ∀ a k, a ≠ M → L' a k = L a k
theorem fP_E {B M D N T : Nat} {I I1 I2 : Nat → Nat → Int32} {L L1 L2 : Nat → Nat → Int64} (h : fP B M D N T I L I1 L1) (h2 : fE B M D T I1 L1 I2 L2) : fP B M D N T I L I2 L2 := ⟨fun a k h1 h3 h4 h5 => (h2.1 a k (fun e => (h1 e).1) h3 h5).trans (h.1 a k h1 h3 h4 h5), fun a k h1 => (h2.2 a k h1).trans (h.2 a k h1)⟩
theorem cR_fr {I I' : Nat → Nat → Int32} {L L' : Nat → Nat → Int64} {c : Nat} {m : Nat → Nat} (h1 : ∀ a k, c ≤ a → a ≤ c + 5 → I' a k = I a k) (h2 : ∀ a k, c ≤ a → a ≤ c + 5 → L' a k = L a k) (h : cR I L c m) : cR I' L' c m := by
  obtain ⟨a1, a2, a3, a4, a5, a6, a7, a8, a9⟩ := h
  refine ⟨(h1 _ _ (by omega) (by omega)).trans a1, (h1 _ _ (by omega) (by omega)).trans a2, (h1 _ _ (by omega) (by omega)).trans a3, (h1 _ _ (by omega) (by omega)).trans a4, (h2 _ _ (by omega) (by omega)).trans a5, (h2 _ _ (by omega) (by omega)).trans a6, (h2 _ _ (by omega) (by omega)).trans a7, fun t ht => ?_, fun g hg => ?_⟩
  · obtain ⟨b1, b2, b3⟩ := a8 t ht
    exact ⟨(h2 _ _ (by omega) (by omega)).trans b1, (h2 _ _ (by omega) (by omega)).trans b2, (h1 _ _ (by omega) (by omega)).trans b3⟩
  · obtain ⟨b1, b2⟩ := a9 g hg
    exact ⟨(h1 _ _ (by omega) (by omega)).trans b1, (h1 _ _ (by omega) (by omega)).trans b2⟩
theorem sI_m1 {n : Nat} (h : n < 2 ^ 31) : sI n = -1 ↔ n = 0 := by
  unfold sI
  constructor
  · intro e
    by_cases g : n = 0
    · exact g
    · rw [if_neg g] at e
      have := nI_pos (n := n - 1) (by omega)
      rw [e] at this
      exact absurd (by decide) this
  · intro e
    exact if_pos e
theorem nI_m1 {n : Nat} (h : n < 2 ^ 31) : ¬ nI n = -1 := fun e => by
  have := nI_pos (n := n) h
  rw [e] at this
  exact absurd (by decide) this
theorem nx8 {k t : Nat} : nI k * 8 + nI t = nI (8 * k + t) := by rw [fa_lit 8, pk_mul, nI_add, Nat.mul_comm]
section CSEARCH
variable {I : Nat → Nat → Int32} {L : Nat → Nat → Int64} {q r1 r2 : Nat → Nat} {w : Bool} {K : km_K} {m : Nat → Nat}
theorem j_fillI {x : Nat} {v : Int32} (h10 : (sh x).1 = 10) (hl : (sh x).2 < 2 ^ 31) (h : ∀ I', (∀ a k, a ≠ x → I' a k = I a k) → (∀ k, k < (sh x).2 → I' x k = v) → K none (I', L, kr q w r1 r2)) : kC sh kp 233 [.ref x, .int v] (I, L, kr q w r1 r2) K := by
  refine ⟨rfl, bJ_fillI_0 ⟨h10, ?_⟩⟩
  refine up0 (Pr := fun i => ∀ I', (∀ a k, a ≠ x → I' a k = I a k) → (∀ k, k < i → I' x k = v) → kW sh kp 233 5 [some (.ref x), some (.int v), some (.int (nI i)), some (.int (nI (sh x).2))] [] (I', L, kr q w r1 r2) K) (e := (sh x).2) ?_ (fun i hi ih => ?_) I (fun _ _ _ => rfl) (fun k hk => absurd hk (by omega))
  · intro I' h1 h2
    exact bJ_fillI_5 (pk_le (sh x).2 (sh x).2 (fun _ => bJ_fillI_20 (h I' h1 h2)) (fun g => absurd g (by omega)))
  · intro I' h1 h2
    refine bJ_fillI_5 (pk_le (sh x).2 i (fun g => absurd g (by omega)) (fun _ => bJ_fillI_10 ⟨h10, vp_in_nI hi hl, ?_⟩))
    rw [nI_1, nI_clamp (by omega)]
    refine ih _ (fun a k ha => ?_) (fun k hk => ?_)
    · rw [up_a ha]
      exact h1 a k ha
    · by_cases e : k = i
      · rw [e, up_s]
      · rw [up_k e]
        exact h2 k (by omega)
theorem c_slot_h {s : sst} {u : Nat → Nat} {c : Nat} (hg : gk m s) (hS : cS I L 44 45 46 s) (hu : cU I 49 u) (ht : tv s u) (hc : c < 2 ^ 63) (h : ∀ k, k < 512 → sf s u c k → K (some (.int (nI k))) (I, L, kr q w r1 r2)) : kC sh kp 192 [.ref 44, .long (lN c)] (I, L, kr q w r1 r2) K := by
  have h200 := hg.1
  refine ⟨rfl, bF_slotOf_h_0 ?_⟩
  rw [hs_eq]
  have key := up0 (Pr := fun i => (∀ j, j < i → u ((hs c + j) % 512) ≠ 0 ∧ s.2.1 (u ((hs c + j) % 512) - 1) ≠ c) → kW sh kp 192 13 [some (.ref 44), some (.long (lN c)), none, some (.int (nI ((hs c + i) % 512))), some (.int (nI i))] [] (I, L, kr q w r1 r2) K) (e := 512) ?_ (fun i hi ih => ?_) (fun j hj => absurd hj (by omega))
  · have e0 : (hs c + 0) % 512 = hs c := by
      have := hs_lt c
      omega
    rw [e0] at key
    exact key
  · intro ha
    exact (not_full h200 ht (fun j hj => (ha j hj).1)).elim
  · intro ha
    have hk : (hs c + i) % 512 < 512 := Nat.mod_lt _ (by decide)
    have hn : (hs c + (i + 1)) % 512 = ((hs c + i) % 512 + 1) % 512 := by omega
    rw [hn] at ih
    generalize hkk : (hs c + i) % 512 = k at *
    have hv : vp_in (nI k) 512 := vp_in_nI hk (by decide)
    have eu : I 49 (nI k).toNatClampNeg = sI (u k) := by
      rw [nI_clamp (by omega)]
      exact hu k hk
    have hul := ht.1 k hk
    refine bF_slotOf_h_13 (pk_le 512 i (fun g => absurd g (by omega)) (fun _ => bF_slotOf_h_21 ⟨hv, ?_⟩))
    rw [eu]
    refine ⟨fun g => bF_slotOf_h_61 (h k hk ?_), fun g => bF_slotOf_h_31 ⟨hv, ?_⟩⟩
    · have g := (sI_m1 (by omega)).mp g
      rw [← hkk] at g ⊢
      exact sf_free ht hi ha g
    · have g : u k ≠ 0 := fun e => g ((sI_m1 (by omega)).mpr e)
      have e2 : sI (u k) = nI (u k - 1) := if_neg g
      rw [eu, e2, nI_clamp (by omega), (hS.2 (u k - 1) (by omega)).1]
      have hvc := (hg.2.1 (u k - 1) (by omega)).1
      have hll := vc_lt hvc
      refine ⟨vp_in_nI (by omega) (by decide), fun g2 => bF_slotOf_h_61 (h k hk ?_), fun g2 => bF_slotOf_h_47 ?_⟩
      · exact sf_hit hg ht hk g ((pk_lEQ (Nat.lt_trans hll (by decide)) hc).mp (lg0.mp g2))
      · rw [nI_1, nI_1, fa_lit 512, pk_rem (by omega) (by decide) (by decide)]
        refine ih fun j hj => ?_
        by_cases e : j = i
        · rw [e, hkk]
          exact ⟨g, fun z => g2 (lg0.mpr (by rw [z]))⟩
        · exact ha j (by omega)
theorem c_index_h {s : sst} {u : Nat → Nat} {c : Nat} (hg : gk m s) (hS : cS I L 44 45 46 s) (hu : cU I 49 u) (ht : tv s u) (hc : c < 2 ^ 63) (h : K (some (.int (pI s c))) (I, L, kr q w r1 r2)) : kC sh kp 193 [.ref 44, .long (lN c)] (I, L, kr q w r1 r2) K := by
  refine ⟨rfl, bF_indexOf_h_0 (c_slot_h hg hS hu ht hc fun k hk hf => bF_indexOf_h_9 ⟨rfl, vp_in_nI hk (by decide), ?_⟩)⟩
  rw [nI_clamp (by omega), hu k hk]
  have h200 := hg.1
  rcases hf with ⟨f1, f2, f3⟩ | ⟨f1, f2⟩
  · have e : pI s c = -1 := if_neg (by omega)
    rw [e] at h
    rw [f1]
    exact h
  · have e : pI s c = nI (pl s c) := if_pos f2
    rw [e] at h
    rw [f1]
    exact h
theorem c_enter_h {s : sst} {u : Nat → Nat} {c d : Nat} (hg : gk m s) (hS : cS I L 44 45 46 s) (hu : cU I 49 u) (ht : tv s u) (hc : c < 2 ^ 63) (h : ∀ I' L' u', fE 44 45 46 49 I L I' L' → cS I' L' 44 45 46 (put s c d) → cU I' 49 u' → tv (put s c d) u' → K (some (.int (eI s c))) (I', L', kr q w r1 r2)) : kC sh kp 191 [.ref 44, .long (lN c), .int (nI d)] (I, L, kr q w r1 r2) K := by
  have h200 := hg.1
  refine ⟨rfl, bF_enter_h_0 (c_slot_h hg hS hu ht hc fun k hk hf => ?_)⟩
  have hv : vp_in (nI k) 512 := vp_in_nI hk (by decide)
  have ek : (nI k).toNatClampNeg = k := nI_clamp (by omega)
  refine bF_enter_h_5 ⟨hv, ?_⟩
  rw [ek, hu k hk]
  rcases hf with ⟨f1, f2, n, f3, f4, f5⟩ | ⟨f1, f2⟩
  · rw [f1]
    refine ⟨fun _ => bF_enter_h_26 (pk_lt s.1 200 (fun g => bF_enter_h_39 ?_) (fun g => bF_enter_h_36 ?_) hS.1), fun g => absurd rfl g⟩
    · have en : (I 44 3).toNatClampNeg = s.1 := by rw [hS.1, nI_clamp (by omega)]
      have vn : vp_in (I 44 3) 200 := by rw [hS.1]; exact vp_in_nI g (by decide)
      refine ⟨vn, vn, hv, ?_⟩
      rw [en, ek, up_a (f := I) (a := 46) (b := 44) (by decide), up_a (a := 49) (b := 44) (by decide), up_a (f := I) (a := 46) (b := 44) (by decide), up_s, hS.1, nI_1, nI_pred]
      have ep : put s c d = (s.1 + 1, ups s.2.1 s.1 c, ups s.2.2 s.1 d) := if_pos ⟨f2, g⟩
      have ee : eI s c = nI s.1 := by
        unfold eI
        rw [if_neg (by omega), if_pos g]
      rw [ep, ee] at h
      refine h _ _ (ups u k (s.1 + 1)) ⟨fun a j h1 h2 h3 => ?_, fun a j h1 => up_a h1⟩ ⟨up_s, fun j hj => ⟨?_, ?_⟩⟩ (fun j hj => ?_) ?_
      · by_cases ea : a = 44
        · rw [up_k (h1 ea), up_a h3, up_a h2]
        · rw [up_a ea, up_a h3, up_a h2]
      · show km_up L 45 s.1 _ 45 j = lN (ups s.2.1 s.1 c j)
        have hj' : j < s.1 + 1 := hj
        unfold ups
        by_cases e : j = s.1
        · rw [if_pos e, e, up_s]
        · rw [if_neg e, up_k e]
          exact (hS.2 j (by omega)).1
      · show km_up _ 44 3 _ 46 j = nI (ups s.2.2 s.1 d j)
        have hj' : j < s.1 + 1 := hj
        rw [up_a (by decide), up_a (by decide)]
        unfold ups
        by_cases e : j = s.1
        · rw [if_pos e, e, up_s]
        · rw [if_neg e, up_k e]
          exact (hS.2 j (by omega)).2
      · rw [up_a (by decide)]
        unfold ups
        by_cases e : j = k
        · rw [if_pos e, e, up_s]
          rfl
        · rw [if_neg e, up_k e, up_a (by decide)]
          exact hu j hj
      · rw [f4] at f1 ⊢
        exact tv_put ht f3 f1 f5
    · have ep : put s c d = s := if_neg fun z => absurd z.2 (by omega)
      have ee : eI s c = -2 := by
        unfold eI
        rw [if_neg (by omega), if_neg (by omega)]
      rw [ep, ee] at h
      exact h I L u ⟨fun _ _ _ _ _ => rfl, fun _ _ _ => rfl⟩ hS hu ht
  · rw [f1]
    refine ⟨fun g => absurd ((sI_m1 (by omega)).mp g) (by omega), fun _ => bF_enter_h_18 ⟨hv, ?_⟩⟩
    rw [ek, hu k hk, f1]
    have ep : put s c d = s := if_neg fun z => absurd z.1 (by omega)
    have ee : eI s c = nI (pl s c) := if_pos f2
    rw [ep, ee] at h
    exact h I L u ⟨fun _ _ _ _ _ => rfl, fun _ _ _ => rfl⟩ hS hu ht
theorem c_slot_a {s : sst} {u : Nat → Nat} {c : Nat} (hg : gk m s) (hS : cS I L 50 51 52 s) (hu : cU I 55 u) (ht : tv s u) (hc : c < 2 ^ 63) (h : ∀ k, k < 512 → sf s u c k → K (some (.int (nI k))) (I, L, kr q w r1 r2)) : kC sh kp 192 [.ref 50, .long (lN c)] (I, L, kr q w r1 r2) K := by
  have h200 := hg.1
  refine ⟨rfl, bF_slotOf_a_0 ?_⟩
  rw [hs_eq]
  have key := up0 (Pr := fun i => (∀ j, j < i → u ((hs c + j) % 512) ≠ 0 ∧ s.2.1 (u ((hs c + j) % 512) - 1) ≠ c) → kW sh kp 192 13 [some (.ref 50), some (.long (lN c)), none, some (.int (nI ((hs c + i) % 512))), some (.int (nI i))] [] (I, L, kr q w r1 r2) K) (e := 512) ?_ (fun i hi ih => ?_) (fun j hj => absurd hj (by omega))
  · have e0 : (hs c + 0) % 512 = hs c := by
      have := hs_lt c
      omega
    rw [e0] at key
    exact key
  · intro ha
    exact (not_full h200 ht (fun j hj => (ha j hj).1)).elim
  · intro ha
    have hk : (hs c + i) % 512 < 512 := Nat.mod_lt _ (by decide)
    have hn : (hs c + (i + 1)) % 512 = ((hs c + i) % 512 + 1) % 512 := by omega
    rw [hn] at ih
    generalize hkk : (hs c + i) % 512 = k at *
    have hv : vp_in (nI k) 512 := vp_in_nI hk (by decide)
    have eu : I 55 (nI k).toNatClampNeg = sI (u k) := by
      rw [nI_clamp (by omega)]
      exact hu k hk
    have hul := ht.1 k hk
    refine bF_slotOf_a_13 (pk_le 512 i (fun g => absurd g (by omega)) (fun _ => bF_slotOf_a_21 ⟨hv, ?_⟩))
    rw [eu]
    refine ⟨fun g => bF_slotOf_a_61 (h k hk ?_), fun g => bF_slotOf_a_31 ⟨hv, ?_⟩⟩
    · have g := (sI_m1 (by omega)).mp g
      rw [← hkk] at g ⊢
      exact sf_free ht hi ha g
    · have g : u k ≠ 0 := fun e => g ((sI_m1 (by omega)).mpr e)
      have e2 : sI (u k) = nI (u k - 1) := if_neg g
      rw [eu, e2, nI_clamp (by omega), (hS.2 (u k - 1) (by omega)).1]
      have hvc := (hg.2.1 (u k - 1) (by omega)).1
      have hll := vc_lt hvc
      refine ⟨vp_in_nI (by omega) (by decide), fun g2 => bF_slotOf_a_61 (h k hk ?_), fun g2 => bF_slotOf_a_47 ?_⟩
      · exact sf_hit hg ht hk g ((pk_lEQ (Nat.lt_trans hll (by decide)) hc).mp (lg0.mp g2))
      · rw [nI_1, nI_1, fa_lit 512, pk_rem (by omega) (by decide) (by decide)]
        refine ih fun j hj => ?_
        by_cases e : j = i
        · rw [e, hkk]
          exact ⟨g, fun z => g2 (lg0.mpr (by rw [z]))⟩
        · exact ha j (by omega)
theorem c_index_a {s : sst} {u : Nat → Nat} {c : Nat} (hg : gk m s) (hS : cS I L 50 51 52 s) (hu : cU I 55 u) (ht : tv s u) (hc : c < 2 ^ 63) (h : K (some (.int (pI s c))) (I, L, kr q w r1 r2)) : kC sh kp 193 [.ref 50, .long (lN c)] (I, L, kr q w r1 r2) K := by
  refine ⟨rfl, bF_indexOf_a_0 (c_slot_a hg hS hu ht hc fun k hk hf => bF_indexOf_a_9 ⟨rfl, vp_in_nI hk (by decide), ?_⟩)⟩
  rw [nI_clamp (by omega), hu k hk]
  have h200 := hg.1
  rcases hf with ⟨f1, f2, f3⟩ | ⟨f1, f2⟩
  · have e : pI s c = -1 := if_neg (by omega)
    rw [e] at h
    rw [f1]
    exact h
  · have e : pI s c = nI (pl s c) := if_pos f2
    rw [e] at h
    rw [f1]
    exact h
theorem c_enter_a {s : sst} {u : Nat → Nat} {c d : Nat} (hg : gk m s) (hS : cS I L 50 51 52 s) (hu : cU I 55 u) (ht : tv s u) (hc : c < 2 ^ 63) (h : ∀ I' L' u', fE 50 51 52 55 I L I' L' → cS I' L' 50 51 52 (put s c d) → cU I' 55 u' → tv (put s c d) u' → K (some (.int (eI s c))) (I', L', kr q w r1 r2)) : kC sh kp 191 [.ref 50, .long (lN c), .int (nI d)] (I, L, kr q w r1 r2) K := by
  have h200 := hg.1
  refine ⟨rfl, bF_enter_a_0 (c_slot_a hg hS hu ht hc fun k hk hf => ?_)⟩
  have hv : vp_in (nI k) 512 := vp_in_nI hk (by decide)
  have ek : (nI k).toNatClampNeg = k := nI_clamp (by omega)
  refine bF_enter_a_5 ⟨hv, ?_⟩
  rw [ek, hu k hk]
  rcases hf with ⟨f1, f2, n, f3, f4, f5⟩ | ⟨f1, f2⟩
  · rw [f1]
    refine ⟨fun _ => bF_enter_a_26 (pk_lt s.1 200 (fun g => bF_enter_a_39 ?_) (fun g => bF_enter_a_36 ?_) hS.1), fun g => absurd rfl g⟩
    · have en : (I 50 3).toNatClampNeg = s.1 := by rw [hS.1, nI_clamp (by omega)]
      have vn : vp_in (I 50 3) 200 := by rw [hS.1]; exact vp_in_nI g (by decide)
      refine ⟨vn, vn, hv, ?_⟩
      rw [en, ek, up_a (f := I) (a := 52) (b := 50) (by decide), up_a (a := 55) (b := 50) (by decide), up_a (f := I) (a := 52) (b := 50) (by decide), up_s, hS.1, nI_1, nI_pred]
      have ep : put s c d = (s.1 + 1, ups s.2.1 s.1 c, ups s.2.2 s.1 d) := if_pos ⟨f2, g⟩
      have ee : eI s c = nI s.1 := by
        unfold eI
        rw [if_neg (by omega), if_pos g]
      rw [ep, ee] at h
      refine h _ _ (ups u k (s.1 + 1)) ⟨fun a j h1 h2 h3 => ?_, fun a j h1 => up_a h1⟩ ⟨up_s, fun j hj => ⟨?_, ?_⟩⟩ (fun j hj => ?_) ?_
      · by_cases ea : a = 50
        · rw [up_k (h1 ea), up_a h3, up_a h2]
        · rw [up_a ea, up_a h3, up_a h2]
      · show km_up L 51 s.1 _ 51 j = lN (ups s.2.1 s.1 c j)
        have hj' : j < s.1 + 1 := hj
        unfold ups
        by_cases e : j = s.1
        · rw [if_pos e, e, up_s]
        · rw [if_neg e, up_k e]
          exact (hS.2 j (by omega)).1
      · show km_up _ 50 3 _ 52 j = nI (ups s.2.2 s.1 d j)
        have hj' : j < s.1 + 1 := hj
        rw [up_a (by decide), up_a (by decide)]
        unfold ups
        by_cases e : j = s.1
        · rw [if_pos e, e, up_s]
        · rw [if_neg e, up_k e]
          exact (hS.2 j (by omega)).2
      · rw [up_a (by decide)]
        unfold ups
        by_cases e : j = k
        · rw [if_pos e, e, up_s]
          rfl
        · rw [if_neg e, up_k e, up_a (by decide)]
          exact hu j hj
      · rw [f4] at f1 ⊢
        exact tv_put ht f3 f1 f5
    · have ep : put s c d = s := if_neg fun z => absurd z.2 (by omega)
      have ee : eI s c = -2 := by
        unfold eI
        rw [if_neg (by omega), if_neg (by omega)]
      rw [ep, ee] at h
      exact h I L u ⟨fun _ _ _ _ _ => rfl, fun _ _ _ => rfl⟩ hS hu ht
  · rw [f1]
    refine ⟨fun g => absurd ((sI_m1 (by omega)).mp g) (by omega), fun _ => bF_enter_a_18 ⟨hv, ?_⟩⟩
    rw [ek, hu k hk, f1]
    have ep : put s c d = s := if_neg fun z => absurd z.1 (by omega)
    have ee : eI s c = nI (pl s c) := if_pos f2
    rw [ep, ee] at h
    exact h I L u ⟨fun _ _ _ _ _ => rfl, fun _ _ _ => rfl⟩ hS hu ht
end CSEARCH
