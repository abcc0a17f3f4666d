/-! A CHANGED NET SETTLES: no guards, nothing lost, the present as at the start -/
def sti (m : Nat → Nat) (i k : Nat) : Nat := if k = 200 then 0 else if 12 ≤ k ∧ k < 12 + i then 0 else if 22 ≤ k ∧ k < 22 + i then (if k - 22 < m 0 then m (k - 20) else 0) else m k
def stl (m : Nat → Nat) : Nat → Nat := sti m 10
theorem sti_o {m : Nat → Nat} {i k : Nat} (hi : i ≤ 10) (h : k < 12 ∨ (32 ≤ k ∧ k ≠ 200)) : sti m i k = m k := by
  unfold sti
  rw [if_neg (by omega), if_neg (by omega), if_neg (by omega)]
theorem sti_0 {m : Nat → Nat} : sti m 0 = ups m 200 0 := funext fun k => by
  unfold sti ups
  by_cases e : k = 200
  · rw [if_pos e, if_pos e]
  · rw [if_neg e, if_neg e, if_neg (by omega), if_neg (by omega)]
theorem sti_z {m : Nat → Nat} {i k : Nat} (h : k ≠ 200) (h2 : 12 ≤ k ∧ k < 12 + i) : sti m i k = 0 := by
  unfold sti
  rw [if_neg h, if_pos h2]
theorem sti_n {m : Nat → Nat} {i k : Nat} (h : k ≠ 200) (h2 : ¬ (12 ≤ k ∧ k < 12 + i)) (h3 : 22 ≤ k ∧ k < 22 + i) : sti m i k = if k - 22 < m 0 then m (k - 20) else 0 := by
  unfold sti
  rw [if_neg h, if_neg h2, if_pos h3]
theorem sti_e {m : Nat → Nat} {i k : Nat} (h : k ≠ 200) (h2 : ¬ (12 ≤ k ∧ k < 12 + i)) (h3 : ¬ (22 ≤ k ∧ k < 22 + i)) : sti m i k = m k := by
  unfold sti
  rw [if_neg h, if_neg h2, if_neg h3]
theorem sti_2 {m : Nat → Nat} {i : Nat} : sti m i 200 = 0 := if_pos rfl
theorem sti_s {m : Nat → Nat} {i : Nat} (hi : i < 10) : ups (ups (sti m i) (12 + i) 0) (22 + i) (if i < m 0 then m (2 + i) else 0) = sti m (i + 1) := funext fun k => by
  by_cases e1 : k = 22 + i
  · have a : ups (ups (sti m i) (12 + i) 0) (22 + i) (if i < m 0 then m (2 + i) else 0) k = if i < m 0 then m (2 + i) else 0 := if_pos e1
    rw [a, sti_n (i := i + 1) (by omega) (by omega) (by omega), show k - 22 = i by omega, show k - 20 = 2 + i by omega]
  · have a : ups (ups (sti m i) (12 + i) 0) (22 + i) (if i < m 0 then m (2 + i) else 0) k = ups (sti m i) (12 + i) 0 k := if_neg e1
    rw [a]
    by_cases e2 : k = 12 + i
    · have b : ups (sti m i) (12 + i) 0 k = 0 := if_pos e2
      rw [b, sti_z (i := i + 1) (by omega) (by omega)]
    · have b : ups (sti m i) (12 + i) 0 k = sti m i k := if_neg e2
      rw [b]
      by_cases c0 : k = 200
      · rw [c0, sti_2, sti_2]
      · by_cases c1 : 12 ≤ k ∧ k < 12 + i
        · rw [sti_z (i := i) c0 c1, sti_z (i := i + 1) c0 (by omega)]
        · by_cases c2 : 22 ≤ k ∧ k < 22 + i
          · rw [sti_n (i := i) c0 c1 c2, sti_n (i := i + 1) c0 (by omega) (by omega)]
          · rw [sti_e (i := i) c0 c1 c2, sti_e (i := i + 1) c0 (by omega) (by omega)]
theorem nN_up {I : Nat → Nat → Int32} {m : Nat → Nat} {k v : Nat} (h : nN I m) : nN (km_up I 72 k (nI v)) (ups m k v) := fun j hj => by
  unfold ups
  by_cases e : j = k
  · rw [e, up_s, if_pos rfl]
  · rw [up_k e, if_neg e]
    exact h j hj
/-- what a State holds of the net alone -/
def cR0 (I : Nat → Nat → Int32) (L : Nat → Nat → Int64) (m : Nat → Nat) : Prop := I 1 0 = nI (m 0) ∧ I 1 1 = nI (m 1) ∧ I 1 3 = nI (m 211) ∧ L 1 4 = lN (mp 32 (mz m 2) 10) ∧ ∀ t, t < m 1 → L 2 t = lN (mp 32 (mz m (40 + 10 * t)) 10) ∧ L 3 t = lN (mp 32 (mz m (120 + 10 * t)) 10) ∧ I 4 t = nI (m (32 + t))
theorem cR_0 {I : Nat → Nat → Int32} {L : Nat → Nat → Int64} {m : Nat → Nat} (h : cR I L 1 m) : cR0 I L m := ⟨h.1, h.2.1, h.2.2.2.1, h.2.2.2.2.1, h.2.2.2.2.2.2.2.1⟩
section SETTLE
variable {I : Nat → Nat → Int32} {L : Nat → Nat → Int64} {q r1 r2 : Nat → Nat} {w : Bool} {K : km_K} {m : Nat → Nat}
theorem m_settles (hn : nN I m) (hw : m 0 ≤ 10) (h : ∀ I', (∀ a k, a ≠ 72 → I' a k = I a k) → nN I' (stl m) → K none (I', L, kr q w r1 r2)) : kC sh kp 60 [.ref 72] (I, L, kr q w r1 r2) K := by
  refine ⟨rfl, bM_settles_n_0 ⟨pk_in 200 212 (by decide), ?_⟩⟩
  rw [cl200]
  refine up0 (Pr := fun i => ∀ I', (∀ a k, a ≠ 72 → I' a k = I a k) → nN I' (sti m i) → kW sh kp 60 8 [some (.ref 72), some (.int (nI i))] [] (I', L, kr q w r1 r2) K) (e := 10) ?_ (fun i hi ih => ?_) _ (fun a k ha => up_a ha) (by rw [sti_0]; exact nN_up hn)
  · intro I' f1 f2
    exact bM_settles_n_8 (pk_le 10 10 (fun _ => bM_settles_n_49 (h I' f1 f2)) (fun g => absurd g (by omega)))
  · intro I' f1 f2
    have e0 : I' 72 0 = nI (m 0) := by
      rw [f2 0 (by decide), sti_o (by omega) (by omega)]
    have e2 : I' 72 (2 + i) = nI (m (2 + i)) := by
      rw [f2 (2 + i) (by omega), sti_o (by omega) (by omega)]
    refine bM_settles_n_8 (pk_le 10 i (fun g => absurd g (by omega)) (fun _ => bM_settles_n_14 ⟨?_, pk_in 0 212 (by decide), ?_⟩))
    · rw [fa_lit 12, nI_add]
      exact vp_in_nI (by omega) (by decide)
    · rw [fa_lit 12, nI_add, nI_clamp (by omega), cl0, up_k (by omega), e0]
      have go : ∀ v : Nat, v = (if i < m 0 then m (2 + i) else 0) → kW sh kp 60 42 [some (.ref 72), some (.int (nI i))] [.int (nI v), .int (22 + nI i), .ref 72] (km_up I' 72 (12 + i) 0, L, kr q w r1 r2) K := fun v hv => bM_settles_n_42 ⟨rfl, by
        rw [fa_lit 22, nI_add]
        exact vp_in_nI (show 22 + i < 212 by omega) (by decide), by
        rw [fa_lit 22, nI_add, nI_clamp (by omega), nI_1]
        refine ih _ (fun a k ha => by rw [up_a ha, up_a ha]; exact f1 a k ha) ?_
        rw [← sti_s hi, ← hv]
        exact nN_up (nN_up (v := 0) f2)⟩
      refine pk_le (m 0) i (fun g => bM_settles_n_41 (go 0 (by rw [if_neg (by omega)]))) (fun g => bM_settles_n_33 ⟨?_, ?_⟩)
      · rw [fa_lit 2, nI_add]
        exact vp_in_nI (by omega) (by decide)
      · rw [fa_lit 2, nI_add, nI_clamp (by omega), up_k (by omega), e2]
        exact go _ (by rw [if_pos g])
theorem mz_stl {c : Nat} (hw : m 0 ≤ 10) (hc : c = 2 ∨ (40 ≤ c ∧ c ≤ 190)) : mz (stl m) c = mz m c := funext fun p => by
  have e0 : stl m 0 = m 0 := sti_o (by omega) (by omega)
  unfold mz
  rw [e0]
  by_cases g : p < m 0
  · rw [if_pos g, if_pos g]
    exact sti_o (by omega) (by omega)
  · rw [if_neg g, if_neg g]
theorem mz_stl12 (hw : m 0 ≤ 10) : mz (stl m) 12 = fun _ => 0 := funext fun p => by
  have e0 : stl m 0 = m 0 := sti_o (by omega) (by omega)
  unfold mz
  rw [e0]
  by_cases g : p < m 0
  · rw [if_pos g]
    unfold stl sti
    rw [if_neg (by omega), if_pos (by omega)]
  · rw [if_neg g]
theorem mz_stl22 (hw : m 0 ≤ 10) : mz (stl m) 22 = mz m 2 := funext fun p => by
  have e0 : stl m 0 = m 0 := sti_o (by omega) (by omega)
  unfold mz
  rw [e0]
  by_cases g : p < m 0
  · rw [if_pos g, if_pos g]
    unfold stl sti
    rw [if_neg (by omega), if_neg (by omega), if_pos (by omega), if_pos (by omega), show 22 + p - 20 = 2 + p by omega]
  · rw [if_neg g, if_neg g]
theorem c_renew (hR : cR0 I L m) (hw : m 0 ≤ 10) (hs : m 1 ≤ 8) (h : ∀ I' L', (∀ a k, (a = 1 → k ≠ 2) → (a = 0 → k ≠ 5 ∧ k ≠ 9) → I' a k = I a k) → (∀ a k, a ≠ 1 → L' a k = L a k) → I' 0 5 = 0 → I' 0 9 = 0 → cR I' L' 1 (stl m) → K none (I', L', kr q w r1 r2)) : kC sh kp 46 [.ref 0] (I, L, kr q w r1 r2) K := by
  obtain ⟨a1, a2, a4, a5, a8⟩ := hR
  refine ⟨rfl, bX_renew_0 ⟨rfl, bS_renewRun_0 (bX_renew_7 ⟨rfl, bX_forget_0 (bX_renew_11 (h _ _ (fun a k z1 z2 => ?_) (fun a k z1 => ?_) ?_ up_s ?_))⟩)⟩⟩
  · by_cases ea : a = 0
    · rw [up_k (z2 ea).2, up_k (z2 ea).1, up_a (by omega)]
    · rw [up_a ea, up_a ea]
      by_cases eb : a = 1
      · rw [up_k (z1 eb)]
      · rw [up_a eb]
  · rw [up_a z1, up_a z1]
  · rw [up_k (by decide), up_s]
  · have e : ∀ k, (k < 12 ∨ (32 ≤ k ∧ k ≠ 200)) → stl m k = m k := fun k hk => sti_o (by omega) hk
    have e200 : stl m 200 = 0 := by
      unfold stl sti
      rw [if_pos rfl]
    refine ⟨?_, ?_, ?_, ?_, ?_, ?_, ?_, fun t ht => ⟨?_, ?_, ?_⟩, fun g hg => ?_⟩
    · rw [up_a (by decide), up_a (by decide), up_k (by decide), e 0 (by omega)]
      exact a1
    · rw [up_a (by decide), up_a (by decide), up_k (by decide), e 1 (by omega)]
      exact a2
    · rw [up_a (by decide), up_a (by decide), up_s, e200]
      rfl
    · rw [up_a (by decide), up_a (by decide), up_k (by decide), e 211 (by omega)]
      exact a4
    · rw [up_k (by decide), up_k (by decide), mz_stl hw (Or.inl rfl)]
      exact a5
    · rw [up_k (by decide), up_s, mz_stl12 hw, mp_zero]
      rfl
    · rw [up_s, up_k (by decide), mz_stl22 hw]
      exact a5
    · rw [e 1 (by omega)] at ht
      rw [up_a (by decide), up_a (by decide), mz_stl hw (Or.inr (by omega))]
      exact (a8 t ht).1
    · rw [e 1 (by omega)] at ht
      rw [up_a (by decide), up_a (by decide), mz_stl hw (Or.inr (by omega))]
      exact (a8 t ht).2.1
    · rw [e 1 (by omega)] at ht
      rw [up_a (by decide), up_a (by decide), up_a (by decide), e (32 + t) (by omega)]
      exact (a8 t ht).2.2
    · rw [e200] at hg
      exact absurd hg (by omega)
/-- a place more -/
def adp (m : Nat → Nat) (v : Nat) : Nat → Nat := ups (ups m (2 + m 0) v) 0 (m 0 + 1)
theorem adp_o {v k : Nat} (h : k ≠ 0) (h2 : k ≠ 2 + m 0) : adp m v k = m k := by
  unfold adp ups
  rw [if_neg h, if_neg h2]
theorem m_adds {v : Nat} (hn : nN I m) (hw : m 0 < 10) (h : ∀ I', (∀ a k, a ≠ 72 → I' a k = I a k) → nN I' (adp m v) → K (some (.int (nI (m 0)))) (I', L, kr q w r1 r2)) : kC sh kp 61 [.ref 72, .int (nI v)] (I, L, kr q w r1 r2) K := by
  have v0 : vp_in (0 : Int32) 212 := pk_in 0 212 (by decide)
  have e0 : I 72 0 = nI (m 0) := hn 0 (by decide)
  have e2 : (2 + nI (m 0)).toNatClampNeg = 2 + m 0 := by rw [fa_lit 2, nI_add, nI_clamp (by omega)]
  refine ⟨rfl, bM_adds_n_0 ?_⟩
  rw [cl0, e0, e2, up_s, up_k (by omega), e0, nI_1, nI_pred]
  refine ⟨v0, ?_, v0, v0, v0, h _ (fun a k ha => by rw [up_a ha, up_a ha]) (nN_up (nN_up hn))⟩
  rw [fa_lit 2, nI_add]
  exact vp_in_nI (by omega) (by decide)
theorem c_addPlace {v : Nat} (hR : cR0 I L m) (hw : wb m) (hp : m 0 < 10) (hv : v < 32) (hz : ∀ t, t < m 1 → m (40 + 10 * t + m 0) = 0 ∧ m (120 + 10 * t + m 0) = 0) (h : ∀ I' L', (∀ a k, (a = 1 → k ≠ 0) → I' a k = I a k) → (∀ a k, (a = 1 → k ≠ 4) → L' a k = L a k) → cR0 I' L' (adp m v) → K none (I', L', kr q w r1 r2)) : kC sh kp 216 [.ref 1, .int (nI v)] (I, L, kr q w r1 r2) K := by
  obtain ⟨a1, a2, a4, a5, a8⟩ := hR
  have w1 := hw.2.1
  have e0 : adp m v 0 = m 0 + 1 := by
    unfold adp ups
    rw [if_pos rfl]
  have hb : ∀ i, i < 10 → mz m 2 i < 32 := fun i _ => by
    have := mz_le (m := m) (c := 2) (b := 15) hw.1 (fun p hp => (hw.2.2.2.2.1 p hp).1) i
    omega
  refine ⟨rfl, bS_addPlace_0 (pk_le 10 (m 0) (fun g => absurd g (by omega)) (fun _ => bS_addPlace_9 ?_) rfl a1)⟩
  rw [a5, a1]
  refine s_with hp hv hb (bS_addPlace_22 (bS_addPlace_35 ?_))
  rw [a1, nI_1]
  have ez : ∀ c, 40 ≤ c → c ≤ 190 → m (c + m 0) = 0 → mz (adp m v) c = mz m c := fun c h1 h2 h3 => funext fun p => by
    unfold mz
    rw [e0]
    by_cases g : p < m 0
    · rw [if_pos g, if_pos (by omega)]
      exact adp_o (by omega) (by omega)
    · rw [if_neg g]
      by_cases g2 : p = m 0
      · rw [if_pos (by omega), adp_o (by omega) (by omega), g2]
        exact h3
      · rw [if_neg (by omega)]
  refine h _ _ (fun a k z => ?_) (fun a k z => ?_) ⟨?_, ?_, ?_, ?_, fun t ht => ?_⟩
  · by_cases e : a = 1
    · exact up_k (z e)
    · exact up_a e
  · by_cases e : a = 1
    · exact up_k (z e)
    · exact up_a e
  · rw [up_s, e0]
  · rw [up_k (by decide), adp_o (by decide) (by omega)]
    exact a2
  · rw [up_k (by decide), adp_o (by decide) (by omega)]
    exact a4
  · rw [up_s]
    refine congrArg lN (mp_congr 10 fun p hp => ?_)
    show (if p = m 0 then v else mz m 2 p) = mz (adp m v) 2 p
    unfold mz
    rw [e0]
    by_cases g : p = m 0
    · rw [if_pos g, if_pos (by omega), g]
      unfold adp ups
      rw [if_neg (by omega), if_pos rfl]
    · rw [if_neg g]
      by_cases g2 : p < m 0
      · rw [if_pos g2, if_pos (by omega), adp_o (by omega) (by omega)]
      · rw [if_neg g2, if_neg (by omega)]
  · rw [adp_o (by decide) (by omega)] at ht
    have z := hz t ht
    rw [ez _ (by omega) (by omega) z.1, ez _ (by omega) (by omega) z.2, up_a (by decide), up_a (by decide), up_a (by decide), adp_o (by omega) (by omega)]
    exact a8 t ht
end SETTLE
