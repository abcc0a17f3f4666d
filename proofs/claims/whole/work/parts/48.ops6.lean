/-! CALLS: guard, drop, back -/
def o_back (s : ast) : Int32 × ast := if s.2.1 = 0 then a_no s else (nI (s.2.1 - 1), (s.2.2.1 (s.2.1 - 1), s.2.1 - 1, s.2.2))
theorem w_back {s : ast} (h : sw s) : sw (o_back s).2 := by
  unfold o_back
  split
  · exact h
  · have := h.2.1
    exact ⟨h.2.2.1 _ (by omega), (show s.2.1 - 1 ≤ 5 by omega), fun i hi => h.2.2.1 i (by have hi : i < s.2.1 - 1 := hi; omega), h.2.2.2⟩
theorem drp_0 {m : Nat → Nat} {g : Nat} : drp m g 0 = ups m 200 (m 200 - 1) := funext fun k => by
  unfold drp ups
  by_cases e : k = 200
  · rw [if_pos e, if_pos e]
  · rw [if_neg e, if_neg e, if_neg (by omega), if_neg (by omega)]
theorem drp_k {m : Nat → Nat} {g j k : Nat} (h : 200 < k) (h2 : ¬ (201 + g ≤ k ∧ k < 201 + g + j)) (h3 : ¬ (206 + g ≤ k ∧ k < 206 + g + j)) : drp m g j k = m k := by
  unfold drp
  rw [if_neg (by omega), if_neg h2, if_neg h3]
theorem drp_s {m : Nat → Nat} {g j : Nat} (h : g + j + 1 ≤ 4) : ups (ups (drp m g j) (201 + g + j) (m (201 + g + j + 1))) (206 + g + j) (m (206 + g + j + 1)) = drp m g (j + 1) := funext fun k => by
  by_cases e1 : k = 206 + g + j
  · rw [e1, ups_s]
    unfold drp
    rw [if_neg (by omega), if_neg (by omega), if_pos (by omega)]
  · rw [ups_o e1]
    by_cases e2 : k = 201 + g + j
    · rw [e2, ups_s]
      unfold drp
      rw [if_neg (by omega), if_pos (by omega)]
    · rw [ups_o e2]
      unfold drp
      by_cases c0 : k = 200
      · rw [if_pos c0, if_pos c0]
      · rw [if_neg c0, if_neg c0]
        by_cases c1 : 201 + g ≤ k ∧ k < 201 + g + j
        · rw [if_pos c1, if_pos (by omega)]
        · have c1' : ¬ (201 + g ≤ k ∧ k < 201 + g + (j + 1)) := by omega
          rw [if_neg c1, if_neg c1']
          by_cases c2 : 206 + g ≤ k ∧ k < 206 + g + j
          · rw [if_pos c2, if_pos (by omega)]
          · rw [if_neg c2, if_neg (by omega)]
section OPS6
variable {I : Nat → Nat → Int32} {L : Nat → Nat → Int64} {q r1 r2 : Nat → Nat} {w : Bool} {s : ast} {K : km_K} {m : Nat → Nat}
theorem adg_o {S v k : Nat} (h : k < 200 ∨ 211 ≤ k) (hg : m 200 < 5) : adg m S v k = m k := by
  unfold adg
  rw [ups_o (by omega), ups_o (by omega), ups_o (by omega)]
theorem adg_mz {S v c : Nat} (hw : m 0 ≤ 10) (hg : m 200 < 5) (h : c ≤ 190) : mz (adg m S v) c = mz m c := funext fun p => by
  unfold mz
  rw [adg_o (by omega) hg]
  by_cases z : p < m 0
  · rw [if_pos z, if_pos z, adg_o (by omega) hg]
  · rw [if_neg z, if_neg z]
theorem adg_nEq {S v : Nat} (hg : m 200 < 5) : nEq m (adg m S v) := ⟨adg_o (by omega) hg, adg_o (by omega) hg, fun k h1 h2 => adg_o (by omega) hg⟩
theorem c_addGuard {S v : Nat} (hR : cR I L 1 m) (hw : wb m) (hg : m 200 < 5) (h : ∀ I', (∀ a k, (a < 1 ∨ 6 < a) → I' a k = I a k) → cR I' L 1 (adg m S v) → I' 1 2 = nI (m 200 + 1) → K none (I', L, kr q w r1 r2)) : kC sh kp 225 [.ref 1, .int (nI S), .int (nI v)] (I, L, kr q w r1 r2) K := by
  have w0 := hw.1
  have w1 := hw.2.1
  obtain ⟨a1, a2, a3, a4, a5, a6, a7, a8, a9⟩ := hR
  refine ⟨rfl, bS_addGuard_0 (pk_le 5 (m 200) (fun z => absurd z (by omega)) (fun _ => bS_addGuard_8 ?_) rfl a3)⟩
  rw [a3, nI_clamp (by omega), up_a (show (1 : Nat) ≠ 5 by decide), a3, nI_clamp (by omega), up_a (show (1 : Nat) ≠ 6 by decide), up_a (show (1 : Nat) ≠ 5 by decide), a3, nI_1]
  have e200 : adg m S v 200 = m 200 + 1 := ups_s
  refine ⟨vp_in_nI hg (by decide), vp_in_nI hg (by decide), bS_addGuard_38 (h _ (fun a k z => by rw [up_a (by omega), up_a (by omega), up_a (by omega)]) ⟨?_, ?_, ?_, ?_, ?_, ?_, ?_, fun t ht => ?_, fun g hg' => ⟨?_, ?_⟩⟩ up_s)⟩
  · rw [up_k (by decide), up_a (by decide), up_a (by decide), adg_o (by omega) hg]; exact a1
  · rw [up_k (by decide), up_a (by decide), up_a (by decide), adg_o (by omega) hg]; exact a2
  · rw [up_s, e200]
  · rw [up_k (by decide), up_a (by decide), up_a (by decide), adg_o (by omega) hg]; exact a4
  · rw [adg_mz w0 hg (by omega)]; exact a5
  · rw [adg_mz w0 hg (by omega)]; exact a6
  · rw [adg_mz w0 hg (by omega)]; exact a7
  · rw [adg_o (by omega) hg] at ht
    rw [adg_mz w0 hg (by omega), adg_mz w0 hg (by omega), up_a (by decide), up_a (by decide), up_a (by decide), adg_o (by omega) hg]
    exact a8 t ht
  · rw [e200] at hg'
    rw [up_a (by decide), up_a (by decide)]
    unfold adg
    rw [ups_o (by omega), ups_o (by omega)]
    by_cases e : g = m 200
    · rw [e, up_s, ups_s]
    · rw [up_k e, ups_o (by omega)]
      exact (a9 g (by omega)).1
  · rw [e200] at hg'
    rw [up_a (by decide)]
    unfold adg
    rw [ups_o (by omega)]
    by_cases e : g = m 200
    · rw [e, up_s, ups_s]
    · rw [up_k e, ups_o (by omega), up_a (by decide), ups_o (by omega)]
      exact (a9 g (by omega)).2
theorem cl200' : (200 : Int32).toNatClampNeg = 200 := cl200
theorem m_addsGuard {S v : Nat} (hn : nN I m) (hg : m 200 < 5) (h : ∀ I', (∀ a k, a ≠ 72 → I' a k = I a k) → nN I' (adg m S v) → K none (I', L, kr q w r1 r2)) : kC sh kp 128 [.ref 72, .int (nI S), .int (nI v)] (I, L, kr q w r1 r2) K := by
  have e0 : I 72 200 = nI (m 200) := hn 200 (by decide)
  have i1 := ix_p (c := 201) (p := m 200) (by omega)
  have i2 := ix_p (c := 206) (p := m 200) (by omega)
  refine ⟨rfl, bM_addsGuard_n_0 ?_⟩
  rw [cl200, e0, fa_lit 201, i1.1, up_k (show 200 ≠ 201 + m 200 by omega), e0, fa_lit 206, i2.1, up_k (show 200 ≠ 206 + m 200 by omega), up_k (show 200 ≠ 201 + m 200 by omega), e0, nI_1]
  exact ⟨pk_in 200 212 (by decide), i1.2, pk_in 200 212 (by decide), i2.2, pk_in 200 212 (by decide), pk_in 200 212 (by decide), h _ (fun a k z => by rw [up_a z, up_a z, up_a z]) (nN_up (nN_up (nN_up hn)))⟩
theorem x_guard {x y : Int32} (hs : sw s) (hc' : cI I L q w r1 r2 s) : kC sh kp 24 [.ref 0, .int x, .int y] (I, L, kr q w r1 r2) (cT (o_guard x y s) I L) := by
  have w0 := hs.1.1.1
  have w2 := hs.1.1.2.2.1
  have p2 := p2_le w0
  have bad : (okr x 1 ((2 ^ s.1 0 - 1 : Nat) : Int) && okr y 1 9) = false → kW sh kp 24 18 [some (.ref 0), none, none] [] (I, L, kr q w r1 r2) (cT (o_guard x y s) I L) := fun e => bX_guard_18 (x_bad hs hc' fun I' g1 g2 => bX_guard_24 (by
    unfold o_guard
    rw [e]
    exact cP_mk g1 g2))
  refine ⟨rfl, bX_guard_0 (x_isSet w0 hc'.1 (bX_guard_5 (cb0 (fun e1 => bX_guard_8 (c_in (a := 1) (b := 9) rfl rfl (bX_guard_15 (cb1 (fun e2 => bX_guard_25 (c_home hc'.1 hs.1.2.1 (bX_guard_32 ?_))) (fun e2 => bad (by rw [e1, e2]; rfl)))))) (fun e1 => bad (by rw [e1]; rfl)))))⟩
  unfold o_guard
  rw [e1, e2, Bool.and_self, cond_true]
  obtain ⟨S, rfl, hSt', b1, b2⟩ := okr_e e1 (by decide)
  obtain ⟨v, rfl, hv, b3, b4⟩ := okr_e e2 (by decide)
  rw [hSt', hv]
  have hmk := hm_mk hs.1.1
  have sb := sm_b (S := S) hmk
  refine s_sumIn (fun p _ => by have := hmk.1 p; omega) (bX_guard_36 (pk_le v (sm S (hm s.1) 10) (fun z => bX_guard_47 ?_) (fun z => bX_guard_40 (x_no hs hc' fun I' g1 g2 => bX_guard_46 ?_))))
  · rw [if_neg (by omega)]
    refine pk_lt (s.1 200) 5 (fun z2 => bX_guard_65 ?_) (fun z2 => bX_guard_58 (x_full hs hc' fun I' g1 g2 => bX_guard_64 ?_)) hc'.1.2.2.1
    · rw [if_pos z2]
      refine x_save hs hc' fun I1 L1 q1 j1 j2 j3 => bX_guard_69 (c_addGuard (m := s.1) j1.1 hs.1.1 z2 fun I2 f1 f2 f3 => bX_guard_78 ?_)
      rw [f3, nI_pred]
      exact cP_mk (cI_sm (sw_sv hs) j1 j2 f1 (fun _ _ _ => rfl) f2 (adg_nEq z2)) (fM_trans j3 (fM_s f1 (fun _ _ _ => rfl)))
    · rw [if_neg (by omega)]
      exact cP_mk g1 g2
  · rw [if_pos z]
    exact cP_mk g1 g2
theorem y_guard {x y : Int32} (hs : sw s) (hc' : mI I s) : kC sh kp 129 [.ref 71, .int x, .int y] (I, L, kr q w r1 r2) (mT (o_guard x y s) I L (kr q w r1 r2)) := by
  have w0 := hs.1.1.1
  have w2 := hs.1.1.2.2.1
  have p2 := p2_le w0
  have bad : (okr x 1 ((2 ^ s.1 0 - 1 : Nat) : Int) && okr y 1 9) = false → kW sh kp 129 22 [some (.ref 71), none, none] [] (I, L, kr q w r1 r2) (mT (o_guard x y s) I L (kr q w r1 r2)) := fun e => bM_guard_22 (mm_bad hc' fun I' g1 g2 => bM_guard_26 (by
    unfold o_guard
    rw [e]
    exact mP_mk g1 g2))
  refine ⟨rfl, bM_guard_0 (m_placesSet hc'.1 w0 (bM_guard_6 (mm_in (a := 1) (b := ((2 ^ s.1 0 - 1 : Nat) : Int)) rfl (nI_toInt (by omega)) (bM_guard_9 (cb0 (fun e1 => bM_guard_12 (mm_in (a := 1) (b := 9) rfl rfl (bM_guard_19 (cb1 (fun e2 => bM_guard_27 ?_) (fun e2 => bad (by rw [e1, e2]; rfl)))))) (fun e1 => bad (by rw [e1]; rfl)))))))⟩
  unfold o_guard
  rw [e1, e2, Bool.and_self, cond_true]
  obtain ⟨S, rfl, hSt', b1, b2⟩ := okr_e e1 (by decide)
  obtain ⟨v, rfl, hv, b3, b4⟩ := okr_e e2 (by decide)
  rw [hSt', hv]
  have hmk := hm_mk hs.1.1
  have sb := sm_b (S := S) hmk
  have e200 : I 72 (200 : Int32).toNatClampNeg = nI (s.1 200) := by
    rw [cl200]
    exact hc'.1 200 (by decide)
  refine m_tokensHome (f := hm s.1) hc'.1 w0 hs.1.2.1 (fun p hp => ?_) hmk (bM_guard_35 ⟨rfl, m_together hc'.1 w0 (by omega) hmk (bM_guard_39 (pk_le v (sm S (hm s.1) 10) (fun z => bM_guard_48 ⟨pk_in 200 212 (by decide), ?_⟩) (fun z => bM_guard_43 (mm_no hc' fun I' g1 g2 => bM_guard_47 ?_))))⟩)
  · unfold hm mz
    rw [if_pos hp, if_pos hp]
  · rw [if_neg (by omega)]
    refine (pk_eq (s.1 200) 5 (fun z2 => bM_guard_60 (mm_full hc' fun I' g1 g2 => bM_guard_64 ?_)) (fun z2 => bM_guard_65 ?_) e200).symm
    · rw [if_neg (by omega)]
      exact mP_mk g1 g2
    · rw [if_pos (by omega)]
      refine mm_save hs hc' fun I1 j1 j2 => bM_guard_69 (m_addsGuard (m := s.1) j1.1 (by omega) fun I2 f1 f2 => bM_guard_78 ⟨pk_in 200 212 (by decide), ?_⟩)
      rw [cl200, f2 200 (by decide), show adg s.1 S v 200 = s.1 200 + 1 from ups_s, nI_pred]
      exact mP_mk (mI_fr j1 (fun a k _ z => f1 a k (by omega)) f2) (fX_trans j2 ⟨fun a k z => f1 a k (by omega), fun _ _ _ => rfl⟩)
  · rw [if_pos z]
    exact mP_mk g1 g2
theorem drp_mz {g j c : Nat} (hw : m 0 ≤ 10) (hg : g + j ≤ 4) (h : c ≤ 190) : mz (drp m g j) c = mz m c := funext fun p => by
  unfold mz
  rw [drp_o (by omega) hg]
  by_cases z : p < m 0
  · rw [if_pos z, if_pos z, drp_o (by omega) hg]
  · rw [if_neg z, if_neg z]
theorem drp_nEq {g j : Nat} (hg : g + j ≤ 4) : nEq m (drp m g j) := ⟨drp_o (by omega) hg, drp_o (by omega) hg, fun k h1 h2 => drp_o (by omega) hg⟩
theorem c_removeGuard {g : Nat} (hR : cR I L 1 m) (hw : wb m) (hg : g < m 200) (h : ∀ I', (∀ a k, (a < 1 ∨ 6 < a) → I' a k = I a k) → cR I' L 1 (drp m g (m 200 - 1 - g)) → I' 1 2 = nI (m 200 - 1) → K none (I', L, kr q w r1 r2)) : kC sh kp 226 [.ref 1, .int (nI g)] (I, L, kr q w r1 r2) K := by
  have w0 := hw.1
  have w1 := hw.2.1
  have w2 := hw.2.2.1
  obtain ⟨a1, a2, a3, a4, a5, a6, a7, a8, a9⟩ := hR
  refine ⟨rfl, bS_removeGuard_0 ?_⟩
  rw [nI_1]
  refine up0 (Pr := fun j => ∀ I', (∀ a k, a ≠ 5 → a ≠ 6 → I' a k = I a k) → (∀ k, k < m 200 → I' 5 k = nI (drp m g j (201 + k)) ∧ I' 6 k = nI (drp m g j (206 + k))) → kW sh kp 226 4 [some (.ref 1), none, some (.int (nI (g + 1 + j)))] [] (I', L, kr q w r1 r2) K) (e := m 200 - 1 - g) ?_ (fun j hj ih => ?_) I (fun _ _ _ _ => rfl) (fun k hk => ?_)
  · intro I' f1 f2
    have e12 : I' 1 2 = nI (m 200) := (f1 1 2 (by decide) (by decide)).trans a3
    refine bS_removeGuard_4 (pk_le (m 200) (g + 1 + (m 200 - 1 - g)) (fun _ => bS_removeGuard_46 ?_) (fun z => absurd z (by omega)) e12)
    rw [e12, show nI (m 200) - 1 = nI (m 200 - 1) from pk_sub (b := 1) (by omega)]
    have e200 : drp m g (m 200 - 1 - g) 200 = m 200 - 1 := if_pos rfl
    have hgj : g + (m 200 - 1 - g) ≤ 4 := by omega
    refine h _ (fun a k z => by rw [up_a (by omega)]; exact f1 a k (by omega) (by omega)) ⟨?_, ?_, ?_, ?_, ?_, ?_, ?_, fun t ht => ?_, fun k hk => ?_⟩ up_s
    · rw [up_k (by decide), f1 _ _ (by decide) (by decide), drp_o (by omega) hgj]; exact a1
    · rw [up_k (by decide), f1 _ _ (by decide) (by decide), drp_o (by omega) hgj]; exact a2
    · rw [up_s, e200]
    · rw [up_k (by decide), f1 _ _ (by decide) (by decide), drp_o (by omega) hgj]; exact a4
    · rw [drp_mz w0 hgj (by omega)]; exact a5
    · rw [drp_mz w0 hgj (by omega)]; exact a6
    · rw [drp_mz w0 hgj (by omega)]; exact a7
    · rw [drp_o (by omega) hgj] at ht
      rw [drp_mz w0 hgj (by omega), drp_mz w0 hgj (by omega), up_a (by decide), f1 _ _ (by decide) (by decide), drp_o (by omega) hgj]
      exact a8 t ht
    · rw [e200] at hk
      rw [up_a (by decide), up_a (by decide)]
      exact f2 k (by omega)
  · intro I' f1 f2
    have e12 : I' 1 2 = nI (m 200) := (f1 1 2 (by decide) (by decide)).trans a3
    have x1 := f2 (g + 1 + j) (by omega)
    have d1 : drp m g j (201 + (g + 1 + j)) = m (201 + g + j + 1) := by
      rw [drp_k (by omega) (by omega) (by omega)]
      congr 1
      omega
    have d2 : drp m g j (206 + (g + 1 + j)) = m (206 + g + j + 1) := by
      rw [drp_k (by omega) (by omega) (by omega)]
      congr 1
      omega
    have em : nI (g + 1 + j) - 1 = nI (g + j) := (pk_sub (b := 1) (by omega)).trans (by congr 1; omega)
    refine bS_removeGuard_4 (pk_le (m 200) (g + 1 + j) (fun z => absurd z (by omega)) (fun _ => bS_removeGuard_12 ?_) e12)
    rw [em, nI_clamp (by omega), nI_clamp (by omega), nI_1, x1.1, d1, up_a (show (6 : Nat) ≠ 5 by decide), x1.2, d2]
    refine ⟨vp_in_nI (by omega) (by decide), vp_in_nI (by omega) (by decide), vp_in_nI (by omega) (by decide), vp_in_nI (by omega) (by decide), ih _ (fun a k z1 z2 => by rw [up_a z2, up_a z1]; exact f1 a k z1 z2) (fun k hk => ?_)⟩
    rw [← drp_s (by omega)]
    refine ⟨?_, ?_⟩
    · rw [up_a (by decide), ups_o (by omega)]
      by_cases e : k = g + j
      · rw [e, up_s, show 201 + (g + j) = 201 + g + j by omega, ups_s]
      · rw [up_k e, ups_o (by omega)]
        exact (f2 k hk).1
    · by_cases e : k = g + j
      · rw [e, up_s, show 206 + (g + j) = 206 + g + j by omega, ups_s]
      · rw [up_k e, up_a (by decide), ups_o (by omega), ups_o (by omega)]
        exact (f2 k hk).2
  · rw [drp_k (by omega) (by omega) (by omega), drp_k (by omega) (by omega) (by omega)]
    exact a9 k hk
theorem x_drop {x : Int32} (hs : sw s) (hc' : cI I L q w r1 r2 s) : kC sh kp 26 [.ref 0, .int x] (I, L, kr q w r1 r2) (cT (o_drop x s) I L) := by
  have w2 := hs.1.1.2.2.1
  refine ⟨rfl, bX_drop_0 (x_isGuard w2 hc'.1 (bX_drop_5 (cb1 (fun e => bX_drop_15 ?_) (fun e => bX_drop_8 (x_bad hs hc' fun I' g1 g2 => bX_drop_14 ?_)))))⟩
  · unfold o_drop
    rw [e, cond_true]
    obtain ⟨g, rfl, hgt, b1, b2⟩ := okr_e e (by decide)
    rw [hgt]
    refine x_save hs hc' fun I1 L1 q1 j1 j2 j3 => bX_drop_19 (c_removeGuard (m := s.1) j1.1 hs.1.1 (by omega) fun I2 f1 f2 f3 => bX_drop_27 ?_)
    rw [f3]
    exact cP_mk (cI_sm (sw_sv hs) j1 j2 f1 (fun _ _ _ => rfl) f2 (drp_nEq (by omega))) (fM_trans j3 (fM_s f1 (fun _ _ _ => rfl)))
  · unfold o_drop
    rw [e]
    exact cP_mk g1 g2
theorem y_drop {x : Int32} (hs : sw s) (hc' : mI I s) : kC sh kp 132 [.ref 71, .int x] (I, L, kr q w r1 r2) (mT (o_drop x s) I L (kr q w r1 r2)) := by
  have w2 := hs.1.1.2.2.1
  refine ⟨rfl, bM_drop_0 ⟨pk_in 200 212 (by decide), mm_in (a := 0) (b := (s.1 200 : Int) - 1) rfl (by rw [cl200, hc'.1 200 (by decide)]; exact nIm (by omega)) (bM_drop_15 (cb1 (fun e => bM_drop_23 ?_) (fun e => bM_drop_18 (mm_bad hc' fun I' g1 g2 => bM_drop_22 ?_))))⟩⟩
  · unfold o_drop
    rw [e, cond_true]
    obtain ⟨g, rfl, hgt, b1, b2⟩ := okr_e e (by decide)
    rw [hgt]
    refine mm_save hs hc' fun I1 j1 j2 => bM_drop_27 ⟨pk_in 200 212 (by decide), pk_in 200 212 (by decide), ?_⟩
    have n1 : nN I1 s.1 := j1.1
    rw [cl200, n1 200 (by decide), show nI (s.1 200) - 1 = nI (s.1 200 - 1) from pk_sub (b := 1) (by omega)]
    refine up0 (Pr := fun j => ∀ I', (∀ a k, a ≠ 72 → I' a k = I1 a k) → nN I' (drp s.1 g j) → kW sh kp 132 41 [some (.ref 71), none, some (.int (nI (g + j)))] [] (I', L, kr q w r1 r2) (mT (nI (s.1 200 - 1), a_ch s (drp s.1 g (s.1 200 - 1 - g))) I L (kr q w r1 r2))) (e := s.1 200 - 1 - g) ?_ (fun j hj ih => ?_) _ (fun a k z => up_a z) (by rw [drp_0]; exact nN_up n1)
    · intro I' f1 f2
      have e2 : I' 72 (200 : Int32).toNatClampNeg = nI (s.1 200 - 1) := by
        rw [cl200, f2 200 (by decide)]
        rfl
      refine bM_drop_41 ⟨pk_in 200 212 (by decide), pk_le (s.1 200 - 1) (g + (s.1 200 - 1 - g)) (fun _ => bM_drop_103 ⟨pk_in 200 212 (by decide), ?_⟩) (fun z => absurd z (by omega)) e2⟩
      rw [e2]
      exact mP_mk (mI_fr j1 (fun a k _ z => f1 a k (by omega)) f2) (fX_trans j2 ⟨fun a k z => f1 a k (by omega), fun _ _ _ => rfl⟩)
    · intro I' f1 f2
      have e2 : I' 72 (200 : Int32).toNatClampNeg = nI (s.1 200 - 1) := by
        rw [cl200, f2 200 (by decide)]
        rfl
      have i1 := ix_p (c := 201) (p := g + j) (by omega)
      have i2 := ix_p (c := 206) (p := g + j) (by omega)
      have k1 : nI 201 + nI (g + j) + 1 = nI (201 + g + j + 1) := by
        rw [nI_add, nI_1]
        congr 1
        omega
      have k2 : nI 206 + nI (g + j) + 1 = nI (206 + g + j + 1) := by
        rw [nI_add, nI_1]
        congr 1
        omega
      refine bM_drop_41 ⟨pk_in 200 212 (by decide), pk_le (s.1 200 - 1) (g + j) (fun z => absurd z (by omega)) (fun _ => bM_drop_53 ?_) e2⟩
      rw [fa_lit 201, fa_lit 206, k1, k2, i1.1, i2.1, nI_clamp (by omega), nI_clamp (by omega), f2 _ (by omega), drp_k (by omega) (by omega) (by omega), up_k (show 206 + g + j + 1 ≠ 201 + (g + j) by omega), f2 _ (by omega), drp_k (by omega) (by omega) (by omega), nI_1]
      refine ⟨vp_in_nI (by omega) (by decide), i1.2, vp_in_nI (by omega) (by decide), i2.2, ih _ (fun a k z => by rw [up_a z, up_a z]; exact f1 a k z) ?_⟩
      rw [← drp_s (by omega), show 201 + (g + j) = 201 + g + j by omega, show 206 + (g + j) = 206 + g + j by omega]
      exact nN_up (nN_up f2)
  · unfold o_drop
    rw [e]
    exact mP_mk g1 g2
theorem x_back (hs : sw s) (hc' : cI I L q w r1 r2 s) : kC sh kp 34 [.ref 0] (I, L, kr q w r1 r2) (cT (o_back s) I L) := by
  have h5 := hs.2.1
  have hq := hc'.2.1.1
  have e3 : I 0 3 = nI s.2.1 := hc'.2.1.2.1
  unfold o_back
  refine ⟨rfl, bX_back_0 (pk_eq s.2.1 0 (fun z => bX_back_7 (x_no hs hc' fun I' g1 g2 => bX_back_13 ?_)) (fun z => bX_back_14 ?_) e3).symm⟩
  · rw [if_pos z]
    exact cP_mk g1 g2
  · rw [if_neg z, e3, show nI s.2.1 - 1 = nI (s.2.1 - 1) from pk_sub (b := 1) (by omega), up_s, nI_clamp (by omega)]
    show vp_in (nI (s.2.1 - 1)) 5 ∧ kC sh kp 211 [.ref 1, .ref (q (s.2.1 - 1))] _ _
    have hk := hq.1 (s.2.1 - 1) (by omega)
    have hb := kq_b (i := s.2.1 - 1) hq (by omega)
    have hwm := hs.2.2.1 (s.2.1 - 1) (by omega)
    refine ⟨vp_in_nI (by omega) (by decide), c_copy (m := s.2.2.1 (s.2.1 - 1)) (Or.inl rfl) (kp_st hk) (by omega) hwm.1.2.1 hwm.1.2.2.1 hwm.1.2.2.2.1 (cR_fr (fun a k z1 z2 => up_a (by omega)) (fun _ _ _ _ => rfl) (hc'.2.1.2.2 (s.2.1 - 1) (by omega))) fun I' L' f1 f2 f3 => bX_back_40 ⟨rfl, bX_forget_0 (bX_back_44 ?_)⟩⟩
    obtain ⟨a1, ⟨a2, a3, a4⟩, a5, a8, a10, a11⟩ := hc'
    have fr : ∀ a k, (a < 1 ∨ 6 < a) → (a = 0 → k ≠ 3 ∧ k ≠ 5 ∧ k ≠ 9) → km_up (km_up I' 0 5 0) 0 9 0 a k = I a k := fun a k z1 z2 => by
      by_cases e : a = 0
      · rw [up_k (z2 e).2.2, up_k (z2 e).2.1, f1 a k (by omega), up_k (z2 e).1]
      · rw [up_a e, up_a e, f1 a k (by omega), up_a e]
    have ek : km_up (km_up I' 0 5 0) 0 9 0 0 3 = nI (s.2.1 - 1) := by
      rw [up_k (by decide), up_k (by decide), f1 0 3 (by omega), up_s]
    rw [ek]
    refine cP_mk ⟨cR_fr (fun a k z1 z2 => by rw [up_a (by omega), up_a (by omega)]) (fun _ _ _ _ => rfl) f3, ⟨a2, ek, fun i hi => ?_⟩, ⟨(fr 0 12 (by omega) (fun _ => by decide)).trans a5.1, (fr 0 13 (by omega) (fun _ => by decide)).trans a5.2.1, (fr 0 14 (by omega) (fun _ => by decide)).trans a5.2.2⟩, ⟨(fr 67 1 (by omega) (fun e => absurd e (by decide))).trans a8.1, fun i hi => (fr 68 i (by omega) (fun e => absurd e (by decide))).trans (a8.2 i hi)⟩, Or.inl (by rw [up_k (by decide), up_s]), ⟨a11.1, Or.inl up_s⟩⟩ ⟨fun a k z1 z2 => fr a k (by omega) (fun e => absurd e (by omega)), fun a k z1 z2 => f2 a k (by omega)⟩
    have hi : i < s.2.1 - 1 := hi
    have b := kq_b (i := i) a2 (by omega)
    exact cR_fr (fun a k z1 z2 => fr a k (by omega) (fun e => absurd e (by omega))) (fun a k z1 z2 => f2 a k (by omega)) (a4 i (by omega))
theorem y_back (hs : sw s) (hc' : mI I s) : kC sh kp 155 [.ref 71] (I, L, kr q w r1 r2) (mT (o_back s) I L (kr q w r1 r2)) := by
  have h5 := hs.2.1
  obtain ⟨a1, ⟨a, a2, a3, a4, a5⟩, a6, a9, a10⟩ := hc'
  unfold o_back
  refine ⟨rfl, bM_back_0 (pk_eq s.2.1 0 (fun z => bM_back_7 (mm_no ⟨a1, ⟨a, a2, a3, a4, a5⟩, a6, a9, a10⟩ fun I' g1 g2 => bM_back_11 ?_)) (fun z => bM_back_12 ?_) a4).symm⟩
  · rw [if_pos z]
    exact mP_mk g1 g2
  · rw [if_neg z, a3, up_k (show (2 : Nat) ≠ 3 by decide), a4, show nI s.2.1 - 1 = nI (s.2.1 - 1) from pk_sub (b := 1) (by omega), fa_lit 5, nI_add, show nI (a + 5) - 1 = nI (a + 4) from nI_pred (a + 4), pk_rem (by omega) (by decide) (by decide)]
    have hm : (a + 4) % 5 < 5 := Nat.mod_lt _ (by decide)
    have rot5 : ∀ i, i < s.2.1 → (a + 5 - s.2.1 + i) % 5 = ((a + 4) % 5 + 5 - (s.2.1 - 1) + i) % 5 := fun i hi => by omega
    have last : (a + 5 - s.2.1 + (s.2.1 - 1)) % 5 = (a + 4) % 5 := by omega
    refine up0 (Pr := fun i => ∀ I', (∀ b k, b ≠ 72 → (b = 71 → k ≠ 2 ∧ k ≠ 3) → I' b k = I b k) → I' 71 3 = nI ((a + 4) % 5) → I' 71 2 = nI (s.2.1 - 1) → (∀ k, k < i → I' 72 k = nI (s.2.2.1 (s.2.1 - 1) k)) → kW sh kp 155 38 [some (.ref 71), some (.int (nI i))] [] (I', L, kr q w r1 r2) (mT (nI (s.2.1 - 1), (s.2.2.1 (s.2.1 - 1), s.2.1 - 1, s.2.2)) I L (kr q w r1 r2))) (e := 212) ?_ (fun i hi ih => ?_) _ (fun b k z1 z2 => ?_) (by rw [up_k (by decide), up_s]) up_s (fun k hk => absurd hk (by omega))
    · intro I' f1 f2 f3 f4
      refine bM_back_38 (pk_le 212 212 (fun _ => bM_back_72 ?_) (fun z => absurd z (by omega)))
      rw [f3]
      refine mP_mk ⟨f4, ⟨(a + 4) % 5, hm, f2, f3, fun i hi k hk => ?_⟩, ⟨(f1 71 4 (by decide) (fun _ => by decide)).trans a6.1, (f1 71 5 (by decide) (fun _ => by decide)).trans a6.2.1, (f1 71 6 (by decide) (fun _ => by decide)).trans a6.2.2⟩, (f1 71 25 (by decide) (fun _ => by decide)).trans a9, fun i hi => (f1 88 i (by decide) (fun e => absurd e (by decide))).trans (a10 i hi)⟩ ⟨fun b k z => f1 b k (by omega) (fun e => absurd e (by omega)), fun _ _ _ => rfl⟩
      have hi : i < s.2.1 - 1 := hi
      show I' 73 (212 * (((a + 4) % 5 + 5 - (s.2.1 - 1) + i) % 5) + k) = _
      rw [← rot5 i (by omega), f1 73 _ (by decide) (fun e => absurd e (by decide))]
      exact a5 i (by omega) k hk
    · intro I' f1 f2 f3 f4
      refine bM_back_38 (pk_le 212 i (fun z => absurd z (by omega)) (fun _ => bM_back_45 ?_))
      have e73 : I' 73 (212 * ((a + 4) % 5) + i) = nI (s.2.2.1 (s.2.1 - 1) i) := by
        rw [f1 73 _ (by decide) (fun e => absurd e (by decide)), ← last]
        exact a5 (s.2.1 - 1) (by omega) i hi
      rw [f2, fa_lit 212, pk_mul, nI_add, nI_clamp (by omega), nI_clamp (by omega), e73, nI_1]
      refine ⟨vp_in_nI (by omega) (by decide), vp_in_nI (by omega) (by decide), ih _ (fun b k z1 z2 => by rw [up_a z1]; exact f1 b k z1 z2) (by rw [up_a (by decide)]; exact f2) (by rw [up_a (by decide)]; exact f3) (fun k hk => ?_)⟩
      by_cases e : k = i
      · rw [e, up_s]
      · rw [up_k e]
        exact f4 k (by omega)
    · by_cases e : b = 71
      · rw [up_k (z2 e).1, up_k (z2 e).2]
      · rw [up_a e, up_a e]
end OPS6
