/-! CALLS: guards -/
def grd (m : Nat → Nat) (S : Nat) : Bool := ! al (m 200) (fun g => ! Nat.beq (m (201 + g)) S)
/-- guards for the stuck sets that are not safe -/
def gfc (m : Nat → Nat) (S : Nat) : Bool := decide (m 200 < 5) && (Nat.beq (sm (hld m S) (mz m 2) 10) 0 && (! Nat.beq (sm S (hm m) 10) 0 && ! grd m S))
def gfd : List Nat → (Nat → Nat) → Nat → (Nat → Nat) × Nat
  | [], m, c => (m, c)
  | S :: l, m, c => cond (gfc m S) (gfd l (adg m S 1) (c + 1)) (gfd l m c)
theorem gfd_full : ∀ (l : List Nat) (m : Nat → Nat) (c : Nat), ¬ m 200 < 5 → gfd l m c = (m, c)
  | [], m, c, _ => rfl
  | S :: l, m, c, h => by
    have e : gfc m S = false := by
      unfold gfc
      rw [decide_eq_false h]
      rfl
    unfold gfd
    rw [e]
    exact gfd_full l m c h
theorem gfd_wf : ∀ (l : List Nat) (m : Nat → Nat) (c : Nat), wf m → (∀ S, S ∈ l → S < 1024) → wf (gfd l m c).1
  | [], m, c, h, _ => h
  | S :: l, m, c, h, hl => by
    unfold gfd
    cases e : gfc m S with
    | false => exact gfd_wf l m c h (fun T hT => hl T (List.mem_cons_of_mem _ hT))
    | true =>
      have g : m 200 < 5 := by
        unfold gfc at e
        rw [Bool.and_eq_true] at e
        exact of_decide_eq_true e.1
      exact gfd_wf l _ _ (wf_adg h g (hl S List.mem_cons_self) (by decide)) (fun T hT => hl T (List.mem_cons_of_mem _ hT))
def o_guards (s : ast) : Int32 × ast := (nI (gfd (sil s.1) s.1 0).2, a_ch s (gfd (sil s.1) s.1 0).1)
theorem sil_1024 {m : Nat → Nat} (hw : m 0 ≤ 10) : ∀ S, S ∈ sil m → S < 1024 := fun S hS => by
  have := p2_le hw
  have := (sil_mem.mp hS).2.1
  omega
theorem w_guards {s : ast} (h : sw s) : sw (o_guards s).2 := sw_ch h (gfd_wf _ _ _ h.1 (sil_1024 h.1.1.1))
theorem nEq_trans {a b c : Nat → Nat} (h : nEq a b) (h2 : nEq b c) : nEq a c := ⟨h2.1.trans h.1, h2.2.1.trans h.2.1, fun k h3 h4 => (h2.2.2 k h3 h4).trans (h.2.2 k h3 h4)⟩
theorem nEq_refl {a : Nat → Nat} : nEq a a := ⟨rfl, rfl, fun _ _ _ => rfl⟩
section GSET
variable {I : Nat → Nat → Int32} {L : Nat → Nat → Int64} {q r1 r2 : Nat → Nat} {w : Bool} {s : ast} {K : km_K} {m : Nat → Nat}
theorem c_isGuarded {S : Nat} (hw : wb m) (hR : cR I L 1 m) (hS : S < 1024) (h : K (some (.int (cond (grd m S) 1 0))) (I, L, kr q w r1 r2)) : kC sh kp 227 [.ref 1, .int (nI S)] (I, L, kr q w r1 r2) K := by
  have w2 := hw.2.2.1
  refine ⟨rfl, bS_isGuarded_0 (up0 (Pr := fun g => (∀ j, j < g → m (201 + j) ≠ S) → kW sh kp 227 2 [some (.ref 1), some (.int (nI S)), some (.int (nI g))] [] (I, L, kr q w r1 r2) K) (e := m 200) (fun z => ?_) (fun g hg ih z => ?_) (fun j hj => absurd hj (by omega)))⟩
  · have e : grd m S = false := by
      unfold grd
      rw [al_iff.mpr (fun g hg => ?_)]
      · rfl
      · cases e : Nat.beq (m (201 + g)) S with
        | false => rfl
        | true => exact absurd (Nat.eq_of_beq_eq_true e) (z g hg)
    rw [e] at h
    exact bS_isGuarded_2 (pk_le (m 200) (m 200) (fun _ => bS_isGuarded_28 h) (fun y => absurd y (by omega)) hR.2.2.1)
  · have b := (hw.2.2.2.2.2.2.2 g (by omega)).1
    refine bS_isGuarded_2 (pk_le (m 200) g (fun y => absurd y (by omega)) (fun _ => bS_isGuarded_10 ?_) hR.2.2.1)
    rw [nI_clamp (by omega), show I 5 g = nI (m (201 + g)) from (hR.2.2.2.2.2.2.2.2 g hg).1]
    refine ⟨vp_in_nI (by omega) (by decide), (pk_eq (m (201 + g)) S (fun y => bS_isGuarded_20 ?_) (fun y => bS_isGuarded_22 ?_)).symm⟩
    · have e : grd m S = true := by
        unfold grd
        rw [al_no.mpr ⟨g, hg, ?_⟩]
        · rfl
        · rw [beq_iff.mpr y]
          rfl
      rw [e] at h
      exact h
    · rw [nI_1]
      refine ih fun j hj => ?_
      by_cases e : j = g
      · rw [e]
        exact y
      · exact z j (by omega)
theorem m_isGuarded {S : Nat} (hw : wb m) (hn : nN I m) (hS : S < 1024) (h : K (some (.int (cond (grd m S) 1 0))) (I, L, kr q w r1 r2)) : kC sh kp 130 [.ref 71, .int (nI S)] (I, L, kr q w r1 r2) K := by
  have w2 := hw.2.2.1
  have eg : ∀ i, i ≤ m 200 → (! al i (fun g => ! Nat.beq (m (201 + g)) S)) = true ∨ (! al i (fun g => ! Nat.beq (m (201 + g)) S)) = false := fun i _ => by
    cases (! al i (fun g => ! Nat.beq (m (201 + g)) S)) with
    | true => exact Or.inl rfl
    | false => exact Or.inr rfl
  refine ⟨rfl, bM_isGuarded_0 (up0 (Pr := fun g => kW sh kp 130 4 [some (.ref 71), some (.int (nI S)), some (.int (cond (! al g (fun g => ! Nat.beq (m (201 + g)) S)) 1 0)), some (.int (nI g))] [] (I, L, kr q w r1 r2) K) (e := m 200) ?_ (fun g hg ih => ?_))⟩
  · refine bM_isGuarded_4 ⟨pk_in 200 212 (by decide), ?_⟩
    rw [cl200, hn 200 (by decide)]
    exact pk_le (m 200) (m 200) (fun _ => bM_isGuarded_46 ⟨cb01, h⟩) (fun y => absurd y (by omega))
  · have b := (hw.2.2.2.2.2.2.2 g (by omega)).1
    refine bM_isGuarded_4 ⟨pk_in 200 212 (by decide), ?_⟩
    rw [cl200, hn 200 (by decide)]
    rw [al_s, Bool.not_and, Bool.not_not] at ih
    refine pk_le (m 200) g (fun y => absurd y (by omega)) (fun _ => bM_isGuarded_16 (cb1 (fun e => bM_isGuarded_34 (bM_isGuarded_39 ?_)) (fun e => bM_isGuarded_20 ?_)))
    · rw [nI_1]
      rw [e] at ih
      exact ih
    · rw [e, Bool.false_or] at ih
      have ix := ix_p (c := 201) (p := g) (by omega)
      rw [fa_lit 201, ix.1, hn _ (by omega)]
      refine ⟨ix.2, (pk_eq (m (201 + g)) S (fun y => bM_isGuarded_34 (bM_isGuarded_39 ?_)) (fun y => bM_isGuarded_38 (bM_isGuarded_39 ?_))).symm⟩
      · rw [nI_1]
        rw [beq_iff.mpr y] at ih
        exact ih
      · rw [nI_1]
        have e2 : Nat.beq (m (201 + g)) S = false := by
          cases e2 : Nat.beq (m (201 + g)) S with
          | false => rfl
          | true => exact absurd (Nat.eq_of_beq_eq_true e2) y
        rw [e2] at ih
        exact ih
theorem sm0_b {n : Nat} : Nat.beq n 0 = decide (n ≤ 0) := by
  cases n with
  | zero => rfl
  | succ n => rfl
theorem beq_n {a b : Nat} (h : a ≠ b) : Nat.beq a b = false := by
  cases e : Nat.beq a b with
  | false => rfl
  | true => exact absurd (Nat.eq_of_beq_eq_true e) h
/-- the class goes through the stuck sets -/
theorem x_guards_loop {s0 : ast} (hs0 : sw s0) : ∀ k j c (m : Nat → Nat) I', j + k = (sil s0.1).length → wf m → nEq s0.1 m → cI I' L q w r1 r2 (m, (a_sv s0).2) → I' 0 5 = 0 → I' 0 9 = 1 → fM I L I' L → cT (nI (gfd ((sil s0.1).drop j) m c).2, a_ch s0 (gfd ((sil s0.1).drop j) m c).1) I L = K → kW sh kp 25 12 [some (.ref 0), some (.int (nI c)), some (.int (nI j)), none] [] (I', L, kr q w r1 r2) K
  | 0, j, c, m, I', hj, hw, hq, hc', h5, h9, hf, hK => by
    have an := (cI_an hc' h9).2
    have es : sil m = sil s0.1 := (nEq_sip hq hs0.1.1.1 hs0.1.1.2.1).2
    have w0 := hw.1.1
    have hl := sil_len w0
    rw [List.drop_eq_nil_of_le (by omega)] at hK
    rw [← hK]
    have e0 : I' 62 0 = nI (sil m).length := an.1
    rw [es] at e0 hl
    exact bX_guards_12 (pk_le (sil s0.1).length j (fun _ => bX_guards_95 (cP_mk hc' hf)) (fun y => absurd y (by omega)) e0)
  | k + 1, j, c, m, I', hj, hw, hq, hc', h5, h9, hf, hK => by
    have an := (cI_an hc' h9).2
    have es : sil m = sil s0.1 := (nEq_sip hq hs0.1.1.1 hs0.1.1.2.1).2
    have w0 := hw.1.1
    have w2 := hw.1.2.2.1
    have hl := sil_len w0
    have e0 : I' 62 0 = nI (sil m).length := an.1
    have A0 : aP0 I' m := anP_0 an
    have hR : cR I' L 1 m := hc'.1
    have hjl : j < (sil s0.1).length := by omega
    have hS : (sil s0.1).getD j 0 < 1024 := sil_1024 hs0.1.1.1 _ (getD_mem hjl)
    have e63 : I' 63 j = nI ((sil s0.1).getD j 0) := by
      rw [← es]
      exact an.2.1 j (by rw [es]; exact hjl)
    have ed : (sil s0.1).drop j = (sil s0.1).getD j 0 :: (sil s0.1).drop (j + 1) := by
      rw [List.drop_eq_getElem_cons hjl, List.getD_eq_getElem?_getD, List.getElem?_eq_getElem hjl]
      rfl
    rw [ed] at hK
    generalize (sil s0.1).getD j 0 = S at hS e63 hK
    rw [es] at e0 hl
    have hK' : cT (nI (cond (gfc m S) (gfd ((sil s0.1).drop (j + 1)) (adg m S 1) (c + 1)) (gfd ((sil s0.1).drop (j + 1)) m c)).2, a_ch s0 (cond (gfc m S) (gfd ((sil s0.1).drop (j + 1)) (adg m S 1) (c + 1)) (gfd ((sil s0.1).drop (j + 1)) m c)).1) I L = K := hK
    refine bX_guards_12 (pk_le (sil s0.1).length j (fun y => absurd y (by omega)) (fun _ => bX_guards_23 (pk_le 5 (m 200) (fun y => bX_guards_95 ?_) (fun y => bX_guards_34 ?_) rfl hR.2.2.1)) e0)
    · rw [gfd_full _ m c (by omega)] at hK
      rw [← hK]
      exact cP_mk hc' hf
    · rw [nI_clamp (by omega), e63]
      have pass : gfc m S = false → kW sh kp 25 89 [some (.ref 0), some (.int (nI c)), some (.int (nI j)), none] [] (I', L, kr q w r1 r2) K := fun e => bX_guards_89 (by
        rw [e] at hK'
        rw [nI_1]
        exact x_guards_loop hs0 k (j + 1) c m I' (by omega) hw hq hc' h5 h9 hf hK')
      have d5 : decide (m 200 < 5) = true := decide_eq_true y
      refine ⟨vp_in_nI (by omega) (by decide), c_isSafe hw.1 hR hS A0 (bX_guards_49 (cb1 (fun e => pass ?_) (fun e => bX_guards_52 ?_)))⟩
      · unfold gfc
        cases b : Nat.beq (sm (hld m S) (mz m 2) 10) 0 with
        | false => rw [Bool.false_and, Bool.and_false]
        | true => rw [b] at e; exact absurd e (by decide)
      · have eb : Nat.beq (sm (hld m S) (mz m 2) 10) 0 = true := by
          cases b : Nat.beq (sm (hld m S) (mz m 2) 10) 0 with
          | true => rfl
          | false => rw [b] at e; exact absurd e (by decide)
        have hmk := hm_mk hw.1
        have sb := sm_b (S := S) hmk
        refine c_home (m := m) hR hw.2.1 (bX_guards_59 (s_sumIn (fun p _ => by have := hmk.1 p; omega) (bX_guards_63 (pk_le (sm S (hm m) 10) 0 (fun y2 => pass ?_) (fun y2 => bX_guards_66 (c_isGuarded hw.1 hR hS (bX_guards_74 (cb1 (fun e3 => pass ?_) (fun e3 => bX_guards_77 ?_)))))))))
        · unfold gfc
          rw [show sm S (hm m) 10 = 0 by omega, show Nat.beq 0 0 = true from rfl, Bool.not_true, Bool.false_and, Bool.and_false, Bool.and_false]
        · unfold gfc
          rw [e3, Bool.not_true, Bool.and_false, Bool.and_false, Bool.and_false]
        · have eg : gfc m S = true := by
            unfold gfc
            rw [d5, eb, beq_n (show sm S (hm m) 10 ≠ 0 by omega), e3]
            rfl
          rw [eg] at hK'
          refine c_addGuard (m := m) (S := S) (v := 1) hR hw.1 y fun I2 f1 f2 _ => bX_guards_86 (bX_guards_89 ?_)
          rw [nI_1, nI_1]
          have hq2 := adg_nEq (m := m) (S := S) (v := 1) y
          have hA2 : cA I2 L w r1 r2 (adg m S 1) := cA_nEq hq2 w0 hw.1.2.1 (cA_fr hc'.2.2.2.2.2 (f1 0 9 (by omega)) (fun a k z1 z2 => f1 a k (by omega)) (fun _ _ _ _ => rfl))
          have hc2 : cI I2 L q w r1 r2 (adg m S 1, (a_sv s0).2) := cI_fr (s := (m, (a_sv s0).2)) (sw_sv hs0).2.1 hc' (fun a k _ _ z => f1 a k (by omega)) (fun _ _ _ _ => rfl) f2 (Or.inl ((f1 0 5 (by omega)).trans h5)) hA2
          exact x_guards_loop hs0 k (j + 1) (c + 1) (adg m S 1) I2 (by omega) (wf_adg hw y hS (by decide)) (nEq_trans hq hq2) hc2 ((f1 0 5 (by omega)).trans h5) ((f1 0 9 (by omega)).trans h9) (fM_trans hf ⟨fun a k z1 z2 => f1 a k (by omega), fun _ _ _ _ => rfl⟩) hK'
theorem x_guards (hAn : AN) (hs : sw s) (hc' : cI I L q w r1 r2 s) : kC sh kp 25 [.ref 0] (I, L, kr q w r1 r2) (cT (o_guards s) I L) := by
  refine ⟨rfl, bX_guards_0 (x_save hs hc' fun I1 L1 q1 j1 j2 j3 => bX_guards_4 (hAn _ _ _ _ _ _ _ _ (sw_sv hs) j1 fun I' L' w' r1' r2' g1 g2 g3 g4 => bX_guards_8 ?_))⟩
  have key := x_guards_loop (I := I') (L := L') (q := q1) (r1 := r1') (r2 := r2') (w := w') hs (sil s.1).length 0 0 s.1 I' (by omega) hs.1 nEq_refl g1 (g4.trans j2) g2 fM_refl rfl
  rw [List.drop_zero] at key
  refine kW_mono (fun v M h => ?_) key
  obtain ⟨I2, L2, q2, w2, a2, b2, e1, e2, e3, e4⟩ := h
  exact ⟨I2, L2, q2, w2, a2, b2, e1, e2, e3, fM_trans j3 (fM_trans g3 e4)⟩
theorem y_guards_loop {s0 : ast} (hs0 : sw s0) : ∀ k j c (m : Nat → Nat) I', j + k = (sil s0.1).length → wf m → nEq s0.1 m → mI I' (m, (a_sv s0).2) → rA I' s0.1 → I' 71 22 = nI (sil s0.1).length → lsI I' 86 (sil s0.1) → fX I L I' L → mT (nI (gfd ((sil s0.1).drop j) m c).2, a_ch s0 (gfd ((sil s0.1).drop j) m c).1) I L (kr q w r1 r2) = K → kW sh kp 131 12 [some (.ref 71), some (.int (nI c)), some (.int (nI j)), none] [] (I', L, kr q w r1 r2) K
  | 0, j, c, m, I', hj, hw, hq, hc', hA, h0, hL, hf, hK => by
    have hl := sil_len hs0.1.1.1
    rw [List.drop_eq_nil_of_le (by omega)] at hK
    rw [← hK]
    exact bM_guards_12 (pk_le (sil s0.1).length j (fun _ => bM_guards_88 (mP_mk hc' hf)) (fun y => absurd y (by omega)) h0)
  | k + 1, j, c, m, I', hj, hw, hq, hc', hA, h0, hL, hf, hK => by
    have w0 := hw.1.1
    have w2 := hw.1.2.2.1
    have hl := sil_len hs0.1.1.1
    have hjl : j < (sil s0.1).length := by omega
    have hS : (sil s0.1).getD j 0 < 1024 := sil_1024 hs0.1.1.1 _ (getD_mem hjl)
    have e86 : I' 86 j = nI ((sil s0.1).getD j 0) := hL j hjl
    have ed : (sil s0.1).drop j = (sil s0.1).getD j 0 :: (sil s0.1).drop (j + 1) := by
      rw [List.drop_eq_getElem_cons hjl, List.getD_eq_getElem?_getD, List.getElem?_eq_getElem hjl]
      rfl
    rw [ed] at hK
    generalize (sil s0.1).getD j 0 = S at hS e86 hK
    have n1 : nN I' m := hc'.1
    have e1 := (nEq_sip hq hs0.1.1.1 hs0.1.1.2.1).1
    have A' : rA I' m := fun t ht => by
      have ht' : t < s0.1 1 := by rw [← hq.2.1]; exact ht
      rw [(e1 t ht').1, (e1 t ht').2]
      exact hA t ht'
    have hK' : mT (nI (cond (gfc m S) (gfd ((sil s0.1).drop (j + 1)) (adg m S 1) (c + 1)) (gfd ((sil s0.1).drop (j + 1)) m c)).2, a_ch s0 (cond (gfc m S) (gfd ((sil s0.1).drop (j + 1)) (adg m S 1) (c + 1)) (gfd ((sil s0.1).drop (j + 1)) m c)).1) I L (kr q w r1 r2) = K := hK
    have pass : gfc m S = false → kW sh kp 131 82 [some (.ref 71), some (.int (nI c)), some (.int (nI j)), none] [] (I', L, kr q w r1 r2) K := fun e => bM_guards_82 (by
      rw [e] at hK'
      rw [nI_1]
      exact y_guards_loop hs0 k (j + 1) c m I' (by omega) hw hq hc' hA h0 hL hf hK')
    refine bM_guards_12 (pk_le (sil s0.1).length j (fun y => absurd y (by omega)) (fun _ => bM_guards_20 ?_) h0)
    rw [nI_clamp (by omega), e86, cl200, n1 200 (by decide)]
    refine ⟨vp_in_nI (by omega) (by decide), pk_in 200 212 (by decide), pk_le 5 (m 200) (fun y => pass ?_) (fun y => bM_guards_39 (m_isSafe hw.1 n1 hS A' (bM_guards_44 (cb1 (fun e => pass ?_) (fun e => bM_guards_47 ?_)))))⟩
    · unfold gfc
      rw [decide_eq_false (show ¬ m 200 < 5 by omega)]
      rfl
    · unfold gfc
      cases b : Nat.beq (sm (hld m S) (mz m 2) 10) 0 with
      | false => rw [Bool.false_and, Bool.and_false]
      | true => rw [b] at e; exact absurd e (by decide)
    · have eb : Nat.beq (sm (hld m S) (mz m 2) 10) 0 = true := by
        cases b : Nat.beq (sm (hld m S) (mz m 2) 10) 0 with
        | true => rfl
        | false => rw [b] at e; exact absurd e (by decide)
      have hmk := hm_mk hw.1
      have sb := sm_b (S := S) hmk
      refine m_tokensHome (f := hm m) n1 w0 hw.2.1 (fun p hp => ?_) hmk (bM_guards_55 ⟨rfl, m_together n1 w0 (by omega) hmk (bM_guards_59 (pk_le (sm S (hm m) 10) 0 (fun y2 => pass ?_) (fun y2 => bM_guards_62 (m_isGuarded hw.1 n1 hS (bM_guards_67 (cb1 (fun e3 => pass ?_) (fun e3 => bM_guards_70 ?_)))))))⟩)
      · unfold hm mz
        rw [if_pos hp, if_pos hp]
      · unfold gfc
        rw [show sm S (hm m) 10 = 0 by omega, show Nat.beq 0 0 = true from rfl, Bool.not_true, Bool.false_and, Bool.and_false, Bool.and_false]
      · unfold gfc
        rw [e3, Bool.not_true, Bool.and_false, Bool.and_false, Bool.and_false]
      · have eg : gfc m S = true := by
          unfold gfc
          rw [decide_eq_true y, eb, beq_n (show sm S (hm m) 10 ≠ 0 by omega), e3]
          rfl
        rw [eg] at hK'
        refine m_addsGuard (m := m) (S := S) (v := 1) n1 y fun I2 f1 f2 => bM_guards_79 (bM_guards_82 ?_)
        rw [nI_1, nI_1]
        have hq2 := adg_nEq (m := m) (S := S) (v := 1) y
        have hc2 : mI I2 (adg m S 1, (a_sv s0).2) := mI_fr (s := (m, (a_sv s0).2)) hc' (fun a k _ z => f1 a k (by omega)) f2
        exact y_guards_loop hs0 k (j + 1) (c + 1) (adg m S 1) I2 (by omega) (wf_adg hw y hS (by decide)) (nEq_trans hq hq2) hc2 (fun t ht => ⟨(f1 83 t (by decide)).trans (hA t ht).1, (f1 84 t (by decide)).trans (hA t ht).2⟩) ((f1 71 22 (by decide)).trans h0) (lsI_fr hL (fun k => f1 86 k (by decide))) (fX_trans hf ⟨fun a k z => f1 a k (by omega), fun _ _ _ => rfl⟩) hK'
theorem y_guards (hs : sw s) (hc' : mI I s) : kC sh kp 131 [.ref 71] (I, L, kr q w r1 r2) (mT (o_guards s) I L (kr q w r1 r2)) := by
  refine ⟨rfl, bM_guards_0 (mm_save hs hc' fun I1 j1 j2 => bM_guards_4 (m_layStucks j1.1 hs.1.1 fun I' g1 g2 g3 g4 => bM_guards_8 ?_))⟩
  have M1 := mI_Z (L := L) j1 g1
  have key := y_guards_loop (I := I) (L := L) (q := q) (r1 := r1) (r2 := r2) (w := w) hs (sil s.1).length 0 0 s.1 I' (by omega) hs.1 nEq_refl M1.1 g2 g3 g4 (fX_trans j2 M1.2) rfl
  rw [List.drop_zero] at key
  exact key
end GSET
