/-! THE REFERENCE'S SEARCH, its readers -/
theorem bI_5 : bI 5 = -1 := rfl
theorem sg_eq {s : sst} {S j : Nat} : sg s S j = sm S (dg (s.2.1 j)) 10 := rfl
section MREAD
variable {I : Nat → Nat → Int32} {L : Nat → Nat → Int64} {q r1 r2 : Nat → Nat} {w : Bool} {K : km_K} {m : Nat → Nat}
theorem m_canAt {s : sst} {k : Nat} (hn : nN I m) (hw : wb m) (hS : mS I L s) (hg : gk m s) (hk : k < s.1) (h : K (some (.int (nI (abl m 5 (s.2.1 k))))) (I, L, kr q w r1 r2)) : kC sh kp 136 [.ref 71, .int (nI k)] (I, L, kr q w r1 r2) K := by
  have h200 := hg.1
  have w1 := hw.2.1
  have e1 : I 72 (1 : Int32).toNatClampNeg = nI (m 1) := by
    rw [cl1]
    exact hn 1 (by decide)
  have hv := (hg.2.1 k hk).1
  refine ⟨rfl, bM_canAt_0 (up0 (Pr := fun t => kW sh kp 136 4 [some (.ref 71), some (.int (nI k)), some (.int (nI (bs (fun t => decide (why m (dg (s.2.1 k)) t 5 = 0)) t))), some (.int (nI t))] [] (I, L, kr q w r1 r2) K) (e := m 1) ?_ fun t ht ih => ?_)⟩
  · exact bM_canAt_4 ⟨pk_in 1 212 (by decide), pk_le (m 1) (m 1) (fun _ => bM_canAt_45 h) (fun g => absurd g (by omega)) e1⟩
  · refine bM_canAt_4 ⟨pk_in 1 212 (by decide), pk_le (m 1) t (fun g => absurd g (by omega)) (fun _ => bM_canAt_14 ⟨vp_in_nI (by omega) (by decide), ?_⟩) e1⟩
    rw [nI_clamp (by omega), (hS.2 k hk).1]
    refine m_why (b := 5) hn hw (by omega) (by decide) hv.1 (bM_canAt_27 ⟨fun g => bM_canAt_36 (bM_canAt_37 ?_), fun g => bM_canAt_30 (bM_canAt_37 ?_)⟩)
    · have g : ¬ why m (dg (s.2.1 k)) t 5 = 0 := fun z => g (by rw [z]; rfl)
      rw [nI_1, fa_lit 0, fa_or, Nat.or_zero]
      have e : bs (fun t => decide (why m (dg (s.2.1 k)) t 5 = 0)) (t + 1) = bs (fun t => decide (why m (dg (s.2.1 k)) t 5 = 0)) t := by
        show _ ||| cond (decide _) _ _ = _
        rw [decide_eq_false g]
        exact Nat.or_zero _
      rw [e] at ih
      exact ih
    · have hy : why m (dg (s.2.1 k)) t 5 = 0 := by
        have := why_lt (m := m) (f := dg (s.2.1 k)) (t := t) (b := 5)
        have g : nI (why m (dg (s.2.1 k)) t 5) = nI 0 := g
        exact (nI_eq (by omega) (by decide)).mp g
      rw [nI_1, sh1 t (by omega), fa_or]
      have e : bs (fun t => decide (why m (dg (s.2.1 k)) t 5 = 0)) (t + 1) = bs (fun t => decide (why m (dg (s.2.1 k)) t 5 = 0)) t ||| 2 ^ t := by
        show _ ||| cond (decide _) _ _ = _
        rw [decide_eq_true hy]
        rfl
      rw [e] at ih
      exact ih
/-- tokens at home as a code -/
def hc (m : Nat → Nat) : Nat := mp 32 (hm m) 10
theorem hm_mk (hw : wb m) : mk m (hm m) := ⟨fun p => by
    have := mz_le (m := m) (c := 2) (b := 15) hw.1 (fun p hp => (hw.2.2.2.2.1 p hp).1) p
    unfold hm
    omega, fun p hp => by
    unfold hm mz
    rw [if_neg (by omega)]
    exact Nat.zero_sub _⟩
theorem hc_vc (hw : wb m) : vc m (hc m) := vc_mp hw.1 (hm_mk hw)
theorem m_home (hn : nN I m) (hw : wb m) (hl : ∀ p, p < m 0 → m (12 + p) ≤ m (2 + p)) (h : K (some (.long (lN (c16 (hc m))))) (I, L, kr q w r1 r2)) : kC sh kp 78 [.ref 72] (I, L, kr q w r1 r2) K := by
  refine m_tokensHome (f := hm m) hn hw.1 hl (fun p hp => ?_) (hm_mk hw) ?_
  · unfold hm mz
    rw [if_pos hp, if_pos hp]
  · unfold c16 hc at h
    rw [dg_mp hw.1 (hm_mk hw)] at h
    exact h
theorem m_searchesHome (hn : nN I m) (hw : wb m) (hl : ∀ p, p < m 0 → m (12 + p) ≤ m (2 + p)) (h : ∀ I' L', nN I' m → fS I L I' L' → mS I' L' (sr m 5 (hc m)) → K none (I', L', kr q w r1 r2)) : kC sh kp 87 [.ref 71] (I, L, kr q w r1 r2) K :=
  ⟨rfl, bM_searchesHome_0 (m_home hn hw hl (bM_searchesHome_8 ⟨rfl, m_searches (b := 5) hn hw (by decide) (hc_vc hw) fun I' L' h1 h2 h3 => bM_searchesHome_12 (h I' L' h1 h2 h3)⟩))⟩
theorem sr_gl {b c : Nat} (hw : m 0 ≤ 10) (h : vc m c) : gl m (sr m b c) := ou_gl hw h 200
theorem m_fewest {S : Nat} (hn : nN I m) (hw : wb m) (hl : ∀ p, p < m 0 → m (12 + p) ≤ m (2 + p)) (hS : S < 2 ^ 31) (h : ∀ I' L', nN I' m → fS I L I' L' → mS I' L' (sr m 5 (hc m)) → K (some (.int (nI (mn (sg (sr m 5 (hc m)) S) ((sr m 5 (hc m)).1 - 1))))) (I', L', kr q w r1 r2)) : kC sh kp 125 [.ref 71, .int (nI S)] (I, L, kr q w r1 r2) K := by
  refine ⟨rfl, bM_fewest_0 (m_searchesHome hn hw hl fun I' L' g1 g2 g3 => bM_fewest_4 ⟨pk_in 0 200 (by decide), ?_⟩)⟩
  have h := h I' L' g1 g2 g3
  have hgl := sr_gl (b := 5) hw.1 (hc_vc hw)
  generalize sr m 5 (hc m) = s at h hgl g3
  have h1 := hgl.1
  have h200 := hgl.2.1
  rw [cl0, (g3.2 0 h1).1]
  refine m_together g1 hw.1 hS (hgl.2.2.1 0 h1).1.1 (bM_fewest_15 ?_)
  refine up0 (Pr := fun i => kW sh kp 125 18 [some (.ref 71), some (.int (nI S)), some (.int (nI (mn (sg s S) i))), some (.int (nI (i + 1))), none] [] (I', L', kr q w r1 r2) K) (e := s.1 - 1) ?_ fun i hi ih => ?_
  · exact bM_fewest_18 (pk_le s.1 (s.1 - 1 + 1) (fun _ => bM_fewest_58 h) (fun g => absurd g (by omega)) g3.1)
  · refine bM_fewest_18 (pk_le s.1 (i + 1) (fun g => absurd g (by omega)) (fun _ => bM_fewest_26 ⟨vp_in_nI (by omega) (by decide), ?_⟩) g3.1)
    rw [nI_clamp (by omega), (g3.2 (i + 1) (by omega)).1]
    have b1 := mn_le2 (g := sg s S) (b := 150) i (fun j hj => sg_le hgl.2 (by omega))
    have b2 : sm S (dg (s.2.1 (i + 1))) 10 ≤ 150 := sg_le hgl.2 (by omega)
    refine m_together g1 hw.1 hS (hgl.2.2.1 (i + 1) (by omega)).1.1 (bM_fewest_37 (pk_le (mn (sg s S) i) (sm S (dg (s.2.1 (i + 1))) 10) (fun g => bM_fewest_50 (bM_fewest_51 ?_)) (fun g => bM_fewest_45 (bM_fewest_51 ?_))))
    · rw [nI_1]
      have e : mn (sg s S) (i + 1) = mn (sg s S) i := if_neg (by rw [sg_eq]; omega)
      rw [e] at ih
      exact ih
    · rw [nI_1]
      have e : mn (sg s S) (i + 1) = sm S (dg (s.2.1 (i + 1))) 10 := if_pos (by rw [sg_eq]; omega)
      rw [e] at ih
      exact ih
theorem m_isClosed {s : sst} (hn : nN I m) (hw : wb m) (hS : mS I L s) (hg : gl m s) (h1 : (∀ k, k < s.1 → ∀ t, t < m 1 → outs m 5 s k t = false) → K (some (.int 1)) (I, L, kr q w r1 r2)) (h0 : (∃ k, k < s.1 ∧ ∃ t, t < m 1 ∧ outs m 5 s k t = true) → K (some (.int 0)) (I, L, kr q w r1 r2)) : kC sh kp 137 [.ref 71] (I, L, kr q w r1 r2) K := by
  have h200 := hg.2.1
  have w1 := hw.2.1
  have e1 : I 72 (1 : Int32).toNatClampNeg = nI (m 1) := by
    rw [cl1]
    exact hn 1 (by decide)
  refine ⟨rfl, bM_isClosed_0 ?_⟩
  refine up0 (Pr := fun i => ∀ x : Int32, ((x = 1 ∧ ∀ k, k < i → ∀ t, t < m 1 → outs m 5 s k t = false) ∨ (x = 0 ∧ ∃ k, k < s.1 ∧ ∃ t, t < m 1 ∧ outs m 5 s k t = true)) → kW sh kp 137 4 [some (.ref 71), some (.int x), some (.int (nI i)), none] [] (I, L, kr q w r1 r2) K) (e := s.1) ?_ (fun i hi ih => ?_) 1 (Or.inl ⟨rfl, fun k hk => absurd hk (by omega)⟩)
  · intro x hx
    refine bM_isClosed_4 (pk_le s.1 s.1 (fun _ => bM_isClosed_80 ?_) (fun g => absurd g (by omega)) hS.1)
    rcases hx with ⟨e, ha⟩ | ⟨e, ha⟩
    · rw [e]
      exact ⟨Or.inr rfl, h1 ha⟩
    · rw [e]
      exact ⟨Or.inl rfl, h0 ha⟩
  · intro x hx
    have hv := (hg.2.2.1 i hi).1
    have vi : vp_in (nI i) 200 := vp_in_nI (by omega) (by decide)
    have ei : L 74 (nI i).toNatClampNeg = lN (c16 (s.2.1 i)) := by
      rw [nI_clamp (by omega)]
      exact (hS.2 i hi).1
    refine bM_isClosed_4 (pk_le s.1 i (fun g => absurd g (by omega)) (fun _ => bM_isClosed_12 ?_) hS.1)
    refine up0 (Pr := fun t => ∀ x : Int32, ((x = 1 ∧ (∀ k, k < i → ∀ t, t < m 1 → outs m 5 s k t = false) ∧ ∀ t', t' < t → outs m 5 s i t' = false) ∨ (x = 0 ∧ ∃ k, k < s.1 ∧ ∃ t, t < m 1 ∧ outs m 5 s k t = true)) → kW sh kp 137 14 [some (.ref 71), some (.int x), some (.int (nI i)), some (.int (nI t))] [] (I, L, kr q w r1 r2) K) (e := m 1) ?_ (fun t ht ih2 => ?_) x ?_
    · intro y hy
      refine bM_isClosed_14 ⟨pk_in 1 212 (by decide), pk_le (m 1) (m 1) (fun _ => bM_isClosed_74 ?_) (fun g => absurd g (by omega)) e1⟩
      rw [nI_1]
      refine ih y ?_
      rcases hy with ⟨e, ha, hb⟩ | hy
      · refine Or.inl ⟨e, fun k hk => ?_⟩
        by_cases z : k = i
        · rw [z]; exact hb
        · exact ha k (by omega)
      · exact Or.inr hy
    · intro y hy
      refine bM_isClosed_14 ⟨pk_in 1 212 (by decide), pk_le (m 1) t (fun g => absurd g (by omega)) (fun _ => bM_isClosed_24 ⟨fun g => bM_isClosed_66 (bM_isClosed_67 ?_), fun g => bM_isClosed_28 ⟨vi, ?_⟩⟩) e1⟩
      · rw [nI_1]
        refine ih2 0 (Or.inr ⟨rfl, ?_⟩)
        rcases hy with ⟨e, ha, hb⟩ | ⟨e, ha⟩
        · rw [e] at g
          exact absurd g (by decide)
        · exact ha
      · rw [ei]
        have hy1 : (∀ k, k < i → ∀ t, t < m 1 → outs m 5 s k t = false) ∧ ∀ t', t' < t → outs m 5 s i t' = false := by
          rcases hy with ⟨e, ha⟩ | ⟨e, ha⟩
          · exact ha
          · exact absurd e g
        have good : outs m 5 s i t = false → kW sh kp 137 62 [some (.ref 71), none, some (.int (nI i)), some (.int (nI t))] [] (I, L, kr q w r1 r2) K := fun ho => bM_isClosed_62 (bM_isClosed_67 (by
          rw [nI_1]
          refine ih2 1 (Or.inl ⟨rfl, hy1.1, fun t' ht' => ?_⟩)
          by_cases z : t' = t
          · rw [z]; exact ho
          · exact hy1.2 t' (by omega)))
        refine m_why (b := 5) hn hw (by omega) (by decide) hv.1 (bM_isClosed_40 ⟨fun g1 => good ?_, fun g1 => bM_isClosed_43 ⟨vi, ?_⟩⟩)
        · unfold outs
          rw [decide_eq_false (fun z => g1 (by rw [z]; rfl))]
          rfl
        · have hyy : why m (dg (s.2.1 i)) t 5 = 0 := by
            have := why_lt (m := m) (f := dg (s.2.1 i)) (t := t) (b := 5)
            have g1 : nI (why m (dg (s.2.1 i)) t 5) = nI 0 := g1
            exact (nI_eq (by omega) (by decide)).mp g1
          have hva := vc_aft hw.1 hv hyy
          rw [ei]
          refine m_behind hn hw (by omega) hv.1 (roomz (why_room hyy)).1 (bM_isClosed_55 ⟨rfl, ?_⟩)
          have e16 : mp 16 (aft m (dg (s.2.1 i)) t) 10 = c16 (aftc m (s.2.1 i) t) := by
            unfold c16
            rw [hva.2]
          rw [e16]
          have hle := pl_le s (aftc m (s.2.1 i) t)
          refine m_placeIn hS hg hva.1 (bM_isClosed_58 ⟨fun g2 => bM_isClosed_66 (bM_isClosed_67 ?_), fun g2 => good ?_⟩)
          · rw [nI_1]
            refine ih2 0 (Or.inr ⟨rfl, i, hi, t, ht, ?_⟩)
            unfold outs
            rw [decide_eq_true hyy, Bool.true_and, beq_iff]
            unfold pI at g2
            rcases Nat.lt_or_ge (pl s (aftc m (s.2.1 i) t)) s.1 with z | z
            · rw [if_pos z] at g2
              exact absurd g2 (nI_m1 (by omega))
            · omega
          · unfold outs
            rw [decide_eq_true hyy, Bool.true_and]
            cases z : Nat.beq (pl s (aftc m (s.2.1 i) t)) s.1 with
            | false => rfl
            | true => exact absurd (show pI s (aftc m (s.2.1 i) t) = -1 from if_neg (by rw [beq_iff.mp z]; omega)) g2
    · rcases hx with ⟨e, ha⟩ | hx
      · exact Or.inl ⟨e, ha, fun t' ht' => absurd ht' (by omega)⟩
      · exact Or.inr hx
end MREAD
