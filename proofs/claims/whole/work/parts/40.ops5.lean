/-! CALLS: runs, back -/
theorem sI_s {n : Nat} (h : n ≠ 0) : sI n = nI (n - 1) := if_neg h
theorem sI_0 : sI 0 = -1 := rfl
section OPS5
variable {I : Nat → Nat → Int32} {L : Nat → Nat → Int64} {q r1 r2 : Nat → Nat} {w : Bool} {s : ast} {K : km_K} {m : Nat → Nat}
theorem x_chosen {y : Nat} (hy : y ≤ 2) (hs : sw s) (hc : cI I L q w r1 r2 s) (h : ∀ I' L', cI I' L' q w r1 r2 s → fM I L I' L' → I' 0 5 = I 0 5 → K (some (.int (sI (mch s.1 y (s.1 1))))) (I', L', kr q w r1 r2)) : kC sh kp 51 [.ref 0, .int (nI y)] (I, L, kr q w r1 r2) K := by
  have w1 := hs.1.1.2.1
  have w6 := hs.1.1.2.2.2.2.2.2.1
  refine ⟨rfl, bX_chosen_0 ?_⟩
  have key : ∀ (B : Nat → Nat) (T : Nat → Nat), B 0 = 0 → (∀ i, i ≤ s.1 1 → B i ≤ s.1 1) → (∀ i, i < s.1 1 → T i < s.1 1) → (∀ i, i < s.1 1 → B (i + 1) = if std s.1 (T i) = 0 ∧ (B i = 0 ∨ (y = 1 ∧ s.1 (32 + T i) < s.1 (32 + (B i - 1)))) then T i + 1 else B i) → B (s.1 1) = mch s.1 y (s.1 1) → (∀ i, i < s.1 1 → ∀ I' L' x2, cI I' L' q w r1 r2 s → kW sh kp 51 35 [some (.ref 0), some (.int (nI y)), some (.int x2), some (.int (nI i)), none, none] [.int (nI (T i))] (I', L', kr q w r1 r2) K → kW sh kp 51 15 [some (.ref 0), some (.int (nI y)), some (.int x2), some (.int (nI i)), none, none] [] (I', L', kr q w r1 r2) K) → kW sh kp 51 4 [some (.ref 0), some (.int (nI y)), some (.int (-1)), some (.int 0), none, none] [] (I, L, kr q w r1 r2) K := by
    intro B T hB0 hBl hTl hBs hBn hgo
    have lp := up0 (Pr := fun i => ∀ I' L', cI I' L' q w r1 r2 s → fM I L I' L' → I' 0 5 = I 0 5 → kW sh kp 51 4 [some (.ref 0), some (.int (nI y)), some (.int (sI (B i))), some (.int (nI i)), none, none] [] (I', L', kr q w r1 r2) K) (e := s.1 1) ?_ (fun i hi ih => ?_) I L hc fM_refl rfl
    · rw [hB0] at lp
      exact lp
    · intro I' L' g1 g2 g3
      refine bX_chosen_4 (pk_le (s.1 1) (s.1 1) (fun _ => bX_chosen_99 ?_) (fun g => absurd g (by omega)) g1.1.2.1)
      rw [hBn]
      exact h I' L' g1 g2 g3
    · intro I' L' g1 g2 g3
      have hb := hBl i (by omega)
      have ht := hTl i hi
      have hs1 := hBs i hi
      have same : (¬ (std s.1 (T i) = 0 ∧ (B i = 0 ∨ (y = 1 ∧ s.1 (32 + T i) < s.1 (32 + (B i - 1)))))) → ∀ I2 L2, cI I2 L2 q w r1 r2 s → fM I L I2 L2 → I2 0 5 = I 0 5 → kW sh kp 51 93 [some (.ref 0), some (.int (nI y)), some (.int (sI (B i))), some (.int (nI i)), none, none] [] (I2, L2, kr q w r1 r2) K := fun hn I2 L2 j1 j2 j3 => bX_chosen_93 (by
        rw [nI_1]
        rw [if_neg hn] at hs1
        have := ih I2 L2 j1 j2 j3
        rw [hs1] at this
        exact this)
      have bet : (B i = 0 ∨ (y = 1 ∧ s.1 (32 + T i) < s.1 (32 + (B i - 1)))) → kW sh kp 51 69 [some (.ref 0), some (.int (nI y)), some (.int (sI (B i))), some (.int (nI i)), some (.int (nI (T i))), none] [] (I', L', kr q w r1 r2) K := fun hbt => bX_chosen_69 (bX_chosen_74 ⟨fun g => absurd g (by decide), fun _ => bX_chosen_81 (x_hind hs g1 ht fun I2 L2 j1 j2 j3 => bX_chosen_87 ⟨fun g => same (fun z => g (by rw [z.1]; rfl)) I2 L2 j1 (fM_trans g2 j2) (j3.trans g3), fun g => bX_chosen_90 (bX_chosen_93 (by
        rw [nI_1]
        rw [if_pos ⟨std0 g, hbt⟩] at hs1
        have := ih I2 L2 j1 (fM_trans g2 j2) (j3.trans g3)
        rw [hs1] at this
        exact this))⟩)⟩)
      have nob : ¬ (B i = 0 ∨ (y = 1 ∧ s.1 (32 + T i) < s.1 (32 + (B i - 1)))) → kW sh kp 51 73 [some (.ref 0), some (.int (nI y)), some (.int (sI (B i))), some (.int (nI i)), some (.int (nI (T i))), none] [] (I', L', kr q w r1 r2) K := fun hbt => bX_chosen_73 (bX_chosen_74 ⟨fun _ => same (fun z => hbt z.2) I' L' g1 g2 g3, fun g => absurd rfl g⟩)
      refine bX_chosen_4 (pk_le (s.1 1) i (fun g => absurd g (by omega)) (fun _ => hgo i hi I' L' _ g1 (bX_chosen_35 ⟨fun g => bet (Or.inl ((sI_m1 (by omega)).mp g)), fun g => bX_chosen_42 ?_⟩)) g1.1.2.1)
      have hb0 : B i ≠ 0 := fun z => g ((sI_m1 (by omega)).mpr z)
      refine (pk_eq y 1 (fun g1' => bX_chosen_47 ?_) (fun g1' => nob (by omega))).symm
      rw [sI_s hb0] at bet nob ⊢
      rw [nI_clamp (by omega), nI_clamp (by omega), (g1.1.2.2.2.2.2.2.2.1 (B i - 1) (by omega)).2.2, (g1.1.2.2.2.2.2.2.2.1 (T i) ht).2.2]
      have c1 := w6 (B i - 1) (by omega)
      have c2 := w6 (T i) (by omega)
      exact ⟨vp_in_nI (by omega) (by decide), vp_in_nI (by omega) (by decide), pk_le (s.1 (32 + (B i - 1))) (s.1 (32 + T i)) (fun z => nob (by omega)) (fun z => bet (Or.inr ⟨g1', z⟩))⟩
  by_cases hy2 : y = 2
  · refine key (mcd s.1 (s.1 1)) (fun i => s.1 1 - 1 - i) rfl (fun i hi => mcd_le i hi) (fun i hi => by show s.1 1 - 1 - i < s.1 1; omega) (fun i hi => ?_) (by rw [mcd_n, hy2]) (fun i hi I' L' x2 hI' hk => bX_chosen_15 ⟨fun g => absurd (by rw [hy2]; rfl) g, fun _ => bX_chosen_20 ?_⟩)
    · show (if mcd s.1 (s.1 1) i = 0 ∧ std s.1 (s.1 1 - 1 - i) = 0 then s.1 1 - 1 - i + 1 else mcd s.1 (s.1 1) i) = _
      by_cases g1 : mcd s.1 (s.1 1) i = 0
      · by_cases g2 : std s.1 (s.1 1 - 1 - i) = 0
        · rw [if_pos ⟨g1, g2⟩, if_pos ⟨g2, Or.inl g1⟩]
        · rw [if_neg (fun z => g2 z.2), if_neg (fun z => g2 z.1)]
      · rw [if_neg (fun z => g1 z.1), if_neg (by omega)]
    · rw [hI'.1.2.1, show nI (s.1 1) - 1 = nI (s.1 1 - 1) from pk_sub (b := 1) (by omega), pk_sub (by omega)]
      exact hk
  · refine key (mch s.1 y) (fun i => i) rfl (fun i hi => Nat.le_trans (mch_le i) hi) (fun i hi => hi) (fun i hi => ?_) rfl (fun i hi I' L' x2 hI' hk => bX_chosen_15 ⟨fun _ => bX_chosen_34 hk, fun g => absurd ((nI_eq (b := 2) (by omega) (by decide)).mp g) hy2⟩)
    show (if std s.1 i = 0 ∧ (mch s.1 y i = 0 ∨ y = 2 ∨ (y = 1 ∧ s.1 (32 + i) < s.1 (32 + (mch s.1 y i - 1)))) then i + 1 else mch s.1 y i) = _
    by_cases g1 : std s.1 i = 0 ∧ (mch s.1 y i = 0 ∨ (y = 1 ∧ s.1 (32 + i) < s.1 (32 + (mch s.1 y i - 1))))
    · rw [if_pos g1, if_pos ⟨g1.1, by omega⟩]
    · rw [if_neg g1, if_neg (fun z => g1 ⟨z.1, by omega⟩)]
theorem y_chosen {y : Nat} (hy : y ≤ 2) (hs : sw s) (hc : mI I s) (h : ∀ I' L', mI I' s → fX I L I' L' → K (some (.int (sI (mch s.1 y (s.1 1))))) (I', L', kr q w r1 r2)) : kC sh kp 96 [.ref 71, .int (nI y)] (I, L, kr q w r1 r2) K := by
  have w1 := hs.1.1.2.1
  have w6 := hs.1.1.2.2.2.2.2.2.1
  refine ⟨rfl, bM_chosen_0 ?_⟩
  refine up0 (Pr := fun i => ∀ I' L', mI I' s → fX I L I' L' → kW sh kp 96 4 [some (.ref 71), some (.int (nI y)), some (.int (sI (mch s.1 y i))), some (.int (nI i)), none] [] (I', L', kr q w r1 r2) K) (e := s.1 1) ?_ (fun i hi ih => ?_) I L hc fX_refl
  · intro I' L' g1 g2
    exact bM_chosen_4 ⟨pk_in 1 212 (by decide), pk_le (s.1 1) (s.1 1) (fun _ => bM_chosen_82 (h I' L' g1 g2)) (fun g => absurd g (by omega)) (by rw [cl1, g1.1 1 (by decide)])⟩
  · intro I' L' g1 g2
    have hb := mch_le (m := s.1) (y := y) i
    have es : mch s.1 y (i + 1) = if std s.1 i = 0 ∧ (mch s.1 y i = 0 ∨ y = 2 ∨ (y = 1 ∧ s.1 (32 + i) < s.1 (32 + (mch s.1 y i - 1)))) then i + 1 else mch s.1 y i := rfl
    refine bM_chosen_4 ⟨pk_in 1 212 (by decide), pk_le (s.1 1) i (fun g => absurd g (by omega)) (fun _ => bM_chosen_14 (y_standing hs g1 hi fun I2 L2 j1 j2 => bM_chosen_19 ⟨fun g => bM_chosen_76 ?_, fun g => bM_chosen_22 ?_⟩)) (by rw [cl1, g1.1 1 (by decide)])⟩
    · rw [nI_1]
      rw [if_neg (fun z => g (by rw [z.1]; rfl))] at es
      have := ih I2 L2 j1 (fX_trans g2 j2)
      rw [es] at this
      exact this
    · have g0 := std0 g
      have bet : (mch s.1 y i = 0 ∨ y = 2 ∨ (y = 1 ∧ s.1 (32 + i) < s.1 (32 + (mch s.1 y i - 1)))) → kW sh kp 96 58 [some (.ref 71), some (.int (nI y)), some (.int (sI (mch s.1 y i))), some (.int (nI i)), none] [] (I2, L2, kr q w r1 r2) K := fun hbt => bM_chosen_58 (bM_chosen_63 ⟨fun g => absurd g (by decide), fun _ => bM_chosen_70 (bM_chosen_75 (bM_chosen_76 (by
        rw [nI_1]
        rw [if_pos ⟨g0, hbt⟩] at es
        have := ih I2 L2 j1 (fX_trans g2 j2)
        rw [es] at this
        exact this)))⟩)
      have nob : ¬ (mch s.1 y i = 0 ∨ y = 2 ∨ (y = 1 ∧ s.1 (32 + i) < s.1 (32 + (mch s.1 y i - 1)))) → kW sh kp 96 62 [some (.ref 71), some (.int (nI y)), some (.int (sI (mch s.1 y i))), some (.int (nI i)), none] [] (I2, L2, kr q w r1 r2) K := fun hbt => bM_chosen_62 (bM_chosen_63 ⟨fun _ => bM_chosen_74 (bM_chosen_75 (bM_chosen_76 (by
        rw [nI_1]
        rw [if_neg (fun z => hbt z.2)] at es
        have := ih I2 L2 j1 (fX_trans g2 j2)
        rw [es] at this
        exact this))), fun g => absurd rfl g⟩)
      refine ⟨fun z => bet (Or.inl ((sI_m1 (by omega)).mp z)), fun z => bM_chosen_27 (pk_eq y 2 (fun z2 => bet (Or.inr (Or.inl z2))) (fun z2 => bM_chosen_32 ?_))⟩
      have hb0 : mch s.1 y i ≠ 0 := fun x => z ((sI_m1 (by omega)).mpr x)
      refine (pk_eq y 1 (fun z3 => bM_chosen_37 ?_) (fun z3 => nob (by omega))).symm
      rw [sI_s hb0] at bet nob ⊢
      have i1 := ix_p (c := 32) (p := i) (by omega)
      have i2 := ix_p (c := 32) (p := mch s.1 y i - 1) (by omega)
      have c1 := w6 (mch s.1 y i - 1) (by omega)
      have c2 := w6 i (by omega)
      rw [fa_lit 32, i1.1, i2.1, j1.1 _ (by omega), j1.1 _ (by omega)]
      exact ⟨i1.2, i2.2, pk_le (s.1 (32 + (mch s.1 y i - 1))) (s.1 (32 + i)) (fun x => nob (by omega)) (fun x => bet (Or.inr (Or.inr ⟨z3, x⟩)))⟩
theorem x_runs_loop {y n : Nat} (hy : y ≤ 2) (hn : n ≤ 8) (hs : sw s) : ∀ r g, g + r = n → ∀ (m : Nat → Nat) I1 L1 x4, wf m → cI I1 L1 q w r1 r2 (m, (a_sv s).2) → I1 0 5 = 0 → fM I L I1 L1 → (r ≠ 0 → x4 = sI (mch m y (m 1))) → kW sh kp 13 39 [some (.ref 0), some (.int (nI n)), some (.int (nI y)), some (.int (nI g)), some (.int x4)] [] (I1, L1, kr q w r1 r2) (cT (nI (g + (rnn y r m).1), a_ch s (rnn y r m).2) I L)
  | 0, g, e, m, I1, L1, x4, hm, hc, h5, hf, hx => bX_runs_39 (pk_le n g (fun _ => bX_runs_95 (cP_mk hc hf)) (fun z => absurd z (by omega)))
  | r + 1, g, e, m, I1, L1, x4, hm, hc, h5, hf, hx => by
    have hx := hx (by omega)
    have w0 := hm.1.1
    have w1 := hm.1.2.1
    have hl := mch_le (m := m) (y := y) (m 1)
    have hsm : sw (m, (a_sv s).2) := ⟨hm, (sw_sv hs).2⟩
    refine bX_runs_39 (pk_le n g (fun z => absurd z (by omega)) (fun _ => bX_runs_44 ⟨fun z => bX_runs_95 ?_, fun z => bX_runs_50 ?_⟩))
    · rw [hx] at z
      have z0 := (sI_m1 (by omega)).mp z
      have er : rnn y (r + 1) m = (0, m) := if_pos z0
      rw [er]
      exact cP_mk hc hf
    · have hb0 : mch m y (m 1) ≠ 0 := fun z0 => z (by rw [hx, z0]; rfl)
      have er : rnn y (r + 1) m = ((rnn y r (gon m (mch m y (m 1) - 1))).1 + 1, (rnn y r (gon m (mch m y (m 1) - 1))).2) := if_neg hb0
      have g0 := mch_std _ hb0
      rw [er, hx, sI_s hb0]
      generalize ht : mch m y (m 1) - 1 = t at g0
      have hR : cR I1 L1 1 m := hc.1
      rw [hR.2.2.2.2.2.2.1]
      refine c_after hR hm.1 (by omega) (roomz (why_room (std_why g0))).1 (bX_runs_70 ?_)
      have hR2 : cR I1 (km_up L1 1 6 (lN (mp 32 (aft m (mz m 22) t) 10))) 1 (gon m t) := cR_nwp hR w0 w1 hm.1.2.2.1 (gon_mk hm.1 g0)
      have hc2 : cI I1 (km_up L1 1 6 (lN (mp 32 (aft m (mz m 22) t) 10))) q w r1 r2 (gon m t, (a_sv s).2) := cI_sm (s := (m, (a_sv s).2)) hsm hc h5 (fun _ _ _ => rfl) (fun a k z => up_a (by omega)) hR2 (nwp_nEq w0)
      have hf2 : fM I L I1 (km_up L1 1 6 (lN (mp 32 (aft m (mz m 22) t) 10))) := fM_trans hf (fM_s (fun _ _ _ => rfl) (fun a k z => up_a (by omega)))
      have wg := wf_gon hm g0
      rw [nI_1, show g + ((rnn y r (gon m t)).1 + 1) = g + 1 + (rnn y r (gon m t)).1 by omega]
      refine pk_le n (g + 1) (fun z1 => bX_runs_89 (bX_runs_90 (x_runs_loop hy hn hs r (g + 1) (by omega) (gon m t) I1 _ _ wg hc2 h5 hf2 (fun z2 => absurd z2 (by omega))))) (fun z1 => bX_runs_81 (x_chosen (s := (gon m t, (a_sv s).2)) hy ⟨wg, (sw_sv hs).2⟩ hc2 fun I3 L3 j1 j2 j3 => bX_runs_86 (bX_runs_90 (x_runs_loop hy hn hs r (g + 1) (by omega) (gon m t) I3 L3 _ wg j1 (j3.trans h5) (fM_trans hf2 j2) (fun _ => rfl)))))
theorem x_runs {x1 x2 : Int32} (hs : sw s) (hc : cI I L q w r1 r2 s) : kC sh kp 13 [.ref 0, .int x1, .int x2] (I, L, kr q w r1 r2) (cT (o_runs x1 x2 s) I L) := by
  have bad : (okr x1 1 8 && okr x2 0 2) = false → kW sh kp 13 19 [some (.ref 0), none, none, none, none] [] (I, L, kr q w r1 r2) (cT (o_runs x1 x2 s) I L) := fun e => bX_runs_19 (x_bad hs hc fun I' g1 g2 => bX_runs_25 (by
    unfold o_runs
    rw [e]
    exact cP_mk g1 g2))
  refine ⟨rfl, bX_runs_0 (c_in (a := 1) (b := 8) rfl rfl (bX_runs_7 (cb0 (fun e1 => bX_runs_10 (c_in (a := 0) (b := 2) rfl rfl (bX_runs_16 (cb1 (fun e2 => bX_runs_26 ?_) (fun e2 => bad (by rw [e1, e2]; rfl)))))) (fun e1 => bad (by rw [e1]; rfl)))))⟩
  have er : o_runs x1 x2 s = (nI (rnn (tn x2) (tn x1) s.1).1, a_ch s (rnn (tn x2) (tn x1) s.1).2) := by
    unfold o_runs
    rw [e1, e2]
    rfl
  rw [er]
  clear er bad
  obtain ⟨n, rfl, hn, b1, b2⟩ := okr_e e1 (by decide)
  obtain ⟨y, rfl, hy, b3, b4⟩ := okr_e e2 (by decide)
  rw [hn, hy]
  refine x_save hs hc fun I1 L1 q1 j1 j2 j3 => bX_runs_30 (x_chosen (y := y) (by omega) (sw_sv hs) j1 fun I2 L2 k1 k2 k3 => bX_runs_37 ?_)
  have := x_runs_loop (y := y) (n := n) (I := I) (L := L) (by omega) (by omega) hs n 0 (by omega) s.1 I2 L2 _ hs.1 k1 (k3.trans j2) (fM_trans j3 k2) (fun _ => rfl)
  rw [Nat.zero_add] at this
  exact this
theorem y_runs_loop {y n : Nat} (hy : y ≤ 2) (hn : n ≤ 8) (hs : sw s) : ∀ r g, g + r = n → ∀ (m : Nat → Nat) I1 L1, wf m → mI I1 (m, (a_sv s).2) → fX I L I1 L1 → kW sh kp 97 33 [some (.ref 71), some (.int (nI n)), some (.int (nI y)), some (.int (nI g)), some (.int 1), none] [] (I1, L1, kr q w r1 r2) (mT (nI (g + (rnn y r m).1), a_ch s (rnn y r m).2) I L (kr q w r1 r2))
  | 0, g, e, m, I1, L1, hm, hc, hf => bM_runs_33 ⟨fun z => absurd z (by decide), fun _ => bM_runs_38 (pk_le n g (fun _ => bM_runs_80 (mP_mk hc hf)) (fun z => absurd z (by omega)))⟩
  | r + 1, g, e, m, I1, L1, hm, hc, hf => by
    have w0 := hm.1.1
    have w1 := hm.1.2.1
    have hl := mch_le (m := m) (y := y) (m 1)
    have hsm : sw (m, (a_sv s).2) := ⟨hm, (sw_sv hs).2⟩
    refine bM_runs_33 ⟨fun z => absurd z (by decide), fun _ => bM_runs_38 (pk_le n g (fun z => absurd z (by omega)) (fun _ => bM_runs_43 (y_chosen hy hsm hc fun I2 L2 j1 j2 => bM_runs_48 ⟨fun z => bM_runs_60 (bM_runs_61 ⟨fun _ => bM_runs_77 (bM_runs_33 ⟨fun _ => bM_runs_80 ?_, fun z2 => absurd rfl z2⟩), fun z2 => absurd rfl z2⟩), fun z => bM_runs_56 (bM_runs_61 ⟨fun z2 => absurd z2 (by decide), fun _ => bM_runs_68 ?_⟩)⟩)))⟩
    · have z0 : mch m y (m 1) = 0 := (sI_m1 (by show mch m y (m 1) < _; omega)).mp z
      have er : rnn y (r + 1) m = (0, m) := if_pos z0
      rw [er]
      exact mP_mk j1 (fX_trans hf j2)
    · have hb0 : mch m y (m 1) ≠ 0 := fun z0 => z (by show sI (mch m y (m 1)) = -1; rw [z0]; rfl)
      have er : rnn y (r + 1) m = ((rnn y r (gon m (mch m y (m 1) - 1))).1 + 1, (rnn y r (gon m (mch m y (m 1) - 1))).2) := if_neg hb0
      have g0 := mch_std _ hb0
      show kC sh kp 94 [.ref 71, .int (sI (mch m y (m 1)))] _ _
      rw [er, sI_s hb0]
      generalize ht : mch m y (m 1) - 1 = t at g0
      refine m_lets (m := m) j1.1 hm (by omega) g0 fun I3 k1 k2 => bM_runs_74 (bM_runs_77 ?_)
      rw [nI_1, show g + ((rnn y r (gon m t)).1 + 1) = g + 1 + (rnn y r (gon m t)).1 by omega]
      exact y_runs_loop hy hn hs r (g + 1) (by omega) (gon m t) I3 L2 (wf_gon hm g0) (mI_fr (s := (m, (a_sv s).2)) j1 (fun a k _ z => k1 a k (by omega)) k2) (fX_trans hf (fX_trans j2 ⟨fun a k z => k1 a k (by omega), fun _ _ _ => rfl⟩))
theorem y_runs {x1 x2 : Int32} (hs : sw s) (hc : mI I s) : kC sh kp 97 [.ref 71, .int x1, .int x2] (I, L, kr q w r1 r2) (mT (o_runs x1 x2 s) I L (kr q w r1 r2)) := by
  have bad : (okr x1 1 8 && okr x2 0 2) = false → kW sh kp 97 19 [some (.ref 71), none, none, none, none, none] [] (I, L, kr q w r1 r2) (mT (o_runs x1 x2 s) I L (kr q w r1 r2)) := fun e => bM_runs_19 (mm_bad hc fun I' g1 g2 => bM_runs_23 (by
    unfold o_runs
    rw [e]
    exact mP_mk g1 g2))
  refine ⟨rfl, bM_runs_0 (mm_in (a := 1) (b := 8) rfl rfl (bM_runs_7 (cb0 (fun e1 => bM_runs_10 (mm_in (a := 0) (b := 2) rfl rfl (bM_runs_16 (cb1 (fun e2 => bM_runs_24 ?_) (fun e2 => bad (by rw [e1, e2]; rfl)))))) (fun e1 => bad (by rw [e1]; rfl)))))⟩
  have er : o_runs x1 x2 s = (nI (rnn (tn x2) (tn x1) s.1).1, a_ch s (rnn (tn x2) (tn x1) s.1).2) := by
    unfold o_runs
    rw [e1, e2]
    rfl
  rw [er]
  clear er bad
  obtain ⟨n, rfl, hn, b1, b2⟩ := okr_e e1 (by decide)
  obtain ⟨y, rfl, hy, b3, b4⟩ := okr_e e2 (by decide)
  rw [hn, hy]
  refine mm_save hs hc fun I1 j1 j2 => bM_runs_28 ?_
  have := y_runs_loop (y := y) (n := n) (I := I) (L := L) (q := q) (w := w) (r1 := r1) (r2 := r2) (by omega) (by omega) hs n 0 (by omega) s.1 I1 L hs.1 j1 j2
  rw [Nat.zero_add] at this
  exact this
end OPS5
