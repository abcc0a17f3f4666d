/-! CALLS: stucks, stuck, sort; the class's analysis is a premise here -/
/-- what analyse does -/
def AN : Prop := ∀ (I : Nat → Nat → Int32) (L : Nat → Nat → Int64) (q r1 r2 : Nat → Nat) (w : Bool) (s : ast) (K : km_K), sw s → cI I L q w r1 r2 s → (∀ I' L' w' r1' r2', cI I' L' q w' r1' r2' s → I' 0 9 = 1 → fM I L I' L' → I' 0 5 = I 0 5 → K none (I', L', kr q w' r1' r2')) → kC sh kp 49 [.ref 0] (I, L, kr q w r1 r2) K
theorem cI_an {I : Nat → Nat → Int32} {L : Nat → Nat → Int64} {q r1 r2 : Nat → Nat} {w : Bool} {s : ast} (h : cI I L q w r1 r2 s) (e : I 0 9 = 1) : anV I L w r1 r2 s.1 ∧ anP I s.1 := by
  rcases h.2.2.2.2.2.2 with g | g
  · rw [e] at g
    exact absurd g (by decide)
  · exact g.2
theorem anP_0 {I : Nat → Nat → Int32} {m : Nat → Nat} (h : anP I m) : aP0 I m := ⟨h.2.2.1, h.2.2.2⟩
/-- not below zero -/
theorem neg0 {x : Int32} {A B : Prop} (h1 : okr x 0 2147483647 = true → A) (h0 : okr x 0 2147483647 = false → B) : (x < 0 → B) ∧ (¬ x < 0 → A) := by
  have hb := x.toInt_lt
  have z : (0 : Int32).toInt = 0 := by decide
  refine ⟨fun h => h0 ?_, fun h => h1 ?_⟩
  · rw [fa_lt, z] at h
    unfold okr
    rw [decide_eq_false (show ¬ 0 ≤ x.toInt by omega)]
    rfl
  · rw [fa_lt, z] at h
    unfold okr
    rw [decide_eq_true (show 0 ≤ x.toInt by omega), decide_eq_true (show x.toInt ≤ 2147483647 by omega)]
    rfl
/-- what is told of a set -/
def stL (m : Nat → Nat) (l : sst) (S y : Nat) : Nat := if y = 0 then S else if y = 1 then sm S (mz m 2) 10 else if y = 2 then sm S (mz m 22) 10 else if y = 3 then hld m S else if y = 4 then (if sm (hld m S) (mz m 2) 10 = 0 then 0 else 1) else mn (sg l S) (l.1 - 1)
theorem stL_5 {m : Nat → Nat} {l : sst} {S : Nat} : stL m l S 5 = mn (sg l S) (l.1 - 1) := rfl
noncomputable def stD (m : Nat → Nat) (S y : Nat) : Nat := stL m (hl m) S y
def o_stucks (s : ast) : Int32 × ast := (nI (sil s.1).length, s)
noncomputable def o_stuck (x y : Int32) (s : ast) : Int32 × ast := cond (okr x 0 2147483647 && okr y 0 5) (if tn x < (sil s.1).length then (nI (stD s.1 ((sil s.1).getD (tn x) 0) (tn y)), s) else (-1, s)) (a_bad s)
def o_sort (x : Int32) (s : ast) : Int32 × ast := cond (okr x 1 ((2 ^ s.1 0 - 1 : Nat) : Int)) (nI (cond (sp s.1 (tn x)) 1 0 + cond (sip (gS s.1) (tS s.1) (s.1 1) (tn x)) 2 0), s) (a_bad s)
theorem w_stucks {s : ast} (h : sw s) : sw (o_stucks s).2 := h
theorem w_stuck {x y : Int32} {s : ast} (h : sw s) : sw (o_stuck x y s).2 := by
  unfold o_stuck
  cases (okr x 0 2147483647 && okr y 0 5) with
  | false => exact h
  | true =>
    show sw (ite _ _ _ : Int32 × ast).2
    split <;> exact h
theorem w_sort {x : Int32} {s : ast} (h : sw s) : sw (o_sort x s).2 := by
  unfold o_sort
  cases okr x 1 ((2 ^ s.1 0 - 1 : Nat) : Int) with
  | false => exact h
  | true => exact h
section STUCKS
variable {I : Nat → Nat → Int32} {L : Nat → Nat → Int64} {q r1 r2 : Nat → Nat} {w : Bool} {s : ast} {K : km_K} {m : Nat → Nat}
theorem sil_lt (hw : m 0 ≤ 10) {k : Nat} (hk : k < (sil m).length) : (sil m).getD k 0 < 2 ^ m 0 := (sil_mem.mp (getD_mem hk)).2.1
theorem sil_len (hw : m 0 ≤ 10) : (sil m).length ≤ 252 := by
  rw [sil_sl]
  exact sl_len hw 11
theorem mz2_mk (hw : wb m) : mk m (mz m 2) := mk_mz hw.1 (Nat.le_refl _) fun p hp => (hw.2.2.2.2.1 p hp).1
theorem hld_le {S : Nat} : hld m S ≤ S := sub_le hld_p.1
theorem c_isSafe {S : Nat} (hw : wb m) (hR : cR I L 1 m) (hS : S < 1024) (hA : aP0 I m) (h : K (some (.int (cond (! Nat.beq (sm (hld m S) (mz m 2) 10) 0) 1 0))) (I, L, kr q w r1 r2)) : kC sh kp 42 [.ref 0, .int (nI S)] (I, L, kr q w r1 r2) K := by
  have hk := mz2_mk hw
  have b := sm_b (S := hld m S) hk
  refine ⟨rfl, bX_isSafe_0 (c_heldPart hw.2.1 hS hA (bX_isSafe_15 ?_))⟩
  rw [hR.2.2.2.2.1]
  refine s_sumIn (fun p _ => by have := hk.1 p; omega) (bX_isSafe_18 (pk_le (sm (hld m S) (mz m 2) 10) 0 (fun y => bX_isSafe_25 (bX_isSafe_26 ⟨Or.inl rfl, ?_⟩)) (fun y => bX_isSafe_21 (bX_isSafe_26 ⟨Or.inr rfl, ?_⟩))))
  · rw [show sm (hld m S) (mz m 2) 10 = 0 by omega] at h
    exact h
  · have e : Nat.beq (sm (hld m S) (mz m 2) 10) 0 = false := by
      cases e : Nat.beq (sm (hld m S) (mz m 2) 10) 0 with
      | false => rfl
      | true => exact absurd (Nat.eq_of_beq_eq_true e) (by omega)
    rw [e] at h
    exact h
theorem m_isSafe {S : Nat} (hw : wb m) (hn : nN I m) (hS : S < 1024) (hA : rA I m) (h : K (some (.int (cond (! Nat.beq (sm (hld m S) (mz m 2) 10) 0) 1 0))) (I, L, kr q w r1 r2)) : kC sh kp 124 [.ref 71, .int (nI S)] (I, L, kr q w r1 r2) K := by
  have hk := mz2_mk hw
  have b := sm_b (S := hld m S) hk
  have hl := hld_le (m := m) (S := S)
  refine ⟨rfl, bM_isSafe_0 (m_tokensFrom (c := 2) (f := mz m 2) hn hw.1 (by decide) (fun p hp => if_pos hp) hk (bM_isSafe_6 (m_held hn hw.2.1 hS hA (bM_isSafe_11 ⟨rfl, m_together hn hw.1 (by omega) hk (bM_isSafe_14 (pk_le (sm (hld m S) (mz m 2) 10) 0 (fun y => bM_isSafe_21 (bM_isSafe_22 ⟨Or.inl rfl, ?_⟩)) (fun y => bM_isSafe_17 (bM_isSafe_22 ⟨Or.inr rfl, ?_⟩))))⟩))))⟩
  · rw [show sm (hld m S) (mz m 2) 10 = 0 by omega] at h
    exact h
  · have e : Nat.beq (sm (hld m S) (mz m 2) 10) 0 = false := by
      cases e : Nat.beq (sm (hld m S) (mz m 2) 10) 0 with
      | false => rfl
      | true => exact absurd (Nat.eq_of_beq_eq_true e) (by omega)
    rw [e] at h
    exact h
theorem mI_Z {I' : Nat → Nat → Int32} (hc : mI I s) (f : fZ I I') : mI I' s ∧ fX I L I' L := ⟨mI_fr (s := s) (m := s.1) hc (fun a k z1 z2 => f a k (by omega) (fun e => by have := z1 e; omega)) (nN_Z hc.1 f), fun a k z => f a k (by omega) (fun e => absurd e (by omega)), fun _ _ _ => rfl⟩
theorem x_stucks (hAn : AN) (hs : sw s) (hc' : cI I L q w r1 r2 s) : kC sh kp 21 [.ref 0] (I, L, kr q w r1 r2) (cT (o_stucks s) I L) := by
  refine ⟨rfl, bX_stucks_0 (hAn _ _ _ _ _ _ _ _ hs hc' fun I' L' w' r1' r2' g1 g2 g3 g4 => bX_stucks_4 ?_)⟩
  rw [(cI_an g1 g2).2.1]
  exact cP_mk g1 g3
theorem y_stucks (hs : sw s) (hc' : mI I s) : kC sh kp 123 [.ref 71] (I, L, kr q w r1 r2) (mT (o_stucks s) I L (kr q w r1 r2)) := by
  refine ⟨rfl, bM_stucks_0 (m_layStucks hc'.1 hs.1.1 fun I' g1 g2 g3 g4 => bM_stucks_4 ?_)⟩
  rw [g3]
  exact mP_mk (mI_Z (L := L) hc' g1).1 (mI_Z hc' g1).2
theorem x_stuck_n (hAn : AN) {n y : Nat} (hn : n < 2 ^ 31) (hy : y ≤ 5) (hs : sw s) (hc' : cI I L q w r1 r2 s) (h : ∀ I' L' w' r1' r2', cI I' L' q w' r1' r2' s → fM I L I' L' → K (some (.int (if n < (sil s.1).length then nI (stD s.1 ((sil s.1).getD n 0) y) else -1))) (I', L', kr q w' r1' r2')) : kW sh kp 22 20 [some (.ref 0), some (.int (nI n)), some (.int (nI y)), none] [] (I, L, kr q w r1 r2) K := by
  have w0 := hs.1.1.1
  have p := p2_le w0
  have hln := sil_len w0
  refine bX_stuck_20 (hAn _ _ _ _ _ _ _ _ hs hc' fun I' L' w' r1' r2' g1 g2 g3 g4 => bX_stuck_24 ?_)
  have an := (cI_an g1 g2).2
  have A0 := anP_0 an
  rw [an.1]
  refine pk_lt n (sil s.1).length (fun z => bX_stuck_37 ?_) (fun z => bX_stuck_35 ?_)
  · have hS := sil_lt w0 z
    rw [nI_clamp (by omega), an.2.1 n z]
    rw [if_pos z] at h
    generalize (sil s.1).getD n 0 = S at h hS ⊢
    have fin := h I' L' w' r1' r2' g1 g3
    have hS' : S < 1024 := by omega
    refine ⟨vp_in_nI (by omega) (by decide), fun e => bX_stuck_84 ?_, fun e => bX_stuck_86 ?_, fun e => bX_stuck_98 ?_, fun e => bX_stuck_110 ?_, fun e => bX_stuck_119 ?_, fun e => bX_stuck_133 ?_⟩
    · rw [(nI_eq (b := 0) (by omega) (by decide)).mp e] at fin
      exact fin
    · rw [(nI_eq (b := 1) (by omega) (by decide)).mp e] at fin
      rw [g1.1.2.2.2.2.1]
      exact s_sumIn (fun p _ => by have := (mz2_mk hs.1.1).1 p; omega) (bX_stuck_97 fin)
    · rw [(nI_eq (b := 2) (by omega) (by decide)).mp e] at fin
      rw [g1.1.2.2.2.2.2.2.1]
      exact s_sumIn (fun p _ => by have := (nw_mk hs.1.1).1 p; omega) (bX_stuck_109 fin)
    · rw [(nI_eq (b := 3) (by omega) (by decide)).mp e] at fin
      exact c_heldPart hs.1.1.2.1 hS' A0 (bX_stuck_118 fin)
    · rw [(nI_eq (b := 4) (by omega) (by decide)).mp e] at fin
      have e4 : stD s.1 S 4 = if sm (hld s.1 S) (mz s.1 2) 10 = 0 then 0 else 1 := rfl
      rw [e4] at fin
      refine c_isSafe hs.1.1 g1.1 hS' A0 (bX_stuck_124 (cb0 (fun b => bX_stuck_127 (bX_stuck_132 ?_)) (fun b => bX_stuck_131 (bX_stuck_132 ?_))))
      · rw [if_neg (fun c => by rw [c] at b; exact absurd b (by decide))] at fin
        exact fin
      · have c : Nat.beq (sm (hld s.1 S) (mz s.1 2) 10) 0 = true := by
          cases c : Nat.beq (sm (hld s.1 S) (mz s.1 2) 10) 0 with
          | true => rfl
          | false => rw [c] at b; exact absurd b (by decide)
        rw [if_pos (Nat.eq_of_beq_eq_true c)] at fin
        exact fin
    · have y5 : y = 5 := by
        have a0 : y ≠ 0 := fun c => e.2.2.2.2.1 (by rw [c]; rfl)
        have a1 : y ≠ 1 := fun c => e.2.2.2.1 (by rw [c]; rfl)
        have a2 : y ≠ 2 := fun c => e.2.2.1 (by rw [c]; rfl)
        have a3 : y ≠ 3 := fun c => e.2.1 (by rw [c]; rfl)
        have a4 : y ≠ 4 := fun c => e.1 (by rw [c]; rfl)
        omega
      rw [y5, show stD s.1 S 5 = _ from stL_5] at h
      have hgl := hl_gl hs.1.1
      exact x_homeSearch hs g1 fun I2 L2 j1 j2 j3 j4 => bX_stuck_137 (c_least_h (s := hl s.1) hgl.2 hgl.1 j4.1 (bX_stuck_141 (h I2 L2 w' r1' r2' j1 (fM_trans g3 j2))))
  · rw [if_neg (by omega)] at h
    exact h I' L' w' r1' r2' g1 g3
theorem x_stuck (hAn : AN) {x y : Int32} (hs : sw s) (hc' : cI I L q w r1 r2 s) : kC sh kp 22 [.ref 0, .int x, .int y] (I, L, kr q w r1 r2) (cT (o_stuck x y s) I L) := by
  have bad : (okr x 0 2147483647 && okr y 0 5) = false → kW sh kp 22 13 [some (.ref 0), none, none, none] [] (I, L, kr q w r1 r2) (cT (o_stuck x y s) I L) := fun e => bX_stuck_13 (x_bad hs hc' fun I' g1 g2 => bX_stuck_19 (by
    unfold o_stuck
    rw [e]
    exact cP_mk g1 g2))
  refine ⟨rfl, bX_stuck_0 (neg0 (fun e1 => bX_stuck_4 (c_in (a := 0) (b := 5) rfl rfl (bX_stuck_10 (cb1 (fun e2 => ?_) (fun e2 => bad (by rw [e1, e2]; rfl)))))) (fun e1 => bad (by rw [e1]; rfl)))⟩
  unfold o_stuck
  rw [e1, e2, Bool.and_self, cond_true]
  obtain ⟨n, rfl, hn, b1, b2⟩ := okr_e e1 (by decide)
  obtain ⟨v, rfl, hv, b3, b4⟩ := okr_e e2 (by decide)
  rw [hn, hv]
  refine x_stuck_n hAn (by omega) (by omega) hs hc' fun I' L' w' r1' r2' g1 g2 => ?_
  split
  · exact cP_mk g1 g2
  · exact cP_mk g1 g2
theorem y_stuck {x y : Int32} (hs : sw s) (hc' : mI I s) : kC sh kp 126 [.ref 71, .int x, .int y] (I, L, kr q w r1 r2) (mT (o_stuck x y s) I L (kr q w r1 r2)) := by
  have w0 := hs.1.1.1
  have p := p2_le w0
  have hlen := sil_len w0
  have bad : (okr x 0 2147483647 && okr y 0 5) = false → kW sh kp 126 13 [some (.ref 71), none, none, none] [] (I, L, kr q w r1 r2) (mT (o_stuck x y s) I L (kr q w r1 r2)) := fun e => bM_stuck_13 (mm_bad hc' fun I' g1 g2 => bM_stuck_17 (by
    unfold o_stuck
    rw [e]
    exact mP_mk g1 g2))
  refine ⟨rfl, bM_stuck_0 (neg0 (fun e1 => bM_stuck_4 (mm_in (a := 0) (b := 5) rfl rfl (bM_stuck_10 (cb1 (fun e2 => ?_) (fun e2 => bad (by rw [e1, e2]; rfl)))))) (fun e1 => bad (by rw [e1]; rfl)))⟩
  unfold o_stuck
  rw [e1, e2, Bool.and_self, cond_true]
  obtain ⟨n, rfl, hn, b1, b2⟩ := okr_e e1 (by decide)
  obtain ⟨v, rfl, hv, b3, b4⟩ := okr_e e2 (by decide)
  rw [hn, hv]
  refine bM_stuck_18 (m_layStucks hc'.1 hs.1.1 fun I' g1 g2 g3 g4 => bM_stuck_22 ?_)
  have M1 := mI_Z (L := L) hc' g1
  have n1 := M1.1.1
  rw [g3]
  refine pk_lt n (sil s.1).length (fun z => bM_stuck_32 ?_) (fun z => bM_stuck_30 ?_)
  · have hS := sil_lt w0 z
    rw [nI_clamp (by omega), g4 n z, if_pos z]
    generalize (sil s.1).getD n 0 = S at hS ⊢
    have fin : ∀ u, stD s.1 S v = u → mT (nI (stD s.1 S v), s) I L (kr q w r1 r2) (some (.int (nI u))) (I', L, kr q w r1 r2) := fun u hu => by
      rw [hu]
      exact mP_mk M1.1 M1.2
    have hS' : S < 1024 := by omega
    refine ⟨vp_in_nI (by omega) (by decide), fun e => bM_stuck_76 (fin _ ?_), fun e => bM_stuck_78 ?_, fun e => bM_stuck_89 ?_, fun e => bM_stuck_101 ?_, fun e => bM_stuck_107 ?_, fun e => bM_stuck_121 ?_⟩
    · rw [(nI_eq (b := 0) (by omega) (by decide)).mp e]
      rfl
    · exact m_tokensFrom (c := 2) (f := mz s.1 2) n1 w0 (by decide) (fun p hp => if_pos hp) (mz2_mk hs.1.1) (bM_stuck_84 ⟨rfl, m_together n1 w0 (by omega) (mz2_mk hs.1.1) (bM_stuck_88 (fin _ (by rw [(nI_eq (b := 1) (by omega) (by decide)).mp e]; rfl)))⟩)
    · exact m_tokensFrom (c := 22) (f := mz s.1 22) n1 w0 (by decide) (fun p hp => if_pos hp) (nw_mk hs.1.1) (bM_stuck_96 ⟨rfl, m_together n1 w0 (by omega) (nw_mk hs.1.1) (bM_stuck_100 (fin _ (by rw [(nI_eq (b := 2) (by omega) (by decide)).mp e]; rfl)))⟩)
    · exact m_held n1 hs.1.1.2.1 hS' g2 (bM_stuck_106 (fin _ (by rw [(nI_eq (b := 3) (by omega) (by decide)).mp e]; rfl)))
    · have e4 : stD s.1 S v = if sm (hld s.1 S) (mz s.1 2) 10 = 0 then 0 else 1 := by
        rw [(nI_eq (b := 4) (by omega) (by decide)).mp e]
        rfl
      refine m_isSafe hs.1.1 n1 hS' g2 (bM_stuck_112 (cb0 (fun b => bM_stuck_115 (bM_stuck_120 (fin 1 ?_))) (fun b => bM_stuck_119 (bM_stuck_120 (fin 0 ?_)))))
      · rw [e4, if_neg (fun c => by rw [c] at b; exact absurd b (by decide))]
      · have c : Nat.beq (sm (hld s.1 S) (mz s.1 2) 10) 0 = true := by
          cases c : Nat.beq (sm (hld s.1 S) (mz s.1 2) 10) 0 with
          | true => rfl
          | false => rw [c] at b; exact absurd b (by decide)
        rw [e4, if_pos (Nat.eq_of_beq_eq_true c)]
    · have y5 : v = 5 := by
        have a0 : v ≠ 0 := fun c => e.2.2.2.2.1 (by rw [c]; rfl)
        have a1 : v ≠ 1 := fun c => e.2.2.2.1 (by rw [c]; rfl)
        have a2 : v ≠ 2 := fun c => e.2.2.1 (by rw [c]; rfl)
        have a3 : v ≠ 3 := fun c => e.2.1 (by rw [c]; rfl)
        have a4 : v ≠ 4 := fun c => e.1 (by rw [c]; rfl)
        omega
      rw [y5, show stD s.1 S 5 = _ from stL_5]
      refine m_fewest n1 hs.1.1 hs.1.2.1 (by omega) fun I2 L2 j1 j2 j3 => bM_stuck_126 ?_
      have M2 := mI_fS M1.1 j2
      have e : sr s.1 5 (hc s.1) = hl s.1 := rfl
      rw [e]
      generalize hl s.1 = l
      exact mP_mk (s := s) M2.1 (fX_trans M1.2 M2.2)
  · rw [if_neg (by omega)]
    exact mP_mk M1.1 M1.2
theorem x_sort (hAn : AN) {x : Int32} (hs : sw s) (hc' : cI I L q w r1 r2 s) : kC sh kp 23 [.ref 0, .int x] (I, L, kr q w r1 r2) (cT (o_sort x s) I L) := by
  have w0 := hs.1.1.1
  have p := p2_le w0
  refine ⟨rfl, bX_sort_0 (x_isSet w0 hc'.1 (bX_sort_5 (cb1 (fun e => bX_sort_15 (hAn _ _ _ _ _ _ _ _ hs hc' fun I' L' w' r1' r2' g1 g2 g3 g4 => bX_sort_19 ?_)) (fun e => bX_sort_8 (x_bad hs hc' fun I' g1 g2 => bX_sort_14 ?_)))))⟩
  · unfold o_sort
    rw [e, cond_true]
    obtain ⟨S, rfl, hS, b1, b2⟩ := okr_e e (by decide)
    rw [hS]
    have A0 := anP_0 (cI_an g1 g2).2
    have last : ∀ a : Nat, a = cond (sp s.1 S) 1 0 → kW sh kp 23 35 [some (.ref 0), some (.int (nI S)), none, none] [.int (nI a)] (I', L', kr q w' r1' r2') (cT (nI (cond (sp s.1 S) 1 0 + cond (sip (gS s.1) (tS s.1) (s.1 1) S) 2 0), s) I L) := fun a ha => bX_sort_35 (c_isTrap hs.1.1.2.1 (by omega) A0 (bX_sort_44 (cb0 (fun b => bX_sort_47 (bX_sort_52 ?_)) (fun b => bX_sort_51 (bX_sort_52 ?_)))))
    · refine c_isSiphon hs.1.1.2.1 A0 (bX_sort_27 (cb0 (fun b => bX_sort_30 (last 1 (by rw [b]; rfl))) (fun b => bX_sort_34 (last 0 (by rw [b]; rfl)))))
    · rw [fa_lit 2, nI_add, b, ha]
      exact cP_mk g1 g3
    · rw [fa_lit 0, nI_add, b, ha]
      exact cP_mk g1 g3
  · unfold o_sort
    rw [e]
    exact cP_mk g1 g2
theorem y_sort {x : Int32} (hs : sw s) (hc' : mI I s) : kC sh kp 127 [.ref 71, .int x] (I, L, kr q w r1 r2) (mT (o_sort x s) I L (kr q w r1 r2)) := by
  have w0 := hs.1.1.1
  have w1 := hs.1.1.2.1
  have p := p2_le w0
  refine ⟨rfl, bM_sort_0 (m_placesSet hc'.1 w0 (bM_sort_6 (mm_in (a := 1) (b := ((2 ^ s.1 0 - 1 : Nat) : Int)) rfl (nI_toInt (by omega)) (bM_sort_9 (cb1 (fun e => bM_sort_17 (m_layArcs hc'.1 hs.1.1 fun I' g1 g2 => bM_sort_21 ?_)) (fun e => bM_sort_12 (mm_bad hc' fun I' g1 g2 => bM_sort_16 ?_)))))))⟩
  · unfold o_sort
    rw [e, cond_true]
    obtain ⟨S, rfl, hS, b1, b2⟩ := okr_e e (by decide)
    rw [hS]
    have M1 := mI_Z (L := L) hc' (fun a k z1 z2 => g1 a k (by omega) (by omega))
    have n1 := M1.1.1
    have last : ∀ a : Nat, a = cond (sp s.1 S) 1 0 → kW sh kp 127 34 [some (.ref 71), some (.int (nI S))] [.int (nI a)] (I', L, kr q w r1 r2) (mT (nI (cond (sp s.1 S) 1 0 + cond (sip (gS s.1) (tS s.1) (s.1 1) S) 2 0), s) I L (kr q w r1 r2)) := fun a ha => bM_sort_34 (m_isKept (ti := tS s.1) (gi := gS s.1) n1 w1 (fun t => tS_lt) g2 (bM_sort_39 (cb0 (fun b => bM_sort_42 (bM_sort_47 ?_)) (fun b => bM_sort_46 (bM_sort_47 ?_)))))
    · refine m_isStuck (ti := tS s.1) (gi := gS s.1) n1 w1 (fun t => tS_lt) g2 (bM_sort_26 (cb0 (fun b => bM_sort_29 (last 1 ?_)) (fun b => bM_sort_33 (last 0 ?_))))
      · unfold sp
        rw [b]
        rfl
      · unfold sp
        rw [b]
        rfl
    · rw [fa_lit 2, nI_add, b, ha]
      exact mP_mk M1.1 M1.2
    · rw [fa_lit 0, nI_add, b, ha]
      exact mP_mk M1.1 M1.2
  · unfold o_sort
    rw [e]
    exact mP_mk g1 g2
end STUCKS
