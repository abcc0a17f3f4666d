/-! CALLS: arc, arcOf, stepOf, type, clear, told, can -/
def ark (t p y : Nat) : Nat := (if y = 0 then 40 else 120) + 10 * t + p
def o_arc (x1 x2 x3 x4 : Int32) (s : ast) : Int32 × ast := cond (okr x1 0 ((s.1 1 : Int) - 1) && (okr x2 0 ((s.1 0 : Int) - 1) && (okr x3 0 1 && okr x4 0 2))) (nI (s.1 (ark (tn x1) (tn x2) (tn x3))), a_ch s (stl (ups s.1 (ark (tn x1) (tn x2) (tn x3)) (tn x4)))) (a_bad s)
def o_arcOf (x1 x2 x3 : Int32) (s : ast) : Int32 × ast := cond (okr x1 0 ((s.1 1 : Int) - 1) && (okr x2 0 ((s.1 0 : Int) - 1) && okr x3 0 1)) (nI (s.1 (ark (tn x1) (tn x2) (tn x3))), s) (a_bad s)
def stpO (m : Nat → Nat) (t y : Nat) : Nat := if y = 0 then m (32 + t) else if y = 1 then sm (2 ^ m 0 - 1) (mz m (40 + 10 * t)) 10 else sm (2 ^ m 0 - 1) (mz m (120 + 10 * t)) 10
def o_stepOf (x1 x2 : Int32) (s : ast) : Int32 × ast := cond (okr x1 0 ((s.1 1 : Int) - 1) && okr x2 0 2) (nI (stpO s.1 (tn x1) (tn x2)), s) (a_bad s)
def o_type (x : Int32) (s : ast) : Int32 × ast := cond (okr x 0 127) (if s.2.2.2.2.1 < 120 then (nI (s.2.2.2.2.1 + 1), (s.1, s.2.1, s.2.2.1, s.2.2.2.1, s.2.2.2.2.1 + 1, ups s.2.2.2.2.2 s.2.2.2.2.1 (tn x))) else a_full s) (a_bad s)
def o_clear (s : ast) : Int32 × ast := (nI s.2.2.2.2.1, (s.1, s.2.1, s.2.2.1, s.2.2.2.1, 0, s.2.2.2.2.2))
def tld (s : ast) : Nat → Int32
  | 0 => s.2.2.2.1.1
  | 1 => s.2.2.2.1.2.1
  | 2 => s.2.2.2.1.2.2
  | 3 => nI s.2.2.2.2.1
  | 4 => nI (s.1 0)
  | 5 => nI (s.1 1)
  | 6 => nI (s.1 200)
  | 7 => nI (s.1 211)
  | _ => nI s.2.1
def o_told (x : Int32) (s : ast) : Int32 × ast := cond (okr x 0 8) (tld s (tn x), s) (a_bad s)
def o_can (x : Int32) (s : ast) : Int32 × ast := cond (okr x 0 ((s.1 1 : Int) - 1)) (nI (std s.1 (tn x)), s) (a_bad s)
theorem w_arc {x1 x2 x3 x4 : Int32} {s : ast} (h : sw s) : sw (o_arc x1 x2 x3 x4 s).2 := by
  have w0 := h.1.1.1
  have w1 := h.1.1.2.1
  unfold o_arc
  cases e : (okr x1 0 ((s.1 1 : Int) - 1) && (okr x2 0 ((s.1 0 : Int) - 1) && (okr x3 0 1 && okr x4 0 2))) with
  | false => exact h
  | true =>
    rw [Bool.and_eq_true, Bool.and_eq_true, Bool.and_eq_true] at e
    have b1 := okr_n e.1 (by decide)
    have b2 := okr_n e.2.1 (by decide)
    have b4 := okr_n e.2.2.2 (by decide)
    have hk : 40 ≤ ark (tn x1) (tn x2) (tn x3) ∧ ark (tn x1) (tn x2) (tn x3) < 200 := by
      unfold ark
      split <;> omega
    refine sw_ch h (wf_stl (wb_ups h.1.1 (by omega) (by omega) (by omega) (by omega) (by omega) (by omega) (by omega) (by omega) (by omega)) fun t p h1 h2 h3 => ?_)
    rw [ups_o (by omega)] at h1 h2
    have hz := h.1.2.2 t p h1 h2 h3
    unfold ark
    split
    · rw [ups_o (by omega), ups_o (by omega)]
      exact hz
    · rw [ups_o (by omega), ups_o (by omega)]
      exact hz
theorem w_arcOf {x1 x2 x3 : Int32} {s : ast} (h : sw s) : sw (o_arcOf x1 x2 x3 s).2 := by
  unfold o_arcOf
  cases (okr x1 0 ((s.1 1 : Int) - 1) && (okr x2 0 ((s.1 0 : Int) - 1) && okr x3 0 1)) <;> exact h
theorem w_stepOf {x1 x2 : Int32} {s : ast} (h : sw s) : sw (o_stepOf x1 x2 s).2 := by
  unfold o_stepOf
  cases (okr x1 0 ((s.1 1 : Int) - 1) && okr x2 0 2) <;> exact h
theorem w_told {x : Int32} {s : ast} (h : sw s) : sw (o_told x s).2 := by
  unfold o_told
  cases okr x 0 8 <;> exact h
theorem w_can {x : Int32} {s : ast} (h : sw s) : sw (o_can x s).2 := by
  unfold o_can
  cases okr x 0 ((s.1 1 : Int) - 1) <;> exact h
theorem w_clear {s : ast} (h : sw s) : sw (o_clear s).2 := ⟨h.1, h.2.1, h.2.2.1, Nat.zero_le _, fun i hi => absurd hi (by show ¬ i < 0; omega)⟩
theorem w_type {x : Int32} {s : ast} (h : sw s) : sw (o_type x s).2 := by
  unfold o_type
  cases e : okr x 0 127 with
  | false => exact h
  | true =>
    have b := okr_n e (by decide)
    show sw (ite _ _ _ : Int32 × ast).2
    split
    · rename_i g
      refine ⟨h.1, h.2.1, h.2.2.1, g, fun i hi => ?_⟩
      show ups s.2.2.2.2.2 s.2.2.2.2.1 (tn x) i ≤ 127
      have hi : i < s.2.2.2.2.1 + 1 := hi
      by_cases z : i = s.2.2.2.2.1
      · rw [z, ups_s]
        omega
      · rw [ups_o z]
        exact h.2.2.2.2 i (by omega)
    · exact h
theorem mz2 {m : Nat → Nat} (hw : wb m) {t : Nat} (ht : t < 8) : (∀ i, i < 10 → mz m (40 + 10 * t) i < 32) ∧ ∀ i, i < 10 → mz m (120 + 10 * t) i < 32 := ⟨fun i _ => by
  have := mz_le (m := m) (c := 40 + 10 * t) (b := 2) hw.1 (fun p hp => (hw.2.2.2.2.2.1 t p ht hp).1) i
  omega, fun i _ => by
  have := mz_le (m := m) (c := 120 + 10 * t) (b := 2) hw.1 (fun p hp => (hw.2.2.2.2.2.1 t p ht hp).2) i
  omega⟩
section OPS2
variable {I : Nat → Nat → Int32} {L : Nat → Nat → Int64} {q r1 r2 : Nat → Nat} {w : Bool} {s : ast} {K : km_K}
theorem cR0_tk {m : Nat → Nat} {t p v : Nat} (hR : cR0 I L m) (hw : m 0 ≤ 10) (hw1 : m 1 ≤ 8) (ht : t < m 1) (hp : p < m 0) : cR0 I (km_up L 2 t (lN (mp 32 (fun j => if j = p then v else mz m (40 + 10 * t) j) 10))) (ups m (40 + 10 * t + p) v) := by
  obtain ⟨a1, a2, a3, a4, a5⟩ := hR
  refine ⟨?_, ?_, ?_, ?_, fun u hu => ?_⟩
  · rw [ups_o (by omega)]; exact a1
  · rw [ups_o (by omega)]; exact a2
  · rw [ups_o (by omega)]; exact a3
  · rw [up_a (by decide), mz_ups hw (by omega) (by omega)]; exact a4
  · rw [ups_o (by omega)] at hu
    rw [up_a (a := 2) (b := 3) (by decide), mz_ups (c := 120 + 10 * u) hw (by omega) (by omega), ups_o (by omega)]
    refine ⟨?_, (a5 u hu).2⟩
    by_cases e : u = t
    · rw [e, up_s, mz_upd (by omega) hp]
    · rw [up_k e, mz_ups hw (by omega) (by omega)]
      exact (a5 u hu).1
theorem cR0_gv {m : Nat → Nat} {t p v : Nat} (hR : cR0 I L m) (hw : m 0 ≤ 10) (hw1 : m 1 ≤ 8) (ht : t < m 1) (hp : p < m 0) : cR0 I (km_up L 3 t (lN (mp 32 (fun j => if j = p then v else mz m (120 + 10 * t) j) 10))) (ups m (120 + 10 * t + p) v) := by
  obtain ⟨a1, a2, a3, a4, a5⟩ := hR
  refine ⟨?_, ?_, ?_, ?_, fun u hu => ?_⟩
  · rw [ups_o (by omega)]; exact a1
  · rw [ups_o (by omega)]; exact a2
  · rw [ups_o (by omega)]; exact a3
  · rw [up_a (by decide), mz_ups hw (by omega) (by omega)]; exact a4
  · rw [ups_o (by omega)] at hu
    rw [up_a (a := 3) (b := 2) (by decide), mz_ups (c := 40 + 10 * u) hw (by omega) (by omega), ups_o (by omega)]
    refine ⟨(a5 u hu).1, ?_, (a5 u hu).2.2⟩
    by_cases e : u = t
    · rw [e, up_s, mz_upd (by omega) hp]
    · rw [up_k e, mz_ups hw (by omega) (by omega)]
      exact (a5 u hu).2.1
theorem x_arc {x1 x2 x3 x4 : Int32} (hs : sw s) (hc : cI I L q w r1 r2 s) : kC sh kp 2 [.ref 0, .int x1, .int x2, .int x3, .int x4] (I, L, kr q w r1 r2) (cT (o_arc x1 x2 x3 x4 s) I L) := by
  have w0 := hs.1.1.1
  have w1 := hs.1.1.2.1
  have bad : (okr x1 0 ((s.1 1 : Int) - 1) && (okr x2 0 ((s.1 0 : Int) - 1) && (okr x3 0 1 && okr x4 0 2))) = false → kW sh kp 2 35 [some (.ref 0), none, none, none, none, none, none] [] (I, L, kr q w r1 r2) (cT (o_arc x1 x2 x3 x4 s) I L) := fun e => bX_arc_35 (x_bad hs hc fun I' g1 g2 => bX_arc_41 (by
    unfold o_arc
    rw [e]
    exact cP_mk g1 g2))
  refine ⟨rfl, bX_arc_0 (x_isStep w1 hc.1 (bX_arc_5 (cb0 (fun e1 => bX_arc_8 (x_isPlace w0 hc.1 (bX_arc_13 (cb0 (fun e2 => bX_arc_16 (c_in (a := 0) (b := 1) rfl rfl (bX_arc_22 (cb0 (fun e3 => bX_arc_25 (c_in (a := 0) (b := 2) rfl rfl (bX_arc_32 (cb1 (fun e4 => bX_arc_42 ?_) (fun e4 => bad (by rw [e1, e2, e3, e4]; rfl)))))) (fun e3 => bad (by rw [e1, e2, e3]; rfl)))))) (fun e2 => bad (by rw [e1, e2]; rfl)))))) (fun e1 => bad (by rw [e1]; rfl)))))⟩
  have er : o_arc x1 x2 x3 x4 s = (nI (s.1 (ark (tn x1) (tn x2) (tn x3))), a_ch s (stl (ups s.1 (ark (tn x1) (tn x2) (tn x3)) (tn x4)))) := by
    unfold o_arc
    rw [e1, e2, e3, e4]
    rfl
  rw [er]
  clear er bad
  obtain ⟨t, rfl, ht, b1, b2⟩ := okr_e e1 (by decide)
  obtain ⟨p, rfl, hp, b3, b4⟩ := okr_e e2 (by decide)
  obtain ⟨y, rfl, hy, b5, b6⟩ := okr_e e3 (by decide)
  obtain ⟨v, rfl, hv, b7, b8⟩ := okr_e e4 (by decide)
  rw [ht, hp, hy, hv]
  have ht1 : t < s.1 1 := by omega
  have hp1 : p < s.1 0 := by omega
  have m2 := mz2 hs.1.1 (t := t) (by omega)
  refine x_save hs hc fun I1 L1 q1 g1 g2 g3 => bX_arc_46 ?_
  have hR : cR I1 L1 1 s.1 := g1.1
  have hRt := hR.2.2.2.2.2.2.2.1 t ht1
  refine (pk_eq y 0 (fun g => bX_arc_50 (bX_arc_67 ⟨rfl, vp_in_nI (show t < 8 by omega) (by decide), ?_⟩)) (fun g => bX_arc_60 (bX_arc_67 ⟨rfl, vp_in_nI (show t < 8 by omega) (by decide), ?_⟩))).symm
  · rw [nI_clamp (by omega), hRt.1]
    refine s_tok (by omega) m2.1 (bX_arc_77 ⟨rfl, vp_in_nI (show t < 8 by omega) (by decide), ?_⟩)
    rw [nI_clamp (by omega), hRt.1]
    refine s_with (by omega) (by omega) m2.1 (bX_arc_92 ⟨rfl, vp_in_nI (show t < 8 by omega) (by decide), ?_⟩)
    have ek : ark t p y = 40 + 10 * t + p := by
      unfold ark
      rw [if_pos g]
    rw [nI_clamp (by omega), ek]
    refine x_renew (sw_sv hs).2.1 g1 (fun _ _ _ => rfl) (fun a k z => up_a (by omega)) (cR0_tk (cR_0 hR) w0 w1 ht1 hp1) (by rw [ups_o (by omega)]; exact w0) (by rw [ups_o (by omega)]; exact w1) fun I3 L3 j1 j2 j3 j4 => bX_arc_97 ?_
    have em : mz s.1 (40 + 10 * t) p = s.1 (40 + 10 * t + p) := if_pos hp1
    rw [em]
    exact cP_mk j1 (fM_trans g3 (fM_trans (fM_s (fun _ _ _ => rfl) (fun a k z => up_a (by omega))) j2))
  · rw [nI_clamp (by omega), hRt.2.1]
    refine s_tok (by omega) m2.2 (bX_arc_77 ⟨rfl, vp_in_nI (show t < 8 by omega) (by decide), ?_⟩)
    rw [nI_clamp (by omega), hRt.2.1]
    refine s_with (by omega) (by omega) m2.2 (bX_arc_92 ⟨rfl, vp_in_nI (show t < 8 by omega) (by decide), ?_⟩)
    have ek : ark t p y = 120 + 10 * t + p := by
      unfold ark
      rw [if_neg g]
    rw [nI_clamp (by omega), ek]
    refine x_renew (sw_sv hs).2.1 g1 (fun _ _ _ => rfl) (fun a k z => up_a (by omega)) (cR0_gv (cR_0 hR) w0 w1 ht1 hp1) (by rw [ups_o (by omega)]; exact w0) (by rw [ups_o (by omega)]; exact w1) fun I3 L3 j1 j2 j3 j4 => bX_arc_97 ?_
    have em : mz s.1 (120 + 10 * t) p = s.1 (120 + 10 * t + p) := if_pos hp1
    rw [em]
    exact cP_mk j1 (fM_trans g3 (fM_trans (fM_s (fun _ _ _ => rfl) (fun a k z => up_a (by omega))) j2))
theorem y_arc {x1 x2 x3 x4 : Int32} (hs : sw s) (hc : mI I s) : kC sh kp 65 [.ref 71, .int x1, .int x2, .int x3, .int x4] (I, L, kr q w r1 r2) (mT (o_arc x1 x2 x3 x4 s) I L (kr q w r1 r2)) := by
  have w0 := hs.1.1.1
  have w1 := hs.1.1.2.1
  have bad : (okr x1 0 ((s.1 1 : Int) - 1) && (okr x2 0 ((s.1 0 : Int) - 1) && (okr x3 0 1 && okr x4 0 2))) = false → kW sh kp 65 35 [some (.ref 71), none, none, none, none, none, none] [] (I, L, kr q w r1 r2) (mT (o_arc x1 x2 x3 x4 s) I L (kr q w r1 r2)) := fun e => bM_arc_35 (mm_bad hc fun I' g1 g2 => bM_arc_39 (by
    unfold o_arc
    rw [e]
    exact mP_mk g1 g2))
  refine ⟨rfl, bM_arc_0 (mm_isStep w1 hc.1 (bM_arc_5 (cb0 (fun e1 => bM_arc_8 (mm_isPlace w0 hc.1 (bM_arc_13 (cb0 (fun e2 => bM_arc_16 (mm_in (a := 0) (b := 1) rfl rfl (bM_arc_22 (cb0 (fun e3 => bM_arc_25 (mm_in (a := 0) (b := 2) rfl rfl (bM_arc_32 (cb1 (fun e4 => bM_arc_40 ?_) (fun e4 => bad (by rw [e1, e2, e3, e4]; rfl)))))) (fun e3 => bad (by rw [e1, e2, e3]; rfl)))))) (fun e2 => bad (by rw [e1, e2]; rfl)))))) (fun e1 => bad (by rw [e1]; rfl)))))⟩
  have er : o_arc x1 x2 x3 x4 s = (nI (s.1 (ark (tn x1) (tn x2) (tn x3))), a_ch s (stl (ups s.1 (ark (tn x1) (tn x2) (tn x3)) (tn x4)))) := by
    unfold o_arc
    rw [e1, e2, e3, e4]
    rfl
  rw [er]
  clear er bad
  obtain ⟨t, rfl, ht, b1, b2⟩ := okr_e e1 (by decide)
  obtain ⟨p, rfl, hp, b3, b4⟩ := okr_e e2 (by decide)
  obtain ⟨y, rfl, hy, b5, b6⟩ := okr_e e3 (by decide)
  obtain ⟨v, rfl, hv, b7, b8⟩ := okr_e e4 (by decide)
  rw [ht, hp, hy, hv]
  refine mm_save hs hc fun I1 g1 g2 => bM_arc_44 ?_
  have fin : ∀ c : Nat, c ≤ 120 → 40 ≤ c → ark t p y = c + 10 * t + p → kW sh kp 65 55 [some (.ref 71), some (.int (nI t)), some (.int (nI p)), none, some (.int (nI v)), none, none] [.int (nI c)] (I1, L, kr q w r1 r2) (mT (nI (s.1 (ark t p y)), a_ch s (stl (ups s.1 (ark t p y) v))) I L (kr q w r1 r2)) := fun c hc1 hc2 ek => by
    have ix : nI c + 10 * nI t + nI p = nI (c + 10 * t + p) := by rw [fa_lit 10, pk_mul, nI_add, nI_add]
    have e72 : I1 72 (c + 10 * t + p) = nI (s.1 (c + 10 * t + p)) := g1.1 _ (by omega)
    refine bM_arc_55 ?_
    rw [ix, nI_clamp (by omega), ek, e72]
    exact ⟨vp_in_nI (by omega) (by decide), vp_in_nI (by omega) (by decide), mm_settles g1 (fun a k z => up_a z) (nN_up (m := s.1) g1.1) (by rw [ups_o (by omega)]; exact w0) fun I3 j1 j2 => bM_arc_89 (mP_mk j1 (fX_trans g2 (fX_trans (fX_71 (by decide) (by decide)) j2)))⟩
  refine (pk_eq y 0 (fun g => bM_arc_48 (fin 40 (by decide) (by decide) ?_)) (fun g => bM_arc_53 (fin 120 (by decide) (by decide) ?_))).symm
  · unfold ark
    rw [if_pos g]
  · unfold ark
    rw [if_neg g]
theorem x_arcOf {x1 x2 x3 : Int32} (hs : sw s) (hc : cI I L q w r1 r2 s) : kC sh kp 9 [.ref 0, .int x1, .int x2, .int x3] (I, L, kr q w r1 r2) (cT (o_arcOf x1 x2 x3 s) I L) := by
  have w0 := hs.1.1.1
  have w1 := hs.1.1.2.1
  have bad : (okr x1 0 ((s.1 1 : Int) - 1) && (okr x2 0 ((s.1 0 : Int) - 1) && okr x3 0 1)) = false → kW sh kp 9 25 [some (.ref 0), none, none, none] [] (I, L, kr q w r1 r2) (cT (o_arcOf x1 x2 x3 s) I L) := fun e => bX_arcOf_25 (x_bad hs hc fun I' g1 g2 => bX_arcOf_31 (by
    unfold o_arcOf
    rw [e]
    exact cP_mk g1 g2))
  refine ⟨rfl, bX_arcOf_0 (x_isStep w1 hc.1 (bX_arcOf_5 (cb0 (fun e1 => bX_arcOf_8 (x_isPlace w0 hc.1 (bX_arcOf_13 (cb0 (fun e2 => bX_arcOf_16 (c_in (a := 0) (b := 1) rfl rfl (bX_arcOf_22 (cb1 (fun e3 => bX_arcOf_32 ?_) (fun e3 => bad (by rw [e1, e2, e3]; rfl)))))) (fun e2 => bad (by rw [e1, e2]; rfl)))))) (fun e1 => bad (by rw [e1]; rfl)))))⟩
  have er : o_arcOf x1 x2 x3 s = (nI (s.1 (ark (tn x1) (tn x2) (tn x3))), s) := by
    unfold o_arcOf
    rw [e1, e2, e3]
    rfl
  rw [er]
  clear er bad
  obtain ⟨t, rfl, ht, b1, b2⟩ := okr_e e1 (by decide)
  obtain ⟨p, rfl, hp, b3, b4⟩ := okr_e e2 (by decide)
  obtain ⟨y, rfl, hy, b5, b6⟩ := okr_e e3 (by decide)
  rw [ht, hp, hy]
  have hp1 : p < s.1 0 := by omega
  have m2 := mz2 hs.1.1 (t := t) (by omega)
  have hRt := hc.1.2.2.2.2.2.2.2.1 t (by omega)
  have em : ∀ c, mz s.1 c p = s.1 (c + p) := fun c => if_pos hp1
  unfold ark
  refine (pk_eq y 0 (fun g => bX_arcOf_36 ⟨vp_in_nI (by omega) (by decide), bX_arcOf_57 ?_⟩) (fun g => bX_arcOf_48 ⟨vp_in_nI (by omega) (by decide), bX_arcOf_57 ?_⟩)).symm
  · rw [nI_clamp (by omega), hRt.1, if_pos g]
    refine s_tok (by omega) m2.1 (bX_arcOf_61 ?_)
    rw [em]
    exact cP_mk hc fM_refl
  · rw [nI_clamp (by omega), hRt.2.1, if_neg g]
    refine s_tok (by omega) m2.2 (bX_arcOf_61 ?_)
    rw [em]
    exact cP_mk hc fM_refl
theorem y_arcOf {x1 x2 x3 : Int32} (hs : sw s) (hc : mI I s) : kC sh kp 73 [.ref 71, .int x1, .int x2, .int x3] (I, L, kr q w r1 r2) (mT (o_arcOf x1 x2 x3 s) I L (kr q w r1 r2)) := by
  have w0 := hs.1.1.1
  have w1 := hs.1.1.2.1
  have bad : (okr x1 0 ((s.1 1 : Int) - 1) && (okr x2 0 ((s.1 0 : Int) - 1) && okr x3 0 1)) = false → kW sh kp 73 51 [some (.ref 71), none, none, none] [] (I, L, kr q w r1 r2) (mT (o_arcOf x1 x2 x3 s) I L (kr q w r1 r2)) := fun e => bM_arcOf_51 (mm_bad hc fun I' g1 g2 => bM_arcOf_55 (by
    unfold o_arcOf
    rw [e]
    exact mP_mk g1 g2))
  refine ⟨rfl, bM_arcOf_0 (mm_isStep w1 hc.1 (bM_arcOf_5 (cb0 (fun e1 => bM_arcOf_8 (mm_isPlace w0 hc.1 (bM_arcOf_13 (cb0 (fun e2 => bM_arcOf_16 (mm_in (a := 0) (b := 1) rfl rfl (bM_arcOf_22 (cb0 (fun e3 => bM_arcOf_25 ?_) (fun e3 => bad (by rw [e1, e2, e3]; rfl)))))) (fun e2 => bad (by rw [e1, e2]; rfl)))))) (fun e1 => bad (by rw [e1]; rfl)))))⟩
  have er : o_arcOf x1 x2 x3 s = (nI (s.1 (ark (tn x1) (tn x2) (tn x3))), s) := by
    unfold o_arcOf
    rw [e1, e2, e3]
    rfl
  rw [er]
  clear er bad
  obtain ⟨t, rfl, ht, b1, b2⟩ := okr_e e1 (by decide)
  obtain ⟨p, rfl, hp, b3, b4⟩ := okr_e e2 (by decide)
  obtain ⟨y, rfl, hy, b5, b6⟩ := okr_e e3 (by decide)
  rw [ht, hp, hy]
  have fin : ∀ c : Nat, c ≤ 120 → ark t p y = c + 10 * t + p → kW sh kp 73 40 [none, some (.int (nI t)), some (.int (nI p)), none] [.int (nI c), .ref 72] (I, L, kr q w r1 r2) (mT (nI (s.1 (ark t p y)), s) I L (kr q w r1 r2)) := fun c hc1 ek => by
    have ix : nI c + 10 * nI t + nI p = nI (c + 10 * t + p) := by rw [fa_lit 10, pk_mul, nI_add, nI_add]
    refine bM_arcOf_40 ⟨rfl, ?_, bM_arcOf_55 ?_⟩
    · rw [ix]
      exact vp_in_nI (show c + 10 * t + p < 212 by omega) (by decide)
    · rw [ix, nI_clamp (by omega), hc.1 _ (by omega), ek]
      exact mP_mk hc fX_refl
  refine (pk_eq y 0 (fun g => bM_arcOf_33 (fin 40 (by decide) ?_)) (fun g => bM_arcOf_38 (fin 120 (by decide) ?_))).symm
  · unfold ark
    rw [if_pos g]
  · unfold ark
    rw [if_neg g]
end OPS2
