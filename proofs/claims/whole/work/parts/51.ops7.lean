/-! CALLS: line -/
def mc2 (a b j : Nat) : Nat := if j = 0 then a else b
def o_line (x y z : Int32) (s : ast) : Int32 × ast := cond (okr x 1 9 && (okr y 0 ((s.1 0 : Int) - 1) && okr z 0 ((s.1 0 : Int) - 1))) (if s.1 0 + 3 ≤ 10 ∧ s.1 1 + 3 ≤ 8 then (nI (s.1 0), a_ch s (stl (lnN s.1 (tn x) 2 (mc2 (tn y) (tn z))))) else a_full s) (a_bad s)
theorem mc2_lt {a b P : Nat} (ha : a < P) (hb : b < P) (j : Nat) : mc2 a b j < P := by
  unfold mc2
  split <;> assumption
theorem w_line {x y z : Int32} {s : ast} (h : sw s) : sw (o_line x y z s).2 := by
  unfold o_line
  have w0 := h.1.1.1
  cases e : (okr x 1 9 && (okr y 0 ((s.1 0 : Int) - 1) && okr z 0 ((s.1 0 : Int) - 1))) with
  | false => exact h
  | true =>
    rw [Bool.and_eq_true, Bool.and_eq_true] at e
    have b1 := okr_n e.1 (by decide)
    have b2 := okr_n e.2.1 (by decide)
    have b3 := okr_n e.2.2 (by decide)
    show sw (ite _ _ _ : Int32 × ast).2
    split
    · rename_i g
      have p := lnN_p (k := tn x) (n := 2) (mc := mc2 (tn y) (tn z)) h.1.1 h.1.2.2 (by omega) (by omega) (by omega) (fun j _ => mc2_lt (by omega) (by omega) j)
      exact sw_ch h (wf_stl p.1 p.2.1)
    · exact h
section OPS7
variable {I : Nat → Nat → Int32} {L : Nat → Nat → Int64} {q r1 r2 : Nat → Nat} {w : Bool} {s : ast} {K : km_K} {m : Nat → Nat}
theorem cI_sc {I' : Nat → Nat → Int32} (hs : s.2.1 ≤ 5) (hc : cI I L q w r1 r2 s) (f : ∀ a k, a ≠ 69 → a ≠ 70 → (a = 67 → k = 1) → I' a k = I a k) : cI I' L q w r1 r2 s :=
  cI_fr (s := s) (m := s.1) hs hc (fun a k _ z2 z3 => f a k (by omega) (by omega) z2) (fun _ _ _ _ => rfl) (cR_fr (fun a k z1 z2 => f a k (by omega) (by omega) (fun e => absurd e (by omega))) (fun _ _ _ _ => rfl) hc.1) (cH_fr hc.2.2.2.2.1 (f 0 5 (by decide) (by decide) (fun e => absurd e (by decide))) (fun a k z1 z2 => f a k (by omega) (by omega) (fun e => absurd e (by omega))) (fun _ => rfl)) (cA_fr hc.2.2.2.2.2 (f 0 9 (by decide) (by decide) (fun e => absurd e (by decide))) (fun a k z1 z2 => f a k (by omega) (by omega) (fun e => absurd e (by omega))) (fun _ _ _ _ => rfl))
theorem c_hasRoom {n : Nat} (h0 : I 1 0 = nI (m 0)) (h1 : I 1 1 = nI (m 1)) (hw : m 0 ≤ 10) (hw1 : m 1 ≤ 8) (hn : n ≤ 4) (h : K (some (.int (cond (decide (m 0 + n + 1 ≤ 10 ∧ m 1 + n + 1 ≤ 8)) 1 0))) (I, L, kr q w r1 r2)) : kC sh kp 218 [.ref 1, .int (nI n)] (I, L, kr q w r1 r2) K := by
  have no : ¬ (m 0 + n + 1 ≤ 10 ∧ m 1 + n + 1 ≤ 8) → kW sh kp 218 30 [none, none] [] (I, L, kr q w r1 r2) K := fun z => bS_hasRoomForLine_30 (bS_hasRoomForLine_31 ⟨Or.inl rfl, by
    rw [decide_eq_false z] at h
    exact h⟩)
  refine ⟨rfl, bS_hasRoomForLine_0 ?_⟩
  rw [h0, nI_add, nI_1]
  refine pk_lt 10 (m 0 + n + 1) (fun z => no (by omega)) (fun z => bS_hasRoomForLine_13 ?_)
  rw [h1, nI_add, nI_1]
  refine pk_lt 8 (m 1 + n + 1) (fun z2 => no (by omega)) (fun z2 => bS_hasRoomForLine_26 (bS_hasRoomForLine_31 ⟨Or.inr rfl, ?_⟩))
  rw [decide_eq_true ⟨z, z2⟩] at h
  exact h
theorem x_line {x y z : Int32} (hs : sw s) (hc' : cI I L q w r1 r2 s) : kC sh kp 5 [.ref 0, .int x, .int y, .int z] (I, L, kr q w r1 r2) (cT (o_line x y z s) I L) := by
  have w0 := hs.1.1.1
  have w1 := hs.1.1.2.1
  have bad : (okr x 1 9 && (okr y 0 ((s.1 0 : Int) - 1) && okr z 0 ((s.1 0 : Int) - 1))) = false → kW sh kp 5 26 [some (.ref 0), none, none, none, none] [] (I, L, kr q w r1 r2) (cT (o_line x y z s) I L) := fun e => bX_line_26 (x_bad hs hc' fun I' g1 g2 => bX_line_32 (by
    unfold o_line
    rw [e]
    exact cP_mk g1 g2))
  refine ⟨rfl, bX_line_0 (c_in (a := 1) (b := 9) rfl rfl (bX_line_7 (cb0 (fun e1 => bX_line_10 (x_isPlace w0 hc'.1 (bX_line_15 (cb0 (fun e2 => bX_line_18 (x_isPlace w0 hc'.1 (bX_line_23 (cb1 (fun e3 => bX_line_33 (c_hasRoom (m := s.1) (n := 2) hc'.1.1 hc'.1.2.1 w0 w1 (by decide) (bX_line_41 ?_))) (fun e3 => bad (by rw [e1, e2, e3]; rfl)))))) (fun e2 => bad (by rw [e1, e2]; rfl)))))) (fun e1 => bad (by rw [e1]; rfl)))))⟩
  unfold o_line
  rw [e1, e2, e3, Bool.and_self, Bool.and_self, cond_true]
  obtain ⟨k, rfl, hk, b1, b2⟩ := okr_e e1 (by decide)
  obtain ⟨a, rfl, ha, b3, b4⟩ := okr_e e2 (by decide)
  obtain ⟨b, rfl, hb, b5, b6⟩ := okr_e e3 (by decide)
  rw [hk, ha, hb]
  refine cb1 (fun e => bX_line_51 ?_) (fun e => bX_line_44 (x_full hs hc' fun I' g1 g2 => bX_line_50 ?_))
  · have g := of_decide_eq_true e
    rw [if_pos (by omega)]
    have hmc : ∀ j, mc2 a b j < s.1 0 := mc2_lt (by omega) (by omega)
    have p := lnN_p (k := k) (n := 2) (mc := mc2 a b) hs.1.1 hs.1.2.2 (by omega) (by omega) (by omega) (fun j _ => hmc j)
    refine x_save hs hc' fun I1 L1 q1 j1 j2 j3 => bX_line_55 ⟨pk_in 0 4 (by decide), pk_in 1 4 (by decide), ?_⟩
    rw [cl0, cl1]
    have fr : ∀ c d, c ≠ 70 → km_up (km_up I1 70 0 (nI a)) 70 1 (nI b) c d = I1 c d := fun c d z => by rw [up_a z, up_a z]
    have hc2 : cI (km_up (km_up I1 70 0 (nI a)) 70 1 (nI b)) L1 q1 w r1 r2 (a_sv s) := cI_sc (sw_sv hs).2.1 j1 (fun c d _ z _ => fr c d z)
    refine c_addLine_r (m := s.1) (mc := mc2 a b) (n := 2) (cR_0 hc2.1) hs.1.1 hs.1.2.2 (by omega) (by decide) (by omega) (by omega) (fun j _ => hmc j) (fun j hj => ?_) fun I2 L2 f1 f2 => bX_line_91 (x_renew (sw_sv hs).2.1 hc2 f1.1 f1.2 f2 (by rw [p.2.2.1]; omega) (by rw [p.2.2.2]; omega) fun I3 L3 k1 k2 _ _ => bX_line_95 ?_)
    · by_cases e0 : j = 0
      · rw [e0, up_k (by decide), up_s]
        rfl
      · rw [show j = 1 by omega, up_s]
        rfl
    · rw [show I1 1 0 = nI (s.1 0) from j1.1.1]
      exact cP_mk k1 (fM_trans j3 (fM_trans ⟨fun c d z1 z2 => fr c d (by omega), fun _ _ _ _ => rfl⟩ (fM_trans (fM_s f1.1 f1.2) k2)))
  · have g := of_decide_eq_false e
    rw [if_neg (by omega)]
    exact cP_mk g1 g2
theorem y_line {x y z : Int32} (hs : sw s) (hc' : mI I s) : kC sh kp 69 [.ref 71, .int x, .int y, .int z] (I, L, kr q w r1 r2) (mT (o_line x y z s) I L (kr q w r1 r2)) := by
  have w0 := hs.1.1.1
  have w1 := hs.1.1.2.1
  have bad : (okr x 1 9 && (okr y 0 ((s.1 0 : Int) - 1) && okr z 0 ((s.1 0 : Int) - 1))) = false → kW sh kp 69 26 [some (.ref 71), none, none, none, none] [] (I, L, kr q w r1 r2) (mT (o_line x y z s) I L (kr q w r1 r2)) := fun e => bM_line_26 (mm_bad hc' fun I' g1 g2 => bM_line_30 (by
    unfold o_line
    rw [e]
    exact mP_mk g1 g2))
  refine ⟨rfl, bM_line_0 (mm_in (a := 1) (b := 9) rfl rfl (bM_line_7 (cb0 (fun e1 => bM_line_10 (mm_isPlace w0 hc'.1 (bM_line_15 (cb0 (fun e2 => bM_line_18 (mm_isPlace w0 hc'.1 (bM_line_23 (cb1 (fun e3 => bM_line_31 ⟨pk_in 0 212 (by decide), ?_⟩) (fun e3 => bad (by rw [e1, e2, e3]; rfl)))))) (fun e2 => bad (by rw [e1, e2]; rfl)))))) (fun e1 => bad (by rw [e1]; rfl)))))⟩
  unfold o_line
  rw [e1, e2, e3, Bool.and_self, Bool.and_self, cond_true]
  obtain ⟨k, rfl, hk, b1, b2⟩ := okr_e e1 (by decide)
  obtain ⟨a, rfl, ha, b3, b4⟩ := okr_e e2 (by decide)
  obtain ⟨b, rfl, hb, b5, b6⟩ := okr_e e3 (by decide)
  rw [hk, ha, hb, cl0, hc'.1 0 (by decide), fa_lit 3, nI_add]
  have no : ¬ (s.1 0 + 3 ≤ 10 ∧ s.1 1 + 3 ≤ 8) → kW sh kp 69 57 [some (.ref 71), none, none, none, none] [] (I, L, kr q w r1 r2) (mT (if s.1 0 + 3 ≤ 10 ∧ s.1 1 + 3 ≤ 8 then (nI (s.1 0), a_ch s (stl (lnN s.1 k 2 (mc2 a b)))) else a_full s) I L (kr q w r1 r2)) := fun z => bM_line_57 (mm_full hc' fun I' g1 g2 => bM_line_61 (by
    rw [if_neg z]
    exact mP_mk g1 g2))
  refine pk_lt 10 (s.1 0 + 3) (fun z => no (by omega)) (fun z => bM_line_44 ⟨pk_in 1 212 (by decide), ?_⟩)
  rw [cl1, hc'.1 1 (by decide), fa_lit 3, nI_add]
  refine pk_le (s.1 1 + 3) 8 (fun z2 => bM_line_62 ?_) (fun z2 => no (by omega))
  rw [if_pos ⟨z, z2⟩]
  have hmc : ∀ j, mc2 a b j < s.1 0 := mc2_lt (by omega) (by omega)
  have p := lnN_p (k := k) (n := 2) (mc := mc2 a b) hs.1.1 hs.1.2.2 (by omega) (by omega) (by omega) (fun j _ => hmc j)
  refine mm_save hs hc' fun I1 j1 j2 => bM_line_66 ⟨pk_in 0 212 (by decide), ?_⟩
  have ed : 10 * nI a + nI b = nI (dgn (mc2 a b) 0 2) := by
    rw [fa_lit 10, pk_mul, nI_add]
    congr 1
    show 10 * a + b = a * 10 ^ 1 + (b * 10 ^ 0 + 0)
    omega
  rw [ed, cl0, show I1 72 0 = nI (s.1 0) from j1.1 0 (by decide)]
  refine m_lays (m := s.1) (mc := mc2 a b) (n := 2) j1.1 hs.1.1 hs.1.2.2 (by omega) (by decide) (by decide) (by omega) (by omega) (fun j _ => hmc j) (fun j => by have := hmc j; omega) fun I2 f1 f2 => bM_line_89 (mm_settles j1 f1 f2 (by rw [p.2.2.1]; omega) fun I3 k1 k2 => bM_line_96 (mP_mk k1 (fX_trans j2 (fX_trans ⟨fun c d z => f1 c d (by omega), fun _ _ _ => rfl⟩ k2))))
end OPS7
