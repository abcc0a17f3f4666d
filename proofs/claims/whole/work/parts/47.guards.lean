/-! CALLS: home (reference), guardOf, guard, drop -/
def adg (m : Nat → Nat) (S v : Nat) : Nat → Nat := ups (ups (ups m (201 + m 200) S) (206 + m 200) v) 200 (m 200 + 1)
def drp (m : Nat → Nat) (g i k : Nat) : Nat := if k = 200 then m 200 - 1 else if 201 + g ≤ k ∧ k < 201 + g + i then m (k + 1) else if 206 + g ≤ k ∧ k < 206 + g + i then m (k + 1) else m k
/-- the list from home, guard g left out -/
def gl0 (m : Nat → Nat) (g : Nat) : sst := sr m g (hc m)
def gdB (m : Nat → Nat) (g t : Nat) : Bool := Nat.beq (room m (mz m 22) t) 0 && bar m (mz m 22) t g
def gdL (m : Nat → Nat) (l : sst) (g y : Nat) : Nat := if y = 0 then m (201 + g) else if y = 1 then m (206 + g) else if y = 2 then sm (m (201 + g)) (mz m 22) 10 else if y = 3 then bs (gdB m g) (m 1) else if m (206 + g) ≤ mn (sg l (m (201 + g))) (l.1 - 1) then 1 else 0
def o_guardOf (x y : Int32) (s : ast) : Int32 × ast := cond (okr x 0 ((s.1 200 : Int) - 1) && okr y 0 4) (nI (gdL s.1 (gl0 s.1 (tn x)) (tn x) (tn y)), s) (a_bad s)
def o_guard (x y : Int32) (s : ast) : Int32 × ast := cond (okr x 1 ((2 ^ s.1 0 - 1 : Nat) : Int) && okr y 1 9) (if sm (tn x) (hm s.1) 10 < tn y then a_no s else if s.1 200 < 5 then (nI (s.1 200), a_ch s (adg s.1 (tn x) (tn y))) else a_full s) (a_bad s)
def o_drop (x : Int32) (s : ast) : Int32 × ast := cond (okr x 0 ((s.1 200 : Int) - 1)) (nI (s.1 200 - 1), a_ch s (drp s.1 (tn x) (s.1 200 - 1 - tn x))) (a_bad s)
theorem w_guardOf {x y : Int32} {s : ast} (h : sw s) : sw (o_guardOf x y s).2 := by
  unfold o_guardOf
  cases (okr x 0 ((s.1 200 : Int) - 1) && okr y 0 4) <;> exact h
theorem wf_adg {m : Nat → Nat} {S v : Nat} (h : wf m) (hg : m 200 < 5) (hS : S < 1024) (hv : v ≤ 9) : wf (adg m S v) := by
  have a := wf_ups (k := 201 + m 200) (v := S) h (by omega) (wb_ups h.1 (by omega) (by omega) (by omega) (by omega) (by omega) (by omega) (by omega) (by omega) (by omega))
  have b := wf_ups (k := 206 + m 200) (v := v) a (by omega) (wb_ups a.1 (by omega) (by omega) (by omega) (by omega) (by omega) (by omega) (by omega) (by omega) (by omega))
  exact wf_ups (k := 200) (v := m 200 + 1) b (by omega) (wb_ups b.1 (by omega) (by omega) (by omega) (by omega) (by omega) (by omega) (by omega) (by omega) (by omega))
theorem drp_o {m : Nat → Nat} {g i k : Nat} (h : k < 200 ∨ 211 ≤ k) (hg : g + i ≤ 4) : drp m g i k = m k := by
  unfold drp
  rw [if_neg (by omega), if_neg (by omega), if_neg (by omega)]
theorem wf_drp {m : Nat → Nat} {g : Nat} (h : wf m) (hg : g < m 200) : wf (drp m g (m 200 - 1 - g)) := by
  obtain ⟨⟨w0, w1, w2, w3, w4, w5, w6, w7⟩, h2, h3⟩ := h
  have e : ∀ k, k < 200 ∨ 211 ≤ k → drp m g (m 200 - 1 - g) k = m k := fun k hk => drp_o hk (by omega)
  refine ⟨⟨by rw [e _ (by omega)]; exact w0, by rw [e _ (by omega)]; exact w1, ?_, by rw [e _ (by omega)]; exact w3, fun p hp => by rw [e _ (by omega), e _ (by omega), e _ (by omega)]; exact w4 p hp, fun t p ht hp => by rw [e _ (by omega), e _ (by omega)]; exact w5 t p ht hp, fun t ht => by rw [e _ (by omega)]; exact w6 t ht, fun j hj => ⟨?_, ?_⟩⟩, fun p hp => ?_, fun t p a b c => ?_⟩
  · unfold drp
    rw [if_pos rfl]
    omega
  · unfold drp
    rw [if_neg (by omega)]
    split
    · rw [show 201 + j + 1 = 201 + (j + 1) by omega]
      exact (w7 (j + 1) (by omega)).1
    · rw [if_neg (by omega)]
      exact (w7 j hj).1
  · unfold drp
    rw [if_neg (by omega), if_neg (by omega)]
    split
    · rw [show 206 + j + 1 = 206 + (j + 1) by omega]
      exact (w7 (j + 1) (by omega)).2
    · exact (w7 j hj).2
  · rw [e _ (by omega)] at hp
    rw [e _ (by omega), e _ (by omega)]
    exact h2 p hp
  · rw [e _ (by omega)] at a b
    rw [e _ (by omega), e _ (by omega)]
    exact h3 t p a b c
theorem w_guard {x y : Int32} {s : ast} (h : sw s) : sw (o_guard x y s).2 := by
  unfold o_guard
  cases e : (okr x 1 ((2 ^ s.1 0 - 1 : Nat) : Int) && okr y 1 9) with
  | false => exact h
  | true =>
    rw [Bool.and_eq_true] at e
    have b1 := okr_n e.1 (by decide)
    have b2 := okr_n e.2 (by decide)
    have p2 := p2_le h.1.1.1
    show sw (ite _ _ (ite _ _ _) : Int32 × ast).2
    split
    · exact h
    · split
      · rename_i g
        exact sw_ch h (wf_adg h.1 g (by omega) (by omega))
      · exact h
theorem w_drop {x : Int32} {s : ast} (h : sw s) : sw (o_drop x s).2 := by
  unfold o_drop
  cases e : okr x 0 ((s.1 200 : Int) - 1) with
  | false => exact h
  | true =>
    have b1 := okr_n e (by decide)
    exact sw_ch h (wf_drp h.1 (by omega))
section GUARDS
variable {I : Nat → Nat → Int32} {L : Nat → Nat → Int64} {q r1 r2 : Nat → Nat} {w : Bool} {s : ast} {K : km_K} {m : Nat → Nat}
theorem y_home {x : Int32} (hs : sw s) (hc' : mI I s) : kC sh kp 142 [.ref 71, .int x] (I, L, kr q w r1 r2) (mT (o_home x s) I L (kr q w r1 r2)) := by
  have w0 := hs.1.1.1
  have w1 := hs.1.1.2.1
  have w6 := hs.1.1.2.2.2.2.2.2.1
  have hgl := nl_gl hs.1.1
  have h200 := hgl.2.1
  have h1 := hgl.1
  refine ⟨rfl, bM_home_0 (mm_in (a := 0) (b := 2) rfl rfl (bM_home_6 (cb1 (fun e => bM_home_14 ?_) (fun e => bM_home_9 (mm_bad hc' fun I' g1 g2 => bM_home_13 ?_)))))⟩
  · unfold o_home
    rw [e]
    obtain ⟨y, rfl, hy, b1, b2⟩ := okr_e e (by decide)
    rw [hy]
    refine m_tokensFrom (c := 22) (f := mz s.1 22) hc'.1 w0 (by decide) (fun p hp => if_pos hp) (nw_mk hs.1.1) (bM_home_21 ⟨rfl, ?_⟩)
    have e16 : mp 16 (mz s.1 22) 10 = c16 (nc s.1) := by
      unfold c16
      rw [nc_dg hs.1.1]
    rw [e16]
    refine m_searches (b := 5) hc'.1 hs.1.1 (by decide) (nc_vc hs.1.1) fun I1 L1 n1 g2 g3 => bM_home_25 (m_layFar (s := nl s.1) n1 hs.1.1 hs.1.2.1 g3 hgl fun I2 W f1 f2 f3 fN f4 => bM_home_29 ?_)
    have hm1 := mI_fS hc' g2
    have n2 := nN_fr n1 (fun a k b1 _ b3 => f1 a k b1 b3)
    have m2 : mI I2 s := mI_fr (s := s) (m := s.1) hm1.1 (fun a k b1 b2 => f1 a k (by omega) (by omega)) n2
    have fx : fX I L I2 L1 := fX_trans hm1.2 ⟨fun a k b => f1 a k (by omega) (by omega), fun _ _ _ => rfl⟩
    rw [cond_true, ← hmL_cg (y := y) h1 (wyD_eq f2)]
    have fin : ∀ u, hmL s.1 (nl s.1) W y = u → mT (hmL s.1 (nl s.1) W y, s) I L (kr q w r1 r2) (some (.int u)) (I2, L1, kr q w r1 r2) := fun u hu => by
      rw [hu]
      exact mP_mk m2 fx
    have b0 := f3 0 h1
    rw [cl0, f4 0 h1]
    refine ⟨pk_in 0 200 (by decide), fun z => bM_home_40 ?_, fun z => bM_home_38 (fin _ ?_)⟩
    · have z0 : W 0 ≠ 0 := fun a => le0.mp z (by rw [a]; decide)
      refine pk_le 2 y (fun a => bM_home_73 ?_) (fun a => bM_home_45 ?_)
      · have hy2 : y = 2 := by omega
        rw [cl1, n2 1 (by decide)]
        refine ⟨pk_in 1 212 (by decide), ?_⟩
        have e0 : I2 87 (0 : Int32).toNatClampNeg = nI (W 0 - 1) := by rw [cl0, f4 0 h1, sI_s z0]
        by_cases zo : W 0 = 1
        · have fin0 : kW sh kp 142 165 [none, none, some (.int (-1)), none, none] [] (I2, L1, kr q w r1 r2) (mT (hmL s.1 (nl s.1) W y, s) I L (kr q w r1 r2)) := bM_home_165 (fin _ (by
            unfold hmL
            rw [if_neg z0, if_neg (by omega), if_neg (by omega), if_pos zo]))
          refine bM_home_84 ⟨fun _ => fin0, fun _ => bM_home_88 ?_⟩
          rw [e0, zo]
          exact ⟨pk_in 0 200 (by decide), fun _ => fin0, fun b => absurd (by decide) b⟩
        · have fin0 : hmL s.1 (nl s.1) W y = sI (ft (fun t => Nat.beq (wvl (nl s.1).1 (tg s.1 5 (nl s.1)) (ec s.1) W 0 t) (W 0)) (s.1 1) 0) := by
            unfold hmL
            rw [if_neg z0, if_neg (by omega), if_neg (by omega), if_neg zo]
          have key := up0 (Pr := fun i => kW sh kp 142 84 [some (.ref 71), none, some (.int (sI (ft (fun t => Nat.beq (wvl (nl s.1).1 (tg s.1 5 (nl s.1)) (ec s.1) W 0 t) (W 0)) i (s.1 1 - i)))), some (.int (nI (s.1 1 - i) - 1)), none] [] (I2, L1, kr q w r1 r2) (mT (hmL s.1 (nl s.1) W y, s) I L (kr q w r1 r2))) (e := s.1 1) ?_ fun i hi ih => ?_
          · exact key
          · rw [Nat.sub_self]
            exact bM_home_84 ⟨fun _ => bM_home_165 (fin _ fin0), fun b => absurd (by decide) b⟩
          · have et : s.1 1 - i = (s.1 1 - (i + 1)) + 1 := by omega
            have eft : ft (fun t => Nat.beq (wvl (nl s.1).1 (tg s.1 5 (nl s.1)) (ec s.1) W 0 t) (W 0)) (i + 1) (s.1 1 - (i + 1)) = cond (Nat.beq (wvl (nl s.1).1 (tg s.1 5 (nl s.1)) (ec s.1) W 0 (s.1 1 - (i + 1))) (W 0)) (s.1 1 - (i + 1) + 1) (ft (fun t => Nat.beq (wvl (nl s.1).1 (tg s.1 5 (nl s.1)) (ec s.1) W 0 t) (W 0)) i (s.1 1 - (i + 1) + 1)) := rfl
            rw [eft] at ih
            rw [et, nI_pred]
            generalize ht : s.1 1 - (i + 1) = t at ih
            have ht1 : t < s.1 1 := by omega
            have hwv : wvl (nl s.1).1 (tg s.1 5 (nl s.1)) (ec s.1) W 0 t = if tg s.1 5 (nl s.1) 0 t < (nl s.1).1 ∧ W (tg s.1 5 (nl s.1) 0 t) ≠ 0 then W (tg s.1 5 (nl s.1) 0 t) + ec s.1 t else 0 := rfl
            have same : Nat.beq (wvl (nl s.1).1 (tg s.1 5 (nl s.1)) (ec s.1) W 0 t) (W 0) = false → kW sh kp 142 157 [some (.ref 71), none, some (.int (sI (ft (fun t => Nat.beq (wvl (nl s.1).1 (tg s.1 5 (nl s.1)) (ec s.1) W 0 t) (W 0)) i (t + 1)))), some (.int (nI t)), none] [] (I2, L1, kr q w r1 r2) (mT (hmL s.1 (nl s.1) W y, s) I L (kr q w r1 r2)) := fun b => bM_home_157 (bM_home_158 (by
              rw [b] at ih
              rw [← Int32.sub_eq_add_neg]
              exact ih))
            refine bM_home_84 ⟨fun b => absurd b (nI_pos (by omega)), fun _ => bM_home_88 ?_⟩
            rw [e0]
            refine ⟨pk_in 0 200 (by decide), pk_le (W 0 - 1) 0 (fun b => absurd b (by omega)) (fun _ => bM_home_97 ?_)⟩
            have eN := fN 0 h1 t ht1
            rw [Nat.mul_zero, Nat.zero_add] at eN
            rw [nI_clamp (by omega), eN]
            unfold lI
            by_cases hT : tg s.1 5 (nl s.1) 0 t < (nl s.1).1
            · have bT := f3 _ hT
              rw [if_pos hT]
              refine ⟨vp_in_nI (by omega) (by decide), fun b => absurd b (nI_m1 (by omega)), fun _ => bM_home_111 ?_⟩
              rw [nI_clamp (by omega), f4 _ hT]
              refine ⟨vp_in_nI (by omega) (by decide), fun b => same ?_, fun b => bM_home_121 ?_⟩
              · have zT := (sI_neg (by omega)).mp b
                rw [if_neg (fun c => c.2 zT)] at hwv
                rw [hwv]
                exact Bool.eq_false_iff.mpr fun c => z0 (beq_iff.mp c).symm
              · have zT : W (tg s.1 5 (nl s.1) 0 t) ≠ 0 := fun c => b ((sI_neg (by omega)).mpr c)
                rw [if_pos ⟨hT, zT⟩] at hwv
                have i32 := ix_p (c := 32) (p := t) (by omega)
                have eb := ec_b (w6 t (by omega))
                rw [nI_clamp (by omega), f4 _ hT, sI_s zT, fa_lit 32, i32.1, n2 _ (by omega), fa_lit 1000, pk_mul, nI_add (W (tg s.1 5 (nl s.1) 0 t) - 1), nI_1, show W (tg s.1 5 (nl s.1) 0 t) - 1 + 1000 * s.1 (32 + t) + 1 = W (tg s.1 5 (nl s.1) 0 t) + ec s.1 t - 1 by unfold ec; omega, e0]
                refine ⟨vp_in_nI (by omega) (by decide), i32.2, pk_in 0 200 (by decide), (pk_eq (W (tg s.1 5 (nl s.1) 0 t) + ec s.1 t - 1) (W 0 - 1) (fun c => bM_home_153 (bM_home_158 ?_)) (fun c => same ?_)).symm⟩
                · have e1 : Nat.beq (wvl (nl s.1).1 (tg s.1 5 (nl s.1)) (ec s.1) W 0 t) (W 0) = true := beq_iff.mpr (by omega)
                  rw [e1] at ih
                  rw [← Int32.sub_eq_add_neg]
                  exact ih
                · exact Bool.eq_false_iff.mpr fun d => by
                    have := beq_iff.mp d
                    omega
            · rw [if_neg hT]
              refine ⟨vp_in_nI (by omega) (by decide), fun _ => same ?_, fun b => absurd rfl b⟩
              rw [if_neg (fun c => hT c.1)] at hwv
              rw [hwv]
              exact Bool.eq_false_iff.mpr fun c => z0 (beq_iff.mp c).symm
      · refine (pk_eq y 0 (fun b => bM_home_49 ⟨pk_in 0 200 (by decide), bM_home_72 (fin _ ?_)⟩) (fun b => bM_home_62 ⟨pk_in 0 200 (by decide), bM_home_72 (fin _ ?_)⟩)).symm
        · unfold hmL
          rw [if_neg z0, if_pos b, cl0, f4 0 h1, sI_s z0, fa_lit 1000, pk_div (by omega) (by decide) (by decide)]
        · unfold hmL
          rw [if_neg z0, if_neg b, if_pos (by omega), cl0, f4 0 h1, sI_s z0, fa_lit 1000, pk_rem (by omega) (by decide) (by decide)]
    · have z0 : W 0 = 0 := (sI_neg (by omega)).mp (Classical.byContradiction fun a => z (le0.mpr a))
      unfold hmL
      rw [if_pos z0]
  · unfold o_home
    rw [e]
    exact mP_mk g1 g2
theorem gl0_gl {g : Nat} (hw : wb m) : gl m (gl0 m g) := sr_gl hw.1 (hc_vc hw)
theorem gdL_lt {l : sst} {g y : Nat} (hw : wb m) (hg : g < 5) (h : gl m l) : gdL m l g y < 1024 := by
  have a := hw.2.2.2.2.2.2.2 g hg
  have b := sm_b (S := m (201 + g)) (nw_mk hw)
  have c := bs_lt (P := gdB m g) (m 1)
  have d : 2 ^ m 1 ≤ 2 ^ 8 := Nat.pow_le_pow_right (by decide) hw.2.1
  unfold gdL
  split
  · exact a.1
  · split
    · omega
    · split
      · omega
      · split
        · omega
        · split <;> omega
theorem why_gd {t : Nat} : (why m (mz m 22) t 5 = 0 ∨ why m (mz m 22) t 5 = 3) ↔ room m (mz m 22) t = 0 := by
  have := room_lt (m := m) (f := mz m 22) (t := t)
  unfold why
  cases e : Nat.beq (room m (mz m 22) t) 0 with
  | true =>
    have e0 := beq_iff.mp e
    cases (al (m 200) fun g => decide (g = 5) || ! bar m (mz m 22) t g) with
    | true => exact ⟨fun _ => e0, fun _ => Or.inl rfl⟩
    | false => exact ⟨fun _ => e0, fun _ => Or.inr rfl⟩
  | false =>
    show (room m (mz m 22) t = 0 ∨ room m (mz m 22) t = 3) ↔ _
    omega
theorem c_barredBy {g : Nat} (hR : cR I L 1 m) (hw : wb m) (hg : g < m 200) (h : K (some (.int (nI (bs (gdB m g) (m 1))))) (I, L, kr q w r1 r2)) : kC sh kp 231 [.ref 1, .int (nI g)] (I, L, kr q w r1 r2) K := by
  have w1 := hw.2.1
  have hmk := nw_mk hw
  refine ⟨rfl, bS_barredBy_0 (up0 (Pr := fun t => kW sh kp 231 4 [some (.ref 1), some (.int (nI g)), some (.int (nI (bs (gdB m g) t))), some (.int (nI t)), none, none] [] (I, L, kr q w r1 r2) K) (e := m 1) ?_ fun t ht ih => ?_)⟩
  · exact bS_barredBy_4 (pk_le (m 1) (m 1) (fun _ => bS_barredBy_80 h) (fun z => absurd z (by omega)) hR.2.1)
  · have es : bs (gdB m g) (t + 1) = bs (gdB m g) t ||| cond (gdB m g t) (2 ^ t) 0 := rfl
    rw [es] at ih
    have no : gdB m g t = false → kW sh kp 231 74 [some (.ref 1), some (.int (nI g)), some (.int (nI (bs (gdB m g) t))), some (.int (nI t)), none, none] [] (I, L, kr q w r1 r2) K := fun b => bS_barredBy_74 (by
      rw [b] at ih
      rw [nI_1]
      rw [show cond false (2 ^ t) 0 = 0 from rfl, Nat.or_zero] at ih
      exact ih)
    have yes : room m (mz m 22) t = 0 → kW sh kp 231 35 [some (.ref 1), some (.int (nI g)), some (.int (nI (bs (gdB m g) t))), some (.int (nI t)), none, none] [] (I, L, kr q w r1 r2) K := fun hr => bS_barredBy_35 (bS_barredBy_40 ⟨fun b => absurd b (by decide), fun _ => bS_barredBy_47 (by
      rw [hR.2.2.2.2.2.2.1]
      refine c_after hR hw ht (roomz hr).1 (bS_barredBy_62 (c_bars hR hw hg hmk hr (bS_barredBy_65 (cb0 (fun b => bS_barredBy_68 (bS_barredBy_74 ?_)) (fun b => no ?_)))))
      · have e1 : gdB m g t = true := by
          unfold gdB
          rw [b, hr]
          rfl
        rw [e1] at ih
        rw [sh1 t (by omega), fa_or, nI_1]
        exact ih
      · unfold gdB
        rw [b, Bool.and_false])⟩)
    have nor : ¬ room m (mz m 22) t = 0 → gdB m g t = false := fun hr => by
      unfold gdB
      rw [Bool.eq_false_iff.mpr (fun c => hr (beq_iff.mp c))]
      rfl
    refine bS_barredBy_4 (pk_le (m 1) t (fun z => absurd z (by omega)) (fun _ => bS_barredBy_12 ?_) hR.2.1)
    rw [hR.2.2.2.2.2.2.1]
    have wl := why_lt (m := m) (f := mz m 22) (t := t) (b := 5)
    refine c_hind (b := 5) hR hw ht (by decide) hmk (bS_barredBy_22 ⟨fun b => yes (why_room (why0 b)), fun b => bS_barredBy_29 ?_⟩)
    refine (pk_eq (why m (mz m 22) t 5) 3 (fun c => yes (why_gd.mp (Or.inr c))) (fun c => bS_barredBy_39 (bS_barredBy_40 ⟨fun _ => no (nor fun d => ?_), fun d => absurd rfl d⟩))).symm
    rcases why_gd.mpr d with f | f
    · exact b (by rw [f]; rfl)
    · exact c f
theorem m_barredBy {g : Nat} (hn : nN I m) (hw : wb m) (hg : g < 5) (h : K (some (.int (nI (bs (gdB m g) (m 1))))) (I, L, kr q w r1 r2)) : kC sh kp 133 [.ref 71, .int (nI g)] (I, L, kr q w r1 r2) K := by
  have w1 := hw.2.1
  have hmk := nw_mk hw
  have e1 : I 72 (1 : Int32).toNatClampNeg = nI (m 1) := by
    rw [cl1]
    exact hn 1 (by decide)
  refine ⟨rfl, bM_barredBy_0 (m_tokensFrom (c := 22) (f := mz m 22) hn hw.1 (by decide) (fun p hp => if_pos hp) hmk (bM_barredBy_6 (up0 (Pr := fun t => kW sh kp 133 13 [some (.ref 71), some (.int (nI g)), some (.long (lN (mp 16 (mz m 22) 10))), none, some (.int (nI (bs (gdB m g) t))), some (.int (nI t))] [] (I, L, kr q w r1 r2) K) (e := m 1) ?_ fun t ht ih => ?_)))⟩
  · exact bM_barredBy_13 ⟨pk_in 1 212 (by decide), pk_le (m 1) (m 1) (fun _ => bM_barredBy_64 h) (fun z => absurd z (by omega)) e1⟩
  · have es : bs (gdB m g) (t + 1) = bs (gdB m g) t ||| cond (gdB m g t) (2 ^ t) 0 := rfl
    rw [es] at ih
    have no : gdB m g t = false → kW sh kp 133 54 [some (.ref 71), some (.int (nI g)), some (.long (lN (mp 16 (mz m 22) 10))), none, none, some (.int (nI t))] [.int (nI (bs (gdB m g) t))] (I, L, kr q w r1 r2) K := fun b => bM_barredBy_54 (bM_barredBy_55 (by
      rw [b] at ih
      rw [nI_1, fa_lit 0, fa_or]
      exact ih))
    have rl := room_lt (m := m) (f := mz m 22) (t := t)
    refine bM_barredBy_13 ⟨pk_in 1 212 (by decide), pk_le (m 1) t (fun z => absurd z (by omega)) (fun _ => bM_barredBy_24 (m_roomFor hn hw (by omega) hmk (bM_barredBy_33 ⟨fun b => no ?_, fun b => bM_barredBy_36 ?_⟩))) e1⟩
    · have e2 : Nat.beq (room m (mz m 22) t) 0 = false := Bool.eq_false_iff.mpr fun c => b (by rw [beq_iff.mp c]; rfl)
      unfold gdB
      rw [e2]
      rfl
    · have hr : room m (mz m 22) t = 0 := (nI_eq (b := 0) (by omega) (by decide)).mp b
      refine m_bars hn hw (by omega) hg hmk hr (bM_barredBy_44 (cb0 (fun c => bM_barredBy_47 (bM_barredBy_55 ?_)) (fun c => no ?_)))
      · have e2 : gdB m g t = true := by
          unfold gdB
          rw [c, hr]
          rfl
        rw [e2] at ih
        rw [sh1 t (by omega), fa_or, nI_1]
        exact ih
      · unfold gdB
        rw [c, Bool.and_false]
theorem mn_ge {g : Nat → Nat} {b : Nat} : ∀ n, (b ≤ mn g n ↔ ∀ j, j ≤ n → b ≤ g j)
  | 0 => ⟨fun h j hj => by rw [show j = 0 by omega]; exact h, fun h => h 0 (Nat.le_refl _)⟩
  | n + 1 => by
    have ih := mn_ge (g := g) (b := b) n
    have e : mn g (n + 1) = if g (n + 1) < mn g n then g (n + 1) else mn g n := rfl
    constructor
    · intro h j hj
      rw [e] at h
      by_cases z : g (n + 1) < mn g n
      · rw [if_pos z] at h
        by_cases y : j = n + 1
        · rw [y]
          exact h
        · exact ih.mp (by omega) j (by omega)
      · rw [if_neg z] at h
        by_cases y : j = n + 1
        · rw [y]
          omega
        · exact ih.mp h j (by omega)
    · intro h
      have a := ih.mpr fun j hj => h j (by omega)
      have b := h (n + 1) (Nat.le_refl _)
      rw [e]
      split <;> omega
theorem m_isNeedless {g : Nat} (hn : nN I m) (hw : wb m) (hl' : ∀ p, p < m 0 → m (12 + p) ≤ m (2 + p)) (hg : g < 5) (h : ∀ I' L', fS I L I' L' → K (some (.int (if m (206 + g) ≤ mn (sg (gl0 m g) (m (201 + g))) ((gl0 m g).1 - 1) then 1 else 0))) (I', L', kr q w r1 r2)) : kC sh kp 134 [.ref 71, .int (nI g)] (I, L, kr q w r1 r2) K := by
  have hgl := gl0_gl (g := g) hw
  have h200 := hgl.2.1
  have h1 := hgl.1
  have b7 := hw.2.2.2.2.2.2.2 g hg
  have eb : nI g = bI g := by
    unfold bI
    rw [if_pos hg]
  refine ⟨rfl, bM_isNeedless_0 (m_home hn hw hl' (bM_isNeedless_8 ⟨rfl, ?_⟩))⟩
  rw [eb]
  refine m_searches (b := g) hn hw (by omega) (hc_vc hw) fun I1 L1 n1 g2 g3 => bM_isNeedless_12 ?_
  rw [← eb]
  have h := h I1 L1 g2
  have hS : mS I1 L1 (gl0 m g) := g3
  have i201 := ix_p (c := 201) (p := g) (by omega)
  have i206 := ix_p (c := 206) (p := g) (by omega)
  generalize gl0 m g = l at h hgl h200 h1 hS
  refine up0 (Pr := fun i => ∀ x : Int32, ((x = 1 ∧ ∀ j, j < i → m (206 + g) ≤ sg l (m (201 + g)) j) ∨ (x = 0 ∧ ∃ j, j < l.1 ∧ sg l (m (201 + g)) j < m (206 + g))) → kW sh kp 134 16 [some (.ref 71), some (.int (nI g)), some (.int x), some (.int (nI i))] [] (I1, L1, kr q w r1 r2) K) (e := l.1) ?_ (fun i hi ih => ?_) 1 (Or.inl ⟨rfl, fun j hj => absurd hj (by omega)⟩)
  · intro x hx
    refine bM_isNeedless_16 (pk_le l.1 l.1 (fun _ => bM_isNeedless_73 ?_) (fun z => absurd z (by omega)) hS.1)
    rcases hx with ⟨e, ha⟩ | ⟨e, j, hj, ha⟩
    · rw [if_pos ((mn_ge _).mpr fun j hj => ha j (by omega))] at h
      rw [e]
      exact ⟨Or.inr rfl, h⟩
    · rw [if_neg (fun z => by have := (mn_ge _).mp z j (by omega); omega)] at h
      rw [e]
      exact ⟨Or.inl rfl, h⟩
  · intro x hx
    have bi : sg l (m (201 + g)) i ≤ 150 := sg_le hgl.2 hi
    have zero : (∃ j, j < l.1 ∧ sg l (m (201 + g)) j < m (206 + g)) → kW sh kp 134 65 [some (.ref 71), some (.int (nI g)), none, some (.int (nI i))] [] (I1, L1, kr q w r1 r2) K := fun z => bM_isNeedless_65 (bM_isNeedless_66 (by
      rw [nI_1]
      exact ih 0 (Or.inr ⟨rfl, z⟩)))
    refine bM_isNeedless_16 (pk_le l.1 i (fun z => absurd z (by omega)) (fun _ => bM_isNeedless_24 ⟨fun z => zero ?_, fun z => bM_isNeedless_28 ?_⟩) hS.1)
    · rcases hx with ⟨e, ha⟩ | ⟨e, ha⟩
      · rw [e] at z
        exact absurd z (by decide)
      · exact ha
    · have hx1 : ∀ j, j < i → m (206 + g) ≤ sg l (m (201 + g)) j := by
        rcases hx with ⟨e, ha⟩ | ⟨e, ha⟩
        · exact ha
        · exact absurd e z
      rw [nI_clamp (by omega), (hS.2 i hi).1, fa_lit 201, i201.1, n1 _ (by omega)]
      refine ⟨vp_in_nI (by omega) (by decide), i201.2, m_together n1 hw.1 (by omega) (hgl.2.2.1 i hi).1.1 (bM_isNeedless_48 ?_)⟩
      rw [fa_lit 206, i206.1, n1 _ (by omega)]
      refine ⟨i206.2, pk_lt (sg l (m (201 + g)) i) (m (206 + g)) (fun a => zero ⟨i, hi, a⟩) (fun a => bM_isNeedless_61 (bM_isNeedless_66 ?_))⟩
      rw [nI_1]
      refine ih 1 (Or.inl ⟨rfl, fun j hj => ?_⟩)
      by_cases e : j = i
      · rw [e]
        exact a
      · exact hx1 j (by omega)
theorem x_guardOf_n {g y : Nat} (hy : y ≤ 4) (hs : sw s) (hc' : cI I L q w r1 r2 s) (hg : g < s.1 200) (h : ∀ I' L', cI I' L' q w r1 r2 s → fM I L I' L' → K (some (.int (nI (gdL s.1 (gl0 s.1 g) g y)))) (I', L', kr q w r1 r2)) : kW sh kp 27 24 [some (.ref 0), some (.int (nI g)), some (.int (nI y)), none] [] (I, L, kr q w r1 r2) K := by
  have w2 := hs.1.1.2.2.1
  have hgl := gl0_gl (g := g) hs.1.1
  have b7 := hs.1.1.2.2.2.2.2.2.2 g (by omega)
  have hRg := hc'.1.2.2.2.2.2.2.2.2 g hg
  have vg : vp_in (nI g) 5 := vp_in_nI (by omega) (by decide)
  have fin := h I L hc' fM_refl
  refine bX_guardOf_24 ?_
  rw [nI_clamp (by omega), hRg.1]
  refine ⟨vg, fun a => bX_guardOf_64 ?_, fun a => bX_guardOf_66 ⟨vg, ?_⟩, fun a => bX_guardOf_76 ?_, fun a => bX_guardOf_88 ?_, fun a => bX_guardOf_97 ?_⟩
  · rw [(nI_eq (b := 0) (by omega) (by decide)).mp a] at fin
    exact fin
  · rw [(nI_eq (b := 1) (by omega) (by decide)).mp a] at fin
    rw [nI_clamp (by omega), hRg.2]
    exact fin
  · rw [(nI_eq (b := 2) (by omega) (by decide)).mp a] at fin
    rw [hc'.1.2.2.2.2.2.2.1]
    exact s_sumIn (fun p hp => mz32 hs.1.1 (by omega) p hp) (bX_guardOf_87 fin)
  · rw [(nI_eq (b := 3) (by omega) (by decide)).mp a] at fin
    exact c_barredBy hc'.1 hs.1.1 hg (bX_guardOf_96 fin)
  · have a3 := nI_ne (b := 3) a.1
    have a2 := nI_ne (b := 2) a.2.1
    have a1 := nI_ne (b := 1) a.2.2.1
    have a0 := nI_ne (b := 0) a.2.2.2.1
    have hy4 : y = 4 := by omega
    have eb : nI g = bI g := by
      unfold bI
      rw [if_pos (by omega)]
    refine c_home hc'.1 hs.1.2.1 (bX_guardOf_112 ?_)
    rw [eb]
    refine c_spread_a (b := g) (c := hc s.1) hc'.1 hs.1.1 (by omega) (hc_vc hs.1.1) (Or.inl rfl) (fun I' L' u g1 g2 => bX_guardOf_119 (c_least_a (s := gl0 s.1 g) hgl.2 hgl.1 g1.2.2.2.1 (bX_guardOf_127 ?_))) (fun g' z1 z2 => ?_)
    · have hcf := cI_fP hs hc' g1.2.1
      have fin := h I' L' hcf.1 hcf.2
      have hRg' := g1.1.2.2.2.2.2.2.2.2 g hg
      have bm := mn_le2 (g := sg (gl0 s.1 g) (s.1 (201 + g))) (b := 150) ((gl0 s.1 g).1 - 1) (fun j hj => sg_le hgl.2 (by have := hgl.1; omega))
      rw [← eb, nI_clamp (by omega), hRg'.2]
      have eg : gdL s.1 (gl0 s.1 g) g y = if s.1 (206 + g) ≤ mn (sg (gl0 s.1 g) (s.1 (201 + g))) ((gl0 s.1 g).1 - 1) then 1 else 0 := by
        unfold gdL
        rw [if_neg a0, if_neg a1, if_neg a2, if_neg a3]
      rw [eg] at fin
      refine ⟨vg, pk_lt (mn (sg (gl0 s.1 g) (s.1 (201 + g))) ((gl0 s.1 g).1 - 1)) (s.1 (206 + g)) (fun b => bX_guardOf_143 (bX_guardOf_144 ?_)) (fun b => bX_guardOf_139 (bX_guardOf_144 ?_))⟩
      · rw [if_neg (by omega)] at fin
        exact fin
      · rw [if_pos b] at fin
        exact fin
    · have : (lN g').toInt = (g' : Int) := pk_lT (Nat.lt_trans (vc_lt z2) (by decide))
      rw [← z1] at this
      have e : (-1 : Int64).toInt = -1 := by decide
      omega
theorem x_guardOf {x y : Int32} (hs : sw s) (hc' : cI I L q w r1 r2 s) : kC sh kp 27 [.ref 0, .int x, .int y] (I, L, kr q w r1 r2) (cT (o_guardOf x y s) I L) := by
  have w2 := hs.1.1.2.2.1
  have bad : (okr x 0 ((s.1 200 : Int) - 1) && okr y 0 4) = false → kW sh kp 27 17 [some (.ref 0), none, none, none] [] (I, L, kr q w r1 r2) (cT (o_guardOf x y s) I L) := fun e => bX_guardOf_17 (x_bad hs hc' fun I' g1 g2 => bX_guardOf_23 (by
    unfold o_guardOf
    rw [e]
    exact cP_mk g1 g2))
  refine ⟨rfl, bX_guardOf_0 (x_isGuard w2 hc'.1 (bX_guardOf_5 (cb0 (fun e1 => bX_guardOf_8 (c_in (a := 0) (b := 4) rfl rfl (bX_guardOf_14 (cb1 (fun e2 => ?_) (fun e2 => bad (by rw [e1, e2]; rfl)))))) (fun e1 => bad (by rw [e1]; rfl)))))⟩
  unfold o_guardOf
  rw [e1, e2, Bool.and_self, cond_true]
  obtain ⟨g, rfl, hgt, b1, b2⟩ := okr_e e1 (by decide)
  obtain ⟨v, rfl, hv, b3, b4⟩ := okr_e e2 (by decide)
  rw [hgt, hv]
  exact x_guardOf_n (by omega) hs hc' (by omega) fun I' L' g1 g2 => cP_mk g1 g2
theorem y_guardOf {x y : Int32} (hs : sw s) (hc' : mI I s) : kC sh kp 135 [.ref 71, .int x, .int y] (I, L, kr q w r1 r2) (mT (o_guardOf x y s) I L (kr q w r1 r2)) := by
  have w0 := hs.1.1.1
  have w2 := hs.1.1.2.2.1
  have bad : (okr x 0 ((s.1 200 : Int) - 1) && okr y 0 4) = false → kW sh kp 135 27 [some (.ref 71), none, none] [] (I, L, kr q w r1 r2) (mT (o_guardOf x y s) I L (kr q w r1 r2)) := fun e => bM_guardOf_27 (mm_bad hc' fun I' g1 g2 => bM_guardOf_31 (by
    unfold o_guardOf
    rw [e]
    exact mP_mk g1 g2))
  refine ⟨rfl, bM_guardOf_0 ⟨pk_in 200 212 (by decide), mm_in (a := 0) (b := (s.1 200 : Int) - 1) rfl (by rw [cl200, hc'.1 200 (by decide)]; exact nIm (by omega)) (bM_guardOf_15 (cb0 (fun e1 => bM_guardOf_18 (mm_in (a := 0) (b := 4) rfl rfl (bM_guardOf_24 (cb1 (fun e2 => bM_guardOf_32 ?_) (fun e2 => bad (by rw [e1, e2]; rfl)))))) (fun e1 => bad (by rw [e1]; rfl))))⟩⟩
  unfold o_guardOf
  rw [e1, e2, Bool.and_self, cond_true]
  obtain ⟨g, rfl, hgt, b1, b2⟩ := okr_e e1 (by decide)
  obtain ⟨y, rfl, hv, b3, b4⟩ := okr_e e2 (by decide)
  rw [hgt, hv]
  have i201 := ix_p (c := 201) (p := g) (by omega)
  have i206 := ix_p (c := 206) (p := g) (by omega)
  have b7 := hs.1.1.2.2.2.2.2.2.2 g (by omega)
  have fin : ∀ u, gdL s.1 (gl0 s.1 g) g y = u → mT (nI (gdL s.1 (gl0 s.1 g) g y), s) I L (kr q w r1 r2) (some (.int (nI u))) (I, L, kr q w r1 r2) := fun u hu => by
    rw [hu]
    exact mP_mk hc' fX_refl
  refine ⟨fun a => bM_guardOf_64 ?_, fun a => bM_guardOf_75 ?_, fun a => bM_guardOf_86 ?_, fun a => bM_guardOf_107 ?_, fun a => bM_guardOf_113 ?_⟩
  · rw [fa_lit 201, i201.1, hc'.1 _ (by omega)]
    exact ⟨i201.2, fin _ (by rw [(nI_eq (b := 0) (by omega) (by decide)).mp a]; rfl)⟩
  · rw [fa_lit 206, i206.1, hc'.1 _ (by omega)]
    exact ⟨i206.2, fin _ (by rw [(nI_eq (b := 1) (by omega) (by decide)).mp a]; rfl)⟩
  · refine m_tokensFrom (c := 22) (f := mz s.1 22) hc'.1 w0 (by decide) (fun p hp => if_pos hp) (nw_mk hs.1.1) (bM_guardOf_93 ?_)
    rw [fa_lit 201, i201.1, hc'.1 _ (by omega)]
    exact ⟨i201.2, rfl, m_together hc'.1 w0 (by omega) (nw_mk hs.1.1) (bM_guardOf_106 (fin _ (by rw [(nI_eq (b := 2) (by omega) (by decide)).mp a]; rfl)))⟩
  · exact m_barredBy hc'.1 hs.1.1 (by omega) (bM_guardOf_112 (fin _ (by rw [(nI_eq (b := 3) (by omega) (by decide)).mp a]; rfl)))
  · have a3 := nI_ne (b := 3) a.1
    have a2 := nI_ne (b := 2) a.2.1
    have a1 := nI_ne (b := 1) a.2.2.1
    have a0 := nI_ne (b := 0) a.2.2.2.1
    refine m_isNeedless hc'.1 hs.1.1 hs.1.2.1 (by omega) fun I' L' g2 => bM_guardOf_118 ?_
    have hm1 := mI_fS hc' g2
    have eg : gdL s.1 (gl0 s.1 g) g y = if s.1 (206 + g) ≤ mn (sg (gl0 s.1 g) (s.1 (201 + g))) ((gl0 s.1 g).1 - 1) then 1 else 0 := by
      unfold gdL
      rw [if_neg a0, if_neg a1, if_neg a2, if_neg a3]
    rw [eg]
    by_cases z : s.1 (206 + g) ≤ mn (sg (gl0 s.1 g) (s.1 (201 + g))) ((gl0 s.1 g).1 - 1)
    · rw [if_pos z, if_pos z]
      exact ⟨fun b => absurd b (by decide), fun _ => bM_guardOf_121 (bM_guardOf_126 (mP_mk hm1.1 hm1.2))⟩
    · rw [if_neg z, if_neg z]
      exact ⟨fun _ => bM_guardOf_125 (bM_guardOf_126 (mP_mk hm1.1 hm1.2)), fun b => absurd rfl b⟩
end GUARDS
