/-! TEXTS: the reference's reader, steps, lines, guards, texts -/
section MREADS2
variable {I : Nat → Nat → Int32} {L : Nat → Nat → Int64} {q r1 r2 : Nat → Nat} {w : Bool} {K : km_K} {m tx : Nat → Nat} {z a f : Nat}
theorem cAr_f {P k : Nat} {g : Nat → Nat} (h : f ≠ 0) : cAr tx z P k a f g = (a, f, g) := by
  cases k with
  | zero => rfl
  | succ k =>
    unfold cAr
    rw [if_neg (fun x => h x.1)]
theorem chI_d {c : Nat} (ht : ∀ i, i < z → tx i ≤ 127) (hc : 57 < c) (hc2 : c ≤ 127) (h : isd (chr tx z a) = true) : chI tx z a ≠ nI c := fun e => by
  have := (chI_c ht hc2).mp e
  have := isd_t h
  omega
theorem n_arcs_loop {P c0 : Nat} {ρ : (Nat → Nat) → Nat → Nat} (hP : P ≤ 10) (hc0 : c0 + 10 ≤ 212) (h0 : ∀ g, ρ g 0 = P) (hρ : ∀ g p, p < 10 → ρ g (c0 + p) = g p) (hu : ∀ g p v, p < 10 → ups (ρ g) (c0 + p) v = ρ (fun j => if j = p then v else g j)) (hz : z ≤ 120) (ht : ∀ i, i < z → tx i ≤ 127) : ∀ k a g I', z - a ≤ k → a ≤ z → sk tx z a = a → fN I I' → mR I' tx z (tp z a) → I' 71 28 = nI a → nR I' (ρ g) → (∀ j, g j ≤ 2) → ((cAr tx z P k a 0 g).2.1 = 0 → ∀ I2, fN I I2 → mR I2 tx z (tp z (cAr tx z P k a 0 g).1) → I2 71 28 = nI (cAr tx z P k a 0 g).1 → nR I2 (ρ (cAr tx z P k a 0 g).2.2) → sk tx z (cAr tx z P k a 0 g).1 = (cAr tx z P k a 0 g).1 → K (some (.int (chI tx z (cAr tx z P k a 0 g).1))) (I2, L, kr q w r1 r2)) → ((cAr tx z P k a 0 g).2.1 ≠ 0 → ∀ I2 v, fN I I2 → I2 71 28 = nI ((cAr tx z P k a 0 g).2.1 - 1) → v ≠ nI 62 → v ≠ nI 59 → K (some (.int v)) (I2, L, kr q w r1 r2)) → kW sh kp 149 5 [some (.ref 71), some (.int (nI c0)), some (.int (chI tx z a))] [] (I', L, kr q w r1 r2) K := fun k => by
  induction k with
  | zero =>
    intro a g I' hk ha hs f1 f2 f3 f4 hg h1 h2
    have en : chr tx z a = 128 := if_neg (by omega)
    have eo : okd tx z 0 (ρ g 0) a = false := by
      cases e : okd tx z 0 (ρ g 0) a with
      | false => rfl
      | true =>
        have := okd_t e
        have := h0 g
        omega
    refine bM_readsArcs_5 (n_isThere (m := ρ g) (f4 0 (by decide)) (by rw [h0]; exact hP) ht (bM_readsArcs_10 ?_))
    rw [eo]
    exact cb0 (fun y => absurd y (by decide)) (fun _ => bM_readsArcs_54 (h1 rfl I' f1 f2 f3 f4 hs))
  | succ k ih =>
    intro a g I' hk ha hs f1 f2 f3 f4 hg h1 h2
    unfold cAr at h1 h2
    refine bM_readsArcs_5 (n_isThere (m := ρ g) (f4 0 (by decide)) (by rw [h0]; exact hP) ht (bM_readsArcs_10 (cb0 (fun y => bM_readsArcs_13 ?_) (fun y => bM_readsArcs_54 ?_))))
    · rw [h0] at y
      have o := okd_v hP y
      have ed : isd (chr tx z a) = true := by
        have := okd_t y
        unfold isd
        rw [decide_eq_true (by omega), decide_eq_true (by omega)]
        rfl
      have ei : chI tx z a = nI (tx a) := if_pos o.2.2.2.1
      have eg : dv tx z 0 P a = tx a - 48 := o.1
      rw [if_pos ⟨rfl, ed⟩, eg, o.2.1, o.2.2.1 0] at h1 h2
      have hx := o.2.2.2.2
      have gd := hg (tx a - 48)
      have ix : nI c0 + chI tx z a - 48 = nI (c0 + (tx a - 48)) := by
        rw [ei, nI_add, show nI (c0 + tx a) - 48 = nI (c0 + tx a - 48) from pk_sub (b := 48) (by omega)]
        congr 1
        omega
      rw [ix, nI_clamp (by omega), f4 _ (by omega), hρ g _ (by omega)]
      refine ⟨vp_in_nI (by omega) (by decide), (pk_eq (g (tx a - 48)) 2 (fun e2 => bM_readsArcs_28 ?_) (fun e2 => bM_readsArcs_31 ?_)).symm⟩
      · rw [if_pos (show 2 ≤ g (tx a - 48) by omega), cAr_f fl_n] at h2
        exact h2 (show fl 0 a ≠ 0 from fl_n) I' (-2) f1 f3 (by decide) (by decide)
      · rw [if_neg (show ¬ 2 ≤ g (tx a - 48) by omega)] at h1 h2
        rw [ix, nI_clamp (by omega), f4 _ (by omega), hρ g _ (by omega), nI_1]
        have et : tp z a = a + 1 := if_pos o.2.2.2.1
        rw [et] at f2
        have sa := sk_p (tx := tx) (z := z) (a := a + 1) (by omega)
        have N' : nR (km_up I' 89 (c0 + (tx a - 48)) (nI (g (tx a - 48) + 1))) (ρ (fun j => if j = tx a - 48 then g (tx a - 48) + 1 else g j)) := by
          rw [← hu g _ _ (by omega)]
          exact nR_up f4
        refine ⟨vp_in_nI (by omega) (by decide), vp_in_nI (by omega) (by decide), n_take (mR_89 f2 (fun b k z => up_a z)) hz ht (by omega) fun I2 g1 g2 g3 => bM_readsArcs_50 ?_⟩
        refine ih (sk tx z (a + 1)) _ I2 (by omega) sa.2.1 (sk_id sa.2.2) (fN_trans f1 (fN_trans (fN_89 fun b k z => up_a z) (fN_Y g1))) g2 g3 (nR_Y N' g1) (fun j => ?_) h1 h2
        show (if j = tx a - 48 then g (tx a - 48) + 1 else g j) ≤ 2
        have := hg j
        split <;> omega
    · rw [h0] at y
      cases ed : isd (chr tx z a) with
      | false =>
        rw [if_neg (fun x => by rw [ed] at x; exact absurd x.2 (by decide))] at h1
        exact h1 rfl I' f1 f2 f3 f4 hs
      | true =>
        have o := okd_n y
        rw [if_pos ⟨rfl, ed⟩, o.1, o.2.1, o.2.2 0] at h2
        have e0 : (if 2 ≤ g 0 then fl (fl 0 a) a else fl 0 a) = a + 1 := by
          split <;> rfl
        rw [e0, cAr_f (by omega)] at h2
        exact h2 (Nat.succ_ne_zero a) I' _ f1 f3 (chI_d ht (by decide) (by decide) ed) (chI_d ht (by decide) (by decide) ed)
theorem n_arcs {P c0 : Nat} {ρ : (Nat → Nat) → Nat → Nat} (hP : P ≤ 10) (hc0 : c0 + 10 ≤ 212) (h0 : ∀ g, ρ g 0 = P) (hρ : ∀ g p, p < 10 → ρ g (c0 + p) = g p) (hu : ∀ g p v, p < 10 → ups (ρ g) (c0 + p) v = ρ (fun j => if j = p then v else g j)) (hM : mR I tx z a) (hR : nR I (ρ (fun _ => 0))) (hz : z ≤ 120) (ht : ∀ i, i < z → tx i ≤ 127) (ha : a ≤ z)
    (h1 : (cAr tx z P 120 (sk tx z a) 0 (fun _ => 0)).2.1 = 0 → ∀ I2, fN I I2 → mR I2 tx z (tp z (cAr tx z P 120 (sk tx z a) 0 (fun _ => 0)).1) → I2 71 28 = nI (cAr tx z P 120 (sk tx z a) 0 (fun _ => 0)).1 → nR I2 (ρ (cAr tx z P 120 (sk tx z a) 0 (fun _ => 0)).2.2) → sk tx z (cAr tx z P 120 (sk tx z a) 0 (fun _ => 0)).1 = (cAr tx z P 120 (sk tx z a) 0 (fun _ => 0)).1 → K (some (.int (chI tx z (cAr tx z P 120 (sk tx z a) 0 (fun _ => 0)).1))) (I2, L, kr q w r1 r2))
    (h2 : (cAr tx z P 120 (sk tx z a) 0 (fun _ => 0)).2.1 ≠ 0 → ∀ I2 v, fN I I2 → I2 71 28 = nI ((cAr tx z P 120 (sk tx z a) 0 (fun _ => 0)).2.1 - 1) → v ≠ nI 62 → v ≠ nI 59 → K (some (.int v)) (I2, L, kr q w r1 r2)) : kC sh kp 149 [.ref 71, .int (nI c0)] (I, L, kr q w r1 r2) K := by
  have sa := sk_p (tx := tx) ha
  refine ⟨rfl, bM_readsArcs_0 (n_take hM hz ht ha fun I1 g1 g2 g3 => bM_readsArcs_4 ?_)⟩
  exact n_arcs_loop hP hc0 h0 hρ hu hz ht 120 (sk tx z a) _ I1 (by omega) sa.2.1 (sk_id sa.2.2) (fN_Y g1) g2 g3 (nR_Y hR g1) (fun _ => by decide) h1 h2
theorem xf_n {c f : Nat} (h : f ≠ 0) : xf tx z c a f = f := by
  unfold xf
  split
  · rfl
  · exact fl_0 h
theorem df_n {lo hi f : Nat} (h : f ≠ 0) : df tx z lo hi a f = f := by
  unfold df
  cases okd tx z lo hi a with
  | true => rfl
  | false => exact fl_0 h
theorem n_step (hM : mR I tx z (a + 1)) (hR : nR I m) (hw : wf m) (hz : z ≤ 120) (ht : ∀ i, i < z → tx i ≤ 127) (ha : a < z) (hp : m 1 < 8) (h : oM tx z (rS tx z m a) K q r1 r2 w I L) : kC sh kp 150 [.ref 71] (I, L, kr q w r1 r2) K := by
  have w0 := hw.1.1
  have s1 := sk_p (tx := tx) (z := z) (a := a + 1) (by omega)
  refine ⟨rfl, bM_readsStep_0 ⟨pk_in 1 212 (by decide), ?_⟩⟩
  rw [cl1, hR 1 (by decide)]
  refine (pk_eq (m 1) 8 (fun y => absurd y (by omega)) (fun _ => bM_readsStep_13 (n_take hM hz ht (by omega) fun I1 g1 g2 g3 => bM_readsStep_17 ?_))).symm
  have h : oM tx z (rS0 tx z m (sk tx z (a + 1))) K q r1 r2 w I L := h
  generalize sk tx z (a + 1) = b at s1 g2 g3 h
  refine mm_in (a := 48) (b := 57) rfl rfl (bM_readsStep_26 ?_)
  rw [show okr (chI tx z b) 48 57 = okd tx z 0 10 b from okr_okd (lo := 0) (hi := 10) ht (by decide)]
  -- a fault of the first arcs stays
  have keep2 : ∀ (c : Nat) (A : Nat × Nat × (Nat → Nat)), A.2.1 ≠ 0 → (rS1 tx z m c A).1 = A.2.1 := fun c A hA => by
    unfold rS1
    rw [xf_n hA, cAr_f hA]
    exact xf_n hA
  unfold rS0 at h
  refine cb1 (fun y => bM_readsStep_31 ?_) (fun y => bM_readsStep_29 ?_)
  · have o := okd_v (by decide) y
    have ei : chI tx z b = nI (tx b) := if_pos o.2.2.2.1
    have et : tp z b = b + 1 := if_pos o.2.2.2.1
    rw [o.1, o.2.1, o.2.2.1 0] at h
    rw [et] at g2
    rw [ei, show nI (tx b) - 48 = nI (tx b - 48) from pk_sub (b := 48) (by omega)]
    have hx := o.2.2.2.2
    have hb := o.2.2.2.1
    generalize tx b - 48 = c at h
    refine r_addsStep (m := m) (c := c) (nR_Y hR g1) hp fun I2 j1 j2 => bM_readsStep_42 ?_
    have M2 : mR I2 tx z (b + 1) := mR_89 g2 j1
    have e40 : (40 : Int32) + 10 * nI (m 1) = nI (40 + 10 * m 1) := by rw [fa_lit 40, fa_lit 10, pk_mul, nI_add]
    have e120 : (120 : Int32) + 10 * nI (m 1) = nI (120 + 10 * m 1) := by rw [fa_lit 120, fa_lit 10, pk_mul, nI_add]
    rw [e40]
    have p0 : ∀ ft fg, ads m c ft fg 0 = m 0 := fun ft fg => ads_o (by omega) (by omega) (by omega) (by omega)
    have fr2 : fN I I2 := fN_trans (fN_Y g1) (fN_89 j1)
    have sA := sk_p (tx := tx) (z := z) (a := b + 1) (by omega)
    have pA := cAr_p (tx := tx) (z := z) w0 120 (sk tx z (b + 1)) 0 (fun _ => 0) sA.2.1 (by omega) (fun _ => by decide) (fun _ _ => rfl)
    refine n_arcs (P := m 0) (c0 := 40 + 10 * m 1) (ρ := fun g => ads m c g (fun _ => 0)) w0 (by omega) (fun g => p0 _ _) (fun g p hp' => ads_t hp') (fun g p v hp' => ads_ups hp hp') M2 j2 hz ht (by omega) (fun eA I3 k1 k2 k3 k4 k5 => bM_readsStep_54 ?_) (fun eA I3 v k1 k2 k3 k4 => bM_readsStep_54 ⟨fun _ => bM_readsStep_75 ?_, fun y2 => absurd y2 k3⟩)
    · generalize cAr tx z (m 0) 120 (sk tx z (b + 1)) 0 (fun _ => 0) = A at pA eA k2 k3 k4 k5 h
      have k4 : nR I3 (ads m c A.2.2 (fun _ => 0)) := k4
      unfold rS1 at h
      have exA : xa tx z 62 A.1 = if chr tx z A.1 = 62 then A.1 + 1 else A.1 := by
        unfold xa
        rw [k5]
      have efA : xf tx z 62 A.1 A.2.1 = if chr tx z A.1 = 62 then 0 else A.1 + 1 := by
        unfold xf
        rw [k5, eA]
        rfl
      rw [exA, efA] at h
      refine ⟨fun y2 => bM_readsStep_75 ?_, fun y2 => bM_readsStep_59 ?_⟩
      · have nc : ¬ chr tx z A.1 = 62 := fun e => y2 ((chI_c ht (by decide)).mpr e)
        rw [if_neg nc, if_neg nc, cAr_f (Nat.succ_ne_zero _)] at h
        have e0 : (rS2 tx z m c A (sk tx z A.1, A.1 + 1, fun _ => 0)).1 = A.1 + 1 := xf_n (Nat.succ_ne_zero _)
        refine h.2 (by rw [e0]; omega) I3 (fN_trans fr2 k1) ?_
        rw [e0]
        exact k3
      · obtain ⟨l, el⟩ := chI_59 ht (c := 62) (by decide) y2
        have ec : chr tx z A.1 = 62 := (if_pos l : chr tx z A.1 = tx A.1).trans el
        rw [if_pos ec, if_pos ec] at h
        rw [show tp z A.1 = A.1 + 1 from if_pos l] at k2
        rw [e120]
        have sB := sk_p (tx := tx) (z := z) (a := A.1 + 1) (by omega)
        have pB := cAr_p (tx := tx) (z := z) w0 120 (sk tx z (A.1 + 1)) 0 (fun _ => 0) sB.2.1 (by omega) (fun _ => by decide) (fun _ _ => rfl)
        refine n_arcs (P := m 0) (c0 := 120 + 10 * m 1) (ρ := fun g => ads m c A.2.2 g) w0 (by omega) (fun g => p0 _ _) (fun g p hp' => ads_g hp hp') (fun g p v hp' => ads_upg hp hp') k2 k4 hz ht (by omega) (fun eB I4 l1 l2 l3 l4 l5 => bM_readsStep_70 ?_) (fun eB I4 v l1 l2 l3 l4 => bM_readsStep_70 ⟨fun y3 => absurd y3 l4, fun _ => bM_readsStep_75 ?_⟩)
        · generalize cAr tx z (m 0) 120 (sk tx z (A.1 + 1)) 0 (fun _ => 0) = B at pB eB l2 l3 l4 l5 h
          have l4 : nR I4 (ads m c A.2.2 B.2.2) := l4
          unfold rS2 at h
          have exB : xa tx z 59 B.1 = if chr tx z B.1 = 59 then B.1 + 1 else B.1 := by
            unfold xa
            rw [l5]
          have efB : xf tx z 59 B.1 B.2.1 = if chr tx z B.1 = 59 then 0 else B.1 + 1 := by
            unfold xf
            rw [l5, eB]
            rfl
          rw [exB, efB] at h
          have fr4 := fN_trans fr2 (fN_trans k1 l1)
          refine ⟨fun y3 => bM_readsStep_77 ?_, fun y3 => bM_readsStep_75 ?_⟩
          · obtain ⟨l', el'⟩ := chI_59 ht (c := 59) (by decide) y3
            have ec' : chr tx z B.1 = 59 := (if_pos l' : chr tx z B.1 = tx B.1).trans el'
            rw [if_pos ec', if_pos ec', if_pos rfl] at h
            rw [show tp z B.1 = B.1 + 1 from if_pos l'] at l2
            refine r_settles l4 (by rw [p0]; exact w0) fun I5 n1 n2 => bM_readsStep_84 ?_
            exact h.1 rfl I5 (fN_trans fr4 (fN_89 n1)) (mR_89 l2 n1) n2
          · have nc : ¬ chr tx z B.1 = 59 := fun e => y3 ((chI_c ht (by decide)).mpr e)
            rw [if_neg nc, if_neg nc] at h
            exact h.2 (Nat.succ_ne_zero _) I4 fr4 l3
        · have e0 : (rS2 tx z m c A (cAr tx z (m 0) 120 (sk tx z (A.1 + 1)) 0 (fun _ => 0))).1 = (cAr tx z (m 0) 120 (sk tx z (A.1 + 1)) 0 (fun _ => 0)).2.1 := xf_n eB
          refine h.2 (by rw [e0]; exact eB) I4 (fN_trans fr2 (fN_trans k1 l1)) ?_
          rw [e0]
          exact l2
    · refine h.2 (by rw [keep2 _ _ eA]; exact eA) I3 (fN_trans fr2 k1) ?_
      rw [keep2 _ _ eA]
      exact k2
  · have o := okd_n y
    rw [o.2.2 0, cAr_f (fl_n)] at h
    have e0 := keep2 (dv tx z 0 10 b) (sk tx z (da tx z 0 10 b), fl 0 b, fun _ => 0) (show fl 0 b ≠ 0 from fl_n)
    refine h.2 (by rw [e0]; exact (show fl 0 b ≠ 0 from fl_n)) I1 (fN_Y g1) ?_
    rw [e0]
    exact g3
end MREADS2
