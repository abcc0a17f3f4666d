/-! CALLS: place, step, start, cost, anew, keeper -/
def o_place (v : Int32) (s : ast) : Int32 × ast := cond (okr v 0 15) (if s.1 0 < 10 then (nI (s.1 0), a_ch s (stl (adp s.1 (tn v)))) else a_full s) (a_bad s)
def o_step (v : Int32) (s : ast) : Int32 × ast := cond (okr v 0 9) (if s.1 1 < 8 then (nI (s.1 1), a_ch s (stl (ads s.1 (tn v) (fun _ => 0) (fun _ => 0)))) else a_full s) (a_bad s)
def o_start (x v : Int32) (s : ast) : Int32 × ast := cond (okr x 0 ((s.1 0 : Int) - 1)) (cond (okr v 0 15) (nI (s.1 (2 + tn x)), a_ch s (stl (ups s.1 (2 + tn x) (tn v)))) (a_bad s)) (a_bad s)
def o_cost (x v : Int32) (s : ast) : Int32 × ast := cond (okr x 0 ((s.1 1 : Int) - 1)) (cond (okr v 0 9) (nI (s.1 (32 + tn x)), a_ch s (ups s.1 (32 + tn x) (tn v))) (a_bad s)) (a_bad s)
def o_anew (s : ast) : Int32 × ast := (nI (s.1 0), a_ch s (stl (ups (ups (ups s.1 0 0) 1 0) 211 0)))
def o_keeper (v : Int32) (s : ast) : Int32 × ast := cond (okr v 0 1) (nI (s.1 211), a_ch s (ups s.1 211 (tn v))) (a_bad s)
theorem ups_s {f : Nat → Nat} {n v : Nat} : ups f n v n = v := if_pos rfl
theorem ups_o {f : Nat → Nat} {n v j : Nat} (h : j ≠ n) : ups f n v j = f j := if_neg h
theorem adp_0 {m : Nat → Nat} {v : Nat} : adp m v 0 = m 0 + 1 := ups_s
theorem adp_n {m : Nat → Nat} {v : Nat} : adp m v (2 + m 0) = v := by
  unfold adp
  rw [ups_o (by omega), ups_s]
theorem wb_adp {m : Nat → Nat} {v : Nat} (h : wb m) (hp : m 0 < 10) (hv : v ≤ 15) : wb (adp m v) := by
  obtain ⟨w0, w1, w2, w3, w4, w5, w6, w7⟩ := h
  have e : ∀ k, 12 ≤ k → adp m v k = m k := fun k hk => adp_o (by omega) (by omega)
  refine ⟨by rw [adp_0]; omega, by rw [adp_o (by decide) (by omega)]; exact w1, by rw [e _ (by decide)]; exact w2, by rw [e _ (by decide)]; exact w3, fun p hp => ⟨?_, by rw [e _ (by omega)]; exact (w4 p hp).2.1, by rw [e _ (by omega)]; exact (w4 p hp).2.2⟩, fun t p ht hp => ⟨by rw [e _ (by omega)]; exact (w5 t p ht hp).1, by rw [e _ (by omega)]; exact (w5 t p ht hp).2⟩, fun t ht => by rw [e _ (by omega)]; exact w6 t ht, fun g hg => ⟨by rw [e _ (by omega)]; exact (w7 g hg).1, by rw [e _ (by omega)]; exact (w7 g hg).2⟩⟩
  by_cases g : p = m 0
  · rw [g, adp_n]
    exact hv
  · rw [adp_o (by omega) (by omega)]
    exact (w4 p hp).1
theorem wz_adp {m : Nat → Nat} {v : Nat} (hp : m 0 < 10) (hz : ∀ t p, t < m 1 → m 0 ≤ p → p < 10 → m (40 + 10 * t + p) = 0 ∧ m (120 + 10 * t + p) = 0) : ∀ t p, t < adp m v 1 → adp m v 0 ≤ p → p < 10 → adp m v (40 + 10 * t + p) = 0 ∧ adp m v (120 + 10 * t + p) = 0 := fun t p h1 h2 h3 => by
  rw [adp_0] at h2
  rw [adp_o (by decide) (by omega)] at h1
  rw [adp_o (by omega) (by omega), adp_o (by omega) (by omega)]
  exact hz t p h1 (by omega) h3
theorem wb_ads {m : Nat → Nat} {c : Nat} {ft fg : Nat → Nat} (h : wb m) (hs : m 1 < 8) (hc : c ≤ 9) (hft : ∀ p, p < 10 → ft p ≤ 2 ∧ fg p ≤ 2) : wb (ads m c ft fg) := by
  obtain ⟨w0, w1, w2, w3, w4, w5, w6, w7⟩ := h
  have e : ∀ k, k ≠ 1 → (k < 32 ∨ 200 ≤ k) → ads m c ft fg k = m k := fun k h1 hk => ads_o (by omega) (by omega) (by omega) (by omega)
  refine ⟨by rw [e _ (by decide) (by omega)]; exact w0, by rw [ads_1]; omega, by rw [e _ (by decide) (by omega)]; exact w2, by rw [e _ (by decide) (by omega)]; exact w3, fun p hp => ⟨by rw [e _ (by omega) (by omega)]; exact (w4 p hp).1, by rw [e _ (by omega) (by omega)]; exact (w4 p hp).2.1, by rw [e _ (by omega) (by omega)]; exact (w4 p hp).2.2⟩, fun t p ht hp => ⟨?_, ?_⟩, fun t ht => ?_, fun g hg => ⟨by rw [e _ (by omega) (by omega)]; exact (w7 g hg).1, by rw [e _ (by omega) (by omega)]; exact (w7 g hg).2⟩⟩
  · by_cases g : t = m 1
    · rw [g, ads_t hp]
      exact (hft p hp).1
    · rw [ads_o (by omega) (by omega) (by omega) (by omega)]
      exact (w5 t p ht hp).1
  · by_cases g : t = m 1
    · rw [g, ads_g hs hp]
      exact (hft p hp).2
    · rw [ads_o (by omega) (by omega) (by omega) (by omega)]
      exact (w5 t p ht hp).2
  · by_cases g : t = m 1
    · rw [g, ads_c]
      exact hc
    · rw [ads_o (by omega) (by omega) (by omega) (by omega)]
      exact w6 t ht
theorem wz_ads {m : Nat → Nat} {c : Nat} {ft fg : Nat → Nat} (hs : m 1 < 8) (hf : ∀ p, m 0 ≤ p → ft p = 0 ∧ fg p = 0) (hz : ∀ t p, t < m 1 → m 0 ≤ p → p < 10 → m (40 + 10 * t + p) = 0 ∧ m (120 + 10 * t + p) = 0) : ∀ t p, t < ads m c ft fg 1 → ads m c ft fg 0 ≤ p → p < 10 → ads m c ft fg (40 + 10 * t + p) = 0 ∧ ads m c ft fg (120 + 10 * t + p) = 0 := fun t p h1 h2 h3 => by
  rw [ads_1] at h1
  rw [ads_o (by omega) (by omega) (by omega) (by omega)] at h2
  by_cases g : t = m 1
  · rw [g, ads_t h3, ads_g hs h3]
    exact hf p h2
  · rw [ads_o (by omega) (by omega) (by omega) (by omega), ads_o (by omega) (by omega) (by omega) (by omega)]
    exact hz t p (by omega) h2 h3
/-- one number of the row is changed -/
theorem wb_ups {m : Nat → Nat} {k v : Nat} (h : wb m) (h0 : k = 0 → v ≤ 10) (h1 : k = 1 → v ≤ 8) (h2 : 2 ≤ k → k < 32 → v ≤ 15) (h3 : 32 ≤ k → k < 40 → v ≤ 9) (h4 : 40 ≤ k → k < 200 → v ≤ 2) (h5 : k = 200 → v ≤ 5) (h6 : 201 ≤ k → k < 206 → v < 1024) (h7 : 206 ≤ k → k < 211 → v ≤ 9) (h8 : k = 211 → v ≤ 1) : wb (ups m k v) := by
  obtain ⟨w0, w1, w2, w3, w4, w5, w6, w7⟩ := h
  have e : ∀ j (P : Nat → Prop), (j = k → P v) → P (m j) → P (ups m k v j) := fun j P h1 h2 => by
    unfold ups
    by_cases g : j = k
    · rw [if_pos g]
      exact h1 g
    · rw [if_neg g]
      exact h2
  refine ⟨?_, ?_, ?_, ?_, fun p hp => ⟨?_, ?_, ?_⟩, fun t p ht hp => ⟨?_, ?_⟩, fun t ht => ?_, fun g hg => ⟨?_, ?_⟩⟩
  · exact e _ (· ≤ 10) (fun _ => h0 (by omega)) (w0)
  · exact e _ (· ≤ 8) (fun _ => h1 (by omega)) (w1)
  · exact e _ (· ≤ 5) (fun _ => h5 (by omega)) (w2)
  · exact e _ (· ≤ 1) (fun _ => h8 (by omega)) (w3)
  · exact e _ (· ≤ 15) (fun _ => h2 (by omega) (by omega)) ((w4 p hp).1)
  · exact e _ (· ≤ 15) (fun _ => h2 (by omega) (by omega)) ((w4 p hp).2.1)
  · exact e _ (· ≤ 15) (fun _ => h2 (by omega) (by omega)) ((w4 p hp).2.2)
  · exact e _ (· ≤ 2) (fun _ => h4 (by omega) (by omega)) ((w5 t p ht hp).1)
  · exact e _ (· ≤ 2) (fun _ => h4 (by omega) (by omega)) ((w5 t p ht hp).2)
  · exact e _ (· ≤ 9) (fun _ => h3 (by omega) (by omega)) (w6 t ht)
  · exact e _ (· < 1024) (fun _ => h6 (by omega) (by omega)) ((w7 g hg).1)
  · exact e _ (· ≤ 9) (fun _ => h7 (by omega) (by omega)) ((w7 g hg).2)
theorem mz_ups {m : Nat → Nat} {c k v : Nat} (hw : m 0 ≤ 10) (h0 : k ≠ 0) (h : k < c ∨ c + 10 ≤ k) : mz (ups m k v) c = mz m c := funext fun p => by
  unfold mz
  rw [ups_o (Ne.symm h0)]
  by_cases g : p < m 0
  · rw [if_pos g, if_pos g]
    exact ups_o (by omega)
  · rw [if_neg g, if_neg g]
theorem mz_upd {m : Nat → Nat} {c p v : Nat} (hc : 2 ≤ c) (hp : p < m 0) : mz (ups m (c + p) v) c = fun j => if j = p then v else mz m c j := funext fun j => by
  unfold mz
  rw [ups_o (by omega)]
  by_cases e : j = p
  · rw [if_pos e, e, if_pos hp, ups_s]
  · rw [if_neg e]
    by_cases g : j < m 0
    · rw [if_pos g, if_pos g]
      exact ups_o (by omega)
    · rw [if_neg g, if_neg g]
theorem w_place {v : Int32} {s : ast} (h : sw s) : sw (o_place v s).2 := by
  unfold o_place
  cases e : okr v 0 15 with
  | false => exact h
  | true =>
    show sw (ite _ _ _ : Int32 × ast).2
    have b := okr_n e (by decide)
    split
    · rename_i g
      exact sw_ch h (wf_stl (wb_adp h.1.1 g (by omega)) (wz_adp g h.1.2.2))
    · exact h
theorem w_step {v : Int32} {s : ast} (h : sw s) : sw (o_step v s).2 := by
  unfold o_step
  cases e : okr v 0 9 with
  | false => exact h
  | true =>
    show sw (ite _ _ _ : Int32 × ast).2
    have b := okr_n e (by decide)
    split
    · rename_i g
      exact sw_ch h (wf_stl (wb_ads h.1.1 g (by omega) (fun _ _ => by omega)) (wz_ads g (fun _ _ => ⟨rfl, rfl⟩) h.1.2.2))
    · exact h
theorem w_start {x v : Int32} {s : ast} (h : sw s) : sw (o_start x v s).2 := by
  unfold o_start
  have w0 := h.1.1.1
  cases e : okr x 0 ((s.1 0 : Int) - 1) with
  | false => exact h
  | true =>
    cases e2 : okr v 0 15 with
    | false => exact h
    | true =>
      have b := okr_n e (by decide)
      have b2 := okr_n e2 (by decide)
      refine sw_ch h (wf_stl (wb_ups h.1.1 (by omega) (by omega) (by omega) (by omega) (by omega) (by omega) (by omega) (by omega) (by omega)) fun t p h1 h2 h3 => ?_)
      rw [ups_o (by omega)] at h1 h2
      rw [ups_o (by omega), ups_o (by omega)]
      exact h.1.2.2 t p h1 h2 h3
theorem wf_ups {m : Nat → Nat} {k v : Nat} (h : wf m) (hk : (32 ≤ k ∧ k < 40) ∨ 200 ≤ k) (hb : wb (ups m k v)) : wf (ups m k v) := by
  have w0 := h.1.1
  have w1 := h.1.2.1
  refine ⟨hb, fun p hp => ?_, fun t p h1 h2 h3 => ?_⟩
  · rw [ups_o (by omega)] at hp
    rw [ups_o (by omega), ups_o (by omega)]
    exact h.2.1 p hp
  · rw [ups_o (by omega)] at h1 h2
    rw [ups_o (by omega), ups_o (by omega)]
    exact h.2.2 t p h1 h2 h3
theorem w_cost {x v : Int32} {s : ast} (h : sw s) : sw (o_cost x v s).2 := by
  unfold o_cost
  have w1 := h.1.1.2.1
  cases e : okr x 0 ((s.1 1 : Int) - 1) with
  | false => exact h
  | true =>
    cases e2 : okr v 0 9 with
    | false => exact h
    | true =>
      have b := okr_n e (by decide)
      have b2 := okr_n e2 (by decide)
      exact sw_ch h (wf_ups h.1 (by omega) (wb_ups h.1.1 (by omega) (by omega) (by omega) (by omega) (by omega) (by omega) (by omega) (by omega) (by omega)))
theorem w_keeper {v : Int32} {s : ast} (h : sw s) : sw (o_keeper v s).2 := by
  unfold o_keeper
  cases e2 : okr v 0 1 with
  | false => exact h
  | true =>
    have b2 := okr_n e2 (by decide)
    exact sw_ch h (wf_ups h.1 (by omega) (wb_ups h.1.1 (by omega) (by omega) (by omega) (by omega) (by omega) (by omega) (by omega) (by omega) (by omega)))
theorem w_anew {s : ast} (h : sw s) : sw (o_anew s).2 := by
  have a := wb_ups (k := 0) (v := 0) h.1.1 (by omega) (by omega) (by omega) (by omega) (by omega) (by omega) (by omega) (by omega) (by omega)
  have b := wb_ups (k := 1) (v := 0) a (by omega) (by omega) (by omega) (by omega) (by omega) (by omega) (by omega) (by omega) (by omega)
  have c := wb_ups (k := 211) (v := 0) b (by omega) (by omega) (by omega) (by omega) (by omega) (by omega) (by omega) (by omega) (by omega)
  refine sw_ch h (wf_stl c fun t p h1 => ?_)
  rw [ups_o (by decide), ups_s] at h1
  exact absurd h1 (by omega)
theorem okr_e {v : Int32} {a b : Int} (h : okr v a b = true) (ha : 0 ≤ a) : ∃ n : Nat, v = nI n ∧ tn v = n ∧ a ≤ (n : Int) ∧ (n : Int) ≤ b := ⟨tn v, (okr_n h ha).1, rfl, (okr_n h ha).2⟩
section OPS1
variable {I : Nat → Nat → Int32} {L : Nat → Nat → Int64} {q r1 r2 : Nat → Nat} {w : Bool} {s : ast}
theorem x_place {v : Int32} (hs : sw s) (hc : cI I L q w r1 r2 s) : kC sh kp 0 [.ref 0, .int v] (I, L, kr q w r1 r2) (cT (o_place v s) I L) := by
  have w0 := hs.1.1.1
  have w1 := hs.1.1.2.1
  refine ⟨rfl, bX_place_0 (c_in (a := 0) (b := 15) rfl rfl (bX_place_7 (cb1 (fun e => bX_place_17 ?_) (fun e => bX_place_10 (x_bad hs hc fun I' g1 g2 => bX_place_16 ?_)))))⟩
  · refine pk_lt (s.1 0) 10 (fun g => bX_place_36 ?_) (fun g => bX_place_29 (x_full hs hc fun I' g1 g2 => bX_place_35 ?_)) hc.1.1
    · have er : o_place v s = (nI (s.1 0), a_ch s (stl (adp s.1 (tn v)))) := by
        unfold o_place
        rw [e]
        exact if_pos g
      rw [er]
      obtain ⟨n, rfl, htn, b1, b2⟩ := okr_e e (by decide)
      rw [htn]
      refine x_save hs hc fun I1 L1 q1 g1 g2 g3 => bX_place_40 (c_addPlace (m := s.1) (cR_0 g1.1) hs.1.1 g (by omega) (fun t ht => hs.1.2.2 t _ ht (Nat.le_refl _) g) fun I2 L2 f1 f2 f3 => bX_place_48 (x_renew (sw_sv hs).2.1 g1 (fun a k z => f1 a k (fun _ => by omega)) (fun a k z => f2 a k (fun _ => by omega)) f3 (by rw [adp_0]; omega) (by rw [adp_o (by decide) (by omega)]; exact w1) fun I3 L3 j1 j2 j3 j4 => bX_place_52 ?_))
      rw [j3, adp_0, nI_pred]
      exact cP_mk j1 (fM_trans g3 (fM_trans ⟨fun a k z1 z2 => f1 a k (fun _ => by omega), fun a k z1 z2 => f2 a k (fun _ => by omega)⟩ j2))
    · have er : o_place v s = a_full s := by
        unfold o_place
        rw [e]
        exact if_neg (by omega)
      rw [er]
      exact cP_mk g1 g2
  · have er : o_place v s = a_bad s := by
      unfold o_place
      rw [e]
      rfl
    rw [er]
    exact cP_mk g1 g2
theorem y_place {v : Int32} (hs : sw s) (hc : mI I s) : kC sh kp 63 [.ref 71, .int v] (I, L, kr q w r1 r2) (mT (o_place v s) I L (kr q w r1 r2)) := by
  have w0 := hs.1.1.1
  have w1 := hs.1.1.2.1
  refine ⟨rfl, bM_place_0 (mm_in (a := 0) (b := 15) rfl rfl (bM_place_7 (cb1 (fun e => bM_place_15 ⟨pk_in 0 212 (by decide), ?_⟩) (fun e => bM_place_10 (mm_bad hc fun I' g1 g2 => bM_place_14 ?_)))))⟩
  · refine (pk_eq (s.1 0) 10 (fun g => bM_place_26 (mm_full hc fun I' g1 g2 => bM_place_30 ?_)) (fun g => bM_place_31 ?_) (by rw [cl0]; exact hc.1 0 (by decide))).symm
    · have er : o_place v s = a_full s := by
        unfold o_place
        rw [e]
        exact if_neg (by omega)
      rw [er]
      exact mP_mk g1 g2
    · have er : o_place v s = (nI (s.1 0), a_ch s (stl (adp s.1 (tn v)))) := by
        unfold o_place
        rw [e]
        exact if_pos (by omega)
      rw [er]
      obtain ⟨n, rfl, htn, b1, b2⟩ := okr_e e (by decide)
      rw [htn]
      have g : s.1 0 < 10 := by omega
      refine mm_save hs hc fun I1 g1 g2 => bM_place_35 (m_adds (m := s.1) g1.1 g fun I2 f1 f2 => bM_place_43 (mm_settles g1 f1 f2 (by rw [adp_0]; omega) fun I3 j1 j2 => bM_place_51 ⟨pk_in 0 212 (by decide), ?_⟩))
      rw [cl0, j1.1 0 (by decide), show (stl (adp s.1 n), (a_sv s).2).1 0 = s.1 0 + 1 from (sti_o (i := 10) (by decide) (by omega)).trans (adp_0 (v := n)), nI_pred]
      exact mP_mk j1 (fX_trans g2 (fX_trans ⟨fun a k z => f1 a k (by omega), fun _ _ _ => rfl⟩ j2))
  · have er : o_place v s = a_bad s := by
      unfold o_place
      rw [e]
      rfl
    rw [er]
    exact mP_mk g1 g2
theorem x_step {v : Int32} (hs : sw s) (hc : cI I L q w r1 r2 s) : kC sh kp 1 [.ref 0, .int v] (I, L, kr q w r1 r2) (cT (o_step v s) I L) := by
  have w0 := hs.1.1.1
  have w1 := hs.1.1.2.1
  refine ⟨rfl, bX_step_0 (c_in (a := 0) (b := 9) rfl rfl (bX_step_7 (cb1 (fun e => bX_step_17 ?_) (fun e => bX_step_10 (x_bad hs hc fun I' g1 g2 => bX_step_16 ?_)))))⟩
  · refine pk_lt (s.1 1) 8 (fun g => bX_step_36 ?_) (fun g => bX_step_29 (x_full hs hc fun I' g1 g2 => bX_step_35 ?_)) hc.1.2.1
    · have er : o_step v s = (nI (s.1 1), a_ch s (stl (ads s.1 (tn v) (fun _ => 0) (fun _ => 0)))) := by
        unfold o_step
        rw [e]
        exact if_pos g
      rw [er]
      obtain ⟨n, rfl, htn, b1, b2⟩ := okr_e e (by decide)
      rw [htn]
      have ez : (0 : Int64) = lN (mp 32 (fun _ => 0) 10) := by rw [mp_zero]; rfl
      refine x_save hs hc fun I1 L1 q1 g1 g2 g3 => bX_step_40 ?_
      rw [ez]
      refine c_addStep (m := s.1) (cR_0 g1.1) w0 g (fun _ _ => ⟨rfl, rfl⟩) fun I2 L2 f1 f2 f3 => bX_step_50 (x_renew (sw_sv hs).2.1 g1 (fun a k z => f1 a k (fun _ => by omega) (by omega)) (fun a k z => f2 a k (by omega) (by omega)) f3 (by rw [ads_o (by omega) (by omega) (by omega) (by omega)]; exact w0) (by rw [ads_1]; exact g) fun I3 L3 j1 j2 j3 j4 => bX_step_54 ?_)
      rw [j4, ads_1, nI_pred]
      exact cP_mk j1 (fM_trans g3 (fM_trans ⟨fun a k z1 z2 => f1 a k (fun _ => by omega) (by omega), fun a k z1 z2 => f2 a k (by omega) (by omega)⟩ j2))
    · have er : o_step v s = a_full s := by
        unfold o_step
        rw [e]
        exact if_neg (by omega)
      rw [er]
      exact cP_mk g1 g2
  · have er : o_step v s = a_bad s := by
      unfold o_step
      rw [e]
      rfl
    rw [er]
    exact cP_mk g1 g2
theorem y_step {v : Int32} (hs : sw s) (hc : mI I s) : kC sh kp 64 [.ref 71, .int v] (I, L, kr q w r1 r2) (mT (o_step v s) I L (kr q w r1 r2)) := by
  have w0 := hs.1.1.1
  have w1 := hs.1.1.2.1
  refine ⟨rfl, bM_step_0 (mm_in (a := 0) (b := 9) rfl rfl (bM_step_7 (cb1 (fun e => bM_step_15 ⟨pk_in 1 212 (by decide), ?_⟩) (fun e => bM_step_10 (mm_bad hc fun I' g1 g2 => bM_step_14 ?_)))))⟩
  · refine (pk_eq (s.1 1) 8 (fun g => bM_step_26 (mm_full hc fun I' g1 g2 => bM_step_30 ?_)) (fun g => bM_step_31 ?_) (by rw [cl1]; exact hc.1 1 (by decide))).symm
    · have er : o_step v s = a_full s := by
        unfold o_step
        rw [e]
        exact if_neg (by omega)
      rw [er]
      exact mP_mk g1 g2
    · have er : o_step v s = (nI (s.1 1), a_ch s (stl (ads s.1 (tn v) (fun _ => 0) (fun _ => 0)))) := by
        unfold o_step
        rw [e]
        exact if_pos (by omega)
      rw [er]
      obtain ⟨n, rfl, htn, b1, b2⟩ := okr_e e (by decide)
      rw [htn]
      have g : s.1 1 < 8 := by omega
      refine mm_save hs hc fun I1 g1 g2 => bM_step_35 (m_addsStep (m := s.1) g1.1 g fun I2 f1 f2 => bM_step_43 (mm_settles g1 f1 f2 (by rw [ads_o (by omega) (by omega) (by omega) (by omega)]; exact w0) fun I3 j1 j2 => bM_step_51 ⟨pk_in 1 212 (by decide), ?_⟩))
      rw [cl1, j1.1 1 (by decide), show (stl (ads s.1 n (fun _ => 0) (fun _ => 0)), (a_sv s).2).1 1 = s.1 1 + 1 from (sti_o (i := 10) (by decide) (by omega)).trans (ads_1 (c := n) (ft := fun _ => 0) (fg := fun _ => 0)), nI_pred]
      exact mP_mk j1 (fX_trans g2 (fX_trans ⟨fun a k z => f1 a k (by omega), fun _ _ _ => rfl⟩ j2))
  · have er : o_step v s = a_bad s := by
      unfold o_step
      rw [e]
      rfl
    rw [er]
    exact mP_mk g1 g2
/-- a change that is no change of the net -/
theorem cI_sm {I' : Nat → Nat → Int32} {L' : Nat → Nat → Int64} {m : Nat → Nat} (hs : sw s) (hc : cI I L q w r1 r2 s) (h5 : I 0 5 = 0) (f1 : ∀ a k, (a < 1 ∨ 6 < a) → I' a k = I a k) (f2 : ∀ a k, (a < 1 ∨ 6 < a) → L' a k = L a k) (hR : cR I' L' 1 m) (he : nEq s.1 m) : cI I' L' q w r1 r2 (m, s.2) :=
  cI_fr hs.2.1 hc (fun a k _ _ z => f1 a k (by omega)) (fun a k z1 z2 => f2 a k (by omega)) hR (Or.inl ((f1 0 5 (by omega)).trans h5)) (cA_nEq he hs.1.1.1 hs.1.1.2.1 (cA_fr hc.2.2.2.2.2 (f1 0 9 (by omega)) (fun a k z1 z2 => f1 a k (by omega)) (fun a k z1 z2 => f2 a k (by omega))))
theorem fM_s {I' : Nat → Nat → Int32} {L' : Nat → Nat → Int64} (f1 : ∀ a k, (a < 1 ∨ 6 < a) → I' a k = I a k) (f2 : ∀ a k, (a < 1 ∨ 6 < a) → L' a k = L a k) : fM I L I' L' := ⟨fun a k z1 z2 => f1 a k (by omega), fun a k z1 z2 => f2 a k (by omega)⟩
theorem cR0_st {m : Nat → Nat} {p v : Nat} (hR : cR0 I L m) (hw : m 0 ≤ 10) (hw1 : m 1 ≤ 8) (hp : p < m 0) : cR0 I (km_up L 1 4 (lN (mp 32 (fun j => if j = p then v else mz m 2 j) 10))) (ups m (2 + p) v) := by
  obtain ⟨a1, a2, a3, a4, a5⟩ := hR
  refine ⟨?_, ?_, ?_, ?_, fun t ht => ?_⟩
  · rw [ups_o (by omega)]; exact a1
  · rw [ups_o (by omega)]; exact a2
  · rw [ups_o (by omega)]; exact a3
  · rw [up_s, mz_upd (by decide) hp]
  · rw [ups_o (by omega)] at ht
    rw [up_a (by decide), up_a (by decide), mz_ups hw (by omega) (by omega), mz_ups hw (by omega) (by omega), ups_o (by omega)]
    exact a5 t ht
theorem mz15 {m : Nat → Nat} (hw : wb m) : ∀ i, i < 10 → mz m 2 i < 32 := fun i _ => by
  have := mz_le (m := m) (c := 2) (b := 15) hw.1 (fun p hp => (hw.2.2.2.2.1 p hp).1) i
  omega
theorem x_start {x v : Int32} (hs : sw s) (hc : cI I L q w r1 r2 s) : kC sh kp 3 [.ref 0, .int x, .int v] (I, L, kr q w r1 r2) (cT (o_start x v s) I L) := by
  have w0 := hs.1.1.1
  have w1 := hs.1.1.2.1
  have bad : (cond (okr x 0 ((s.1 0 : Int) - 1)) (okr v 0 15) false) = false → kW sh kp 3 18 [some (.ref 0), none, none, none] [] (I, L, kr q w r1 r2) (cT (o_start x v s) I L) := fun e => bX_start_18 (x_bad hs hc fun I' g1 g2 => bX_start_24 (by
    have er : o_start x v s = a_bad s := by
      unfold o_start
      cases e1 : okr x 0 ((s.1 0 : Int) - 1) with
      | false => rfl
      | true =>
        rw [e1] at e
        have e : okr v 0 15 = false := e
        rw [e]
        rfl
    rw [er]
    exact cP_mk g1 g2))
  refine ⟨rfl, bX_start_0 (x_isPlace w0 hc.1 (bX_start_5 (cb0 (fun e => bX_start_8 (c_in (a := 0) (b := 15) rfl rfl (bX_start_15 (cb1 (fun e2 => bX_start_25 ?_) (fun e2 => bad (by rw [e, e2]; rfl)))))) (fun e => bad (by rw [e]; rfl)))))⟩
  have er : o_start x v s = (nI (s.1 (2 + tn x)), a_ch s (stl (ups s.1 (2 + tn x) (tn v)))) := by
    unfold o_start
    rw [e, e2]
    rfl
  rw [er]
  clear er bad
  obtain ⟨p, rfl, htp, b1, b2⟩ := okr_e e (by decide)
  obtain ⟨n, rfl, htn, b3, b4⟩ := okr_e e2 (by decide)
  rw [htp, htn]
  have hp : p < s.1 0 := by omega
  refine x_save hs hc fun I1 L1 q1 g1 g2 g3 => bX_start_29 ?_
  have hR : cR I1 L1 1 s.1 := g1.1
  rw [hR.2.2.2.2.1]
  refine s_tok (by omega) (mz15 hs.1.1) (bX_start_40 ?_)
  rw [hR.2.2.2.2.1]
  refine s_with (by omega) (by omega) (mz15 hs.1.1) (bX_start_57 (x_renew (sw_sv hs).2.1 g1 (fun _ _ _ => rfl) (fun a k z => up_a (by omega)) (cR0_st (cR_0 hR) w0 w1 hp) (by rw [ups_o (by omega)]; exact w0) (by rw [ups_o (by omega)]; exact w1) fun I3 L3 j1 j2 j3 j4 => bX_start_64 ?_))
  have em : mz s.1 2 p = s.1 (2 + p) := if_pos hp
  rw [em]
  exact cP_mk j1 (fM_trans g3 (fM_trans (fM_s (fun _ _ _ => rfl) (fun a k z => up_a (by omega))) j2))
theorem y_start {x v : Int32} (hs : sw s) (hc : mI I s) : kC sh kp 66 [.ref 71, .int x, .int v] (I, L, kr q w r1 r2) (mT (o_start x v s) I L (kr q w r1 r2)) := by
  have w0 := hs.1.1.1
  have w1 := hs.1.1.2.1
  have bad : (cond (okr x 0 ((s.1 0 : Int) - 1)) (okr v 0 15) false) = false → kW sh kp 66 18 [some (.ref 71), none, none, none] [] (I, L, kr q w r1 r2) (mT (o_start x v s) I L (kr q w r1 r2)) := fun e => bM_start_18 (mm_bad hc fun I' g1 g2 => bM_start_22 (by
    have er : o_start x v s = a_bad s := by
      unfold o_start
      cases e1 : okr x 0 ((s.1 0 : Int) - 1) with
      | false => rfl
      | true =>
        rw [e1] at e
        have e : okr v 0 15 = false := e
        rw [e]
        rfl
    rw [er]
    exact mP_mk g1 g2))
  refine ⟨rfl, bM_start_0 (mm_isPlace w0 hc.1 (bM_start_5 (cb0 (fun e => bM_start_8 (mm_in (a := 0) (b := 15) rfl rfl (bM_start_15 (cb1 (fun e2 => bM_start_23 ?_) (fun e2 => bad (by rw [e, e2]; rfl)))))) (fun e => bad (by rw [e]; rfl)))))⟩
  have er : o_start x v s = (nI (s.1 (2 + tn x)), a_ch s (stl (ups s.1 (2 + tn x) (tn v)))) := by
    unfold o_start
    rw [e, e2]
    rfl
  rw [er]
  clear er bad
  obtain ⟨p, rfl, htp, b1, b2⟩ := okr_e e (by decide)
  obtain ⟨n, rfl, htn, b3, b4⟩ := okr_e e2 (by decide)
  rw [htp, htn]
  have hp : p < s.1 0 := by omega
  refine mm_save hs hc fun I1 g1 g2 => bM_start_27 ?_
  rw [fa_lit 2, nI_add, nI_clamp (by omega), show I1 72 (2 + p) = nI (s.1 (2 + p)) from g1.1 _ (by omega)]
  refine ⟨vp_in_nI (by omega) (by decide), vp_in_nI (by omega) (by decide), mm_settles g1 (fun a k z => up_a z) (nN_up (m := s.1) g1.1) (by rw [ups_o (by omega)]; exact w0) fun I3 j1 j2 => bM_start_52 (mP_mk j1 (fX_trans g2 (fX_trans (fX_71 (by decide) (by decide)) j2)))⟩
theorem cR_cost {m : Nat → Nat} {t v : Nat} (hR : cR I L 1 m) (hw : m 0 ≤ 10) (hw1 : m 1 ≤ 8) (ht : t < 8) : cR (km_up I 4 t (nI v)) L 1 (ups m (32 + t) v) := by
  obtain ⟨a1, a2, a3, a4, a5, a6, a7, a8, a9⟩ := hR
  refine ⟨?_, ?_, ?_, ?_, ?_, ?_, ?_, fun j hj => ⟨?_, ?_, ?_⟩, fun g hg => ?_⟩
  · rw [ups_o (by omega), up_a (by decide)]; exact a1
  · rw [ups_o (by omega), up_a (by decide)]; exact a2
  · rw [ups_o (by omega), up_a (by decide)]; exact a3
  · rw [ups_o (by omega), up_a (by decide)]; exact a4
  · rw [mz_ups hw (by omega) (by omega)]; exact a5
  · rw [mz_ups hw (by omega) (by omega)]; exact a6
  · rw [mz_ups hw (by omega) (by omega)]; exact a7
  · rw [ups_o (by omega)] at hj
    rw [mz_ups hw (by omega) (by omega)]; exact (a8 j hj).1
  · rw [ups_o (by omega)] at hj
    rw [mz_ups hw (by omega) (by omega)]; exact (a8 j hj).2.1
  · rw [ups_o (by omega)] at hj
    by_cases e : j = t
    · rw [e, up_s, ups_s]
    · rw [up_k e, ups_o (by omega)]
      exact (a8 j hj).2.2
  · rw [ups_o (by omega)] at hg
    rw [up_a (by decide), up_a (by decide), ups_o (by omega), ups_o (by omega)]
    exact a9 g hg
theorem nEq_ups {m : Nat → Nat} {k v : Nat} (h : (2 ≤ k ∧ k < 40) ∨ 200 ≤ k) : nEq m (ups m k v) := ⟨ups_o (by omega), ups_o (by omega), fun j h1 h2 => ups_o (by omega)⟩
theorem x_cost {x v : Int32} (hs : sw s) (hc : cI I L q w r1 r2 s) : kC sh kp 4 [.ref 0, .int x, .int v] (I, L, kr q w r1 r2) (cT (o_cost x v s) I L) := by
  have w0 := hs.1.1.1
  have w1 := hs.1.1.2.1
  have bad : (cond (okr x 0 ((s.1 1 : Int) - 1)) (okr v 0 9) false) = false → kW sh kp 4 18 [some (.ref 0), none, none, none] [] (I, L, kr q w r1 r2) (cT (o_cost x v s) I L) := fun e => bX_cost_18 (x_bad hs hc fun I' g1 g2 => bX_cost_24 (by
    have er : o_cost x v s = a_bad s := by
      unfold o_cost
      cases e1 : okr x 0 ((s.1 1 : Int) - 1) with
      | false => rfl
      | true =>
        rw [e1] at e
        have e : okr v 0 9 = false := e
        rw [e]
        rfl
    rw [er]
    exact cP_mk g1 g2))
  refine ⟨rfl, bX_cost_0 (x_isStep w1 hc.1 (bX_cost_5 (cb0 (fun e => bX_cost_8 (c_in (a := 0) (b := 9) rfl rfl (bX_cost_15 (cb1 (fun e2 => bX_cost_25 ?_) (fun e2 => bad (by rw [e, e2]; rfl)))))) (fun e => bad (by rw [e]; rfl)))))⟩
  have er : o_cost x v s = (nI (s.1 (32 + tn x)), a_ch s (ups s.1 (32 + tn x) (tn v))) := by
    unfold o_cost
    rw [e, e2]
    rfl
  rw [er]
  clear er bad
  obtain ⟨t, rfl, htp, b1, b2⟩ := okr_e e (by decide)
  obtain ⟨n, rfl, htn, b3, b4⟩ := okr_e e2 (by decide)
  rw [htp, htn]
  have ht : t < s.1 1 := by omega
  refine x_save hs hc fun I1 L1 q1 g1 g2 g3 => bX_cost_29 ?_
  have hR : cR I1 L1 1 s.1 := g1.1
  rw [nI_clamp (by omega), (hR.2.2.2.2.2.2.2.1 t ht).2.2]
  refine ⟨vp_in_nI (by omega) (by decide), vp_in_nI (by omega) (by decide), cP_mk (cI_sm (sw_sv hs) g1 g2 (fun a k z => up_a (by omega)) (fun _ _ _ => rfl) (cR_cost hR w0 w1 (by omega)) (nEq_ups (by omega))) (fM_trans g3 (fM_s (fun a k z => up_a (by omega)) (fun _ _ _ => rfl)))⟩
theorem y_cost {x v : Int32} (hs : sw s) (hc : mI I s) : kC sh kp 67 [.ref 71, .int x, .int v] (I, L, kr q w r1 r2) (mT (o_cost x v s) I L (kr q w r1 r2)) := by
  have w0 := hs.1.1.1
  have w1 := hs.1.1.2.1
  have bad : (cond (okr x 0 ((s.1 1 : Int) - 1)) (okr v 0 9) false) = false → kW sh kp 67 18 [some (.ref 71), none, none, none] [] (I, L, kr q w r1 r2) (mT (o_cost x v s) I L (kr q w r1 r2)) := fun e => bM_cost_18 (mm_bad hc fun I' g1 g2 => bM_cost_22 (by
    have er : o_cost x v s = a_bad s := by
      unfold o_cost
      cases e1 : okr x 0 ((s.1 1 : Int) - 1) with
      | false => rfl
      | true =>
        rw [e1] at e
        have e : okr v 0 9 = false := e
        rw [e]
        rfl
    rw [er]
    exact mP_mk g1 g2))
  refine ⟨rfl, bM_cost_0 (mm_isStep w1 hc.1 (bM_cost_5 (cb0 (fun e => bM_cost_8 (mm_in (a := 0) (b := 9) rfl rfl (bM_cost_15 (cb1 (fun e2 => bM_cost_23 ?_) (fun e2 => bad (by rw [e, e2]; rfl)))))) (fun e => bad (by rw [e]; rfl)))))⟩
  have er : o_cost x v s = (nI (s.1 (32 + tn x)), a_ch s (ups s.1 (32 + tn x) (tn v))) := by
    unfold o_cost
    rw [e, e2]
    rfl
  rw [er]
  clear er bad
  obtain ⟨t, rfl, htp, b1, b2⟩ := okr_e e (by decide)
  obtain ⟨n, rfl, htn, b3, b4⟩ := okr_e e2 (by decide)
  rw [htp, htn]
  have ht : t < s.1 1 := by omega
  refine mm_save hs hc fun I1 g1 g2 => bM_cost_27 ?_
  rw [fa_lit 32, nI_add, nI_clamp (by omega), show I1 72 (32 + t) = nI (s.1 (32 + t)) from g1.1 _ (by omega)]
  exact ⟨vp_in_nI (by omega) (by decide), vp_in_nI (by omega) (by decide), mP_mk (mI_fr g1 (fun a k _ z => up_a (by omega)) (nN_up (m := s.1) g1.1)) (fX_trans g2 (fX_71 (by decide) (by decide)))⟩
theorem cR0_anew {m : Nat → Nat} : cR0 (km_up (km_up (km_up I 1 0 0) 1 1 0) 1 3 0) (km_up L 1 4 0) (ups (ups (ups m 0 0) 1 0) 211 0) := by
  refine ⟨?_, ?_, ?_, ?_, fun t ht => ?_⟩
  · rw [up_k (by decide), up_k (by decide), up_s, ups_o (by decide), ups_o (by decide), ups_s]
    rfl
  · rw [up_k (by decide), up_s, ups_o (by decide), ups_s]
    rfl
  · rw [up_s, ups_s]
    rfl
  · rw [up_s]
    have e : mz (ups (ups (ups m 0 0) 1 0) 211 0) 2 = fun _ => 0 := funext fun p => by
      unfold mz
      rw [ups_o (by decide), ups_o (by decide), ups_s]
      exact if_neg (by omega)
    rw [e, mp_zero]
    rfl
  · rw [ups_o (by decide), ups_s] at ht
    exact absurd ht (by omega)
theorem x_anew (hs : sw s) (hc : cI I L q w r1 r2 s) : kC sh kp 7 [.ref 0] (I, L, kr q w r1 r2) (cT (o_anew s) I L) := by
  refine ⟨rfl, bX_anew_0 (x_save hs hc fun I1 L1 q1 g1 g2 g3 => bX_anew_4 ⟨rfl, bS_removeNet_0 (bX_anew_19 (x_renew (m := ups (ups (ups s.1 0 0) 1 0) 211 0) (sw_sv hs).2.1 g1 (fun a k z => by rw [up_a (by omega), up_a (by omega), up_a (by omega)]) (fun a k z => up_a (by omega)) cR0_anew (by rw [ups_o (by decide), ups_o (by decide), ups_s]; omega) (by rw [ups_o (by decide), ups_s]; omega) fun I3 L3 j1 j2 j3 j4 => bX_anew_31 ?_))⟩)⟩
  rw [show I1 1 0 = nI (s.1 0) from g1.1.1]
  exact cP_mk j1 (fM_trans g3 (fM_trans (fM_s (fun a k z => by rw [up_a (by omega), up_a (by omega), up_a (by omega)]) (fun a k z => up_a (by omega))) j2))
theorem y_anew (hs : sw s) (hc : mI I s) : kC sh kp 72 [.ref 71] (I, L, kr q w r1 r2) (mT (o_anew s) I L (kr q w r1 r2)) := by
  refine ⟨rfl, bM_anew_0 (mm_save hs hc fun I1 g1 g2 => bM_anew_4 ⟨pk_in 0 212 (by decide), pk_in 0 212 (by decide), pk_in 1 212 (by decide), pk_in 211 212 (by decide), ?_⟩)⟩
  rw [cl0, cl1, cl211, show I1 72 0 = nI (s.1 0) from g1.1 0 (by decide)]
  refine mm_settles (m := ups (ups (ups s.1 0 0) 1 0) 211 0) g1 (fun a k z => by rw [up_a z, up_a z, up_a z]) (nN_up (v := 0) (nN_up (v := 0) (nN_up (v := 0) (m := s.1) g1.1))) (by rw [ups_o (by decide), ups_o (by decide), ups_s]; omega) fun I3 j1 j2 => bM_anew_41 (mP_mk j1 (fX_trans g2 (fX_trans ⟨fun a k z => by rw [up_a (by omega), up_a (by omega), up_a (by omega)], fun _ _ _ => rfl⟩ j2)))
theorem cR_keeper {m : Nat → Nat} {v : Nat} (hR : cR I L 1 m) (hw : m 0 ≤ 10) (hw1 : m 1 ≤ 8) (hw2 : m 200 ≤ 5) : cR (km_up I 1 3 (nI v)) L 1 (ups m 211 v) := by
  obtain ⟨a1, a2, a3, a4, a5, a6, a7, a8, a9⟩ := hR
  refine ⟨?_, ?_, ?_, ?_, ?_, ?_, ?_, fun j hj => ⟨?_, ?_, ?_⟩, fun g hg => ?_⟩
  · rw [ups_o (by omega), up_k (by decide)]; exact a1
  · rw [ups_o (by omega), up_k (by decide)]; exact a2
  · rw [ups_o (by omega), up_k (by decide)]; exact a3
  · rw [ups_s, up_s]
  · rw [mz_ups hw (by omega) (by omega)]; exact a5
  · rw [mz_ups hw (by omega) (by omega)]; exact a6
  · rw [mz_ups hw (by omega) (by omega)]; exact a7
  · rw [ups_o (by omega)] at hj
    rw [mz_ups hw (by omega) (by omega)]; exact (a8 j hj).1
  · rw [ups_o (by omega)] at hj
    rw [mz_ups hw (by omega) (by omega)]; exact (a8 j hj).2.1
  · rw [ups_o (by omega)] at hj
    rw [up_a (by decide), ups_o (by omega)]
    exact (a8 j hj).2.2
  · rw [ups_o (by omega)] at hg
    rw [up_a (by decide), up_a (by decide), ups_o (by omega), ups_o (by omega)]
    exact a9 g hg
theorem x_keeper {v : Int32} (hs : sw s) (hc : cI I L q w r1 r2 s) : kC sh kp 17 [.ref 0, .int v] (I, L, kr q w r1 r2) (cT (o_keeper v s) I L) := by
  have w0 := hs.1.1.1
  have w1 := hs.1.1.2.1
  have w2 := hs.1.1.2.2.1
  have w3 := hs.1.1.2.2.2.1
  refine ⟨rfl, bX_keeper_0 (c_in (a := 0) (b := 1) rfl rfl (bX_keeper_6 (cb1 (fun e => bX_keeper_16 ?_) (fun e => bX_keeper_9 (x_bad hs hc fun I' g1 g2 => bX_keeper_15 ?_)))))⟩
  · have er : o_keeper v s = (nI (s.1 211), a_ch s (ups s.1 211 (tn v))) := by
      unfold o_keeper
      rw [e]
      rfl
    rw [er]
    obtain ⟨n, rfl, htn, b3, b4⟩ := okr_e e (by decide)
    rw [htn]
    refine x_save hs hc fun I1 L1 q1 g1 g2 g3 => bX_keeper_20 ?_
    have hR : cR I1 L1 1 s.1 := g1.1
    have fin : kW sh kp 17 35 [some (.ref 0), some (.int (nI n)), none] [.int (nI (s.1 211))] (I1, L1, kr q1 w r1 r2) (cT (nI (s.1 211), a_ch s (ups s.1 211 n)) I L) := by
      have last : kW sh kp 17 50 [none, none, some (.int (nI (s.1 211)))] [.int (nI n), .ref 1] (I1, L1, kr q1 w r1 r2) (cT (nI (s.1 211), a_ch s (ups s.1 211 n)) I L) := bX_keeper_50 ⟨by
        rcases Nat.lt_or_ge n 1 with z | z
        · rw [show n = 0 by omega]; exact Or.inl rfl
        · rw [show n = 1 by omega]; exact Or.inr rfl, cP_mk (cI_sm (sw_sv hs) g1 g2 (fun a k z => up_a (by omega)) (fun _ _ _ => rfl) (cR_keeper hR w0 w1 w2) (nEq_ups (by omega))) (fM_trans g3 (fM_s (fun a k z => up_a (by omega)) (fun _ _ _ => rfl)))⟩
      refine bX_keeper_35 (pk_eq n 1 (fun g => ?_) (fun g => ?_)).symm
      · rw [g] at last ⊢
        exact bX_keeper_45 last
      · rw [show n = 0 by omega] at last ⊢
        exact bX_keeper_49 last
    refine pk_eq (s.1 211) 0 (fun g => ?_) (fun g => ?_) hR.2.2.2.1
    · rw [g] at fin
      rw [g]
      exact bX_keeper_34 fin
    · have g : s.1 211 = 1 := by omega
      rw [g] at fin
      rw [g]
      exact bX_keeper_30 fin
  · have er : o_keeper v s = a_bad s := by
      unfold o_keeper
      rw [e]
      rfl
    rw [er]
    exact cP_mk g1 g2
theorem y_keeper {v : Int32} (hs : sw s) (hc : mI I s) : kC sh kp 101 [.ref 71, .int v] (I, L, kr q w r1 r2) (mT (o_keeper v s) I L (kr q w r1 r2)) := by
  refine ⟨rfl, bM_keeper_0 (mm_in (a := 0) (b := 1) rfl rfl (bM_keeper_6 (cb1 (fun e => bM_keeper_14 ?_) (fun e => bM_keeper_9 (mm_bad hc fun I' g1 g2 => bM_keeper_13 ?_)))))⟩
  · have er : o_keeper v s = (nI (s.1 211), a_ch s (ups s.1 211 (tn v))) := by
      unfold o_keeper
      rw [e]
      rfl
    rw [er]
    obtain ⟨n, rfl, htn, b3, b4⟩ := okr_e e (by decide)
    rw [htn]
    refine mm_save hs hc fun I1 g1 g2 => bM_keeper_18 ⟨pk_in 211 212 (by decide), pk_in 211 212 (by decide), ?_⟩
    rw [cl211, show I1 72 211 = nI (s.1 211) from g1.1 _ (by decide)]
    exact mP_mk (mI_fr g1 (fun a k _ z => up_a (by omega)) (nN_up (m := s.1) g1.1)) (fX_trans g2 (fX_71 (by decide) (by decide)))
  · have er : o_keeper v s = a_bad s := by
      unfold o_keeper
      rw [e]
      rfl
    rw [er]
    exact mP_mk g1 g2
end OPS1
