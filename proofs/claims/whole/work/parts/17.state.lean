/-! THE CLASS'S STATE: what it holds of the row of numbers; its small methods -/
/-- what the row tells from c on, and nothing beyond the places -/
def mz (m : Nat → Nat) (c p : Nat) : Nat := if p < m 0 then m (c + p) else 0
def cR (I : Nat → Nat → Int32) (L : Nat → Nat → Int64) (c : Nat) (m : Nat → Nat) : Prop :=
  I c 0 = nI (m 0) ∧ I c 1 = nI (m 1) ∧ I c 2 = nI (m 200) ∧ I c 3 = nI (m 211) ∧ L c 4 = lN (mp 32 (mz m 2) 10) ∧ L c 5 = lN (mp 32 (mz m 12) 10) ∧ L c 6 = lN (mp 32 (mz m 22) 10) ∧ (∀ t, t < m 1 → L (c + 1) t = lN (mp 32 (mz m (40 + 10 * t)) 10) ∧ L (c + 2) t = lN (mp 32 (mz m (120 + 10 * t)) 10) ∧ I (c + 3) t = nI (m (32 + t))) ∧ (∀ g, g < m 200 → I (c + 4) g = nI (m (201 + g)) ∧ I (c + 5) g = nI (m (206 + g)))
theorem mk_mz {m : Nat → Nat} {c b : Nat} (hw : m 0 ≤ 10) (hb : b ≤ 15) (h : ∀ p, p < 10 → m (c + p) ≤ b) : mk m (mz m c) := ⟨fun p => by
    unfold mz
    split
    · exact Nat.le_trans (h p (by omega)) hb
    · exact Nat.zero_le _, fun p hp => if_neg (by omega)⟩
theorem mz_le {m : Nat → Nat} {c b : Nat} (hw : m 0 ≤ 10) (h : ∀ p, p < 10 → m (c + p) ≤ b) (p : Nat) : mz m c p ≤ b := by
  unfold mz
  split
  · exact h p (by omega)
  · exact Nat.zero_le _
theorem mp_sub {b : Nat} {f g : Nat → Nat} {n : Nat} (h : ∀ p, p < n → g p ≤ f p) : mp b f n = mp b (fun p => f p - g p) n + mp b g n := by
  rw [← mp_add]
  exact mp_congr n fun p hp => by
    have := h p hp
    show f p = f p - g p + g p
    omega
theorem after5 {m f : Nat → Nat} {t : Nat} (h : ∀ p, p < 10 → mz m (40 + 10 * t) p ≤ f p) : lN (mp 32 f 10) - lN (mp 32 (mz m (40 + 10 * t)) 10) + lN (mp 32 (mz m (120 + 10 * t)) 10) = lN (mp 32 (aft m f t) 10) := by
  rw [mp_sub h, lN_sub (Nat.le_add_left _ _), Nat.add_sub_cancel, lN_add, ← mp_add]
  refine congrArg lN (mp_congr 10 fun p hp => ?_)
  show f p - mz m (40 + 10 * t) p + mz m (120 + 10 * t) p = aft m f t p
  unfold aft mz tk gv
  split <;> simp
section STATE
variable {I : Nat → Nat → Int32} {L : Nat → Nat → Int64} {q r1 r2 : Nat → Nat} {w : Bool} {K : km_K} {m f : Nat → Nat}
theorem c_within {x a b : Int32} (h1 : ¬ x < a → ¬ b < x → K (some (.int 1)) (I, L, kr q w r1 r2)) (h0 : (x < a ∨ b < x) → K (some (.int 0)) (I, L, kr q w r1 r2)) : kC sh kp 37 [.int x, .int a, .int b] (I, L, kr q w r1 r2) K :=
  ⟨rfl, bX_within_0 ⟨fun h => bX_within_14 (bX_within_15 ⟨Or.inl rfl, h0 (Or.inl h)⟩), fun h => bX_within_5 ⟨fun g => bX_within_14 (bX_within_15 ⟨Or.inl rfl, h0 (Or.inr g)⟩), fun g => bX_within_10 (bX_within_15 ⟨Or.inr rfl, h1 h g⟩)⟩⟩⟩
theorem c_bad (h : K (some (.int (-2))) (km_up I 0 12 ((I 0 12) + 1), L, kr q w r1 r2)) : kC sh kp 43 [.ref 0, .int (-2)] (I, L, kr q w r1 r2) K :=
  ⟨rfl, bX_refuse_0 ⟨fun g => absurd g (by decide), fun _ => bX_refuse_28 (bX_refuse_64 h), fun g => absurd rfl g.1⟩⟩
theorem c_no (h : K (some (.int (-3))) (km_up I 0 13 ((I 0 13) + 1), L, kr q w r1 r2)) : kC sh kp 43 [.ref 0, .int (-3)] (I, L, kr q w r1 r2) K :=
  ⟨rfl, bX_refuse_0 ⟨fun _ => bX_refuse_41 (bX_refuse_64 h), fun g => absurd g (by decide), fun g => absurd rfl g.2.1⟩⟩
theorem c_full (h : K (some (.int (-4))) (km_up I 0 14 ((I 0 14) + 1), L, kr q w r1 r2)) : kC sh kp 43 [.ref 0, .int (-4)] (I, L, kr q w r1 r2) K :=
  ⟨rfl, bX_refuse_0 ⟨fun g => absurd g (by decide), fun g => absurd g (by decide), fun _ => bX_refuse_54 (bX_refuse_64 h)⟩⟩
theorem c_allPlaces (hc : cR I L 1 m) (hw : m 0 ≤ 10) (h : K (some (.int (nI (2 ^ m 0 - 1)))) (I, L, kr q w r1 r2)) : kC sh kp 212 [.ref 1] (I, L, kr q w r1 r2) K :=
  ⟨rfl, bS_allPlaces_0 (by
    rw [hc.1, sh1 _ (by omega), fa_lit 1, pk_sub (Nat.pow_pos (by decide))]
    exact h)⟩
/-- tokens at home -/
def hm (m : Nat → Nat) (p : Nat) : Nat := mz m 2 p - mz m 12 p
theorem c_home (hc : cR I L 1 m) (hl : ∀ p, p < m 0 → m (12 + p) ≤ m (2 + p)) (h : K (some (.long (lN (mp 32 (hm m) 10)))) (I, L, kr q w r1 r2)) : kC sh kp 213 [.ref 1] (I, L, kr q w r1 r2) K :=
  ⟨rfl, bS_homeMarking_0 (by
    have e : ∀ p, p < 10 → mz m 12 p ≤ mz m 2 p := fun p _ => by
      unfold mz
      split
      · exact hl p (by assumption)
      · exact Nat.le_refl _
    rw [hc.2.2.2.2.1, hc.2.2.2.2.2.1, mp_sub e, lN_sub (Nat.le_add_left _ _), Nat.add_sub_cancel]
    exact h)⟩
theorem c_after {t : Nat} (hc : cR I L 1 m) (hw : wb m) (ht : t < m 1) (hr : ∀ p, p < m 0 → tk m t p ≤ f p) (h : K (some (.long (lN (mp 32 (aft m f t) 10)))) (I, L, kr q w r1 r2)) : kC sh kp 228 [.ref 1, .long (lN (mp 32 f 10)), .int (nI t)] (I, L, kr q w r1 r2) K := by
  have w1 := hw.2.1
  have hv : vp_in (nI t) 8 := vp_in_nI (by omega) (by decide)
  refine ⟨rfl, bS_after_0 ⟨hv, hv, ?_⟩⟩
  have e := hc.2.2.2.2.2.2.2.1 t ht
  rw [nI_clamp (by omega), e.1, e.2.1, after5 (fun p _ => by
    unfold mz
    split
    · exact hr p (by assumption)
    · exact Nat.zero_le _)]
  exact h
theorem c_bars {t g : Nat} (hc : cR I L 1 m) (hw : wb m) (hg : g < m 200) (hmk : mk m f) (hr : room m f t = 0) (h : K (some (.int (cond (bar m f t g) 1 0))) (I, L, kr q w r1 r2)) : kC sh kp 230 [.ref 1, .int (nI g), .long (lN (mp 32 f 10)), .long (lN (mp 32 (aft m f t) 10))] (I, L, kr q w r1 r2) K := by
  obtain ⟨w0, w1, w2, w3, w4, w5, w6, w7⟩ := hw
  have hv : vp_in (nI g) 5 := vp_in_nI (by omega) (by decide)
  have b := w7 g (by omega)
  have hm2 := mk_aft hmk hr
  have b1 := sm_b (S := m (201 + g)) hmk
  have b2 := sm_b (S := m (201 + g)) hm2
  have e := hc.2.2.2.2.2.2.2.2 g hg
  refine ⟨rfl, bS_bars_0 ⟨hv, ?_⟩⟩
  rw [nI_clamp (by omega), e.1]
  refine s_sumIn (fun p _ => by have := hm2.1 p; omega) (bS_bars_11 ⟨hv, ?_⟩)
  rw [nI_clamp (by omega), e.2]
  refine pk_le (m (206 + g)) (sm (m (201 + g)) (aft m f t) 10) (fun g1 => bS_bars_43 (bS_bars_44 ⟨Or.inl rfl, ?_⟩)) (fun g1 => bS_bars_24 ⟨hv, ?_⟩)
  · have e : bar m f t g = false := by
      unfold bar
      rw [decide_eq_false (by omega)]
      rfl
    rw [e] at h
    exact h
  · rw [nI_clamp (by omega), e.1]
    refine s_sumIn (fun p _ => by have := hmk.1 p; omega) (bS_bars_36 (pk_le (sm (m (201 + g)) f 10) (sm (m (201 + g)) (aft m f t) 10) (fun g2 => bS_bars_43 (bS_bars_44 ⟨Or.inl rfl, ?_⟩)) (fun g2 => bS_bars_39 (bS_bars_44 ⟨Or.inr rfl, ?_⟩))))
    · have e : bar m f t g = false := by
        unfold bar
        rw [decide_eq_false (p := sm (m (201 + g)) (aft m f t) 10 < sm (m (201 + g)) f 10) (by omega), Bool.and_false]
      rw [e] at h
      exact h
    · have e : bar m f t g = true := by
        unfold bar
        rw [decide_eq_true g1, decide_eq_true g2]
        rfl
      rw [e] at h
      exact h
theorem c_hind {t b : Nat} (hc : cR I L 1 m) (hw : wb m) (ht : t < m 1) (hb : b < 6) (hmk : mk m f) (h : K (some (.int (nI (why m f t b)))) (I, L, kr q w r1 r2)) : kC sh kp 229 [.ref 1, .long (lN (mp 32 f 10)), .int (nI t), .int (bI b)] (I, L, kr q w r1 r2) K := by
  have hw' := hw
  obtain ⟨w0, w1, w2, w3, w4, w5, w6, w7⟩ := hw'
  have hv : vp_in (nI t) 8 := vp_in_nI (by omega) (by decide)
  have e := hc.2.2.2.2.2.2.2.1 t ht
  have bt : ∀ p, mz m (40 + 10 * t) p ≤ 2 := fun p => mz_le w0 (fun p hp => (w5 t p (by omega) hp).1) p
  refine ⟨rfl, bS_hindrance_0 ⟨hv, ?_⟩⟩
  rw [nI_clamp (by omega), e.1]
  refine s_covers (fun p _ => by have := hmk.1 p; omega) (fun p _ => by have := bt p; omega) (fun hcv => bS_hindrance_10 ⟨fun _ => bS_hindrance_15 ?_, fun g => absurd g (by decide)⟩) (fun hcv => bS_hindrance_10 ⟨fun g => absurd rfl g, fun _ => bS_hindrance_13 ?_⟩)
  · have h1 : ∀ p, p < m 0 → tk m t p ≤ f p := fun p hp => by
      have := hcv p (by omega)
      unfold mz at this
      rw [if_pos hp] at this
      exact this
    have a1 : (al (m 0) fun p => decide (tk m t p ≤ f p)) = true := al_iff.mpr fun p hp => decide_eq_true (h1 p hp)
    refine c_after hc hw ht h1 (bS_hindrance_21 (s_overflows (fun p hp => ?_) (fun ho => bS_hindrance_28 ⟨fun _ => bS_hindrance_33 ?_, fun g => absurd rfl g⟩) (fun ho => bS_hindrance_28 ⟨fun g => absurd g (by decide), fun _ => bS_hindrance_31 ?_⟩)))
    · have := hmk.1 p
      have := (w5 t p (by omega) hp).2
      unfold aft gv
      split <;> omega
    · have a2 : (al (m 0) fun p => decide (f p - tk m t p + gv m t p ≤ 15)) = true := al_iff.mpr fun p hp => decide_eq_true (by
        have := ho p (by omega)
        unfold aft at this
        rw [if_pos hp] at this
        omega)
      have hr : room m f t = 0 := by
        unfold room
        rw [a1, a2]
        rfl
      have hwhy : why m f t b = cond (al (m 200) fun g => decide (g = b) || ! bar m f t g) 0 3 := by
        unfold why
        rw [hr]
        rfl
      have key := up0 (Pr := fun i => (∀ g, g < i → (decide (g = b) || ! bar m f t g) = true) → kW sh kp 229 36 [some (.ref 1), some (.long (lN (mp 32 f 10))), none, none, some (.int (bI b)), some (.long (lN (mp 32 (aft m f t) 10))), none, some (.int (nI i))] [] (I, L, kr q w r1 r2) K) (e := m 200) ?_ fun i hi ih => ?_
      · exact key (fun g hg => absurd hg (by omega))
      · intro ha
        refine bS_hindrance_36 (pk_le (m 200) (m 200) (fun _ => bS_hindrance_72 ?_) (fun g => absurd g (by omega)) hc.2.2.1)
        rw [hwhy, al_iff.mpr ha] at h
        exact h
      · intro ha
        have go : (decide (i = b) || ! bar m f t i) = true → kW sh kp 229 36 [some (.ref 1), some (.long (lN (mp 32 f 10))), none, none, some (.int (bI b)), some (.long (lN (mp 32 (aft m f t) 10))), none, some (.int (nI i + 1))] [] (I, L, kr q w r1 r2) K := fun hq => by
          rw [nI_1]
          exact ih (fun g hg => by
            by_cases e : g = i
            · rw [e]; exact hq
            · exact ha g (by omega))
        refine bS_hindrance_36 (pk_le (m 200) i (fun g => absurd g (by omega)) (fun _ => bS_hindrance_45 ⟨fun g => bS_hindrance_66 (go ?_), fun g => bS_hindrance_52 (c_bars hc hw hi hmk hr ?_)⟩) hc.2.2.1)
        · rw [decide_eq_true ((bI_eq i (by omega) b hb).mp g)]
          rfl
        · have g : ¬ i = b := fun h => g ((bI_eq i (by omega) b hb).mpr h)
          cases e3 : bar m f t i with
          | false => exact bS_hindrance_61 ⟨fun _ => bS_hindrance_66 (go (by rw [e3]; simp)), fun g => absurd rfl g⟩
          | true =>
            refine bS_hindrance_61 ⟨fun g => absurd g (by decide), fun _ => bS_hindrance_64 ?_⟩
            have e2 : (al (m 200) fun g => decide (g = b) || ! bar m f t g) = false := al_no.mpr ⟨i, by omega, by simp [e3, g]⟩
            rw [hwhy, e2] at h
            exact h
    · have a2 : (al (m 0) fun p => decide (f p - tk m t p + gv m t p ≤ 15)) = false := by
        cases a : (al (m 0) fun p => decide (f p - tk m t p + gv m t p ≤ 15)) with
        | false => rfl
        | true => exact absurd (fun p hp => by
            by_cases g : p < m 0
            · have := of_decide_eq_true (al_iff.mp a p g)
              unfold aft
              rw [if_pos g]
              omega
            · have := hmk.1 p
              unfold aft
              rw [if_neg g]
              omega) ho
      have hr : room m f t = 2 := by
        unfold room
        rw [a1, a2]
        rfl
      unfold why at h
      rw [hr] at h
      exact h
  · have a1 : (al (m 0) fun p => decide (tk m t p ≤ f p)) = false := by
      cases a : (al (m 0) fun p => decide (tk m t p ≤ f p)) with
      | false => rfl
      | true => exact absurd (fun p hp => by
          unfold mz
          split
          · exact of_decide_eq_true (al_iff.mp a p (by assumption))
          · exact Nat.zero_le _) hcv
    have hr : room m f t = 1 := by
      unfold room
      rw [a1]
      rfl
    unfold why at h
    rw [hr] at h
    exact h
end STATE
