/-! THE CLASS'S WAYS: wayOver, shorten, measure, wayless, firstStep -/
theorem nx_in {m : Nat → Nat} {b k t : Nat} {s : sst} (h : tg m b s k t < s.1) : nx m b s k t = nI (tg m b s k t) := by
  unfold tg at h ⊢
  unfold nx
  by_cases e : why m (dg (s.2.1 k)) t b = 0
  · rw [if_pos e] at h
    rw [if_pos e, if_pos e, if_pos h]
  · rw [if_neg e] at h
    omega
theorem nx_out {m : Nat → Nat} {b k t : Nat} {s : sst} (h : ¬ tg m b s k t < s.1) : nx m b s k t < 0 := by
  unfold tg at h
  unfold nx
  by_cases e : why m (dg (s.2.1 k)) t b = 0
  · rw [if_pos e] at h
    rw [if_pos e, if_neg h]
    decide
  · rw [if_neg e]
    decide
theorem ec_1 {m : Nat → Nat} (t : Nat) : 1 ≤ ec m t := Nat.le_add_left _ _
theorem ec_b {m : Nat → Nat} {t : Nat} (h : m (32 + t) ≤ 9) : ec m t ≤ 9001 := by
  unfold ec
  omega
theorem sI_p {v : Nat} (h : v < 2 ^ 31) (h0 : v ≠ 0) : ¬ sI v = -1 := fun e => h0 ((sI_m1 (by omega)).mp e)
/-- only its own place changes, and not by much -/
theorem rdt_b {n S k Bd : Nat} {T : Nat → Nat → Nat} {c W : Nat → Nat} (hk : k < n) (hb : ∀ j, j < n → W j ≤ Bd) (hc : ∀ t, t < S → c t ≤ 9001) (hc1 : ∀ t, 1 ≤ c t) : ∀ t, t ≤ S → (∀ j, j ≠ k → rdt (rx n T c) W k t j = W j) ∧ rdt (rx n T c) W k t k ≤ Bd + 9001
  | 0, _ => ⟨fun _ _ => rfl, Nat.le_trans (hb k hk) (Nat.le_add_right _ _)⟩
  | t + 1, ht => by
    have ih := rdt_b (T := T) hk hb hc hc1 t (by omega)
    refine ⟨fun j hj => ?_, ?_⟩
    · show ups _ k _ j = _
      rw [ups_o hj]
      exact ih.1 j hj
    · show ups _ k _ k ≤ _
      rw [ups_s]
      have c1 := hc t (by omega)
      have c2 := hc1 t
      unfold wmin wvl
      by_cases e : T k t < n ∧ rdt (rx n T c) W k t (T k t) ≠ 0
      · rw [if_pos e]
        by_cases e2 : T k t = k
        · rw [e2, if_neg (by omega)]
          by_cases e3 : rdt (rx n T c) W k t k = 0 ∨ rdt (rx n T c) W k t k + c t < rdt (rx n T c) W k t k
          · rw [e2] at e
            omega
          · rw [if_neg e3]
            exact ih.2
        · have := hb _ e.1
          rw [ih.1 _ e2]
          split
          · exact ih.2
          · split
            · omega
            · exact ih.2
      · rw [if_neg e, if_pos rfl]
        exact ih.2
theorem ups_id {f : Nat → Nat} {k : Nat} : ups f k (f k) = f := funext fun j => by
  by_cases e : j = k
  · rw [e, ups_s]
  · rw [ups_o e]
section MEASURE_h
variable {I : Nat → Nat → Int32} {L : Nat → Nat → Int64} {q r1 r2 : Nat → Nat} {w : Bool} {K : km_K} {m W : Nat → Nat}
theorem c_wayOver_h {s : sst} {b k t : Nat} (hw : wb m) (hR : cR I L 1 m) (h200 : s.1 ≤ 200) (hk : k < s.1) (ht : t < m 1) (hN : ∀ k, k < s.1 → ∀ t, t < m 1 → I 48 (8 * k + t) = nx m b s k t) (hW : ∀ k, k < s.1 → I 47 k = sI (W k)) (hb : ∀ k, k < s.1 → W k ≤ 2 ^ 30) (h : K (some (.int (sI (wvl s.1 (tg m b s) (ec m) W k t)))) (I, L, kr q w r1 r2)) : kC sh kp 202 [.ref 44, .ref 1, .int (nI k), .int (nI t)] (I, L, kr q w r1 r2) K := by
  have w1 := hw.2.1
  have b6 := hw.2.2.2.2.2.2.1 t (by omega)
  refine ⟨rfl, bF_wayOver_h_0 ?_⟩
  rw [nx8, nI_clamp (by omega), hN k hk t ht]
  unfold wvl at h
  by_cases e : tg m b s k t < s.1
  · rw [nx_in e]
    refine ⟨vp_in_nI (by omega) (by decide), fun g => absurd g (nI_pos (by omega)), fun _ => bF_wayOver_h_18 ?_⟩
    rw [nI_clamp (by omega), hW _ e]
    have hbw := hb _ e
    by_cases e2 : W (tg m b s k t) = 0
    · rw [if_neg (fun z => z.2 e2)] at h
      refine ⟨vp_in_nI (by omega) (by decide), fun g => absurd (by rw [e2]; rfl) g, fun _ => bF_wayOver_h_29 h⟩
    · rw [if_pos ⟨e, e2⟩] at h
      refine ⟨vp_in_nI (by omega) (by decide), fun _ => bF_wayOver_h_31 ?_, fun g => absurd g (sI_p (by omega) e2)⟩
      rw [nI_clamp (by omega), nI_clamp (by omega), hW _ e, sI_s e2, (hR.2.2.2.2.2.2.2.1 t ht).2.2, fa_lit 1000, pk_mul, nI_add, nI_1]
      refine ⟨vp_in_nI (by omega) (by decide), vp_in_nI (by omega) (by decide), ?_⟩
      rw [sI_s (by omega)] at h
      have ee : W (tg m b s k t) - 1 + m (32 + t) * 1000 + 1 = W (tg m b s k t) + ec m t - 1 := by
        unfold ec
        omega
      rw [ee]
      exact h
  · rw [if_neg (fun z => e z.1)] at h
    exact ⟨vp_in_nI (by omega) (by decide), fun _ => bF_wayOver_h_29 h, fun g => absurd (nx_out e) g⟩
theorem c_shorten_h {s : sst} {b k Bd : Nat} (hw : wb m) (hR : cR I L 1 m) (h200 : s.1 ≤ 200) (hk : k < s.1) (hN : ∀ k, k < s.1 → ∀ t, t < m 1 → I 48 (8 * k + t) = nx m b s k t) (hW : ∀ k, k < s.1 → I 47 k = sI (W k)) (hb : ∀ k, k < s.1 → W k ≤ Bd) (hbd : Bd + 20000 ≤ 2 ^ 30) (h : ∀ I' x, (∀ a k, a ≠ 47 → I' a k = I a k) → (∀ j, j < s.1 → I' 47 j = sI (rdt (rx s.1 (tg m b s) (ec m)) W k (m 1) j)) → ((x = 0 ∧ rdt (rx s.1 (tg m b s) (ec m)) W k (m 1) = W) ∨ x = 1) → K (some (.int x)) (I', L, kr q w r1 r2)) : kC sh kp 201 [.ref 44, .ref 1, .int (nI k)] (I, L, kr q w r1 r2) K := by
  have w1 := hw.2.1
  have w6 := hw.2.2.2.2.2.2.1
  refine ⟨rfl, bF_shorten_h_0 ?_⟩
  refine up0 (Pr := fun t => ∀ I' x, (∀ a k, a ≠ 47 → I' a k = I a k) → (∀ j, j < s.1 → I' 47 j = sI (rdt (rx s.1 (tg m b s) (ec m)) W k t j)) → ((x = 0 ∧ rdt (rx s.1 (tg m b s) (ec m)) W k t = W) ∨ x = 1) → kW sh kp 201 5 [some (.ref 44), some (.ref 1), some (.int (nI k)), some (.int x), some (.int (nI t)), none] [] (I', L, kr q w r1 r2) K) (e := m 1) ?_ (fun t ht ih => ?_) I 0 (fun _ _ _ => rfl) hW (Or.inl ⟨rfl, rfl⟩)
  · intro I' x f1 f2 f3
    have hR' : cR I' L 1 m := cR_fr (fun a k z1 z2 => f1 a k (by omega)) (fun _ _ _ _ => rfl) hR
    exact bF_shorten_h_5 (pk_le (m 1) (m 1) (fun _ => bF_shorten_h_67 ⟨by rcases f3 with z | z; exact Or.inl z.1; exact Or.inr z, h I' x f1 f2 f3⟩) (fun g => absurd g (by omega)) hR'.2.1)
  · intro I' x f1 f2 f3
    have hR' : cR I' L 1 m := cR_fr (fun a k z1 z2 => f1 a k (by omega)) (fun _ _ _ _ => rfl) hR
    have bt := rdt_b (T := tg m b s) (S := m 1) (c := ec m) hk hb (fun t ht => ec_b (w6 t (by omega))) ec_1 t (by omega)
    have bj : ∀ j, j < s.1 → rdt (rx s.1 (tg m b s) (ec m)) W k t j ≤ Bd + 9001 := fun j hj => by
      by_cases e : j = k
      · rw [e]
        exact bt.2
      · rw [bt.1 j e]
        have := hb j hj
        omega
    have es : rdt (rx s.1 (tg m b s) (ec m)) W k (t + 1) = ups (rdt (rx s.1 (tg m b s) (ec m)) W k t) k (wmin (rdt (rx s.1 (tg m b s) (ec m)) W k t k) (wvl s.1 (tg m b s) (ec m) (rdt (rx s.1 (tg m b s) (ec m)) W k t) k t)) := rfl
    generalize hWt : rdt (rx s.1 (tg m b s) (ec m)) W k t = Wt at bt bj es f2 f3
    have same : wmin (Wt k) (wvl s.1 (tg m b s) (ec m) Wt k t) = Wt k → kW sh kp 201 61 [some (.ref 44), some (.ref 1), some (.int (nI k)), some (.int x), some (.int (nI t)), none] [] (I', L, kr q w r1 r2) K := fun hm => bF_shorten_h_61 (by
      rw [hm, ups_id] at es
      rw [nI_1]
      have := ih I' x f1
      rw [es] at this
      exact this f2 f3)
    have newv : wmin (Wt k) (wvl s.1 (tg m b s) (ec m) Wt k t) = wvl s.1 (tg m b s) (ec m) Wt k t → kW sh kp 201 51 [some (.ref 44), some (.ref 1), some (.int (nI k)), none, some (.int (nI t)), some (.int (sI (wvl s.1 (tg m b s) (ec m) Wt k t)))] [] (I', L, kr q w r1 r2) K := fun hm => bF_shorten_h_51 ⟨vp_in_nI (show k < 200 by omega) (by decide), bF_shorten_h_61 (by
      rw [hm] at es
      rw [nI_1, nI_clamp (by omega)]
      refine ih _ 1 (fun a k z => by rw [up_a z]; exact f1 a k z) (fun j hj => ?_) (Or.inr rfl)
      rw [es]
      by_cases e : j = k
      · rw [e, up_s, ups_s]
      · rw [up_k e, ups_o e]
        exact f2 j hj)⟩
    refine bF_shorten_h_5 (pk_le (m 1) t (fun g => absurd g (by omega)) (fun _ => bF_shorten_h_14 (c_wayOver_h (W := Wt) hw hR' h200 hk ht (fun k hk t ht => (f1 48 _ (by decide)).trans (hN k hk t ht)) f2 (fun j hj => by have := bj j hj; omega) (bF_shorten_h_22 ?_))) hR'.2.1)
    have hvb : wvl s.1 (tg m b s) (ec m) Wt k t ≤ Bd + 18002 := by
      unfold wvl
      have := ec_b (w6 t (by omega))
      split
      · rename_i z
        have := bj _ z.1
        omega
      · omega
    have hbk := bj k hk
    refine ⟨fun g => same ?_, fun g => bF_shorten_h_30 ?_⟩
    · have g0 := (sI_m1 (by omega)).mp g
      unfold wmin
      rw [if_pos g0]
    · have g0 : wvl s.1 (tg m b s) (ec m) Wt k t ≠ 0 := fun z => g (by rw [z]; rfl)
      rw [nI_clamp (by omega), f2 k hk]
      refine ⟨vp_in_nI (by omega) (by decide), fun g1 => newv ?_, fun g1 => bF_shorten_h_40 ?_⟩
      · have := (sI_m1 (by omega)).mp g1
        unfold wmin
        rw [if_neg g0, if_pos (Or.inl this)]
      · have g2 : Wt k ≠ 0 := fun z => g1 (by rw [z]; rfl)
        rw [nI_clamp (by omega), f2 k hk]
        rw [sI_s g2, sI_s g0]
        rw [sI_s g0] at newv
        refine ⟨vp_in_nI (by omega) (by decide), pk_le (Wt k - 1) (wvl s.1 (tg m b s) (ec m) Wt k t - 1) (fun g3 => same ?_) (fun g3 => newv ?_)⟩
        · unfold wmin
          rw [if_neg g0, if_neg (by omega)]
        · unfold wmin
          rw [if_neg g0, if_pos (Or.inr (by omega))]
theorem rdo_b_h {n S N Bd : Nat} {T : Nat → Nat → Nat} {c o : Nat → Nat} (hb : ∀ j, j < n → W j ≤ Bd) (hc : ∀ t, t < S → c t ≤ 9001) (hc1 : ∀ t, 1 ≤ c t) (ho : ∀ i, i < N → o i < n) : ∀ i, i ≤ N → ∀ j, j < n → rdo (rx n T c) o S W i j ≤ Bd + 9001 * i
  | 0, _, j, hj => hb j hj
  | i + 1, hi, j, hj => by
    have ih := rdo_b_h (T := T) hb hc hc1 ho i (by omega)
    have r := rdt_b (T := T) (ho i (by omega)) ih hc hc1 S (Nat.le_refl _)
    show rdt (rx n T c) (rdo (rx n T c) o S W i) (o i) S j ≤ _
    by_cases e : j = o i
    · rw [e]
      exact Nat.le_trans r.2 (by omega)
    · rw [r.1 j e]
      exact Nat.le_trans (ih j hj) (by omega)
theorem c_measure_h {s : sst} {b g : Nat} (hw : wb m) (hR : cR I L 1 m) (hgl : gl m s) (hS : cS I L 44 45 46 s) (hg : g < s.1) (hN : ∀ k, k < s.1 → ∀ t, t < m 1 → I 48 (8 * k + t) = nx m b s k t) (h6 : I 44 6 = 0) (h : ∀ I', (∀ a k, (a = 44 → k ≠ 6) → a ≠ 47 → I' a k = I a k) → I' 44 6 = 1 → (∃ W, dst m b s g W ∧ (∀ k, k < s.1 → W k ≤ 2 ^ 29) ∧ ∀ k, k < s.1 → I' 47 k = sI (W k)) → K none (I', L, kr q w r1 r2)) : kC sh kp 200 [.ref 44, .ref 1, .int (nI g)] (I, L, kr q w r1 r2) K := by
  have w1 := hw.2.1
  have w6 := hw.2.2.2.2.2.2.1
  have h200 := hgl.2.1
  obtain ⟨D, hD⟩ := gds_ex s.1 (m 1) (tg m b s) (ec m) g
  refine ⟨rfl, bF_measure_h_0 ⟨fun _ => bF_measure_h_8 (j_fillI rfl (by decide) fun I1 f1 f2 => bF_measure_h_21 ⟨fun _ => bF_measure_h_27 ⟨vp_in_nI (by omega) (by decide), ?_⟩, fun z => absurd z (nI_m1 (by omega))⟩), fun z => absurd h6 z⟩⟩
  rw [nI_clamp (by omega)]
  have loop : ∀ (r : Nat) (k : Nat), k + r = 200 → ∀ I' (x : Int32) (W : Nat → Nat), (∀ a k, (a = 44 → k ≠ 6) → a ≠ 47 → I' a k = I a k) → I' 44 6 = 1 → (∀ j, j < s.1 → I' 47 j = sI (W j)) → sdw s.1 g D W → (∀ j, j < s.1 → W j ≤ 1 + 1800200 * k) → (wrc (fun j => W j = D j) s.1 + k ≤ 199 ∨ wrc (fun j => W j = D j) s.1 = 0) → ((x = 0 ∧ wrc (fun j => W j = D j) s.1 = 0) ∨ x = 1) → kW sh kp 200 39 [some (.ref 44), some (.ref 1), none, some (.int x), some (.int (nI k)), none] [] (I', L, kr q w r1 r2) K := by
    intro r
    induction r with
    | zero =>
      intro k hk I' x W j1 j2 j3 j4 j5 j6 j7
      have e0 : wrc (fun j => W j = D j) s.1 = 0 := by omega
      refine bF_measure_h_39 (pk_le 200 k (fun _ => bF_measure_h_88 (h I' j1 j2 ⟨D, hD, fun j hj => ?_, fun j hj => ?_⟩)) (fun z => absurd z (by omega)))
      · have := wrc_0 e0 j hj
        have := j5 j hj
        omega
      · rw [← wrc_0 e0 j hj]
        exact j3 j hj
    | succ r ih =>
      intro k hk I' x W j1 j2 j3 j4 j5 j6 j7
      refine bF_measure_h_39 (pk_le 200 k (fun z => absurd z (by omega)) (fun _ => bF_measure_h_47 ⟨fun z => bF_measure_h_88 (h I' j1 j2 ?_), fun z => bF_measure_h_51 ?_⟩))
      · have e0 : wrc (fun j => W j = D j) s.1 = 0 := by
          rcases j7 with y | y
          · exact y.2
          · rw [y] at z
            exact absurd z (by decide)
        refine ⟨D, hD, fun j hj => ?_, fun j hj => ?_⟩
        · have := wrc_0 e0 j hj
          have := j5 j hj
          omega
        · rw [← wrc_0 e0 j hj]
          exact j3 j hj
      · have rnd := rx_round (T := tg m b s) (N := s.1) (o := fun i => s.1 - 1 - i) (S := m 1) ec_1 hD (fun i hi => by show s.1 - 1 - i < s.1; omega) (fun k hk _ => ⟨s.1 - 1 - k, by omega, by show s.1 - 1 - (s.1 - 1 - k) = k; omega⟩) j4
        have bnd := rdo_b_h (T := tg m b s) (N := s.1) (o := fun i => s.1 - 1 - i) (S := m 1) (c := ec m) j5 (fun t ht => ec_b (w6 t (by omega))) ec_1 (fun i hi => by show s.1 - 1 - i < s.1; omega)
        have inner := up0 (Pr := fun i => ∀ I2 (x2 : Int32), (∀ a k, (a = 44 → k ≠ 6) → a ≠ 47 → I2 a k = I a k) → I2 44 6 = 1 → (∀ j, j < s.1 → I2 47 j = sI (rdo (rx s.1 (tg m b s) (ec m)) (fun i => s.1 - 1 - i) (m 1) W i j)) → ((x2 = 0 ∧ rdo (rx s.1 (tg m b s) (ec m)) (fun i => s.1 - 1 - i) (m 1) W i = W) ∨ x2 = 1) → kW sh kp 200 61 [some (.ref 44), some (.ref 1), none, some (.int x2), some (.int (nI k)), some (.int (nI (s.1 - i) - 1))] [] (I2, L, kr q w r1 r2) K) (e := s.1) ?_ (fun i hi ih2 => ?_) I' 0 j1 j2 j3 (Or.inl ⟨rfl, rfl⟩)
        · rw [show I' 44 3 = nI s.1 from (j1 44 3 (fun _ => by decide) (by decide)).trans hS.1]
          exact inner
        · intro I2 x2 k1 k2 k3 k4
          rw [Nat.sub_self]
          refine bF_measure_h_61 ⟨fun _ => bF_measure_h_82 ?_, fun z => absurd (by decide) z⟩
          rw [nI_1]
          have bn := bnd s.1 (Nat.le_refl _)
          refine ih (k + 1) (by omega) I2 x2 _ k1 k2 k3 rnd.1 (fun j hj => by have := bn j hj; omega) ?_ ?_
          · by_cases z : wrc (fun j => W j = D j) s.1 = 0
            · exact Or.inr (wrc_all _ (rnd.2.1 z))
            · have := rnd.2.2 z
              omega
          · rcases k4 with ⟨y1, y2⟩ | y
            · refine Or.inl ⟨y1, ?_⟩
              by_cases z : wrc (fun j => W j = D j) s.1 = 0
              · exact wrc_all _ (rnd.2.1 z)
              · have := rnd.2.2 z
                rw [y2] at this
                omega
            · exact Or.inr y
        · intro I2 x2 k1 k2 k3 k4
          have hR2 : cR I2 L 1 m := cR_fr (fun a k z1 z2 => k1 a k (fun e => absurd e (by omega)) (by omega)) (fun _ _ _ _ => rfl) hR
          rw [show s.1 - i = (s.1 - 1 - i) + 1 by omega, nI_pred]
          have bi := bnd i (by omega)
          refine bF_measure_h_61 ⟨fun z => absurd z (nI_pos (by omega)), fun _ => bF_measure_h_66 (c_shorten_h (Bd := 1 + 1800200 * k + 9001 * i) hw hR2 h200 (by omega) (fun k hk t ht => (k1 48 _ (fun e => absurd e (by decide)) (by decide)).trans (hN k hk t ht)) k3 bi (by omega) fun I3 x3 l1 l2 l3 => bF_measure_h_74 ?_)⟩
          rw [← Int32.sub_eq_add_neg, show nI (s.1 - 1 - i) = nI (s.1 - (i + 1)) by congr 1; omega]
          refine ih2 I3 (x2 ||| x3) (fun a k z1 z2 => (l1 a k z2).trans (k1 a k z1 z2)) ((l1 44 6 (by decide)).trans k2) l2 ?_
          rcases k4 with ⟨y1, y2⟩ | y
          · rcases l3 with ⟨y3, y4⟩ | y3
            · refine Or.inl ⟨by rw [y1, y3]; decide, ?_⟩
              show rdt (rx s.1 (tg m b s) (ec m)) (rdo (rx s.1 (tg m b s) (ec m)) (fun i => s.1 - 1 - i) (m 1) W i) (s.1 - 1 - i) (m 1) = W
              rw [y4]
              exact y2
            · exact Or.inr (by rw [y1, y3]; decide)
          · rcases l3 with ⟨y3, _⟩ | y3
            · exact Or.inr (by rw [y, y3]; decide)
            · exact Or.inr (by rw [y, y3]; decide)
  have d1 : D g = 1 := hD.1
  refine loop 200 0 rfl _ 1 (fun k => if k = g then 1 else 0) (fun a k z1 z2 => ?_) ?_ (fun j hj => ?_) ⟨if_pos rfl, fun j hj => ?_⟩ (fun j hj => ?_) (Or.inl ?_) (Or.inr rfl)
  · rw [up_a z2, f1 a k z2]
    by_cases e : a = 44
    · exact up_k (z1 e)
    · exact up_a e
  · rw [up_a (by decide), f1 _ _ (by decide), up_s]
  · by_cases e : j = g
    · rw [e, up_s, if_pos rfl]
      rfl
    · rw [up_k e, if_neg e]
      exact f2 j (show j < 200 by omega)
  · by_cases e : j = g
    · rw [e]
      exact Or.inr ⟨by omega, by rw [d1]; exact Nat.le_of_eq (if_pos rfl).symm⟩
    · exact Or.inl (if_neg e)
  · show (if j = g then 1 else 0) ≤ _
    split <;> omega
  · have := wrc_g (R := fun j => (if j = g then 1 else 0) = D j) hg (by show (if g = g then 1 else 0) = D g; rw [if_pos rfl, d1])
    omega
theorem c_wayless_h {s : sst} (h200 : s.1 ≤ 200) (hS : cS I L 44 45 46 s) (hW : ∀ k, k < s.1 → I 47 k = sI (W k)) (hb : ∀ k, k < s.1 → W k ≤ 2 ^ 29) (h : K (some (.int (nI (cn (fun k => Nat.beq (W k) 0) s.1)))) (I, L, kr q w r1 r2)) : kC sh kp 203 [.ref 44] (I, L, kr q w r1 r2) K := by
  refine ⟨rfl, bF_wayless_h_0 (up0 (Pr := fun i => kW sh kp 203 4 [some (.ref 44), some (.int (nI (cn (fun k => Nat.beq (W k) 0) i))), some (.int (nI i))] [] (I, L, kr q w r1 r2) K) (e := s.1) ?_ fun i hi ih => ?_)⟩
  · exact bF_wayless_h_4 (pk_le s.1 s.1 (fun _ => bF_wayless_h_31 h) (fun g => absurd g (by omega)) hS.1)
  · have hbi := hb i hi
    rw [cn_s] at ih
    refine bF_wayless_h_4 (pk_le s.1 i (fun g => absurd g (by omega)) (fun _ => bF_wayless_h_12 ?_) hS.1)
    rw [nI_clamp (by omega), hW i hi]
    refine ⟨vp_in_nI (by omega) (by decide), fun g => bF_wayless_h_25 ?_, fun g => bF_wayless_h_22 (bF_wayless_h_25 ?_)⟩
    · have g0 : Nat.beq (W i) 0 = false := Bool.eq_false_iff.mpr fun z => g (by rw [beq_iff.mp z]; rfl)
      rw [g0] at ih
      rw [nI_1]
      exact ih
    · have g0 : Nat.beq (W i) 0 = true := beq_iff.mpr ((sI_m1 (by omega)).mp g)
      rw [g0] at ih
      rw [nI_1, nI_1]
      exact ih
end MEASURE_h
section MEASURE_a
variable {I : Nat → Nat → Int32} {L : Nat → Nat → Int64} {q r1 r2 : Nat → Nat} {w : Bool} {K : km_K} {m W : Nat → Nat}
theorem c_wayOver_a {s : sst} {b k t : Nat} (hw : wb m) (hR : cR I L 1 m) (h200 : s.1 ≤ 200) (hk : k < s.1) (ht : t < m 1) (hN : ∀ k, k < s.1 → ∀ t, t < m 1 → I 54 (8 * k + t) = nx m b s k t) (hW : ∀ k, k < s.1 → I 53 k = sI (W k)) (hb : ∀ k, k < s.1 → W k ≤ 2 ^ 30) (h : K (some (.int (sI (wvl s.1 (tg m b s) (ec m) W k t)))) (I, L, kr q w r1 r2)) : kC sh kp 202 [.ref 50, .ref 1, .int (nI k), .int (nI t)] (I, L, kr q w r1 r2) K := by
  have w1 := hw.2.1
  have b6 := hw.2.2.2.2.2.2.1 t (by omega)
  refine ⟨rfl, bF_wayOver_a_0 ?_⟩
  rw [nx8, nI_clamp (by omega), hN k hk t ht]
  unfold wvl at h
  by_cases e : tg m b s k t < s.1
  · rw [nx_in e]
    refine ⟨vp_in_nI (by omega) (by decide), fun g => absurd g (nI_pos (by omega)), fun _ => bF_wayOver_a_18 ?_⟩
    rw [nI_clamp (by omega), hW _ e]
    have hbw := hb _ e
    by_cases e2 : W (tg m b s k t) = 0
    · rw [if_neg (fun z => z.2 e2)] at h
      refine ⟨vp_in_nI (by omega) (by decide), fun g => absurd (by rw [e2]; rfl) g, fun _ => bF_wayOver_a_29 h⟩
    · rw [if_pos ⟨e, e2⟩] at h
      refine ⟨vp_in_nI (by omega) (by decide), fun _ => bF_wayOver_a_31 ?_, fun g => absurd g (sI_p (by omega) e2)⟩
      rw [nI_clamp (by omega), nI_clamp (by omega), hW _ e, sI_s e2, (hR.2.2.2.2.2.2.2.1 t ht).2.2, fa_lit 1000, pk_mul, nI_add, nI_1]
      refine ⟨vp_in_nI (by omega) (by decide), vp_in_nI (by omega) (by decide), ?_⟩
      rw [sI_s (by omega)] at h
      have ee : W (tg m b s k t) - 1 + m (32 + t) * 1000 + 1 = W (tg m b s k t) + ec m t - 1 := by
        unfold ec
        omega
      rw [ee]
      exact h
  · rw [if_neg (fun z => e z.1)] at h
    exact ⟨vp_in_nI (by omega) (by decide), fun _ => bF_wayOver_a_29 h, fun g => absurd (nx_out e) g⟩
theorem c_shorten_a {s : sst} {b k Bd : Nat} (hw : wb m) (hR : cR I L 1 m) (h200 : s.1 ≤ 200) (hk : k < s.1) (hN : ∀ k, k < s.1 → ∀ t, t < m 1 → I 54 (8 * k + t) = nx m b s k t) (hW : ∀ k, k < s.1 → I 53 k = sI (W k)) (hb : ∀ k, k < s.1 → W k ≤ Bd) (hbd : Bd + 20000 ≤ 2 ^ 30) (h : ∀ I' x, (∀ a k, a ≠ 53 → I' a k = I a k) → (∀ j, j < s.1 → I' 53 j = sI (rdt (rx s.1 (tg m b s) (ec m)) W k (m 1) j)) → ((x = 0 ∧ rdt (rx s.1 (tg m b s) (ec m)) W k (m 1) = W) ∨ x = 1) → K (some (.int x)) (I', L, kr q w r1 r2)) : kC sh kp 201 [.ref 50, .ref 1, .int (nI k)] (I, L, kr q w r1 r2) K := by
  have w1 := hw.2.1
  have w6 := hw.2.2.2.2.2.2.1
  refine ⟨rfl, bF_shorten_a_0 ?_⟩
  refine up0 (Pr := fun t => ∀ I' x, (∀ a k, a ≠ 53 → I' a k = I a k) → (∀ j, j < s.1 → I' 53 j = sI (rdt (rx s.1 (tg m b s) (ec m)) W k t j)) → ((x = 0 ∧ rdt (rx s.1 (tg m b s) (ec m)) W k t = W) ∨ x = 1) → kW sh kp 201 5 [some (.ref 50), some (.ref 1), some (.int (nI k)), some (.int x), some (.int (nI t)), none] [] (I', L, kr q w r1 r2) K) (e := m 1) ?_ (fun t ht ih => ?_) I 0 (fun _ _ _ => rfl) hW (Or.inl ⟨rfl, rfl⟩)
  · intro I' x f1 f2 f3
    have hR' : cR I' L 1 m := cR_fr (fun a k z1 z2 => f1 a k (by omega)) (fun _ _ _ _ => rfl) hR
    exact bF_shorten_a_5 (pk_le (m 1) (m 1) (fun _ => bF_shorten_a_67 ⟨by rcases f3 with z | z; exact Or.inl z.1; exact Or.inr z, h I' x f1 f2 f3⟩) (fun g => absurd g (by omega)) hR'.2.1)
  · intro I' x f1 f2 f3
    have hR' : cR I' L 1 m := cR_fr (fun a k z1 z2 => f1 a k (by omega)) (fun _ _ _ _ => rfl) hR
    have bt := rdt_b (T := tg m b s) (S := m 1) (c := ec m) hk hb (fun t ht => ec_b (w6 t (by omega))) ec_1 t (by omega)
    have bj : ∀ j, j < s.1 → rdt (rx s.1 (tg m b s) (ec m)) W k t j ≤ Bd + 9001 := fun j hj => by
      by_cases e : j = k
      · rw [e]
        exact bt.2
      · rw [bt.1 j e]
        have := hb j hj
        omega
    have es : rdt (rx s.1 (tg m b s) (ec m)) W k (t + 1) = ups (rdt (rx s.1 (tg m b s) (ec m)) W k t) k (wmin (rdt (rx s.1 (tg m b s) (ec m)) W k t k) (wvl s.1 (tg m b s) (ec m) (rdt (rx s.1 (tg m b s) (ec m)) W k t) k t)) := rfl
    generalize hWt : rdt (rx s.1 (tg m b s) (ec m)) W k t = Wt at bt bj es f2 f3
    have same : wmin (Wt k) (wvl s.1 (tg m b s) (ec m) Wt k t) = Wt k → kW sh kp 201 61 [some (.ref 50), some (.ref 1), some (.int (nI k)), some (.int x), some (.int (nI t)), none] [] (I', L, kr q w r1 r2) K := fun hm => bF_shorten_a_61 (by
      rw [hm, ups_id] at es
      rw [nI_1]
      have := ih I' x f1
      rw [es] at this
      exact this f2 f3)
    have newv : wmin (Wt k) (wvl s.1 (tg m b s) (ec m) Wt k t) = wvl s.1 (tg m b s) (ec m) Wt k t → kW sh kp 201 51 [some (.ref 50), some (.ref 1), some (.int (nI k)), none, some (.int (nI t)), some (.int (sI (wvl s.1 (tg m b s) (ec m) Wt k t)))] [] (I', L, kr q w r1 r2) K := fun hm => bF_shorten_a_51 ⟨vp_in_nI (show k < 200 by omega) (by decide), bF_shorten_a_61 (by
      rw [hm] at es
      rw [nI_1, nI_clamp (by omega)]
      refine ih _ 1 (fun a k z => by rw [up_a z]; exact f1 a k z) (fun j hj => ?_) (Or.inr rfl)
      rw [es]
      by_cases e : j = k
      · rw [e, up_s, ups_s]
      · rw [up_k e, ups_o e]
        exact f2 j hj)⟩
    refine bF_shorten_a_5 (pk_le (m 1) t (fun g => absurd g (by omega)) (fun _ => bF_shorten_a_14 (c_wayOver_a (W := Wt) hw hR' h200 hk ht (fun k hk t ht => (f1 54 _ (by decide)).trans (hN k hk t ht)) f2 (fun j hj => by have := bj j hj; omega) (bF_shorten_a_22 ?_))) hR'.2.1)
    have hvb : wvl s.1 (tg m b s) (ec m) Wt k t ≤ Bd + 18002 := by
      unfold wvl
      have := ec_b (w6 t (by omega))
      split
      · rename_i z
        have := bj _ z.1
        omega
      · omega
    have hbk := bj k hk
    refine ⟨fun g => same ?_, fun g => bF_shorten_a_30 ?_⟩
    · have g0 := (sI_m1 (by omega)).mp g
      unfold wmin
      rw [if_pos g0]
    · have g0 : wvl s.1 (tg m b s) (ec m) Wt k t ≠ 0 := fun z => g (by rw [z]; rfl)
      rw [nI_clamp (by omega), f2 k hk]
      refine ⟨vp_in_nI (by omega) (by decide), fun g1 => newv ?_, fun g1 => bF_shorten_a_40 ?_⟩
      · have := (sI_m1 (by omega)).mp g1
        unfold wmin
        rw [if_neg g0, if_pos (Or.inl this)]
      · have g2 : Wt k ≠ 0 := fun z => g1 (by rw [z]; rfl)
        rw [nI_clamp (by omega), f2 k hk]
        rw [sI_s g2, sI_s g0]
        rw [sI_s g0] at newv
        refine ⟨vp_in_nI (by omega) (by decide), pk_le (Wt k - 1) (wvl s.1 (tg m b s) (ec m) Wt k t - 1) (fun g3 => same ?_) (fun g3 => newv ?_)⟩
        · unfold wmin
          rw [if_neg g0, if_neg (by omega)]
        · unfold wmin
          rw [if_neg g0, if_pos (Or.inr (by omega))]
theorem rdo_b_a {n S N Bd : Nat} {T : Nat → Nat → Nat} {c o : Nat → Nat} (hb : ∀ j, j < n → W j ≤ Bd) (hc : ∀ t, t < S → c t ≤ 9001) (hc1 : ∀ t, 1 ≤ c t) (ho : ∀ i, i < N → o i < n) : ∀ i, i ≤ N → ∀ j, j < n → rdo (rx n T c) o S W i j ≤ Bd + 9001 * i
  | 0, _, j, hj => hb j hj
  | i + 1, hi, j, hj => by
    have ih := rdo_b_a (T := T) hb hc hc1 ho i (by omega)
    have r := rdt_b (T := T) (ho i (by omega)) ih hc hc1 S (Nat.le_refl _)
    show rdt (rx n T c) (rdo (rx n T c) o S W i) (o i) S j ≤ _
    by_cases e : j = o i
    · rw [e]
      exact Nat.le_trans r.2 (by omega)
    · rw [r.1 j e]
      exact Nat.le_trans (ih j hj) (by omega)
theorem c_measure_a {s : sst} {b g : Nat} (hw : wb m) (hR : cR I L 1 m) (hgl : gl m s) (hS : cS I L 50 51 52 s) (hg : g < s.1) (hN : ∀ k, k < s.1 → ∀ t, t < m 1 → I 54 (8 * k + t) = nx m b s k t) (h6 : I 50 6 = 0) (h : ∀ I', (∀ a k, (a = 50 → k ≠ 6) → a ≠ 53 → I' a k = I a k) → I' 50 6 = 1 → (∃ W, dst m b s g W ∧ (∀ k, k < s.1 → W k ≤ 2 ^ 29) ∧ ∀ k, k < s.1 → I' 53 k = sI (W k)) → K none (I', L, kr q w r1 r2)) : kC sh kp 200 [.ref 50, .ref 1, .int (nI g)] (I, L, kr q w r1 r2) K := by
  have w1 := hw.2.1
  have w6 := hw.2.2.2.2.2.2.1
  have h200 := hgl.2.1
  obtain ⟨D, hD⟩ := gds_ex s.1 (m 1) (tg m b s) (ec m) g
  refine ⟨rfl, bF_measure_a_0 ⟨fun _ => bF_measure_a_8 (j_fillI rfl (by decide) fun I1 f1 f2 => bF_measure_a_21 ⟨fun _ => bF_measure_a_27 ⟨vp_in_nI (by omega) (by decide), ?_⟩, fun z => absurd z (nI_m1 (by omega))⟩), fun z => absurd h6 z⟩⟩
  rw [nI_clamp (by omega)]
  have loop : ∀ (r : Nat) (k : Nat), k + r = 200 → ∀ I' (x : Int32) (W : Nat → Nat), (∀ a k, (a = 50 → k ≠ 6) → a ≠ 53 → I' a k = I a k) → I' 50 6 = 1 → (∀ j, j < s.1 → I' 53 j = sI (W j)) → sdw s.1 g D W → (∀ j, j < s.1 → W j ≤ 1 + 1800200 * k) → (wrc (fun j => W j = D j) s.1 + k ≤ 199 ∨ wrc (fun j => W j = D j) s.1 = 0) → ((x = 0 ∧ wrc (fun j => W j = D j) s.1 = 0) ∨ x = 1) → kW sh kp 200 39 [some (.ref 50), some (.ref 1), none, some (.int x), some (.int (nI k)), none] [] (I', L, kr q w r1 r2) K := by
    intro r
    induction r with
    | zero =>
      intro k hk I' x W j1 j2 j3 j4 j5 j6 j7
      have e0 : wrc (fun j => W j = D j) s.1 = 0 := by omega
      refine bF_measure_a_39 (pk_le 200 k (fun _ => bF_measure_a_88 (h I' j1 j2 ⟨D, hD, fun j hj => ?_, fun j hj => ?_⟩)) (fun z => absurd z (by omega)))
      · have := wrc_0 e0 j hj
        have := j5 j hj
        omega
      · rw [← wrc_0 e0 j hj]
        exact j3 j hj
    | succ r ih =>
      intro k hk I' x W j1 j2 j3 j4 j5 j6 j7
      refine bF_measure_a_39 (pk_le 200 k (fun z => absurd z (by omega)) (fun _ => bF_measure_a_47 ⟨fun z => bF_measure_a_88 (h I' j1 j2 ?_), fun z => bF_measure_a_51 ?_⟩))
      · have e0 : wrc (fun j => W j = D j) s.1 = 0 := by
          rcases j7 with y | y
          · exact y.2
          · rw [y] at z
            exact absurd z (by decide)
        refine ⟨D, hD, fun j hj => ?_, fun j hj => ?_⟩
        · have := wrc_0 e0 j hj
          have := j5 j hj
          omega
        · rw [← wrc_0 e0 j hj]
          exact j3 j hj
      · have rnd := rx_round (T := tg m b s) (N := s.1) (o := fun i => s.1 - 1 - i) (S := m 1) ec_1 hD (fun i hi => by show s.1 - 1 - i < s.1; omega) (fun k hk _ => ⟨s.1 - 1 - k, by omega, by show s.1 - 1 - (s.1 - 1 - k) = k; omega⟩) j4
        have bnd := rdo_b_a (T := tg m b s) (N := s.1) (o := fun i => s.1 - 1 - i) (S := m 1) (c := ec m) j5 (fun t ht => ec_b (w6 t (by omega))) ec_1 (fun i hi => by show s.1 - 1 - i < s.1; omega)
        have inner := up0 (Pr := fun i => ∀ I2 (x2 : Int32), (∀ a k, (a = 50 → k ≠ 6) → a ≠ 53 → I2 a k = I a k) → I2 50 6 = 1 → (∀ j, j < s.1 → I2 53 j = sI (rdo (rx s.1 (tg m b s) (ec m)) (fun i => s.1 - 1 - i) (m 1) W i j)) → ((x2 = 0 ∧ rdo (rx s.1 (tg m b s) (ec m)) (fun i => s.1 - 1 - i) (m 1) W i = W) ∨ x2 = 1) → kW sh kp 200 61 [some (.ref 50), some (.ref 1), none, some (.int x2), some (.int (nI k)), some (.int (nI (s.1 - i) - 1))] [] (I2, L, kr q w r1 r2) K) (e := s.1) ?_ (fun i hi ih2 => ?_) I' 0 j1 j2 j3 (Or.inl ⟨rfl, rfl⟩)
        · rw [show I' 50 3 = nI s.1 from (j1 50 3 (fun _ => by decide) (by decide)).trans hS.1]
          exact inner
        · intro I2 x2 k1 k2 k3 k4
          rw [Nat.sub_self]
          refine bF_measure_a_61 ⟨fun _ => bF_measure_a_82 ?_, fun z => absurd (by decide) z⟩
          rw [nI_1]
          have bn := bnd s.1 (Nat.le_refl _)
          refine ih (k + 1) (by omega) I2 x2 _ k1 k2 k3 rnd.1 (fun j hj => by have := bn j hj; omega) ?_ ?_
          · by_cases z : wrc (fun j => W j = D j) s.1 = 0
            · exact Or.inr (wrc_all _ (rnd.2.1 z))
            · have := rnd.2.2 z
              omega
          · rcases k4 with ⟨y1, y2⟩ | y
            · refine Or.inl ⟨y1, ?_⟩
              by_cases z : wrc (fun j => W j = D j) s.1 = 0
              · exact wrc_all _ (rnd.2.1 z)
              · have := rnd.2.2 z
                rw [y2] at this
                omega
            · exact Or.inr y
        · intro I2 x2 k1 k2 k3 k4
          have hR2 : cR I2 L 1 m := cR_fr (fun a k z1 z2 => k1 a k (fun e => absurd e (by omega)) (by omega)) (fun _ _ _ _ => rfl) hR
          rw [show s.1 - i = (s.1 - 1 - i) + 1 by omega, nI_pred]
          have bi := bnd i (by omega)
          refine bF_measure_a_61 ⟨fun z => absurd z (nI_pos (by omega)), fun _ => bF_measure_a_66 (c_shorten_a (Bd := 1 + 1800200 * k + 9001 * i) hw hR2 h200 (by omega) (fun k hk t ht => (k1 54 _ (fun e => absurd e (by decide)) (by decide)).trans (hN k hk t ht)) k3 bi (by omega) fun I3 x3 l1 l2 l3 => bF_measure_a_74 ?_)⟩
          rw [← Int32.sub_eq_add_neg, show nI (s.1 - 1 - i) = nI (s.1 - (i + 1)) by congr 1; omega]
          refine ih2 I3 (x2 ||| x3) (fun a k z1 z2 => (l1 a k z2).trans (k1 a k z1 z2)) ((l1 50 6 (by decide)).trans k2) l2 ?_
          rcases k4 with ⟨y1, y2⟩ | y
          · rcases l3 with ⟨y3, y4⟩ | y3
            · refine Or.inl ⟨by rw [y1, y3]; decide, ?_⟩
              show rdt (rx s.1 (tg m b s) (ec m)) (rdo (rx s.1 (tg m b s) (ec m)) (fun i => s.1 - 1 - i) (m 1) W i) (s.1 - 1 - i) (m 1) = W
              rw [y4]
              exact y2
            · exact Or.inr (by rw [y1, y3]; decide)
          · rcases l3 with ⟨y3, _⟩ | y3
            · exact Or.inr (by rw [y, y3]; decide)
            · exact Or.inr (by rw [y, y3]; decide)
  have d1 : D g = 1 := hD.1
  refine loop 200 0 rfl _ 1 (fun k => if k = g then 1 else 0) (fun a k z1 z2 => ?_) ?_ (fun j hj => ?_) ⟨if_pos rfl, fun j hj => ?_⟩ (fun j hj => ?_) (Or.inl ?_) (Or.inr rfl)
  · rw [up_a z2, f1 a k z2]
    by_cases e : a = 50
    · exact up_k (z1 e)
    · exact up_a e
  · rw [up_a (by decide), f1 _ _ (by decide), up_s]
  · by_cases e : j = g
    · rw [e, up_s, if_pos rfl]
      rfl
    · rw [up_k e, if_neg e]
      exact f2 j (show j < 200 by omega)
  · by_cases e : j = g
    · rw [e]
      exact Or.inr ⟨by omega, by rw [d1]; exact Nat.le_of_eq (if_pos rfl).symm⟩
    · exact Or.inl (if_neg e)
  · show (if j = g then 1 else 0) ≤ _
    split <;> omega
  · have := wrc_g (R := fun j => (if j = g then 1 else 0) = D j) hg (by show (if g = g then 1 else 0) = D g; rw [if_pos rfl, d1])
    omega
theorem c_wayless_a {s : sst} (h200 : s.1 ≤ 200) (hS : cS I L 50 51 52 s) (hW : ∀ k, k < s.1 → I 53 k = sI (W k)) (hb : ∀ k, k < s.1 → W k ≤ 2 ^ 29) (h : K (some (.int (nI (cn (fun k => Nat.beq (W k) 0) s.1)))) (I, L, kr q w r1 r2)) : kC sh kp 203 [.ref 50] (I, L, kr q w r1 r2) K := by
  refine ⟨rfl, bF_wayless_a_0 (up0 (Pr := fun i => kW sh kp 203 4 [some (.ref 50), some (.int (nI (cn (fun k => Nat.beq (W k) 0) i))), some (.int (nI i))] [] (I, L, kr q w r1 r2) K) (e := s.1) ?_ fun i hi ih => ?_)⟩
  · exact bF_wayless_a_4 (pk_le s.1 s.1 (fun _ => bF_wayless_a_31 h) (fun g => absurd g (by omega)) hS.1)
  · have hbi := hb i hi
    rw [cn_s] at ih
    refine bF_wayless_a_4 (pk_le s.1 i (fun g => absurd g (by omega)) (fun _ => bF_wayless_a_12 ?_) hS.1)
    rw [nI_clamp (by omega), hW i hi]
    refine ⟨vp_in_nI (by omega) (by decide), fun g => bF_wayless_a_25 ?_, fun g => bF_wayless_a_22 (bF_wayless_a_25 ?_)⟩
    · have g0 : Nat.beq (W i) 0 = false := Bool.eq_false_iff.mpr fun z => g (by rw [beq_iff.mp z]; rfl)
      rw [g0] at ih
      rw [nI_1]
      exact ih
    · have g0 : Nat.beq (W i) 0 = true := beq_iff.mpr ((sI_m1 (by omega)).mp g)
      rw [g0] at ih
      rw [nI_1, nI_1]
      exact ih
end MEASURE_a
