/-! THE REFERENCE'S WAYS: layFar -/
section MFAR
variable {I : Nat → Nat → Int32} {L : Nat → Nat → Int64} {q r1 r2 : Nat → Nat} {w : Bool} {K : km_K} {m : Nat → Nat}
theorem sI_neg {v : Nat} (h : v ≤ 2 ^ 30) : (sI v < 0 ↔ v = 0) := by
  constructor
  · intro g
    refine Classical.byContradiction fun h0 => ?_
    rw [sI_s h0] at g
    exact nI_pos (by omega) g
  · intro g
    rw [g]
    decide
theorem le0 {x : Int32} : (0 ≤ x ↔ ¬ x < 0) := by
  rw [fa_le, fa_lt, Int.not_lt]
theorem m_layFar {s : sst} (hn : nN I m) (hw : wb m) (hl : ∀ p, p < m 0 → m (12 + p) ≤ m (2 + p)) (hS : mS I L s) (hg : gl m s) (h : ∀ I' D, (∀ a k, a ≠ 76 → a ≠ 87 → I' a k = I a k) → dst m 5 s (pl s (hc m)) D → (∀ k, k < s.1 → D k ≤ 2 ^ 30) → (∀ k, k < s.1 → ∀ t, t < m 1 → I' 76 (8 * k + t) = lI m s k t) → (∀ k, k < s.1 → I' 87 k = sI (D k)) → K none (I', L, kr q w r1 r2)) : kC sh kp 141 [.ref 71] (I, L, kr q w r1 r2) K := by
  have h200 := hg.2.1
  have h1 := hg.1
  have w1 := hw.2.1
  have w6 := hw.2.2.2.2.2.2.1
  have hple := pl_le s (hc m)
  obtain ⟨D, hD⟩ := gds_ex s.1 (m 1) (tg m 5 s) (ec m) (pl s (hc m))
  have sA := fun x k t (hk : k < s.1) (ht : t < m 1) => rx_sd (T := tg m 5 s) (c := ec m) ec_1 hD x k t hk ht
  have sB := fun x k t j (hk : k < s.1) (ht : t < m 1) (hj : j < s.1) => rx_rt (T := tg m 5 s) (c := ec m) hD x k t j hk ht hj
  refine ⟨rfl, bM_layFar_0 (m_layNext hn hw hS hg fun I1 f1 fN => bM_layFar_4 (m_home (nN_fr hn fun a k z _ _ => f1 a k z) hw hl (bM_layFar_11 ?_)))⟩
  have fin : ∀ I' (W : Nat → Nat), (∀ a k, a ≠ 76 → a ≠ 87 → I' a k = I a k) → (∀ k, k < s.1 → ∀ t, t < m 1 → I' 76 (8 * k + t) = lI m s k t) → (∀ j, j < s.1 → I' 87 j = sI (W j)) → (∀ j, j < s.1 → W j ≤ 2 ^ 30) → wrc (fun j => W j = D j) s.1 = 0 → kW sh kp 141 52 [some (.ref 71), none, none, some (.int 0), none, none, none, none] [] (I', L, kr q w r1 r2) K := fun I' W g1 gN g2 g3 g4 => bM_layFar_52 ⟨fun _ => bM_layFar_198 (h I' D g1 hD (fun k hk => by rw [← wrc_0 g4 k hk]; exact g3 k hk) gN (fun k hk => by rw [← wrc_0 g4 k hk]; exact g2 k hk)), fun z => absurd rfl z⟩
  have loop : ∀ (u r : Nat) I' (W : Nat → Nat), (∀ a k, a ≠ 76 → a ≠ 87 → I' a k = I a k) → (∀ k, k < s.1 → ∀ t, t < m 1 → I' 76 (8 * k + t) = lI m s k t) → (∀ j, j < s.1 → I' 87 j = sI (W j)) → sdw s.1 (pl s (hc m)) D W → (∀ j, j < s.1 → W j ≤ 1 + 1800200 * r) → wrc (fun j => W j = D j) s.1 ≤ u → r + u ≤ 199 → kW sh kp 141 52 [some (.ref 71), none, none, some (.int 1), none, none, none, none] [] (I', L, kr q w r1 r2) K := by
    intro u
    induction u using Nat.strongRecOn with
    | ind u ih =>
      intro r I' W g1 gN g2 g3 gb g4 gr
      have rnd := rx_round (T := tg m 5 s) (N := s.1) (o := fun i => i) (S := m 1) (c := ec m) ec_1 hD (fun i hi => hi) (fun k hk _ => ⟨k, hk, rfl⟩) g3
      have bnd := rdo_b_h (T := tg m 5 s) (N := s.1) (o := fun i => i) (S := m 1) (c := ec m) gb (fun t ht => ec_b (w6 t (by omega))) ec_1 (fun i hi => hi)
      refine bM_layFar_52 ⟨fun z => absurd z (by decide), fun _ => bM_layFar_56 ?_⟩
      refine up0 (Pr := fun i => ∀ I2 (x : Int32), (∀ a k, a ≠ 76 → a ≠ 87 → I2 a k = I a k) → (∀ k, k < s.1 → ∀ t, t < m 1 → I2 76 (8 * k + t) = lI m s k t) → (∀ j, j < s.1 → I2 87 j = sI (rdo (rx s.1 (tg m 5 s) (ec m)) (fun i => i) (m 1) W i j)) → ((x = 0 ∧ rdo (rx s.1 (tg m 5 s) (ec m)) (fun i => i) (m 1) W i = W) ∨ (x = 1 ∧ wrc (fun j => W j = D j) s.1 ≠ 0)) → kW sh kp 141 61 [some (.ref 71), none, none, some (.int x), some (.int (nI i)), none, none, none] [] (I2, L, kr q w r1 r2) K) (e := s.1) ?_ (fun k hk ih2 => ?_) I' 0 g1 gN g2 (Or.inl ⟨rfl, rfl⟩)
      · intro I2 x k1 kN k2 k3
        refine bM_layFar_61 (pk_le s.1 s.1 (fun _ => bM_layFar_195 ?_) (fun z => absurd z (by omega)) ((k1 71 8 (by decide) (by decide)).trans hS.1))
        rcases k3 with ⟨y1, y2⟩ | ⟨y1, y2⟩
        · rw [y1]
          have e0 : wrc (fun j => W j = D j) s.1 = 0 := by
            refine Classical.byContradiction fun z => ?_
            have := rnd.2.2 z
            rw [y2] at this
            omega
          rw [y2] at k2
          exact fin I2 W k1 kN k2 (fun j hj => by have := gb j hj; omega) e0
        · rw [y1]
          have := rnd.2.2 y2
          exact ih (u - 1) (by omega) (r + 1) I2 _ k1 kN k2 rnd.1 (fun j hj => by have := bnd s.1 (Nat.le_refl _) j hj; omega) (by omega) (by omega)
      · intro I2 x k1 kN k2 k3
        have y1 := rdo_sd (Sd := sdw s.1 (pl s (hc m)) D) (o := fun i => i) (N := s.1) sA (fun i hi => hi) g3 k (by omega)
        have y2 : wrc (fun j => W j = D j) s.1 = 0 → ∀ j, j < s.1 → rdo (rx s.1 (tg m 5 s) (ec m)) (fun i => i) (m 1) W k j = D j := fun z j hj => rdo_rt (Sd := sdw s.1 (pl s (hc m)) D) (Rt := fun x j => x j = D j) (o := fun i => i) (N := s.1) sA sB (fun i hi => hi) g3 hj (wrc_0 z j hj) k (by omega)
        have yb := bnd k (by omega)
        have es : rdo (rx s.1 (tg m 5 s) (ec m)) (fun i => i) (m 1) W (k + 1) = rdt (rx s.1 (tg m 5 s) (ec m)) (rdo (rx s.1 (tg m 5 s) (ec m)) (fun i => i) (m 1) W k) k (m 1) := rfl
        generalize hY : rdo (rx s.1 (tg m 5 s) (ec m)) (fun i => i) (m 1) W k = Y at y1 y2 es k2 k3 yb
        refine bM_layFar_61 (pk_le s.1 k (fun z => absurd z (by omega)) (fun _ => bM_layFar_70 ?_) ((k1 71 8 (by decide) (by decide)).trans hS.1))
        refine up0 (Pr := fun t => ∀ I3 (x3 : Int32), (∀ a k, a ≠ 76 → a ≠ 87 → I3 a k = I a k) → (∀ k, k < s.1 → ∀ t, t < m 1 → I3 76 (8 * k + t) = lI m s k t) → (∀ j, j < s.1 → I3 87 j = sI (rdt (rx s.1 (tg m 5 s) (ec m)) Y k t j)) → ((x3 = 0 ∧ rdt (rx s.1 (tg m 5 s) (ec m)) Y k t = W) ∨ (x3 = 1 ∧ wrc (fun j => W j = D j) s.1 ≠ 0)) → kW sh kp 141 73 [some (.ref 71), none, none, some (.int x3), some (.int (nI k)), some (.int (nI t)), none, none] [] (I3, L, kr q w r1 r2) K) (e := m 1) ?_ (fun t ht ih3 => ?_) I2 x k1 kN k2 k3
        · intro I3 x3 l1 lN l2 l3
          refine bM_layFar_73 ⟨pk_in 1 212 (by decide), pk_le (m 1) (m 1) (fun _ => bM_layFar_189 ?_) (fun z => absurd z (by omega)) (by rw [cl1, l1 72 1 (by decide) (by decide)]; exact hn 1 (by decide))⟩
          rw [nI_1]
          have := ih2 I3 x3 l1 lN
          rw [es] at this
          exact this l2 l3
        · intro I3 x3 l1 lN l2 l3
          have z1 := rdt_sd (Sd := sdw s.1 (pl s (hc m)) D) sA hk y1 t (by omega)
          have z2 : wrc (fun j => W j = D j) s.1 = 0 → ∀ j, j < s.1 → rdt (rx s.1 (tg m 5 s) (ec m)) Y k t j = D j := fun z j hj => rdt_rt (Sd := sdw s.1 (pl s (hc m)) D) (Rt := fun x j => x j = D j) sA sB hk y1 hj (y2 z j hj) t (by omega)
          have bt := rdt_b (T := tg m 5 s) (S := m 1) (c := ec m) hk yb (fun t ht => ec_b (w6 t (by omega))) ec_1 t (by omega)
          have et : rdt (rx s.1 (tg m 5 s) (ec m)) Y k (t + 1) = ups (rdt (rx s.1 (tg m 5 s) (ec m)) Y k t) k (wmin (rdt (rx s.1 (tg m 5 s) (ec m)) Y k t k) (wvl s.1 (tg m 5 s) (ec m) (rdt (rx s.1 (tg m 5 s) (ec m)) Y k t) k t)) := rfl
          generalize hZ : rdt (rx s.1 (tg m 5 s) (ec m)) Y k t = Z at z1 z2 bt et l2 l3
          have c9 := w6 t (by omega)
          have bj : ∀ j, j < s.1 → Z j ≤ 400000000 := fun j hj => by
            by_cases e : j = k
            · rw [e]
              have := bt.2
              omega
            · rw [bt.1 j e]
              have := yb j hj
              omega
          have bk := bj k hk
          have same : wmin (Z k) (wvl s.1 (tg m 5 s) (ec m) Z k t) = Z k → kW sh kp 141 183 [some (.ref 71), none, none, some (.int x3), some (.int (nI k)), some (.int (nI t)), none, none] [] (I3, L, kr q w r1 r2) K := fun hm => bM_layFar_183 (by
            rw [hm, ups_id] at et
            rw [nI_1]
            have := ih3 I3 x3 l1 lN
            rw [et] at this
            exact this l2 l3)
          have newv : ∀ v : Nat, v ≠ 0 → wvl s.1 (tg m 5 s) (ec m) Z k t = v → (Z k = 0 ∨ v < Z k) → kW sh kp 141 172 [some (.ref 71), none, none, none, some (.int (nI k)), some (.int (nI t)), none, some (.int (nI (v - 1)))] [] (I3, L, kr q w r1 r2) K := fun v hv0 hv hb => by
            have hm : wmin (Z k) (wvl s.1 (tg m 5 s) (ec m) Z k t) = v := by
              unfold wmin
              rw [hv, if_neg hv0, if_pos hb]
            have hw0 : wrc (fun j => W j = D j) s.1 ≠ 0 := fun a => by
              have b := z2 a k hk
              have c := wvl_d (T := tg m 5 s) (c := ec m) hD hk ht z1
              rw [hv] at c
              omega
            refine bM_layFar_172 ⟨vp_in_nI (show k < 200 by omega) (by decide), bM_layFar_183 ?_⟩
            rw [nI_1, nI_clamp (by omega)]
            have := ih3 (km_up I3 87 k (nI (v - 1))) 1 (fun a j y1 y2 => by rw [up_a y2]; exact l1 a j y1 y2) (fun a ha t ht => by rw [up_a (by decide)]; exact lN a ha t ht)
            rw [et, hm] at this
            refine this (fun j hj => ?_) (Or.inr ⟨rfl, hw0⟩)
            by_cases y : j = k
            · rw [y, up_s, ups_s, sI_s hv0]
            · rw [up_k y, ups_o y]
              exact l2 j hj
          have none' : wvl s.1 (tg m 5 s) (ec m) Z k t = 0 → kW sh kp 141 115 [some (.ref 71), none, none, some (.int x3), some (.int (nI k)), some (.int (nI t)), none, none] [] (I3, L, kr q w r1 r2) K := fun h0 => bM_layFar_115 (bM_layFar_143 ⟨fun _ => same (by
            unfold wmin
            rw [if_pos h0]), fun z => absurd (by decide) z⟩)
          refine bM_layFar_73 ⟨pk_in 1 212 (by decide), pk_le (m 1) t (fun z => absurd z (by omega)) (fun _ => bM_layFar_84 ?_) (by rw [cl1, l1 72 1 (by decide) (by decide)]; exact hn 1 (by decide))⟩
          rw [show 8 * nI k + nI t = nI (8 * k + t) by rw [fa_lit 8, pk_mul, nI_add], nI_clamp (by omega), lN k hk t ht]
          have hwv : wvl s.1 (tg m 5 s) (ec m) Z k t = if tg m 5 s k t < s.1 ∧ Z (tg m 5 s k t) ≠ 0 then Z (tg m 5 s k t) + ec m t else 0 := rfl
          unfold lI
          by_cases hT : tg m 5 s k t < s.1
          · have bT := bj _ hT
            rw [if_pos hT]
            refine ⟨vp_in_nI (by omega) (by decide), fun y => absurd y (nI_m1 (by omega)), fun _ => bM_layFar_105 ?_⟩
            rw [nI_clamp (by omega), l2 _ hT]
            refine ⟨vp_in_nI (by omega) (by decide), fun y => bM_layFar_119 ?_, fun y => none' ?_⟩
            · have zT : Z (tg m 5 s k t) ≠ 0 := fun a => (le0.mp y) ((sI_neg (by omega)).mpr a)
              rw [if_pos ⟨hT, zT⟩] at hwv
              have i32 := ix_p (c := 32) (p := t) (by omega)
              have hpos : Z (tg m 5 s k t) + ec m t ≠ 0 := by omega
              have eb := ec_b c9
              rw [nI_clamp (by omega), l2 _ hT, sI_s zT, fa_lit 32, i32.1, l1 72 _ (by decide) (by decide), hn _ (by omega), fa_lit 1000, pk_mul, nI_add (Z (tg m 5 s k t) - 1), nI_1, show Z (tg m 5 s k t) - 1 + 1000 * m (32 + t) + 1 = Z (tg m 5 s k t) + ec m t - 1 by unfold ec; omega]
              refine ⟨vp_in_nI (by omega) (by decide), i32.2, bM_layFar_143 ⟨fun z => absurd z (nI_pos (by omega)), fun _ => bM_layFar_150 ?_⟩⟩
              rw [nI_clamp (by omega), l2 k hk]
              refine ⟨vp_in_nI (by omega) (by decide), fun z => newv _ hpos hwv (Or.inl ((sI_neg (by omega)).mp z)), fun z => bM_layFar_160 ?_⟩
              have zk : Z k ≠ 0 := fun a => z ((sI_neg (by omega)).mpr a)
              rw [nI_clamp (by omega), l2 k hk, sI_s zk]
              refine ⟨vp_in_nI (by omega) (by decide), pk_le (Z k - 1) (Z (tg m 5 s k t) + ec m t - 1) (fun a => same ?_) (fun a => newv _ hpos hwv (Or.inr (by omega)))⟩
              unfold wmin
              rw [hwv, if_neg hpos, if_neg (by omega)]
            · have zT : Z (tg m 5 s k t) = 0 := (sI_neg (by omega)).mp (Classical.byContradiction fun a => y (le0.mpr a))
              rw [if_neg (fun a => a.2 zT)] at hwv
              exact hwv
          · rw [if_neg hT]
            rw [if_neg (fun a => hT a.1)] at hwv
            exact ⟨vp_in_nI (by omega) (by decide), fun _ => none' hwv, fun y => absurd rfl y⟩
  have gk0 := hg.2
  have hpi : ∀ k, k < s.1 → (s.2.1 k = hc m ↔ k = pl s (hc m)) := fun k hk => ⟨fun e => (pl_uniq gk0 hk e).symm, fun e => by
    have := pl_at (s := s) (c := hc m) (by omega)
    rw [e]
    exact this⟩
  refine up0 (Pr := fun i => ∀ I', (∀ a k, a ≠ 76 → a ≠ 87 → I' a k = I a k) → (∀ k, k < s.1 → ∀ t, t < m 1 → I' 76 (8 * k + t) = lI m s k t) → (∀ j, j < i → I' 87 j = sI (if j = pl s (hc m) then 1 else 0)) → kW sh kp 141 14 [some (.ref 71), some (.long (lN (c16 (hc m)))), none, some (.int (nI i)), none, none, none, none] [] (I', L, kr q w r1 r2) K) (e := s.1) ?_ (fun i hi ih => ?_) I1 (fun a k z _ => f1 a k z) fN (fun j hj => absurd hj (by omega))
  · intro I' g1 gN g2
    have hsd : sdw s.1 (pl s (hc m)) D (fun j => if j = pl s (hc m) then 1 else 0) := ⟨if_pos rfl, fun k hk => by
      by_cases e : k = pl s (hc m)
      · refine Or.inr ⟨by rw [e, hD.1]; decide, ?_⟩
        show D k ≤ if k = pl s (hc m) then 1 else 0
        rw [if_pos e, e, hD.1]
        exact Nat.le_refl _
      · exact Or.inl (if_neg e)⟩
    have hwr : wrc (fun j => (fun j => if j = pl s (hc m) then 1 else 0) j = D j) s.1 ≤ 199 := by
      by_cases e : pl s (hc m) < s.1
      · have := wrc_g (R := fun j => (fun j => if j = pl s (hc m) then 1 else 0) j = D j) e (by show (if pl s (hc m) = pl s (hc m) then 1 else 0) = _; rw [if_pos rfl, hD.1])
        omega
      · rw [wrc_all s.1 fun j hj => ?_]
        · exact Nat.zero_le _
        · show (if j = pl s (hc m) then 1 else 0) = D j
          rw [if_neg (by omega), gds_none ec_1 hD (by omega) _ j hj rfl]
    exact bM_layFar_14 (pk_le s.1 s.1 (fun _ => bM_layFar_50 (loop 199 0 I' _ g1 gN g2 hsd (fun j hj => by show (if j = pl s (hc m) then 1 else 0) ≤ _; split <;> omega) hwr (by omega))) (fun z => absurd z (by omega)) ((g1 71 8 (by decide) (by decide)).trans hS.1))
  · intro I' g1 gN g2
    have hv := (hg.2.2.1 i hi).1
    have nxt : ∀ v : Nat, v = (if i = pl s (hc m) then 1 else 0) → kW sh kp 141 43 [some (.ref 71), some (.long (lN (c16 (hc m)))), none, some (.int (nI i)), none, none, none, none] [.int (sI v), .int (nI i), .ref 87] (I', L, kr q w r1 r2) K := fun v hv => bM_layFar_43 ⟨rfl, vp_in_nI (show i < 200 by omega) (by decide), by
      rw [nI_clamp (by omega), nI_1]
      refine ih _ (fun a k z1 z2 => by rw [up_a z2]; exact g1 a k z1 z2) (fun k hk t ht => by rw [up_a (by decide)]; exact gN k hk t ht) (fun j hj => ?_)
      by_cases e : j = i
      · rw [e, up_s, hv]
      · rw [up_k e]
        exact g2 j (by omega)⟩
    refine bM_layFar_14 (pk_le s.1 i (fun z => absurd z (by omega)) (fun _ => bM_layFar_22 ?_) ((g1 71 8 (by decide) (by decide)).trans hS.1))
    rw [nI_clamp (by omega), (hS.2 i hi).1]
    have c1 := c16_lt hv
    have c2 := c16_lt (hc_vc hw)
    have heq : lg_cmp (lN (c16 (s.2.1 i))) (lN (c16 (hc m))) = 0 ↔ i = pl s (hc m) := by
      rw [lg0, pk_lEQ (Nat.lt_trans c1 (by decide)) (Nat.lt_trans c2 (by decide)), c16_inj hv (hc_vc hw), hpi i hi]
    exact ⟨vp_in_nI (by omega) (by decide), fun z => bM_layFar_42 (nxt 0 (by rw [if_neg (fun a => z (heq.mpr a))])), fun z => bM_layFar_38 (nxt 1 (by rw [if_pos (heq.mp z)]))⟩
end MFAR
