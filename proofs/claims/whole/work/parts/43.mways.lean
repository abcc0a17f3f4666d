/-! THE REFERENCE'S WAYS: leads, layNext, layWays, layFar -/
def lI (m : Nat → Nat) (s : sst) (k t : Nat) : Int32 := if tg m 5 s k t < s.1 then nI (tg m 5 s k t) else -1
theorem rb_id {n k t : Nat} {T : Nat → Nat → Nat} {W : Nat → Nat} (h : W k = 1) : rb n T W k t = W := by
  unfold rb
  rw [if_pos (Or.inl (by omega))]
  have : ups W k 1 = ups W k (W k) := by rw [h]
  rw [this, ups_id]
theorem rdt_id {n k : Nat} {T : Nat → Nat → Nat} {W : Nat → Nat} {t : Nat} (h : rdt (rb n T) W k t k = 1) : ∀ u, rdt (rb n T) W k (t + u) = rdt (rb n T) W k t
  | 0 => rfl
  | u + 1 => by
    have ih := rdt_id h u
    show rb n T (rdt (rb n T) W k (t + u)) k (t + u) = _
    rw [ih, rb_id h]
section MWAYS
variable {I : Nat → Nat → Int32} {L : Nat → Nat → Int64} {q r1 r2 : Nat → Nat} {w : Bool} {K : km_K} {m : Nat → Nat}
theorem m_leads {s : sst} {k t : Nat} (hn : nN I m) (hw : wb m) (hS : mS I L s) (hg : gl m s) (hk : k < s.1) (ht : t < m 1) (h : K (some (.int (lI m s k t))) (I, L, kr q w r1 r2)) : kC sh kp 88 [.ref 71, .int (nI k), .int (nI t)] (I, L, kr q w r1 r2) K := by
  have h200 := hg.2.1
  have w1 := hw.2.1
  have hv := (hg.2.2.1 k hk).1
  have vk : vp_in (nI k) 200 := vp_in_nI (by omega) (by decide)
  have ek : L 74 (nI k).toNatClampNeg = lN (c16 (s.2.1 k)) := by
    rw [nI_clamp (by omega)]
    exact (hS.2 k hk).1
  refine ⟨rfl, bM_leads_0 ⟨vk, ?_⟩⟩
  rw [ek]
  refine m_why (b := 5) hn hw (by omega) (by decide) hv.1 (bM_leads_12 ⟨fun g => bM_leads_33 (bM_leads_34 ?_), fun g => bM_leads_15 ⟨vk, ?_⟩⟩)
  · have g0 : ¬ why m (dg (s.2.1 k)) t 5 = 0 := fun z => g (by rw [z]; rfl)
    unfold lI tg at h
    rw [if_neg g0, if_neg (by omega)] at h
    exact h
  · have g0 := why0 g
    have hva := vc_aft hw.1 hv g0
    rw [ek]
    refine m_behind hn hw (by omega) hv.1 (roomz (why_room g0)).1 (bM_leads_27 ⟨rfl, ?_⟩)
    have e16 : mp 16 (aft m (dg (s.2.1 k)) t) 10 = c16 (aftc m (s.2.1 k) t) := by
      unfold c16
      rw [hva.2]
    rw [e16]
    refine m_placeIn hS hg hva.1 (bM_leads_30 (bM_leads_34 ?_))
    unfold lI tg at h
    rw [if_pos g0] at h
    exact h
theorem mS_fr {I' : Nat → Nat → Int32} {s : sst} (hS : mS I L s) (f : ∀ a k, a ≠ 76 → a ≠ 77 → a ≠ 87 → I' a k = I a k) : mS I' L s := ⟨(f 71 8 (by decide) (by decide) (by decide)).trans hS.1, fun j hj => ⟨(hS.2 j hj).1, (f 75 j (by decide) (by decide) (by decide)).trans (hS.2 j hj).2⟩⟩
theorem nN_fr {I' : Nat → Nat → Int32} (hn : nN I m) (f : ∀ a k, a ≠ 76 → a ≠ 77 → a ≠ 87 → I' a k = I a k) : nN I' m := fun k hk => (f 72 k (by decide) (by decide) (by decide)).trans (hn k hk)
theorem m_layNext {s : sst} (hn : nN I m) (hw : wb m) (hS : mS I L s) (hg : gl m s) (h : ∀ I', (∀ a k, a ≠ 76 → I' a k = I a k) → (∀ k, k < s.1 → ∀ t, t < m 1 → I' 76 (8 * k + t) = lI m s k t) → K none (I', L, kr q w r1 r2)) : kC sh kp 89 [.ref 71] (I, L, kr q w r1 r2) K := by
  have h200 := hg.2.1
  have w1 := hw.2.1
  refine ⟨rfl, bM_layNext_0 (up0 (Pr := fun i => ∀ I', (∀ a k, a ≠ 76 → I' a k = I a k) → (∀ k, k < i → ∀ t, t < m 1 → I' 76 (8 * k + t) = lI m s k t) → kW sh kp 89 2 [some (.ref 71), some (.int (nI i)), none] [] (I', L, kr q w r1 r2) K) (e := s.1) ?_ (fun i hi ih => ?_) I (fun _ _ _ => rfl) (fun k hk => absurd hk (by omega)))⟩
  · intro I' f1 f2
    exact bM_layNext_2 (pk_le s.1 s.1 (fun _ => bM_layNext_51 (h I' f1 f2)) (fun g => absurd g (by omega)) ((f1 71 8 (by decide)).trans hS.1))
  · intro I' f1 f2
    refine bM_layNext_2 (pk_le s.1 i (fun g => absurd g (by omega)) (fun _ => bM_layNext_10 ?_) ((f1 71 8 (by decide)).trans hS.1))
    refine up0 (Pr := fun t => ∀ I2, (∀ a k, a ≠ 76 → I2 a k = I a k) → (∀ k, k < i → ∀ t, t < m 1 → I2 76 (8 * k + t) = lI m s k t) → (∀ t', t' < t → I2 76 (8 * i + t') = lI m s i t') → kW sh kp 89 12 [some (.ref 71), some (.int (nI i)), some (.int (nI t))] [] (I2, L, kr q w r1 r2) K) (e := m 1) ?_ (fun t ht ih2 => ?_) I' f1 f2 (fun t ht => absurd ht (by omega))
    · intro I2 g1 g2 g3
      have e1 : I2 72 (1 : Int32).toNatClampNeg = nI (m 1) := by
        rw [cl1, g1 72 1 (by decide)]
        exact hn 1 (by decide)
      refine bM_layNext_12 ⟨pk_in 1 212 (by decide), pk_le (m 1) (m 1) (fun _ => bM_layNext_45 ?_) (fun g => absurd g (by omega)) e1⟩
      rw [nI_1]
      refine ih I2 g1 fun k hk t ht => ?_
      by_cases e : k = i
      · rw [e]
        exact g3 t ht
      · exact g2 k (by omega) t ht
    · intro I2 g1 g2 g3
      have e1 : I2 72 (1 : Int32).toNatClampNeg = nI (m 1) := by
        rw [cl1, g1 72 1 (by decide)]
        exact hn 1 (by decide)
      refine bM_layNext_12 ⟨pk_in 1 212 (by decide), pk_le (m 1) t (fun g => absurd g (by omega)) (fun _ => bM_layNext_22 (m_leads (nN_fr hn fun a k z _ _ => g1 a k z) hw (mS_fr hS fun a k z _ _ => g1 a k z) hg hi ht (bM_layNext_38 ⟨rfl, ?_, ?_⟩))) e1⟩
      · rw [fa_lit 8, pk_mul, nI_add]
        exact vp_in_nI (show 8 * i + t < 1600 by omega) (by decide)
      · rw [fa_lit 8, pk_mul, nI_add, nI_clamp (by omega), nI_1]
        refine ih2 _ (fun a k z => by rw [up_a z]; exact g1 a k z) (fun k hk t' ht' => ?_) (fun t' ht' => ?_)
        · rw [up_k (by omega)]
          exact g2 k hk t' ht'
        · by_cases e : t' = t
          · rw [e, up_s]
          · rw [up_k (by omega)]
            exact g3 t' (by omega)
theorem m_layWays {s : sst} (hn : nN I m) (hw : wb m) (hS : mS I L s) (hg : gl m s) (h : ∀ I' D, (∀ a k, a ≠ 76 → a ≠ 77 → I' a k = I a k) → dst m 5 s 0 D → (∀ k, k < s.1 → I' 77 k = (if D k = 0 then 0 else 1)) → K none (I', L, kr q w r1 r2)) : kC sh kp 90 [.ref 71] (I, L, kr q w r1 r2) K := by
  have h200 := hg.2.1
  have h1 := hg.1
  have w1 := hw.2.1
  obtain ⟨D, hD⟩ := gds_ex s.1 (m 1) (tg m 5 s) (ec m) 0
  refine ⟨rfl, bM_layWays_0 (m_layNext hn hw hS hg fun I1 f1 fN => bM_layWays_4 ?_)⟩
  have sA := fun x k t (hk : k < s.1) (ht : t < m 1) => rb_sd (T := tg m 5 s) (c := ec m) hD x k t hk ht
  have sB := fun x k t j (hk : k < s.1) (ht : t < m 1) (hj : j < s.1) => rb_rt (T := tg m 5 s) (c := ec m) hD x k t j hk ht hj
  -- the end
  have fin : ∀ I' (W : Nat → Nat), (∀ a k, a ≠ 76 → a ≠ 77 → I' a k = I a k) → (∀ j, j < s.1 → I' 77 j = nI (W j)) → sdb s.1 0 D W → wrc (fun j => W j ≠ 0 ↔ D j ≠ 0) s.1 = 0 → kW sh kp 90 37 [some (.ref 71), some (.int 0), none, none, none] [] (I', L, kr q w r1 r2) K := fun I' W g1 g2 g3 g4 => bM_layWays_37 ⟨fun _ => bM_layWays_149 (h I' D g1 hD fun k hk => by
    rw [g2 k hk]
    have := wrc_0 g4 k hk
    rcases g3.2 k hk with z | z
    · rw [z] at this ⊢
      rw [if_pos (Classical.byContradiction fun y => (this.mpr y) rfl)]
      rfl
    · rw [z.1, if_neg z.2]
      rfl), fun z => absurd rfl z⟩
  have loop : ∀ (u : Nat) I' (W : Nat → Nat), (∀ a k, a ≠ 76 → a ≠ 77 → I' a k = I a k) → (∀ k, k < s.1 → ∀ t, t < m 1 → I' 76 (8 * k + t) = lI m s k t) → (∀ j, j < s.1 → I' 77 j = nI (W j)) → sdb s.1 0 D W → wrc (fun j => W j ≠ 0 ↔ D j ≠ 0) s.1 ≤ u → kW sh kp 90 37 [some (.ref 71), some (.int 1), none, none, none] [] (I', L, kr q w r1 r2) K := by
    intro u
    induction u using Nat.strongRecOn with
    | ind u ih =>
      intro I' W g1 gN g2 g3 g4
      have rnd := rb_round (T := tg m 5 s) (N := s.1 - 1) (o := fun i => s.1 - 1 - i) (S := m 1) (c := ec m) ec_1 hD (fun i hi => by show s.1 - 1 - i < s.1; omega) (fun k hk hk0 => ⟨s.1 - 1 - k, by omega, by show s.1 - 1 - (s.1 - 1 - k) = k; omega⟩) g3
      refine bM_layWays_37 ⟨fun z => absurd z (by decide), fun _ => bM_layWays_41 ?_⟩
      rw [show I' 71 8 = nI s.1 from (g1 71 8 (by decide) (by decide)).trans hS.1, show nI s.1 - 1 = nI (s.1 - 1) from pk_sub (b := 1) h1]
      refine up0 (Pr := fun i => ∀ I2 (x : Int32), (∀ a k, a ≠ 76 → a ≠ 77 → I2 a k = I a k) → (∀ k, k < s.1 → ∀ t, t < m 1 → I2 76 (8 * k + t) = lI m s k t) → (∀ j, j < s.1 → I2 77 j = nI (rdo (rb s.1 (tg m 5 s)) (fun i => s.1 - 1 - i) (m 1) W i j)) → ((x = 0 ∧ rdo (rb s.1 (tg m 5 s)) (fun i => s.1 - 1 - i) (m 1) W i = W) ∨ (x = 1 ∧ wrc (fun j => W j ≠ 0 ↔ D j ≠ 0) s.1 ≠ 0)) → kW sh kp 90 50 [some (.ref 71), some (.int x), some (.int (nI (s.1 - 1 - i))), none, none] [] (I2, L, kr q w r1 r2) K) (e := s.1 - 1) ?_ (fun i hi ih2 => ?_) I' 0 g1 gN g2 (Or.inl ⟨rfl, rfl⟩)
      · intro I2 x k1 kN k2 k3
        rw [Nat.sub_self]
        refine bM_layWays_50 ⟨fun _ => bM_layWays_146 ?_, fun z => absurd (by decide) z⟩
        rcases k3 with ⟨y1, y2⟩ | ⟨y1, y2⟩
        · rw [y1]
          have e0 : wrc (fun j => W j ≠ 0 ↔ D j ≠ 0) s.1 = 0 := by
            refine Classical.byContradiction fun z => ?_
            have := rnd.2.2 z
            rw [y2] at this
            omega
          rw [y2] at k2
          exact fin I2 W k1 k2 g3 e0
        · rw [y1]
          have := rnd.2.2 y2
          exact ih _ (Nat.lt_of_lt_of_le this g4) I2 _ k1 kN k2 rnd.1 (Nat.le_refl _)
      · intro I2 x k1 kN k2 k3
        have hk : s.1 - 1 - i < s.1 := by omega
        have y1 := rdo_sd (Sd := sdb s.1 0 D) (o := fun i => s.1 - 1 - i) (N := s.1 - 1) sA (fun i hi => by show s.1 - 1 - i < s.1; omega) g3 i (by omega)
        have y2 : wrc (fun j => W j ≠ 0 ↔ D j ≠ 0) s.1 = 0 → ∀ j, j < s.1 → (rdo (rb s.1 (tg m 5 s)) (fun i => s.1 - 1 - i) (m 1) W i j ≠ 0 ↔ D j ≠ 0) := fun z j hj => rdo_rt (Sd := sdb s.1 0 D) (Rt := fun x j => x j ≠ 0 ↔ D j ≠ 0) (o := fun i => s.1 - 1 - i) (N := s.1 - 1) sA sB (fun i hi => by show s.1 - 1 - i < s.1; omega) g3 hj (wrc_0 z j hj) i (by omega)
        have es : rdo (rb s.1 (tg m 5 s)) (fun i => s.1 - 1 - i) (m 1) W (i + 1) = rdt (rb s.1 (tg m 5 s)) (rdo (rb s.1 (tg m 5 s)) (fun i => s.1 - 1 - i) (m 1) W i) (s.1 - 1 - i) (m 1) := rfl
        generalize hY : rdo (rb s.1 (tg m 5 s)) (fun i => s.1 - 1 - i) (m 1) W i = Y at y1 y2 es k2 k3
        refine bM_layWays_50 (pk_le (s.1 - 1 - i) 0 (fun z => absurd z (by omega)) (fun _ => bM_layWays_54 ?_))
        generalize hkk : s.1 - 1 - i = k at hk es
        have out : ∀ I3 (x3 : Int32), (∀ a k, a ≠ 76 → a ≠ 77 → I3 a k = I a k) → (∀ k, k < s.1 → ∀ t, t < m 1 → I3 76 (8 * k + t) = lI m s k t) → (∀ j, j < s.1 → I3 77 j = nI (rdt (rb s.1 (tg m 5 s)) Y k (m 1) j)) → ((x3 = 0 ∧ rdt (rb s.1 (tg m 5 s)) Y k (m 1) = W) ∨ (x3 = 1 ∧ wrc (fun j => W j ≠ 0 ↔ D j ≠ 0) s.1 ≠ 0)) → kW sh kp 90 140 [some (.ref 71), some (.int x3), some (.int (nI k)), none, none] [] (I3, L, kr q w r1 r2) K := fun I3 x3 l1 lN l2 l3 => bM_layWays_140 (by
          rw [← Int32.sub_eq_add_neg, show nI k - 1 = nI (s.1 - 1 - (i + 1)) from (pk_sub (b := 1) (by omega)).trans (by congr 1; omega)]
          have := ih2 I3 x3 l1 lN
          rw [es] at this
          exact this l2 l3)
        refine up0 (Pr := fun t => ∀ I3 (x3 : Int32), (∀ a k, a ≠ 76 → a ≠ 77 → I3 a k = I a k) → (∀ k, k < s.1 → ∀ t, t < m 1 → I3 76 (8 * k + t) = lI m s k t) → (∀ j, j < s.1 → I3 77 j = nI (rdt (rb s.1 (tg m 5 s)) Y k t j)) → ((x3 = 0 ∧ rdt (rb s.1 (tg m 5 s)) Y k t = W) ∨ (x3 = 1 ∧ wrc (fun j => W j ≠ 0 ↔ D j ≠ 0) s.1 ≠ 0)) → kW sh kp 90 56 [some (.ref 71), some (.int x3), some (.int (nI k)), some (.int (nI t)), none] [] (I3, L, kr q w r1 r2) K) (e := m 1) ?_ (fun t ht ih3 => ?_) I2 x k1 kN k2 k3
        · intro I3 x3 l1 lN l2 l3
          exact bM_layWays_56 ⟨pk_in 1 212 (by decide), pk_le (m 1) (m 1) (fun _ => out I3 x3 l1 lN l2 l3) (fun z => absurd z (by omega)) (by rw [cl1, l1 72 1 (by decide) (by decide)]; exact hn 1 (by decide))⟩
        · intro I3 x3 l1 lN l2 l3
          have z1 := rdt_sd (Sd := sdb s.1 0 D) sA hk y1 t (by omega)
          have z2 : wrc (fun j => W j ≠ 0 ↔ D j ≠ 0) s.1 = 0 → ∀ j, j < s.1 → (rdt (rb s.1 (tg m 5 s)) Y k t j ≠ 0 ↔ D j ≠ 0) := fun z j hj => rdt_rt (Sd := sdb s.1 0 D) (Rt := fun x j => x j ≠ 0 ↔ D j ≠ 0) sA sB hk y1 hj (y2 z j hj) t (by omega)
          have zi : rdt (rb s.1 (tg m 5 s)) Y k t k = 1 → rdt (rb s.1 (tg m 5 s)) Y k (m 1) = rdt (rb s.1 (tg m 5 s)) Y k t := fun z => by
            have := rdt_id z (m 1 - t)
            rw [show t + (m 1 - t) = m 1 by omega] at this
            exact this
          have et : rdt (rb s.1 (tg m 5 s)) Y k (t + 1) = ups (rdt (rb s.1 (tg m 5 s)) Y k t) k (if rdt (rb s.1 (tg m 5 s)) Y k t k ≠ 0 ∨ (tg m 5 s k t < s.1 ∧ rdt (rb s.1 (tg m 5 s)) Y k t (tg m 5 s k t) ≠ 0) then 1 else 0) := rfl
          generalize hZ : rdt (rb s.1 (tg m 5 s)) Y k t = Z at z1 z2 zi et l2 l3
          have hz01 := z1.2
          refine bM_layWays_56 ⟨pk_in 1 212 (by decide), pk_le (m 1) t (fun z => absurd z (by omega)) (fun _ => bM_layWays_66 ?_) (by rw [cl1, l1 72 1 (by decide) (by decide)]; exact hn 1 (by decide))⟩
          rw [nI_clamp (by omega), l2 k hk]
          refine ⟨vp_in_nI (by omega) (by decide), fun z => ?_, fun z => bM_layWays_75 ?_⟩
          · have zk : Z k = 1 := by
              rcases hz01 k hk with y | y
              · rw [y] at z
                exact absurd rfl z
              · exact y.1
            have e := zi zk
            refine out I3 x3 l1 lN ?_ ?_
            · rw [e]
              exact l2
            · rw [e]
              exact l3
          · have zk : Z k = 0 := by
              rcases hz01 k hk with y | y
              · exact y
              · rw [y.1] at z
                exact absurd z (by decide)
            have no : (¬ (tg m 5 s k t < s.1 ∧ Z (tg m 5 s k t) ≠ 0)) → kW sh kp 90 113 [some (.ref 71), some (.int x3), some (.int (nI k)), some (.int (nI t)), none] [.int (nI k), .ref 77] (I3, L, kr q w r1 r2) K := fun hno => by
              rw [if_neg (fun y => hno (y.resolve_left (fun a => a zk)))] at et
              have eid : ups Z k 0 = Z := by
                have : ups Z k 0 = ups Z k (Z k) := by rw [zk]
                rw [this, ups_id]
              rw [eid] at et
              refine bM_layWays_113 (bM_layWays_114 ⟨rfl, vp_in_nI (show k < 200 by omega) (by decide), Or.inl rfl, ?_⟩)
              rw [nI_clamp (by omega)]
              have l2' : ∀ j, j < s.1 → km_up I3 77 k 0 77 j = nI (Z j) := fun j hj => by
                by_cases y : j = k
                · rw [y, up_s, zk]
                  rfl
                · rw [up_k y]
                  exact l2 j hj
              have nxt : ∀ x4 : Int32, ((x4 = 0 ∧ Z = W) ∨ (x4 = 1 ∧ wrc (fun j => W j ≠ 0 ↔ D j ≠ 0) s.1 ≠ 0)) → kW sh kp 90 133 [some (.ref 71), none, some (.int (nI k)), some (.int (nI t)), none] [.int x4] (km_up I3 77 k 0, L, kr q w r1 r2) K := fun x4 hx4 => bM_layWays_133 (by
                rw [nI_1]
                have := ih3 (km_up I3 77 k 0) x4 (fun a j y1 y2 => by rw [up_a y2]; exact l1 a j y1 y2) (fun a ha t ht => by rw [up_a (by decide)]; exact lN a ha t ht)
                rw [et] at this
                exact this l2' hx4)
              rcases l3 with ⟨y1, y2⟩ | ⟨y1, y2⟩
              · refine ⟨fun y => absurd y1 y, fun _ => bM_layWays_119 ?_⟩
                rw [nI_clamp (by omega), up_s]
                exact ⟨vp_in_nI (by omega) (by decide), fun _ => bM_layWays_132 (nxt 0 (Or.inl ⟨rfl, y2⟩)), fun y => absurd rfl y⟩
              · refine ⟨fun _ => bM_layWays_128 (nxt 1 (Or.inr ⟨rfl, y2⟩)), fun y => ?_⟩
                rw [y1] at y
                exact absurd y (by decide)
            rw [show 8 * nI k + nI t = nI (8 * k + t) by rw [fa_lit 8, pk_mul, nI_add], nI_clamp (by omega), lN k hk t ht]
            unfold lI
            by_cases hT : tg m 5 s k t < s.1
            · rw [if_pos hT]
              refine ⟨vp_in_nI (by omega) (by decide), fun y => absurd y (nI_m1 (by omega)), fun _ => bM_layWays_99 ?_⟩
              rw [nI_clamp (by omega), l2 _ hT]
              refine ⟨vp_in_nI (by omega) (by decide), fun y => no fun a => ?_, fun y => bM_layWays_109 (bM_layWays_114 ⟨rfl, vp_in_nI (show k < 200 by omega) (by decide), Or.inr rfl, ?_⟩)⟩
              · rcases hz01 _ hT with b | b
                · exact a.2 b
                · rw [b.1] at y
                  exact absurd y (by decide)
              · have zT : Z (tg m 5 s k t) ≠ 0 := fun a => y (by rw [a]; rfl)
                rw [if_pos (Or.inr ⟨hT, zT⟩)] at et
                have hw0 : wrc (fun j => W j ≠ 0 ↔ D j ≠ 0) s.1 ≠ 0 := fun a => by
                  have b := z2 a k hk
                  have c := rb_v (T := tg m 5 s) (c := ec m) hD hk ht z1 (Or.inr ⟨hT, zT⟩)
                  exact b.mpr c zk
                rw [nI_clamp (by omega)]
                have nxt : kW sh kp 90 128 [some (.ref 71), none, some (.int (nI k)), some (.int (nI t)), none] [] (km_up I3 77 k 1, L, kr q w r1 r2) K := bM_layWays_128 (bM_layWays_133 (by
                  rw [nI_1]
                  have := ih3 (km_up I3 77 k 1) 1 (fun a j y1 y2 => by rw [up_a y2]; exact l1 a j y1 y2) (fun a ha t ht => by rw [up_a (by decide)]; exact lN a ha t ht)
                  rw [et] at this
                  refine this (fun j hj => ?_) (Or.inr ⟨rfl, hw0⟩)
                  by_cases y : j = k
                  · rw [y, up_s, ups_s]
                    rfl
                  · rw [up_k y, ups_o y]
                    exact l2 j hj))
                refine ⟨fun _ => nxt, fun _ => bM_layWays_119 ?_⟩
                rw [nI_clamp (by omega), up_s]
                exact ⟨vp_in_nI (by omega) (by decide), fun a => absurd a (by decide), fun _ => nxt⟩
            · rw [if_neg hT]
              exact ⟨vp_in_nI (by omega) (by decide), fun _ => no fun a => hT a.1, fun y => absurd rfl y⟩
  refine up0 (Pr := fun i => ∀ I', (∀ a k, a ≠ 76 → a ≠ 77 → I' a k = I a k) → (∀ k, k < s.1 → ∀ t, t < m 1 → I' 76 (8 * k + t) = lI m s k t) → (∀ j, j < i → I' 77 j = nI (if j = 0 then 1 else 0)) → kW sh kp 90 6 [some (.ref 71), some (.int (nI i)), none, none, none] [] (I', L, kr q w r1 r2) K) (e := s.1) ?_ (fun i hi ih => ?_) I1 (fun a k z _ => f1 a k z) fN (fun j hj => absurd hj (by omega))
  · intro I' g1 gN g2
    refine bM_layWays_6 (pk_le s.1 s.1 (fun _ => bM_layWays_35 (loop _ I' (fun j => if j = 0 then 1 else 0) g1 gN g2 ⟨rfl, fun k hk => ?_⟩ (Nat.le_refl _))) (fun z => absurd z (by omega)) ((g1 71 8 (by decide) (by decide)).trans hS.1))
    by_cases e : k = 0
    · refine Or.inr ⟨if_pos e, ?_⟩
      rw [e, hD.1]
      decide
    · exact Or.inl (if_neg e)
  · intro I' g1 gN g2
    have nxt : ∀ v : Nat, v = (if i = 0 then 1 else 0) → kW sh kp 90 28 [some (.ref 71), some (.int (nI i)), none, none, none] [.int (nI v), .int (nI i), .ref 77] (I', L, kr q w r1 r2) K := fun v hv => bM_layWays_28 ⟨rfl, vp_in_nI (show i < 200 by omega) (by decide), by
      by_cases e : i = 0
      · rw [hv, if_pos e]
        exact Or.inr rfl
      · rw [hv, if_neg e]
        exact Or.inl rfl, by
      rw [nI_clamp (by omega), nI_1]
      refine ih _ (fun a k z1 z2 => by rw [up_a z2]; exact g1 a k z1 z2) (fun k hk t ht => by rw [up_a (by decide)]; exact gN k hk t ht) (fun j hj => ?_)
      by_cases e : j = i
      · rw [e, up_s, hv]
      · rw [up_k e]
        exact g2 j (by omega)⟩
    refine bM_layWays_6 (pk_le s.1 i (fun z => absurd z (by omega)) (fun _ => bM_layWays_14 (pk_eq i 0 (fun z => bM_layWays_23 (nxt 1 (by rw [if_pos z]))) (fun z => bM_layWays_27 (nxt 0 (by rw [if_neg z])))).symm) ((g1 71 8 (by decide) (by decide)).trans hS.1))
end MWAYS
