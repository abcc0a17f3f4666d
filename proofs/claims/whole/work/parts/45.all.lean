/-! CALLS: all, found -/
noncomputable def wyD (m : Nat → Nat) (b : Nat) (s : sst) (g : Nat) : Nat → Nat := Classical.epsilon (dst m b s g)
theorem wyD_sp {m : Nat → Nat} {b g : Nat} {s : sst} : dst m b s g (wyD m b s g) := Classical.epsilon_spec (gds_ex s.1 (m 1) (tg m b s) (ec m) g)
theorem wyD_eq {m W : Nat → Nat} {b g : Nat} {s : sst} (h : dst m b s g W) : ∀ k, k < s.1 → W k = wyD m b s g k := gds_uq ec_1 h wyD_sp
theorem cn_cg {P Q : Nat → Bool} : ∀ n, (∀ k, k < n → P k = Q k) → cn P n = cn Q n
  | 0, _ => rfl
  | n + 1, h => by rw [cn_s, cn_s, cn_cg n (fun k hk => h k (by omega)), h n (by omega)]
/-- home's code, by another name -/
abbrev hcx (m : Nat → Nat) : Nat := hc m
/-- the list from home -/
def hl (m : Nat → Nat) : sst := sr m 5 (hc m)
noncomputable def alL (m : Nat → Nat) (s : sst) (y : Nat) : Nat := if y = 0 then s.1 else if y = 1 then cond (al s.1 fun k => al (m 1) fun t => ! outs m 5 s k t) 1 0 else if y = 2 then cn (fun k => Nat.beq (abl m 5 (s.2.1 k)) 0) s.1 else if y = 3 then cn (fun k => Nat.beq (wyD m 5 s 0 k) 0) s.1 else if y = 4 then orr (fun k => abl m 5 (s.2.1 k)) s.1 else mx (sg s (2 ^ m 0 - 1)) s.1
noncomputable def alD (m : Nat → Nat) (y : Nat) : Nat := alL m (hl m) y
theorem alL_0 {m : Nat → Nat} {s : sst} : alL m s 0 = s.1 := if_pos rfl
theorem alL_1 {m : Nat → Nat} {s : sst} : alL m s 1 = cond (al s.1 fun k => al (m 1) fun t => ! outs m 5 s k t) 1 0 := by
  unfold alL
  rw [if_neg (by decide), if_pos rfl]
theorem alL_2 {m : Nat → Nat} {s : sst} : alL m s 2 = cn (fun k => Nat.beq (abl m 5 (s.2.1 k)) 0) s.1 := by
  unfold alL
  rw [if_neg (by decide), if_neg (by decide), if_pos rfl]
theorem alL_3 {m : Nat → Nat} {s : sst} : alL m s 3 = cn (fun k => Nat.beq (wyD m 5 s 0 k) 0) s.1 := by
  unfold alL
  rw [if_neg (by decide), if_neg (by decide), if_neg (by decide), if_pos rfl]
theorem alL_4 {m : Nat → Nat} {s : sst} : alL m s 4 = orr (fun k => abl m 5 (s.2.1 k)) s.1 := by
  unfold alL
  rw [if_neg (by decide), if_neg (by decide), if_neg (by decide), if_neg (by decide), if_pos rfl]
theorem alL_5 {m : Nat → Nat} {s : sst} : alL m s 5 = mx (sg s (2 ^ m 0 - 1)) s.1 := by
  unfold alL
  rw [if_neg (by decide), if_neg (by decide), if_neg (by decide), if_neg (by decide), if_neg (by decide)]
theorem mx_0 {g : Nat → Nat} : mx g 0 = 0 := rfl
theorem cn_0 {P : Nat → Bool} : cn P 0 = 0 := rfl
theorem orr_0 {g : Nat → Nat} : orr g 0 = 0 := rfl
noncomputable def o_all (x : Int32) (s : ast) : Int32 × ast := cond (okr x 0 5) (nI (alD s.1 (tn x)), s) (a_bad s)
theorem w_all {x : Int32} {s : ast} (h : sw s) : sw (o_all x s).2 := by
  unfold o_all
  cases okr x 0 5 <;> exact h
theorem al2_t {n S : Nat} {P : Nat → Nat → Bool} (h : ∀ k, k < n → ∀ t, t < S → P k t = false) : (al n fun k => al S fun t => ! P k t) = true := al_iff.mpr fun k hk => al_iff.mpr fun t ht => by rw [h k hk t ht]; rfl
theorem al2_f {n S : Nat} {P : Nat → Nat → Bool} (h : ∃ k, k < n ∧ ∃ t, t < S ∧ P k t = true) : (al n fun k => al S fun t => ! P k t) = false := by
  obtain ⟨k, hk, t, ht, h⟩ := h
  exact al_no.mpr ⟨k, hk, al_no.mpr ⟨t, ht, by rw [h]; rfl⟩⟩
theorem alL_t {m : Nat → Nat} {s : sst} (h : ∀ k, k < s.1 → ∀ t, t < m 1 → outs m 5 s k t = false) : alL m s 1 = 1 := by
  rw [alL_1, al2_t h]
  rfl
theorem alL_f {m : Nat → Nat} {s : sst} (h : ∃ k, k < s.1 ∧ ∃ t, t < m 1 ∧ outs m 5 s k t = true) : alL m s 1 = 0 := by
  rw [alL_1, al2_f h]
  rfl
theorem nI_ne {a : Nat} {b : Nat} (h : ¬ nI a = nI b) : a ≠ b := fun e => h (by rw [e])
section ALL
variable {I : Nat → Nat → Int32} {L : Nat → Nat → Int64} {q r1 r2 : Nat → Nat} {w : Bool} {s : ast} {K : km_K} {m : Nat → Nat}
theorem hl_gl (hw : wb m) : gl m (hl m) := sr_gl hw.1 (hc_vc hw)
theorem x_homeSearch (hs : sw s) (hc : cI I L q w r1 r2 s) (h : ∀ I' L', cI I' L' q w r1 r2 s → fM I L I' L' → I' 0 5 = 1 → hSt I' L' s.1 → K (some (.ref 44)) (I', L', kr q w r1 r2)) : kC sh kp 48 [.ref 0] (I, L, kr q w r1 r2) K := by
  refine ⟨rfl, bX_homeSearch_0 ⟨fun g => bX_homeSearch_34 ?_, fun g => bX_homeSearch_7 (c_home hc.1 hs.1.2.1 (bX_homeSearch_22 ?_))⟩⟩
  · rcases hc.2.2.2.2.1 with z | z
    · exact absurd z g
    · exact h I L hc fM_refl z.1 z.2
  · refine c_spread_h (b := 5) hc.1 hs.1.1 (by decide) (hc_vc hs.1.1) (Or.inl rfl) (fun I' L' u g1 g2 => bX_homeSearch_29 (bX_homeSearch_34 ?_)) (fun g z1 z2 => ?_)
    · obtain ⟨c1, c2, c3, c4, c5, c6⟩ := g1
      have f1 : ∀ a k, a ≠ 44 → a ≠ 46 → a ≠ 48 → a ≠ 49 → (a = 0 → k ≠ 5) → km_up I' 0 5 1 a k = I a k := fun a k z1 z2 z3 z4 z5 => by
        have e := c2.1 a k (fun e => absurd e z1) z2 z3 z4
        by_cases e0 : a = 0
        · rw [up_k (z5 e0)]
          exact e
        · rw [up_a e0]
          exact e
      have hh0 : hS0 I' L' s.1 (sr s.1 5 (hcx s.1)) := ⟨c4, g2, Or.inl c3⟩
      have hh : hSt (km_up I' 0 5 1) L' s.1 := hS0_fr hh0 (fun a k _ _ => up_a (by omega)) (fun _ => rfl)
      refine h _ _ (cI_fr (s := s) (m := s.1) hs.2.1 hc (fun a k z1 z2 z3 => f1 a k (by omega) (by omega) (by omega) (by omega) (fun e => by have := z1 e; omega)) (fun a k z1 z2 => c2.2 a k (by omega)) (cR_fr (fun a k z1 z2 => up_a (by omega)) (fun _ _ _ _ => rfl) c1) (Or.inr ⟨up_s, hh⟩) (cA_fr hc.2.2.2.2.2 (f1 0 9 (by decide) (by decide) (by decide) (by decide) (fun _ => by decide)) (fun a k z1 z2 => f1 a k (by omega) (by omega) (by omega) (by omega) (fun e => absurd e (by omega))) (fun a k z1 z2 => c2.2 a k (by omega)))) ⟨fun a k z1 z2 => f1 a k (by omega) (by omega) (by omega) (by omega) (fun e => absurd e (by omega)), fun a k z1 z2 => c2.2 a k (by omega)⟩ up_s hh
    · have : (lN g).toInt = (g : Int) := pk_lT (Nat.lt_trans (vc_lt z2) (by decide))
      rw [← z1] at this
      have e : (-1 : Int64).toInt = -1 := by decide
      omega
theorem x_measure (hs : sw s) (hc : cI I L q w r1 r2 s) (h5 : I 0 5 = 1) (hh : hSt I L s.1) (h : ∀ I' L', cI I' L' q w r1 r2 s → fM I L I' L' → hSt I' L' s.1 → (∀ k, k < (hl s.1).1 → wyD s.1 5 (hl s.1) 0 k ≤ 2 ^ 29) → (∀ k, k < (hl s.1).1 → I' 47 k = sI (wyD s.1 5 (hl s.1) 0 k)) → K none (I', L', kr q w r1 r2)) : kC sh kp 200 [.ref 44, .ref 1, .int 0] (I, L, kr q w r1 r2) K := by
  have hgl := hl_gl hs.1.1
  rcases hh.2.2 with z | ⟨z1, W, z2, z3, z4⟩
  · refine c_measure_h (b := 5) (g := 0) (s := hl s.1) hs.1.1 hc.1 hgl hh.1 hgl.1 hh.2.1 z fun I' f1 f2 ⟨W, f3, f4, f5⟩ => ?_
    have f0 : ∀ a k, a ≠ 44 → a ≠ 47 → I' a k = I a k := fun a k y1 y2 => f1 a k (fun e => absurd e y1) y2
    have hh' : hSt I' L s.1 := ⟨⟨(f1 44 3 (fun _ => by decide) (by decide)).trans hh.1.1, fun j hj => ⟨(hh.1.2 j hj).1, (f0 46 j (by decide) (by decide)).trans (hh.1.2 j hj).2⟩⟩, fun k hk t ht => (f0 48 _ (by decide) (by decide)).trans (hh.2.1 k hk t ht), Or.inr ⟨f2, W, f3, f4, f5⟩⟩
    refine h I' L (cI_fr (s := s) (m := s.1) hs.2.1 hc (fun a k _ _ y => f0 a k (by omega) (by omega)) (fun _ _ _ _ => rfl) (cR_fr (fun a k y1 y2 => f0 a k (by omega) (by omega)) (fun _ _ _ _ => rfl) hc.1) (Or.inr ⟨(f0 0 5 (by decide) (by decide)).trans h5, hh'⟩) (cA_fr hc.2.2.2.2.2 (f0 0 9 (by decide) (by decide)) (fun a k y1 y2 => f0 a k (by omega) (by omega)) (fun _ _ _ _ => rfl))) ⟨fun a k y1 y2 => f0 a k (by omega) (by omega), fun _ _ _ _ => rfl⟩ hh' (fun k hk => ?_) (fun k hk => ?_)
    · rw [← wyD_eq f3 k hk]
      exact f4 k hk
    · rw [← wyD_eq f3 k hk]
      exact f5 k hk
  · refine ⟨rfl, bF_measure_h_0 ⟨fun y => ?_, fun _ => bF_measure_h_7 (h I L hc fM_refl hh (fun k hk => ?_) (fun k hk => ?_))⟩⟩
    · rw [z1] at y
      exact absurd y (by decide)
    · rw [← wyD_eq (s := hl s.1) z2 k hk]
      exact z3 k hk
    · rw [← wyD_eq (s := hl s.1) z2 k hk]
      exact z4 k hk
theorem x_all_n {y : Nat} (hy : y ≤ 5) (hs : sw s) (hc : cI I L q w r1 r2 s) (h : ∀ I' L', cI I' L' q w r1 r2 s → fM I L I' L' → K (some (.int (nI (alD s.1 y)))) (I', L', kr q w r1 r2)) : kC sh kp 28 [.ref 0, .int (nI y)] (I, L, kr q w r1 r2) K := by
  have w0 := hs.1.1.1
  have w1 := hs.1.1.2.1
  have hgl := hl_gl hs.1.1
  have e5 : okr (nI y) 0 5 = true := by
    unfold okr
    rw [nI_toInt (by omega), decide_eq_true (by omega), decide_eq_true (by omega)]
    rfl
  refine ⟨rfl, bX_all_0 (c_in (a := 0) (b := 5) rfl rfl (bX_all_6 (cb1 (fun _ => bX_all_16 (x_homeSearch hs hc fun I' L' g1 g2 g3 g4 => bX_all_20 ?_)) (fun e => absurd e (by rw [e5]; decide)))))⟩
  have hS : cS I' L' 44 45 46 (hl s.1) := g4.1
  have hN := g4.2.1
  have e1 : I' 1 1 = nI (s.1 1) := g1.1.2.1
  have fin := h I' L' g1 g2
  refine ⟨fun g => bX_all_56 ?_, fun g => bX_all_61 ?_, fun g => bX_all_81 ?_, fun g => bX_all_93 ?_, fun g => bX_all_107 ?_, fun g => bX_all_119 ?_⟩
  · rw [(nI_eq (b := 0) (by omega) (by decide)).mp g, show alD s.1 0 = (hl s.1).1 from alL_0] at fin
    rw [hS.1]
    exact fin
  · rw [(nI_eq (b := 1) (by omega) (by decide)).mp g] at fin
    rw [e1]
    refine c_complete_h (b := 5) (s := hl s.1) w1 hgl.2 hS hN (fun z => bX_all_72 ⟨fun y => absurd y (by decide), fun _ => bX_all_75 (bX_all_80 ?_)⟩) (fun z => bX_all_72 ⟨fun _ => bX_all_79 (bX_all_80 ?_), fun y => absurd rfl y⟩)
    · have e : alD s.1 1 = 1 := alL_t z
      rw [e] at fin
      exact fin
    · have e : alD s.1 1 = 0 := alL_f z
      rw [e] at fin
      exact fin
  · rw [(nI_eq (b := 2) (by omega) (by decide)).mp g, show alD s.1 2 = _ from alL_2] at fin
    rw [e1]
    exact c_dead_h (b := 5) (s := hl s.1) w1 hgl.2 hS hN (bX_all_92 fin)
  · rw [(nI_eq (b := 3) (by omega) (by decide)).mp g, show alD s.1 3 = _ from alL_3] at h
    refine x_measure hs g1 g3 g4 fun I2 L2 j1 j2 j3 j4 j5 => bX_all_102 (c_wayless_h (s := hl s.1) hgl.2.1 j3.1 j5 j4 (bX_all_106 (h I2 L2 j1 (fM_trans g2 j2))))
  · rw [(nI_eq (b := 4) (by omega) (by decide)).mp g, show alD s.1 4 = _ from alL_4] at fin
    rw [e1]
    exact c_live_h (b := 5) (s := hl s.1) w1 hgl.2 hS hN (bX_all_118 fin)
  · obtain ⟨g4', g3', g2', g1', g0', _⟩ := g
    have hy5 : y = 5 := by
      have a4 := nI_ne (b := 4) g4'
      have a3 := nI_ne (b := 3) g3'
      have a2 := nI_ne (b := 2) g2'
      have a1 := nI_ne (b := 1) g1'
      have a0 := nI_ne (b := 0) g0'
      omega
    rw [hy5, show alD s.1 5 = _ from alL_5] at fin
    exact c_allPlaces g1.1 w0 (bX_all_127 (c_most_h (s := hl s.1) hgl.2 hS (bX_all_130 fin)))
theorem x_all {x : Int32} (hs : sw s) (hc : cI I L q w r1 r2 s) : kC sh kp 28 [.ref 0, .int x] (I, L, kr q w r1 r2) (cT (o_all x s) I L) := by
  unfold o_all
  cases e : okr x 0 5 with
  | true =>
    obtain ⟨y, rfl, hy, b1, b2⟩ := okr_e e (by decide)
    rw [hy]
    exact x_all_n (by omega) hs hc fun I' L' g1 g2 => cP_mk g1 g2
  | false =>
    exact ⟨rfl, bX_all_0 (c_in (a := 0) (b := 5) rfl rfl (bX_all_6 (cb1 (fun e2 => absurd e2 (by rw [e]; decide)) (fun _ => bX_all_9 (x_bad hs hc fun I' g1 g2 => bX_all_15 (cP_mk g1 g2))))))⟩
theorem orr_s {g : Nat → Nat} {n : Nat} : orr g (n + 1) = orr g n ||| g n := rfl
theorem mx_s {g : Nat → Nat} {n : Nat} : mx g (n + 1) = if mx g n < g n then g n else mx g n := rfl
theorem y_allIs {y : Nat} (hy : y ≤ 5) (hs : sw s) (hc : mI I s) (h : ∀ I' L', mI I' s → fX I L I' L' → K (some (.int (nI (alD s.1 y)))) (I', L', kr q w r1 r2)) : kC sh kp 138 [.ref 71, .int (nI y)] (I, L, kr q w r1 r2) K := by
  have w0 := hs.1.1.1
  have w1 := hs.1.1.2.1
  have hgl := hl_gl hs.1.1
  have h200 := hgl.2.1
  have p2 := p2_le w0
  refine ⟨rfl, bM_allIs_0 (m_searchesHome hc.1 hs.1.1 hs.1.2.1 fun I1 L1 g1 g2 g3 => bM_allIs_4 ?_)⟩
  have hm1 := mI_fS hc g2
  have hS : mS I1 L1 (hl s.1) := g3
  have fin := h I1 L1 hm1.1 hm1.2
  refine (pk_eq y 0 (fun z => bM_allIs_10 ?_) (fun z0 => bM_allIs_15 (pk_eq y 1 (fun z => bM_allIs_20 ?_) (fun z1 => bM_allIs_33 ?_)).symm)).symm
  · rw [z, show alD s.1 0 = (hl s.1).1 from alL_0] at fin
    rw [hS.1]
    exact fin
  · rw [z] at fin
    refine m_isClosed (s := hl s.1) g1 hs.1.1 hS hgl (fun a => bM_allIs_24 ⟨fun b => absurd b (by decide), fun _ => bM_allIs_27 (bM_allIs_32 ?_)⟩) (fun a => bM_allIs_24 ⟨fun _ => bM_allIs_31 (bM_allIs_32 ?_), fun b => absurd rfl b⟩)
    · have e : alD s.1 1 = 1 := alL_t a
      rw [e] at fin
      exact fin
    · have e : alD s.1 1 = 0 := alL_f a
      rw [e] at fin
      exact fin
  · have loop : ∀ I2 (A : Nat → Nat), nN I2 s.1 → mS I2 L1 (hl s.1) → A 0 = 0 → (∀ i, i < (hl s.1).1 → kW sh kp 138 159 [some (.ref 71), some (.int (nI y)), some (.int (nI (A (i + 1)))), some (.int (nI i)), none] [] (I2, L1, kr q w r1 r2) K → kW sh kp 138 66 [some (.ref 71), some (.int (nI y)), some (.int (nI (A i))), some (.int (nI i)), none] [.int (nI (sg (hl s.1) (2 ^ s.1 0 - 1) i))] (I2, L1, kr q w r1 r2) K) → K (some (.int (nI (A (hl s.1).1)))) (I2, L1, kr q w r1 r2) → kW sh kp 138 42 [some (.ref 71), some (.int (nI y)), some (.int 0), none, none] [] (I2, L1, kr q w r1 r2) K := fun I2 A n2 s2 hA0 hst hend => bM_allIs_42 (by
      have key := up0 (Pr := fun i => kW sh kp 138 44 [some (.ref 71), some (.int (nI y)), some (.int (nI (A i))), some (.int (nI i)), none] [] (I2, L1, kr q w r1 r2) K) (e := (hl s.1).1) ?_ fun i hi ih => ?_
      · rw [hA0] at key
        exact key
      · exact bM_allIs_44 (pk_le (hl s.1).1 (hl s.1).1 (fun _ => bM_allIs_165 hend) (fun z => absurd z (by omega)) s2.1)
      · refine bM_allIs_44 (pk_le (hl s.1).1 i (fun z => absurd z (by omega)) (fun _ => bM_allIs_52 ⟨vp_in_nI (by omega) (by decide), ?_⟩) s2.1)
        rw [nI_clamp (by omega), (s2.2 i hi).1]
        refine m_placesSet n2 w0 (bM_allIs_63 ⟨rfl, m_together n2 w0 (by omega) (hgl.2.2.1 i hi).1.1 (hst i hi (bM_allIs_159 ?_))⟩)
        rw [nI_1]
        exact ih)
    refine (pk_eq y 3 (fun z3 => bM_allIs_38 ?_) (fun z3 => ?_)).symm
    · refine m_layWays (s := hl s.1) g1 hs.1.1 hS hgl fun I2 D f1 f2 f3 => ?_
      have n2 := nN_fr g1 (fun a k b1 b2 _ => f1 a k b1 b2)
      have m2 : mI I2 s := mI_fr (s := s) (m := s.1) hm1.1 (fun a k b1 b2 => f1 a k (by omega) (by omega)) n2
      refine loop I2 (cn (fun k => Nat.beq (wyD s.1 5 (hl s.1) 0 k) 0)) n2 (mS_fr hS (fun a k b1 b2 _ => f1 a k b1 b2)) cn_0 (fun i hi hk => bM_allIs_66 ⟨fun b => ?_, fun _ => bM_allIs_115 ?_, fun b => ?_, fun b => absurd (by rw [z3]; rfl) b.2.1⟩) ?_
      · rw [z3] at b
        exact absurd b (by decide)
      · rw [nI_clamp (by omega), f3 i hi]
        rw [cn_s] at hk
        have eD := wyD_eq f2 i hi
        refine ⟨vp_in_nI (by omega) (by decide), fun b => bM_allIs_129 (bM_allIs_130 ?_), fun b => bM_allIs_125 (bM_allIs_130 ?_)⟩
        · have e0 : D i = 0 := Classical.byContradiction fun c => by
            rw [if_neg c] at b
            exact absurd b (by decide)
          rw [← eD, e0] at hk
          rw [nI_1]
          exact hk
        · have e0 : D i ≠ 0 := fun c => b (by rw [if_pos c])
          have e1 : Nat.beq (wyD s.1 5 (hl s.1) 0 i) 0 = false := Bool.eq_false_iff.mpr fun c => e0 (eD.trans (beq_iff.mp c))
          rw [e1] at hk
          rw [Int32.add_zero]
          exact hk
      · rw [z3] at b
        exact absurd b (by decide)
      · have := h I2 L1 m2 (fX_trans hm1.2 ⟨fun a k b => f1 a k (by omega) (by omega), fun _ _ _ => rfl⟩)
        rw [z3, show alD s.1 3 = _ from alL_3] at this
        exact this
    · by_cases z2 : y = 2
      · rw [z2, show alD s.1 2 = _ from alL_2] at fin
        refine loop I1 (cn (fun k => Nat.beq (abl s.1 5 ((hl s.1).2.1 k)) 0)) g1 hS cn_0 (fun i hi hk => bM_allIs_66 ⟨fun _ => bM_allIs_96 (m_canAt g1 hs.1.1 hS hgl.2 hi (bM_allIs_102 ⟨fun b => bM_allIs_109 (bM_allIs_110 ?_), fun b => bM_allIs_105 (bM_allIs_110 ?_)⟩)), fun b => ?_, fun b => ?_, fun b => absurd (by rw [z2]; rfl) b.2.2.1⟩) fin
        · rw [cn_s] at hk
          have e1 : Nat.beq (abl s.1 5 ((hl s.1).2.1 i)) 0 = false := Bool.eq_false_iff.mpr fun c => b (by rw [beq_iff.mp c]; rfl)
          rw [e1] at hk
          rw [Int32.add_zero]
          exact hk
        · rw [cn_s] at hk
          have hlt : abl s.1 5 ((hl s.1).2.1 i) < 2 ^ 8 := Nat.lt_of_lt_of_le (bs_lt _) (Nat.pow_le_pow_right (by decide) w1)
          have e1 : Nat.beq (abl s.1 5 ((hl s.1).2.1 i)) 0 = true := beq_iff.mpr ((nI_eq (b := 0) (by omega) (by decide)).mp b)
          rw [e1] at hk
          rw [nI_1]
          exact hk
        · rw [z2] at b
          exact absurd b (by decide)
        · rw [z2] at b
          exact absurd b (by decide)
      · by_cases z4 : y = 4
        · rw [z4, show alD s.1 4 = _ from alL_4] at fin
          refine loop I1 (orr (fun k => abl s.1 5 ((hl s.1).2.1 k))) g1 hS orr_0 (fun i hi hk => bM_allIs_66 ⟨fun b => ?_, fun b => ?_, fun _ => bM_allIs_135 (m_canAt g1 hs.1.1 hS hgl.2 hi (bM_allIs_141 ?_)), fun b => absurd (by rw [z4]; rfl) b.1⟩) fin
          · rw [z4] at b
            exact absurd b (by decide)
          · rw [z4] at b
            exact absurd b (by decide)
          · rw [fa_or]
            exact hk
        · have z5 : y = 5 := by omega
          rw [z5, show alD s.1 5 = _ from alL_5] at fin
          refine loop I1 (mx (sg (hl s.1) (2 ^ s.1 0 - 1))) g1 hS mx_0 (fun i hi hk => bM_allIs_66 ⟨fun b => ?_, fun b => ?_, fun b => ?_, fun _ => bM_allIs_146 ?_⟩) fin
          · rw [z5] at b
            exact absurd b (by decide)
          · rw [z5] at b
            exact absurd b (by decide)
          · rw [z5] at b
            exact absurd b (by decide)
          · rw [mx_s] at hk
            have b1 := mx_le2 (g := sg (hl s.1) (2 ^ s.1 0 - 1)) (b := 150) i (fun j hj => sg_le hgl.2 (by omega))
            have b2 : sg (hl s.1) (2 ^ s.1 0 - 1) i ≤ 150 := sg_le hgl.2 hi
            refine pk_le (sg (hl s.1) (2 ^ s.1 0 - 1) i) (mx (sg (hl s.1) (2 ^ s.1 0 - 1)) i) (fun b => bM_allIs_157 (bM_allIs_158 ?_)) (fun b => bM_allIs_152 (bM_allIs_158 ?_))
            · rw [if_neg (by omega)] at hk
              exact hk
            · rw [if_pos b] at hk
              exact hk
theorem y_all {x : Int32} (hs : sw s) (hc : mI I s) : kC sh kp 139 [.ref 71, .int x] (I, L, kr q w r1 r2) (mT (o_all x s) I L (kr q w r1 r2)) := by
  refine ⟨rfl, bM_all_0 (mm_in (a := 0) (b := 5) rfl rfl (bM_all_6 (cb0 (fun e => bM_all_9 ?_) (fun e => bM_all_17 (mm_bad hc fun I' g1 g2 => bM_all_21 ?_)))))⟩
  · unfold o_all
    rw [e]
    obtain ⟨y, rfl, hy, b1, b2⟩ := okr_e e (by decide)
    rw [hy]
    exact y_allIs (by omega) hs hc fun I' L' g1 g2 => bM_all_14 (bM_all_21 (mP_mk g1 g2))
  · unfold o_all
    rw [e]
    exact mP_mk g1 g2
end ALL
