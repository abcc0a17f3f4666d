/-! CALLS: stepOf, type, clear, told, can -/
theorem sm_all {P : Nat} {f : Nat → Nat} (hP : P ≤ 10) (h : ∀ p, P ≤ p → f p = 0) : sm (2 ^ P - 1) f 10 = sm 1023 f 10 := by
  have key : ∀ n, sm (2 ^ P - 1) f n = sm 1023 f n ∨ 10 < n := fun n => by
    induction n with
    | zero => exact Or.inl rfl
    | succ n ih =>
      rcases ih with ih | ih
      · rcases Nat.lt_or_ge 9 n with g | g
        · exact Or.inr (by omega)
        · refine Or.inl ?_
          show sm (2 ^ P - 1) f n + _ = sm 1023 f n + _
          rw [ih, show (1023 : Nat) = 2 ^ 10 - 1 from rfl, Nat.testBit_two_pow_sub_one, Nat.testBit_two_pow_sub_one]
          by_cases z : n < P
          · rw [decide_eq_true z, decide_eq_true (show n < 10 by omega)]
          · rw [h n (by omega)]
            simp
      · exact Or.inr (by omega)
  rcases key 10 with h | h
  · exact h
  · exact absurd h (by omega)
/-- tokens of all places, by a plain sum -/
def sm0 (f : Nat → Nat) : Nat → Nat
  | 0 => 0
  | n + 1 => sm0 f n + f n
theorem sm_sm0 {P : Nat} {f : Nat → Nat} : ∀ n, n ≤ P → sm (2 ^ P - 1) f n = sm0 f n
  | 0, _ => rfl
  | n + 1, h => by
    show sm (2 ^ P - 1) f n + _ = sm0 f n + f n
    rw [sm_sm0 n (by omega), Nat.testBit_two_pow_sub_one, decide_eq_true (show n < P by omega), if_pos rfl]
theorem sm0_cg {f g : Nat → Nat} : ∀ n, (∀ p, p < n → f p = g p) → sm0 f n = sm0 g n
  | 0, _ => rfl
  | n + 1, h => by
    show sm0 f n + f n = sm0 g n + g n
    rw [sm0_cg n (fun p hp => h p (by omega)), h n (by omega)]
theorem sm_P {m : Nat → Nat} {f : Nat → Nat} (hP : m 0 ≤ 10) (h : ∀ p, m 0 ≤ p → f p = 0) : sm (2 ^ m 0 - 1) f 10 = sm0 f (m 0) := by
  rw [← sm_10 h hP]
  exact sm_sm0 (m 0) (Nat.le_refl _)
theorem sm0_le {f : Nat → Nat} {b : Nat} : ∀ n, (∀ p, p < n → f p ≤ b) → sm0 f n ≤ n * b
  | 0, _ => Nat.zero_le _
  | n + 1, h => by
    have h1 := sm0_le n (fun p hp => h p (by omega))
    have h2 := h n (by omega)
    show sm0 f n + f n ≤ _
    rw [Nat.add_mul, Nat.one_mul]
    omega
theorem o_told_n {s : ast} {k : Nat} (hk : k ≤ 8) : o_told (nI k) s = (tld s k, s) := by
  have e := nI_toInt (n := k) (by omega)
  have e1 : okr (nI k) 0 8 = true := by
    unfold okr
    rw [e, decide_eq_true (by omega), decide_eq_true (by omega)]
    rfl
  have e2 : tn (nI k) = k := by
    unfold tn
    rw [e]
    exact Int.toNat_natCast k
  unfold o_told
  rw [e1, e2]
  rfl
section OPS3
variable {I : Nat → Nat → Int32} {L : Nat → Nat → Int64} {q r1 r2 : Nat → Nat} {w : Bool} {s : ast} {K : km_K}
theorem x_stepOf {x1 x2 : Int32} (hs : sw s) (hc : cI I L q w r1 r2 s) : kC sh kp 10 [.ref 0, .int x1, .int x2] (I, L, kr q w r1 r2) (cT (o_stepOf x1 x2 s) I L) := by
  have w0 := hs.1.1.1
  have w1 := hs.1.1.2.1
  have bad : (okr x1 0 ((s.1 1 : Int) - 1) && okr x2 0 2) = false → kW sh kp 10 17 [some (.ref 0), none, none] [] (I, L, kr q w r1 r2) (cT (o_stepOf x1 x2 s) I L) := fun e => bX_stepOf_17 (x_bad hs hc fun I' g1 g2 => bX_stepOf_23 (by
    unfold o_stepOf
    rw [e]
    exact cP_mk g1 g2))
  refine ⟨rfl, bX_stepOf_0 (x_isStep w1 hc.1 (bX_stepOf_5 (cb0 (fun e1 => bX_stepOf_8 (c_in (a := 0) (b := 2) rfl rfl (bX_stepOf_14 (cb1 (fun e2 => bX_stepOf_24 ?_) (fun e2 => bad (by rw [e1, e2]; rfl)))))) (fun e1 => bad (by rw [e1]; rfl)))))⟩
  have er : o_stepOf x1 x2 s = (nI (stpO s.1 (tn x1) (tn x2)), s) := by
    unfold o_stepOf
    rw [e1, e2]
    rfl
  rw [er]
  clear er bad
  obtain ⟨t, rfl, ht, b1, b2⟩ := okr_e e1 (by decide)
  obtain ⟨y, rfl, hy, b3, b4⟩ := okr_e e2 (by decide)
  rw [ht, hy]
  have m2 := mz2 hs.1.1 (t := t) (by omega)
  have hRt := hc.1.2.2.2.2.2.2.2.1 t (by omega)
  refine ⟨fun g => bX_stepOf_52 ⟨vp_in_nI (by omega) (by decide), ?_⟩, fun g => bX_stepOf_62 ⟨vp_in_nI (by omega) (by decide), ?_⟩, fun g => bX_stepOf_82 ⟨vp_in_nI (by omega) (by decide), ?_⟩⟩
  · have g : y = 0 := (nI_eq (b := 0) (by omega) (by decide)).mp g
    rw [nI_clamp (by omega), hRt.2.2]
    unfold stpO
    rw [if_pos g]
    exact cP_mk hc fM_refl
  · have g : y = 1 := (nI_eq (b := 1) (by omega) (by decide)).mp g
    rw [nI_clamp (by omega), hRt.1]
    unfold stpO
    rw [if_neg (by omega), if_pos g]
    exact c_allPlaces hc.1 w0 (bX_stepOf_78 (s_sumIn m2.1 (bX_stepOf_81 (cP_mk hc fM_refl))))
  · have g1 : ¬ y = 1 := fun z => g.1 (by rw [z]; rfl)
    have g0 : ¬ y = 0 := fun z => g.2.1 (by rw [z]; rfl)
    rw [nI_clamp (by omega), hRt.2.1]
    unfold stpO
    rw [if_neg g0, if_neg g1]
    exact c_allPlaces hc.1 w0 (bX_stepOf_98 (s_sumIn m2.2 (bX_stepOf_101 (cP_mk hc fM_refl))))
theorem m_stepIs {m : Nat → Nat} {t y : Nat} (hw : wb m) (hn : nN I m) (ht : t < 8) (hy : y ≤ 2) (h : K (some (.int (nI (stpO m t y)))) (I, L, kr q w r1 r2)) : kC sh kp 74 [.ref 71, .int (nI t), .int (nI y)] (I, L, kr q w r1 r2) K := by
  have w0 := hw.1
  have e0 : I 72 (0 : Int32).toNatClampNeg = nI (m 0) := by
    rw [cl0]
    exact hn 0 (by decide)
  have ez : ∀ c p, p < m 0 → mz m c p = m (c + p) := fun c p hp => if_pos hp
  have es : ∀ c, sm (2 ^ m 0 - 1) (mz m c) 10 = sm0 (fun p => m (c + p)) (m 0) := fun c => by
    rw [sm_P (f := mz m c) w0 (fun p hp => if_neg (by omega))]
    exact sm0_cg _ (ez c)
  have loop : ∀ c : Nat, c ≤ 120 → (y = 1 → c = 40) → (y ≠ 1 → c = 120) → kW sh kp 74 50 [some (.ref 71), some (.int (nI t)), some (.int (nI y)), some (.int (nI (sm0 (fun p => m (c + 10 * t + p)) (m 0)))), none] [] (I, L, kr q w r1 r2) K → kW sh kp 74 5 [some (.ref 71), some (.int (nI t)), some (.int (nI y)), some (.int 0), some (.int 0)] [] (I, L, kr q w r1 r2) K := fun c hc h1 h2 hl => by
    refine up0 (Pr := fun i => kW sh kp 74 5 [some (.ref 71), some (.int (nI t)), some (.int (nI y)), some (.int (nI (sm0 (fun p => m (c + 10 * t + p)) i))), some (.int (nI i))] [] (I, L, kr q w r1 r2) K) (e := m 0) ?_ fun i hi ih => ?_
    · exact bM_stepIs_5 ⟨pk_in 0 212 (by decide), pk_le (m 0) (m 0) (fun _ => hl) (fun g => absurd g (by omega)) e0⟩
    · have ix : nI c + 10 * nI t + nI i = nI (c + 10 * t + i) := by rw [fa_lit 10, pk_mul, nI_add, nI_add]
      have go : kW sh kp 74 33 [some (.ref 71), some (.int (nI t)), some (.int (nI y)), none, some (.int (nI i))] [.int (nI c), .ref 72, .int (nI (sm0 (fun p => m (c + 10 * t + p)) i))] (I, L, kr q w r1 r2) K := by
        refine bM_stepIs_33 ⟨rfl, ?_, ?_⟩
        · rw [ix]
          exact vp_in_nI (show c + 10 * t + i < 212 by omega) (by decide)
        · rw [ix, nI_clamp (by omega), hn _ (by omega), nI_add, nI_1]
          exact ih
      refine bM_stepIs_5 ⟨pk_in 0 212 (by decide), pk_le (m 0) i (fun g => absurd g (by omega)) (fun _ => bM_stepIs_16 (pk_eq y 1 (fun g => ?_) (fun g => ?_)).symm) e0⟩
      · rw [h1 g] at go ⊢
        exact bM_stepIs_26 go
      · rw [h2 g] at go ⊢
        exact bM_stepIs_31 go
  refine ⟨rfl, bM_stepIs_0 ?_⟩
  unfold stpO at h
  by_cases g1 : y = 1
  · refine loop 40 (by decide) (fun _ => rfl) (fun z => absurd g1 z) (bM_stepIs_50 ⟨fun _ => bM_stepIs_66 (bM_stepIs_67 ?_), fun g => absurd g ?_⟩)
    · rw [if_neg (by omega), if_pos g1, es] at h
      exact h
    · rw [g1]
      decide
  · refine loop 120 (by decide) (fun z => absurd z g1) (fun _ => rfl) (bM_stepIs_50 (pk_eq y 0 (fun g => bM_stepIs_54 ⟨?_, bM_stepIs_67 ?_⟩) (fun g => bM_stepIs_66 (bM_stepIs_67 ?_))).symm)
    · rw [fa_lit 32, nI_add]
      exact vp_in_nI (by omega) (by decide)
    · rw [fa_lit 32, nI_add, nI_clamp (by omega), hn _ (by omega)]
      rw [if_pos g] at h
      exact h
    · rw [if_neg g, if_neg g1, es] at h
      exact h
theorem y_stepOf {x1 x2 : Int32} (hs : sw s) (hc : mI I s) : kC sh kp 75 [.ref 71, .int x1, .int x2] (I, L, kr q w r1 r2) (mT (o_stepOf x1 x2 s) I L (kr q w r1 r2)) := by
  have w0 := hs.1.1.1
  have w1 := hs.1.1.2.1
  have bad : (okr x1 0 ((s.1 1 : Int) - 1) && okr x2 0 2) = false → kW sh kp 75 26 [some (.ref 71), none, none] [] (I, L, kr q w r1 r2) (mT (o_stepOf x1 x2 s) I L (kr q w r1 r2)) := fun e => bM_stepOf_26 (mm_bad hc fun I' g1 g2 => bM_stepOf_30 (by
    unfold o_stepOf
    rw [e]
    exact mP_mk g1 g2))
  refine ⟨rfl, bM_stepOf_0 (mm_isStep w1 hc.1 (bM_stepOf_5 (cb0 (fun e1 => bM_stepOf_8 (mm_in (a := 0) (b := 2) rfl rfl (bM_stepOf_14 (cb0 (fun e2 => bM_stepOf_17 ?_) (fun e2 => bad (by rw [e1, e2]; rfl)))))) (fun e1 => bad (by rw [e1]; rfl)))))⟩
  have er : o_stepOf x1 x2 s = (nI (stpO s.1 (tn x1) (tn x2)), s) := by
    unfold o_stepOf
    rw [e1, e2]
    rfl
  rw [er]
  clear er bad
  obtain ⟨t, rfl, ht, b1, b2⟩ := okr_e e1 (by decide)
  obtain ⟨y, rfl, hy, b3, b4⟩ := okr_e e2 (by decide)
  rw [ht, hy]
  exact m_stepIs hs.1.1 hc.1 (by omega) (by omega) (bM_stepOf_23 (bM_stepOf_30 (mP_mk hc fX_refl)))
theorem x_type {x : Int32} (hs : sw s) (hc : cI I L q w r1 r2 s) : kC sh kp 31 [.ref 0, .int x] (I, L, kr q w r1 r2) (cT (o_type x s) I L) := by
  have hz := hs.2.2.2.1
  have e1 : I 67 1 = nI s.2.2.2.2.1 := hc.2.2.2.1.1
  refine ⟨rfl, bX_type_0 (c_in (a := 0) (b := 127) rfl rfl (bX_type_7 (cb1 (fun e => bX_type_17 (pk_lt s.2.2.2.2.1 120 (fun g => bX_type_36 ?_) (fun g => bX_type_29 (x_full hs hc fun I' g1 g2 => bX_type_35 ?_)) e1)) (fun e => bX_type_10 (x_bad hs hc fun I' g1 g2 => bX_type_16 ?_)))))⟩
  · have er : o_type x s = (nI (s.2.2.2.2.1 + 1), (s.1, s.2.1, s.2.2.1, s.2.2.2.1, s.2.2.2.2.1 + 1, ups s.2.2.2.2.2 s.2.2.2.2.1 (tn x))) := by
      unfold o_type
      rw [e]
      exact if_pos g
    rw [er]
    obtain ⟨n, rfl, hn, b1, b2⟩ := okr_e e (by decide)
    rw [hn, e1, nI_clamp (by omega), up_s, up_a (by decide), e1, nI_1]
    refine ⟨vp_in_nI g (by decide), cP_mk ?_ ⟨fun a k z1 z2 => by rw [up_a (by omega), up_a (by omega)], fun _ _ _ _ => rfl⟩⟩
    obtain ⟨a1, ⟨a2, a3, a4⟩, a5, ⟨a8, a9⟩, a10, a11⟩ := hc
    have f : ∀ a k, a ≠ 67 → a ≠ 68 → km_up (km_up I 68 s.2.2.2.2.1 (nI n)) 67 1 (nI (s.2.2.2.2.1 + 1)) a k = I a k := fun a k z1 z2 => by rw [up_a z1, up_a z2]
    refine ⟨cR_fr (fun a k z1 z2 => f a k (by omega) (by omega)) (fun _ _ _ _ => rfl) a1, ⟨a2, (f 0 3 (by decide) (by decide)).trans a3, fun i hi => ?_⟩, ⟨(f 0 12 (by decide) (by decide)).trans a5.1, (f 0 13 (by decide) (by decide)).trans a5.2.1, (f 0 14 (by decide) (by decide)).trans a5.2.2⟩, ⟨up_s, fun i hi => ?_⟩, cH_fr a10 (f 0 5 (by decide) (by decide)) (fun a k z1 z2 => f a k (by omega) (by omega)) (fun _ => rfl), cA_fr a11 (f 0 9 (by decide) (by decide)) (fun a k z1 z2 => f a k (by omega) (by omega)) (fun _ _ _ _ => rfl)⟩
    · have hi : i < s.2.1 := hi
      have b := kq_b (i := i) a2 (by have := hs.2.1; omega)
      exact cR_fr (fun a k z1 z2 => f a k (by omega) (by omega)) (fun _ _ _ _ => rfl) (a4 i hi)
    · have hi : i < s.2.2.2.2.1 + 1 := hi
      show _ = nI (ups s.2.2.2.2.2 s.2.2.2.2.1 n i)
      rw [up_a (by decide)]
      by_cases z : i = s.2.2.2.2.1
      · rw [z, up_s, ups_s]
      · rw [up_k z, ups_o z]
        exact a9 i (by omega)
  · have er : o_type x s = a_full s := by
      unfold o_type
      rw [e]
      exact if_neg (by omega)
    rw [er]
    exact cP_mk g1 g2
  · have er : o_type x s = a_bad s := by
      unfold o_type
      rw [e]
      rfl
    rw [er]
    exact cP_mk g1 g2
theorem y_type {x : Int32} (hs : sw s) (hc : mI I s) : kC sh kp 143 [.ref 71, .int x] (I, L, kr q w r1 r2) (mT (o_type x s) I L (kr q w r1 r2)) := by
  have hz := hs.2.2.2.1
  have e1 : I 71 25 = nI s.2.2.2.2.1 := hc.2.2.2.1
  refine ⟨rfl, bM_type_0 (mm_in (a := 0) (b := 127) rfl rfl (bM_type_7 (cb1 (fun e => bM_type_15 (pk_eq s.2.2.2.2.1 120 (fun g => bM_type_24 (mm_full hc fun I' g1 g2 => bM_type_28 ?_)) (fun g => bM_type_29 ?_) e1).symm) (fun e => bM_type_10 (mm_bad hc fun I' g1 g2 => bM_type_14 ?_)))))⟩
  · have er : o_type x s = a_full s := by
      unfold o_type
      rw [e]
      exact if_neg (by omega)
    rw [er]
    exact mP_mk g1 g2
  · have er : o_type x s = (nI (s.2.2.2.2.1 + 1), (s.1, s.2.1, s.2.2.1, s.2.2.2.1, s.2.2.2.2.1 + 1, ups s.2.2.2.2.2 s.2.2.2.2.1 (tn x))) := by
      unfold o_type
      rw [e]
      exact if_pos (by omega)
    rw [er]
    obtain ⟨n, rfl, hn, b1, b2⟩ := okr_e e (by decide)
    rw [hn, e1, nI_clamp (by omega), up_s, up_a (by decide), e1, nI_1]
    refine ⟨vp_in_nI (by omega) (by decide), mP_mk ?_ ⟨fun a k z => by rw [up_a (by omega), up_a (by omega)], fun _ _ _ => rfl⟩⟩
    obtain ⟨a1, ⟨a, a2, a3, a4, a5⟩, a6, a9, a10⟩ := hc
    refine ⟨fun k hk => ?_, ⟨a, a2, ?_, ?_, fun i hi k hk => ?_⟩, ⟨?_, ?_, ?_⟩, up_s, fun i hi => ?_⟩
    · rw [up_a (by decide), up_a (by decide)]; exact a1 k hk
    · rw [up_k (by decide), up_a (by decide)]; exact a3
    · rw [up_k (by decide), up_a (by decide)]; exact a4
    · rw [up_a (by decide), up_a (by decide)]; exact a5 i hi k hk
    · rw [up_k (by decide), up_a (by decide)]; exact a6.1
    · rw [up_k (by decide), up_a (by decide)]; exact a6.2.1
    · rw [up_k (by decide), up_a (by decide)]; exact a6.2.2
    · have hi : i < s.2.2.2.2.1 + 1 := hi
      show _ = nI (ups s.2.2.2.2.2 s.2.2.2.2.1 n i)
      rw [up_a (by decide)]
      by_cases z : i = s.2.2.2.2.1
      · rw [z, up_s, ups_s]
      · rw [up_k z, ups_o z]
        exact a10 i (by omega)
  · have er : o_type x s = a_bad s := by
      unfold o_type
      rw [e]
      rfl
    rw [er]
    exact mP_mk g1 g2
theorem x_clear (hs : sw s) (hc : cI I L q w r1 r2 s) : kC sh kp 32 [.ref 0] (I, L, kr q w r1 r2) (cT (o_clear s) I L) := by
  refine ⟨rfl, bX_clear_0 ?_⟩
  obtain ⟨a1, ⟨a2, a3, a4⟩, a5, ⟨a8, a9⟩, a10, a11⟩ := hc
  rw [a8]
  have f : ∀ a k, a ≠ 67 → km_up I 67 1 0 a k = I a k := fun a k z1 => up_a z1
  refine cP_mk ⟨cR_fr (fun a k z1 z2 => f a k (by omega)) (fun _ _ _ _ => rfl) a1, ⟨a2, (f 0 3 (by decide)).trans a3, fun i hi => ?_⟩, ⟨(f 0 12 (by decide)).trans a5.1, (f 0 13 (by decide)).trans a5.2.1, (f 0 14 (by decide)).trans a5.2.2⟩, ⟨up_s, fun i hi => absurd hi (by show ¬ i < 0; omega)⟩, cH_fr a10 (f 0 5 (by decide)) (fun a k z1 z2 => f a k (by omega)) (fun _ => rfl), cA_fr a11 (f 0 9 (by decide)) (fun a k z1 z2 => f a k (by omega)) (fun _ _ _ _ => rfl)⟩ ⟨fun a k z1 z2 => f a k (by omega), fun _ _ _ _ => rfl⟩
  have hi : i < s.2.1 := hi
  have b := kq_b (i := i) a2 (by have := hs.2.1; omega)
  exact cR_fr (fun a k z1 z2 => f a k (by omega)) (fun _ _ _ _ => rfl) (a4 i hi)
theorem y_clear (hc : mI I s) : kC sh kp 144 [.ref 71] (I, L, kr q w r1 r2) (mT (o_clear s) I L (kr q w r1 r2)) := by
  refine ⟨rfl, bM_clear_0 ?_⟩
  obtain ⟨a1, ⟨a, a2, a3, a4, a5⟩, a6, a9, a10⟩ := hc
  rw [a9]
  refine mP_mk ⟨fun k hk => ?_, ⟨a, a2, ?_, ?_, fun i hi k hk => ?_⟩, ⟨?_, ?_, ?_⟩, up_s, fun i hi => absurd hi (by show ¬ i < 0; omega)⟩ ⟨fun a k z => up_a (by omega), fun _ _ _ => rfl⟩
  · rw [up_a (by decide)]; exact a1 k hk
  · rw [up_k (by decide)]; exact a3
  · rw [up_k (by decide)]; exact a4
  · rw [up_a (by decide)]; exact a5 i hi k hk
  · rw [up_k (by decide)]; exact a6.1
  · rw [up_k (by decide)]; exact a6.2.1
  · rw [up_k (by decide)]; exact a6.2.2
theorem x_told {x : Int32} (hs : sw s) (hc : cI I L q w r1 r2 s) : kC sh kp 35 [.ref 0, .int x] (I, L, kr q w r1 r2) (cT (o_told x s) I L) := by
  have w3 := hs.1.1.2.2.2.1
  have e : ∀ k : Nat, k ≤ 8 → x = nI k → cT (o_told x s) I L (some (.int (tld s k))) (I, L, kr q w r1 r2) := fun k hk g => by
    rw [g, o_told_n hk]
    exact cP_mk hc fM_refl
  refine ⟨rfl, bX_told_0 ⟨fun g => bX_told_52 ?_, fun g => bX_told_57 ?_, fun g => bX_told_62 ?_, fun g => bX_told_67 ?_, fun g => bX_told_75 ?_, fun g => bX_told_83 ?_, fun g => bX_told_91 ?_, fun g => bX_told_99 ?_, fun g => bX_told_115 ?_, fun g => bX_told_120 (x_bad hs hc fun I' g1 g2 => bX_told_126 ?_)⟩⟩
  · rw [hc.2.2.1.1]; exact e 0 (by decide) g
  · rw [hc.2.2.1.2.1]; exact e 1 (by decide) g
  · rw [hc.2.2.1.2.2]; exact e 2 (by decide) g
  · rw [hc.2.2.2.1.1]; exact e 3 (by decide) g
  · rw [hc.1.1]; exact e 4 (by decide) g
  · rw [hc.1.2.1]; exact e 5 (by decide) g
  · rw [hc.1.2.2.1]; exact e 6 (by decide) g
  · have e7 : cT (o_told x s) I L (some (.int (nI (s.1 211)))) (I, L, kr q w r1 r2) := e 7 (by decide) g
    refine pk_eq (s.1 211) 0 (fun z => bX_told_113 (bX_told_114 ?_)) (fun z => bX_told_109 (bX_told_114 ?_)) hc.1.2.2.2.1
    · rw [z] at e7
      exact e7
    · rw [show s.1 211 = 1 by omega] at e7
      exact e7
  · rw [hc.2.1.2.1]; exact e 8 (by decide) g
  · have er : o_told x s = a_bad s := by
      unfold o_told
      cases z : okr x 0 8 with
      | false => rfl
      | true =>
        obtain ⟨n, rfl, hn, b1, b2⟩ := okr_e z (by decide)
        obtain ⟨g8, g7, g6, g5, g4, g3, g2', g1', g0, _⟩ := g
        have h8 : n ≠ 8 := fun y => g8 (by rw [y]; rfl)
        have h7 : n ≠ 7 := fun y => g7 (by rw [y]; rfl)
        have h6 : n ≠ 6 := fun y => g6 (by rw [y]; rfl)
        have h5 : n ≠ 5 := fun y => g5 (by rw [y]; rfl)
        have h4 : n ≠ 4 := fun y => g4 (by rw [y]; rfl)
        have h3 : n ≠ 3 := fun y => g3 (by rw [y]; rfl)
        have h2 : n ≠ 2 := fun y => g2' (by rw [y]; rfl)
        have h1 : n ≠ 1 := fun y => g1' (by rw [y]; rfl)
        have h0 : n ≠ 0 := fun y => g0 (by rw [y]; rfl)
        omega
    rw [er]
    exact cP_mk g1 g2
theorem m_toldOf {k : Nat} (hk : k ≤ 8) (hc : mI I s) (h : K (some (.int (tld s k))) (I, L, kr q w r1 r2)) : kC sh kp 156 [.ref 71, .int (nI k)] (I, L, kr q w r1 r2) K := by
  have ne : ∀ j : Nat, j ≤ 8 → nI k = nI j → k = j := fun j hj g => (nI_eq (by omega) (by omega)).mp g
  refine ⟨rfl, bM_toldOf_0 ⟨fun g => bM_toldOf_48 ?_, fun g => bM_toldOf_53 ?_, fun g => bM_toldOf_58 ?_, fun g => bM_toldOf_63 ?_, fun g => bM_toldOf_68 ⟨pk_in 0 212 (by decide), ?_⟩, fun g => bM_toldOf_75 ⟨pk_in 1 212 (by decide), ?_⟩, fun g => bM_toldOf_82 ⟨pk_in 200 212 (by decide), ?_⟩, fun g => bM_toldOf_91 ⟨pk_in 211 212 (by decide), ?_⟩, fun g => bM_toldOf_100 ?_⟩⟩
  · rw [ne 0 (by decide) g] at h; rw [hc.2.2.1.1]; exact h
  · rw [ne 1 (by decide) g] at h; rw [hc.2.2.1.2.1]; exact h
  · rw [ne 2 (by decide) g] at h; rw [hc.2.2.1.2.2]; exact h
  · rw [ne 3 (by decide) g] at h; rw [hc.2.2.2.1]; exact h
  · rw [ne 4 (by decide) g] at h; rw [cl0, hc.1 0 (by decide)]; exact h
  · rw [ne 5 (by decide) g] at h; rw [cl1, hc.1 1 (by decide)]; exact h
  · rw [ne 6 (by decide) g] at h; rw [cl200, hc.1 200 (by decide)]; exact h
  · rw [ne 7 (by decide) g] at h; rw [cl211, hc.1 211 (by decide)]; exact h
  · obtain ⟨g7, g6, g5, g4, g3, g2, g1, g0, _⟩ := g
    have h7 : k ≠ 7 := fun y => g7 (by rw [y]; rfl)
    have h6 : k ≠ 6 := fun y => g6 (by rw [y]; rfl)
    have h5 : k ≠ 5 := fun y => g5 (by rw [y]; rfl)
    have h4 : k ≠ 4 := fun y => g4 (by rw [y]; rfl)
    have h3 : k ≠ 3 := fun y => g3 (by rw [y]; rfl)
    have h2 : k ≠ 2 := fun y => g2 (by rw [y]; rfl)
    have h1 : k ≠ 1 := fun y => g1 (by rw [y]; rfl)
    have h0 : k ≠ 0 := fun y => g0 (by rw [y]; rfl)
    have h8 : k = 8 := by omega
    obtain ⟨a, _, _, a4, _⟩ := hc.2.1
    rw [h8] at h
    rw [a4]
    exact h
theorem y_told {x : Int32} (hc : mI I s) : kC sh kp 157 [.ref 71, .int x] (I, L, kr q w r1 r2) (mT (o_told x s) I L (kr q w r1 r2)) := by
  refine ⟨rfl, bM_told_0 (mm_in (a := 0) (b := 8) rfl rfl (bM_told_7 (cb0 (fun e => bM_told_10 ?_) (fun e => bM_told_18 (mm_bad hc fun I' g1 g2 => bM_told_22 ?_)))))⟩
  · obtain ⟨n, rfl, hn, b1, b2⟩ := okr_e e (by decide)
    rw [o_told_n (by omega)]
    exact m_toldOf (by omega) hc (bM_told_15 (bM_told_22 (mP_mk hc fX_refl)))
  · have er : o_told x s = a_bad s := by
      unfold o_told
      rw [e]
      rfl
    rw [er]
    exact mP_mk g1 g2
/-- scratch cells of the class -/
theorem cI_f0 {I' : Nat → Nat → Int32} {L' : Nat → Nat → Int64} (hs : sw s) (hc : cI I L q w r1 r2 s) (f1 : ∀ a k, (a < 50 ∨ (55 < a ∧ a < 71) ∨ 90 ≤ a) → I' a k = I a k) (f2 : ∀ a k, (a < 50 ∨ (55 < a ∧ a < 71) ∨ 90 ≤ a) → L' a k = L a k) : cI I' L' q w r1 r2 s :=
  cI_fr (s := s) (m := s.1) hs.2.1 hc (fun a k _ _ z => f1 a k (by omega)) (fun a k z1 z2 => f2 a k (by omega)) (cR_fr (fun a k z1 z2 => f1 a k (by omega)) (fun a k z1 z2 => f2 a k (by omega)) hc.1) (cH_fr hc.2.2.2.2.1 (f1 0 5 (by omega)) (fun a k z1 z2 => f1 a k (by omega)) (fun k => f2 45 k (by omega))) (cA_fr hc.2.2.2.2.2 (f1 0 9 (by omega)) (fun a k z1 z2 => f1 a k (by omega)) (fun a k z1 z2 => f2 a k (by omega)))
theorem cI_fP {I' : Nat → Nat → Int32} {L' : Nat → Nat → Int64} (hs : sw s) (hc : cI I L q w r1 r2 s) (f : fP 50 51 52 54 55 I L I' L') : cI I' L' q w r1 r2 s ∧ fM I L I' L' := ⟨cI_f0 hs hc (fun a k z => f.1 a k (fun e => absurd e (by omega)) (by omega) (by omega) (by omega)) (fun a k z => f.2 a k (by omega)), fun a k z1 z2 => f.1 a k (fun e => absurd e (by omega)) (by omega) (by omega) (by omega), fun a k z1 z2 => f.2 a k (by omega)⟩
/-- scratch cells of the reference -/
theorem mI_fS {I' : Nat → Nat → Int32} {L' : Nat → Nat → Int64} (hc : mI I s) (f : fS I L I' L') : mI I' s ∧ fX I L I' L' := ⟨mI_fr (s := s) (m := s.1) hc (fun a k z1 z2 => f.1 a k (fun e => by have := z1 e; omega) (by omega)) (fS_n f hc.1), fun a k z => f.1 a k (fun e => absurd e (by omega)) (by omega), fun a k z => f.2 a k (by omega)⟩
theorem x_hind {t : Nat} (hs : sw s) (hc : cI I L q w r1 r2 s) (ht : t < s.1 1) (h : ∀ I' L', cI I' L' q w r1 r2 s → fM I L I' L' → I' 0 5 = I 0 5 → K (some (.int (nI (std s.1 t)))) (I', L', kr q w r1 r2)) : kC sh kp 50 [.ref 0, .int (nI t)] (I, L, kr q w r1 r2) K :=
  c_hindX hc.1 hs.1.1 hs.1.2.1 ht fun I' L' g1 g2 => h I' L' (cI_fP hs hc g2).1 (cI_fP hs hc g2).2 (g2.1 0 5 (fun e => absurd e (by decide)) (by decide) (by decide) (by decide))
theorem y_standing {t : Nat} (hs : sw s) (hc : mI I s) (ht : t < s.1 1) (h : ∀ I' L', mI I' s → fX I L I' L' → K (some (.int (nI (std s.1 t)))) (I', L', kr q w r1 r2)) : kC sh kp 91 [.ref 71, .int (nI t)] (I, L, kr q w r1 r2) K :=
  m_standing hc.1 hs.1.1 hs.1.2.1 ht fun I' L' g1 g2 => h I' L' (mI_fS hc g2).1 (mI_fS hc g2).2
theorem x_can {x : Int32} (hs : sw s) (hc : cI I L q w r1 r2 s) : kC sh kp 11 [.ref 0, .int x] (I, L, kr q w r1 r2) (cT (o_can x s) I L) := by
  refine ⟨rfl, bX_can_0 (x_isStep hs.1.1.2.1 hc.1 (bX_can_5 (cb0 (fun e => bX_can_8 ?_) (fun e => bX_can_16 (x_bad hs hc fun I' g1 g2 => bX_can_22 ?_)))))⟩
  · have er : o_can x s = (nI (std s.1 (tn x)), s) := by
      unfold o_can
      rw [e]
      rfl
    rw [er]
    obtain ⟨n, rfl, hn, b1, b2⟩ := okr_e e (by decide)
    rw [hn]
    exact x_hind hs hc (by omega) fun I' L' g1 g2 _ => bX_can_13 (bX_can_22 (cP_mk g1 g2))
  · have er : o_can x s = a_bad s := by
      unfold o_can
      rw [e]
      rfl
    rw [er]
    exact cP_mk g1 g2
theorem y_can {x : Int32} (hs : sw s) (hc : mI I s) : kC sh kp 92 [.ref 71, .int x] (I, L, kr q w r1 r2) (mT (o_can x s) I L (kr q w r1 r2)) := by
  refine ⟨rfl, bM_can_0 (mm_isStep hs.1.1.2.1 hc.1 (bM_can_5 (cb0 (fun e => bM_can_8 ?_) (fun e => bM_can_16 (mm_bad hc fun I' g1 g2 => bM_can_20 ?_)))))⟩
  · have er : o_can x s = (nI (std s.1 (tn x)), s) := by
      unfold o_can
      rw [e]
      rfl
    rw [er]
    obtain ⟨n, rfl, hn, b1, b2⟩ := okr_e e (by decide)
    rw [hn]
    exact y_standing hs hc (by omega) fun I' L' g1 g2 => bM_can_13 (bM_can_20 (mP_mk g1 g2))
  · have er : o_can x s = a_bad s := by
      unfold o_can
      rw [e]
      rfl
    rw [er]
    exact mP_mk g1 g2
end OPS3
