/-! CALLS: found, home -/
def a_badL (s : ast) : Int64 × ast := ((-2 : Int32).toInt64, (a_bad s).2)
def cTL (r : Int64 × ast) (I : Nat → Nat → Int32) (L : Nat → Nat → Int64) : km_K := cP r.2 (some (.long r.1)) I L
def mTL (r : Int64 × ast) (I : Nat → Nat → Int32) (L : Nat → Nat → Int64) (R : Nat → Nat → Nat) : km_K := mP r.2 (some (.long r.1)) I L R
noncomputable def fnL (m : Nat → Nat) (l : sst) (k y : Nat) : Int64 := if y = 0 then lN (c16 (l.2.1 k)) else if y = 1 then lN (l.2.2 k) else if y = 2 then (if wyD m 5 l 0 k = 0 then 0 else 1) else lN (abl m 5 (l.2.1 k))
noncomputable def fnR (m : Nat → Nat) (l : sst) (k y : Nat) : Int64 := if k < l.1 then fnL m l k y else -1
noncomputable def o_found (x y : Int32) (s : ast) : Int64 × ast := cond (decide (0 ≤ x.toInt) && okr y 0 3) (fnR s.1 (hl s.1) (tn x) (tn y), s) (a_badL s)
theorem o_found_t {x y : Int32} {s : ast} (h1 : decide (0 ≤ x.toInt) = true) (h2 : okr y 0 3 = true) : o_found x y s = (fnR s.1 (hl s.1) (tn x) (tn y), s) := by
  unfold o_found
  rw [h1, h2]
  exact cond_true _ _
theorem fnR_t {m : Nat → Nat} {l : sst} {k y : Nat} (h : k < l.1) : fnR m l k y = fnL m l k y := if_pos h
theorem fnR_f {m : Nat → Nat} {l : sst} {k y : Nat} (h : ¬ k < l.1) : fnR m l k y = -1 := if_neg h
theorem w_found {x y : Int32} {s : ast} (h : sw s) : sw (o_found x y s).2 := by
  unfold o_found
  cases (decide (0 ≤ x.toInt) && okr y 0 3) with
  | false => exact h
  | true => exact h
theorem fnL_0 {m : Nat → Nat} {l : sst} {k : Nat} : fnL m l k 0 = lN (c16 (l.2.1 k)) := if_pos rfl
theorem fnL_1 {m : Nat → Nat} {l : sst} {k : Nat} : fnL m l k 1 = lN (l.2.2 k) := by
  unfold fnL
  rw [if_neg (by decide), if_pos rfl]
theorem fnL_2 {m : Nat → Nat} {l : sst} {k : Nat} : fnL m l k 2 = if wyD m 5 l 0 k = 0 then 0 else 1 := by
  unfold fnL
  rw [if_neg (by decide), if_neg (by decide), if_pos rfl]
theorem fnL_3 {m : Nat → Nat} {l : sst} {k : Nat} : fnL m l k 3 = lN (abl m 5 (l.2.1 k)) := by
  unfold fnL
  rw [if_neg (by decide), if_neg (by decide), if_neg (by decide)]
theorem abl_lt {m : Nat → Nat} {c : Nat} (h : m 1 ≤ 8) : abl m 5 c < 256 := Nat.lt_of_lt_of_le (bs_lt _) (Nat.pow_le_pow_right (n := 2) (by decide) h)
/-- the first that holds: 0 none, else one more -/
def ft (P : Nat → Bool) : Nat → Nat → Nat
  | 0, _ => 0
  | k + 1, t => cond (P t) (t + 1) (ft P k (t + 1))
theorem ft_le {P : Nat → Bool} : ∀ k t, ft P k t ≤ t + k
  | 0, t => Nat.zero_le _
  | k + 1, t => by
    have := ft_le (P := P) k (t + 1)
    unfold ft
    cases P t with
    | true => show t + 1 ≤ _; omega
    | false => show ft P k (t + 1) ≤ _; omega
noncomputable def hmL (m : Nat → Nat) (l : sst) (W : Nat → Nat) (y : Nat) : Int32 := if W 0 = 0 then -1 else if y = 0 then nI ((W 0 - 1) / 1000) else if y = 1 then nI ((W 0 - 1) % 1000) else if W 0 = 1 then -1 else sI (ft (fun t => Nat.beq (wvl l.1 (tg m 5 l) (ec m) W 0 t) (W 0)) (m 1) 0)
/-- the list from the present marking -/
def nl (m : Nat → Nat) : sst := sr m 5 (nc m)
noncomputable def o_home (x : Int32) (s : ast) : Int32 × ast := cond (okr x 0 2) (hmL s.1 (nl s.1) (wyD s.1 5 (nl s.1) (pl (nl s.1) (hc s.1))) (tn x), s) (a_bad s)
theorem w_home {x : Int32} {s : ast} (h : sw s) : sw (o_home x s).2 := by
  unfold o_home
  cases okr x 0 2 <;> exact h
theorem wvl_cg {n : Nat} {T : Nat → Nat → Nat} {c W W' : Nat → Nat} {k t : Nat} (h : ∀ j, j < n → W j = W' j) : wvl n T c W k t = wvl n T c W' k t := by
  unfold wvl
  by_cases e : T k t < n
  · rw [h _ e]
  · rw [if_neg (fun z => e z.1), if_neg (fun z => e z.1)]
theorem ft_cg {P Q : Nat → Bool} (h : ∀ t, P t = Q t) : P = Q := funext h
theorem hmL_cg {m : Nat → Nat} {l : sst} {W W' : Nat → Nat} {y : Nat} (h1 : 1 ≤ l.1) (h : ∀ j, j < l.1 → W j = W' j) : hmL m l W y = hmL m l W' y := by
  have e : (fun t => Nat.beq (wvl l.1 (tg m 5 l) (ec m) W 0 t) (W 0)) = fun t => Nat.beq (wvl l.1 (tg m 5 l) (ec m) W' 0 t) (W' 0) := funext fun t => by rw [wvl_cg h, h 0 (by omega)]
  unfold hmL
  rw [e, h 0 (by omega)]
section FOUND
variable {I : Nat → Nat → Int32} {L : Nat → Nat → Int64} {q r1 r2 : Nat → Nat} {w : Bool} {s : ast} {K : km_K} {m : Nat → Nat}
theorem x_found {x y : Int32} (hs : sw s) (hc : cI I L q w r1 r2 s) : kC sh kp 29 [.ref 0, .int x, .int y] (I, L, kr q w r1 r2) (cTL (o_found x y s) I L) := by
  have w1 := hs.1.1.2.1
  have hgl := hl_gl hs.1.1
  have h200 := hgl.2.1
  have bad : (decide (0 ≤ x.toInt) && okr y 0 3) = false → kW sh kp 29 13 [some (.ref 0), none, none, none] [] (I, L, kr q w r1 r2) (cTL (o_found x y s) I L) := fun e => bX_found_13 (x_bad hs hc fun I' g1 g2 => bX_found_19 (by
    unfold o_found
    rw [e]
    exact cP_mk g1 g2))
  have z0 : (0 : Int32).toInt = 0 := by decide
  refine ⟨rfl, bX_found_0 ⟨fun g => bad ?_, fun g => bX_found_4 (c_in (a := 0) (b := 3) rfl rfl (bX_found_10 (cb1 (fun e => bX_found_21 ?_) (fun e => bad (by rw [e, Bool.and_false])))))⟩⟩
  · rw [fa_lt, z0] at g
    rw [decide_eq_false (by omega)]
    rfl
  · have e1 : decide (0 ≤ x.toInt) = true := decide_eq_true (by rw [fa_lt, z0] at g; omega)
    rw [o_found_t e1 e]
    obtain ⟨k, hk, rfl⟩ := nI_of g
    have etk : tn (nI k) = k := by
      unfold tn
      rw [nI_toInt hk]
      exact Int.toNat_natCast k
    obtain ⟨v, rfl, hv, b1, b2⟩ := okr_e e (by decide)
    rw [etk, hv]
    refine x_homeSearch hs hc fun I' L' g1 g2 g3 g4 => bX_found_25 ?_
    have hS : cS I' L' 44 45 46 (hl s.1) := g4.1
    refine pk_lt k (hl s.1).1 (fun z => ?_) (fun z => bX_found_34 ?_) rfl hS.1 (by omega) (by omega)
    · rw [fnR_t z]
      have hv1 := (hgl.2.2.1 k z).1
      have fin : ∀ u, fnL s.1 (hl s.1) k v = u → cTL (fnL s.1 (hl s.1) k v, s) I L (some (.long u)) (I', L', kr q w r1 r2) := fun u hu => by
        rw [hu]
        exact cP_mk g1 g2
      refine bX_found_38 ⟨fun a => bX_found_64 ⟨vp_in_nI (by omega) (by decide), ?_⟩, fun a => bX_found_74 ⟨vp_in_nI (by omega) (by decide), ?_⟩, fun a => bX_found_82 ?_, fun a => bX_found_107 ?_⟩
      · have a0 : v = 0 := (nI_eq (b := 0) (by omega) (by decide)).mp a
        rw [nI_clamp (by omega), (hS.2 k z).1, hv1.2]
        refine s_hexadecimal (fun p _ => by have := hv1.1.1 p; omega) (bX_found_73 (fin _ ?_))
        rw [a0, fnL_0]
        rfl
      · have a0 : v = 1 := (nI_eq (b := 1) (by omega) (by decide)).mp a
        have hd := (hgl.2.2.1 k z).2
        rw [nI_clamp (by omega), (hS.2 k z).2, nI_l (by omega)]
        exact fin _ (by rw [a0, fnL_1])
      · have a0 : v = 2 := (nI_eq (b := 2) (by omega) (by decide)).mp a
        refine x_measure hs g1 g3 g4 fun I2 L2 j1 j2 j3 j4 j5 => bX_found_91 ?_
        have fin2 : ∀ u, fnL s.1 (hl s.1) k v = u → cTL (fnL s.1 (hl s.1) k v, s) I L (some (.long u)) (I2, L2, kr q w r1 r2) := fun u hu => by
          rw [hu]
          exact cP_mk j1 (fM_trans g2 j2)
        have bk := j4 k z
        rw [nI_clamp (by omega), j5 k z]
        refine ⟨vp_in_nI (by omega) (by decide), fun b => bX_found_105 (bX_found_106 (fin2 _ ?_)), fun b => bX_found_101 (bX_found_106 (fin2 _ ?_))⟩
        · rw [a0, fnL_2, if_neg (fun c => b (by rw [c]; rfl))]
        · rw [a0, fnL_2, if_pos ((sI_m1 (by omega)).mp b)]
      · obtain ⟨b3, b4, b5, _⟩ := a
        have a0 : v = 3 := by
          have := nI_ne (b := 2) b3
          have := nI_ne (b := 1) b4
          have := nI_ne (b := 0) b5
          omega
        rw [g1.1.2.1]
        have ab := abl_lt (m := s.1) (c := (hl s.1).2.1 k) w1
        refine c_able_h (b := 5) (s := hl s.1) w1 hgl.2 z g4.2.1 (bX_found_119 (fin _ ?_))
        rw [a0, fnL_3, nI_l (by omega)]
    · rw [fnR_f (by omega)]
      exact cP_mk g1 g2
theorem y_found {x y : Int32} (hs : sw s) (hc : mI I s) : kC sh kp 140 [.ref 71, .int x, .int y] (I, L, kr q w r1 r2) (mTL (o_found x y s) I L (kr q w r1 r2)) := by
  have w1 := hs.1.1.2.1
  have hgl := hl_gl hs.1.1
  have h200 := hgl.2.1
  have bad : (decide (0 ≤ x.toInt) && okr y 0 3) = false → kW sh kp 140 13 [some (.ref 71), none, none] [] (I, L, kr q w r1 r2) (mTL (o_found x y s) I L (kr q w r1 r2)) := fun e => bM_found_13 (mm_bad hc fun I' g1 g2 => bM_found_17 (by
    unfold o_found
    rw [e]
    exact mP_mk g1 g2))
  have z0 : (0 : Int32).toInt = 0 := by decide
  refine ⟨rfl, bM_found_0 ⟨fun g => bad ?_, fun g => bM_found_4 (mm_in (a := 0) (b := 3) rfl rfl (bM_found_10 (cb1 (fun e => bM_found_19 ?_) (fun e => bad (by rw [e, Bool.and_false])))))⟩⟩
  · rw [fa_lt, z0] at g
    rw [decide_eq_false (by omega)]
    rfl
  · have e1 : decide (0 ≤ x.toInt) = true := decide_eq_true (by rw [fa_lt, z0] at g; omega)
    rw [o_found_t e1 e]
    obtain ⟨k, hk, rfl⟩ := nI_of g
    have etk : tn (nI k) = k := by
      unfold tn
      rw [nI_toInt hk]
      exact Int.toNat_natCast k
    obtain ⟨v, rfl, hv, b1, b2⟩ := okr_e e (by decide)
    rw [etk, hv]
    refine m_searchesHome hc.1 hs.1.1 hs.1.2.1 fun I' L' n1 g2 g3 => bM_found_23 ?_
    have hm1 := mI_fS hc g2
    have hS : mS I' L' (hl s.1) := g3
    refine pk_lt k (hl s.1).1 (fun z => ?_) (fun z => bM_found_31 ?_) rfl hS.1 (by omega) (by omega)
    · rw [fnR_t z]
      have fin : ∀ u, fnL s.1 (hl s.1) k v = u → mTL (fnL s.1 (hl s.1) k v, s) I L (kr q w r1 r2) (some (.long u)) (I', L', kr q w r1 r2) := fun u hu => by
        rw [hu]
        exact mP_mk hm1.1 hm1.2
      refine bM_found_35 ⟨fun a => bM_found_64 ⟨vp_in_nI (by omega) (by decide), ?_⟩, fun a => bM_found_71 ⟨vp_in_nI (by omega) (by decide), ?_⟩, fun a => bM_found_79 ?_, fun a => bM_found_98 ?_⟩
      · have a0 : v = 0 := (nI_eq (b := 0) (by omega) (by decide)).mp a
        rw [nI_clamp (by omega), (hS.2 k z).1]
        exact fin _ (by rw [a0, fnL_0])
      · have a0 : v = 1 := (nI_eq (b := 1) (by omega) (by decide)).mp a
        have hd := (hgl.2.2.1 k z).2
        rw [nI_clamp (by omega), (hS.2 k z).2, nI_l (by omega)]
        exact fin _ (by rw [a0, fnL_1])
      · have a0 : v = 2 := (nI_eq (b := 2) (by omega) (by decide)).mp a
        refine m_layWays (s := hl s.1) n1 hs.1.1 hS hgl fun I2 D f1 f2 f3 => bM_found_83 ?_
        have n2 := nN_fr n1 (fun a k b1 b2 _ => f1 a k b1 b2)
        have m2 : mI I2 s := mI_fr (s := s) (m := s.1) hm1.1 (fun a k b1 b2 => f1 a k (by omega) (by omega)) n2
        have fin2 : ∀ u, fnL s.1 (hl s.1) k v = u → mTL (fnL s.1 (hl s.1) k v, s) I L (kr q w r1 r2) (some (.long u)) (I2, L', kr q w r1 r2) := fun u hu => by
          rw [hu]
          exact mP_mk m2 (fX_trans hm1.2 ⟨fun a k b => f1 a k (by omega) (by omega), fun _ _ _ => rfl⟩)
        have eD := wyD_eq f2 k z
        rw [nI_clamp (by omega), f3 k z]
        refine ⟨vp_in_nI (by omega) (by decide), fun b => bM_found_96 (bM_found_97 (fin2 _ ?_)), fun b => bM_found_92 (bM_found_97 (fin2 _ ?_))⟩
        · rw [a0, fnL_2, ← eD, if_pos (Classical.byContradiction fun c => by rw [if_neg c] at b; exact absurd b (by decide))]
        · rw [a0, fnL_2, ← eD, if_neg (fun c => b (by rw [if_pos c]))]
      · obtain ⟨b3, b4, b5, _⟩ := a
        have a0 : v = 3 := by
          have := nI_ne (b := 2) b3
          have := nI_ne (b := 1) b4
          have := nI_ne (b := 0) b5
          omega
        have ab := abl_lt (m := s.1) (c := (hl s.1).2.1 k) w1
        refine m_canAt n1 hs.1.1 hS hgl.2 z (bM_found_103 (fin _ ?_))
        rw [a0, fnL_3, nI_l (by omega)]
    · rw [fnR_f (by omega)]
      exact mP_mk hm1.1 hm1.2
theorem nl_gl (hw : wb m) : gl m (nl m) := sr_gl hw.1 (nc_vc hw)
theorem c_first {l : sst} {W : Nat → Nat} (hw : wb m) (hR : cR I L 1 m) (hgl : gl m l) (hN : ∀ k, k < l.1 → ∀ t, t < m 1 → I 54 (8 * k + t) = nx m 5 l k t) (hW : ∀ k, k < l.1 → I 53 k = sI (W k)) (hb : ∀ k, k < l.1 → W k ≤ 2 ^ 29) (h0 : W 0 ≠ 0) (h : K (some (.int (if W 0 = 1 then -1 else sI (ft (fun t => Nat.beq (wvl l.1 (tg m 5 l) (ec m) W 0 t) (W 0)) (m 1) 0)))) (I, L, kr q w r1 r2)) : kC sh kp 204 [.ref 50, .ref 1] (I, L, kr q w r1 r2) K := by
  have h1 := hgl.1
  have h200 := hgl.2.1
  have w1 := hw.2.1
  have w6 := hw.2.2.2.2.2.2.1
  have b0 := hb 0 h1
  have e0 : I 53 (0 : Int32).toNatClampNeg = nI (W 0 - 1) := by
    rw [cl0, hW 0 h1, sI_s h0]
  refine ⟨rfl, bF_firstStep_a_0 ?_⟩
  rw [e0]
  refine ⟨pk_in 0 200 (by decide), (pk_eq (W 0 - 1) 0 (fun g => bF_firstStep_a_9 ?_) (fun g => bF_firstStep_a_11 ?_)).symm⟩
  · rw [if_pos (by omega)] at h
    exact h
  · rw [if_neg (by omega)] at h
    have key : ∀ k t, t + k = m 1 → K (some (.int (sI (ft (fun t => Nat.beq (wvl l.1 (tg m 5 l) (ec m) W 0 t) (W 0)) k t)))) (I, L, kr q w r1 r2) → kW sh kp 204 13 [some (.ref 50), some (.ref 1), some (.int (nI t))] [] (I, L, kr q w r1 r2) K := fun k => by
      induction k with
      | zero => exact fun t ht hk => bF_firstStep_a_13 (pk_le (m 1) t (fun _ => bF_firstStep_a_45 hk) (fun z => absurd z (by omega)) hR.2.1)
      | succ k ih =>
        intro t ht hk
        refine bF_firstStep_a_13 (pk_le (m 1) t (fun z => absurd z (by omega)) (fun _ => bF_firstStep_a_21 (c_wayOver_a (k := 0) hw hR h200 h1 (by omega) hN hW (fun k hk => by have := hb k hk; omega) (bF_firstStep_a_28 ?_))) hR.2.1)
        rw [e0]
        have hvb : wvl l.1 (tg m 5 l) (ec m) W 0 t ≤ 2 ^ 29 + 9001 := by
          unfold wvl
          have := ec_b (w6 t (by omega))
          split
          · rename_i z
            have := hb _ z.1
            omega
          · omega
        have hk : K (some (.int (sI (cond (Nat.beq (wvl l.1 (tg m 5 l) (ec m) W 0 t) (W 0)) (t + 1) (ft (fun t => Nat.beq (wvl l.1 (tg m 5 l) (ec m) W 0 t) (W 0)) k (t + 1)))))) (I, L, kr q w r1 r2) := hk
        refine ⟨pk_in 0 200 (by decide), fun z => bF_firstStep_a_39 ?_, fun z => bF_firstStep_a_37 ?_⟩
        · have e : Nat.beq (wvl l.1 (tg m 5 l) (ec m) W 0 t) (W 0) = false := Bool.eq_false_iff.mpr fun a => z (by
            rw [beq_iff.mp a, sI_s h0])
          rw [e] at hk
          rw [nI_1]
          exact ih (t + 1) (by omega) hk
        · have e : Nat.beq (wvl l.1 (tg m 5 l) (ec m) W 0 t) (W 0) = true := by
            refine beq_iff.mpr ?_
            have hn0 : wvl l.1 (tg m 5 l) (ec m) W 0 t ≠ 0 := fun a => by
              rw [a, sI_0] at z
              exact nI_m1 (by omega) z.symm
            rw [sI_s hn0] at z
            have := (nI_eq (by omega) (by omega)).mp z
            omega
          rw [e] at hk
          exact hk
    exact key (m 1) 0 (by omega) h
theorem x_home {x : Int32} (hs : sw s) (hc' : cI I L q w r1 r2 s) : kC sh kp 30 [.ref 0, .int x] (I, L, kr q w r1 r2) (cT (o_home x s) I L) := by
  have w1 := hs.1.1.2.1
  have hgl := nl_gl hs.1.1
  have h200 := hgl.2.1
  have h1 := hgl.1
  refine ⟨rfl, bX_home_0 (c_in (a := 0) (b := 2) rfl rfl (bX_home_6 (cb1 (fun e => bX_home_16 ?_) (fun e => bX_home_9 (x_bad hs hc' fun I' g1 g2 => bX_home_15 ?_)))))⟩
  · unfold o_home
    rw [e]
    obtain ⟨y, rfl, hy, b1, b2⟩ := okr_e e (by decide)
    rw [hy, hc'.1.2.2.2.2.2.2.1]
    refine c_spread_a (b := 5) (c := nc s.1) hc'.1 hs.1.1 (by decide) (nc_vc hs.1.1) (Or.inl rfl) (fun I' L' u g1 g2 => bX_home_38 (c_home g1.1 hs.1.2.1 (bX_home_57 ?_))) (fun g z1 z2 => ?_)
    · obtain ⟨c1, c2, c3, c4, c5, c6⟩ := g1
      have hcf := cI_fP hs hc' c2
      have hcl : hc s.1 < 2 ^ 63 := Nat.lt_trans (vc_lt (hc_vc hs.1.1)) (by decide)
      refine c_index_a (m := s.1) (s := nl s.1) (c := hc s.1) hgl.2 c4 c5 c6 hcl (bX_home_60 ?_)
      -- what is left, once the ways are there
      have rest : ∀ I2 (W : Nat → Nat), (∀ a k, (a = 50 → k ≠ 6) → a ≠ 53 → I2 a k = I' a k) → dst s.1 5 (nl s.1) (pl (nl s.1) (hc s.1)) W → (∀ k, k < (nl s.1).1 → W k ≤ 2 ^ 29) → (∀ k, k < (nl s.1).1 → I2 53 k = sI (W k)) → kW sh kp 30 63 [some (.ref 0), some (.int (nI y)), none] [] (I2, L', kr q w r1 r2) (cT (hmL s.1 (nl s.1) (wyD s.1 5 (nl s.1) (pl (nl s.1) (hc s.1))) y, s) I L) := fun I2 W f1 f2 f3 f4 => by
        have f0 : ∀ a k, a ≠ 50 → a ≠ 53 → I2 a k = I' a k := fun a k y1 y2 => f1 a k (fun e => absurd e y1) y2
        have i2 : cI I2 L' q w r1 r2 s := cI_f0 hs hcf.1 (fun a k z => f0 a k (by omega) (by omega)) (fun _ _ _ => rfl)
        have fm : fM I L I2 L' := fM_trans hcf.2 ⟨fun a k y1 y2 => f0 a k (by omega) (by omega), fun _ _ _ _ => rfl⟩
        rw [← hmL_cg (y := y) h1 (wyD_eq f2)]
        have fin : ∀ u, hmL s.1 (nl s.1) W y = u → cT (hmL s.1 (nl s.1) W y, s) I L (some (.int u)) (I2, L', kr q w r1 r2) := fun u hu => by
          rw [hu]
          exact cP_mk i2 fm
        have b0 := f3 0 h1
        refine bX_home_63 ?_
        rw [cl0, f4 0 h1]
        refine ⟨pk_in 0 200 (by decide), fun z => bX_home_80 ?_, fun z => bX_home_78 (fin _ ?_)⟩
        · have z0 : W 0 ≠ 0 := fun a => z (by rw [a]; rfl)
          rw [sI_s z0]
          refine ⟨fun a => bX_home_108 (fin _ ?_), fun a => bX_home_114 (fin _ ?_), fun a => bX_home_120 (c_first hs.1.1 i2.1 hgl (fun k hk t ht => (f0 54 _ (by decide) (by decide)).trans (g2 k hk t ht)) f4 f3 z0 (bX_home_131 (fin _ ?_)))⟩
          · have a0 : y = 0 := (nI_eq (b := 0) (by omega) (by decide)).mp a
            unfold hmL
            rw [if_neg z0, if_pos a0, fa_lit 1000, pk_div (by omega) (by decide) (by decide)]
          · have a0 : y = 1 := (nI_eq (b := 1) (by omega) (by decide)).mp a
            unfold hmL
            rw [if_neg z0, if_neg (by omega), if_pos a0, fa_lit 1000, pk_rem (by omega) (by decide) (by decide)]
          · have a1 := nI_ne (b := 1) a.1
            have a2 := nI_ne (b := 0) a.2.1
            unfold hmL
            rw [if_neg z0, if_neg a2, if_neg a1]
        · have z0 := (sI_m1 (by omega)).mp z
          unfold hmL
          rw [if_pos z0]
      by_cases z : pl (nl s.1) (hc s.1) < (nl s.1).1
      · have ep : pI (nl s.1) (hc s.1) = nI (pl (nl s.1) (hc s.1)) := if_pos z
        rw [ep]
        exact c_measure_a (b := 5) (s := nl s.1) hs.1.1 c1 hgl c4 z g2 c3 fun I2 f1 f2 ⟨W, f3, f4, f5⟩ => rest I2 W f1 f3 (fun k hk => f4 k hk) f5
      · have ep : pI (nl s.1) (hc s.1) = -1 := if_neg z
        rw [ep]
        refine ⟨rfl, bF_measure_a_0 ⟨fun _ => bF_measure_a_8 (j_fillI rfl (by decide) fun I2 f1 f2 => bF_measure_a_21 ⟨fun a => absurd rfl a, fun _ => bF_measure_a_26 ?_⟩), fun a => absurd c3 a⟩⟩
        have hple := pl_le (nl s.1) (hc s.1)
        have hz : ∀ k, k < (nl s.1).1 → wyD s.1 5 (nl s.1) (pl (nl s.1) (hc s.1)) k = 0 := fun k hk => gds_none ec_1 wyD_sp (by omega) _ k hk rfl
        refine rest I2 (wyD s.1 5 (nl s.1) (pl (nl s.1) (hc s.1))) (fun a k y1 y2 => ?_) wyD_sp (fun k hk => by rw [hz k hk]; exact Nat.zero_le _) (fun k hk => ?_)
        · rw [f1 a k y2]
          by_cases e5 : a = 50
          · exact up_k (y1 e5)
          · exact up_a e5
        · rw [hz k hk]
          exact f2 k (show k < 200 by omega)
    · have : (lN g).toInt = (g : Int) := pk_lT (Nat.lt_trans (vc_lt z2) (by decide))
      rw [← z1] at this
      have e : (-1 : Int64).toInt = -1 := by decide
      omega
  · unfold o_home
    rw [e]
    exact cP_mk g1 g2
end FOUND
