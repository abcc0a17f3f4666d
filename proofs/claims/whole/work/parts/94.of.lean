/-! CALLS: of, both sides (printed by wip/whole/gen/of.py) -/
/-- the least of so many quotients: 0 none, else one more than it -/
def bdk (x : Nat → Nat → Nat) (z : Nat → Nat) (p : Nat) : Nat → Nat
  | 0 => 0
  | k + 1 => if x k p = 0 then bdk x z p k else if bdk x z p k = 0 then z k / x k p + 1 else min (bdk x z p k) (z k / x k p + 1)
theorem bdk_0 {x : Nat → Nat → Nat} {z : Nat → Nat} {p k : Nat} (h : x k p = 0) : bdk x z p (k + 1) = bdk x z p k := if_pos h
theorem bdk_1 {x : Nat → Nat → Nat} {z : Nat → Nat} {p k : Nat} (h : x k p ≠ 0) (h2 : bdk x z p k = 0) : bdk x z p (k + 1) = z k / x k p + 1 := (if_neg h).trans (if_pos h2)
theorem bdk_2 {x : Nat → Nat → Nat} {z : Nat → Nat} {p k : Nat} (h : x k p ≠ 0) (h2 : bdk x z p k ≠ 0) : bdk x z p (k + 1) = min (bdk x z p k) (z k / x k p + 1) := (if_neg h).trans (if_neg h2)
theorem bdk_le {x : Nat → Nat → Nat} {z : Nat → Nat} {p B : Nat} : ∀ k, (∀ i, i < k → z i ≤ B) → bdk x z p k ≤ B + 1
  | 0, _ => Nat.zero_le _
  | k + 1, h => by
    have ih := bdk_le (x := x) (p := p) k fun i hi => h i (by omega)
    have h1 := h k (by omega)
    have h2 : z k / x k p ≤ z k := Nat.div_le_self _ _
    by_cases a : x k p = 0
    · rw [bdk_0 a]
      exact ih
    · by_cases b : bdk x z p k = 0
      · rw [bdk_1 a b]
        omega
      · rw [bdk_2 a b]
        omega
noncomputable def xk (m : Nat → Nat) (k : Nat) : Nat → Nat := ivw m ((ivl m).getD k 0)
noncomputable def zk (m : Nat → Nat) (k : Nat) : Nat := sm0 (fun p => ivw m ((ivl m).getD k 0) p * mz m 2 p) 10
noncomputable def bnd (m : Nat → Nat) (p : Nat) : Nat := bdk (xk m) (zk m) p (ivl m).length
theorem xk_b {m : Nat → Nat} {k : Nat} (hw : wb m) (hk : k < (ivl m).length) : (∀ p, xk m k p ≤ 10321920) ∧ zk m k ≤ 1548288000 := by
  have h1 := (isv_w hw (ivp_at (n := 2 ^ m 0) hk).2).2.2
  refine ⟨h1, ?_⟩
  have := sm0_b0 (f := fun p => ivw m ((ivl m).getD k 0) p * mz m 2 p) (b := 10321920 * 15) (fun p => Nat.mul_le_mul (h1 p) ((mz2_mk hw).1 p)) 10
  exact this
theorem bdk_b {m : Nat → Nat} {p k : Nat} (hw : wb m) (hk : k ≤ (ivl m).length) : bdk (xk m) (zk m) p k ≤ 1548288001 := bdk_le k fun i hi => (xk_b hw (by omega)).2
theorem sI_s1 {v : Nat} : sI (v + 1) = nI v := sI_s (Nat.succ_ne_zero v)
theorem sI_min {b v : Nat} (hb : b ≠ 0) (hb2 : b < 2 ^ 31) (hv : v < 2 ^ 31) : (if nI v < sI b then nI v else sI b) = sI (min b (v + 1)) := by
  have e : sI b = nI (b - 1) := sI_s hb
  by_cases h : v < b - 1
  · have : nI v < sI b := by
      rw [e]
      exact Classical.byContradiction fun c => absurd ((pk_lt (A := v < b - 1) (B := b - 1 ≤ v) v (b - 1) id id).2 c) (by omega)
    rw [if_pos this, sI_s (by omega)]
    congr 1
    omega
  · have : ¬ nI v < sI b := by
      rw [e]
      exact fun c => h ((pk_lt (A := v < b - 1) (B := b - 1 ≤ v) v (b - 1) id id).1 c)
    rw [if_neg this]
    congr 1
    omega
theorem sm_one {p : Nat} {f : Nat → Nat} : ∀ n, sm (2 ^ p) f n = if p < n then f p else 0
  | 0 => rfl
  | n + 1 => by
    show sm (2 ^ p) f n + (if (2 ^ p).testBit n = true then f n else 0) = _
    rw [sm_one n, Nat.testBit_two_pow]
    by_cases e : p = n
    · have z : (if decide (p = n) = true then f n else 0) = f n := if_pos (decide_eq_true e)
      rw [z, if_neg (by omega), if_pos (by omega), e, Nat.zero_add]
    · have z : (if decide (p = n) = true then f n else 0) = 0 := if_neg (by rw [decide_eq_false e]; decide)
      rw [z, Nat.add_zero]
      by_cases g : p < n
      · rw [if_pos g, if_pos (by omega)]
      · rw [if_neg g, if_neg (by omega)]
theorem sg_one {s : sst} {p j : Nat} (hp : p < 10) : sg s (2 ^ p) j = dg (s.2.1 j) p := (sm_one 10).trans (if_pos hp)
def ofL (m : Nat → Nat) (l : sst) (b p y : Nat) : Int32 := if y = 0 then nI (m (2 + p)) else if y = 1 then nI (m (22 + p)) else if y = 2 then nI (m (12 + p)) else if y = 3 then sI b else if y = 4 then nI (mx (sg l (2 ^ p)) l.1) else nI (mn (sg l (2 ^ p)) (l.1 - 1))
theorem ofL_4 {m : Nat → Nat} {l : sst} {b p : Nat} : ofL m l b p 4 = nI (mx (sg l (2 ^ p)) l.1) := rfl
theorem ofL_5 {m : Nat → Nat} {l : sst} {b p : Nat} : ofL m l b p 5 = nI (mn (sg l (2 ^ p)) (l.1 - 1)) := rfl
noncomputable def ofD (m : Nat → Nat) (p y : Nat) : Int32 := ofL m (hl m) (bnd m p) p y
noncomputable def o_of (x y : Int32) (s : ast) : Int32 × ast := cond (okr x 0 ((s.1 0 : Int) - 1) && okr y 0 5) (ofD s.1 (tn x) (tn y), s) (a_bad s)
theorem w_of {x y : Int32} {s : ast} (h : sw s) : sw (o_of x y s).2 := by
  unfold o_of
  cases (okr x 0 ((s.1 0 : Int) - 1) && okr y 0 5) with
  | false => exact h
  | true => exact h
section OF
variable {I : Nat → Nat → Int32} {L : Nat → Nat → Int64} {q r1 r2 : Nat → Nat} {w : Bool} {s : ast} {K : km_K} {m : Nat → Nat}
theorem c_bound0 {p : Nat} (hw : wb m) (hg : gR r1 r2) (ha : anV I L false r1 r2 m) (hp : p < 10) (h : K (some (.int (sI (bnd m p)))) (I, L, kr q false r1 r2)) : kC sh kp 161 [.ref 56, .int (nI p), .long (lN (mp 32 (mz m 2) 10))] (I, L, kr q false r1 r2) K := by
  have l64 := ha.1
  have hv := an_vo ha
  have b2 := (mz2_mk hw).1
  unfold bnd at h
  refine ⟨rfl, bV_bound_0_0 (up0 (Pr := fun k => kW sh kp 161 6 [some (.ref 56), some (.int (nI p)), some (.long (lN (mp 32 (mz m 2) 10))), none, some (.int (sI (bdk (xk m) (zk m) p k))), some (.int (nI k)), none, none] [] (I, L, kr q false r1 r2) K) (e := (ivl m).length) ?_ (fun k hk ih => ?_))⟩
  · refine bV_bound_0_6 ?_
    rw [ha.2.1]
    exact pk_le (ivl m).length (ivl m).length (fun _ => bV_bound_0_67 h) (fun y => absurd y (by omega))
  · have bb := bdk_b (p := p) hw (show k ≤ (ivl m).length by omega)
    have xb := (xk_b hw hk).1 p
    have zb := (xk_b hw hk).2
    have dl : zk m k / xk m k p ≤ zk m k := Nat.div_le_self _ _
    refine bV_bound_0_6 ?_
    rw [ha.2.1]
    refine pk_le (ivl m).length k (fun y => absurd y (by omega)) (fun _ => bV_bound_0_15 (c_weight (m := m) hg hp ha hk (bV_bound_0_22 (pk_le (xk m k p) 0 (fun y => bV_bound_0_61 ?_) (fun y => bV_bound_0_29 ?_)))))
    · rw [nI_1]
      rw [bdk_0 (by omega)] at ih
      exact ih
    · refine c_weighted0 hg l64 hk hv (fun p _ => by have := b2 p; omega) rfl (bV_bound_0_36 ?_)
      have ed : nI (zk m k) / nI (xk m k p) = nI (zk m k / xk m k p) := pk_div (by omega) y (by omega)
      refine ⟨fun c => absurd ((nI_eq (a := xk m k p) (b := 0) (by omega) (by decide)).mp c) (by omega), fun c => bV_bound_0_52 (bV_bound_0_59 (bV_bound_0_61 ?_)), fun c => bV_bound_0_47 (bV_bound_0_59 (bV_bound_0_61 ?_))⟩
      · have n0 : bdk (xk m) (zk m) p k ≠ 0 := fun e => c (by rw [e]; rfl)
        rw [nI_1]
        rw [bdk_2 (by omega) n0] at ih
        have e := sI_min (b := bdk (xk m) (zk m) p k) (v := zk m k / xk m k p) n0 (by omega) (by omega)
        rw [← e, ← ed] at ih
        exact ih
      · have n0 := (sI_m1 (by omega)).mp c
        rw [nI_1]
        rw [bdk_1 (by omega) n0, sI_s1, ← ed] at ih
        exact ih
theorem c_bound1 {p : Nat} (hw : wb m) (hg : gR r1 r2) (ha : anV I L true r1 r2 m) (hp : p < 10) (h : K (some (.int (sI (bnd m p)))) (I, L, kr q true r1 r2)) : kC sh kp 161 [.ref 56, .int (nI p), .long (lN (mp 32 (mz m 2) 10))] (I, L, kr q true r1 r2) K := by
  have l64 := ha.1
  have hv := an_vo ha
  have b2 := (mz2_mk hw).1
  unfold bnd at h
  refine ⟨rfl, bV_bound_1_0 (up0 (Pr := fun k => kW sh kp 161 6 [some (.ref 56), some (.int (nI p)), some (.long (lN (mp 32 (mz m 2) 10))), none, some (.int (sI (bdk (xk m) (zk m) p k))), some (.int (nI k)), none, none] [] (I, L, kr q true r1 r2) K) (e := (ivl m).length) ?_ (fun k hk ih => ?_))⟩
  · refine bV_bound_1_6 ?_
    rw [ha.2.1]
    exact pk_le (ivl m).length (ivl m).length (fun _ => bV_bound_1_67 h) (fun y => absurd y (by omega))
  · have bb := bdk_b (p := p) hw (show k ≤ (ivl m).length by omega)
    have xb := (xk_b hw hk).1 p
    have zb := (xk_b hw hk).2
    have dl : zk m k / xk m k p ≤ zk m k := Nat.div_le_self _ _
    refine bV_bound_1_6 ?_
    rw [ha.2.1]
    refine pk_le (ivl m).length k (fun y => absurd y (by omega)) (fun _ => bV_bound_1_15 (c_weight (m := m) hg hp ha hk (bV_bound_1_22 (pk_le (xk m k p) 0 (fun y => bV_bound_1_61 ?_) (fun y => bV_bound_1_29 ?_)))))
    · rw [nI_1]
      rw [bdk_0 (by omega)] at ih
      exact ih
    · refine c_weighted1 hg l64 hk hv (fun p _ => by have := b2 p; omega) rfl (bV_bound_1_36 ?_)
      have ed : nI (zk m k) / nI (xk m k p) = nI (zk m k / xk m k p) := pk_div (by omega) y (by omega)
      refine ⟨fun c => absurd ((nI_eq (a := xk m k p) (b := 0) (by omega) (by decide)).mp c) (by omega), fun c => bV_bound_1_52 (bV_bound_1_59 (bV_bound_1_61 ?_)), fun c => bV_bound_1_47 (bV_bound_1_59 (bV_bound_1_61 ?_))⟩
      · have n0 : bdk (xk m) (zk m) p k ≠ 0 := fun e => c (by rw [e]; rfl)
        rw [nI_1]
        rw [bdk_2 (by omega) n0] at ih
        have e := sI_min (b := bdk (xk m) (zk m) p k) (v := zk m k / xk m k p) n0 (by omega) (by omega)
        rw [← e, ← ed] at ih
        exact ih
      · have n0 := (sI_m1 (by omega)).mp c
        rw [nI_1]
        rw [bdk_1 (by omega) n0, sI_s1, ← ed] at ih
        exact ih
theorem c_bound {p : Nat} (hw : wb m) (hg : gR r1 r2) (ha : anV I L w r1 r2 m) (hp : p < 10) (h : K (some (.int (sI (bnd m p)))) (I, L, kr q w r1 r2)) : kC sh kp 161 [.ref 56, .int (nI p), .long (lN (mp 32 (mz m 2) 10))] (I, L, kr q w r1 r2) K := by
  cases w with
  | false => exact c_bound0 hw hg ha hp h
  | true => exact c_bound1 hw hg ha hp h
theorem x_of {x y : Int32} (hs : sw s) (hc' : cI I L q w r1 r2 s) : kC sh kp 8 [.ref 0, .int x, .int y] (I, L, kr q w r1 r2) (cT (o_of x y s) I L) := by
  have w0 := hs.1.1.1
  have bad : (okr x 0 ((s.1 0 : Int) - 1) && okr y 0 5) = false → kW sh kp 8 17 [some (.ref 0), none, none] [] (I, L, kr q w r1 r2) (cT (o_of x y s) I L) := fun e => bX_of_17 (x_bad hs hc' fun I' g1 g2 => bX_of_23 (by
    unfold o_of
    rw [e]
    exact cP_mk g1 g2))
  refine ⟨rfl, bX_of_0 (x_isPlace w0 hc'.1 (bX_of_5 (cb0 (fun e1 => bX_of_8 (c_in (a := 0) (b := 5) rfl rfl (bX_of_14 (cb1 (fun e2 => bX_of_24 ?_) (fun e2 => bad (by rw [e1, e2]; rfl)))))) (fun e1 => bad (by rw [e1]; rfl)))))⟩
  have er : o_of x y s = (ofD s.1 (tn x) (tn y), s) := by
    unfold o_of
    rw [e1, e2]
    rfl
  rw [er]
  clear er bad
  obtain ⟨p, rfl, hp, b1, b2⟩ := okr_e e1 (by decide)
  obtain ⟨v, rfl, hv, b3, b4⟩ := okr_e e2 (by decide)
  rw [hp, hv]
  have p10 : p < 10 := by omega
  have pm : p < s.1 0 := by omega
  have c1 := hc'.1
  have k2 := (mz2_mk hs.1.1).1
  have k22 := (nw_mk hs.1.1).1
  have k12 : ∀ p, mz s.1 12 p ≤ 15 := mz_le w0 fun p hp => (hs.1.1.2.2.2.2.1 p hp).2.1
  have z : ∀ c, mz s.1 c p = s.1 (c + p) := fun c => if_pos pm
  have fin : ∀ u, ofD s.1 p v = u → cT (ofD s.1 p v, s) I L (some (.int u)) (I, L, kr q w r1 r2) := fun u hu => by
    rw [hu]
    exact cP_mk hc' fM_refl
  refine ⟨fun e => bX_of_60 ?_, fun e => bX_of_72 ?_, fun e => bX_of_84 ?_, fun e => bX_of_96 ?_, fun e => bX_of_116 ?_, fun e => bX_of_127 ?_⟩
  · rw [c1.2.2.2.2.1]
    exact s_tok p10 (fun p _ => by have := k2 p; omega) (bX_of_71 (fin _ (by rw [(nI_eq (b := 0) (by omega) (by decide)).mp e, z]; rfl)))
  · rw [c1.2.2.2.2.2.2.1]
    exact s_tok p10 (fun p _ => by have := k22 p; omega) (bX_of_83 (fin _ (by rw [(nI_eq (b := 1) (by omega) (by decide)).mp e, z]; rfl)))
  · rw [c1.2.2.2.2.2.1]
    exact s_tok p10 (fun p _ => by have := k12 p; omega) (bX_of_95 (fin _ (by rw [(nI_eq (b := 2) (by omega) (by decide)).mp e, z]; rfl)))
  · have e3 : ofD s.1 p v = sI (bnd s.1 p) := by
      rw [(nI_eq (b := 3) (by omega) (by decide)).mp e]
      rfl
    rw [e3]
    refine x_analyse _ _ _ _ _ _ _ _ hs hc' fun I' L' w' r1' r2' g1 g2 g3 g4 => bX_of_100 ?_
    rw [g1.1.2.2.2.2.1]
    exact c_bound hs.1.1 g1.2.2.2.2.2.1 (cI_an g1 g2).1 p10 (bX_of_115 (cP_mk g1 g3))
  · have e4 : ofD s.1 p v = nI (mx (sg (hl s.1) (2 ^ p)) (hl s.1).1) := by
      rw [(nI_eq (b := 4) (by omega) (by decide)).mp e]
      exact ofL_4
    rw [e4]
    have hgl := hl_gl hs.1.1
    refine x_homeSearch hs hc' fun I2 L2 j1 j2 j3 j4 => bX_of_120 ?_
    rw [sh1 p (by omega)]
    exact c_most_h (s := hl s.1) hgl.2 j4.1 (bX_of_126 (cP_mk j1 j2))
  · have y5 : v = 5 := by
      have a0 : v ≠ 0 := fun c => e.2.2.2.2.1 (by rw [c]; rfl)
      have a1 : v ≠ 1 := fun c => e.2.2.2.1 (by rw [c]; rfl)
      have a2 : v ≠ 2 := fun c => e.2.2.1 (by rw [c]; rfl)
      have a3 : v ≠ 3 := fun c => e.2.1 (by rw [c]; rfl)
      have a4 : v ≠ 4 := fun c => e.1 (by rw [c]; rfl)
      omega
    have e5 : ofD s.1 p v = nI (mn (sg (hl s.1) (2 ^ p)) ((hl s.1).1 - 1)) := by
      rw [y5]
      exact ofL_5
    rw [e5]
    have hgl := hl_gl hs.1.1
    refine x_homeSearch hs hc' fun I2 L2 j1 j2 j3 j4 => bX_of_131 ?_
    rw [sh1 p (by omega)]
    exact c_least_h (s := hl s.1) hgl.2 hgl.1 j4.1 (bX_of_137 (cP_mk j1 j2))
theorem m_bound {p : Nat} (hn : nN I m) (hw : wb m) (hp : p < m 0) (h : ∀ I' L', fU I I' → fUL L L' → K (some (.int (sI (bnd m p)))) (I', L', kr q w r1 r2)) : kC sh kp 114 [.ref 71, .int (nI p)] (I, L, kr q w r1 r2) K := by
  have w0 := hw.1
  have l64 : (ivl m).length ≤ 64 := ivp_len hw
  refine ⟨rfl, bM_bound_0 (m_laySums hn hw fun I' L' g1 g2 g3 => bM_bound_4 ?_)⟩
  have h := h I' L' g1 g2
  have n1 := nN_U hn g1
  unfold bnd at h
  refine up0 (Pr := fun k => kW sh kp 114 8 [some (.ref 71), some (.int (nI p)), some (.int (sI (bdk (xk m) (zk m) p k))), some (.int (nI k)), none] [] (I', L', kr q w r1 r2) K) (e := (ivl m).length) ?_ (fun k hk ih => ?_)
  · refine bM_bound_8 ?_
    rw [g3.1]
    exact pk_le (ivl m).length (ivl m).length (fun _ => bM_bound_77 h) (fun y => absurd y (by omega))
  · have bb := bdk_b (p := p) hw (show k ≤ (ivl m).length by omega)
    have xb := (xk_b hw hk).1 p
    have zb := (xk_b hw hk).2
    have dl : zk m k / xk m k p ≤ zk m k := Nat.div_le_self _ _
    have at0 := ivp_at (m := m) (n := 2 ^ m 0) hk
    have pw := p2_le w0
    have sp := (isv_w hw at0.2)
    have hb : ((ivl m).getD k 0).testBit p = true ↔ xk m k p ≠ 0 := by
      have := spt_tb (x := ivw m ((ivl m).getD k 0)) (fun p hp => (Kc_cone w0 _).2.2.2 _ sp.1.1 p hp) p
      have e2 : spt (ivw m ((ivl m).getD k 0)) = (ivl m).getD k 0 := sp.2.1
      rw [e2] at this
      exact this
    have lt : (ivl m).getD k 0 < 2 ^ m 0 := at0.1
    refine bM_bound_8 ?_
    rw [g3.1]
    refine pk_le (ivl m).length k (fun y => absurd y (by omega)) (fun _ => bM_bound_16 ?_)
    rw [nI_clamp (by omega), g3.2.1 k hk]
    refine ⟨vp_in_nI (by omega) (by decide), m_has (by omega) (by omega) (bM_bound_26 (cb0 (fun e => bM_bound_29 ?_) (fun e => bM_bound_71 ?_)))⟩
    · have x0 := hb.mp e
      have ed : nI (zk m k) / nI (xk m k p) = nI (zk m k / xk m k p) := pk_div (by omega) (by omega) (by omega)
      refine m_tokensFrom (c := 2) (f := mz m 2) n1 w0 (by decide) (fun p hp => if_pos hp) (mz2_mk hw) (bM_bound_36 ⟨rfl, m_worth n1 w0 g3 hk (by omega) (mz2_mk hw) (bM_bound_39 ?_)⟩)
      have ew : I' 82 (10 * k + p) = nI (xk m k p) := g3.2.2 k p hk (by omega)
      have ez : nI (sm0 (fun p => ivw m ((ivl m).getD k 0) p * mz m 2 p) 10) = nI (zk m k) := rfl
      rw [ix_r, nI_clamp (by omega), ew, ez, ed]
      generalize hv : zk m k / xk m k p = v at dl ed
      refine ⟨vp_in_nI (by omega) (by decide), fun c => absurd ((nI_eq (b := 0) (by omega) (by decide)).mp c) x0, fun c => bM_bound_64 (bM_bound_70 (bM_bound_71 ?_)), fun c => ?_⟩
      · have n0 := (sI_m1 (by omega)).mp c
        rw [nI_1]
        rw [bdk_1 x0 n0, hv, sI_s1] at ih
        exact ih
      · have n0 : bdk (xk m) (zk m) p k ≠ 0 := fun e => c (by rw [e]; rfl)
        rw [bdk_2 x0 n0, hv, sI_s (n := min (bdk (xk m) (zk m) p k) (v + 1)) (by omega)] at ih
        rw [sI_s n0]
        refine bM_bound_58 (pk_le (bdk (xk m) (zk m) p k - 1) v (fun y => bM_bound_69 (bM_bound_70 (bM_bound_71 ?_))) (fun y => bM_bound_64 (bM_bound_70 (bM_bound_71 ?_))))
        · rw [nI_1]
          rw [show min (bdk (xk m) (zk m) p k) (v + 1) - 1 = bdk (xk m) (zk m) p k - 1 by omega] at ih
          exact ih
        · rw [nI_1]
          rw [show min (bdk (xk m) (zk m) p k) (v + 1) - 1 = v by omega] at ih
          exact ih
    · rw [nI_1]
      rw [bdk_0 (Classical.byContradiction fun c => by rw [hb.mpr c] at e; exact absurd e (by decide))] at ih
      exact ih
theorem m_extreme {p : Nat} {b : Bool} (hn : nN I m) (hw : wb m) (hl' : ∀ p, p < m 0 → m (12 + p) ≤ m (2 + p)) (hp : p < 10) (h : ∀ I' L', nN I' m → fS I L I' L' → K (some (.int (nI (cond b (mx (sg (hl m) (2 ^ p)) (hl m).1) (mn (sg (hl m) (2 ^ p)) ((hl m).1 - 1)))))) (I', L', kr q w r1 r2)) : kC sh kp 115 [.ref 71, .int (nI p), .int (cond b 1 0)] (I, L, kr q w r1 r2) K := by
  refine ⟨rfl, bM_extreme_0 (m_searchesHome hn hw hl' fun I' L' g1 g2 g3 => bM_extreme_4 ⟨pk_in 0 200 (by decide), ?_⟩)⟩
  have h := h I' L' g1 g2
  have hgl := hl_gl hw
  have e : sr m 5 (hc m) = hl m := rfl
  rw [e] at g3
  generalize hl m = l at h hgl g3
  have h1 := hgl.1
  have h200 := hgl.2.1
  have vle : ∀ k, k < l.1 → dg (l.2.1 k) p ≤ 15 := fun k hk => (hgl.2.2.1 k hk).1.1.1 p
  rw [cl0, (g3.2 0 h1).1]
  refine m_at hp (hgl.2.2.1 0 h1).1.1.1 (bM_extreme_14 ?_)
  have val : ∀ i, i < l.1 → cond b (mx (sg l (2 ^ p)) (i + 1)) (mn (sg l (2 ^ p)) i) ≤ 15 := fun i hi => by
    cases b with
    | true => exact mx_le2 _ fun j hj => by rw [sg_one hp]; exact vle j (by omega)
    | false => exact mn_le2 _ fun j hj => by rw [sg_one hp]; exact vle j (by omega)
  have e0 : dg (l.2.1 0) p = cond b (mx (sg l (2 ^ p)) 1) (mn (sg l (2 ^ p)) 0) := by
    cases b with
    | true =>
      show _ = if 0 < sg l (2 ^ p) 0 then sg l (2 ^ p) 0 else 0
      rw [sg_one hp]
      split <;> omega
    | false => exact (sg_one hp).symm
  rw [e0]
  refine up0 (Pr := fun i => kW sh kp 115 18 [some (.ref 71), some (.int (nI p)), some (.int (cond b 1 0)), some (.int (nI (cond b (mx (sg l (2 ^ p)) (i + 1)) (mn (sg l (2 ^ p)) i)))), some (.int (nI (i + 1))), none] [] (I', L', kr q w r1 r2) K) (e := l.1 - 1) ?_ fun i hi ih => ?_
  · rw [show l.1 - 1 + 1 = l.1 by omega]
    exact bM_extreme_18 (pk_le l.1 l.1 (fun _ => bM_extreme_68 h) (fun g => absurd g (by omega)) g3.1)
  · have v0 := val i (by omega)
    have v1 := vle (i + 1) (by omega)
    refine bM_extreme_18 (pk_le l.1 (i + 1) (fun g => absurd g (by omega)) (fun _ => bM_extreme_27 ⟨vp_in_nI (by omega) (by decide), ?_⟩) g3.1)
    rw [nI_clamp (by omega), (g3.2 (i + 1) (by omega)).1]
    refine m_at hp (hgl.2.2.1 (i + 1) (by omega)).1.1.1 (bM_extreme_38 ?_)
    have es := sg_one (s := l) (j := i + 1) hp
    cases b with
    | true =>
      have em : mx (sg l (2 ^ p)) (i + 1 + 1) = if mx (sg l (2 ^ p)) (i + 1) < sg l (2 ^ p) (i + 1) then sg l (2 ^ p) (i + 1) else mx (sg l (2 ^ p)) (i + 1) := rfl
      have v0 : mx (sg l (2 ^ p)) (i + 1) ≤ 15 := v0
      rw [es] at em
      refine pk_le (dg (l.2.1 (i + 1)) p) (mx (sg l (2 ^ p)) (i + 1)) (fun g => bM_extreme_51 (bM_extreme_52 ⟨fun _ => bM_extreme_60 (bM_extreme_61 ?_), fun c => absurd c (by decide)⟩)) (fun g => bM_extreme_47 (bM_extreme_52 ⟨fun c => absurd rfl c, fun _ => bM_extreme_55 (bM_extreme_61 ?_)⟩))
      · rw [nI_1]
        rw [cond_true, em, if_neg (by omega)] at ih
        exact ih
      · rw [nI_1]
        rw [cond_true, em, if_pos (by omega)] at ih
        exact ih
    | false =>
      have em : mn (sg l (2 ^ p)) (i + 1) = if sg l (2 ^ p) (i + 1) < mn (sg l (2 ^ p)) i then sg l (2 ^ p) (i + 1) else mn (sg l (2 ^ p)) i := rfl
      have v0 : mn (sg l (2 ^ p)) i ≤ 15 := v0
      rw [es] at em
      refine pk_le (dg (l.2.1 (i + 1)) p) (mn (sg l (2 ^ p)) i) (fun g => bM_extreme_51 (bM_extreme_52 ⟨fun c => absurd rfl c, fun _ => bM_extreme_55 (bM_extreme_61 ?_)⟩)) (fun g => bM_extreme_47 (bM_extreme_52 ⟨fun _ => bM_extreme_60 (bM_extreme_61 ?_), fun c => absurd c (by decide)⟩))
      · rw [nI_1]
        rw [cond_false, em] at ih
        have ee : (if dg (l.2.1 (i + 1)) p < mn (sg l (2 ^ p)) i then dg (l.2.1 (i + 1)) p else mn (sg l (2 ^ p)) i) = dg (l.2.1 (i + 1)) p := by
          split <;> omega
        rw [ee] at ih
        exact ih
      · rw [nI_1]
        rw [cond_false, em, if_neg (by omega)] at ih
        exact ih
theorem y_of {x y : Int32} (hs : sw s) (hc' : mI I s) : kC sh kp 116 [.ref 71, .int x, .int y] (I, L, kr q w r1 r2) (mT (o_of x y s) I L (kr q w r1 r2)) := by
  have w0 := hs.1.1.1
  have bad : (okr x 0 ((s.1 0 : Int) - 1) && okr y 0 5) = false → kW sh kp 116 17 [some (.ref 71), none, none] [] (I, L, kr q w r1 r2) (mT (o_of x y s) I L (kr q w r1 r2)) := fun e => bM_of_17 (mm_bad hc' fun I' g1 g2 => bM_of_21 (by
    unfold o_of
    rw [e]
    exact mP_mk g1 g2))
  refine ⟨rfl, bM_of_0 (mm_isPlace w0 hc'.1 (bM_of_5 (cb0 (fun e1 => bM_of_8 (mm_in (a := 0) (b := 5) rfl rfl (bM_of_14 (cb1 (fun e2 => bM_of_22 ?_) (fun e2 => bad (by rw [e1, e2]; rfl)))))) (fun e1 => bad (by rw [e1]; rfl)))))⟩
  have er : o_of x y s = (ofD s.1 (tn x) (tn y), s) := by
    unfold o_of
    rw [e1, e2]
    rfl
  rw [er]
  clear er bad
  obtain ⟨p, rfl, hp, b1, b2⟩ := okr_e e1 (by decide)
  obtain ⟨v, rfl, hv, b3, b4⟩ := okr_e e2 (by decide)
  rw [hp, hv]
  have p10 : p < 10 := by omega
  have pm : p < s.1 0 := by omega
  have n0 := hc'.1
  have fin : ∀ u, ofD s.1 p v = u → mT (ofD s.1 p v, s) I L (kr q w r1 r2) (some (.int u)) (I, L, kr q w r1 r2) := fun u hu => by
    rw [hu]
    exact mP_mk hc' fX_refl
  have i2 : (2 : Int32) + nI p = nI (2 + p) := by rw [fa_lit 2, nI_add]
  have i22 : (22 : Int32) + nI p = nI (22 + p) := by rw [fa_lit 22, nI_add]
  have i12 : (12 : Int32) + nI p = nI (12 + p) := by rw [fa_lit 12, nI_add]
  have ext : ∀ b : Bool, ofD s.1 p v = nI (cond b (mx (sg (hl s.1) (2 ^ p)) (hl s.1).1) (mn (sg (hl s.1) (2 ^ p)) ((hl s.1).1 - 1))) → kW sh kp 116 99 [none, none, none] [.int (cond b 1 0), .int (nI p), .ref 71] (I, L, kr q w r1 r2) (mT (ofD s.1 p v, s) I L (kr q w r1 r2)) := fun b e => bM_of_99 ⟨rfl, m_extreme n0 hs.1.1 hs.1.2.1 p10 fun I2 L2 j1 j2 => bM_of_102 (by
    rw [e]
    have M2 := mI_fS hc' j2
    generalize hl s.1 = l
    exact mP_mk (s := s) M2.1 M2.2)⟩
  refine ⟨fun e => bM_of_52 ?_, fun e => bM_of_61 ?_, fun e => bM_of_71 ?_, fun e => bM_of_81 ?_, fun e => bM_of_87 (pk_eq v 4 (fun z => bM_of_94 (ext true ?_)) (fun z => bM_of_98 (ext false ?_))).symm⟩
  · rw [i2, nI_clamp (by omega), n0 _ (by omega)]
    exact ⟨vp_in_nI (by omega) (by decide), fin _ (by rw [(nI_eq (b := 0) (by omega) (by decide)).mp e]; rfl)⟩
  · rw [i22, nI_clamp (by omega), n0 _ (by omega)]
    exact ⟨vp_in_nI (by omega) (by decide), fin _ (by rw [(nI_eq (b := 1) (by omega) (by decide)).mp e]; rfl)⟩
  · rw [i12, nI_clamp (by omega), n0 _ (by omega)]
    exact ⟨vp_in_nI (by omega) (by decide), fin _ (by rw [(nI_eq (b := 2) (by omega) (by decide)).mp e]; rfl)⟩
  · have e3 : ofD s.1 p v = sI (bnd s.1 p) := by
      rw [(nI_eq (b := 3) (by omega) (by decide)).mp e]
      rfl
    rw [e3]
    exact m_bound n0 hs.1.1 pm fun I' L' g1 g2 => bM_of_86 (mP_mk (mI_U hc' g1 g2).1 (mI_U hc' g1 g2).2)
  · rw [z, cond_true]
    exact ofL_4
  · have y5 : v = 5 := by
      have a0 : v ≠ 0 := fun c => e.2.2.2.1 (by rw [c]; rfl)
      have a1 : v ≠ 1 := fun c => e.2.2.1 (by rw [c]; rfl)
      have a2 : v ≠ 2 := fun c => e.2.1 (by rw [c]; rfl)
      have a3 : v ≠ 3 := fun c => e.1 (by rw [c]; rfl)
      omega
    rw [y5, cond_false]
    exact ofL_5
end OF
