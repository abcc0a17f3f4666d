/-! CALLS: digest, both sides -/
def dgT (s : ast) : Nat → Int64
  | 0 => 2221
  | k + 1 => 31 * dgT s k + (tld s k).toInt64
def dgP (m : Nat → Nat) (h : Int64) : Nat → Int64
  | 0 => h
  | p + 1 => 31 * (31 * (31 * dgP m h p + (nI (m (2 + p))).toInt64) + (nI (m (22 + p))).toInt64) + (nI (m (12 + p))).toInt64
def dgS (m : Nat → Nat) (h : Int64) : Nat → Int64
  | 0 => h
  | t + 1 => 31 * (31 * (31 * dgS m h t + (nI (stpO m t 0)).toInt64) + (nI (stpO m t 1)).toInt64) + (nI (stpO m t 2)).toInt64
def dgG (m : Nat → Nat) (h : Int64) : Nat → Int64
  | 0 => h
  | g + 1 => 31 * (31 * dgG m h g + (nI (m (201 + g))).toInt64) + (nI (m (206 + g))).toInt64
noncomputable def dgA (m : Nat → Nat) (h : Int64) : Nat → Int64
  | 0 => h
  | k + 1 => 31 * dgA m h k + (nI (alD m k)).toInt64
noncomputable def dgF (m : Nat → Nat) (h : Int64) : Int64 := 31 * (31 * h + (nI (ivl m).length).toInt64) + (nI (sil m).length).toInt64
noncomputable def dgD (s : ast) : Int64 := dgF s.1 (dgA s.1 (dgG s.1 (dgS s.1 (dgP s.1 (dgT s 9) (s.1 0)) (s.1 1)) (s.1 200)) 4)
noncomputable def o_digest (s : ast) : Int64 × ast := (dgD s, s)
theorem w_digest {s : ast} (h : sw s) : sw (o_digest s).2 := h
theorem okr_nI {n : Nat} {a b : Int} (hn : n < 2 ^ 31) (ha : a ≤ n) (hb : (n : Int) ≤ b) : okr (nI n) a b = true := by
  unfold okr
  rw [nI_toInt (by omega), decide_eq_true ha, decide_eq_true hb]
  rfl
theorem tn_nI {n : Nat} (hn : n < 2 ^ 31) : tn (nI n) = n := by
  unfold tn
  rw [nI_toInt (by omega)]
  rfl
section DIG
variable {I I0 : Nat → Nat → Int32} {L L0 : Nat → Nat → Int64} {q r1 r2 : Nat → Nat} {w : Bool} {s : ast} {K : km_K} {m : Nat → Nat}
/-- a call of the class within a call -/
theorem x_go {mid : Nat} {as : List Value} {r : Int32 × ast} {u : Int32} (h : kC sh kp mid as (I, L, kr q w r1 r2) (cT r I L)) (hr : r = (u, s)) (hf : fM I0 L0 I L) (k : ∀ I2 L2 q2 w2 r12 r22, cI I2 L2 q2 w2 r12 r22 s → fM I0 L0 I2 L2 → K (some (.int u)) (I2, L2, kr q2 w2 r12 r22)) : kC sh kp mid as (I, L, kr q w r1 r2) K := by
  rw [hr] at h
  refine kC_mono h fun v M1 hv => ?_
  obtain ⟨I2, L2, q2, w2, r12, r22, rfl, rfl, g1, g2⟩ := hv
  exact k I2 L2 q2 w2 r12 r22 g1 (fM_trans hf g2)
theorem y_go {mid : Nat} {as : List Value} {r : Int32 × ast} {u : Int32} (h : kC sh kp mid as (I, L, kr q w r1 r2) (mT r I L (kr q w r1 r2))) (hr : r = (u, s)) (hf : fX I0 L0 I L) (k : ∀ I2 L2, mI I2 s → fX I0 L0 I2 L2 → K (some (.int u)) (I2, L2, kr q w r1 r2)) : kC sh kp mid as (I, L, kr q w r1 r2) K := by
  rw [hr] at h
  refine kC_mono h fun v M1 hv => ?_
  obtain ⟨I2, L2, rfl, rfl, g1, g2⟩ := hv
  exact k I2 L2 g1 (fX_trans hf g2)
theorem o_told_k {k : Nat} (hk : k ≤ 8) : o_told (nI k) s = (tld s k, s) := by
  unfold o_told
  rw [okr_nI (by omega) (by omega) (by omega), tn_nI (by omega)]
  rfl
theorem o_of_n {p y : Nat} (hp : p < s.1 0) (hw : s.1 0 ≤ 10) (hy : y ≤ 5) : o_of (nI p) (nI y) s = (ofD s.1 p y, s) := by
  unfold o_of
  rw [okr_nI (by omega) (by omega) (by omega), okr_nI (by omega) (by omega) (by omega), tn_nI (by omega), tn_nI (by omega)]
  rfl
theorem o_stepOf_n {t y : Nat} (ht : t < s.1 1) (hw : s.1 1 ≤ 8) (hy : y ≤ 2) : o_stepOf (nI t) (nI y) s = (nI (stpO s.1 t y), s) := by
  unfold o_stepOf
  rw [okr_nI (by omega) (by omega) (by omega), okr_nI (by omega) (by omega) (by omega), tn_nI (by omega), tn_nI (by omega)]
  rfl
theorem o_guardOf_n {g y : Nat} (hg : g < s.1 200) (hw : s.1 200 ≤ 5) (hy : y ≤ 4) : o_guardOf (nI g) (nI y) s = (nI (gdL s.1 (gl0 s.1 g) g y), s) := by
  unfold o_guardOf
  rw [okr_nI (by omega) (by omega) (by omega), okr_nI (by omega) (by omega) (by omega), tn_nI (by omega), tn_nI (by omega)]
  rfl
theorem o_all_n {y : Nat} (hy : y ≤ 5) : o_all (nI y) s = (nI (alD s.1 y), s) := by
  unfold o_all
  rw [okr_nI (by omega) (by omega) (by omega), tn_nI (by omega)]
  rfl
theorem gdL_0 {l : sst} {g : Nat} : gdL m l g 0 = m (201 + g) := rfl
theorem gdL_1 {l : sst} {g : Nat} : gdL m l g 1 = m (206 + g) := rfl
theorem ofL_0 {l : sst} {b p : Nat} : ofL m l b p 0 = nI (m (2 + p)) := rfl
theorem ofL_1 {l : sst} {b p : Nat} : ofL m l b p 1 = nI (m (22 + p)) := rfl
theorem ofL_2 {l : sst} {b p : Nat} : ofL m l b p 2 = nI (m (12 + p)) := rfl
/-- a loop at a head, over any memory that holds the state -/
def xH (s : ast) (I0 : Nat → Nat → Int32) (L0 : Nat → Nat → Int64) (Q : km_M → Prop) : Prop := ∀ I L q w r1 r2, cI I L q w r1 r2 s → fM I0 L0 I L → Q (I, L, kr q w r1 r2)
theorem x_dg5 {h : Int64} (hs : sw s) (hK : xH s I0 L0 fun M => K (some (.long (dgF s.1 h))) M) : xH s I0 L0 fun M => kW sh kp 36 202 [some (.ref 0), some (.long h), none, none, none] [] M K := fun I L q w r1 r2 hc hf =>
  bX_digest_202 (x_go (x_sums hs hc) rfl hf fun I2 L2 q2 w2 r12 r22 g1 g2 => bX_digest_211 (x_go (x_stucks x_analyse hs g1) rfl g2 fun I3 L3 q3 w3 r13 r23 j1 j2 => bX_digest_223 (hK _ _ _ _ _ _ j1 j2)))
theorem x_dg4 {h : Int64} (hs : sw s) (hK : xH s I0 L0 fun M => kW sh kp 36 202 [some (.ref 0), some (.long (dgA s.1 h 4)), none, none, none] [] M K) : xH s I0 L0 fun M => kW sh kp 36 176 [some (.ref 0), some (.long h), none, none, none] [] M K := fun I L q w r1 r2 hc hf => by
  refine bX_digest_176 (up0 (Pr := fun k => xH s I0 L0 fun M => kW sh kp 36 178 [some (.ref 0), some (.long (dgA s.1 h k)), none, some (.int (nI k)), none] [] M K) (e := 4) (fun I L q w r1 r2 hc hf => ?_) (fun k hk ih I L q w r1 r2 hc hf => ?_) I L q w r1 r2 hc hf)
  · exact bX_digest_178 (pk_lt 3 4 (fun _ => hK _ _ _ _ _ _ hc hf) (fun y => absurd y (by omega)))
  · refine bX_digest_178 (pk_lt 3 k (fun y => absurd y (by omega)) (fun _ => bX_digest_183 (x_go (x_all hs hc) (o_all_n (by omega)) hf fun I2 L2 q2 w2 r12 r22 g1 g2 => bX_digest_193 ?_)))
    rw [nI_1]
    exact ih I2 L2 q2 w2 r12 r22 g1 g2
theorem x_dg3 {h : Int64} (hs : sw s) (hK : xH s I0 L0 fun M => kW sh kp 36 176 [some (.ref 0), some (.long (dgG s.1 h (s.1 200))), none, none, none] [] M K) : xH s I0 L0 fun M => kW sh kp 36 129 [some (.ref 0), some (.long h), none, none, none] [] M K := fun I L q w r1 r2 hc hf => by
  have w2 := hs.1.1.2.2.1
  refine bX_digest_129 (up0 (Pr := fun k => xH s I0 L0 fun M => kW sh kp 36 131 [some (.ref 0), some (.long (dgG s.1 h k)), none, some (.int (nI k)), none] [] M K) (e := s.1 200) (fun I L q w r1 r2 hc hf => ?_) (fun k hk ih I L q w r1 r2 hc hf => ?_) I L q w r1 r2 hc hf)
  · refine bX_digest_131 ?_
    rw [hc.1.2.2.1]
    exact pk_le (s.1 200) (s.1 200) (fun _ => hK _ _ _ _ _ _ hc hf) (fun y => absurd y (by omega))
  · refine bX_digest_131 ?_
    rw [hc.1.2.2.1]
    have e0 : o_guardOf (nI k) 0 s = (nI (s.1 (201 + k)), s) := (o_guardOf_n (y := 0) hk w2 (by decide)).trans (by rw [gdL_0])
    have e1 : o_guardOf (nI k) 1 s = (nI (s.1 (206 + k)), s) := (o_guardOf_n (y := 1) hk w2 (by decide)).trans (by rw [gdL_1])
    refine pk_le (s.1 200) k (fun y => absurd y (by omega)) (fun _ => bX_digest_142 (x_go (x_guardOf hs hc) e0 hf fun I2 L2 q2 w2 r12 r22 g1 g2 => bX_digest_153 (x_go (x_guardOf hs g1) e1 g2 fun I3 L3 q3 w3 r13 r23 j1 j2 => bX_digest_167 ?_)))
    rw [nI_1]
    exact ih I3 L3 q3 w3 r13 r23 j1 j2
theorem x_dg2 {h : Int64} (hs : sw s) (hK : xH s I0 L0 fun M => kW sh kp 36 129 [some (.ref 0), some (.long (dgS s.1 h (s.1 1))), none, none, none] [] M K) : xH s I0 L0 fun M => kW sh kp 36 80 [some (.ref 0), some (.long h), none, none, none] [] M K := fun I L q w r1 r2 hc hf => by
  have w1 := hs.1.1.2.1
  refine bX_digest_80 (up0 (Pr := fun k => xH s I0 L0 fun M => kW sh kp 36 82 [some (.ref 0), some (.long (dgS s.1 h k)), none, some (.int (nI k)), none] [] M K) (e := s.1 1) (fun I L q w r1 r2 hc hf => ?_) (fun k hk ih I L q w r1 r2 hc hf => ?_) I L q w r1 r2 hc hf)
  · refine bX_digest_82 ?_
    rw [hc.1.2.1]
    exact pk_le (s.1 1) (s.1 1) (fun _ => hK _ _ _ _ _ _ hc hf) (fun y => absurd y (by omega))
  · refine bX_digest_82 ?_
    rw [hc.1.2.1]
    have one : ∀ (y : Nat) (v : Int64), y ≤ 2 → (xH s I0 L0 fun M => kW sh kp 36 96 [some (.ref 0), some (.long (31 * v + (nI (stpO s.1 k y)).toInt64)), none, some (.int (nI k)), some (.int (nI (y + 1)))] [] M K) → xH s I0 L0 fun M => kW sh kp 36 96 [some (.ref 0), some (.long v), none, some (.int (nI k)), some (.int (nI y))] [] M K := fun y v hy hk2 I L q w r1 r2 hc hf => by
      refine bX_digest_96 (pk_lt 2 y (fun z => absurd z (by omega)) (fun _ => bX_digest_102 (x_go (x_stepOf hs hc) (o_stepOf_n hk w1 hy) hf fun I2 L2 q2 w2 r12 r22 g1 g2 => bX_digest_114 ?_)))
      rw [nI_1]
      exact hk2 I2 L2 q2 w2 r12 r22 g1 g2
    refine pk_le (s.1 1) k (fun y => absurd y (by omega)) (fun _ => bX_digest_93 (one 0 _ (by decide) (one 1 _ (by decide) (one 2 _ (by decide) fun I L q w r1 r2 hc hf => bX_digest_96 (pk_lt 2 3 (fun _ => bX_digest_123 ?_) (fun y => absurd y (by omega))))) I L q w r1 r2 hc hf))
    rw [nI_1]
    exact ih I L q w r1 r2 hc hf
theorem x_dg1 {h : Int64} (hs : sw s) (hK : xH s I0 L0 fun M => kW sh kp 36 80 [some (.ref 0), some (.long (dgP s.1 h (s.1 0))), none, none, none] [] M K) : xH s I0 L0 fun M => kW sh kp 36 31 [some (.ref 0), some (.long h), none, none, none] [] M K := fun I L q w r1 r2 hc hf => by
  have w0 := hs.1.1.1
  refine bX_digest_31 (up0 (Pr := fun k => xH s I0 L0 fun M => kW sh kp 36 33 [some (.ref 0), some (.long (dgP s.1 h k)), none, some (.int (nI k)), none] [] M K) (e := s.1 0) (fun I L q w r1 r2 hc hf => ?_) (fun k hk ih I L q w r1 r2 hc hf => ?_) I L q w r1 r2 hc hf)
  · refine bX_digest_33 ?_
    rw [hc.1.1]
    exact pk_le (s.1 0) (s.1 0) (fun _ => hK _ _ _ _ _ _ hc hf) (fun y => absurd y (by omega))
  · refine bX_digest_33 ?_
    rw [hc.1.1]
    have one : ∀ (y : Nat) (v : Int64) (u : Int32), y ≤ 2 → ofD s.1 k y = u → (xH s I0 L0 fun M => kW sh kp 36 47 [some (.ref 0), some (.long (31 * v + u.toInt64)), none, some (.int (nI k)), some (.int (nI (y + 1)))] [] M K) → xH s I0 L0 fun M => kW sh kp 36 47 [some (.ref 0), some (.long v), none, some (.int (nI k)), some (.int (nI y))] [] M K := fun y v u hy hu hk2 I L q w r1 r2 hc hf => by
      refine bX_digest_47 (pk_lt 2 y (fun z => absurd z (by omega)) (fun _ => bX_digest_53 (x_go (x_of hs hc) ((o_of_n hk w0 (by omega)).trans (by rw [hu])) hf fun I2 L2 q2 w2 r12 r22 g1 g2 => bX_digest_65 ?_)))
      rw [nI_1]
      exact hk2 I2 L2 q2 w2 r12 r22 g1 g2
    refine pk_le (s.1 0) k (fun y => absurd y (by omega)) (fun _ => bX_digest_44 (one 0 _ _ (by decide) ofL_0 (one 1 _ _ (by decide) ofL_1 (one 2 _ _ (by decide) ofL_2 fun I L q w r1 r2 hc hf => bX_digest_47 (pk_lt 2 3 (fun _ => bX_digest_74 ?_) (fun y => absurd y (by omega))))) I L q w r1 r2 hc hf))
    rw [nI_1]
    exact ih I L q w r1 r2 hc hf
theorem x_digest (hs : sw s) (hc : cI I L q w r1 r2 s) : kC sh kp 36 [.ref 0] (I, L, kr q w r1 r2) (cTL (o_digest s) I L) := by
  have hK : xH s I L fun M => cTL (o_digest s) I L (some (.long (dgD s))) M := fun I2 L2 q2 w2 r12 r22 g1 g2 => cP_mk g1 g2
  refine ⟨rfl, bX_digest_0 (up0 (Pr := fun k => xH s I L fun M => kW sh kp 36 6 [some (.ref 0), some (.long (dgT s k)), none, some (.int (nI k)), none] [] M (cTL (o_digest s) I L)) (e := 9) (fun I2 L2 q2 w2 r12 r22 g1 g2 => ?_) (fun k hk ih I2 L2 q2 w2 r12 r22 g1 g2 => ?_) I L q w r1 r2 hc fM_refl)⟩
  · exact bX_digest_6 (pk_lt 8 9 (fun _ => x_dg1 hs (x_dg2 hs (x_dg3 hs (x_dg4 hs (x_dg5 hs hK)))) I2 L2 q2 w2 r12 r22 g1 g2) (fun y => absurd y (by omega)))
  · refine bX_digest_6 (pk_lt 8 k (fun y => absurd y (by omega)) (fun _ => bX_digest_12 (x_go (x_told hs g1) (o_told_k (by omega)) g2 fun I3 L3 q3 w3 r13 r23 j1 j2 => bX_digest_22 ?_)))
    rw [nI_1]
    exact ih I3 L3 q3 w3 r13 r23 j1 j2
/-- the reference's -/
theorem y_digest (hs : sw s) (hc : mI I s) : kC sh kp 158 [.ref 71] (I, L, kr q w r1 r2) (mTL (o_digest s) I L (kr q w r1 r2)) := by
  have w0 := hs.1.1.1
  have w1 := hs.1.1.2.1
  have w2 := hs.1.1.2.2.1
  have n0 := hc.1
  have d5 : ∀ h : Int64, dgF s.1 h = dgD s → ∀ I1 L1, mI I1 s → fX I L I1 L1 → kW sh kp 158 231 [some (.ref 71), some (.long h), none, none] [] (I1, L1, kr q w r1 r2) (mTL (o_digest s) I L (kr q w r1 r2)) := fun h e I1 L1 c1 f1 => by
    refine bM_digest_231 (m_laySums c1.1 hs.1.1 fun I2 L2 g1 g2 g3 => bM_digest_235 ?_)
    have M2 := mI_U c1 g1 g2
    refine m_layStucks M2.1.1 hs.1.1 fun I3 j1 j2 j3 j4 => bM_digest_239 ?_
    have M3 := mI_Z (L := L2) M2.1 j1
    rw [j1 71 16 (by omega) (fun _ => by decide), g3.1, j3]
    have : (31 * (31 * h + (nI (ivl s.1).length).toInt64) + (nI (sil s.1).length).toInt64) = dgD s := e
    rw [this]
    exact mP_mk M3.1 (fX_trans (fX_trans f1 M2.2) M3.2)
  have d4 : ∀ h : Int64, dgF s.1 (dgA s.1 h 4) = dgD s → ∀ I1 L1, mI I1 s → fX I L I1 L1 → kW sh kp 158 205 [some (.ref 71), some (.long h), none, none] [] (I1, L1, kr q w r1 r2) (mTL (o_digest s) I L (kr q w r1 r2)) := fun h e I1 L1 c1 f1 => by
    refine bM_digest_205 (up0 (Pr := fun k => ∀ I1 L1, mI I1 s → fX I L I1 L1 → kW sh kp 158 207 [some (.ref 71), some (.long (dgA s.1 h k)), none, some (.int (nI k))] [] (I1, L1, kr q w r1 r2) (mTL (o_digest s) I L (kr q w r1 r2))) (e := 4) (fun I2 L2 c2 f2 => ?_) (fun k hk ih I2 L2 c2 f2 => ?_) I1 L1 c1 f1)
    · exact bM_digest_207 (pk_lt 3 4 (fun _ => d5 _ e I2 L2 c2 f2) (fun y => absurd y (by omega)))
    · refine bM_digest_207 (pk_lt 3 k (fun y => absurd y (by omega)) (fun _ => bM_digest_212 (y_allIs (by omega) hs c2 fun I3 L3 j1 j2 => bM_digest_222 ?_)))
      rw [nI_1]
      exact ih I3 L3 j1 (fX_trans f2 j2)
  have d3 : ∀ h : Int64, dgF s.1 (dgA s.1 (dgG s.1 h (s.1 200)) 4) = dgD s → kW sh kp 158 151 [some (.ref 71), some (.long h), none, none] [] (I, L, kr q w r1 r2) (mTL (o_digest s) I L (kr q w r1 r2)) := fun h e => by
    refine bM_digest_151 (up0 (Pr := fun k => kW sh kp 158 153 [some (.ref 71), some (.long (dgG s.1 h k)), none, some (.int (nI k))] [] (I, L, kr q w r1 r2) (mTL (o_digest s) I L (kr q w r1 r2))) (e := s.1 200) ?_ (fun k hk ih => ?_))
    · refine bM_digest_153 ⟨pk_in 200 212 (by decide), ?_⟩
      rw [show (200 : Int32).toNatClampNeg = 200 from by decide +kernel, n0 200 (by decide)]
      exact pk_le (s.1 200) (s.1 200) (fun _ => d4 _ e I L hc fX_refl) (fun y => absurd y (by omega))
    · refine bM_digest_153 ⟨pk_in 200 212 (by decide), ?_⟩
      rw [show (200 : Int32).toNatClampNeg = 200 from by decide +kernel, n0 200 (by decide)]
      refine pk_le (s.1 200) k (fun y => absurd y (by omega)) (fun _ => bM_digest_165 ?_)
      rw [fa_lit 201, fa_lit 206, nI_add, nI_add, nI_clamp (show 201 + k < 2 ^ 31 by omega), nI_clamp (show 206 + k < 2 ^ 31 by omega), n0 _ (by omega), n0 _ (by omega), nI_1]
      exact ⟨vp_in_nI (by omega) (by decide), vp_in_nI (by omega) (by decide), ih⟩
  have d2 : ∀ h : Int64, dgF s.1 (dgA s.1 (dgG s.1 (dgS s.1 h (s.1 1)) (s.1 200)) 4) = dgD s → kW sh kp 158 95 [some (.ref 71), some (.long h), none, none] [] (I, L, kr q w r1 r2) (mTL (o_digest s) I L (kr q w r1 r2)) := fun h e => by
    refine bM_digest_95 (up0 (Pr := fun k => kW sh kp 158 97 [some (.ref 71), some (.long (dgS s.1 h k)), none, some (.int (nI k))] [] (I, L, kr q w r1 r2) (mTL (o_digest s) I L (kr q w r1 r2))) (e := s.1 1) ?_ (fun k hk ih => ?_))
    · refine bM_digest_97 ⟨pk_in 1 212 (by decide), ?_⟩
      rw [cl1, n0 1 (by decide)]
      exact pk_le (s.1 1) (s.1 1) (fun _ => d3 _ e) (fun y => absurd y (by omega))
    · refine bM_digest_97 ⟨pk_in 1 212 (by decide), ?_⟩
      rw [cl1, n0 1 (by decide)]
      refine pk_le (s.1 1) k (fun y => absurd y (by omega)) (fun _ => bM_digest_107 (m_stepIs (y := 0) hs.1.1 n0 (by omega) (by decide) (bM_digest_124 (m_stepIs (y := 1) hs.1.1 n0 (by omega) (by decide) (bM_digest_133 (m_stepIs (y := 2) hs.1.1 n0 (by omega) (by decide) (bM_digest_142 ?_)))))))
      rw [nI_1]
      exact ih
  have d1 : ∀ h : Int64, dgF s.1 (dgA s.1 (dgG s.1 (dgS s.1 (dgP s.1 h (s.1 0)) (s.1 1)) (s.1 200)) 4) = dgD s → kW sh kp 158 31 [some (.ref 71), some (.long h), none, none] [] (I, L, kr q w r1 r2) (mTL (o_digest s) I L (kr q w r1 r2)) := fun h e => by
    refine bM_digest_31 (up0 (Pr := fun k => kW sh kp 158 33 [some (.ref 71), some (.long (dgP s.1 h k)), none, some (.int (nI k))] [] (I, L, kr q w r1 r2) (mTL (o_digest s) I L (kr q w r1 r2))) (e := s.1 0) ?_ (fun k hk ih => ?_))
    · refine bM_digest_33 ⟨pk_in 0 212 (by decide), ?_⟩
      rw [cl0, n0 0 (by decide)]
      exact pk_le (s.1 0) (s.1 0) (fun _ => d2 _ e) (fun y => absurd y (by omega))
    · refine bM_digest_33 ⟨pk_in 0 212 (by decide), ?_⟩
      rw [cl0, n0 0 (by decide)]
      refine pk_le (s.1 0) k (fun y => absurd y (by omega)) (fun _ => bM_digest_43 ?_)
      rw [fa_lit 2, fa_lit 22, fa_lit 12, nI_add, nI_add, nI_add, nI_clamp (show 2 + k < 2 ^ 31 by omega), nI_clamp (show 22 + k < 2 ^ 31 by omega), nI_clamp (show 12 + k < 2 ^ 31 by omega), n0 _ (by omega), n0 _ (by omega), n0 _ (by omega), nI_1]
      exact ⟨vp_in_nI (by omega) (by decide), vp_in_nI (by omega) (by decide), vp_in_nI (by omega) (by decide), ih⟩
  refine ⟨rfl, bM_digest_0 (up0 (Pr := fun k => kW sh kp 158 6 [some (.ref 71), some (.long (dgT s k)), none, some (.int (nI k))] [] (I, L, kr q w r1 r2) (mTL (o_digest s) I L (kr q w r1 r2))) (e := 9) ?_ (fun k hk ih => ?_))⟩
  · exact bM_digest_6 (pk_lt 8 9 (fun _ => d1 _ rfl) (fun y => absurd y (by omega)))
  · refine bM_digest_6 (pk_lt 8 k (fun y => absurd y (by omega)) (fun _ => bM_digest_12 (m_toldOf (by omega) hc (bM_digest_22 ?_))))
    rw [nI_1]
    exact ih
end DIG
