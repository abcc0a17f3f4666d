/-! SUMS: the reference lays all sums; sums, sum, value on its side -/
noncomputable def ivp (m : Nat → Nat) (n : Nat) : List Nat := (List.range n).filter (fun S => @decide (isv m S) (Classical.propDecidable _))
theorem ivp_ivl {m : Nat → Nat} : ivp m (2 ^ m 0) = ivl m := rfl
theorem ivp_t {m : Nat → Nat} {n : Nat} (h : isv m n) : ivp m (n + 1) = ivp m n ++ [n] := by
  unfold ivp
  rw [List.range_succ, List.filter_append, List.filter_cons_of_pos (p := fun S => @decide (isv m S) (Classical.propDecidable _)) (@decide_eq_true _ (Classical.propDecidable _) h), List.filter_nil]
theorem ivp_f {m : Nat → Nat} {n : Nat} (h : ¬ isv m n) : ivp m (n + 1) = ivp m n := by
  unfold ivp
  rw [List.range_succ, List.filter_append, List.filter_cons_of_neg (p := fun S => @decide (isv m S) (Classical.propDecidable _)) (fun c => h (@of_decide_eq_true _ (Classical.propDecidable _) c)), List.filter_nil, List.append_nil]
theorem ivp_1 {m : Nat → Nat} (hw : m 0 ≤ 10) : ivp m 1 = [] := by
  refine ivp_f (n := 0) ?_
  rintro ⟨x, hx, hs⟩
  obtain ⟨p, hp⟩ := hx.2.2.1
  have := (spt_tb (x := x) (fun p hp => hx.1 p (by omega)) p).mpr hp
  rw [hs, Nat.zero_testBit] at this
  exact absurd this (by decide)
theorem ivp_mem {m : Nat → Nat} {n S : Nat} (h : S ∈ ivp m n) : S < n ∧ isv m S := by
  unfold ivp at h
  have := List.mem_filter.mp h
  exact ⟨List.mem_range.mp this.1, @of_decide_eq_true _ (Classical.propDecidable _) this.2⟩
theorem ivp_at {m : Nat → Nat} {n k : Nat} (h : k < (ivp m n).length) : (ivp m n).getD k 0 < n ∧ isv m ((ivp m n).getD k 0) := ivp_mem (getD_mem h)
theorem ivp_len {m : Nat → Nat} {n : Nat} (hw : wb m) : (ivp m n).length ≤ 64 := by
  refine ray_count (t := m 1) hw hw.2.1 (u := fun i => ivw m ((ivp m n).getD i 0)) (fun i hi => (isv_w hw (ivp_at hi).2).1) fun i j hi hj e => ?_
  have h1 := (isv_w hw (ivp_at hi).2).2.1
  have h2 := (isv_w hw (ivp_at hj).2).2.1
  have e3 : (ivp m n).getD i 0 = (ivp m n).getD j 0 := by
    rw [← h1, ← h2]
    exact congrArg spt e
  have nd : (ivp m n).Nodup := List.nodup_range.filter _
  rw [List.getD_eq_getElem?_getD, List.getD_eq_getElem?_getD, List.getElem?_eq_getElem hi, List.getElem?_eq_getElem hj] at e3
  have e3 : (ivp m n)[i] = (ivp m n)[j] := e3
  exact (List.getElem_inj nd).mp e3
/-- all sums laid -/
def rSl (I : Nat → Nat → Int32) (m : Nat → Nat) (l : List Nat) : Prop := I 71 16 = nI l.length ∧ lsI I 81 l ∧ ∀ k p, k < l.length → p < 10 → I 82 (10 * k + p) = nI (ivw m (l.getD k 0) p)
def rSm (I : Nat → Nat → Int32) (m : Nat → Nat) : Prop := rSl I m (ivl m)
def fU (I I' : Nat → Nat → Int32) : Prop := ∀ a k, a ≠ 79 → a ≠ 81 → a ≠ 82 → (a = 71 → k ≠ 16) → I' a k = I a k
def fUL (L L' : Nat → Nat → Int64) : Prop := ∀ a k, a ≠ 78 → a ≠ 80 → L' a k = L a k
theorem nN_U {I I' : Nat → Nat → Int32} {m : Nat → Nat} (h : nN I m) (f : fU I I') : nN I' m := fun k hk => (f 72 k (by decide) (by decide) (by decide) (fun e => absurd e (by decide))).trans (h k hk)
section LAY
variable {I : Nat → Nat → Int32} {L : Nat → Nat → Int64} {q r1 r2 : Nat → Nat} {w : Bool} {K : km_K} {m : Nat → Nat} {s : ast}
theorem mI_U {I' : Nat → Nat → Int32} {L' : Nat → Nat → Int64} (hc : mI I s) (f : fU I I') (g : fUL L L') : mI I' s ∧ fX I L I' L' := ⟨mI_fr (s := s) (m := s.1) hc (fun a k z1 z2 => f a k (by omega) (by omega) (by omega) (fun e => by have := z1 e; omega)) (nN_U hc.1 f), fun a k z => f a k (by omega) (by omega) (by omega) (fun e => absurd e (by omega)), fun a k z => g a k (by omega) (by omega)⟩
theorem m_laySums (hn : nN I m) (hw : wb m) (h : ∀ I' L', fU I I' → fUL L L' → rSm I' m → K none (I', L', kr q w r1 r2)) : kC sh kp 109 [.ref 71] (I, L, kr q w r1 r2) K := by
  have w0 := hw.1
  have p2 := p2_le w0
  have u0 : fU I (km_up I 71 16 0) := fun a k _ _ _ z => by
    by_cases e : a = 71
    · exact up_k (z e)
    · exact up_a e
  refine ⟨rfl, bM_laySums_0 ?_⟩
  have key := up0 (Pr := fun i => ∀ I' L', fU I I' → fUL L L' → rSl I' m (ivp m (1 + i)) → kW sh kp 109 7 [some (.ref 71), some (.int (nI (1 + i))), none] [] (I', L', kr q w r1 r2) K) (e := 2 ^ m 0 - 1) (fun I' L' f1 f2 f3 => ?_) (fun i hi ih I' L' f1 f2 f3 => ?_) (km_up I 71 16 0) L u0 (fun _ _ _ _ => rfl) ⟨by rw [up_s, ivp_1 w0]; rfl, fun k hk => absurd hk (by rw [ivp_1 w0]; show ¬ k < 0; omega), fun k p hk => absurd hk (by rw [ivp_1 w0]; show ¬ k < 0; omega)⟩
  · exact key
  · refine bM_laySums_7 (m_placesSet (nN_U hn f1) w0 (bM_laySums_12 (pk_lt (2 ^ m 0 - 1) (1 + (2 ^ m 0 - 1)) (fun _ => bM_laySums_84 (h I' L' f1 f2 ?_)) (fun y => absurd y (by omega)))))
    have e : 1 + (2 ^ m 0 - 1) = 2 ^ m 0 := by omega
    rw [e, ivp_ivl] at f3
    exact f3
  · have n1 := nN_U hn f1
    have fv : ∀ I2, fPv I' I2 → fU I I2 := fun I2 g a k z1 z2 z3 z4 => (g a k z1).trans (f1 a k z1 z2 z3 z4)
    have rv : ∀ I2, fPv I' I2 → rSl I2 m (ivp m (1 + i)) := fun I2 g => ⟨(g 71 16 (by decide)).trans f3.1, fun k hk => (g 81 k (by decide)).trans (f3.2.1 k hk), fun k p hk hp => (g 82 _ (by decide)).trans (f3.2.2 k p hk hp)⟩
    refine bM_laySums_7 (m_placesSet n1 w0 (bM_laySums_12 (pk_lt (2 ^ m 0 - 1) (1 + i) (fun y => absurd y (by omega)) (fun _ => bM_laySums_15 (m_isSum n1 hw (by omega) (fun I2 L2 g1 g2 g3 => bM_laySums_20 ⟨fun _ => bM_laySums_78 ?_, fun y => absurd rfl y⟩) (fun I2 L2 g1 g2 g3 g4 => bM_laySums_20 ⟨fun y => absurd y (by decide), fun _ => bM_laySums_23 ?_⟩))))))
    · have e : ivp m (1 + i + 1) = ivp m (1 + i) := ivp_f g3
      rw [nI_1]
      refine ih I2 L2 (fv I2 g1) (fun a k z1 z2 => (g2 a k z1 z2).trans (f2 a k z1 z2)) ?_
      have r := rv I2 g1
      rw [← e] at r
      exact r
    · have e : ivp m (1 + i + 1) = ivp m (1 + i) ++ [1 + i] := ivp_t g3
      have l64 := ivp_len (m := m) (n := 1 + i + 1) hw
      have ih' := ih
      have r := rv I2 g1
      rw [e, List.length_append] at l64
      have l64 : (ivp m (1 + i)).length + 1 ≤ 64 := l64
      have e2 : ivp m (1 + (i + 1)) = ivp m (1 + i) ++ [1 + i] := e
      rw [e2] at ih'
      have len : (ivp m (1 + i) ++ [1 + i]).length = (ivp m (1 + i)).length + 1 := List.length_append
      rw [r.1, nI_clamp (by omega)]
      refine ⟨vp_in_nI (by omega) (by decide), ?_⟩
      generalize ivp m (1 + i) = l at ih' r l64 len
      refine up0 (Pr := fun p => ∀ I3, (∀ a k, a ≠ 82 → I3 a k = km_up I2 81 l.length (nI (1 + i)) a k) → (∀ k j, k < l.length → j < 10 → I3 82 (10 * k + j) = nI (ivw m (l.getD k 0) j)) → (∀ j, j < p → I3 82 (10 * l.length + j) = nI (ivw m (1 + i) j)) → kW sh kp 109 35 [some (.ref 71), some (.int (nI (1 + i))), some (.int (nI p))] [] (I3, L2, kr q w r1 r2) K) (e := 10) (fun I3 j1 j2 j3 => ?_) (fun p hp ih3 I3 j1 j2 j3 => ?_) _ (fun _ _ _ => rfl) (fun k j hk hj => by rw [up_a (by decide)]; exact r.2.2 k j hk hj) (fun j hj => absurd hj (by omega))
      · refine bM_laySums_35 (pk_le 10 10 (fun _ => bM_laySums_68 (bM_laySums_78 ?_)) (fun y => absurd y (by omega)))
        rw [j1 71 16 (by decide), up_a (by decide), r.1, nI_1, nI_1]
        refine ih' _ L2 (fun a k z1 z2 z3 z4 => ?_) (fun a k z1 z2 => (g2 a k z1 z2).trans (f2 a k z1 z2)) ⟨by rw [up_s, len], ?_, fun k p hk hp => ?_⟩
        · have : km_up I3 71 16 (nI (l.length + 1)) a k = I3 a k := by
            by_cases e : a = 71
            · exact up_k (z4 e)
            · exact up_a e
          rw [this, j1 a k z3, up_a z2]
          exact fv I2 g1 a k z1 z2 z3 z4
        · refine lsI_fr (lsI_snoc r.2.1) fun k => ?_
          rw [up_a (by decide), j1 81 k (by decide)]
        · rw [up_a (by decide)]
          rw [len] at hk
          by_cases ek : k = l.length
          · rw [ek, j3 p hp, List.getD_eq_getElem?_getD, List.getElem?_append_right (Nat.le_refl _), Nat.sub_self]
            rfl
          · rw [j2 k p (by omega) hp, List.getD_eq_getElem?_getD, List.getD_eq_getElem?_getD, List.getElem?_append_left (by omega)]
      · refine bM_laySums_35 (pk_le 10 p (fun y => absurd y (by omega)) (fun _ => bM_laySums_41 ?_))
        rw [j1 71 16 (by decide), up_a (by decide), r.1, ix_r, nI_clamp (by omega), nI_clamp (by omega), nI_1, g4 p hp, lN_i]
        refine ⟨vp_in_nI hp (by decide), vp_in_nI (by omega) (by decide), ih3 _ (fun a k z => by rw [up_a z]; exact j1 a k z) (fun k j hk hj => by rw [up_k (by omega)]; exact j2 k j hk hj) (fun j hj => ?_)⟩
        by_cases e : j = p
        · rw [e, up_s]
        · rw [up_k (by omega)]
          exact j3 j (by omega)
theorem y_sums (hs : sw s) (hc' : mI I s) : kC sh kp 110 [.ref 71] (I, L, kr q w r1 r2) (mT (o_sums s) I L (kr q w r1 r2)) := by
  refine ⟨rfl, bM_sums_0 (m_laySums hc'.1 hs.1.1 fun I' L' g1 g2 g3 => bM_sums_4 ?_)⟩
  rw [g3.1]
  exact mP_mk (mI_U hc' g1 g2).1 (mI_U hc' g1 g2).2
theorem y_sum {x y : Int32} (hs : sw s) (hc' : mI I s) : kC sh kp 111 [.ref 71, .int x, .int y] (I, L, kr q w r1 r2) (mT (o_sum x y s) I L (kr q w r1 r2)) := by
  have w0 := hs.1.1.1
  have l64 : (ivl s.1).length ≤ 64 := ivp_len hs.1.1
  have bad : (okr x 0 2147483647 && okr y 0 ((s.1 0 : Int) - 1)) = false → kW sh kp 111 12 [some (.ref 71), none, none] [] (I, L, kr q w r1 r2) (mT (o_sum x y s) I L (kr q w r1 r2)) := fun e => bM_sum_12 (mm_bad hc' fun I' g1 g2 => bM_sum_16 (by
    unfold o_sum
    rw [e]
    exact mP_mk g1 g2))
  refine ⟨rfl, bM_sum_0 (neg0 (fun e1 => bM_sum_4 (mm_isPlace w0 hc'.1 (bM_sum_9 (cb1 (fun e2 => ?_) (fun e2 => bad (by rw [e1, e2]; rfl)))))) (fun e1 => bad (by rw [e1]; rfl)))⟩
  unfold o_sum
  rw [e1, e2, Bool.and_self, cond_true]
  obtain ⟨n, rfl, hn, b1, b2⟩ := okr_e e1 (by decide)
  obtain ⟨v, rfl, hv, b3, b4⟩ := okr_e e2 (by decide)
  rw [hn, hv]
  refine bM_sum_17 (m_laySums hc'.1 hs.1.1 fun I' L' g1 g2 g3 => bM_sum_21 ?_)
  have M1 := mI_U hc' g1 g2
  rw [g3.1]
  refine pk_le (ivl s.1).length n (fun z => bM_sum_43 (bM_sum_44 ?_)) (fun z => bM_sum_29 ?_)
  · rw [if_neg (by omega)]
    exact mP_mk M1.1 M1.2
  · rw [if_pos z, ix_r, nI_clamp (by omega), g3.2.2 n v z (by omega)]
    exact ⟨vp_in_nI (by omega) (by decide), bM_sum_44 (mP_mk M1.1 M1.2)⟩
theorem sm0_trim {f : Nat → Nat} {P : Nat} (h : ∀ p, P ≤ p → f p = 0) : ∀ k, sm0 f (P + k) = sm0 f P
  | 0 => rfl
  | k + 1 => by
    show sm0 f (P + k) + f (P + k) = _
    rw [h (P + k) (by omega), sm0_trim h k, Nat.add_zero]
theorem m_worth {k : Nat} {f : Nat → Nat} (hn : nN I m) (hw : m 0 ≤ 10) (hr : rSm I m) (hk : k < (ivl m).length) (hk2 : k < 64) (hm : mk m f) (h : K (some (.int (nI (sm0 (fun p => ivw m ((ivl m).getD k 0) p * f p) 10)))) (I, L, kr q w r1 r2)) : kC sh kp 112 [.ref 71, .int (nI k), .long (lN (mp 16 f 10))] (I, L, kr q w r1 r2) K := by
  have e := sm0_trim (f := fun p => ivw m ((ivl m).getD k 0) p * f p) (P := m 0) (fun p hp => by rw [hm.2 p hp, Nat.mul_zero]) (10 - m 0)
  rw [show m 0 + (10 - m 0) = 10 by omega] at e
  rw [e] at h
  refine ⟨rfl, bM_worth_0 (up0 (Pr := fun p => kW sh kp 112 6 [some (.ref 71), some (.int (nI k)), some (.long (lN (mp 16 f 10))), none, some (.int (nI (sm0 (fun p => ivw m ((ivl m).getD k 0) p * f p) p))), some (.int (nI p))] [] (I, L, kr q w r1 r2) K) (e := m 0) ?_ (fun p hp ih => ?_))⟩
  · refine bM_worth_6 ⟨pk_in 0 212 (by decide), ?_⟩
    rw [cl0, hn 0 (by decide)]
    exact pk_le (m 0) (m 0) (fun _ => bM_worth_47 h) (fun y => absurd y (by omega))
  · refine bM_worth_6 ⟨pk_in 0 212 (by decide), ?_⟩
    rw [cl0, hn 0 (by decide)]
    refine pk_le (m 0) p (fun y => absurd y (by omega)) (fun _ => bM_worth_17 ?_)
    rw [ix_r, nI_clamp (by omega), hr.2.2 k p hk (by omega)]
    refine ⟨vp_in_nI (by omega) (by decide), m_at (by omega) hm.1 (bM_worth_37 ?_)⟩
    rw [pk_mul, nI_add, nI_1]
    exact ih
theorem y_value {x y : Int32} (hs : sw s) (hc' : mI I s) : kC sh kp 113 [.ref 71, .int x, .int y] (I, L, kr q w r1 r2) (mT (o_value x y s) I L (kr q w r1 r2)) := by
  have w0 := hs.1.1.1
  have l64 : (ivl s.1).length ≤ 64 := ivp_len hs.1.1
  have bad : (okr x 0 2147483647 && okr y 0 3) = false → kW sh kp 113 13 [some (.ref 71), none, none] [] (I, L, kr q w r1 r2) (mT (o_value x y s) I L (kr q w r1 r2)) := fun e => bM_value_13 (mm_bad hc' fun I' g1 g2 => bM_value_17 (by
    unfold o_value
    rw [e]
    exact mP_mk g1 g2))
  refine ⟨rfl, bM_value_0 (neg0 (fun e1 => bM_value_4 (mm_in (a := 0) (b := 3) rfl rfl (bM_value_10 (cb1 (fun e2 => ?_) (fun e2 => bad (by rw [e1, e2]; rfl)))))) (fun e1 => bad (by rw [e1]; rfl)))⟩
  unfold o_value
  rw [e1, e2, Bool.and_self, cond_true]
  obtain ⟨n, rfl, hn, b1, b2⟩ := okr_e e1 (by decide)
  obtain ⟨v, rfl, hv, b3, b4⟩ := okr_e e2 (by decide)
  rw [hn, hv]
  refine bM_value_18 (m_laySums hc'.1 hs.1.1 fun I' L' g1 g2 g3 => bM_value_22 ?_)
  have M1 := mI_U hc' g1 g2
  have n1 := M1.1.1
  rw [g3.1]
  refine pk_lt n (ivl s.1).length (fun z => bM_value_32 (pk_eq v 3 (fun e => bM_value_37 ?_) (fun e => bM_value_46 (pk_eq v 0 (fun e => bM_value_52 ?_) (fun e => bM_value_60 (pk_eq v 1 (fun e => bM_value_65 ?_) (fun e => bM_value_74 ?_)).symm)).symm)).symm) (fun z => bM_value_30 ?_)
  · rw [if_pos z, e, nI_clamp (by omega), g3.2.1 n z]
    exact ⟨vp_in_nI (by omega) (by decide), bM_value_84 (mP_mk M1.1 M1.2)⟩
  · rw [if_pos z, e]
    exact m_tokensFrom (c := 2) (f := mz s.1 2) n1 w0 (by decide) (fun p hp => if_pos hp) (mz2_mk hs.1.1) (bM_value_57 (bM_value_81 ⟨rfl, m_worth n1 w0 g3 z (by omega) (mz2_mk hs.1.1) (bM_value_84 (mP_mk M1.1 M1.2))⟩))
  · rw [if_pos z, e]
    exact m_tokensFrom (c := 22) (f := mz s.1 22) n1 w0 (by decide) (fun p hp => if_pos hp) (nw_mk hs.1.1) (bM_value_71 (bM_value_81 ⟨rfl, m_worth n1 w0 g3 z (by omega) (nw_mk hs.1.1) (bM_value_84 (mP_mk M1.1 M1.2))⟩))
  · have v2 : v = 2 := by omega
    rw [if_pos z, v2]
    exact m_tokensHome (f := hm s.1) n1 w0 hs.1.2.1 (fun p hp => by unfold hm mz; rw [if_pos hp, if_pos hp]) (hm_mk hs.1.1) (bM_value_81 ⟨rfl, m_worth n1 w0 g3 z (by omega) (hm_mk hs.1.1) (bM_value_84 (mP_mk M1.1 M1.2))⟩)
  · rw [if_neg (by omega)]
    exact mP_mk M1.1 M1.2
end LAY
