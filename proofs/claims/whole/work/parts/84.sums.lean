/-! CALLS: sums, sum; the class's side -/
noncomputable def o_sums (s : ast) : Int32 × ast := (nI (ivl s.1).length, s)
noncomputable def o_sum (x y : Int32) (s : ast) : Int32 × ast := cond (okr x 0 2147483647 && okr y 0 ((s.1 0 : Int) - 1)) (if tn x < (ivl s.1).length then (nI (ivw s.1 ((ivl s.1).getD (tn x) 0) (tn y)), s) else (-1, s)) (a_bad s)
theorem w_sums {s : ast} (h : sw s) : sw (o_sums s).2 := h
theorem w_sum {x y : Int32} {s : ast} (h : sw s) : sw (o_sum x y s).2 := by
  unfold o_sum
  cases (okr x 0 2147483647 && okr y 0 ((s.1 0 : Int) - 1)) with
  | false => exact h
  | true =>
    show sw (ite _ _ _ : Int32 × ast).2
    split <;> exact h
section SUMS
variable {I : Nat → Nat → Int32} {L : Nat → Nat → Int64} {q r1 r2 : Nat → Nat} {w : Bool} {s : ast} {K : km_K} {m : Nat → Nat}
theorem x_sums (hs : sw s) (hc' : cI I L q w r1 r2 s) : kC sh kp 18 [.ref 0] (I, L, kr q w r1 r2) (cT (o_sums s) I L) := by
  refine ⟨rfl, bX_sums_0 (x_analyse _ _ _ _ _ _ _ _ hs hc' fun I' L' w' r1' r2' g1 g2 g3 g4 => bX_sums_4 ?_)⟩
  rw [(cI_an g1 g2).1.2.1]
  exact cP_mk g1 g3
theorem c_weight {k p : Nat} (hg : gR r1 r2) (hp : p < 10) (ha : anV I L w r1 r2 m) (hk : k < (ivl m).length) (h : K (some (.int (nI (ivw m ((ivl m).getD k 0) p)))) (I, L, kr q w r1 r2)) : kC sh kp 159 [.ref 56, .int (nI k), .int (nI p)] (I, L, kr q w r1 r2) K := by
  have l64 := ha.1
  have g := hg.1 k (by omega)
  have e := (ha.2.2 k hk).2 p hp
  rw [← lN_i] at h
  cases w with
  | false =>
    refine ⟨rfl, bV_weight_0_0 ⟨vp_in_nI (by omega) (by decide), ?_⟩⟩
    rw [nI_clamp (by omega), nI_clamp (by omega)]
    show (sh (r1 k)).1 = 11 ∧ vp_in (nI p) (sh (r1 k)).2 ∧ K (some (.int (L (r1 k) p).toInt32)) _
    rw [gsh (a := r1 k) (by omega) (by omega), show L (r1 k) p = _ from e]
    exact ⟨rfl, vp_in_nI hp (by decide), h⟩
  | true =>
    refine ⟨rfl, bV_weight_1_0 ⟨vp_in_nI (by omega) (by decide), ?_⟩⟩
    rw [nI_clamp (by omega), nI_clamp (by omega)]
    show (sh (r2 k)).1 = 11 ∧ vp_in (nI p) (sh (r2 k)).2 ∧ K (some (.int (L (r2 k) p).toInt32)) _
    rw [gsh (a := r2 k) (by omega) (by omega), show L (r2 k) p = _ from e]
    exact ⟨rfl, vp_in_nI hp (by decide), h⟩
theorem x_sum {x y : Int32} (hs : sw s) (hc' : cI I L q w r1 r2 s) : kC sh kp 19 [.ref 0, .int x, .int y] (I, L, kr q w r1 r2) (cT (o_sum x y s) I L) := by
  have w0 := hs.1.1.1
  have bad : (okr x 0 2147483647 && okr y 0 ((s.1 0 : Int) - 1)) = false → kW sh kp 19 12 [some (.ref 0), none, none] [] (I, L, kr q w r1 r2) (cT (o_sum x y s) I L) := fun e => bX_sum_12 (x_bad hs hc' fun I' g1 g2 => bX_sum_18 (by
    unfold o_sum
    rw [e]
    exact cP_mk g1 g2))
  refine ⟨rfl, bX_sum_0 (neg0 (fun e1 => bX_sum_4 (x_isPlace w0 hc'.1 (bX_sum_9 (cb1 (fun e2 => bX_sum_19 ?_) (fun e2 => bad (by rw [e1, e2]; rfl)))))) (fun e1 => bad (by rw [e1]; rfl)))⟩
  unfold o_sum
  rw [e1, e2, Bool.and_self, cond_true]
  obtain ⟨n, rfl, hn, b1, b2⟩ := okr_e e1 (by decide)
  obtain ⟨v, rfl, hv, b3, b4⟩ := okr_e e2 (by decide)
  rw [hn, hv]
  refine x_analyse _ _ _ _ _ _ _ _ hs hc' fun I' L' w' r1' r2' g1 g2 g3 g4 => bX_sum_23 ?_
  have an := (cI_an g1 g2).1
  have l64 := an.1
  rw [an.2.1]
  refine pk_le (ivl s.1).length n (fun z => bX_sum_46 (bX_sum_47 ?_)) (fun z => bX_sum_34 (c_weight (m := s.1) g1.2.2.2.2.2.1 (by omega) an z (bX_sum_43 (bX_sum_47 ?_))))
  · rw [if_neg (by omega)]
    exact cP_mk g1 g3
  · rw [if_pos z]
    exact cP_mk g1 g3
end SUMS
