/-! CALLS: value; the class's side (printed by wip/whole/gen/val.py) -/
def vlw (m : Nat → Nat) (x : Nat → Nat) (S y : Nat) : Nat := if y = 0 then sm0 (fun p => x p * mz m 2 p) 10 else if y = 1 then sm0 (fun p => x p * mz m 22 p) 10 else if y = 2 then sm0 (fun p => x p * hm m p) 10 else S
noncomputable def o_value (x y : Int32) (s : ast) : Int32 × ast := cond (okr x 0 2147483647 && okr y 0 3) (if tn x < (ivl s.1).length then (nI (vlw s.1 (ivw s.1 ((ivl s.1).getD (tn x) 0)) ((ivl s.1).getD (tn x) 0) (tn y)), s) else (-1, s)) (a_bad s)
theorem w_value {x y : Int32} {s : ast} (h : sw s) : sw (o_value x y s).2 := by
  unfold o_value
  cases (okr x 0 2147483647 && okr y 0 3) with
  | false => exact h
  | true =>
    show sw (ite _ _ _ : Int32 × ast).2
    split <;> exact h
theorem ivl_spt {m : Nat → Nat} {k : Nat} (hk : k < (ivl m).length) : spt (ivw m ((ivl m).getD k 0)) = (ivl m).getD k 0 := by
  have hm := getD_mem hk
  generalize (ivl m).getD k 0 = S at hm
  unfold ivl at hm
  have h2 := (List.mem_filter.mp hm).2
  have ex := @of_decide_eq_true _ (Classical.propDecidable _) h2
  exact (Classical.epsilon_spec (p := fun x => elm m (m 1) x ∧ spt x = S) ex).2
theorem an_vo {I : Nat → Nat → Int32} {L : Nat → Nat → Int64} {w : Bool} {r1 r2 m : Nat → Nat} (h : anV I L w r1 r2 m) : vo (cond w 59 57) (cond w r2 r1) I L (ivl m).length (fun k => ivw m ((ivl m).getD k 0)) := fun k hk => by
  have := h.2.2 k hk
  refine ⟨by rw [ivl_spt hk]; exact this.1, fun p hp => ?_⟩
  have := this.2 p hp
  cases w with
  | true => exact this
  | false => exact this
section VALUE
variable {I : Nat → Nat → Int32} {L : Nat → Nat → Int64} {q r1 r2 : Nat → Nat} {w : Bool} {s : ast} {K : km_K}
theorem x_value_t {n y : Nat} (hn : n < 2 ^ 31) (hy : y ≤ 3) (hs : sw s) (hc' : cI I L q w r1 r2 s) (h9 : I 0 9 = 1) (h : K (some (.int (if n < (ivl s.1).length then nI (vlw s.1 (ivw s.1 ((ivl s.1).getD n 0)) ((ivl s.1).getD n 0) y) else -1))) (I, L, kr q w r1 r2)) : kW sh kp 20 24 [some (.ref 0), some (.int (nI n)), some (.int (nI y))] [] (I, L, kr q w r1 r2) K := by
  have an := (cI_an hc' h9).1
  have l64 := an.1
  have hg := hc'.2.2.2.2.2.1
  have hv := an_vo an
  have c1 := hc'.1
  have b2 := (mz2_mk hs.1.1).1
  have b22 := (nw_mk hs.1.1).1
  have bh := (hm_mk hs.1.1).1
  cases w with
  | false =>
    refine bX_value_0_24 ?_
    rw [an.2.1]
    refine pk_lt n (ivl s.1).length (fun z => bX_value_0_37 ⟨fun e => bX_value_0_64 ?_, fun e => bX_value_0_80 ?_, fun e => bX_value_0_96 ?_, fun e => bX_value_0_112 ⟨vp_in_nI (by omega) (by decide), ?_⟩⟩) (fun z => bX_value_0_35 (by rw [if_neg (by omega)] at h; exact h))
    · rw [if_pos z, (nI_eq (b := 0) (by omega) (by decide)).mp e] at h
      rw [c1.2.2.2.2.1]
      exact c_weighted0 hg l64 z hv (fun p _ => by have := b2 p; omega) rfl (bX_value_0_79 h)
    · rw [if_pos z, (nI_eq (b := 1) (by omega) (by decide)).mp e] at h
      rw [c1.2.2.2.2.2.2.1]
      exact c_weighted0 hg l64 z hv (fun p _ => by have := b22 p; omega) rfl (bX_value_0_95 h)
    · rw [if_pos z, (nI_eq (b := 2) (by omega) (by decide)).mp e] at h
      exact c_home (m := s.1) c1 hs.1.2.1 (bX_value_0_108 ⟨rfl, c_weighted0 hg l64 z hv (fun p _ => by have := bh p; omega) rfl (bX_value_0_111 h)⟩)
    · have y3 : y = 3 := by
        have a0 : y ≠ 0 := fun c => e.2.2.1 (by rw [c]; rfl)
        have a1 : y ≠ 1 := fun c => e.2.1 (by rw [c]; rfl)
        have a2 : y ≠ 2 := fun c => e.1 (by rw [c]; rfl)
        omega
      rw [if_pos z, y3] at h
      rw [nI_clamp (by omega), show I 57 n = _ from (an.2.2 n z).1]
      exact h
  | true =>
    refine bX_value_1_24 ?_
    rw [an.2.1]
    refine pk_lt n (ivl s.1).length (fun z => bX_value_1_37 ⟨fun e => bX_value_1_64 ?_, fun e => bX_value_1_80 ?_, fun e => bX_value_1_96 ?_, fun e => bX_value_1_112 ⟨vp_in_nI (by omega) (by decide), ?_⟩⟩) (fun z => bX_value_1_35 (by rw [if_neg (by omega)] at h; exact h))
    · rw [if_pos z, (nI_eq (b := 0) (by omega) (by decide)).mp e] at h
      rw [c1.2.2.2.2.1]
      exact c_weighted1 hg l64 z hv (fun p _ => by have := b2 p; omega) rfl (bX_value_1_79 h)
    · rw [if_pos z, (nI_eq (b := 1) (by omega) (by decide)).mp e] at h
      rw [c1.2.2.2.2.2.2.1]
      exact c_weighted1 hg l64 z hv (fun p _ => by have := b22 p; omega) rfl (bX_value_1_95 h)
    · rw [if_pos z, (nI_eq (b := 2) (by omega) (by decide)).mp e] at h
      exact c_home (m := s.1) c1 hs.1.2.1 (bX_value_1_108 ⟨rfl, c_weighted1 hg l64 z hv (fun p _ => by have := bh p; omega) rfl (bX_value_1_111 h)⟩)
    · have y3 : y = 3 := by
        have a0 : y ≠ 0 := fun c => e.2.2.1 (by rw [c]; rfl)
        have a1 : y ≠ 1 := fun c => e.2.1 (by rw [c]; rfl)
        have a2 : y ≠ 2 := fun c => e.1 (by rw [c]; rfl)
        omega
      rw [if_pos z, y3] at h
      rw [nI_clamp (by omega), show I 59 n = _ from (an.2.2 n z).1]
      exact h
theorem x_value {x y : Int32} (hs : sw s) (hc' : cI I L q w r1 r2 s) : kC sh kp 20 [.ref 0, .int x, .int y] (I, L, kr q w r1 r2) (cT (o_value x y s) I L) := by
  cases w with
  | false =>
    have bad : (okr x 0 2147483647 && okr y 0 3) = false → kW sh kp 20 13 [some (.ref 0), none, none] [] (I, L, kr q false r1 r2) (cT (o_value x y s) I L) := fun e => bX_value_0_13 (x_bad hs hc' fun I' g1 g2 => bX_value_0_19 (by
      unfold o_value
      rw [e]
      exact cP_mk g1 g2))
    refine ⟨rfl, bX_value_0_0 (neg0 (fun e1 => bX_value_0_4 (c_in (a := 0) (b := 3) rfl rfl (bX_value_0_10 (cb1 (fun e2 => bX_value_0_20 ?_) (fun e2 => bad (by rw [e1, e2]; rfl)))))) (fun e1 => bad (by rw [e1]; rfl)))⟩
    unfold o_value
    rw [e1, e2, Bool.and_self, cond_true]
    obtain ⟨n, rfl, hn, b1, b2⟩ := okr_e e1 (by decide)
    obtain ⟨v, rfl, hv, b3, b4⟩ := okr_e e2 (by decide)
    rw [hn, hv]
    refine x_analyse _ _ _ _ _ _ _ _ hs hc' fun I' L' w' r1' r2' g1 g2 g3 g4 => x_value_t (by omega) (by omega) hs g1 g2 ?_
    split
    · exact cP_mk g1 g3
    · exact cP_mk g1 g3
  | true =>
    have bad : (okr x 0 2147483647 && okr y 0 3) = false → kW sh kp 20 13 [some (.ref 0), none, none] [] (I, L, kr q true r1 r2) (cT (o_value x y s) I L) := fun e => bX_value_1_13 (x_bad hs hc' fun I' g1 g2 => bX_value_1_19 (by
      unfold o_value
      rw [e]
      exact cP_mk g1 g2))
    refine ⟨rfl, bX_value_1_0 (neg0 (fun e1 => bX_value_1_4 (c_in (a := 0) (b := 3) rfl rfl (bX_value_1_10 (cb1 (fun e2 => bX_value_1_20 ?_) (fun e2 => bad (by rw [e1, e2]; rfl)))))) (fun e1 => bad (by rw [e1]; rfl)))⟩
    unfold o_value
    rw [e1, e2, Bool.and_self, cond_true]
    obtain ⟨n, rfl, hn, b1, b2⟩ := okr_e e1 (by decide)
    obtain ⟨v, rfl, hv, b3, b4⟩ := okr_e e2 (by decide)
    rw [hn, hv]
    refine x_analyse _ _ _ _ _ _ _ _ hs hc' fun I' L' w' r1' r2' g1 g2 g3 g4 => x_value_t (by omega) (by omega) hs g1 g2 ?_
    split
    · exact cP_mk g1 g3
    · exact cP_mk g1 g3
end VALUE
