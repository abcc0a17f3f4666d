/-! SUMS: the class finds them all (printed by wip/whole/gen/fa2.py) -/
theorem srt_ext : ∀ l1 l2 : List Nat, l1.Pairwise (· < ·) → l2.Pairwise (· < ·) → (∀ x, x ∈ l1 ↔ x ∈ l2) → l1 = l2
  | [], [], _, _, _ => rfl
  | [], b :: l, _, _, h => absurd ((h b).mpr List.mem_cons_self) List.not_mem_nil
  | a :: l, [], _, _, h => absurd ((h a).mp List.mem_cons_self) List.not_mem_nil
  | a :: l1, b :: l2, h1, h2, h => by
    have p1 := List.pairwise_cons.mp h1
    have p2 := List.pairwise_cons.mp h2
    have e : a = b := by
      rcases List.mem_cons.mp ((h a).mp List.mem_cons_self) with z | z
      · exact z
      · rcases List.mem_cons.mp ((h b).mpr List.mem_cons_self) with y | y
        · exact y.symm
        · have := p2.1 a z
          have := p1.1 b y
          omega
    rw [e]
    congr 1
    refine srt_ext l1 l2 p1.2 p2.2 fun x => ?_
    have hx := h x
    rw [List.mem_cons, List.mem_cons, e] at hx
    constructor
    · intro g
      rcases hx.mp (Or.inr g) with z | z
      · have := p1.1 x g
        omega
      · exact z
    · intro g
      rcases hx.mpr (Or.inr g) with z | z
      · have := p2.1 x g
        omega
      · exact z
theorem ivl_eq {m : Nat → Nat} {n : Nat} {u : Nat → Nat → Nat} (hw : m 0 ≤ 10) (hr : rys m (m 1) n u) (hs : srt u n) : ivl m = (List.range n).map (fun k => spt (u k)) := by
  refine srt_ext _ _ ?_ ?_ fun S => ?_
  · exact List.Pairwise.filter _ List.pairwise_lt_range
  · rw [List.pairwise_map]
    refine List.Pairwise.imp_of_mem ?_ (List.pairwise_lt_range (n := n))
    intro a b ha hb hab
    exact hs a b hab (List.mem_range.mp hb)
  · unfold ivl
    rw [List.mem_filter, List.mem_range, List.mem_map]
    constructor
    · intro ⟨h1, h2⟩
      obtain ⟨x, x1, x2⟩ := @of_decide_eq_true _ (Classical.propDecidable _) h2
      obtain ⟨k, hk, e⟩ := hr.2.2 x (elm_ray.mp x1)
      exact ⟨k, List.mem_range.mpr hk, by rw [← e]; exact x2⟩
    · intro ⟨k, hk, e⟩
      have hk := List.mem_range.mp hk
      have rk := hr.1 k hk
      refine ⟨?_, @decide_eq_true _ (Classical.propDecidable _) ⟨u k, elm_ray.mpr rk, e⟩⟩
      rw [← e]
      refine Nat.lt_pow_two_of_testBit _ fun i hi => ?_
      cases c : (spt (u k)).testBit i with
      | false => rfl
      | true => exact absurd (rk.1.1 i hi) ((spt_tb ((Kc_cone hw (m 1)).2.2.2 _ rk.1) i).mp c)
theorem ivw_eq {m x : Nat → Nat} (hw : m 0 ≤ 10) (hx : ray (Kc m (m 1)) x) : ivw m (spt x) = x := by
  have sp := Classical.epsilon_spec (p := fun y => elm m (m 1) y ∧ spt y = spt x) ⟨x, elm_ray.mpr hx, rfl⟩
  have sp : elm m (m 1) (ivw m (spt x)) ∧ spt (ivw m (spt x)) = spt x := sp
  generalize ivw m (spt x) = y at sp
  have hy := elm_ray.mp sp.1
  have h10 : ∀ z, ray (Kc m (m 1)) z → ∀ p, 10 ≤ p → z p = 0 := fun z hz => (Kc_cone hw (m 1)).2.2.2 _ hz.1
  refine ray_eq (Kc_cone hw (m 1)) hy hx fun p hp => Classical.byContradiction fun d => ?_
  have := (spt_tb (h10 x hx) p).mpr d
  rw [← sp.2] at this
  exact (spt_tb (h10 y hy) p).mp this hp
theorem an_mk {I : Nat → Nat → Int32} {L : Nat → Nat → Int64} {w : Bool} {r1 r2 : Nat → Nat} {m : Nat → Nat} {n : Nat} {u : Nat → Nat → Nat} (hw : m 0 ≤ 10) (hr : rys m (m 1) n u) (hs : srt u n) (hn : n ≤ 64) (h0 : I 56 0 = nI n) (hv : vo (cond w 59 57) (cond w r2 r1) I L n u) : anV I L w r1 r2 m := by
  have e := ivl_eq hw hr hs
  have el : (ivl m).length = n := by rw [e, List.length_map, List.length_range]
  refine ⟨by omega, by rw [el]; exact h0, fun k hk => ?_⟩
  rw [el] at hk
  have ek : (ivl m).getD k 0 = spt (u k) := by
    rw [e, List.getD_eq_getElem?_getD, List.getElem?_map, List.getElem?_range hk]
    rfl
  rw [ek, ivw_eq hw (hr.1 k hk)]
  have := hv k hk
  refine ⟨this.1, fun p hp => ?_⟩
  have := this.2 p hp
  cases w with
  | true => exact this
  | false => exact this
section FAW
variable {I : Nat → Nat → Int32} {L : Nat → Nat → Int64} {q r1 r2 : Nat → Nat} {w : Bool} {K : km_K} {m : Nat → Nat}
theorem c_fa (hw : wb m) (hg : gR r1 r2) (hR : cR I L 1 m) (h : ∀ I' L' w' r1' r2', (∀ a k, a ≠ 56 → a ≠ 57 → a ≠ 59 → I' a k = I a k) → (∀ a k, a ≠ 61 → (a < 90 ∨ 218 ≤ a) → L' a k = L a k) → gR r1' r2' → anV I' L' w' r1' r2' m → K none (I', L', kr q w' r1' r2')) (k t : Nat) (w : Bool) (I' : Nat → Nat → Int32) (L' : Nat → Nat → Int64) (n : Nat) (u : Nat → Nat → Nat) (hk : t + k = m 1) (hr : rys m t n u) (hn : n ≤ 64) (f1 : ∀ a k, a ≠ 56 → a ≠ 57 → a ≠ 59 → I' a k = I a k) (f2 : ∀ a k, a ≠ 61 → (a < 90 ∨ 218 ≤ a) → L' a k = L a k) (h0 : I' 56 0 = nI n) (hv : vo (cond w 59 57) (cond w r2 r1) I' L' n u) : kW sh kp 162 54 [some (.ref 56), some (.ref 1), some (.int (nI t))] [] (I', L', kr q w r1 r2) K := by
    have w0 := hw.1
    have w1 := hw.2.1
    have R' : cR I' L' 1 m := cR_fr (fun a k z1 z2 => f1 a k (by omega) (by omega) (by omega)) (fun a k z1 z2 => f2 a k (by omega) (by omega)) hR
    cases w with
    | false =>
      by_cases e : k = 0
      · have et : t = m 1 := by omega
        rw [et] at hr ⊢
        refine bV_findAll_0_54 (pk_le (m 1) (m 1) (fun _ => bV_findAll_0_84 ?_) (fun y => absurd y (by omega)) R'.2.1)
        refine c_order0 (I := I') (L := L') (r2 := r2) (m := m) (t := m 1) (n := n) w0 hn h0 (r := r1) (u := u) ⟨fun _ _ _ => rfl, hg, hr, hv⟩ fun I2 r u2 hq hs => bV_findAll_0_88 ?_
        exact h I2 L' false r r2 (fun a k z1 z2 z3 => (hq.1 a k (by omega)).trans (f1 a k z1 z2 z3)) f2 hq.2.1 (an_mk w0 hq.2.2.1 hs hn ((hq.1 56 0 (by decide)).trans h0) hq.2.2.2)
      · obtain ⟨k', rfl⟩ : ∃ k', k = k' + 1 := ⟨k - 1, by omega⟩
        have ht : t < m 1 := by omega
        have v8 : vp_in (nI t) 8 := vp_in_nI (by omega) (by decide)
        have a8 := R'.2.2.2.2.2.2.2.1 t ht
        refine bV_findAll_0_54 (pk_le (m 1) t (fun y => absurd y (by omega)) (fun _ => bV_findAll_0_62 ⟨v8, v8, ?_⟩) R'.2.1)
        rw [nI_clamp (by omega), show L' 2 t = lN (mp 32 (mz m (40 + 10 * t)) 10) from a8.1, show L' 3 t = lN (mp 32 (mz m (120 + 10 * t)) 10) from a8.2.1]
        refine c_balance0 hw (by omega) hg hr hn h0 hv fun I2 L2 n2 u2 g1 g2 g3 g4 g5 g6 => bV_findAll_1_78 ?_
        rw [nI_1]
        exact c_fa hw hg hR h k' (t + 1) true I2 L2 n2 u2 (by omega) g4 g3 (fun a k z1 z2 z3 => (g1 a k z1 z2 z3).trans (f1 a k z1 z2 z3)) (fun a k z1 z2 => (g2 a k z1 z2).trans (f2 a k z1 z2)) g5 g6
    | true =>
      by_cases e : k = 0
      · have et : t = m 1 := by omega
        rw [et] at hr ⊢
        refine bV_findAll_1_54 (pk_le (m 1) (m 1) (fun _ => bV_findAll_1_84 ?_) (fun y => absurd y (by omega)) R'.2.1)
        refine c_order1 (I := I') (L := L') (r1 := r1) (m := m) (t := m 1) (n := n) w0 hn h0 (r := r2) (u := u) ⟨fun _ _ _ => rfl, hg, hr, hv⟩ fun I2 r u2 hq hs => bV_findAll_1_88 ?_
        exact h I2 L' true r1 r (fun a k z1 z2 z3 => (hq.1 a k (by omega)).trans (f1 a k z1 z2 z3)) f2 hq.2.1 (an_mk w0 hq.2.2.1 hs hn ((hq.1 56 0 (by decide)).trans h0) hq.2.2.2)
      · obtain ⟨k', rfl⟩ : ∃ k', k = k' + 1 := ⟨k - 1, by omega⟩
        have ht : t < m 1 := by omega
        have v8 : vp_in (nI t) 8 := vp_in_nI (by omega) (by decide)
        have a8 := R'.2.2.2.2.2.2.2.1 t ht
        refine bV_findAll_1_54 (pk_le (m 1) t (fun y => absurd y (by omega)) (fun _ => bV_findAll_1_62 ⟨v8, v8, ?_⟩) R'.2.1)
        rw [nI_clamp (by omega), show L' 2 t = lN (mp 32 (mz m (40 + 10 * t)) 10) from a8.1, show L' 3 t = lN (mp 32 (mz m (120 + 10 * t)) 10) from a8.2.1]
        refine c_balance1 hw (by omega) hg hr hn h0 hv fun I2 L2 n2 u2 g1 g2 g3 g4 g5 g6 => bV_findAll_0_78 ?_
        rw [nI_1]
        exact c_fa hw hg hR h k' (t + 1) false I2 L2 n2 u2 (by omega) g4 g3 (fun a k z1 z2 z3 => (g1 a k z1 z2 z3).trans (f1 a k z1 z2 z3)) (fun a k z1 z2 => (g2 a k z1 z2).trans (f2 a k z1 z2)) g5 g6
  termination_by k
theorem c_findV (hw : wb m) (hg : gR r1 r2) (hR : cR I L 1 m) (h : ∀ I' L' w' r1' r2', (∀ a k, a ≠ 56 → a ≠ 57 → a ≠ 59 → I' a k = I a k) → (∀ a k, a ≠ 61 → (a < 90 ∨ 218 ≤ a) → L' a k = L a k) → gR r1' r2' → anV I' L' w' r1' r2' m → K none (I', L', kr q w' r1' r2')) : kC sh kp 162 [.ref 56, .ref 1] (I, L, kr q w r1 r2) K := by
  have w0 := hw.1
  cases w with
  | false => exact c_init0 w0 hg hR.1 fun I1 L1 f1 f2 f3 f4 => bV_findAll_0_52 (c_fa hw hg hR h (m 1) 0 false I1 L1 (m 0) un (by omega) (rys_0 w0) (by omega) f1 (fun a k _ z => f2 a k z) f3 f4)
  | true => exact c_init1 w0 hg hR.1 fun I1 L1 f1 f2 f3 f4 => bV_findAll_1_52 (c_fa hw hg hR h (m 1) 0 true I1 L1 (m 0) un (by omega) (rys_0 w0) (by omega) f1 (fun a k _ z => f2 a k z) f3 f4)
end FAW
