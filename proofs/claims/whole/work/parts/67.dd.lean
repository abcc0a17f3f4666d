/-! SUMS: one equation more -/
/-- a linear measure -/
def lnr (C : (Nat → Nat) → Prop) (s : (Nat → Nat) → Int) : Prop := (∀ x y a b, s (fun p => a * x p + b * y p) = (a : Int) * s x + (b : Int) * s y) ∧ (∀ x y a b, (∀ p, b * y p ≤ a * x p) → s (fun p => a * x p - b * y p) = (a : Int) * s x - (b : Int) * s y) ∧ ∀ x d, s (fun p => d * x p) = (d : Int) * s x
def cut (C : (Nat → Nat) → Prop) (s : (Nat → Nat) → Int) : (Nat → Nat) → Prop := fun x => C x ∧ s x = 0
section DD
variable {C : (Nat → Nat) → Prop} {s : (Nat → Nat) → Int}
theorem cut_cone (hC : cone C) (hs : lnr C s) : cone (cut C s) := by
  refine ⟨fun x y a b hx hy => ⟨hC.1 x y a b hx.1 hy.1, ?_⟩, fun x y a b hx hy h => ⟨hC.2.1 x y a b hx.1 hy.1 h, ?_⟩, fun x d hd hx => ⟨hC.2.2.1 x d hd hx.1, ?_⟩, fun x hx => hC.2.2.2 x hx.1⟩
  · rw [hs.1, hx.2, hy.2, Int.mul_zero, Int.mul_zero]
    rfl
  · rw [hs.2.1 x y a b h, hx.2, hy.2, Int.mul_zero, Int.mul_zero]
    rfl
  · have := hx.2
    rw [hs.2.2] at this
    rcases Int.mul_eq_zero.mp this with g | g
    · omega
    · exact g
/-- the part of a measure that counts -/
theorem s_pos {x : Int} (h : 0 < x) : ∃ n : Nat, n ≠ 0 ∧ x = (n : Int) := ⟨x.toNat, by omega, by omega⟩
/-- a combination of a vector above and one below -/
theorem comb_in (hC : cone C) (hs : lnr C s) {u v : Nat → Nat} {a b : Nat} (hu : C u) (hv : C v) (ha : s u = (a : Int)) (hb : s v = -(b : Int)) : cut C s (fun p => b * u p + a * v p) := by
  refine ⟨hC.1 u v b a hu hv, ?_⟩
  rw [hs.1, ha, hb, Int.mul_neg, Int.mul_comm (a : Int) (b : Int)]
  omega
theorem comb_z {u v : Nat → Nat} {a b p : Nat} (ha : a ≠ 0) (hb : b ≠ 0) : b * u p + a * v p = 0 ↔ u p = 0 ∧ v p = 0 := by
  constructor
  · intro h
    have h1 : b * u p = 0 := by omega
    have h2 : a * v p = 0 := by omega
    exact ⟨(Nat.mul_eq_zero.mp h1).resolve_left hb, (Nat.mul_eq_zero.mp h2).resolve_left ha⟩
  · intro h
    rw [h.1, h.2, Nat.mul_zero, Nat.mul_zero]
/-- a least vector on which nothing changes -/
theorem dd_zero {w : Nat → Nat} (hw : ray C w) (h0 : s w = 0) : ray (cut C s) w := ⟨⟨hw.1, h0⟩, hw.2.1, fun y hy => hw.2.2.1 y hy.1, hw.2.2.2⟩
/-- two neighbours, one above and one below -/
theorem dd_pair (hC : cone C) (hs : lnr C s) {u v w : Nat → Nat} {a b d : Nat} (hu : ray C u) (hv : ray C v) (ha : s u = (a : Int)) (hb : s v = -(b : Int)) (ha0 : a ≠ 0) (hb0 : b ≠ 0) (hadj : adj C u v) (hd : 0 < d) (hw : ∀ p, d * w p = b * u p + a * v p) (hp : prim w) : ray (cut C s) w := by
  have hcone := cut_cone hC hs
  have zz : ∀ p, w p = 0 ↔ u p = 0 ∧ v p = 0 := fun p => by
    rw [← comb_z (u := u) (v := v) ha0 hb0, ← hw p, Nat.mul_eq_zero]
    exact ⟨Or.inr, fun h => h.resolve_left (by omega)⟩
  refine ⟨hcone.2.2.1 w d hd ?_, ?_, fun y hy hyn hys => ?_, hp⟩
  · have : (fun p => d * w p) = fun p => b * u p + a * v p := funext hw
    rw [this]
    exact comb_in hC hs hu.1 hv.1 ha hb
  · obtain ⟨q, hq⟩ := hu.2.1
    exact ⟨q, fun c => hq ((zz q).mp c).1⟩
  · obtain ⟨c, α, β, c0, h⟩ := adj_span hC hu hv hadj _ y (Nat.le_refl _) hy.1 (fun p a1 a2 => hys p ((zz p).mpr ⟨a1, a2⟩))
    have e : s (fun p => c * y p) = s (fun p => α * u p + β * v p) := congrArg s (funext h)
    rw [hs.2.2, hs.1, hy.2, ha, hb, Int.mul_zero, Int.mul_neg] at e
    have e2 : α * a = β * b := by
      have : ((α * a : Nat) : Int) = ((β * b : Nat) : Int) := by
        rw [Int.natCast_mul, Int.natCast_mul]
        omega
      exact Int.ofNat.inj this
    obtain ⟨q, hq⟩ := hyn
    have α0 : α ≠ 0 := fun z => by
      rw [z, Nat.zero_mul] at e2
      have β0 := (Nat.mul_eq_zero.mp e2.symm).resolve_right hb0
      have := h q
      rw [z, β0, Nat.zero_mul, Nat.zero_mul] at this
      exact hq ((Nat.mul_eq_zero.mp this).resolve_left c0)
    have β0 : β ≠ 0 := fun z => by
      rw [z, Nat.zero_mul] at e2
      exact α0 ((Nat.mul_eq_zero.mp e2).resolve_right ha0)
    intro p hp0
    have := h p
    rw [hp0, Nat.mul_zero] at this
    exact (zz p).mpr ((comb_z β0 α0).mp this.symm)
/-- vectors on a set of places with a measure above zero in sum -/
theorem some_pos (hC : cone C) (hs : lnr C s) : ∀ n y, ssz y ≤ n → C y → 0 < s y → ∃ u, ray C u ∧ inS u y ∧ 0 < s u := fun n => by
  induction n with
  | zero =>
    intro y h hy hp
    have z : ∀ p, y p = 0 := fun p => Classical.byContradiction fun c => by
      have := cn_zero (P := fun p => decide (y p ≠ 0)) 10 (Nat.le_zero.mp h) p (ten hC hy c)
      exact absurd (decide_eq_true c) (by rw [this]; decide)
    have e : y = fun p => 0 * y p := funext fun p => by rw [z p]
    rw [e, hs.2.2] at hp
    omega
  | succ n ih =>
    intro y h hy hp
    by_cases hn : nz y
    · obtain ⟨e, e1, e2⟩ := ray_in hC _ y (Nat.le_refl _) hy hn
      by_cases g : 0 < s e
      · exact ⟨e, e1, e2, g⟩
      · obtain ⟨p0, h1, h2, h3⟩ := peel hC e1.1 hy e1.2.1
        have y0 : y p0 ≠ 0 := fun c => h1 (e2 p0 c)
        have zs : inS (fun p => e p0 * y p - y p0 * e p) y := fun p hp => by
          show e p0 * y p - y p0 * e p = 0
          rw [hp, Nat.mul_zero]
          exact Nat.zero_sub _
        have lt := ssz_lt zs (ten hC hy y0) y0 (by
          show e p0 * y p0 - y p0 * e p0 = 0
          rw [Nat.mul_comm]
          exact Nat.sub_self _)
        have hz : 0 < s (fun p => e p0 * y p - y p0 * e p) := by
          rw [hs.2.1 y e (e p0) (y p0) h2]
          have a1 : 0 < (e p0 : Int) * s y := Int.mul_pos (by omega) hp
          have a2 : (y p0 : Int) * s e ≤ 0 := by
            have := Int.mul_le_mul_of_nonneg_left (c := (y p0 : Int)) (show s e ≤ 0 by omega) (by omega)
            rw [Int.mul_zero] at this
            exact this
          omega
        obtain ⟨u, u1, u2, u3⟩ := ih _ (by omega) h3 hz
        exact ⟨u, u1, inS_trans u2 zs, u3⟩
    · have z : ∀ p, y p = 0 := fun p => Classical.byContradiction fun c => hn ⟨p, c⟩
      have e : y = fun p => 0 * y p := funext fun p => by rw [z p]
      rw [e, hs.2.2] at hp
      omega
theorem lnr_neg (hs : lnr C s) : lnr C (fun x => - s x) := by
  refine ⟨fun x y a b => ?_, fun x y a b h => ?_, fun x d => ?_⟩
  · show - s _ = _
    rw [hs.1, Int.neg_add, Int.mul_neg, Int.mul_neg]
  · show - s _ = _
    rw [hs.2.1 x y a b h, Int.mul_neg, Int.mul_neg]
    omega
  · show - s _ = _
    rw [hs.2.2, Int.mul_neg]
/-- a least vector of the smaller cone was one, or comes from neighbours -/
theorem dd_from (hC : cone C) (hs : lnr C s) {w : Nat → Nat} (hw : ray (cut C s) w) : ray C w ∨ ∃ u v a b d, ray C u ∧ ray C v ∧ s u = ((a : Nat) : Int) ∧ s v = -((b : Nat) : Int) ∧ a ≠ 0 ∧ b ≠ 0 ∧ adj C u v ∧ 0 < d ∧ ∀ p, d * w p = b * u p + a * v p := by
  have hcone := cut_cone hC hs
  by_cases hz : ∃ e, ray C e ∧ inS e w ∧ s e = 0
  · obtain ⟨e, e1, e2, e3⟩ := hz
    have := ray_eq hcone hw (dd_zero e1 e3) e2
    rw [this]
    exact Or.inl e1
  · refine Or.inr ?_
    -- one above, one below
    obtain ⟨e, e1, e2⟩ := ray_in hC _ w (Nat.le_refl _) hw.1.1 hw.2.1
    have both : (∃ u, ray C u ∧ inS u w ∧ 0 < s u) ∧ ∃ v, ray C v ∧ inS v w ∧ s v < 0 := by
      obtain ⟨p0, h1, h2, h3⟩ := peel hC e1.1 hw.1.1 e1.2.1
      have w0 : w p0 ≠ 0 := fun c => h1 (e2 p0 c)
      have zs : inS (fun p => e p0 * w p - w p0 * e p) w := fun p hp => by
        show e p0 * w p - w p0 * e p = 0
        rw [hp, Nat.mul_zero]
        exact Nat.zero_sub _
      have ez : s (fun p => e p0 * w p - w p0 * e p) = - ((w p0 : Int) * s e) := by
        rw [hs.2.1 w e (e p0) (w p0) h2, hw.1.2, Int.mul_zero]
        omega
      have ne : s e ≠ 0 := fun c => hz ⟨e, e1, e2, c⟩
      rcases Int.lt_or_gt_of_ne ne with g | g
      · have : 0 < s (fun p => e p0 * w p - w p0 * e p) := by
          rw [ez]
          have := Int.mul_pos (show (0 : Int) < (w p0 : Int) by omega) (show 0 < - s e by omega)
          rw [Int.mul_neg] at this
          exact this
        obtain ⟨u, u1, u2, u3⟩ := some_pos hC hs _ _ (Nat.le_refl _) h3 this
        exact ⟨⟨u, u1, inS_trans u2 zs, u3⟩, ⟨e, e1, e2, g⟩⟩
      · have : 0 < - s (fun p => e p0 * w p - w p0 * e p) := by
          rw [ez, Int.neg_neg]
          exact Int.mul_pos (by omega) g
        obtain ⟨u, u1, u2, u3⟩ := some_pos hC (lnr_neg hs) _ _ (Nat.le_refl _) h3 this
        exact ⟨⟨e, e1, e2, g⟩, ⟨u, u1, inS_trans u2 zs, by have u3 : 0 < - s u := u3; omega⟩⟩
    obtain ⟨⟨u, u1, u2, u3⟩, v, v1, v2, v3⟩ := both
    obtain ⟨a, a0, ea⟩ := s_pos u3
    obtain ⟨b, b0, eb'⟩ := s_pos (show 0 < - s v by omega)
    have eb : s v = -(b : Int) := by omega
    -- the combination has the places of w
    have tog : ∀ u v : Nat → Nat, ∀ a b : Nat, ray C u → ray C v → inS u w → inS v w → a ≠ 0 → b ≠ 0 → s u = (a : Int) → s v = -(b : Int) → (∃ c d, c ≠ 0 ∧ d ≠ 0 ∧ ∀ p, c * w p = d * (b * u p + a * v p)) := fun u v a b u1 v1 u2 v2 a0 b0 ea eb => by
      obtain ⟨q, hq⟩ := u1.2.1
      exact propn hcone hw (comb_in hC hs u1.1 v1.1 ea eb) ⟨q, fun c => hq ((comb_z a0 b0).mp c).1⟩ (fun p hp => (comb_z a0 b0).mpr ⟨u2 p hp, v2 p hp⟩)
    obtain ⟨c, d, c0, d0, hcd⟩ := tog u v a b u1 v1 u2 v2 a0 b0 ea eb
    have zz : ∀ p, w p = 0 ↔ u p = 0 ∧ v p = 0 := fun p => by
      rw [← comb_z (u := u) (v := v) a0 b0]
      have := hcd p
      constructor
      · intro h
        rw [h, Nat.mul_zero] at this
        exact (Nat.mul_eq_zero.mp this.symm).resolve_left d0
      · intro h
        rw [h, Nat.mul_zero] at this
        exact (Nat.mul_eq_zero.mp this).resolve_left c0
    -- neighbours
    have hadj : adj C u v := fun k hk hks => by
      have k2 : inS k w := fun p hp => hks p ((zz p).mp hp).1 ((zz p).mp hp).2
      have kne : s k ≠ 0 := fun z => hz ⟨k, hk, k2, z⟩
      have fin : ∀ (x y z : Nat → Nat) (c1 d1 c2 d2 ax ay bz : Nat), ray C x → ray C y → c1 ≠ 0 → d1 ≠ 0 → c2 ≠ 0 → d2 ≠ 0 → bz ≠ 0 → (∀ p, c1 * w p = d1 * (bz * x p + ax * z p)) → (∀ p, c2 * w p = d2 * (bz * y p + ay * z p)) → x = y := fun x y z c1 d1 c2 d2 ax ay bz hx hy c10 d10 c20 d20 bz0 h1 h2 => by
        have e : ∀ p, c2 * d1 * bz * x p + c2 * d1 * ax * z p = c1 * d2 * bz * y p + c1 * d2 * ay * z p := fun p => by
          have a1 : c2 * (c1 * w p) = c2 * (d1 * (bz * x p + ax * z p)) := by rw [h1 p]
          have a2 : c1 * (c2 * w p) = c1 * (d2 * (bz * y p + ay * z p)) := by rw [h2 p]
          rw [Nat.mul_left_comm] at a1
          rw [a1, Nat.mul_add, Nat.mul_add, Nat.mul_add, Nat.mul_add] at a2
          simp only [Nat.mul_assoc]
          exact a2
        have nx : c2 * d1 * bz ≠ 0 := Nat.mul_ne_zero (Nat.mul_ne_zero c20 d10) bz0
        have ny : c1 * d2 * bz ≠ 0 := Nat.mul_ne_zero (Nat.mul_ne_zero c10 d20) bz0
        rcases Nat.le_total (c2 * d1 * ax) (c1 * d2 * ay) with g | g
        · -- y's places are among x's
          refine ray_eq hC hx hy fun p hp => ?_
          have e' := e p
          rw [hp, Nat.mul_zero] at e'
          have := Nat.mul_le_mul_right (z p) g
          have : c1 * d2 * bz * y p = 0 := by omega
          exact (Nat.mul_eq_zero.mp this).resolve_left ny
        · refine (ray_eq hC hy hx fun p hp => ?_).symm
          have e' := e p
          rw [hp, Nat.mul_zero] at e'
          have := Nat.mul_le_mul_right (z p) g
          have : c2 * d1 * bz * x p = 0 := by omega
          exact (Nat.mul_eq_zero.mp this).resolve_left nx
      rcases Int.lt_or_gt_of_ne kne with g | g
      · obtain ⟨b', b0', eb2⟩ := s_pos (show 0 < - s k by omega)
        obtain ⟨c', d', c0', d0', h'⟩ := tog u k a b' u1 hk u2 k2 a0 b0' ea (by omega)
        refine Or.inr (fin k v u c' d' c d b' b a hk v1 c0' d0' c0 d0 a0 (fun p => ?_) (fun p => ?_))
        · rw [h' p, Nat.add_comm]
        · rw [hcd p, Nat.add_comm]
      · obtain ⟨a', a0', ea2⟩ := s_pos g
        obtain ⟨c', d', c0', d0', h'⟩ := tog k v a' b hk v1 k2 v2 a0' b0 ea2 eb
        exact Or.inl (fin k u v c' d' c d a' a b hk u1 c0' d0' c0 d0 b0 h' hcd)
    -- w is the combination, divided
    obtain ⟨g0, g1, g2, g3⟩ := prim_div hcone (comb_in hC hs u1.1 v1.1 ea eb) (by
      obtain ⟨q, hq⟩ := u1.2.1
      exact ⟨q, fun c => hq ((comb_z a0 b0).mp c).1⟩)
    refine ⟨u, v, a, b, gcn (fun p => b * u p + a * v p) 10, u1, v1, ea, eb, a0, b0, hadj, g0, fun p => ?_⟩
    have := prim_eq hw.2.2.2 g3 (a := c) (b := d * gcn (fun p => b * u p + a * v p) 10) c0 (Nat.mul_ne_zero d0 (by omega)) (fun p => by
      rw [hcd p, Nat.mul_assoc, ← g1 p]) p
    rw [this, ← g1 p]
end DD
