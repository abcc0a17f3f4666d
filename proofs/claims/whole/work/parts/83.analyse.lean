/-! THE CLASS'S ANALYSIS -/
theorem anV_fr {I I' : Nat → Nat → Int32} {L : Nat → Nat → Int64} {w : Bool} {r1 r2 m : Nat → Nat} (h : anV I L w r1 r2 m) (f : ∀ a k, 56 ≤ a → a < 62 → I' a k = I a k) : anV I' L w r1 r2 m := by
  refine ⟨h.1, (f 56 0 (by decide) (by decide)).trans h.2.1, fun k hk => ⟨Eq.trans ?_ (h.2.2 k hk).1, (h.2.2 k hk).2⟩⟩
  cases w with
  | true => exact f 59 k (by decide) (by decide)
  | false => exact f 57 k (by decide) (by decide)
theorem x_analyse : AN := fun I L q r1 r2 w s K hs hc h => by
  have hwb := hs.1.1
  have hA := hc.2.2.2.2.2
  refine ⟨rfl, bX_analyse_0 ⟨fun y => bX_analyse_34 ?_, fun y => bX_analyse_7 ?_⟩⟩
  · have e9 : I 0 9 = 1 := by
      rcases hA.2 with g | g
      · exact absurd g y
      · exact g.1
    exact h I L w r1 r2 hc e9 fM_refl rfl
  · refine c_findV hwb hA.1 hc.1 fun I2 L2 w2 a2 b2 f1 f2 g2 v2 => bX_analyse_18 ?_
    have R2 : cR I2 L2 1 s.1 := cR_fr (fun a k z1 z2 => f1 a k (by omega) (by omega) (by omega)) (fun a k z1 z2 => f2 a k (by omega) (by omega)) hc.1
    refine c_findP hwb R2 fun I3 f3 p3 => bX_analyse_29 (bX_analyse_34 ?_)
    have fr : ∀ a k, (a < 56 ∨ 66 < a) → (a = 0 → k ≠ 9) → km_up I3 0 9 1 a k = I a k := fun a k z1 z2 => by
      have : km_up I3 0 9 1 a k = I3 a k := by
        by_cases e : a = 0
        · exact up_k (z2 e)
        · exact up_a e
      rw [this, f3 a k (by omega)]
      exact f1 a k (by omega) (by omega) (by omega)
    have frL : ∀ a k, a ≠ 61 → (a < 90 ∨ 218 ≤ a) → L2 a k = L a k := f2
    refine h _ L2 w2 a2 b2 ?_ up_s ⟨fun a k z1 z2 => fr a k (by omega) (fun e => absurd e (by omega)), fun a k z1 z2 => frL a k (by omega) (by omega)⟩ (fr 0 5 (by omega) (fun _ => by decide))
    refine cI_fr (s := s) (m := s.1) hs.2.1 hc (fun a k z1 z2 z3 => fr a k (by omega) (fun e => by have := z1 e; omega)) (fun a k z1 z2 => frL a k (by omega) (by omega)) (cR_fr (fun a k z1 z2 => fr a k (by omega) (fun e => absurd e (by omega))) (fun a k z1 z2 => frL a k (by omega) (by omega)) hc.1) (cH_fr hc.2.2.2.2.1 (fr 0 5 (by omega) (fun _ => by decide)) (fun a k z1 z2 => fr a k (by omega) (fun e => absurd e (by omega))) (fun k => frL 45 k (by decide) (by decide))) ⟨g2, Or.inr ⟨up_s, anV_fr v2 (fun a k z1 z2 => by rw [up_a (by omega)]; exact f3 a k (by omega)), ?_⟩⟩
    refine ⟨?_, fun k hk => ?_, ?_, fun t ht => ⟨?_, ?_⟩⟩
    · rw [up_a (by decide)]
      exact p3.1
    · rw [up_a (by decide)]
      exact p3.2.1 k hk
    · rw [up_a (by decide)]
      exact p3.2.2.1
    · rw [up_a (by decide)]
      exact (p3.2.2.2 t ht).1
    · rw [up_a (by decide)]
      exact (p3.2.2.2 t ht).2
