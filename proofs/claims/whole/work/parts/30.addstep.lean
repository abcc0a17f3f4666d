/-! A STEP MORE -/
/-- a step more, with cost c and what it takes and gives -/
def ads (m : Nat → Nat) (c : Nat) (ft fg : Nat → Nat) (k : Nat) : Nat := if k = 1 then m 1 + 1 else if k = 32 + m 1 then c else if 40 + 10 * m 1 ≤ k ∧ k < 50 + 10 * m 1 then ft (k - (40 + 10 * m 1)) else if 120 + 10 * m 1 ≤ k ∧ k < 130 + 10 * m 1 then fg (k - (120 + 10 * m 1)) else m k
/-- on the way there, i places done -/
def adi (m : Nat → Nat) (c i k : Nat) : Nat := if k = 32 + m 1 then c else if 40 + 10 * m 1 ≤ k ∧ k < 40 + 10 * m 1 + i then 0 else if 120 + 10 * m 1 ≤ k ∧ k < 120 + 10 * m 1 + i then 0 else m k
theorem adi_0 {m : Nat → Nat} {c : Nat} : adi m c 0 = ups m (32 + m 1) c := funext fun k => by
  unfold adi ups
  by_cases e : k = 32 + m 1
  · rw [if_pos e, if_pos e]
  · rw [if_neg e, if_neg e, if_neg (by omega), if_neg (by omega)]
theorem adi_c {m : Nat → Nat} {c i k : Nat} (h : k = 32 + m 1) : adi m c i k = c := if_pos h
theorem adi_z {m : Nat → Nat} {c i k : Nat} (h : k ≠ 32 + m 1) (h2 : (40 + 10 * m 1 ≤ k ∧ k < 40 + 10 * m 1 + i) ∨ (120 + 10 * m 1 ≤ k ∧ k < 120 + 10 * m 1 + i)) : adi m c i k = 0 := by
  unfold adi
  rw [if_neg h]
  rcases h2 with h2 | h2
  · rw [if_pos h2]
  · by_cases z : 40 + 10 * m 1 ≤ k ∧ k < 40 + 10 * m 1 + i
    · rw [if_pos z]
    · rw [if_neg z, if_pos h2]
theorem adi_e {m : Nat → Nat} {c i k : Nat} (h : k ≠ 32 + m 1) (h2 : ¬ (40 + 10 * m 1 ≤ k ∧ k < 40 + 10 * m 1 + i)) (h3 : ¬ (120 + 10 * m 1 ≤ k ∧ k < 120 + 10 * m 1 + i)) : adi m c i k = m k := by
  unfold adi
  rw [if_neg h, if_neg h2, if_neg h3]
theorem adi_s {m : Nat → Nat} {c i : Nat} (hi : i < 10) (hs : m 1 < 8) : ups (ups (adi m c i) (40 + 10 * m 1 + i) 0) (120 + 10 * m 1 + i) 0 = adi m c (i + 1) := funext fun k => by
  by_cases e0 : k = 32 + m 1
  · have a : ups (ups (adi m c i) (40 + 10 * m 1 + i) 0) (120 + 10 * m 1 + i) 0 k = adi m c i k := by
      unfold ups
      rw [if_neg (by omega), if_neg (by omega)]
    rw [a, adi_c e0, adi_c e0]
  · by_cases e1 : k = 120 + 10 * m 1 + i
    · have a : ups (ups (adi m c i) (40 + 10 * m 1 + i) 0) (120 + 10 * m 1 + i) 0 k = 0 := if_pos e1
      rw [a, adi_z (i := i + 1) e0 (Or.inr (by omega))]
    · by_cases e2 : k = 40 + 10 * m 1 + i
      · have a : ups (ups (adi m c i) (40 + 10 * m 1 + i) 0) (120 + 10 * m 1 + i) 0 k = 0 := by
          unfold ups
          rw [if_neg e1, if_pos e2]
        rw [a, adi_z (i := i + 1) e0 (Or.inl (by omega))]
      · have a : ups (ups (adi m c i) (40 + 10 * m 1 + i) 0) (120 + 10 * m 1 + i) 0 k = adi m c i k := by
          unfold ups
          rw [if_neg e1, if_neg e2]
        rw [a]
        by_cases z : (40 + 10 * m 1 ≤ k ∧ k < 40 + 10 * m 1 + i) ∨ (120 + 10 * m 1 ≤ k ∧ k < 120 + 10 * m 1 + i)
        · rw [adi_z (i := i) e0 z, adi_z (i := i + 1) e0 (by omega)]
        · rw [adi_e (i := i) e0 (by omega) (by omega), adi_e (i := i + 1) e0 (by omega) (by omega)]
theorem adi_ads {m : Nat → Nat} {c : Nat} : ups (adi m c 10) 1 (m 1 + 1) = ads m c (fun _ => 0) (fun _ => 0) := funext fun k => by
  unfold ads
  by_cases e : k = 1
  · rw [if_pos e]
    exact if_pos e
  · have a : ups (adi m c 10) 1 (m 1 + 1) k = adi m c 10 k := if_neg e
    rw [a, if_neg e]
    by_cases e0 : k = 32 + m 1
    · rw [adi_c e0, if_pos e0]
    · rw [if_neg e0]
      by_cases z1 : 40 + 10 * m 1 ≤ k ∧ k < 50 + 10 * m 1
      · rw [if_pos z1, adi_z e0 (Or.inl (by omega))]
      · rw [if_neg z1]
        by_cases z2 : 120 + 10 * m 1 ≤ k ∧ k < 130 + 10 * m 1
        · rw [if_pos z2, adi_z e0 (Or.inr (by omega))]
        · rw [if_neg z2, adi_e e0 (by omega) (by omega)]
section ADDSTEP
variable {I : Nat → Nat → Int32} {L : Nat → Nat → Int64} {q r1 r2 : Nat → Nat} {w : Bool} {K : km_K} {m : Nat → Nat}
theorem m_addsStep {c : Nat} (hn : nN I m) (hs : m 1 < 8) (h : ∀ I', (∀ a k, a ≠ 72 → I' a k = I a k) → nN I' (ads m c (fun _ => 0) (fun _ => 0)) → K (some (.int (nI (m 1)))) (I', L, kr q w r1 r2)) : kC sh kp 62 [.ref 72, .int (nI c)] (I, L, kr q w r1 r2) K := by
  have v1 : vp_in (1 : Int32) 212 := pk_in 1 212 (by decide)
  have e1 : I 72 1 = nI (m 1) := hn 1 (by decide)
  refine ⟨rfl, bM_addsStep_n_0 ?_⟩
  rw [cl1, e1, fa_lit 32, nI_add, nI_clamp (by omega)]
  refine ⟨v1, vp_in_nI (by omega) (by decide), ?_⟩
  refine up0 (Pr := fun i => ∀ I', (∀ a k, a ≠ 72 → I' a k = I a k) → nN I' (adi m c i) → kW sh kp 62 13 [some (.ref 72), none, some (.int (nI (m 1))), some (.int (nI i))] [] (I', L, kr q w r1 r2) K) (e := 10) ?_ (fun i hi ih => ?_) _ (fun a k ha => up_a ha) (by rw [adi_0]; exact nN_up hn)
  · intro I' f1 f2
    refine bM_addsStep_n_13 (pk_le 10 10 (fun _ => bM_addsStep_n_49 ⟨v1, v1, ?_⟩) (fun g => absurd g (by omega)))
    have e2 : I' 72 1 = nI (m 1) := by
      rw [f2 1 (by decide), adi_e (by omega) (by omega) (by omega)]
    rw [cl1, e2, nI_1]
    refine h _ (fun a k ha => by rw [up_a ha]; exact f1 a k ha) ?_
    rw [← adi_ads]
    exact nN_up f2
  · intro I' f1 f2
    refine bM_addsStep_n_13 (pk_le 10 i (fun g => absurd g (by omega)) (fun _ => bM_addsStep_n_19 ?_))
    rw [ix_tk, ix_gv, nI_clamp (by omega), nI_clamp (by omega), nI_1]
    refine ⟨vp_in_nI (by omega) (by decide), vp_in_nI (by omega) (by decide), ih _ (fun a k ha => by rw [up_a ha, up_a ha]; exact f1 a k ha) ?_⟩
    rw [← adi_s hi hs]
    exact nN_up (v := 0) (nN_up (v := 0) f2)
end ADDSTEP
