/-! SETS OF PLACES: the class's stuck sets -/
theorem fa_xor (a b : Nat) : nI a ^^^ nI b = nI (a ^^^ b) := by
  apply Int32.toBitVec_inj.1
  show BitVec.ofNat 32 a ^^^ BitVec.ofNat 32 b = BitVec.ofNat 32 (a ^^^ b)
  apply BitVec.eq_of_getLsbD_eq
  intro i hi
  simp [hi]
/-- a without b -/
def cmp (a b : Nat) : Nat := a &&& (b ^^^ (2 ^ 32 - 1))
theorem cmp_I {a b : Nat} : nI a &&& (nI b ^^^ (-1)) = nI (cmp a b) := by
  rw [show (-1 : Int32) = nI (2 ^ 32 - 1) by decide +kernel, fa_xor, fa_and]
  rfl
theorem cmp_tb {a b i : Nat} (ha : a < 1024) : (cmp a b).testBit i = (a.testBit i && ! b.testBit i) := by
  unfold cmp
  rw [Nat.testBit_and, Nat.testBit_xor, Nat.testBit_two_pow_sub_one]
  by_cases h : i < 32
  · rw [decide_eq_true h, Bool.xor_true]
  · rw [tb_lt (P := 10) ha (by omega), Bool.false_and, Bool.false_and]
theorem cmp_le {a b : Nat} : cmp a b ≤ a := Nat.and_le_left
theorem cmp_0 {a b : Nat} (ha : a < 1024) : (nI a &&& (nI b ^^^ (-1)) = 0 ↔ a &&& b = a) := by
  rw [cmp_I, sub_iff]
  have hl := cmp_le (a := a) (b := b)
  rw [show (0 : Int32) = nI 0 from rfl, nI_eq (by omega) (by decide)]
  constructor
  · intro h i hi
    have := congrArg (fun x => x.testBit i) h
    simp only [cmp_tb ha, hi, Bool.true_and, Nat.zero_testBit] at this
    cases e : b.testBit i with
    | true => rfl
    | false => rw [e] at this; exact absurd this (by decide)
  · intro h
    refine Nat.eq_of_testBit_eq fun i => ?_
    rw [cmp_tb ha, Nat.zero_testBit]
    cases e : a.testBit i with
    | false => rfl
    | true => rw [h i e]; rfl
theorem and_meet {a b : Nat} (h : a &&& b ≠ 0) : ∃ i, a.testBit i = true ∧ b.testBit i = true := by
  refine Classical.byContradiction fun c => h (Nat.eq_of_testBit_eq fun i => ?_)
  rw [Nat.testBit_and, Nat.zero_testBit]
  cases e : a.testBit i with
  | false => rfl
  | true =>
    cases e2 : b.testBit i with
    | false => rfl
    | true => exact absurd ⟨i, e, e2⟩ c
theorem and_meet0 {a b i : Nat} (h : a &&& b = 0) (hb : b.testBit i = true) : a.testBit i = false := by
  have := congrArg (fun x => x.testBit i) h
  simp only [Nat.testBit_and, hb, Bool.and_true, Nat.zero_testBit] at this
  exact this
/-- a step that empties part of a set without filling it -/
def lks (m : Nat → Nat) (R t : Nat) : Prop := tS m t &&& R ≠ 0 ∧ gS m t &&& R = 0
theorem kpt_iff {m : Nat → Nat} {R : Nat} : sip (gS m) (tS m) (m 1) R = true ↔ ∀ t, t < m 1 → ¬ lks m R t := by
  unfold sip lks
  rw [al_iff]
  refine forall_congr' fun t => forall_congr' fun _ => ?_
  rw [Bool.or_eq_true, beq_iff, Bool.not_eq_true']
  constructor
  · intro h g
    rcases h with h | h
    · exact g.1 h
    · rw [beq_iff.mpr g.2] at h
      exact absurd h (by decide)
  · intro h
    by_cases e : tS m t &&& R = 0
    · exact Or.inl e
    · refine Or.inr ?_
      cases e2 : Nat.beq (gS m t &&& R) 0 with
      | false => rfl
      | true => exact absurd ⟨e, Nat.eq_of_beq_eq_true e2⟩ h
theorem tS_lt {m : Nat → Nat} {t : Nat} : tS m t < 1024 ∧ gS m t < 1024 := ⟨bs_lt 10, bs_lt 10⟩
theorem szS_lt {R T : Nat} (hR : R < 1024) (h : T &&& R ≠ 0) : szS (cmp R T) < szS R := by
  obtain ⟨i, h1, h2⟩ := and_meet h
  have hi : i < 10 := Classical.byContradiction fun c => by
    rw [tb_lt (P := 10) hR (by omega)] at h2
    exact absurd h2 (by decide)
  refine cn_lt 10 (fun k _ hk => ?_) ⟨i, hi, ?_, h2⟩
  · rw [cmp_tb hR, Bool.and_eq_true] at hk
    exact hk.1
  · show (cmp R T).testBit i = false
    rw [cmp_tb hR, h1, Bool.not_true, Bool.and_false]
section CSIP
variable {I : Nat → Nat → Int32} {L : Nat → Nat → Int64} {q r1 r2 : Nat → Nat} {w : Bool} {K : km_K} {m : Nat → Nat}
/-- what steps take from and give to, as sets -/
def aP0 (I : Nat → Nat → Int32) (m : Nat → Nat) : Prop := I 62 3 = nI (m 1) ∧ ∀ t, t < m 1 → I 65 t = nI (tS m t) ∧ I 66 t = nI (gS m t)
theorem c_isSiphon {S : Nat} (h1 : m 1 ≤ 8) (hA : aP0 I m) (h : K (some (.int (cond (sp m S) 1 0))) (I, L, kr q w r1 r2)) : kC sh kp 208 [.ref 62, .int (nI S)] (I, L, kr q w r1 r2) K := by
  refine ⟨rfl, bP_isSiphon_0 (up0 (Pr := fun t => sip (tS m) (gS m) t S = true → kW sh kp 208 2 [some (.ref 62), some (.int (nI S)), some (.int (nI t))] [] (I, L, kr q w r1 r2) K) (e := m 1) (fun g => ?_) (fun t htt ih g => ?_) rfl)⟩
  · unfold sp at h
    rw [g] at h
    exact bP_isSiphon_2 (pk_le (m 1) (m 1) (fun _ => bP_isSiphon_40 h) (fun y => absurd y (by omega)) hA.1)
  · have b := tS_lt (m := m) (t := t)
    have hv : vp_in (nI t) 8 := vp_in_nI (by omega) (by decide)
    have es : sip (tS m) (gS m) (t + 1) S = (sip (tS m) (gS m) t S && (Nat.beq (gS m t &&& S) 0 || ! Nat.beq (tS m t &&& S) 0)) := al_s
    rw [es, g, Bool.true_and, Bool.or_eq_true] at ih
    refine bP_isSiphon_2 (pk_le (m 1) t (fun y => absurd y (by omega)) (fun _ => bP_isSiphon_10 ?_) hA.1)
    rw [nI_clamp (by omega), (hA.2 t htt).2]
    refine ⟨hv, fun y => bP_isSiphon_34 ?_, fun y => bP_isSiphon_21 ?_⟩
    · rw [nI_1]
      exact ih (Or.inl ((and0 (by omega)).mp y))
    · rw [nI_clamp (by omega), (hA.2 t htt).1]
      refine ⟨hv, fun y2 => bP_isSiphon_34 ?_, fun y2 => bP_isSiphon_32 ?_⟩
      · rw [nI_1]
        refine ih (Or.inr ?_)
        cases e : Nat.beq (tS m t &&& S) 0 with
        | false => rfl
        | true => exact absurd ((and0 (by omega)).mpr e) y2
      · have : sp m S = false := by
          unfold sp sip
          refine al_no.mpr ⟨t, htt, ?_⟩
          rw [(and0 (by omega)).mp y2]
          cases e : Nat.beq (gS m t &&& S) 0 with
          | false => rfl
          | true => exact absurd ((and0 (by omega)).mpr e) y
        rw [this] at h
        exact h
/-- what is left of S while parts that are not held go -/
def hiv (m : Nat → Nat) (S R : Nat) : Prop := R < 1024 ∧ R &&& S = R ∧ ∀ T, T &&& S = T → sip (gS m) (tS m) (m 1) T = true → T &&& R = T
theorem hiv_s {S R t : Nat} (ht : t < m 1) (hR : hiv m S R) (hl : lks m R t) : hiv m S (cmp R (tS m t)) := by
  refine ⟨Nat.lt_of_le_of_lt cmp_le hR.1, sub_iff.mpr fun i hi => ?_, fun T h1 h2 => sub_iff.mpr fun i hi => ?_⟩
  · rw [cmp_tb hR.1, Bool.and_eq_true] at hi
    exact sub_iff.mp hR.2.1 i hi.1
  · have hTR := hR.2.2 T h1 h2
    have g0 : gS m t &&& T = 0 := by
      refine Nat.eq_of_testBit_eq fun j => ?_
      rw [Nat.testBit_and, Nat.zero_testBit]
      cases e : T.testBit j with
      | false => exact Bool.and_false _
      | true => rw [and_meet0 hl.2 (sub_iff.mp hTR j e)]; rfl
    have t0 : tS m t &&& T = 0 := Classical.byContradiction fun c => kpt_iff.mp h2 t ht ⟨c, g0⟩
    rw [cmp_tb hR.1, sub_iff.mp hTR i hi, and_meet0 t0 hi]
    rfl
theorem hiv_0 {S : Nat} (hS : S < 1024) : hiv m S S := ⟨hS, sub_refl, fun _ h _ => h⟩
theorem szS_10 {S : Nat} : szS S ≤ 10 := cn_le 10
theorem hiv_keep {S R R' : Nat} (hR : hiv m S R) (hk : sip (gS m) (tS m) (m 1) R = true) (hR' : hiv m S R') : szS R ≤ szS R' := by
  have hRR : R &&& R' = R := hR'.2.2 R hR.2.1 hk
  exact cn_mono 10 (fun k _ hk => sub_iff.mp hRR k hk)
theorem kpt_0 : sip (gS m) (tS m) (m 1) 0 = true := kpt_iff.mpr fun t _ hl => hl.1 (Nat.and_zero _)
/-- one round over the steps -/
theorem c_held_in {S R r : Nat} (h1 : m 1 ≤ 8) (hA : aP0 I m) (ih : ∀ R', hiv m S R' → (szS R' < szS R ∨ (R' = R ∧ sip (gS m) (tS m) (m 1) R = true)) → kW sh kp 210 64 [some (.ref 62), none, some (.int (nI R')), some (.int (nI r)), none] [] (I, L, kr q w r1 r2) K) : ∀ k t R', t + k = m 1 → hiv m S R' → (szS R' < szS R ∨ (R' = R ∧ ∀ u, u < t → ¬ lks m R u)) → kW sh kp 210 13 [some (.ref 62), none, some (.int (nI R')), some (.int (nI r)), some (.int (nI t))] [] (I, L, kr q w r1 r2) K
  | 0, t, R', ht, hR', hs' => bP_heldPart_13 (pk_le (m 1) t (fun _ => ih R' hR' (hs'.imp id fun g => ⟨g.1, kpt_iff.mpr fun u hu => g.2 u (by omega)⟩)) (fun y => absurd y (by omega)) hA.1)
  | k + 1, t, R', ht, hR', hs' => by
    have htt : t < m 1 := by omega
    have b := tS_lt (m := m) (t := t)
    have hv : vp_in (nI t) 8 := vp_in_nI (by omega) (by decide)
    have same : ¬ lks m R' t → kW sh kp 210 58 [some (.ref 62), none, some (.int (nI R')), some (.int (nI r)), some (.int (nI t))] [] (I, L, kr q w r1 r2) K := fun nl => bP_heldPart_58 (by
      rw [nI_1]
      refine c_held_in h1 hA ih k (t + 1) R' (by omega) hR' (hs'.imp id fun g => ⟨g.1, fun u hu => ?_⟩)
      by_cases e : u = t
      · rw [e, ← g.1]
        exact nl
      · exact g.2 u (by omega))
    refine bP_heldPart_13 (pk_le (m 1) t (fun y => absurd y (by omega)) (fun _ => bP_heldPart_22 ?_) hA.1)
    rw [nI_clamp (by omega), (hA.2 t htt).1]
    refine ⟨hv, fun y => same fun hl => hl.1 (beq_iff.mp ((and0 (by omega)).mp y)), fun y => bP_heldPart_34 ?_⟩
    rw [nI_clamp (by omega), (hA.2 t htt).2]
    refine ⟨hv, fun y2 => same fun hl => y2 ((and0 (by omega)).mpr (beq_iff.mpr hl.2)), fun y2 => bP_heldPart_46 ?_⟩
    rw [nI_clamp (by omega), (hA.2 t htt).1]
    have hl : lks m R' t := ⟨fun e => y ((and0 (by omega)).mpr (beq_iff.mpr e)), beq_iff.mp ((and0 (by omega)).mp y2)⟩
    refine ⟨hv, bP_heldPart_58 ?_⟩
    rw [cmp_I, nI_1]
    have hd := szS_lt hR'.1 hl.1
    refine c_held_in h1 hA ih k (t + 1) _ (by omega) (hiv_s htt hR' hl) (Or.inl ?_)
    rcases hs' with g | g
    · omega
    · rw [g.1] at hd ⊢
      exact hd
theorem c_held_out {S : Nat} (h1 : m 1 ≤ 8) (hA : aP0 I m) (h : K (some (.int (nI (hld m S)))) (I, L, kr q w r1 r2)) : ∀ k r R, r + k = 10 → hiv m S R → (sip (gS m) (tS m) (m 1) R = true ∨ szS R + r ≤ 10) → kW sh kp 210 4 [some (.ref 62), none, some (.int (nI R)), some (.int (nI r)), none] [] (I, L, kr q w r1 r2) K
  | 0, r, R, hr, hR, hs => by
    have hk : sip (gS m) (tS m) (m 1) R = true := by
      rcases hs with g | g
      · exact g
      · have := szS_0 hR.1 (by omega)
        rw [this]
        exact kpt_0
    rw [hld_eq hR.2.1 hk hR.2.2] at h
    exact bP_heldPart_4 (pk_le 10 r (fun _ => bP_heldPart_70 h) (fun y => absurd y (by omega)))
  | k + 1, r, R, hr, hR, hs => by
    refine bP_heldPart_4 (pk_le 10 r (fun y => absurd y (by omega)) (fun _ => bP_heldPart_10 ?_))
    refine c_held_in (S := S) (R := R) h1 hA (fun R' hR' hs' => bP_heldPart_64 ?_) (m 1) 0 R (by omega) hR (Or.inr ⟨rfl, fun u hu => absurd hu (by omega)⟩)
    rw [nI_1]
    refine c_held_out h1 hA h k (r + 1) R' (by omega) hR' ?_
    rcases hs' with g | g
    · rcases hs with g2 | g2
      · exact absurd g (Nat.not_lt.mpr (hiv_keep hR g2 hR'))
      · exact Or.inr (by omega)
    · rw [g.1]
      exact Or.inl g.2
theorem c_heldPart {S : Nat} (h1 : m 1 ≤ 8) (hS : S < 1024) (hA : aP0 I m) (h : K (some (.int (nI (hld m S)))) (I, L, kr q w r1 r2)) : kC sh kp 210 [.ref 62, .int (nI S)] (I, L, kr q w r1 r2) K :=
  ⟨rfl, bP_heldPart_0 (c_held_out h1 hA h 10 0 S rfl (hiv_0 hS) (Or.inr (by have := szS_10 (S := S); omega)))⟩
theorem orr_p {g : Nat → Nat} {P : Nat → Prop} (h0 : P 0) (ho : ∀ a b, P a → P b → P (a ||| b)) : ∀ n, (∀ k, k < n → P (g k)) → P (orr g n)
  | 0, _ => h0
  | n + 1, h => ho _ _ (orr_p h0 ho n (fun k hk => h k (by omega))) (h n (by omega))
/-- what is held is a kept part -/
theorem hld_p {S : Nat} : hld m S &&& S = hld m S ∧ sip (gS m) (tS m) (m 1) (hld m S) = true := by
  refine orr_p (P := fun R => R &&& S = R ∧ sip (gS m) (tS m) (m 1) R = true) ⟨Nat.zero_and _, kpt_0⟩ (fun a b ha hb => ⟨sub_iff.mpr fun i hi => ?_, kpt_iff.mpr fun t ht hl => ?_⟩) (S + 1) (fun k _ => ?_)
  · rw [Nat.testBit_or, Bool.or_eq_true] at hi
    rcases hi with g | g
    · exact sub_iff.mp ha.1 i g
    · exact sub_iff.mp hb.1 i g
  · obtain ⟨i, i1, i2⟩ := and_meet hl.1
    have go : ∀ c, sip (gS m) (tS m) (m 1) c = true → c.testBit i = true → (∀ j, c.testBit j = true → (a ||| b).testBit j = true) → False := fun c hc hi hs => by
      refine kpt_iff.mp hc t ht ⟨fun e => ?_, Nat.eq_of_testBit_eq fun j => ?_⟩
      · rw [and_meet0 e hi] at i1
        exact absurd i1 (by decide)
      · rw [Nat.testBit_and, Nat.zero_testBit]
        cases e : c.testBit j with
        | false => exact Bool.and_false _
        | true => rw [and_meet0 hl.2 (hs j e)]; rfl
    rw [Nat.testBit_or, Bool.or_eq_true] at i2
    rcases i2 with g | g
    · exact go a ha.2 g (fun j e => by rw [Nat.testBit_or, e]; rfl)
    · exact go b hb.2 g (fun j e => by rw [Nat.testBit_or, e, Bool.or_true])
  · show cond _ k 0 &&& S = cond _ k 0 ∧ sip _ _ _ (cond _ k 0) = true
    cases e : (Nat.beq (k &&& S) k && sip (gS m) (tS m) (m 1) k) with
    | false => exact ⟨Nat.zero_and _, kpt_0⟩
    | true =>
      rw [Bool.and_eq_true, beq_iff] at e
      exact e
theorem c_isTrap {S : Nat} (h1 : m 1 ≤ 8) (hS : S < 1024) (hA : aP0 I m) (h : K (some (.int (cond (sip (gS m) (tS m) (m 1) S) 1 0))) (I, L, kr q w r1 r2)) : kC sh kp 209 [.ref 62, .int (nI S)] (I, L, kr q w r1 r2) K := by
  refine ⟨rfl, bP_isTrap_0 (c_heldPart h1 hS hA (bP_isTrap_5 ?_))⟩
  cases e : sip (gS m) (tS m) (m 1) S with
  | true =>
    rw [e] at h
    rw [hld_eq sub_refl e (fun T h _ => h)]
    exact ⟨fun y => absurd rfl y, fun _ => bP_isTrap_9 (bP_isTrap_14 ⟨Or.inr rfl, h⟩)⟩
  | false =>
    rw [e] at h
    refine ⟨fun _ => bP_isTrap_13 (bP_isTrap_14 ⟨Or.inl rfl, h⟩), fun y => ?_⟩
    have l := sub_le (hld_p (m := m) (S := S)).1
    have e2 : hld m S = S := (nI_eq (by omega) (by omega)).mp y
    have := (hld_p (m := m) (S := S)).2
    rw [e2, e] at this
    exact absurd this (by decide)
end CSIP
