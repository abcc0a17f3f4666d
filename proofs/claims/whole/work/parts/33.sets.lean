/-! SETS OF PLACES: stuck and kept, the reference's tests -/
/-- no step gives to the set without taking of it -/
def sip (ti gi : Nat → Nat) (n S : Nat) : Bool := al n fun t => Nat.beq (gi t &&& S) 0 || ! Nat.beq (ti t &&& S) 0
theorem al_s {P : Nat → Bool} {n : Nat} : al (n + 1) P = (al n P && P n) := by
  unfold al
  rw [List.range_succ, List.all_append]
  simp
theorem and0 {a b : Nat} (h : a < 2 ^ 31) : (nI a &&& nI b = 0 ↔ Nat.beq (a &&& b) 0 = true) := by
  have hl : a &&& b ≤ a := Nat.and_le_left
  rw [fa_and, beq_iff]
  exact nI_eq (b := 0) (by omega) (by decide)
section SETS
variable {I : Nat → Nat → Int32} {L : Nat → Nat → Int64} {q r1 r2 : Nat → Nat} {w : Bool} {K : km_K} {m : Nat → Nat}
theorem m_isStuck {ti gi : Nat → Nat} {S : Nat} (hn : nN I m) (hs : m 1 ≤ 8) (hb : ∀ t, ti t < 1024 ∧ gi t < 1024) (ht : ∀ t, t < m 1 → I 83 t = nI (ti t) ∧ I 84 t = nI (gi t)) (h : K (some (.int (cond (sip ti gi (m 1) S) 1 0))) (I, L, kr q w r1 r2)) : kC sh kp 118 [.ref 71, .int (nI S)] (I, L, kr q w r1 r2) K := by
  have e1 : I 72 (1 : Int32).toNatClampNeg = nI (m 1) := by
    rw [cl1]
    exact hn 1 (by decide)
  refine ⟨rfl, bM_isStuck_0 (up0 (Pr := fun t => kW sh kp 118 4 [some (.ref 71), some (.int (nI S)), some (.int (cond (sip ti gi t S) 1 0)), some (.int (nI t))] [] (I, L, kr q w r1 r2) K) (e := m 1) ?_ fun t htt ih => ?_)⟩
  · refine bM_isStuck_4 ⟨pk_in 1 212 (by decide), pk_le (m 1) (m 1) (fun _ => bM_isStuck_52 ⟨?_, h⟩) (fun g => absurd g (by omega)) e1⟩
    cases sip ti gi (m 1) S with
    | false => exact Or.inl rfl
    | true => exact Or.inr rfl
  · have hv : vp_in (nI t) 8 := vp_in_nI (by omega) (by decide)
    have a := ht t htt
    have b := hb t
    have es : sip ti gi (t + 1) S = (sip ti gi t S && (Nat.beq (gi t &&& S) 0 || ! Nat.beq (ti t &&& S) 0)) := al_s
    rw [es] at ih
    have go : ∀ x : Bool, x = (sip ti gi t S && (Nat.beq (gi t &&& S) 0 || ! Nat.beq (ti t &&& S) 0)) → kW sh kp 118 45 [some (.ref 71), some (.int (nI S)), none, some (.int (nI t))] [.int (cond x 1 0)] (I, L, kr q w r1 r2) K := fun x hx => bM_isStuck_45 (by
      rw [nI_1, hx]
      exact ih)
    refine bM_isStuck_4 ⟨pk_in 1 212 (by decide), pk_le (m 1) t (fun g => absurd g (by omega)) (fun _ => bM_isStuck_14 ?_) e1⟩
    cases z : sip ti gi t S with
    | false => exact ⟨fun _ => bM_isStuck_44 (go false (by rw [z]; rfl)), fun g => absurd rfl g⟩
    | true =>
      refine ⟨fun g => absurd g (by decide), fun _ => bM_isStuck_18 ?_⟩
      rw [nI_clamp (by omega), a.2]
      refine ⟨hv, fun g => bM_isStuck_40 (go true ?_), fun g => bM_isStuck_29 ?_⟩
      · rw [z, (and0 (by omega)).mp g]
        rfl
      · have g2 : Nat.beq (gi t &&& S) 0 = false := Bool.eq_false_iff.mpr fun y => g ((and0 (by omega)).mpr y)
        rw [nI_clamp (by omega), a.1]
        refine ⟨hv, fun g3 => bM_isStuck_44 (go false ?_), fun g3 => bM_isStuck_40 (go true ?_)⟩
        · rw [z, g2, (and0 (by omega)).mp g3]
          rfl
        · have g4 : Nat.beq (ti t &&& S) 0 = false := Bool.eq_false_iff.mpr fun y => g3 ((and0 (by omega)).mpr y)
          rw [z, g2, g4]
          rfl
theorem m_isKept {ti gi : Nat → Nat} {S : Nat} (hn : nN I m) (hs : m 1 ≤ 8) (hb : ∀ t, ti t < 1024 ∧ gi t < 1024) (ht : ∀ t, t < m 1 → I 83 t = nI (ti t) ∧ I 84 t = nI (gi t)) (h : K (some (.int (cond (sip gi ti (m 1) S) 1 0))) (I, L, kr q w r1 r2)) : kC sh kp 119 [.ref 71, .int (nI S)] (I, L, kr q w r1 r2) K := by
  have e1 : I 72 (1 : Int32).toNatClampNeg = nI (m 1) := by
    rw [cl1]
    exact hn 1 (by decide)
  refine ⟨rfl, bM_isKept_0 (up0 (Pr := fun t => kW sh kp 119 4 [some (.ref 71), some (.int (nI S)), some (.int (cond (sip gi ti t S) 1 0)), some (.int (nI t))] [] (I, L, kr q w r1 r2) K) (e := m 1) ?_ fun t htt ih => ?_)⟩
  · refine bM_isKept_4 ⟨pk_in 1 212 (by decide), pk_le (m 1) (m 1) (fun _ => bM_isKept_52 ⟨?_, h⟩) (fun g => absurd g (by omega)) e1⟩
    cases sip gi ti (m 1) S with
    | false => exact Or.inl rfl
    | true => exact Or.inr rfl
  · have hv : vp_in (nI t) 8 := vp_in_nI (by omega) (by decide)
    have a := ht t htt
    have b := hb t
    have es : sip gi ti (t + 1) S = (sip gi ti t S && (Nat.beq (ti t &&& S) 0 || ! Nat.beq (gi t &&& S) 0)) := al_s
    rw [es] at ih
    have go : ∀ x : Bool, x = (sip gi ti t S && (Nat.beq (ti t &&& S) 0 || ! Nat.beq (gi t &&& S) 0)) → kW sh kp 119 45 [some (.ref 71), some (.int (nI S)), none, some (.int (nI t))] [.int (cond x 1 0)] (I, L, kr q w r1 r2) K := fun x hx => bM_isKept_45 (by
      rw [nI_1, hx]
      exact ih)
    refine bM_isKept_4 ⟨pk_in 1 212 (by decide), pk_le (m 1) t (fun g => absurd g (by omega)) (fun _ => bM_isKept_14 ?_) e1⟩
    cases z : sip gi ti t S with
    | false => exact ⟨fun _ => bM_isKept_44 (go false (by rw [z]; rfl)), fun g => absurd rfl g⟩
    | true =>
      refine ⟨fun g => absurd g (by decide), fun _ => bM_isKept_18 ?_⟩
      rw [nI_clamp (by omega), a.1]
      refine ⟨hv, fun g => bM_isKept_40 (go true ?_), fun g => bM_isKept_29 ?_⟩
      · rw [z, (and0 (by omega)).mp g]
        rfl
      · have g2 : Nat.beq (ti t &&& S) 0 = false := Bool.eq_false_iff.mpr fun y => g ((and0 (by omega)).mpr y)
        rw [nI_clamp (by omega), a.2]
        refine ⟨hv, fun g3 => bM_isKept_44 (go false ?_), fun g3 => bM_isKept_40 (go true ?_)⟩
        · rw [z, g2, (and0 (by omega)).mp g3]
          rfl
        · have g4 : Nat.beq (gi t &&& S) 0 = false := Bool.eq_false_iff.mpr fun y => g3 ((and0 (by omega)).mpr y)
          rw [z, g2, g4]
          rfl
end SETS
