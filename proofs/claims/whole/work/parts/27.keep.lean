/-! KEPT STATES -/
def isKp (x : Nat) : Prop := x = 14 ∨ x = 20 ∨ x = 26 ∨ x = 32 ∨ x = 38
def kq (q : Nat → Nat) : Prop := (∀ i, i < 5 → isKp (q i)) ∧ ∀ i j, i < 5 → j < 5 → i ≠ j → q i ≠ q j
theorem kp_st {x : Nat} (h : isKp x) : isSt x := by
  unfold isKp at h
  unfold isSt
  omega
theorem kr_up13 {q r1 r2 : Nat → Nat} {w : Bool} {j v : Nat} : km_up (kr q w r1 r2) 13 j v = kr (ups q j v) w r1 r2 := funext fun a => funext fun k => by
  by_cases e : a = 13
  · subst e
    show (if 13 = 13 ∧ k = j then v else q k) = if k = j then v else q k
    by_cases z : k = j
    · rw [if_pos ⟨rfl, z⟩, if_pos z]
    · rw [if_neg (fun y => z y.2), if_neg z]
  · rw [up_a e]
    unfold kr
    have e1 : Nat.beq a 13 = false := by
      cases z : Nat.beq a 13 with
      | false => rfl
      | true => exact absurd (Nat.eq_of_beq_eq_true z) e
    rw [e1]
    rfl
/-- what stays when a state is kept -/
def fK (I : Nat → Nat → Int32) (L : Nat → Nat → Int64) (I' : Nat → Nat → Int32) (L' : Nat → Nat → Int64) : Prop := (∀ a k, (a < 14 ∨ 43 < a) → (a = 0 → k ≠ 3) → I' a k = I a k) ∧ ∀ a k, (a < 14 ∨ 43 < a) → L' a k = L a k
def rot (q : Nat → Nat) (i k : Nat) : Nat := if k + 1 < i then q (k + 1) else q k
theorem rot_1 {q : Nat → Nat} : rot q 1 = q := funext fun k => if_neg (by omega)
theorem rot_s {q : Nat → Nat} {i : Nat} : ups (rot q (i + 1)) i (rot q (i + 1) (i + 1)) = rot q (i + 2) := funext fun k => by
  unfold ups rot
  by_cases e : k = i
  · rw [if_pos e, if_neg (by omega), if_pos (by omega), e]
  · rw [if_neg e]
    by_cases z : k + 1 < i + 1
    · rw [if_pos z, if_pos (by omega)]
    · rw [if_neg z, if_neg (by omega)]
theorem kq_rot {q : Nat → Nat} (h : kq q) : kq (ups (rot q 5) 4 (q 0)) := by
  have e : ∀ i, i < 5 → ups (rot q 5) 4 (q 0) i = q (if i = 4 then 0 else i + 1) := fun i hi => by
    unfold ups rot
    by_cases z : i = 4
    · rw [if_pos z, if_pos z]
    · rw [if_neg z, if_neg z, if_pos (by omega)]
  refine ⟨fun i hi => ?_, fun i j hi hj hij => ?_⟩
  · rw [e i hi]
    exact h.1 _ (by split <;> omega)
  · rw [e i hi, e j hj]
    refine h.2 _ _ (by split <;> omega) (by split <;> omega) ?_
    split <;> split <;> omega
section KEEP
variable {I : Nat → Nat → Int32} {L : Nat → Nat → Int64} {q r1 r2 : Nat → Nat} {w : Bool} {K : km_K} {m : Nat → Nat}
theorem c_keep_54 {n : Nat} {ms : Nat → Nat → Nat} (hq : kq q) (hn : n < 5) (hw : wb m) (hc : I 0 3 = nI n) (hR : cR I L 1 m) (hk : ∀ i, i < n → cR I L (q i) (ms i)) (h : ∀ I' L', fK I L I' L' → I' 0 3 = nI (n + 1) → (∀ i, i < n + 1 → cR I' L' (q i) (if i = n then m else ms i)) → K none (I', L', kr q w r1 r2)) : kW sh kp 45 54 [some (.ref 0), some (.ref 1), none, none] [] (I, L, kr q w r1 r2) K := by
  have e1 : (I 0 3).toNatClampNeg = n := by rw [hc, nI_clamp (by omega)]
  have hqn := hq.1 n hn
  refine bX_keep_n_54 ⟨by rw [hc]; exact vp_in_nI hn (by decide), ?_, ?_⟩
  · rw [e1]
    exact (st_sh (kp_st hqn)).1
  · rw [e1]
    show kC sh kp 211 [.ref (q n), .ref 1] _ _
    have hb : 14 ≤ q n ∧ q n ≤ 38 := by
      unfold isKp at hqn
      omega
    refine c_copy (m := m) (kp_st hqn) (Or.inl rfl) (by omega) hw.2.1 hw.2.2.1 hw.2.2.2.1 hR fun I' L' f1 f2 f3 => bX_keep_n_67 ?_
    have e3 : I' 0 3 = nI n := (f1 0 3 (by omega)).trans hc
    rw [e3, nI_1]
    refine h _ _ ⟨fun a k ha hz => ?_, fun a k ha => f2 a k (by omega)⟩ up_s fun i hi => ?_
    · by_cases ea : a = 0
      · rw [up_k (hz ea)]
        exact f1 a k (by omega)
      · rw [up_a ea]
        exact f1 a k (by omega)
    · by_cases ei : i = n
      · rw [if_pos ei, ei]
        exact cR_fr (fun a k z1 z2 => up_a (by omega)) (fun _ _ _ _ => rfl) f3
      · rw [if_neg ei]
        have hqi := hq.1 i (by omega)
        have hdi := st_dis (kp_st hqi) (kp_st hqn) (hq.2 i n (by omega) hn ei)
        have hbi : 14 ≤ q i := by
          unfold isKp at hqi
          omega
        refine cR_fr (fun a k z1 z2 => ?_) (fun a k z1 z2 => f2 a k (by omega)) (hk i (by omega))
        rw [up_a (by omega)]
        exact f1 a k (by omega)
theorem c_keep {n : Nat} {ms : Nat → Nat → Nat} (hq : kq q) (hn : n ≤ 5) (hw : wb m) (hc : I 0 3 = nI n) (hR : cR I L 1 m) (hk : ∀ i, i < n → cR I L (q i) (ms i))
    (h1 : n < 5 → ∀ I' L', fK I L I' L' → I' 0 3 = nI (n + 1) → (∀ i, i < n + 1 → cR I' L' (q i) (if i = n then m else ms i)) → K none (I', L', kr q w r1 r2))
    (h2 : n = 5 → ∀ I' L' q', kq q' → fK I L I' L' → I' 0 3 = nI 5 → (∀ i, i < 5 → cR I' L' (q' i) (if i = 4 then m else ms (i + 1))) → K none (I', L', kr q' w r1 r2)) : kC sh kp 45 [.ref 0, .ref 1] (I, L, kr q w r1 r2) K := by
  refine ⟨rfl, bX_keep_n_0 (pk_lt n 5 (fun g => c_keep_54 hq g hw hc hR hk (h1 g)) (fun g => bX_keep_n_8 ⟨pk_in 0 5 (by decide), ?_⟩) hc)⟩
  have hn5 : n = 5 := by omega
  rw [cl0]
  show kW sh kp 45 17 [some (.ref 0), some (.ref 1), some (.ref (q 0)), some (.int 1)] [] _ K
  have key := up0 (Pr := fun i => kW sh kp 45 17 [some (.ref 0), some (.ref 1), some (.ref (q 0)), some (.int (nI (i + 1)))] [] (I, L, kr (rot q (i + 1)) w r1 r2) K) (e := 4) ?_ fun i hi ih => ?_
  · rw [rot_1] at key
    exact key
  · refine bX_keep_n_17 (pk_le 5 5 (fun _ => bX_keep_n_42 ⟨(st_sh (kp_st (hq.1 0 (by decide)))).1, pk_in 4 5 (by decide), ?_⟩) (fun g => absurd g (by omega)))
    rw [kr_up13, show (4 : Int32).toNatClampNeg = 4 from pk_cl 4]
    refine c_keep_54 (n := 4) (m := m) (ms := fun i => ms (i + 1)) (kq_rot hq) (by decide) hw up_s (cR_fr (fun a k z1 z2 => up_a (by omega)) (fun _ _ _ _ => rfl) hR) (fun i hi => ?_) fun I' L' f1 f2 f3 => h2 hn5 I' L' _ (kq_rot hq) ⟨fun a k ha hz => ?_, f1.2⟩ f2 f3
    · have e : ups (rot q 5) 4 (q 0) i = q (i + 1) := by
        unfold ups rot
        rw [if_neg (by omega), if_pos (by omega)]
      rw [e]
      have hqi := hq.1 (i + 1) (by omega)
      have hbi : 14 ≤ q (i + 1) := by
        unfold isKp at hqi
        omega
      exact cR_fr (fun a k z1 z2 => up_a (by omega)) (fun _ _ _ _ => rfl) (hk (i + 1) (by omega))
    · rw [f1.1 a k ha hz]
      by_cases ea : a = 0
      · exact up_k (hz ea)
      · exact up_a ea
  · have hv : vp_in (nI (i + 1)) 5 := vp_in_nI (by omega) (by decide)
    have ec : (nI (i + 1)).toNatClampNeg = i + 1 := nI_clamp (by omega)
    have er : rot q (i + 1) (i + 1) = q (i + 1) := if_neg (by omega)
    refine bX_keep_n_17 (pk_le 5 (i + 1) (fun g => absurd g (by omega)) (fun _ => bX_keep_n_22 ⟨hv, ?_, ?_, ?_⟩))
    · rw [ec]
      show (sh (rot q (i + 1) (i + 1))).1 = 4
      rw [er]
      exact (st_sh (kp_st (hq.1 (i + 1) (by omega)))).1
    · rw [nI_pred]
      exact vp_in_nI (by omega) (by decide)
    · rw [nI_pred, nI_clamp (by omega), ec, kr_up13, nI_1]
      show kW sh kp 45 17 _ [] (I, L, kr (ups (rot q (i + 1)) i (rot q (i + 1) (i + 1))) w r1 r2) K
      rw [rot_s]
      exact ih
end KEEP
