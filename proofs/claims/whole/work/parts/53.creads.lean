/-! TEXTS: the class's reader -/
/-- the text, where the reader stands, its fault -/
def tR (I : Nat → Nat → Int32) (tx : Nat → Nat) (z a f : Nat) : Prop := I 67 1 = nI z ∧ (∀ i, i < z → I 68 i = nI (tx i)) ∧ I 67 3 = nI a ∧ I 67 2 = sI f
def chI (tx : Nat → Nat) (z a : Nat) : Int32 := if a < z then nI (tx a) else -1
/-- only where the reader stands, and its fault -/
def fT (I I' : Nat → Nat → Int32) : Prop := ∀ a k, (a = 67 → k ≠ 2 ∧ k ≠ 3) → I' a k = I a k
theorem fT_refl {I : Nat → Nat → Int32} : fT I I := fun _ _ _ => rfl
theorem fT_trans {I I1 I2 : Nat → Nat → Int32} (h : fT I I1) (h2 : fT I1 I2) : fT I I2 := fun a k z => (h2 a k z).trans (h a k z)
theorem cR_fT {I I' : Nat → Nat → Int32} {L : Nat → Nat → Int64} {m : Nat → Nat} (h : cR I L 1 m) (f : fT I I') : cR I' L 1 m := cR_fr (fun a k z1 z2 => f a k (fun e => absurd e (by omega))) (fun _ _ _ _ => rfl) h
theorem chI_c {tx : Nat → Nat} {z a c : Nat} (ht : ∀ i, i < z → tx i ≤ 127) (hc : c ≤ 127) : chI tx z a = nI c ↔ chr tx z a = c := by
  unfold chI chr
  by_cases e : a < z
  · rw [if_pos e, if_pos e]
    have := ht a e
    exact nI_eq (by omega) (by omega)
  · rw [if_neg e, if_neg e]
    exact ⟨fun h => absurd h.symm (nI_m1 (by omega)), fun h => by omega⟩
theorem chI_int {tx : Nat → Nat} {z a : Nat} (ht : ∀ i, i < z → tx i ≤ 127) : (chI tx z a).toInt = if a < z then (tx a : Int) else -1 := by
  unfold chI
  by_cases e : a < z
  · rw [if_pos e, if_pos e]
    have := ht a e
    exact nI_toInt (by omega)
  · rw [if_neg e, if_neg e]
    decide
theorem okr_ch {tx : Nat → Nat} {z a lo hi : Nat} (ht : ∀ i, i < z → tx i ≤ 127) (hh : hi ≤ 127) : okr (chI tx z a) lo hi = (decide (lo ≤ chr tx z a) && decide (chr tx z a ≤ hi)) := by
  unfold okr
  rw [chI_int ht]
  unfold chr
  by_cases e : a < z
  · rw [if_pos e, if_pos e]
    congr 1
    · exact decide_eq_decide.mpr (by omega)
    · exact decide_eq_decide.mpr (by omega)
  · rw [if_neg e, if_neg e]
    have a1 : decide ((lo : Int) ≤ -1) = false := decide_eq_false (by omega)
    have a2 : decide (128 ≤ hi) = false := decide_eq_false (by omega)
    rw [a1, a2, Bool.and_false]
    rfl
section CREADS
variable {I : Nat → Nat → Int32} {L : Nat → Nat → Int64} {q r1 r2 : Nat → Nat} {w : Bool} {K : km_K} {m tx : Nat → Nat} {z a f : Nat}
theorem tR_up {v : Nat} (h : tR I tx z a f) : tR (km_up I 67 3 (nI v)) tx z v f := ⟨by rw [up_k (by decide)]; exact h.1, fun i hi => by rw [up_a (by decide)]; exact h.2.1 i hi, up_s, by rw [up_k (by decide)]; exact h.2.2.2⟩
theorem fT_up {v : Int32} : fT I (km_up I 67 3 v) := fun a k z => by
  by_cases e : a = 67
  · exact up_k (z e).2
  · exact up_a e
theorem t_skip (hT : tR I tx z a f) (hz : z ≤ 120) (ht : ∀ i, i < z → tx i ≤ 127) (ha : a ≤ z) (h : ∀ I', fT I I' → tR I' tx z (sk tx z a) f → K none (I', L, kr q w r1 r2)) : kC sh kp 186 [.ref 67] (I, L, kr q w r1 r2) K := by
  refine ⟨rfl, ?_⟩
  have key : ∀ k b, b + k = z → ∀ I', fT I I' → tR I' tx z b f → sk tx z b = sk tx z a → kW sh kp 186 0 [some (.ref 67)] [] (I', L, kr q w r1 r2) K := fun k => by
    induction k with
    | zero =>
      intro b hb I' g1 g2 g3
      refine bT_skipSpaces_0 ?_
      rw [g2.1, g2.2.2.1]
      refine pk_le z b (fun _ => bT_skipSpaces_38 (h I' g1 ?_)) (fun y => absurd y (by omega))
      rw [← g3, sk_id (by omega)]
      exact g2
    | succ k ih =>
      intro b hb I' g1 g2 g3
      refine bT_skipSpaces_0 ?_
      rw [g2.1, g2.2.2.1]
      refine pk_le z b (fun y => absurd y (by omega)) (fun _ => bT_skipSpaces_11 ?_)
      have tb := ht b (by omega)
      rw [g2.2.2.1, nI_clamp (by omega), g2.2.1 b (by omega)]
      refine ⟨vp_in_nI (by omega) (by decide), (pk_eq (tx b) 32 (fun y => bT_skipSpaces_25 ?_) (fun y => bT_skipSpaces_38 (h I' g1 ?_))).symm⟩
      · rw [g2.2.2.1, nI_1]
        exact ih (b + 1) (by omega) _ (fT_trans g1 fT_up) (tR_up g2) ((sk_s ⟨by omega, y⟩).symm.trans g3)
      · rw [← g3, sk_id (fun x => y x.2)]
        exact g2
  exact key (z - a) a (by omega) I fT_refl hT rfl
theorem t_next (hT : tR I tx z a f) (hz : z ≤ 120) (ha : a ≤ z) (h : K (some (.int (chI tx z a))) (I, L, kr q w r1 r2)) : kC sh kp 187 [.ref 67] (I, L, kr q w r1 r2) K := by
  refine ⟨rfl, bT_next_0 ?_⟩
  rw [hT.1, hT.2.2.1]
  unfold chI at h
  refine pk_le z a (fun y => bT_next_23 (bT_next_24 ?_)) (fun y => bT_next_11 ?_)
  · rw [if_neg (by omega)] at h
    exact h
  · rw [if_pos y] at h
    rw [hT.2.2.1, nI_clamp (by omega), hT.2.1 a y]
    exact ⟨vp_in_nI (by omega) (by decide), bT_next_24 h⟩
theorem t_isDigit (ht : ∀ i, i < z → tx i ≤ 127) (h : K (some (.int (cond (isd (chr tx z a)) 1 0))) (I, L, kr q w r1 r2)) : kC sh kp 188 [.int (chI tx z a)] (I, L, kr q w r1 r2) K := by
  refine ⟨rfl, bT_isDigit_0 (c_in (a := 48) (b := 57) rfl rfl (bT_isDigit_8 ⟨cb01, ?_⟩))⟩
  have e : okr (chI tx z a) 48 57 = isd (chr tx z a) := okr_ch (lo := 48) (hi := 57) ht (by decide)
  rw [e]
  exact h
theorem t_fail {p : Nat} (hT : tR I tx z a f) (hf : f < 1000) (h : ∀ I', fT I I' → tR I' tx z a (fl f p) → K none (I', L, kr q w r1 r2)) : kC sh kp 189 [.ref 67, .int (nI p)] (I, L, kr q w r1 r2) K := by
  refine ⟨rfl, bT_fail_0 ?_⟩
  rw [hT.2.2.2]
  refine ⟨fun y => bT_fail_13 (h I fT_refl ?_), fun y => bT_fail_8 (bT_fail_13 (h _ ?_ ?_))⟩
  · have f0 : f ≠ 0 := fun e => y (by rw [e]; rfl)
    rw [fl_0 f0]
    exact hT
  · intro a k e
    by_cases e1 : a = 67
    · exact up_k (e e1).1
    · exact up_a e1
  · have f0 : f = 0 := (sI_m1 (by omega)).mp y
    refine ⟨by rw [up_k (by decide)]; exact hT.1, fun i hi => by rw [up_a (by decide)]; exact hT.2.1 i hi, by rw [up_k (by decide)]; exact hT.2.2.1, ?_⟩
    rw [up_s, f0]
    show nI p = sI (if 0 = 0 then p + 1 else 0)
    rw [if_pos rfl, sI_s (by omega)]
    rfl
theorem t_digit {lo hi : Nat} (hl : lo ≤ 9) (hh : hi ≤ 10) (hT : tR I tx z a f) (hz : z ≤ 120) (ht : ∀ i, i < z → tx i ≤ 127) (ha : a ≤ z) (hf : f ≤ z + 1) (h : ∀ I', fT I I' → tR I' tx z (da tx z lo hi a) (df tx z lo hi a f) → K (some (.int (nI (dv tx z lo hi a)))) (I', L, kr q w r1 r2)) : kC sh kp 184 [.ref 67, .int (nI lo), .int (nI hi - 1)] (I, L, kr q w r1 r2) K := by
  refine ⟨rfl, bT_readDigit_0 (t_next hT hz ha (bT_readDigit_4 ?_))⟩
  unfold dv da df at h
  refine c_in (a := lo) (b := (hi : Int) - 1) (nI_toInt (by omega)) (nIm (by omega)) (bT_readDigit_14 ?_)
  have e : okr (chI tx z a - 48) lo ((hi : Int) - 1) = okd tx z lo hi a := by
    have e1 : (chI tx z a - 48).toInt = (if a < z then (tx a : Int) else -1) - 48 := by
      unfold chI
      by_cases y : a < z
      · rw [if_pos y, if_pos y]
        have := ht a y
        exact pk_sub_toInt (b := 48) (by omega) (by decide)
      · rw [if_neg y, if_neg y]
        decide
    unfold okr okd chr
    rw [e1]
    by_cases y : a < z
    · rw [if_pos y, if_pos y]
      congr 1
      · exact decide_eq_decide.mpr (by omega)
      · exact decide_eq_decide.mpr (by omega)
    · rw [if_neg y, if_neg y]
      have a1 : decide ((lo : Int) ≤ -1 - 48) = false := decide_eq_false (by omega)
      have a2 : decide (128 < 48 + hi) = false := decide_eq_false (by omega)
      rw [a1, a2, Bool.and_false]
      rfl
  rw [e]
  refine cb1 (fun y => bT_readDigit_27 ?_) (fun y => bT_readDigit_17 ?_)
  · rw [y] at h
    have y1 := okd_t y
    have y2 := okd_lt hh y
    have ec : chr tx z a = tx a := if_pos y2
    rw [hT.2.2.1, nI_1]
    have hv : chI tx z a - 48 = nI (chr tx z a - 48) := by
      unfold chI
      rw [if_pos y2, ec]
      exact pk_sub (b := 48) (by omega)
    rw [hv]
    exact h _ fT_up (tR_up hT)
  · rw [y] at h
    rw [hT.2.2.1]
    exact t_fail hT (by omega) fun I' g1 g2 => bT_readDigit_25 (h I' g1 g2)
end CREADS
