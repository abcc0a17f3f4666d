/-! TEXTS: the class's reader -/
/-- the text, where the reader stands, its fault -/
def tR (I : Nat → Nat → Int32) (tx : Nat → Nat) (z a f : Nat) : Prop := I 67 1 = nI z ∧ (∀ i, i < z → I 68 i = nI (tx i)) ∧ I 67 3 = nI a ∧ I 67 2 = sI f
def chI (tx : Nat → Nat) (z a : Nat) : Int32 := if a < z then nI (tx a) else -1
/-- only where the reader stands, and its fault -/
def fT (I I' : Nat → Nat → Int32) : Prop := ∀ a k, (a = 67 → k ≠ 2 ∧ k ≠ 3) → I' a k = I a k
theorem fT_refl {I : Nat → Nat → Int32} : fT I I := fun _ _ _ => rfl
theorem fT_trans {I I1 I2 : Nat → Nat → Int32} (h : fT I I1) (h2 : fT I1 I2) : fT I I2 := fun a k z => (h2 a k z).trans (h a k z)
theorem cR_fT {I I' : Nat → Nat → Int32} {L : Nat → Nat → Int64} {m : Nat → Nat} (h : cR I L 1 m) (f : fT I I') : cR I' L 1 m := cR_fr (fun a k z1 z2 => f a k (fun e => absurd e (by omega))) (fun _ _ _ _ => rfl) h
theorem chI_c {tx : Nat → Nat} {z a c : Nat} (ht : ∀ i, i < z → tx i ≤ 127) (hc : c ≤ 127) : chI tx z a = nI c ↔ chr tx z a = c := by
  unfold chI chr
  by_cases e : a < z
  · rw [if_pos e, if_pos e]
    have := ht a e
    exact nI_eq (by omega) (by omega)
  · rw [if_neg e, if_neg e]
    exact ⟨fun h => absurd h.symm (nI_m1 (by omega)), fun h => by omega⟩
theorem chI_int {tx : Nat → Nat} {z a : Nat} (ht : ∀ i, i < z → tx i ≤ 127) : (chI tx z a).toInt = if a < z then (tx a : Int) else -1 := by
  unfold chI
  by_cases e : a < z
  · rw [if_pos e, if_pos e]
    have := ht a e
    exact nI_toInt (by omega)
  · rw [if_neg e, if_neg e]
    decide
theorem okr_ch {tx : Nat → Nat} {z a lo hi : Nat} (ht : ∀ i, i < z → tx i ≤ 127) (hh : hi ≤ 127) : okr (chI tx z a) lo hi = (decide (lo ≤ chr tx z a) && decide (chr tx z a ≤ hi)) := by
  unfold okr
  rw [chI_int ht]
  unfold chr
  by_cases e : a < z
  · rw [if_pos e, if_pos e]
    congr 1
    · exact decide_eq_decide.mpr (by omega)
    · exact decide_eq_decide.mpr (by omega)
  · rw [if_neg e, if_neg e]
    have a1 : decide ((lo : Int) ≤ -1) = false := decide_eq_false (by omega)
    have a2 : decide (128 ≤ hi) = false := decide_eq_false (by omega)
    rw [a1, a2, Bool.and_false]
    rfl
section CREADS
variable {I : Nat → Nat → Int32} {L : Nat → Nat → Int64} {q r1 r2 : Nat → Nat} {w : Bool} {K : km_K} {m tx : Nat → Nat} {z a f : Nat}
theorem tR_up {v : Nat} (h : tR I tx z a f) : tR (km_up I 67 3 (nI v)) tx z v f := ⟨by rw [up_k (by decide)]; exact h.1, fun i hi => by rw [up_a (by decide)]; exact h.2.1 i hi, up_s, by rw [up_k (by decide)]; exact h.2.2.2⟩
theorem fT_up {v : Int32} : fT I (km_up I 67 3 v) := fun a k z => by
  by_cases e : a = 67
  · exact up_k (z e).2
  · exact up_a e
theorem t_skip (hT : tR I tx z a f) (hz : z ≤ 120) (ht : ∀ i, i < z → tx i ≤ 127) (ha : a ≤ z) (h : ∀ I', fT I I' → tR I' tx z (sk tx z a) f → K none (I', L, kr q w r1 r2)) : kC sh kp 186 [.ref 67] (I, L, kr q w r1 r2) K := by
  refine ⟨rfl, ?_⟩
  have key : ∀ k b, b + k = z → ∀ I', fT I I' → tR I' tx z b f → sk tx z b = sk tx z a → kW sh kp 186 0 [some (.ref 67)] [] (I', L, kr q w r1 r2) K := fun k => by
    induction k with
    | zero =>
      intro b hb I' g1 g2 g3
      refine bT_skipSpaces_0 ?_
      rw [g2.1, g2.2.2.1]
      refine pk_le z b (fun _ => bT_skipSpaces_38 (h I' g1 ?_)) (fun y => absurd y (by omega))
      rw [← g3, sk_id (by omega)]
      exact g2
    | succ k ih =>
      intro b hb I' g1 g2 g3
      refine bT_skipSpaces_0 ?_
      rw [g2.1, g2.2.2.1]
      refine pk_le z b (fun y => absurd y (by omega)) (fun _ => bT_skipSpaces_11 ?_)
      have tb := ht b (by omega)
      rw [g2.2.2.1, nI_clamp (by omega), g2.2.1 b (by omega)]
      refine ⟨vp_in_nI (by omega) (by decide), (pk_eq (tx b) 32 (fun y => bT_skipSpaces_25 ?_) (fun y => bT_skipSpaces_38 (h I' g1 ?_))).symm⟩
      · rw [g2.2.2.1, nI_1]
        exact ih (b + 1) (by omega) _ (fT_trans g1 fT_up) (tR_up g2) ((sk_s ⟨by omega, y⟩).symm.trans g3)
      · rw [← g3, sk_id (fun x => y x.2)]
        exact g2
  exact key (z - a) a (by omega) I fT_refl hT rfl
theorem t_next (hT : tR I tx z a f) (hz : z ≤ 120) (ha : a ≤ z) (h : K (some (.int (chI tx z a))) (I, L, kr q w r1 r2)) : kC sh kp 187 [.ref 67] (I, L, kr q w r1 r2) K := by
  refine ⟨rfl, bT_next_0 ?_⟩
  rw [hT.1, hT.2.2.1]
  unfold chI at h
  refine pk_le z a (fun y => bT_next_23 (bT_next_24 ?_)) (fun y => bT_next_11 ?_)
  · rw [if_neg (by omega)] at h
    exact h
  · rw [if_pos y] at h
    rw [hT.2.2.1, nI_clamp (by omega), hT.2.1 a y]
    exact ⟨vp_in_nI (by omega) (by decide), bT_next_24 h⟩
theorem t_isDigit (ht : ∀ i, i < z → tx i ≤ 127) (h : K (some (.int (cond (isd (chr tx z a)) 1 0))) (I, L, kr q w r1 r2)) : kC sh kp 188 [.int (chI tx z a)] (I, L, kr q w r1 r2) K := by
  refine ⟨rfl, bT_isDigit_0 (c_in (a := 48) (b := 57) rfl rfl (bT_isDigit_8 ⟨cb01, ?_⟩))⟩
  have e : okr (chI tx z a) 48 57 = isd (chr tx z a) := okr_ch (lo := 48) (hi := 57) ht (by decide)
  rw [e]
  exact h
theorem t_fail {p : Nat} (hT : tR I tx z a f) (hf : f < 1000) (h : ∀ I', fT I I' → tR I' tx z a (fl f p) → K none (I', L, kr q w r1 r2)) : kC sh kp 189 [.ref 67, .int (nI p)] (I, L, kr q w r1 r2) K := by
  refine ⟨rfl, bT_fail_0 ?_⟩
  rw [hT.2.2.2]
  refine ⟨fun y => bT_fail_13 (h I fT_refl ?_), fun y => bT_fail_8 (bT_fail_13 (h _ ?_ ?_))⟩
  · have f0 : f ≠ 0 := fun e => y (by rw [e]; rfl)
    rw [fl_0 f0]
    exact hT
  · intro a k e
    by_cases e1 : a = 67
    · exact up_k (e e1).1
    · exact up_a e1
  · have f0 : f = 0 := (sI_m1 (by omega)).mp y
    refine ⟨by rw [up_k (by decide)]; exact hT.1, fun i hi => by rw [up_a (by decide)]; exact hT.2.1 i hi, by rw [up_k (by decide)]; exact hT.2.2.1, ?_⟩
    rw [up_s, f0]
    show nI p = sI (if 0 = 0 then p + 1 else 0)
    rw [if_pos rfl, sI_s (by omega)]
    rfl
theorem t_digit {lo hi : Nat} (hl : lo ≤ 9) (hh : hi ≤ 10) (hT : tR I tx z a f) (hz : z ≤ 120) (ht : ∀ i, i < z → tx i ≤ 127) (ha : a ≤ z) (hf : f ≤ z + 1) (h : ∀ I', fT I I' → tR I' tx z (da tx z lo hi a) (df tx z lo hi a f) → K (some (.int (nI (dv tx z lo hi a)))) (I', L, kr q w r1 r2)) : kC sh kp 184 [.ref 67, .int (nI lo), .int (nI hi - 1)] (I, L, kr q w r1 r2) K := by
  refine ⟨rfl, bT_readDigit_0 (t_next hT hz ha (bT_readDigit_4 ?_))⟩
  unfold dv da df at h
  refine c_in (a := lo) (b := (hi : Int) - 1) (nI_toInt (by omega)) (nIm (by omega)) (bT_readDigit_14 ?_)
  have e : okr (chI tx z a - 48) lo ((hi : Int) - 1) = okd tx z lo hi a := by
    have e1 : (chI tx z a - 48).toInt = (if a < z then (tx a : Int) else -1) - 48 := by
      unfold chI
      by_cases y : a < z
      · rw [if_pos y, if_pos y]
        have := ht a y
        exact pk_sub_toInt (b := 48) (by omega) (by decide)
      · rw [if_neg y, if_neg y]
        decide
    unfold okr okd chr
    rw [e1]
    by_cases y : a < z
    · rw [if_pos y, if_pos y]
      congr 1
      · exact decide_eq_decide.mpr (by omega)
      · exact decide_eq_decide.mpr (by omega)
    · rw [if_neg y, if_neg y]
      have a1 : decide ((lo : Int) ≤ -1 - 48) = false := decide_eq_false (by omega)
      have a2 : decide (128 < 48 + hi) = false := decide_eq_false (by omega)
      rw [a1, a2, Bool.and_false]
      rfl
  rw [e]
  refine cb1 (fun y => bT_readDigit_27 ?_) (fun y => bT_readDigit_17 ?_)
  · rw [y] at h
    have y1 := okd_t y
    have y2 := okd_lt hh y
    have ec : chr tx z a = tx a := if_pos y2
    rw [hT.2.2.1, nI_1]
    have hv : chI tx z a - 48 = nI (chr tx z a - 48) := by
      unfold chI
      rw [if_pos y2, ec]
      exact pk_sub (b := 48) (by omega)
    rw [hv]
    exact h _ fT_up (tR_up hT)
  · rw [y] at h
    rw [hT.2.2.1]
    exact t_fail hT (by omega) fun I' g1 g2 => bT_readDigit_25 (h I' g1 g2)
theorem t_expect {c : Nat} (hc : c ≤ 127) (hT : tR I tx z a f) (hz : z ≤ 120) (ht : ∀ i, i < z → tx i ≤ 127) (ha : a ≤ z) (hf : f ≤ z + 1) (h : ∀ I', fT I I' → tR I' tx z (xa tx z c a) (xf tx z c a f) → K none (I', L, kr q w r1 r2)) : kC sh kp 185 [.ref 67, .int (nI c)] (I, L, kr q w r1 r2) K := by
  have s := sk_p (tx := tx) ha
  refine ⟨rfl, bT_expect_0 (t_skip hT hz ht ha fun I1 g1 g2 => bT_expect_4 (t_next g2 hz s.2.1 (bT_expect_8 ?_)))⟩
  unfold xa xf at h
  refine ⟨fun y => bT_expect_25 ?_, fun y => bT_expect_12 (bT_expect_33 ?_)⟩
  · have y0 : ¬ chr tx z (sk tx z a) = c := fun e => y ((chI_c ht hc).mpr e)
    rw [if_neg y0, if_neg y0] at h
    rw [g2.2.2.1]
    exact t_fail g2 (by omega) fun I2 j1 j2 => bT_expect_33 (h I2 (fT_trans g1 j1) j2)
  · have y0 := (chI_c ht hc).mp y
    rw [if_pos y0, if_pos y0] at h
    rw [g2.2.2.1, nI_1]
    exact h _ (fT_trans g1 fT_up) (tR_up g2)
theorem t_arcs_loop {P : Nat} (hP : P ≤ 10) (hz : z ≤ 120) (ht : ∀ i, i < z → tx i ≤ 127) : ∀ k n a f (g : Nat → Nat) I', n + k = 120 → fT I I' → tR I' tx z a f → a ≤ z → f ≤ z + 1 → (∀ j, g j ≤ 3) → (f = 0 → ∀ j, g j ≤ 2) → (∀ I2, fT I I2 → tR I2 tx z (cAr tx z P k a f g).1 (cAr tx z P k a f g).2.1 → K (some (.long (lN (mp 32 (cAr tx z P k a f g).2.2 10)))) (I2, L, kr q w r1 r2)) → kW sh kp 183 9 [some (.ref 67), some (.int (nI P)), some (.long (lN (mp 32 g 10))), none, some (.int (nI n)), none, none] [] (I', L, kr q w r1 r2) K
  | 0, n, a, f, g, I', hn, h1, h2, h3, h4, h5, h6, h => bT_readArcs_9 (pk_le 120 n (fun _ => bT_readArcs_84 (h I' h1 h2)) (fun y => absurd y (by omega)))
  | k + 1, n, a, f, g, I', hn, h1, h2, h3, h4, h5, h6, h => by
    unfold cAr at h
    have out : ¬ (f = 0 ∧ isd (chr tx z a) = true) → kW sh kp 183 84 [none, none, some (.long (lN (mp 32 g 10))), none, none, none, none] [] (I', L, kr q w r1 r2) K := fun e => by
      rw [if_neg e] at h
      exact bT_readArcs_84 (h I' h1 h2)
    refine bT_readArcs_9 (pk_le 120 n (fun y => absurd y (by omega)) (fun _ => bT_readArcs_16 ?_))
    rw [h2.2.2.2]
    refine ⟨fun y => out fun e => y (by rw [e.1]; rfl), fun y => bT_readArcs_24 (t_next h2 hz h3 (bT_readArcs_28 (t_isDigit ht (bT_readArcs_31 (cb0 (fun e => bT_readArcs_34 ?_) (fun e => out fun x => by rw [x.2] at e; exact absurd e (by decide)))))))⟩
    have f0 : f = 0 := (sI_m1 (by omega)).mp y
    rw [if_pos ⟨f0, e⟩] at h
    have hlt := isd_lt e
    have d1 := da_p (tx := tx) (z := z) (lo := 0) hP h3
    have s1 := sk_p (tx := tx) d1.2
    have hv := dv_p (tx := tx) (z := z) (lo := 0) (hi := P) (a := a)
    have f1 := df_p (tx := tx) (lo := 0) (hi := P) h3 h4
    have hg32 : ∀ j, j < 10 → g j < 32 := fun j _ => by have := h5 j; omega
    rw [h2.2.2.1]
    refine t_digit (lo := 0) (by decide) hP h2 hz ht h3 h4 fun I2 g1 g2 => bT_readArcs_48 (s_tok (by omega) hg32 (bT_readArcs_56 ?_))
    have g2v := h6 f0 (dv tx z 0 P a)
    have go : ∀ f' I3, fT I I3 → tR I3 tx z (da tx z 0 P a) f' → f' ≤ z + 1 → f' = (if 2 ≤ g (dv tx z 0 P a) then fl (df tx z 0 P a f) a else df tx z 0 P a f) → kW sh kp 183 66 [some (.ref 67), some (.int (nI P)), some (.long (lN (mp 32 g 10))), none, some (.int (nI n)), none, some (.int (nI (dv tx z 0 P a)))] [] (I3, L, kr q w r1 r2) K := fun f' I3 j1 j2 j3 j4 => bT_readArcs_66 (s_one (by omega) (bT_readArcs_72 (by
      rw [lN_add, mp_inc (show dv tx z 0 P a < 10 by omega)]
      refine t_skip j2 hz ht d1.2 fun I4 k1 k2 => bT_readArcs_78 ?_
      rw [nI_1]
      rw [← j4] at h
      refine t_arcs_loop hP hz ht k (n + 1) (sk tx z (da tx z 0 P a)) f' _ I4 (by omega) (fT_trans j1 k1) k2 s1.2.1 j3 (fun j => ?_) (fun e0 j => ?_) h
      · show (if j = dv tx z 0 P a then g (dv tx z 0 P a) + 1 else g j) ≤ 3
        have := h5 j
        split <;> omega
      · show (if j = dv tx z 0 P a then g (dv tx z 0 P a) + 1 else g j) ≤ 2
        have := h6 f0 j
        by_cases e2 : 2 ≤ g (dv tx z 0 P a)
        · rw [if_pos e2] at j4
          exact absurd (j4 ▸ e0) fl_n
        · split <;> omega)))
    refine pk_lt (g (dv tx z 0 P a)) 2 (fun y2 => go _ I2 (fT_trans h1 g1) g2 f1 (by rw [if_neg (by omega)])) (fun y2 => bT_readArcs_60 (t_fail g2 (by omega) fun I3 j1 j2 => go _ I3 (fT_trans h1 (fT_trans g1 j1)) j2 (fl_p f1 h3) (by rw [if_pos y2])))
theorem t_arcs {P : Nat} (hP : P ≤ 10) (hT : tR I tx z a f) (hz : z ≤ 120) (ht : ∀ i, i < z → tx i ≤ 127) (ha : a ≤ z) (hf : f ≤ z + 1) (h : ∀ I', fT I I' → tR I' tx z (cAr tx z P 120 (sk tx z a) f (fun _ => 0)).1 (cAr tx z P 120 (sk tx z a) f (fun _ => 0)).2.1 → K (some (.long (lN (mp 32 (cAr tx z P 120 (sk tx z a) f (fun _ => 0)).2.2 10)))) (I', L, kr q w r1 r2)) : kC sh kp 183 [.ref 67, .int (nI P)] (I, L, kr q w r1 r2) K := by
  have s1 := sk_p (tx := tx) ha
  refine ⟨rfl, bT_readArcs_0 (t_skip hT hz ht ha fun I1 g1 g2 => bT_readArcs_6 ?_)⟩
  have e0 : (0 : Int64) = lN (mp 32 (fun _ => 0) 10) := by
    rw [mp_zero]
    rfl
  rw [e0]
  exact t_arcs_loop (I := I) hP hz ht 120 0 (sk tx z a) f (fun _ => 0) I1 rfl g1 g2 s1.2.1 hf (fun _ => by decide) (fun _ _ => by decide) h
/-- what reading may change -/
def fR (I : Nat → Nat → Int32) (L : Nat → Nat → Int64) (I' : Nat → Nat → Int32) (L' : Nat → Nat → Int64) : Prop := (∀ a k, (a < 1 ∨ 6 < a) → (a = 67 → k ≠ 2 ∧ k ≠ 3) → a ≠ 69 → I' a k = I a k) ∧ ∀ a k, (a < 1 ∨ 6 < a) → L' a k = L a k
theorem fR_T {I' : Nat → Nat → Int32} (h : fT I I') : fR I L I' L := ⟨fun a k _ z2 _ => h a k z2, fun _ _ _ => rfl⟩
theorem fR_trans {I1 I2 : Nat → Nat → Int32} {L1 L2 : Nat → Nat → Int64} (h : fR I L I1 L1) (h2 : fR I1 L1 I2 L2) : fR I L I2 L2 := ⟨fun a k z1 z2 z3 => (h2.1 a k z1 z2 z3).trans (h.1 a k z1 z2 z3), fun a k z => (h2.2 a k z).trans (h.2 a k z)⟩
theorem fR_D {I' : Nat → Nat → Int32} {L' : Nat → Nat → Int64} (h : fD I L I' L') : fR I L I' L' := ⟨fun a k z1 _ _ => h.1 a k z1, h.2⟩
theorem tR_D {I' : Nat → Nat → Int32} {L' : Nat → Nat → Int64} (h : tR I tx z a f) (g : fD I L I' L') : tR I' tx z a f := ⟨(g.1 67 1 (by omega)).trans h.1, fun i hi => (g.1 68 i (by omega)).trans (h.2.1 i hi), (g.1 67 3 (by omega)).trans h.2.2.1, (g.1 67 2 (by omega)).trans h.2.2.2⟩
theorem fD_trans {I1 I2 : Nat → Nat → Int32} {L1 L2 : Nat → Nat → Int64} (h : fD I L I1 L1) (h2 : fD I1 L1 I2 L2) : fD I L I2 L2 := ⟨fun a k z => (h2.1 a k z).trans (h.1 a k z), fun a k z => (h2.2 a k z).trans (h.2 a k z)⟩
theorem c_renewRun (hR : cR0 I L m) (hw : m 0 ≤ 10) (hs : m 1 ≤ 8) (h : ∀ I' L', fD I L I' L' → cR I' L' 1 (stl m) → K none (I', L', kr q w r1 r2)) : kC sh kp 214 [.ref 1] (I, L, kr q w r1 r2) K := by
  obtain ⟨a1, a2, a4, a5, a8⟩ := hR
  refine ⟨rfl, bS_renewRun_0 (h _ _ ⟨fun a k z => up_a (by omega), fun a k z => by rw [up_a (by omega), up_a (by omega)]⟩ ?_)⟩
  have e : ∀ k, (k < 12 ∨ (32 ≤ k ∧ k ≠ 200)) → stl m k = m k := fun k hk => sti_o (by omega) hk
  have e200 : stl m 200 = 0 := sti_2
  refine ⟨?_, ?_, ?_, ?_, ?_, ?_, ?_, fun t ht => ⟨?_, ?_, ?_⟩, fun g hg => ?_⟩
  · rw [up_k (by decide), e 0 (by omega)]
    exact a1
  · rw [up_k (by decide), e 1 (by omega)]
    exact a2
  · rw [up_s, e200]
    rfl
  · rw [up_k (by decide), e 211 (by omega)]
    exact a4
  · rw [up_k (by decide), up_k (by decide), mz_stl hw (Or.inl rfl)]
    exact a5
  · rw [up_k (by decide), up_s, mz_stl12 hw, mp_zero]
    rfl
  · rw [up_s, up_k (by decide), mz_stl22 hw]
    exact a5
  · rw [e 1 (by omega)] at ht
    rw [up_a (by decide), up_a (by decide), mz_stl hw (Or.inr (by omega))]
    exact (a8 t ht).1
  · rw [e 1 (by omega)] at ht
    rw [up_a (by decide), up_a (by decide), mz_stl hw (Or.inr (by omega))]
    exact (a8 t ht).2.1
  · rw [e 1 (by omega)] at ht
    rw [up_a (by decide), e (32 + t) (by omega)]
    exact (a8 t ht).2.2
  · rw [e200] at hg
    exact absurd hg (by omega)
/-- behind an order: the reader and the row as told -/
def oR (tx : Nat → Nat) (z : Nat) (r : Nat × Nat × (Nat → Nat)) (K : km_K) (q r1 r2 : Nat → Nat) (w : Bool) (I : Nat → Nat → Int32) (L : Nat → Nat → Int64) : Prop := ∀ I' L', fR I L I' L' → tR I' tx z r.2.1 r.1 → cR I' L' 1 r.2.2 → K none (I', L', kr q w r1 r2)
/-- reading may also write machines -/
def fL (I I' : Nat → Nat → Int32) : Prop := ∀ a k, (a = 67 → k ≠ 2 ∧ k ≠ 3) → a ≠ 69 → I' a k = I a k
theorem fL_T {I' : Nat → Nat → Int32} (h : fT I I') : fL I I' := fun a k z _ => h a k z
theorem fL_trans {I1 I2 : Nat → Nat → Int32} (h : fL I I1) (h2 : fL I1 I2) : fL I I2 := fun a k z1 z2 => (h2 a k z1 z2).trans (h a k z1 z2)
theorem fR_L {I' : Nat → Nat → Int32} (h : fL I I') : fR I L I' L := ⟨fun a k _ z2 z3 => h a k z2 z3, fun _ _ _ => rfl⟩
theorem cR_fL {I' : Nat → Nat → Int32} (h : cR I L 1 m) (f : fL I I') : cR I' L 1 m := cR_fr (fun a k z1 z2 => f a k (fun e => absurd e (by omega)) (by omega)) (fun _ _ _ _ => rfl) h
theorem sI_at {f : Nat} (hf : f ≤ 1000) : (sI f = -1 ↔ f = 0) := sI_m1 (by omega)
theorem t_place (hT : tR I tx z a 0) (hR : cR I L 1 m) (hw : wf m) (hp : m 0 < 10) (hz : z ≤ 120) (ht : ∀ i, i < z → tx i ≤ 127) (ha : a < z) (h : oR tx z (rP tx z m a) K q r1 r2 w I L) : kC sh kp 179 [.ref 67, .ref 1] (I, L, kr q w r1 r2) K := by
  have s1 := sk_p (tx := tx) (z := z) (a := a + 1) (by omega)
  unfold oR rP at h
  refine ⟨rfl, bT_readPlace_0 ?_⟩
  rw [hT.2.2.1, nI_1]
  refine t_skip (tR_up hT) hz ht (by omega) fun I1 g1 g2 => bT_readPlace_14 ?_
  rw [g2.2.2.1]
  generalize sk tx z (a + 1) = b at s1 g2 h
  have d1 := da_p (tx := tx) (z := z) (lo := 0) (hi := 10) (a := b) (by decide) s1.2.1
  have f1 := df_p (tx := tx) (z := z) (lo := 0) (hi := 10) (a := b) (f := 0) s1.2.1 (by omega)
  have v1 := dv_p (tx := tx) (z := z) (lo := 0) (hi := 10) (a := b)
  refine t_digit (lo := 0) (hi := 10) (by decide) (by decide) g2 hz ht s1.2.1 (by omega) fun I2 j1 j2 => bT_readPlace_26 (t_next j2 hz d1.2 (bT_readPlace_31 (t_isDigit ht (bT_readPlace_34 ?_))))
  have fr2 : fT I I2 := fT_trans fT_up (fT_trans g1 j1)
  -- behind the digits
  have rest : ∀ v2 a2 I3, fT I I3 → tR I3 tx z a2 (df tx z 0 10 b 0) → a2 ≤ z → v2 < 100 → v2 = cond (isd (chr tx z (da tx z 0 10 b))) (10 * dv tx z 0 10 b + dv tx z 0 10 (da tx z 0 10 b)) (dv tx z 0 10 b) → a2 = cond (isd (chr tx z (da tx z 0 10 b))) (da tx z 0 10 (da tx z 0 10 b)) (da tx z 0 10 b) → kW sh kp 179 50 [some (.ref 67), some (.ref 1), some (.int (nI b)), some (.int (nI v2))] [] (I3, L, kr q w r1 r2) K := fun v2 a2 I3 k1 k2 k3 k4 ev ea => by
    have h : oR tx z (xf tx z 59 a2 (if 15 < v2 ∨ isd (chr tx z a2) = true then fl (df tx z 0 10 b 0) b else df tx z 0 10 b 0), xa tx z 59 a2, if xf tx z 59 a2 (if 15 < v2 ∨ isd (chr tx z a2) = true then fl (df tx z 0 10 b 0) b else df tx z 0 10 b 0) = 0 then stl (adp m v2) else m) K q r1 r2 w I L := by
      rw [ev, ea]
      exact h
    have last : ∀ f2 I4, fT I I4 → tR I4 tx z a2 f2 → f2 ≤ z + 1 → f2 = (if 15 < v2 ∨ isd (chr tx z a2) = true then fl (df tx z 0 10 b 0) b else df tx z 0 10 b 0) → kW sh kp 179 71 [some (.ref 67), some (.ref 1), none, some (.int (nI v2))] [] (I4, L, kr q w r1 r2) K := fun f2 I4 l1 l2 l3 l4 => bT_readPlace_71 (t_expect (c := 59) (by decide) l2 hz ht k3 l3 fun I5 n1 n2 => bT_readPlace_77 (by
      rw [← l4] at h
      have xb := xf_p (tx := tx) (c := 59) (f := f2) k3 l3
      have fr5 := fT_trans l1 n1
      rw [n2.2.2.2]
      refine ⟨fun y => bT_readPlace_94 ?_, fun y => bT_readPlace_85 ?_⟩
      · have y0 : xf tx z 59 a2 f2 ≠ 0 := fun e => y (by rw [e]; rfl)
        rw [if_neg y0] at h
        exact h I5 L (fR_T fr5) n2 (cR_fT hR fr5)
      · have y0 : xf tx z 59 a2 f2 = 0 := (sI_at (by omega)).mp y
        rw [if_pos y0] at h
        have f20 : f2 = 0 := by
          unfold xf at y0
          split at y0
          · exact y0
          · exact absurd y0 fl_n
        have hv15 : v2 ≤ 15 := by
          rw [l4] at f20
          split at f20
          · exact absurd f20 fl_n
          · omega
        refine c_addPlace (m := m) (cR_0 (cR_fT hR fr5)) hw.1 hp (by omega) (fun t ht => hw.2.2 t _ ht (Nat.le_refl _) hp) fun I6 L6 o1 o2 o3 => bT_readPlace_90 ?_
        have fd : fD I5 L I6 L6 := ⟨fun a k z => o1 a k (fun e => absurd e (by omega)), fun a k z => o2 a k (fun e => absurd e (by omega))⟩
        refine c_renewRun o3 (by rw [adp_0]; omega) (by rw [adp_o (by decide) (by omega)]; exact hw.1.2.1) fun I7 L7 p1 p2 => bT_readPlace_94 (h I7 L7 (fR_trans (fR_T fr5) (fR_D (fD_trans fd p1))) (tR_D n2 (fD_trans fd p1)) p2)))
    refine bT_readPlace_50 (pk_lt 15 v2 (fun y => bT_readPlace_66 (t_fail k2 (by omega) fun I4 l1 l2 => last _ I4 (fT_trans k1 l1) l2 (fl_p f1 s1.2.1) (by rw [if_pos (Or.inl y)]))) (fun y => bT_readPlace_56 (t_next k2 hz k3 (bT_readPlace_60 (t_isDigit ht (bT_readPlace_63 (cb0 (fun e => bT_readPlace_66 (t_fail k2 (by omega) fun I4 l1 l2 => last _ I4 (fT_trans k1 l1) l2 (fl_p f1 s1.2.1) (by rw [if_pos (Or.inr e)]))) (fun e => last _ I3 k1 k2 f1 (by rw [if_neg (fun x => by rcases x with x | x; omega; rw [e] at x; exact absurd x (by decide))])))))))))
  refine cb0 (fun e => bT_readPlace_37 ?_) (fun e => rest _ _ I2 fr2 j2 d1.2 (by omega) (by rw [e]; rfl) (by rw [e]; rfl))
  have d2 := da_p (tx := tx) (z := z) (lo := 0) (hi := 10) (a := da tx z 0 10 b) (by decide) d1.2
  have v2 := dv_p (tx := tx) (z := z) (lo := 0) (hi := 10) (a := da tx z 0 10 b)
  refine t_digit (lo := 0) (hi := 10) (by decide) (by decide) j2 hz ht d1.2 f1 fun I3 k1 k2 => bT_readPlace_48 ?_
  rw [fa_lit 10, pk_mul, nI_add]
  -- the second digit is one
  have eo : okd tx z 0 10 (da tx z 0 10 b) = true := by
    have := isd_t e
    unfold okd
    rw [decide_eq_true (by omega), decide_eq_true (by omega)]
    rfl
  have ef : df tx z 0 10 (da tx z 0 10 b) (df tx z 0 10 b 0) = df tx z 0 10 b 0 := by
    show cond (okd tx z 0 10 (da tx z 0 10 b)) _ _ = _
    rw [eo]
    rfl
  rw [ef] at k2
  exact rest _ _ I3 (fT_trans fr2 k1) k2 d2.2 (by omega) (by rw [e]; rfl) (by rw [e]; rfl)
theorem t_step (hT : tR I tx z a 0) (hR : cR I L 1 m) (hw : wf m) (hp : m 1 < 8) (hz : z ≤ 120) (ht : ∀ i, i < z → tx i ≤ 127) (ha : a < z) (h : oR tx z (rS tx z m a) K q r1 r2 w I L) : kC sh kp 180 [.ref 67, .ref 1] (I, L, kr q w r1 r2) K := by
  have w0 := hw.1.1
  have s1 := sk_p (tx := tx) (z := z) (a := a + 1) (by omega)
  refine ⟨rfl, bT_readStep_0 ?_⟩
  rw [hT.2.2.1, nI_1]
  refine t_skip (tR_up hT) hz ht (by omega) fun I1 g1 g2 => bT_readStep_14 ?_
  have h : oR tx z (rS0 tx z m (sk tx z (a + 1))) K q r1 r2 w I L := h
  generalize sk tx z (a + 1) = b at s1 g2 h
  have d1 := da_p (tx := tx) (z := z) (lo := 0) (hi := 10) (a := b) (by decide) s1.2.1
  have f1 := df_p (tx := tx) (z := z) (lo := 0) (hi := 10) (a := b) (f := 0) s1.2.1 (by omega)
  have v1 := dv_p (tx := tx) (z := z) (lo := 0) (hi := 10) (a := b)
  have s2 := sk_p (tx := tx) d1.2
  refine t_digit (lo := 0) (hi := 10) (by decide) (by decide) g2 hz ht s1.2.1 (by omega) fun I2 j1 j2 => bT_readStep_21 ?_
  have fr2 : fT I I2 := fT_trans fT_up (fT_trans g1 j1)
  rw [show I2 1 0 = nI (m 0) from (fr2 1 0 (fun e => absurd e (by decide))).trans hR.1]
  refine t_arcs w0 j2 hz ht d1.2 f1 fun I3 k1 k2 => bT_readStep_30 ?_
  have pA := cAr_p (tx := tx) (z := z) w0 120 (sk tx z (da tx z 0 10 b)) (df tx z 0 10 b 0) (fun _ => 0) s2.2.1 f1 (fun _ => by decide) (fun _ _ => rfl)
  have h : oR tx z (rS1 tx z m (dv tx z 0 10 b) (cAr tx z (m 0) 120 (sk tx z (da tx z 0 10 b)) (df tx z 0 10 b 0) (fun _ => 0))) K q r1 r2 w I L := h
  generalize cAr tx z (m 0) 120 (sk tx z (da tx z 0 10 b)) (df tx z 0 10 b 0) (fun _ => 0) = A at pA k2 h
  have x1 := xa_p (tx := tx) (c := 62) (by decide) pA.2.1
  have y1 := xf_p (tx := tx) (c := 62) (f := A.2.1) pA.2.1 pA.2.2.1
  have s3 := sk_p (tx := tx) x1.2
  refine t_expect (c := 62) (by decide) k2 hz ht pA.2.1 pA.2.2.1 fun I4 l1 l2 => bT_readStep_37 ?_
  have fr4 : fT I I4 := fT_trans fr2 (fT_trans k1 l1)
  rw [show I4 1 0 = nI (m 0) from (fr4 1 0 (fun e => absurd e (by decide))).trans hR.1]
  refine t_arcs w0 l2 hz ht x1.2 y1 fun I5 n1 n2 => bT_readStep_45 ?_
  have pB := cAr_p (tx := tx) (z := z) w0 120 (sk tx z (xa tx z 62 A.1)) (xf tx z 62 A.1 A.2.1) (fun _ => 0) s3.2.1 y1 (fun _ => by decide) (fun _ _ => rfl)
  have hxA : xf tx z 62 A.1 A.2.1 = 0 → A.2.1 = 0 := fun y => by
    unfold xf at y
    split at y
    · exact y
    · exact absurd y fl_n
  have hBA : (cAr tx z (m 0) 120 (sk tx z (xa tx z 62 A.1)) (xf tx z 62 A.1 A.2.1) (fun _ => 0)).2.1 = 0 → A.2.1 = 0 := fun y => Classical.byContradiction fun c => by
    have := pB.2.2.2.2.2 (fun d => c (hxA d))
    exact c (hxA (this ▸ y))
  have h : oR tx z (rS2 tx z m (dv tx z 0 10 b) A (cAr tx z (m 0) 120 (sk tx z (xa tx z 62 A.1)) (xf tx z 62 A.1 A.2.1) (fun _ => 0))) K q r1 r2 w I L := h
  generalize cAr tx z (m 0) 120 (sk tx z (xa tx z 62 A.1)) (xf tx z 62 A.1 A.2.1) (fun _ => 0) = B at pB n2 h hBA
  refine t_expect (c := 59) (by decide) n2 hz ht pB.2.1 pB.2.2.1 fun I6 o1 o2 => bT_readStep_53 ?_
  have fr6 : fT I I6 := fT_trans fr4 (fT_trans n1 o1)
  have xb := xf_p (tx := tx) (c := 59) (f := B.2.1) pB.2.1 pB.2.2.1
  have h : oR tx z (xf tx z 59 B.1 B.2.1, xa tx z 59 B.1, if xf tx z 59 B.1 B.2.1 = 0 then stl (ads m (dv tx z 0 10 b) A.2.2 B.2.2) else m) K q r1 r2 w I L := h
  rw [o2.2.2.2]
  refine ⟨fun y => bT_readStep_73 ?_, fun y => bT_readStep_61 ?_⟩
  · have y0 : xf tx z 59 B.1 B.2.1 ≠ 0 := fun e => y (by rw [e]; rfl)
    rw [if_neg y0] at h
    exact h I6 L (fR_T fr6) o2 (cR_fT hR fr6)
  · have y0 : xf tx z 59 B.1 B.2.1 = 0 := (sI_at (by omega)).mp y
    rw [if_pos y0] at h
    have fB : B.2.1 = 0 := by
      unfold xf at y0
      split at y0
      · exact y0
      · exact absurd y0 fl_n
    have bA := pA.2.2.2.2.1 (hBA fB)
    have bB := pB.2.2.2.2.1 fB
    refine c_addStep (m := m) (cR_0 (cR_fT hR fr6)) w0 hp (fun p hp => ⟨bA.2 p hp, bB.2 p hp⟩) fun I7 L7 p1 p2 p3 => bT_readStep_69 ?_
    have fd : fD I6 L I7 L7 := ⟨fun a k z => p1 a k (fun e => absurd e (by omega)) (by omega), fun a k z => p2 a k (by omega) (by omega)⟩
    refine c_renewRun p3 (by rw [ads_o (by omega) (by omega) (by omega) (by omega)]; exact w0) (by rw [ads_1]; exact hp) fun I8 L8 q1 q2 => bT_readStep_73 (h I8 L8 (fR_trans (fR_T fr6) (fR_D (fD_trans fd q1))) (tR_D o2 (fD_trans fd q1)) q2)
theorem t_line (hT : tR I tx z a 0) (hR : cR I L 1 m) (hw : wf m) (hz : z ≤ 120) (ht : ∀ i, i < z → tx i ≤ 127) (ha : a < z) (h : oR tx z (rL tx z m a) K q r1 r2 w I L) : kC sh kp 181 [.ref 67, .ref 1] (I, L, kr q w r1 r2) K := by
  have w0 := hw.1.1
  have w1 := hw.1.2.1
  have s1 := sk_p (tx := tx) (z := z) (a := a + 1) (by omega)
  refine ⟨rfl, bT_readLine_0 ?_⟩
  rw [hT.2.2.1, nI_1]
  refine t_skip (tR_up hT) hz ht (by omega) fun I1 g1 g2 => bT_readLine_19 ?_
  have h : oR tx z (rL0 tx z m a (sk tx z (a + 1))) K q r1 r2 w I L := h
  generalize sk tx z (a + 1) = b at s1 g2 h
  have d1 := da_p (tx := tx) (z := z) (lo := 1) (hi := 10) (a := b) (by decide) s1.2.1
  have f1 := df_p (tx := tx) (z := z) (lo := 1) (hi := 10) (a := b) (f := 0) s1.2.1 (by omega)
  have v1 := dv_p (tx := tx) (z := z) (lo := 1) (hi := 10) (a := b)
  have s2 := sk_p (tx := tx) d1.2
  refine t_digit (lo := 1) (hi := 10) (by decide) (by decide) g2 hz ht s1.2.1 (by omega) fun I2 j1 j2 => bT_readLine_26 (t_skip j2 hz ht d1.2 fun I3 k1 k2 => ?_)
  have fr3 : fT I I3 := fT_trans fT_up (fT_trans g1 (fT_trans j1 k1))
  have pA := cMc_p (tx := tx) (z := z) w0 4 0 (sk tx z (da tx z 1 10 b)) (df tx z 1 10 b 0) (fun _ => 0) s2.2.1 f1 (fun _ => by decide) (fun _ j hj => absurd hj (by omega))
  have h : oR tx z (rL1 tx z m a (dv tx z 1 10 b) (cMc tx z (m 0) 4 0 (sk tx z (da tx z 1 10 b)) (df tx z 1 10 b 0) (fun _ => 0))) K q r1 r2 w I L := h
  -- the loop over machines
  have loop : ∀ k n x f (g : Nat → Nat) I', n + k = 4 → fL I I' → tR I' tx z x f → x ≤ z → f ≤ z + 1 → (∀ j, j < n → I' 69 j = nI (g j)) → (∀ I2, fL I I2 → tR I2 tx z (cMc tx z (m 0) k n x f g).2.1 (cMc tx z (m 0) k n x f g).2.2.1 → (∀ j, j < (cMc tx z (m 0) k n x f g).1 → I2 69 j = nI ((cMc tx z (m 0) k n x f g).2.2.2 j)) → kW sh kp 181 91 [some (.ref 67), some (.ref 1), some (.int (nI a)), some (.int (nI (dv tx z 1 10 b))), some (.int (nI (cMc tx z (m 0) k n x f g).1))] [] (I2, L, kr q w r1 r2) K) → kW sh kp 181 34 [some (.ref 67), some (.ref 1), some (.int (nI a)), some (.int (nI (dv tx z 1 10 b))), some (.int (nI n))] [] (I', L, kr q w r1 r2) K := fun k => by
    induction k with
    | zero =>
      intro n x f g I' hn e1 e2 e3 e4 e5 hh
      exact bT_readLine_34 (pk_le 4 n (fun _ => hh I' e1 e2 e5) (fun y => absurd y (by omega)))
    | succ k ih =>
      intro n x f g I' hn e1 e2 e3 e4 e5 hh
      unfold cMc at hh
      have out : ¬ (f = 0 ∧ (n = 0 ∨ isd (chr tx z x) = true)) → kW sh kp 181 91 [some (.ref 67), some (.ref 1), some (.int (nI a)), some (.int (nI (dv tx z 1 10 b))), some (.int (nI n))] [] (I', L, kr q w r1 r2) K := fun e => by
        rw [if_neg e] at hh
        exact hh I' e1 e2 e5
      have go : f = 0 ∧ (n = 0 ∨ isd (chr tx z x) = true) → kW sh kp 181 63 [some (.ref 67), some (.ref 1), some (.int (nI a)), some (.int (nI (dv tx z 1 10 b))), some (.int (nI n))] [] (I', L, kr q w r1 r2) K := fun e => bT_readLine_63 (by
        rw [if_pos e] at hh
        have dd := da_p (tx := tx) (z := z) (lo := 0) (hi := m 0) (a := x) w0 e3
        have ss := sk_p (tx := tx) dd.2
        have ff := df_p (tx := tx) (z := z) (lo := 0) (hi := m 0) (a := x) (f := f) e3 e4
        rw [show I' 1 0 = nI (m 0) from (cR_fL hR e1).1]
        refine t_digit (lo := 0) (hi := m 0) (by decide) w0 e2 hz ht e3 e4 fun I4 n1 n2 => bT_readLine_80 ⟨rfl, vp_in_nI (show n < 4 by omega) (by decide), ?_⟩
        rw [nI_clamp (by omega)]
        have n3 : tR (km_up I4 69 n (nI (dv tx z 0 (m 0) x))) tx z (da tx z 0 (m 0) x) (df tx z 0 (m 0) x f) := ⟨by rw [up_a (by decide)]; exact n2.1, fun i hi => by rw [up_a (by decide)]; exact n2.2.1 i hi, by rw [up_a (by decide)]; exact n2.2.2.1, by rw [up_a (by decide)]; exact n2.2.2.2⟩
        refine t_skip n3 hz ht dd.2 fun I5 o1 o2 => bT_readLine_88 ?_
        rw [nI_1]
        have f5 : fL I I5 := fun c d z2 z3 => by rw [o1 c d z2, up_a z3, n1 c d z2]; exact e1 c d z2 z3
        refine ih (n + 1) _ _ _ I5 (by omega) f5 o2 ss.2.1 ff (fun j hj => ?_) hh
        rw [o1 69 j (fun e => absurd e (by decide))]
        by_cases ej : j = n
        · rw [ej, up_s, ups_s]
        · rw [up_k ej, ups_o ej, n1 69 j (fun e => absurd e (by decide))]
          exact e5 j (by omega))
      refine bT_readLine_34 (pk_le 4 n (fun y => absurd y (by omega)) (fun _ => bT_readLine_40 ?_))
      rw [e2.2.2.2]
      refine ⟨fun y => out fun e => y (by rw [e.1]; rfl), fun y => bT_readLine_48 ?_⟩
      have f0 : f = 0 := (sI_at (by omega)).mp y
      refine pk_eq n 0 (fun y2 => go ⟨f0, Or.inl y2⟩) (fun y2 => bT_readLine_53 (t_next e2 hz e3 (bT_readLine_57 (t_isDigit ht (bT_readLine_60 (cb0 (fun e => go ⟨f0, Or.inr e⟩) (fun e => out fun x => ?_)))))))
      rcases x.2 with c | c
      · exact y2 c
      · rw [c] at e
        exact absurd e (by decide)
  refine loop 4 0 (sk tx z (da tx z 1 10 b)) (df tx z 1 10 b 0) (fun _ => 0) I3 rfl (fL_T fr3) k2 s2.2.1 f1 (fun j hj => absurd hj (by omega)) fun I4 l1 l2 l3 => ?_
  generalize cMc tx z (m 0) 4 0 (sk tx z (da tx z 1 10 b)) (df tx z 1 10 b 0) (fun _ => 0) = A at pA l2 l3 h
  have x1 := xa_p (tx := tx) (c := 59) (by decide) pA.2.1
  have y1 := xf_p (tx := tx) (c := 59) (f := A.2.2.1) pA.2.1 pA.2.2.1
  refine bT_readLine_91 (t_expect (c := 59) (by decide) l2 hz ht pA.2.1 pA.2.2.1 fun I5 n1 n2 => bT_readLine_97 ?_)
  have fr5 : fL I I5 := fL_trans l1 (fL_T n1)
  have R5 := cR_fL hR fr5
  refine c_hasRoom (m := m) R5.1 R5.2.1 w0 w1 (by omega) (bT_readLine_103 ?_)
  -- the order's end
  have last : ∀ f' I6, fL I I6 → (∀ j, j < A.1 → I6 69 j = nI (A.2.2.2 j)) → tR I6 tx z (xa tx z 59 A.2.1) f' → f' ≤ z + 1 → f' = (if m 0 + A.1 + 1 ≤ 10 ∧ m 1 + A.1 + 1 ≤ 8 then xf tx z 59 A.2.1 A.2.2.1 else fl (xf tx z 59 A.2.1 A.2.2.1) a) → kW sh kp 181 111 [some (.ref 67), some (.ref 1), none, some (.int (nI (dv tx z 1 10 b))), some (.int (nI A.1))] [] (I6, L, kr q w r1 r2) K := fun f' I6 o1 o2 o3 o4 o5 => bT_readLine_111 (by
    have h : oR tx z (f', xa tx z 59 A.2.1, if f' = 0 then stl (lnN m (dv tx z 1 10 b) A.1 A.2.2.2) else m) K q r1 r2 w I L := by
      rw [o5]
      exact h
    rw [o3.2.2.2]
    refine ⟨fun y => bT_readLine_134 ?_, fun y => bT_readLine_119 ?_⟩
    · have y0 : f' ≠ 0 := fun e => y (by rw [e]; rfl)
      rw [if_neg y0] at h
      exact h I6 L (fR_L o1) o3 (cR_fL hR o1)
    · have y0 : f' = 0 := (sI_at (by omega)).mp y
      rw [if_pos y0] at h
      rw [y0] at o5
      have room : m 0 + A.1 + 1 ≤ 10 ∧ m 1 + A.1 + 1 ≤ 8 := Classical.byContradiction fun c => by
        rw [if_neg c] at o5
        exact absurd o5.symm fl_n
      rw [if_pos room] at o5
      have fA : A.2.2.1 = 0 := by
        unfold xf at o5
        split at o5
        · exact o5.symm
        · exact absurd o5.symm fl_n
      have hm := pA.2.2.2.2.1 fA
      have pl := lnN_p (k := dv tx z 1 10 b) (n := A.1) (mc := A.2.2.2) hw.1 hw.2.2 (by omega) room.1 room.2 hm
      refine c_addLine_m (m := m) (cR_0 (cR_fL hR o1)) hw.1 hw.2.2 (by omega) (by omega) room.1 room.2 hm o2 fun I7 L7 p1 p2 => bT_readLine_130 ?_
      refine c_renewRun p2 (by rw [pl.2.2.1]; omega) (by rw [pl.2.2.2]; omega) fun I8 L8 q1 q2 => bT_readLine_134 (h I8 L8 (fR_trans (fR_L o1) (fR_D (fD_trans p1 q1))) (tR_D o3 (fD_trans p1 q1)) q2))
  have l5 : ∀ j, j < A.1 → I5 69 j = nI (A.2.2.2 j) := fun j hj => (n1 69 j (fun e => absurd e (by decide))).trans (l3 j hj)
  refine cb1 (fun e => last _ I5 fr5 l5 n2 y1 (by rw [if_pos (of_decide_eq_true e)])) (fun e => bT_readLine_106 (t_fail n2 (by omega) fun I6 o1 o2 => last _ I6 (fL_trans fr5 (fL_T o1)) (fun j hj => (o1 69 j (fun e => absurd e (by decide))).trans (l5 j hj)) o2 (fl_p y1 (by omega)) (by rw [if_neg (of_decide_eq_false e)])))
end CREADS
