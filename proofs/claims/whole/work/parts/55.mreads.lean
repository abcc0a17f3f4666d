/-! TEXTS: the reference's reader -/
def mR (I : Nat → Nat → Int32) (tx : Nat → Nat) (z a : Nat) : Prop := I 71 25 = nI z ∧ (∀ i, i < z → I 88 i = nI (tx i)) ∧ I 71 27 = nI a
/-- only where the reader stands, and where it looked -/
def fY (I I' : Nat → Nat → Int32) : Prop := ∀ a k, (a = 71 → k ≠ 27 ∧ k ≠ 28) → I' a k = I a k
/-- and the row that is read -/
def fN (I I' : Nat → Nat → Int32) : Prop := ∀ a k, a ≠ 89 → (a = 71 → k ≠ 27 ∧ k ≠ 28) → I' a k = I a k
theorem fY_refl {I : Nat → Nat → Int32} : fY I I := fun _ _ _ => rfl
theorem fY_trans {I I1 I2 : Nat → Nat → Int32} (h : fY I I1) (h2 : fY I1 I2) : fY I I2 := fun a k z => (h2 a k z).trans (h a k z)
theorem fN_Y {I I' : Nat → Nat → Int32} (h : fY I I') : fN I I' := fun a k _ z => h a k z
theorem fN_trans {I I1 I2 : Nat → Nat → Int32} (h : fN I I1) (h2 : fN I1 I2) : fN I I2 := fun a k z1 z => (h2 a k z1 z).trans (h a k z1 z)
theorem fN_89 {I I' : Nat → Nat → Int32} (h : ∀ a k, a ≠ 89 → I' a k = I a k) : fN I I' := fun a k z _ => h a k z
theorem nR_Y {I I' : Nat → Nat → Int32} {m : Nat → Nat} (h : nR I m) (f : fY I I') : nR I' m := fun k hk => (f 89 k (fun e => absurd e (by decide))).trans (h k hk)
theorem mR_N {I I' : Nat → Nat → Int32} {tx : Nat → Nat} {z a : Nat} (h : mR I tx z a) (f : fN I I') (e : I' 71 27 = I 71 27) : mR I' tx z a := ⟨(f 71 25 (by decide) (fun _ => by decide)).trans h.1, fun i hi => (f 88 i (by decide) (fun e => absurd e (by decide))).trans (h.2.1 i hi), e.trans h.2.2⟩
theorem mR_89 {I I' : Nat → Nat → Int32} {tx : Nat → Nat} {z a : Nat} (h : mR I tx z a) (f : ∀ a k, a ≠ 89 → I' a k = I a k) : mR I' tx z a := mR_N h (fN_89 f) (f 71 27 (by decide))
theorem fY_27 {I : Nat → Nat → Int32} {v : Int32} : fY I (km_up I 71 27 v) := fun a k z => by
  by_cases e : a = 71
  · exact up_k (z e).1
  · exact up_a e
theorem fY_28 {I : Nat → Nat → Int32} {v : Int32} : fY I (km_up I 71 28 v) := fun a k z => by
  by_cases e : a = 71
  · exact up_k (z e).2
  · exact up_a e
theorem mR_27 {I : Nat → Nat → Int32} {tx : Nat → Nat} {z a v : Nat} (h : mR I tx z a) : mR (km_up I 71 27 (nI v)) tx z v := ⟨by rw [up_k (by decide)]; exact h.1, fun i hi => by rw [up_a (by decide)]; exact h.2.1 i hi, up_s⟩
theorem mR_28 {I : Nat → Nat → Int32} {tx : Nat → Nat} {z a : Nat} {v : Int32} (h : mR I tx z a) : mR (km_up I 71 28 v) tx z a := ⟨by rw [up_k (by decide)]; exact h.1, fun i hi => by rw [up_a (by decide)]; exact h.2.1 i hi, by rw [up_k (by decide)]; exact h.2.2⟩
/-- behind a sign -/
def tp (z a : Nat) : Nat := if a < z then a + 1 else a
theorem tp_p {z a : Nat} (h : a ≤ z) : a ≤ tp z a ∧ tp z a ≤ z := by
  unfold tp
  split <;> omega
theorem okr_okd {tx : Nat → Nat} {z a lo hi : Nat} (ht : ∀ i, i < z → tx i ≤ 127) (hh : hi ≤ 10) : okr (chI tx z a) ((48 + lo : Nat) : Int) ((47 + hi : Nat) : Int) = okd tx z lo hi a := by
  rw [okr_ch ht (by omega)]
  unfold okd
  congr 1
  exact decide_eq_decide.mpr (by omega)
section MREADS
variable {I : Nat → Nat → Int32} {L : Nat → Nat → Int64} {q r1 r2 : Nat → Nat} {w : Bool} {K : km_K} {m tx : Nat → Nat} {z a f : Nat}
theorem n_look (hM : mR I tx z a) (hz : z ≤ 120) (ht : ∀ i, i < z → tx i ≤ 127) (ha : a ≤ z) (h : ∀ I', fY I I' → mR I' tx z (sk tx z a) → I' 71 28 = nI (sk tx z a) → K (some (.int (chI tx z (sk tx z a)))) (I', L, kr q w r1 r2)) : kC sh kp 145 [.ref 71] (I, L, kr q w r1 r2) K := by
  refine ⟨rfl, ?_⟩
  have fin : ∀ b I', b ≤ z → fY I I' → mR I' tx z b → sk tx z a = b → kW sh kp 145 38 [some (.ref 71)] [] (I', L, kr q w r1 r2) K := fun b I' hb g1 g2 g3 => by
    rw [g3] at h
    have k1 : fY I (km_up I' 71 28 (nI b)) := fY_trans g1 fY_28
    have k2 : mR (km_up I' 71 28 (nI b)) tx z b := mR_28 g2
    have hh := h _ k1 k2 up_s
    refine bM_look_38 ?_
    rw [g2.2.2, k2.1, k2.2.2]
    unfold chI at hh
    refine pk_le z b (fun y => bM_look_69 (bM_look_70 ?_)) (fun y => bM_look_57 ?_)
    · rw [if_neg (by omega)] at hh
      exact hh
    · rw [if_pos y] at hh
      rw [k2.2.2, nI_clamp (by omega), k2.2.1 b y]
      exact ⟨vp_in_nI (by omega) (by decide), bM_look_70 hh⟩
  have key : ∀ k b, b + k = z → ∀ I', fY I I' → mR I' tx z b → sk tx z b = sk tx z a → kW sh kp 145 0 [some (.ref 71)] [] (I', L, kr q w r1 r2) K := fun k => by
    induction k with
    | zero =>
      intro b hb I' g1 g2 g3
      refine bM_look_0 ?_
      rw [g2.1, g2.2.2]
      refine pk_le z b (fun _ => fin b I' (by omega) g1 g2 ?_) (fun y => absurd y (by omega))
      rw [← g3, sk_id (by omega)]
    | succ k ih =>
      intro b hb I' g1 g2 g3
      refine bM_look_0 ?_
      rw [g2.1, g2.2.2]
      refine pk_le z b (fun y => absurd y (by omega)) (fun _ => bM_look_11 ?_)
      have tb := ht b (by omega)
      rw [g2.2.2, nI_clamp (by omega), g2.2.1 b (by omega)]
      refine ⟨vp_in_nI (by omega) (by decide), (pk_eq (tx b) 32 (fun y => bM_look_25 ?_) (fun y => fin b I' (by omega) g1 g2 ?_)).symm⟩
      · rw [g2.2.2, nI_1]
        exact ih (b + 1) (by omega) _ (fY_trans g1 fY_27) (mR_27 g2) ((sk_s ⟨by omega, y⟩).symm.trans g3)
      · rw [← g3, sk_id (fun x => y x.2)]
  exact key (z - a) a (by omega) I fY_refl hM rfl
theorem n_take (hM : mR I tx z a) (hz : z ≤ 120) (ht : ∀ i, i < z → tx i ≤ 127) (ha : a ≤ z) (h : ∀ I', fY I I' → mR I' tx z (tp z (sk tx z a)) → I' 71 28 = nI (sk tx z a) → K (some (.int (chI tx z (sk tx z a)))) (I', L, kr q w r1 r2)) : kC sh kp 146 [.ref 71] (I, L, kr q w r1 r2) K := by
  have s1 := sk_p (tx := tx) ha
  refine ⟨rfl, bM_take_0 (n_look hM hz ht ha fun I' g1 g2 g3 => bM_take_4 ?_)⟩
  generalize sk tx z a = b at s1 g2 g3 h
  rw [g2.2.2]
  by_cases e : b < z
  · have tb := ht b e
    have ec : chI tx z b = nI (tx b) := if_pos e
    have et : tp z b = b + 1 := if_pos e
    rw [ec, et] at h
    rw [ec]
    refine pk_le 0 (tx b) (fun _ => bM_take_18 (bM_take_19 ⟨rfl, ?_⟩)) (fun y => absurd y (by omega))
    rw [nI_1]
    exact h _ (fY_trans g1 fY_27) (mR_27 g2) (by rw [up_k (by decide)]; exact g3)
  · have ec : chI tx z b = -1 := if_neg e
    have et : tp z b = b := if_neg e
    rw [ec, et] at h
    rw [ec]
    refine ⟨fun y => absurd y (by decide), fun _ => bM_take_14 (bM_take_19 ⟨rfl, ?_⟩)⟩
    have e0 : nI b + 0 = nI b := by rw [fa_lit 0, nI_add]; rfl
    rw [e0]
    exact h _ (fY_trans g1 fY_27) (mR_27 g2) (by rw [up_k (by decide)]; exact g3)
theorem n_isThere (hN : I 89 0 = nI (m 0)) (hw : m 0 ≤ 10) (ht : ∀ i, i < z → tx i ≤ 127) (h : K (some (.int (cond (okd tx z 0 (m 0) a) 1 0))) (I, L, kr q w r1 r2)) : kC sh kp 147 [.ref 71, .int (chI tx z a)] (I, L, kr q w r1 r2) K := by
  have no : okd tx z 0 (m 0) a = false → kW sh kp 147 28 [none, none] [] (I, L, kr q w r1 r2) K := fun e => by
    rw [e] at h
    exact bM_isThere_28 (bM_isThere_29 ⟨Or.inl rfl, h⟩)
  refine ⟨rfl, bM_isThere_0 (mm_in (a := 48) (b := 57) rfl rfl (bM_isThere_8 ?_))⟩
  have e : okr (chI tx z a) 48 57 = isd (chr tx z a) := okr_ch (lo := 48) (hi := 57) ht (by decide)
  rw [e]
  refine cb0 (fun y => bM_isThere_11 ⟨pk_in 0 212 (by decide), ?_⟩) (fun y => no ?_)
  · have y1 := isd_t y
    have y2 := isd_lt y
    have ec : chr tx z a = tx a := if_pos y2
    have ei : chI tx z a = nI (tx a) := if_pos y2
    rw [cl0, hN, ei, show nI (tx a) - 48 = nI (tx a - 48) from pk_sub (b := 48) (by omega)]
    refine pk_le (m 0) (tx a - 48) (fun y3 => no ?_) (fun y3 => bM_isThere_24 (bM_isThere_29 ⟨Or.inr rfl, ?_⟩))
    · unfold okd
      rw [decide_eq_false (show ¬ chr tx z a < 48 + m 0 by omega), Bool.and_false]
    · have : okd tx z 0 (m 0) a = true := by
        unfold okd
        rw [decide_eq_true (show 48 + 0 ≤ chr tx z a by omega), decide_eq_true (show chr tx z a < 48 + m 0 by omega)]
        rfl
      rw [this] at h
      exact h
  · have y1 := isd_f y
    cases e2 : okd tx z 0 (m 0) a with
    | false => rfl
    | true =>
      have := okd_t e2
      omega
/-- behind an order: read and laid, or where it fails -/
def oM (tx : Nat → Nat) (z : Nat) (X : Nat × Nat × (Nat → Nat)) (K : km_K) (q r1 r2 : Nat → Nat) (w : Bool) (I : Nat → Nat → Int32) (L : Nat → Nat → Int64) : Prop := (X.1 = 0 → ∀ I', fN I I' → mR I' tx z X.2.1 → nR I' X.2.2 → K (some (.int 1)) (I', L, kr q w r1 r2)) ∧ (X.1 ≠ 0 → ∀ I', fN I I' → I' 71 28 = nI (X.1 - 1) → K (some (.int 0)) (I', L, kr q w r1 r2))
theorem chI_59 {c : Nat} (ht : ∀ i, i < z → tx i ≤ 127) (hc : c ≤ 127) (h : chI tx z a = nI c) : a < z ∧ tx a = c := by
  have e := (chI_c ht hc).mp h
  have l := chr_lt (tx := tx) (z := z) (a := a) (by omega)
  exact ⟨l, (if_pos l : chr tx z a = tx a).symm.trans e⟩
theorem isd_okd {b : Nat} (h : isd (chr tx z b) = true) : okd tx z 0 10 b = true := by
  have := isd_t h
  unfold okd
  rw [decide_eq_true (by omega), decide_eq_true (by omega)]
  rfl
theorem isd_nokd {b : Nat} (h : isd (chr tx z b) = false) : okd tx z 0 10 b = false := by
  have := isd_f h
  cases e : okd tx z 0 10 b with
  | false => rfl
  | true =>
    have := okd_t e
    omega
theorem okd_v {lo hi b : Nat} (hh : hi ≤ 10) (h : okd tx z lo hi b = true) : dv tx z lo hi b = tx b - 48 ∧ da tx z lo hi b = b + 1 ∧ (∀ f, df tx z lo hi b f = f) ∧ b < z ∧ 48 + lo ≤ tx b ∧ tx b < 48 + hi := by
  have l := okd_lt hh h
  have e := okd_t h
  have ec : chr tx z b = tx b := if_pos l
  refine ⟨?_, ?_, fun f => ?_, l, by omega, by omega⟩
  · unfold dv
    rw [h, ec]
    rfl
  · unfold da
    rw [h]
    rfl
  · unfold df
    rw [h]
    rfl
theorem okd_n {lo hi b : Nat} (h : okd tx z lo hi b = false) : dv tx z lo hi b = 0 ∧ da tx z lo hi b = b ∧ ∀ f, df tx z lo hi b f = fl f b := by
  refine ⟨?_, ?_, fun f => ?_⟩
  · unfold dv
    rw [h]
    rfl
  · unfold da
    rw [h]
    rfl
  · unfold df
    rw [h]
    rfl
theorem n_place (hM : mR I tx z (a + 1)) (h28 : I 71 28 = nI a) (hR : nR I m) (hw : wf m) (hz : z ≤ 120) (ht : ∀ i, i < z → tx i ≤ 127) (ha : a < z) (hp : m 0 < 10) (h : oM tx z (rP tx z m a) K q r1 r2 w I L) : kC sh kp 148 [.ref 71] (I, L, kr q w r1 r2) K := by
  have s1 := sk_p (tx := tx) (z := z) (a := a + 1) (by omega)
  refine ⟨rfl, bM_readsPlace_0 ⟨pk_in 0 212 (by decide), ?_⟩⟩
  rw [cl0, hR 0 (by decide)]
  refine (pk_eq (m 0) 10 (fun y => absurd y (by omega)) (fun _ => bM_readsPlace_13 (n_look hM hz ht (by omega) fun I1 g1 g2 g3 => bM_readsPlace_17 ?_))).symm
  have h : oM tx z (rP0 tx z m (sk tx z (a + 1))) K q r1 r2 w I L := h
  generalize sk tx z (a + 1) = b at s1 g2 g3 h
  rw [g2.2.2]
  have R1 := nR_Y hR g1
  -- one more digit
  have dig : ∀ (c v : Nat) I', fY I I' → mR I' tx z c → isd (chr tx z c) = true → (c < b + 2 → kW sh kp 148 25 [some (.ref 71), some (.int (nI b)), some (.int (nI (10 * v + (tx c - 48))))] [] (km_up I' 71 27 (nI (c + 1)), L, kr q w r1 r2) K) → (b + 2 ≤ c → kW sh kp 148 25 [some (.ref 71), some (.int (nI b)), some (.int (nI 99))] [] (km_up I' 71 27 (nI (c + 1)), L, kr q w r1 r2) K) → b ≤ c → v ≤ 1000 → kW sh kp 148 25 [some (.ref 71), some (.int (nI b)), some (.int (nI v))] [] (I', L, kr q w r1 r2) K := fun c v I' j1 j2 j3 k1 k2 hbc hv => by
    have y2 := isd_lt j3
    have y1 := isd_t j3
    have ec : chr tx z c = tx c := if_pos y2
    have tc := ht c y2
    refine bM_readsPlace_25 ?_
    rw [j2.1, j2.2.2]
    refine pk_le z c (fun y => absurd y (by omega)) (fun _ => bM_readsPlace_36 ?_)
    rw [j2.2.2, nI_clamp (by omega), j2.2.1 c y2]
    refine ⟨vp_in_nI (by omega) (by decide), mm_in (a := 48) (b := 57) rfl rfl (bM_readsPlace_52 ?_)⟩
    have ei : chI tx z c = nI (tx c) := if_pos y2
    have e : okr (nI (tx c)) 48 57 = true := by
      rw [← ei, show okr (chI tx z c) 48 57 = isd (chr tx z c) from okr_ch (lo := 48) (hi := 57) ht (by decide)]
      exact j3
    rw [e]
    refine cb0 (fun _ => bM_readsPlace_55 ?_) (fun y => absurd y (by decide))
    rw [j2.2.2, show nI c - nI b = nI (c - b) from pk_sub (by omega)]
    refine pk_le 2 (c - b) (fun y => bM_readsPlace_85 (bM_readsPlace_87 ?_)) (fun y => bM_readsPlace_65 ?_)
    · rw [j2.2.2, nI_1]
      exact k2 (by omega)
    · rw [j2.2.2, nI_clamp (by omega), j2.2.1 c y2, fa_lit 10, pk_mul, nI_add, show nI (10 * v + tx c) - 48 = nI (10 * v + tx c - 48) from pk_sub (b := 48) (by omega), show 10 * v + tx c - 48 = 10 * v + (tx c - 48) by omega]
      refine ⟨vp_in_nI (by omega) (by decide), bM_readsPlace_87 ?_⟩
      rw [j2.2.2, nI_1]
      exact k1 (by omega)
  -- no more digits
  have nod : ∀ (c v : Nat) I', fY I I' → mR I' tx z c → c ≤ z → isd (chr tx z c) = false → kW sh kp 148 101 [some (.ref 71), some (.int (nI b)), some (.int (nI v))] [] (I', L, kr q w r1 r2) K → kW sh kp 148 25 [some (.ref 71), some (.int (nI b)), some (.int (nI v))] [] (I', L, kr q w r1 r2) K := fun c v I' j1 j2 j3 j4 k => by
    refine bM_readsPlace_25 ?_
    rw [j2.1, j2.2.2]
    refine pk_le z c (fun y => k) (fun y => bM_readsPlace_36 ?_)
    rw [j2.2.2, nI_clamp (by omega), j2.2.1 c y]
    refine ⟨vp_in_nI (by omega) (by decide), mm_in (a := 48) (b := 57) rfl rfl (bM_readsPlace_52 ?_)⟩
    have ei : chI tx z c = nI (tx c) := if_pos y
    have e : okr (nI (tx c)) 48 57 = false := by
      rw [← ei, show okr (chI tx z c) 48 57 = isd (chr tx z c) from okr_ch (lo := 48) (hi := 57) ht (by decide)]
      exact j4
    rw [e]
    exact cb0 (fun y => absurd y (by decide)) (fun _ => k)
  -- more than two digits
  have many : ∀ k c (v : Nat) I', c + k = z → fY I I' → mR I' tx z c → I' 71 28 = nI b → b + 2 ≤ c → isd (chr tx z c) = true ∨ v = 99 → v ≤ 99 → (∀ I2, fY I I2 → I2 71 28 = nI b → K (some (.int 0)) (I2, L, kr q w r1 r2)) → kW sh kp 148 25 [some (.ref 71), some (.int (nI b)), some (.int (nI v))] [] (I', L, kr q w r1 r2) K := fun k => by
    induction k with
    | zero =>
      intro c v I' hc j1 j2 j3 j4 j5 j6 hh
      cases ed : isd (chr tx z c) with
      | true => exact absurd (isd_lt ed) (by omega)
      | false =>
        rw [ed] at j5
        have v99 : v = 99 := j5.resolve_left (by decide)
        refine nod c v I' j1 j2 (by omega) ed (bM_readsPlace_101 ?_)
        rw [j2.2.2]
        refine pk_eq c b (fun y => absurd y (by omega)) (fun _ => bM_readsPlace_109 (pk_le v 15 (fun y => absurd y (by omega)) (fun _ => bM_readsPlace_115 (hh I' j1 j3))))
    | succ k ih =>
      intro c v I' hc j1 j2 j3 j4 j5 j6 hh
      cases ed : isd (chr tx z c) with
      | true => exact dig c v I' j1 j2 ed (fun y => absurd y (by omega)) (fun _ => ih (c + 1) 99 _ (by omega) (fY_trans j1 fY_27) (mR_27 j2) (by rw [up_k (by decide)]; exact j3) (by omega) (Or.inr rfl) (by decide) hh) (by omega) (by omega)
      | false =>
        rw [ed] at j5
        have v99 : v = 99 := j5.resolve_left (by decide)
        refine nod c v I' j1 j2 (by omega) ed (bM_readsPlace_101 ?_)
        rw [j2.2.2]
        refine pk_eq c b (fun y => absurd y (by omega)) (fun _ => bM_readsPlace_109 (pk_le v 15 (fun y => absurd y (by omega)) (fun _ => bM_readsPlace_115 (hh I' j1 j3))))
  -- one or two digits
  have fin : ∀ (c v : Nat) I', fY I I' → mR I' tx z c → I' 71 28 = nI b → b < c → c ≤ z → isd (chr tx z c) = false → v ≤ 99 → oM tx z (rP2 tx z m v (if 15 < v ∨ isd (chr tx z c) = true then b + 1 else 0) c) K q r1 r2 w I L → kW sh kp 148 25 [some (.ref 71), some (.int (nI b)), some (.int (nI v))] [] (I', L, kr q w r1 r2) K := fun c v I' j1 j2 j3 hbc hcz ed hv99 h => by
    refine nod c v I' j1 j2 hcz ed (bM_readsPlace_101 ?_)
    rw [j2.2.2]
    refine pk_eq c b (fun y => absurd y (by omega)) (fun _ => bM_readsPlace_109 (pk_le v 15 (fun y => bM_readsPlace_117 ?_) (fun y => bM_readsPlace_115 ?_)))
    · have e : ¬ (15 < v ∨ isd (chr tx z c) = true) := fun x => by
        rcases x with x | x
        · omega
        · rw [ed] at x
          exact absurd x (by decide)
      rw [if_neg e] at h
      have sc := sk_p (tx := tx) hcz
      refine n_take j2 hz ht hcz fun I2 k1 k2 k3 => bM_readsPlace_121 ?_
      unfold rP2 xf xa at h
      generalize sk tx z c = d at sc k2 k3 h
      refine ⟨fun y2 => bM_readsPlace_128 ?_, fun y2 => bM_readsPlace_126 ?_⟩
      · obtain ⟨l, el⟩ := chI_59 ht (c := 59) (by decide) y2
        have ec : chr tx z d = 59 := (if_pos l : chr tx z d = tx d).trans el
        rw [if_pos ec, if_pos ec, if_pos rfl] at h
        rw [show tp z d = d + 1 from if_pos l] at k2
        refine r_adds (m := m) (nR_Y hR (fY_trans j1 k1)) hp fun I3 l1 l2 => bM_readsPlace_136 (r_settles l2 (by rw [adp_0]; omega) fun I4 n1 n2 => bM_readsPlace_144 ?_)
        have f34 : ∀ a k, a ≠ 89 → I4 a k = I2 a k := fun a k z => (n1 a k z).trans (l1 a k z)
        exact h.1 rfl I4 (fN_trans (fN_Y (fY_trans j1 k1)) (fN_89 f34)) (mR_89 k2 f34) n2
      · have nc : ¬ chr tx z d = 59 := fun e => y2 ((chI_c ht (by decide)).mpr e)
        rw [if_neg nc, if_neg nc] at h
        exact h.2 (show fl 0 d ≠ 0 from fl_n) I2 (fN_Y (fY_trans j1 k1)) k3
    · have e : 15 < v ∨ isd (chr tx z c) = true := Or.inl (by omega)
      rw [if_pos e] at h
      have e0 : (rP2 tx z m v (b + 1) c).1 = b + 1 := by
        show xf tx z 59 c (b + 1) = b + 1
        unfold xf
        split
        · rfl
        · exact fl_0 (by omega)
      refine h.2 (by rw [e0]; omega) I' (fN_Y j1) ?_
      rw [e0]
      exact j3
  unfold rP0 rP1 at h
  cases e1 : isd (chr tx z b) with
  | false =>
    have o1 := okd_n (isd_nokd e1)
    rw [o1.2.1, o1.1, e1, o1.2.2 0] at h
    refine nod b 0 I1 g1 g2 s1.2.1 e1 (bM_readsPlace_101 ?_)
    rw [g2.2.2]
    refine pk_eq b b (fun _ => bM_readsPlace_115 ?_) (fun y => absurd rfl y)
    have h : oM tx z (rP2 tx z m 0 (if 15 < 0 ∨ isd (chr tx z b) = true then fl (fl 0 b) b else fl 0 b) b) K q r1 r2 w I L := h
    rw [if_neg (fun x => by rcases x with x | x; exact absurd x (by decide); rw [e1] at x; exact absurd x (by decide))] at h
    have e0 : (rP2 tx z m 0 (fl 0 b) b).1 = b + 1 := by
      show xf tx z 59 b (b + 1) = b + 1
      unfold xf
      split
      · rfl
      · exact fl_0 (by omega)
    refine h.2 (by rw [e0]; omega) I1 (fN_Y g1) ?_
    rw [e0]
    exact g3
  | true =>
    have o1 := okd_v (by decide) (isd_okd e1)
    rw [o1.2.1, o1.1, o1.2.2.1 0] at h
    refine dig b 0 I1 g1 g2 e1 (fun _ => ?_) (fun y => absurd y (by omega)) (Nat.le_refl _) (by decide)
    rw [show 10 * 0 + (tx b - 48) = tx b - 48 by omega]
    have k1 : fY I (km_up I1 71 27 (nI (b + 1))) := fY_trans g1 fY_27
    have k2 : mR (km_up I1 71 27 (nI (b + 1))) tx z (b + 1) := mR_27 g2
    have k3 : km_up I1 71 27 (nI (b + 1)) 71 28 = nI b := by rw [up_k (by decide)]; exact g3
    generalize km_up I1 71 27 (nI (b + 1)) = I2 at k1 k2 k3
    cases e2 : isd (chr tx z (b + 1)) with
    | false =>
      rw [e2] at h
      simp only [cond_false] at h
      exact fin (b + 1) (tx b - 48) I2 k1 k2 k3 (by omega) (by omega) e2 (by omega) h
    | true =>
      have o2 := okd_v (by decide) (isd_okd e2)
      rw [e2, o2.2.1, o2.1] at h
      simp only [cond_true] at h
      refine dig (b + 1) (tx b - 48) I2 k1 k2 e2 (fun _ => ?_) (fun y => absurd y (by omega)) (by omega) (by omega)
      have l1 : fY I (km_up I2 71 27 (nI (b + 1 + 1))) := fY_trans k1 fY_27
      have l2 : mR (km_up I2 71 27 (nI (b + 1 + 1))) tx z (b + 1 + 1) := mR_27 k2
      have l3 : km_up I2 71 27 (nI (b + 1 + 1)) 71 28 = nI b := by rw [up_k (by decide)]; exact k3
      generalize km_up I2 71 27 (nI (b + 1 + 1)) = I3 at l1 l2 l3
      cases e3 : isd (chr tx z (b + 1 + 1)) with
      | false => exact fin (b + 1 + 1) _ I3 l1 l2 l3 (by omega) (by omega) e3 (by omega) h
      | true =>
        refine many (z - (b + 1 + 1)) (b + 1 + 1) _ I3 (by omega) l1 l2 l3 (by omega) (Or.inl e3) (by omega) fun I4 n1 n2 => ?_
        have e : 15 < 10 * (tx b - 48) + (tx (b + 1) - 48) ∨ isd (chr tx z (b + 1 + 1)) = true := Or.inr e3
        rw [if_pos e] at h
        have e0 : (rP2 tx z m (10 * (tx b - 48) + (tx (b + 1) - 48)) (fl 0 b) (b + 1 + 1)).1 = b + 1 := by
          show xf tx z 59 (b + 1 + 1) (b + 1) = b + 1
          unfold xf
          split
          · rfl
          · exact fl_0 (by omega)
        refine h.2 (by rw [e0]; omega) I4 (fN_Y n1) ?_
        rw [e0]
        exact n2
end MREADS
