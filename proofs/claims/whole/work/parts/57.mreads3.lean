/-! TEXTS: the reference's reader, lines, guards, texts -/
section MREADS3
variable {I : Nat → Nat → Int32} {L : Nat → Nat → Int64} {q r1 r2 : Nat → Nat} {w : Bool} {K : km_K} {m tx : Nat → Nat} {z a f : Nat}
theorem cMc_f {P k n : Nat} {g : Nat → Nat} (h : f ≠ 0) : cMc tx z P k n a f g = (n, a, f, g) := by
  cases k with
  | zero => rfl
  | succ k =>
    unfold cMc
    rw [if_neg (fun x => h x.1)]
theorem cGs_f {P k S : Nat} (h : f ≠ 0) : cGs tx z P k a f S = (a, f, S) := by
  cases k with
  | zero => rfl
  | succ k =>
    unfold cGs
    rw [if_neg (fun x => h x.1)]
theorem dgn_cg {f g : Nat → Nat} : ∀ r i, (∀ j, i ≤ j → j < i + r → f j = g j) → dgn f i r = dgn g i r
  | 0, i, h => rfl
  | r + 1, i, h => by
    show f i * 10 ^ r + dgn f (i + 1) r = g i * 10 ^ r + dgn g (i + 1) r
    rw [h i (by omega) (by omega), dgn_cg r (i + 1) (fun j h1 h2 => h j (by omega) (by omega))]
theorem okd_isd {P b : Nat} (hP : P ≤ 10) (h : okd tx z 0 P b = true) : isd (chr tx z b) = true := by
  have := okd_t h
  unfold isd
  rw [decide_eq_true (by omega), decide_eq_true (by omega)]
  rfl
theorem n_line (hM : mR I tx z (a + 1)) (h28 : I 71 28 = nI a) (hR : nR I m) (hw : wf m) (hz : z ≤ 120) (ht : ∀ i, i < z → tx i ≤ 127) (ha : a < z) (h : oM tx z (rL tx z m a) K q r1 r2 w I L) : kC sh kp 151 [.ref 71] (I, L, kr q w r1 r2) K := by
  have w0 := hw.1.1
  have w1 := hw.1.2.1
  have s1 := sk_p (tx := tx) (z := z) (a := a + 1) (by omega)
  refine ⟨rfl, bM_readsLine_0 ?_⟩
  rw [h28]
  refine n_take hM hz ht (by omega) fun I1 g1 g2 g3 => bM_readsLine_9 ?_
  have h : oM tx z (rL0 tx z m a (sk tx z (a + 1))) K q r1 r2 w I L := h
  generalize sk tx z (a + 1) = b at s1 g2 g3 h
  refine mm_in (a := 49) (b := 57) rfl rfl (bM_readsLine_18 ?_)
  rw [show okr (chI tx z b) 49 57 = okd tx z 1 10 b from okr_okd (lo := 1) (hi := 10) ht (by decide)]
  have keep2 : ∀ (k : Nat) (A : Nat × Nat × Nat × (Nat → Nat)), A.2.2.1 ≠ 0 → (rL1 tx z m a k A).1 = A.2.2.1 := fun c A hA => by
    unfold rL1 rL2
    rw [xf_n hA, fl_0 hA]
    show ite _ _ _ = _
    split <;> rfl
  unfold rL0 at h
  refine cb1 (fun y => bM_readsLine_23 ?_) (fun y => bM_readsLine_21 ?_)
  · have o := okd_v (by decide) y
    have ei : chI tx z b = nI (tx b) := if_pos o.2.2.2.1
    have et : tp z b = b + 1 := if_pos o.2.2.2.1
    rw [o.1, o.2.1, o.2.2.1 0] at h
    rw [et] at g2
    have hx := o.2.2.2.2
    have hb := o.2.2.2.1
    have e48 : chI tx z b - 48 = nI (tx b - 48) := by
      rw [ei]
      exact pk_sub (b := 48) (by omega)
    have hk9 : tx b - 48 ≤ 9 := by omega
    generalize tx b - 48 = k0 at h e48 hk9
    generalize chI tx z b = x2 at e48 ⊢
    have sA := sk_p (tx := tx) (z := z) (a := b + 1) (by omega)
    have pA := cMc_p (tx := tx) (z := z) w0 4 0 (sk tx z (b + 1)) 0 (fun _ => 0) sA.2.1 (by omega) (fun _ => by decide) (fun _ j hj => absurd hj (by omega))
    -- the loop over machines
    have loop : ∀ k n x (g : Nat → Nat) I', n + k = 4 → x ≤ z → sk tx z x = x → fN I I' → mR I' tx z (tp z x) → I' 71 28 = nI x → nR I' m → ((cMc tx z (m 0) k n x 0 g).2.2.1 = 0 → ∀ I2, fN I I2 → mR I2 tx z (tp z (cMc tx z (m 0) k n x 0 g).2.1) → I2 71 28 = nI (cMc tx z (m 0) k n x 0 g).2.1 → nR I2 m → sk tx z (cMc tx z (m 0) k n x 0 g).2.1 = (cMc tx z (m 0) k n x 0 g).2.1 → (cMc tx z (m 0) k n x 0 g).1 ≠ 0 → kW sh kp 151 73 [some (.ref 71), some (.int (nI a)), some (.int x2), some (.int (nI (cMc tx z (m 0) k n x 0 g).1)), some (.int (nI (dgn (cMc tx z (m 0) k n x 0 g).2.2.2 0 (cMc tx z (m 0) k n x 0 g).1))), some (.int (chI tx z (cMc tx z (m 0) k n x 0 g).2.1))] [] (I2, L, kr q w r1 r2) K) → ((cMc tx z (m 0) k n x 0 g).2.2.1 ≠ 0 → ∀ I2, fN I I2 → I2 71 28 = nI ((cMc tx z (m 0) k n x 0 g).2.2.1 - 1) → K (some (.int 0)) (I2, L, kr q w r1 r2)) → kW sh kp 151 34 [some (.ref 71), some (.int (nI a)), some (.int x2), some (.int (nI n)), some (.int (nI (dgn g 0 n))), some (.int (chI tx z x))] [] (I', L, kr q w r1 r2) K := fun k => by
      induction k with
      | zero =>
        intro n x g I' hn hx hs f1 f2 f3 f4 h1 h2
        exact bM_readsLine_34 (pk_le 4 n (fun _ => h1 rfl I' f1 f2 f3 f4 hs (by show n ≠ 0; omega)) (fun y => absurd y (by omega)))
      | succ k ih =>
        intro n x g I' hn hx hs f1 f2 f3 f4 h1 h2
        unfold cMc at h1 h2
        refine bM_readsLine_34 (pk_le 4 n (fun y => absurd y (by omega)) (fun _ => bM_readsLine_39 (n_isThere (m := m) (f4 0 (by decide)) w0 ht (bM_readsLine_45 (cb0 (fun y => bM_readsLine_48 ?_) (fun y => ?_))))))
        · have o := okd_v w0 y
          have ed := okd_isd w0 y
          have ei : chI tx z x = nI (tx x) := if_pos o.2.2.2.1
          have et : tp z x = x + 1 := if_pos o.2.2.2.1
          rw [if_pos ⟨rfl, Or.inr ed⟩, o.1, o.2.1, o.2.2.1 0] at h1 h2
          rw [et] at f2
          have hxx := o.2.2.2
          rw [ei, fa_lit 10, pk_mul, nI_add, show nI (10 * dgn g 0 n + tx x) - 48 = nI (10 * dgn g 0 n + tx x - 48) from pk_sub (b := 48) (by omega), nI_1]
          have ed : 10 * dgn g 0 n + tx x - 48 = dgn (ups g n (tx x - 48)) 0 (n + 1) := by
            rw [dgn_snoc, Nat.zero_add, ups_s, dgn_cg (f := ups g n (tx x - 48)) (g := g) n 0 (fun j _ h2 => ups_o (by omega))]
            omega
          rw [ed]
          have sx := sk_p (tx := tx) (z := z) (a := x + 1) (by omega)
          exact n_take f2 hz ht (by omega) fun I2 j1 j2 j3 => bM_readsLine_68 (ih (n + 1) (sk tx z (x + 1)) _ I2 (by omega) sx.2.1 (sk_id sx.2.2) (fN_trans f1 (fN_Y j1)) j2 j3 (nR_Y f4 j1) h1 h2)
        · by_cases e : n = 0 ∨ isd (chr tx z x) = true
          · have o := okd_n y
            rw [if_pos ⟨rfl, e⟩, o.2.2 0, cMc_f fl_n] at h2
            have h2 := h2 (show fl 0 x ≠ 0 from fl_n) I' f1 f3
            refine bM_readsLine_73 (pk_eq n 0 (fun _ => bM_readsLine_84 h2) (fun y0 => bM_readsLine_77 ⟨fun y3 => ?_, fun _ => bM_readsLine_84 h2⟩))
            exact absurd y3 (chI_d ht (by decide) (by decide) (e.resolve_left y0))
          · rw [if_neg (fun x => e x.2)] at h1
            exact h1 rfl I' f1 f2 f3 f4 hs (fun y0 => e (Or.inl y0))
    refine n_take g2 hz ht (by omega) fun I2 j1 j2 j3 => bM_readsLine_32 (loop 4 0 (sk tx z (b + 1)) (fun _ => 0) I2 rfl sA.2.1 (sk_id sA.2.2) (fN_Y (fY_trans g1 j1)) j2 j3 (nR_Y hR (fY_trans g1 j1)) (fun eA I3 k1 k2 k3 k4 k5 k6 => ?_) (fun eA I3 k1 k2 => ?_))
    · generalize cMc tx z (m 0) 4 0 (sk tx z (b + 1)) 0 (fun _ => 0) = A at pA eA k2 k3 k5 k6 h ⊢
      unfold rL1 at h
      have ex : xa tx z 59 A.2.1 = if chr tx z A.2.1 = 59 then A.2.1 + 1 else A.2.1 := by
        unfold xa
        rw [k5]
      have ef : xf tx z 59 A.2.1 A.2.2.1 = if chr tx z A.2.1 = 59 then 0 else A.2.1 + 1 := by
        unfold xf
        rw [k5, eA]
        rfl
      rw [ef] at h
      unfold rL2 at h
      rw [ex] at h
      refine bM_readsLine_73 (pk_eq A.1 0 (fun y0 => absurd y0 k6) (fun _ => bM_readsLine_77 ⟨fun y3 => bM_readsLine_86 ⟨pk_in 0 212 (by decide), ?_⟩, fun y3 => bM_readsLine_84 ?_⟩))
      · obtain ⟨l, el⟩ := chI_59 ht (c := 59) (by decide) y3
        have ec : chr tx z A.2.1 = 59 := (if_pos l : chr tx z A.2.1 = tx A.2.1).trans el
        rw [if_pos ec, if_pos ec] at h
        rw [show tp z A.2.1 = A.2.1 + 1 from if_pos l] at k2
        have no : ¬ (m 0 + A.1 + 1 ≤ 10 ∧ m 1 + A.1 + 1 ≤ 8) → kW sh kp 151 116 [some (.ref 71), some (.int (nI a)), none, none, none, none] [] (I3, L, kr q w r1 r2) K := fun c => bM_readsLine_116 (by
          rw [if_neg c] at h
          exact h.2 (show fl 0 a ≠ 0 from fl_n) _ (fN_trans k1 (fN_Y fY_28)) up_s)
        rw [cl0, k4 0 (by decide), nI_add, nI_1]
        refine pk_lt 10 (m 0 + A.1 + 1) (fun y => no (by omega)) (fun y4 => bM_readsLine_101 ⟨pk_in 1 212 (by decide), ?_⟩)
        rw [cl1, k4 1 (by decide), nI_add, nI_1]
        refine pk_le (m 1 + A.1 + 1) 8 (fun y5 => bM_readsLine_123 ?_) (fun y => no (by omega))
        rw [if_pos ⟨y4, y5⟩, if_pos rfl] at h
        have hm := pA.2.2.2.2.1 eA
        have pl := lnN_p (k := k0) (n := A.1) (mc := A.2.2.2) hw.1 hw.2.2 (by omega) y4 y5 hm
        rw [e48]
        refine r_lays (m := m) (k := k0) (n := A.1) (mc := A.2.2.2) k4 hw.1 hw.2.2 (by omega) (by omega) (by omega) y4 y5 hm pA.2.2.2.1 fun I4 l1 l2 => bM_readsLine_137 (r_settles l2 (by rw [pl.2.2.1]; omega) fun I5 n1 n2 => bM_readsLine_144 ?_)
        have f45 : ∀ a k, a ≠ 89 → I5 a k = I3 a k := fun a k z => (n1 a k z).trans (l1 a k z)
        exact h.1 rfl I5 (fN_trans k1 (fN_89 f45)) (mR_89 k2 f45) n2
      · have nc : ¬ chr tx z A.2.1 = 59 := fun e => y3 ((chI_c ht (by decide)).mpr e)
        rw [if_neg nc, if_neg nc, fl_0 (Nat.succ_ne_zero _)] at h
        have e0 : (if m 0 + A.1 + 1 ≤ 10 ∧ m 1 + A.1 + 1 ≤ 8 then A.2.1 + 1 else A.2.1 + 1) = A.2.1 + 1 := by
          split <;> rfl
        rw [e0] at h
        exact h.2 (Nat.succ_ne_zero _) I3 k1 k3
    · refine h.2 (by rw [keep2 _ _ eA]; exact eA) I3 k1 ?_
      rw [keep2 _ _ eA]
      exact k2
  · have o := okd_n y
    rw [o.2.2 0, cMc_f fl_n] at h
    have e0 := keep2 (dv tx z 1 10 b) (0, sk tx z (da tx z 1 10 b), fl 0 b, fun _ => 0) (show fl 0 b ≠ 0 from fl_n)
    refine h.2 (by rw [e0]; exact (show fl 0 b ≠ 0 from fl_n)) I1 (fN_Y g1) ?_
    rw [e0]
    exact g3
theorem n_guard (hM : mR I tx z (a + 1)) (h28 : I 71 28 = nI a) (hR : nR I m) (hw : wf m) (hz : z ≤ 120) (ht : ∀ i, i < z → tx i ≤ 127) (ha : a < z) (hg : m 200 < 5) (h : oM tx z (rG tx z m a) K q r1 r2 w I L) : kC sh kp 152 [.ref 71] (I, L, kr q w r1 r2) K := by
  have w0 := hw.1.1
  have s1 := sk_p (tx := tx) (z := z) (a := a + 1) (by omega)
  refine ⟨rfl, bM_readsGuard_0 ⟨pk_in 200 212 (by decide), ?_⟩⟩
  rw [cl200, hR 200 (by decide), h28]
  refine (pk_eq (m 200) 5 (fun y => absurd y (by omega)) (fun _ => bM_readsGuard_19 (n_take hM hz ht (by omega) fun I1 g1 g2 g3 => bM_readsGuard_25 ?_))).symm
  have h : oM tx z (rG0 tx z m a (sk tx z (a + 1))) K q r1 r2 w I L := h
  generalize sk tx z (a + 1) = b at s1 g2 g3 h
  have R1 := nR_Y hR g1
  have keep3 : ∀ (S c f : Nat), f ≠ 0 → (rG2 tx z m a S c f).1 = f := fun S c f hf => by
    unfold rG2 rG3
    rw [df_n hf, xf_n hf, fl_0 hf]
    show ite _ _ _ = _
    split <;> rfl
  have keep2 : ∀ (A : Nat × Nat × Nat), A.2.1 ≠ 0 → (rG1 tx z m a A).1 = A.2.1 := fun A hA => by
    unfold rG1
    rw [xf_n hA]
    exact keep3 _ _ _ hA
  unfold rG0 at h
  -- one place
  have one : ∀ x S I', okd tx z 0 (m 0) x = true → mR I' tx z (tp z x) → nR I' m → (∀ I2, fY I' I2 → mR I2 tx z (tp z (sk tx z (x + 1))) → I2 71 28 = nI (sk tx z (x + 1)) → kW sh kp 152 26 [some (.ref 71), some (.int (nI a)), some (.int (nI (S ||| 2 ^ dv tx z 0 (m 0) x))), some (.int (chI tx z (sk tx z (x + 1)))), none, none, none] [] (I2, L, kr q w r1 r2) K) → kW sh kp 152 26 [some (.ref 71), some (.int (nI a)), some (.int (nI S)), some (.int (chI tx z x)), none, none, none] [] (I', L, kr q w r1 r2) K := fun x S I' y f2 f4 hh => by
    have o := okd_v w0 y
    have ei : chI tx z x = nI (tx x) := if_pos o.2.2.2.1
    have et : tp z x = x + 1 := if_pos o.2.2.2.1
    have hxx := o.2.2.2
    rw [et] at f2
    rw [o.1] at hh
    refine bM_readsGuard_26 (n_isThere (m := m) (f4 0 (by decide)) w0 ht (bM_readsGuard_31 ?_))
    rw [y]
    refine cb0 (fun _ => bM_readsGuard_34 ?_) (fun y => absurd y (by decide))
    rw [ei, show nI (tx x) - 48 = nI (tx x - 48) from pk_sub (b := 48) (by omega), sh1 _ (show tx x - 48 < 31 by omega), fa_or]
    exact n_take f2 hz ht (by omega) fun I2 j1 j2 j3 => bM_readsGuard_47 (hh I2 j1 j2 j3)
  -- no place
  have non : ∀ x S I', okd tx z 0 (m 0) x = false → nR I' m → kW sh kp 152 51 [some (.ref 71), some (.int (nI a)), some (.int (nI S)), some (.int (chI tx z x)), none, none, none] [] (I', L, kr q w r1 r2) K → kW sh kp 152 26 [some (.ref 71), some (.int (nI a)), some (.int (nI S)), some (.int (chI tx z x)), none, none, none] [] (I', L, kr q w r1 r2) K := fun x S I' y f4 hh => by
    refine bM_readsGuard_26 (n_isThere (m := m) (f4 0 (by decide)) w0 ht (bM_readsGuard_31 ?_))
    rw [y]
    exact cb0 (fun y => absurd y (by decide)) (fun _ => hh)
  cases y : okd tx z 0 (m 0) b with
  | false =>
    have o := okd_n y
    rw [o.2.2 0, cGs_f fl_n] at h
    have e0 := keep2 (sk tx z (da tx z 0 (m 0) b), fl 0 b, 2 ^ dv tx z 0 (m 0) b) (show fl 0 b ≠ 0 from fl_n)
    refine non b 0 I1 y R1 (bM_readsGuard_51 (pk_eq 0 0 (fun _ => bM_readsGuard_61 ?_) (fun y => absurd rfl y)))
    refine h.2 (by rw [e0]; exact (show fl 0 b ≠ 0 from fl_n)) I1 (fN_Y g1) ?_
    rw [e0]
    exact g3
  | true =>
    have o := okd_v w0 y
    rw [o.2.1, o.2.2.1 0] at h
    have hbz := o.2.2.2.1
    have hd : dv tx z 0 (m 0) b < 10 := by
      rw [o.1]
      have := o.2.2.2.2
      omega
    refine one b 0 I1 y g2 R1 fun I2 j1 j2 j3 => ?_
    rw [Nat.zero_or]
    have hS0 : 0 < 2 ^ dv tx z 0 (m 0) b := Nat.pow_pos (by decide)
    have hS1 : 2 ^ dv tx z 0 (m 0) b < 1024 := Nat.pow_lt_pow_right (a := 2) (n := 10) (by decide) hd
    generalize 2 ^ dv tx z 0 (m 0) b = S0 at h hS0 hS1 ⊢
    have sA := sk_p (tx := tx) (z := z) (a := b + 1) (by omega)
    have pA := cGs_p (tx := tx) (z := z) w0 120 (sk tx z (b + 1)) 0 S0 sA.2.1 (by omega) hS1
    have loop : ∀ k x S I', z - x ≤ k → x ≤ z → 0 < S → sk tx z x = x → fN I I' → mR I' tx z (tp z x) → I' 71 28 = nI x → nR I' m → ((cGs tx z (m 0) k x 0 S).2.1 = 0 → ∀ I2, fN I I2 → mR I2 tx z (tp z (cGs tx z (m 0) k x 0 S).1) → I2 71 28 = nI (cGs tx z (m 0) k x 0 S).1 → nR I2 m → sk tx z (cGs tx z (m 0) k x 0 S).1 = (cGs tx z (m 0) k x 0 S).1 → 0 < (cGs tx z (m 0) k x 0 S).2.2 → kW sh kp 152 51 [some (.ref 71), some (.int (nI a)), some (.int (nI (cGs tx z (m 0) k x 0 S).2.2)), some (.int (chI tx z (cGs tx z (m 0) k x 0 S).1)), none, none, none] [] (I2, L, kr q w r1 r2) K) → ((cGs tx z (m 0) k x 0 S).2.1 ≠ 0 → ∀ I2, fN I I2 → I2 71 28 = nI ((cGs tx z (m 0) k x 0 S).2.1 - 1) → K (some (.int 0)) (I2, L, kr q w r1 r2)) → kW sh kp 152 26 [some (.ref 71), some (.int (nI a)), some (.int (nI S)), some (.int (chI tx z x)), none, none, none] [] (I', L, kr q w r1 r2) K := fun k => by
      induction k with
      | zero =>
        intro x S I' hk hx hS hs f1 f2 f3 f4 h1 h2
        have en : chr tx z x = 128 := if_neg (by omega)
        have eo : okd tx z 0 (m 0) x = false := by
          cases e : okd tx z 0 (m 0) x with
          | false => rfl
          | true =>
            have := okd_t e
            omega
        exact non x S I' eo f4 (h1 rfl I' f1 f2 f3 f4 hs hS)
      | succ k ih =>
        intro x S I' hk hx hS hs f1 f2 f3 f4 h1 h2
        unfold cGs at h1 h2
        cases eo : okd tx z 0 (m 0) x with
        | true =>
          have o := okd_v w0 eo
          have ed := okd_isd w0 eo
          rw [if_pos ⟨rfl, ed⟩, o.2.1, o.2.2.1 0] at h1 h2
          have hxz := o.2.2.2.1
          have sx := sk_p (tx := tx) (z := z) (a := x + 1) (by omega)
          exact one x S I' eo f2 f4 fun I2 l1 l2 l3 => ih (sk tx z (x + 1)) _ I2 (by omega) sx.2.1 (Nat.lt_of_lt_of_le hS Nat.left_le_or) (sk_id sx.2.2) (fN_trans f1 (fN_Y l1)) l2 l3 (nR_Y f4 l1) h1 h2
        | false =>
          refine non x S I' eo f4 ?_
          cases ed : isd (chr tx z x) with
          | true =>
            have o := okd_n eo
            rw [if_pos ⟨rfl, ed⟩, o.2.2 0, cGs_f fl_n] at h2
            have h2 := h2 (show fl 0 x ≠ 0 from fl_n) I' f1 f3
            refine bM_readsGuard_51 ⟨fun _ => bM_readsGuard_61 h2, fun _ => bM_readsGuard_55 ⟨fun y3 => ?_, fun _ => bM_readsGuard_61 h2⟩⟩
            have := (chI_c (c := 47) ht (by decide)).mp y3
            have := isd_t ed
            omega
          | false =>
            rw [if_neg (fun y => by rw [ed] at y; exact absurd y.2 (by decide))] at h1
            exact h1 rfl I' f1 f2 f3 f4 hs hS
    refine loop 120 (sk tx z (b + 1)) S0 I2 (by omega) sA.2.1 hS0 (sk_id sA.2.2) (fN_Y (fY_trans g1 j1)) j2 j3 (nR_Y R1 j1) (fun eA I3 k1 k2 k3 k4 k5 k6 => ?_) (fun eA I3 k1 k2 => ?_)
    · generalize cGs tx z (m 0) 120 (sk tx z (b + 1)) 0 S0 = A at pA eA k2 k3 k5 k6 h ⊢
      unfold rG1 at h
      have ex : xa tx z 47 A.1 = if chr tx z A.1 = 47 then A.1 + 1 else A.1 := by
        unfold xa
        rw [k5]
      have ef : xf tx z 47 A.1 A.2.1 = if chr tx z A.1 = 47 then 0 else A.1 + 1 := by
        unfold xf
        rw [k5, eA]
        rfl
      rw [ex, ef] at h
      have sb := pA.2.2.2.1
      refine bM_readsGuard_51 (pk_eq A.2.2 0 (fun y0 => absurd y0 (by omega)) (fun _ => bM_readsGuard_55 ⟨fun y3 => bM_readsGuard_63 ?_, fun y3 => bM_readsGuard_61 ?_⟩))
      · obtain ⟨l, el⟩ := chI_59 ht (c := 47) (by decide) y3
        have ec : chr tx z A.1 = 47 := (if_pos l : chr tx z A.1 = tx A.1).trans el
        rw [if_pos ec, if_pos ec] at h
        rw [show tp z A.1 = A.1 + 1 from if_pos l] at k2
        have sC := sk_p (tx := tx) (z := z) (a := A.1 + 1) (by omega)
        refine n_take k2 hz ht (by omega) fun I4 l1 l2 l3 => bM_readsGuard_67 ?_
        generalize sk tx z (A.1 + 1) = c at sC l2 l3 h
        refine mm_in (a := 49) (b := 57) rfl rfl (bM_readsGuard_78 ?_)
        rw [show okr (chI tx z c) 49 57 = okd tx z 1 10 c from okr_okd (lo := 1) (hi := 10) ht (by decide)]
        unfold rG2 at h
        refine cb0 (fun y4 => bM_readsGuard_81 ?_) (fun y4 => bM_readsGuard_90 ?_)
        · have o := okd_v (by decide) y4
          have ei : chI tx z c = nI (tx c) := if_pos o.2.2.2.1
          have et : tp z c = c + 1 := if_pos o.2.2.2.1
          have hx := o.2.2.2.2
          have hcz := o.2.2.2.1
          rw [o.1, o.2.1, o.2.2.1 0] at h
          rw [et] at l2
          have e48 : chI tx z c - 48 = nI (tx c - 48) := by
            rw [ei]
            exact pk_sub (b := 48) (by omega)
          have hv9 : tx c - 48 ≤ 9 := by omega
          generalize tx c - 48 = v at h e48 hv9
          generalize chI tx z c = x4 at e48 ⊢
          have sD := sk_p (tx := tx) (z := z) (a := c + 1) (by omega)
          unfold rG3 at h
          have ex2 : xa tx z 59 (c + 1) = if chr tx z (sk tx z (c + 1)) = 59 then sk tx z (c + 1) + 1 else sk tx z (c + 1) := rfl
          have ef2 : xf tx z 59 (c + 1) 0 = if chr tx z (sk tx z (c + 1)) = 59 then 0 else sk tx z (c + 1) + 1 := rfl
          rw [ex2, ef2] at h
          refine n_take l2 hz ht (by omega) fun I5 n1 n2 n3 => bM_readsGuard_85 ?_
          generalize sk tx z (c + 1) = d at sD n2 n3 h
          have fr5 : fN I I5 := fN_trans k1 (fN_Y (fY_trans l1 n1))
          have R5 : nR I5 m := nR_Y k4 (fY_trans l1 n1)
          refine ⟨fun y5 => bM_readsGuard_92 ?_, fun y5 => bM_readsGuard_90 ?_⟩
          · obtain ⟨l', el'⟩ := chI_59 ht (c := 59) (by decide) y5
            have ec' : chr tx z d = 59 := (if_pos l' : chr tx z d = tx d).trans el'
            rw [if_pos ec', if_pos ec'] at h
            rw [show tp z d = d + 1 from if_pos l'] at n2
            have hmz : ∀ p, m 0 ≤ p → hm m p = 0 := fun p hp => by
              unfold hm mz
              rw [if_neg (by omega), if_neg (by omega)]
            have hh15 : ∀ p, hm m p ≤ 15 := fun p => Nat.le_trans (Nat.sub_le _ _) (mz_le w0 (fun p hp => (hw.1.2.2.2.2.1 p hp).1) p)
            -- tokens at home together
            refine up0 (Pr := fun i => kW sh kp 152 98 [some (.ref 71), some (.int (nI a)), some (.int (nI A.2.2)), none, some (.int x4), some (.int (nI (sm A.2.2 (hm m) i))), some (.int (nI i))] [] (I5, L, kr q w r1 r2) K) (e := m 0) ?_ (fun i hi ih => ?_)
            · refine bM_readsGuard_98 ⟨pk_in 0 212 (by decide), ?_⟩
              rw [cl0, R5 0 (by decide)]
              refine pk_le (m 0) (m 0) (fun _ => bM_readsGuard_153 ?_) (fun y => absurd y (by omega))
              rw [e48, sm_10 (S := A.2.2) hmz w0]
              have sb2 := sm_le (S := A.2.2) hh15 10
              refine pk_le v (sm A.2.2 (hm m) 10) (fun y6 => bM_readsGuard_170 ?_) (fun y6 => bM_readsGuard_163 ?_)
              · rw [if_neg (by omega), if_pos rfl] at h
                rw [e48]
                exact r_addsGuard (m := m) R5 hg fun I6 q1 q2 => bM_readsGuard_183 (h.1 rfl I6 (fN_trans fr5 (fN_89 q1)) (mR_89 n2 q1) q2)
              · rw [if_pos (by omega)] at h
                exact h.2 (show fl 0 a ≠ 0 from fl_n) _ (fN_trans fr5 (fN_Y fY_28)) up_s
            · refine bM_readsGuard_98 ⟨pk_in 0 212 (by decide), ?_⟩
              rw [cl0, R5 0 (by decide)]
              refine pk_le (m 0) i (fun y => absurd y (by omega)) (fun _ => bM_readsGuard_109 (m_has (by omega) (by omega) (bM_readsGuard_117 ?_)))
              have ih : kW sh kp 152 98 [some (.ref 71), some (.int (nI a)), some (.int (nI A.2.2)), none, some (.int x4), some (.int (nI (sm A.2.2 (hm m) i + (if A.2.2.testBit i = true then hm m i else 0)))), some (.int (nI (i + 1)))] [] (I5, L, kr q w r1 r2) K := ih
              refine cb0 (fun y => bM_readsGuard_120 ?_) (fun y => bM_readsGuard_143 (bM_readsGuard_144 ?_))
              · have ehm : hm m i = m (2 + i) - m (12 + i) := by
                  unfold hm mz
                  rw [if_pos hi, if_pos hi]
                have hle := hw.2.1 i hi
                rw [fa_lit 2, fa_lit 12, nI_add, nI_add, nI_clamp (by omega), nI_clamp (by omega), R5 _ (by omega), R5 _ (by omega), show nI (m (2 + i)) - nI (m (12 + i)) = nI (m (2 + i) - m (12 + i)) from pk_sub hle]
                refine ⟨vp_in_nI (by omega) (by decide), vp_in_nI (by omega) (by decide), bM_readsGuard_144 ?_⟩
                rw [nI_add, nI_1]
                rw [if_pos y, ehm] at ih
                exact ih
              · rw [fa_lit 0, nI_add, nI_1]
                rw [if_neg (by rw [y]; decide)] at ih
                exact ih
          · have nc : ¬ chr tx z d = 59 := fun e => y5 ((chI_c ht (by decide)).mpr e)
            rw [if_neg nc, if_neg nc, fl_0 (Nat.succ_ne_zero _)] at h
            have e0 : (if sm A.2.2 (hm m) 10 < v then d + 1 else d + 1) = d + 1 := by
              split <;> rfl
            rw [e0] at h
            exact h.2 (Nat.succ_ne_zero _) I5 fr5 n3
        · have o := okd_n y4
          rw [o.2.2 0, xf_n fl_n, fl_0 fl_n] at h
          have e0 : (if sm A.2.2 (hm m) 10 < dv tx z 1 10 c then fl 0 c else fl 0 c) = c + 1 := by
            split <;> rfl
          rw [e0] at h
          exact h.2 (Nat.succ_ne_zero _) I4 (fN_trans k1 (fN_Y l1)) l3
      · have nc : ¬ chr tx z A.1 = 47 := fun e => y3 ((chI_c ht (by decide)).mpr e)
        rw [if_neg nc, if_neg nc] at h
        have e0 := keep3 A.2.2 (sk tx z A.1) (A.1 + 1) (Nat.succ_ne_zero _)
        refine h.2 (by rw [e0]; omega) I3 k1 ?_
        rw [e0]
        exact k3
    · refine h.2 (by rw [keep2 _ eA]; exact eA) I3 k1 ?_
      rw [keep2 _ eA]
      exact k2
end MREADS3
