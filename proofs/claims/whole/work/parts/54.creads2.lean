/-! TEXTS: the class's reader, guards, orders, texts -/
section RBND
variable {m tx : Nat → Nat} {z a : Nat}
theorem xf_0 {c f : Nat} (h : xf tx z c a f = 0) : f = 0 := by
  unfold xf at h
  split at h
  · exact h
  · exact absurd h fl_n
theorem df_0 {lo hi f : Nat} (h : df tx z lo hi a f = 0) : f = 0 ∧ okd tx z lo hi a = true := by
  unfold df at h
  cases e : okd tx z lo hi a with
  | true =>
    rw [e] at h
    exact ⟨h, rfl⟩
  | false =>
    rw [e] at h
    exact absurd h fl_n
theorem rP_p (hw : wf m) (hp : m 0 < 10) (ha : a < z) : (rP tx z m a).1 ≤ z + 1 ∧ a + 1 ≤ (rP tx z m a).2.1 ∧ (rP tx z m a).2.1 ≤ z ∧ wf (rP tx z m a).2.2 := by
  have s1 := sk_p (tx := tx) (z := z) (a := a + 1) (by omega)
  unfold rP
  generalize sk tx z (a + 1) = b at s1
  unfold rP0
  have d1 := da_p (tx := tx) (z := z) (lo := 0) (hi := 10) (a := b) (by decide) s1.2.1
  have f1 := df_p (tx := tx) (z := z) (lo := 0) (hi := 10) (a := b) (f := 0) s1.2.1 (by omega)
  have v1 := dv_p (tx := tx) (z := z) (lo := 0) (hi := 10) (a := b)
  generalize da tx z 0 10 b = a1 at d1
  have d2 := da_p (tx := tx) (z := z) (lo := 0) (hi := 10) (a := a1) (by decide) d1.2
  have v2 := dv_p (tx := tx) (z := z) (lo := 0) (hi := 10) (a := a1)
  have d3 : a1 ≤ cond (isd (chr tx z a1)) (da tx z 0 10 a1) a1 ∧ cond (isd (chr tx z a1)) (da tx z 0 10 a1) a1 ≤ z := by
    cases isd (chr tx z a1) with
    | true => exact d2
    | false => exact ⟨Nat.le_refl _, d1.2⟩
  generalize cond (isd (chr tx z a1)) (da tx z 0 10 a1) a1 = a2 at d3
  generalize cond (isd (chr tx z a1)) (10 * dv tx z 0 10 b + dv tx z 0 10 a1) (dv tx z 0 10 b) = v3
  unfold rP1
  have x1 := xa_p (tx := tx) (c := 59) (by decide) d3.2
  have f2 : (if 15 < v3 ∨ isd (chr tx z a2) = true then fl (df tx z 0 10 b 0) b else df tx z 0 10 b 0) ≤ z + 1 := by
    split
    · exact fl_p f1 s1.2.1
    · exact f1
  have hv : (if 15 < v3 ∨ isd (chr tx z a2) = true then fl (df tx z 0 10 b 0) b else df tx z 0 10 b 0) = 0 → v3 ≤ 15 := fun y => by
    split at y
    · exact absurd y fl_n
    · omega
  generalize (if 15 < v3 ∨ isd (chr tx z a2) = true then fl (df tx z 0 10 b 0) b else df tx z 0 10 b 0) = f3 at f2 hv
  unfold rP2
  refine ⟨xf_p d3.2 f2, ?_, x1.2, ?_⟩
  · show a + 1 ≤ xa tx z 59 a2
    omega
  · show wf (ite _ _ _)
    split
    · rename_i y
      have hv := hv (xf_0 y)
      exact wf_stl (wb_adp hw.1 hp hv) (wz_adp hp hw.2.2)
    · exact hw
theorem rS_p (hw : wf m) (hp : m 1 < 8) (ha : a < z) : (rS tx z m a).1 ≤ z + 1 ∧ a + 1 ≤ (rS tx z m a).2.1 ∧ (rS tx z m a).2.1 ≤ z ∧ wf (rS tx z m a).2.2 := by
  have w0 := hw.1.1
  have s1 := sk_p (tx := tx) (z := z) (a := a + 1) (by omega)
  unfold rS
  generalize sk tx z (a + 1) = b at s1
  unfold rS0
  have d1 := da_p (tx := tx) (z := z) (lo := 0) (hi := 10) (a := b) (by decide) s1.2.1
  have f1 := df_p (tx := tx) (z := z) (lo := 0) (hi := 10) (a := b) (f := 0) s1.2.1 (by omega)
  have v1 := dv_p (tx := tx) (z := z) (lo := 0) (hi := 10) (a := b)
  have s2 := sk_p (tx := tx) d1.2
  have pA := cAr_p (tx := tx) (z := z) w0 120 (sk tx z (da tx z 0 10 b)) (df tx z 0 10 b 0) (fun _ => 0) s2.2.1 f1 (fun _ => by decide) (fun _ _ => rfl)
  generalize cAr tx z (m 0) 120 (sk tx z (da tx z 0 10 b)) (df tx z 0 10 b 0) (fun _ => 0) = A at pA
  unfold rS1
  have x1 := xa_p (tx := tx) (c := 62) (by decide) pA.2.1
  have y1 := xf_p (tx := tx) (c := 62) (f := A.2.1) pA.2.1 pA.2.2.1
  have s3 := sk_p (tx := tx) x1.2
  have pB := cAr_p (tx := tx) (z := z) w0 120 (sk tx z (xa tx z 62 A.1)) (xf tx z 62 A.1 A.2.1) (fun _ => 0) s3.2.1 y1 (fun _ => by decide) (fun _ _ => rfl)
  have hBA : (cAr tx z (m 0) 120 (sk tx z (xa tx z 62 A.1)) (xf tx z 62 A.1 A.2.1) (fun _ => 0)).2.1 = 0 → A.2.1 = 0 := fun y => Classical.byContradiction fun c => by
    have := pB.2.2.2.2.2 (fun d => c (xf_0 d))
    exact c (xf_0 (this ▸ y))
  generalize cAr tx z (m 0) 120 (sk tx z (xa tx z 62 A.1)) (xf tx z 62 A.1 A.2.1) (fun _ => 0) = B at pB hBA
  unfold rS2
  have x2 := xa_p (tx := tx) (c := 59) (by decide) pB.2.1
  refine ⟨xf_p pB.2.1 pB.2.2.1, ?_, x2.2, ?_⟩
  · show a + 1 ≤ xa tx z 59 B.1
    omega
  · show wf (ite _ _ _)
    split
    · rename_i y
      have fB := xf_0 y
      have bA := pA.2.2.2.2.1 (hBA fB)
      have bB := pB.2.2.2.2.1 fB
      exact wf_stl (wb_ads hw.1 hp (by omega) (fun p _ => ⟨bA.1 p, bB.1 p⟩)) (wz_ads hp (fun p hp' => ⟨bA.2 p hp', bB.2 p hp'⟩) hw.2.2)
    · exact hw
theorem rL_p (hw : wf m) (ha : a < z) : (rL tx z m a).1 ≤ z + 1 ∧ a + 1 ≤ (rL tx z m a).2.1 ∧ (rL tx z m a).2.1 ≤ z ∧ wf (rL tx z m a).2.2 := by
  have w0 := hw.1.1
  have s1 := sk_p (tx := tx) (z := z) (a := a + 1) (by omega)
  unfold rL
  generalize sk tx z (a + 1) = b at s1
  unfold rL0
  have d1 := da_p (tx := tx) (z := z) (lo := 1) (hi := 10) (a := b) (by decide) s1.2.1
  have f1 := df_p (tx := tx) (z := z) (lo := 1) (hi := 10) (a := b) (f := 0) s1.2.1 (by omega)
  have v1 := dv_p (tx := tx) (z := z) (lo := 1) (hi := 10) (a := b)
  have s2 := sk_p (tx := tx) d1.2
  have pA := cMc_p (tx := tx) (z := z) w0 4 0 (sk tx z (da tx z 1 10 b)) (df tx z 1 10 b 0) (fun _ => 0) s2.2.1 f1 (fun _ => by decide) (fun _ j hj => absurd hj (by omega))
  generalize cMc tx z (m 0) 4 0 (sk tx z (da tx z 1 10 b)) (df tx z 1 10 b 0) (fun _ => 0) = A at pA
  unfold rL1 rL2
  have x1 := xa_p (tx := tx) (c := 59) (by decide) pA.2.1
  have y1 := xf_p (tx := tx) (c := 59) (f := A.2.2.1) pA.2.1 pA.2.2.1
  refine ⟨?_, ?_, x1.2, ?_⟩
  · show ite _ _ _ ≤ z + 1
    split
    · exact y1
    · exact fl_p y1 (by omega)
  · show a + 1 ≤ xa tx z 59 A.2.1
    omega
  · show wf (ite _ _ _)
    by_cases room : m 0 + A.1 + 1 ≤ 10 ∧ m 1 + A.1 + 1 ≤ 8
    · rw [if_pos room]
      split
      · rename_i y
        have hm := pA.2.2.2.2.1 (xf_0 y)
        have pl := lnN_p (k := dv tx z 1 10 b) (n := A.1) (mc := A.2.2.2) hw.1 hw.2.2 (by omega) room.1 room.2 hm
        exact wf_stl pl.1 pl.2.1
      · exact hw
    · rw [if_neg room, if_neg fl_n]
      exact hw
theorem rG_p (hw : wf m) (hg : m 200 < 5) (ha : a < z) : (rG tx z m a).1 ≤ z + 1 ∧ a + 1 ≤ (rG tx z m a).2.1 ∧ (rG tx z m a).2.1 ≤ z ∧ wf (rG tx z m a).2.2 := by
  have w0 := hw.1.1
  have s1 := sk_p (tx := tx) (z := z) (a := a + 1) (by omega)
  unfold rG
  generalize sk tx z (a + 1) = b at s1
  unfold rG0
  have d1 := da_p (tx := tx) (z := z) (lo := 0) (hi := m 0) (a := b) w0 s1.2.1
  have f1 := df_p (tx := tx) (z := z) (lo := 0) (hi := m 0) (a := b) (f := 0) s1.2.1 (by omega)
  have v1 := dv_p (tx := tx) (z := z) (lo := 0) (hi := m 0) (a := b)
  have s2 := sk_p (tx := tx) d1.2
  have pA := cGs_p (tx := tx) (z := z) w0 120 (sk tx z (da tx z 0 (m 0) b)) (df tx z 0 (m 0) b 0) (2 ^ dv tx z 0 (m 0) b) s2.2.1 f1 (Nat.pow_lt_pow_right (a := 2) (n := 10) (by decide) (by omega))
  generalize cGs tx z (m 0) 120 (sk tx z (da tx z 0 (m 0) b)) (df tx z 0 (m 0) b 0) (2 ^ dv tx z 0 (m 0) b) = A at pA
  unfold rG1
  have x1 := xa_p (tx := tx) (c := 47) (by decide) pA.2.1
  have y1 := xf_p (tx := tx) (c := 47) (f := A.2.1) pA.2.1 pA.2.2.1
  have s3 := sk_p (tx := tx) x1.2
  generalize sk tx z (xa tx z 47 A.1) = c at s3
  unfold rG2
  have d2 := da_p (tx := tx) (z := z) (lo := 1) (hi := 10) (a := c) (by decide) s3.2.1
  have f2 := df_p (tx := tx) (z := z) (lo := 1) (hi := 10) (a := c) (f := xf tx z 47 A.1 A.2.1) s3.2.1 y1
  have v2 := dv_p (tx := tx) (z := z) (lo := 1) (hi := 10) (a := c)
  have x2 := xa_p (tx := tx) (c := 59) (by decide) d2.2
  have y2 := xf_p (tx := tx) (c := 59) d2.2 f2
  have y3 : (if sm A.2.2 (hm m) 10 < dv tx z 1 10 c then fl (xf tx z 59 (da tx z 1 10 c) (df tx z 1 10 c (xf tx z 47 A.1 A.2.1))) a else xf tx z 59 (da tx z 1 10 c) (df tx z 1 10 c (xf tx z 47 A.1 A.2.1))) ≤ z + 1 := by
    split
    · exact fl_p y2 (by omega)
    · exact y2
  generalize (if sm A.2.2 (hm m) 10 < dv tx z 1 10 c then fl (xf tx z 59 (da tx z 1 10 c) (df tx z 1 10 c (xf tx z 47 A.1 A.2.1))) a else xf tx z 59 (da tx z 1 10 c) (df tx z 1 10 c (xf tx z 47 A.1 A.2.1))) = f4 at y3
  unfold rG3
  refine ⟨y3, ?_, x2.2, ?_⟩
  · show a + 1 ≤ xa tx z 59 (da tx z 1 10 c)
    omega
  · show wf (ite _ _ _)
    split
    · exact wf_adg hw hg pA.2.2.2.1 (by omega)
    · exact hw
theorem rO_p (hw : wf m) (ha : a ≤ z) : (rO tx z m a).1 ≤ z + 1 ∧ (rO tx z m a).2.1 ≤ z ∧ wf (rO tx z m a).2.2 ∧ ((rO tx z m a).1 = 0 → a + 1 ≤ (rO tx z m a).2.1) := by
  have lt : ∀ c, chr tx z a = c → c < 128 → a < z := fun c e h => chr_lt (tx := tx) (by omega)
  have u : ∀ {X : Nat × Nat × (Nat → Nat)}, X.1 ≤ z + 1 ∧ a + 1 ≤ X.2.1 ∧ X.2.1 ≤ z ∧ wf X.2.2 → X.1 ≤ z + 1 ∧ X.2.1 ≤ z ∧ wf X.2.2 ∧ (X.1 = 0 → a + 1 ≤ X.2.1) := fun x => ⟨x.1, x.2.2.1, x.2.2.2, fun _ => x.2.1⟩
  unfold rO
  split
  · rename_i e
    exact u (rP_p hw e.2 (lt _ e.1 (by decide)))
  · split
    · rename_i e
      exact u (rS_p hw e.2 (lt _ e.1 (by decide)))
    · split
      · rename_i e
        exact u (rL_p hw (lt _ e (by decide)))
      · split
        · rename_i e
          exact u (rG_p hw e.2 (lt _ e.1 (by decide)))
        · exact ⟨by show a + 1 ≤ z + 1; omega, ha, hw, fun y => absurd y (by show a + 1 ≠ 0; omega)⟩
theorem rd_p : ∀ k n a (m : Nat → Nat), wf m → a ≤ z → n ≤ (rd tx z k n a m).1 ∧ (rd tx z k n a m).1 ≤ n + k ∧ (rd tx z k n a m).2.1 ≤ z + 1 ∧ wf (rd tx z k n a m).2.2
  | 0, n, a, m, hw, ha => ⟨Nat.le_refl _, Nat.le_refl _, by show 0 ≤ z + 1; omega, hw⟩
  | k + 1, n, a, m, hw, ha => by
    have p := rO_p (tx := tx) hw ha
    unfold rd
    split
    · split
      · have s1 := sk_p (tx := tx) p.2.1
        have ih := rd_p k (n + 1) (sk tx z (rO tx z m a).2.1) (rO tx z m a).2.2 p.2.2.1 s1.2.1
        exact ⟨by omega, by omega, ih.2.2⟩
      · exact ⟨by show n ≤ n + 1; omega, by show n + 1 ≤ n + (k + 1); omega, p.1, hw⟩
    · exact ⟨Nat.le_refl _, by show n ≤ n + (k + 1); omega, by show 0 ≤ z + 1; omega, hw⟩
end RBND
theorem w_reads {s : ast} (h : sw s) : sw (o_reads s).2 := by
  unfold o_reads
  split
  · exact sw_ch h (rd_p 120 0 _ _ h.1 (sk_p (Nat.zero_le _)).2.1).2.2.2
  · exact h
section CREADS2
variable {I : Nat → Nat → Int32} {L : Nat → Nat → Int64} {q r1 r2 : Nat → Nat} {w : Bool} {K : km_K} {m tx : Nat → Nat} {z a f : Nat}
theorem t_guard (hT : tR I tx z a 0) (hR : cR I L 1 m) (hw : wf m) (hg : m 200 < 5) (hz : z ≤ 120) (ht : ∀ i, i < z → tx i ≤ 127) (ha : a < z) (h : oR tx z (rG tx z m a) K q r1 r2 w I L) : kC sh kp 182 [.ref 67, .ref 1] (I, L, kr q w r1 r2) K := by
  have w0 := hw.1.1
  have s1 := sk_p (tx := tx) (z := z) (a := a + 1) (by omega)
  refine ⟨rfl, bT_readGuard_0 ?_⟩
  rw [hT.2.2.1, nI_1]
  refine t_skip (tR_up hT) hz ht (by omega) fun I1 g1 g2 => bT_readGuard_19 ?_
  have h : oR tx z (rG0 tx z m a (sk tx z (a + 1))) K q r1 r2 w I L := h
  generalize sk tx z (a + 1) = b at s1 g2 h
  have d1 := da_p (tx := tx) (z := z) (lo := 0) (hi := m 0) (a := b) w0 s1.2.1
  have f1 := df_p (tx := tx) (z := z) (lo := 0) (hi := m 0) (a := b) (f := 0) s1.2.1 (by omega)
  have v1 := dv_p (tx := tx) (z := z) (lo := 0) (hi := m 0) (a := b)
  have s2 := sk_p (tx := tx) d1.2
  have fr1 : fT I I1 := fT_trans fT_up g1
  rw [show I1 1 0 = nI (m 0) from (cR_fT hR fr1).1]
  refine t_digit (lo := 0) (hi := m 0) (by decide) w0 g2 hz ht s1.2.1 (by omega) fun I2 j1 j2 => bT_readGuard_31 (t_skip j2 hz ht d1.2 fun I3 k1 k2 => bT_readGuard_37 ?_)
  have fr3 : fT I I3 := fT_trans fr1 (fT_trans j1 k1)
  rw [sh1 _ (show dv tx z 0 (m 0) b < 31 by omega)]
  have pA := cGs_p (tx := tx) (z := z) w0 120 (sk tx z (da tx z 0 (m 0) b)) (df tx z 0 (m 0) b 0) (2 ^ dv tx z 0 (m 0) b) s2.2.1 f1 (Nat.pow_lt_pow_right (a := 2) (n := 10) (by decide) (by omega))
  have h : oR tx z (rG1 tx z m a (cGs tx z (m 0) 120 (sk tx z (da tx z 0 (m 0) b)) (df tx z 0 (m 0) b 0) (2 ^ dv tx z 0 (m 0) b))) K q r1 r2 w I L := h
  -- the loop over places
  have loop : ∀ k n x f S I', n + k = 120 → fT I I' → tR I' tx z x f → x ≤ z → f ≤ z + 1 → (∀ I2, fT I I2 → tR I2 tx z (cGs tx z (m 0) k x f S).1 (cGs tx z (m 0) k x f S).2.1 → kW sh kp 182 91 [some (.ref 67), some (.ref 1), some (.int (nI a)), some (.int (nI (cGs tx z (m 0) k x f S).2.2)), none] [] (I2, L, kr q w r1 r2) K) → kW sh kp 182 40 [some (.ref 67), some (.ref 1), some (.int (nI a)), some (.int (nI S)), some (.int (nI n))] [] (I', L, kr q w r1 r2) K := fun k => by
    induction k with
    | zero =>
      intro n x f S I' hn e1 e2 e3 e4 hh
      exact bT_readGuard_40 (pk_le 120 n (fun _ => hh I' e1 e2) (fun y => absurd y (by omega)))
    | succ k ih =>
      intro n x f S I' hn e1 e2 e3 e4 hh
      unfold cGs at hh
      have out : ¬ (f = 0 ∧ isd (chr tx z x) = true) → kW sh kp 182 91 [some (.ref 67), some (.ref 1), some (.int (nI a)), some (.int (nI S)), none] [] (I', L, kr q w r1 r2) K := fun e => by
        rw [if_neg e] at hh
        exact hh I' e1 e2
      refine bT_readGuard_40 (pk_le 120 n (fun y => absurd y (by omega)) (fun _ => bT_readGuard_47 ?_))
      rw [e2.2.2.2]
      refine ⟨fun y => out fun e => y (by rw [e.1]; rfl), fun y => bT_readGuard_55 (t_next e2 hz e3 (bT_readGuard_59 (t_isDigit ht (bT_readGuard_62 (cb0 (fun e => bT_readGuard_65 ?_) (fun e => out fun x => by rw [x.2] at e; exact absurd e (by decide)))))))⟩
      have f0 : f = 0 := (sI_at (by omega)).mp y
      rw [if_pos ⟨f0, e⟩] at hh
      have dd := da_p (tx := tx) (z := z) (lo := 0) (hi := m 0) (a := x) w0 e3
      have ss := sk_p (tx := tx) dd.2
      have ff := df_p (tx := tx) (z := z) (lo := 0) (hi := m 0) (a := x) (f := f) e3 e4
      have vv := dv_p (tx := tx) (z := z) (lo := 0) (hi := m 0) (a := x)
      rw [show I' 1 0 = nI (m 0) from (cR_fT hR e1).1]
      refine t_digit (lo := 0) (hi := m 0) (by decide) w0 e2 hz ht e3 e4 fun I4 n1 n2 => bT_readGuard_78 (t_skip n2 hz ht dd.2 fun I5 o1 o2 => bT_readGuard_85 ?_)
      rw [sh1 _ (show dv tx z 0 (m 0) x < 31 by omega), fa_or, nI_1]
      exact ih (n + 1) _ _ _ I5 (by omega) (fT_trans e1 (fT_trans n1 o1)) o2 ss.2.1 ff hh
  refine loop 120 0 (sk tx z (da tx z 0 (m 0) b)) (df tx z 0 (m 0) b 0) (2 ^ dv tx z 0 (m 0) b) I3 rfl fr3 k2 s2.2.1 f1 fun I4 l1 l2 => ?_
  generalize cGs tx z (m 0) 120 (sk tx z (da tx z 0 (m 0) b)) (df tx z 0 (m 0) b 0) (2 ^ dv tx z 0 (m 0) b) = A at pA l2 h ⊢
  have x1 := xa_p (tx := tx) (c := 47) (by decide) pA.2.1
  have y1 := xf_p (tx := tx) (c := 47) (f := A.2.1) pA.2.1 pA.2.2.1
  have s3 := sk_p (tx := tx) x1.2
  refine bT_readGuard_91 (t_expect (c := 47) (by decide) l2 hz ht pA.2.1 pA.2.2.1 fun I5 n1 n2 => bT_readGuard_97 (t_skip n2 hz ht x1.2 fun I6 o1 o2 => bT_readGuard_101 ?_))
  have h : oR tx z (rG2 tx z m a A.2.2 (sk tx z (xa tx z 47 A.1)) (xf tx z 47 A.1 A.2.1)) K q r1 r2 w I L := h
  generalize sk tx z (xa tx z 47 A.1) = c at s3 o2 h
  generalize xf tx z 47 A.1 A.2.1 = f3 at y1 o2 h
  have d2 := da_p (tx := tx) (z := z) (lo := 1) (hi := 10) (a := c) (by decide) s3.2.1
  have f2 := df_p (tx := tx) (z := z) (lo := 1) (hi := 10) (a := c) (f := f3) s3.2.1 y1
  have v2 := dv_p (tx := tx) (z := z) (lo := 1) (hi := 10) (a := c)
  have x2 := xa_p (tx := tx) (c := 59) (by decide) d2.2
  have y2 := xf_p (tx := tx) (c := 59) d2.2 f2
  refine t_digit (lo := 1) (hi := 10) (by decide) (by decide) o2 hz ht s3.2.1 y1 fun I7 p1 p2 => bT_readGuard_108 (t_expect (c := 59) (by decide) p2 hz ht d2.2 f2 fun I8 q1 q2 => bT_readGuard_116 ?_)
  have fr8 : fT I I8 := fT_trans l1 (fT_trans n1 (fT_trans o1 (fT_trans p1 q1)))
  have R8 := cR_fT hR fr8
  have h : oR tx z (rG3 tx z m A.2.2 (dv tx z 1 10 c) (da tx z 1 10 c) (if sm A.2.2 (hm m) 10 < dv tx z 1 10 c then fl (xf tx z 59 (da tx z 1 10 c) (df tx z 1 10 c f3)) a else xf tx z 59 (da tx z 1 10 c) (df tx z 1 10 c f3))) K q r1 r2 w I L := h
  generalize dv tx z 1 10 c = v at v2 h
  generalize da tx z 1 10 c = d at d2 x2 y2 q2 h
  generalize xf tx z 59 d (df tx z 1 10 c f3) = f4 at y2 q2 h
  have hh15 : ∀ p, hm m p ≤ 15 := fun p => Nat.le_trans (Nat.sub_le _ _) (mz_le w0 (fun p hp => (hw.1.2.2.2.2.1 p hp).1) p)
  have hs := sm_le (S := A.2.2) hh15 10
  refine c_home (m := m) R8 hw.2.1 (bT_readGuard_120 (s_sumIn (fun p _ => by have := hh15 p; omega) (bT_readGuard_124 ?_)))
  have last : ∀ f' I9, fT I I9 → tR I9 tx z (xa tx z 59 d) f' → f' ≤ z + 1 → f' = (if sm A.2.2 (hm m) 10 < v then fl f4 a else f4) → kW sh kp 182 134 [some (.ref 67), some (.ref 1), none, some (.int (nI A.2.2)), some (.int (nI v))] [] (I9, L, kr q w r1 r2) K := fun f' I9 u1 u2 u3 u4 => bT_readGuard_134 (by
    rw [← u4] at h
    have h : oR tx z (f', xa tx z 59 d, if f' = 0 then adg m A.2.2 v else m) K q r1 r2 w I L := h
    rw [u2.2.2.2]
    refine ⟨fun y => bT_readGuard_149 ?_, fun y => bT_readGuard_142 ?_⟩
    · have y0 : f' ≠ 0 := fun e => y (by rw [e]; rfl)
      rw [if_neg y0] at h
      exact h I9 L (fR_T u1) u2 (cR_fT hR u1)
    · have y0 : f' = 0 := (sI_at (by omega)).mp y
      rw [if_pos y0] at h
      refine c_addGuard (m := m) (cR_fT hR u1) hw.1 hg fun I10 i1 i2 _ => bT_readGuard_149 ?_
      have fd : fD I9 L I10 L := ⟨i1, fun _ _ _ => rfl⟩
      exact h I10 L (fR_trans (fR_T u1) (fR_D fd)) (tR_D u2 fd) i2)
  refine pk_le v (sm A.2.2 (hm m) 10) (fun y => last _ I8 fr8 q2 y2 (by rw [if_neg (by omega)])) (fun y => bT_readGuard_129 (t_fail q2 (by omega) fun I9 u1 u2 => last _ I9 (fT_trans fr8 u1) u2 (fl_p y2 (by omega)) (by rw [if_pos (by omega)])))
theorem t_order (hT : tR I tx z a 0) (hR : cR I L 1 m) (hw : wf m) (hz : z ≤ 120) (ht : ∀ i, i < z → tx i ≤ 127) (ha : a ≤ z) (h : oR tx z (rO tx z m a) K q r1 r2 w I L) : kC sh kp 178 [.ref 67, .ref 1] (I, L, kr q w r1 r2) K := by
  have lt : ∀ c, chr tx z a = c → c < 128 → a < z := fun c e h => chr_lt (tx := tx) (by omega)
  have ce : ∀ c : Nat, c ≤ 127 → (chI tx z a = nI c ↔ chr tx z a = c) := fun c hc => chI_c ht hc
  unfold rO at h
  have w0 := hw.1.1
  have w1 := hw.1.2.1
  have w2 := hw.1.2.2.1
  refine ⟨rfl, bT_readOrder_0 (t_next hT hz ha (bT_readOrder_4 ?_))⟩
  have L4 : ¬ (chr tx z a = 112 ∧ m 0 < 10) → ¬ (chr tx z a = 116 ∧ m 1 < 8) → ¬ chr tx z a = 108 → ¬ (chr tx z a = 103 ∧ m 200 < 5) → kW sh kp 178 87 [some (.ref 67), none, none] [] (I, L, kr q w r1 r2) K := fun e1 e2 e3 e4 => by
    rw [if_neg e1, if_neg e2, if_neg e3, if_neg e4] at h
    refine bT_readOrder_87 ?_
    rw [hT.2.2.1]
    refine t_fail hT (by decide) fun I' g1 g2 => bT_readOrder_95 (h I' L (fR_T g1) ?_ (cR_fT hR g1))
    have e : fl 0 a = a + 1 := rfl
    rw [e] at g2
    exact g2
  have L3 : ¬ (chr tx z a = 112 ∧ m 0 < 10) → ¬ (chr tx z a = 116 ∧ m 1 < 8) → kW sh kp 178 51 [some (.ref 67), some (.ref 1), some (.int (chI tx z a))] [] (I, L, kr q w r1 r2) K := fun e1 e2 => by
    refine bT_readOrder_51 ⟨fun y => bT_readOrder_65 ⟨fun y2 => L4 e1 e2 (fun c => y ((ce 108 (by decide)).mpr c)) (fun c => y2 ((ce 103 (by decide)).mpr c.1)), fun y2 => bT_readOrder_71 ?_⟩, fun y => bT_readOrder_57 ?_⟩
    · have n3 : ¬ chr tx z a = 108 := fun c => y ((ce 108 (by decide)).mpr c)
      have c4 := (ce 103 (by decide)).mp y2
      refine pk_le 5 (m 200) (fun y3 => L4 e1 e2 n3 (fun c => absurd c.2 (by omega))) (fun y3 => bT_readOrder_79 ?_) rfl hR.2.2.1
      rw [if_neg e1, if_neg e2, if_neg n3, if_pos ⟨c4, y3⟩] at h
      exact t_guard hT hR hw y3 hz ht (lt _ c4 (by decide)) fun I' L' g1 g2 g3 => bT_readOrder_84 (bT_readOrder_95 (h I' L' g1 g2 g3))
    · have c3 := (ce 108 (by decide)).mp y
      rw [if_neg e1, if_neg e2, if_pos c3] at h
      exact t_line hT hR hw hz ht (lt _ c3 (by decide)) fun I' L' g1 g2 g3 => bT_readOrder_62 (bT_readOrder_95 (h I' L' g1 g2 g3))
  have L2 : ¬ (chr tx z a = 112 ∧ m 0 < 10) → kW sh kp 178 28 [some (.ref 67), some (.ref 1), some (.int (chI tx z a))] [] (I, L, kr q w r1 r2) K := fun e1 => by
    refine bT_readOrder_28 ⟨fun y => L3 e1 (fun c => y ((ce 116 (by decide)).mpr c.1)), fun y => bT_readOrder_34 ?_⟩
    have c2 := (ce 116 (by decide)).mp y
    refine pk_le 8 (m 1) (fun y3 => L3 e1 (fun c => absurd c.2 (by omega))) (fun y3 => bT_readOrder_43 ?_) rfl hR.2.1
    rw [if_neg e1, if_pos ⟨c2, y3⟩] at h
    exact t_step hT hR hw y3 hz ht (lt _ c2 (by decide)) fun I' L' g1 g2 g3 => bT_readOrder_48 (bT_readOrder_95 (h I' L' g1 g2 g3))
  refine ⟨fun y => L2 (fun c => y ((ce 112 (by decide)).mpr c.1)), fun y => bT_readOrder_11 ?_⟩
  have c1 := (ce 112 (by decide)).mp y
  refine pk_le 10 (m 0) (fun y3 => L2 (fun c => absurd c.2 (by omega))) (fun y3 => bT_readOrder_20 ?_) rfl hR.1
  rw [if_pos ⟨c1, y3⟩] at h
  exact t_place hT hR hw y3 hz ht (lt _ c1 (by decide)) fun I' L' g1 g2 g3 => bT_readOrder_25 (bT_readOrder_95 (h I' L' g1 g2 g3))
theorem t_carry_loop (hz : z ≤ 120) (ht : ∀ i, i < z → tx i ≤ 127) : ∀ k n a (m : Nat → Nat) I' L', n + k = 120 → fR I L I' L' → tR I' tx z a 0 → cR I' L' 1 m → wf m → a ≤ z → (∀ I2 L2 a', fR I L I2 L2 → tR I2 tx z a' (rd tx z k n a m).2.1 → ((rd tx z k n a m).2.1 = 0 → cR I2 L2 1 (rd tx z k n a m).2.2) → K (some (.int (nI (rd tx z k n a m).1))) (I2, L2, kr q w r1 r2)) → kW sh kp 177 16 [some (.ref 67), some (.ref 1), some (.int (nI n))] [] (I', L', kr q w r1 r2) K
  | 0, n, a, m, I', L', hn, h1, h2, h3, h4, h5, h => bT_carryOut_16 (pk_le 120 n (fun _ => bT_carryOut_60 (h I' L' a h1 h2 (fun _ => h3))) (fun y => absurd y (by omega)))
  | k + 1, n, a, m, I', L', hn, h1, h2, h3, h4, h5, h => by
    have p := rO_p (tx := tx) h4 h5
    have s1 := sk_p (tx := tx) p.2.1
    unfold rd at h
    have go : n = 0 ∨ a < z → kW sh kp 177 45 [some (.ref 67), some (.ref 1), some (.int (nI n))] [] (I', L', kr q w r1 r2) K := fun e => bT_carryOut_45 (by
      rw [if_pos e] at h
      refine t_order h2 h3 h4 hz ht h5 fun I2 L2 g1 g2 g3 => bT_carryOut_50 (t_skip g2 hz ht p.2.1 fun I3 j1 j2 => bT_carryOut_54 ?_)
      rw [nI_1]
      have f3 := fR_trans h1 (fR_trans g1 (fR_T j1))
      by_cases e0 : (rO tx z m a).1 = 0
      · rw [if_pos e0] at h
        rw [e0] at j2
        exact t_carry_loop hz ht k (n + 1) _ _ I3 L2 (by omega) f3 j2 (cR_fT g3 j1) p.2.2.1 s1.2.1 h
      · rw [if_neg e0] at h
        have fin : kW sh kp 177 60 [none, none, some (.int (nI (n + 1)))] [] (I3, L2, kr q w r1 r2) K := bT_carryOut_60 (h I3 L2 _ f3 j2 (fun y => absurd y e0))
        refine bT_carryOut_16 (pk_le 120 (n + 1) (fun _ => fin) (fun _ => bT_carryOut_22 ?_))
        rw [j2.2.2.2]
        exact ⟨fun _ => fin, fun y => absurd ((sI_at (by omega)).mp y) e0⟩)
    refine bT_carryOut_16 (pk_le 120 n (fun y => absurd y (by omega)) (fun _ => bT_carryOut_22 ?_))
    rw [h2.2.2.2]
    refine ⟨fun y => absurd rfl y, fun _ => bT_carryOut_30 (pk_eq n 0 (fun y => go (Or.inl y)) (fun y => bT_carryOut_34 ?_))⟩
    rw [h2.1, h2.2.2.1]
    refine pk_le z a (fun y2 => bT_carryOut_60 ?_) (fun y2 => go (Or.inr y2))
    rw [if_neg (by omega)] at h
    exact h I' L' a h1 h2 (fun _ => h3)
theorem t_carry (h1 : I 67 1 = nI z) (h2 : ∀ i, i < z → I 68 i = nI (tx i)) (hR : cR I L 1 m) (hw : wf m) (hz : z ≤ 120) (ht : ∀ i, i < z → tx i ≤ 127) (h : ∀ I2 L2 a', fR I L I2 L2 → tR I2 tx z a' (rd tx z 120 0 (sk tx z 0) m).2.1 → ((rd tx z 120 0 (sk tx z 0) m).2.1 = 0 → cR I2 L2 1 (rd tx z 120 0 (sk tx z 0) m).2.2) → K (some (.int (nI (rd tx z 120 0 (sk tx z 0) m).1))) (I2, L2, kr q w r1 r2)) : kC sh kp 177 [.ref 67, .ref 1] (I, L, kr q w r1 r2) K := by
  have s1 := sk_p (tx := tx) (z := z) (a := 0) (by omega)
  have f0 : fT I (km_up (km_up I 67 3 0) 67 2 (-1)) := fun a k y => by
    by_cases e : a = 67
    · rw [up_k (y e).1, up_k (y e).2]
    · rw [up_a e, up_a e]
  have T0 : tR (km_up (km_up I 67 3 0) 67 2 (-1)) tx z 0 0 := ⟨(f0 67 1 (fun _ => by decide)).trans h1, fun i hi => (f0 68 i (fun e => absurd e (by decide))).trans (h2 i hi), by rw [up_k (by decide), up_s]; rfl, up_s⟩
  refine ⟨rfl, bT_carryOut_0 (t_skip T0 hz ht (by omega) fun I1 g1 g2 => ?_)⟩
  exact t_carry_loop hz ht 120 0 (sk tx z 0) m I1 L rfl (fR_T (fT_trans f0 g1)) g2 (cR_fT hR (fT_trans f0 g1)) hw s1.2.1 h
/-- the state before the text is kept -/
theorem c_keep7_54 {n : Nat} {ms : Nat → Nat → Nat} (hq : kq q) (hn : n < 5) (hw : wb m) (hc : I 0 3 = nI n) (hR : cR I L 7 m) (hk : ∀ i, i < n → cR I L (q i) (ms i)) (h : ∀ I' L', fK I L I' L' → I' 0 3 = nI (n + 1) → (∀ i, i < n + 1 → cR I' L' (q i) (if i = n then m else ms i)) → K none (I', L', kr q w r1 r2)) : kW sh kp 45 54 [some (.ref 0), some (.ref 7), none, none] [] (I, L, kr q w r1 r2) K := by
  have e1 : (I 0 3).toNatClampNeg = n := by rw [hc, nI_clamp (by omega)]
  have hqn := hq.1 n hn
  refine bX_keep_b_54 ⟨by rw [hc]; exact vp_in_nI hn (by decide), ?_, ?_⟩
  · rw [e1]
    exact (st_sh (kp_st hqn)).1
  · rw [e1]
    show kC sh kp 211 [.ref (q n), .ref 7] _ _
    have hb : 14 ≤ q n ∧ q n ≤ 38 := by
      unfold isKp at hqn
      omega
    refine c_copy (m := m) (kp_st hqn) (Or.inr (Or.inl rfl)) (by omega) hw.2.1 hw.2.2.1 hw.2.2.2.1 hR fun I' L' f1 f2 f3 => bX_keep_b_67 ?_
    have e3 : I' 0 3 = nI n := (f1 0 3 (by omega)).trans hc
    rw [e3, nI_1]
    refine h _ _ ⟨fun a k ha hz => ?_, fun a k ha => f2 a k (by omega)⟩ up_s fun i hi => ?_
    · by_cases ea : a = 0
      · rw [up_k (hz ea)]
        exact f1 a k (by omega)
      · rw [up_a ea]
        exact f1 a k (by omega)
    · by_cases ei : i = n
      · rw [if_pos ei, ei]
        exact cR_fr (fun a k z1 z2 => up_a (by omega)) (fun _ _ _ _ => rfl) f3
      · rw [if_neg ei]
        have hqi := hq.1 i (by omega)
        have hdi := st_dis (kp_st hqi) (kp_st hqn) (hq.2 i n (by omega) hn ei)
        have hbi : 14 ≤ q i := by
          unfold isKp at hqi
          omega
        refine cR_fr (fun a k z1 z2 => ?_) (fun a k z1 z2 => f2 a k (by omega)) (hk i (by omega))
        rw [up_a (by omega)]
        exact f1 a k (by omega)
theorem c_keep7 {n : Nat} {ms : Nat → Nat → Nat} (hq : kq q) (hn : n ≤ 5) (hw : wb m) (hc : I 0 3 = nI n) (hR : cR I L 7 m) (hk : ∀ i, i < n → cR I L (q i) (ms i)) (h : ∀ I' L' q', kq q' → fK I L I' L' → I' 0 3 = nI (kn1 n) → (∀ i, i < kn1 n → cR I' L' (q' i) (kms n ms m i)) → K none (I', L', kr q' w r1 r2)) : kC sh kp 45 [.ref 0, .ref 7] (I, L, kr q w r1 r2) K := by
  by_cases g : n < 5
  · have e1 : kn1 n = n + 1 := if_pos g
    have e2 : kms n ms m = fun i => if i = n then m else ms i := if_pos g
    rw [e1, e2] at h
    exact ⟨rfl, bX_keep_b_0 (pk_lt n 5 (fun g => c_keep7_54 hq g hw hc hR hk fun I' L' f1 f2 f3 => h I' L' q hq f1 f2 f3) (fun g' => absurd g' (by omega)) hc)⟩
  have e1 : kn1 n = 5 := if_neg g
  have e2 : kms n ms m = fun i => if i = 4 then m else ms (i + 1) := if_neg g
  rw [e1, e2] at h
  refine ⟨rfl, bX_keep_b_0 (pk_lt n 5 (fun g' => absurd g' g) (fun _ => bX_keep_b_8 ⟨pk_in 0 5 (by decide), ?_⟩) hc)⟩
  rw [cl0]
  show kW sh kp 45 17 [some (.ref 0), some (.ref 7), some (.ref (q 0)), some (.int 1)] [] _ K
  have key := up0 (Pr := fun i => kW sh kp 45 17 [some (.ref 0), some (.ref 7), some (.ref (q 0)), some (.int (nI (i + 1)))] [] (I, L, kr (rot q (i + 1)) w r1 r2) K) (e := 4) ?_ fun i hi ih => ?_
  · rw [rot_1] at key
    exact key
  · refine bX_keep_b_17 (pk_le 5 5 (fun _ => bX_keep_b_42 ⟨(st_sh (kp_st (hq.1 0 (by decide)))).1, pk_in 4 5 (by decide), ?_⟩) (fun g => absurd g (by omega)))
    rw [kr_up13, show (4 : Int32).toNatClampNeg = 4 from pk_cl 4]
    refine c_keep7_54 (n := 4) (m := m) (ms := fun i => ms (i + 1)) (kq_rot hq) (by decide) hw up_s (cR_fr (fun a k z1 z2 => up_a (by omega)) (fun _ _ _ _ => rfl) hR) (fun i hi => ?_) fun I' L' f1 f2 f3 => h I' L' _ (kq_rot hq) ⟨fun a k ha hz => ?_, f1.2⟩ f2 f3
    · have e : ups (rot q 5) 4 (q 0) i = q (i + 1) := by
        unfold ups rot
        rw [if_neg (by omega), if_pos (by omega)]
      rw [e]
      have hqi := hq.1 (i + 1) (by omega)
      have hbi : 14 ≤ q (i + 1) := by
        unfold isKp at hqi
        omega
      exact cR_fr (fun a k z1 z2 => up_a (by omega)) (fun _ _ _ _ => rfl) (hk (i + 1) (by omega))
    · rw [f1.1 a k ha hz]
      by_cases ea : a = 0
      · exact up_k (hz ea)
      · exact up_a ea
  · have hv : vp_in (nI (i + 1)) 5 := vp_in_nI (by omega) (by decide)
    have ec : (nI (i + 1)).toNatClampNeg = i + 1 := nI_clamp (by omega)
    have er : rot q (i + 1) (i + 1) = q (i + 1) := if_neg (by omega)
    refine bX_keep_b_17 (pk_le 5 (i + 1) (fun g => absurd g (by omega)) (fun _ => bX_keep_b_22 ⟨hv, ?_, ?_, ?_⟩))
    · rw [ec]
      show (sh (rot q (i + 1) (i + 1))).1 = 4
      rw [er]
      exact (st_sh (kp_st (hq.1 (i + 1) (by omega)))).1
    · rw [nI_pred]
      exact vp_in_nI (by omega) (by decide)
    · rw [nI_pred, nI_clamp (by omega), ec, kr_up13, nI_1]
      show kW sh kp 45 17 _ [] (I, L, kr (ups (rot q (i + 1)) i (rot q (i + 1) (i + 1))) w r1 r2) K
      rw [rot_s]
      exact ih
theorem x_reads {s : ast} (hs : sw s) (hc' : cI I L q w r1 r2 s) : kC sh kp 33 [.ref 0] (I, L, kr q w r1 r2) (cT (o_reads s) I L) := by
  have h5 := hs.2.1
  have wb' := hs.1.1
  obtain ⟨a1, ⟨a2, a3, a4⟩, a5, a8, a10, a11⟩ := hc'
  refine ⟨rfl, bX_reads_0 (c_copy (m := s.1) (Or.inr (Or.inl rfl)) (Or.inl rfl) (by decide) wb'.2.1 wb'.2.2.1 wb'.2.2.2.1 a1 fun I1 L1 f1 f2 f3 => bX_reads_11 ?_)⟩
  have hR1 : cR I1 L1 1 s.1 := cR_fr (fun a k z1 z2 => f1 a k (by omega)) (fun a k z1 z2 => f2 a k (by omega)) a1
  refine t_carry (m := s.1) (z := s.2.2.2.2.1) (tx := s.2.2.2.2.2) ((f1 67 1 (by omega)).trans a8.1) (fun i hi => (f1 68 i (by omega)).trans (a8.2 i hi)) hR1 hs.1 hs.2.2.2.1 hs.2.2.2.2 fun I2 L2 a' g1 g2 g3 => bX_reads_22 ?_
  have pd := rd_p (tx := s.2.2.2.2.2) (z := s.2.2.2.2.1) 120 0 (sk s.2.2.2.2.2 s.2.2.2.2.1 0) s.1 hs.1 (sk_p (Nat.zero_le _)).2.1
  have hz := hs.2.2.2.1
  unfold o_reads
  have e : rd s.2.2.2.2.2 s.2.2.2.2.1 120 0 (sk s.2.2.2.2.2 s.2.2.2.2.1 0) s.1 = rdA s := rfl
  rw [e] at g2 g3 pd ⊢
  generalize rdA s = X at g2 g3 pd ⊢
  -- what neither copying nor reading changes
  have fr : ∀ a k, (a < 1 ∨ 12 < a) → (a = 67 → k ≠ 2 ∧ k ≠ 3) → a ≠ 69 → I2 a k = I a k := fun a k z1 z2 z3 => (g1.1 a k (by omega) z2 z3).trans (f1 a k (by omega))
  have frL : ∀ a k, (a < 1 ∨ 12 < a) → L2 a k = L a k := fun a k z1 => (g1.2 a k (by omega)).trans (f2 a k (by omega))
  have hR7 : cR I2 L2 7 s.1 := cR_fr (fun a k z1 z2 => g1.1 a k (by omega) (fun e => absurd e (by omega)) (by omega)) (fun a k z1 z2 => g1.2 a k (by omega)) f3
  have hk2 : ∀ i, i < s.2.1 → cR I2 L2 (q i) (s.2.2.1 i) := fun i hi => by
    have b := kq_b (i := i) a2 (by omega)
    exact cR_fr (fun a k z1 z2 => fr a k (by omega) (fun e => absurd e (by omega)) (by omega)) (fun a k z1 z2 => frL a k (by omega)) (a4 i hi)
  rw [g2.2.2.2]
  refine ⟨fun y => bX_reads_56 ?_, fun y => bX_reads_34 ?_⟩
  · have y0 : X.2.1 = 0 := (sI_at (by omega)).mp y
    rw [if_pos y0]
    have hRn := g3 y0
    refine c_keep7 (m := s.1) (ms := s.2.2.1) a2 h5 wb' ((fr 0 3 (by omega) (fun e => absurd e (by decide)) (by decide)).trans a3) hR7 hk2 fun I3 L3 q' k1 k2 k3 k4 => bX_reads_64 ⟨rfl, bX_forget_0 (bX_reads_68 ?_)⟩
    have fr3 : ∀ a k, (a < 1 ∨ (12 < a ∧ a < 14) ∨ 43 < a) → (a = 67 → k ≠ 2 ∧ k ≠ 3) → a ≠ 69 → (a = 0 → k ≠ 3 ∧ k ≠ 5 ∧ k ≠ 9) → km_up (km_up I3 0 5 0) 0 9 0 a k = I a k := fun a k z1 z2 z3 z4 => by
      have : km_up (km_up I3 0 5 0) 0 9 0 a k = I3 a k := by
        by_cases e : a = 0
        · rw [up_k (z4 e).2.2, up_k (z4 e).2.1]
        · rw [up_a e, up_a e]
      rw [this, k2.1 a k (by omega) (fun e => (z4 e).1)]
      exact fr a k (by omega) z2 z3
    refine cP_mk (s := a_ch s X.2.2) ⟨?_, ⟨k1, ?_, fun i hi => ?_⟩, ⟨?_, ?_, ?_⟩, ⟨?_, fun i hi => ?_⟩, Or.inl (by rw [up_k (by decide), up_s]), ⟨a11.1, Or.inl up_s⟩⟩ ⟨fun a k z1 z2 => ?_, fun a k z1 z2 => ?_⟩
    · exact cR_fr (fun a k z1 z2 => by rw [up_a (by omega), up_a (by omega)]; exact k2.1 a k (by omega) (fun e => absurd e (by omega))) (fun a k z1 z2 => k2.2 a k (by omega)) hRn
    · rw [up_k (by decide), up_k (by decide)]
      exact k3
    · have hi : i < kn1 s.2.1 := hi
      have b := kq_b (q := q') (i := i) k1 (by unfold kn1 at hi; split at hi <;> omega)
      exact cR_fr (fun a k z1 z2 => by rw [up_a (by omega), up_a (by omega)]) (fun _ _ _ _ => rfl) (k4 i hi)
    · exact (fr3 0 12 (by omega) (fun e => absurd e (by decide)) (by decide) (fun _ => by decide)).trans a5.1
    · exact (fr3 0 13 (by omega) (fun e => absurd e (by decide)) (by decide) (fun _ => by decide)).trans a5.2.1
    · exact (fr3 0 14 (by omega) (fun e => absurd e (by decide)) (by decide) (fun _ => by decide)).trans a5.2.2
    · exact (fr3 67 1 (by omega) (fun _ => by decide) (by decide) (fun e => absurd e (by decide))).trans a8.1
    · exact (fr3 68 i (by omega) (fun e => absurd e (by decide)) (by decide) (fun e => absurd e (by decide))).trans (a8.2 i hi)
    · exact fr3 a k (by omega) (fun e => absurd e (by omega)) (by omega) (fun e => absurd e (by omega))
    · rw [k2.2 a k (by omega)]
      exact frL a k (by omega)
  · have y0 : X.2.1 ≠ 0 := fun e => y (by rw [e]; rfl)
    rw [if_neg y0]
    refine c_copy (m := s.1) (Or.inl rfl) (Or.inr (Or.inl rfl)) (by decide) wb'.2.1 wb'.2.2.1 wb'.2.2.2.1 hR7 fun I3 L3 k1 k2 k3 => bX_reads_45 ?_
    have fr3 : ∀ a k, (a < 1 ∨ 12 < a) → (a = 67 → k ≠ 2 ∧ k ≠ 3) → a ≠ 69 → I3 a k = I a k := fun a k z1 z2 z3 => (k1 a k (by omega)).trans (fr a k z1 z2 z3)
    have frL3 : ∀ a k, (a < 1 ∨ 12 < a) → L3 a k = L a k := fun a k z1 => (k2 a k (by omega)).trans (frL a k z1)
    have ef : I3 67 2 = nI (X.2.1 - 1) := by
      rw [k1 67 2 (by omega), g2.2.2.2]
      obtain ⟨n, hn⟩ : ∃ n, X.2.1 = n + 1 := ⟨X.2.1 - 1, by omega⟩
      rw [hn, sI_s (by omega)]
    rw [ef]
    refine cP_mk ⟨k3, ⟨a2, (fr3 0 3 (by omega) (fun e => absurd e (by decide)) (by decide)).trans a3, fun i hi => ?_⟩, ⟨?_, ?_, ?_⟩, ⟨?_, fun i hi => ?_⟩, ?_, ?_⟩ ⟨fun a k z1 z2 => fr3 a k (by omega) (fun e => absurd e (by omega)) (by omega), fun a k z1 z2 => frL3 a k (by omega)⟩
    · have hi : i < s.2.1 := hi
      have b := kq_b (i := i) a2 (by omega)
      exact cR_fr (fun a k z1 z2 => fr3 a k (by omega) (fun e => absurd e (by omega)) (by omega)) (fun a k z1 z2 => frL3 a k (by omega)) (a4 i hi)
    · exact (fr3 0 12 (by omega) (fun e => absurd e (by decide)) (by decide)).trans a5.1
    · exact (fr3 0 13 (by omega) (fun e => absurd e (by decide)) (by decide)).trans a5.2.1
    · exact (fr3 0 14 (by omega) (fun e => absurd e (by decide)) (by decide)).trans a5.2.2
    · exact (fr3 67 1 (by omega) (fun _ => by decide) (by decide)).trans a8.1
    · exact (fr3 68 i (by omega) (fun e => absurd e (by decide)) (by decide)).trans (a8.2 i hi)
    · exact cH_fr a10 (fr3 0 5 (by omega) (fun e => absurd e (by decide)) (by decide)) (fun a k z1 z2 => fr3 a k (by omega) (fun e => absurd e (by omega)) (by omega)) (fun k => frL3 45 k (by omega))
    · exact cA_fr a11 (fr3 0 9 (by omega) (fun e => absurd e (by decide)) (by decide)) (fun a k z1 z2 => fr3 a k (by omega) (fun e => absurd e (by omega)) (by omega)) (fun a k z1 z2 => frL3 a k (by omega))
end CREADS2
