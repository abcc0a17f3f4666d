/-! TEXTS: reading as functions; 128 stands for the end -/
def chr (tx : Nat → Nat) (z a : Nat) : Nat := if a < z then tx a else 128
def skp (tx : Nat → Nat) (z : Nat) : Nat → Nat → Nat
  | 0, a => a
  | k + 1, a => if a < z ∧ tx a = 32 then skp tx z k (a + 1) else a
def sk (tx : Nat → Nat) (z a : Nat) : Nat := skp tx z (z - a) a
theorem skp_p {tx : Nat → Nat} {z : Nat} : ∀ k a, a + k = z → a ≤ skp tx z k a ∧ skp tx z k a ≤ z ∧ ¬ (skp tx z k a < z ∧ tx (skp tx z k a) = 32)
  | 0, a, h => ⟨Nat.le_refl _, by show a ≤ z; omega, fun x => by have : a < z := x.1; omega⟩
  | k + 1, a, h => by
    have ih := skp_p (tx := tx) (z := z) k (a + 1) (by omega)
    unfold skp
    by_cases e : a < z ∧ tx a = 32
    · rw [if_pos e]
      exact ⟨by omega, ih.2⟩
    · rw [if_neg e]
      exact ⟨Nat.le_refl _, by omega, e⟩
theorem sk_p {tx : Nat → Nat} {z a : Nat} (h : a ≤ z) : a ≤ sk tx z a ∧ sk tx z a ≤ z ∧ ¬ (sk tx z a < z ∧ tx (sk tx z a) = 32) := skp_p (z - a) a (by omega)
theorem sk_id {tx : Nat → Nat} {z a : Nat} (h : ¬ (a < z ∧ tx a = 32)) : sk tx z a = a := by
  unfold sk
  cases z - a with
  | zero => rfl
  | succ k =>
    show (if a < z ∧ tx a = 32 then skp tx z k (a + 1) else a) = a
    rw [if_neg h]
theorem sk_s {tx : Nat → Nat} {z a : Nat} (h : a < z ∧ tx a = 32) : sk tx z a = sk tx z (a + 1) := by
  unfold sk
  rw [show z - a = (z - (a + 1)) + 1 by omega]
  show (if a < z ∧ tx a = 32 then skp tx z (z - (a + 1)) (a + 1) else a) = _
  rw [if_pos h]
theorem sk_sk {tx : Nat → Nat} {z a : Nat} (h : a ≤ z) : sk tx z (sk tx z a) = sk tx z a := sk_id (sk_p h).2.2
def isd (c : Nat) : Bool := decide (48 ≤ c) && decide (c ≤ 57)
theorem isd_t {c : Nat} (h : isd c = true) : 48 ≤ c ∧ c ≤ 57 := by
  unfold isd at h
  rw [Bool.and_eq_true] at h
  exact ⟨of_decide_eq_true h.1, of_decide_eq_true h.2⟩
theorem isd_f {c : Nat} (h : isd c = false) : ¬ (48 ≤ c ∧ c ≤ 57) := fun z => by
  unfold isd at h
  rw [decide_eq_true z.1, decide_eq_true z.2] at h
  exact absurd h (by decide)
/-- the first fault counts: 0 none, else one more than where -/
def fl (f p : Nat) : Nat := if f = 0 then p + 1 else f
theorem fl_0 {f p : Nat} (h : f ≠ 0) : fl f p = f := if_neg h
theorem fl_n {f p : Nat} : fl f p ≠ 0 := by
  unfold fl
  split <;> omega
/-- a digit from lo, below hi -/
def okd (tx : Nat → Nat) (z lo hi a : Nat) : Bool := decide (48 + lo ≤ chr tx z a) && decide (chr tx z a < 48 + hi)
theorem okd_t {tx : Nat → Nat} {z lo hi a : Nat} (h : okd tx z lo hi a = true) : 48 + lo ≤ chr tx z a ∧ chr tx z a < 48 + hi := by
  unfold okd at h
  rw [Bool.and_eq_true] at h
  exact ⟨of_decide_eq_true h.1, of_decide_eq_true h.2⟩
theorem okd_f {tx : Nat → Nat} {z lo hi a : Nat} (h : okd tx z lo hi a = false) : ¬ (48 + lo ≤ chr tx z a ∧ chr tx z a < 48 + hi) := fun y => by
  unfold okd at h
  rw [decide_eq_true y.1, decide_eq_true y.2] at h
  exact absurd h (by decide)
theorem chr_lt {tx : Nat → Nat} {z a : Nat} (h : chr tx z a ≠ 128) : a < z := Classical.byContradiction fun g => h (if_neg g)
theorem okd_lt {tx : Nat → Nat} {z lo hi a : Nat} (hh : hi ≤ 10) (h : okd tx z lo hi a = true) : a < z := chr_lt (tx := tx) (by have := okd_t h; omega)
theorem isd_lt {tx : Nat → Nat} {z a : Nat} (h : isd (chr tx z a) = true) : a < z := chr_lt (tx := tx) (by have := isd_t h; omega)
/-- digit's value, where one is behind it, the fault -/
def dv (tx : Nat → Nat) (z lo hi a : Nat) : Nat := cond (okd tx z lo hi a) (chr tx z a - 48) 0
def da (tx : Nat → Nat) (z lo hi a : Nat) : Nat := cond (okd tx z lo hi a) (a + 1) a
def df (tx : Nat → Nat) (z lo hi a f : Nat) : Nat := cond (okd tx z lo hi a) f (fl f a)
/-- a sign is expected -/
def xa (tx : Nat → Nat) (z c a : Nat) : Nat := if chr tx z (sk tx z a) = c then sk tx z a + 1 else sk tx z a
def xf (tx : Nat → Nat) (z c a f : Nat) : Nat := if chr tx z (sk tx z a) = c then f else fl f (sk tx z a)
/-- places of a step -/
def cAr (tx : Nat → Nat) (z P : Nat) : Nat → Nat → Nat → (Nat → Nat) → Nat × Nat × (Nat → Nat)
  | 0, a, f, g => (a, f, g)
  | k + 1, a, f, g => if f = 0 ∧ isd (chr tx z a) = true then cAr tx z P k (sk tx z (da tx z 0 P a)) (if 2 ≤ g (dv tx z 0 P a) then fl (df tx z 0 P a f) a else df tx z 0 P a f) (fun j => if j = dv tx z 0 P a then g (dv tx z 0 P a) + 1 else g j) else (a, f, g)
/-- machines of a line: how many, where, fault, which -/
def cMc (tx : Nat → Nat) (z P : Nat) : Nat → Nat → Nat → Nat → (Nat → Nat) → Nat × Nat × Nat × (Nat → Nat)
  | 0, n, a, f, g => (n, a, f, g)
  | k + 1, n, a, f, g => if f = 0 ∧ (n = 0 ∨ isd (chr tx z a) = true) then cMc tx z P k (n + 1) (sk tx z (da tx z 0 P a)) (df tx z 0 P a f) (ups g n (dv tx z 0 P a)) else (n, a, f, g)
/-- places of a guard -/
def cGs (tx : Nat → Nat) (z P : Nat) : Nat → Nat → Nat → Nat → Nat × Nat × Nat
  | 0, a, f, S => (a, f, S)
  | k + 1, a, f, S => if f = 0 ∧ isd (chr tx z a) = true then cGs tx z P k (sk tx z (da tx z 0 P a)) (df tx z 0 P a f) (S ||| 2 ^ dv tx z 0 P a) else (a, f, S)
/-- an order: fault, where, the row -/
def rP2 (tx : Nat → Nat) (z : Nat) (m : Nat → Nat) (v f x : Nat) : Nat × Nat × (Nat → Nat) := (xf tx z 59 x f, xa tx z 59 x, if xf tx z 59 x f = 0 then stl (adp m v) else m)
def rP1 (tx : Nat → Nat) (z : Nat) (m : Nat → Nat) (b v x : Nat) : Nat × Nat × (Nat → Nat) := rP2 tx z m v (if 15 < v ∨ isd (chr tx z x) = true then fl (df tx z 0 10 b 0) b else df tx z 0 10 b 0) x
def rP0 (tx : Nat → Nat) (z : Nat) (m : Nat → Nat) (b : Nat) : Nat × Nat × (Nat → Nat) := rP1 tx z m b (cond (isd (chr tx z (da tx z 0 10 b))) (10 * dv tx z 0 10 b + dv tx z 0 10 (da tx z 0 10 b)) (dv tx z 0 10 b)) (cond (isd (chr tx z (da tx z 0 10 b))) (da tx z 0 10 (da tx z 0 10 b)) (da tx z 0 10 b))
def rP (tx : Nat → Nat) (z : Nat) (m : Nat → Nat) (a : Nat) : Nat × Nat × (Nat → Nat) := rP0 tx z m (sk tx z (a + 1))
def rS2 (tx : Nat → Nat) (z : Nat) (m : Nat → Nat) (c : Nat) (A B : Nat × Nat × (Nat → Nat)) : Nat × Nat × (Nat → Nat) := (xf tx z 59 B.1 B.2.1, xa tx z 59 B.1, if xf tx z 59 B.1 B.2.1 = 0 then stl (ads m c A.2.2 B.2.2) else m)
def rS1 (tx : Nat → Nat) (z : Nat) (m : Nat → Nat) (c : Nat) (A : Nat × Nat × (Nat → Nat)) : Nat × Nat × (Nat → Nat) := rS2 tx z m c A (cAr tx z (m 0) 120 (sk tx z (xa tx z 62 A.1)) (xf tx z 62 A.1 A.2.1) (fun _ => 0))
def rS0 (tx : Nat → Nat) (z : Nat) (m : Nat → Nat) (b : Nat) : Nat × Nat × (Nat → Nat) := rS1 tx z m (dv tx z 0 10 b) (cAr tx z (m 0) 120 (sk tx z (da tx z 0 10 b)) (df tx z 0 10 b 0) (fun _ => 0))
def rS (tx : Nat → Nat) (z : Nat) (m : Nat → Nat) (a : Nat) : Nat × Nat × (Nat → Nat) := rS0 tx z m (sk tx z (a + 1))
def rL2 (tx : Nat → Nat) (z : Nat) (m : Nat → Nat) (a k n x f : Nat) (g : Nat → Nat) : Nat × Nat × (Nat → Nat) := (f, xa tx z 59 x, if f = 0 then stl (lnN m k n g) else m)
def rL1 (tx : Nat → Nat) (z : Nat) (m : Nat → Nat) (a k : Nat) (A : Nat × Nat × Nat × (Nat → Nat)) : Nat × Nat × (Nat → Nat) := rL2 tx z m a k A.1 A.2.1 (if m 0 + A.1 + 1 ≤ 10 ∧ m 1 + A.1 + 1 ≤ 8 then xf tx z 59 A.2.1 A.2.2.1 else fl (xf tx z 59 A.2.1 A.2.2.1) a) A.2.2.2
def rL0 (tx : Nat → Nat) (z : Nat) (m : Nat → Nat) (a b : Nat) : Nat × Nat × (Nat → Nat) := rL1 tx z m a (dv tx z 1 10 b) (cMc tx z (m 0) 4 0 (sk tx z (da tx z 1 10 b)) (df tx z 1 10 b 0) (fun _ => 0))
def rL (tx : Nat → Nat) (z : Nat) (m : Nat → Nat) (a : Nat) : Nat × Nat × (Nat → Nat) := rL0 tx z m a (sk tx z (a + 1))
def rG3 (tx : Nat → Nat) (z : Nat) (m : Nat → Nat) (S v x f : Nat) : Nat × Nat × (Nat → Nat) := (f, xa tx z 59 x, if f = 0 then adg m S v else m)
def rG2 (tx : Nat → Nat) (z : Nat) (m : Nat → Nat) (a S c f : Nat) : Nat × Nat × (Nat → Nat) := rG3 tx z m S (dv tx z 1 10 c) (da tx z 1 10 c) (if sm S (hm m) 10 < dv tx z 1 10 c then fl (xf tx z 59 (da tx z 1 10 c) (df tx z 1 10 c f)) a else xf tx z 59 (da tx z 1 10 c) (df tx z 1 10 c f))
def rG1 (tx : Nat → Nat) (z : Nat) (m : Nat → Nat) (a : Nat) (A : Nat × Nat × Nat) : Nat × Nat × (Nat → Nat) := rG2 tx z m a A.2.2 (sk tx z (xa tx z 47 A.1)) (xf tx z 47 A.1 A.2.1)
def rG0 (tx : Nat → Nat) (z : Nat) (m : Nat → Nat) (a b : Nat) : Nat × Nat × (Nat → Nat) := rG1 tx z m a (cGs tx z (m 0) 120 (sk tx z (da tx z 0 (m 0) b)) (df tx z 0 (m 0) b 0) (2 ^ dv tx z 0 (m 0) b))
def rG (tx : Nat → Nat) (z : Nat) (m : Nat → Nat) (a : Nat) : Nat × Nat × (Nat → Nat) := rG0 tx z m a (sk tx z (a + 1))
def rO (tx : Nat → Nat) (z : Nat) (m : Nat → Nat) (a : Nat) : Nat × Nat × (Nat → Nat) := if chr tx z a = 112 ∧ m 0 < 10 then rP tx z m a else if chr tx z a = 116 ∧ m 1 < 8 then rS tx z m a else if chr tx z a = 108 then rL tx z m a else if chr tx z a = 103 ∧ m 200 < 5 then rG tx z m a else (a + 1, a, m)
def rd (tx : Nat → Nat) (z : Nat) : Nat → Nat → Nat → (Nat → Nat) → Nat × Nat × (Nat → Nat)
  | 0, n, _, m => (n, 0, m)
  | k + 1, n, a, m => if n = 0 ∨ a < z then (if (rO tx z m a).1 = 0 then rd tx z k (n + 1) (sk tx z (rO tx z m a).2.1) (rO tx z m a).2.2 else (n + 1, (rO tx z m a).1, m)) else (n, 0, m)
def rdA (s : ast) : Nat × Nat × (Nat → Nat) := rd s.2.2.2.2.2 s.2.2.2.2.1 120 0 (sk s.2.2.2.2.2 s.2.2.2.2.1 0) s.1
def o_reads (s : ast) : Int32 × ast := if (rdA s).2.1 = 0 then (nI (rdA s).1, a_ch s (rdA s).2.2) else (-10 - nI ((rdA s).2.1 - 1), s)
/-- positions stay in the text; faults too -/
theorem da_p {tx : Nat → Nat} {z lo hi a : Nat} (hh : hi ≤ 10) (h : a ≤ z) : a ≤ da tx z lo hi a ∧ da tx z lo hi a ≤ z := by
  unfold da
  cases e : okd tx z lo hi a with
  | true =>
    have := okd_lt hh e
    exact ⟨Nat.le_succ _, this⟩
  | false => exact ⟨Nat.le_refl _, h⟩
theorem dv_p {tx : Nat → Nat} {z lo hi a : Nat} : dv tx z lo hi a = 0 ∨ (lo ≤ dv tx z lo hi a ∧ dv tx z lo hi a < hi) := by
  unfold dv
  cases e : okd tx z lo hi a with
  | true =>
    have := okd_t e
    exact Or.inr ⟨by show lo ≤ chr tx z a - 48; omega, by show chr tx z a - 48 < hi; omega⟩
  | false => exact Or.inl rfl
theorem fl_p {f p z : Nat} (hf : f ≤ z + 1) (hp : p ≤ z) : fl f p ≤ z + 1 := by
  unfold fl
  split <;> omega
theorem df_p {tx : Nat → Nat} {z lo hi a f : Nat} (h : a ≤ z) (hf : f ≤ z + 1) : df tx z lo hi a f ≤ z + 1 := by
  unfold df
  cases okd tx z lo hi a with
  | true => exact hf
  | false => exact fl_p hf h
theorem xa_p {tx : Nat → Nat} {z c a : Nat} (hc : c ≤ 127) (h : a ≤ z) : a ≤ xa tx z c a ∧ xa tx z c a ≤ z := by
  have s := sk_p (tx := tx) h
  unfold xa
  by_cases e : chr tx z (sk tx z a) = c
  · rw [if_pos e]
    have := chr_lt (tx := tx) (z := z) (a := sk tx z a) (by omega)
    omega
  · rw [if_neg e]
    omega
theorem xf_p {tx : Nat → Nat} {z c a f : Nat} (h : a ≤ z) (hf : f ≤ z + 1) : xf tx z c a f ≤ z + 1 := by
  have s := sk_p (tx := tx) h
  unfold xf
  split
  · exact hf
  · exact fl_p hf s.2.1
theorem cAr_p {tx : Nat → Nat} {z P : Nat} (hP : P ≤ 10) : ∀ k a f g, a ≤ z → f ≤ z + 1 → (∀ j, g j ≤ 2) → (∀ j, P ≤ j → g j = 0) → a ≤ (cAr tx z P k a f g).1 ∧ (cAr tx z P k a f g).1 ≤ z ∧ (cAr tx z P k a f g).2.1 ≤ z + 1 ∧ (∀ j, (cAr tx z P k a f g).2.2 j ≤ 3) ∧ ((cAr tx z P k a f g).2.1 = 0 → (∀ j, (cAr tx z P k a f g).2.2 j ≤ 2) ∧ ∀ j, P ≤ j → (cAr tx z P k a f g).2.2 j = 0) ∧ (f ≠ 0 → (cAr tx z P k a f g).2.1 = f)
  | 0, a, f, g, h1, h2, h3, h4 => ⟨Nat.le_refl _, h1, h2, fun j => Nat.le_succ_of_le (h3 j), fun _ => ⟨h3, h4⟩, fun _ => rfl⟩
  | k + 1, a, f, g, h1, h2, h3, h4 => by
    unfold cAr
    by_cases e : f = 0 ∧ isd (chr tx z a) = true
    · rw [if_pos e]
      have hlt := isd_lt e.2
      have d1 := da_p (tx := tx) (lo := 0) hP h1
      have s1 := sk_p (tx := tx) d1.2
      have hv := dv_p (tx := tx) (z := z) (lo := 0) (hi := P) (a := a)
      have f1 := df_p (tx := tx) (lo := 0) (hi := P) h1 h2
      by_cases e2 : 2 ≤ g (dv tx z 0 P a)
      · rw [if_pos e2]
        -- it ends here
        have hf : fl (df tx z 0 P a f) a ≠ 0 := fl_n
        have key : ∀ k' a' g', cAr tx z P k' a' (fl (df tx z 0 P a f) a) g' = (a', fl (df tx z 0 P a f) a, g') := fun k' a' g' => by
          cases k' with
          | zero => rfl
          | succ k' =>
            unfold cAr
            rw [if_neg (fun x => hf x.1)]
        rw [key]
        refine ⟨by show a ≤ sk _ _ _; omega, s1.2.1, fl_p f1 h1, fun j => ?_, fun x => absurd x hf, fun x => absurd e.1 x⟩
        show (if j = dv tx z 0 P a then g (dv tx z 0 P a) + 1 else g j) ≤ 3
        have := h3 (dv tx z 0 P a)
        have := h3 j
        split <;> omega
      · rw [if_neg e2]
        cases eo : okd tx z 0 P a with
        | true =>
          have hdf : df tx z 0 P a f = f := by
            unfold df
            rw [eo]
            rfl
          have hdv : dv tx z 0 P a < P := by
            have := okd_t eo
            unfold dv
            rw [eo]
            show chr tx z a - 48 < P
            omega
          have ih := cAr_p (tx := tx) (z := z) hP k (sk tx z (da tx z 0 P a)) (df tx z 0 P a f) (fun j => if j = dv tx z 0 P a then g (dv tx z 0 P a) + 1 else g j) s1.2.1 f1 (fun j => by
            show (if j = dv tx z 0 P a then g (dv tx z 0 P a) + 1 else g j) ≤ 2
            have := h3 j
            split <;> omega) (fun j hj => by
            show (if j = dv tx z 0 P a then g (dv tx z 0 P a) + 1 else g j) = 0
            rw [if_neg (by omega)]
            exact h4 j hj)
          exact ⟨by omega, ih.2.1, ih.2.2.1, ih.2.2.2.1, ih.2.2.2.2.1, fun x => absurd e.1 x⟩
        | false =>
          have hdf : df tx z 0 P a f = fl f a := by
            unfold df
            rw [eo]
            rfl
          have hf : fl f a ≠ 0 := fl_n
          rw [hdf] at f1 ⊢
          have key : ∀ k' a' g', cAr tx z P k' a' (fl f a) g' = (a', fl f a, g') := fun k' a' g' => by
            cases k' with
            | zero => rfl
            | succ k' =>
              unfold cAr
              rw [if_neg (fun x => hf x.1)]
          rw [key]
          refine ⟨by show a ≤ sk _ _ _; omega, s1.2.1, f1, fun j => ?_, fun x => absurd x hf, fun x => absurd e.1 x⟩
          show (if j = dv tx z 0 P a then g (dv tx z 0 P a) + 1 else g j) ≤ 3
          have := h3 (dv tx z 0 P a)
          have := h3 j
          split <;> omega
    · rw [if_neg e]
      exact ⟨Nat.le_refl _, h1, h2, fun j => Nat.le_succ_of_le (h3 j), fun _ => ⟨h3, h4⟩, fun _ => rfl⟩
theorem cMc_p {tx : Nat → Nat} {z P : Nat} (hP : P ≤ 10) : ∀ k n a f g, a ≤ z → f ≤ z + 1 → (∀ j, g j < 10) → (f = 0 → ∀ j, j < n → g j < P) → a ≤ (cMc tx z P k n a f g).2.1 ∧ (cMc tx z P k n a f g).2.1 ≤ z ∧ (cMc tx z P k n a f g).2.2.1 ≤ z + 1 ∧ (∀ j, (cMc tx z P k n a f g).2.2.2 j < 10) ∧ ((cMc tx z P k n a f g).2.2.1 = 0 → ∀ j, j < (cMc tx z P k n a f g).1 → (cMc tx z P k n a f g).2.2.2 j < P) ∧ (f ≠ 0 → (cMc tx z P k n a f g).2.2.1 = f) ∧ n ≤ (cMc tx z P k n a f g).1 ∧ (cMc tx z P k n a f g).1 ≤ n + k
  | 0, n, a, f, g, h1, h2, h3, h4 => ⟨Nat.le_refl _, h1, h2, h3, h4, fun _ => rfl, Nat.le_refl _, Nat.le_refl _⟩
  | k + 1, n, a, f, g, h1, h2, h3, h4 => by
    unfold cMc
    by_cases e : f = 0 ∧ (n = 0 ∨ isd (chr tx z a) = true)
    · rw [if_pos e]
      have d1 := da_p (tx := tx) (lo := 0) hP h1
      have s1 := sk_p (tx := tx) d1.2
      have hv := dv_p (tx := tx) (z := z) (lo := 0) (hi := P) (a := a)
      have f1 := df_p (tx := tx) (lo := 0) (hi := P) h1 h2
      have ih := cMc_p (tx := tx) (z := z) hP k (n + 1) (sk tx z (da tx z 0 P a)) (df tx z 0 P a f) (ups g n (dv tx z 0 P a)) s1.2.1 f1 (fun j => by
        by_cases ej : j = n
        · rw [ej, ups_s]
          omega
        · rw [ups_o ej]
          exact h3 j) (fun hf j hj => by
        by_cases ej : j = n
        · rw [ej, ups_s]
          cases eo : okd tx z 0 P a with
          | true =>
            have := okd_t eo
            unfold dv
            rw [eo]
            show chr tx z a - 48 < P
            omega
          | false =>
            unfold df at hf
            rw [eo] at hf
            exact absurd hf fl_n
        · rw [ups_o ej]
          exact h4 e.1 j (by omega))
      exact ⟨by omega, ih.2.1, ih.2.2.1, ih.2.2.2.1, ih.2.2.2.2.1, fun x => absurd e.1 x, by omega, by omega⟩
    · rw [if_neg e]
      exact ⟨Nat.le_refl _, h1, h2, h3, h4, fun _ => rfl, Nat.le_refl _, by show n ≤ n + (k + 1); omega⟩
theorem or_lt {S d : Nat} (h : S < 1024) (hd : d < 10) : S ||| 2 ^ d < 1024 := Nat.or_lt_two_pow (n := 10) h (Nat.pow_lt_pow_right (by decide) hd)
theorem cGs_p {tx : Nat → Nat} {z P : Nat} (hP : P ≤ 10) : ∀ k a f S, a ≤ z → f ≤ z + 1 → S < 1024 → a ≤ (cGs tx z P k a f S).1 ∧ (cGs tx z P k a f S).1 ≤ z ∧ (cGs tx z P k a f S).2.1 ≤ z + 1 ∧ (cGs tx z P k a f S).2.2 < 1024 ∧ (f ≠ 0 → (cGs tx z P k a f S).2.1 = f)
  | 0, a, f, S, h1, h2, h3 => ⟨Nat.le_refl _, h1, h2, h3, fun _ => rfl⟩
  | k + 1, a, f, S, h1, h2, h3 => by
    unfold cGs
    by_cases e : f = 0 ∧ isd (chr tx z a) = true
    · rw [if_pos e]
      have d1 := da_p (tx := tx) (lo := 0) hP h1
      have s1 := sk_p (tx := tx) d1.2
      have hv := dv_p (tx := tx) (z := z) (lo := 0) (hi := P) (a := a)
      have ih := cGs_p (tx := tx) (z := z) hP k (sk tx z (da tx z 0 P a)) (df tx z 0 P a f) (S ||| 2 ^ dv tx z 0 P a) s1.2.1 (df_p h1 h2) (or_lt h3 (by omega))
      exact ⟨by omega, ih.2.1, ih.2.2.1, ih.2.2.2.1, fun x => absurd e.1 x⟩
    · rw [if_neg e]
      exact ⟨Nat.le_refl _, h1, h2, h3, fun _ => rfl⟩
