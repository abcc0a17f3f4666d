/-! THE NET AS NUMBERS: the reference's row of 212 numbers as the state; small loops of the reference -/
theorem up_loop {Pr : Nat → Prop} {e : Nat} (base : Pr e) (step : ∀ i, i < e → Pr (i + 1) → Pr i) : ∀ k i, i + k = e → Pr i
  | 0, i, h => by
    have e1 : i = e := by omega
    rw [e1]
    exact base
  | k + 1, i, h => step i (by omega) (up_loop base step k (i + 1) (by omega))
theorem up0 {Pr : Nat → Prop} {e : Nat} (base : Pr e) (step : ∀ i, i < e → Pr (i + 1) → Pr i) : Pr 0 := up_loop base step e 0 (by omega)
def nN (I : Nat → Nat → Int32) (m : Nat → Nat) : Prop := ∀ k, k < 212 → I 72 k = nI (m k)
def al (n : Nat) (P : Nat → Bool) : Bool := (List.range n).all P
theorem al_iff {n : Nat} {P : Nat → Bool} : al n P = true ↔ ∀ p, p < n → P p = true := by
  unfold al
  rw [List.all_eq_true]
  exact ⟨fun h p hp => h p (List.mem_range.mpr hp), fun h p hp => h p (List.mem_range.mp hp)⟩
theorem al_no {n : Nat} {P : Nat → Bool} : al n P = false ↔ ∃ p, p < n ∧ P p = false := by
  constructor
  · intro h
    refine Classical.byContradiction fun hn => ?_
    have : al n P = true := al_iff.mpr fun p hp => by
      cases hq : P p with
      | true => rfl
      | false => exact absurd ⟨p, hp, hq⟩ hn
    rw [this] at h
    exact absurd h (by decide)
  · intro ⟨p, hp, hq⟩
    cases h : al n P with
    | false => rfl
    | true => rw [al_iff.mp h p hp] at hq; exact absurd hq (by decide)
/-- bounds that hold of the row all the time -/
def wb (m : Nat → Nat) : Prop := m 0 ≤ 10 ∧ m 1 ≤ 8 ∧ m 200 ≤ 5 ∧ m 211 ≤ 1 ∧ (∀ p, p < 10 → m (2 + p) ≤ 15 ∧ m (12 + p) ≤ 15 ∧ m (22 + p) ≤ 15) ∧ (∀ t p, t < 8 → p < 10 → m (40 + 10 * t + p) ≤ 2 ∧ m (120 + 10 * t + p) ≤ 2) ∧ (∀ t, t < 8 → m (32 + t) ≤ 9) ∧ (∀ g, g < 5 → m (201 + g) < 1024 ∧ m (206 + g) ≤ 9)
/-- a marking of the net: tokens by place, nothing beyond the places -/
def mk (m f : Nat → Nat) : Prop := (∀ p, f p ≤ 15) ∧ ∀ p, m 0 ≤ p → f p = 0
def tk (m : Nat → Nat) (t p : Nat) : Nat := m (40 + 10 * t + p)
def gv (m : Nat → Nat) (t p : Nat) : Nat := m (120 + 10 * t + p)
/-- tokens behind a step -/
def aft (m f : Nat → Nat) (t p : Nat) : Nat := if p < m 0 then f p - tk m t p + gv m t p else f p
/-- 0, or 1: it has not what it takes, 2: no room -/
def room (m f : Nat → Nat) (t : Nat) : Nat := cond (al (m 0) fun p => decide (tk m t p ≤ f p)) (cond (al (m 0) fun p => decide (f p - tk m t p + gv m t p ≤ 15)) 0 2) 1
def bar (m f : Nat → Nat) (t g : Nat) : Bool := decide (sm (m (201 + g)) (aft m f t) 10 < m (206 + g)) && decide (sm (m (201 + g)) (aft m f t) 10 < sm (m (201 + g)) f 10)
/-- why a step can't go, but for guard b (5: none) -/
def why (m f : Nat → Nat) (t b : Nat) : Nat := cond (Nat.beq (room m f t) 0) (cond (al (m 200) fun g => decide (g = b) || ! bar m f t g) 0 3) (room m f t)
def bI (b : Nat) : Int32 := if b < 5 then nI b else -1
theorem bI_eq : ∀ g, g < 5 → ∀ b, b < 6 → (nI g = bI b ↔ g = b) := by decide +kernel
theorem mp_trim {b : Nat} {f : Nat → Nat} {P : Nat} (h : ∀ p, P ≤ p → f p = 0) : ∀ k, mp b f (P + k) = mp b f P
  | 0 => rfl
  | k + 1 => by
    show mp b f (P + k) + f (P + k) * b ^ (P + k) = _
    rw [h (P + k) (by omega), mp_trim h k, Nat.zero_mul, Nat.add_zero]
theorem sm_trim {S : Nat} {f : Nat → Nat} {P : Nat} (h : ∀ p, P ≤ p → f p = 0) : ∀ k, sm S f (P + k) = sm S f P
  | 0 => rfl
  | k + 1 => by
    show sm S f (P + k) + (if S.testBit (P + k) = true then f (P + k) else 0) = _
    rw [h (P + k) (by omega), sm_trim h k]
    split <;> rfl
theorem mp_10 {b n : Nat} {f : Nat → Nat} {P : Nat} (h : ∀ p, P ≤ p → f p = 0) (hP : P ≤ n) : mp b f P = mp b f n := by
  have := mp_trim (b := b) h (n - P)
  rw [show P + (n - P) = n by omega] at this
  exact this.symm
theorem sm_10 {S n : Nat} {f : Nat → Nat} {P : Nat} (h : ∀ p, P ≤ p → f p = 0) (hP : P ≤ n) : sm S f P = sm S f n := by
  have := sm_trim (S := S) h (n - P)
  rw [show P + (n - P) = n by omega] at this
  exact this.symm
theorem cl0 : (0 : Int32).toNatClampNeg = 0 := by decide +kernel
theorem cl1 : (1 : Int32).toNatClampNeg = 1 := by decide +kernel
theorem cl200 : (200 : Int32).toNatClampNeg = 200 := by decide +kernel
theorem m31 : ∀ k, k < 32 → (nI k &&& 31) = nI k := by decide +kernel
theorem sm32 : ∀ k, k < 32 → ((nI k).toBitVec.smod 32).toNat = k := by decide +kernel
theorem has_eq {S k : Nat} (hS : S < 2 ^ 31) (hk : k < 31) : ((nI S >>> (nI k &&& 31)) &&& 1) = 1 ↔ S.testBit k = true := by
  rw [m31 k (by omega), pk_shrN hS _ k (sm32 k (by omega)), pk_andN (m := 1) (Nat.lt_of_le_of_lt (Nat.div_le_self _ _) (by omega)) 1 (by decide), fa_lit 1, nI_eq (by omega) (by decide), Nat.testBit_eq_decide_div_mod_eq]
  simp
theorem tok4 {X p : Nat} (hX : X < 2 ^ 62) (hp : p < 15) : ((lN X >>> (((4 : Int32) * nI p).toInt64 &&& 63)) &&& 15).toInt32 = nI (X / 16 ^ p % 16) := by
  rw [nI_4, lN_shr hX (by omega), fa_litL 15]
  have h1 : X / 2 ^ (4 * p) < 2 ^ 64 := Nat.lt_of_le_of_lt (Nat.div_le_self _ _) (by omega)
  rw [show (15 : Nat) = 2 ^ 4 - 1 from rfl, wb_mask h1 (by decide), lN_i, pw_16]
theorem mp16_lt {f : Nat → Nat} (hf : ∀ p, f p ≤ 15) {n : Nat} (hn : n ≤ 10) : mp 16 f n < 2 ^ 40 := by
  have h := mp_lt (b := 16) (f := f) (by decide) n (fun p _ => by have := hf p; omega)
  rw [pw_16] at h
  exact Nat.lt_of_lt_of_le h (Nat.pow_le_pow_right (by decide) (by omega))
theorem mk4 {f : Nat → Nat} {i : Nat} (hi : i < 10) (hf : ∀ p, f p ≤ 15) : lN (mp 16 f i) ||| ((nI (f i)).toInt64 <<< (((4 : Int32) * nI i).toInt64 &&& 63)) = lN (mp 16 f (i + 1)) := by
  have h1 := hf i
  have h2 := mp16_lt hf (n := i + 1) (by omega)
  rw [nI_4, nI_l (by omega), wb_shl _ (by omega), ← pw_16, g_or' (k := 4 * i) (pw_16 i).symm (mp_lt (by decide) i (fun p _ => by have := hf p; omega)) (Nat.lt_trans h2 (by decide))]
  rfl
theorem dif2 : ∀ g, g < 3 → ∀ t, t < 3 → (nI g - nI t).toInt64 = lN (2 ^ 64 + g - t) := by decide +kernel
theorem beh4 {X X' g t i : Nat} (hi : i < 16) (hg : g ≤ 2) (ht : t ≤ 2) (e : X' + t * 16 ^ i = X + g * 16 ^ i) : lN X + ((nI g - nI t).toInt64 <<< (((4 : Int32) * nI i).toInt64 &&& 63)) = lN X' := by
  rw [nI_4, dif2 g (by omega) t (by omega), wb_shl _ (by omega), lN_add, ← pw_16]
  have h1 : (2 ^ 64 + g - t) * 16 ^ i + t * 16 ^ i = 2 ^ 64 * 16 ^ i + g * 16 ^ i := by
    rw [← Nat.add_mul, ← Nat.add_mul]
    congr 1
    omega
  have h2 : X + (2 ^ 64 + g - t) * 16 ^ i = X' + 2 ^ 64 * 16 ^ i := by omega
  rw [h2, wb_mod, Nat.add_mul_mod_self_left, ← wb_mod]
section MODEL
variable {I : Nat → Nat → Int32} {L : Nat → Nat → Int64} {q r1 r2 : Nat → Nat} {w : Bool} {K : km_K} {m f : Nat → Nat}
theorem m_in {x a b : Int32} (h1 : ¬ x < a → ¬ b < x → K (some (.int 1)) (I, L, kr q w r1 r2)) (h0 : (x < a ∨ b < x) → K (some (.int 0)) (I, L, kr q w r1 r2)) : kC sh kp 52 [.int x, .int a, .int b] (I, L, kr q w r1 r2) K :=
  ⟨rfl, bM_in_0 ⟨fun h => bM_in_14 (bM_in_15 ⟨Or.inl rfl, h0 (Or.inl h)⟩), fun h => bM_in_5 ⟨fun g => bM_in_14 (bM_in_15 ⟨Or.inl rfl, h0 (Or.inr g)⟩), fun g => bM_in_10 (bM_in_15 ⟨Or.inr rfl, h1 h g⟩)⟩⟩⟩
theorem m_has {S k : Nat} (hS : S < 2 ^ 31) (hk : k < 31) (h : K (some (.int (cond (S.testBit k) 1 0))) (I, L, kr q w r1 r2)) : kC sh kp 53 [.int (nI S), .int (nI k)] (I, L, kr q w r1 r2) K :=
  ⟨rfl, bM_has_0 ⟨fun g => bM_has_13 (bM_has_14 ⟨Or.inl rfl, by
    cases e : S.testBit k with
    | true => exact absurd ((has_eq hS hk).mpr e) g
    | false => rw [e] at h; exact h⟩), fun g => bM_has_9 (bM_has_14 ⟨Or.inr rfl, by
    rw [(has_eq hS hk).mp g] at h
    exact h⟩)⟩⟩
theorem m_bad (h : K (some (.int (-2))) (km_up I 71 4 ((I 71 4) + 1), L, kr q w r1 r2)) : kC sh kp 54 [.ref 71] (I, L, kr q w r1 r2) K := ⟨rfl, bM_bad_0 h⟩
theorem m_no (h : K (some (.int (-3))) (km_up I 71 5 ((I 71 5) + 1), L, kr q w r1 r2)) : kC sh kp 55 [.ref 71] (I, L, kr q w r1 r2) K := ⟨rfl, bM_no_0 h⟩
theorem m_full (h : K (some (.int (-4))) (km_up I 71 6 ((I 71 6) + 1), L, kr q w r1 r2)) : kC sh kp 56 [.ref 71] (I, L, kr q w r1 r2) K := ⟨rfl, bM_full_0 h⟩
theorem m_at {p : Nat} (hp : p < 10) (hf : ∀ p, f p ≤ 15) (h : K (some (.int (nI (f p)))) (I, L, kr q w r1 r2)) : kC sh kp 76 [.long (lN (mp 16 f 10)), .int (nI p)] (I, L, kr q w r1 r2) K :=
  ⟨rfl, bM_at_0 (by
    have h1 := mp16_lt hf (n := 10) (by decide)
    rw [tok4 (Nat.lt_trans h1 (by decide)) (by omega), mp_at (by decide) hp (fun p _ => by have := hf p; omega)]
    exact h)⟩
theorem m_tokensFrom {c : Nat} (hn : nN I m) (hw : m 0 ≤ 10) (hc : c ≤ 22) (hf : ∀ p, p < m 0 → f p = m (c + p)) (hm : mk m f) (h : K (some (.long (lN (mp 16 f 10)))) (I, L, kr q w r1 r2)) : kC sh kp 77 [.ref 71, .int (nI c)] (I, L, kr q w r1 r2) K := by
  refine ⟨rfl, bM_tokensFrom_0 ?_⟩
  refine up0 (Pr := fun i => kW sh kp 77 5 [some (.ref 71), some (.int (nI c)), some (.long (lN (mp 16 f i))), none, some (.int (nI i))] [] (I, L, kr q w r1 r2) K) (e := m 0) ?_ fun i hi ih => ?_
  · refine bM_tokensFrom_5 ⟨pk_in 0 212 (by decide), pk_le (m 0) (m 0) (fun _ => bM_tokensFrom_40 ?_) (fun g => absurd g (by omega)) (by rw [cl0]; exact hn 0 (by decide))⟩
    rw [mp_10 hm.2 hw]
    exact h
  · refine bM_tokensFrom_5 ⟨pk_in 0 212 (by decide), pk_le (m 0) i (fun g => absurd g (by omega)) (fun _ => bM_tokensFrom_16 ⟨?_, ?_⟩) (by rw [cl0]; exact hn 0 (by decide))⟩
    · rw [nI_add]
      exact vp_in_nI (by omega) (by decide)
    · rw [nI_add, nI_clamp (by omega), hn _ (by omega), ← hf i hi, mk4 (by omega) hm.1, nI_1]
      exact ih
theorem m_tokensHome (hn : nN I m) (hw : m 0 ≤ 10) (hl : ∀ p, p < m 0 → m (12 + p) ≤ m (2 + p)) (hf : ∀ p, p < m 0 → f p = m (2 + p) - m (12 + p)) (hm : mk m f) (h : K (some (.long (lN (mp 16 f 10)))) (I, L, kr q w r1 r2)) : kC sh kp 78 [.ref 72] (I, L, kr q w r1 r2) K := by
  refine ⟨rfl, bM_tokensHome_n_0 ?_⟩
  refine up0 (Pr := fun i => kW sh kp 78 4 [some (.ref 72), some (.long (lN (mp 16 f i))), none, some (.int (nI i))] [] (I, L, kr q w r1 r2) K) (e := m 0) ?_ fun i hi ih => ?_
  · refine bM_tokensHome_n_4 ⟨pk_in 0 212 (by decide), pk_le (m 0) (m 0) (fun _ => bM_tokensHome_n_37 ?_) (fun g => absurd g (by omega)) (by rw [cl0]; exact hn 0 (by decide))⟩
    rw [mp_10 hm.2 hw]
    exact h
  · refine bM_tokensHome_n_4 ⟨pk_in 0 212 (by decide), pk_le (m 0) i (fun g => absurd g (by omega)) (fun _ => bM_tokensHome_n_11 ⟨?_, ?_, ?_⟩) (by rw [cl0]; exact hn 0 (by decide))⟩
    · rw [fa_lit 2, nI_add]
      exact vp_in_nI (by omega) (by decide)
    · rw [fa_lit 12, nI_add]
      exact vp_in_nI (by omega) (by decide)
    · rw [fa_lit 2, fa_lit 12, nI_add, nI_add, nI_clamp (by omega), nI_clamp (by omega), hn _ (by omega), hn _ (by omega), pk_sub (hl i hi), ← hf i hi, mk4 (by omega) hm.1, nI_1]
      exact ih
theorem m_together {S : Nat} (hn : nN I m) (hw : m 0 ≤ 10) (hS : S < 2 ^ 31) (hm : mk m f) (h : K (some (.int (nI (sm S f 10)))) (I, L, kr q w r1 r2)) : kC sh kp 79 [.ref 71, .long (lN (mp 16 f 10)), .int (nI S)] (I, L, kr q w r1 r2) K := by
  refine ⟨rfl, bM_together_0 ?_⟩
  refine up0 (Pr := fun i => kW sh kp 79 6 [some (.ref 71), some (.long (lN (mp 16 f 10))), none, some (.int (nI S)), some (.int (nI (sm S f i))), some (.int (nI i))] [] (I, L, kr q w r1 r2) K) (e := m 0) ?_ fun i hi ih => ?_
  · refine bM_together_6 ⟨pk_in 0 212 (by decide), pk_le (m 0) (m 0) (fun _ => bM_together_47 ?_) (fun g => absurd g (by omega)) (by rw [cl0]; exact hn 0 (by decide))⟩
    rw [sm_10 hm.2 hw]
    exact h
  · refine bM_together_6 ⟨pk_in 0 212 (by decide), pk_le (m 0) i (fun g => absurd g (by omega)) (fun _ => bM_together_17 (m_has hS (by omega) ?_)) (by rw [cl0]; exact hn 0 (by decide))⟩
    cases e : S.testBit i with
    | true =>
      refine bM_together_25 ⟨fun g => absurd g (by decide), fun _ => bM_together_28 (m_at (by omega) hm.1 (bM_together_34 (bM_together_38 ?_)))⟩
      rw [nI_add, nI_1]
      have e3 : sm S f (i + 1) = sm S f i + f i := by simp [sm, e]
      rw [e3] at ih
      exact ih
    | false =>
      refine bM_together_25 ⟨fun _ => bM_together_37 (bM_together_38 ?_), fun g => absurd rfl g⟩
      rw [Int32.add_zero, nI_1]
      have e3 : sm S f (i + 1) = sm S f i := by simp [sm, e]
      rw [e3] at ih
      exact ih
theorem m_placesSet (hn : nN I m) (hw : m 0 ≤ 10) (h : K (some (.int (nI (2 ^ m 0 - 1)))) (I, L, kr q w r1 r2)) : kC sh kp 80 [.ref 71] (I, L, kr q w r1 r2) K := by
  refine ⟨rfl, bM_placesSet_0 ⟨pk_in 0 212 (by decide), ?_⟩⟩
  rw [cl0, hn 0 (by decide), sh1 _ (by omega), fa_lit 1, pk_sub (Nat.pow_pos (by decide))]
  exact h
theorem ix_tk {t p : Nat} : (40 : Int32) + 10 * nI t + nI p = nI (40 + 10 * t + p) := by rw [fa_lit 40, fa_lit 10, pk_mul, nI_add, nI_add]
theorem ix_gv {t p : Nat} : (120 : Int32) + 10 * nI t + nI p = nI (120 + 10 * t + p) := by rw [fa_lit 120, fa_lit 10, pk_mul, nI_add, nI_add]
theorem m_behind {t : Nat} (hn : nN I m) (hw : wb m) (ht : t < 8) (hm : mk m f) (hr : ∀ p, p < m 0 → tk m t p ≤ f p) (h : K (some (.long (lN (mp 16 (aft m f t) 10)))) (I, L, kr q w r1 r2)) : kC sh kp 82 [.ref 71, .long (lN (mp 16 f 10)), .int (nI t)] (I, L, kr q w r1 r2) K := by
  obtain ⟨w0, w1, w2, w3, w4, w5, w6, w7⟩ := hw
  refine ⟨rfl, bM_behind_0 ?_⟩
  have key := up0 (Pr := fun i => kW sh kp 82 6 [some (.ref 71), none, none, some (.int (nI t)), some (.long (lN (mp 16 (fun j => if j < i then aft m f t j else f j) 10))), none, some (.int (nI i))] [] (I, L, kr q w r1 r2) K) (e := m 0) ?_ fun i hi ih => ?_
  · have e0 : (fun j => if j < 0 then aft m f t j else f j) = f := funext fun j => if_neg (by omega)
    rw [e0] at key
    exact key
  · refine bM_behind_6 ⟨pk_in 0 212 (by decide), pk_le (m 0) (m 0) (fun _ => bM_behind_65 ?_) (fun g => absurd g (by omega)) (by rw [cl0]; exact hn 0 (by decide))⟩
    have e0 : (fun j => if j < m 0 then aft m f t j else f j) = aft m f t := funext fun j => by
      by_cases g : j < m 0
      · exact if_pos g
      · rw [if_neg g]
        unfold aft
        rw [if_neg g]
    rw [e0]
    exact h
  · refine bM_behind_6 ⟨pk_in 0 212 (by decide), pk_le (m 0) i (fun g => absurd g (by omega)) (fun _ => bM_behind_17 ⟨?_, ?_, ?_⟩) (by rw [cl0]; exact hn 0 (by decide))⟩
    · rw [ix_gv]
      exact vp_in_nI (by omega) (by decide)
    · rw [ix_tk]
      exact vp_in_nI (by omega) (by decide)
    · have b1 := w5 t i ht (by omega)
      have e1 := mp_upd (b := 16) (f := fun j => if j < i then aft m f t j else f j) (n := 10) (p := i) (v := aft m f t i) (by omega)
      have e2 : (fun j => if j = i then aft m f t i else if j < i then aft m f t j else f j) = fun j => if j < i + 1 then aft m f t j else f j := funext fun j => by
        by_cases g : j = i
        · rw [if_pos g, if_pos (by omega), g]
        · rw [if_neg g]
          by_cases g2 : j < i
          · rw [if_pos g2, if_pos (by omega)]
          · rw [if_neg g2, if_neg (by omega)]
      rw [e2] at e1
      have e3 : aft m f t i + tk m t i = f i + gv m t i := by
        have := hr i hi
        unfold aft
        rw [if_pos hi]
        omega
      have e4 : aft m f t i * 16 ^ i + tk m t i * 16 ^ i = f i * 16 ^ i + gv m t i * 16 ^ i := by rw [← Nat.add_mul, ← Nat.add_mul, e3]
      have e5 : (if i < i then aft m f t i else f i) = f i := if_neg (by omega)
      have e1' : mp 16 (fun j => if j < i + 1 then aft m f t j else f j) 10 + f i * 16 ^ i = mp 16 (fun j => if j < i then aft m f t j else f j) 10 + aft m f t i * 16 ^ i := by
        have e1 := e1
        simp only [e5] at e1
        exact e1
      rw [ix_gv, ix_tk, nI_clamp (by omega), nI_clamp (by omega), hn _ (by omega), hn _ (by omega), beh4 (X' := mp 16 (fun j => if j < i + 1 then aft m f t j else f j) 10) (by omega) b1.2 b1.1 (by
        show _ + tk m t i * 16 ^ i = _ + gv m t i * 16 ^ i
        omega), nI_1]
      exact ih
theorem m_roomFor {t : Nat} (hn : nN I m) (hw : wb m) (ht : t < 8) (hm : mk m f) (h : K (some (.int (nI (room m f t)))) (I, L, kr q w r1 r2)) : kC sh kp 81 [.ref 71, .long (lN (mp 16 f 10)), .int (nI t)] (I, L, kr q w r1 r2) K := by
  obtain ⟨w0, w1, w2, w3, w4, w5, w6, w7⟩ := hw
  refine ⟨rfl, bM_roomFor_0 ?_⟩
  have key := up0 (Pr := fun i => (∀ p, p < i → tk m t p ≤ f p) → kW sh kp 81 6 [some (.ref 71), some (.long (lN (mp 16 f 10))), none, some (.int (nI t)), some (.int (nI (cond (al i fun p => decide (f p - tk m t p + gv m t p ≤ 15)) 0 2))), some (.int (nI i)), none, none] [] (I, L, kr q w r1 r2) K) (e := m 0) ?_ fun i hi ih => ?_
  · exact key (fun p hp => absurd hp (by omega))
  · intro ha
    refine bM_roomFor_6 ⟨pk_in 0 212 (by decide), pk_le (m 0) (m 0) (fun _ => bM_roomFor_89 ?_) (fun g => absurd g (by omega)) (by rw [cl0]; exact hn 0 (by decide))⟩
    have e1 : (al (m 0) fun p => decide (tk m t p ≤ f p)) = true := al_iff.mpr fun p hp => decide_eq_true (ha p hp)
    unfold room at h
    rw [e1] at h
    exact h
  · intro ha
    have b1 := w5 t i ht (by omega)
    have b2 := hm.1 i
    refine bM_roomFor_6 ⟨pk_in 0 212 (by decide), pk_le (m 0) i (fun g => absurd g (by omega)) (fun _ => bM_roomFor_17 ⟨?_, m_at (by omega) hm.1 ?_⟩) (by rw [cl0]; exact hn 0 (by decide))⟩
    · rw [ix_tk]
      exact vp_in_nI (by omega) (by decide)
    · rw [ix_tk, nI_clamp (by omega), hn _ (by omega)]
      refine bM_roomFor_40 ⟨fun g => ?_, fun g => bM_roomFor_50 ?_⟩
      · have g2 : tk m t i ≤ f i := Nat.le_of_not_lt fun hlt => by
          have := pk_sneg (a := f i) (b := m (40 + 10 * t + i)) (by omega) hlt
          rw [Int32.lt_iff_toInt_lt] at this
          rw [Int32.le_iff_toInt_le] at g
          omega
        have ih := ih (fun p hp => by
          by_cases e : p = i
          · rw [e]; exact g2
          · exact ha p (by omega))
        rw [show nI (f i) - nI (m (40 + 10 * t + i)) = nI (f i - tk m t i) from pk_sub g2]
        refine bM_roomFor_52 ⟨?_, pk_le (f i - tk m t i + gv m t i) 15 (fun g3 => bM_roomFor_79 (bM_roomFor_81 ?_)) (fun g3 => bM_roomFor_75 (bM_roomFor_81 ?_)) ?_ rfl (by unfold gv; omega)⟩
        · rw [ix_gv]
          exact vp_in_nI (by omega) (by decide)
        · rw [nI_1]
          have e2 : (al (i + 1) fun p => decide (f p - tk m t p + gv m t p ≤ 15)) = (al i fun p => decide (f p - tk m t p + gv m t p ≤ 15)) := by
            unfold al
            rw [List.range_succ, List.all_append]
            simp [g3]
          rw [e2] at ih
          exact ih
        · rw [nI_1]
          have e2 : (al (i + 1) fun p => decide (f p - tk m t p + gv m t p ≤ 15)) = false := al_no.mpr ⟨i, by omega, decide_eq_false (by omega)⟩
          rw [e2] at ih
          exact ih
        · rw [ix_gv, nI_clamp (by omega), hn _ (by omega), nI_add]
          rfl
      · have g2 : f i < tk m t i := Nat.lt_of_not_le fun hle => g (by
          rw [show nI (f i) - nI (m (40 + 10 * t + i)) = nI (f i - tk m t i) from pk_sub hle]
          exact nI_pos' (by omega))
        have e1 : (al (m 0) fun p => decide (tk m t p ≤ f p)) = false := al_no.mpr ⟨i, hi, decide_eq_false (by omega)⟩
        unfold room at h
        rw [e1] at h
        exact h
theorem roomz {t : Nat} (h : room m f t = 0) : (∀ p, p < m 0 → tk m t p ≤ f p) ∧ ∀ p, p < m 0 → f p - tk m t p + gv m t p ≤ 15 := by
  unfold room at h
  cases e1 : (al (m 0) fun p => decide (tk m t p ≤ f p)) with
  | false => rw [e1] at h; exact absurd (show 1 = 0 from h) (by decide)
  | true =>
    rw [e1] at h
    cases e2 : (al (m 0) fun p => decide (f p - tk m t p + gv m t p ≤ 15)) with
    | false => rw [e2] at h; exact absurd (show 2 = 0 from h) (by decide)
    | true => exact ⟨fun p hp => of_decide_eq_true (al_iff.mp e1 p hp), fun p hp => of_decide_eq_true (al_iff.mp e2 p hp)⟩
theorem room_lt {t : Nat} : room m f t < 3 := by
  unfold room
  cases (al (m 0) fun p => decide (tk m t p ≤ f p)) with
  | false => exact (show 1 < 3 by decide)
  | true => cases (al (m 0) fun p => decide (f p - tk m t p + gv m t p ≤ 15)) with
    | false => exact (show 2 < 3 by decide)
    | true => exact (show 0 < 3 by decide)
theorem mk_aft {t : Nat} (hm : mk m f) (h : room m f t = 0) : mk m (aft m f t) := ⟨fun p => by
    unfold aft
    split
    · exact (roomz h).2 p (by assumption)
    · exact hm.1 p, fun p hp => by
    unfold aft
    rw [if_neg (by omega)]
    exact hm.2 p hp⟩
theorem sm_b {S : Nat} (hm : mk m f) : sm S f 10 ≤ 150 := sm_le hm.1 10
theorem m_bars {t g : Nat} (hn : nN I m) (hw : wb m) (ht : t < 8) (hg : g < 5) (hm : mk m f) (hr : room m f t = 0) (h : K (some (.int (cond (bar m f t g) 1 0))) (I, L, kr q w r1 r2)) : kC sh kp 83 [.ref 71, .int (nI g), .long (lN (mp 16 f 10)), .int (nI t)] (I, L, kr q w r1 r2) K := by
  have hw' := hw
  obtain ⟨w0, w1, w2, w3, w4, w5, w6, w7⟩ := hw'
  have b := w7 g hg
  have hm2 := mk_aft hm hr
  have b1 := sm_b (S := m (201 + g)) hm
  have b2 := sm_b (S := m (201 + g)) hm2
  have e201 : I 72 ((201 : Int32) + nI g).toNatClampNeg = nI (m (201 + g)) := by
    rw [fa_lit 201, nI_add, nI_clamp (by omega)]
    exact hn _ (by omega)
  have e206 : I 72 ((206 : Int32) + nI g).toNatClampNeg = nI (m (206 + g)) := by
    rw [fa_lit 206, nI_add, nI_clamp (by omega)]
    exact hn _ (by omega)
  have v201 : vp_in ((201 : Int32) + nI g) 212 := by
    rw [fa_lit 201, nI_add]
    exact vp_in_nI (by omega) (by decide)
  have v206 : vp_in ((206 : Int32) + nI g) 212 := by
    rw [fa_lit 206, nI_add]
    exact vp_in_nI (by omega) (by decide)
  refine ⟨rfl, bM_bars_0 ⟨v201, ?_⟩⟩
  rw [e201]
  refine m_together hn w0 (by omega) hm (bM_bars_15 (m_behind hn hw ht hm (roomz hr).1 (bM_bars_25 ⟨v201, rfl, ?_⟩)))
  rw [e201]
  refine m_together hn w0 (by omega) hm2 (bM_bars_38 ⟨v206, ?_⟩)
  rw [e206]
  refine pk_le (m (206 + g)) (sm (m (201 + g)) (aft m f t) 10) (fun g1 => bM_bars_66 (bM_bars_67 ⟨Or.inl rfl, ?_⟩)) (fun g1 => bM_bars_55 (pk_le (sm (m (201 + g)) f 10) (sm (m (201 + g)) (aft m f t) 10) (fun g2 => bM_bars_66 (bM_bars_67 ⟨Or.inl rfl, ?_⟩)) (fun g2 => bM_bars_62 (bM_bars_67 ⟨Or.inr rfl, ?_⟩))))
  · have e : bar m f t g = false := by
      unfold bar
      rw [decide_eq_false (by omega)]
      rfl
    rw [e] at h
    exact h
  · have e : bar m f t g = false := by
      unfold bar
      rw [decide_eq_false (p := sm (m (201 + g)) (aft m f t) 10 < sm (m (201 + g)) f 10) (by omega), Bool.and_false]
    rw [e] at h
    exact h
  · have e : bar m f t g = true := by
      unfold bar
      rw [decide_eq_true g1, decide_eq_true g2]
      rfl
    rw [e] at h
    exact h
theorem m_why {t b : Nat} (hn : nN I m) (hw : wb m) (ht : t < 8) (hb : b < 6) (hm : mk m f) (h : K (some (.int (nI (why m f t b)))) (I, L, kr q w r1 r2)) : kC sh kp 84 [.ref 71, .long (lN (mp 16 f 10)), .int (nI t), .int (bI b)] (I, L, kr q w r1 r2) K := by
  have hw' := hw
  obtain ⟨w0, w1, w2, w3, w4, w5, w6, w7⟩ := hw'
  have e200 : I 72 (200 : Int32).toNatClampNeg = nI (m 200) := by
    rw [cl200]
    exact hn _ (by decide)
  refine ⟨rfl, bM_why_0 (m_roomFor hn hw ht hm (bM_why_6 ?_))⟩
  have hrl := room_lt (m := m) (f := f) (t := t)
  by_cases hr : room m f t = 0
  · rw [hr]
    have key := up0 (Pr := fun i => kW sh kp 84 11 [some (.ref 71), some (.long (lN (mp 16 f 10))), none, some (.int (nI t)), some (.int (bI b)), some (.int (nI (cond (al i fun g => decide (g = b) || ! bar m f t g) 0 3))), some (.int (nI i))] [] (I, L, kr q w r1 r2) K) (e := m 200) ?_ fun i hi ih => ?_
    · exact key
    · refine bM_why_11 ⟨pk_in 200 212 (by decide), pk_le (m 200) (m 200) (fun _ => bM_why_60 ?_) (fun g => absurd g (by omega)) e200⟩
      unfold why at h
      rw [hr] at h
      exact h
    · refine bM_why_11 ⟨pk_in 200 212 (by decide), pk_le (m 200) i (fun g => absurd g (by omega)) (fun _ => bM_why_24 ?_) e200⟩
      cases e : (al i fun g => decide (g = b) || ! bar m f t g) with
      | false =>
        refine ⟨fun _ => bM_why_60 ?_, fun g => absurd g (by decide)⟩
        obtain ⟨p, hp, hq⟩ := al_no.mp e
        have e2 : (al (m 200) fun g => decide (g = b) || ! bar m f t g) = false := al_no.mpr ⟨p, by omega, hq⟩
        unfold why at h
        rw [hr, e2] at h
        exact h
      | true =>
        refine ⟨fun g => absurd rfl g, fun _ => bM_why_29 ⟨fun g => bM_why_51 (bM_why_52 ?_), fun g => bM_why_36 (m_bars hn hw ht (by omega) hm hr ?_)⟩⟩
        · have g := (bI_eq i (by omega) b hb).mp g
          rw [nI_1]
          have e2 : (al (i + 1) fun g => decide (g = b) || ! bar m f t g) = true := by
            unfold al at e ⊢
            rw [List.range_succ, List.all_append, e]
            simp [g]
          rw [e2] at ih
          exact ih
        · have g : ¬ i = b := fun h => g ((bI_eq i (by omega) b hb).mpr h)
          cases e3 : bar m f t i with
          | false =>
            refine bM_why_44 ⟨fun _ => bM_why_51 (bM_why_52 ?_), fun g => absurd rfl g⟩
            rw [nI_1]
            have e2 : (al (i + 1) fun g => decide (g = b) || ! bar m f t g) = true := by
              unfold al at e ⊢
              rw [List.range_succ, List.all_append, e]
              simp [e3]
            rw [e2] at ih
            exact ih
          | true =>
            refine bM_why_44 ⟨fun g => absurd g (by decide), fun _ => bM_why_47 (bM_why_52 ?_)⟩
            rw [nI_1]
            have e2 : (al (i + 1) fun g => decide (g = b) || ! bar m f t g) = false := al_no.mpr ⟨i, by omega, by simp [e3, g]⟩
            rw [e2] at ih
            exact ih
  · have e1 : Nat.beq (room m f t) 0 = false := by
      cases e : Nat.beq (room m f t) 0 with
      | false => rfl
      | true => exact absurd (Nat.eq_of_beq_eq_true e) hr
    unfold why at h
    rw [e1] at h
    have hx : kW sh kp 84 60 [none, none, none, none, none, some (.int (nI (room m f t))), none] [] (I, L, kr q w r1 r2) K := bM_why_60 h
    by_cases hz : m 200 = 0
    · exact bM_why_11 ⟨pk_in 200 212 (by decide), pk_le (m 200) 0 (fun _ => hx) (fun g => absurd g (by omega)) e200⟩
    · exact bM_why_11 ⟨pk_in 200 212 (by decide), pk_le (m 200) 0 (fun g => absurd g (by omega)) (fun _ => bM_why_24 ⟨fun _ => hx, fun g => absurd g (nI_ne0 (by omega) (by omega))⟩) e200⟩
end MODEL
