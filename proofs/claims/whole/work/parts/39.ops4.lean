/-! CALLS: loses, returns, restarts, goes, runs -/
/-- another present marking -/
def nwi (m f : Nat → Nat) (i k : Nat) : Nat := if 22 ≤ k ∧ k < 22 + i then f (k - 22) else m k
def nwp (m f : Nat → Nat) : Nat → Nat := nwi m f (m 0)
theorem nwi_o {m f : Nat → Nat} {i k : Nat} (h : k < 22 ∨ 22 + i ≤ k) : nwi m f i k = m k := if_neg (by omega)
theorem nwi_i {m f : Nat → Nat} {i p : Nat} (h : p < i) : nwi m f i (22 + p) = f p := by
  unfold nwi
  rw [if_pos (by omega), show 22 + p - 22 = p by omega]
theorem nwi_0 {m f : Nat → Nat} : nwi m f 0 = m := funext fun k => nwi_o (by omega)
theorem nwi_s {m f : Nat → Nat} {i : Nat} : ups (nwi m f i) (22 + i) (f i) = nwi m f (i + 1) := funext fun k => by
  by_cases e : k = 22 + i
  · rw [e, ups_s, nwi_i (by omega)]
  · rw [ups_o e]
    unfold nwi
    by_cases g : 22 ≤ k ∧ k < 22 + i
    · rw [if_pos g, if_pos (by omega)]
    · rw [if_neg g, if_neg (by omega)]
theorem nwp_o {m f : Nat → Nat} {k : Nat} (hw : m 0 ≤ 10) (h : k < 22 ∨ 32 ≤ k) : nwp m f k = m k := nwi_o (by omega)
theorem nwp_mz {m f : Nat → Nat} (hw : m 0 ≤ 10) (hf : mk m f) : mz (nwp m f) 22 = f := funext fun p => by
  unfold mz
  rw [nwp_o hw (by omega)]
  by_cases g : p < m 0
  · rw [if_pos g]
    exact nwi_i g
  · rw [if_neg g, hf.2 p (by omega)]
theorem nwp_mo {m f : Nat → Nat} {c : Nat} (hw : m 0 ≤ 10) (h : c ≤ 12 ∨ 32 ≤ c) : mz (nwp m f) c = mz m c := funext fun p => by
  unfold mz
  rw [nwp_o hw (by omega)]
  by_cases g : p < m 0
  · rw [if_pos g, if_pos g]
    exact nwp_o hw (by omega)
  · rw [if_neg g, if_neg g]
theorem nwp_nEq {m f : Nat → Nat} (hw : m 0 ≤ 10) : nEq m (nwp m f) := ⟨nwp_o hw (by omega), nwp_o hw (by omega), fun k h1 h2 => nwp_o hw (by omega)⟩
theorem wf_nwp {m f : Nat → Nat} (h : wf m) (hf : mk m f) : wf (nwp m f) := by
  obtain ⟨⟨w0, w1, w2, w3, w4, w5, w6, w7⟩, h2, h3⟩ := h
  have e : ∀ k, k < 22 ∨ 32 ≤ k → nwp m f k = m k := fun k hk => nwp_o w0 hk
  refine ⟨⟨by rw [e _ (by omega)]; exact w0, by rw [e _ (by omega)]; exact w1, by rw [e _ (by omega)]; exact w2, by rw [e _ (by omega)]; exact w3, fun p hp => ⟨by rw [e _ (by omega)]; exact (w4 p hp).1, by rw [e _ (by omega)]; exact (w4 p hp).2.1, ?_⟩, fun t p ht hp => ⟨by rw [e _ (by omega)]; exact (w5 t p ht hp).1, by rw [e _ (by omega)]; exact (w5 t p ht hp).2⟩, fun t ht => by rw [e _ (by omega)]; exact w6 t ht, fun g hg => ⟨by rw [e _ (by omega)]; exact (w7 g hg).1, by rw [e _ (by omega)]; exact (w7 g hg).2⟩⟩, fun p hp => ?_, fun t p a b c => ?_⟩
  · by_cases g : p < m 0
    · rw [show nwp m f (22 + p) = f p from nwi_i g]
      exact hf.1 p
    · rw [show nwp m f (22 + p) = m (22 + p) from nwi_o (by omega)]
      exact (w4 p hp).2.2
  · rw [e _ (by omega)] at hp
    rw [e _ (by omega), e _ (by omega)]
    exact h2 p hp
  · rw [e _ (by omega)] at a b
    rw [e _ (by omega), e _ (by omega)]
    exact h3 t p a b c
theorem std_why {m : Nat → Nat} {t : Nat} (h : std m t = 0) : why m (mz m 22) t 5 = 0 := by
  unfold std at h
  split at h
  · rename_i g
    exact g.1
  · exact h
/-- behind a step -/
def gon (m : Nat → Nat) (t : Nat) : Nat → Nat := nwp m (aft m (mz m 22) t)
theorem gon_mk {m : Nat → Nat} {t : Nat} (hw : wb m) (h : std m t = 0) : mk m (aft m (mz m 22) t) := mk_aft (nw_mk hw) (why_room (std_why h))
theorem wf_gon {m : Nat → Nat} {t : Nat} (h : wf m) (hs : std m t = 0) : wf (gon m t) := wf_nwp h (gon_mk h.1 hs)
/-- which step is chosen: 0 none, else one more than its number -/
def mch (m : Nat → Nat) (y : Nat) : Nat → Nat
  | 0 => 0
  | t + 1 => if std m t = 0 ∧ (mch m y t = 0 ∨ y = 2 ∨ (y = 1 ∧ m (32 + t) < m (32 + (mch m y t - 1)))) then t + 1 else mch m y t
theorem mch_le {m : Nat → Nat} {y : Nat} : ∀ n, mch m y n ≤ n
  | 0 => Nat.le_refl _
  | t + 1 => by
    have := mch_le (m := m) (y := y) t
    unfold mch
    split <;> omega
theorem mch_std {m : Nat → Nat} {y : Nat} : ∀ n, mch m y n ≠ 0 → std m (mch m y n - 1) = 0
  | 0, h => absurd rfl h
  | t + 1, h => by
    unfold mch at h ⊢
    by_cases g : std m t = 0 ∧ (mch m y t = 0 ∨ y = 2 ∨ (y = 1 ∧ m (32 + t) < m (32 + (mch m y t - 1))))
    · rw [if_pos g]
      exact g.1
    · rw [if_neg g] at h ⊢
      exact mch_std t h
/-- from the last one down -/
def mcd (m : Nat → Nat) (n : Nat) : Nat → Nat
  | 0 => 0
  | i + 1 => if mcd m n i = 0 ∧ std m (n - 1 - i) = 0 then n - 1 - i + 1 else mcd m n i
theorem mcd_eq {m : Nat → Nat} {n : Nat} : ∀ i, i ≤ n → (if mcd m n i = 0 then mch m 2 (n - i) else mcd m n i) = mch m 2 n
  | 0, _ => rfl
  | i + 1, h => by
    have ih := mcd_eq (m := m) (n := n) i (by omega)
    have e1 : mch m 2 (n - i) = if std m (n - (i + 1)) = 0 ∧ (mch m 2 (n - (i + 1)) = 0 ∨ 2 = 2 ∨ (2 = 1 ∧ m (32 + (n - (i + 1))) < m (32 + (mch m 2 (n - (i + 1)) - 1)))) then n - (i + 1) + 1 else mch m 2 (n - (i + 1)) := by
      rw [show n - i = (n - (i + 1)) + 1 by omega]
      rfl
    have e2 : mcd m n (i + 1) = if mcd m n i = 0 ∧ std m (n - (i + 1)) = 0 then n - (i + 1) + 1 else mcd m n i := by
      rw [show n - (i + 1) = n - 1 - i by omega]
      rfl
    by_cases g : mcd m n i = 0
    · rw [if_pos g, e1] at ih
      by_cases z : std m (n - (i + 1)) = 0
      · rw [if_pos ⟨z, Or.inr (Or.inl rfl)⟩] at ih
        rw [if_pos ⟨g, z⟩] at e2
        rw [e2, if_neg (by omega)]
        exact ih
      · rw [if_neg (fun y => z y.1)] at ih
        rw [if_neg (fun y => z y.2)] at e2
        rw [e2, if_pos g]
        exact ih
    · rw [if_neg g] at ih
      rw [if_neg (fun y => g y.1)] at e2
      rw [e2, if_neg g]
      exact ih
theorem mcd_n {m : Nat → Nat} {n : Nat} : mcd m n n = mch m 2 n := by
  have h := mcd_eq (m := m) (n := n) n (Nat.le_refl _)
  rw [Nat.sub_self] at h
  split at h
  · rename_i g
    rw [g]
    exact h
  · exact h
theorem mcd_le {m : Nat → Nat} {n : Nat} : ∀ i, i ≤ n → mcd m n i ≤ n
  | 0, _ => Nat.zero_le _
  | i + 1, h => by
    have := mcd_le (m := m) (n := n) i (by omega)
    unfold mcd
    split <;> omega
/-- so many steps gone, and the row behind them -/
def rnn (y : Nat) : Nat → (Nat → Nat) → Nat × (Nat → Nat)
  | 0, m => (0, m)
  | n + 1, m => if mch m y (m 1) = 0 then (0, m) else ((rnn y n (gon m (mch m y (m 1) - 1))).1 + 1, (rnn y n (gon m (mch m y (m 1) - 1))).2)
theorem rnn_wf {y : Nat} : ∀ n (m : Nat → Nat), wf m → wf (rnn y n m).2
  | 0, m, h => h
  | n + 1, m, h => by
    unfold rnn
    by_cases g : mch m y (m 1) = 0
    · rw [if_pos g]
      exact h
    · rw [if_neg g]
      exact rnn_wf n _ (wf_gon h (mch_std _ g))
theorem rnn_le {y : Nat} : ∀ n (m : Nat → Nat), (rnn y n m).1 ≤ n
  | 0, m => Nat.le_refl _
  | n + 1, m => by
    unfold rnn
    by_cases g : mch m y (m 1) = 0
    · rw [if_pos g]
      exact Nat.zero_le _
    · rw [if_neg g]
      exact Nat.succ_le_succ (rnn_le n _)
def los (m : Nat → Nat) (p a b : Nat) : Nat → Nat := ups (ups m (22 + p) a) (12 + p) b
def o_loses (x : Int32) (s : ast) : Int32 × ast := cond (okr x 0 ((s.1 0 : Int) - 1)) (if s.1 (22 + tn x) = 0 ∨ s.1 (2 + tn x) ≤ s.1 (12 + tn x) then a_no s else (nI (s.1 (22 + tn x) - 1), a_ch s (los s.1 (tn x) (s.1 (22 + tn x) - 1) (s.1 (12 + tn x) + 1)))) (a_bad s)
def o_returns (x : Int32) (s : ast) : Int32 × ast := cond (okr x 0 ((s.1 0 : Int) - 1)) (if s.1 (12 + tn x) = 0 ∨ 15 ≤ s.1 (22 + tn x) then a_no s else (nI (s.1 (12 + tn x) - 1), a_ch s (los s.1 (tn x) (s.1 (22 + tn x) + 1) (s.1 (12 + tn x) - 1)))) (a_bad s)
def o_restarts (s : ast) : Int32 × ast := (nI (sm (2 ^ s.1 0 - 1) (hm s.1) 10), a_ch s (nwp s.1 (hm s.1)))
def o_goes (x : Int32) (s : ast) : Int32 × ast := cond (okr x 0 ((s.1 1 : Int) - 1)) (if std s.1 (tn x) = 0 then (nI (cn (fun u => decide (why (gon s.1 (tn x)) (mz (gon s.1 (tn x)) 22) u 5 = 0)) (s.1 1)), a_ch s (gon s.1 (tn x))) else a_no s) (a_bad s)
def o_runs (x y : Int32) (s : ast) : Int32 × ast := cond (okr x 1 8 && okr y 0 2) (nI (rnn (tn y) (tn x) s.1).1, a_ch s (rnn (tn y) (tn x) s.1).2) (a_bad s)
theorem wf_los {m : Nat → Nat} {p a b : Nat} (h : wf m) (hp : p < 10) (ha : a ≤ 15) (hb : b ≤ m (2 + p)) : wf (los m p a b) := by
  have w0 := h.1.1
  have w1 := h.1.2.1
  have b15 := (h.1.2.2.2.2.1 p hp).1
  refine ⟨wb_ups (wb_ups h.1 (by omega) (by omega) (by omega) (by omega) (by omega) (by omega) (by omega) (by omega) (by omega)) (by omega) (by omega) (by omega) (by omega) (by omega) (by omega) (by omega) (by omega) (by omega), fun j hj => ?_, fun t j h1 h2 h3 => ?_⟩
  · unfold los at hj ⊢
    rw [ups_o (by omega), ups_o (by omega)] at hj
    rw [ups_o (j := 2 + j) (by omega), ups_o (j := 2 + j) (by omega)]
    by_cases e : j = p
    · rw [e, ups_s]
      exact hb
    · rw [ups_o (by omega), ups_o (by omega)]
      exact h.2.1 j hj
  · unfold los at h1 h2 ⊢
    rw [ups_o (by omega), ups_o (by omega)] at h1 h2
    rw [ups_o (by omega), ups_o (by omega), ups_o (by omega), ups_o (by omega)]
    exact h.2.2 t j h1 h2 h3
theorem w_loses {x : Int32} {s : ast} (h : sw s) : sw (o_loses x s).2 := by
  unfold o_loses
  have w0 := h.1.1.1
  cases e : okr x 0 ((s.1 0 : Int) - 1) with
  | false => exact h
  | true =>
    have b := okr_n e (by decide)
    have b2 := h.1.1.2.2.2.2.1 (tn x) (by omega)
    show sw (ite _ _ _ : Int32 × ast).2
    split
    · exact h
    · exact sw_ch h (wf_los h.1 (by omega) (by omega) (by omega))
theorem w_returns {x : Int32} {s : ast} (h : sw s) : sw (o_returns x s).2 := by
  unfold o_returns
  have w0 := h.1.1.1
  cases e : okr x 0 ((s.1 0 : Int) - 1) with
  | false => exact h
  | true =>
    have b := okr_n e (by decide)
    have b2 := h.1.2.1 (tn x) (by omega)
    show sw (ite _ _ _ : Int32 × ast).2
    split
    · exact h
    · exact sw_ch h (wf_los h.1 (by omega) (by omega) (by omega))
theorem w_restarts {s : ast} (h : sw s) : sw (o_restarts s).2 := sw_ch h (wf_nwp h.1 (hm_mk h.1.1))
theorem w_goes {x : Int32} {s : ast} (h : sw s) : sw (o_goes x s).2 := by
  unfold o_goes
  cases e : okr x 0 ((s.1 1 : Int) - 1) with
  | false => exact h
  | true =>
    show sw (ite _ _ _ : Int32 × ast).2
    split
    · rename_i g
      exact sw_ch h (wf_gon h.1 g)
    · exact h
theorem w_runs {x y : Int32} {s : ast} (h : sw s) : sw (o_runs x y s).2 := by
  unfold o_runs
  cases e : (okr x 1 8 && okr y 0 2) with
  | false => exact h
  | true => exact sw_ch h (rnn_wf _ _ h.1)
theorem mp_dec {b n p : Nat} {f : Nat → Nat} (hp : p < n) (h : 1 ≤ f p) : mp b f n = mp b (fun j => if j = p then f p - 1 else f j) n + b ^ p := by
  have h1 := mp_upd (b := b) (f := f) (n := n) (p := p) (v := f p - 1) hp
  have h2 : f p * b ^ p = (f p - 1) * b ^ p + b ^ p := by
    rw [← Nat.succ_mul]
    congr 1
    omega
  omega
theorem mp_inc {b n p : Nat} {f : Nat → Nat} (hp : p < n) : mp b f n + b ^ p = mp b (fun j => if j = p then f p + 1 else f j) n := by
  have h1 := mp_upd (b := b) (f := f) (n := n) (p := p) (v := f p + 1) hp
  have h2 : (f p + 1) * b ^ p = f p * b ^ p + b ^ p := Nat.succ_mul _ _
  omega
section OPS4
variable {I : Nat → Nat → Int32} {L : Nat → Nat → Int64} {q r1 r2 : Nat → Nat} {w : Bool} {s : ast} {K : km_K} {m f : Nat → Nat}
theorem cR_nwp (hR : cR I L 1 m) (hw : m 0 ≤ 10) (hw1 : m 1 ≤ 8) (hw2 : m 200 ≤ 5) (hf : mk m f) : cR I (km_up L 1 6 (lN (mp 32 f 10))) 1 (nwp m f) := by
  obtain ⟨a1, a2, a3, a4, a5, a6, a7, a8, a9⟩ := hR
  refine ⟨?_, ?_, ?_, ?_, ?_, ?_, ?_, fun j hj => ⟨?_, ?_, ?_⟩, fun g hg => ?_⟩
  · rw [nwp_o hw (by omega)]; exact a1
  · rw [nwp_o hw (by omega)]; exact a2
  · rw [nwp_o hw (by omega)]; exact a3
  · rw [nwp_o hw (by omega)]; exact a4
  · rw [nwp_mo hw (by omega), up_k (by decide)]; exact a5
  · rw [nwp_mo hw (by omega), up_k (by decide)]; exact a6
  · rw [nwp_mz hw hf, up_s]
  · rw [nwp_o hw (by omega)] at hj
    rw [nwp_mo hw (by omega), up_a (by decide)]; exact (a8 j hj).1
  · rw [nwp_o hw (by omega)] at hj
    rw [nwp_mo hw (by omega), up_a (by decide)]; exact (a8 j hj).2.1
  · rw [nwp_o hw (by omega)] at hj
    rw [nwp_o hw (by omega)]; exact (a8 j hj).2.2
  · rw [nwp_o hw (by omega)] at hg
    rw [nwp_o hw (by omega), nwp_o hw (by omega)]
    exact a9 g hg
theorem cR_los {p a b : Nat} (hR : cR I L 1 m) (hw : m 0 ≤ 10) (hw1 : m 1 ≤ 8) (hw2 : m 200 ≤ 5) (hp : p < m 0) : cR I (km_up (km_up L 1 6 (lN (mp 32 (fun j => if j = p then a else mz m 22 j) 10))) 1 5 (lN (mp 32 (fun j => if j = p then b else mz m 12 j) 10))) 1 (los m p a b) := by
  obtain ⟨a1, a2, a3, a4, a5, a6, a7, a8, a9⟩ := hR
  have h0 : (ups m (22 + p) a) 0 = m 0 := ups_o (by omega)
  have eo : ∀ k, k < 12 ∨ 32 ≤ k → los m p a b k = m k := fun k hk => by
    unfold los
    rw [ups_o (by omega), ups_o (by omega)]
  have em : ∀ c, c = 2 ∨ 32 ≤ c → mz (los m p a b) c = mz m c := fun c hk => by
    unfold los
    rw [mz_ups (by rw [h0]; exact hw) (by omega) (by omega), mz_ups hw (by omega) (by omega)]
  refine ⟨?_, ?_, ?_, ?_, ?_, ?_, ?_, fun j hj => ⟨?_, ?_, ?_⟩, fun g hg => ?_⟩
  · rw [eo _ (by omega)]; exact a1
  · rw [eo _ (by omega)]; exact a2
  · rw [eo _ (by omega)]; exact a3
  · rw [eo _ (by omega)]; exact a4
  · rw [em _ (by omega), up_k (by decide), up_k (by decide)]; exact a5
  · rw [up_s]
    unfold los
    rw [mz_upd (by decide) (by rw [h0]; exact hp), mz_ups hw (by omega) (by omega)]
  · rw [up_k (by decide), up_s]
    unfold los
    rw [mz_ups (c := 22) (k := 12 + p) (by rw [h0]; exact hw) (by omega) (by omega), mz_upd (by decide) hp]
  · rw [eo _ (by omega)] at hj
    rw [em _ (by omega), up_a (by decide), up_a (by decide)]; exact (a8 j hj).1
  · rw [eo _ (by omega)] at hj
    rw [em _ (by omega), up_a (by decide), up_a (by decide)]; exact (a8 j hj).2.1
  · rw [eo _ (by omega)] at hj
    rw [eo _ (by omega)]; exact (a8 j hj).2.2
  · rw [eo _ (by omega)] at hg
    rw [eo _ (by omega), eo _ (by omega)]
    exact a9 g hg
theorem los_nEq {p a b : Nat} (hp : p < 10) : nEq m (los m p a b) := by
  have eo : ∀ k, k < 12 ∨ 32 ≤ k → los m p a b k = m k := fun k hk => by
    unfold los
    rw [ups_o (by omega), ups_o (by omega)]
  exact ⟨eo _ (by omega), eo _ (by omega), fun k h1 h2 => eo _ (by omega)⟩
theorem mz32 {c : Nat} (hw : wb m) (hc : c = 2 ∨ c = 12 ∨ c = 22) : ∀ i, i < 10 → mz m c i < 32 := fun i hi => by
  have h4 := hw.2.2.2.2.1
  have : mz m c i ≤ 15 := by
    rcases hc with e | e | e
    · rw [e]; exact mz_le hw.1 (fun p hp => (h4 p hp).1) i
    · rw [e]; exact mz_le hw.1 (fun p hp => (h4 p hp).2.1) i
    · rw [e]; exact mz_le hw.1 (fun p hp => (h4 p hp).2.2) i
  omega
theorem x_loses {x : Int32} (hs : sw s) (hc : cI I L q w r1 r2 s) : kC sh kp 15 [.ref 0, .int x] (I, L, kr q w r1 r2) (cT (o_loses x s) I L) := by
  have w0 := hs.1.1.1
  have w1 := hs.1.1.2.1
  have w2 := hs.1.1.2.2.1
  refine ⟨rfl, bX_loses_0 (x_isPlace w0 hc.1 (bX_loses_5 (cb1 (fun e => bX_loses_15 ?_) (fun e => bX_loses_8 (x_bad hs hc fun I' g1 g2 => bX_loses_14 ?_)))))⟩
  · unfold o_loses
    rw [e]
    obtain ⟨p, rfl, hpt, b1, b2⟩ := okr_e e (by decide)
    rw [hpt]
    have hp : p < s.1 0 := by omega
    have b4 := hs.1.1.2.2.2.2.1 p (by omega)
    have ez : ∀ c, mz s.1 c p = s.1 (c + p) := fun c => if_pos hp
    have hno : (s.1 (22 + p) = 0 ∨ s.1 (2 + p) ≤ s.1 (12 + p)) → kW sh kp 15 54 [some (.ref 0), none] [] (I, L, kr q w r1 r2) (cT (cond true (if s.1 (22 + p) = 0 ∨ s.1 (2 + p) ≤ s.1 (12 + p) then a_no s else (nI (s.1 (22 + p) - 1), a_ch s (los s.1 p (s.1 (22 + p) - 1) (s.1 (12 + p) + 1)))) (a_bad s)) I L) := fun g => bX_loses_54 (x_no hs hc fun I' g1 g2 => bX_loses_60 (by
      show cT (ite _ _ _) I L _ _
      rw [if_pos g]
      exact cP_mk g1 g2))
    have l4 := hc.1.2.2.2.2.1
    have l5 := hc.1.2.2.2.2.2.1
    have l6 := hc.1.2.2.2.2.2.2.1
    rw [l6]
    refine s_tok (by omega) (mz32 hs.1.1 (by omega)) (bX_loses_26 ?_)
    rw [ez]
    refine pk_eq (s.1 (22 + p)) 0 (fun g => hno (Or.inl g)) (fun g => bX_loses_29 ?_)
    rw [l5]
    refine s_tok (by omega) (mz32 hs.1.1 (by omega)) (bX_loses_40 ?_)
    rw [l4]
    refine s_tok (by omega) (mz32 hs.1.1 (by omega)) (bX_loses_51 ?_)
    rw [ez, ez]
    refine pk_lt (s.1 (12 + p)) (s.1 (2 + p)) (fun g2 => bX_loses_61 ?_) (fun g2 => hno (Or.inr g2))
    show kC sh kp 44 [.ref 0] _ (fun v M1 => kW sh kp 15 65 _ _ M1 (cT (ite _ _ _) I L))
    rw [if_neg (by omega)]
    refine x_save hs hc fun I1 L1 q1 j1 j2 j3 => bX_loses_65 (s_one (by omega) (bX_loses_77 (s_one (by omega) (bX_loses_93 ?_))))
    have hR : cR I1 L1 1 s.1 := j1.1
    have e6 : L1 1 6 - lN (32 ^ p) = lN (mp 32 (fun j => if j = p then s.1 (22 + p) - 1 else mz s.1 22 j) 10) := by
      rw [hR.2.2.2.2.2.2.1, mp_dec (b := 32) (f := mz s.1 22) (n := 10) (p := p) (by omega) (by rw [ez]; omega), lN_sub (Nat.le_add_left _ _), Nat.add_sub_cancel, ez]
    have e5 : L1 1 5 + lN (32 ^ p) = lN (mp 32 (fun j => if j = p then s.1 (12 + p) + 1 else mz s.1 12 j) 10) := by
      rw [hR.2.2.2.2.2.1, lN_add, mp_inc (by omega), ez]
    rw [up_k (show (5 : Nat) ≠ 6 by decide), e6, e5, up_k (show (6 : Nat) ≠ 5 by decide), up_s]
    refine s_tok (by omega) (fun j hj => ?_) (bX_loses_108 ?_)
    · have := mz32 hs.1.1 (c := 22) (by omega) j hj
      split <;> omega
    · rw [if_pos rfl]
      exact cP_mk (cI_sm (sw_sv hs) j1 j2 (fun _ _ _ => rfl) (fun a k z => by rw [up_a (by omega), up_a (by omega)]) (cR_los hR w0 w1 w2 hp) (los_nEq (by omega))) (fM_trans j3 (fM_s (fun _ _ _ => rfl) (fun a k z => by rw [up_a (by omega), up_a (by omega)])))
  · unfold o_loses
    rw [e]
    exact cP_mk g1 g2
theorem x_returns {x : Int32} (hs : sw s) (hc : cI I L q w r1 r2 s) : kC sh kp 16 [.ref 0, .int x] (I, L, kr q w r1 r2) (cT (o_returns x s) I L) := by
  have w0 := hs.1.1.1
  have w1 := hs.1.1.2.1
  have w2 := hs.1.1.2.2.1
  refine ⟨rfl, bX_returns_0 (x_isPlace w0 hc.1 (bX_returns_5 (cb1 (fun e => bX_returns_15 ?_) (fun e => bX_returns_8 (x_bad hs hc fun I' g1 g2 => bX_returns_14 ?_)))))⟩
  · unfold o_returns
    rw [e]
    obtain ⟨p, rfl, hpt, b1, b2⟩ := okr_e e (by decide)
    rw [hpt]
    have hp : p < s.1 0 := by omega
    have b4 := hs.1.1.2.2.2.2.1 p (by omega)
    have ez : ∀ c, mz s.1 c p = s.1 (c + p) := fun c => if_pos hp
    have hno : (s.1 (12 + p) = 0 ∨ 15 ≤ s.1 (22 + p)) → kW sh kp 16 45 [some (.ref 0), none] [] (I, L, kr q w r1 r2) (cT (cond true (if s.1 (12 + p) = 0 ∨ 15 ≤ s.1 (22 + p) then a_no s else (nI (s.1 (12 + p) - 1), a_ch s (los s.1 p (s.1 (22 + p) + 1) (s.1 (12 + p) - 1)))) (a_bad s)) I L) := fun g => bX_returns_45 (x_no hs hc fun I' g1 g2 => bX_returns_51 (by
      show cT (ite _ _ _) I L _ _
      rw [if_pos g]
      exact cP_mk g1 g2))
    have l5 := hc.1.2.2.2.2.2.1
    have l6 := hc.1.2.2.2.2.2.2.1
    rw [l5]
    refine s_tok (by omega) (mz32 hs.1.1 (by omega)) (bX_returns_26 ?_)
    rw [ez]
    refine pk_eq (s.1 (12 + p)) 0 (fun g => hno (Or.inl g)) (fun g => bX_returns_29 ?_)
    rw [l6]
    refine s_tok (by omega) (mz32 hs.1.1 (by omega)) (bX_returns_40 ?_)
    rw [ez]
    refine pk_lt (s.1 (22 + p)) 15 (fun g2 => bX_returns_52 ?_) (fun g2 => hno (Or.inr g2))
    show kC sh kp 44 [.ref 0] _ (fun v M1 => kW sh kp 16 56 _ _ M1 (cT (ite _ _ _) I L))
    rw [if_neg (by omega)]
    refine x_save hs hc fun I1 L1 q1 j1 j2 j3 => bX_returns_56 (s_one (by omega) (bX_returns_68 (s_one (by omega) (bX_returns_84 ?_))))
    have hR : cR I1 L1 1 s.1 := j1.1
    have e6 : L1 1 6 + lN (32 ^ p) = lN (mp 32 (fun j => if j = p then s.1 (22 + p) + 1 else mz s.1 22 j) 10) := by
      rw [hR.2.2.2.2.2.2.1, lN_add, mp_inc (by omega), ez]
    have e5 : L1 1 5 - lN (32 ^ p) = lN (mp 32 (fun j => if j = p then s.1 (12 + p) - 1 else mz s.1 12 j) 10) := by
      rw [hR.2.2.2.2.2.1, mp_dec (b := 32) (f := mz s.1 12) (n := 10) (p := p) (by omega) (by rw [ez]; omega), lN_sub (Nat.le_add_left _ _), Nat.add_sub_cancel, ez]
    rw [up_k (show (5 : Nat) ≠ 6 by decide), e6, e5, up_s]
    refine s_tok (by omega) (fun j hj => ?_) (bX_returns_99 ?_)
    · have := mz32 hs.1.1 (c := 12) (by omega) j hj
      split <;> omega
    · rw [if_pos rfl]
      exact cP_mk (cI_sm (sw_sv hs) j1 j2 (fun _ _ _ => rfl) (fun a k z => by rw [up_a (by omega), up_a (by omega)]) (cR_los hR w0 w1 w2 hp) (los_nEq (by omega))) (fM_trans j3 (fM_s (fun _ _ _ => rfl) (fun a k z => by rw [up_a (by omega), up_a (by omega)])))
  · unfold o_returns
    rw [e]
    exact cP_mk g1 g2
theorem ix_p {c p : Nat} (h : c + p < 212) : (nI c + nI p).toNatClampNeg = c + p ∧ vp_in (nI c + nI p) 212 := by
  rw [nI_add]
  exact ⟨nI_clamp (by omega), vp_in_nI h (by decide)⟩
theorem y_loses {x : Int32} (hs : sw s) (hc : mI I s) : kC sh kp 99 [.ref 71, .int x] (I, L, kr q w r1 r2) (mT (o_loses x s) I L (kr q w r1 r2)) := by
  have w0 := hs.1.1.1
  refine ⟨rfl, bM_loses_0 (mm_isPlace w0 hc.1 (bM_loses_5 (cb1 (fun e => bM_loses_13 ?_) (fun e => bM_loses_8 (mm_bad hc fun I' g1 g2 => bM_loses_12 ?_)))))⟩
  · unfold o_loses
    rw [e]
    obtain ⟨p, rfl, hpt, b1, b2⟩ := okr_e e (by decide)
    rw [hpt]
    have hp : p < s.1 0 := by omega
    have b4 := hs.1.1.2.2.2.2.1 p (by omega)
    have b5 := hs.1.2.1 p hp
    have i22 := ix_p (c := 22) (p := p) (by omega)
    have i12 := ix_p (c := 12) (p := p) (by omega)
    have i2 := ix_p (c := 2) (p := p) (by omega)
    have hno : (s.1 (22 + p) = 0 ∨ s.1 (2 + p) ≤ s.1 (12 + p)) → kW sh kp 99 45 [some (.ref 71), none] [] (I, L, kr q w r1 r2) (mT (cond true (if s.1 (22 + p) = 0 ∨ s.1 (2 + p) ≤ s.1 (12 + p) then a_no s else (nI (s.1 (22 + p) - 1), a_ch s (los s.1 p (s.1 (22 + p) - 1) (s.1 (12 + p) + 1)))) (a_bad s)) I L (kr q w r1 r2)) := fun g => bM_loses_45 (mm_no hc fun I' g1 g2 => bM_loses_49 (by
      show mT (ite _ _ _) I L _ _ _
      rw [if_pos g]
      exact mP_mk g1 g2))
    rw [fa_lit 22, i22.1, hc.1 _ (by omega)]
    refine ⟨i22.2, pk_eq (s.1 (22 + p)) 0 (fun g => hno (Or.inl g)) (fun g => bM_loses_25 ?_)⟩
    rw [fa_lit 12, fa_lit 2, i12.1, i2.1, hc.1 _ (by omega), hc.1 _ (by omega)]
    refine ⟨i12.2, i2.2, (pk_eq (s.1 (12 + p)) (s.1 (2 + p)) (fun g2 => hno (Or.inr (by omega))) (fun g2 => bM_loses_50 ?_)).symm⟩
    show kC sh kp 59 [.ref 71] _ (fun v M1 => kW sh kp 99 54 _ _ M1 (mT (ite _ _ _) I L (kr q w r1 r2)))
    rw [if_neg (by omega)]
    refine mm_save hs hc fun I1 j1 j2 => bM_loses_54 ?_
    have n1 : I1 72 (22 + p) = nI (s.1 (22 + p)) := j1.1 _ (by omega)
    have n2 : I1 72 (12 + p) = nI (s.1 (12 + p)) := j1.1 _ (by omega)
    have ed : nI (s.1 (22 + p)) - 1 = nI (s.1 (22 + p) - 1) := pk_sub (b := 1) (by omega)
    rw [fa_lit 22, fa_lit 12, i22.1, i12.1, n1, ed, up_k (show 12 + p ≠ 22 + p by omega), n2, nI_1, up_k (show 22 + p ≠ 12 + p by omega), up_s]
    exact ⟨i22.2, i22.2, i12.2, i12.2, i22.2, mP_mk (mI_fr j1 (fun a k _ z => by rw [up_a (by omega), up_a (by omega)]) (nN_up (nN_up (m := s.1) j1.1))) (fX_trans j2 ⟨fun a k z => by rw [up_a (by omega), up_a (by omega)], fun _ _ _ => rfl⟩)⟩
  · unfold o_loses
    rw [e]
    exact mP_mk g1 g2
theorem y_returns {x : Int32} (hs : sw s) (hc : mI I s) : kC sh kp 100 [.ref 71, .int x] (I, L, kr q w r1 r2) (mT (o_returns x s) I L (kr q w r1 r2)) := by
  have w0 := hs.1.1.1
  refine ⟨rfl, bM_returns_0 (mm_isPlace w0 hc.1 (bM_returns_5 (cb1 (fun e => bM_returns_13 ?_) (fun e => bM_returns_8 (mm_bad hc fun I' g1 g2 => bM_returns_12 ?_)))))⟩
  · unfold o_returns
    rw [e]
    obtain ⟨p, rfl, hpt, b1, b2⟩ := okr_e e (by decide)
    rw [hpt]
    have hp : p < s.1 0 := by omega
    have b4 := hs.1.1.2.2.2.2.1 p (by omega)
    have i22 := ix_p (c := 22) (p := p) (by omega)
    have i12 := ix_p (c := 12) (p := p) (by omega)
    have hno : (s.1 (12 + p) = 0 ∨ 15 ≤ s.1 (22 + p)) → kW sh kp 100 39 [some (.ref 71), none] [] (I, L, kr q w r1 r2) (mT (cond true (if s.1 (12 + p) = 0 ∨ 15 ≤ s.1 (22 + p) then a_no s else (nI (s.1 (12 + p) - 1), a_ch s (los s.1 p (s.1 (22 + p) + 1) (s.1 (12 + p) - 1)))) (a_bad s)) I L (kr q w r1 r2)) := fun g => bM_returns_39 (mm_no hc fun I' g1 g2 => bM_returns_43 (by
      show mT (ite _ _ _) I L _ _ _
      rw [if_pos g]
      exact mP_mk g1 g2))
    rw [fa_lit 12, i12.1, hc.1 _ (by omega)]
    refine ⟨i12.2, pk_eq (s.1 (12 + p)) 0 (fun g => hno (Or.inl g)) (fun g => bM_returns_25 ?_)⟩
    rw [fa_lit 22, i22.1, hc.1 _ (by omega)]
    refine ⟨i22.2, (pk_eq (s.1 (22 + p)) 15 (fun g2 => hno (Or.inr (by omega))) (fun g2 => bM_returns_44 ?_)).symm⟩
    show kC sh kp 59 [.ref 71] _ (fun v M1 => kW sh kp 100 48 _ _ M1 (mT (ite _ _ _) I L (kr q w r1 r2)))
    rw [if_neg (by omega)]
    refine mm_save hs hc fun I1 j1 j2 => bM_returns_48 ?_
    have n1 : I1 72 (22 + p) = nI (s.1 (22 + p)) := j1.1 _ (by omega)
    have n2 : I1 72 (12 + p) = nI (s.1 (12 + p)) := j1.1 _ (by omega)
    have ed : nI (s.1 (12 + p)) - 1 = nI (s.1 (12 + p) - 1) := pk_sub (b := 1) (by omega)
    rw [fa_lit 22, fa_lit 12, i22.1, i12.1, n1, nI_1, up_k (show 12 + p ≠ 22 + p by omega), n2, ed, up_s]
    exact ⟨i22.2, i22.2, i12.2, i12.2, i12.2, mP_mk (mI_fr j1 (fun a k _ z => by rw [up_a (by omega), up_a (by omega)]) (nN_up (nN_up (m := s.1) j1.1))) (fX_trans j2 ⟨fun a k z => by rw [up_a (by omega), up_a (by omega)], fun _ _ _ => rfl⟩)⟩
  · unfold o_returns
    rw [e]
    exact mP_mk g1 g2
theorem x_restarts (hs : sw s) (hc : cI I L q w r1 r2 s) : kC sh kp 14 [.ref 0] (I, L, kr q w r1 r2) (cT (o_restarts s) I L) := by
  have w0 := hs.1.1.1
  have hmk := hm_mk hs.1.1
  refine ⟨rfl, bX_restarts_0 (x_save hs hc fun I1 L1 q1 j1 j2 j3 => bX_restarts_4 (c_home (m := s.1) j1.1 hs.1.2.1 (bX_restarts_15 ?_)))⟩
  have hR2 := cR_nwp (m := s.1) (f := hm s.1) j1.1 w0 hs.1.1.2.1 hs.1.1.2.2.1 hmk
  refine c_allPlaces hR2 (by rw [nwp_o w0 (by omega)]; exact w0) (bX_restarts_32 ?_)
  rw [up_s, nwp_o w0 (by omega)]
  exact s_sumIn (fun p _ => by have := hmk.1 p; omega) (bX_restarts_35 (cP_mk (cI_sm (sw_sv hs) j1 j2 (fun _ _ _ => rfl) (fun a k z => up_a (by omega)) hR2 (nwp_nEq w0)) (fM_trans j3 (fM_s (fun _ _ _ => rfl) (fun a k z => up_a (by omega))))))
theorem y_restarts (hs : sw s) (hc : mI I s) : kC sh kp 98 [.ref 71] (I, L, kr q w r1 r2) (mT (o_restarts s) I L (kr q w r1 r2)) := by
  have w0 := hs.1.1.1
  have hmk := hm_mk hs.1.1
  have b4 := hs.1.1.2.2.2.2.1
  refine ⟨rfl, bM_restarts_0 (mm_save hs hc fun I1 j1 j2 => bM_restarts_4 ?_)⟩
  have n1 : nN I1 s.1 := j1.1
  refine up0 (Pr := fun i => ∀ I', (∀ a k, a ≠ 72 → I' a k = I1 a k) → nN I' (nwi s.1 (hm s.1) i) → kW sh kp 98 6 [some (.ref 71), some (.int (nI i))] [] (I', L, kr q w r1 r2) (mT (o_restarts s) I L (kr q w r1 r2))) (e := s.1 0) ?_ (fun i hi ih => ?_) I1 (fun _ _ _ => rfl) (by rw [nwi_0]; exact n1)
  · intro I' f1 f2
    have wn := wf_nwp hs.1 hmk
    have eh : ∀ p, hm (nwp s.1 (hm s.1)) p = hm s.1 p := fun p => by
      unfold hm
      rw [nwp_mo w0 (by omega), nwp_mo w0 (by omega)]
    refine bM_restarts_6 ⟨pk_in 0 212 (by decide), pk_le (s.1 0) (s.1 0) (fun _ => bM_restarts_49 (m_tokensHome (f := hm s.1) (m := nwp s.1 (hm s.1)) f2 wn.1.1 wn.2.1 (fun p hp => ?_) ⟨hmk.1, fun p hp => hmk.2 p (by rw [nwp_o w0 (by omega)] at hp; exact hp)⟩ (bM_restarts_57 (m_placesSet (m := nwp s.1 (hm s.1)) f2 wn.1.1 (bM_restarts_61 ⟨rfl, ?_⟩))))) (fun g => absurd g (by omega)) ?_⟩
    · rw [nwp_o w0 (by omega)] at hp
      rw [nwp_o w0 (by omega), nwp_o w0 (by omega)]
      unfold hm mz
      rw [if_pos hp, if_pos hp]
    · rw [nwp_o w0 (by omega)]
      have p2 := p2_le w0
      refine m_together (m := nwp s.1 (hm s.1)) f2 wn.1.1 (by omega) ⟨hmk.1, fun p hp => hmk.2 p (by rw [nwp_o w0 (by omega)] at hp; exact hp)⟩ (bM_restarts_64 (mP_mk (mI_fr j1 (fun a k _ z => f1 a k (by omega)) f2) (fX_trans j2 ⟨fun a k z => f1 a k (by omega), fun _ _ _ => rfl⟩)))
    · rw [cl0, f2 0 (by decide), nwi_o (by omega)]
  · intro I' f1 f2
    have b := b4 i (by omega)
    have b5 := hs.1.2.1 i hi
    have i22 := ix_p (c := 22) (p := i) (by omega)
    have i12 := ix_p (c := 12) (p := i) (by omega)
    have i2 := ix_p (c := 2) (p := i) (by omega)
    refine bM_restarts_6 ⟨pk_in 0 212 (by decide), pk_le (s.1 0) i (fun g => absurd g (by omega)) (fun _ => bM_restarts_16 ?_) (by rw [cl0, f2 0 (by decide), nwi_o (by omega)])⟩
    rw [fa_lit 22, fa_lit 12, fa_lit 2, i22.1, i12.1, i2.1, f2 _ (by omega), f2 _ (by omega), nwi_o (by omega), nwi_o (by omega), pk_sub b5, nI_1]
    refine ⟨i2.2, i12.2, i22.2, ih _ (fun a k z => by rw [up_a z]; exact f1 a k z) ?_⟩
    rw [← nwi_s]
    have e : s.1 (2 + i) - s.1 (12 + i) = hm s.1 i := by
      unfold hm mz
      rw [if_pos hi, if_pos hi]
    rw [e]
    exact nN_up f2
theorem m_lets {t : Nat} (hn : nN I m) (hw : wf m) (ht : t < m 1) (h0 : std m t = 0) (h : ∀ I', (∀ a k, a ≠ 72 → I' a k = I a k) → nN I' (gon m t) → K none (I', L, kr q w r1 r2)) : kC sh kp 94 [.ref 71, .int (nI t)] (I, L, kr q w r1 r2) K := by
  have w0 := hw.1.1
  have w1 := hw.1.2.1
  have hmk := nw_mk hw.1
  have ha := gon_mk hw.1 h0
  refine ⟨rfl, bM_lets_0 (m_tokensFrom (c := 22) (f := mz m 22) hn w0 (by decide) (fun p hp => if_pos hp) hmk (bM_lets_7 ⟨rfl, m_behind hn hw.1 (by omega) hmk (roomz (why_room (std_why h0))).1 (bM_lets_11 ?_)⟩))⟩
  refine up0 (Pr := fun i => ∀ I', (∀ a k, a ≠ 72 → I' a k = I a k) → nN I' (nwi m (aft m (mz m 22) t) i) → kW sh kp 94 15 [some (.ref 71), none, some (.long (lN (mp 16 (aft m (mz m 22) t) 10))), none, some (.int (nI i))] [] (I', L, kr q w r1 r2) K) (e := m 0) ?_ (fun i hi ih => ?_) I (fun _ _ _ => rfl) (by rw [nwi_0]; exact hn)
  · intro I' f1 f2
    exact bM_lets_15 ⟨pk_in 0 212 (by decide), pk_le (m 0) (m 0) (fun _ => bM_lets_48 (h I' f1 f2)) (fun g => absurd g (by omega)) (by rw [cl0, f2 0 (by decide), nwi_o (by omega)])⟩
  · intro I' f1 f2
    refine bM_lets_15 ⟨pk_in 0 212 (by decide), pk_le (m 0) i (fun g => absurd g (by omega)) (fun _ => bM_lets_26 (m_at (by omega) ha.1 (bM_lets_41 ⟨rfl, ?_, ?_⟩))) (by rw [cl0, f2 0 (by decide), nwi_o (by omega)])⟩
    · exact (ix_p (c := 22) (p := i) (by omega)).2
    · rw [fa_lit 22, (ix_p (c := 22) (p := i) (by omega)).1, nI_1]
      refine ih _ (fun a k z => by rw [up_a z]; exact f1 a k z) ?_
      rw [← nwi_s]
      exact nN_up f2
theorem cn_s {P : Nat → Bool} {n : Nat} : cn P (n + 1) = cn P n + cond (P n) 1 0 := rfl
theorem m_canMany (hn : nN I m) (hw : wb m) (h : K (some (.int (nI (cn (fun u => decide (why m (mz m 22) u 5 = 0)) (m 1))))) (I, L, kr q w r1 r2)) : kC sh kp 93 [.ref 71] (I, L, kr q w r1 r2) K := by
  have w1 := hw.2.1
  have hmk := nw_mk hw
  have e1 : I 72 (1 : Int32).toNatClampNeg = nI (m 1) := by
    rw [cl1]
    exact hn 1 (by decide)
  refine ⟨rfl, bM_canMany_0 (m_tokensFrom (c := 22) (f := mz m 22) hn hw.1 (by decide) (fun p hp => if_pos hp) hmk (bM_canMany_6 ?_))⟩
  refine up0 (Pr := fun i => kW sh kp 93 12 [some (.ref 71), some (.long (lN (mp 16 (mz m 22) 10))), none, some (.int (nI (cn (fun u => decide (why m (mz m 22) u 5 = 0)) i))), some (.int (nI i))] [] (I, L, kr q w r1 r2) K) (e := m 1) ?_ fun i hi ih => ?_
  · exact bM_canMany_12 ⟨pk_in 1 212 (by decide), pk_le (m 1) (m 1) (fun _ => bM_canMany_48 h) (fun g => absurd g (by omega)) e1⟩
  · rw [cn_s] at ih
    refine bM_canMany_12 ⟨pk_in 1 212 (by decide), pk_le (m 1) i (fun g => absurd g (by omega)) (fun _ => bM_canMany_23 (m_why (b := 5) hn hw (by omega) (by decide) hmk (bM_canMany_32 ⟨fun g => bM_canMany_39 (bM_canMany_40 ?_), fun g => bM_canMany_35 (bM_canMany_40 ?_)⟩))) e1⟩
    · rw [decide_eq_false (fun z => g (by rw [z]; rfl))] at ih
      rw [nI_1, Int32.add_zero]
      exact ih
    · rw [decide_eq_true (why0 g)] at ih
      rw [nI_1, nI_1]
      exact ih
theorem y_goes {x : Int32} (hs : sw s) (hc : mI I s) : kC sh kp 95 [.ref 71, .int x] (I, L, kr q w r1 r2) (mT (o_goes x s) I L (kr q w r1 r2)) := by
  have w0 := hs.1.1.1
  have w1 := hs.1.1.2.1
  refine ⟨rfl, bM_goes_0 (mm_isStep w1 hc.1 (bM_goes_5 (cb1 (fun e => bM_goes_13 ?_) (fun e => bM_goes_8 (mm_bad hc fun I' g1 g2 => bM_goes_12 ?_)))))⟩
  · unfold o_goes
    rw [e]
    obtain ⟨t, rfl, htt, b1, b2⟩ := okr_e e (by decide)
    rw [htt]
    show kC sh kp 91 _ _ (fun v M1 => kW sh kp 95 18 _ _ M1 (mT (ite _ _ _) I L (kr q w r1 r2)))
    refine y_standing hs hc (by omega) fun I' L' g1 g2 => bM_goes_18 ⟨fun g => bM_goes_26 ?_, fun g => bM_goes_21 (mm_no g1 fun I2 j1 j2 => bM_goes_25 ?_)⟩
    · have g0 : std s.1 t = 0 := by
        have hl : std s.1 t ≤ 4 := by
          have := why_lt (m := s.1) (f := mz s.1 22) (t := t) (b := 5)
          unfold std
          split
          · split <;> omega
          · omega
        exact (nI_eq (b := 0) (by omega) (by decide)).mp g
      rw [if_pos g0]
      have wg := wf_gon hs.1 g0
      refine mm_save hs g1 fun I2 j1 j2 => bM_goes_30 (m_lets (m := s.1) j1.1 hs.1 (by omega) g0 fun I3 k1 k2 => bM_goes_35 (m_canMany k2 wg.1 (bM_goes_39 ?_)))
      rw [show gon s.1 t 1 = s.1 1 from nwp_o w0 (by omega)]
      exact mP_mk (mI_fr j1 (fun a k _ z => k1 a k (by omega)) k2) (fX_trans g2 (fX_trans j2 ⟨fun a k z => k1 a k (by omega), fun _ _ _ => rfl⟩))
    · rw [if_neg (fun z => g (by rw [z]; rfl))]
      exact mP_mk j1 (fX_trans g2 j2)
  · unfold o_goes
    rw [e]
    exact mP_mk g1 g2
theorem std_le {t : Nat} : std m t ≤ 4 := by
  have := why_lt (m := m) (f := mz m 22) (t := t) (b := 5)
  unfold std
  split
  · split <;> omega
  · omega
theorem std0 {t : Nat} (g : nI (std m t) = 0) : std m t = 0 := (nI_eq (b := 0) (by have := std_le (m := m) (t := t); omega) (by decide)).mp g
theorem x_goes {x : Int32} (hs : sw s) (hc : cI I L q w r1 r2 s) : kC sh kp 12 [.ref 0, .int x] (I, L, kr q w r1 r2) (cT (o_goes x s) I L) := by
  have w0 := hs.1.1.1
  have w1 := hs.1.1.2.1
  have w2 := hs.1.1.2.2.1
  refine ⟨rfl, bX_goes_0 (x_isStep w1 hc.1 (bX_goes_5 (cb1 (fun e => bX_goes_15 ?_) (fun e => bX_goes_8 (x_bad hs hc fun I' g1 g2 => bX_goes_14 ?_)))))⟩
  · unfold o_goes
    rw [e]
    obtain ⟨t, rfl, htt, b1, b2⟩ := okr_e e (by decide)
    rw [htt]
    show kC sh kp 50 _ _ (fun v M1 => kW sh kp 12 20 _ _ M1 (cT (ite _ _ _) I L))
    refine x_hind hs hc (by omega) fun I' L' g1 g2 _ => bX_goes_20 ⟨fun g => bX_goes_30 ?_, fun g => bX_goes_23 (x_no hs g1 fun I2 j1 j2 => bX_goes_29 ?_)⟩
    · have g0 := std0 g
      rw [if_pos g0]
      have wg := wf_gon hs.1 g0
      have ha := gon_mk hs.1.1 g0
      refine x_save hs g1 fun I1 L1 q1 j1 j2 j3 => bX_goes_34 ?_
      have hR : cR I1 L1 1 s.1 := j1.1
      rw [hR.2.2.2.2.2.2.1]
      refine c_after hR hs.1.1 (by omega) (roomz (why_room (std_why g0))).1 (bX_goes_53 ?_)
      have hR2 : cR I1 (km_up L1 1 6 (lN (mp 32 (aft s.1 (mz s.1 22) t) 10))) 1 (gon s.1 t) := cR_nwp hR w0 w1 w2 ha
      have fin := cP_mk (v := some (.int (nI (cn (fun u => decide (why (gon s.1 t) (mz (gon s.1 t) 22) u 5 = 0)) (s.1 1))))) (cI_sm (sw_sv hs) j1 j2 (fun _ _ _ => rfl) (fun a k z => up_a (by omega)) hR2 (nwp_nEq w0)) (fM_trans g2 (fM_trans j3 (fM_s (fun _ _ _ => rfl) (fun a k z => up_a (by omega)))))
      have e11 : I1 1 1 = nI (s.1 1) := hR.2.1
      have eg1 : gon s.1 t 1 = s.1 1 := nwp_o w0 (by omega)
      refine up0 (Pr := fun i => kW sh kp 12 60 [some (.ref 0), none, some (.int (nI (cn (fun u => decide (why (gon s.1 t) (mz (gon s.1 t) 22) u 5 = 0)) i))), some (.int (nI i))] [] (I1, km_up L1 1 6 (lN (mp 32 (aft s.1 (mz s.1 22) t) 10)), kr q1 w r1 r2) (cT (nI (cn (fun u => decide (why (gon s.1 t) (mz (gon s.1 t) 22) u 5 = 0)) (s.1 1)), a_ch s (gon s.1 t)) I L)) (e := s.1 1) ?_ fun i hi ih => ?_
      · exact bX_goes_60 (pk_le (s.1 1) (s.1 1) (fun _ => bX_goes_99 fin) (fun g => absurd g (by omega)) e11)
      · rw [cn_s] at ih
        refine bX_goes_60 (pk_le (s.1 1) i (fun g => absurd g (by omega)) (fun _ => bX_goes_71 ?_) e11)
        rw [hR2.2.2.2.2.2.2.1]
        refine c_hind (b := 5) hR2 wg.1 (by rw [eg1]; exact hi) (by decide) (nw_mk wg.1) (bX_goes_87 ⟨fun g => bX_goes_93 ?_, fun g => bX_goes_90 (bX_goes_93 ?_)⟩)
        · rw [decide_eq_false (fun z => g (by rw [z]; rfl))] at ih
          rw [nI_1]
          exact ih
        · rw [decide_eq_true (why0 g)] at ih
          rw [nI_1, nI_1]
          exact ih
    · rw [if_neg (fun z => g (by rw [z]; rfl))]
      exact cP_mk j1 (fM_trans g2 j2)
  · unfold o_goes
    rw [e]
    exact cP_mk g1 g2
end OPS4
