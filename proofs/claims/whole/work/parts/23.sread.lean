/-! THE CLASS'S SEARCH, its readers (printed by wip/whole/gen/sread.py, once for each of the two searches) -/
def mx (g : Nat → Nat) : Nat → Nat
  | 0 => 0
  | n + 1 => if mx g n < g n then g n else mx g n
/-- the least of g 0 .. g n -/
def mn (g : Nat → Nat) : Nat → Nat
  | 0 => g 0
  | n + 1 => if g (n + 1) < mn g n then g (n + 1) else mn g n
/-- a set of numbers as bits -/
def bs (P : Nat → Bool) : Nat → Nat
  | 0 => 0
  | n + 1 => bs P n ||| cond (P n) (2 ^ n) 0
def orr (g : Nat → Nat) : Nat → Nat
  | 0 => 0
  | n + 1 => orr g n ||| g n
def cn (P : Nat → Bool) : Nat → Nat
  | 0 => 0
  | n + 1 => cn P n + cond (P n) 1 0
theorem mx_le {g : Nat → Nat} {b : Nat} (h : ∀ j, g j ≤ b) : ∀ n, mx g n ≤ b
  | 0 => Nat.zero_le _
  | n + 1 => by
    have := mx_le h n
    have := h n
    unfold mx
    split <;> omega
theorem mx_le2 {g : Nat → Nat} {b : Nat} : ∀ n, (∀ j, j < n → g j ≤ b) → mx g n ≤ b
  | 0, _ => Nat.zero_le _
  | n + 1, h => by
    have := mx_le2 n (fun j hj => h j (by omega))
    have := h n (by omega)
    unfold mx
    split <;> omega
theorem mn_le2 {g : Nat → Nat} {b : Nat} : ∀ n, (∀ j, j < n + 1 → g j ≤ b) → mn g n ≤ b
  | 0, h => h 0 (by decide)
  | n + 1, h => by
    have := mn_le2 n (fun j hj => h j (by omega))
    have := h (n + 1) (by omega)
    unfold mn
    split <;> omega
theorem cn_le {P : Nat → Bool} : ∀ n, cn P n ≤ n
  | 0 => Nat.le_refl _
  | n + 1 => by
    have := cn_le (P := P) n
    unfold cn
    cases P n with
    | false => show cn P n + 0 ≤ _; omega
    | true => show cn P n + 1 ≤ _; omega
theorem bs_lt {P : Nat → Bool} : ∀ n, bs P n < 2 ^ n
  | 0 => (show 0 < 1 by decide)
  | n + 1 => by
    have h := bs_lt (P := P) n
    have h1 : bs P n < 2 ^ (n + 1) := Nat.lt_of_lt_of_le h (Nat.pow_le_pow_right (by decide) (by omega))
    unfold bs
    cases P n with
    | false => exact Nat.or_lt_two_pow h1 (Nat.pow_pos (by decide))
    | true => exact Nat.or_lt_two_pow h1 (Nat.pow_lt_pow_right (by decide) (by omega))
theorem orr_lt {g : Nat → Nat} {b : Nat} : ∀ n, (∀ j, j < n → g j < 2 ^ b) → orr g n < 2 ^ b
  | 0, _ => Nat.pow_pos (by decide)
  | n + 1, h => Nat.or_lt_two_pow (orr_lt n fun j hj => h j (by omega)) (h n (by omega))
theorem ifI {a b : Nat} (ha : a < 2 ^ 31) (hb : b < 2 ^ 31) : (if nI a < nI b then nI b else nI a) = nI (if a < b then b else a) := by
  by_cases h : a < b
  · rw [if_pos h, if_pos ((nI_ltI ha hb).mpr h)]
  · rw [if_neg h, if_neg (fun g => h ((nI_ltI ha hb).mp g))]
/-- the steps that can go, as a set -/
def abl (m : Nat → Nat) (b c : Nat) : Nat := bs (fun t => decide (why m (dg c) t b = 0)) (m 1)
theorem nx_m1 {m : Nat → Nat} {b k t : Nat} {s : sst} (h : s.1 ≤ 200) : nx m b s k t = -1 ↔ ¬ why m (dg (s.2.1 k)) t b = 0 := by
  unfold nx
  by_cases g : why m (dg (s.2.1 k)) t b = 0
  · rw [if_pos g]
    constructor
    · intro e
      have hl := pl_le s (aftc m (s.2.1 k) t)
      split at e
      · exact absurd e (nI_m1 (by omega))
      · exact absurd e (by decide)
    · intro e
      exact absurd g e
  · rw [if_neg g]
    exact ⟨fun _ => g, fun _ => rfl⟩
/-- a step leads out of the list -/
def outs (m : Nat → Nat) (b : Nat) (s : sst) (k t : Nat) : Bool := decide (why m (dg (s.2.1 k)) t b = 0) && Nat.beq (pl s (aftc m (s.2.1 k) t)) s.1
theorem beq_iff {a b : Nat} : Nat.beq a b = true ↔ a = b := ⟨Nat.eq_of_beq_eq_true, fun h => by rw [h]; exact Nat.beq_refl b⟩
theorem nx_m2 {m : Nat → Nat} {b k t : Nat} {s : sst} (h : s.1 ≤ 200) : nx m b s k t = -2 ↔ outs m b s k t = true := by
  have hl := pl_le s (aftc m (s.2.1 k) t)
  unfold nx outs
  rw [Bool.and_eq_true, beq_iff, decide_eq_true_eq]
  by_cases g : why m (dg (s.2.1 k)) t b = 0
  · rw [if_pos g]
    by_cases g2 : pl s (aftc m (s.2.1 k) t) < s.1
    · rw [if_pos g2]
      refine ⟨fun e => ?_, fun e => by omega⟩
      have := nI_pos (n := pl s (aftc m (s.2.1 k) t)) (by omega)
      rw [e] at this
      exact absurd (by decide) this
    · rw [if_neg g2]
      exact ⟨fun _ => ⟨g, by omega⟩, fun _ => rfl⟩
  · rw [if_neg g]
    exact ⟨fun e => absurd e (by decide), fun e => absurd e.1 g⟩
/-- tokens of a set in the list's j-th marking -/
def sg (s : sst) (S j : Nat) : Nat := sm S (dg (s.2.1 j)) 10
theorem sg_le {m : Nat → Nat} {s : sst} {S j : Nat} (hg : gk m s) (hj : j < s.1) : sg s S j ≤ 150 := sm_b (hg.2.1 j hj).1.1
section SREAD
variable {I : Nat → Nat → Int32} {L : Nat → Nat → Int64} {q r1 r2 : Nat → Nat} {w : Bool} {K : km_K} {m : Nat → Nat}
theorem c_most_h {s : sst} {S : Nat} (hg : gk m s) (hS : cS I L 44 45 46 s) (h : K (some (.int (nI (mx (sg s S) s.1)))) (I, L, kr q w r1 r2)) : kC sh kp 194 [.ref 44, .int (nI S)] (I, L, kr q w r1 r2) K := by
  have h200 := hg.1
  refine ⟨rfl, bF_mostIn_h_0 (up0 (Pr := fun i => kW sh kp 194 4 [some (.ref 44), some (.int (nI S)), some (.int (nI (mx (sg s S) i))), some (.int (nI i))] [] (I, L, kr q w r1 r2) K) (e := s.1) ?_ fun i hi ih => ?_)⟩
  · exact bF_mostIn_h_4 (pk_le s.1 s.1 (fun _ => bF_mostIn_h_33 h) (fun g => absurd g (by omega)) hS.1)
  · refine bF_mostIn_h_4 (pk_le s.1 i (fun g => absurd g (by omega)) (fun _ => bF_mostIn_h_12 ⟨vp_in_nI (by omega) (by decide), ?_⟩) hS.1)
    have hv := (hg.2.1 i hi).1
    rw [nI_clamp (by omega), (hS.2 i hi).1, hv.2]
    refine s_sumIn (fun p _ => by have := hv.1.1 p; omega) (bF_mostIn_h_23 ?_)
    have b1 := mx_le2 (g := sg s S) (b := 150) i (fun j hj => sg_le hg (by omega))
    have b2 : sm S (dg (s.2.1 i)) 10 ≤ 150 := sg_le hg hi
    rw [ifI (by omega) (by omega), nI_1]
    exact ih
theorem c_least_h {s : sst} {S : Nat} (hg : gk m s) (h1 : 1 ≤ s.1) (hS : cS I L 44 45 46 s) (h : K (some (.int (nI (mn (sg s S) (s.1 - 1))))) (I, L, kr q w r1 r2)) : kC sh kp 195 [.ref 44, .int (nI S)] (I, L, kr q w r1 r2) K := by
  have h200 := hg.1
  have hv0 := (hg.2.1 0 h1).1
  refine ⟨rfl, bF_leastIn_h_0 ⟨pk_in 0 200 (by decide), ?_⟩⟩
  rw [cl0, (hS.2 0 h1).1, hv0.2]
  refine s_sumIn (fun p _ => by have := hv0.1.1 p; omega) (bF_leastIn_h_10 ?_)
  refine up0 (Pr := fun i => kW sh kp 195 13 [some (.ref 44), some (.int (nI S)), some (.int (nI (mn (sg s S) i))), some (.int (nI (i + 1)))] [] (I, L, kr q w r1 r2) K) (e := s.1 - 1) ?_ fun i hi ih => ?_
  · exact bF_leastIn_h_13 (pk_le s.1 (s.1 - 1 + 1) (fun _ => bF_leastIn_h_42 h) (fun g => absurd g (by omega)) hS.1)
  · refine bF_leastIn_h_13 (pk_le s.1 (i + 1) (fun g => absurd g (by omega)) (fun _ => bF_leastIn_h_21 ⟨vp_in_nI (by omega) (by decide), ?_⟩) hS.1)
    have hv := (hg.2.1 (i + 1) (by omega)).1
    rw [nI_clamp (by omega), (hS.2 (i + 1) (by omega)).1, hv.2]
    refine s_sumIn (fun p _ => by have := hv.1.1 p; omega) (bF_leastIn_h_32 ?_)
    have b1 := mn_le2 (g := sg s S) (b := 150) i (fun j hj => sg_le hg (by omega))
    have b2 : sm S (dg (s.2.1 (i + 1))) 10 ≤ 150 := sg_le hg (by omega)
    have e : (if nI (sm S (dg (s.2.1 (i + 1))) 10) < nI (mn (sg s S) i) then nI (sm S (dg (s.2.1 (i + 1))) 10) else nI (mn (sg s S) i)) = nI (mn (sg s S) (i + 1)) := by
      show _ = nI (if sm S (dg (s.2.1 (i + 1))) 10 < mn (sg s S) i then sm S (dg (s.2.1 (i + 1))) 10 else mn (sg s S) i)
      by_cases g : sm S (dg (s.2.1 (i + 1))) 10 < mn (sg s S) i
      · rw [if_pos g, if_pos ((nI_ltI (by omega) (by omega)).mpr g)]
      · rw [if_neg g, if_neg (fun z => g ((nI_ltI (by omega) (by omega)).mp z))]
    rw [e, nI_1]
    exact ih
theorem c_able_h {s : sst} {b k : Nat} (hw : m 1 ≤ 8) (hg : gk m s) (hk : k < s.1) (hN : ∀ k, k < s.1 → ∀ t, t < m 1 → I 48 (8 * k + t) = nx m b s k t) (h : K (some (.int (nI (abl m b (s.2.1 k))))) (I, L, kr q w r1 r2)) : kC sh kp 196 [.ref 44, .int (nI k), .int (nI (m 1))] (I, L, kr q w r1 r2) K := by
  have h200 := hg.1
  refine ⟨rfl, bF_ableSteps_h_0 (up0 (Pr := fun t => kW sh kp 196 5 [some (.ref 44), some (.int (nI k)), some (.int (nI (m 1))), some (.int (nI (bs (fun t => decide (why m (dg (s.2.1 k)) t b = 0)) t))), some (.int (nI t))] [] (I, L, kr q w r1 r2) K) (e := m 1) ?_ fun t ht ih => ?_)⟩
  · exact bF_ableSteps_h_5 (pk_le (m 1) (m 1) (fun _ => bF_ableSteps_h_40 h) (fun g => absurd g (by omega)))
  · refine bF_ableSteps_h_5 (pk_le (m 1) t (fun g => absurd g (by omega)) (fun _ => bF_ableSteps_h_11 ?_))
    rw [nx8, nI_clamp (by omega), hN k hk t ht, nx_m1 h200]
    refine ⟨vp_in_nI (by omega) (by decide), fun g => bF_ableSteps_h_34 ?_, fun g => bF_ableSteps_h_27 (bF_ableSteps_h_34 ?_)⟩
    · rw [nI_1]
      have e : bs (fun t => decide (why m (dg (s.2.1 k)) t b = 0)) (t + 1) = bs (fun t => decide (why m (dg (s.2.1 k)) t b = 0)) t := by
        show _ ||| cond (decide _) _ _ = _
        rw [decide_eq_false g]
        exact Nat.or_zero _
      rw [e] at ih
      exact ih
    · have g : why m (dg (s.2.1 k)) t b = 0 := Classical.not_not.mp g
      rw [nI_1, sh1 t (by omega), fa_or]
      have e : bs (fun t => decide (why m (dg (s.2.1 k)) t b = 0)) (t + 1) = bs (fun t => decide (why m (dg (s.2.1 k)) t b = 0)) t ||| 2 ^ t := by
        show _ ||| cond (decide _) _ _ = _
        rw [decide_eq_true g]
        rfl
      rw [e] at ih
      exact ih
theorem c_live_h {s : sst} {b : Nat} (hw : m 1 ≤ 8) (hg : gk m s) (hS : cS I L 44 45 46 s) (hN : ∀ k, k < s.1 → ∀ t, t < m 1 → I 48 (8 * k + t) = nx m b s k t) (h : K (some (.int (nI (orr (fun k => abl m b (s.2.1 k)) s.1)))) (I, L, kr q w r1 r2)) : kC sh kp 197 [.ref 44, .int (nI (m 1))] (I, L, kr q w r1 r2) K := by
  have h200 := hg.1
  refine ⟨rfl, bF_liveSteps_h_0 (up0 (Pr := fun i => kW sh kp 197 4 [some (.ref 44), some (.int (nI (m 1))), some (.int (nI (orr (fun k => abl m b (s.2.1 k)) i))), some (.int (nI i))] [] (I, L, kr q w r1 r2) K) (e := s.1) ?_ fun i hi ih => ?_)⟩
  · exact bF_liveSteps_h_4 (pk_le s.1 s.1 (fun _ => bF_liveSteps_h_27 h) (fun g => absurd g (by omega)) hS.1)
  · refine bF_liveSteps_h_4 (pk_le s.1 i (fun g => absurd g (by omega)) (fun _ => bF_liveSteps_h_12 (c_able_h hw hg hi hN (bF_liveSteps_h_19 ?_))) hS.1)
    rw [fa_or, nI_1]
    exact ih
theorem c_dead_h {s : sst} {b : Nat} (hw : m 1 ≤ 8) (hg : gk m s) (hS : cS I L 44 45 46 s) (hN : ∀ k, k < s.1 → ∀ t, t < m 1 → I 48 (8 * k + t) = nx m b s k t) (h : K (some (.int (nI (cn (fun k => Nat.beq (abl m b (s.2.1 k)) 0) s.1)))) (I, L, kr q w r1 r2)) : kC sh kp 198 [.ref 44, .int (nI (m 1))] (I, L, kr q w r1 r2) K := by
  have h200 := hg.1
  refine ⟨rfl, bF_deadlocks_h_0 (up0 (Pr := fun i => kW sh kp 198 4 [some (.ref 44), some (.int (nI (m 1))), some (.int (nI (cn (fun k => Nat.beq (abl m b (s.2.1 k)) 0) i))), some (.int (nI i))] [] (I, L, kr q w r1 r2) K) (e := s.1) ?_ fun i hi ih => ?_)⟩
  · exact bF_deadlocks_h_4 (pk_le s.1 s.1 (fun _ => bF_deadlocks_h_30 h) (fun g => absurd g (by omega)) hS.1)
  · refine bF_deadlocks_h_4 (pk_le s.1 i (fun g => absurd g (by omega)) (fun _ => bF_deadlocks_h_12 (c_able_h hw hg hi hN (bF_deadlocks_h_18 ⟨fun g => bF_deadlocks_h_24 ?_, fun g => bF_deadlocks_h_21 (bF_deadlocks_h_24 ?_)⟩))) hS.1)
    · rw [nI_1]
      have e1 : Nat.beq (abl m b (s.2.1 i)) 0 = false := by
        cases z : Nat.beq (abl m b (s.2.1 i)) 0 with
        | false => rfl
        | true => exact absurd (by rw [beq_iff.mp z]; rfl) g
      have e : cn (fun k => Nat.beq (abl m b (s.2.1 k)) 0) (i + 1) = cn (fun k => Nat.beq (abl m b (s.2.1 k)) 0) i := by
        show _ + cond (Nat.beq (abl m b (s.2.1 i)) 0) 1 0 = _
        rw [e1]
        rfl
      rw [e] at ih
      exact ih
    · rw [nI_1, nI_1]
      have hb : abl m b (s.2.1 i) < 2 ^ m 1 := bs_lt _
      have hb2 : 2 ^ m 1 ≤ 2 ^ 8 := Nat.pow_le_pow_right (by decide) hw
      have g : nI (abl m b (s.2.1 i)) = nI 0 := g
      have g2 := (nI_eq (by omega) (by decide)).mp g
      have e1 : Nat.beq (abl m b (s.2.1 i)) 0 = true := beq_iff.mpr g2
      have e : cn (fun k => Nat.beq (abl m b (s.2.1 k)) 0) (i + 1) = cn (fun k => Nat.beq (abl m b (s.2.1 k)) 0) i + 1 := by
        show _ + cond (Nat.beq (abl m b (s.2.1 i)) 0) 1 0 = _
        rw [e1]
        rfl
      rw [e] at ih
      exact ih
theorem c_complete_h {s : sst} {b : Nat} (hw : m 1 ≤ 8) (hg : gk m s) (hS : cS I L 44 45 46 s) (hN : ∀ k, k < s.1 → ∀ t, t < m 1 → I 48 (8 * k + t) = nx m b s k t) (h1 : (∀ k, k < s.1 → ∀ t, t < m 1 → outs m b s k t = false) → K (some (.int 1)) (I, L, kr q w r1 r2)) (h0 : (∃ k, k < s.1 ∧ ∃ t, t < m 1 ∧ outs m b s k t = true) → K (some (.int 0)) (I, L, kr q w r1 r2)) : kC sh kp 199 [.ref 44, .int (nI (m 1))] (I, L, kr q w r1 r2) K := by
  have h200 := hg.1
  refine ⟨rfl, bF_isComplete_h_0 (up0 (Pr := fun i => (∀ k, k < i → ∀ t, t < m 1 → outs m b s k t = false) → kW sh kp 199 2 [some (.ref 44), some (.int (nI (m 1))), some (.int (nI i)), none] [] (I, L, kr q w r1 r2) K) (e := s.1) ?_ (fun i hi ih => ?_) (fun k hk => absurd hk (by omega)))⟩
  · intro ha
    exact bF_isComplete_h_2 (pk_le s.1 s.1 (fun _ => bF_isComplete_h_47 (h1 ha)) (fun g => absurd g (by omega)) hS.1)
  · intro ha
    refine bF_isComplete_h_2 (pk_le s.1 i (fun g => absurd g (by omega)) (fun _ => bF_isComplete_h_10 ?_) hS.1)
    refine up0 (Pr := fun t => (∀ t', t' < t → outs m b s i t' = false) → kW sh kp 199 12 [some (.ref 44), some (.int (nI (m 1))), some (.int (nI i)), some (.int (nI t))] [] (I, L, kr q w r1 r2) K) (e := m 1) ?_ (fun t ht ih2 => ?_) (fun t' ht' => absurd ht' (by omega))
    · intro hb
      refine bF_isComplete_h_12 (pk_le (m 1) (m 1) (fun _ => bF_isComplete_h_41 ?_) (fun g => absurd g (by omega)))
      rw [nI_1]
      refine ih fun k hk => ?_
      by_cases e : k = i
      · rw [e]; exact hb
      · exact ha k (by omega)
    · intro hb
      refine bF_isComplete_h_12 (pk_le (m 1) t (fun g => absurd g (by omega)) (fun _ => bF_isComplete_h_17 ?_))
      rw [nx8, nI_clamp (by omega), hN i hi t ht, nx_m2 h200]
      refine ⟨vp_in_nI (by omega) (by decide), fun g => bF_isComplete_h_35 ?_, fun g => bF_isComplete_h_33 (h0 ⟨i, hi, t, ht, g⟩)⟩
      rw [nI_1]
      refine ih2 fun t' ht' => ?_
      by_cases e : t' = t
      · rw [e]
        exact Bool.eq_false_iff.mpr g
      · exact hb t' (by omega)
theorem c_most_a {s : sst} {S : Nat} (hg : gk m s) (hS : cS I L 50 51 52 s) (h : K (some (.int (nI (mx (sg s S) s.1)))) (I, L, kr q w r1 r2)) : kC sh kp 194 [.ref 50, .int (nI S)] (I, L, kr q w r1 r2) K := by
  have h200 := hg.1
  refine ⟨rfl, bF_mostIn_a_0 (up0 (Pr := fun i => kW sh kp 194 4 [some (.ref 50), some (.int (nI S)), some (.int (nI (mx (sg s S) i))), some (.int (nI i))] [] (I, L, kr q w r1 r2) K) (e := s.1) ?_ fun i hi ih => ?_)⟩
  · exact bF_mostIn_a_4 (pk_le s.1 s.1 (fun _ => bF_mostIn_a_33 h) (fun g => absurd g (by omega)) hS.1)
  · refine bF_mostIn_a_4 (pk_le s.1 i (fun g => absurd g (by omega)) (fun _ => bF_mostIn_a_12 ⟨vp_in_nI (by omega) (by decide), ?_⟩) hS.1)
    have hv := (hg.2.1 i hi).1
    rw [nI_clamp (by omega), (hS.2 i hi).1, hv.2]
    refine s_sumIn (fun p _ => by have := hv.1.1 p; omega) (bF_mostIn_a_23 ?_)
    have b1 := mx_le2 (g := sg s S) (b := 150) i (fun j hj => sg_le hg (by omega))
    have b2 : sm S (dg (s.2.1 i)) 10 ≤ 150 := sg_le hg hi
    rw [ifI (by omega) (by omega), nI_1]
    exact ih
theorem c_least_a {s : sst} {S : Nat} (hg : gk m s) (h1 : 1 ≤ s.1) (hS : cS I L 50 51 52 s) (h : K (some (.int (nI (mn (sg s S) (s.1 - 1))))) (I, L, kr q w r1 r2)) : kC sh kp 195 [.ref 50, .int (nI S)] (I, L, kr q w r1 r2) K := by
  have h200 := hg.1
  have hv0 := (hg.2.1 0 h1).1
  refine ⟨rfl, bF_leastIn_a_0 ⟨pk_in 0 200 (by decide), ?_⟩⟩
  rw [cl0, (hS.2 0 h1).1, hv0.2]
  refine s_sumIn (fun p _ => by have := hv0.1.1 p; omega) (bF_leastIn_a_10 ?_)
  refine up0 (Pr := fun i => kW sh kp 195 13 [some (.ref 50), some (.int (nI S)), some (.int (nI (mn (sg s S) i))), some (.int (nI (i + 1)))] [] (I, L, kr q w r1 r2) K) (e := s.1 - 1) ?_ fun i hi ih => ?_
  · exact bF_leastIn_a_13 (pk_le s.1 (s.1 - 1 + 1) (fun _ => bF_leastIn_a_42 h) (fun g => absurd g (by omega)) hS.1)
  · refine bF_leastIn_a_13 (pk_le s.1 (i + 1) (fun g => absurd g (by omega)) (fun _ => bF_leastIn_a_21 ⟨vp_in_nI (by omega) (by decide), ?_⟩) hS.1)
    have hv := (hg.2.1 (i + 1) (by omega)).1
    rw [nI_clamp (by omega), (hS.2 (i + 1) (by omega)).1, hv.2]
    refine s_sumIn (fun p _ => by have := hv.1.1 p; omega) (bF_leastIn_a_32 ?_)
    have b1 := mn_le2 (g := sg s S) (b := 150) i (fun j hj => sg_le hg (by omega))
    have b2 : sm S (dg (s.2.1 (i + 1))) 10 ≤ 150 := sg_le hg (by omega)
    have e : (if nI (sm S (dg (s.2.1 (i + 1))) 10) < nI (mn (sg s S) i) then nI (sm S (dg (s.2.1 (i + 1))) 10) else nI (mn (sg s S) i)) = nI (mn (sg s S) (i + 1)) := by
      show _ = nI (if sm S (dg (s.2.1 (i + 1))) 10 < mn (sg s S) i then sm S (dg (s.2.1 (i + 1))) 10 else mn (sg s S) i)
      by_cases g : sm S (dg (s.2.1 (i + 1))) 10 < mn (sg s S) i
      · rw [if_pos g, if_pos ((nI_ltI (by omega) (by omega)).mpr g)]
      · rw [if_neg g, if_neg (fun z => g ((nI_ltI (by omega) (by omega)).mp z))]
    rw [e, nI_1]
    exact ih
theorem c_able_a {s : sst} {b k : Nat} (hw : m 1 ≤ 8) (hg : gk m s) (hk : k < s.1) (hN : ∀ k, k < s.1 → ∀ t, t < m 1 → I 54 (8 * k + t) = nx m b s k t) (h : K (some (.int (nI (abl m b (s.2.1 k))))) (I, L, kr q w r1 r2)) : kC sh kp 196 [.ref 50, .int (nI k), .int (nI (m 1))] (I, L, kr q w r1 r2) K := by
  have h200 := hg.1
  refine ⟨rfl, bF_ableSteps_a_0 (up0 (Pr := fun t => kW sh kp 196 5 [some (.ref 50), some (.int (nI k)), some (.int (nI (m 1))), some (.int (nI (bs (fun t => decide (why m (dg (s.2.1 k)) t b = 0)) t))), some (.int (nI t))] [] (I, L, kr q w r1 r2) K) (e := m 1) ?_ fun t ht ih => ?_)⟩
  · exact bF_ableSteps_a_5 (pk_le (m 1) (m 1) (fun _ => bF_ableSteps_a_40 h) (fun g => absurd g (by omega)))
  · refine bF_ableSteps_a_5 (pk_le (m 1) t (fun g => absurd g (by omega)) (fun _ => bF_ableSteps_a_11 ?_))
    rw [nx8, nI_clamp (by omega), hN k hk t ht, nx_m1 h200]
    refine ⟨vp_in_nI (by omega) (by decide), fun g => bF_ableSteps_a_34 ?_, fun g => bF_ableSteps_a_27 (bF_ableSteps_a_34 ?_)⟩
    · rw [nI_1]
      have e : bs (fun t => decide (why m (dg (s.2.1 k)) t b = 0)) (t + 1) = bs (fun t => decide (why m (dg (s.2.1 k)) t b = 0)) t := by
        show _ ||| cond (decide _) _ _ = _
        rw [decide_eq_false g]
        exact Nat.or_zero _
      rw [e] at ih
      exact ih
    · have g : why m (dg (s.2.1 k)) t b = 0 := Classical.not_not.mp g
      rw [nI_1, sh1 t (by omega), fa_or]
      have e : bs (fun t => decide (why m (dg (s.2.1 k)) t b = 0)) (t + 1) = bs (fun t => decide (why m (dg (s.2.1 k)) t b = 0)) t ||| 2 ^ t := by
        show _ ||| cond (decide _) _ _ = _
        rw [decide_eq_true g]
        rfl
      rw [e] at ih
      exact ih
theorem c_live_a {s : sst} {b : Nat} (hw : m 1 ≤ 8) (hg : gk m s) (hS : cS I L 50 51 52 s) (hN : ∀ k, k < s.1 → ∀ t, t < m 1 → I 54 (8 * k + t) = nx m b s k t) (h : K (some (.int (nI (orr (fun k => abl m b (s.2.1 k)) s.1)))) (I, L, kr q w r1 r2)) : kC sh kp 197 [.ref 50, .int (nI (m 1))] (I, L, kr q w r1 r2) K := by
  have h200 := hg.1
  refine ⟨rfl, bF_liveSteps_a_0 (up0 (Pr := fun i => kW sh kp 197 4 [some (.ref 50), some (.int (nI (m 1))), some (.int (nI (orr (fun k => abl m b (s.2.1 k)) i))), some (.int (nI i))] [] (I, L, kr q w r1 r2) K) (e := s.1) ?_ fun i hi ih => ?_)⟩
  · exact bF_liveSteps_a_4 (pk_le s.1 s.1 (fun _ => bF_liveSteps_a_27 h) (fun g => absurd g (by omega)) hS.1)
  · refine bF_liveSteps_a_4 (pk_le s.1 i (fun g => absurd g (by omega)) (fun _ => bF_liveSteps_a_12 (c_able_a hw hg hi hN (bF_liveSteps_a_19 ?_))) hS.1)
    rw [fa_or, nI_1]
    exact ih
theorem c_dead_a {s : sst} {b : Nat} (hw : m 1 ≤ 8) (hg : gk m s) (hS : cS I L 50 51 52 s) (hN : ∀ k, k < s.1 → ∀ t, t < m 1 → I 54 (8 * k + t) = nx m b s k t) (h : K (some (.int (nI (cn (fun k => Nat.beq (abl m b (s.2.1 k)) 0) s.1)))) (I, L, kr q w r1 r2)) : kC sh kp 198 [.ref 50, .int (nI (m 1))] (I, L, kr q w r1 r2) K := by
  have h200 := hg.1
  refine ⟨rfl, bF_deadlocks_a_0 (up0 (Pr := fun i => kW sh kp 198 4 [some (.ref 50), some (.int (nI (m 1))), some (.int (nI (cn (fun k => Nat.beq (abl m b (s.2.1 k)) 0) i))), some (.int (nI i))] [] (I, L, kr q w r1 r2) K) (e := s.1) ?_ fun i hi ih => ?_)⟩
  · exact bF_deadlocks_a_4 (pk_le s.1 s.1 (fun _ => bF_deadlocks_a_30 h) (fun g => absurd g (by omega)) hS.1)
  · refine bF_deadlocks_a_4 (pk_le s.1 i (fun g => absurd g (by omega)) (fun _ => bF_deadlocks_a_12 (c_able_a hw hg hi hN (bF_deadlocks_a_18 ⟨fun g => bF_deadlocks_a_24 ?_, fun g => bF_deadlocks_a_21 (bF_deadlocks_a_24 ?_)⟩))) hS.1)
    · rw [nI_1]
      have e1 : Nat.beq (abl m b (s.2.1 i)) 0 = false := by
        cases z : Nat.beq (abl m b (s.2.1 i)) 0 with
        | false => rfl
        | true => exact absurd (by rw [beq_iff.mp z]; rfl) g
      have e : cn (fun k => Nat.beq (abl m b (s.2.1 k)) 0) (i + 1) = cn (fun k => Nat.beq (abl m b (s.2.1 k)) 0) i := by
        show _ + cond (Nat.beq (abl m b (s.2.1 i)) 0) 1 0 = _
        rw [e1]
        rfl
      rw [e] at ih
      exact ih
    · rw [nI_1, nI_1]
      have hb : abl m b (s.2.1 i) < 2 ^ m 1 := bs_lt _
      have hb2 : 2 ^ m 1 ≤ 2 ^ 8 := Nat.pow_le_pow_right (by decide) hw
      have g : nI (abl m b (s.2.1 i)) = nI 0 := g
      have g2 := (nI_eq (by omega) (by decide)).mp g
      have e1 : Nat.beq (abl m b (s.2.1 i)) 0 = true := beq_iff.mpr g2
      have e : cn (fun k => Nat.beq (abl m b (s.2.1 k)) 0) (i + 1) = cn (fun k => Nat.beq (abl m b (s.2.1 k)) 0) i + 1 := by
        show _ + cond (Nat.beq (abl m b (s.2.1 i)) 0) 1 0 = _
        rw [e1]
        rfl
      rw [e] at ih
      exact ih
theorem c_complete_a {s : sst} {b : Nat} (hw : m 1 ≤ 8) (hg : gk m s) (hS : cS I L 50 51 52 s) (hN : ∀ k, k < s.1 → ∀ t, t < m 1 → I 54 (8 * k + t) = nx m b s k t) (h1 : (∀ k, k < s.1 → ∀ t, t < m 1 → outs m b s k t = false) → K (some (.int 1)) (I, L, kr q w r1 r2)) (h0 : (∃ k, k < s.1 ∧ ∃ t, t < m 1 ∧ outs m b s k t = true) → K (some (.int 0)) (I, L, kr q w r1 r2)) : kC sh kp 199 [.ref 50, .int (nI (m 1))] (I, L, kr q w r1 r2) K := by
  have h200 := hg.1
  refine ⟨rfl, bF_isComplete_a_0 (up0 (Pr := fun i => (∀ k, k < i → ∀ t, t < m 1 → outs m b s k t = false) → kW sh kp 199 2 [some (.ref 50), some (.int (nI (m 1))), some (.int (nI i)), none] [] (I, L, kr q w r1 r2) K) (e := s.1) ?_ (fun i hi ih => ?_) (fun k hk => absurd hk (by omega)))⟩
  · intro ha
    exact bF_isComplete_a_2 (pk_le s.1 s.1 (fun _ => bF_isComplete_a_47 (h1 ha)) (fun g => absurd g (by omega)) hS.1)
  · intro ha
    refine bF_isComplete_a_2 (pk_le s.1 i (fun g => absurd g (by omega)) (fun _ => bF_isComplete_a_10 ?_) hS.1)
    refine up0 (Pr := fun t => (∀ t', t' < t → outs m b s i t' = false) → kW sh kp 199 12 [some (.ref 50), some (.int (nI (m 1))), some (.int (nI i)), some (.int (nI t))] [] (I, L, kr q w r1 r2) K) (e := m 1) ?_ (fun t ht ih2 => ?_) (fun t' ht' => absurd ht' (by omega))
    · intro hb
      refine bF_isComplete_a_12 (pk_le (m 1) (m 1) (fun _ => bF_isComplete_a_41 ?_) (fun g => absurd g (by omega)))
      rw [nI_1]
      refine ih fun k hk => ?_
      by_cases e : k = i
      · rw [e]; exact hb
      · exact ha k (by omega)
    · intro hb
      refine bF_isComplete_a_12 (pk_le (m 1) t (fun g => absurd g (by omega)) (fun _ => bF_isComplete_a_17 ?_))
      rw [nx8, nI_clamp (by omega), hN i hi t ht, nx_m2 h200]
      refine ⟨vp_in_nI (by omega) (by decide), fun g => bF_isComplete_a_35 ?_, fun g => bF_isComplete_a_33 (h0 ⟨i, hi, t, ht, g⟩)⟩
      rw [nI_1]
      refine ih2 fun t' ht' => ?_
      by_cases e : t' = t
      · rw [e]
        exact Bool.eq_false_iff.mpr g
      · exact hb t' (by omega)
end SREAD
