/-! CALLS: what they share -/
def okr (v : Int32) (a b : Int) : Bool := decide (a ≤ v.toInt) && decide (v.toInt ≤ b)
def tn (v : Int32) : Nat := v.toInt.toNat
theorem okr_t {v : Int32} {a b : Int} (h : okr v a b = true) : a ≤ v.toInt ∧ v.toInt ≤ b := by
  unfold okr at h
  rw [Bool.and_eq_true] at h
  exact ⟨of_decide_eq_true h.1, of_decide_eq_true h.2⟩
theorem okr_n {v : Int32} {a b : Int} (h : okr v a b = true) (ha : 0 ≤ a) : v = nI (tn v) ∧ a ≤ (tn v : Int) ∧ (tn v : Int) ≤ b := by
  have h1 := okr_t h
  have h2 : ¬ v < 0 := fun g => by
    rw [fa_lt] at g
    have e0 : (0 : Int32).toInt = 0 := by decide
    omega
  obtain ⟨j, hj, rfl⟩ := nI_of h2
  have e := nI_toInt hj
  have e2 : tn (nI j) = j := by
    unfold tn
    rw [e]
    exact Int.toNat_natCast j
  rw [e2]
  rw [e] at h1
  exact ⟨rfl, h1.1, h1.2⟩
theorem nIm {P : Nat} (h : P < 2 ^ 30) : (nI P - 1).toInt = (P : Int) - 1 := pk_sub_toInt (b := 1) h (by decide)
theorem cb1 {b : Bool} {A B : Prop} (h1 : b = true → A) (h0 : b = false → B) : (¬ (cond b 1 0 : Int32) = 0 → A) ∧ ((cond b 1 0 : Int32) = 0 → B) := by
  cases b with
  | true => exact ⟨fun _ => h1 rfl, fun g => absurd g (by decide)⟩
  | false => exact ⟨fun g => absurd rfl g, fun _ => h0 rfl⟩
theorem cb0 {b : Bool} {A B : Prop} (h1 : b = true → A) (h0 : b = false → B) : ((cond b 1 0 : Int32) = 0 → B) ∧ (¬ (cond b 1 0 : Int32) = 0 → A) := (cb1 h1 h0).symm
theorem cb01 {b : Bool} : (cond b 1 0 : Int32) = 0 ∨ (cond b 1 0 : Int32) = 1 := by
  cases b with
  | true => exact Or.inr rfl
  | false => exact Or.inl rfl
/-- refusals, a change, kept -/
def a_bad (s : ast) : Int32 × ast := (-2, (s.1, s.2.1, s.2.2.1, (s.2.2.2.1.1 + 1, s.2.2.2.1.2), s.2.2.2.2))
def a_no (s : ast) : Int32 × ast := (-3, (s.1, s.2.1, s.2.2.1, (s.2.2.2.1.1, s.2.2.2.1.2.1 + 1, s.2.2.2.1.2.2), s.2.2.2.2))
def a_full (s : ast) : Int32 × ast := (-4, (s.1, s.2.1, s.2.2.1, (s.2.2.2.1.1, s.2.2.2.1.2.1, s.2.2.2.1.2.2 + 1), s.2.2.2.2))
def a_sv (s : ast) : ast := (s.1, kn1 s.2.1, kms s.2.1 s.2.2.1 s.1, s.2.2.2)
def a_ch (s : ast) (m : Nat → Nat) : ast := (m, (a_sv s).2)
def cT (r : Int32 × ast) (I : Nat → Nat → Int32) (L : Nat → Nat → Int64) : km_K := cP r.2 (some (.int r.1)) I L
def mT (r : Int32 × ast) (I : Nat → Nat → Int32) (L : Nat → Nat → Int64) (R : Nat → Nat → Nat) : km_K := mP r.2 (some (.int r.1)) I L R
theorem sw_sv {s : ast} (h : sw s) : sw (a_sv s) := by
  obtain ⟨h1, h2, h3, h4⟩ := h
  refine ⟨h1, ?_, fun i hi => ?_, h4⟩
  · show kn1 s.2.1 ≤ 5
    unfold kn1
    split <;> omega
  · show wf (kms s.2.1 s.2.2.1 s.1 i)
    have hi : i < kn1 s.2.1 := hi
    unfold kn1 at hi
    unfold kms
    by_cases g : s.2.1 < 5
    · rw [if_pos g] at hi
      rw [if_pos g]
      show wf (if i = s.2.1 then s.1 else s.2.2.1 i)
      by_cases e : i = s.2.1
      · rw [if_pos e]
        exact h1
      · rw [if_neg e]
        exact h3 i (by omega)
    · rw [if_neg g] at hi
      rw [if_neg g]
      show wf (if i = 4 then s.1 else s.2.2.1 (i + 1))
      by_cases e : i = 4
      · rw [if_pos e]
        exact h1
      · rw [if_neg e]
        exact h3 (i + 1) (by omega)
theorem sw_ch {s : ast} {m : Nat → Nat} (h : sw s) (hm : wf m) : sw (a_ch s m) := ⟨hm, (sw_sv h).2⟩
theorem sw_bad {s : ast} (h : sw s) : sw (a_bad s).2 := h
theorem sw_no {s : ast} (h : sw s) : sw (a_no s).2 := h
theorem sw_full {s : ast} (h : sw s) : sw (a_full s).2 := h
section BASE
variable {I I0 : Nat → Nat → Int32} {L L0 : Nat → Nat → Int64} {q r1 r2 : Nat → Nat} {w : Bool} {K : km_K} {m : Nat → Nat} {s : ast}
theorem c_in {x A B : Int32} {a b : Int} (ha : A.toInt = a) (hb : B.toInt = b) (h : K (some (.int (cond (okr x a b) 1 0))) (I, L, kr q w r1 r2)) : kC sh kp 37 [.int x, .int A, .int B] (I, L, kr q w r1 r2) K := by
  refine c_within (fun g1 g2 => ?_) (fun g => ?_)
  · rw [fa_lt] at g1 g2
    have e : okr x a b = true := by
      unfold okr
      rw [decide_eq_true (by omega), decide_eq_true (by omega)]
      rfl
    rw [e] at h
    exact h
  · rw [fa_lt, fa_lt] at g
    have e : okr x a b = false := by
      cases z : okr x a b with
      | false => rfl
      | true =>
        have := okr_t z
        omega
    rw [e] at h
    exact h
theorem mm_in {x A B : Int32} {a b : Int} (ha : A.toInt = a) (hb : B.toInt = b) (h : K (some (.int (cond (okr x a b) 1 0))) (I, L, kr q w r1 r2)) : kC sh kp 52 [.int x, .int A, .int B] (I, L, kr q w r1 r2) K := by
  refine m_in (fun g1 g2 => ?_) (fun g => ?_)
  · rw [fa_lt] at g1 g2
    have e : okr x a b = true := by
      unfold okr
      rw [decide_eq_true (by omega), decide_eq_true (by omega)]
      rfl
    rw [e] at h
    exact h
  · rw [fa_lt, fa_lt] at g
    have e : okr x a b = false := by
      cases z : okr x a b with
      | false => rfl
      | true =>
        have := okr_t z
        omega
    rw [e] at h
    exact h
theorem x_isPlace {x : Int32} (hw : m 0 ≤ 10) (hR : cR I L 1 m) (h : K (some (.int (cond (okr x 0 ((m 0 : Int) - 1)) 1 0))) (I, L, kr q w r1 r2)) : kC sh kp 38 [.ref 0, .int x] (I, L, kr q w r1 r2) K :=
  ⟨rfl, bX_isPlace_0 (c_in rfl (by rw [hR.1]; exact nIm (by omega)) (bX_isPlace_14 ⟨cb01, h⟩))⟩
theorem x_isStep {x : Int32} (hw : m 1 ≤ 8) (hR : cR I L 1 m) (h : K (some (.int (cond (okr x 0 ((m 1 : Int) - 1)) 1 0))) (I, L, kr q w r1 r2)) : kC sh kp 39 [.ref 0, .int x] (I, L, kr q w r1 r2) K :=
  ⟨rfl, bX_isStep_0 (c_in rfl (by rw [hR.2.1]; exact nIm (by omega)) (bX_isStep_14 ⟨cb01, h⟩))⟩
theorem x_isGuard {x : Int32} (hw : m 200 ≤ 5) (hR : cR I L 1 m) (h : K (some (.int (cond (okr x 0 ((m 200 : Int) - 1)) 1 0))) (I, L, kr q w r1 r2)) : kC sh kp 40 [.ref 0, .int x] (I, L, kr q w r1 r2) K :=
  ⟨rfl, bX_isGuard_0 (c_in rfl (by rw [hR.2.2.1]; exact nIm (by omega)) (bX_isGuard_14 ⟨cb01, h⟩))⟩
theorem p2_le {P : Nat} (h : P ≤ 10) : 1 ≤ 2 ^ P ∧ 2 ^ P ≤ 1024 := ⟨Nat.one_le_two_pow, Nat.pow_le_pow_right (n := 2) (by decide) h⟩
theorem x_isSet {x : Int32} (hw : m 0 ≤ 10) (hR : cR I L 1 m) (h : K (some (.int (cond (okr x 1 ((2 ^ m 0 - 1 : Nat) : Int)) 1 0))) (I, L, kr q w r1 r2)) : kC sh kp 41 [.ref 0, .int x] (I, L, kr q w r1 r2) K :=
  ⟨rfl, bX_isSet_0 (c_allPlaces hR hw (bX_isSet_9 (c_in rfl (by have := p2_le hw; exact nI_toInt (by omega)) (bX_isSet_12 ⟨cb01, h⟩))))⟩
theorem mm_isPlace {x : Int32} (hw : m 0 ≤ 10) (hn : nN I m) (h : K (some (.int (cond (okr x 0 ((m 0 : Int) - 1)) 1 0))) (I, L, kr q w r1 r2)) : kC sh kp 57 [.ref 71, .int x] (I, L, kr q w r1 r2) K :=
  ⟨rfl, bM_isPlace_0 ⟨pk_in 0 212 (by decide), mm_in rfl (by rw [cl0, hn 0 (by decide)]; exact nIm (by omega)) (bM_isPlace_13 ⟨cb01, h⟩)⟩⟩
theorem mm_isStep {x : Int32} (hw : m 1 ≤ 8) (hn : nN I m) (h : K (some (.int (cond (okr x 0 ((m 1 : Int) - 1)) 1 0))) (I, L, kr q w r1 r2)) : kC sh kp 58 [.ref 71, .int x] (I, L, kr q w r1 r2) K :=
  ⟨rfl, bM_isStep_0 ⟨pk_in 1 212 (by decide), mm_in rfl (by rw [cl1, hn 1 (by decide)]; exact nIm (by omega)) (bM_isStep_13 ⟨cb01, h⟩)⟩⟩
theorem up0_c {j k b : Nat} {v : Int32} (h : b ≠ 0 ∨ k ≠ j) : km_up I 0 j v b k = I b k := by
  rcases h with h | h
  · exact up_a h
  · exact up_k h
theorem cI_cnt {j : Nat} {v : Int32} {c : Int32 × Int32 × Int32} (hj : 12 ≤ j) (hs : s.2.1 ≤ 5) (h : cI I L q w r1 r2 s) (h1 : km_up I 0 j v 0 12 = c.1) (h2 : km_up I 0 j v 0 13 = c.2.1) (h3 : km_up I 0 j v 0 14 = c.2.2) : cI (km_up I 0 j v) L q w r1 r2 (s.1, s.2.1, s.2.2.1, c, s.2.2.2.2) := by
  obtain ⟨a1, ⟨a2, a3, a4⟩, _, ⟨a8, a9⟩, a10, a11⟩ := h
  refine ⟨cR_fr (fun a k g1 g2 => up_a (by omega)) (fun _ _ _ _ => rfl) a1, ⟨a2, ?_, fun i hi => ?_⟩, ⟨h1, h2, h3⟩, ⟨?_, fun i hi => ?_⟩, cH_fr a10 (up_k (by omega)) (fun a k g1 g2 => up_a (by omega)) (fun _ => rfl), cA_fr a11 (up_k (by omega)) (fun a k g1 g2 => up_a (by omega)) (fun _ _ _ _ => rfl)⟩
  · rw [up_k (by omega)]
    exact a3
  · have hi : i < s.2.1 := hi
    have b := kq_b (i := i) a2 (by omega)
    exact cR_fr (fun a k g1 g2 => up_a (by omega)) (fun _ _ _ _ => rfl) (a4 i hi)
  · rw [up_a (by decide)]
    exact a8
  · rw [up_a (by decide)]
    exact a9 i hi
theorem fM_0 {j : Nat} {v : Int32} : fM I L (km_up I 0 j v) L := ⟨fun a k g1 g2 => up_a (by omega), fun _ _ _ _ => rfl⟩
theorem x_bad (hs : sw s) (hc : cI I L q w r1 r2 s) (h : ∀ I', cI I' L q w r1 r2 (a_bad s).2 → fM I L I' L → K (some (.int (-2))) (I', L, kr q w r1 r2)) : kC sh kp 43 [.ref 0, .int (-2)] (I, L, kr q w r1 r2) K :=
  c_bad (h _ (cI_cnt (c := (s.2.2.2.1.1 + 1, s.2.2.2.1.2)) (by decide) hs.2.1 hc (by rw [up_s, hc.2.2.1.1]) (by rw [up_k (by decide)]; exact hc.2.2.1.2.1) (by rw [up_k (by decide)]; exact hc.2.2.1.2.2)) fM_0)
theorem x_no (hs : sw s) (hc : cI I L q w r1 r2 s) (h : ∀ I', cI I' L q w r1 r2 (a_no s).2 → fM I L I' L → K (some (.int (-3))) (I', L, kr q w r1 r2)) : kC sh kp 43 [.ref 0, .int (-3)] (I, L, kr q w r1 r2) K :=
  c_no (h _ (cI_cnt (c := (s.2.2.2.1.1, s.2.2.2.1.2.1 + 1, s.2.2.2.1.2.2)) (by decide) hs.2.1 hc (by rw [up_k (by decide)]; exact hc.2.2.1.1) (by rw [up_s, hc.2.2.1.2.1]) (by rw [up_k (by decide)]; exact hc.2.2.1.2.2)) fM_0)
theorem x_full (hs : sw s) (hc : cI I L q w r1 r2 s) (h : ∀ I', cI I' L q w r1 r2 (a_full s).2 → fM I L I' L → K (some (.int (-4))) (I', L, kr q w r1 r2)) : kC sh kp 43 [.ref 0, .int (-4)] (I, L, kr q w r1 r2) K :=
  c_full (h _ (cI_cnt (c := (s.2.2.2.1.1, s.2.2.2.1.2.1, s.2.2.2.1.2.2 + 1)) (by decide) hs.2.1 hc (by rw [up_k (by decide)]; exact hc.2.2.1.1) (by rw [up_k (by decide)]; exact hc.2.2.1.2.1) (by rw [up_s, hc.2.2.1.2.2])) fM_0)
theorem fX_71 {a j : Nat} {v : Int32} (h1 : 71 ≤ a) (h2 : a < 90) : fX I L (km_up I a j v) L := ⟨fun b k g => up_a (by omega), fun _ _ _ => rfl⟩
theorem mI_cnt {j : Nat} {v : Int32} {c : Int32 × Int32 × Int32} (hj : 4 ≤ j) (hj2 : j ≤ 6) (h : mI I s) (h1 : km_up I 71 j v 71 4 = c.1) (h2 : km_up I 71 j v 71 5 = c.2.1) (h3 : km_up I 71 j v 71 6 = c.2.2) : mI (km_up I 71 j v) (s.1, s.2.1, s.2.2.1, c, s.2.2.2.2) := by
  obtain ⟨a1, ⟨a, a2, a3, a4, a5⟩, _, a9, a10⟩ := h
  refine ⟨fun k hk => ?_, ⟨a, a2, ?_, ?_, fun i hi k hk => ?_⟩, ⟨h1, h2, h3⟩, ?_, fun i hi => ?_⟩
  · rw [up_a (by decide)]
    exact a1 k hk
  · rw [up_k (by omega)]
    exact a3
  · rw [up_k (by omega)]
    exact a4
  · rw [up_a (by decide)]
    exact a5 i hi k hk
  · rw [up_k (by omega)]
    exact a9
  · rw [up_a (by decide)]
    exact a10 i hi
theorem mm_bad (hc : mI I s) (h : ∀ I', mI I' (a_bad s).2 → fX I L I' L → K (some (.int (-2))) (I', L, kr q w r1 r2)) : kC sh kp 54 [.ref 71] (I, L, kr q w r1 r2) K :=
  m_bad (h _ (mI_cnt (c := (s.2.2.2.1.1 + 1, s.2.2.2.1.2)) (by decide) (by decide) hc (by rw [up_s, hc.2.2.1.1]) (by rw [up_k (by decide)]; exact hc.2.2.1.2.1) (by rw [up_k (by decide)]; exact hc.2.2.1.2.2)) (fX_71 (by decide) (by decide)))
theorem mm_no (hc : mI I s) (h : ∀ I', mI I' (a_no s).2 → fX I L I' L → K (some (.int (-3))) (I', L, kr q w r1 r2)) : kC sh kp 55 [.ref 71] (I, L, kr q w r1 r2) K :=
  m_no (h _ (mI_cnt (c := (s.2.2.2.1.1, s.2.2.2.1.2.1 + 1, s.2.2.2.1.2.2)) (by decide) (by decide) hc (by rw [up_k (by decide)]; exact hc.2.2.1.1) (by rw [up_s, hc.2.2.1.2.1]) (by rw [up_k (by decide)]; exact hc.2.2.1.2.2)) (fX_71 (by decide) (by decide)))
theorem mm_full (hc : mI I s) (h : ∀ I', mI I' (a_full s).2 → fX I L I' L → K (some (.int (-4))) (I', L, kr q w r1 r2)) : kC sh kp 56 [.ref 71] (I, L, kr q w r1 r2) K :=
  m_full (h _ (mI_cnt (c := (s.2.2.2.1.1, s.2.2.2.1.2.1, s.2.2.2.1.2.2 + 1)) (by decide) (by decide) hc (by rw [up_k (by decide)]; exact hc.2.2.1.1) (by rw [up_k (by decide)]; exact hc.2.2.1.2.1) (by rw [up_s, hc.2.2.1.2.2])) (fX_71 (by decide) (by decide)))
/-- the state is kept, the search from home is stale -/
theorem x_save (hs : sw s) (hc : cI I L q w r1 r2 s) (h : ∀ I' L' q', cI I' L' q' w r1 r2 (a_sv s) → I' 0 5 = 0 → fM I L I' L' → K none (I', L', kr q' w r1 r2)) : kC sh kp 44 [.ref 0] (I, L, kr q w r1 r2) K := by
  obtain ⟨a1, ⟨a2, a3, a4⟩, a5, a8, a10, a11⟩ := hc
  refine c_save a2 hs.2.1 hs.1.1 a3 a1 a4 fun I' L' q' g1 g2 g3 g4 g5 => h I' L' q' ⟨?_, ⟨g1, g3, g5⟩, ?_, ?_, Or.inl g4, ?_⟩ g4 ?_
  · exact cR_fr (fun a k z1 z2 => g2.1 a k (by omega) (fun e => absurd e (by omega))) (fun a k z1 z2 => g2.2 a k (by omega)) a1
  · exact ⟨(g2.1 0 12 (by omega) (fun _ => by decide)).trans a5.1, (g2.1 0 13 (by omega) (fun _ => by decide)).trans a5.2.1, (g2.1 0 14 (by omega) (fun _ => by decide)).trans a5.2.2⟩
  · exact ⟨(g2.1 67 1 (by omega) (fun e => absurd e (by decide))).trans a8.1, fun i hi => (g2.1 68 i (by omega) (fun e => absurd e (by decide))).trans (a8.2 i hi)⟩
  · exact cA_fr a11 (g2.1 0 9 (by omega) (fun _ => by decide)) (fun a k z1 z2 => g2.1 a k (by omega) (fun e => absurd e (by omega))) (fun a k z1 z2 => g2.2 a k (by omega))
  · exact ⟨fun a k z1 z2 => g2.1 a k (by omega) (fun e => absurd e (by omega)), fun a k z1 z2 => g2.2 a k (by omega)⟩
theorem mm_save (hs : sw s) (hc : mI I s) (h : ∀ I', mI I' (a_sv s) → fX I L I' L → K none (I', L, kr q w r1 r2)) : kC sh kp 59 [.ref 71] (I, L, kr q w r1 r2) K := by
  obtain ⟨a1, ⟨a, a2, a3, a4, a5⟩, a6, a9, a10⟩ := hc
  refine m_keepsState a1 a2 hs.2.1 a3 a4 a5 fun I' g1 g2 g3 g4 => h I' ⟨fun k hk => ?_, ⟨(a + 1) % 5, Nat.mod_lt _ (by decide), g2, g3, g4⟩, ?_, ?_, fun i hi => ?_⟩ ⟨fun a k z => g1 a k (by omega) (fun e => absurd e (by omega)), fun _ _ _ => rfl⟩
  · exact (g1 72 k (by decide) (fun e => absurd e (by decide))).trans (a1 k hk)
  · exact ⟨(g1 71 4 (by decide) (fun _ => by decide)).trans a6.1, (g1 71 5 (by decide) (fun _ => by decide)).trans a6.2.1, (g1 71 6 (by decide) (fun _ => by decide)).trans a6.2.2⟩
  · exact (g1 71 25 (by decide) (fun _ => by decide)).trans a9
  · exact (g1 88 i (by decide) (fun e => absurd e (by decide))).trans (a10 i hi)
/-- a changed net settles -/
theorem x_renew (hs : s.2.1 ≤ 5) (hc : cI I0 L0 q w r1 r2 s) (f1 : ∀ a k, (a < 1 ∨ 6 < a) → I a k = I0 a k) (f2 : ∀ a k, (a < 1 ∨ 6 < a) → L a k = L0 a k) (hR : cR0 I L m) (hw : m 0 ≤ 10) (hw1 : m 1 ≤ 8) (h : ∀ I' L', cI I' L' q w r1 r2 (stl m, s.2) → fM I L I' L' → I' 1 0 = nI (m 0) → I' 1 1 = nI (m 1) → K none (I', L', kr q w r1 r2)) : kC sh kp 46 [.ref 0] (I, L, kr q w r1 r2) K := by
  refine c_renew hR hw hw1 fun I' L' g1 g2 g3 g4 g5 => h I' L' (cI_fr hs hc (fun a k z1 z2 z3 => ?_) (fun a k z1 z2 => ?_) g5 (Or.inl g3) ⟨hc.2.2.2.2.2.1, Or.inl g4⟩) ⟨fun a k z1 z2 => ?_, fun a k z1 z2 => ?_⟩ ?_ ?_
  · exact (g1 a k (fun e => absurd e (by omega)) (fun e => by have := z1 e; omega)).trans (f1 a k (by omega))
  · exact (g2 a k (by omega)).trans (f2 a k (by omega))
  · exact g1 a k (fun e => absurd e (by omega)) (fun e => absurd e (by omega))
  · exact g2 a k (by omega)
  · exact (g1 1 0 (fun _ => by decide) (fun e => absurd e (by decide))).trans hR.1
  · exact (g1 1 1 (fun _ => by decide) (fun e => absurd e (by decide))).trans hR.2.1
theorem mm_settles (hc : mI I0 s) (f1 : ∀ a k, a ≠ 72 → I a k = I0 a k) (hn : nN I m) (hw : m 0 ≤ 10) (h : ∀ I', mI I' (stl m, s.2) → fX I L I' L → K none (I', L, kr q w r1 r2)) : kC sh kp 60 [.ref 72] (I, L, kr q w r1 r2) K :=
  m_settles hn hw fun I' g1 g2 => h I' (mI_fr hc (fun a k _ z => (g1 a k (by omega)).trans (f1 a k (by omega))) g2) ⟨fun a k z => g1 a k (by omega), fun _ _ _ => rfl⟩
end BASE
theorem wf_stl {m : Nat → Nat} (hb : wb m) (hz : ∀ t p, t < m 1 → m 0 ≤ p → p < 10 → m (40 + 10 * t + p) = 0 ∧ m (120 + 10 * t + p) = 0) : wf (stl m) := by
  have e : ∀ k, (k < 12 ∨ (32 ≤ k ∧ k ≠ 200)) → stl m k = m k := fun k hk => sti_o (by omega) hk
  have e2 : stl m 200 = 0 := sti_2
  have el : ∀ p, p < 10 → stl m (12 + p) = 0 := fun p hp => sti_z (by omega) (by omega)
  have en : ∀ p, p < 10 → stl m (22 + p) = if p < m 0 then m (2 + p) else 0 := fun p hp => by
    have := sti_n (m := m) (i := 10) (k := 22 + p) (by omega) (by omega) (by omega)
    rw [show 22 + p - 22 = p by omega, show 22 + p - 20 = 2 + p by omega] at this
    exact this
  obtain ⟨w0, w1, w2, w3, w4, w5, w6, w7⟩ := hb
  refine ⟨⟨?_, ?_, ?_, ?_, fun p hp => ⟨?_, ?_, ?_⟩, fun t p ht hp => ⟨?_, ?_⟩, fun t ht => ?_, fun g hg => ⟨?_, ?_⟩⟩, fun p hp => ?_, fun t p ht hp hp2 => ?_⟩
  · rw [e 0 (by omega)]; exact w0
  · rw [e 1 (by omega)]; exact w1
  · rw [e2]; omega
  · rw [e 211 (by omega)]; exact w3
  · rw [e _ (by omega)]; exact (w4 p hp).1
  · rw [el p hp]; omega
  · rw [en p hp]
    have := (w4 p hp).1
    split <;> omega
  · rw [e _ (by omega)]; exact (w5 t p ht hp).1
  · rw [e _ (by omega)]; exact (w5 t p ht hp).2
  · rw [e _ (by omega)]; exact w6 t ht
  · rw [e _ (by omega)]; exact (w7 g hg).1
  · rw [e _ (by omega)]; exact (w7 g hg).2
  · rw [e 0 (by omega)] at hp
    rw [el p (by omega)]
    exact Nat.zero_le _
  · rw [e 1 (by omega)] at ht
    rw [e 0 (by omega)] at hp
    rw [e _ (by omega), e _ (by omega)]
    exact hz t p ht hp hp2
