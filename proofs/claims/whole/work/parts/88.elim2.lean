/-! SUMS: elimination, a place after the other -/
/-- behind the places below p: k rows stand for the places pv; Z: where all rows are nought -/
def el (c : Nat → Nat → Int) (Z : Nat → Prop) (T k : Nat) (pv : Nat → Nat) (p : Nat) (A cs : Nat → Nat → Int) (W : Nat → Int) (P : Nat) : Prop :=
  (k ≤ T ∧ P < 2 ^ 10 ∧ dgW W k ∧ W P ≠ 0 ∧ ∀ q, P.testBit q = true ↔ ∃ i, i < k ∧ pv i = q) ∧
  (∀ i, i < k → pv i < p ∧ A i (pv i) ≠ 0 ∧ (∀ j, j < k → j ≠ i → A i (pv j) = 0) ∧ ∀ N, N < 2 ^ 10 → wd 10 (A i) W N = 0) ∧
  (∀ t, k ≤ t → t < T → (∀ q, q < p → A t q = 0) ∧ ∃ d a : Int, d ≠ 0 ∧ ∀ N, N < 2 ^ 10 → d * wd 10 (A t) W N = a * wd 10 (cs t) W N) ∧
  (∀ t, t < T → (∀ q, (cs t q).natAbs ≤ 2) ∧ pz (A t) ∧ ∀ q, q < 10 → Z q → A t q = 0) ∧
  ∀ y : Nat → Int, (∀ t, t < T → zs (fun q => A t q * y q) 10 = 0) ↔ (∀ t, t < T → zs (fun q => c t q * y q) 10 = 0)
theorem zs_comb {u c d y : Nat → Int} {g a b : Int} (h : ∀ q, q < 10 → g * u q = a * c q + b * d q) : g * zs (fun q => u q * y q) 10 = a * zs (fun q => c q * y q) 10 + b * zs (fun q => d q * y q) 10 := by
  rw [← zs_mul, ← zs_mul, ← zs_mul, ← zs_add]
  refine zs_congr 10 fun q hq => ?_
  show g * (u q * y q) = a * (c q * y q) + b * (d q * y q)
  rw [← Int.mul_assoc, h q hq, Int.add_mul, Int.mul_assoc, Int.mul_assoc]
theorem mz0 {a b : Int} (ha : a ≠ 0) (h : a * b = 0) : b = 0 := (Int.mul_eq_zero.mp h).resolve_left ha
theorem el_0 {c : Nat → Nat → Int} {Z : Nat → Prop} {T : Nat} {pv : Nat → Nat} (hc : ∀ t q, (c t q).natAbs ≤ 2) (hZ : ∀ t q, Z q → c t q = 0) : el c Z T 0 pv 0 (fun t => shr (c t)) c (fun M => if M = 0 then 1 else 0) 0 := by
  refine ⟨⟨Nat.zero_le _, by decide, dgW_0, by decide, fun q => ?_⟩, fun i hi => absurd hi (by omega), fun t _ ht => ⟨fun q hq => absurd hq (by omega), ?_⟩, fun t ht => ⟨hc t, shr_pz _, fun q _ hq => ?_⟩, fun y => ?_⟩
  · rw [Nat.zero_testBit]
    exact ⟨fun h => absurd h (by decide), fun ⟨i, hi, _⟩ => absurd hi (by omega)⟩
  · obtain ⟨g, g0, hg⟩ := shr_ex (c t)
    refine ⟨g, 1, g0, fun N hN => ?_⟩
    have := wd_comb (u := shr (c t)) (c := c t) (d := c t) (W := fun M => if M = 0 then 1 else 0) (g := g) (a := 1) (b := 0) (fun q hq => by rw [hg q hq]; omega) N hN
    rw [this, Int.zero_mul, Int.add_zero]
  · show c t q / _ = 0
    rw [hZ t q hq, Int.zero_ediv]
  · refine forall_congr' fun t => forall_congr' fun ht => ?_
    obtain ⟨g, g0, hg⟩ := shr_ex (c t)
    have e := zs_comb (u := shr (c t)) (c := c t) (d := c t) (y := y) (g := g) (a := 1) (b := 0) (fun q hq => by rw [hg q hq]; omega)
    rw [Int.zero_mul, Int.add_zero, Int.one_mul] at e
    rw [← e]
    exact ⟨fun h => by rw [h, Int.mul_zero], fun h => mz0 g0 h⟩
section ELIM
variable {c A cs : Nat → Nat → Int} {Z : Nat → Prop} {T k p P : Nat} {pv : Nat → Nat} {W : Nat → Int}
theorem el_bd (hT : T ≤ 8) (h : el c Z T k pv p A cs W P) (hp : p ≤ 10) : (∀ t q, t < T → q < 10 → (A t q).natAbs ≤ 10321920) ∧ ∀ i, i < k → (A i (pv i)).natAbs ∣ (W P).natAbs := by
  obtain ⟨⟨h1, h2, h3, h4, h5⟩, h6, h7, h8, h9⟩ := h
  have w0 : (W P).natAbs ≠ 0 := fun c => h4 (Int.natAbs_eq_zero.mp c)
  have orl : ∀ q, q < 10 → P ||| 2 ^ q < 2 ^ 10 := fun q hq => Nat.or_lt_two_pow h2 (Nat.pow_lt_pow_right (by decide) hq)
  have low : ∀ i, i < k → (A i (pv i)).natAbs ∣ (W P).natAbs ∧ ∀ q, q < 10 → (A i q).natAbs ≤ fc k := fun i hi => by
    obtain ⟨a1, a2, a3, a4⟩ := h6 i hi
    have hp1 : P.testBit (pv i) = true := (h5 _).mpr ⟨i, hi, rfl⟩
    have g1 : gz (A i) = 1 := ((h8 i (by omega)).2.1).resolve_left fun z => a2 (z _ (by omega))
    have key := pb (f := fun q => (A i q).natAbs) (D := (W P).natAbs) (a := (A i (pv i)).natAbs) (v := fun q => if q = pv i then (W P).natAbs else if P.testBit q = true then 0 else (W ((P ||| 2 ^ q) - 2 ^ pv i)).natAbs) g1 w0 (fun q hq => by
      show (W P).natAbs * (A i q).natAbs = (A i (pv i)).natAbs * (if q = pv i then (W P).natAbs else if P.testBit q = true then 0 else (W ((P ||| 2 ^ q) - 2 ^ pv i)).natAbs)
      by_cases e : q = pv i
      · rw [if_pos e, e, Nat.mul_comm]
      · rw [if_neg e]
        cases b : P.testBit q with
        | true =>
          obtain ⟨j, hj, ej⟩ := (h5 q).mp b
          have : A i q = 0 := by
            rw [← ej]
            exact a3 j hj fun c => e (by rw [← ej, c])
          rw [this, if_pos rfl]
          rfl
        | false =>
          rw [if_neg (by decide), Nat.mul_comm]
          refine wd_at2 (orl q hq) hq (by omega) b hp1 (fun s hs hne hb => ?_) (a4 _ (orl q hq))
          obtain ⟨j, hj, ej⟩ := (h5 s).mp hb
          rw [← ej]
          exact a3 j hj fun c => hne (by rw [← ej, c]))
    refine ⟨key.1, fun q hq => Nat.le_trans (key.2 q hq) ?_⟩
    show (if q = pv i then (W P).natAbs else if P.testBit q = true then 0 else (W ((P ||| 2 ^ q) - 2 ^ pv i)).natAbs) ≤ fc k
    split
    · exact h3.2 P h2
    · split
      · exact Nat.zero_le _
      · exact h3.2 _ (sbl (orl q hq))
  refine ⟨fun t q ht hq => ?_, fun i hi => (low i hi).1⟩
  by_cases g : t < k
  · exact Nat.le_trans ((low t g).2 q hq) (fc_8 k (by omega))
  · obtain ⟨a1, d, a, d0, a2⟩ := h7 t (by omega) ht
    obtain ⟨b1, b2, b3⟩ := h8 t ht
    rcases b2 with z | g1
    · rw [z q hq]
      exact Nat.zero_le _
    · have zP : ∀ s, s < 10 → P.testBit s = true → A t s = 0 := fun s hs hb => by
        obtain ⟨j, hj, ej⟩ := (h5 s).mp hb
        have := (h6 j hj).1
        exact a1 s (by omega)
      have key := pb (f := fun q => (A t q).natAbs) (D := d.natAbs * (W P).natAbs) (a := a.natAbs) (v := fun q => if P.testBit q = true then 0 else (wd 10 (cs t) W (P ||| 2 ^ q)).natAbs) g1 (Nat.mul_ne_zero (fun c => d0 (Int.natAbs_eq_zero.mp c)) w0) (fun q hq => by
        show d.natAbs * (W P).natAbs * (A t q).natAbs = a.natAbs * (if P.testBit q = true then 0 else (wd 10 (cs t) W (P ||| 2 ^ q)).natAbs)
        cases b : P.testBit q with
        | true =>
          rw [zP q hq b, if_pos rfl]
          rfl
        | false =>
          have e := congrArg Int.natAbs (a2 _ (orl q hq))
          rw [Int.natAbs_mul, Int.natAbs_mul, wd_at (orl q hq) hq b zP] at e
          rw [if_neg (by decide), ← e, Nat.mul_assoc, Nat.mul_comm (W P).natAbs])
      refine Nat.le_trans (key.2 q hq) ?_
      show (if P.testBit q = true then 0 else (wd 10 (cs t) W (P ||| 2 ^ q)).natAbs) ≤ 10321920
      split
      · exact Nat.zero_le _
      · exact Nat.le_trans ((dgW_s h3 b1).2 _ (orl q hq)) (fc_8 (k + 1) (by omega))
theorem el_no (h : el c Z T k pv p A cs W P) (hz : ∀ t, k ≤ t → t < T → A t p = 0) : el c Z T k pv (p + 1) A cs W P := by
  obtain ⟨h1, h6, h7, h8⟩ := h
  refine ⟨h1, fun i hi => ⟨by have := (h6 i hi).1; omega, (h6 i hi).2⟩, fun t ht ht2 => ⟨fun q hq => ?_, (h7 t ht ht2).2⟩, h8⟩
  by_cases e : q = p
  · rw [e]
    exact hz t ht ht2
  · exact (h7 t ht ht2).1 q (by omega)
/-- two rows exchanged -/
def swp (A : Nat → Nat → Int) (r k : Nat) : Nat → Nat → Int := fun t => if t = k then A r else if t = r then A k else A t
theorem swp_k {r : Nat} : swp A r k k = A r := if_pos rfl
theorem swp_o {r t : Nat} (h1 : t ≠ k) (h2 : t ≠ r) : swp A r k t = A t := by
  unfold swp
  rw [if_neg h1, if_neg h2]
theorem swp_r {r : Nat} : swp A r k r = A k := by
  unfold swp
  by_cases e : r = k
  · rw [if_pos e, e]
  · rw [if_neg e, if_pos rfl]
theorem el_sw {r : Nat} (h : el c Z T k pv p A cs W P) (hr : k ≤ r) (hrT : r < T) : el c Z T k pv p (swp A r k) (swp cs r k) W P := by
  obtain ⟨h1, h6, h7, h8, h9⟩ := h
  have all : ∀ Q : (Nat → Int) → (Nat → Int) → Prop, ∀ t, k ≤ t → t < T → (∀ t, k ≤ t → t < T → Q (A t) (cs t)) → Q (swp A r k t) (swp cs r k t) := fun Q t ht ht2 hQ => by
    by_cases e : t = k
    · rw [e, swp_k, swp_k]
      exact hQ r hr hrT
    · by_cases e2 : t = r
      · rw [e2, swp_r, swp_r]
        exact hQ k (Nat.le_refl _) (by omega)
      · rw [swp_o e e2, swp_o e e2]
        exact hQ t ht ht2
  refine ⟨h1, fun i hi => ?_, fun t ht ht2 => ?_, fun t ht => ?_, fun y => Iff.trans ?_ (h9 y)⟩
  · rw [swp_o (by omega) (by omega)]
    exact h6 i hi
  · exact all (fun u v => (∀ q, q < p → u q = 0) ∧ ∃ d a : Int, d ≠ 0 ∧ ∀ N, N < 2 ^ 10 → d * wd 10 u W N = a * wd 10 v W N) t ht ht2 h7
  · by_cases g : t < k
    · rw [swp_o (by omega) (by omega), swp_o (by omega) (by omega)]
      exact h8 t ht
    · exact all (fun u v => (∀ q, (v q).natAbs ≤ 2) ∧ pz u ∧ ∀ q, q < 10 → Z q → u q = 0) t (by omega) ht (fun t _ ht => h8 t ht)
  · constructor
    · intro hy t ht
      by_cases e : t = k
      · have := hy r hrT
        rw [swp_r] at this
        rw [e]
        exact this
      · by_cases e2 : t = r
        · have := hy k (by omega)
          rw [swp_k] at this
          rw [e2]
          exact this
        · have := hy t ht
          rw [swp_o e e2] at this
          exact this
    · intro hy t ht
      by_cases e : t = k
      · rw [e, swp_k]
        exact hy r hrT
      · by_cases e2 : t = r
        · rw [e2, swp_r]
          exact hy k (by omega)
        · rw [swp_o e e2]
          exact hy t ht
/-- row k is taken off another one -/
def tko (A : Nat → Nat → Int) (k p t : Nat) : Nat → Int := shr (fun q => A t q * A k p - A k q * A t p)
def nxt (A : Nat → Nat → Int) (k p t : Nat) : Nat → Int := if t ≠ k ∧ A t p ≠ 0 then tko A k p t else A t
theorem nxt_ex {t : Nat} (hk : A k p ≠ 0) (ht : t ≠ k) (hp : p < 10) (hz : pz (A t)) : ∃ g a b : Int, g ≠ 0 ∧ a ≠ 0 ∧ (∀ q, q < 10 → g * nxt A k p t q = a * A t q + b * A k q) ∧ nxt A k p t p = 0 ∧ pz (nxt A k p t) := by
  unfold nxt
  by_cases e : A t p ≠ 0
  · rw [if_pos ⟨ht, e⟩]
    obtain ⟨g, g0, hg⟩ := shr_ex (fun q => A t q * A k p - A k q * A t p)
    refine ⟨g, A k p, - A t p, g0, hk, fun q hq => ?_, ?_, shr_pz _⟩
    · show g * shr _ q = _
      rw [hg q hq, Int.mul_comm (A k p), Int.neg_mul, Int.mul_comm (A t p)]
      omega
    · have := hg p hp
      have z : A t p * A k p - A k p * A t p = 0 := by
        rw [Int.mul_comm]
        omega
      exact mz0 g0 (this.trans z)
  · rw [if_neg fun c => e c.2]
    refine ⟨1, 1, 0, by decide, by decide, fun q _ => by omega, Classical.byContradiction e, hz⟩
def pvs (pv : Nat → Nat) (k p i : Nat) : Nat := if i = k then p else pv i
theorem pvs_k : pvs pv k p k = p := if_pos rfl
theorem pvs_o {i : Nat} (h : i ≠ k) : pvs pv k p i = pv i := if_neg h
theorem el_yes (h : el c Z T k pv p A cs W P) (hk : A k p ≠ 0) (hkT : k < T) (hp : p < 10) : ∃ W' P', el c Z T (k + 1) (pvs pv k p) (p + 1) (nxt A k p) cs W' P' := by
  obtain ⟨⟨h1, h2, h3, h4, h5⟩, h6, h7, h8, h9⟩ := h
  have orl : P ||| 2 ^ p < 2 ^ 10 := Nat.or_lt_two_pow h2 (Nat.pow_lt_pow_right (by decide) hp)
  have pP : P.testBit p = false := by
    cases b : P.testBit p with
    | false => rfl
    | true =>
      obtain ⟨j, hj, ej⟩ := (h5 p).mp b
      have := (h6 j hj).1
      omega
  have nk : nxt A k p k = A k := if_neg fun c => c.1 rfl
  obtain ⟨kz, d, a, d0, kw⟩ := h7 k (Nat.le_refl _) hkT
  have ak0 : ∀ s, s < 10 → P.testBit s = true → A k s = 0 := fun s hs hb => by
    obtain ⟨j, hj, ej⟩ := (h5 s).mp hb
    have := (h6 j hj).1
    exact kz s (by omega)
  -- products vanish
  have van : ∀ u : Nat → Int, (∀ N, N < 2 ^ 10 → wd 10 u W N = 0) → ∀ N, N < 2 ^ 10 → wd 10 u (wd 10 (cs k) W) N = 0 := fun u hu N hN => by
    rw [wd_anti N hN, wd_cg (c := cs k) (d := cs k) (V := fun _ => 0) (fun _ _ => rfl) hu N hN, wd_0]
    rfl
  have two : ∀ t, ∀ d a : Int, (∀ N, N < 2 ^ 10 → d * wd 10 (A t) W N = a * wd 10 (cs t) W N) → ∀ N, N < 2 ^ 10 → d * wd 10 (A t) (wd 10 (cs k) W) N = a * wd 10 (cs t) (wd 10 (cs k) W) N := fun t d a hw N hN => by
    rw [wd_anti N hN, Int.mul_neg, ← wd_mulW, wd_cg (c := cs k) (d := cs k) (V := fun K => a * wd 10 (cs t) W K) (fun _ _ => rfl) hw N hN, wd_mulW, wd_anti N hN, Int.mul_neg, Int.neg_neg]
  have kvan : ∀ N, N < 2 ^ 10 → wd 10 (A k) (wd 10 (cs k) W) N = 0 := fun N hN => by
    have := two k d a kw N hN
    rw [wd_self hN, Int.mul_zero] at this
    exact mz0 d0 this
  refine ⟨wd 10 (cs k) W, P ||| 2 ^ p, ⟨hkT, orl, dgW_s h3 (h8 k hkT).1, fun c => ?_, fun q => ?_⟩, fun i hi => ?_, fun t ht ht2 => ?_, fun t ht => ?_, fun y => Iff.trans ?_ (h9 y)⟩
  · have := kw _ orl
    rw [c, Int.mul_zero] at this
    have := mz0 d0 this
    have e := wd_at (W := W) orl hp pP ak0
    rw [this] at e
    have e : 0 = (A k p).natAbs * (W P).natAbs := e
    rcases Nat.mul_eq_zero.mp e.symm with z | z
    · exact hk (Int.natAbs_eq_zero.mp z)
    · exact h4 (Int.natAbs_eq_zero.mp z)
  · rw [or_tb, Bool.or_eq_true, h5]
    constructor
    · rintro (⟨i, hi, ei⟩ | e)
      · exact ⟨i, by omega, (pvs_o (by omega)).trans ei⟩
      · exact ⟨k, by omega, pvs_k.trans (of_decide_eq_true e)⟩
    · rintro ⟨i, hi, ei⟩
      by_cases e : i = k
      · rw [e, pvs_k] at ei
        exact Or.inr (decide_eq_true ei)
      · rw [pvs_o e] at ei
        exact Or.inl ⟨i, by omega, ei⟩
  · by_cases e : i = k
    · rw [e, nk]
      refine ⟨by rw [pvs_k]; omega, by rw [pvs_k]; exact hk, fun j hj hne => ?_, kvan⟩
      rw [pvs_o hne]
      exact kz _ (h6 j (by omega)).1
    · obtain ⟨b1, b2, b3, b4⟩ := h6 i (by omega)
      obtain ⟨g, x, z, g0, x0, hg, hg2, hg3⟩ := nxt_ex (t := i) hk e hp (h8 i (by omega)).2.1
      have at0 : ∀ q, q < 10 → A k q = 0 → g * nxt A k p i q = x * A i q := fun q hq h0 => by
        rw [hg q hq, h0, Int.mul_zero, Int.add_zero]
      refine ⟨by rw [pvs_o e]; omega, ?_, fun j hj hne => ?_, fun N hN => ?_⟩
      · rw [pvs_o e]
        intro c
        have := at0 (pv i) (by omega) (kz _ b1)
        rw [c, Int.mul_zero] at this
        exact b2 (mz0 x0 this.symm)
      · by_cases ej : j = k
        · rw [ej, pvs_k]
          exact hg2
        · rw [pvs_o ej]
          have b := (h6 j (by omega)).1
          have := at0 (pv j) (by omega) (kz _ b)
          rw [b3 j (by omega) hne, Int.mul_zero] at this
          exact mz0 g0 this
      · have := wd_comb (W := wd 10 (cs k) W) hg N hN
        rw [van (A i) b4 N hN, kvan N hN, Int.mul_zero, Int.mul_zero] at this
        exact mz0 g0 this
  · have e : t ≠ k := by omega
    obtain ⟨b1, d', a', d0', b2⟩ := h7 t (by omega) ht2
    obtain ⟨g, x, z, g0, x0, hg, hg2, hg3⟩ := nxt_ex (t := t) hk e hp (h8 t ht2).2.1
    refine ⟨fun q hq => ?_, d' * g, x * a', Int.mul_ne_zero d0' g0, fun N hN => ?_⟩
    · by_cases eq : q = p
      · rw [eq]
        exact hg2
      · have := hg q (by omega)
        rw [b1 q (by omega), kz q (by omega), Int.mul_zero, Int.mul_zero] at this
        exact mz0 g0 this
    · have := wd_comb (W := wd 10 (cs k) W) hg N hN
      rw [kvan N hN, Int.mul_zero, Int.add_zero] at this
      rw [Int.mul_assoc, this, Int.mul_assoc, ← two t d' a' b2 N hN, Int.mul_left_comm]
  · refine ⟨(h8 t ht).1, ?_⟩
    by_cases e : t = k
    · rw [e, nk]
      exact (h8 k hkT).2
    · obtain ⟨g, x, z, g0, x0, hg, hg2, hg3⟩ := nxt_ex (t := t) hk e hp (h8 t ht).2.1
      refine ⟨hg3, fun q hq hZ => ?_⟩
      have := hg q hq
      rw [(h8 t ht).2.2 q hq hZ, (h8 k hkT).2.2 q hq hZ, Int.mul_zero, Int.mul_zero] at this
      exact mz0 g0 this
  · constructor
    · intro hy t ht
      have yk := hy k hkT
      rw [nk] at yk
      by_cases e : t = k
      · rw [e]
        exact yk
      · obtain ⟨g, x, z, g0, x0, hg, hg2, hg3⟩ := nxt_ex (t := t) hk e hp (h8 t ht).2.1
        have := zs_comb (y := y) hg
        rw [hy t ht, yk, Int.mul_zero, Int.mul_zero, Int.add_zero] at this
        exact mz0 x0 this.symm
    · intro hy t ht
      by_cases e : t = k
      · rw [e, nk]
        exact hy k hkT
      · obtain ⟨g, x, z, g0, x0, hg, hg2, hg3⟩ := nxt_ex (t := t) hk e hp (h8 t ht).2.1
        have := zs_comb (y := y) hg
        rw [hy t ht, hy k hkT, Int.mul_zero, Int.mul_zero] at this
        exact mz0 g0 this
end ELIM
