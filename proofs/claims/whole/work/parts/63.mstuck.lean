/-! SETS OF PLACES: the reference's stuck sets -/
theorem bs_trim {Q : Nat → Bool} {P : Nat} (h : ∀ p, P ≤ p → Q p = false) : ∀ k, bs Q (P + k) = bs Q P
  | 0 => rfl
  | k + 1 => by
    show bs Q (P + k) ||| cond (Q (P + k)) (2 ^ (P + k)) 0 = _
    rw [h (P + k) (by omega), bs_trim h k]
    exact Nat.or_zero _
theorem bs_mz {m : Nat → Nat} {c : Nat} (hw : m 0 ≤ 10) : bs (fun p => decide (mz m c p ≠ 0)) (m 0) = bs (fun p => decide (mz m c p ≠ 0)) 10 := by
  have := bs_trim (Q := fun p => decide (mz m c p ≠ 0)) (P := m 0) (fun p hp => by
    unfold mz
    rw [if_neg (by omega)]
    rfl) (10 - m 0)
  rw [show m 0 + (10 - m 0) = 10 by omega] at this
  exact this.symm
theorem bs_s {Q : Nat → Bool} {n : Nat} : bs Q (n + 1) = bs Q n ||| cond (Q n) (2 ^ n) 0 := rfl
/-- only the reference's sets -/
def fZ (I I' : Nat → Nat → Int32) : Prop := ∀ a k, (a < 83 ∨ 86 < a) → (a = 71 → k ≠ 22) → I' a k = I a k
theorem fZ_refl {I : Nat → Nat → Int32} : fZ I I := fun _ _ _ _ => rfl
theorem fZ_trans {I I1 I2 : Nat → Nat → Int32} (h : fZ I I1) (h2 : fZ I1 I2) : fZ I I2 := fun a k z1 z2 => (h2 a k z1 z2).trans (h a k z1 z2)
theorem fZ_up {I : Nat → Nat → Int32} {a k : Nat} {v : Int32} (h : 83 ≤ a ∧ a ≤ 86) : fZ I (km_up I a k v) := fun b j z _ => up_a (by omega)
theorem nN_Z {I I' : Nat → Nat → Int32} {m : Nat → Nat} (h : nN I m) (f : fZ I I') : nN I' m := fun k hk => (f 72 k (by omega) (fun e => absurd e (by decide))).trans (h k hk)
/-- what steps take from and give to, as the reference's sets -/
def rA (I : Nat → Nat → Int32) (m : Nat → Nat) : Prop := ∀ t, t < m 1 → I 83 t = nI (tS m t) ∧ I 84 t = nI (gS m t)
section MSTUCK
variable {I : Nat → Nat → Int32} {L : Nat → Nat → Int64} {q r1 r2 : Nat → Nat} {w : Bool} {K : km_K} {m : Nat → Nat}
theorem m_layArcs (hn : nN I m) (hw : wb m) (h : ∀ I', (∀ a k, a ≠ 83 → a ≠ 84 → I' a k = I a k) → rA I' m → K none (I', L, kr q w r1 r2)) : kC sh kp 117 [.ref 71] (I, L, kr q w r1 r2) K := by
  have w0 := hw.1
  have w1 := hw.2.1
  have e1 : ∀ I' : Nat → Nat → Int32, (∀ a k, a ≠ 83 → a ≠ 84 → I' a k = I a k) → ∀ k, k < 212 → I' 72 k = nI (m k) := fun I' f k hk => (f 72 k (by decide) (by decide)).trans (hn k hk)
  refine ⟨rfl, bM_layArcs_0 (up0 (Pr := fun t => ∀ I', (∀ a k, a ≠ 83 → a ≠ 84 → I' a k = I a k) → (∀ u, u < t → I' 83 u = nI (tS m u) ∧ I' 84 u = nI (gS m u)) → kW sh kp 117 2 [some (.ref 71), some (.int (nI t)), none] [] (I', L, kr q w r1 r2) K) (e := m 1) (fun I' f1 f2 => ?_) (fun t ht ih I' f1 f2 => ?_) I (fun _ _ _ _ => rfl) (fun u hu => absurd hu (by omega)))⟩
  · refine bM_layArcs_2 ⟨pk_in 1 212 (by decide), ?_⟩
    rw [cl1, e1 I' f1 1 (by decide)]
    exact pk_le (m 1) (m 1) (fun _ => bM_layArcs_116 (h I' f1 f2)) (fun y => absurd y (by omega))
  · have hv : vp_in (nI t) 8 := vp_in_nI (by omega) (by decide)
    refine bM_layArcs_2 ⟨pk_in 1 212 (by decide), ?_⟩
    rw [cl1, e1 I' f1 1 (by decide)]
    refine pk_le (m 1) t (fun y => absurd y (by omega)) (fun _ => bM_layArcs_12 ⟨hv, hv, ?_⟩)
    rw [nI_clamp (by omega)]
    refine up0 (Pr := fun p => ∀ I', (∀ a k, a ≠ 83 → a ≠ 84 → I' a k = I a k) → (∀ u, u < t → I' 83 u = nI (tS m u) ∧ I' 84 u = nI (gS m u)) → I' 83 t = nI (bs (fun p => decide (mz m (40 + 10 * t) p ≠ 0)) p) → I' 84 t = nI (bs (fun p => decide (mz m (120 + 10 * t) p ≠ 0)) p) → kW sh kp 117 28 [some (.ref 71), some (.int (nI t)), some (.int (nI p))] [] (I', L, kr q w r1 r2) K) (e := m 0) (fun I2 g1 g2 g3 g4 => ?_) (fun p hp ih2 I2 g1 g2 g3 g4 => ?_) _ (fun a k z1 z2 => by rw [up_a z2, up_a z1]; exact f1 a k z1 z2) (fun u hu => ?_) ?_ ?_
    · refine bM_layArcs_28 ⟨pk_in 0 212 (by decide), ?_⟩
      rw [cl0, e1 I2 g1 0 (by decide)]
      refine pk_le (m 0) (m 0) (fun _ => bM_layArcs_110 ?_) (fun y => absurd y (by omega))
      rw [nI_1]
      refine ih I2 g1 (fun u hu => ?_)
      by_cases e : u = t
      · rw [e, g3, g4, bs_mz w0, bs_mz w0]
        exact ⟨rfl, rfl⟩
      · exact g2 u (by omega)
    · refine bM_layArcs_28 ⟨pk_in 0 212 (by decide), ?_⟩
      rw [cl0, e1 I2 g1 0 (by decide)]
      refine pk_le (m 0) p (fun y => absurd y (by omega)) (fun _ => bM_layArcs_38 ⟨hv, ?_, ?_⟩)
      · rw [ix_tk]
        exact vp_in_nI (by omega) (by decide)
      have w5 := hw.2.2.2.2.2.1 t p (by omega) (by omega)
      have ez : ∀ c, mz m c p = m (c + p) := fun c => if_pos hp
      rw [ix_tk, nI_clamp (show 40 + 10 * t + p < 2 ^ 31 by omega), e1 I2 g1 _ (by omega), nI_clamp (show t < 2 ^ 31 by omega), g3]
      -- the second half
      have two : ∀ (v : Nat) (x : Nat), v = cond (decide (mz m (40 + 10 * t) p ≠ 0)) (2 ^ p) 0 → x = bs (fun p => decide (mz m (40 + 10 * t) p ≠ 0)) p → kW sh kp 117 69 [some (.ref 71), some (.int (nI t)), some (.int (nI p))] [.int (nI v), .int (nI x), .int (nI t), .ref 83] (I2, L, kr q w r1 r2) K := fun v x hv2 hx => bM_layArcs_69 (by
        rw [ix_gv, nI_clamp (show 120 + 10 * t + p < 2 ^ 31 by omega), nI_clamp (show t < 2 ^ 31 by omega), fa_or]
        have eg : ∀ k, km_up I2 83 t (nI (x ||| v)) 72 k = I2 72 k := fun k => up_a (by decide)
        rw [eg, e1 I2 g1 _ (by omega), up_a (show (84 : Nat) ≠ 83 by decide), g4]
        refine ⟨rfl, hv, hv, vp_in_nI (by omega) (by decide), ?_⟩
        have three : ∀ (y u : Nat), y = cond (decide (mz m (120 + 10 * t) p ≠ 0)) (2 ^ p) 0 → u = bs (fun p => decide (mz m (120 + 10 * t) p ≠ 0)) p → kW sh kp 117 102 [some (.ref 71), some (.int (nI t)), some (.int (nI p))] [.int (nI y), .int (nI u), .int (nI t), .ref 84] (km_up I2 83 t (nI (x ||| v)), L, kr q w r1 r2) K := fun y u hy hu => bM_layArcs_102 (by
          rw [nI_clamp (show t < 2 ^ 31 by omega), fa_or, nI_1]
          refine ⟨rfl, hv, ih2 _ (fun a k z1 z2 => by rw [up_a z2, up_a z1]; exact g1 a k z1 z2) (fun u hu => ?_) ?_ ?_⟩
          · rw [up_a (show (83 : Nat) ≠ 84 by decide), up_k (by omega), up_k (by omega), up_a (show (84 : Nat) ≠ 83 by decide)]
            exact g2 u hu
          · rw [up_a (by decide), up_s, bs_s, hx, hv2]
          · rw [up_s, bs_s, hu, hy])
        refine pk_le (m (120 + 10 * t + p)) 0 (fun y => bM_layArcs_101 (three 0 _ ?_ rfl)) (fun y => bM_layArcs_95 ?_)
        · rw [decide_eq_false (fun c => c (by rw [ez]; omega))]
          rfl
        · rw [sh1 p (by omega)]
          exact three (2 ^ p) _ (by rw [decide_eq_true (by rw [ez]; omega)]; rfl) rfl)
      refine pk_le (m (40 + 10 * t + p)) 0 (fun y => bM_layArcs_68 (two 0 _ ?_ rfl)) (fun y => bM_layArcs_62 ?_)
      · rw [decide_eq_false (fun c => c (by rw [ez]; omega))]
        rfl
      · rw [sh1 p (by omega)]
        exact two (2 ^ p) _ (by rw [decide_eq_true (by rw [ez]; omega)]; rfl) rfl
    · rw [up_a (show (83 : Nat) ≠ 84 by decide), up_k (by omega), up_k (by omega), up_a (show (84 : Nat) ≠ 83 by decide)]
      exact f2 u hu
    · rw [up_a (by decide), up_s]
      rfl
    · rw [up_s]
      rfl
theorem m_held {S : Nat} (hn : nN I m) (hs : m 1 ≤ 8) (hS : S < 1024) (hA : rA I m) (h : K (some (.int (nI (hld m S)))) (I, L, kr q w r1 r2)) : kC sh kp 120 [.ref 71, .int (nI S)] (I, L, kr q w r1 r2) K := by
  have hd : hld m S = orr (fun T => cond (Nat.beq (T &&& S) T && sip (gS m) (tS m) (m 1) T) T 0) (S + 1) := rfl
  rw [hd] at h
  refine ⟨rfl, bM_held_0 (up0 (Pr := fun T => kW sh kp 120 4 [some (.ref 71), some (.int (nI S)), some (.int (nI (orr (fun T => cond (Nat.beq (T &&& S) T && sip (gS m) (tS m) (m 1) T) T 0) T))), some (.int (nI T))] [] (I, L, kr q w r1 r2) K) (e := S + 1) ?_ (fun T hT ih => ?_))⟩
  · exact bM_held_4 (pk_lt S (S + 1) (fun _ => bM_held_39 h) (fun y => absurd y (by omega)))
  · have go : ∀ v : Nat, v = cond (Nat.beq (T &&& S) T && sip (gS m) (tS m) (m 1) T) T 0 → kW sh kp 120 31 [some (.ref 71), some (.int (nI S)), none, some (.int (nI T))] [.int (nI v), .int (nI (orr (fun T => cond (Nat.beq (T &&& S) T && sip (gS m) (tS m) (m 1) T) T 0) T))] (I, L, kr q w r1 r2) K := fun v hv => bM_held_31 (by
      rw [fa_or, nI_1, hv]
      exact ih)
    refine bM_held_4 (pk_lt S T (fun y => absurd y (by omega)) (fun _ => bM_held_9 ⟨fun y => bM_held_30 (go 0 ?_), fun y => bM_held_18 (m_isKept (ti := tS m) (gi := gS m) hn hs (fun t => tS_lt) hA (bM_held_23 (cb0 (fun e => bM_held_26 (go T ?_)) (fun e => bM_held_30 (go 0 ?_)))))⟩))
    · cases e : Nat.beq (T &&& S) T with
      | false => rfl
      | true => exact absurd ((cmp_0 (by omega)).mpr (Nat.eq_of_beq_eq_true e)) y
    · rw [(cmp_0 (by omega)).mp y, Nat.beq_refl, e]
      rfl
    · rw [e, Bool.and_false]
      rfl
theorem m_sizeOf {S : Nat} (hS : S < 1024) (h : K (some (.int (nI (szS S)))) (I, L, kr q w r1 r2)) : kC sh kp 107 [.int (nI S)] (I, L, kr q w r1 r2) K := by
  refine ⟨rfl, bM_sizeOf_0 (up0 (Pr := fun i => kW sh kp 107 4 [some (.int (nI S)), some (.int (nI (cn (fun p => S.testBit p) i))), some (.int (nI i))] [] (I, L, kr q w r1 r2) K) (e := 10) ?_ (fun i hi ih => ?_))⟩
  · exact bM_sizeOf_4 (pk_le 10 10 (fun _ => bM_sizeOf_32 h) (fun y => absurd y (by omega)))
  · rw [cn_s] at ih
    refine bM_sizeOf_4 (pk_le 10 i (fun y => absurd y (by omega)) (fun _ => bM_sizeOf_10 (m_has (by omega) (by omega) (bM_sizeOf_16 (cb0 (fun e => bM_sizeOf_19 (bM_sizeOf_24 ?_)) (fun e => bM_sizeOf_23 (bM_sizeOf_24 ?_)))))))
    · rw [nI_1, nI_1]
      rw [e] at ih
      exact ih
    · rw [fa_lit 0, nI_add, nI_1]
      rw [e] at ih
      exact ih
theorem m_isLeast {S : Nat} (hS : S < 2 ^ m 0) (h0 : 1 ≤ S) (hw : m 0 ≤ 10) (hT : ∀ T, 1 ≤ T → T < 2 ^ m 0 → I 85 T = cond (sp m T) 1 0) (h : K (some (.int (cond (mns m S) 1 0))) (I, L, kr q w r1 r2)) : kC sh kp 121 [.ref 71, .int (nI S)] (I, L, kr q w r1 r2) K := by
  have p := p2_le hw
  refine ⟨rfl, bM_isLeast_0 ?_⟩
  rw [nI_clamp (by omega), hT S h0 hS]
  refine ⟨vp_in_nI (by omega) (by decide), ?_⟩
  cases es : sp m S with
  | false =>
    have e : mns m S = false := by
      cases e : mns m S with
      | false => rfl
      | true =>
        rw [(mns_iff.mp e).2.1] at es
        exact absurd es (by decide)
    rw [e] at h
    exact bM_isLeast_9 ⟨fun _ => bM_isLeast_47 ⟨Or.inl rfl, h⟩, fun y => absurd rfl y⟩
  | true =>
    have key := up0 (Pr := fun i => (∀ T, 1 ≤ T → T < 1 + i → T &&& S = T → sp m T = false) → kW sh kp 121 9 [some (.ref 71), some (.int (nI S)), some (.int 1), some (.int (nI (1 + i)))] [] (I, L, kr q w r1 r2) K) (e := S - 1) (fun g => ?_) (fun i hi ih g => ?_) (fun T h1 h2 _ => absurd h2 (by omega))
    · exact key
    · have e : mns m S = true := mns_iff.mpr ⟨by omega, es, fun T h1 h2 h3 => g T (by omega) (by omega) h3⟩
      rw [e] at h
      exact bM_isLeast_9 ⟨fun y => absurd y (by decide), fun _ => bM_isLeast_13 (pk_le S (1 + (S - 1)) (fun _ => bM_isLeast_47 ⟨Or.inr rfl, h⟩) (fun y => absurd y (by omega)))⟩
    · have yes : ¬ ((1 + i) &&& S = 1 + i ∧ sp m (1 + i) = true) → kW sh kp 121 35 [some (.ref 71), some (.int (nI S)), none, some (.int (nI (1 + i)))] [] (I, L, kr q w r1 r2) K := fun c => bM_isLeast_35 (bM_isLeast_40 (by
        rw [nI_1]
        refine ih fun T h1 h2 h3 => ?_
        by_cases e : T = 1 + i
        · rw [e] at h3 ⊢
          cases g2 : sp m (1 + i) with
          | false => rfl
          | true => exact absurd ⟨h3, g2⟩ c
        · exact g T h1 (by omega) h3))
      refine bM_isLeast_9 ⟨fun y => absurd y (by decide), fun _ => bM_isLeast_13 (pk_le S (1 + i) (fun y => absurd y (by omega)) (fun _ => bM_isLeast_18 ⟨fun y => yes fun c => y ((cmp_0 (by omega)).mpr c.1), fun y => bM_isLeast_26 ?_⟩))⟩
      rw [nI_clamp (by omega), hT (1 + i) (by omega) (by omega)]
      refine ⟨vp_in_nI (by omega) (by decide), cb1 (fun e => bM_isLeast_39 (bM_isLeast_40 ?_)) (fun e => yes fun c => by rw [e] at c; exact absurd c.2 (by decide))⟩
      have e : mns m S = false := by
        cases e2 : mns m S with
        | false => rfl
        | true =>
          have := (mns_iff.mp e2).2.2 (1 + i) (by omega) (by omega) ((cmp_0 (by omega)).mp y)
          rw [e] at this
          exact absurd this (by decide)
      rw [e] at h
      exact bM_isLeast_9 ⟨fun _ => bM_isLeast_47 ⟨Or.inl rfl, h⟩, fun y => absurd rfl y⟩
/-- one size: every set in its turn -/
theorem m_lay_in {z : Nat} (hw : m 0 ≤ 10) (hz : 1 ≤ z) (hz2 : z ≤ 10) (hn : nN I m) (hT : ∀ T, 1 ≤ T → T < 2 ^ m 0 → I 85 T = cond (sp m T) 1 0) (h : ∀ I', (∀ a k, a ≠ 86 → (a = 71 → k ≠ 22) → I' a k = I a k) → I' 71 22 = nI (sl m (z + 1)).length → lsI I' 86 (sl m (z + 1)) → kW sh kp 122 100 [some (.ref 71), some (.int (nI z)), none] [] (I', L, kr q w r1 r2) K) : ∀ k n I', n + k = 2 ^ m 0 → 1 ≤ n → (∀ a k, a ≠ 86 → (a = 71 → k ≠ 22) → I' a k = I a k) → I' 71 22 = nI (sl m z ++ slw m z n).length → lsI I' 86 (sl m z ++ slw m z n) → kW sh kp 122 50 [some (.ref 71), some (.int (nI z)), some (.int (nI n))] [] (I', L, kr q w r1 r2) K
  | 0, n, I', hk, h1, f1, f2, f3 => by
    have p := p2_le hw
    have e : n = 2 ^ m 0 := by omega
    rw [e, ← sl_s] at f2 f3
    have n' : nN I' m := fun k hk => (f1 72 k (by decide) (fun e => absurd e (by decide))).trans (hn k hk)
    exact bM_layStucks_50 (m_placesSet n' hw (bM_layStucks_55 (pk_lt (2 ^ m 0 - 1) n (fun _ => h I' f1 f2 f3) (fun y => absurd y (by omega)))))
  | k + 1, n, I', hk, h1, f1, f2, f3 => by
    have p := p2_le hw
    have n' : nN I' m := fun k hk => (f1 72 k (by decide) (fun e => absurd e (by decide))).trans (hn k hk)
    have ih := m_lay_in hw hz hz2 hn hT h k (n + 1)
    rw [slw_s] at ih
    have pass : (Nat.beq (szS n) z && mns m n) = false → kW sh kp 122 94 [some (.ref 71), some (.int (nI z)), some (.int (nI n))] [] (I', L, kr q w r1 r2) K := fun e => bM_layStucks_94 (by
      rw [if_neg (by rw [e]; decide), List.append_nil] at ih
      rw [nI_1]
      exact ih I' (by omega) (by omega) f1 f2 f3)
    have hsz := szS_10 (S := n)
    refine bM_layStucks_50 (m_placesSet n' hw (bM_layStucks_55 (pk_lt (2 ^ m 0 - 1) n (fun y => absurd y (by omega)) (fun _ => bM_layStucks_58 (m_sizeOf (by omega) (bM_layStucks_62 (pk_eq (szS n) z (fun y => bM_layStucks_66 ?_) (fun y => pass ?_)).symm))))))
    · refine m_isLeast (m := m) (by omega) h1 hw (fun T t1 t2 => (f1 85 T (by decide) (fun e => absurd e (by decide))).trans (hT T t1 t2)) (bM_layStucks_71 (cb0 (fun e => bM_layStucks_74 ?_) (fun e => pass (by rw [e, Bool.and_false]))))
      have hr := slw_room (m := m) (z := z) (n := n + 1) hw (by omega)
      have eb : (Nat.beq (szS n) z && mns m n) = true := by
        rw [beq_iff.mpr y, e]
        rfl
      rw [slw_s, if_pos eb, ← List.append_assoc, List.length_append] at hr
      have hr : (sl m z ++ slw m z n).length + 1 ≤ 252 := hr
      rw [if_pos eb, ← List.append_assoc, List.length_append] at ih
      generalize sl m z ++ slw m z n = u at ih f2 f3 hr
      rw [f2, nI_clamp (by omega), up_a (show (71 : Nat) ≠ 86 by decide), f2, nI_1]
      refine ⟨vp_in_nI (by omega) (by decide), bM_layStucks_94 ?_⟩
      rw [nI_1]
      refine ih _ (by omega) (by omega) (fun a k z1 z2 => ?_) up_s (lsI_fr (lsI_snoc f3) (fun k => up_a (by decide)))
      have : km_up (km_up I' 86 u.length (nI n)) 71 22 (nI (u.length + 1)) a k = I' a k := by
        by_cases e : a = 71
        · rw [up_k (z2 e), up_a z1]
        · rw [up_a e, up_a z1]
      rw [this]
      exact f1 a k z1 z2
    · cases e : Nat.beq (szS n) z with
      | false => rfl
      | true => exact absurd (Nat.eq_of_beq_eq_true e) y
theorem m_lay_out (hw : m 0 ≤ 10) (hn : nN I m) (hT : ∀ T, 1 ≤ T → T < 2 ^ m 0 → I 85 T = cond (sp m T) 1 0) (h : ∀ I', (∀ a k, a ≠ 86 → (a = 71 → k ≠ 22) → I' a k = I a k) → I' 71 22 = nI (sil m).length → lsI I' 86 (sil m) → K none (I', L, kr q w r1 r2)) : ∀ k z I', z + k = m 0 + 1 → 1 ≤ z → (∀ a k, a ≠ 86 → (a = 71 → k ≠ 22) → I' a k = I a k) → I' 71 22 = nI (sl m z).length → lsI I' 86 (sl m z) → kW sh kp 122 38 [some (.ref 71), some (.int (nI z)), none] [] (I', L, kr q w r1 r2) K
  | 0, z, I', hk, h1, f1, f2, f3 => by
    have e : z = m 0 + 1 := by omega
    have n' : nN I' m := fun k hk => (f1 72 k (by decide) (fun e => absurd e (by decide))).trans (hn k hk)
    refine bM_layStucks_38 ⟨pk_in 0 212 (by decide), ?_⟩
    rw [e, sl_sil hw] at f2 f3
    rw [cl0, n' 0 (by decide)]
    exact pk_lt (m 0) z (fun _ => bM_layStucks_106 (h I' f1 f2 f3)) (fun y => absurd y (by omega))
  | k + 1, z, I', hk, h1, f1, f2, f3 => by
    have p := p2_le hw
    have n' : nN I' m := fun k hk => (f1 72 k (by decide) (fun e => absurd e (by decide))).trans (hn k hk)
    refine bM_layStucks_38 ⟨pk_in 0 212 (by decide), ?_⟩
    rw [cl0, n' 0 (by decide)]
    refine pk_lt (m 0) z (fun y => absurd y (by omega)) (fun _ => bM_layStucks_48 ?_)
    have e1 : slw m z 1 = [] := by
      rw [slw_s, if_neg (by rw [mns_0, Bool.and_false]; decide)]
      rfl
    refine m_lay_in (I := I') (z := z) hw h1 (by omega) n' (fun T t1 t2 => (f1 85 T (by decide) (fun e => absurd e (by decide))).trans (hT T t1 t2)) (fun I2 g1 g2 g3 => bM_layStucks_100 ?_) (2 ^ m 0 - 1) 1 I' (by omega) (Nat.le_refl _) (fun _ _ _ _ => rfl) (by rw [e1, List.append_nil]; exact f2) (by rw [e1, List.append_nil]; exact f3)
    rw [nI_1]
    exact m_lay_out hw hn hT h k (z + 1) I2 (by omega) (by omega) (fun a k z1 z2 => (g1 a k z1 z2).trans (f1 a k z1 z2)) g2 g3
theorem m_layStucks (hn : nN I m) (hw : wb m) (h : ∀ I', fZ I I' → rA I' m → I' 71 22 = nI (sil m).length → lsI I' 86 (sil m) → K none (I', L, kr q w r1 r2)) : kC sh kp 122 [.ref 71] (I, L, kr q w r1 r2) K := by
  have w0 := hw.1
  have w1 := hw.2.1
  have p := p2_le w0
  refine ⟨rfl, bM_layStucks_0 (m_layArcs hn hw fun I1 g1 g2 => bM_layStucks_4 ?_)⟩
  have n1 : nN I1 m := fun k hk => (g1 72 k (by decide) (by decide)).trans (hn k hk)
  have key := up0 (Pr := fun i => ∀ I', (∀ a k, a ≠ 85 → I' a k = I1 a k) → (∀ T, 1 ≤ T → T < 1 + i → I' 85 T = cond (sp m T) 1 0) → kW sh kp 122 6 [some (.ref 71), some (.int (nI (1 + i))), none] [] (I', L, kr q w r1 r2) K) (e := 2 ^ m 0 - 1) (fun I2 j1 j2 => ?_) (fun i hi ih I2 j1 j2 => ?_) I1 (fun _ _ _ => rfl) (fun T t1 t2 => absurd t2 (by omega))
  · exact key
  · have n2 : nN I2 m := fun k hk => (j1 72 k (by decide)).trans (n1 k hk)
    refine bM_layStucks_6 (m_placesSet n2 w0 (bM_layStucks_11 (pk_lt (2 ^ m 0 - 1) (1 + (2 ^ m 0 - 1)) (fun _ => bM_layStucks_31 ?_) (fun y => absurd y (by omega)))))
    have fu : ∀ a k, (a = 71 → k ≠ 22) → km_up I2 71 22 0 a k = I2 a k := fun a k z => by
      by_cases e : a = 71
      · exact up_k (z e)
      · exact up_a e
    refine m_lay_out (I := km_up I2 71 22 0) w0 (fun k hk => (fu 72 k (fun e => absurd e (by decide))).trans (n2 k hk)) (fun T t1 t2 => (fu 85 T (fun e => absurd e (by decide))).trans (j2 T t1 (by omega))) (fun I3 k1 k2 k3 => h I3 (fun a k z1 z2 => ?_) (fun t ht => ⟨?_, ?_⟩) k2 k3) (m 0) 1 _ (by omega) (Nat.le_refl _) (fun _ _ _ _ => rfl) ?_ ?_
    · rw [k1 a k (by omega) z2, fu a k z2, j1 a k (by omega), g1 a k (by omega) (by omega)]
    · rw [k1 83 t (by decide) (fun e => absurd e (by decide)), fu 83 t (fun e => absurd e (by decide)), j1 83 t (by decide)]
      exact (g2 t ht).1
    · rw [k1 84 t (by decide) (fun e => absurd e (by decide)), fu 84 t (fun e => absurd e (by decide)), j1 84 t (by decide)]
      exact (g2 t ht).2
    · rw [up_s, sl_1 w0]
      rfl
    · rw [sl_1 w0]
      exact fun k hk => absurd hk (by show ¬ k < 0; omega)
  · have n2 : nN I2 m := fun k hk => (j1 72 k (by decide)).trans (n1 k hk)
    have A2 : rA I2 m := fun t ht => ⟨(j1 83 t (by decide)).trans (g2 t ht).1, (j1 84 t (by decide)).trans (g2 t ht).2⟩
    refine bM_layStucks_6 (m_placesSet n2 w0 (bM_layStucks_11 (pk_lt (2 ^ m 0 - 1) (1 + i) (fun y => absurd y (by omega)) (fun _ => bM_layStucks_14 (m_isStuck (ti := tS m) (gi := gS m) n2 w1 (fun t => tS_lt) A2 (bM_layStucks_24 ?_))))))
    rw [nI_clamp (by omega), nI_1]
    refine ⟨rfl, vp_in_nI (show 1 + i < 1024 by omega) (by decide), cb01, ih _ (fun a k z => by rw [up_a z]; exact j1 a k z) (fun T t1 t2 => ?_)⟩
    by_cases e : T = 1 + i
    · rw [e, up_s]
      rfl
    · rw [up_k e]
      exact j2 T t1 (by omega)
end MSTUCK
