/-! SUMS: the reference finds all of them -/
/-- the free places -/
def fre (S : Nat) (pv : Nat → Nat) : Nat → Nat
  | 0 => S
  | i + 1 => cmp (fre S pv i) (2 ^ pv i)
theorem fre_le {S : Nat} {pv : Nat → Nat} : ∀ i, fre S pv i ≤ S
  | 0 => Nat.le_refl _
  | i + 1 => Nat.le_trans cmp_le (fre_le i)
theorem fre_tb {S q : Nat} {pv : Nat → Nat} (hS : S < 1024) : ∀ i, (fre S pv i).testBit q = true ↔ S.testBit q = true ∧ ∀ j, j < i → pv j ≠ q
  | 0 => ⟨fun h => ⟨h, fun j hj => absurd hj (by omega)⟩, fun h => h.1⟩
  | i + 1 => by
    show (cmp (fre S pv i) (2 ^ pv i)).testBit q = true ↔ _
    have hl := fre_le (S := S) (pv := pv) i
    rw [cmp_tb (by omega), Nat.testBit_two_pow, Bool.and_eq_true, fre_tb hS i]
    constructor
    · intro ⟨⟨h1, h2⟩, h3⟩
      refine ⟨h1, fun j hj => ?_⟩
      by_cases e : j = i
      · rw [e]
        intro c
        rw [decide_eq_true c] at h3
        exact absurd h3 (by decide)
      · exact h2 j (by omega)
    · intro ⟨h1, h2⟩
      refine ⟨⟨h1, fun j hj => h2 j (by omega)⟩, ?_⟩
      rw [decide_eq_false (h2 i (by omega))]
      rfl
theorem isv_w {m : Nat → Nat} {S : Nat} (hw : wb m) (h : isv m S) : ray (Kc m (m 1)) (ivw m S) ∧ spt (ivw m S) = S ∧ ∀ p, ivw m S p ≤ 10321920 := by
  have h1 := Classical.epsilon_spec (p := fun x => elm m (m 1) x ∧ spt x = S) h
  have h2 := elm_ray.mp h1.1
  exact ⟨h2, h1.2, ray_le hw hw.2.1 h2⟩
section MSUM
variable {I : Nat → Nat → Int32} {L : Nat → Nat → Int64} {q r1 r2 : Nat → Nat} {w : Bool} {K : km_K} {m : Nat → Nat}
theorem lg_l0 {x : Int} (h : x.natAbs < 2 ^ 62) : lg_cmp (lZ x) 0 ≤ 0 ↔ x ≤ 0 := by
  rw [lg_le, lZ_i h]
  exact Iff.rfl
theorem lg_g0 {x : Int} (h : x.natAbs < 2 ^ 62) : 0 ≤ lg_cmp (lZ x) 0 ↔ 0 ≤ x := by
  rw [lg_ge, lZ_i h]
  exact Iff.rfl
/-- the weights are laid -/
theorem m_weights {S k l D P : Nat} {pv : Nat → Nat} {A : Nat → Nat → Int} (hw : wb m) (h0 : sv m S k pv A D P) (hl : l < 10) (hA : rwL L A (m 1)) (hp : ∀ i, i < k → I 79 i = nI (pv i)) (h : ∀ L', (∀ a j, a ≠ 80 → L' a j = L a j) → (∀ s, s < 10 → L' 80 s = lZ (kv A pv l (lcz A pv k : Int) k s)) → K (some (.int 1)) (I, L', kr q w r1 r2)) : kW sh kp 108 184 [some (.ref 71), none, some (.int (nI k)), none, some (.int (nI l)), some (.long (lN (lcz A pv k))), none, none, none, none, none, none] [] (I, L, kr q w r1 r2) K := by
  have w0 := hw.1
  have w1 := hw.2.1
  have kT := h0.1.1
  have lc := sv_lc h0 (Nat.le_refl k)
  refine bM_isSum_184 (up0 (Pr := fun p => ∀ L', (∀ a j, a ≠ 80 → L' a j = L a j) → (∀ s, s < p → L' 80 s = 0) → kW sh kp 108 187 [some (.ref 71), none, some (.int (nI k)), none, some (.int (nI l)), some (.long (lN (lcz A pv k))), none, some (.int (nI p)), none, none, none, none] [] (I, L', kr q w r1 r2) K) (e := 10) (fun L' f1 f2 => ?_) (fun p hp ih L' f1 f2 => ?_) L (fun _ _ _ => rfl) (fun s hs => absurd hs (by omega)))
  · refine bM_isSum_187 (pk_le 10 10 (fun _ => bM_isSum_208 ?_) (fun y => absurd y (by omega)))
    rw [nI_clamp (by omega)]
    refine ⟨vp_in_nI hl (by decide), up0 (Pr := fun i => ∀ L', (∀ a j, a ≠ 80 → L' a j = L a j) → (∀ s, s < 10 → L' 80 s = lZ (kv A pv l (lcz A pv k : Int) i s)) → kW sh kp 108 220 [some (.ref 71), none, some (.int (nI k)), none, some (.int (nI l)), some (.long (lN (lcz A pv k))), none, some (.int (nI i)), none, none, none, none] [] (I, L', kr q w r1 r2) K) (e := k) (fun L2 g1 g2 => ?_) (fun i hi ih L2 g1 g2 => ?_) _ (fun a j z => by rw [up_a z]; exact f1 a j z) (fun s hs => ?_)⟩
    · exact bM_isSum_220 (pk_le k k (fun _ => bM_isSum_280 (h L2 g1 g2)) (fun y => absurd y (by omega)))
    · obtain ⟨a1, a2, a3, a4, a5, a6, a7⟩ := h0.2.1 i hi
      have b1 := h0.2.2.1 i (pv i) (by omega) (by omega)
      have b2 := h0.2.2.1 i l (by omega) hl
      refine bM_isSum_220 (pk_le k i (fun y => absurd y (by omega)) (fun _ => bM_isSum_226 ?_))
      rw [nI_clamp (show i < 2 ^ 31 by omega), hp i hi, ix_r, ix_r, nI_clamp (show 10 * i + l < 2 ^ 31 by omega), nI_clamp (show 10 * i + pv i < 2 ^ 31 by omega), nI_clamp (show pv i < 2 ^ 31 by omega), g1 78 _ (by decide), g1 78 _ (by decide), hA i l (by omega) hl, hA i (pv i) (by omega) (by omega), nI_1, lZ_neg (by omega), ← lZ_n (by omega), lZ_div (by rw [Int.natAbs_natCast]; omega) (by omega) (dvn (lcz_of k i hi)), lZ_mul]
      refine ⟨vp_in_nI (by omega) (by decide), vp_in_nI (by omega) (by decide), vp_in_nI (by omega) (by decide), vp_in_nI (by omega) (by decide), fun c => a3 ((lZ_0 (by omega)).mp c), vp_in_nI (by omega) (by decide), ?_⟩
      rw [lZ_n (by omega)]
      refine ih _ (fun a j z => by rw [up_a z]; exact g1 a j z) (fun s hs => ?_)
      show _ = lZ (if s = pv i then - A i l * ((lcz A pv k : Int) / A i (pv i)) else kv A pv l (lcz A pv k : Int) i s)
      by_cases e : s = pv i
      · rw [e, up_s, if_pos rfl]
      · rw [up_k e, if_neg e]
        exact g2 s hs
    · show _ = lZ (if s = l then (lcz A pv k : Int) else 0)
      by_cases e : s = l
      · rw [e, up_s, if_pos rfl, lZ_n (by omega)]
      · rw [up_k e, if_neg e, f2 s hs]
        rfl
  · refine bM_isSum_187 (pk_le 10 p (fun y => absurd y (by omega)) (fun _ => bM_isSum_194 ?_))
    rw [nI_clamp (by omega), nI_1]
    refine ⟨vp_in_nI hp (by decide), ih _ (fun a j z => by rw [up_a z]; exact f1 a j z) (fun s hs => ?_)⟩
    by_cases e : s = p
    · rw [e, up_s]
    · rw [up_k e]
      exact f2 s (by omega)
theorem m_isSum {S : Nat} (hn : nN I m) (hw : wb m) (hS : S < 2 ^ m 0) (h0 : ∀ I' L', fPv I I' → (∀ a j, a ≠ 78 → a ≠ 80 → L' a j = L a j) → ¬ isv m S → K (some (.int 0)) (I', L', kr q w r1 r2)) (h1 : ∀ I' L', fPv I I' → (∀ a j, a ≠ 78 → a ≠ 80 → L' a j = L a j) → isv m S → (∀ s, s < 10 → L' 80 s = lN (ivw m S s)) → K (some (.int 1)) (I', L', kr q w r1 r2)) : kC sh kp 108 [.ref 71, .int (nI S)] (I, L, kr q w r1 r2) K := by
  have w0 := hw.1
  have w1 := hw.2.1
  have S10 : S < 1024 := by
    have := p2_le w0
    omega
  refine ⟨rfl, bM_isSum_0 (m_solves hn hw hS fun I' L' k pv A D P f1 f2 f3 f4 f5 => bM_isSum_5 (m_sizeOf S10 (bM_isSum_11 ?_)))⟩
  have kT := f5.1.1
  have sz := szS_10 (S := S)
  have kS : k ≤ szS S := by
    have cnt := cn_dif (Q := fun q => S.testBit q) (R := fun q => P.testBit q) (fun q hq => sv_sub f5 hq) 10
    have e1 : cn (fun q => S.testBit q) 10 = szS S := rfl
    rw [e1, f5.1.2.2.2.1] at cnt
    omega
  have no : ¬ isv m S → K (some (.int 0)) (I', L', kr q w r1 r2) := fun e => h0 I' L' f1 (fun a j z _ => f2 a j z) e
  by_cases ek : k + 1 = szS S
  · have es : nI k = nI (szS S) - 1 := by
      rw [← ek, ← nI_1]
      exact (Int32.add_sub_cancel _ _).symm
    refine ⟨fun _ => bM_isSum_18 ?_, fun y => absurd es y⟩
    obtain ⟨l, hl, hlS, hlP, hu⟩ := one_free f5 ek
    have pvP : ∀ s, (∀ j, j < k → pv j ≠ s) ↔ P.testBit s = false := fun s => by
      constructor
      · intro g
        cases b : P.testBit s with
        | false => rfl
        | true =>
          obtain ⟨i, hi, e⟩ := (f5.1.2.2.2.2 s).mp b
          exact absurd e (g i hi)
      · intro g j hj c
        rw [(f5.1.2.2.2.2 s).mpr ⟨j, hj, c⟩] at g
        exact absurd g (by decide)
    refine up0 (Pr := fun i => kW sh kp 108 23 [some (.ref 71), none, some (.int (nI k)), some (.int (nI (fre S pv i))), some (.int (nI i)), none, none, none, none, none, none, none] [] (I', L', kr q w r1 r2) K) (e := k) ?_ (fun i hi ih => ?_)
    · refine bM_isSum_23 (pk_le k k (fun _ => bM_isSum_49 ?_) (fun y => absurd y (by omega)))
      have fl := fre_le (S := S) (pv := pv) k
      refine up0 (Pr := fun i => kW sh kp 108 52 [some (.ref 71), none, some (.int (nI k)), some (.int (nI (fre S pv k))), some (.int (nI i)), none, none, none, none, none, none, none] [] (I', L', kr q w r1 r2) K) (e := l) ?_ (fun i hi ih => ?_)
      · refine bM_isSum_52 (m_has (by omega) (by omega) (bM_isSum_58 (cb1 (fun e => bM_isSum_67 ?_) (fun e => ?_))))
        · -- the rows
          refine up0 (Pr := fun i => (∀ j, j < i → opp (A j (pv j)) (A j l)) → kW sh kp 108 73 [some (.ref 71), none, some (.int (nI k)), none, some (.int (nI l)), some (.long (lN (lcz A pv i))), none, some (.int (nI i)), none, none, none, none] [] (I', L', kr q w r1 r2) K) (e := k) (fun g => ?_) (fun i hi ih g => ?_) (fun j hj => absurd hj (by omega))
          · refine bM_isSum_73 (pk_le k k (fun _ => m_weights hw f5 hl f3 f4 fun L2 g1 g2 => ?_) (fun y => absurd y (by omega)))
            have sc := sum_c hw f5 hl hlS hlP hu g hS
            have wl := (isv_w hw sc.1).2.2
            refine h1 I' L2 f1 (fun a j z1 z2 => (g1 a j z2).trans (f2 a j z1)) sc.1 fun s hs => ?_
            rw [g2 s hs, sc.2 s, lZ_n (by have := wl s; omega)]
          · obtain ⟨a1, a2, a3, a4, a5, a6, a7⟩ := f5.2.1 i hi
            have b1 := f5.2.2.1 i (pv i) (by omega) (by omega)
            have b2 := f5.2.2.1 i l (by omega) hl
            have lc := sv_lc f5 (show i ≤ k by omega)
            have lc2 := sv_lc f5 (show i + 1 ≤ k by omega)
            refine bM_isSum_73 (pk_le k i (fun y => absurd y (by omega)) (fun _ => bM_isSum_79 ?_))
            rw [nI_clamp (show i < 2 ^ 31 by omega), f4 i hi, ix_r, ix_r, nI_clamp (show 10 * i + l < 2 ^ 31 by omega), nI_clamp (show 10 * i + pv i < 2 ^ 31 by omega), f3 i l (by omega) hl, f3 i (pv i) (by omega) (by omega)]
            have bad : ¬ opp (A i (pv i)) (A i l) → kW sh kp 108 148 [none, none, none, none, none, none, none, none, none, none, none, none] [] (I', L', kr q w r1 r2) K := fun c => bM_isSum_148 (no (sum_b hw f5 hl hlS hlP hu hi c))
            have go : opp (A i (pv i)) (A i l) → kW sh kp 108 150 [some (.ref 71), none, some (.int (nI k)), none, some (.int (nI l)), some (.long (lN (lcz A pv i))), none, some (.int (nI i)), some (.long (lZ (A i (pv i)))), none, none, none] [] (I', L', kr q w r1 r2) K := fun c => bM_isSum_150 (by
              have gp : 0 < Nat.gcd (lcz A pv i) (A i (pv i)).natAbs := Nat.gcd_pos_of_pos_left _ lc.2.1
              have gl : Nat.gcd (lcz A pv i) (A i (pv i)).natAbs ≤ lcz A pv i := Nat.gcd_le_left _ lc.2.1
              have ih' := ih fun j hj => by
                by_cases e : j = i
                · rw [e]
                  exact c
                · exact g j (by omega)
              have fin : ∀ v : Int64, v = lN (A i (pv i)).natAbs → kW sh kp 108 175 [some (.ref 71), none, some (.int (nI k)), none, some (.int (nI l)), none, none, some (.int (nI i)), none, none, none, none] [.long v, .long (lN (lcz A pv i) / lN (Nat.gcd (lcz A pv i) (A i (pv i)).natAbs))] (I', L', kr q w r1 r2) K := fun v hv => bM_isSum_175 (by
                rw [hv, lN_div (by omega) (by omega), lN_mul, nI_1]
                exact ih')
              have cm := m_common (I := I') (L := L') (q := q) (r1 := r1) (r2 := r2) (w := w) (K := fun v M1 => kW sh kp 108 159 [some (.ref 71), none, some (.int (nI k)), none, some (.int (nI l)), none, none, some (.int (nI i)), some (.long (lZ (A i (pv i)))), none, none, none] (v.toList ++ [.long (lN (lcz A pv i))]) M1 K) (x := (lcz A pv i : Int)) (y := A i (pv i)) (by rw [Int.natAbs_natCast]; omega) (by omega) (bM_isSum_159 ?_)
              · rw [lZ_n (by omega)] at cm
                exact cm
              · rw [Int.natAbs_natCast]
                refine ⟨fun c => absurd ((lN_0 (by omega)).mp c) (by omega), fun y => bM_isSum_173 (fin _ ?_), fun y => bM_isSum_167 (fin _ ?_)⟩
                · rw [lg_g0 (by omega)] at y
                  rw [← lZ_n (by omega)]
                  congr 1
                  omega
                · rw [lg_g0 (by omega)] at y
                  rw [lZ_neg (by omega), ← lZ_n (by omega)]
                  congr 1
                  omega)
            refine ⟨vp_in_nI (by omega) (by decide), vp_in_nI (by omega) (by decide), vp_in_nI (by omega) (by decide), fun y => bad fun c => ?_, fun y => ?_⟩
            · have := (lg_z (by omega)).mp y
              unfold opp at c
              omega
            · have o0 : A i l ≠ 0 := fun c => y ((lg_z (by omega)).mpr c)
              have tail : ∀ s0 : Int32, ((0 < A i l ∧ s0 = 0) ∨ (A i l < 0 ∧ s0 = 1) → opp (A i (pv i)) (A i l)) → ((0 < A i l ∧ s0 = 1) ∨ (A i l < 0 ∧ s0 = 0) → ¬ opp (A i (pv i)) (A i l)) → (s0 = 0 ∨ s0 = 1) → kW sh kp 108 133 [some (.ref 71), none, some (.int (nI k)), none, some (.int (nI l)), some (.long (lN (lcz A pv i))), none, some (.int (nI i)), some (.long (lZ (A i (pv i)))), none, some (.long (lZ (A i l))), none] [.int s0] (I', L', kr q w r1 r2) K := fun s0 t1 t2 t3 => bM_isSum_133 ⟨fun y => bM_isSum_144 (bM_isSum_145 ⟨fun z => go (t1 (Or.inr ⟨by have := (lg_l0 (by omega)).mp y; omega, t3.resolve_left z⟩)), fun z => bad (t2 (Or.inr ⟨by have := (lg_l0 (by omega)).mp y; omega, z⟩))⟩), fun y => bM_isSum_140 (bM_isSum_145 ⟨fun z => go (t1 (Or.inl ⟨by rw [lg_l0 (by omega)] at y; omega, t3.resolve_right z⟩)), fun z => bad (t2 (Or.inl ⟨by rw [lg_l0 (by omega)] at y; omega, z⟩))⟩)⟩
              refine bM_isSum_121 ⟨fun y => bM_isSum_132 (tail 0 (fun c => ?_) (fun c d => ?_) (Or.inl rfl)), fun y => bM_isSum_128 (tail 1 (fun c => ?_) (fun c d => ?_) (Or.inr rfl))⟩
              · rw [lg_l0 (by omega)] at y
                rcases c with c | c
                · exact Or.inr ⟨by omega, c.1⟩
                · exact absurd c.2 (by decide)
              · rw [lg_l0 (by omega)] at y
                unfold opp at d
                rcases c with c | c
                · exact absurd c.2 (by decide)
                · omega
              · rw [lg_l0 (by omega)] at y
                rcases c with c | c
                · exact absurd c.2 (by decide)
                · exact Or.inl ⟨by omega, c.1⟩
              · rw [lg_l0 (by omega)] at y
                unfold opp at d
                rcases c with c | c
                · omega
                · exact absurd c.2 (by decide)
        · have : (fre S pv k).testBit l = true := (fre_tb S10 k).mpr ⟨hlS, (pvP l).mpr hlP⟩
          rw [this] at e
          exact absurd e (by decide)
      · refine bM_isSum_52 (m_has (by omega) (by omega) (bM_isSum_58 (cb1 (fun e => ?_) (fun e => bM_isSum_61 ?_))))
        · have t := (fre_tb S10 k).mp e
          have := hu i (by omega) t.1 ((pvP i).mp t.2)
          omega
        · rw [nI_1]
          exact ih
    · refine bM_isSum_23 (pk_le k i (fun y => absurd y (by omega)) (fun _ => bM_isSum_29 ?_))
      have a1 := (f5.2.1 i hi).1
      rw [nI_clamp (by omega), f4 i hi, sh1 (pv i) (by omega), cmp_I, nI_1]
      exact ⟨vp_in_nI (by omega) (by decide), ih⟩
  · refine ⟨fun y => absurd ?_ ek, fun _ => bM_isSum_16 (no (sum_a hw f5 ek))⟩
    have e : nI k + 1 = nI (szS S) := by
      rw [y]
      exact Int32.sub_add_cancel _ _
    rw [nI_1] at e
    exact (nI_eq (by omega) (by omega)).mp e
end MSUM
