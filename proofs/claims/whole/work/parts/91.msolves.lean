/-! SUMS: the reference solves for a set -/
/-- only the pivots -/
def fPv (I I' : Nat → Nat → Int32) : Prop := ∀ a k, a ≠ 79 → I' a k = I a k
section MSOL
variable {I : Nat → Nat → Int32} {L : Nat → Nat → Int64} {q r1 r2 : Nat → Nat} {w : Bool} {K : km_K} {m : Nat → Nat}
theorem lg_z {x : Int} (h : x.natAbs < 2 ^ 62) : lg_cmp (lZ x) 0 = 0 ↔ x = 0 := lg0.trans (lZ_0 h)
theorem ee_L {a b : Nat} (ha : a ≤ 2) (hb : b ≤ 2) : (nI a - nI b).toInt64 = lZ ((a : Int) - (b : Int)) := by
  have : ∀ a, a < 3 → ∀ b, b < 3 → (nI a - nI b).toInt64 = lZ ((a : Int) - (b : Int)) := by decide +kernel
  exact this a (by omega) b (by omega)
def mxt (A : Nat → Nat → Int) (k p t : Nat) : Nat → Nat → Int := fun u => if u < t then nxt A k p u else A u
theorem mxt_lt {A : Nat → Nat → Int} {t k p u : Nat} (h : u < t) : mxt A k p t u = nxt A k p u := if_pos h
theorem mxt_ge {A : Nat → Nat → Int} {t k p u : Nat} (h : t ≤ u) : mxt A k p t u = A u := if_neg (by omega)
theorem mxt_s {A : Nat → Nat → Int} {t k p u : Nat} : mxt A k p (t + 1) u = upr (mxt A k p t) t (nxt A k p t) u := by
  unfold upr
  by_cases e : u = t
  · rw [mxt_lt (by omega), if_pos e, e]
  · rw [if_neg e]
    by_cases g : u < t
    · rw [mxt_lt g, mxt_lt (by omega)]
    · rw [mxt_ge (by omega), mxt_ge (by omega)]
/-- row k is taken off all others -/
theorem m_clears {A : Nat → Nat → Int} {k p : Nat} (hn : nN I m) (hw1 : m 1 ≤ 8) (hk : k < m 1) (hp : p < 10) (hA : rwL L A (m 1)) (hB : ∀ t s, t < m 1 → s < 10 → (A t s).natAbs ≤ 10321920) (h : ∀ L', fA L L' → rwL L' (nxt A k p) (m 1) → kW sh kp 106 220 [some (.ref 71), none, some (.int (nI k)), some (.int (nI p)), none, none] [] (I, L', kr q w r1 r2) K) : kW sh kp 106 169 [some (.ref 71), none, some (.int (nI k)), some (.int (nI p)), none, none] [] (I, L, kr q w r1 r2) K := by
  have nk : nxt A k p k = A k := if_neg fun c => c.1 rfl
  refine bM_solves_169 (up0 (Pr := fun t => ∀ L', fA L L' → rwL L' (mxt A k p t) (m 1) → kW sh kp 106 172 [some (.ref 71), none, some (.int (nI k)), some (.int (nI p)), none, some (.int (nI t))] [] (I, L', kr q w r1 r2) K) (e := m 1) (fun L' f1 f2 => ?_) (fun t ht ih L' f1 f2 => ?_) L (fun _ _ _ => rfl) (fun u j hu hj => by rw [mxt_ge (by omega)]; exact hA u j hu hj))
  · refine bM_solves_172 ⟨pk_in 1 212 (by decide), ?_⟩
    rw [cl1, hn 1 (by decide)]
    refine pk_le (m 1) (m 1) (fun _ => h L' f1 fun u j hu hj => ?_) (fun y => absurd y (by omega))
    have := f2 u j hu hj
    rw [mxt_lt hu] at this
    exact this
  · refine bM_solves_172 ⟨pk_in 1 212 (by decide), ?_⟩
    rw [cl1, hn 1 (by decide)]
    have same : nxt A k p t = A t → kW sh kp 106 214 [some (.ref 71), none, some (.int (nI k)), some (.int (nI p)), none, some (.int (nI t))] [] (I, L', kr q w r1 r2) K := fun e => bM_solves_214 (by
      rw [nI_1]
      refine ih L' f1 fun u j hu hj => ?_
      rw [f2 u j hu hj]
      by_cases g : u = t
      · rw [g, mxt_ge (Nat.le_refl _), mxt_lt (by omega), e]
      · by_cases g2 : u < t
        · rw [mxt_lt g2, mxt_lt (by omega)]
        · rw [mxt_ge (by omega), mxt_ge (by omega)])
    refine pk_le (m 1) t (fun y => absurd y (by omega)) (fun _ => bM_solves_183 (pk_eq t k (fun e => same (by rw [e]; exact nk)) (fun e => bM_solves_189 ?_)))
    have et := f2 t p ht hp
    rw [mxt_ge (Nat.le_refl _)] at et
    have hBt := hB t p ht hp
    rw [ix_r, nI_clamp (by omega), et]
    refine ⟨vp_in_nI (by omega) (by decide), fun y => same (if_neg fun c => c.2 ((lg_z (by omega)).mp y)), fun y => bM_solves_206 ?_⟩
    have at0 : A t p ≠ 0 := fun c => y ((lg_z (by omega)).mpr c)
    have rt : mxt A k p t t = A t := mxt_ge (Nat.le_refl _)
    have rk : mxt A k p t k = A k := by
      by_cases g : k < t
      · rw [mxt_lt g, nk]
      · exact mxt_ge (by omega)
    refine m_takesOff (A := mxt A k p t) hw1 ht hk e hp f2 (fun s hs => by rw [rt, rk]; exact ⟨hB t s ht hs, hB k s hk hs⟩) fun L2 g1 g2 => bM_solves_214 ?_
    rw [nI_1]
    refine ih L2 (fun a j z => (g1 a j z).trans (f1 a j z)) fun u j hu hj => ?_
    rw [g2 u j hu hj]
    congr 1
    have en : nxt A k p t = tko (mxt A k p t) k p t := by
      unfold tko
      rw [rt, rk]
      exact if_pos ⟨e, at0⟩
    rw [mxt_s, en]
theorem m_solves {S : Nat} (hn : nN I m) (hw : wb m) (hS : S < 2 ^ m 0) (h : ∀ I' L' k pv A D P, fPv I I' → fA L L' → rwL L' A (m 1) → (∀ i, i < k → I' 79 i = nI (pv i)) → sv m S k pv A D P → K (some (.int (nI k))) (I', L', kr q w r1 r2)) : kC sh kp 106 [.ref 71, .int (nI S)] (I, L, kr q w r1 r2) K := by
  have w0 := hw.1
  have w1 := hw.2.1
  have S10 : S < 1024 := by
    have := p2_le w0
    omega
  have nV : ∀ I', fPv I I' → ∀ k, k < 212 → I' 72 k = nI (m k) := fun I' f k hk => (f 72 k (by decide)).trans (hn k hk)
  -- the second half
  have two : ∀ L1, fA L L1 → rwL L1 (fun t => shr (crS m S t)) (m 1) → kW sh kp 106 100 [some (.ref 71), none, none, none, none, none] [] (I, L1, kr q w r1 r2) K := fun L1 l1 l2 => by
    refine bM_solves_100 (up0 (Pr := fun p => ∀ I' L' k pv A cs W P, fPv I I' → fA L L' → rwL L' A (m 1) → (∀ i, i < k → I' 79 i = nI (pv i)) → el (crS m S) (fun s => S.testBit s = false) (m 1) k pv p A cs W P → kW sh kp 106 104 [some (.ref 71), none, some (.int (nI k)), some (.int (nI p)), none, none] [] (I', L', kr q w r1 r2) K) (e := m 0) (fun I' L' k pv A cs W P f1 f2 f3 f4 f5 => ?_) (fun p hp ih I' L' k pv A cs W P f1 f2 f3 f4 f5 => ?_) I L1 0 (fun _ => 0) (fun t => shr (crS m S t)) (crS m S) (fun M => if M = 0 then 1 else 0) 0 (fun _ _ _ => rfl) l1 l2 (fun i hi => absurd hi (by omega)) (el_0 (crS_b hw) (fun t s hs => by unfold crS; rw [hs]; exact if_neg (by decide))))
    · refine bM_solves_104 ⟨pk_in 0 212 (by decide), ?_⟩
      rw [cl0, nV I' f1 0 (by decide)]
      exact pk_le (m 0) (m 0) (fun _ => bM_solves_236 (h I' L' k pv A _ P f1 f2 f3 f4 (el_sv hw hS f5))) (fun y => absurd y (by omega))
    · have kT : k ≤ m 1 := f5.1.1
      have bd := (el_bd w1 f5 (by omega)).1
      refine bM_solves_104 ⟨pk_in 0 212 (by decide), ?_⟩
      rw [cl0, nV I' f1 0 (by decide)]
      refine pk_le (m 0) p (fun y => absurd y (by omega)) (fun _ => bM_solves_114 ?_)
      have key := up0 (Pr := fun i => (∀ u, k ≤ u → u < k + i → A u p = 0) → kW sh kp 106 117 [some (.ref 71), none, some (.int (nI k)), some (.int (nI p)), some (.int (nI (k + i))), none] [] (I', L', kr q w r1 r2) K) (e := m 1 - k) (fun g => ?_) (fun i hi ih2 g => ?_) (fun u u1 u2 => absurd u2 (by omega))
      · exact key
      · have e : k + (m 1 - k) = m 1 := by omega
        rw [e] at g ⊢
        refine bM_solves_117 ⟨pk_in 1 212 (by decide), ?_⟩
        rw [cl1, nV I' f1 1 (by decide)]
        refine pk_le (m 1) (m 1) (fun _ => bM_solves_151 ⟨pk_in 1 212 (by decide), ?_⟩) (fun y => absurd y (by omega))
        rw [cl1, nV I' f1 1 (by decide)]
        refine pk_le (m 1) (m 1) (fun _ => bM_solves_230 ?_) (fun y => absurd y (by omega))
        rw [nI_1]
        exact ih I' L' k pv A cs W P f1 f2 f3 f4 (el_no f5 g)
      · refine bM_solves_117 ⟨pk_in 1 212 (by decide), ?_⟩
        rw [cl1, nV I' f1 1 (by decide)]
        refine pk_le (m 1) (k + i) (fun y => absurd y (by omega)) (fun _ => bM_solves_128 ?_)
        have bt := bd (k + i) p (by omega) (by omega)
        rw [ix_r, nI_clamp (by omega), f3 (k + i) p (by omega) (by omega)]
        refine ⟨vp_in_nI (by omega) (by decide), fun y => ?_, fun y => bM_solves_145 ?_⟩
        · have ne : A (k + i) p ≠ 0 := fun c => y ((lg_z (by omega)).mpr c)
          refine bM_solves_151 ⟨pk_in 1 212 (by decide), ?_⟩
          rw [cl1, nV I' f1 1 (by decide)]
          refine pk_le (m 1) (k + i) (fun y => absurd y (by omega)) (fun _ => bM_solves_162 (m_swaps w1 (show k + i < m 1 by omega) (show k < m 1 by omega) f3 fun L2 g1 g2 => ?_))
          have f6 := el_sw f5 (show k ≤ k + i by omega) (show k + i < m 1 by omega)
          have bd2 := (el_bd w1 f6 (by omega)).1
          have nk : swp A (k + i) k k p ≠ 0 := by
            rw [swp_k]
            exact ne
          refine m_clears (A := swp A (k + i) k) (nV I' f1) w1 (by omega) (by omega) g2 bd2 fun L3 g3 g4 => bM_solves_220 ?_
          obtain ⟨W', P', f7⟩ := el_yes f6 nk (by omega) (by omega)
          rw [nI_1, nI_clamp (by omega)]
          refine ⟨vp_in_nI (by omega) (by decide), bM_solves_230 ?_⟩
          rw [nI_1]
          refine ih _ L3 (k + 1) (pvs pv k p) _ _ W' P' (fun a j z => by rw [up_a z]; exact f1 a j z) (fun a j z => ?_) g4 (fun j hj => ?_) f7
          · rw [g3 a j z, g1 a j z]
            exact f2 a j z
          · by_cases e : j = k
            · rw [e, up_s, pvs_k]
            · rw [up_k e, pvs_o e]
              exact f4 j (by omega)
        · rw [nI_1]
          have z0 := (lg_z (by omega)).mp y
          refine ih2 fun u u1 u2 => ?_
          by_cases e : u = k + i
          · rw [e]
            exact z0
          · exact g u u1 (by omega)
  refine ⟨rfl, bM_solves_0 (up0 (Pr := fun t => ∀ L', fA L L' → rwL L' (fun t => shr (crS m S t)) t → kW sh kp 106 2 [some (.ref 71), some (.int (nI S)), some (.int (nI t)), none, none, none] [] (I, L', kr q w r1 r2) K) (e := m 1) (fun L' f1 f2 => ?_) (fun t ht ih L' f1 f2 => ?_) L (fun _ _ _ => rfl) (fun u _ hu => absurd hu (by omega)))⟩
  · refine bM_solves_2 ⟨pk_in 1 212 (by decide), ?_⟩
    rw [cl1, hn 1 (by decide)]
    exact pk_le (m 1) (m 1) (fun _ => two L' f1 f2) (fun y => absurd y (by omega))
  · refine bM_solves_2 ⟨pk_in 1 212 (by decide), ?_⟩
    rw [cl1, hn 1 (by decide)]
    refine pk_le (m 1) t (fun y => absurd y (by omega)) (fun _ => bM_solves_12 (up0 (Pr := fun p => ∀ L', fA L L' → rwL L' (fun t => shr (crS m S t)) t → (∀ s, s < p → L' 78 (10 * t + s) = lZ (crS m S t s)) → kW sh kp 106 14 [some (.ref 71), some (.int (nI S)), some (.int (nI t)), some (.int (nI p)), none, none] [] (I, L', kr q w r1 r2) K) (e := 10) (fun L2 g1 g2 g3 => ?_) (fun p hp ih2 L2 g1 g2 g3 => ?_) L' f1 f2 (fun s hs => absurd hs (by omega))))
    · refine bM_solves_14 (pk_le 10 10 (fun _ => bM_solves_89 (m_shortens (f := crS m S t) (by omega) g3 (fun s hs => by have := crS_b (S := S) hw t s; omega) fun L3 k1 k2 => bM_solves_94 ?_)) (fun y => absurd y (by omega)))
      rw [nI_1]
      refine ih L3 (fun a j z => (k1 a j (fun e => absurd e z)).trans (g1 a j z)) fun u j hu hj => ?_
      by_cases e : u = t
      · rw [e]
        exact k2 j hj
      · rw [k1 _ _ (fun _ => by omega)]
        exact g2 u j (by omega) hj
    · have put : ∀ v : Int64, v = lZ (crS m S t p) → kW sh kp 106 82 [some (.ref 71), some (.int (nI S)), some (.int (nI t)), some (.int (nI p)), none, none] [.long v, .int ((10 * nI t) + nI p), .ref 78] (I, L2, kr q w r1 r2) K := fun v hv => bM_solves_82 (by
        rw [ix_r, nI_clamp (by omega), nI_1]
        refine ⟨rfl, vp_in_nI (show 10 * t + p < 80 by omega) (by decide), ih2 _ (fun a j z => by rw [up_a z]; exact g1 a j z) (fun u j hu hj => by rw [up_k (by omega)]; exact g2 u j hu hj) (fun s hs => ?_)⟩
        by_cases e : s = p
        · rw [e, up_s, hv]
        · rw [up_k (by omega)]
          exact g3 s (by omega))
      refine bM_solves_14 (pk_le 10 p (fun y => absurd y (by omega)) (fun _ => bM_solves_20 ⟨pk_in 0 212 (by decide), ?_⟩))
      rw [cl0, hn 0 (by decide)]
      refine pk_le (m 0) p (fun y => bM_solves_81 (put 0 ?_)) (fun y => bM_solves_40 (m_has (by omega) (by omega) (bM_solves_45 (cb0 (fun e => bM_solves_48 ?_) (fun e => bM_solves_81 (put 0 ?_))))))
      · have : crS m S t p = 0 := by
          unfold crS er
          rw [if_neg (show ¬ (p < m 0 ∧ t < 8) by omega)]
          split <;> rfl
        rw [this]
        rfl
      · have w5 := hw.2.2.2.2.2.1 t p (by omega) (by omega)
        rw [ix_gv, ix_tk, nI_clamp (show 120 + 10 * t + p < 2 ^ 31 by omega), nI_clamp (show 40 + 10 * t + p < 2 ^ 31 by omega), hn _ (by omega), hn _ (by omega), ee_L w5.2 w5.1]
        refine ⟨vp_in_nI (by omega) (by decide), vp_in_nI (by omega) (by decide), put _ ?_⟩
        unfold crS er
        rw [e, if_pos rfl, if_pos (show p < m 0 ∧ t < 8 by omega)]
        rfl
      · have : crS m S t p = 0 := by
          unfold crS
          rw [e]
          exact if_neg (by decide)
        rw [this]
        rfl
end MSOL
