/-! A STEP MORE -/
/-- a step more, with cost c and what it takes and gives -/
def ads (m : Nat → Nat) (c : Nat) (ft fg : Nat → Nat) (k : Nat) : Nat := if k = 1 then m 1 + 1 else if k = 32 + m 1 then c else if 40 + 10 * m 1 ≤ k ∧ k < 50 + 10 * m 1 then ft (k - (40 + 10 * m 1)) else if 120 + 10 * m 1 ≤ k ∧ k < 130 + 10 * m 1 then fg (k - (120 + 10 * m 1)) else m k
/-- on the way there, i places done -/
def adi (m : Nat → Nat) (c i k : Nat) : Nat := if k = 32 + m 1 then c else if 40 + 10 * m 1 ≤ k ∧ k < 40 + 10 * m 1 + i then 0 else if 120 + 10 * m 1 ≤ k ∧ k < 120 + 10 * m 1 + i then 0 else m k
theorem adi_0 {m : Nat → Nat} {c : Nat} : adi m c 0 = ups m (32 + m 1) c := funext fun k => by
  unfold adi ups
  by_cases e : k = 32 + m 1
  · rw [if_pos e, if_pos e]
  · rw [if_neg e, if_neg e, if_neg (by omega), if_neg (by omega)]
theorem adi_c {m : Nat → Nat} {c i k : Nat} (h : k = 32 + m 1) : adi m c i k = c := if_pos h
theorem adi_z {m : Nat → Nat} {c i k : Nat} (h : k ≠ 32 + m 1) (h2 : (40 + 10 * m 1 ≤ k ∧ k < 40 + 10 * m 1 + i) ∨ (120 + 10 * m 1 ≤ k ∧ k < 120 + 10 * m 1 + i)) : adi m c i k = 0 := by
  unfold adi
  rw [if_neg h]
  rcases h2 with h2 | h2
  · rw [if_pos h2]
  · by_cases z : 40 + 10 * m 1 ≤ k ∧ k < 40 + 10 * m 1 + i
    · rw [if_pos z]
    · rw [if_neg z, if_pos h2]
theorem adi_e {m : Nat → Nat} {c i k : Nat} (h : k ≠ 32 + m 1) (h2 : ¬ (40 + 10 * m 1 ≤ k ∧ k < 40 + 10 * m 1 + i)) (h3 : ¬ (120 + 10 * m 1 ≤ k ∧ k < 120 + 10 * m 1 + i)) : adi m c i k = m k := by
  unfold adi
  rw [if_neg h, if_neg h2, if_neg h3]
theorem adi_s {m : Nat → Nat} {c i : Nat} (hi : i < 10) (hs : m 1 < 8) : ups (ups (adi m c i) (40 + 10 * m 1 + i) 0) (120 + 10 * m 1 + i) 0 = adi m c (i + 1) := funext fun k => by
  by_cases e0 : k = 32 + m 1
  · have a : ups (ups (adi m c i) (40 + 10 * m 1 + i) 0) (120 + 10 * m 1 + i) 0 k = adi m c i k := by
      unfold ups
      rw [if_neg (by omega), if_neg (by omega)]
    rw [a, adi_c e0, adi_c e0]
  · by_cases e1 : k = 120 + 10 * m 1 + i
    · have a : ups (ups (adi m c i) (40 + 10 * m 1 + i) 0) (120 + 10 * m 1 + i) 0 k = 0 := if_pos e1
      rw [a, adi_z (i := i + 1) e0 (Or.inr (by omega))]
    · by_cases e2 : k = 40 + 10 * m 1 + i
      · have a : ups (ups (adi m c i) (40 + 10 * m 1 + i) 0) (120 + 10 * m 1 + i) 0 k = 0 := by
          unfold ups
          rw [if_neg e1, if_pos e2]
        rw [a, adi_z (i := i + 1) e0 (Or.inl (by omega))]
      · have a : ups (ups (adi m c i) (40 + 10 * m 1 + i) 0) (120 + 10 * m 1 + i) 0 k = adi m c i k := by
          unfold ups
          rw [if_neg e1, if_neg e2]
        rw [a]
        by_cases z : (40 + 10 * m 1 ≤ k ∧ k < 40 + 10 * m 1 + i) ∨ (120 + 10 * m 1 ≤ k ∧ k < 120 + 10 * m 1 + i)
        · rw [adi_z (i := i) e0 z, adi_z (i := i + 1) e0 (by omega)]
        · rw [adi_e (i := i) e0 (by omega) (by omega), adi_e (i := i + 1) e0 (by omega) (by omega)]
theorem adi_ads {m : Nat → Nat} {c : Nat} : ups (adi m c 10) 1 (m 1 + 1) = ads m c (fun _ => 0) (fun _ => 0) := funext fun k => by
  unfold ads
  by_cases e : k = 1
  · rw [if_pos e]
    exact if_pos e
  · have a : ups (adi m c 10) 1 (m 1 + 1) k = adi m c 10 k := if_neg e
    rw [a, if_neg e]
    by_cases e0 : k = 32 + m 1
    · rw [adi_c e0, if_pos e0]
    · rw [if_neg e0]
      by_cases z1 : 40 + 10 * m 1 ≤ k ∧ k < 50 + 10 * m 1
      · rw [if_pos z1, adi_z e0 (Or.inl (by omega))]
      · rw [if_neg z1]
        by_cases z2 : 120 + 10 * m 1 ≤ k ∧ k < 130 + 10 * m 1
        · rw [if_pos z2, adi_z e0 (Or.inr (by omega))]
        · rw [if_neg z2, adi_e e0 (by omega) (by omega)]
section ADDSTEP
variable {I : Nat → Nat → Int32} {L : Nat → Nat → Int64} {q r1 r2 : Nat → Nat} {w : Bool} {K : km_K} {m : Nat → Nat}
theorem m_addsStep {c : Nat} (hn : nN I m) (hs : m 1 < 8) (h : ∀ I', (∀ a k, a ≠ 72 → I' a k = I a k) → nN I' (ads m c (fun _ => 0) (fun _ => 0)) → K (some (.int (nI (m 1)))) (I', L, kr q w r1 r2)) : kC sh kp 62 [.ref 72, .int (nI c)] (I, L, kr q w r1 r2) K := by
  have v1 : vp_in (1 : Int32) 212 := pk_in 1 212 (by decide)
  have e1 : I 72 1 = nI (m 1) := hn 1 (by decide)
  refine ⟨rfl, bM_addsStep_n_0 ?_⟩
  rw [cl1, e1, fa_lit 32, nI_add, nI_clamp (by omega)]
  refine ⟨v1, vp_in_nI (by omega) (by decide), ?_⟩
  refine up0 (Pr := fun i => ∀ I', (∀ a k, a ≠ 72 → I' a k = I a k) → nN I' (adi m c i) → kW sh kp 62 13 [some (.ref 72), none, some (.int (nI (m 1))), some (.int (nI i))] [] (I', L, kr q w r1 r2) K) (e := 10) ?_ (fun i hi ih => ?_) _ (fun a k ha => up_a ha) (by rw [adi_0]; exact nN_up hn)
  · intro I' f1 f2
    refine bM_addsStep_n_13 (pk_le 10 10 (fun _ => bM_addsStep_n_49 ⟨v1, v1, ?_⟩) (fun g => absurd g (by omega)))
    have e2 : I' 72 1 = nI (m 1) := by
      rw [f2 1 (by decide), adi_e (by omega) (by omega) (by omega)]
    rw [cl1, e2, nI_1]
    refine h _ (fun a k ha => by rw [up_a ha]; exact f1 a k ha) ?_
    rw [← adi_ads]
    exact nN_up f2
  · intro I' f1 f2
    refine bM_addsStep_n_13 (pk_le 10 i (fun g => absurd g (by omega)) (fun _ => bM_addsStep_n_19 ?_))
    rw [ix_tk, ix_gv, nI_clamp (by omega), nI_clamp (by omega), nI_1]
    refine ⟨vp_in_nI (by omega) (by decide), vp_in_nI (by omega) (by decide), ih _ (fun a k ha => by rw [up_a ha, up_a ha]; exact f1 a k ha) ?_⟩
    rw [← adi_s hi hs]
    exact nN_up (v := 0) (nN_up (v := 0) f2)
theorem ads_1 {c : Nat} {ft fg : Nat → Nat} : ads m c ft fg 1 = m 1 + 1 := if_pos rfl
theorem ads_c {c : Nat} {ft fg : Nat → Nat} : ads m c ft fg (32 + m 1) = c := by
  unfold ads
  rw [if_neg (by omega), if_pos rfl]
theorem ads_t {c p : Nat} {ft fg : Nat → Nat} (hp : p < 10) : ads m c ft fg (40 + 10 * m 1 + p) = ft p := by
  unfold ads
  rw [if_neg (by omega), if_neg (by omega), if_pos (by omega), show 40 + 10 * m 1 + p - (40 + 10 * m 1) = p by omega]
theorem ads_g {c p : Nat} {ft fg : Nat → Nat} (hs : m 1 < 8) (hp : p < 10) : ads m c ft fg (120 + 10 * m 1 + p) = fg p := by
  unfold ads
  rw [if_neg (by omega), if_neg (by omega), if_neg (by omega), if_pos (by omega), show 120 + 10 * m 1 + p - (120 + 10 * m 1) = p by omega]
theorem ads_o {c k : Nat} {ft fg : Nat → Nat} (h1 : k ≠ 1) (h2 : k ≠ 32 + m 1) (h3 : ¬ (40 + 10 * m 1 ≤ k ∧ k < 50 + 10 * m 1)) (h4 : ¬ (120 + 10 * m 1 ≤ k ∧ k < 130 + 10 * m 1)) : ads m c ft fg k = m k := by
  unfold ads
  rw [if_neg h1, if_neg h2, if_neg h3, if_neg h4]
theorem c_addStep {c : Nat} {ft fg : Nat → Nat} (hR : cR0 I L m) (hp : m 0 ≤ 10) (hs : m 1 < 8) (h0 : ∀ p, m 0 ≤ p → ft p = 0 ∧ fg p = 0) (h : ∀ I' L', (∀ a k, (a = 1 → k ≠ 1) → a ≠ 4 → I' a k = I a k) → (∀ a k, a ≠ 2 → a ≠ 3 → L' a k = L a k) → cR0 I' L' (ads m c ft fg) → K none (I', L', kr q w r1 r2)) : kC sh kp 217 [.ref 1, .int (nI c), .long (lN (mp 32 ft 10)), .long (lN (mp 32 fg 10))] (I, L, kr q w r1 r2) K := by
  obtain ⟨a1, a2, a4, a5, a8⟩ := hR
  have e1 : (I 1 1).toNatClampNeg = m 1 := by rw [a2, nI_clamp (by omega)]
  have v1 : vp_in (I 1 1) 8 := by rw [a2]; exact vp_in_nI hs (by decide)
  have e0 : ads m c ft fg 0 = m 0 := ads_o (by omega) (by omega) (by omega) (by omega)
  refine ⟨rfl, bS_addStep_0 (pk_le 8 (m 1) (fun g => absurd g (by omega)) (fun _ => bS_addStep_9 ?_) rfl a2)⟩
  rw [up_a (by decide), e1]
  refine ⟨v1, v1, v1, bS_addStep_50 ?_⟩
  rw [a2, nI_1]
  have mo : ∀ x, (∀ p, p < 10 → ads m c ft fg (x + p) = m (x + p)) → mz (ads m c ft fg) x = mz m x := fun x hx => funext fun p => by
    unfold mz
    rw [e0]
    by_cases g : p < m 0
    · rw [if_pos g, if_pos g]
      exact hx p (by omega)
    · rw [if_neg g, if_neg g]
  have mn : ∀ x (f : Nat → Nat), (∀ p, p < 10 → ads m c ft fg (x + p) = f p) → (∀ p, m 0 ≤ p → f p = 0) → mp 32 f 10 = mp 32 (mz (ads m c ft fg) x) 10 := fun x f hx hz => mp_congr 10 fun p hp => by
    unfold mz
    rw [e0]
    by_cases g : p < m 0
    · rw [if_pos g, hx p hp]
    · rw [if_neg g]
      exact hz p (by omega)
  refine h _ _ (fun a k z1 z2 => ?_) (fun a k z1 z2 => by rw [up_a z2, up_a z1]) ⟨?_, ?_, ?_, ?_, fun t ht => ?_⟩
  · by_cases e : a = 1
    · rw [up_k (z1 e), up_a z2]
    · rw [up_a e, up_a z2]
  · rw [up_k (by decide), up_a (by decide), e0]
    exact a1
  · rw [up_s, ads_1]
  · rw [up_k (by decide), up_a (by decide), ads_o (by omega) (by omega) (by omega) (by omega)]
    exact a4
  · rw [up_a (by decide), up_a (by decide), mo 2 (fun p hp => ads_o (by omega) (by omega) (by omega) (by omega))]
    exact a5
  · rw [ads_1] at ht
    by_cases e : t = m 1
    · rw [e]
      refine ⟨?_, ?_, ?_⟩
      · rw [up_a (by decide), up_s, mn (40 + 10 * m 1) ft (fun p hp => ads_t hp) (fun p hp => (h0 p hp).1)]
      · rw [up_s, mn (120 + 10 * m 1) fg (fun p hp => ads_g hs hp) (fun p hp => (h0 p hp).2)]
      · rw [up_a (by decide), up_s, ads_c]
    · have b := a8 t (by omega)
      refine ⟨?_, ?_, ?_⟩
      · rw [up_a (by decide), up_k e, mo _ (fun p hp => ads_o (by omega) (by omega) (by omega) (by omega))]
        exact b.1
      · rw [up_k e, up_a (by decide), mo _ (fun p hp => ads_o (by omega) (by omega) (by omega) (by omega))]
        exact b.2.1
      · rw [up_a (by decide), up_k e, ads_o (by omega) (by omega) (by omega) (by omega)]
        exact b.2.2
end ADDSTEP
