/-! SUMS: the reference's rows: shortened, taken off, exchanged -/
theorem lZ_mul (a b : Int) : lZ a * lZ b = lZ (a * b) := (Int64.ofInt_mul a b).symm
theorem lZ_sub (a b : Int) : lZ a - lZ b = lZ (a - b) := (Int64.ofInt_sub a b).symm
theorem lZ_0 {a : Int} (h : a.natAbs < 2 ^ 62) : lZ a = 0 ↔ a = 0 := by
  constructor
  · intro e
    have := congrArg Int64.toInt e
    rw [lZ_i h] at this
    exact this
  · intro e
    rw [e]
    rfl
theorem lZ_div {a b : Int} (ha : a.natAbs < 2 ^ 62) (hb : b.natAbs < 2 ^ 62) (hd : b ∣ a) : lZ a / lZ b = lZ (a / b) := by
  have e : (a / b).natAbs ≤ a.natAbs := by
    by_cases b0 : b = 0
    · rw [b0, Int.ediv_zero]
      exact Nat.zero_le _
    · have h1 := congrArg Int.natAbs (Int.mul_ediv_cancel' hd)
      rw [Int.natAbs_mul] at h1
      have h2 : 1 ≤ b.natAbs := by omega
      have := Nat.mul_le_mul_right (a / b).natAbs h2
      omega
  apply Int64.toInt_inj.mp
  rw [Int64.toInt_div, lZ_i ha, lZ_i hb, lZ_i (by omega), Int.tdiv_eq_ediv_of_dvd hd]
  exact Int.bmod_eq_of_le (by omega) (by omega)
theorem gcn_ltB {x : Nat → Nat} {B : Nat} (hB : 0 < B) : ∀ n, (∀ p, p < n → x p < B) → gcn x n < B
  | 0, _ => hB
  | n + 1, h => by
    show Nat.gcd (gcn x n) (x n) < B
    by_cases e : x n = 0
    · rw [e, Nat.gcd_zero_right]
      exact gcn_ltB hB n fun p hp => h p (by omega)
    · exact Nat.lt_of_le_of_lt (Nat.gcd_le_right _ (Nat.pos_of_ne_zero e)) (h n (by omega))
theorem ix_r {t p : Nat} : (10 : Int32) * nI t + nI p = nI (10 * t + p) := by rw [fa_lit 10, pk_mul, nI_add]
/-- only the rows -/
def fA (L L' : Nat → Nat → Int64) : Prop := ∀ a k, a ≠ 78 → L' a k = L a k
def rwL (L : Nat → Nat → Int64) (A : Nat → Nat → Int) (T : Nat) : Prop := ∀ t q, t < T → q < 10 → L 78 (10 * t + q) = lZ (A t q)
section MROWS
variable {I : Nat → Nat → Int32} {L : Nat → Nat → Int64} {q r1 r2 : Nat → Nat} {w : Bool} {K : km_K}
theorem m_shortens {t : Nat} {f : Nat → Int} (ht : t < 8) (hf : ∀ s, s < 10 → L 78 (10 * t + s) = lZ (f s)) (hb : ∀ s, s < 10 → (f s).natAbs < 2 ^ 62) (h : ∀ L', (∀ a k, (a = 78 → k < 10 * t ∨ 10 * t + 10 ≤ k) → L' a k = L a k) → (∀ s, s < 10 → L' 78 (10 * t + s) = lZ (shr f s)) → K none (I, L', kr q w r1 r2)) : kC sh kp 103 [.ref 71, .int (nI t)] (I, L, kr q w r1 r2) K := by
  have two : ∀ g, g = gz f → kW sh kp 103 35 [some (.ref 71), some (.int (nI t)), some (.long (lN g)), none, none] [] (I, L, kr q w r1 r2) K := fun g eg => by
    have gl : g < 2 ^ 62 := by
      rw [eg]
      exact gcn_ltB (by decide) 10 hb
    have gi : (lN g).toInt = (g : Int) := pf_lI (by omega)
    have i1 : (1 : Int64).toInt = 1 := by decide
    by_cases g1 : g ≤ 1
    · have no : ∀ s, s < 10 → shr f s = f s := fun s hs => by
        unfold shr
        rw [← eg]
        by_cases g0 : g = 0
        · rw [gz_0 (f := f) (by omega) s hs, Int.zero_ediv]
        · rw [show g = 1 by omega]
          exact Int.ediv_one _
      exact bM_shortens_35 (bM_shortens_38 (pk_le 10 0 (fun y => absurd y (by omega)) (fun _ => bM_shortens_45 ⟨fun _ => bM_shortens_73 (h L (fun _ _ _ => rfl) (fun s hs => by rw [no s hs]; exact hf s hs)), fun y => absurd (lg_le.mpr (by rw [gi, i1]; omega)) y⟩)))
    · refine bM_shortens_35 (up0 (Pr := fun p => ∀ L', (∀ a k, (a = 78 → k < 10 * t ∨ 10 * t + 10 ≤ k) → L' a k = L a k) → (∀ s, s < p → L' 78 (10 * t + s) = lZ (shr f s)) → (∀ s, p ≤ s → s < 10 → L' 78 (10 * t + s) = lZ (f s)) → kW sh kp 103 38 [some (.ref 71), some (.int (nI t)), some (.long (lN g)), none, some (.int (nI p))] [] (I, L', kr q w r1 r2) K) (e := 10) (fun L' f1 f2 f3 => ?_) (fun p hp ih L' f1 f2 f3 => ?_) L (fun _ _ _ => rfl) (fun s hs => absurd hs (by omega)) (fun s _ hs => hf s hs))
      · exact bM_shortens_38 (pk_le 10 10 (fun _ => bM_shortens_73 (h L' f1 f2)) (fun y => absurd y (by omega)))
      · refine bM_shortens_38 (pk_le 10 p (fun y => absurd y (by omega)) (fun _ => bM_shortens_45 ⟨fun y => absurd (lg_le.mp y) (by rw [gi, i1]; omega), fun _ => bM_shortens_51 ?_⟩))
        have hv : vp_in (nI (10 * t + p)) 80 := vp_in_nI (by omega) (by decide)
        rw [ix_r, nI_clamp (by omega), nI_1, f3 p (Nat.le_refl _) hp]
        refine ⟨hv, fun c => ?_, hv, ih _ (fun a k z => ?_) (fun s hs => ?_) (fun s z1 z2 => ?_)⟩
        · exact absurd ((lN_0 gl).mp c) (by omega)
        · by_cases e : a = 78
          · rw [up_k (by have := z e; omega)]
            exact f1 a k z
          · rw [up_a e]
            exact f1 a k z
        · by_cases e : s = p
          · rw [e, up_s, ← lZ_n gl, lZ_div (hb p hp) (by omega) (by rw [eg]; exact gz_dvd hp)]
            unfold shr
            rw [eg]
          · rw [up_k (by omega)]
            exact f2 s (by omega)
        · rw [up_k (by omega)]
          exact f3 s (by omega) z2
  refine ⟨rfl, bM_shortens_0 (up0 (Pr := fun p => kW sh kp 103 5 [some (.ref 71), some (.int (nI t)), some (.long (lN (gcn (fun s => (f s).natAbs) p))), none, some (.int (nI p))] [] (I, L, kr q w r1 r2) K) (e := 10) ?_ (fun p hp ih => ?_))⟩
  · exact bM_shortens_5 (pk_le 10 10 (fun _ => two _ rfl) (fun y => absurd y (by omega)))
  · refine bM_shortens_5 (pk_le 10 p (fun y => absurd y (by omega)) (fun _ => bM_shortens_12 ?_))
    have gl : gcn (fun s => (f s).natAbs) p < 2 ^ 62 := gcn_ltB (by decide) p fun s hs => hb s (by omega)
    rw [ix_r, nI_clamp (by omega), hf p hp, ← lZ_n gl]
    refine ⟨vp_in_nI (by omega) (by decide), m_common (by rw [Int.natAbs_natCast]; exact gl) (hb p hp) (bM_shortens_28 ?_)⟩
    rw [nI_1]
    exact ih
def upr (A : Nat → Nat → Int) (t : Nat) (f : Nat → Int) : Nat → Nat → Int := fun u => if u = t then f else A u
theorem m_takesOff {t b p T : Nat} {A : Nat → Nat → Int} (hT : T ≤ 8) (ht : t < T) (hb : b < T) (hne : t ≠ b) (hp : p < 10) (hA : rwL L A T) (hB : ∀ s, s < 10 → (A t s).natAbs ≤ 10321920 ∧ (A b s).natAbs ≤ 10321920) (h : ∀ L', fA L L' → rwL L' (upr A t (tko A b p t)) T → K none (I, L', kr q w r1 r2)) : kC sh kp 104 [.ref 71, .int (nI t), .int (nI b), .int (nI p)] (I, L, kr q w r1 r2) K := by
  have bd : ∀ s, s < 10 → (A t s * A b p - A b s * A t p).natAbs < 2 ^ 62 := fun s hs => by
    have h1 : (A t s * A b p).natAbs ≤ 10321920 * 10321920 := by
      rw [Int.natAbs_mul]
      exact Nat.mul_le_mul (hB s hs).1 (hB p hp).2
    have h2 : (A b s * A t p).natAbs ≤ 10321920 * 10321920 := by
      rw [Int.natAbs_mul]
      exact Nat.mul_le_mul (hB s hs).2 (hB p hp).1
    have := abs_sub_le (x := A t s * A b p) (y := A b s * A t p)
    omega
  refine ⟨rfl, bM_takesOff_0 ?_⟩
  rw [ix_r, ix_r, nI_clamp (show 10 * t + p < 2 ^ 31 by omega), nI_clamp (show 10 * b + p < 2 ^ 31 by omega), hA t p ht hp, hA b p hb hp]
  refine ⟨vp_in_nI (by omega) (by decide), vp_in_nI (by omega) (by decide), up0 (Pr := fun s => ∀ L', (∀ a k, (a = 78 → k < 10 * t ∨ 10 * t + 10 ≤ k) → L' a k = L a k) → (∀ j, j < s → L' 78 (10 * t + j) = lZ (A t j * A b p - A b j * A t p)) → (∀ j, s ≤ j → j < 10 → L' 78 (10 * t + j) = lZ (A t j)) → kW sh kp 104 29 [some (.ref 71), some (.int (nI t)), some (.int (nI b)), none, some (.long (lZ (A t p))), none, some (.long (lZ (A b p))), none, some (.int (nI s))] [] (I, L', kr q w r1 r2) K) (e := 10) (fun L' f1 f2 f3 => ?_) (fun s hs ih L' f1 f2 f3 => ?_) L (fun _ _ _ => rfl) (fun j hj => absurd hj (by omega)) (fun j _ hj => hA t j ht hj)⟩
  · refine bM_takesOff_29 (pk_le 10 10 (fun _ => bM_takesOff_85 (m_shortens (f := fun j => A t j * A b p - A b j * A t p) (by omega) f2 bd fun L2 g1 g2 => bM_takesOff_90 (h L2 (fun a k z => ?_) fun u j hu hj => ?_))) (fun y => absurd y (by omega)))
    · rw [g1 a k (fun e => absurd e z), f1 a k (fun e => absurd e z)]
    · unfold upr
      by_cases e : u = t
      · rw [if_pos e, e]
        exact g2 j hj
      · rw [if_neg e, g1 _ _ (fun _ => by omega), f1 _ _ (fun _ => by omega)]
        exact hA u j hu hj
  · refine bM_takesOff_29 (pk_le 10 s (fun y => absurd y (by omega)) (fun _ => bM_takesOff_36 ?_))
    rw [ix_r, ix_r, nI_clamp (show 10 * t + s < 2 ^ 31 by omega), nI_clamp (show 10 * b + s < 2 ^ 31 by omega), f3 s (Nat.le_refl _) hs, f1 78 (10 * b + s) (fun _ => by omega), hA b s hb hs, lZ_mul, lZ_mul, lZ_sub, nI_1]
    refine ⟨vp_in_nI (by omega) (by decide), vp_in_nI (by omega) (by decide), vp_in_nI (by omega) (by decide), ih _ (fun a k z => ?_) (fun j hj => ?_) (fun j z1 z2 => ?_)⟩
    · by_cases e : a = 78
      · rw [up_k (by have := z e; omega)]
        exact f1 a k z
      · rw [up_a e]
        exact f1 a k z
    · by_cases e : j = s
      · rw [e, up_s]
      · rw [up_k (by omega)]
        exact f2 j (by omega)
    · rw [up_k (by omega)]
      exact f3 j (by omega) z2
theorem m_swaps {r k T : Nat} {A : Nat → Nat → Int} (hT : T ≤ 8) (hr : r < T) (hk : k < T) (hA : rwL L A T) (h : ∀ L', fA L L' → rwL L' (swp A r k) T → K none (I, L', kr q w r1 r2)) : kC sh kp 105 [.ref 71, .int (nI r), .int (nI k)] (I, L, kr q w r1 r2) K := by
  refine ⟨rfl, bM_swaps_0 (up0 (Pr := fun s => ∀ L', fA L L' → (∀ u j, u < T → j < 10 → L' 78 (10 * u + j) = lZ (if j < s then swp A r k u j else A u j)) → kW sh kp 105 2 [some (.ref 71), some (.int (nI r)), some (.int (nI k)), some (.int (nI s)), none, none] [] (I, L', kr q w r1 r2) K) (e := 10) (fun L' f1 f2 => ?_) (fun s hs ih L' f1 f2 => ?_) L (fun _ _ _ => rfl) (fun u j hu hj => by rw [if_neg (by omega)]; exact hA u j hu hj))⟩
  · refine bM_swaps_2 (pk_le 10 10 (fun _ => bM_swaps_62 (h L' f1 fun u j hu hj => ?_)) (fun y => absurd y (by omega)))
    rw [f2 u j hu hj, if_pos hj]
  · refine bM_swaps_2 (pk_le 10 s (fun y => absurd y (by omega)) (fun _ => bM_swaps_8 ?_))
    have er := f2 r s hr hs
    have ek := f2 k s hk hs
    rw [if_neg (by omega)] at er ek
    rw [ix_r, ix_r, nI_clamp (show 10 * r + s < 2 ^ 31 by omega), nI_clamp (show 10 * k + s < 2 ^ 31 by omega), er, ek, nI_1]
    refine ⟨vp_in_nI (by omega) (by decide), vp_in_nI (by omega) (by decide), vp_in_nI (by omega) (by decide), vp_in_nI (by omega) (by decide), ih _ (fun a j z => ?_) (fun u j hu hj => ?_)⟩
    · rw [up_a z, up_a z]
      exact f1 a j z
    · by_cases ej : j = s
      · rw [ej, if_pos (by omega)]
        by_cases e1 : u = k
        · rw [e1, up_s, swp_k]
        · rw [up_k (by omega)]
          by_cases e2 : u = r
          · rw [e2, up_s, swp_r]
          · rw [up_k (by omega), f2 u s hu hs, if_neg (by omega), swp_o e1 e2]
      · rw [up_k (by omega), up_k (by omega), f2 u j hu hj]
        by_cases g : j < s
        · rw [if_pos g, if_pos (by omega)]
        · rw [if_neg g, if_neg (by omega)]
end MROWS
