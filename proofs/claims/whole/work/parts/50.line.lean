/-! LINES; and the reference's second row (cell 89) -/
def nR (I : Nat → Nat → Int32) (m : Nat → Nat) : Prop := ∀ k, k < 212 → I 89 k = nI (m k)
theorem nR_up {I : Nat → Nat → Int32} {m : Nat → Nat} {k v : Nat} (h : nR I m) : nR (km_up I 89 k (nI v)) (ups m k v) := fun j hj => by
  unfold ups
  by_cases e : j = k
  · rw [e, up_s, if_pos rfl]
  · rw [up_k e, if_neg e]
    exact h j hj
section ROWR
variable {I : Nat → Nat → Int32} {L : Nat → Nat → Int64} {q r1 r2 : Nat → Nat} {w : Bool} {K : km_K} {m : Nat → Nat}
theorem r_settles (hn : nR I m) (hw : m 0 ≤ 10) (h : ∀ I', (∀ a k, a ≠ 89 → I' a k = I a k) → nR I' (stl m) → K none (I', L, kr q w r1 r2)) : kC sh kp 60 [.ref 89] (I, L, kr q w r1 r2) K := by
  refine ⟨rfl, bM_settles_r_0 ⟨pk_in 200 212 (by decide), ?_⟩⟩
  rw [cl200]
  refine up0 (Pr := fun i => ∀ I', (∀ a k, a ≠ 89 → I' a k = I a k) → nR I' (sti m i) → kW sh kp 60 8 [some (.ref 89), some (.int (nI i))] [] (I', L, kr q w r1 r2) K) (e := 10) ?_ (fun i hi ih => ?_) _ (fun a k ha => up_a ha) (by rw [sti_0]; exact nR_up hn)
  · intro I' f1 f2
    exact bM_settles_r_8 (pk_le 10 10 (fun _ => bM_settles_r_49 (h I' f1 f2)) (fun g => absurd g (by omega)))
  · intro I' f1 f2
    have e0 : I' 89 0 = nI (m 0) := by
      rw [f2 0 (by decide), sti_o (by omega) (by omega)]
    have e2 : I' 89 (2 + i) = nI (m (2 + i)) := by
      rw [f2 (2 + i) (by omega), sti_o (by omega) (by omega)]
    refine bM_settles_r_8 (pk_le 10 i (fun g => absurd g (by omega)) (fun _ => bM_settles_r_14 ⟨?_, pk_in 0 212 (by decide), ?_⟩))
    · rw [fa_lit 12, nI_add]
      exact vp_in_nI (by omega) (by decide)
    · rw [fa_lit 12, nI_add, nI_clamp (by omega), cl0, up_k (by omega), e0]
      have go : ∀ v : Nat, v = (if i < m 0 then m (2 + i) else 0) → kW sh kp 60 42 [some (.ref 89), some (.int (nI i))] [.int (nI v), .int (22 + nI i), .ref 89] (km_up I' 89 (12 + i) 0, L, kr q w r1 r2) K := fun v hv => bM_settles_r_42 ⟨rfl, by
        rw [fa_lit 22, nI_add]
        exact vp_in_nI (show 22 + i < 212 by omega) (by decide), by
        rw [fa_lit 22, nI_add, nI_clamp (by omega), nI_1]
        refine ih _ (fun a k ha => by rw [up_a ha, up_a ha]; exact f1 a k ha) ?_
        rw [← sti_s hi, ← hv]
        exact nR_up (nR_up (v := 0) f2)⟩
      refine pk_le (m 0) i (fun g => bM_settles_r_41 (go 0 (by rw [if_neg (by omega)]))) (fun g => bM_settles_r_33 ⟨?_, ?_⟩)
      · rw [fa_lit 2, nI_add]
        exact vp_in_nI (by omega) (by decide)
      · rw [fa_lit 2, nI_add, nI_clamp (by omega), up_k (by omega), e2]
        exact go _ (by rw [if_pos g])
theorem r_adds {v : Nat} (hn : nR I m) (hw : m 0 < 10) (h : ∀ I', (∀ a k, a ≠ 89 → I' a k = I a k) → nR I' (adp m v) → K (some (.int (nI (m 0)))) (I', L, kr q w r1 r2)) : kC sh kp 61 [.ref 89, .int (nI v)] (I, L, kr q w r1 r2) K := by
  have v0 : vp_in (0 : Int32) 212 := pk_in 0 212 (by decide)
  have e0 : I 89 0 = nI (m 0) := hn 0 (by decide)
  have e2 : (2 + nI (m 0)).toNatClampNeg = 2 + m 0 := by rw [fa_lit 2, nI_add, nI_clamp (by omega)]
  refine ⟨rfl, bM_adds_r_0 ?_⟩
  rw [cl0, e0, e2, up_s, up_k (by omega), e0, nI_1, nI_pred]
  refine ⟨v0, ?_, v0, v0, v0, h _ (fun a k ha => by rw [up_a ha, up_a ha]) (nR_up (nR_up hn))⟩
  rw [fa_lit 2, nI_add]
  exact vp_in_nI (by omega) (by decide)
theorem r_addsStep {c : Nat} (hn : nR I m) (hs : m 1 < 8) (h : ∀ I', (∀ a k, a ≠ 89 → I' a k = I a k) → nR I' (ads m c (fun _ => 0) (fun _ => 0)) → K (some (.int (nI (m 1)))) (I', L, kr q w r1 r2)) : kC sh kp 62 [.ref 89, .int (nI c)] (I, L, kr q w r1 r2) K := by
  have v1 : vp_in (1 : Int32) 212 := pk_in 1 212 (by decide)
  have e1 : I 89 1 = nI (m 1) := hn 1 (by decide)
  refine ⟨rfl, bM_addsStep_r_0 ?_⟩
  rw [cl1, e1, fa_lit 32, nI_add, nI_clamp (by omega)]
  refine ⟨v1, vp_in_nI (by omega) (by decide), ?_⟩
  refine up0 (Pr := fun i => ∀ I', (∀ a k, a ≠ 89 → I' a k = I a k) → nR I' (adi m c i) → kW sh kp 62 13 [some (.ref 89), none, some (.int (nI (m 1))), some (.int (nI i))] [] (I', L, kr q w r1 r2) K) (e := 10) ?_ (fun i hi ih => ?_) _ (fun a k ha => up_a ha) (by rw [adi_0]; exact nR_up hn)
  · intro I' f1 f2
    refine bM_addsStep_r_13 (pk_le 10 10 (fun _ => bM_addsStep_r_49 ⟨v1, v1, ?_⟩) (fun g => absurd g (by omega)))
    have e2 : I' 89 1 = nI (m 1) := by
      rw [f2 1 (by decide), adi_e (by omega) (by omega) (by omega)]
    rw [cl1, e2, nI_1]
    refine h _ (fun a k ha => by rw [up_a ha]; exact f1 a k ha) ?_
    rw [← adi_ads]
    exact nR_up f2
  · intro I' f1 f2
    refine bM_addsStep_r_13 (pk_le 10 i (fun g => absurd g (by omega)) (fun _ => bM_addsStep_r_19 ?_))
    rw [ix_tk, ix_gv, nI_clamp (by omega), nI_clamp (by omega), nI_1]
    refine ⟨vp_in_nI (by omega) (by decide), vp_in_nI (by omega) (by decide), ih _ (fun a k ha => by rw [up_a ha, up_a ha]; exact f1 a k ha) ?_⟩
    rw [← adi_s hi hs]
    exact nR_up (v := 0) (nR_up (v := 0) f2)
theorem r_addsGuard {S v : Nat} (hn : nR I m) (hg : m 200 < 5) (h : ∀ I', (∀ a k, a ≠ 89 → I' a k = I a k) → nR I' (adg m S v) → K none (I', L, kr q w r1 r2)) : kC sh kp 128 [.ref 89, .int (nI S), .int (nI v)] (I, L, kr q w r1 r2) K := by
  have e0 : I 89 200 = nI (m 200) := hn 200 (by decide)
  have i1 := ix_p (c := 201) (p := m 200) (by omega)
  have i2 := ix_p (c := 206) (p := m 200) (by omega)
  refine ⟨rfl, bM_addsGuard_r_0 ?_⟩
  rw [cl200, e0, fa_lit 201, i1.1, up_k (show 200 ≠ 201 + m 200 by omega), e0, fa_lit 206, i2.1, up_k (show 200 ≠ 206 + m 200 by omega), up_k (show 200 ≠ 201 + m 200 by omega), e0, nI_1]
  exact ⟨pk_in 200 212 (by decide), i1.2, pk_in 200 212 (by decide), i2.2, pk_in 200 212 (by decide), pk_in 200 212 (by decide), h _ (fun a k z => by rw [up_a z, up_a z, up_a z]) (nR_up (nR_up (nR_up hn)))⟩
end ROWR
def lft (a n : Nat) (mc : Nat → Nat) (i p : Nat) : Nat := if p = a + i ∨ (i < n ∧ p = mc i) then 1 else 0
def lfg (a n : Nat) (mc : Nat → Nat) (i p : Nat) : Nat := if p = (if i < n then a + i + 1 else a) ∨ (0 < i ∧ p = mc (i - 1)) then 1 else 0
def lnP (m : Nat → Nat) (k : Nat) : Nat → Nat → Nat
  | 0 => adp m k
  | i + 1 => adp (lnP m k i) 0
def lnS (a n : Nat) (mc : Nat → Nat) (m : Nat → Nat) : Nat → Nat → Nat
  | 0 => m
  | i + 1 => ads (lnS a n mc m i) 1 (lft a n mc i) (lfg a n mc i)
/-- a line of k pallets through n machines -/
def lnN (m : Nat → Nat) (k n : Nat) (mc : Nat → Nat) : Nat → Nat := lnS (m 0) n mc (lnP m k n) (n + 1)
def wz (m : Nat → Nat) : Prop := ∀ t p, t < m 1 → m 0 ≤ p → p < 10 → m (40 + 10 * t + p) = 0 ∧ m (120 + 10 * t + p) = 0
theorem lnP_p {m : Nat → Nat} {k n : Nat} (hw : wb m) (hz : wz m) (hk : k ≤ 15) (hn : m 0 + n + 1 ≤ 10) : ∀ i, i ≤ n → wb (lnP m k i) ∧ wz (lnP m k i) ∧ lnP m k i 0 = m 0 + 1 + i ∧ lnP m k i 1 = m 1
  | 0, _ => ⟨wb_adp hw (by omega) hk, wz_adp (by omega) hz, adp_0, adp_o (by decide) (by omega)⟩
  | i + 1, h => by
    obtain ⟨a, b, c, d⟩ := lnP_p hw hz hk hn i (by omega)
    refine ⟨wb_adp a (by omega) (by omega), wz_adp (by omega) b, ?_, ?_⟩
    · show adp (lnP m k i) 0 0 = _
      rw [adp_0, c]
      omega
    · show adp (lnP m k i) 0 1 = _
      rw [adp_o (by decide) (by omega), d]
theorem lf_z {a n i P : Nat} {mc : Nat → Nat} (hn : i ≤ n) (hP : P = a + 1 + n) (hm : ∀ j, j < n → mc j < a) : ∀ p, P ≤ p → lft a n mc i p = 0 ∧ lfg a n mc i p = 0 := fun p hp => by
  unfold lft lfg
  refine ⟨if_neg fun z => ?_, if_neg fun z => ?_⟩
  · rcases z with z | z
    · omega
    · have := hm i z.1
      omega
  · rcases z with z | z
    · split at z <;> omega
    · have := hm (i - 1) (by omega)
      omega
theorem lf_b {a n i p : Nat} {mc : Nat → Nat} : lft a n mc i p ≤ 1 ∧ lfg a n mc i p ≤ 1 := by
  unfold lft lfg
  refine ⟨?_, ?_⟩
  · by_cases e : p = a + i ∨ (i < n ∧ p = mc i)
    · rw [if_pos e]
      exact Nat.le_refl _
    · rw [if_neg e]
      exact Nat.zero_le _
  · by_cases e : p = (if i < n then a + i + 1 else a) ∨ (0 < i ∧ p = mc (i - 1))
    · rw [if_pos e]
      exact Nat.le_refl _
    · rw [if_neg e]
      exact Nat.zero_le _
theorem lnS_p {m : Nat → Nat} {a n s0 : Nat} {mc : Nat → Nat} (hw : wb m) (hz : wz m) (h0 : m 0 = a + 1 + n) (h1 : m 1 = s0) (hs : s0 + n + 1 ≤ 8) (hm : ∀ j, j < n → mc j < a) : ∀ i, i ≤ n + 1 → wb (lnS a n mc m i) ∧ wz (lnS a n mc m i) ∧ lnS a n mc m i 0 = a + 1 + n ∧ lnS a n mc m i 1 = s0 + i
  | 0, _ => ⟨hw, hz, h0, h1⟩
  | i + 1, h => by
    obtain ⟨x1, x2, x3, x4⟩ := lnS_p hw hz h0 h1 hs hm i (by omega)
    have hf := lf_z (i := i) (by omega) x3 hm
    refine ⟨wb_ads x1 (by omega) (by decide) (fun p _ => by have := lf_b (a := a) (n := n) (i := i) (p := p) (mc := mc); omega), wz_ads (by omega) hf x2, ?_, ?_⟩
    · show ads (lnS a n mc m i) 1 (lft a n mc i) (lfg a n mc i) 0 = _
      rw [ads_o (by omega) (by omega) (by omega) (by omega), x3]
    · show ads (lnS a n mc m i) 1 (lft a n mc i) (lfg a n mc i) 1 = _
      rw [ads_1, x4]
      omega
theorem lnN_p {m : Nat → Nat} {k n : Nat} {mc : Nat → Nat} (hw : wb m) (hz : wz m) (hk : k ≤ 15) (hn : m 0 + n + 1 ≤ 10) (hs : m 1 + n + 1 ≤ 8) (hm : ∀ j, j < n → mc j < m 0) : wb (lnN m k n mc) ∧ wz (lnN m k n mc) ∧ lnN m k n mc 0 = m 0 + 1 + n ∧ lnN m k n mc 1 = m 1 + (n + 1) := by
  obtain ⟨a, b, c, d⟩ := lnP_p hw hz hk hn n (Nat.le_refl _)
  exact lnS_p a b c d hs hm (n + 1) (Nat.le_refl _)
theorem mp_two {b n x y : Nat} (hx : x < n) (hy : y < n) (h : x ≠ y) : b ^ x + b ^ y = mp b (fun p => if p = x ∨ p = y then 1 else 0) n := by
  rw [← mp_one (b := b) hx, ← mp_one (b := b) hy, ← mp_add]
  refine mp_congr n fun p _ => ?_
  show (if p = x then 1 else 0) + (if p = y then 1 else 0) = if p = x ∨ p = y then 1 else 0
  by_cases e1 : p = x
  · rw [if_pos e1, if_neg (by omega), if_pos (Or.inl e1)]
  · by_cases e2 : p = y
    · rw [if_neg e1, if_pos e2, if_pos (Or.inr e2)]
    · rw [if_neg e1, if_neg e2, if_neg (by omega)]
theorem lft_mp {a n i : Nat} {mc : Nat → Nat} (hi : i ≤ n) (ha : a + n < 10) (hm : ∀ j, j < n → mc j < a) : (i < n → 32 ^ (a + i) + 32 ^ (mc i) = mp 32 (lft a n mc i) 10) ∧ (¬ i < n → 32 ^ (a + i) = mp 32 (lft a n mc i) 10) := by
  refine ⟨fun h => ?_, fun h => ?_⟩
  · have := hm i h
    rw [mp_two (b := 32) (n := 10) (by omega) (by omega) (by omega)]
    refine mp_congr 10 fun p _ => ?_
    unfold lft
    by_cases e : p = a + i ∨ p = mc i
    · rw [if_pos e, if_pos (e.imp id fun z => ⟨h, z⟩)]
    · rw [if_neg e, if_neg fun z => e (z.imp id fun y => y.2)]
  · rw [← mp_one (b := 32) (n := 10) (p := a + i) (by omega)]
    refine mp_congr 10 fun p _ => ?_
    unfold lft
    by_cases e : p = a + i
    · rw [if_pos e, if_pos (Or.inl e)]
    · rw [if_neg e, if_neg (by omega)]
theorem lfg_mp {a n i g : Nat} {mc : Nat → Nat} (hi : i ≤ n) (ha : a + n < 10) (hm : ∀ j, j < n → mc j < a) (hg : g = if i < n then a + i + 1 else a) : (0 < i → 32 ^ g + 32 ^ (mc (i - 1)) = mp 32 (lfg a n mc i) 10) ∧ (¬ 0 < i → 32 ^ g = mp 32 (lfg a n mc i) 10) := by
  have hgl : a ≤ g ∧ g < 10 := by
    rw [hg]
    split <;> omega
  refine ⟨fun h => ?_, fun h => ?_⟩
  · have := hm (i - 1) (by omega)
    rw [mp_two (b := 32) (n := 10) (by omega) (by omega) (by omega)]
    refine mp_congr 10 fun p _ => ?_
    unfold lfg
    rw [← hg]
    by_cases e : p = g ∨ p = mc (i - 1)
    · rw [if_pos e, if_pos (e.imp id fun z => ⟨h, z⟩)]
    · rw [if_neg e, if_neg fun z => e (z.imp id fun y => y.2)]
  · rw [← mp_one (b := 32) (n := 10) (p := g) (by omega)]
    refine mp_congr 10 fun p _ => ?_
    unfold lfg
    rw [← hg]
    by_cases e : p = g
    · rw [if_pos e, if_pos (Or.inl e)]
    · rw [if_neg e, if_neg (by omega)]
/-- digits of machines from i on, the first one highest -/
def dgn (mc : Nat → Nat) : Nat → Nat → Nat
  | _, 0 => 0
  | i, r + 1 => mc i * 10 ^ r + dgn mc (i + 1) r
theorem dgn_lt {mc : Nat → Nat} (h : ∀ j, mc j < 10) : ∀ r i, dgn mc i r < 10 ^ r
  | 0, i => by show 0 < 10 ^ 0; decide
  | r + 1, i => by
    have h1 := dgn_lt h r (i + 1)
    have h2 : (mc i + 1) * 10 ^ r ≤ 10 * 10 ^ r := Nat.mul_le_mul_right _ (h i)
    rw [Nat.add_mul, Nat.one_mul] at h2
    show mc i * 10 ^ r + dgn mc (i + 1) r < 10 ^ (r + 1)
    rw [Nat.pow_succ, Nat.mul_comm (10 ^ r)]
    omega
theorem dgn_div {mc : Nat → Nat} (h : ∀ j, mc j < 10) {r i : Nat} : dgn mc i (r + 1) / 10 ^ r = mc i ∧ dgn mc i (r + 1) % 10 ^ r = dgn mc (i + 1) r := by
  have h1 := dgn_lt h r (i + 1)
  have hp : 0 < 10 ^ r := Nat.pow_pos (by decide)
  show (mc i * 10 ^ r + dgn mc (i + 1) r) / 10 ^ r = mc i ∧ (mc i * 10 ^ r + dgn mc (i + 1) r) % 10 ^ r = _
  rw [Nat.mul_comm, Nat.mul_add_div hp, Nat.div_eq_of_lt h1, Nat.mul_add_mod, Nat.mod_eq_of_lt h1]
  exact ⟨rfl, rfl⟩
theorem dgn_snoc {mc : Nat → Nat} : ∀ n i, dgn mc i (n + 1) = 10 * dgn mc i n + mc (i + n)
  | 0, i => by
    show mc i * 10 ^ 0 + 0 = 10 * 0 + mc (i + 0)
    rw [Nat.pow_zero, Nat.mul_one, Nat.add_zero i]
    omega
  | n + 1, i => by
    have ih := dgn_snoc (mc := mc) n (i + 1)
    show mc i * 10 ^ (n + 1) + dgn mc (i + 1) (n + 1) = 10 * (mc i * 10 ^ n + dgn mc (i + 1) n) + mc (i + (n + 1))
    rw [ih, Nat.pow_succ, show i + 1 + n = i + (n + 1) by omega, ← Nat.mul_assoc, Nat.mul_add, Nat.mul_comm (mc i * 10 ^ n) 10]
    omega
theorem pw10 : ∀ r, r ≤ 4 → 10 ^ r ≤ 10000 ∧ 1 ≤ 10 ^ r := by decide
section LINE_r
variable {I : Nat → Nat → Int32} {L : Nat → Nat → Int64} {q r1 r2 : Nat → Nat} {w : Bool} {K : km_K} {m : Nat → Nat}
theorem c_addLine_r {k n : Nat} {mc : Nat → Nat} (hR : cR0 I L m) (hw : wb m) (hz : wz m) (hk : k ≤ 15) (hn4 : n ≤ 4) (hn : m 0 + n + 1 ≤ 10) (hs : m 1 + n + 1 ≤ 8) (hm : ∀ j, j < n → mc j < m 0) (hM : ∀ j, j < n → I 70 j = nI (mc j)) (h : ∀ I' L', fD I L I' L' → cR0 I' L' (lnN m k n mc) → K none (I', L', kr q w r1 r2)) : kC sh kp 219 [.ref 1, .int (nI k), .ref 70, .int (nI n)] (I, L, kr q w r1 r2) K := by
  refine ⟨rfl, bS_addLine_r_0 (c_addPlace (m := m) hR hw (by omega) (by omega) (fun t ht => hz t _ ht (Nat.le_refl _) (by omega)) fun I1 L1 f1 f2 f3 => bS_addLine_r_11 ?_)⟩
  rw [hR.1]
  have fd1 : fD I L I1 L1 := ⟨fun a k z => f1 a k (fun e => absurd e (by omega)), fun a k z => f2 a k (fun e => absurd e (by omega))⟩
  refine up0 (Pr := fun i => ∀ I' L', fD I L I' L' → cR0 I' L' (lnP m k i) → kW sh kp 219 14 [some (.ref 1), none, some (.ref 70), some (.int (nI n)), some (.int (nI (m 0))), some (.int (nI i)), none, none, none, none] [] (I', L', kr q w r1 r2) K) (e := n) ?_ (fun i hi ih => ?_) I1 L1 fd1 f3
  · intro I2 L2 g1 g2
    refine bS_addLine_r_14 (pk_le n n (fun _ => bS_addLine_r_31 ?_) (fun z => absurd z (by omega)))
    obtain ⟨pa, pb, pc, pd⟩ := lnP_p hw hz hk hn n (Nat.le_refl _)
    have hN : lnN m k n mc = lnS (m 0) n mc (lnP m k n) (n + 1) := rfl
    rw [hN] at h
    generalize lnP m k n = r at pa pb pc pd g2 h
    refine up0 (Pr := fun i => ∀ I' L', fD I L I' L' → cR0 I' L' (lnS (m 0) n mc r i) → kW sh kp 219 34 [some (.ref 1), none, some (.ref 70), some (.int (nI n)), some (.int (nI (m 0))), some (.int (nI i)), none, none, none, none] [] (I', L', kr q w r1 r2) K) (e := n + 1) ?_ (fun i hi ih => ?_) I2 L2 g1 g2
    · intro I3 L3 j1 j2
      exact bS_addLine_r_34 (pk_lt n (n + 1) (fun _ => bS_addLine_r_125 (h I3 L3 j1 j2)) (fun z => absurd z (by omega)))
    · intro I3 L3 j1 j2
      obtain ⟨sa, sb, sc, sd⟩ := lnS_p (mc := mc) pa pb pc pd hs hm i (by omega)
      have es : lnS (m 0) n mc r (i + 1) = ads (lnS (m 0) n mc r i) 1 (lft (m 0) n mc i) (lfg (m 0) n mc i) := rfl
      rw [es] at ih
      generalize lnS (m 0) n mc r i = y at sa sb sc sd j2 ih
      have hMc : ∀ j, j < n → I3 70 j = nI (mc j) := fun j hj => (j1.1 70 j (by omega)).trans (hM j hj)
      have last : kW sh kp 219 110 [some (.ref 1), none, some (.ref 70), some (.int (nI n)), some (.int (nI (m 0))), some (.int (nI i)), some (.long (lN (mp 32 (lft (m 0) n mc i) 10))), none, some (.long (lN (mp 32 (lfg (m 0) n mc i) 10))), none] [] (I3, L3, kr q w r1 r2) K := bS_addLine_r_110 (c_addStep (m := y) (c := 1) j2 (by omega) (by omega) (lf_z (i := i) (by omega) sc hm) fun I4 L4 k1 k2 k3 => bS_addLine_r_119 (by
        rw [nI_1]
        exact ih I4 L4 ⟨fun a b z => (k1 a b (fun e => absurd e (by omega)) (by omega)).trans (j1.1 a b z), fun a b z => (k2 a b (by omega) (by omega)).trans (j1.2 a b z)⟩ k3))
      have given : ∀ g : Nat, (g = if i < n then m 0 + i + 1 else m 0) → kW sh kp 219 91 [some (.ref 1), none, some (.ref 70), some (.int (nI n)), some (.int (nI (m 0))), some (.int (nI i)), some (.long (lN (mp 32 (lft (m 0) n mc i) 10))), none, some (.long (lN (32 ^ g))), none] [] (I3, L3, kr q w r1 r2) K := fun g hg => by
        have lg := lfg_mp (i := i) (by omega) (by omega) hm hg
        refine bS_addLine_r_91 (pk_le i 0 (fun z => ?_) (fun z => bS_addLine_r_96 ?_))
        · rw [lg.2 (by omega)]
          exact last
        · have := hm (i - 1) (by omega)
          rw [show nI i - 1 = nI (i - 1) from pk_sub (b := 1) (by omega), nI_clamp (by omega), hMc _ (by omega)]
          refine ⟨vp_in_nI (by omega) (by decide), s_one (by omega) (bS_addLine_r_107 ?_)⟩
          rw [lN_add, lg.1 z]
          exact last
      have taken : ∀ g : Nat, (g = if i < n then m 0 + i + 1 else m 0) → kW sh kp 219 71 [some (.ref 1), none, some (.ref 70), some (.int (nI n)), some (.int (nI (m 0))), some (.int (nI i)), some (.long (lN (32 ^ (m 0 + i)))), none, none, none] [.long (lN (32 ^ g))] (I3, L3, kr q w r1 r2) K := fun g hg => by
        have lt := lft_mp (i := i) (mc := mc) (show i ≤ n by omega) (by omega) hm
        refine bS_addLine_r_71 (pk_le n i (fun z => ?_) (fun z => bS_addLine_r_79 ?_))
        · rw [lt.2 (by omega)]
          exact given g hg
        · have := hm i z
          rw [nI_clamp (by omega), hMc _ z]
          refine ⟨vp_in_nI (by omega) (by decide), s_one (by omega) (bS_addLine_r_88 ?_)⟩
          rw [lN_add, lt.1 z]
          exact given g hg
      refine bS_addLine_r_34 (pk_lt n i (fun z => absurd z (by omega)) (fun _ => bS_addLine_r_40 ?_))
      rw [nI_add]
      refine s_one (by omega) (bS_addLine_r_48 (pk_le n i (fun z => bS_addLine_r_66 (bS_addLine_r_68 (s_one (by omega) (taken _ (by rw [if_neg (by omega)]))))) (fun z => bS_addLine_r_56 (bS_addLine_r_68 ?_))))
      rw [nI_add, nI_1]
      exact s_one (by omega) (taken _ (by rw [if_pos z]))
  · intro I2 L2 g1 g2
    obtain ⟨pa, pb, pc, pd⟩ := lnP_p hw hz hk hn i (by omega)
    refine bS_addLine_r_14 (pk_le n i (fun z => absurd z (by omega)) (fun _ => bS_addLine_r_20 (c_addPlace (m := lnP m k i) (v := 0) g2 pa (by omega) (by decide) (fun t ht => pb t _ ht (Nat.le_refl _) (by omega)) fun I3 L3 l1 l2 l3 => bS_addLine_r_25 ?_)))
    rw [nI_1]
    exact ih I3 L3 ⟨fun a b z => (l1 a b (fun e => absurd e (by omega))).trans (g1.1 a b z), fun a b z => (l2 a b (fun e => absurd e (by omega))).trans (g1.2 a b z)⟩ l3
end LINE_r
section LINE_m
variable {I : Nat → Nat → Int32} {L : Nat → Nat → Int64} {q r1 r2 : Nat → Nat} {w : Bool} {K : km_K} {m : Nat → Nat}
theorem c_addLine_m {k n : Nat} {mc : Nat → Nat} (hR : cR0 I L m) (hw : wb m) (hz : wz m) (hk : k ≤ 15) (hn4 : n ≤ 4) (hn : m 0 + n + 1 ≤ 10) (hs : m 1 + n + 1 ≤ 8) (hm : ∀ j, j < n → mc j < m 0) (hM : ∀ j, j < n → I 69 j = nI (mc j)) (h : ∀ I' L', fD I L I' L' → cR0 I' L' (lnN m k n mc) → K none (I', L', kr q w r1 r2)) : kC sh kp 219 [.ref 1, .int (nI k), .ref 69, .int (nI n)] (I, L, kr q w r1 r2) K := by
  refine ⟨rfl, bS_addLine_m_0 (c_addPlace (m := m) hR hw (by omega) (by omega) (fun t ht => hz t _ ht (Nat.le_refl _) (by omega)) fun I1 L1 f1 f2 f3 => bS_addLine_m_11 ?_)⟩
  rw [hR.1]
  have fd1 : fD I L I1 L1 := ⟨fun a k z => f1 a k (fun e => absurd e (by omega)), fun a k z => f2 a k (fun e => absurd e (by omega))⟩
  refine up0 (Pr := fun i => ∀ I' L', fD I L I' L' → cR0 I' L' (lnP m k i) → kW sh kp 219 14 [some (.ref 1), none, some (.ref 69), some (.int (nI n)), some (.int (nI (m 0))), some (.int (nI i)), none, none, none, none] [] (I', L', kr q w r1 r2) K) (e := n) ?_ (fun i hi ih => ?_) I1 L1 fd1 f3
  · intro I2 L2 g1 g2
    refine bS_addLine_m_14 (pk_le n n (fun _ => bS_addLine_m_31 ?_) (fun z => absurd z (by omega)))
    obtain ⟨pa, pb, pc, pd⟩ := lnP_p hw hz hk hn n (Nat.le_refl _)
    have hN : lnN m k n mc = lnS (m 0) n mc (lnP m k n) (n + 1) := rfl
    rw [hN] at h
    generalize lnP m k n = r at pa pb pc pd g2 h
    refine up0 (Pr := fun i => ∀ I' L', fD I L I' L' → cR0 I' L' (lnS (m 0) n mc r i) → kW sh kp 219 34 [some (.ref 1), none, some (.ref 69), some (.int (nI n)), some (.int (nI (m 0))), some (.int (nI i)), none, none, none, none] [] (I', L', kr q w r1 r2) K) (e := n + 1) ?_ (fun i hi ih => ?_) I2 L2 g1 g2
    · intro I3 L3 j1 j2
      exact bS_addLine_m_34 (pk_lt n (n + 1) (fun _ => bS_addLine_m_125 (h I3 L3 j1 j2)) (fun z => absurd z (by omega)))
    · intro I3 L3 j1 j2
      obtain ⟨sa, sb, sc, sd⟩ := lnS_p (mc := mc) pa pb pc pd hs hm i (by omega)
      have es : lnS (m 0) n mc r (i + 1) = ads (lnS (m 0) n mc r i) 1 (lft (m 0) n mc i) (lfg (m 0) n mc i) := rfl
      rw [es] at ih
      generalize lnS (m 0) n mc r i = y at sa sb sc sd j2 ih
      have hMc : ∀ j, j < n → I3 69 j = nI (mc j) := fun j hj => (j1.1 69 j (by omega)).trans (hM j hj)
      have last : kW sh kp 219 110 [some (.ref 1), none, some (.ref 69), some (.int (nI n)), some (.int (nI (m 0))), some (.int (nI i)), some (.long (lN (mp 32 (lft (m 0) n mc i) 10))), none, some (.long (lN (mp 32 (lfg (m 0) n mc i) 10))), none] [] (I3, L3, kr q w r1 r2) K := bS_addLine_m_110 (c_addStep (m := y) (c := 1) j2 (by omega) (by omega) (lf_z (i := i) (by omega) sc hm) fun I4 L4 k1 k2 k3 => bS_addLine_m_119 (by
        rw [nI_1]
        exact ih I4 L4 ⟨fun a b z => (k1 a b (fun e => absurd e (by omega)) (by omega)).trans (j1.1 a b z), fun a b z => (k2 a b (by omega) (by omega)).trans (j1.2 a b z)⟩ k3))
      have given : ∀ g : Nat, (g = if i < n then m 0 + i + 1 else m 0) → kW sh kp 219 91 [some (.ref 1), none, some (.ref 69), some (.int (nI n)), some (.int (nI (m 0))), some (.int (nI i)), some (.long (lN (mp 32 (lft (m 0) n mc i) 10))), none, some (.long (lN (32 ^ g))), none] [] (I3, L3, kr q w r1 r2) K := fun g hg => by
        have lg := lfg_mp (i := i) (by omega) (by omega) hm hg
        refine bS_addLine_m_91 (pk_le i 0 (fun z => ?_) (fun z => bS_addLine_m_96 ?_))
        · rw [lg.2 (by omega)]
          exact last
        · have := hm (i - 1) (by omega)
          rw [show nI i - 1 = nI (i - 1) from pk_sub (b := 1) (by omega), nI_clamp (by omega), hMc _ (by omega)]
          refine ⟨vp_in_nI (by omega) (by decide), s_one (by omega) (bS_addLine_m_107 ?_)⟩
          rw [lN_add, lg.1 z]
          exact last
      have taken : ∀ g : Nat, (g = if i < n then m 0 + i + 1 else m 0) → kW sh kp 219 71 [some (.ref 1), none, some (.ref 69), some (.int (nI n)), some (.int (nI (m 0))), some (.int (nI i)), some (.long (lN (32 ^ (m 0 + i)))), none, none, none] [.long (lN (32 ^ g))] (I3, L3, kr q w r1 r2) K := fun g hg => by
        have lt := lft_mp (i := i) (mc := mc) (show i ≤ n by omega) (by omega) hm
        refine bS_addLine_m_71 (pk_le n i (fun z => ?_) (fun z => bS_addLine_m_79 ?_))
        · rw [lt.2 (by omega)]
          exact given g hg
        · have := hm i z
          rw [nI_clamp (by omega), hMc _ z]
          refine ⟨vp_in_nI (by omega) (by decide), s_one (by omega) (bS_addLine_m_88 ?_)⟩
          rw [lN_add, lt.1 z]
          exact given g hg
      refine bS_addLine_m_34 (pk_lt n i (fun z => absurd z (by omega)) (fun _ => bS_addLine_m_40 ?_))
      rw [nI_add]
      refine s_one (by omega) (bS_addLine_m_48 (pk_le n i (fun z => bS_addLine_m_66 (bS_addLine_m_68 (s_one (by omega) (taken _ (by rw [if_neg (by omega)]))))) (fun z => bS_addLine_m_56 (bS_addLine_m_68 ?_))))
      rw [nI_add, nI_1]
      exact s_one (by omega) (taken _ (by rw [if_pos z]))
  · intro I2 L2 g1 g2
    obtain ⟨pa, pb, pc, pd⟩ := lnP_p hw hz hk hn i (by omega)
    refine bS_addLine_m_14 (pk_le n i (fun z => absurd z (by omega)) (fun _ => bS_addLine_m_20 (c_addPlace (m := lnP m k i) (v := 0) g2 pa (by omega) (by decide) (fun t ht => pb t _ ht (Nat.le_refl _) (by omega)) fun I3 L3 l1 l2 l3 => bS_addLine_m_25 ?_)))
    rw [nI_1]
    exact ih I3 L3 ⟨fun a b z => (l1 a b (fun e => absurd e (by omega))).trans (g1.1 a b z), fun a b z => (l2 a b (fun e => absurd e (by omega))).trans (g1.2 a b z)⟩ l3
end LINE_m
section LAYS_n
variable {I : Nat → Nat → Int32} {L : Nat → Nat → Int64} {q r1 r2 : Nat → Nat} {w : Bool} {K : km_K} {m : Nat → Nat}
theorem m_lays {k n : Nat} {mc : Nat → Nat} (hN : nN I m) (hw : wb m) (hz : wz m) (hk : k ≤ 15) (hn1 : 1 ≤ n) (hn4 : n ≤ 4) (hn : m 0 + n + 1 ≤ 10) (hs : m 1 + n + 1 ≤ 8) (hm : ∀ j, j < n → mc j < m 0) (hmc : ∀ j, mc j < 10) (h : ∀ I', (∀ a k, a ≠ 72 → I' a k = I a k) → nN I' (lnN m k n mc) → K none (I', L, kr q w r1 r2)) : kC sh kp 68 [.ref 72, .int (nI k), .int (nI n), .int (nI (dgn mc 0 n))] (I, L, kr q w r1 r2) K := by
  refine ⟨rfl, bM_lays_n_0 (m_adds hN (by omega) fun I1 f1 f2 => bM_lays_n_5 ?_)⟩
  refine up0 (Pr := fun i => ∀ I', (∀ a k, a ≠ 72 → I' a k = I a k) → nN I' (lnP m k i) → kW sh kp 68 10 [some (.ref 72), none, some (.int (nI n)), some (.int (nI (dgn mc 0 n))), some (.int (nI (m 0))), some (.int (nI i)), none, none, none, none, none] [] (I', L, kr q w r1 r2) K) (e := n) ?_ (fun i hi ih => ?_) I1 f1 f2
  · intro I2 g1 g2
    refine bM_lays_n_10 (pk_le n n (fun _ => bM_lays_n_28 ?_) (fun z => absurd z (by omega)))
    obtain ⟨pa, pb, pc, pd⟩ := lnP_p hw hz hk hn n (Nat.le_refl _)
    have hN : lnN m k n mc = lnS (m 0) n mc (lnP m k n) (n + 1) := rfl
    rw [hN] at h
    generalize lnP m k n = r at pa pb pc pd g2 h
    -- the power of ten
    have key := up0 (Pr := fun i => kW sh kp 68 40 [some (.ref 72), none, some (.int (nI n)), none, some (.int (nI (m 0))), some (.int (-1)), some (.int (nI (dgn mc 0 n))), some (.int (nI (10 ^ i))), some (.int (nI (1 + i))), none, none] [] (I2, L, kr q w r1 r2) K) (e := n - 1) ?_ fun i hi ih => ?_
    · exact key
    · refine bM_lays_n_40 (pk_le n (1 + (n - 1)) (fun _ => bM_lays_n_59 ?_) (fun z => absurd z (by omega)))
      -- the steps
      refine up0 (Pr := fun i => ∀ I' (x5 : Int32), (∀ a k, a ≠ 72 → I' a k = I a k) → nN I' (lnS (m 0) n mc r i) → (i ≤ n → x5 = if 0 < i then nI (mc (i - 1)) else -1) → kW sh kp 68 62 [some (.ref 72), none, some (.int (nI n)), none, some (.int (nI (m 0))), some (.int x5), some (.int (nI (dgn mc i (n - i)))), some (.int (nI (10 ^ (n - 1 - i)))), some (.int (nI i)), none, none] [] (I', L, kr q w r1 r2) K) (e := n + 1) ?_ (fun i hi ih2 => ?_) I2 (-1) g1 g2 (fun _ => rfl)
      · intro I3 x5 j1 j2 j3
        exact bM_lays_n_62 (pk_lt n (n + 1) (fun _ => bM_lays_n_222 (h I3 j1 j2)) (fun z => absurd z (by omega)))
      · intro I3 x5 j1 j2 j3
        have j3 := j3 (by omega)
        obtain ⟨sa, sb, sc, sd⟩ := lnS_p (mc := mc) pa pb pc pd hs hm i (by omega)
        have es : lnS (m 0) n mc r (i + 1) = ads (lnS (m 0) n mc r i) 1 (lft (m 0) n mc i) (lfg (m 0) n mc i) := rfl
        rw [es] at ih2
        generalize lnS (m 0) n mc r i = y at sa sb sc sd j2 ih2
        have p10 := pw10 (n - 1 - i) (by omega)
        have dl := dgn_lt hmc (n - i) i
        have dl4 := pw10 (n - i) (by omega)
        refine bM_lays_n_62 (pk_lt n i (fun z => absurd z (by omega)) (fun _ => bM_lays_n_68 (m_addsStep (m := y) (c := 1) j2 (by omega) fun I4 k1 k2 => bM_lays_n_73 ?_)))
        rw [sd]
        have hgs : ∀ g : Nat, (g = if i < n then m 0 + i + 1 else m 0) → ∀ (x10 : Int32), (x10 = if i < n then nI (mc i) else -1) → kW sh kp 68 136 [some (.ref 72), none, some (.int (nI n)), none, some (.int (nI (m 0))), some (.int x5), some (.int (nI (dgn mc i (n - i)))), some (.int (nI (10 ^ (n - 1 - i)))), some (.int (nI i)), some (.int (nI (m 1 + i))), some (.int x10)] [.int (nI g), .int (120 + 10 * nI (m 1 + i)), .ref 72] (km_up I4 72 (40 + 10 * (m 1 + i) + (m 0 + i)) 1, L, kr q w r1 r2) K := fun g hg x10 hx10 => by
          have hgl : m 0 ≤ g ∧ g < 10 := by
            rw [hg]
            split <;> omega
          have i120 : (120 : Int32) + 10 * nI (m 1 + i) + nI g = nI (120 + 10 * (m 1 + i) + g) := ix_gv
          refine bM_lays_n_136 ⟨rfl, ?_, ?_⟩
          · rw [i120]
            exact vp_in_nI (show 120 + 10 * (m 1 + i) + g < 212 by omega) (by decide)
          · rw [i120, nI_clamp (by omega)]
            -- behind the machine's own arc
            have tail : ∀ I5 (ft : Nat → Nat), (∀ a k, a ≠ 72 → I5 a k = I a k) → (∀ p, p < 10 → ft p = lft (m 0) n mc i p) → nN I5 (ads y 1 ft (fun p => if p = g then 1 else 0)) → kW sh kp 68 158 [some (.ref 72), none, some (.int (nI n)), none, some (.int (nI (m 0))), some (.int x5), some (.int (nI (dgn mc i (n - i)))), some (.int (nI (10 ^ (n - 1 - i)))), some (.int (nI i)), some (.int (nI (m 1 + i))), some (.int x10)] [] (I5, L, kr q w r1 r2) K := fun I5 ft l1 l2 l3 => by
              have after : ∀ I6 (fg : Nat → Nat), (∀ a k, a ≠ 72 → I6 a k = I a k) → (∀ p, p < 10 → fg p = lfg (m 0) n mc i p) → nN I6 (ads y 1 ft fg) → kW sh kp 68 177 [some (.ref 72), none, some (.int (nI n)), none, some (.int (nI (m 0))), none, some (.int (nI (dgn mc i (n - i)))), some (.int (nI (10 ^ (n - 1 - i)))), some (.int (nI i)), none, some (.int x10)] [] (I6, L, kr q w r1 r2) K := fun I6 fg q1 q2 q3 => by
                have q3' : nN I6 (ads y 1 (lft (m 0) n mc i) (lfg (m 0) n mc i)) := fun k hk => by
                  rw [q3 k hk]
                  unfold ads
                  by_cases c1 : k = 1
                  · rw [if_pos c1, if_pos c1]
                  · rw [if_neg c1, if_neg c1]
                    by_cases c2 : k = 32 + y 1
                    · rw [if_pos c2, if_pos c2]
                    · rw [if_neg c2, if_neg c2]
                      by_cases c3 : 40 + 10 * y 1 ≤ k ∧ k < 50 + 10 * y 1
                      · rw [if_pos c3, if_pos c3, l2 _ (by omega)]
                      · rw [if_neg c3, if_neg c3]
                        by_cases c4 : 120 + 10 * y 1 ≤ k ∧ k < 130 + 10 * y 1
                        · rw [if_pos c4, if_pos c4, q2 _ (by omega)]
                        · rw [if_neg c4, if_neg c4]
                have nxt : ∀ rest : Nat, rest = dgn mc (i + 1) (n - (i + 1)) → kW sh kp 68 197 [some (.ref 72), none, some (.int (nI n)), none, some (.int (nI (m 0))), some (.int x10), none, some (.int (nI (10 ^ (n - 1 - i)))), some (.int (nI i)), none, none] [.int (nI rest)] (I6, L, kr q w r1 r2) K := fun rest hrest => by
                  have go : ∀ b : Nat, b = 10 ^ (n - 1 - (i + 1)) → kW sh kp 68 214 [some (.ref 72), none, some (.int (nI n)), none, some (.int (nI (m 0))), some (.int x10), some (.int (nI rest)), none, some (.int (nI i)), none, none] [.int (nI b)] (I6, L, kr q w r1 r2) K := fun b hb => bM_lays_n_214 (by
                    rw [nI_1, hb, hrest]
                    refine ih2 I6 x10 q1 q3' (fun e => ?_)
                    rw [hx10, if_pos (by omega), if_pos (by omega)]
                    rfl)
                  refine bM_lays_n_197 (pk_le (10 ^ (n - 1 - i)) 1 (fun z => bM_lays_n_213 (go 1 ?_)) (fun z => bM_lays_n_205 ?_))
                  · have : n - 1 - (i + 1) = 0 := by
                      by_cases e : n - 1 - i = 0
                      · omega
                      · have : 10 ^ 1 ≤ 10 ^ (n - 1 - i) := Nat.pow_le_pow_right (by decide) (by omega)
                        omega
                    rw [this]
                  · have e1 : n - 1 - i = (n - 1 - (i + 1)) + 1 := by
                      by_cases e : n - 1 - i = 0
                      · rw [e] at z
                        exact absurd z (by decide)
                      · omega
                    rw [fa_lit 10, pk_div (by omega) (by decide) (by decide)]
                    refine go _ ?_
                    rw [e1, Nat.pow_succ, Nat.mul_div_cancel _ (by decide)]
                refine bM_lays_n_177 (pk_le n i (fun z => bM_lays_n_195 (nxt _ ?_)) (fun z => bM_lays_n_187 ?_))
                · rw [show n - i = 0 by omega, show n - (i + 1) = 0 by omega]
                  rfl
                · rw [pk_rem (by omega) (by omega) (by omega)]
                  refine ⟨nI_ne0 (by omega) (by omega), nxt _ ?_⟩
                  rw [show n - i = (n - 1 - i) + 1 by omega, (dgn_div hmc).2]
                  congr 1
                  omega
              rw [j3]
              by_cases e0 : 0 < i
              · rw [if_pos e0]
                have hb := hmc (i - 1)
                have hb2 := hm (i - 1) (by omega)
                have ib : (120 : Int32) + 10 * nI (m 1 + i) + nI (mc (i - 1)) = nI (120 + 10 * (m 1 + i) + mc (i - 1)) := ix_gv
                refine bM_lays_n_158 ⟨fun z => absurd z (nI_pos (by omega)), fun _ => bM_lays_n_163 ?_⟩
                rw [ib, nI_clamp (by omega)]
                refine ⟨vp_in_nI (by omega) (by decide), after _ (fun j => if j = mc (i - 1) then 1 else if j = g then 1 else 0) (fun a k z => by rw [up_a z]; exact l1 a k z) (fun p hp => ?_) ?_⟩
                · unfold lfg
                  rw [← hg]
                  by_cases c1 : p = mc (i - 1)
                  · rw [if_pos c1, if_pos (Or.inr ⟨e0, c1⟩)]
                  · rw [if_neg c1]
                    by_cases c2 : p = g
                    · rw [if_pos c2, if_pos (Or.inl c2)]
                    · rw [if_neg c2, if_neg (fun z => by rcases z with z | z; exact c2 z; exact c1 z.2)]
                · rw [← ads_upg (by omega) (by omega), sd]
                  exact nN_up (v := 1) l3
              · rw [if_neg e0]
                refine bM_lays_n_158 ⟨fun _ => after I5 _ l1 (fun p hp => ?_) l3, fun z => absurd (by decide) z⟩
                unfold lfg
                rw [← hg]
                by_cases c2 : p = g
                · rw [if_pos c2, if_pos (Or.inl c2)]
                · rw [if_neg c2, if_neg (fun z => by rcases z with z | z; exact c2 z; exact e0 z.1)]
            have n5 : nN (km_up (km_up I4 72 (40 + 10 * (m 1 + i) + (m 0 + i)) 1) 72 (120 + 10 * (m 1 + i) + g) 1) (ads y 1 (fun p => if p = m 0 + i then 1 else 0) (fun p => if p = g then 1 else 0)) := by
              rw [← ads_upg (m := y) (fg := fun _ => 0) (by omega) (by omega), ← ads_ups (m := y) (ft := fun _ => 0) (by omega) (by omega), sd]
              exact nN_up (v := 1) (nN_up (v := 1) k2)
            have f5 : ∀ a k, a ≠ 72 → km_up (km_up I4 72 (40 + 10 * (m 1 + i) + (m 0 + i)) 1) 72 (120 + 10 * (m 1 + i) + g) 1 a k = I a k := fun a k z => by
              rw [up_a z, up_a z, k1 a k z]
              exact j1 a k z
            rw [hx10] at tail ⊢
            by_cases e : i < n
            · rw [if_pos e] at tail ⊢
              have hb := hmc i
              have hb2 := hm i e
              have ib : (40 : Int32) + 10 * nI (m 1 + i) + nI (mc i) = nI (40 + 10 * (m 1 + i) + mc i) := ix_tk
              refine ⟨fun z => absurd z (nI_pos (by omega)), fun _ => bM_lays_n_144 ?_⟩
              rw [ib, nI_clamp (by omega)]
              refine ⟨vp_in_nI (by omega) (by decide), tail _ (fun j => if j = mc i then 1 else if j = m 0 + i then 1 else 0) (fun a k z => by rw [up_a z]; exact f5 a k z) (fun p hp => ?_) ?_⟩
              · unfold lft
                by_cases c1 : p = mc i
                · rw [if_pos c1, if_pos (Or.inr ⟨e, c1⟩)]
                · rw [if_neg c1]
                  by_cases c2 : p = m 0 + i
                  · rw [if_pos c2, if_pos (Or.inl c2)]
                  · rw [if_neg c2, if_neg (fun z => by rcases z with z | z; exact c2 z; exact c1 z.2)]
              · rw [← ads_ups (by omega) (by omega), sd]
                exact nN_up (v := 1) n5
            · rw [if_neg e] at tail ⊢
              refine ⟨fun _ => tail _ _ f5 (fun p hp => ?_) n5, fun z => absurd (by decide) z⟩
              unfold lft
              by_cases c2 : p = m 0 + i
              · rw [if_pos c2, if_pos (Or.inl c2)]
              · rw [if_neg c2, if_neg (fun z => by rcases z with z | z; exact c2 z; exact e z.1)]
        have i40 : (40 : Int32) + 10 * nI (m 1 + i) + nI (m 0) + nI i = nI (40 + 10 * (m 1 + i) + (m 0 + i)) := by
          rw [ix_tk, nI_add]
          congr 1
          omega
        have at90 : ∀ x10 : Int32, (x10 = if i < n then nI (mc i) else -1) → kW sh kp 68 90 [some (.ref 72), none, some (.int (nI n)), none, some (.int (nI (m 0))), some (.int x5), some (.int (nI (dgn mc i (n - i)))), some (.int (nI (10 ^ (n - 1 - i)))), some (.int (nI i)), some (.int (nI (m 1 + i))), none] [.int x10] (I4, L, kr q w r1 r2) K := fun x10 hx10 => by
          refine bM_lays_n_90 ?_
          rw [i40, nI_clamp (by omega)]
          refine ⟨vp_in_nI (by omega) (by decide), pk_le n i (fun z => bM_lays_n_134 (hgs (m 0) (by rw [if_neg (by omega)]) x10 hx10)) (fun z => bM_lays_n_124 ?_)⟩
          rw [nI_add, nI_1]
          exact hgs _ (by rw [if_pos z]) x10 hx10
        refine pk_le n i (fun z => bM_lays_n_89 (at90 _ (by rw [if_neg (by omega)]))) (fun z => bM_lays_n_81 ?_)
        rw [pk_div (by omega) (by omega) (by omega)]
        refine ⟨nI_ne0 (by omega) (by omega), at90 _ ?_⟩
        rw [if_pos z, show n - i = (n - 1 - i) + 1 by omega, (dgn_div hmc).1]
    · refine bM_lays_n_40 (pk_le n (1 + i) (fun z => absurd z (by omega)) (fun _ => bM_lays_n_46 ?_))
      rw [fa_lit 10, pk_mul, nI_1, show 10 ^ i * 10 = 10 ^ (i + 1) from (Nat.pow_succ 10 i).symm]
      exact ih
  · intro I2 g1 g2
    obtain ⟨pa, pb, pc, pd⟩ := lnP_p hw hz hk hn i (by omega)
    refine bM_lays_n_10 (pk_le n i (fun z => absurd z (by omega)) (fun _ => bM_lays_n_16 (m_adds (m := lnP m k i) (v := 0) g2 (by omega) fun I3 l1 l2 => bM_lays_n_21 ?_)))
    rw [nI_1]
    exact ih I3 (fun a k z => (l1 a k z).trans (g1 a k z)) l2
end LAYS_n
section LAYS_r
variable {I : Nat → Nat → Int32} {L : Nat → Nat → Int64} {q r1 r2 : Nat → Nat} {w : Bool} {K : km_K} {m : Nat → Nat}
theorem r_lays {k n : Nat} {mc : Nat → Nat} (hN : nR I m) (hw : wb m) (hz : wz m) (hk : k ≤ 15) (hn1 : 1 ≤ n) (hn4 : n ≤ 4) (hn : m 0 + n + 1 ≤ 10) (hs : m 1 + n + 1 ≤ 8) (hm : ∀ j, j < n → mc j < m 0) (hmc : ∀ j, mc j < 10) (h : ∀ I', (∀ a k, a ≠ 89 → I' a k = I a k) → nR I' (lnN m k n mc) → K none (I', L, kr q w r1 r2)) : kC sh kp 68 [.ref 89, .int (nI k), .int (nI n), .int (nI (dgn mc 0 n))] (I, L, kr q w r1 r2) K := by
  refine ⟨rfl, bM_lays_r_0 (r_adds hN (by omega) fun I1 f1 f2 => bM_lays_r_5 ?_)⟩
  refine up0 (Pr := fun i => ∀ I', (∀ a k, a ≠ 89 → I' a k = I a k) → nR I' (lnP m k i) → kW sh kp 68 10 [some (.ref 89), none, some (.int (nI n)), some (.int (nI (dgn mc 0 n))), some (.int (nI (m 0))), some (.int (nI i)), none, none, none, none, none] [] (I', L, kr q w r1 r2) K) (e := n) ?_ (fun i hi ih => ?_) I1 f1 f2
  · intro I2 g1 g2
    refine bM_lays_r_10 (pk_le n n (fun _ => bM_lays_r_28 ?_) (fun z => absurd z (by omega)))
    obtain ⟨pa, pb, pc, pd⟩ := lnP_p hw hz hk hn n (Nat.le_refl _)
    have hN : lnN m k n mc = lnS (m 0) n mc (lnP m k n) (n + 1) := rfl
    rw [hN] at h
    generalize lnP m k n = r at pa pb pc pd g2 h
    -- the power of ten
    have key := up0 (Pr := fun i => kW sh kp 68 40 [some (.ref 89), none, some (.int (nI n)), none, some (.int (nI (m 0))), some (.int (-1)), some (.int (nI (dgn mc 0 n))), some (.int (nI (10 ^ i))), some (.int (nI (1 + i))), none, none] [] (I2, L, kr q w r1 r2) K) (e := n - 1) ?_ fun i hi ih => ?_
    · exact key
    · refine bM_lays_r_40 (pk_le n (1 + (n - 1)) (fun _ => bM_lays_r_59 ?_) (fun z => absurd z (by omega)))
      -- the steps
      refine up0 (Pr := fun i => ∀ I' (x5 : Int32), (∀ a k, a ≠ 89 → I' a k = I a k) → nR I' (lnS (m 0) n mc r i) → (i ≤ n → x5 = if 0 < i then nI (mc (i - 1)) else -1) → kW sh kp 68 62 [some (.ref 89), none, some (.int (nI n)), none, some (.int (nI (m 0))), some (.int x5), some (.int (nI (dgn mc i (n - i)))), some (.int (nI (10 ^ (n - 1 - i)))), some (.int (nI i)), none, none] [] (I', L, kr q w r1 r2) K) (e := n + 1) ?_ (fun i hi ih2 => ?_) I2 (-1) g1 g2 (fun _ => rfl)
      · intro I3 x5 j1 j2 j3
        exact bM_lays_r_62 (pk_lt n (n + 1) (fun _ => bM_lays_r_222 (h I3 j1 j2)) (fun z => absurd z (by omega)))
      · intro I3 x5 j1 j2 j3
        have j3 := j3 (by omega)
        obtain ⟨sa, sb, sc, sd⟩ := lnS_p (mc := mc) pa pb pc pd hs hm i (by omega)
        have es : lnS (m 0) n mc r (i + 1) = ads (lnS (m 0) n mc r i) 1 (lft (m 0) n mc i) (lfg (m 0) n mc i) := rfl
        rw [es] at ih2
        generalize lnS (m 0) n mc r i = y at sa sb sc sd j2 ih2
        have p10 := pw10 (n - 1 - i) (by omega)
        have dl := dgn_lt hmc (n - i) i
        have dl4 := pw10 (n - i) (by omega)
        refine bM_lays_r_62 (pk_lt n i (fun z => absurd z (by omega)) (fun _ => bM_lays_r_68 (r_addsStep (m := y) (c := 1) j2 (by omega) fun I4 k1 k2 => bM_lays_r_73 ?_)))
        rw [sd]
        have hgs : ∀ g : Nat, (g = if i < n then m 0 + i + 1 else m 0) → ∀ (x10 : Int32), (x10 = if i < n then nI (mc i) else -1) → kW sh kp 68 136 [some (.ref 89), none, some (.int (nI n)), none, some (.int (nI (m 0))), some (.int x5), some (.int (nI (dgn mc i (n - i)))), some (.int (nI (10 ^ (n - 1 - i)))), some (.int (nI i)), some (.int (nI (m 1 + i))), some (.int x10)] [.int (nI g), .int (120 + 10 * nI (m 1 + i)), .ref 89] (km_up I4 89 (40 + 10 * (m 1 + i) + (m 0 + i)) 1, L, kr q w r1 r2) K := fun g hg x10 hx10 => by
          have hgl : m 0 ≤ g ∧ g < 10 := by
            rw [hg]
            split <;> omega
          have i120 : (120 : Int32) + 10 * nI (m 1 + i) + nI g = nI (120 + 10 * (m 1 + i) + g) := ix_gv
          refine bM_lays_r_136 ⟨rfl, ?_, ?_⟩
          · rw [i120]
            exact vp_in_nI (show 120 + 10 * (m 1 + i) + g < 212 by omega) (by decide)
          · rw [i120, nI_clamp (by omega)]
            -- behind the machine's own arc
            have tail : ∀ I5 (ft : Nat → Nat), (∀ a k, a ≠ 89 → I5 a k = I a k) → (∀ p, p < 10 → ft p = lft (m 0) n mc i p) → nR I5 (ads y 1 ft (fun p => if p = g then 1 else 0)) → kW sh kp 68 158 [some (.ref 89), none, some (.int (nI n)), none, some (.int (nI (m 0))), some (.int x5), some (.int (nI (dgn mc i (n - i)))), some (.int (nI (10 ^ (n - 1 - i)))), some (.int (nI i)), some (.int (nI (m 1 + i))), some (.int x10)] [] (I5, L, kr q w r1 r2) K := fun I5 ft l1 l2 l3 => by
              have after : ∀ I6 (fg : Nat → Nat), (∀ a k, a ≠ 89 → I6 a k = I a k) → (∀ p, p < 10 → fg p = lfg (m 0) n mc i p) → nR I6 (ads y 1 ft fg) → kW sh kp 68 177 [some (.ref 89), none, some (.int (nI n)), none, some (.int (nI (m 0))), none, some (.int (nI (dgn mc i (n - i)))), some (.int (nI (10 ^ (n - 1 - i)))), some (.int (nI i)), none, some (.int x10)] [] (I6, L, kr q w r1 r2) K := fun I6 fg q1 q2 q3 => by
                have q3' : nR I6 (ads y 1 (lft (m 0) n mc i) (lfg (m 0) n mc i)) := fun k hk => by
                  rw [q3 k hk]
                  unfold ads
                  by_cases c1 : k = 1
                  · rw [if_pos c1, if_pos c1]
                  · rw [if_neg c1, if_neg c1]
                    by_cases c2 : k = 32 + y 1
                    · rw [if_pos c2, if_pos c2]
                    · rw [if_neg c2, if_neg c2]
                      by_cases c3 : 40 + 10 * y 1 ≤ k ∧ k < 50 + 10 * y 1
                      · rw [if_pos c3, if_pos c3, l2 _ (by omega)]
                      · rw [if_neg c3, if_neg c3]
                        by_cases c4 : 120 + 10 * y 1 ≤ k ∧ k < 130 + 10 * y 1
                        · rw [if_pos c4, if_pos c4, q2 _ (by omega)]
                        · rw [if_neg c4, if_neg c4]
                have nxt : ∀ rest : Nat, rest = dgn mc (i + 1) (n - (i + 1)) → kW sh kp 68 197 [some (.ref 89), none, some (.int (nI n)), none, some (.int (nI (m 0))), some (.int x10), none, some (.int (nI (10 ^ (n - 1 - i)))), some (.int (nI i)), none, none] [.int (nI rest)] (I6, L, kr q w r1 r2) K := fun rest hrest => by
                  have go : ∀ b : Nat, b = 10 ^ (n - 1 - (i + 1)) → kW sh kp 68 214 [some (.ref 89), none, some (.int (nI n)), none, some (.int (nI (m 0))), some (.int x10), some (.int (nI rest)), none, some (.int (nI i)), none, none] [.int (nI b)] (I6, L, kr q w r1 r2) K := fun b hb => bM_lays_r_214 (by
                    rw [nI_1, hb, hrest]
                    refine ih2 I6 x10 q1 q3' (fun e => ?_)
                    rw [hx10, if_pos (by omega), if_pos (by omega)]
                    rfl)
                  refine bM_lays_r_197 (pk_le (10 ^ (n - 1 - i)) 1 (fun z => bM_lays_r_213 (go 1 ?_)) (fun z => bM_lays_r_205 ?_))
                  · have : n - 1 - (i + 1) = 0 := by
                      by_cases e : n - 1 - i = 0
                      · omega
                      · have : 10 ^ 1 ≤ 10 ^ (n - 1 - i) := Nat.pow_le_pow_right (by decide) (by omega)
                        omega
                    rw [this]
                  · have e1 : n - 1 - i = (n - 1 - (i + 1)) + 1 := by
                      by_cases e : n - 1 - i = 0
                      · rw [e] at z
                        exact absurd z (by decide)
                      · omega
                    rw [fa_lit 10, pk_div (by omega) (by decide) (by decide)]
                    refine go _ ?_
                    rw [e1, Nat.pow_succ, Nat.mul_div_cancel _ (by decide)]
                refine bM_lays_r_177 (pk_le n i (fun z => bM_lays_r_195 (nxt _ ?_)) (fun z => bM_lays_r_187 ?_))
                · rw [show n - i = 0 by omega, show n - (i + 1) = 0 by omega]
                  rfl
                · rw [pk_rem (by omega) (by omega) (by omega)]
                  refine ⟨nI_ne0 (by omega) (by omega), nxt _ ?_⟩
                  rw [show n - i = (n - 1 - i) + 1 by omega, (dgn_div hmc).2]
                  congr 1
                  omega
              rw [j3]
              by_cases e0 : 0 < i
              · rw [if_pos e0]
                have hb := hmc (i - 1)
                have hb2 := hm (i - 1) (by omega)
                have ib : (120 : Int32) + 10 * nI (m 1 + i) + nI (mc (i - 1)) = nI (120 + 10 * (m 1 + i) + mc (i - 1)) := ix_gv
                refine bM_lays_r_158 ⟨fun z => absurd z (nI_pos (by omega)), fun _ => bM_lays_r_163 ?_⟩
                rw [ib, nI_clamp (by omega)]
                refine ⟨vp_in_nI (by omega) (by decide), after _ (fun j => if j = mc (i - 1) then 1 else if j = g then 1 else 0) (fun a k z => by rw [up_a z]; exact l1 a k z) (fun p hp => ?_) ?_⟩
                · unfold lfg
                  rw [← hg]
                  by_cases c1 : p = mc (i - 1)
                  · rw [if_pos c1, if_pos (Or.inr ⟨e0, c1⟩)]
                  · rw [if_neg c1]
                    by_cases c2 : p = g
                    · rw [if_pos c2, if_pos (Or.inl c2)]
                    · rw [if_neg c2, if_neg (fun z => by rcases z with z | z; exact c2 z; exact c1 z.2)]
                · rw [← ads_upg (by omega) (by omega), sd]
                  exact nR_up (v := 1) l3
              · rw [if_neg e0]
                refine bM_lays_r_158 ⟨fun _ => after I5 _ l1 (fun p hp => ?_) l3, fun z => absurd (by decide) z⟩
                unfold lfg
                rw [← hg]
                by_cases c2 : p = g
                · rw [if_pos c2, if_pos (Or.inl c2)]
                · rw [if_neg c2, if_neg (fun z => by rcases z with z | z; exact c2 z; exact e0 z.1)]
            have n5 : nR (km_up (km_up I4 89 (40 + 10 * (m 1 + i) + (m 0 + i)) 1) 89 (120 + 10 * (m 1 + i) + g) 1) (ads y 1 (fun p => if p = m 0 + i then 1 else 0) (fun p => if p = g then 1 else 0)) := by
              rw [← ads_upg (m := y) (fg := fun _ => 0) (by omega) (by omega), ← ads_ups (m := y) (ft := fun _ => 0) (by omega) (by omega), sd]
              exact nR_up (v := 1) (nR_up (v := 1) k2)
            have f5 : ∀ a k, a ≠ 89 → km_up (km_up I4 89 (40 + 10 * (m 1 + i) + (m 0 + i)) 1) 89 (120 + 10 * (m 1 + i) + g) 1 a k = I a k := fun a k z => by
              rw [up_a z, up_a z, k1 a k z]
              exact j1 a k z
            rw [hx10] at tail ⊢
            by_cases e : i < n
            · rw [if_pos e] at tail ⊢
              have hb := hmc i
              have hb2 := hm i e
              have ib : (40 : Int32) + 10 * nI (m 1 + i) + nI (mc i) = nI (40 + 10 * (m 1 + i) + mc i) := ix_tk
              refine ⟨fun z => absurd z (nI_pos (by omega)), fun _ => bM_lays_r_144 ?_⟩
              rw [ib, nI_clamp (by omega)]
              refine ⟨vp_in_nI (by omega) (by decide), tail _ (fun j => if j = mc i then 1 else if j = m 0 + i then 1 else 0) (fun a k z => by rw [up_a z]; exact f5 a k z) (fun p hp => ?_) ?_⟩
              · unfold lft
                by_cases c1 : p = mc i
                · rw [if_pos c1, if_pos (Or.inr ⟨e, c1⟩)]
                · rw [if_neg c1]
                  by_cases c2 : p = m 0 + i
                  · rw [if_pos c2, if_pos (Or.inl c2)]
                  · rw [if_neg c2, if_neg (fun z => by rcases z with z | z; exact c2 z; exact c1 z.2)]
              · rw [← ads_ups (by omega) (by omega), sd]
                exact nR_up (v := 1) n5
            · rw [if_neg e] at tail ⊢
              refine ⟨fun _ => tail _ _ f5 (fun p hp => ?_) n5, fun z => absurd (by decide) z⟩
              unfold lft
              by_cases c2 : p = m 0 + i
              · rw [if_pos c2, if_pos (Or.inl c2)]
              · rw [if_neg c2, if_neg (fun z => by rcases z with z | z; exact c2 z; exact e z.1)]
        have i40 : (40 : Int32) + 10 * nI (m 1 + i) + nI (m 0) + nI i = nI (40 + 10 * (m 1 + i) + (m 0 + i)) := by
          rw [ix_tk, nI_add]
          congr 1
          omega
        have at90 : ∀ x10 : Int32, (x10 = if i < n then nI (mc i) else -1) → kW sh kp 68 90 [some (.ref 89), none, some (.int (nI n)), none, some (.int (nI (m 0))), some (.int x5), some (.int (nI (dgn mc i (n - i)))), some (.int (nI (10 ^ (n - 1 - i)))), some (.int (nI i)), some (.int (nI (m 1 + i))), none] [.int x10] (I4, L, kr q w r1 r2) K := fun x10 hx10 => by
          refine bM_lays_r_90 ?_
          rw [i40, nI_clamp (by omega)]
          refine ⟨vp_in_nI (by omega) (by decide), pk_le n i (fun z => bM_lays_r_134 (hgs (m 0) (by rw [if_neg (by omega)]) x10 hx10)) (fun z => bM_lays_r_124 ?_)⟩
          rw [nI_add, nI_1]
          exact hgs _ (by rw [if_pos z]) x10 hx10
        refine pk_le n i (fun z => bM_lays_r_89 (at90 _ (by rw [if_neg (by omega)]))) (fun z => bM_lays_r_81 ?_)
        rw [pk_div (by omega) (by omega) (by omega)]
        refine ⟨nI_ne0 (by omega) (by omega), at90 _ ?_⟩
        rw [if_pos z, show n - i = (n - 1 - i) + 1 by omega, (dgn_div hmc).1]
    · refine bM_lays_r_40 (pk_le n (1 + i) (fun z => absurd z (by omega)) (fun _ => bM_lays_r_46 ?_))
      rw [fa_lit 10, pk_mul, nI_1, show 10 ^ i * 10 = 10 ^ (i + 1) from (Nat.pow_succ 10 i).symm]
      exact ih
  · intro I2 g1 g2
    obtain ⟨pa, pb, pc, pd⟩ := lnP_p hw hz hk hn i (by omega)
    refine bM_lays_r_10 (pk_le n i (fun z => absurd z (by omega)) (fun _ => bM_lays_r_16 (r_adds (m := lnP m k i) (v := 0) g2 (by omega) fun I3 l1 l2 => bM_lays_r_21 ?_)))
    rw [nI_1]
    exact ih I3 (fun a k z => (l1 a k z).trans (g1 a k z)) l2
end LAYS_r
