/-! SUMS: all least vectors in a row of cells -/
/-- u 0 .. u (n - 1) are the least vectors that balance the first t steps, each once -/
def rys (m : Nat → Nat) (t n : Nat) (u : Nat → Nat → Nat) : Prop := (∀ i, i < n → ray (Kc m t) (u i)) ∧ (∀ i j, i < n → j < n → u i = u j → i = j) ∧ ∀ x, ray (Kc m t) x → ∃ i, i < n ∧ x = u i
/-- what a step gives and takes, weighted -/
def wG (m : Nat → Nat) (t : Nat) (x : Nat → Nat) : Nat := sm0 (fun p => x p * mz m (120 + 10 * t) p) 10
def wT (m : Nat → Nat) (t : Nat) (x : Nat → Nat) : Nat := sm0 (fun p => x p * mz m (40 + 10 * t) p) 10
theorem sm0_b0 {f : Nat → Nat} {b : Nat} (h : ∀ p, f p ≤ b) : ∀ n, sm0 f n ≤ n * b
  | 0 => Nat.zero_le _
  | n + 1 => by
    have := sm0_b0 h n
    have := h n
    show sm0 f n + f n ≤ (n + 1) * b
    rw [Nat.add_mul, Nat.one_mul]
    omega
section RYS
variable {m : Nat → Nat} {t : Nat}
theorem mz_2 (hw : wb m) (ht : t < 8) (p : Nat) : mz m (40 + 10 * t) p ≤ 2 ∧ mz m (120 + 10 * t) p ≤ 2 := ⟨mz_le hw.1 (fun p hp => (hw.2.2.2.2.2.1 t p ht hp).1) p, mz_le hw.1 (fun p hp => (hw.2.2.2.2.2.1 t p ht hp).2) p⟩
theorem wGT_b (hw : wb m) (ht : t < 8) {x : Nat → Nat} (hx : ∀ p, x p ≤ 10321920) : wG m t x ≤ 206438400 ∧ wT m t x ≤ 206438400 := by
  have b1 := sm0_b0 (f := fun p => x p * mz m (120 + 10 * t) p) (b := 10321920 * 2) (fun p => Nat.mul_le_mul (hx p) (mz_2 hw ht p).2) 10
  have b2 := sm0_b0 (f := fun p => x p * mz m (40 + 10 * t) p) (b := 10321920 * 2) (fun p => Nat.mul_le_mul (hx p) (mz_2 hw ht p).1) 10
  exact ⟨b1, b2⟩
theorem su_GT (hw : m 0 ≤ 10) {x : Nat → Nat} : su m t x = (wG m t x : Int) - (wT m t x : Int) := by
  have cast : ∀ (c : Nat), ((sm0 (fun p => x p * mz m c p) 10 : Nat) : Int) = zs (fun p => ((x p * mz m c p : Nat) : Int)) (m 0) := fun c => by
    rw [nv_zs 10]
    have := zs_trim (f := fun p => ((x p * mz m c p : Nat) : Int)) (P := m 0) (fun p hp => by
      show ((x p * mz m c p : Nat) : Int) = 0
      unfold mz
      rw [if_neg (by omega), Nat.mul_zero]
      rfl) (10 - m 0)
    rw [show m 0 + (10 - m 0) = 10 by omega] at this
    exact this
  have e1 : (wG m t x : Int) = zs (fun p => ((x p * mz m (120 + 10 * t) p : Nat) : Int)) (m 0) := cast _
  have e2 : (wT m t x : Int) = zs (fun p => ((x p * mz m (40 + 10 * t) p : Nat) : Int)) (m 0) := cast _
  rw [e1, e2, Int.sub_eq_add_neg, ← zs_neg, ← zs_add]
  unfold su
  refine zs_congr _ fun p hp => ?_
  have m1 : mz m (120 + 10 * t) p = gv m t p := if_pos hp
  have m2 : mz m (40 + 10 * t) p = tk m t p := if_pos hp
  rw [m1, m2]
  unfold ee
  rw [Int.natCast_mul, Int.natCast_mul, Int.sub_mul, Int.mul_comm (x p : Int), Int.mul_comm (x p : Int)]
  omega
theorem spt_tb {x : Nat → Nat} (h : ∀ p, 10 ≤ p → x p = 0) (q : Nat) : (spt x).testBit q = true ↔ x q ≠ 0 := by
  unfold spt
  rw [bs_tb, Bool.and_eq_true]
  constructor
  · intro g
    exact of_decide_eq_true g.2
  · intro g
    refine ⟨decide_eq_true (Classical.byContradiction fun c => g (h q (by omega))), decide_eq_true g⟩
/-- rows that are neighbours, by their sets -/
theorem adj_rows (hw : wb m) {n a b : Nat} {u : Nat → Nat → Nat} (hr : rys m t n u) (ha : a < n) (hb : b < n) : adj (Kc m t) (u a) (u b) ↔ ∀ k, k < n → k ≠ a → k ≠ b → ¬ spt (u k) &&& (spt (u a) ||| spt (u b)) = spt (u k) := by
  have h10 : ∀ i, i < n → ∀ p, 10 ≤ p → u i p = 0 := fun i hi => (Kc_cone hw.1 t).2.2.2 _ (hr.1 i hi).1
  have sub : ∀ k, k < n → (spt (u k) &&& (spt (u a) ||| spt (u b)) = spt (u k) ↔ ∀ p, u a p = 0 → u b p = 0 → u k p = 0) := fun k hk => by
    rw [sub_iff]
    constructor
    · intro h p p1 p2
      refine Classical.byContradiction fun c => ?_
      have := h p ((spt_tb (h10 k hk) p).mpr c)
      rw [Nat.testBit_or, Bool.or_eq_true, spt_tb (h10 a ha), spt_tb (h10 b hb)] at this
      rcases this with z | z
      · exact z p1
      · exact z p2
    · intro h p hp
      rw [Nat.testBit_or, Bool.or_eq_true, spt_tb (h10 a ha), spt_tb (h10 b hb)]
      refine Classical.byContradiction fun c => (spt_tb (h10 k hk) p).mp hp (h p (Classical.byContradiction fun d => c (Or.inl d)) (Classical.byContradiction fun d => c (Or.inr d)))
  constructor
  · intro h k hk h1 h2 h3
    rcases h (u k) (hr.1 k hk) ((sub k hk).mp h3) with z | z
    · exact h1 (hr.2.1 k a hk ha z)
    · exact h2 (hr.2.1 k b hk hb z)
  · intro h e he hs
    obtain ⟨k, hk, ek⟩ := hr.2.2 e he
    rw [ek] at hs ⊢
    by_cases h1 : k = a
    · exact Or.inl (by rw [h1])
    · by_cases h2 : k = b
      · exact Or.inr (by rw [h2])
      · exact absurd ((sub k hk).mpr hs) (h k hk h1 h2)
/-- unit vectors -/
def un (k p : Nat) : Nat := if p = k then 1 else 0
theorem rys_0 (hw : m 0 ≤ 10) : rys m 0 (m 0) un := by
  have hC := Kc_cone hw 0
  have ku : ∀ k, k < m 0 → Kc m 0 (un k) := fun k hk => ⟨fun p hp => if_neg (by omega), fun j hj => absurd hj (by omega)⟩
  have ur : ∀ k, k < m 0 → ray (Kc m 0) (un k) := fun k hk => by
    refine ⟨ku k hk, ⟨k, by unfold un; rw [if_pos rfl]; decide⟩, fun y hy ⟨q, hq⟩ hs p hp => ?_, fun d hd => ?_⟩
    · have qk : q = k := Classical.byContradiction fun c => hq (hs q (if_neg c))
      refine if_neg fun c => hq ?_
      rw [qk, ← c]
      exact hp
    · have := hd k
      unfold un at this
      rw [if_pos rfl] at this
      exact Nat.dvd_one.mp this
  refine ⟨ur, fun i j hi hj e => ?_, fun x hx => ?_⟩
  · have := congrFun e i
    unfold un at this
    rw [if_pos rfl] at this
    refine Classical.byContradiction fun c => ?_
    rw [if_neg c] at this
    exact absurd this (by decide)
  · obtain ⟨k, hk⟩ := hx.2.1
    have hk' : k < m 0 := Classical.byContradiction fun c => hk (hx.1.1 k (by omega))
    refine ⟨k, hk', ray_eq hC hx (ur k hk') fun p hp => if_neg fun c => hk (by rw [← c]; exact hp)⟩
end RYS
