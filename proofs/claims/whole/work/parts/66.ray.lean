/-! SUMS: least vectors of a cone, and what one more equation makes of them -/
/-- closed under sums, differences and division; nothing beyond ten places -/
def cone (C : (Nat → Nat) → Prop) : Prop := (∀ x y a b, C x → C y → C (fun p => a * x p + b * y p)) ∧ (∀ x y a b, C x → C y → (∀ p, b * y p ≤ a * x p) → C (fun p => a * x p - b * y p)) ∧ (∀ x d, 0 < d → C (fun p => d * x p) → C x) ∧ ∀ x, C x → ∀ p, 10 ≤ p → x p = 0
def prim (x : Nat → Nat) : Prop := ∀ d, (∀ p, d ∣ x p) → d = 1
def inS (y x : Nat → Nat) : Prop := ∀ p, x p = 0 → y p = 0
/-- least vectors -/
def ray (C : (Nat → Nat) → Prop) (x : Nat → Nat) : Prop := C x ∧ nz x ∧ (∀ y, C y → nz y → inS y x → inS x y) ∧ prim x
theorem argmin {x y : Nat → Nat} : ∀ n, (∃ p, p < n ∧ x p ≠ 0) → ∃ p0, p0 < n ∧ x p0 ≠ 0 ∧ ∀ p, p < n → y p0 * x p ≤ x p0 * y p
  | 0, ⟨p, h, _⟩ => absurd h (by omega)
  | n + 1, ⟨q, hq, hx⟩ => by
    by_cases e : ∃ p, p < n ∧ x p ≠ 0
    · obtain ⟨p0, h1, h2, h3⟩ := argmin (x := x) (y := y) n e
      by_cases g : y p0 * x n ≤ x p0 * y n
      · refine ⟨p0, by omega, h2, fun p hp => ?_⟩
        by_cases e2 : p = n
        · rw [e2]
          exact g
        · exact h3 p (by omega)
      · have hn0 : x n ≠ 0 := fun c => g (by rw [c, Nat.mul_zero]; exact Nat.zero_le _)
        refine ⟨n, by omega, hn0, fun p hp => ?_⟩
        by_cases e2 : p = n
        · rw [e2, Nat.mul_comm]
          exact Nat.le_refl _
        · have k := h3 p (by omega)
          refine Nat.le_of_mul_le_mul_left (c := x p0) ?_ (Nat.pos_of_ne_zero h2)
          have a1 : x p0 * (y n * x p) ≤ (y p0 * x n) * x p := by
            rw [← Nat.mul_assoc]
            exact Nat.mul_le_mul_right _ (by omega)
          have a2 : (y p0 * x n) * x p = x n * (y p0 * x p) := by
            rw [Nat.mul_comm (y p0) (x n), Nat.mul_assoc]
          have a3 : x n * (y p0 * x p) ≤ x n * (x p0 * y p) := Nat.mul_le_mul_left _ k
          have a4 : x n * (x p0 * y p) = x p0 * (x n * y p) := Nat.mul_left_comm _ _ _
          omega
    · have hqn : q = n := by
        by_cases c : q = n
        · exact c
        · exact absurd ⟨q, by omega, hx⟩ e
      refine ⟨n, by omega, hqn ▸ hx, fun p hp => ?_⟩
      by_cases e2 : p = n
      · rw [e2, Nat.mul_comm]
        exact Nat.le_refl _
      · have : x p = 0 := Classical.byContradiction fun c => e ⟨p, by omega, c⟩
        rw [this, Nat.mul_zero]
        exact Nat.zero_le _
section RAY
variable {C : (Nat → Nat) → Prop}
theorem ten {x : Nat → Nat} (hC : cone C) (hx : C x) {p : Nat} (h : x p ≠ 0) : p < 10 := Classical.byContradiction fun c => h (hC.2.2.2 x hx p (by omega))
/-- y less as much of x as there is room for -/
theorem peel {x y : Nat → Nat} (hC : cone C) (hx : C x) (hy : C y) (hn : nz x) : ∃ p0, x p0 ≠ 0 ∧ (∀ p, y p0 * x p ≤ x p0 * y p) ∧ C (fun p => x p0 * y p - y p0 * x p) := by
  obtain ⟨q, hq⟩ := hn
  obtain ⟨p0, h1, h2, h3⟩ := argmin (x := x) (y := y) 10 ⟨q, ten hC hx hq, hq⟩
  have h4 : ∀ p, y p0 * x p ≤ x p0 * y p := fun p => by
    by_cases e : p < 10
    · exact h3 p e
    · rw [hC.2.2.2 x hx p (by omega), Nat.mul_zero]
      exact Nat.zero_le _
  exact ⟨p0, h2, h4, hC.2.1 y x (x p0) (y p0) hy hx h4⟩
/-- a vector on a least vector's places is in proportion to it -/
theorem propn {x y : Nat → Nat} (hC : cone C) (hx : ray C x) (hy : C y) (hn : nz y) (hs : inS y x) : ∃ a b, a ≠ 0 ∧ b ≠ 0 ∧ ∀ p, a * x p = b * y p := by
  obtain ⟨p0, h1, h2, h3⟩ := peel hC hx.1 hy hx.2.1
  have z : ¬ nz (fun p => x p0 * y p - y p0 * x p) := fun c => by
    have := hx.2.2.1 _ h3 c (fun p hp => by
      show x p0 * y p - y p0 * x p = 0
      rw [hs p hp, Nat.mul_zero]
      exact Nat.zero_sub _) p0 (by
      show x p0 * y p0 - y p0 * x p0 = 0
      rw [Nat.mul_comm]
      exact Nat.sub_self _)
    exact h1 this
  have e : ∀ p, x p0 * y p = y p0 * x p := fun p => by
    have : x p0 * y p - y p0 * x p = 0 := Classical.byContradiction fun c => z ⟨p, c⟩
    have := h2 p
    omega
  refine ⟨y p0, x p0, fun c => ?_, h1, fun p => (e p).symm⟩
  exact h1 (hx.2.2.1 y hy hn hs p0 c)
theorem prim_eq {x y : Nat → Nat} {a b : Nat} (hx : prim x) (hy : prim y) (ha : a ≠ 0) (hb : b ≠ 0) (h : ∀ p, a * x p = b * y p) : ∀ p, x p = y p := by
  have hg : 0 < Nat.gcd a b := Nat.gcd_pos_of_pos_left _ (Nat.pos_of_ne_zero ha)
  have ea : a = Nat.gcd a b * (a / Nat.gcd a b) := (Nat.mul_div_cancel' (Nat.gcd_dvd_left a b)).symm
  have eb : b = Nat.gcd a b * (b / Nat.gcd a b) := (Nat.mul_div_cancel' (Nat.gcd_dvd_right a b)).symm
  have cop : Nat.Coprime (a / Nat.gcd a b) (b / Nat.gcd a b) := Nat.coprime_div_gcd_div_gcd hg
  generalize a / Nat.gcd a b = a' at ea cop
  generalize b / Nat.gcd a b = b' at eb cop
  generalize Nat.gcd a b = g at ea eb hg
  have h' : ∀ p, a' * x p = b' * y p := fun p => by
    have := h p
    rw [ea, eb, Nat.mul_assoc, Nat.mul_assoc] at this
    exact Nat.eq_of_mul_eq_mul_left hg this
  have a1 : a' = 1 := hy a' fun p => cop.dvd_of_dvd_mul_left ⟨x p, (h' p).symm⟩
  have b1 : b' = 1 := hx b' fun p => cop.symm.dvd_of_dvd_mul_left ⟨y p, h' p⟩
  intro p
  have := h' p
  rw [a1, b1, Nat.one_mul, Nat.one_mul] at this
  exact this
/-- least vectors are told apart by their places -/
theorem ray_eq {x y : Nat → Nat} (hC : cone C) (hx : ray C x) (hy : ray C y) (hs : inS y x) : x = y := by
  obtain ⟨a, b, ha, hb, h⟩ := propn hC hx hy.1 hy.2.1 hs
  exact funext (prim_eq hx.2.2.2 hy.2.2.2 ha hb h)
/-- the common divisor of the first n -/
def gcn (x : Nat → Nat) : Nat → Nat
  | 0 => 0
  | n + 1 => Nat.gcd (gcn x n) (x n)
theorem gcn_dvd {x : Nat → Nat} : ∀ n p, p < n → gcn x n ∣ x p
  | 0, p, h => absurd h (by omega)
  | n + 1, p, h => by
    by_cases e : p = n
    · rw [e]
      exact Nat.gcd_dvd_right _ _
    · exact Nat.dvd_trans (Nat.gcd_dvd_left _ _) (gcn_dvd n p (by omega))
theorem dvd_gcn {x : Nat → Nat} {d : Nat} : ∀ n, (∀ p, p < n → d ∣ x p) → d ∣ gcn x n
  | 0, _ => Nat.dvd_zero d
  | n + 1, h => Nat.dvd_gcd (dvd_gcn n fun p hp => h p (by omega)) (h n (by omega))
/-- divided by what is common -/
theorem prim_div {y : Nat → Nat} (hC : cone C) (hy : C y) (hn : nz y) : 0 < gcn y 10 ∧ (∀ p, y p = gcn y 10 * (y p / gcn y 10)) ∧ C (fun p => y p / gcn y 10) ∧ prim (fun p => y p / gcn y 10) := by
  obtain ⟨q, hq⟩ := hn
  have hq10 := ten hC hy hq
  have g0 : 0 < gcn y 10 := Nat.pos_of_ne_zero fun c => by
    have := gcn_dvd (x := y) 10 q hq10
    rw [c] at this
    exact hq (Nat.eq_zero_of_zero_dvd this)
  have e : ∀ p, y p = gcn y 10 * (y p / gcn y 10) := fun p => by
    by_cases h : p < 10
    · exact (Nat.mul_div_cancel' (gcn_dvd 10 p h)).symm
    · rw [hC.2.2.2 y hy p (by omega), Nat.zero_div, Nat.mul_zero]
  refine ⟨g0, e, hC.2.2.1 _ _ g0 ?_, fun d hd => ?_⟩
  · have : (fun p => gcn y 10 * (y p / gcn y 10)) = y := funext fun p => (e p).symm
    rw [this]
    exact hy
  · have : gcn y 10 * d ∣ gcn y 10 := dvd_gcn 10 fun p _ => by
      rw [e p]
      exact Nat.mul_dvd_mul_left _ (hd p)
    have h1 := Nat.le_of_dvd g0 this
    have h2 : gcn y 10 * d ≤ gcn y 10 * 1 := by omega
    have h3 : d ≤ 1 := Nat.le_of_mul_le_mul_left h2 g0
    have h4 : d ≠ 0 := fun c => by
      rw [c, Nat.mul_zero] at this
      have := Nat.eq_zero_of_zero_dvd this
      omega
    omega
def ssz (x : Nat → Nat) : Nat := cn (fun p => decide (x p ≠ 0)) 10
theorem ssz_lt {x y : Nat → Nat} {p0 : Nat} (hs : inS y x) (hp : p0 < 10) (h1 : x p0 ≠ 0) (h2 : y p0 = 0) : ssz y < ssz x := cn_lt 10 (fun k _ hk => by
  have := of_decide_eq_true hk
  exact decide_eq_true fun c => this (hs k c)) ⟨p0, hp, decide_eq_false (fun c => c h2), decide_eq_true h1⟩
theorem inS_trans {x y z : Nat → Nat} (h : inS x y) (h2 : inS y z) : inS x z := fun p hp => h p (h2 p hp)
/-- every vector has a least one on its places -/
theorem ray_in (hC : cone C) : ∀ n y, ssz y ≤ n → C y → nz y → ∃ x, ray C x ∧ inS x y
  | 0, y, h, hy, ⟨q, hq⟩ => by
    have := cn_zero (P := fun p => decide (y p ≠ 0)) 10 (Nat.le_zero.mp h) q (ten hC hy hq)
    exact absurd (decide_eq_true hq) (by rw [this]; decide)
  | n + 1, y, h, hy, hn => by
    by_cases e : ∃ z, C z ∧ nz z ∧ inS z y ∧ ¬ inS y z
    · obtain ⟨z, h1, h2, h3, h4⟩ := e
      have : ∃ p, z p = 0 ∧ y p ≠ 0 := Classical.byContradiction fun c => h4 fun p hp => Classical.byContradiction fun d => c ⟨p, hp, d⟩
      obtain ⟨p, p1, p2⟩ := this
      have := ssz_lt h3 (ten hC hy p2) p2 p1
      obtain ⟨x, x1, x2⟩ := ray_in hC n z (by omega) h1 h2
      exact ⟨x, x1, inS_trans x2 h3⟩
    · obtain ⟨g0, g1, g2, g3⟩ := prim_div hC hy hn
      have z1 : inS (fun p => y p / gcn y 10) y := fun p hp => by
        show y p / gcn y 10 = 0
        rw [hp, Nat.zero_div]
      have z2 : inS y (fun p => y p / gcn y 10) := fun p hp => by
        rw [g1 p, show y p / gcn y 10 = 0 from hp, Nat.mul_zero]
      refine ⟨fun p => y p / gcn y 10, ⟨g2, ?_, fun z hz hzn hzs => ?_, g3⟩, z1⟩
      · obtain ⟨q, hq⟩ := hn
        exact ⟨q, fun c => hq (z2 q c)⟩
      · refine inS_trans z1 (Classical.byContradiction fun c => e ⟨z, hz, hzn, inS_trans hzs z1, c⟩)
/-- neighbours: no third least vector on the places of both -/
def adj (C : (Nat → Nat) → Prop) (u v : Nat → Nat) : Prop := ∀ e, ray C e → (∀ p, u p = 0 → v p = 0 → e p = 0) → e = u ∨ e = v
/-- what lies on the places of two neighbours is made of them -/
theorem adj_span {u v : Nat → Nat} (hC : cone C) (hu : ray C u) (hv : ray C v) (ha : adj C u v) : ∀ n y, ssz y ≤ n → C y → (∀ p, u p = 0 → v p = 0 → y p = 0) → ∃ c α β, c ≠ 0 ∧ ∀ p, c * y p = α * u p + β * v p := fun n => by
  induction n with
  | zero =>
    intro y h hy hs
    refine ⟨1, 0, 0, by decide, fun p => ?_⟩
    have : y p = 0 := Classical.byContradiction fun c => by
      have := cn_zero (P := fun p => decide (y p ≠ 0)) 10 (Nat.le_zero.mp h) p (ten hC hy c)
      exact absurd (decide_eq_true c) (by rw [this]; decide)
    rw [this]
    omega
  | succ n ih =>
    intro y h hy hs
    by_cases hn : nz y
    · obtain ⟨e, e1, e2⟩ := ray_in hC _ y (Nat.le_refl _) hy hn
      obtain ⟨p0, h1, h2, h3⟩ := peel hC e1.1 hy e1.2.1
      have y0 : y p0 ≠ 0 := fun c => h1 (e2 p0 c)
      have zs : inS (fun p => e p0 * y p - y p0 * e p) y := fun p hp => by
        show e p0 * y p - y p0 * e p = 0
        rw [hp, Nat.mul_zero]
        exact Nat.zero_sub _
      have lt := ssz_lt zs (ten hC hy y0) y0 (by
        show e p0 * y p0 - y p0 * e p0 = 0
        rw [Nat.mul_comm]
        exact Nat.sub_self _)
      obtain ⟨c, α, β, c0, hc⟩ := ih _ (by omega) h3 (fun p a b => zs p (hs p a b))
      have key : ∀ p, c * e p0 * y p = c * y p0 * e p + (α * u p + β * v p) := fun p => by
        have h4 := hc p
        have h5 := h2 p
        have h4 : c * (e p0 * y p - y p0 * e p) = α * u p + β * v p := h4
        rw [← h4, Nat.mul_sub, Nat.mul_assoc, Nat.mul_assoc]
        have := Nat.mul_le_mul_left c h5
        omega
      rcases ha e e1 (fun p a b => e2 p (hs p a b)) with g | g
      · refine ⟨c * e p0, c * y p0 + α, β, Nat.mul_ne_zero c0 h1, fun p => ?_⟩
        rw [key p, Nat.add_mul, g]
        omega
      · refine ⟨c * e p0, α, c * y p0 + β, Nat.mul_ne_zero c0 h1, fun p => ?_⟩
        rw [key p, Nat.add_mul, g]
        omega
    · refine ⟨1, 0, 0, by decide, fun p => ?_⟩
      have : y p = 0 := Classical.byContradiction fun c => hn ⟨p, c⟩
      rw [this]
      omega
end RAY
