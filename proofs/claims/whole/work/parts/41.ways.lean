/-! CHEAPEST WAYS: a graph of n places with S edges each, edge t of k leads to T k t (below n, else nowhere) and costs c t -/
def gds (n S : Nat) (T : Nat → Nat → Nat) (c : Nat → Nat) (g : Nat) (W : Nat → Nat) : Prop := W g = 1 ∧ (∀ k t, k < n → t < S → T k t < n → W (T k t) ≠ 0 → W k ≠ 0 ∧ W k ≤ W (T k t) + c t) ∧ ∀ k, k < n → k ≠ g → W k ≠ 0 → ∃ t, t < S ∧ T k t < n ∧ W (T k t) ≠ 0 ∧ W k = W (T k t) + c t
/-- a way of at most r edges, v is one more than its cost -/
def pth (n S : Nat) (T : Nat → Nat → Nat) (c : Nat → Nat) (g : Nat) : Nat → Nat → Nat → Prop
  | 0, k, v => k = g ∧ v = 1
  | r + 1, k, v => pth n S T c g r k v ∨ ∃ t u, t < S ∧ T k t < n ∧ pth n S T c g r (T k t) u ∧ v = u + c t
theorem pth_1 {n S : Nat} {T : Nat → Nat → Nat} {c : Nat → Nat} {g : Nat} : ∀ r k v, pth n S T c g r k v → 1 ≤ v
  | 0, k, v, h => by rw [h.2]; exact Nat.le_refl _
  | r + 1, k, v, h => by
    rcases h with h | ⟨t, u, h1, h2, h3, h4⟩
    · exact pth_1 r k v h
    · have := pth_1 r _ u h3
      omega
theorem gds_ex (n S : Nat) (T : Nat → Nat → Nat) (c : Nat → Nat) (g : Nat) : ∃ D, gds n S T c g D := by
  have h : ∀ k, ∃ d, (d = 0 ∧ ∀ r v, ¬ pth n S T c g r k v) ∨ ((∃ r, pth n S T c g r k d) ∧ ∀ r v, pth n S T c g r k v → d ≤ v) := fun k => by
    by_cases e : ∃ v, ∃ r, pth n S T c g r k v
    · obtain ⟨d, h1, h2⟩ := pk_least (fun v => ∃ r, pth n S T c g r k v) e
      exact ⟨d, Or.inr ⟨h1, fun r v hv => Nat.le_of_not_lt fun hl => h2 v hl ⟨r, hv⟩⟩⟩
    · exact ⟨0, Or.inl ⟨rfl, fun r v hv => e ⟨v, r, hv⟩⟩⟩
  obtain ⟨D, hD⟩ := Classical.axiomOfChoice h
  have pos : ∀ k, D k ≠ 0 → (∃ r, pth n S T c g r k (D k)) ∧ ∀ r v, pth n S T c g r k v → D k ≤ v := fun k hk => by
    rcases hD k with h | h
    · exact absurd h.1 hk
    · exact h
  have of : ∀ k r v, pth n S T c g r k v → D k ≠ 0 ∧ D k ≤ v := fun k r v hv => by
    rcases hD k with h | h
    · exact absurd hv (h.2 r v)
    · obtain ⟨r2, h2⟩ := h.1
      have := pth_1 _ _ _ h2
      exact ⟨by omega, h.2 r v hv⟩
  have p2 : ∀ k t, k < n → t < S → T k t < n → D (T k t) ≠ 0 → D k ≠ 0 ∧ D k ≤ D (T k t) + c t := fun k t hk ht hT h0 => by
    obtain ⟨r, hr⟩ := (pos _ h0).1
    exact of k (r + 1) _ (Or.inr ⟨t, _, ht, hT, hr, rfl⟩)
  refine ⟨D, ?_, p2, fun k hk hg h0 => ?_⟩
  · have h1 := of g 0 1 ⟨rfl, rfl⟩
    omega
  · obtain ⟨r, hr⟩ := (pos k h0).1
    have key : ∀ r, pth n S T c g r k (D k) → ∃ t, t < S ∧ T k t < n ∧ D (T k t) ≠ 0 ∧ D k = D (T k t) + c t := fun r => by
      induction r with
      | zero => exact fun h => absurd h.1 hg
      | succ r ih =>
        intro h
        rcases h with h | ⟨t, u, h1, h2, h3, h4⟩
        · exact ih h
        · have a := of _ _ _ h3
          have b := p2 k t hk h1 h2 a.1
          exact ⟨t, h1, h2, a.1, by omega⟩
    exact key r hr
theorem gds_le {n S : Nat} {T : Nat → Nat → Nat} {c : Nat → Nat} {g : Nat} {W D : Nat → Nat} (hc : ∀ t, 1 ≤ c t) (hW : gds n S T c g W) (hD : gds n S T c g D) : ∀ v k, k < n → W k = v → v ≠ 0 → D k ≠ 0 ∧ D k ≤ W k := by
  intro v
  induction v using Nat.strongRecOn with
  | ind v ih =>
    intro k hk e h0
    by_cases hg : k = g
    · rw [hg, hD.1, hW.1]
      exact ⟨by decide, Nat.le_refl _⟩
    · obtain ⟨t, h1, h2, h3, h4⟩ := hW.2.2 k hk hg (by omega)
      have hc1 := hc t
      have a := ih (W (T k t)) (by omega) (T k t) h2 rfl h3
      have b := hD.2.1 k t hk h1 h2 a.1
      exact ⟨b.1, by omega⟩
theorem gds_uq {n S : Nat} {T : Nat → Nat → Nat} {c : Nat → Nat} {g : Nat} {W D : Nat → Nat} (hc : ∀ t, 1 ≤ c t) (hW : gds n S T c g W) (hD : gds n S T c g D) : ∀ k, k < n → W k = D k := fun k hk => by
  by_cases h1 : W k = 0
  · by_cases h2 : D k = 0
    · rw [h1, h2]
    · exact absurd h1 (gds_le hc hD hW _ k hk rfl h2).1
  · have a := gds_le hc hW hD _ k hk rfl h1
    have b := gds_le hc hD hW _ k hk rfl a.1
    omega
theorem gds_none {n S : Nat} {T : Nat → Nat → Nat} {c : Nat → Nat} {g : Nat} {D : Nat → Nat} (hc : ∀ t, 1 ≤ c t) (hD : gds n S T c g D) (hg : n ≤ g) : ∀ v k, k < n → D k = v → v = 0 := by
  intro v
  induction v using Nat.strongRecOn with
  | ind v ih =>
    intro k hk e
    refine Classical.byContradiction fun h0 => ?_
    obtain ⟨t, h1, h2, h3, h4⟩ := hD.2.2 k hk (by omega) (by omega)
    have hc1 := hc t
    exact h3 (ih (D (T k t)) (by omega) (T k t) h2 rfl)
/-- how many are wrong -/
noncomputable def wrc (R : Nat → Prop) (n : Nat) : Nat := cn (fun k => @decide (¬ R k) (Classical.propDecidable _)) n
theorem cn_mono {P Q : Nat → Bool} : ∀ n, (∀ k, k < n → P k = true → Q k = true) → cn P n ≤ cn Q n
  | 0, _ => Nat.le_refl _
  | n + 1, h => by
    have h1 := cn_mono n (fun k hk => h k (by omega))
    have h2 := h n (by omega)
    rw [cn_s, cn_s]
    cases e : P n with
    | false =>
      cases Q n with
      | false => exact h1
      | true => exact Nat.le_trans h1 (Nat.le_add_right _ _)
    | true =>
      rw [h2 e]
      exact Nat.add_le_add_right h1 _
theorem cn_lt {P Q : Nat → Bool} : ∀ n, (∀ k, k < n → P k = true → Q k = true) → (∃ k, k < n ∧ P k = false ∧ Q k = true) → cn P n < cn Q n
  | 0, _, h => by
    obtain ⟨k, hk, _⟩ := h
    omega
  | n + 1, h, hx => by
    obtain ⟨k, hk, h3, h4⟩ := hx
    rw [cn_s, cn_s]
    by_cases e : k = n
    · rw [e] at h3 h4
      rw [h3, h4]
      have := cn_mono n (fun k hk => h k (by omega))
      exact Nat.lt_succ_of_le this
    · have h1 := cn_lt n (fun k hk => h k (by omega)) ⟨k, by omega, h3, h4⟩
      have h2 := h n (by omega)
      cases e2 : P n with
      | false =>
        cases Q n with
        | false => exact h1
        | true => exact Nat.lt_of_lt_of_le h1 (Nat.le_add_right _ _)
      | true =>
        rw [h2 e2]
        exact Nat.add_lt_add_right h1 _
theorem cn_zero {P : Nat → Bool} : ∀ n, cn P n = 0 → ∀ k, k < n → P k = false
  | 0, _, k, hk => absurd hk (by omega)
  | n + 1, h, k, hk => by
    rw [cn_s] at h
    by_cases e : k = n
    · rw [e]
      cases z : P n with
      | false => rfl
      | true =>
        rw [z] at h
        exact absurd h (by show ¬ cn P n + 1 = 0; omega)
    · exact cn_zero n (by omega) k (by omega)
theorem wrc_lt {R R' : Nat → Prop} {n : Nat} (h : ∀ k, k < n → R k → R' k) (hx : ∃ k, k < n ∧ ¬ R k ∧ R' k) : wrc R' n < wrc R n := by
  refine cn_lt n (fun k hk hp => ?_) ?_
  · have := @of_decide_eq_true _ (Classical.propDecidable _) hp
    exact @decide_eq_true _ (Classical.propDecidable _) fun hr => this (h k hk hr)
  · obtain ⟨k, hk, h1, h2⟩ := hx
    exact ⟨k, hk, @decide_eq_false _ (Classical.propDecidable _) fun z => z h2, @decide_eq_true _ (Classical.propDecidable _) h1⟩
theorem wrc_0 {R : Nat → Prop} {n : Nat} (h : wrc R n = 0) : ∀ k, k < n → R k := fun k hk => by
  have h1 := cn_zero n h k hk
  exact Classical.byContradiction fun hn => absurd (@decide_eq_true _ (Classical.propDecidable _) hn) (by rw [h1]; decide)
theorem wrc_all {R : Nat → Prop} : ∀ n, (∀ j, j < n → R j) → wrc R n = 0
  | 0, _ => rfl
  | n + 1, h => by
    have e := wrc_all n (fun j hj => h j (by omega))
    have z : @decide (¬ R n) (Classical.propDecidable _) = false := @decide_eq_false _ (Classical.propDecidable _) fun z => z (h n (by omega))
    show wrc R n + cond (@decide (¬ R n) (Classical.propDecidable _)) 1 0 = 0
    rw [e, z]
    rfl
theorem wrc_ex {R : Nat → Prop} {n : Nat} (h : wrc R n ≠ 0) : ∃ j, j < n ∧ ¬ R j := Classical.byContradiction fun hn => h (wrc_all n fun j hj => Classical.byContradiction fun z => hn ⟨j, hj, z⟩)
theorem wrc_g {R : Nat → Prop} {n g : Nat} (hg : g < n) (h : R g) : wrc R n < n := by
  have h1 := cn_lt (P := fun k => @decide (¬ R k) (Classical.propDecidable _)) (Q := fun _ => true) n (fun _ _ _ => rfl) ⟨g, hg, @decide_eq_false _ (Classical.propDecidable _) fun z => z h, rfl⟩
  exact Nat.lt_of_lt_of_le h1 (cn_le n)
/-- a round: the edges of one place after the other -/
def rdt (st : (Nat → Nat) → Nat → Nat → Nat → Nat) (x : Nat → Nat) (k : Nat) : Nat → Nat → Nat
  | 0 => x
  | t + 1 => st (rdt st x k t) k t
def rdo (st : (Nat → Nat) → Nat → Nat → Nat → Nat) (o : Nat → Nat) (S : Nat) (x : Nat → Nat) : Nat → Nat → Nat
  | 0 => x
  | i + 1 => rdt st (rdo st o S x i) (o i) S
section ROUND
variable {n S g N : Nat} {T : Nat → Nat → Nat} {c D o : Nat → Nat} {st : (Nat → Nat) → Nat → Nat → Nat → Nat} {Sd : (Nat → Nat) → Prop} {Rt : (Nat → Nat) → Nat → Prop}
theorem rdt_sd (a : ∀ x k t, k < n → t < S → Sd x → Sd (st x k t)) {k : Nat} (hk : k < n) {x : Nat → Nat} (h : Sd x) : ∀ t, t ≤ S → Sd (rdt st x k t)
  | 0, _ => h
  | t + 1, ht => a _ k t hk (by omega) (rdt_sd a hk h t (by omega))
theorem rdt_rt (a : ∀ x k t, k < n → t < S → Sd x → Sd (st x k t)) (b : ∀ x k t j, k < n → t < S → j < n → Sd x → Rt x j → Rt (st x k t) j) {k : Nat} (hk : k < n) {x : Nat → Nat} (h : Sd x) {j : Nat} (hj : j < n) (hr : Rt x j) : ∀ t, t ≤ S → Rt (rdt st x k t) j
  | 0, _ => hr
  | t + 1, ht => b _ k t j hk (by omega) hj (rdt_sd a hk h t (by omega)) (rdt_rt a b hk h hj hr t (by omega))
theorem rdt_later (a : ∀ x k t, k < n → t < S → Sd x → Sd (st x k t)) (b : ∀ x k t j, k < n → t < S → j < n → Sd x → Rt x j → Rt (st x k t) j) {k : Nat} (hk : k < n) {x : Nat → Nat} (h : Sd x) {j t : Nat} (hj : j < n) (hr : Rt (rdt st x k t) j) : ∀ u, t + u ≤ S → Rt (rdt st x k (t + u)) j
  | 0, _ => hr
  | u + 1, hu => b _ k (t + u) j hk (by omega) hj (rdt_sd a hk h (t + u) (by omega)) (rdt_later a b hk h hj hr u (by omega))
theorem rdo_sd (a : ∀ x k t, k < n → t < S → Sd x → Sd (st x k t)) (ho : ∀ i, i < N → o i < n) {x : Nat → Nat} (h : Sd x) : ∀ i, i ≤ N → Sd (rdo st o S x i)
  | 0, _ => h
  | i + 1, hi => rdt_sd a (ho i (by omega)) (rdo_sd a ho h i (by omega)) S (Nat.le_refl _)
theorem rdo_rt (a : ∀ x k t, k < n → t < S → Sd x → Sd (st x k t)) (b : ∀ x k t j, k < n → t < S → j < n → Sd x → Rt x j → Rt (st x k t) j) (ho : ∀ i, i < N → o i < n) {x : Nat → Nat} (h : Sd x) {j : Nat} (hj : j < n) (hr : Rt x j) : ∀ i, i ≤ N → Rt (rdo st o S x i) j
  | 0, _ => hr
  | i + 1, hi => rdt_rt a b (ho i (by omega)) (rdo_sd a ho h i (by omega)) hj (rdo_rt a b ho h hj hr i (by omega)) S (Nat.le_refl _)
theorem rdo_later (a : ∀ x k t, k < n → t < S → Sd x → Sd (st x k t)) (b : ∀ x k t j, k < n → t < S → j < n → Sd x → Rt x j → Rt (st x k t) j) (ho : ∀ i, i < N → o i < n) {x : Nat → Nat} (h : Sd x) {j i : Nat} (hj : j < n) (hr : Rt (rdo st o S x i) j) : ∀ u, i + u ≤ N → Rt (rdo st o S x (i + u)) j
  | 0, _ => hr
  | u + 1, hu => rdt_rt a b (ho (i + u) (by omega)) (rdo_sd a ho h (i + u) (by omega)) hj (rdo_later a b ho h hj hr u (by omega)) S (Nat.le_refl _)
theorem rdo_new (hc : ∀ t, 1 ≤ c t) (hD : gds n S T c g D) (a : ∀ x k t, k < n → t < S → Sd x → Sd (st x k t)) (b : ∀ x k t j, k < n → t < S → j < n → Sd x → Rt x j → Rt (st x k t) j)
    (cc : ∀ x k t, k < n → t < S → T k t < n → Sd x → k ≠ g → D (T k t) ≠ 0 → D k = D (T k t) + c t → Rt x (T k t) → Rt (st x k t) k) (d : ∀ x j, j < n → Sd x → (D j = 0 ∨ j = g) → Rt x j)
    (ho : ∀ i, i < N → o i < n) (hv : ∀ k, k < n → k ≠ g → ∃ i, i < N ∧ o i = k) {x : Nat → Nat} (h : Sd x) (hx : ∃ j, j < n ∧ ¬ Rt x j) : ∃ j, j < n ∧ ¬ Rt x j ∧ Rt (rdo st o S x N) j := by
  obtain ⟨j0, hj0, hr0⟩ := hx
  obtain ⟨v, ⟨j, hj, hr, hv2⟩, hl⟩ := pk_least (fun v => ∃ j, j < n ∧ ¬ Rt x j ∧ D j = v) ⟨D j0, j0, hj0, hr0, rfl⟩
  have hg : j ≠ g := fun e => hr (d x j hj h (Or.inr e))
  have h0 : D j ≠ 0 := fun e => hr (d x j hj h (Or.inl e))
  obtain ⟨t, h1, h2, h3, h4⟩ := hD.2.2 j hj hg h0
  have hc1 := hc t
  have hk : Rt x (T j t) := Classical.byContradiction fun hn => hl (D (T j t)) (by omega) ⟨T j t, h2, hn, rfl⟩
  obtain ⟨i, hi, hoi⟩ := hv j hj hg
  refine ⟨j, hj, hr, ?_⟩
  have y1 := rdo_sd (S := S) a ho h i (by omega)
  have y2 := rdo_rt (S := S) a b ho h h2 hk i (by omega)
  have z1 := rdt_sd a hj y1 t (by omega)
  have z2 := rdt_rt a b hj y1 h2 y2 t (by omega)
  have z3 : Rt (rdt st (rdo st o S x i) j (t + 1)) j := cc _ j t hj h1 h2 z1 hg h3 h4 z2
  have z4 := rdt_later a b hj y1 hj z3 (S - (t + 1)) (by omega)
  rw [show t + 1 + (S - (t + 1)) = S by omega] at z4
  have z5 : Rt (rdo st o S x (i + 1)) j := by
    show Rt (rdt st (rdo st o S x i) (o i) S) j
    rw [hoi]
    exact z4
  have z6 := rdo_later (S := S) a b ho h hj z5 (N - (i + 1)) (by omega)
  rw [show i + 1 + (N - (i + 1)) = N by omega] at z6
  exact z6
end ROUND
/-- the better of two: 0 none -/
def wmin (a b : Nat) : Nat := if b = 0 then a else if a = 0 ∨ b < a then b else a
def wvl (n : Nat) (T : Nat → Nat → Nat) (c W : Nat → Nat) (k t : Nat) : Nat := if T k t < n ∧ W (T k t) ≠ 0 then W (T k t) + c t else 0
def rx (n : Nat) (T : Nat → Nat → Nat) (c : Nat → Nat) (W : Nat → Nat) (k t : Nat) : Nat → Nat := ups W k (wmin (W k) (wvl n T c W k t))
/-- no way is told that isn't there -/
def sdw (n g : Nat) (D W : Nat → Nat) : Prop := W g = 1 ∧ ∀ k, k < n → W k = 0 ∨ (D k ≠ 0 ∧ D k ≤ W k)
def rb (n : Nat) (T : Nat → Nat → Nat) (W : Nat → Nat) (k t : Nat) : Nat → Nat := ups W k (if W k ≠ 0 ∨ (T k t < n ∧ W (T k t) ≠ 0) then 1 else 0)
def sdb (n g : Nat) (D W : Nat → Nat) : Prop := W g = 1 ∧ ∀ k, k < n → W k = 0 ∨ (W k = 1 ∧ D k ≠ 0)
section RELAX
variable {n S g N : Nat} {T : Nat → Nat → Nat} {c D o : Nat → Nat}
theorem wvl_d (hD : gds n S T c g D) {W : Nat → Nat} {k t : Nat} (hk : k < n) (ht : t < S) (h : sdw n g D W) : wvl n T c W k t = 0 ∨ (D k ≠ 0 ∧ D k ≤ wvl n T c W k t) := by
  unfold wvl
  by_cases e : T k t < n ∧ W (T k t) ≠ 0
  · rw [if_pos e]
    rcases h.2 _ e.1 with z | z
    · exact absurd z e.2
    · have := hD.2.1 k t hk ht e.1 z.1
      exact Or.inr ⟨this.1, by omega⟩
  · rw [if_neg e]
    exact Or.inl rfl
theorem rx_sd (hc : ∀ t, 1 ≤ c t) (hD : gds n S T c g D) (W : Nat → Nat) (k t : Nat) (hk : k < n) (ht : t < S) (h : sdw n g D W) : sdw n g D (rx n T c W k t) := by
  have hv := wvl_d hD hk ht h
  unfold rx
  refine ⟨?_, fun j hj => ?_⟩
  · by_cases e : g = k
    · rw [e, ups_s, ← e, h.1]
      have : wvl n T c W g t = 0 ∨ 2 ≤ wvl n T c W g t := by
        unfold wvl
        by_cases z : T g t < n ∧ W (T g t) ≠ 0
        · rw [if_pos z]
          have := hc t
          exact Or.inr (by omega)
        · rw [if_neg z]
          exact Or.inl rfl
      unfold wmin
      rcases this with z | z
      · rw [if_pos z]
      · rw [if_neg (by omega), if_neg (by omega)]
    · rw [ups_o e]
      exact h.1
  · by_cases e : j = k
    · rw [e, ups_s]
      have hw := h.2 k hk
      unfold wmin
      by_cases z : wvl n T c W k t = 0
      · rw [if_pos z]
        exact hw
      · rw [if_neg z]
        by_cases z2 : W k = 0 ∨ wvl n T c W k t < W k
        · rw [if_pos z2]
          exact hv
        · rw [if_neg z2]
          exact hw
    · rw [ups_o e]
      exact h.2 j hj
theorem rx_rt (hD : gds n S T c g D) (W : Nat → Nat) (k t j : Nat) (hk : k < n) (ht : t < S) (hj : j < n) (h : sdw n g D W) (hr : W j = D j) : rx n T c W k t j = D j := by
  have hv := wvl_d hD hk ht h
  unfold rx
  by_cases e : j = k
  · rw [e, ups_s]
    rw [e] at hr
    unfold wmin
    by_cases z : wvl n T c W k t = 0
    · rw [if_pos z]
      exact hr
    · rw [if_neg z, if_neg (by omega)]
      exact hr
  · rw [ups_o e]
    exact hr
theorem rx_hit (W : Nat → Nat) (k t : Nat) (hk : k < n) (ht : t < S) (hT : T k t < n) (h : sdw n g D W) (hg : k ≠ g) (h0 : D (T k t) ≠ 0) (he : D k = D (T k t) + c t) (hr : W (T k t) = D (T k t)) : rx n T c W k t k = D k := by
  have e1 : wvl n T c W k t = D k := by
    unfold wvl
    rw [if_pos ⟨hT, by omega⟩, hr, he]
  have hw := h.2 k hk
  unfold rx wmin
  rw [ups_s, e1]
  by_cases z : D k = 0
  · omega
  · rw [if_neg z]
    by_cases z2 : W k = 0 ∨ D k < W k
    · rw [if_pos z2]
    · rw [if_neg z2]
      omega
theorem rx_ok (W : Nat → Nat) (j : Nat) (hj : j < n) (hD : gds n S T c g D) (h : sdw n g D W) (hz : D j = 0 ∨ j = g) : W j = D j := by
  rcases hz with z | z
  · rcases h.2 j hj with y | y
    · rw [y, z]
    · exact absurd z y.1
  · rw [z, h.1, hD.1]
/-- a round makes one more right, while one is wrong -/
theorem rx_round (hc : ∀ t, 1 ≤ c t) (hD : gds n S T c g D) (ho : ∀ i, i < N → o i < n) (hv : ∀ k, k < n → k ≠ g → ∃ i, i < N ∧ o i = k) {W : Nat → Nat} (h : sdw n g D W) : sdw n g D (rdo (rx n T c) o S W N) ∧ (wrc (fun j => W j = D j) n = 0 → ∀ j, j < n → rdo (rx n T c) o S W N j = D j) ∧ (wrc (fun j => W j = D j) n ≠ 0 → wrc (fun j => rdo (rx n T c) o S W N j = D j) n < wrc (fun j => W j = D j) n) := by
  have a := fun x k t (hk : k < n) (ht : t < S) => rx_sd (T := T) hc hD x k t hk ht
  have b := fun x k t j (hk : k < n) (ht : t < S) (hj : j < n) => rx_rt (T := T) hD x k t j hk ht hj
  refine ⟨rdo_sd (Sd := sdw n g D) a ho h N (Nat.le_refl _), fun h0 j hj => rdo_rt (Sd := sdw n g D) (Rt := fun x j => x j = D j) a b ho h hj (wrc_0 h0 j hj) N (Nat.le_refl _), fun h0 => wrc_lt (fun j hj hr => rdo_rt (Sd := sdw n g D) (Rt := fun x j => x j = D j) a b ho h hj hr N (Nat.le_refl _)) ?_⟩
  refine rdo_new (Sd := sdw n g D) (Rt := fun x j => x j = D j) hc hD a b (fun x k t hk ht hT h1 h2 h3 h4 h5 => rx_hit x k t hk ht hT h1 h2 h3 h4 h5) (fun x j hj h1 h2 => rx_ok x j hj hD h1 h2) ho hv h ?_
  exact wrc_ex h0
/-- the same for 'is there a way' -/
theorem rb_v (hD : gds n S T c g D) {W : Nat → Nat} {k t : Nat} (hk : k < n) (ht : t < S) (h : sdb n g D W) (e : W k ≠ 0 ∨ (T k t < n ∧ W (T k t) ≠ 0)) : D k ≠ 0 := by
  rcases e with e | e
  · rcases h.2 k hk with z | z
    · exact absurd z e
    · exact z.2
  · rcases h.2 _ e.1 with z | z
    · exact absurd z e.2
    · exact (hD.2.1 k t hk ht e.1 z.2).1
theorem rb_sd (hD : gds n S T c g D) (W : Nat → Nat) (k t : Nat) (hk : k < n) (ht : t < S) (h : sdb n g D W) : sdb n g D (rb n T W k t) := by
  unfold rb
  refine ⟨?_, fun j hj => ?_⟩
  · by_cases e : g = k
    · rw [e, ups_s, ← e, h.1, if_pos (Or.inl (by decide))]
    · rw [ups_o e]
      exact h.1
  · by_cases e : j = k
    · rw [e, ups_s]
      by_cases z : W k ≠ 0 ∨ (T k t < n ∧ W (T k t) ≠ 0)
      · rw [if_pos z]
        exact Or.inr ⟨rfl, rb_v hD hk ht h z⟩
      · rw [if_neg z]
        exact Or.inl rfl
    · rw [ups_o e]
      exact h.2 j hj
theorem rb_rt (hD : gds n S T c g D) (W : Nat → Nat) (k t j : Nat) (hk : k < n) (ht : t < S) (hj : j < n) (h : sdb n g D W) (hr : W j ≠ 0 ↔ D j ≠ 0) : rb n T W k t j ≠ 0 ↔ D j ≠ 0 := by
  unfold rb
  by_cases e : j = k
  · rw [e, ups_s]
    rw [e] at hr
    by_cases z : W k ≠ 0 ∨ (T k t < n ∧ W (T k t) ≠ 0)
    · rw [if_pos z]
      exact ⟨fun _ => rb_v hD hk ht h z, fun _ => by decide⟩
    · rw [if_neg z]
      exact ⟨fun y => absurd rfl y, fun y => absurd (Or.inl (hr.mpr y)) z⟩
  · rw [ups_o e]
    exact hr
theorem rb_hit (W : Nat → Nat) (k t : Nat) (hT : T k t < n) (h0 : D (T k t) ≠ 0) (he : D k = D (T k t) + c t) (hr : W (T k t) ≠ 0 ↔ D (T k t) ≠ 0) : rb n T W k t k ≠ 0 ↔ D k ≠ 0 := by
  unfold rb
  rw [ups_s, if_pos (Or.inr ⟨hT, hr.mpr h0⟩)]
  exact ⟨fun _ => by omega, fun _ => by decide⟩
theorem rb_ok (W : Nat → Nat) (j : Nat) (hj : j < n) (hD : gds n S T c g D) (h : sdb n g D W) (hz : D j = 0 ∨ j = g) : W j ≠ 0 ↔ D j ≠ 0 := by
  rcases hz with z | z
  · rcases h.2 j hj with y | y
    · rw [y, z]
    · exact absurd z y.2
  · rw [z, h.1, hD.1]
theorem rb_round (hc : ∀ t, 1 ≤ c t) (hD : gds n S T c g D) (ho : ∀ i, i < N → o i < n) (hv : ∀ k, k < n → k ≠ g → ∃ i, i < N ∧ o i = k) {W : Nat → Nat} (h : sdb n g D W) : sdb n g D (rdo (rb n T) o S W N) ∧ (wrc (fun j => W j ≠ 0 ↔ D j ≠ 0) n = 0 → ∀ j, j < n → (rdo (rb n T) o S W N j ≠ 0 ↔ D j ≠ 0)) ∧ (wrc (fun j => W j ≠ 0 ↔ D j ≠ 0) n ≠ 0 → wrc (fun j => rdo (rb n T) o S W N j ≠ 0 ↔ D j ≠ 0) n < wrc (fun j => W j ≠ 0 ↔ D j ≠ 0) n) := by
  have a := fun x k t (hk : k < n) (ht : t < S) => rb_sd (T := T) hD x k t hk ht
  have b := fun x k t j (hk : k < n) (ht : t < S) (hj : j < n) => rb_rt (T := T) hD x k t j hk ht hj
  refine ⟨rdo_sd (Sd := sdb n g D) a ho h N (Nat.le_refl _), fun h0 j hj => rdo_rt (Sd := sdb n g D) (Rt := fun x j => x j ≠ 0 ↔ D j ≠ 0) a b ho h hj (wrc_0 h0 j hj) N (Nat.le_refl _), fun h0 => wrc_lt (fun j hj hr => rdo_rt (Sd := sdb n g D) (Rt := fun x j => x j ≠ 0 ↔ D j ≠ 0) a b ho h hj hr N (Nat.le_refl _)) ?_⟩
  exact rdo_new (Sd := sdb n g D) (Rt := fun x j => x j ≠ 0 ↔ D j ≠ 0) hc hD a b (fun x k t hk ht hT h1 h2 h3 h4 h5 => rb_hit x k t hT h3 h4 h5) (fun x j hj h1 h2 => rb_ok x j hj hD h1 h2) ho hv h (wrc_ex h0)
end RELAX
