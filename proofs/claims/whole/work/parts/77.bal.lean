/-! SUMS: a step is balanced, as a list that grows -/
def upv (u : Nat → Nat → Nat) (n : Nat) (x : Nat → Nat) : Nat → Nat → Nat := fun i => if i = n then x else u i
theorem upv_s {u : Nat → Nat → Nat} {n : Nat} {x : Nat → Nat} : upv u n x n = x := if_pos rfl
theorem upv_o {u : Nat → Nat → Nat} {n i : Nat} {x : Nat → Nat} (h : i ≠ n) : upv u n x i = u i := if_neg h
/-- both rows' places together -/
def tgz (x a b : Nat → Nat) : Prop := ∀ p, x p = 0 ↔ a p = 0 ∧ b p = 0
/-- what the new rows are, when rows below k1 and the pairs done have been looked at -/
def bal (m : Nat → Nat) (t n : Nat) (u : Nat → Nat → Nat) (k1 : Nat) (dn : Nat → Nat → Prop) (n' : Nat) (u' : Nat → Nat → Nat) : Prop := (∀ i, i < n' → ray (Kc m (t + 1)) (u' i) ∧ ((∃ k, k < k1 ∧ k < n ∧ su m t (u k) = 0 ∧ u' i = u k) ∨ ∃ a b, a < n ∧ b < n ∧ dn a b ∧ 0 < su m t (u a) ∧ su m t (u b) < 0 ∧ adj (Kc m t) (u a) (u b) ∧ tgz (u' i) (u a) (u b))) ∧ (∀ i j, i < n' → j < n' → u' i = u' j → i = j) ∧ (∀ k, k < k1 → k < n → su m t (u k) = 0 → ∃ i, i < n' ∧ u' i = u k) ∧ ∀ a b, a < n → b < n → dn a b → 0 < su m t (u a) → su m t (u b) < 0 → adj (Kc m t) (u a) (u b) → ∃ i, i < n' ∧ tgz (u' i) (u a) (u b)
section BAL
variable {m : Nat → Nat} {t n : Nat} {u : Nat → Nat → Nat}
theorem bal_0 {dn : Nat → Nat → Prop} (h : ∀ a b, ¬ dn a b) (u' : Nat → Nat → Nat) : bal m t n u 0 dn 0 u' := ⟨fun i hi => absurd hi (by omega), fun i j hi => absurd hi (by omega), fun k hk => absurd hk (by omega), fun a b _ _ hd => absurd hd (h a b)⟩
theorem bal_room (hw : wb m) (ht : t < 8) {k1 n' : Nat} {dn : Nat → Nat → Prop} {u' : Nat → Nat → Nat} (hb : bal m t n u k1 dn n' u') : n' ≤ 64 := ray_count hw (t := t + 1) (by omega) (fun i hi => (hb.1 i hi).1) hb.2.1
/-- the next row bears a balance of its own: it goes along -/
theorem bal_zero (hr : rys m t n u) {k n' : Nat} {dn : Nat → Nat → Prop} {u' : Nat → Nat → Nat} (hd : ∀ a b, ¬ dn a b) (hk : k < n) (h0 : su m t (u k) = 0) (hb : bal m t n u k dn n' u') : bal m t n u (k + 1) dn (n' + 1) (upv u' n' (u k)) := by
  have rk : ray (Kc m (t + 1)) (u k) := by
    rw [Kc_s]
    exact dd_zero (hr.1 k hk) h0
  have new : ∀ i, i < n' → u' i ≠ u k := fun i hi e => by
    rcases (hb.1 i hi).2 with ⟨k', a1, a2, a3, a4⟩ | ⟨a, b, a1, a2, a3, _⟩
    · have := hr.2.1 k' k a2 hk (a4.symm.trans e)
      omega
    · exact hd a b a3
  refine ⟨fun i hi => ?_, fun i j hi hj e => ?_, fun k' h1 h2 h3 => ?_, fun a b _ _ h => absurd h (hd a b)⟩
  · by_cases e : i = n'
    · rw [e, upv_s]
      exact ⟨rk, Or.inl ⟨k, by omega, hk, h0, rfl⟩⟩
    · rw [upv_o e]
      refine ⟨(hb.1 i (by omega)).1, ?_⟩
      rcases (hb.1 i (by omega)).2 with ⟨k', a1, a2⟩ | g
      · exact Or.inl ⟨k', by omega, a2⟩
      · exact Or.inr g
  · by_cases ei : i = n'
    · by_cases ej : j = n'
      · omega
      · rw [ei, upv_s, upv_o ej] at e
        exact absurd e.symm (new j (by omega))
    · by_cases ej : j = n'
      · rw [ej, upv_s, upv_o ei] at e
        exact absurd e (new i (by omega))
      · rw [upv_o ei, upv_o ej] at e
        exact hb.2.1 i j (by omega) (by omega) e
  · by_cases e : k' = k
    · exact ⟨n', by omega, by rw [upv_s, e]⟩
    · obtain ⟨i, i1, i2⟩ := hb.2.2.1 k' (by omega) h2 h3
      exact ⟨i, by omega, by rw [upv_o (by omega)]; exact i2⟩
theorem bal_skip {k n' : Nat} {dn : Nat → Nat → Prop} {u' : Nat → Nat → Nat} (h0 : su m t (u k) ≠ 0) (hb : bal m t n u k dn n' u') : bal m t n u (k + 1) dn n' u' := by
  refine ⟨fun i hi => ⟨(hb.1 i hi).1, ?_⟩, hb.2.1, fun k' h1 h2 h3 => ?_, hb.2.2.2⟩
  · rcases (hb.1 i hi).2 with ⟨k', a1, a2⟩ | g
    · exact Or.inl ⟨k', by omega, a2⟩
    · exact Or.inr g
  · by_cases e : k' = k
    · rw [e] at h3
      exact absurd h3 h0
    · exact hb.2.2.1 k' (by omega) h2 h3
/-- a combination of neighbours, divided -/
def cmb (A B : Nat) (a b : Nat → Nat) : Nat → Nat := fun p => (B * a p + A * b p) / gcn (fun p => B * a p + A * b p) 10
theorem cmb_ray (hw : m 0 ≤ 10) {a b : Nat → Nat} {A B : Nat} (ha : ray (Kc m t) a) (hb : ray (Kc m t) b) (sa : su m t a = (A : Int)) (sb : su m t b = -(B : Int)) (A0 : A ≠ 0) (B0 : B ≠ 0) (hadj : adj (Kc m t) a b) : ray (Kc m (t + 1)) (cmb A B a b) ∧ tgz (cmb A B a b) a b := by
  have hC := Kc_cone hw t
  have hs : lnr (Kc m t) (su m t) := su_lnr
  have hcut := comb_in hC hs ha.1 hb.1 sa sb
  have hnz : nz (fun p => B * a p + A * b p) := by
    obtain ⟨q, hq⟩ := ha.2.1
    exact ⟨q, fun c => hq ((comb_z A0 B0).mp c).1⟩
  obtain ⟨g0, g1, g2, g3⟩ := prim_div (cut_cone hC hs) hcut hnz
  refine ⟨?_, fun p => ?_⟩
  · rw [Kc_s]
    exact dd_pair hC hs ha hb sa sb A0 B0 hadj g0 (fun p => (g1 p).symm) g3
  · rw [← comb_z (u := a) (v := b) A0 B0]
    have := g1 p
    constructor
    · intro h
      rw [this, show (B * a p + A * b p) / gcn (fun p => B * a p + A * b p) 10 = 0 from h, Nat.mul_zero]
    · intro h
      show (B * a p + A * b p) / _ = 0
      rw [h, Nat.zero_div]
theorem tgz_eq (hw : m 0 ≤ 10) {x y a b : Nat → Nat} {T : Nat} (hx : ray (Kc m T) x) (hy : ray (Kc m T) y) (h1 : tgz x a b) (h2 : tgz y a b) : x = y := ray_eq (Kc_cone hw T) hx hy fun p hp => (h2 p).mpr ((h1 p).mp hp)
theorem bal_pair (hw : m 0 ≤ 10) (hr : rys m t n u) {k1 n' a b : Nat} {dn dn' : Nat → Nat → Prop} {u' : Nat → Nat → Nat} {x : Nat → Nat} (ha : a < n) (hb' : b < n) (hnd : ¬ dn a b) (hd' : ∀ c d, dn' c d ↔ dn c d ∨ (c = a ∧ d = b)) (sa : 0 < su m t (u a)) (sb : su m t (u b) < 0) (hadj : adj (Kc m t) (u a) (u b)) (hx : ray (Kc m (t + 1)) x) (hz : tgz x (u a) (u b)) (hb : bal m t n u k1 dn n' u') : bal m t n u k1 dn' (n' + 1) (upv u' n' x) := by
  have new : ∀ i, i < n' → u' i ≠ x := fun i hi e => by
    rcases (hb.1 i hi).2 with ⟨k, a1, a2, a3, a4⟩ | ⟨c, d, c1, c2, c3, c4, c5, c6, c7⟩
    · refine zero_pair (s := su m t) hadj (hr.1 k a2) sa sb a3 fun p p1 p2 => ?_
      rw [← a4, e]
      exact (hz p).mpr ⟨p1, p2⟩
    · rw [e] at c7
      have := pair_uniq (s := su m t) hadj (hr.1 c c1) (hr.1 d c2) sa sb c4 c5 (fun p p1 p2 => (c7 p).mp ((hz p).mpr ⟨p1, p2⟩))
      have e1 := hr.2.1 c a c1 ha this.1
      have e2 := hr.2.1 d b c2 hb' this.2
      rw [e1, e2] at c3
      exact hnd c3
  refine ⟨fun i hi => ?_, fun i j hi hj e => ?_, fun k h1 h2 h3 => ?_, fun c d c1 c2 c3 c4 c5 c6 => ?_⟩
  · by_cases e : i = n'
    · rw [e, upv_s]
      exact ⟨hx, Or.inr ⟨a, b, ha, hb', (hd' a b).mpr (Or.inr ⟨rfl, rfl⟩), sa, sb, hadj, hz⟩⟩
    · rw [upv_o e]
      refine ⟨(hb.1 i (by omega)).1, ?_⟩
      rcases (hb.1 i (by omega)).2 with g | ⟨c, d, c1, c2, c3, c4⟩
      · exact Or.inl g
      · exact Or.inr ⟨c, d, c1, c2, (hd' c d).mpr (Or.inl c3), c4⟩
  · by_cases ei : i = n'
    · by_cases ej : j = n'
      · omega
      · rw [ei, upv_s, upv_o ej] at e
        exact absurd e.symm (new j (by omega))
    · by_cases ej : j = n'
      · rw [ej, upv_s, upv_o ei] at e
        exact absurd e (new i (by omega))
      · rw [upv_o ei, upv_o ej] at e
        exact hb.2.1 i j (by omega) (by omega) e
  · obtain ⟨i, i1, i2⟩ := hb.2.2.1 k h1 h2 h3
    exact ⟨i, by omega, by rw [upv_o (by omega)]; exact i2⟩
  · rcases (hd' c d).mp c3 with g | ⟨g1, g2⟩
    · obtain ⟨i, i1, i2⟩ := hb.2.2.2 c d c1 c2 g c4 c5 c6
      exact ⟨i, by omega, by rw [upv_o (by omega)]; exact i2⟩
    · exact ⟨n', by omega, by rw [upv_s, g1, g2]; exact hz⟩
theorem bal_pass {k1 n' a b : Nat} {dn dn' : Nat → Nat → Prop} {u' : Nat → Nat → Nat} (hd' : ∀ c d, dn' c d ↔ dn c d ∨ (c = a ∧ d = b)) (hno : ¬ (0 < su m t (u a) ∧ su m t (u b) < 0 ∧ adj (Kc m t) (u a) (u b))) (hb : bal m t n u k1 dn n' u') : bal m t n u k1 dn' n' u' := by
  refine ⟨fun i hi => ⟨(hb.1 i hi).1, ?_⟩, hb.2.1, hb.2.2.1, fun c d c1 c2 c3 c4 c5 c6 => ?_⟩
  · rcases (hb.1 i hi).2 with g | ⟨c, d, c1, c2, c3, c4⟩
    · exact Or.inl g
    · exact Or.inr ⟨c, d, c1, c2, (hd' c d).mpr (Or.inl c3), c4⟩
  · rcases (hd' c d).mp c3 with g | ⟨g1, g2⟩
    · exact hb.2.2.2 c d c1 c2 g c4 c5 c6
    · rw [g1] at c4 c6
      rw [g2] at c5 c6
      exact absurd ⟨c4, c5, c6⟩ hno
/-- all looked at: all least vectors of one step more -/
theorem bal_end (hw : m 0 ≤ 10) (hr : rys m t n u) {n' : Nat} {dn : Nat → Nat → Prop} {u' : Nat → Nat → Nat} (hd : ∀ a b, a < n → b < n → dn a b) (hb : bal m t n u n dn n' u') : rys m (t + 1) n' u' := by
  refine ⟨fun i hi => (hb.1 i hi).1, hb.2.1, fun x hx => ?_⟩
  have hx' := hx
  rw [Kc_s] at hx'
  have hs : lnr (Kc m t) (su m t) := su_lnr
  rcases dd_from (Kc_cone hw t) hs hx' with g | ⟨a, b, A, B, d, a1, b1, sa, sb, A0, B0, hadj, d0, hxd⟩
  · obtain ⟨k, hk, e⟩ := hr.2.2 x g
    have z : su m t (u k) = 0 := by
      rw [← e]
      exact hx'.1.2
    obtain ⟨i, i1, i2⟩ := hb.2.2.1 k hk hk z
    exact ⟨i, i1, e.trans i2.symm⟩
  · obtain ⟨ka, hka, ea⟩ := hr.2.2 a a1
    obtain ⟨kb, hkb, eb⟩ := hr.2.2 b b1
    rw [ea] at sa hadj hxd
    rw [eb] at sb hadj hxd
    obtain ⟨i, i1, i2⟩ := hb.2.2.2 ka kb hka hkb (hd ka kb hka hkb) (by omega) (by omega) hadj
    refine ⟨i, i1, tgz_eq hw hx (hb.1 i i1).1 (fun p => ?_) i2⟩
    rw [← comb_z (u := u ka) (v := u kb) A0 B0, ← hxd p, Nat.mul_eq_zero]
    exact ⟨Or.inr, fun h => h.resolve_left (by omega)⟩
end BAL
