/-! COPIES OF THE STATE -/
def isSt (x : Nat) : Prop := x = 1 ∨ x = 7 ∨ x = 14 ∨ x = 20 ∨ x = 26 ∨ x = 32 ∨ x = 38
theorem st_dis {x y : Nat} (hx : isSt x) (hy : isSt y) (h : x ≠ y) : x + 6 ≤ y ∨ y + 6 ≤ x := by
  unfold isSt at hx hy
  omega
theorem st_kr {q r1 r2 : Nat → Nat} {w : Bool} {x : Nat} (hx : isSt x) : kr q w r1 r2 x 7 = x + 1 ∧ kr q w r1 r2 x 8 = x + 2 ∧ kr q w r1 r2 x 9 = x + 3 ∧ kr q w r1 r2 x 10 = x + 4 ∧ kr q w r1 r2 x 11 = x + 5 := by
  rcases hx with h | h | h | h | h | h | h <;> (subst h; exact ⟨rfl, rfl, rfl, rfl, rfl⟩)
theorem st_sh {x : Nat} (hx : isSt x) : (sh x).1 = 4 ∧ (sh (x + 1)).1 = 11 ∧ (sh (x + 2)).1 = 11 ∧ (sh (x + 3)).1 = 10 ∧ (sh (x + 4)).1 = 10 ∧ (sh (x + 5)).1 = 10 ∧ (sh (x + 1)).2 = 8 ∧ (sh (x + 2)).2 = 8 ∧ (sh (x + 3)).2 = 8 ∧ (sh (x + 4)).2 = 5 ∧ (sh (x + 5)).2 = 5 := by
  rcases hx with h | h | h | h | h | h | h <;> (subst h; exact ⟨rfl, rfl, rfl, rfl, rfl, rfl, rfl, rfl, rfl, rfl, rfl⟩)
theorem cp_a {α : Type} {f : Nat → Nat → α} {a b sp dp n c j : Nat} (h : c ≠ b) : km_cp f a b sp dp n c j = f c j := if_neg h
theorem cp_in {α : Type} {f : Nat → Nat → α} {a b n j : Nat} (h : j < n) : km_cp f a b 0 0 n b j = f a j := by
  unfold km_cp
  rw [if_pos rfl, pk_cpy_in (Nat.zero_le _) (by omega)]
  congr 1
  omega
theorem cl8 : (8 : Int32).toNatClampNeg = 8 := by decide +kernel
theorem cl5 : (5 : Int32).toNatClampNeg = 5 := by decide +kernel
section COPY
variable {I : Nat → Nat → Int32} {L : Nat → Nat → Int64} {q r1 r2 : Nat → Nat} {w : Bool} {K : km_K} {m : Nat → Nat}
theorem c_copy {x0 x1 : Nat} (hx0 : isSt x0) (hx1 : isSt x1) (hne : x1 ≠ x0) (h1 : m 1 ≤ 8) (h2 : m 200 ≤ 5) (h3 : m 211 ≤ 1) (hR : cR I L x1 m) (h : ∀ I' L', (∀ a k, a < x0 ∨ x0 + 5 < a → I' a k = I a k) → (∀ a k, a < x0 ∨ x0 + 5 < a → L' a k = L a k) → cR I' L' x0 m → K none (I', L', kr q w r1 r2)) : kC sh kp 211 [.ref x0, .ref x1] (I, L, kr q w r1 r2) K := by
  obtain ⟨k7, k8, k9, k10, k11⟩ := st_kr (q := q) (r1 := r1) (r2 := r2) (w := w) hx0
  obtain ⟨j7, j8, j9, j10, j11⟩ := st_kr (q := q) (r1 := r1) (r2 := r2) (w := w) hx1
  obtain ⟨s0, s1, s2, s3, s4, s5, l1, l2, l3, l4, l5⟩ := st_sh hx0
  obtain ⟨t0, t1, t2, t3, t4, t5, n1, n2, n3, n4, n5⟩ := st_sh hx1
  have hd := st_dis hx1 hx0 hne
  obtain ⟨a1, a2, a3, a4, a5, a6, a7, a8, a9⟩ := hR
  refine ⟨rfl, bS_copyFrom_0 ?_⟩
  simp only [k7, k8, k9, k10, k11, j7, j8, j9, j10, j11, s0, s1, s2, s3, s4, s5, l1, l2, l3, l4, l5, t0, t1, t2, t3, t4, t5, n1, n2, n3, n4, n5, cl0, cl8, cl5, up_a hne, true_and, Nat.zero_add, Nat.le_refl]
  refine ⟨?_, h _ _ (fun a k ha => ?_) (fun a k ha => ?_) ?_⟩
  · rw [a4]
    rcases Nat.lt_or_ge (m 211) 1 with z | z
    · rw [show m 211 = 0 by omega]
      exact Or.inl rfl
    · rw [show m 211 = 1 by omega]
      exact Or.inr rfl
  · rw [cp_a (by omega), cp_a (by omega), cp_a (by omega), up_a (by omega), up_a (by omega), up_a (by omega), up_a (by omega)]
  · rw [cp_a (by omega), cp_a (by omega), up_a (by omega), up_a (by omega), up_a (by omega)]
  · refine ⟨?_, ?_, ?_, ?_, ?_, ?_, ?_, fun t ht => ⟨?_, ?_, ?_⟩, fun g hg => ⟨?_, ?_⟩⟩
    · rw [cp_a (by omega), cp_a (by omega), cp_a (by omega), up_k (by decide), up_k (by decide), up_k (by decide), up_s]
      exact a1
    · rw [cp_a (by omega), cp_a (by omega), cp_a (by omega), up_k (by decide), up_k (by decide), up_s]
      exact a2
    · rw [cp_a (by omega), cp_a (by omega), cp_a (by omega), up_k (by decide), up_s]
      exact a3
    · rw [cp_a (by omega), cp_a (by omega), cp_a (by omega), up_s]
      exact a4
    · rw [cp_a (by omega), cp_a (by omega), up_k (by decide), up_k (by decide), up_s]
      exact a5
    · rw [cp_a (by omega), cp_a (by omega), up_k (by decide), up_s]
      exact a6
    · rw [cp_a (by omega), cp_a (by omega), up_s]
      exact a7
    · rw [cp_a (by omega), cp_in (by omega), up_a (by omega), up_a (by omega), up_a (by omega)]
      exact (a8 t ht).1
    · rw [cp_in (by omega), cp_a (by omega), up_a (by omega), up_a (by omega), up_a (by omega)]
      exact (a8 t ht).2.1
    · rw [cp_a (by omega), cp_a (by omega), cp_in (by omega), up_a (by omega), up_a (by omega), up_a (by omega), up_a (by omega)]
      exact (a8 t ht).2.2
    · rw [cp_a (by omega), cp_in (by omega), cp_a (by omega), up_a (by omega), up_a (by omega), up_a (by omega), up_a (by omega)]
      exact (a9 g hg).1
    · rw [cp_in (by omega), cp_a (by omega), cp_a (by omega), up_a (by omega), up_a (by omega), up_a (by omega), up_a (by omega)]
      exact (a9 g hg).2
end COPY
