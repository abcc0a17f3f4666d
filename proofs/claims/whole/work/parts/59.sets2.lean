/-! SETS OF PLACES: chains, antichains, the least stuck sets -/
theorem sub_iff {T S : Nat} : T &&& S = T ↔ ∀ i, T.testBit i = true → S.testBit i = true := by
  constructor
  · intro h i hi
    have := congrArg (fun x => x.testBit i) h
    simp only [Nat.testBit_and, hi, Bool.true_and] at this
    exact this
  · intro h
    refine Nat.eq_of_testBit_eq fun i => ?_
    rw [Nat.testBit_and]
    cases e : T.testBit i with
    | false => rfl
    | true => rw [h i e]; rfl
theorem sub_le {T S : Nat} (h : T &&& S = T) : T ≤ S := h ▸ Nat.and_le_right
theorem sub_trans {A B C : Nat} (h : A &&& B = A) (h2 : B &&& C = B) : A &&& C = A := sub_iff.mpr fun i hi => sub_iff.mp h2 i (sub_iff.mp h i hi)
theorem sub_refl {A : Nat} : A &&& A = A := Nat.and_self A
/-- chains of sets that hold every set below 2^n -/
def chs : Nat → List (List Nat)
  | 0 => [[0]]
  | n + 1 => (chs n).flatMap fun c => (c ++ [c.getLastD 0 + 2 ^ n]) :: (if c.dropLast.isEmpty = true then [] else [c.dropLast.map (· + 2 ^ n)])
theorem mem_last {x d : Nat} : ∀ c : List Nat, x ∈ c → x ∈ c.dropLast ∨ x = c.getLastD d
  | [], h => absurd h (List.not_mem_nil)
  | [a], h => Or.inr (by
    have : x = a := by simpa using h
    rw [this]; rfl)
  | a :: b :: l, h => by
    rcases List.mem_cons.mp h with e | e
    · exact Or.inl (by rw [e]; exact List.mem_cons_self)
    · rcases mem_last (d := d) (b :: l) e with g | g
      · exact Or.inl (List.mem_cons_of_mem _ g)
      · exact Or.inr (by rw [g]; rfl)
theorem chs_cover : ∀ n S, S < 2 ^ n → ∃ c, c ∈ chs n ∧ S ∈ c
  | 0, S, h => ⟨[0], List.mem_cons_self, by
    have : S = 0 := by rw [Nat.pow_zero] at h; omega
    rw [this]; exact List.mem_cons_self⟩
  | n + 1, S, h => by
    rw [Nat.pow_succ] at h
    unfold chs
    by_cases e : S < 2 ^ n
    · obtain ⟨c, h1, h2⟩ := chs_cover n S e
      exact ⟨_, List.mem_flatMap.mpr ⟨c, h1, List.mem_cons_self⟩, List.mem_append_left _ h2⟩
    · obtain ⟨c, h1, h2⟩ := chs_cover n (S - 2 ^ n) (by omega)
      rcases mem_last (d := 0) c h2 with g | g
      · refine ⟨c.dropLast.map (· + 2 ^ n), List.mem_flatMap.mpr ⟨c, h1, List.mem_cons_of_mem _ ?_⟩, List.mem_map.mpr ⟨S - 2 ^ n, g, by omega⟩⟩
        have : ¬ c.dropLast.isEmpty = true := fun z => by
          rw [List.isEmpty_iff] at z
          rw [z] at g
          exact absurd g List.not_mem_nil
        rw [if_neg this]
        exact List.mem_cons_self
      · exact ⟨_, List.mem_flatMap.mpr ⟨c, h1, List.mem_cons_self⟩, List.mem_append_right _ (by rw [← g]; exact List.mem_cons.mpr (Or.inl (by omega)))⟩
def okc : List Nat → Bool
  | [] => true
  | a :: l => l.all (fun b => Nat.beq (a &&& b) a) && okc l
theorem okc_p : ∀ (c : List Nat) (x y : Nat), okc c = true → x ∈ c → y ∈ c → x &&& y = x ∨ y &&& x = y
  | [], x, y, _, h, _ => absurd h List.not_mem_nil
  | a :: l, x, y, h, hx, hy => by
    unfold okc at h
    rw [Bool.and_eq_true, List.all_eq_true] at h
    rcases List.mem_cons.mp hx with e1 | e1
    · rcases List.mem_cons.mp hy with e2 | e2
      · rw [e1, e2]
        exact Or.inl sub_refl
      · rw [e1]
        exact Or.inl (Nat.eq_of_beq_eq_true (h.1 y e2))
    · rcases List.mem_cons.mp hy with e2 | e2
      · rw [e2]
        exact Or.inr (Nat.eq_of_beq_eq_true (h.1 x e1))
      · exact okc_p l x y h.2 e1 e2
theorem chs_ok : ((chs 10).all okc && Nat.beq (chs 10).length 252) = true := by decide +kernel
theorem pigc : ∀ (C : List (List Nat)) (l : List Nat), l.Nodup → (∀ x, x ∈ l → ∃ c, c ∈ C ∧ x ∈ c) → (∀ c, c ∈ C → ∀ x y, x ∈ l → y ∈ l → x ∈ c → y ∈ c → x = y) → l.length ≤ C.length
  | [], l, _, h, _ => by
    cases l with
    | nil => exact Nat.le_refl _
    | cons a l =>
      obtain ⟨c, h1, _⟩ := h a List.mem_cons_self
      exact absurd h1 List.not_mem_nil
  | c :: C, l, hn, h, hu => by
    by_cases e : ∃ x, x ∈ l ∧ x ∈ c
    · obtain ⟨x, h1, h2⟩ := e
      have ih := pigc C (l.erase x) (hn.erase x) (fun y hy => by
        have hy2 := (List.Nodup.mem_erase_iff hn).mp hy
        obtain ⟨d, d1, d2⟩ := h y hy2.2
        rcases List.mem_cons.mp d1 with g | g
        · rw [g] at d2
          exact absurd (hu c List.mem_cons_self y x hy2.2 h1 d2 h2) hy2.1
        · exact ⟨d, g, d2⟩) (fun d hd y z hy hz => hu d (List.mem_cons_of_mem _ hd) y z (List.mem_of_mem_erase hy) (List.mem_of_mem_erase hz))
      have e1 := List.length_erase_of_mem h1
      have e2 := List.length_pos_of_mem h1
      show l.length ≤ C.length + 1
      omega
    · have ih := pigc C l hn (fun y hy => by
        obtain ⟨d, d1, d2⟩ := h y hy
        rcases List.mem_cons.mp d1 with g | g
        · rw [g] at d2
          exact absurd ⟨y, hy, d2⟩ e
        · exact ⟨d, g, d2⟩) (fun d hd => hu d (List.mem_cons_of_mem _ hd))
      exact Nat.le_succ_of_le ih
/-- sets none of which is part of another -/
theorem sperner {l : List Nat} (hn : l.Nodup) (hb : ∀ x, x ∈ l → x < 1024) (ha : ∀ x y, x ∈ l → y ∈ l → x &&& y = x → x = y) : l.length ≤ 252 := by
  have ok := chs_ok
  rw [Bool.and_eq_true, List.all_eq_true] at ok
  have e := Nat.eq_of_beq_eq_true ok.2
  have := pigc (chs 10) l hn (fun x hx => chs_cover 10 x (hb x hx)) (fun c hc x y hx hy h1 h2 => by
    rcases okc_p c x y (ok.1 c hc) h1 h2 with g | g
    · exact ha x y hx hy g
    · exact (ha y x hy hx g).symm)
  omega
section MINS
variable {m : Nat → Nat}
def sp (m : Nat → Nat) (S : Nat) : Bool := sip (tS m) (gS m) (m 1) S
theorem mns_iff {S : Nat} : mns m S = true ↔ S ≠ 0 ∧ sp m S = true ∧ ∀ T, T < S → T ≠ 0 → T &&& S = T → sp m T = false := by
  unfold mns sp
  rw [Bool.and_eq_true, Bool.and_eq_true, al_iff, Bool.not_eq_true']
  constructor
  · intro ⟨h1, h2, h3⟩
    refine ⟨fun e => ?_, h2, fun T hT h0 hs => ?_⟩
    · rw [e] at h1
      exact absurd h1 (by decide)
    · have := h3 T hT
      cases e : sip (tS m) (gS m) (m 1) T with
      | false => rfl
      | true =>
        rw [e, Bool.or_eq_true, Bool.or_eq_true] at this
        rcases this with g | g | g
        · exact absurd (Nat.eq_of_beq_eq_true g) h0
        · rw [beq_iff.mpr hs] at g
          exact absurd g (by decide)
        · exact absurd g (by decide)
  · intro ⟨h1, h2, h3⟩
    refine ⟨?_, h2, fun T hT => ?_⟩
    · cases e : Nat.beq S 0 with
      | false => rfl
      | true => exact absurd (Nat.eq_of_beq_eq_true e) h1
    · rw [Bool.or_eq_true, Bool.or_eq_true]
      by_cases e0 : T = 0
      · exact Or.inl (beq_iff.mpr e0)
      · by_cases e1 : T &&& S = T
        · refine Or.inr (Or.inr ?_)
          rw [h3 T hT e0 e1]
          rfl
        · refine Or.inr (Or.inl ?_)
          cases e : Nat.beq (T &&& S) T with
          | false => rfl
          | true => exact absurd (Nat.eq_of_beq_eq_true e) e1
theorem mns_below : ∀ n T, T ≤ n → T ≠ 0 → sp m T = true → ∃ c, c ≤ T ∧ mns m c = true ∧ c &&& T = c
  | 0, T, h, h0, _ => absurd (by omega) h0
  | n + 1, T, h, h0, hs => by
    by_cases e : mns m T = true
    · exact ⟨T, Nat.le_refl _, e, sub_refl⟩
    · have : ∃ U, U < T ∧ U ≠ 0 ∧ U &&& T = U ∧ sp m U = true := Classical.byContradiction fun c => e (mns_iff.mpr ⟨h0, hs, fun U hU hU0 hUs => by
        cases g : sp m U with
        | false => rfl
        | true => exact absurd ⟨U, hU, hU0, hUs, g⟩ c⟩)
      obtain ⟨U, u1, u2, u3, u4⟩ := this
      obtain ⟨c, c1, c2, c3⟩ := mns_below n U (by omega) u2 u4
      exact ⟨c, by omega, c2, sub_trans c3 u3⟩
theorem mns_anti {a b : Nat} (ha : mns m a = true) (hb : mns m b = true) (h : a &&& b = a) : a = b := by
  have a1 := mns_iff.mp ha
  have b1 := mns_iff.mp hb
  have l := sub_le h
  rcases Nat.lt_or_ge a b with g | g
  · have := b1.2.2 a g a1.1 h
    rw [a1.2.1] at this
    exact absurd this (by decide)
  · omega
/-- the least stuck sets below n, in their order -/
def mnl (m : Nat → Nat) (n : Nat) : List Nat := (List.range n).filter (mns m)
theorem mnl_s {n : Nat} : mnl m (n + 1) = mnl m n ++ (if mns m n = true then [n] else []) := by
  unfold mnl
  rw [List.range_succ, List.filter_append]
  congr 1
  cases e : mns m n with
  | true => rw [if_pos rfl]; simp [e]
  | false => rw [if_neg (by decide)]; simp [e]
theorem mnl_mem {n S : Nat} : S ∈ mnl m n ↔ S < n ∧ mns m S = true := by
  unfold mnl
  rw [List.mem_filter, List.mem_range]
theorem mnl_len {n : Nat} (h : n ≤ 1024) : (mnl m n).length ≤ 252 := sperner (List.nodup_range.filter _) (fun x hx => by have := (mnl_mem.mp hx).1; omega) (fun x y hx hy h => mns_anti (mnl_mem.mp hx).2 (mnl_mem.mp hy).2 h)
/-- a stuck set is a least one if none found before is part of it -/
theorem mns_former {S : Nat} (h0 : S ≠ 0) (hs : sp m S = true) : mns m S = true ↔ ∀ c, c ∈ mnl m S → ¬ c &&& S = c := by
  constructor
  · intro h c hc e
    have c1 := mnl_mem.mp hc
    have := mns_anti c1.2 h e
    omega
  · intro h
    refine mns_iff.mpr ⟨h0, hs, fun T hT hT0 hTs => ?_⟩
    cases g : sp m T with
    | false => rfl
    | true =>
      obtain ⟨c, c1, c2, c3⟩ := mns_below (m := m) T T (Nat.le_refl _) hT0 g
      exact absurd (sub_trans c3 hTs) (h c (mnl_mem.mpr ⟨by omega, c2⟩))
end MINS
