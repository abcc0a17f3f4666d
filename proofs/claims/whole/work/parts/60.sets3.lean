/-! SETS OF PLACES: by size; the part that is held -/
def bc1 (x : Int32) : Int32 := x - (((x.toUInt32 >>> ((1 : Int32).toUInt32 &&& Int32.toUInt32 31)).toInt32) &&& 1431655765)
def bc2 (x : Int32) : Int32 := (x &&& 858993459) + (((x.toUInt32 >>> ((2 : Int32).toUInt32 &&& Int32.toUInt32 31)).toInt32) &&& 858993459)
def bc3 (x : Int32) : Int32 := (x + ((x.toUInt32 >>> ((4 : Int32).toUInt32 &&& Int32.toUInt32 31)).toInt32)) &&& 252645135
def bc4 (x : Int32) : Int32 := x + ((x.toUInt32 >>> ((8 : Int32).toUInt32 &&& Int32.toUInt32 31)).toInt32)
def bc5 (x : Int32) : Int32 := (x + ((x.toUInt32 >>> ((16 : Int32).toUInt32 &&& Int32.toUInt32 31)).toInt32)) &&& 63
theorem bc_ok : ∀ i, i < 1024 → bc5 (bc4 (bc3 (bc2 (bc1 (nI i))))) = nI (szS i) := by decide +kernel
theorem cn_trim {Q : Nat → Bool} {P : Nat} (h : ∀ p, P ≤ p → Q p = false) : ∀ k, cn Q (P + k) = cn Q P
  | 0 => rfl
  | k + 1 => by
    show cn Q (P + k) + cond (Q (P + k)) 1 0 = _
    rw [h (P + k) (by omega), cn_trim h k]
    rfl
theorem tb_lt {S P p : Nat} (h : S < 2 ^ P) (hp : P ≤ p) : S.testBit p = false := Nat.testBit_lt_two_pow (Nat.lt_of_lt_of_le h (Nat.pow_le_pow_right (by decide) hp))
theorem szS_le {S P : Nat} (h : S < 2 ^ P) (hP : P ≤ 10) : szS S ≤ P := by
  unfold szS
  have := cn_trim (Q := fun p => S.testBit p) (P := P) (fun p hp => tb_lt h hp) (10 - P)
  rw [show P + (10 - P) = 10 by omega] at this
  rw [this]
  exact cn_le P
theorem szS_0 {S : Nat} (h : S < 1024) (e : szS S = 0) : S = 0 := by
  refine Nat.eq_of_testBit_eq fun i => ?_
  rw [Nat.zero_testBit]
  by_cases hi : i < 10
  · exact cn_zero 10 e i hi
  · exact tb_lt (P := 10) h (by omega)
section SIL
variable {m : Nat → Nat}
def slw (m : Nat → Nat) (z n : Nat) : List Nat := (List.range n).filter (fun S => Nat.beq (szS S) z && mns m S)
def sl (m : Nat → Nat) (z : Nat) : List Nat := (List.range z).flatMap (fun z => slw m z (2 ^ m 0))
theorem sil_sl : sil m = sl m 11 := rfl
theorem slw_s {z n : Nat} : slw m z (n + 1) = slw m z n ++ (if (Nat.beq (szS n) z && mns m n) = true then [n] else []) := by
  unfold slw
  rw [List.range_succ, List.filter_append]
  congr 1
  cases e : (Nat.beq (szS n) z && mns m n) with
  | true => rw [if_pos rfl, List.filter_cons, e]; rfl
  | false => rw [if_neg (by decide), List.filter_cons, e]; rfl
theorem slw_f {z : Nat} : (mnl m (2 ^ m 0)).filter (fun S => Nat.beq (szS S) z) = slw m z (2 ^ m 0) := by
  unfold mnl slw
  rw [List.filter_filter]
theorem slw_mem {z n S : Nat} : S ∈ slw m z n ↔ S < n ∧ szS S = z ∧ mns m S = true := by
  unfold slw
  rw [List.mem_filter, List.mem_range, Bool.and_eq_true, beq_iff]
theorem slw_0 {n : Nat} (h : n ≤ 1024) : slw m 0 n = [] := List.eq_nil_iff_forall_not_mem.mpr fun S hS => by
  have := slw_mem.mp hS
  have e := szS_0 (by omega) this.2.1
  have := (mns_iff.mp this.2.2).1
  exact this e
theorem sl_s {z : Nat} : sl m (z + 1) = sl m z ++ slw m z (2 ^ m 0) := by
  unfold sl
  rw [List.range_succ, List.flatMap_append]
  simp
theorem sl_1 (h : m 0 ≤ 10) : sl m 1 = [] := by
  have := slw_0 (m := m) (n := 2 ^ m 0) (p2_le h).2
  rw [sl_s, this]
  rfl
theorem sl_P (h : m 0 ≤ 10) : ∀ k, m 0 + 1 + k ≤ 11 → sl m (m 0 + 1 + k) = sl m (m 0 + 1)
  | 0, _ => rfl
  | k + 1, hk => by
    rw [show m 0 + 1 + (k + 1) = (m 0 + 1 + k) + 1 by omega, sl_s, sl_P h k (by omega)]
    have : slw m (m 0 + 1 + k) (2 ^ m 0) = [] := List.eq_nil_iff_forall_not_mem.mpr fun S hS => by
      have := slw_mem.mp hS
      have := szS_le this.1 h
      omega
    rw [this, List.append_nil]
theorem sl_sil (h : m 0 ≤ 10) : sl m (m 0 + 1) = sil m := by
  rw [sil_sl]
  have := sl_P (m := m) h (10 - m 0) (by omega)
  rw [show m 0 + 1 + (10 - m 0) = 11 by omega] at this
  exact this.symm
theorem sil_mem {S : Nat} : S ∈ sil m ↔ szS S < 11 ∧ S < 2 ^ m 0 ∧ mns m S = true := by
  rw [sil_sl]
  unfold sl
  rw [List.mem_flatMap]
  constructor
  · intro ⟨z, h1, h2⟩
    have h3 := slw_mem.mp h2
    have h4 := List.mem_range.mp h1
    exact ⟨by omega, h3.1, h3.2.2⟩
  · intro ⟨h1, h2, h3⟩
    exact ⟨szS S, List.mem_range.mpr h1, slw_mem.mpr ⟨h2, rfl, h3⟩⟩
theorem sl_nodup : ∀ z, (sl m z).Nodup
  | 0 => List.nodup_nil
  | z + 1 => by
    rw [sl_s]
    refine List.nodup_append.mpr ⟨sl_nodup z, List.nodup_range.filter _, fun a ha b hb e => ?_⟩
    unfold sl at ha
    rw [List.mem_flatMap] at ha
    obtain ⟨y, h1, h2⟩ := ha
    have h3 := slw_mem.mp h2
    have h4 := slw_mem.mp hb
    have h5 := List.mem_range.mp h1
    rw [e] at h3
    omega
theorem sl_mem {z S : Nat} (h : S ∈ sl m z) : S < 2 ^ m 0 ∧ mns m S = true := by
  unfold sl at h
  rw [List.mem_flatMap] at h
  obtain ⟨y, h1, h2⟩ := h
  have h3 := slw_mem.mp h2
  exact ⟨h3.1, h3.2.2⟩
theorem sl_len (h : m 0 ≤ 10) (z : Nat) : (sl m z).length ≤ 252 := by
  have p := p2_le h
  refine sperner (sl_nodup z) (fun x hx => ?_) (fun x y hx hy h => mns_anti (sl_mem hx).2 (sl_mem hy).2 h)
  have := (sl_mem hx).1
  omega
theorem slw_mono {z a : Nat} : ∀ k, (slw m z a).length ≤ (slw m z (a + k)).length
  | 0 => Nat.le_refl _
  | k + 1 => by
    have := slw_mono (z := z) (a := a) k
    rw [show a + (k + 1) = (a + k) + 1 by omega, slw_s, List.length_append]
    omega
/-- room for what is found by size -/
theorem slw_room {z n : Nat} (h : m 0 ≤ 10) (hn : n ≤ 2 ^ m 0) : (sl m z ++ slw m z n).length ≤ 252 := by
  have h1 := sl_len h (z + 1)
  have h2 := slw_mono (m := m) (z := z) (a := n) (2 ^ m 0 - n)
  rw [show n + (2 ^ m 0 - n) = 2 ^ m 0 by omega] at h2
  rw [sl_s, List.length_append] at h1
  rw [List.length_append]
  omega
end SIL
/-- a list in a row of cells -/
def lsI (I : Nat → Nat → Int32) (c : Nat) (l : List Nat) : Prop := ∀ k, k < l.length → I c k = nI (l.getD k 0)
theorem lsI_snoc {I : Nat → Nat → Int32} {c v : Nat} {l : List Nat} (h : lsI I c l) : lsI (km_up I c l.length (nI v)) c (l ++ [v]) := fun k hk => by
  rw [List.length_append] at hk
  have hk : k < l.length + 1 := hk
  by_cases e : k = l.length
  · rw [e, up_s]
    congr 1
    rw [List.getD_eq_getElem?_getD, List.getElem?_append_right (Nat.le_refl _), Nat.sub_self]
    rfl
  · rw [up_k e, h k (by omega), List.getD_eq_getElem?_getD, List.getD_eq_getElem?_getD, List.getElem?_append_left (by omega)]
theorem lsI_fr {I I' : Nat → Nat → Int32} {c : Nat} {l : List Nat} (h : lsI I c l) (f : ∀ k, I' c k = I c k) : lsI I' c l := fun k hk => (f k).trans (h k hk)
/-- the places that are held: all kept parts together -/
def hld (m : Nat → Nat) (S : Nat) : Nat := orr (fun T => cond (Nat.beq (T &&& S) T && sip (gS m) (tS m) (m 1) T) T 0) (S + 1)
theorem orr_tb {g : Nat → Nat} {i : Nat} : ∀ n, (orr g n).testBit i = true ↔ ∃ k, k < n ∧ (g k).testBit i = true
  | 0 => ⟨fun h => absurd h (by rw [show orr g 0 = 0 from rfl, Nat.zero_testBit]; decide), fun ⟨k, h, _⟩ => absurd h (by omega)⟩
  | n + 1 => by
    show (orr g n ||| g n).testBit i = true ↔ _
    rw [Nat.testBit_or, Bool.or_eq_true, orr_tb n]
    constructor
    · intro h
      rcases h with ⟨k, h1, h2⟩ | h
      · exact ⟨k, by omega, h2⟩
      · exact ⟨n, by omega, h⟩
    · intro ⟨k, h1, h2⟩
      by_cases e : k = n
      · exact Or.inr (e ▸ h2)
      · exact Or.inl ⟨k, by omega, h2⟩
/-- the largest kept part is what is held -/
theorem hld_eq {m : Nat → Nat} {S R : Nat} (h1 : R &&& S = R) (h2 : sip (gS m) (tS m) (m 1) R = true) (h3 : ∀ T, T &&& S = T → sip (gS m) (tS m) (m 1) T = true → T &&& R = T) : hld m S = R := by
  refine Nat.eq_of_testBit_eq fun i => ?_
  have key : (hld m S).testBit i = true ↔ R.testBit i = true := by
    unfold hld
    rw [orr_tb]
    constructor
    · intro ⟨k, k1, k2⟩
      cases e : (Nat.beq (k &&& S) k && sip (gS m) (tS m) (m 1) k) with
      | false =>
        rw [e, cond_false, Nat.zero_testBit] at k2
        exact absurd k2 (by decide)
      | true =>
        rw [e, cond_true] at k2
        rw [Bool.and_eq_true, beq_iff] at e
        exact sub_iff.mp (h3 k e.1 e.2) i k2
    · intro h
      refine ⟨R, by have := sub_le h1; omega, ?_⟩
      rw [h1, Nat.beq_refl, h2]
      exact h
  cases e : R.testBit i with
  | true => exact key.mpr e
  | false =>
    cases e2 : (hld m S).testBit i with
    | false => rfl
    | true => rw [key.mp e2] at e; exact absurd e (by decide)
