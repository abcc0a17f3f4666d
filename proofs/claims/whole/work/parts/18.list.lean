/-! THE LIST OF MARKINGS: codes in base 32, and the search as a function -/
def dg (c p : Nat) : Nat := c / 32 ^ p % 32
theorem dg_mp {m f : Nat → Nat} (hw : m 0 ≤ 10) (h : mk m f) : dg (mp 32 f 10) = f := funext fun p => by
  have hb : ∀ j, j < 10 → f j < 32 := fun j _ => by have := h.1 j; omega
  by_cases hp : p < 10
  · exact mp_at (by decide) hp hb
  · have h1 := mp_lt (b := 32) (by decide) 10 hb
    have h2 : (32 : Nat) ^ 10 ≤ 32 ^ p := Nat.pow_le_pow_right (by decide) (by omega)
    unfold dg
    rw [Nat.div_eq_of_lt (by omega), h.2 p (by omega)]
def vc (m : Nat → Nat) (c : Nat) : Prop := mk m (dg c) ∧ c = mp 32 (dg c) 10
theorem vc_mp {m f : Nat → Nat} (hw : m 0 ≤ 10) (h : mk m f) : vc m (mp 32 f 10) := by
  unfold vc
  rw [dg_mp hw h]
  exact ⟨h, rfl⟩
theorem vc_lt {m : Nat → Nat} {c : Nat} (h : vc m c) : c < 2 ^ 50 := by
  have h1 := mp_lt (b := 32) (f := dg c) (by decide) 10 (fun p _ => by have := h.1.1 p; omega)
  rw [← h.2] at h1
  exact Nat.lt_of_lt_of_le h1 (by decide)
def c16 (c : Nat) : Nat := mp 16 (dg c) 10
theorem c16_lt {m : Nat → Nat} {c : Nat} (h : vc m c) : c16 c < 2 ^ 40 := mp16_lt h.1.1 (Nat.le_refl _)
theorem c16_inj {m : Nat → Nat} {c d : Nat} (h : vc m c) (h2 : vc m d) : c16 c = c16 d ↔ c = d := by
  constructor
  · intro e
    have h3 := mp_inj (b := 16) (by decide) (fun j _ => by have := h.1.1 j; omega) (fun j _ => by have := h2.1.1 j; omega) e
    rw [h.2, h2.2]
    exact mp_congr 10 h3
  · intro e
    rw [e]
/-- number, codes, depths -/
abbrev sst : Type := Nat × (Nat → Nat) × (Nat → Nat)
def fx (xs : Nat → Nat) (c : Nat) : Nat → Nat → Nat
  | 0, i => i
  | k + 1, i => if xs i = c then i else fx xs c k (i + 1)
theorem fx_spec (xs : Nat → Nat) (c : Nat) : ∀ k i, i ≤ fx xs c k i ∧ fx xs c k i ≤ i + k ∧ (∀ j, i ≤ j → j < fx xs c k i → xs j ≠ c) ∧ (fx xs c k i < i + k → xs (fx xs c k i) = c)
  | 0, i => ⟨Nat.le_refl _, Nat.le_refl _, fun j h1 h2 => absurd h2 (by show ¬ j < i; omega), fun h => absurd h (by show ¬ i < i + 0; omega)⟩
  | k + 1, i => by
    have ih := fx_spec xs c k (i + 1)
    unfold fx
    by_cases e : xs i = c
    · rw [if_pos e]
      exact ⟨Nat.le_refl _, by omega, fun j h1 h2 => absurd h2 (by omega), fun _ => e⟩
    · rw [if_neg e]
      refine ⟨by omega, by omega, fun j h1 h2 => ?_, fun h => ih.2.2.2 (by omega)⟩
      by_cases g : j = i
      · rw [g]; exact e
      · exact ih.2.2.1 j (by omega) h2
/-- where it stands in the list; the list's length if nowhere -/
def pl (s : sst) (c : Nat) : Nat := fx s.2.1 c s.1 0
theorem pl_le (s : sst) (c : Nat) : pl s c ≤ s.1 := by
  have := (fx_spec s.2.1 c s.1 0).2.1
  unfold pl
  omega
theorem pl_at {s : sst} {c : Nat} (h : pl s c < s.1) : s.2.1 (pl s c) = c := (fx_spec s.2.1 c s.1 0).2.2.2 (by unfold pl at h; omega)
theorem pl_no {s : sst} {c j : Nat} (h : j < pl s c) : s.2.1 j ≠ c := (fx_spec s.2.1 c s.1 0).2.2.1 j (Nat.zero_le _) h
theorem pl_none {s : sst} {c : Nat} : pl s c = s.1 ↔ ∀ j, j < s.1 → s.2.1 j ≠ c := by
  constructor
  · intro h j hj
    exact pl_no (by omega)
  · intro h
    have h1 := pl_le s c
    rcases Nat.lt_or_ge (pl s c) s.1 with g | g
    · exact absurd (pl_at g) (h _ g)
    · omega
def ups (f : Nat → Nat) (n v j : Nat) : Nat := if j = n then v else f j
def put (s : sst) (c d : Nat) : sst := if pl s c = s.1 ∧ s.1 < 200 then (s.1 + 1, ups s.2.1 s.1 c, ups s.2.2 s.1 d) else s
def aftc (m : Nat → Nat) (c t : Nat) : Nat := mp 32 (aft m (dg c) t) 10
def stp (m : Nat → Nat) (b k t : Nat) (s : sst) : sst := if why m (dg (s.2.1 k)) t b = 0 then put s (aftc m (s.2.1 k) t) (s.2.2 k + 1) else s
def inn (m : Nat → Nat) (b k : Nat) (s : sst) : Nat → sst
  | 0 => s
  | t + 1 => stp m b k t (inn m b k s t)
def ou (m : Nat → Nat) (b c : Nat) : Nat → sst
  | 0 => (1, fun _ => c, fun _ => 0)
  | k + 1 => if k < (ou m b c k).1 then inn m b k (ou m b c k) (m 1) else ou m b c k
/-- a good list: 1 to 200 codes of markings, none twice, depths small -/
def gl (m : Nat → Nat) (s : sst) : Prop := 1 ≤ s.1 ∧ s.1 ≤ 200 ∧ (∀ j, j < s.1 → vc m (s.2.1 j) ∧ s.2.2 j ≤ j) ∧ ∀ i j, i < j → j < s.1 → s.2.1 i ≠ s.2.1 j
/-- one list goes on where the other ends -/
def ext (s s2 : sst) : Prop := s.1 ≤ s2.1 ∧ ∀ j, j < s.1 → s2.2.1 j = s.2.1 j ∧ s2.2.2 j = s.2.2 j
theorem ext_refl (s : sst) : ext s s := ⟨Nat.le_refl _, fun _ _ => ⟨rfl, rfl⟩⟩
theorem ext_trans {s s2 s3 : sst} (h : ext s s2) (h2 : ext s2 s3) : ext s s3 := ⟨Nat.le_trans h.1 h2.1, fun j hj => by
  have a := h.2 j hj
  have b := h2.2 j (Nat.lt_of_lt_of_le hj h.1)
  exact ⟨b.1.trans a.1, b.2.trans a.2⟩⟩
theorem put_gl {m : Nat → Nat} {s : sst} {c d : Nat} (h : gl m s) (hc : vc m c) (hd : d ≤ s.1) : gl m (put s c d) ∧ ext s (put s c d) := by
  unfold put
  split
  · rename_i g
    obtain ⟨h1, h2, h3, h4⟩ := h
    refine ⟨⟨Nat.le_succ_of_le h1, g.2, fun j hj => ?_, fun i j hij hj => ?_⟩, Nat.le_succ _, fun j hj => ?_⟩
    · show vc m (ups s.2.1 s.1 c j) ∧ ups s.2.2 s.1 d j ≤ j
      unfold ups
      by_cases e : j = s.1
      · rw [if_pos e, if_pos e, e]
        exact ⟨hc, hd⟩
      · rw [if_neg e, if_neg e]
        exact h3 j (by have : j < s.1 + 1 := hj; omega)
    · show ups s.2.1 s.1 c i ≠ ups s.2.1 s.1 c j
      have hj' : j < s.1 + 1 := hj
      unfold ups
      rw [if_neg (by omega)]
      by_cases e : j = s.1
      · rw [if_pos e]
        exact pl_none.mp g.1 i (by omega)
      · rw [if_neg e]
        exact h4 i j hij (by omega)
    · show ups s.2.1 s.1 c j = _ ∧ ups s.2.2 s.1 d j = _
      unfold ups
      rw [if_neg (by omega), if_neg (by omega)]
      exact ⟨rfl, rfl⟩
  · exact ⟨h, ext_refl s⟩
theorem why_room {m f : Nat → Nat} {t b : Nat} (h : why m f t b = 0) : room m f t = 0 := by
  by_cases e : room m f t = 0
  · exact e
  · have e1 : Nat.beq (room m f t) 0 = false := by
      cases g : Nat.beq (room m f t) 0 with
      | false => rfl
      | true => exact absurd (Nat.eq_of_beq_eq_true g) e
    unfold why at h
    rw [e1] at h
    exact absurd h e
theorem why_lt {m f : Nat → Nat} {t b : Nat} : why m f t b < 4 := by
  unfold why
  have := room_lt (m := m) (f := f) (t := t)
  cases Nat.beq (room m f t) 0 with
  | false => show room m f t < 4; omega
  | true => cases (al (m 200) fun g => decide (g = b) || ! bar m f t g) with
    | false => exact (show 3 < 4 by decide)
    | true => exact (show 0 < 4 by decide)
theorem vc_aft {m : Nat → Nat} {c t b : Nat} (hw : m 0 ≤ 10) (hc : vc m c) (h : why m (dg c) t b = 0) : vc m (aftc m c t) ∧ dg (aftc m c t) = aft m (dg c) t := by
  have h1 := mk_aft hc.1 (why_room h)
  exact ⟨vc_mp hw h1, dg_mp hw h1⟩
theorem stp_gl {m : Nat → Nat} {s : sst} {b k t : Nat} (hw : m 0 ≤ 10) (h : gl m s) (hk : k < s.1) : gl m (stp m b k t s) ∧ ext s (stp m b k t s) := by
  unfold stp
  split
  · rename_i g
    have h3 := h.2.2.1 k hk
    exact put_gl h (vc_aft hw h3.1 g).1 (by omega)
  · exact ⟨h, ext_refl s⟩
theorem inn_gl {m : Nat → Nat} {s : sst} {b k : Nat} (hw : m 0 ≤ 10) (h : gl m s) (hk : k < s.1) : ∀ t, gl m (inn m b k s t) ∧ ext s (inn m b k s t)
  | 0 => ⟨h, ext_refl s⟩
  | t + 1 => by
    have ih := inn_gl (b := b) hw h hk t
    have h2 := stp_gl (b := b) (t := t) hw ih.1 (Nat.lt_of_lt_of_le hk ih.2.1)
    exact ⟨h2.1, ext_trans ih.2 h2.2⟩
theorem ou_gl {m : Nat → Nat} {b c : Nat} (hw : m 0 ≤ 10) (hc : vc m c) : ∀ k, gl m (ou m b c k)
  | 0 => ⟨Nat.le_refl _, (show 1 ≤ 200 by decide), fun j hj => ⟨hc, Nat.zero_le _⟩, fun i j hij hj => absurd hj (by show ¬ j < 1; omega)⟩
  | k + 1 => by
    unfold ou
    split
    · rename_i g
      exact (inn_gl hw (ou_gl hw hc k) g _).1
    · exact ou_gl hw hc k
theorem ou_ext {m : Nat → Nat} {b c : Nat} (hw : m 0 ≤ 10) (hc : vc m c) (k : Nat) : ∀ j, ext (ou m b c k) (ou m b c (k + j))
  | 0 => ext_refl _
  | j + 1 => by
    refine ext_trans (ou_ext hw hc k j) ?_
    show ext _ (if k + j < (ou m b c (k + j)).1 then inn m b (k + j) (ou m b c (k + j)) (m 1) else ou m b c (k + j))
    split
    · rename_i g
      exact (inn_gl hw (ou_gl hw hc (k + j)) g _).2
    · exact ext_refl _
theorem ou_end {m : Nat → Nat} {b c k : Nat} (h : (ou m b c k).1 ≤ k) : ∀ j, ou m b c (k + j) = ou m b c k
  | 0 => rfl
  | j + 1 => by
    have ih := ou_end h j
    show ou m b c (k + j + 1) = _
    rw [ou, ih, if_neg (by omega)]
/-- the whole list -/
def sr (m : Nat → Nat) (b c : Nat) : sst := ou m b c 200
theorem sr_end {m : Nat → Nat} {b c k : Nat} (h : (ou m b c k).1 ≤ k) (hk : k ≤ 200) : sr m b c = ou m b c k := by
  have := ou_end h (200 - k)
  rw [show k + (200 - k) = 200 by omega] at this
  exact this
