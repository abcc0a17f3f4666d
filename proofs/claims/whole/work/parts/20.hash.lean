/-! THE CLASS'S TABLE OF SLOTS: u k = 0 a free slot, i + 1 the slot of the list's number i -/
def sI (n : Nat) : Int32 := if n = 0 then -1 else nI (n - 1)
def hx (x : Int64) : Nat := x.toBitVec.toNat / 2 ^ 55
theorem hx_of (x : Int64) : x = lN x.toBitVec.toNat := wb_inj (by rw [wb_tb]; simp)
theorem hx_lN {n : Nat} (h : n < 2 ^ 64) : hx (lN n) = n / 2 ^ 55 := by
  unfold hx
  rw [wb_tn h]
theorem hx_eq (x : Int64) : ((x.toUInt64 >>> ((55 : Int32).toInt64.toUInt64 &&& Int64.toUInt64 63)).toInt64).toInt32 = nI (hx x) := by
  obtain ⟨n, h1, h2⟩ := wb_of x
  rw [h2, hx_lN h1, fa_lit 55, wb_shr h1 (by decide), lN_i]
theorem hx_lt (x : Int64) : hx x < 512 := by
  obtain ⟨n, h1, h2⟩ := wb_of x
  rw [h2, hx_lN h1]
  exact Nat.div_lt_of_lt_mul (Nat.lt_of_lt_of_le h1 (by decide))
def hs (c : Nat) : Nat := hx (lN c * (-7046029254386353131))
theorem hs_eq (c : Nat) : (((lN c * (-7046029254386353131)).toUInt64 >>> ((55 : Int32).toInt64.toUInt64 &&& Int64.toUInt64 63)).toInt64).toInt32 = nI (hs c) := hx_eq _
theorem hs_lt (c : Nat) : hs c < 512 := hx_lt _
/-- a list of numbers that holds all below n is as long -/
theorem pig : ∀ (n : Nat) (us : List Nat), (∀ k, k < n → k ∈ us) → n ≤ us.length
  | 0, _, _ => Nat.zero_le _
  | n + 1, us, h => by
    have h1 := h n (by omega)
    have h2 := pig n (us.erase n) (fun k hk => (List.mem_erase_of_ne (by omega)).mpr (h k (by omega)))
    have h3 := List.length_erase_of_mem h1
    have h4 := List.length_pos_of_mem h1
    omega
/-- the slots a marking is looked for in, before the n-th, are all taken -/
def tkn (u : Nat → Nat) (c n : Nat) : Prop := ∀ j, j < n → u ((hs c + j) % 512) ≠ 0
def tv (s : sst) (u : Nat → Nat) : Prop := (∀ k, k < 512 → u k ≤ s.1) ∧ (∀ i, i < s.1 → ∃ n, n < 512 ∧ u ((hs (s.2.1 i) + n) % 512) = i + 1 ∧ tkn u (s.2.1 i) n) ∧ ∃ us : List Nat, us.length = s.1 ∧ ∀ k, k < 512 → u k ≠ 0 → k ∈ us
def gk (m : Nat → Nat) (s : sst) : Prop := s.1 ≤ 200 ∧ (∀ j, j < s.1 → vc m (s.2.1 j) ∧ s.2.2 j ≤ j) ∧ ∀ i j, i < j → j < s.1 → s.2.1 i ≠ s.2.1 j
theorem gl_gk {m : Nat → Nat} {s : sst} (h : gl m s) : gk m s := h.2
theorem pl_uniq {m : Nat → Nat} {s : sst} {c i : Nat} (hg : gk m s) (hi : i < s.1) (e : s.2.1 i = c) : pl s c = i := pl_first (fun j hj => by
  rw [← e]
  exact hg.2.2 j i hj hi) hi e
/-- what a slot found for a marking is -/
def sf (s : sst) (u : Nat → Nat) (c k : Nat) : Prop := (u k = 0 ∧ pl s c = s.1 ∧ ∃ n, n < 512 ∧ k = (hs c + n) % 512 ∧ tkn u c n) ∨ (u k = pl s c + 1 ∧ pl s c < s.1)
theorem sf_free {s : sst} {u : Nat → Nat} {c i : Nat} (ht : tv s u) (hi : i < 512) (ha : ∀ j, j < i → u ((hs c + j) % 512) ≠ 0 ∧ s.2.1 (u ((hs c + j) % 512) - 1) ≠ c) (h0 : u ((hs c + i) % 512) = 0) : sf s u c ((hs c + i) % 512) := by
  refine Or.inl ⟨h0, ?_, i, hi, rfl, fun j hj => (ha j hj).1⟩
  have hle := pl_le s c
  rcases Nat.lt_or_ge (pl s c) s.1 with g | g
  · obtain ⟨n, hn, h1, h2⟩ := ht.2.1 (pl s c) g
    rw [pl_at g] at h1 h2
    rcases Nat.lt_trichotomy n i with z | z | z
    · have := (ha n z).2
      rw [h1, Nat.add_sub_cancel] at this
      exact absurd (pl_at g) this
    · rw [z, h0] at h1
      exact absurd h1 (by omega)
    · exact absurd h0 (h2 i z)
  · omega
theorem sf_hit {m : Nat → Nat} {s : sst} {u : Nat → Nat} {c k : Nat} (hg : gk m s) (ht : tv s u) (hk : k < 512) (h0 : u k ≠ 0) (e : s.2.1 (u k - 1) = c) : sf s u c k := by
  have h1 := ht.1 k hk
  have h2 := pl_uniq hg (i := u k - 1) (by omega) e
  refine Or.inr ⟨by omega, by omega⟩
theorem not_full {s : sst} {u : Nat → Nat} {c : Nat} (h200 : s.1 ≤ 200) (ht : tv s u) (ha : tkn u c 512) : False := by
  obtain ⟨us, h1, h2⟩ := ht.2.2
  have h3 := pig 512 us (fun k hk => h2 k hk (by
    have h4 := hs_lt c
    have h5 := ha ((k + 512 - hs c) % 512) (by omega)
    rw [show (hs c + (k + 512 - hs c) % 512) % 512 = k by omega] at h5
    exact h5))
  omega
/-- a marking is put into its slot -/
theorem tv_put {s : sst} {u : Nat → Nat} {c d n : Nat} (ht : tv s u) (hn : n < 512) (h0 : u ((hs c + n) % 512) = 0) (hp : tkn u c n) : tv (s.1 + 1, ups s.2.1 s.1 c, ups s.2.2 s.1 d) (ups u ((hs c + n) % 512) (s.1 + 1)) := by
  obtain ⟨t1, t2, us, t3, t4⟩ := ht
  have tk2 : ∀ c' n', tkn u c' n' → tkn (ups u ((hs c + n) % 512) (s.1 + 1)) c' n' := fun c' n' h j hj => by
    have := h j hj
    show ups u _ _ _ ≠ 0
    unfold ups
    split
    · omega
    · exact this
  refine ⟨fun k hk => ?_, fun i hi => ?_, ((hs c + n) % 512) :: us, ?_, fun k hk hz => ?_⟩
  · show ups u _ _ k ≤ s.1 + 1
    have := t1 k hk
    unfold ups
    split <;> omega
  · show ∃ n', n' < 512 ∧ ups u _ _ ((hs (ups s.2.1 s.1 c i) + n') % 512) = i + 1 ∧ tkn (ups u _ _) (ups s.2.1 s.1 c i) n'
    have hi' : i < s.1 + 1 := hi
    by_cases e : i = s.1
    · have e1 : ups s.2.1 s.1 c i = c := if_pos e
      rw [e1]
      refine ⟨n, hn, ?_, tk2 _ _ hp⟩
      rw [e]
      exact if_pos rfl
    · have e1 : ups s.2.1 s.1 c i = s.2.1 i := if_neg e
      rw [e1]
      obtain ⟨n', h1, h2, h3⟩ := t2 i (by omega)
      refine ⟨n', h1, ?_, tk2 _ _ h3⟩
      unfold ups
      rw [if_neg (fun z => by rw [z] at h2; omega)]
      exact h2
  · show us.length + 1 = s.1 + 1
    rw [t3]
  · by_cases e : k = (hs c + n) % 512
    · rw [e]
      exact List.mem_cons_self
    · have hz : ups u _ _ k ≠ 0 := hz
      unfold ups at hz
      rw [if_neg e] at hz
      exact List.mem_cons_of_mem _ (t4 k hk hz)
theorem tv_0 {xs ds : Nat → Nat} : tv (0, xs, ds) (fun _ => 0) := ⟨fun _ _ => Nat.le_refl _, fun i hi => absurd hi (by show ¬ i < 0; omega), [], rfl, fun k _ h => absurd rfl h⟩
/-- what enter answers -/
def eI (s : sst) (c : Nat) : Int32 := if pl s c < s.1 then nI (pl s c) else if s.1 < 200 then nI s.1 else -2
/-- where a step leads in a list: its number, -2 outside, -1 it can't go -/
def nx (m : Nat → Nat) (b : Nat) (s : sst) (k t : Nat) : Int32 := if why m (dg (s.2.1 k)) t b = 0 then (if pl s (aftc m (s.2.1 k) t) < s.1 then nI (pl s (aftc m (s.2.1 k) t)) else -2) else -1
theorem eI_later {m : Nat → Nat} {s s3 : sst} {c d : Nat} (hs3 : gk m s3) (h200 : s.1 ≤ 200) (he : ext (put s c d) s3) : eI s c = if pl s3 c < s3.1 then nI (pl s3 c) else -2 := by
  have hle := pl_le s c
  unfold eI
  by_cases g : pl s c < s.1
  · have hp : put s c d = s := if_neg fun z => by omega
    rw [hp] at he
    have h1 := pl_uniq hs3 (i := pl s c) (Nat.lt_of_lt_of_le g he.1) ((he.2 _ g).1.trans (pl_at g))
    rw [if_pos g, h1, if_pos (Nat.lt_of_lt_of_le g he.1)]
  · rw [if_neg g]
    by_cases g2 : s.1 < 200
    · have hp : put s c d = (s.1 + 1, ups s.2.1 s.1 c, ups s.2.2 s.1 d) := if_pos ⟨by omega, g2⟩
      rw [hp] at he
      have hx : s3.2.1 s.1 = c := (he.2 s.1 (by show s.1 < s.1 + 1; omega)).1.trans (if_pos rfl)
      have hl : s.1 < s3.1 := he.1
      have h1 := pl_uniq hs3 hl hx
      rw [if_pos g2, h1, if_pos hl]
    · have hp : put s c d = s := if_neg fun z => g2 z.2
      rw [hp] at he
      have e1 := he.1
      have e2 := hs3.1
      have h1 : pl s3 c = s3.1 := pl_none.mpr fun j hj => by
        rw [(he.2 j (by omega)).1]
        exact pl_no (by omega)
      rw [if_neg g2, h1, if_neg (by omega)]
theorem put_ext {s : sst} {c d : Nat} : ext s (put s c d) := by
  unfold put
  split
  · refine ⟨Nat.le_succ _, fun j hj => ?_⟩
    show ups s.2.1 s.1 c j = _ ∧ ups s.2.2 s.1 d j = _
    unfold ups
    rw [if_neg (by omega), if_neg (by omega)]
    exact ⟨rfl, rfl⟩
  · exact ext_refl s
