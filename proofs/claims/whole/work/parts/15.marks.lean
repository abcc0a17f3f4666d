/-! MARKS: what the static methods on packed tokens answer -/
theorem sh1 : ∀ i, i < 31 → ((1 : Int32) <<< (nI i &&& 31)) = nI (2 ^ i) := by decide +kernel
/-- the tokens of a set, together -/
def sm (S : Nat) (f : Nat → Nat) : Nat → Nat
  | 0 => 0
  | n + 1 => sm S f n + (if S.testBit n = true then f n else 0)
theorem sm_le {S : Nat} {f : Nat → Nat} {b : Nat} (h : ∀ p, f p ≤ b) : ∀ n, sm S f n ≤ n * b
  | 0 => Nat.zero_le _
  | n + 1 => by
    have h1 := sm_le (S := S) h n
    have h2 := h n
    simp only [sm]
    rw [Nat.add_mul, Nat.one_mul]
    split <;> omega
theorem lg0 {x y : Int64} : lg_cmp x y = 0 ↔ x = y := by
  unfold lg_cmp
  constructor
  · intro h
    split at h
    · exact absurd h (by decide)
    · split at h
      · assumption
      · exact absurd h (by decide)
  · intro h
    subst h
    rw [if_neg (Int64.lt_irrefl), if_pos rfl]
theorem spare_eq : (581109629338128 : Int64) = lN (mp 32 (fun _ => 16) 10) := by decide +kernel
theorem or16 : ∀ a, a < 16 → a ||| 16 = a + 16 := by decide +kernel
theorem and16 : ∀ a, a < 32 → (a &&& 16 = if 16 ≤ a then 16 else 0) := by decide +kernel
/-- what Marks.covers tests -/
theorem covers_eq {f g : Nat → Nat} (hf : ∀ p, p < 10 → f p < 16) (hg : ∀ p, p < 10 → g p < 16) : (((lN (mp 32 f 10) ||| 581109629338128) - lN (mp 32 g 10)) &&& 581109629338128) = 581109629338128 ↔ ∀ p, p < 10 → g p ≤ f p := by
  have hf' : ∀ p, p < 10 → f p < 32 := fun p hp => by have := hf p hp; omega
  have hg' : ∀ p, p < 10 → g p < 32 := fun p hp => by have := hg p hp; omega
  have l1 := mp_lt (b := 32) (by decide) 10 hf'
  have l2 := mp_lt (b := 32) (by decide) 10 hg'
  have l3 := mp_lt (b := 32) (f := fun _ => 16) (by decide) 10 (fun _ _ => by decide)
  rw [spare_eq, wb_or (by omega) (by omega), mp_or hf' (fun _ _ => by decide)]
  have e1 : mp 32 (fun p => f p ||| 16) 10 = mp 32 (fun p => (f p + 16 - g p) + g p) 10 := mp_congr 10 fun p hp => by
    show f p ||| 16 = _
    rw [or16 _ (hf p hp)]
    have := hg p hp
    omega
  rw [e1, mp_add 10, lN_sub (Nat.le_add_left _ _), Nat.add_sub_cancel]
  have hd : ∀ p, p < 10 → f p + 16 - g p < 32 := fun p hp => by have := hf p hp; omega
  have l4 := mp_lt (b := 32) (by decide) 10 hd
  rw [wb_and (by omega) (by omega), mp_and hd (fun _ _ => by decide), pk_lEQ (Nat.lt_of_lt_of_le (mp_lt (b := 32) (by decide) 10 (fun p hp => and_lt32 (hd p hp))) (by decide)) (by omega)]
  constructor
  · intro h p hp
    have h2 := mp_inj (b := 32) (by decide) (fun p hp => and_lt32 (hd p hp)) (fun _ _ => by decide) h p hp
    have h3 : (f p + 16 - g p) &&& 16 = 16 := h2
    rw [and16 _ (hd p hp)] at h3
    split at h3 <;> omega
  · intro h
    refine mp_congr 10 fun p hp => ?_
    show (f p + 16 - g p) &&& 16 = 16
    have := h p hp
    rw [and16 _ (hd p hp), if_pos (by omega)]
theorem over_eq {f : Nat → Nat} (hf : ∀ p, p < 10 → f p < 32) : (lN (mp 32 f 10) &&& 581109629338128) = 0 ↔ ∀ p, p < 10 → f p < 16 := by
  have l1 := mp_lt (b := 32) (by decide) 10 hf
  have l3 := mp_lt (b := 32) (f := fun _ => 16) (by decide) 10 (fun _ _ => by decide)
  have l4 := mp_lt (b := 32) (by decide) 10 (fun p hp => and_lt32 (b := 16) (hf p hp))
  have z : mp 32 (fun _ => 0) 10 = 0 := by decide
  rw [spare_eq, wb_and (by omega) (by omega), mp_and hf (fun _ _ => by decide), fa_litL 0, pk_lEQ (by omega) (by decide)]
  constructor
  · intro h p hp
    have h2 := mp_inj (b := 32) (by decide) (fun p hp => and_lt32 (b := 16) (hf p hp)) (fun _ _ => by decide) (h.trans z.symm) p hp
    have h3 : f p &&& 16 = 0 := h2
    rw [and16 _ (hf p hp)] at h3
    split at h3 <;> omega
  · intro h
    rw [← z]
    refine mp_congr 10 fun p hp => ?_
    show f p &&& 16 = 0
    have := h p hp
    rw [and16 _ (hf p hp), if_neg (by omega)]
theorem xor_ones {a : Nat} (h : a < 2 ^ 64) : a ^^^ (2 ^ 64 - 1) = 2 ^ 64 - (a + 1) := by
  refine Nat.eq_of_testBit_eq fun i => ?_
  rw [Nat.testBit_xor, Nat.testBit_two_pow_sub_one, Nat.testBit_two_pow_sub_succ h]
  by_cases hi : i < 64
  · simp [hi]
  · have : a.testBit i = false := Nat.testBit_lt_two_pow (Nat.lt_of_lt_of_le h (Nat.pow_le_pow_right (by decide) (by omega)))
    simp [hi, this]
theorem lN_xor9 (a b : Nat) : lN a ^^^ lN b = lN (a ^^^ b) := by
  refine wb_inj ?_
  rw [Int64.toBitVec_xor, wb_tb, wb_tb, wb_tb]
  exact (BitVec.ofNat_xor (x := a) (y := b)).symm
theorem m1_lN : (-1 : Int64) = lN (2 ^ 64 - 1) := by decide +kernel
theorem with_m {p : Nat} (hp : p < 10) : 31 * 2 ^ (5 * p) < 2 ^ 64 := by
  have h1 : 2 ^ (5 * p) ≤ 2 ^ 45 := Nat.pow_le_pow_right (by decide) (by omega)
  omega
theorem with_c1 {p : Nat} (hp : p < 10) : ((31 : Int64) <<< (((5 : Int32) * nI p).toInt64 &&& 63)) ^^^ (-1) = lN (2 ^ 64 - (31 * 2 ^ (5 * p) + 1)) := by
  rw [nI_5, fa_litL 31, wb_shl 31 (by omega), m1_lN, lN_xor9, xor_ones (with_m hp)]
theorem with_e2 {p v : Nat} (hp : p < 10) : v * 2 ^ (5 * p) = mp 32 (fun j => if j = p then v else 0) 10 := (mp_single2 rfl hp).symm
theorem with_l {p v : Nat} (hp : p < 10) (hv : v < 32) : v * 2 ^ (5 * p) < 2 ^ 64 := by
  have h1 : 2 ^ (5 * p) ≤ 2 ^ 45 := Nat.pow_le_pow_right (by decide) (by omega)
  have h2 : v * 2 ^ (5 * p) ≤ 32 * 2 ^ 45 := Nat.mul_le_mul (by omega) h1
  omega
theorem with_w {f : Nat → Nat} {p v : Nat} (hv : v < 32) (hf : ∀ i, i < 10 → f i < 32) : ∀ i, i < 10 → (if i = p then v else f i) < 32 := fun i hi => by
  split
  · exact hv
  · exact hf i hi
theorem with_a {f : Nat → Nat} {p : Nat} (hp : p < 10) (hf : ∀ i, i < 10 → f i < 32) : lN (mp 32 f 10) &&& lN (2 ^ 64 - (31 * 2 ^ (5 * p) + 1)) = lN (mp 32 (fun j => if j = p then 0 else f j) 10) := by
  have l1 := mp_lt (b := 32) (by decide) 10 hf
  have l2 : mp 32 f 10 < 2 ^ 64 := Nat.lt_trans l1 (by decide)
  have l3 : 2 ^ 64 - (31 * 2 ^ (5 * p) + 1) < 2 ^ 64 := Nat.sub_lt (by decide) (Nat.succ_pos _)
  rw [wb_and l2 l3, mp_wipe hp hf]
/-- what Marks.with makes -/
theorem with_eq {f : Nat → Nat} {p v : Nat} (hp : p < 10) (hv : v < 32) (hf : ∀ i, i < 10 → f i < 32) : (lN (mp 32 f 10) &&& (((31 : Int64) <<< (((5 : Int32) * nI p).toInt64 &&& 63)) ^^^ (-1))) ||| ((nI v).toInt64 <<< (((5 : Int32) * nI p).toInt64 &&& 63)) = lN (mp 32 (fun j => if j = p then v else f j) 10) := by
  have hw := with_w (p := p) (v := 0) (by decide) hf
  have hz := with_w (f := fun _ => 0) (p := p) hv (fun _ _ => by decide)
  have l1 : mp 32 (fun j => if j = p then 0 else f j) 10 < 2 ^ 64 := Nat.lt_trans (mp_lt (b := 32) (by decide) 10 hw) (by decide)
  rw [with_c1 hp, with_a hp hf, nI_5, nI_l (by omega), wb_shl v (by omega), wb_or l1 (with_l hp hv), with_e2 hp, mp_or hw hz]
  refine congrArg lN (mp_congr 10 fun j hj => ?_)
  show (if j = p then 0 else f j) ||| (if j = p then v else 0) = if j = p then v else f j
  by_cases e : j = p
  · simp [e]
  · simp [e]
section MARKS
variable {I : Nat → Nat → Int32} {L : Nat → Nat → Int64} {q r1 r2 : Nat → Nat} {w : Bool} {K : km_K}
theorem s_one {p : Nat} (hp : p < 12) (h : K (some (.long (lN (32 ^ p)))) (I, L, kr q w r1 r2)) : kC sh kp 169 [.int (nI p)] (I, L, kr q w r1 r2) K :=
  ⟨rfl, bK_one_0 (by
    rw [nI_5, show (1 : Int64) = lN 1 from rfl, wb_shl 1 (by omega), Nat.one_mul, ← pw_32]
    exact h)⟩
theorem s_tokens {X p : Nat} (hX : X < 2 ^ 62) (hp : p < 12) (h : K (some (.int (nI (X / 32 ^ p % 32)))) (I, L, kr q w r1 r2)) : kC sh kp 170 [.long (lN X), .int (nI p)] (I, L, kr q w r1 r2) K :=
  ⟨rfl, bK_tokens_0 (by
    rw [tok5 hX hp]
    exact h)⟩
theorem s_sumIn_loop {S X : Nat} {f : Nat → Nat} (hf : ∀ p, p < 10 → f p < 32) (hX : X = mp 32 f 10) (h : K (some (.int (nI (sm S f 10)))) (I, L, kr q w r1 r2)) : ∀ (k i : Nat), i + k = 10 →
    kW sh kp 172 8 [none, none, some (.int (nI S)), some (.int (nI (sm S f i))), some (.long (lN (X / 32 ^ i))), none, some (.int (nI i))] [] (I, L, kr q w r1 r2) K
  | 0, i, e => by
    have ei : i = 10 := by omega
    subst ei
    exact bK_sumIn_8 ⟨fun _ => bK_sumIn_46 h, fun hn => absurd (by decide +kernel) hn⟩
  | k + 1, i, e => by
    have hi : i < 10 := by omega
    have hXl : X < 2 ^ 62 := by
      rw [hX]
      have := mp_lt (b := 32) (by decide) 10 hf
      omega
    have hd : X / 32 ^ i < 2 ^ 62 := Nat.lt_of_le_of_lt (Nat.div_le_self _ _) hXl
    have ih := s_sumIn_loop hf hX h k (i + 1) (by omega)
    have e1 : lN (X / 32 ^ i) >>> ((5 : Int32).toInt64 &&& 63) = lN (X / 32 ^ (i + 1)) := by
      rw [fa_lit 5, lN_shr hd (by decide), Nat.div_div_eq_div_mul]
      rfl
    have e2 : (lN (X / 32 ^ i) &&& 31).toInt32 = nI (f i) := by
      rw [fa_litL 31, show (31 : Nat) = 2 ^ 5 - 1 from rfl, wb_mask (by omega) (by decide), lN_i, hX]
      rw [show (2 : Nat) ^ 5 = 32 from rfl, mp_at (by decide) hi hf]
    refine bK_sumIn_8 ⟨fun hle => absurd hle (by rw [fa_lit 10]; exact nI_ge hi (by decide)), fun _ => ?_⟩
    refine bK_sumIn_15 ?_
    rw [sh1 i (by omega)]
    refine ⟨fun hz => ?_, fun hz => ?_⟩
    · have hb : S.testBit i = false := (fa_bit (by omega)).mp hz
      refine bK_sumIn_34 ?_
      rw [e1, nI_1]
      have e3 : sm S f (i + 1) = sm S f i := by simp [sm, hb]
      rw [e3] at ih
      exact ih
    · have hb : S.testBit i = true := by
        cases hq : S.testBit i with
        | true => rfl
        | false => exact absurd ((fa_bit (by omega)).mpr hq) hz
      refine bK_sumIn_24 (bK_sumIn_34 ?_)
      rw [e1, nI_1, e2, nI_add]
      have e3 : sm S f (i + 1) = sm S f i + f i := by simp [sm, hb]
      rw [e3] at ih
      exact ih
theorem s_sumIn {S : Nat} {f : Nat → Nat} (hf : ∀ p, p < 10 → f p < 32) (h : K (some (.int (nI (sm S f 10)))) (I, L, kr q w r1 r2)) : kC sh kp 172 [.long (lN (mp 32 f 10)), .int (nI S)] (I, L, kr q w r1 r2) K :=
  ⟨rfl, bK_sumIn_0 (by
    have := s_sumIn_loop (S := S) hf rfl h 10 0 rfl
    rw [Nat.pow_zero, Nat.div_one] at this
    exact this)⟩
theorem s_with {f : Nat → Nat} {p v : Nat} (hp : p < 10) (hv : v < 32) (hf : ∀ i, i < 10 → f i < 32) (h : K (some (.long (lN (mp 32 (fun j => if j = p then v else f j) 10)))) (I, L, kr q w r1 r2)) : kC sh kp 171 [.long (lN (mp 32 f 10)), .int (nI p), .int (nI v)] (I, L, kr q w r1 r2) K :=
  ⟨rfl, bK_with_0 (by
    rw [with_eq hp hv hf]
    exact h)⟩
theorem s_covers {f g : Nat → Nat} (hf : ∀ p, p < 10 → f p < 16) (hg : ∀ p, p < 10 → g p < 16) (h1 : (∀ p, p < 10 → g p ≤ f p) → K (some (.int 1)) (I, L, kr q w r1 r2)) (h0 : ¬ (∀ p, p < 10 → g p ≤ f p) → K (some (.int 0)) (I, L, kr q w r1 r2)) : kC sh kp 173 [.long (lN (mp 32 f 10)), .long (lN (mp 32 g 10))] (I, L, kr q w r1 r2) K :=
  ⟨rfl, bK_covers_0 ⟨fun h => bK_covers_22 (bK_covers_23 ⟨Or.inl rfl, h0 (fun q => h (lg0.mpr ((covers_eq hf hg).mpr q)))⟩), fun h => bK_covers_18 (bK_covers_23 ⟨Or.inr rfl, h1 ((covers_eq hf hg).mp (lg0.mp h))⟩)⟩⟩
theorem s_overflows {f : Nat → Nat} (hf : ∀ p, p < 10 → f p < 32) (h0 : (∀ p, p < 10 → f p < 16) → K (some (.int 0)) (I, L, kr q w r1 r2)) (h1 : ¬ (∀ p, p < 10 → f p < 16) → K (some (.int 1)) (I, L, kr q w r1 r2)) : kC sh kp 174 [.long (lN (mp 32 f 10))] (I, L, kr q w r1 r2) K :=
  ⟨rfl, bK_overflows_0 ⟨fun h => bK_overflows_14 (bK_overflows_15 ⟨Or.inl rfl, h0 ((over_eq hf).mp (lg0.mp h))⟩), fun h => bK_overflows_10 (bK_overflows_15 ⟨Or.inr rfl, h1 (fun q => h (lg0.mpr ((over_eq hf).mpr q)))⟩)⟩⟩
end MARKS
