/-! MARKS: what the static methods on packed tokens answer -/
theorem sh1 : ∀ i, i < 31 → ((1 : Int32) <<< (nI i &&& 31)) = nI (2 ^ i) := by decide +kernel
/-- the tokens of a set, together -/
def sm (S : Nat) (f : Nat → Nat) : Nat → Nat
  | 0 => 0
  | n + 1 => sm S f n + (if S.testBit n = true then f n else 0)
theorem sm_le {S : Nat} {f : Nat → Nat} {b : Nat} (h : ∀ p, f p ≤ b) : ∀ n, sm S f n ≤ n * b
  | 0 => Nat.zero_le _
  | n + 1 => by
    have h1 := sm_le (S := S) h n
    have h2 := h n
    simp only [sm]
    rw [Nat.add_mul, Nat.one_mul]
    split <;> omega
section MARKS
variable {I : Nat → Nat → Int32} {L : Nat → Nat → Int64} {q r1 r2 : Nat → Nat} {w : Bool} {K : km_K}
theorem s_one {p : Nat} (hp : p < 12) (h : K (some (.long (lN (32 ^ p)))) (I, L, kr q w r1 r2)) : kC sh kp 169 [.int (nI p)] (I, L, kr q w r1 r2) K :=
  ⟨rfl, bK_one_0 (by
    rw [nI_5, show (1 : Int64) = lN 1 from rfl, wb_shl 1 (by omega), Nat.one_mul, ← pw_32]
    exact h)⟩
theorem s_tokens {X p : Nat} (hX : X < 2 ^ 62) (hp : p < 12) (h : K (some (.int (nI (X / 32 ^ p % 32)))) (I, L, kr q w r1 r2)) : kC sh kp 170 [.long (lN X), .int (nI p)] (I, L, kr q w r1 r2) K :=
  ⟨rfl, bK_tokens_0 (by
    rw [tok5 hX hp]
    exact h)⟩
theorem s_sumIn_loop {S X : Nat} {f : Nat → Nat} (hf : ∀ p, p < 10 → f p < 32) (hX : X = mp 32 f 10) (h : K (some (.int (nI (sm S f 10)))) (I, L, kr q w r1 r2)) : ∀ (k i : Nat), i + k = 10 →
    kW sh kp 172 8 [none, none, some (.int (nI S)), some (.int (nI (sm S f i))), some (.long (lN (X / 32 ^ i))), none, some (.int (nI i))] [] (I, L, kr q w r1 r2) K
  | 0, i, e => by
    have ei : i = 10 := by omega
    subst ei
    exact bK_sumIn_8 ⟨fun _ => bK_sumIn_46 h, fun hn => absurd (by decide +kernel) hn⟩
  | k + 1, i, e => by
    have hi : i < 10 := by omega
    have hXl : X < 2 ^ 62 := by
      rw [hX]
      have := mp_lt (b := 32) (by decide) 10 hf
      omega
    have hd : X / 32 ^ i < 2 ^ 62 := Nat.lt_of_le_of_lt (Nat.div_le_self _ _) hXl
    have ih := s_sumIn_loop hf hX h k (i + 1) (by omega)
    have e1 : lN (X / 32 ^ i) >>> ((5 : Int32).toInt64 &&& 63) = lN (X / 32 ^ (i + 1)) := by
      rw [fa_lit 5, lN_shr hd (by decide), Nat.div_div_eq_div_mul]
      rfl
    have e2 : (lN (X / 32 ^ i) &&& 31).toInt32 = nI (f i) := by
      rw [fa_litL 31, show (31 : Nat) = 2 ^ 5 - 1 from rfl, wb_mask (by omega) (by decide), lN_i, hX]
      rw [show (2 : Nat) ^ 5 = 32 from rfl, mp_at (by decide) hi hf]
    refine bK_sumIn_8 ⟨fun hle => absurd hle (by rw [fa_lit 10]; exact nI_ge hi (by decide)), fun _ => ?_⟩
    refine bK_sumIn_15 ?_
    rw [sh1 i (by omega)]
    refine ⟨fun hz => ?_, fun hz => ?_⟩
    · have hb : S.testBit i = false := (fa_bit (by omega)).mp hz
      refine bK_sumIn_34 ?_
      rw [e1, nI_1]
      have e3 : sm S f (i + 1) = sm S f i := by simp [sm, hb]
      rw [e3] at ih
      exact ih
    · have hb : S.testBit i = true := by
        cases hq : S.testBit i with
        | true => rfl
        | false => exact absurd ((fa_bit (by omega)).mpr hq) hz
      refine bK_sumIn_24 (bK_sumIn_34 ?_)
      rw [e1, nI_1, e2, nI_add]
      have e3 : sm S f (i + 1) = sm S f i + f i := by simp [sm, hb]
      rw [e3] at ih
      exact ih
theorem s_sumIn {S : Nat} {f : Nat → Nat} (hf : ∀ p, p < 10 → f p < 32) (h : K (some (.int (nI (sm S f 10)))) (I, L, kr q w r1 r2)) : kC sh kp 172 [.long (lN (mp 32 f 10)), .int (nI S)] (I, L, kr q w r1 r2) K :=
  ⟨rfl, bK_sumIn_0 (by
    have := s_sumIn_loop (S := S) hf rfl h 10 0 rfl
    rw [Nat.pow_zero, Nat.div_one] at this
    exact this)⟩
end MARKS
