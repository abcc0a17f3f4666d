/-! MARKS: placesOf and hexadecimal -/
section MARKS2
variable {I : Nat → Nat → Int32} {L : Nat → Nat → Int64} {q r1 r2 : Nat → Nat} {w : Bool} {K : km_K} {f : Nat → Nat}
theorem s_tok {p : Nat} (hp : p < 10) (hf : ∀ p, p < 10 → f p < 32) (h : K (some (.int (nI (f p)))) (I, L, kr q w r1 r2)) : kC sh kp 170 [.long (lN (mp 32 f 10)), .int (nI p)] (I, L, kr q w r1 r2) K := by
  have h1 := mp_lt (b := 32) (by decide) 10 hf
  refine s_tokens (Nat.lt_trans h1 (by decide)) (by omega) ?_
  rw [mp_at (by decide) hp hf]
  exact h
theorem s_placesOf (hf : ∀ p, p < 10 → f p < 32) (h : K (some (.int (nI (bs (fun p => decide (f p ≠ 0)) 10)))) (I, L, kr q w r1 r2)) : kC sh kp 175 [.long (lN (mp 32 f 10))] (I, L, kr q w r1 r2) K := by
  refine ⟨rfl, bK_placesOf_0 (up0 (Pr := fun i => kW sh kp 175 4 [some (.long (lN (mp 32 f 10))), none, some (.int (nI (bs (fun p => decide (f p ≠ 0)) i))), some (.int (nI i))] [] (I, L, kr q w r1 r2) K) (e := 10) ?_ fun i hi ih => ?_)⟩
  · exact bK_placesOf_4 (pk_le 10 10 (fun _ => bK_placesOf_30 h) (fun g => absurd g (by omega)))
  · have hfi := hf i hi
    refine bK_placesOf_4 (pk_le 10 i (fun g => absurd g (by omega)) (fun _ => bK_placesOf_10 (s_tok hi hf (bK_placesOf_15 (pk_eq (f i) 0 (fun g => bK_placesOf_24 ?_) (fun g => bK_placesOf_18 (bK_placesOf_24 ?_)))))))
    · rw [nI_1]
      have e : bs (fun p => decide (f p ≠ 0)) (i + 1) = bs (fun p => decide (f p ≠ 0)) i := by
        show _ ||| cond (decide (f i ≠ 0)) (2 ^ i) 0 = _
        rw [decide_eq_false (fun z => z g)]
        exact Nat.or_zero _
      rw [e] at ih
      exact ih
    · rw [nI_1, sh1 i (by omega), fa_or]
      have e : bs (fun p => decide (f p ≠ 0)) (i + 1) = bs (fun p => decide (f p ≠ 0)) i ||| 2 ^ i := by
        show _ ||| cond (decide (f i ≠ 0)) (2 ^ i) 0 = _
        rw [decide_eq_true g]
        rfl
      rw [e] at ih
      exact ih
theorem s_hex_loop (hf : ∀ p, p < 10 → f p < 32) (h : K (some (.long (lN (mp 16 f 10)))) (I, L, kr q w r1 r2)) : ∀ i, i ≤ 10 → kW sh kp 176 6 [some (.long (lN (mp 32 f 10))), none, some (.long (lN (mp 16 (fun j => f (i + j)) (10 - i)))), none, some (.int (nI i - 1))] [] (I, L, kr q w r1 r2) K
  | 0, _ => by
    refine bK_hexadecimal_6 ⟨fun _ => bK_hexadecimal_31 ?_, fun g => absurd (by decide) g⟩
    have e : (fun j => f (0 + j)) = f := funext fun j => by rw [Nat.zero_add]
    rw [e]
    exact h
  | i + 1, hi => by
    have ih := s_hex_loop hf h i (by omega)
    have hfi := hf i (by omega)
    rw [nI_pred]
    refine bK_hexadecimal_6 ⟨fun g => absurd g (nI_pos (by omega)), fun _ => bK_hexadecimal_11 (s_tok (by omega) hf (bK_hexadecimal_22 ?_))⟩
    rw [fa_litL 16, lN_mul, nI_l (by omega), lN_add, ← Int32.sub_eq_add_neg]
    have e : mp 16 (fun j => f (i + j)) (10 - i) = 16 * mp 16 (fun j => f (i + 1 + j)) (10 - (i + 1)) + f i := by
      rw [show 10 - i = (10 - (i + 1)) + 1 by omega, mp_head, Nat.add_comm, Nat.add_zero]
      congr 2
      exact mp_congr _ fun j _ => by
        show f (i + (j + 1)) = f (i + 1 + j)
        congr 1
        omega
    rw [e] at ih
    exact ih
theorem s_hexadecimal (hf : ∀ p, p < 10 → f p < 32) (h : K (some (.long (lN (mp 16 f 10)))) (I, L, kr q w r1 r2)) : kC sh kp 176 [.long (lN (mp 32 f 10))] (I, L, kr q w r1 r2) K :=
  ⟨rfl, bK_hexadecimal_0 (s_hex_loop hf h 10 (by decide))⟩
end MARKS2
