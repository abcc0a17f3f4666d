/-! PACKED TOKENS: f 0 + f 1 * b + f 2 * b^2 + .. of n places -/
def mp (b : Nat) (f : Nat → Nat) : Nat → Nat
  | 0 => 0
  | n + 1 => mp b f n + f n * b ^ n
theorem mp_lt {b : Nat} {f : Nat → Nat} (hb : 0 < b) : ∀ n, (∀ p, p < n → f p < b) → mp b f n < b ^ n
  | 0, _ => by simp [mp]
  | n + 1, h => by
    have h1 := mp_lt hb n (fun p hp => h p (by omega))
    have h2 : f n + 1 ≤ b := h n (by omega)
    have h3 : (f n + 1) * b ^ n ≤ b * b ^ n := Nat.mul_le_mul_right _ h2
    have h4 : b ^ (n + 1) = b * b ^ n := by rw [Nat.pow_succ, Nat.mul_comm]
    simp only [mp]
    rw [h4]
    rw [Nat.add_mul, Nat.one_mul] at h3
    omega
theorem mp_congr {b : Nat} {f g : Nat → Nat} : ∀ n, (∀ p, p < n → f p = g p) → mp b f n = mp b g n
  | 0, _ => rfl
  | n + 1, h => by simp only [mp]; rw [mp_congr n (fun p hp => h p (by omega)), h n (by omega)]
theorem mp_split {b : Nat} {f : Nat → Nat} (p : Nat) : ∀ k, mp b f (p + k) = mp b f p + b ^ p * mp b (fun j => f (p + j)) k
  | 0 => by simp [mp]
  | k + 1 => by
    show mp b f (p + k) + f (p + k) * b ^ (p + k) = _
    rw [mp_split p k]
    simp only [mp]
    rw [Nat.pow_add, Nat.mul_add, Nat.add_assoc]
    congr 2
    rw [← Nat.mul_assoc, Nat.mul_comm (f (p + k)), Nat.mul_assoc, Nat.mul_comm (f (p + k))]
theorem mp_head {b : Nat} {f : Nat → Nat} (k : Nat) : mp b f (k + 1) = f 0 + b * mp b (fun j => f (j + 1)) k := by
  have h := mp_split (b := b) (f := f) 1 k
  rw [Nat.add_comm 1 k] at h
  rw [h]
  simp only [mp, Nat.pow_zero, Nat.mul_one, Nat.zero_add, Nat.pow_one]
  congr 2
  refine mp_congr k fun p _ => ?_
  rw [Nat.add_comm]
/-- a place is read -/
theorem mp_at {b : Nat} {f : Nat → Nat} {n p : Nat} (hb : 0 < b) (hp : p < n) (h : ∀ j, j < n → f j < b) : mp b f n / b ^ p % b = f p := by
  obtain ⟨k, rfl⟩ : ∃ k, n = p + (k + 1) := ⟨n - p - 1, by omega⟩
  rw [mp_split, mp_head]
  have h1 := mp_lt hb p (fun j hj => h j (by omega))
  have hpos : 0 < b ^ p := Nat.pow_pos hb
  rw [Nat.add_mul_div_left _ _ hpos, Nat.div_eq_of_lt h1, Nat.zero_add, Nat.add_zero, Nat.add_mul_mod_self_left, Nat.mod_eq_of_lt (h p (by omega))]
/-- a place is changed -/
theorem mp_upd {b : Nat} {f : Nat → Nat} {n p v : Nat} (hp : p < n) : mp b (fun j => if j = p then v else f j) n + f p * b ^ p = mp b f n + v * b ^ p := by
  induction n with
  | zero => omega
  | succ n ih =>
    simp only [mp]
    by_cases e : n = p
    · subst e
      have h1 : mp b (fun j => if j = n then v else f j) n = mp b f n := mp_congr n fun j hj => if_neg (by omega)
      rw [h1, if_pos rfl]
      omega
    · have h1 := ih (by omega)
      rw [if_neg e]
      omega
theorem mp_add {b : Nat} {f g : Nat → Nat} : ∀ n, mp b (fun j => f j + g j) n = mp b f n + mp b g n
  | 0 => rfl
  | n + 1 => by simp only [mp, mp_add n, Nat.add_mul]; omega
theorem mp_one {b : Nat} {n p : Nat} (hp : p < n) : mp b (fun j => if j = p then 1 else 0) n = b ^ p := by
  have h := mp_upd (b := b) (f := fun _ => 0) (n := n) (p := p) (v := 1) hp
  have h0 : ∀ n, mp b (fun _ => 0) n = 0 := by
    intro n
    induction n with
    | zero => rfl
    | succ n ih => simp [mp, ih]
  rw [h0 n] at h
  simp only [Nat.zero_mul, Nat.add_zero, Nat.zero_add, Nat.one_mul] at h
  exact h
theorem mp_inj {b : Nat} {f g : Nat → Nat} {n : Nat} (hb : 0 < b) (hf : ∀ j, j < n → f j < b) (hg : ∀ j, j < n → g j < b) (h : mp b f n = mp b g n) : ∀ p, p < n → f p = g p := fun p hp => by
  rw [← mp_at hb hp hf, h, mp_at hb hp hg]
theorem pw_32 (p : Nat) : 32 ^ p = 2 ^ (5 * p) := by rw [Nat.pow_mul]
theorem pw_16 (p : Nat) : 16 ^ p = 2 ^ (4 * p) := by rw [Nat.pow_mul]
/-- shifts of longs by small counts -/
theorem lN_bv9 (n : Nat) : (lN n).toBitVec = BitVec.ofNat 64 n := rfl
theorem lN_shr {X k : Nat} (hX : X < 2 ^ 62) (hk : k < 64) : lN X >>> ((nI k).toInt64 &&& 63) = lN (X / 2 ^ k) := by
  rw [wb_c k hk]
  exact pf_shr (by rw [lN_bv9, wb_sm k hk, BitVec.toNat_ofNat, Nat.mod_eq_of_lt (by omega)]) hX
theorem nI_5 (p : Nat) : (5 : Int32) * nI p = nI (5 * p) := by rw [fa_lit 5, pk_mul]
theorem nI_4 (p : Nat) : (4 : Int32) * nI p = nI (4 * p) := by rw [fa_lit 4, pk_mul]
/-- what Marks.tokens reads -/
theorem tok5 {X p : Nat} (hX : X < 2 ^ 62) (hp : p < 12) : ((lN X >>> (((5 : Int32) * nI p).toInt64 &&& 63)) &&& 31).toInt32 = nI (X / 32 ^ p % 32) := by
  rw [nI_5, lN_shr hX (by omega), fa_litL 31]
  have h1 : X / 2 ^ (5 * p) < 2 ^ 64 := Nat.lt_of_le_of_lt (Nat.div_le_self _ _) (by omega)
  rw [show (31 : Nat) = 2 ^ 5 - 1 from rfl, wb_mask h1 (by decide), lN_i, pw_32]
