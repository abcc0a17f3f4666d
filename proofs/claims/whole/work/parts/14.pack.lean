/-! PACKED TOKENS: f 0 + f 1 * b + f 2 * b^2 + .. of n places -/
def mp (b : Nat) (f : Nat → Nat) : Nat → Nat
  | 0 => 0
  | n + 1 => mp b f n + f n * b ^ n
theorem mp_lt {b : Nat} {f : Nat → Nat} (hb : 0 < b) : ∀ n, (∀ p, p < n → f p < b) → mp b f n < b ^ n
  | 0, _ => by simp [mp]
  | n + 1, h => by
    have h1 := mp_lt hb n (fun p hp => h p (by omega))
    have h2 : f n + 1 ≤ b := h n (by omega)
    have h3 : (f n + 1) * b ^ n ≤ b * b ^ n := Nat.mul_le_mul_right _ h2
    have h4 : b ^ (n + 1) = b * b ^ n := by rw [Nat.pow_succ, Nat.mul_comm]
    simp only [mp]
    rw [h4]
    rw [Nat.add_mul, Nat.one_mul] at h3
    omega
theorem mp_congr {b : Nat} {f g : Nat → Nat} : ∀ n, (∀ p, p < n → f p = g p) → mp b f n = mp b g n
  | 0, _ => rfl
  | n + 1, h => by simp only [mp]; rw [mp_congr n (fun p hp => h p (by omega)), h n (by omega)]
theorem mp_split {b : Nat} {f : Nat → Nat} (p : Nat) : ∀ k, mp b f (p + k) = mp b f p + b ^ p * mp b (fun j => f (p + j)) k
  | 0 => by simp [mp]
  | k + 1 => by
    show mp b f (p + k) + f (p + k) * b ^ (p + k) = _
    rw [mp_split p k]
    simp only [mp]
    rw [Nat.pow_add, Nat.mul_add, Nat.add_assoc]
    congr 2
    rw [← Nat.mul_assoc, Nat.mul_comm (f (p + k)), Nat.mul_assoc, Nat.mul_comm (f (p + k))]
theorem mp_head {b : Nat} {f : Nat → Nat} (k : Nat) : mp b f (k + 1) = f 0 + b * mp b (fun j => f (j + 1)) k := by
  have h := mp_split (b := b) (f := f) 1 k
  rw [Nat.add_comm 1 k] at h
  rw [h]
  simp only [mp, Nat.pow_zero, Nat.mul_one, Nat.zero_add, Nat.pow_one]
  congr 2
  refine mp_congr k fun p _ => ?_
  rw [Nat.add_comm]
/-- a place is read -/
theorem mp_at {b : Nat} {f : Nat → Nat} {n p : Nat} (hb : 0 < b) (hp : p < n) (h : ∀ j, j < n → f j < b) : mp b f n / b ^ p % b = f p := by
  obtain ⟨k, rfl⟩ : ∃ k, n = p + (k + 1) := ⟨n - p - 1, by omega⟩
  rw [mp_split, mp_head]
  have h1 := mp_lt hb p (fun j hj => h j (by omega))
  have hpos : 0 < b ^ p := Nat.pow_pos hb
  rw [Nat.add_mul_div_left _ _ hpos, Nat.div_eq_of_lt h1, Nat.zero_add, Nat.add_zero, Nat.add_mul_mod_self_left, Nat.mod_eq_of_lt (h p (by omega))]
/-- a place is changed -/
theorem mp_upd {b : Nat} {f : Nat → Nat} {n p v : Nat} (hp : p < n) : mp b (fun j => if j = p then v else f j) n + f p * b ^ p = mp b f n + v * b ^ p := by
  induction n with
  | zero => omega
  | succ n ih =>
    simp only [mp]
    by_cases e : n = p
    · subst e
      have h1 : mp b (fun j => if j = n then v else f j) n = mp b f n := mp_congr n fun j hj => if_neg (by omega)
      rw [h1, if_pos rfl]
      omega
    · have h1 := ih (by omega)
      rw [if_neg e]
      omega
theorem mp_add {b : Nat} {f g : Nat → Nat} : ∀ n, mp b (fun j => f j + g j) n = mp b f n + mp b g n
  | 0 => rfl
  | n + 1 => by simp only [mp, mp_add n, Nat.add_mul]; omega
theorem mp_one {b : Nat} {n p : Nat} (hp : p < n) : mp b (fun j => if j = p then 1 else 0) n = b ^ p := by
  have h := mp_upd (b := b) (f := fun _ => 0) (n := n) (p := p) (v := 1) hp
  have h0 : ∀ n, mp b (fun _ => 0) n = 0 := by
    intro n
    induction n with
    | zero => rfl
    | succ n ih => simp [mp, ih]
  rw [h0 n] at h
  simp only [Nat.zero_mul, Nat.add_zero, Nat.zero_add, Nat.one_mul] at h
  exact h
theorem mp_inj {b : Nat} {f g : Nat → Nat} {n : Nat} (hb : 0 < b) (hf : ∀ j, j < n → f j < b) (hg : ∀ j, j < n → g j < b) (h : mp b f n = mp b g n) : ∀ p, p < n → f p = g p := fun p hp => by
  rw [← mp_at hb hp hf, h, mp_at hb hp hg]
theorem pw_32 (p : Nat) : 32 ^ p = 2 ^ (5 * p) := by rw [Nat.pow_mul]
theorem pw_16 (p : Nat) : 16 ^ p = 2 ^ (4 * p) := by rw [Nat.pow_mul]
/-- shifts of longs by small counts -/
theorem lN_bv9 (n : Nat) : (lN n).toBitVec = BitVec.ofNat 64 n := rfl
theorem lN_shr {X k : Nat} (hX : X < 2 ^ 62) (hk : k < 64) : lN X >>> ((nI k).toInt64 &&& 63) = lN (X / 2 ^ k) := by
  rw [wb_c k hk]
  exact pf_shr (by rw [lN_bv9, wb_sm k hk, BitVec.toNat_ofNat, Nat.mod_eq_of_lt (by omega)]) hX
theorem nI_5 (p : Nat) : (5 : Int32) * nI p = nI (5 * p) := by rw [fa_lit 5, pk_mul]
theorem nI_4 (p : Nat) : (4 : Int32) * nI p = nI (4 * p) := by rw [fa_lit 4, pk_mul]
/-- what Marks.tokens reads -/
theorem tok5 {X p : Nat} (hX : X < 2 ^ 62) (hp : p < 12) : ((lN X >>> (((5 : Int32) * nI p).toInt64 &&& 63)) &&& 31).toInt32 = nI (X / 32 ^ p % 32) := by
  rw [nI_5, lN_shr hX (by omega), fa_litL 31]
  have h1 : X / 2 ^ (5 * p) < 2 ^ 64 := Nat.lt_of_le_of_lt (Nat.div_le_self _ _) (by omega)
  rw [show (31 : Nat) = 2 ^ 5 - 1 from rfl, wb_mask h1 (by decide), lN_i, pw_32]
/-- a bit of a pack is a bit of a place -/
theorem mp_bit {f : Nat → Nat} {n p j : Nat} (hp : p < n) (hj : j < 5) (h : ∀ i, i < n → f i < 32) : (mp 32 f n).testBit (5 * p + j) = (f p).testBit j := by
  have e := mp_at (b := 32) (by decide) hp h
  rw [← e, show (32 : Nat) = 2 ^ 5 from rfl, Nat.testBit_mod_two_pow, ← Nat.pow_mul, Nat.testBit_div_two_pow]
  simp [hj, Nat.add_comm]
theorem mp_bit_hi {f : Nat → Nat} {n i : Nat} (hi : 5 * n ≤ i) (h : ∀ i, i < n → f i < 32) : (mp 32 f n).testBit i = false := by
  have h1 := mp_lt (b := 32) (by decide) n h
  rw [pw_32] at h1
  exact Nat.testBit_lt_two_pow (Nat.lt_of_lt_of_le h1 (Nat.pow_le_pow_right (by decide) hi))
theorem mp_ext {x : Nat} {f : Nat → Nat} {n : Nat} (h : ∀ i, i < n → f i < 32) (hb : ∀ p j, p < n → j < 5 → x.testBit (5 * p + j) = (f p).testBit j) (hh : ∀ i, 5 * n ≤ i → x.testBit i = false) : x = mp 32 f n := by
  refine Nat.eq_of_testBit_eq fun i => ?_
  by_cases hi : 5 * n ≤ i
  · rw [hh i hi, mp_bit_hi hi h]
  · have e : i = 5 * (i / 5) + i % 5 := by omega
    have hp : i / 5 < n := by omega
    have hj : i % 5 < 5 := by omega
    rw [e, hb _ _ hp hj, mp_bit hp hj h]
theorem and_lt32 {a b : Nat} (h : a < 32) : a &&& b < 32 := Nat.lt_of_le_of_lt Nat.and_le_left h
theorem or_lt32 {a b : Nat} (h : a < 32) (h2 : b < 32) : a ||| b < 32 := Nat.or_lt_two_pow (n := 5) h h2
theorem mp_and {f g : Nat → Nat} {n : Nat} (hf : ∀ i, i < n → f i < 32) (hg : ∀ i, i < n → g i < 32) : mp 32 f n &&& mp 32 g n = mp 32 (fun p => f p &&& g p) n :=
  mp_ext (fun i hi => and_lt32 (hf i hi)) (fun p j hp hj => by rw [Nat.testBit_and, mp_bit hp hj hf, mp_bit hp hj hg, Nat.testBit_and]) (fun i hi => by rw [Nat.testBit_and, mp_bit_hi hi hf, Bool.false_and])
theorem mp_or {f g : Nat → Nat} {n : Nat} (hf : ∀ i, i < n → f i < 32) (hg : ∀ i, i < n → g i < 32) : mp 32 f n ||| mp 32 g n = mp 32 (fun p => f p ||| g p) n :=
  mp_ext (fun i hi => or_lt32 (hf i hi) (hg i hi)) (fun p j hp hj => by rw [Nat.testBit_or, mp_bit hp hj hf, mp_bit hp hj hg, Nat.testBit_or]) (fun i hi => by rw [Nat.testBit_or, mp_bit_hi hi hf, mp_bit_hi hi hg, Bool.or_false])
theorem bit31 : ∀ j, (31 : Nat).testBit j = decide (j < 5) := fun j => Nat.testBit_two_pow_sub_one 5 j
/-- a place is wiped out: all bits but its own are kept -/
theorem mp_wipe {f : Nat → Nat} {p : Nat} (hp : p < 10) (hf : ∀ i, i < 10 → f i < 32) : mp 32 f 10 &&& (2 ^ 64 - (31 * 2 ^ (5 * p) + 1)) = mp 32 (fun j => if j = p then 0 else f j) 10 := by
  have hm : 31 * 2 ^ (5 * p) < 2 ^ 64 := by
    have h1 : 2 ^ (5 * p) ≤ 2 ^ 45 := Nat.pow_le_pow_right (by decide) (by omega)
    omega
  refine mp_ext (fun i hi => by
    show (if i = p then 0 else f i) < 32
    split
    · decide
    · exact hf i hi) (fun k j hk hj => ?_) (fun i hi => by rw [Nat.testBit_and, mp_bit_hi hi hf, Bool.false_and])
  rw [Nat.testBit_and, mp_bit hk hj hf, Nat.testBit_two_pow_sub_succ hm, Nat.testBit_mul_two_pow, bit31]
  by_cases e : k = p
  · subst e
    simp [hj]
  · rw [if_neg e]
    have h2 : ¬ (5 * p ≤ 5 * k + j ∧ 5 * k + j - 5 * p < 5) := by omega
    have h3 : (decide (5 * p ≤ 5 * k + j) && decide (5 * k + j - 5 * p < 5)) = false := by
      rw [← Bool.decide_and]
      exact decide_eq_false h2
    rw [h3]
    simp
    intro _
    omega
theorem mp_zero {b : Nat} : ∀ n, mp b (fun _ => 0) n = 0
  | 0 => rfl
  | n + 1 => by simp only [mp, mp_zero n, Nat.zero_mul, Nat.add_zero]
theorem mp_single {b n p v : Nat} (hp : p < n) : mp b (fun j => if j = p then v else 0) n = v * b ^ p := by
  have h3 := mp_upd (b := b) (f := fun _ => 0) (n := n) (p := p) (v := v) hp
  rw [mp_zero n, Nat.zero_mul, Nat.add_zero, Nat.zero_add] at h3
  exact h3
theorem mp_single2 {m b n p v : Nat} (e : 2 ^ m = b) (hp : p < n) : mp b (fun j => if j = p then v else 0) n = v * 2 ^ (m * p) := by
  rw [mp_single hp, ← e, Nat.pow_mul]
