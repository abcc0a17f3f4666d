/-! SUMS: at most 64 least vectors -/
def ml : Nat → Nat → Nat
  | 0 => fun b => if b = 0 then 1 else 0
  | k + 1 => fun b => sm0 (ml k) (b + 1)
theorem ml_0 : ∀ k, ml k 0 = 1
  | 0 => rfl
  | k + 1 => by
    show 0 + ml k 0 = 1
    rw [ml_0 k]
theorem ml_mon : ∀ k b, (mon k b).length = ml k b
  | k, 0 => by
    rw [mon_0, ml_0]
    rfl
  | 0, b + 1 => by
    rw [mon]
    rfl
  | k + 1, b + 1 => by
    rw [mon_s, List.length_append, List.length_map, ml_mon k (b + 1), ml_mon (k + 1) b, Nat.add_comm]
    rfl
theorem ml_64 : ∀ P, P < 11 → ∀ r, r < 9 → ml ((P - (r + 1)) / 2 + 1) (r + 1) + ml ((P - (r + 1)) - (P - (r + 1)) / 2) (r + 1) ≤ 64 := by decide +kernel
theorem rtr {a b c d e f : Int} (hb : 0 < b) (hd : 0 < d) (hf : 0 < f) (h1 : a * d < c * b) (h2 : c * f < e * d) : a * f < e * b := by
  have k1 : a * d * f < c * b * f := Int.mul_lt_mul_of_pos_right h1 hf
  have k2 : c * f * b < e * d * b := Int.mul_lt_mul_of_pos_right h2 hb
  rw [Int.mul_right_comm a d f] at k1
  rw [Int.mul_right_comm c b f] at k1
  rw [Int.mul_right_comm e d b] at k2
  exact Int.lt_of_mul_lt_mul_right (Int.lt_trans k1 k2) (Int.le_of_lt hd)
/-- a list made longer by numbers from k on -/
def pad (l : List Nat) (n k : Nat) : List Nat := l ++ (List.range (n - l.length)).map (· + k)
theorem pad_len {l : List Nat} {n k : Nat} (h : l.length ≤ n) : (pad l n k).length = n := by
  unfold pad
  rw [List.length_append, List.length_map, List.length_range]
  omega
theorem pad_mem {l : List Nat} {n k q : Nat} (h : q ∈ pad l n k) : q ∈ l ∨ (k ≤ q ∧ q < k + n) := by
  unfold pad at h
  rcases List.mem_append.mp h with z | z
  · exact Or.inl z
  · obtain ⟨x, x1, x2⟩ := List.mem_map.mp z
    have := List.mem_range.mp x1
    exact Or.inr (by omega)
theorem ray_count {m : Nat → Nat} {t n : Nat} (hw : wb m) (ht : t ≤ 8) {u : Nat → Nat → Nat} (hu : ∀ i, i < n → ray (Kc m t) (u i)) (hi : ∀ i j, i < n → j < n → u i = u j → i = j) : n ≤ 64 := by
  have w0 := hw.1
  have hC := Kc_cone w0 t
  obtain ⟨r, W, hr, hB⟩ := bsW_ex (t := t) hw
  have npos : ∀ i, i < n → (0 : Int) < (nv (u i) : Int) := fun i h => by
    obtain ⟨p, hp⟩ := (hu i h).2.1
    have := nv_ge (x := u i) 10 (ten hC (hu i h).1 hp)
    show (0 : Int) < ((sm0 (u i) 10 : Nat) : Int)
    omega
  -- a measure that tells them all apart
  obtain ⟨f, hf⟩ := gen ((List.range n).flatMap fun i => ((List.range n).filter fun j => decide (j ≠ i)).map fun j p => (u j p : Int) * (nv (u i) : Int) - (u i p : Int) * (nv (u j) : Int)) (fun d hd => by
    obtain ⟨i, i1, i2⟩ := List.mem_flatMap.mp hd
    obtain ⟨j, j1, j2⟩ := List.mem_map.mp i2
    have i1 := List.mem_range.mp i1
    have j3 := List.mem_filter.mp j1
    have j4 := List.mem_range.mp j3.1
    have ne : j ≠ i := of_decide_eq_true j3.2
    refine Classical.byContradiction fun c => ne ?_
    refine hi j i j4 i1 (funext (prim_eq (hu j j4).2.2.2 (hu i i1).2.2.2 (a := nv (u i)) (b := nv (u j)) (by have := npos i i1; omega) (by have := npos j j4; omega) fun p => ?_))
    by_cases hp : p < 10
    · have e : d p = 0 := Classical.byContradiction fun z => c ⟨p, hp, z⟩
      rw [← j2] at e
      have e : (u j p : Int) * (nv (u i) : Int) - (u i p : Int) * (nv (u j) : Int) = 0 := e
      have e2 : ((nv (u i) * u j p : Nat) : Int) = ((nv (u j) * u i p : Nat) : Int) := by
        rw [Int.natCast_mul, Int.natCast_mul, Int.mul_comm (nv (u i) : Int), Int.mul_comm (nv (u j) : Int)]
        omega
      exact Int.ofNat.inj e2
    · rw [hC.2.2.2 _ (hu j j4).1 p (by omega), hC.2.2.2 _ (hu i i1).1 p (by omega), Nat.mul_zero, Nat.mul_zero])
  have tot : ∀ i j, i < n → j < n → i ≠ j → fv f (u i) * (nv (u j) : Int) < fv f (u j) * (nv (u i) : Int) ∨ fv f (u j) * (nv (u i) : Int) < fv f (u i) * (nv (u j) : Int) := fun i j h1 h2 h3 => by
    have := hf (fun p => (u j p : Int) * (nv (u i) : Int) - (u i p : Int) * (nv (u j) : Int)) (List.mem_flatMap.mpr ⟨i, List.mem_range.mpr h1, List.mem_map.mpr ⟨j, List.mem_filter.mpr ⟨List.mem_range.mpr h2, decide_eq_true (fun c => h3 c.symm)⟩, rfl⟩⟩)
    have e : zs (fun p => f p * ((u j p : Int) * (nv (u i) : Int) - (u i p : Int) * (nv (u j) : Int))) 10 = (nv (u i) : Int) * fv f (u j) + (- (nv (u j) : Int)) * fv f (u i) := by
      unfold fv
      rw [← zs_mul, ← zs_mul, ← zs_add]
      refine zs_congr _ fun p _ => ?_
      rw [Int.mul_sub, Int.neg_mul, ← Int.mul_assoc, ← Int.mul_assoc, Int.mul_comm (nv (u i) : Int), Int.mul_comm (nv (u j) : Int)]
      omega
    rw [e, Int.neg_mul, Int.mul_comm (nv (u i) : Int), Int.mul_comm (nv (u j) : Int)] at this
    omega
  have tr : ∀ i j k, i < n → j < n → k < n → fv f (u i) * (nv (u j) : Int) < fv f (u j) * (nv (u i) : Int) → fv f (u j) * (nv (u k) : Int) < fv f (u k) * (nv (u j) : Int) → fv f (u i) * (nv (u k) : Int) < fv f (u k) * (nv (u i) : Int) := fun i j k h1 h2 h3 => rtr (npos i h1) (npos j h2) (npos k h3)
  -- faces of each
  have fac : ∀ i, ∃ AB : List Nat × List Nat, i < n → AB.1.length + AB.2.length + (r + 1) ≤ m 0 ∧ (∀ q, q ∈ AB.1 → q < 10 ∧ u i q = 0) ∧ (∀ q, q ∈ AB.2 → q < 10 ∧ u i q = 0) ∧ ((List.range 10).filter (fun q => decide (u i q ≠ 0))).length ≤ r + 1 ∧ (∀ x, Kc m t x → (∀ q, q ∈ AB.1 → x q = 0) → fv f x * (nv (u i) : Int) ≤ fv f (u i) * (nv x : Int)) ∧ ∀ x, Kc m t x → (∀ q, q ∈ AB.2 → x q = 0) → fv f (u i) * (nv x : Int) ≤ fv f x * (nv (u i) : Int) := fun i => by
    by_cases h : i < n
    · obtain ⟨A, B, h1⟩ := faces hw ht hB (hu i h) f
      exact ⟨(A, B), fun _ => h1⟩
    · exact ⟨([], []), fun c => absurd c h⟩
  obtain ⟨AB, hAB⟩ := Classical.axiomOfChoice fac
  -- how they split
  have spl := cn_not (Q := fun i => decide ((AB i).1.length ≤ (m 0 - (r + 1)) / 2)) n
  rw [← len_cn, ← len_cn] at spl
  have sup : ∀ i, i < n → ∀ q, q ∈ pad ((List.range 10).filter (fun q => decide (u i q ≠ 0))) (r + 1) 10 → (q < 10 ∧ u i q ≠ 0) ∨ (10 ≤ q ∧ q < 20) := fun i _ q hq => by
    rcases pad_mem hq with z | z
    · have := List.mem_filter.mp z
      exact Or.inl ⟨List.mem_range.mp this.1, of_decide_eq_true this.2⟩
    · exact Or.inr (by omega)
  have k1 : ((List.range n).filter fun i => decide ((AB i).1.length ≤ (m 0 - (r + 1)) / 2)).length ≤ (mon ((m 0 - (r + 1)) / 2 + 1) (r + 1)).length := by
    have inl : ∀ i, i ∈ (List.range n).filter (fun i => decide ((AB i).1.length ≤ (m 0 - (r + 1)) / 2)) → i < n ∧ (AB i).1.length ≤ (m 0 - (r + 1)) / 2 := fun i h => by
      have := List.mem_filter.mp h
      exact ⟨List.mem_range.mp this.1, of_decide_eq_true this.2⟩
    refine skew (A := fun i => pad (AB i).1 ((m 0 - (r + 1)) / 2) 30) (B := fun i => pad ((List.range 10).filter (fun q => decide (u i q ≠ 0))) (r + 1) 10) (lt := fun i j => fv f (u i) * (nv (u j) : Int) < fv f (u j) * (nv (u i) : Int)) (List.nodup_range.filter _) (fun i h => pad_len (inl i h).2) (fun i h => pad_len (hAB i (inl i h).1).2.2.2.1) (fun i h q hq hq2 => ?_) (fun i j hi hj hlt => ?_) (fun l' hl hne => min_ex l' hne (fun a b ha hb => tot a b (inl a (hl a ha)).1 (inl b (hl b hb)).1) (fun a b c ha hb hc => tr a b c (inl a (hl a ha)).1 (inl b (hl b hb)).1 (inl c (hl c hc)).1))
    · have hin := (inl i h).1
      rcases pad_mem hq2 with z | z
      · have := (hAB i hin).2.1 q z
        rcases sup i hin q hq with y | y
        · exact y.2 this.2
        · omega
      · rcases sup i hin q hq with y | y
        · omega
        · omega
    · have hin := (inl i hi).1
      have hjn := (inl j hj).1
      refine Classical.byContradiction fun c => ?_
      have := (hAB j hjn).2.2.2.2.1 (u i) (hu i hin).1 (fun q hq => Classical.byContradiction fun d => c ⟨q, List.mem_append_left _ (List.mem_filter.mpr ⟨List.mem_range.mpr ((hAB j hjn).2.1 q hq).1, decide_eq_true d⟩), List.mem_append_left _ hq⟩)
      omega
  have k2 : ((List.range n).filter fun i => ! decide ((AB i).1.length ≤ (m 0 - (r + 1)) / 2)).length ≤ (mon ((m 0 - (r + 1)) - (m 0 - (r + 1)) / 2) (r + 1)).length := by
    have inl : ∀ i, i ∈ (List.range n).filter (fun i => ! decide ((AB i).1.length ≤ (m 0 - (r + 1)) / 2)) → i < n ∧ ¬ (AB i).1.length ≤ (m 0 - (r + 1)) / 2 := fun i h => by
      have := List.mem_filter.mp h
      have z := this.2
      rw [Bool.not_eq_true'] at z
      exact ⟨List.mem_range.mp this.1, of_decide_eq_false z⟩
    by_cases em : (List.range n).filter (fun i => ! decide ((AB i).1.length ≤ (m 0 - (r + 1)) / 2)) = []
    · rw [em]
      exact Nat.zero_le _
    · obtain ⟨i0, hi0⟩ := List.exists_mem_of_ne_nil _ em
      have b0 := (hAB i0 (inl i0 hi0).1).1
      have b1 := (inl i0 hi0).2
      have ea : (m 0 - (r + 1)) - (m 0 - (r + 1)) / 2 = ((m 0 - (r + 1)) - (m 0 - (r + 1)) / 2 - 1) + 1 := by omega
      rw [ea]
      refine skew (A := fun i => pad (AB i).2 ((m 0 - (r + 1)) - (m 0 - (r + 1)) / 2 - 1) 30) (B := fun i => pad ((List.range 10).filter (fun q => decide (u i q ≠ 0))) (r + 1) 10) (lt := fun i j => fv f (u j) * (nv (u i) : Int) < fv f (u i) * (nv (u j) : Int)) (List.nodup_range.filter _) (fun i h => pad_len ?_) (fun i h => pad_len (hAB i (inl i h).1).2.2.2.1) (fun i h q hq hq2 => ?_) (fun i j hi hj hlt => ?_) (fun l' hl hne => min_ex l' hne (fun a b ha hb hab => (tot a b (inl a (hl a ha)).1 (inl b (hl b hb)).1 hab).symm) (fun a b c ha hb hc h1 h2 => tr c b a (inl c (hl c hc)).1 (inl b (hl b hb)).1 (inl a (hl a ha)).1 h2 h1))
      · have := (hAB i (inl i h).1).1
        have := (inl i h).2
        omega
      · have hin := (inl i h).1
        rcases pad_mem hq2 with z | z
        · have := (hAB i hin).2.2.1 q z
          rcases sup i hin q hq with y | y
          · exact y.2 this.2
          · omega
        · rcases sup i hin q hq with y | y
          · omega
          · omega
      · have hin := (inl i hi).1
        have hjn := (inl j hj).1
        refine Classical.byContradiction fun c => ?_
        have := (hAB j hjn).2.2.2.2.2 (u i) (hu i hin).1 (fun q hq => Classical.byContradiction fun d => c ⟨q, List.mem_append_left _ (List.mem_filter.mpr ⟨List.mem_range.mpr ((hAB j hjn).2.2.1 q hq).1, decide_eq_true d⟩), List.mem_append_left _ hq⟩)
        omega
  rw [ml_mon] at k1 k2
  have k3 := ml_64 (m 0) (by omega) r (by omega)
  omega
