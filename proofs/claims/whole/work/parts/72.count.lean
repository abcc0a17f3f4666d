/-! SUMS: how many least vectors there can be -/
theorem zbd {p : Nat} : ∀ L : List (Nat → Int), ∃ M : Nat, ∀ d, d ∈ L → (d p).natAbs < M
  | [] => ⟨0, fun d h => absurd h List.not_mem_nil⟩
  | d :: L => by
    obtain ⟨M, h⟩ := zbd (p := p) L
    refine ⟨M + (d p).natAbs + 1, fun e he => ?_⟩
    rcases List.mem_cons.mp he with z | z
    · rw [z]
      omega
    · have := h e z
      omega
/-- a measure that tells all of them from zero -/
theorem gen : ∀ L : List (Nat → Int), (∀ d, d ∈ L → ∃ p, p < 10 ∧ d p ≠ 0) → ∃ f : Nat → Int, ∀ d, d ∈ L → zs (fun p => f p * d p) 10 ≠ 0
  | [], _ => ⟨fun _ => 0, fun d h => absurd h List.not_mem_nil⟩
  | d :: L, hL => by
    obtain ⟨f, hf⟩ := gen L (fun e he => hL e (List.mem_cons_of_mem _ he))
    by_cases z : zs (fun p => f p * d p) 10 = 0
    · obtain ⟨p, hp, hd⟩ := hL d List.mem_cons_self
      obtain ⟨M, hM⟩ := zbd (p := p) L
      have ev : ∀ e : Nat → Int, zs (fun q => ((M : Int) * f q + dl p q) * e q) 10 = (M : Int) * zs (fun q => f q * e q) 10 + e p := fun e => by
        have e1 : zs (fun q => ((M : Int) * f q + dl p q) * e q) 10 = zs (fun q => (M : Int) * (f q * e q) + dl p q * e q) 10 := zs_congr _ fun q _ => by rw [Int.add_mul, Int.mul_assoc]
        rw [e1, zs_add, zs_mul, zs_one (f := fun q => dl p q * e q) (q := p) 10 hp (fun q _ hq => by
          show dl p q * e q = 0
          rw [show dl p q = 0 from if_neg hq, Int.zero_mul])]
        show _ + dl p p * e p = _
        rw [show dl p p = 1 from if_pos rfl, Int.one_mul]
      refine ⟨fun q => (M : Int) * f q + dl p q, fun e he => ?_⟩
      show zs (fun q => ((M : Int) * f q + dl p q) * e q) 10 ≠ 0
      rw [ev e]
      rcases List.mem_cons.mp he with g | g
      · rw [g, z, Int.mul_zero]
        omega
      · have h1 := hf e g
        have h2 := hM e g
        intro c
        have h3 : ((M : Int) * zs (fun q => f q * e q) 10).natAbs = (e p).natAbs := by omega
        rw [Int.natAbs_mul] at h3
        have h4 : M * 1 ≤ M * (zs (fun q => f q * e q) 10).natAbs := Nat.mul_le_mul_left _ (by omega)
        have h5 : ((M : Nat) : Int).natAbs = M := Int.natAbs_natCast M
        rw [h5] at h3
        omega
    · refine ⟨f, fun e he => ?_⟩
      rcases List.mem_cons.mp he with g | g
      · rw [g]
        exact z
      · exact hf e g
theorem min_ex {R : Nat → Nat → Prop} : ∀ l : List Nat, l ≠ [] → (∀ a b, a ∈ l → b ∈ l → a ≠ b → R a b ∨ R b a) → (∀ a b c, a ∈ l → b ∈ l → c ∈ l → R a b → R b c → R a c) → ∃ v, v ∈ l ∧ ∀ u, u ∈ l → u ≠ v → R v u
  | [], h, _, _ => absurd rfl h
  | [a], _, _, _ => ⟨a, List.mem_cons_self, fun u hu hne => absurd (by simpa using hu) hne⟩
  | a :: b :: l, _, tot, tr => by
    obtain ⟨v, v1, v2⟩ := min_ex (R := R) (b :: l) (by intro c; cases c) (fun x y hx hy => tot x y (List.mem_cons_of_mem _ hx) (List.mem_cons_of_mem _ hy)) (fun x y z hx hy hz => tr x y z (List.mem_cons_of_mem _ hx) (List.mem_cons_of_mem _ hy) (List.mem_cons_of_mem _ hz))
    have vm := List.mem_cons_of_mem a v1
    by_cases e : a = v
    · refine ⟨v, vm, fun u hu hne => ?_⟩
      rcases List.mem_cons.mp hu with z | z
      · exact absurd (z.trans e) hne
      · exact v2 u z hne
    · rcases tot a v List.mem_cons_self vm e with g | g
      · refine ⟨a, List.mem_cons_self, fun u hu hne => ?_⟩
        rcases List.mem_cons.mp hu with z | z
        · exact absurd z hne
        · by_cases c : u = v
          · rw [c]
            exact g
          · exact tr a v u List.mem_cons_self vm hu g (v2 u z c)
      · refine ⟨v, vm, fun u hu hne => ?_⟩
        rcases List.mem_cons.mp hu with z | z
        · rw [z]
          exact g
        · exact v2 u z hne
theorem len_cn {Q : Nat → Bool} : ∀ n, ((List.range n).filter Q).length = cn Q n
  | 0 => rfl
  | n + 1 => by
    rw [List.range_succ, List.filter_append, List.length_append, len_cn n, cn_s]
    congr 1
    cases e : Q n with
    | true => rw [List.filter_cons, e]; rfl
    | false => rw [List.filter_cons, e]; rfl
theorem cn_two {A B T : Nat → Bool} (h : ∀ q, (A q = true → T q = true) ∧ (B q = true → T q = true) ∧ ¬ (A q = true ∧ B q = true)) : ∀ n, cn A n + cn B n ≤ cn T n
  | 0 => Nat.le_refl _
  | n + 1 => by
    have ih := cn_two h n
    have hn := h n
    rw [cn_s, cn_s, cn_s]
    cases a : A n with
    | true =>
      cases b : B n with
      | true => exact absurd ⟨a, b⟩ hn.2.2
      | false =>
        rw [hn.1 a]
        show cn A n + 1 + (cn B n + 0) ≤ cn T n + 1
        omega
    | false =>
      cases b : B n with
      | true =>
        rw [hn.2.1 b]
        show cn A n + 0 + (cn B n + 1) ≤ cn T n + 1
        omega
      | false => show cn A n + 0 + (cn B n + 0) ≤ cn T n + _; omega
theorem cn_not {Q : Nat → Bool} : ∀ n, cn Q n + cn (fun q => ! Q q) n = n
  | 0 => rfl
  | n + 1 => by
    have ih := cn_not (Q := Q) n
    rw [cn_s, cn_s]
    cases Q n with
    | true => show cn Q n + 1 + (cn (fun q => ! Q q) n + 0) = n + 1; omega
    | false => show cn Q n + 0 + (cn (fun q => ! Q q) n + 1) = n + 1; omega
theorem cn_off {P : Nat} {M : Nat → Bool} (h : ∀ q, M q = true → q < P) : ∀ n, cn (fun q => decide (q < P) && ! M q) n + cn M n = cn (fun q => decide (q < P)) n
  | 0 => rfl
  | n + 1 => by
    have ih := cn_off h n
    rw [cn_s, cn_s, cn_s]
    cases e : M n with
    | true =>
      rw [decide_eq_true (h n e)]
      show cn (fun q => decide (q < P) && ! M q) n + 0 + (cn M n + 1) = _ + 1
      omega
    | false =>
      rw [Bool.not_false, Bool.and_true]
      show _ + _ + (cn M n + 0) = _
      omega
theorem cn_P : ∀ P, P < 11 → cn (fun q => decide (q < P)) 10 = P := by decide
theorem zs_le0 {f : Nat → Int} : ∀ n, (∀ p, p < n → f p ≤ 0) → zs f n ≤ 0
  | 0, _ => Int.le_refl _
  | n + 1, h => by
    have := zs_le0 n (fun p hp => h p (by omega))
    have := h n (by omega)
    show zs f n + f n ≤ 0
    omega
theorem zs_neg {f : Nat → Int} (n : Nat) : zs (fun p => - f p) n = - zs f n := by
  have := zs_mul (f := f) (a := -1) n
  simp only [Int.neg_mul, Int.one_mul] at this
  exact this
/-- tokens of a vector together -/
def nv (x : Nat → Nat) : Nat := sm0 x 10
theorem nv_zs {x : Nat → Nat} : ∀ n, ((sm0 x n : Nat) : Int) = zs (fun p => (x p : Int)) n
  | 0 => rfl
  | n + 1 => by
    show ((sm0 x n + x n : Nat) : Int) = zs (fun p => (x p : Int)) n + (x n : Int)
    rw [← nv_zs n]
    omega
theorem nv_ge {x : Nat → Nat} {p : Nat} : ∀ n, p < n → x p ≤ sm0 x n
  | 0, h => absurd h (by omega)
  | n + 1, h => by
    show x p ≤ sm0 x n + x n
    by_cases e : p = n
    · rw [e]
      omega
    · have := nv_ge (x := x) n (show p < n by omega)
      omega
section COUNT
variable {m : Nat → Nat} {t r : Nat} {W : Nat → Int}
def fv (f : Nat → Int) (x : Nat → Nat) : Int := zs (fun p => f p * (x p : Int)) 10
/-- the faces where a least vector is highest, and lowest -/
theorem faces (hw : wb m) (ht : t ≤ 8) (hB : bsW m t r W) {v : Nat → Nat} (hv : ray (Kc m t) v) (f : Nat → Int) : ∃ A B : List Nat, A.length + B.length + (r + 1) ≤ m 0 ∧ (∀ q, q ∈ A → q < 10 ∧ v q = 0) ∧ (∀ q, q ∈ B → q < 10 ∧ v q = 0) ∧ ((List.range 10).filter (fun q => decide (v q ≠ 0))).length ≤ r + 1 ∧ (∀ u, Kc m t u → (∀ q, q ∈ A → u q = 0) → fv f u * (nv v : Int) ≤ fv f v * (nv u : Int)) ∧ ∀ u, Kc m t u → (∀ q, q ∈ B → u q = 0) → fv f v * (nv u : Int) ≤ fv f u * (nv v : Int) := by
  have w0 := hw.1
  -- the measure
  have gx : ∀ x : Nat → Nat, zs (fun p => (f p * (nv v : Int) - fv f v) * (x p : Int)) 10 = fv f x * (nv v : Int) - fv f v * (nv x : Int) := fun x => by
    have e1 : zs (fun p => (f p * (nv v : Int) - fv f v) * (x p : Int)) 10 = zs (fun p => (nv v : Int) * (f p * (x p : Int)) + (- fv f v) * (x p : Int)) 10 := zs_congr _ fun p _ => by
      rw [Int.sub_mul, Int.neg_mul, Int.mul_right_comm, Int.mul_comm (nv v : Int)]
      omega
    rw [e1, zs_add, zs_mul, zs_mul, ← nv_zs 10, Int.neg_mul, Int.mul_comm (nv v : Int)]
    show zs (fun p => f p * (x p : Int)) 10 * (nv v : Int) + -(fv f v * (nv x : Int)) = _
    unfold fv
    omega
  obtain ⟨M, p, Λ, h, hM, h1, h2, h3, Λ0, hd⟩ := dual hw ht hB hv (g := fun p => f p * (nv v : Int) - fv f v) (by
    rw [gx v, Int.sub_self])
  have hlt := bas_lt w0 hM.1
  have hr : bz M = r := Classical.byContradiction fun c => hM.2 (hB.1 M hlt c)
  have hMq : ∀ q, M.testBit q = true → q < m 0 := fun q hq => by
    have := sub_iff.mp hM.1 q hq
    rw [full_tb] at this
    exact of_decide_eq_true this
  have vT : ∀ q, (off m M q && decide (q ≠ p)) = true → v q = 0 := fun q hq => Classical.byContradiction fun d => by
    rw [Bool.and_eq_true] at hq
    have hq1 := hq.1
    unfold off at hq1
    rw [Bool.and_eq_true, Bool.not_eq_true'] at hq1
    rcases h3 q d with z | z
    · exact of_decide_eq_true hq.2 z
    · rw [z] at hq1
      exact absurd hq1.2 (by decide)
  have ex : ∀ u, Kc m t u → (Λ : Int) * (fv f u * (nv v : Int) - fv f v * (nv u : Int)) = zs (fun q => cond (off m M q && decide (q ≠ p)) ((u q : Int) * h q) 0) 10 := fun u hu => by
    rw [← gx u]
    exact hd (fun q => (u q : Int)) (fun i hi => by
      rw [er_zs w0 (by omega)]
      exact hu.2 i hi) (fun q hq => by
      show ((u q : Nat) : Int) = 0
      rw [hu.1 q hq]
      rfl)
  refine ⟨(List.range 10).filter (fun q => (off m M q && decide (q ≠ p)) && decide (0 < h q)), (List.range 10).filter (fun q => (off m M q && decide (q ≠ p)) && decide (h q < 0)), ?_, fun q hq => ?_, fun q hq => ?_, ?_, fun u hu hz => ?_, fun u hu hz => ?_⟩
  · rw [len_cn, len_cn]
    have c1 := cn_two (A := fun q => (off m M q && decide (q ≠ p)) && decide (0 < h q)) (B := fun q => (off m M q && decide (q ≠ p)) && decide (h q < 0)) (T := fun q => off m M q && decide (q ≠ p)) (fun q => ⟨fun z => by rw [Bool.and_eq_true] at z; exact z.1, fun z => by rw [Bool.and_eq_true] at z; exact z.1, fun ⟨z1, z2⟩ => by
      rw [Bool.and_eq_true] at z1 z2
      have := of_decide_eq_true z1.2
      have := of_decide_eq_true z2.2
      omega⟩) 10
    have c2 := cn_drop (Q := off m M) (R := fun q => off m M q && decide (q ≠ p)) (p := p) (fun q => rfl) (by
      unfold off
      rw [decide_eq_true h1, h2]
      rfl) 10 (by omega)
    have c3 : cn (off m M) 10 + cn (fun q => M.testBit q) 10 = cn (fun q => decide (q < m 0)) 10 := cn_off hMq 10
    rw [cn_P (m 0) (by omega)] at c3
    have c4 : cn (fun q => M.testBit q) 10 = r := hr
    omega
  · have := List.mem_filter.mp hq
    have z := this.2
    rw [Bool.and_eq_true] at z
    exact ⟨List.mem_range.mp this.1, vT q z.1⟩
  · have := List.mem_filter.mp hq
    have z := this.2
    rw [Bool.and_eq_true] at z
    exact ⟨List.mem_range.mp this.1, vT q z.1⟩
  · rw [len_cn]
    have hin := or_in w0 hM.1 h1
    have hlt2 := bas_lt w0 hin
    have c1 : cn (fun q => decide (v q ≠ 0)) 10 ≤ cn (fun q => (M ||| 2 ^ p).testBit q) 10 := cn_mono 10 fun q _ hq => by
      rw [or_tb]
      rcases h3 q (of_decide_eq_true hq) with z | z
      · rw [z, decide_eq_true rfl, Bool.or_true]
      · rw [z]
        rfl
    have c2 := bz_sub hlt2 (show p < 10 by omega) (by rw [or_tb, decide_eq_true rfl, Bool.or_true])
    rw [or_sub hlt2 (by omega) h2, hr] at c2
    have c3 : cn (fun q => (M ||| 2 ^ p).testBit q) 10 = bz (M ||| 2 ^ p) := rfl
    omega
  · have e := ex u hu
    have le : zs (fun q => cond (off m M q && decide (q ≠ p)) ((u q : Int) * h q) 0) 10 ≤ 0 := zs_le0 10 fun q hq => by
      cases g : (off m M q && decide (q ≠ p)) with
      | false => exact Int.le_refl _
      | true =>
        show (u q : Int) * h q ≤ 0
        by_cases c : 0 < h q
        · have := hz q (List.mem_filter.mpr ⟨List.mem_range.mpr hq, by rw [g, decide_eq_true c]; rfl⟩)
          rw [this]
          show (0 : Int) * h q ≤ 0
          omega
        · have := Int.mul_le_mul_of_nonneg_left (c := (u q : Int)) (show h q ≤ 0 by omega) (by omega)
          rw [Int.mul_zero] at this
          exact this
    rw [← e] at le
    refine Classical.byContradiction fun c => ?_
    have := Int.mul_pos (show (0 : Int) < (Λ : Int) by omega) (show 0 < fv f u * (nv v : Int) - fv f v * (nv u : Int) by omega)
    omega
  · have e := ex u hu
    have le : zs (fun q => - cond (off m M q && decide (q ≠ p)) ((u q : Int) * h q) 0) 10 ≤ 0 := zs_le0 10 fun q hq => by
      cases g : (off m M q && decide (q ≠ p)) with
      | false => exact Int.le_refl _
      | true =>
        show - ((u q : Int) * h q) ≤ 0
        by_cases c : h q < 0
        · have := hz q (List.mem_filter.mpr ⟨List.mem_range.mpr hq, by rw [g, decide_eq_true c]; rfl⟩)
          rw [this]
          show - ((0 : Int) * h q) ≤ 0
          omega
        · have := Int.mul_nonneg (show (0 : Int) ≤ (u q : Int) by omega) (show 0 ≤ h q by omega)
          omega
    rw [zs_neg, ← e] at le
    refine Classical.byContradiction fun c => ?_
    have := Int.mul_pos (show (0 : Int) < (Λ : Int) by omega) (show 0 < - (fv f u * (nv v : Int) - fv f v * (nv u : Int)) by omega)
    rw [Int.mul_neg] at this
    omega
end COUNT
