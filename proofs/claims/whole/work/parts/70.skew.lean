/-! SUMS: sets that meet in one order, counted by polynomials -/
def ls (f : Nat → Int) : List Nat → Int
  | [] => 0
  | u :: l => f u + ls f l
theorem ls_cg {f g : Nat → Int} : ∀ l, (∀ u, u ∈ l → f u = g u) → ls f l = ls g l
  | [], _ => rfl
  | u :: l, h => by
    show f u + ls f l = g u + ls g l
    rw [h u List.mem_cons_self, ls_cg l (fun v hv => h v (List.mem_cons_of_mem _ hv))]
theorem ls_mul {f : Nat → Int} {a : Int} : ∀ l, ls (fun u => a * f u) l = a * ls f l
  | [] => by show (0 : Int) = a * 0; omega
  | u :: l => by
    show a * f u + ls (fun u => a * f u) l = a * (f u + ls f l)
    rw [ls_mul l, Int.mul_add]
theorem ls_add {f g : Nat → Int} : ∀ l, ls (fun u => f u + g u) l = ls f l + ls g l
  | [] => rfl
  | u :: l => by
    show f u + g u + ls (fun u => f u + g u) l = f u + ls f l + (g u + ls g l)
    rw [ls_add l]
    omega
theorem ls_erase {f : Nat → Int} {v : Nat} : ∀ l, v ∈ l → ls f l = f v + ls f (l.erase v)
  | [], h => absurd h List.not_mem_nil
  | u :: l, h => by
    by_cases e : u = v
    · rw [e, List.erase_cons_head]
      rfl
    · rw [List.erase_cons_tail (by simpa using e)]
      show f u + ls f l = f v + (f u + ls f (l.erase v))
      rw [ls_erase l ((List.mem_cons.mp h).resolve_left (fun c => e c.symm))]
      omega
theorem ls_one {f : Nat → Int} {v : Nat} {l : List Nat} (hv : v ∈ l) (hn : l.Nodup) (h : ∀ u, u ∈ l → u ≠ v → f u = 0) : ls f l = f v := by
  rw [ls_erase l hv]
  have : ls f (l.erase v) = ls (fun _ => 0 * 0) (l.erase v) := ls_cg _ fun u hu => by
    have := (List.Nodup.mem_erase_iff hn).mp hu
    rw [h u this.2 this.1]
    rfl
  rw [this, ls_mul]
  omega
/-- more vectors than coordinates: a relation -/
theorem dep : ∀ (D : Nat) (l : List Nat) (c : Nat → Nat → Int), l.Nodup → D < l.length → ∃ r : Nat → Int, (∃ u, u ∈ l ∧ r u ≠ 0) ∧ ∀ k, k < D → ls (fun u => r u * c u k) l = 0
  | 0, l, c, _, h => by
    cases l with
    | nil => exact absurd h (by show ¬ 0 < 0; omega)
    | cons u l => exact ⟨fun _ => 1, ⟨u, List.mem_cons_self, by show (1 : Int) ≠ 0; decide⟩, fun k hk => absurd hk (by omega)⟩
  | D + 1, l, c, hn, h => by
    by_cases e : ∃ v, v ∈ l ∧ c v D ≠ 0
    · obtain ⟨v, v1, v2⟩ := e
      have hlen := List.length_erase_of_mem v1
      obtain ⟨r, ⟨u, u1, u2⟩, h3⟩ := dep D (l.erase v) (fun u k => c v D * c u k + (- c u D) * c v k) (hn.erase v) (by omega)
      have um := (List.Nodup.mem_erase_iff hn).mp u1
      refine ⟨fun u => if u = v then - ls (fun u => r u * c u D) (l.erase v) else c v D * r u, ⟨u, um.2, ?_⟩, fun k hk => ?_⟩
      · show (if u = v then - ls (fun u => r u * c u D) (l.erase v) else c v D * r u) ≠ 0
        rw [if_neg um.1]
        exact Int.mul_ne_zero v2 u2
      · rw [ls_erase l v1]
        show (if v = v then - ls (fun u => r u * c u D) (l.erase v) else c v D * r v) * c v k + ls (fun u => (if u = v then - ls (fun u => r u * c u D) (l.erase v) else c v D * r u) * c u k) (l.erase v) = 0
        rw [if_pos rfl]
        have e1 : ls (fun u => (if u = v then - ls (fun u => r u * c u D) (l.erase v) else c v D * r u) * c u k) (l.erase v) = ls (fun u => c v D * (r u * c u k)) (l.erase v) := ls_cg _ fun u hu => by
          rw [if_neg ((List.Nodup.mem_erase_iff hn).mp hu).1, Int.mul_assoc]
        rw [e1, ls_mul, Int.neg_mul]
        by_cases ek : k = D
        · rw [ek, Int.mul_comm (ls _ _)]
          omega
        · have h4 := h3 k (by omega)
          have e2 : ls (fun u => r u * (c v D * c u k + (- c u D) * c v k)) (l.erase v) = ls (fun u => c v D * (r u * c u k) + (- c v k) * (r u * c u D)) (l.erase v) := ls_cg _ fun u _ => by
            rw [Int.mul_add, Int.mul_left_comm, Int.neg_mul, Int.neg_mul, Int.mul_neg, Int.mul_comm (c u D) (c v k), Int.mul_left_comm (r u) (c v k)]
          rw [e2, ls_add, ls_mul, ls_mul, Int.neg_mul] at h4
          rw [Int.mul_comm (ls _ _)]
          omega
    · obtain ⟨r, h1, h2⟩ := dep D l c hn (by omega)
      refine ⟨r, h1, fun k hk => ?_⟩
      by_cases ek : k = D
      · have : ls (fun u => r u * c u k) l = ls (fun _ => 0 * 0) l := ls_cg _ fun u hu => by
          have : c u D = 0 := Classical.byContradiction fun z => e ⟨u, hu, z⟩
          rw [ek, this, Int.mul_zero]
          rfl
        rw [this, ls_mul]
        omega
      · exact h2 k (by omega)
/-- products of b of the first k numbers, each once -/
def mon : Nat → Nat → List ((Nat → Int) → Int)
  | _, 0 => [fun _ => 1]
  | 0, _ + 1 => []
  | k + 1, b + 1 => mon k (b + 1) ++ (mon (k + 1) b).map (fun g s => s k * g s)
theorem mon_0 {k : Nat} : mon k 0 = [fun _ => 1] := by
  unfold mon
  cases k <;> rfl
theorem mon_s {k b : Nat} : mon (k + 1) (b + 1) = mon k (b + 1) ++ (mon (k + 1) b).map (fun g s => s k * g s) := by
  rw [mon]
/-- one more factor -/
theorem mon_mul : ∀ k b j g, j < k → g ∈ mon k b → (fun s => s j * g s) ∈ mon k (b + 1)
  | 0, _, _, _, h, _ => absurd h (by omega)
  | k + 1, 0, j, g, h, hg => by
    rw [mon_s]
    by_cases e : j = k
    · rw [e]
      exact List.mem_append_right _ (List.mem_map.mpr ⟨g, hg, rfl⟩)
    · rw [mon_0] at hg
      exact List.mem_append_left _ (mon_mul k 0 j g (by omega) (by rw [mon_0]; exact hg))
  | k + 1, b + 1, j, g, h, hg => by
    rw [mon_s]
    by_cases e : j = k
    · rw [e]
      exact List.mem_append_right _ (List.mem_map.mpr ⟨g, hg, rfl⟩)
    · rw [mon_s] at hg
      rcases List.mem_append.mp hg with z | z
      · exact List.mem_append_left _ (mon_mul k (b + 1) j g (by omega) z)
      · obtain ⟨g', g1, g2⟩ := List.mem_map.mp z
        refine List.mem_append_right _ (List.mem_map.mpr ⟨fun s => s j * g' s, mon_mul (k + 1) b j g' h g1, ?_⟩)
        rw [← g2]
        exact funext fun s => Int.mul_left_comm _ _ _
/-- made of a list of functions -/
def spn (L : List ((Nat → Int) → Int)) (F : (Nat → Int) → Int) : Prop := ∃ c : Nat → Int, ∀ s, F s = zs (fun i => c i * (L.getD i (fun _ => 0)) s) L.length
theorem spn_mem {L : List ((Nat → Int) → Int)} {g : (Nat → Int) → Int} (h : g ∈ L) : spn L g := by
  obtain ⟨i, hi, e⟩ := List.getElem_of_mem h
  have key : ∀ (f : Nat → Int) n, i < n → zs (fun j => (if j = i then 1 else 0) * f j) n = f i := fun f n => by
    induction n with
    | zero => intro h; omega
    | succ n ih =>
      intro h
      show zs (fun j => (if j = i then 1 else 0) * f j) n + (if n = i then 1 else 0) * f n = f i
      by_cases c : n = i
      · have : zs (fun j => (if j = i then 1 else 0) * f j) n = zs (fun _ => 0 * 0) n := zs_congr n fun p hp => by
          rw [if_neg (by omega), Int.zero_mul]
          rfl
        rw [this, zs_mul, if_pos c, c]
        omega
      · rw [ih (by omega), if_neg c]
        omega
  refine ⟨fun j => if j = i then 1 else 0, fun s => ?_⟩
  have := key (fun j => (L.getD j (fun _ => 0)) s) L.length hi
  rw [this, List.getD_eq_getElem?_getD, List.getElem?_eq_getElem hi]
  show g s = (L[i]) s
  rw [e]
theorem spn_add {L : List ((Nat → Int) → Int)} {F G : (Nat → Int) → Int} {a b : Int} (hF : spn L F) (hG : spn L G) : spn L (fun s => a * F s + b * G s) := by
  obtain ⟨c, hc⟩ := hF
  obtain ⟨d, hd⟩ := hG
  refine ⟨fun i => a * c i + b * d i, fun s => ?_⟩
  show a * F s + b * G s = _
  rw [hc s, hd s, ← zs_mul, ← zs_mul, ← zs_add]
  refine zs_congr _ fun i _ => ?_
  show a * (c i * _) + b * (d i * _) = (a * c i + b * d i) * _
  rw [Int.add_mul, Int.mul_assoc, Int.mul_assoc]
theorem spn_0 {L : List ((Nat → Int) → Int)} : spn L (fun _ => 0) := ⟨fun _ => 0, fun s => by
  have : zs (fun i => 0 * (L.getD i (fun _ => 0)) s) L.length = 0 := by
    rw [zs_mul]
    omega
  exact this.symm⟩
/-- a linear form times what is made of products -/
theorem spn_lin {k b : Nat} {F : (Nat → Int) → Int} {w : Nat → Int} (hF : spn (mon k b) F) : spn (mon k (b + 1)) (fun s => zs (fun j => w j * s j) k * F s) := by
  obtain ⟨c, hc⟩ := hF
  -- one number times F
  have one : ∀ j, j < k → spn (mon k (b + 1)) (fun s => s j * F s) := fun j hj => by
    have part : ∀ n, n ≤ (mon k b).length → spn (mon k (b + 1)) (fun s => s j * zs (fun i => c i * ((mon k b).getD i (fun _ => 0)) s) n) := fun n => by
      induction n with
      | zero =>
        intro _
        have : (fun s : Nat → Int => s j * zs (fun i => c i * ((mon k b).getD i (fun _ => 0)) s) 0) = fun _ => 0 := funext fun s => Int.mul_zero _
        rw [this]
        exact spn_0
      | succ n ih =>
        intro hn
        have hm : (mon k b).getD n (fun _ => 0) ∈ mon k b := by
          rw [List.getD_eq_getElem?_getD, List.getElem?_eq_getElem (by omega)]
          exact List.getElem_mem _
        have := spn_add (a := 1) (b := c n) (ih (by omega)) (spn_mem (mon_mul k b j _ hj hm))
        have e : (fun s : Nat → Int => s j * zs (fun i => c i * ((mon k b).getD i (fun _ => 0)) s) (n + 1)) = fun s => 1 * (s j * zs (fun i => c i * ((mon k b).getD i (fun _ => 0)) s) n) + c n * (s j * ((mon k b).getD n (fun _ => 0)) s) := funext fun s => by
          show s j * (zs (fun i => c i * ((mon k b).getD i (fun _ => 0)) s) n + c n * ((mon k b).getD n (fun _ => 0)) s) = _
          rw [Int.mul_add, Int.one_mul, Int.mul_left_comm]
        rw [e]
        exact this
    have := part (mon k b).length (Nat.le_refl _)
    have e : (fun s : Nat → Int => s j * F s) = fun s => s j * zs (fun i => c i * ((mon k b).getD i (fun _ => 0)) s) (mon k b).length := funext fun s => by rw [hc s]
    rw [e]
    exact this
  have part : ∀ n, n ≤ k → spn (mon k (b + 1)) (fun s => zs (fun j => w j * s j) n * F s) := fun n => by
    induction n with
    | zero =>
      intro _
      have : (fun s : Nat → Int => zs (fun j => w j * s j) 0 * F s) = fun _ => 0 := funext fun s => Int.zero_mul _
      rw [this]
      exact spn_0
    | succ n ih =>
      intro hn
      have := spn_add (a := 1) (b := w n) (ih (by omega)) (one n (by omega))
      have e : (fun s : Nat → Int => zs (fun j => w j * s j) (n + 1) * F s) = fun s => 1 * (zs (fun j => w j * s j) n * F s) + w n * (s n * F s) := funext fun s => by
        show (zs (fun j => w j * s j) n + w n * s n) * F s = _
        rw [Int.add_mul, Int.one_mul, Int.mul_assoc]
      rw [e]
      exact this
  exact part k (Nat.le_refl _)
/-- a product over a list of numbers -/
def pr (f : Nat → Int) : List Nat → Int
  | [] => 1
  | p :: l => f p * pr f l
theorem pr_0 {f : Nat → Int} : ∀ l, pr f l = 0 ↔ ∃ p, p ∈ l ∧ f p = 0
  | [] => ⟨fun h => absurd h (by show (1 : Int) ≠ 0; decide), fun ⟨p, h, _⟩ => absurd h List.not_mem_nil⟩
  | q :: l => by
    show f q * pr f l = 0 ↔ _
    rw [Int.mul_eq_zero, pr_0 l]
    constructor
    · intro h
      rcases h with h | ⟨p, h1, h2⟩
      · exact ⟨q, List.mem_cons_self, h⟩
      · exact ⟨p, List.mem_cons_of_mem _ h1, h2⟩
    · intro ⟨p, h1, h2⟩
      rcases List.mem_cons.mp h1 with e | e
      · exact Or.inl (e ▸ h2)
      · exact Or.inr ⟨p, e, h2⟩
theorem pr_spn {k : Nat} : ∀ B : List Nat, spn (mon k B.length) (fun s => pr (fun p => zs (fun j => (p : Int) ^ j * s j) k) B)
  | [] => by
    show spn (mon k 0) (fun _ => 1)
    exact spn_mem (by rw [mon_0]; exact List.mem_cons_self)
  | p :: B => spn_lin (w := fun j => (p : Int) ^ j) (pr_spn B)
/-- the polynomial with given zeros -/
def cf : List Nat → Nat → Int
  | [], j => if j = 0 then 1 else 0
  | q :: A, j => (if j = 0 then 0 else cf A (j - 1)) - (q : Int) * cf A j
theorem cf_top : ∀ (A : List Nat) j, A.length < j → cf A j = 0
  | [], j, h => if_neg (by have h : 0 < j := h; omega)
  | q :: A, j, h => by
    have h : A.length + 1 < j := h
    show (if j = 0 then 0 else cf A (j - 1)) - (q : Int) * cf A j = 0
    rw [if_neg (by omega), cf_top A (j - 1) (by omega), cf_top A j (by omega), Int.mul_zero]
    rfl
theorem cf_ev {p : Nat} : ∀ A : List Nat, zs (fun j => (p : Int) ^ j * cf A j) (A.length + 1) = pr (fun q => (p : Int) - (q : Int)) A
  | [] => by
    show (0 : Int) + (p : Int) ^ 0 * 1 = 1
    rw [Int.pow_zero]
    rfl
  | q :: A => by
    have ih := cf_ev (p := p) A
    show zs (fun j => (p : Int) ^ j * ((if j = 0 then 0 else cf A (j - 1)) - (q : Int) * cf A j)) (A.length + 1 + 1) = ((p : Int) - (q : Int)) * pr (fun q => (p : Int) - (q : Int)) A
    have e1 : ∀ n, zs (fun j => (p : Int) ^ j * ((if j = 0 then 0 else cf A (j - 1)) - (q : Int) * cf A j)) (n + 1) = (p : Int) * zs (fun j => (p : Int) ^ j * cf A j) n - (q : Int) * zs (fun j => (p : Int) ^ j * cf A j) (n + 1) := fun n => by
      induction n with
      | zero =>
        show (0 : Int) + (p : Int) ^ 0 * ((if 0 = 0 then 0 else cf A (0 - 1)) - (q : Int) * cf A 0) = (p : Int) * 0 - (q : Int) * (0 + (p : Int) ^ 0 * cf A 0)
        rw [if_pos rfl, Int.pow_zero]
        simp only [Int.one_mul, Int.zero_add, Int.zero_sub, Int.mul_zero]
      | succ n ihn =>
        show zs (fun j => (p : Int) ^ j * ((if j = 0 then 0 else cf A (j - 1)) - (q : Int) * cf A j)) (n + 1) + (p : Int) ^ (n + 1) * ((if n + 1 = 0 then 0 else cf A (n + 1 - 1)) - (q : Int) * cf A (n + 1)) = (p : Int) * (zs (fun j => (p : Int) ^ j * cf A j) n + (p : Int) ^ n * cf A n) - (q : Int) * (zs (fun j => (p : Int) ^ j * cf A j) (n + 1) + (p : Int) ^ (n + 1) * cf A (n + 1))
        rw [ihn, if_neg (by omega), Nat.add_sub_cancel, Int.pow_succ]
        simp only [Int.mul_add, Int.mul_sub]
        have a1 : (p : Int) ^ n * (p : Int) * cf A n = (p : Int) * ((p : Int) ^ n * cf A n) := by
          rw [Int.mul_comm ((p : Int) ^ n) (p : Int), Int.mul_assoc]
        have a2 : (p : Int) ^ n * (p : Int) * ((q : Int) * cf A (n + 1)) = (q : Int) * ((p : Int) ^ n * (p : Int) * cf A (n + 1)) := Int.mul_left_comm _ _ _
        rw [a1, a2]
        omega
    rw [e1, ih]
    have e2 : zs (fun j => (p : Int) ^ j * cf A j) (A.length + 1 + 1) = zs (fun j => (p : Int) ^ j * cf A j) (A.length + 1) := by
      show zs (fun j => (p : Int) ^ j * cf A j) (A.length + 1) + (p : Int) ^ (A.length + 1) * cf A (A.length + 1) = _
      rw [cf_top A (A.length + 1) (by omega), Int.mul_zero]
      omega
    rw [e2, ih, Int.sub_mul]
/-- sets A u and B u that don't meet, while A v meets B u for all u behind v -/
theorem skew {a b : Nat} {l : List Nat} {A B : Nat → List Nat} {lt : Nat → Nat → Prop} (hn : l.Nodup) (hA : ∀ u, u ∈ l → (A u).length = a) (hB : ∀ u, u ∈ l → (B u).length = b) (h0 : ∀ u, u ∈ l → ∀ p, p ∈ B u → ¬ p ∈ A u) (h1 : ∀ u v, u ∈ l → v ∈ l → lt v u → ∃ p, p ∈ B u ∧ p ∈ A v) (hlt : ∀ l' : List Nat, (∀ u, u ∈ l' → u ∈ l) → l' ≠ [] → ∃ v, v ∈ l' ∧ ∀ u, u ∈ l' → u ≠ v → lt v u) : l.length ≤ (mon (a + 1) b).length := by
  refine Classical.byContradiction fun c => ?_
  have hc : ∀ u, ∃ c : Nat → Int, u ∈ l → ∀ s, pr (fun p => zs (fun j => (p : Int) ^ j * s j) (a + 1)) (B u) = zs (fun i => c i * ((mon (a + 1) b).getD i (fun _ => 0)) s) (mon (a + 1) b).length := fun u => by
    by_cases hu : u ∈ l
    · have := pr_spn (k := a + 1) (B u)
      rw [hB u hu] at this
      obtain ⟨c, hc⟩ := this
      exact ⟨c, fun _ => hc⟩
    · exact ⟨fun _ => 0, fun h => absurd h hu⟩
  have hc' := Classical.axiomOfChoice hc
  obtain ⟨cc, hcc⟩ := hc'
  obtain ⟨r, ⟨u, u1, u2⟩, h3⟩ := dep (mon (a + 1) b).length l cc hn (by omega)
  -- the relation holds of the functions
  have rel : ∀ s : Nat → Int, ls (fun u => r u * pr (fun p => zs (fun j => (p : Int) ^ j * s j) (a + 1)) (B u)) l = 0 := fun s => by
    have e1 : ls (fun u => r u * pr (fun p => zs (fun j => (p : Int) ^ j * s j) (a + 1)) (B u)) l = ls (fun u => r u * zs (fun i => cc u i * ((mon (a + 1) b).getD i (fun _ => 0)) s) (mon (a + 1) b).length) l := ls_cg _ fun u hu => by rw [hcc u hu s]
    have e2 : ∀ n, n ≤ (mon (a + 1) b).length → ls (fun u => r u * zs (fun i => cc u i * ((mon (a + 1) b).getD i (fun _ => 0)) s) n) l = 0 := fun n => by
      induction n with
      | zero =>
        intro _
        have : ls (fun u => r u * zs (fun i => cc u i * ((mon (a + 1) b).getD i (fun _ => 0)) s) 0) l = ls (fun _ => 0 * 0) l := ls_cg _ fun u _ => Int.mul_zero _
        rw [this, ls_mul]
        omega
      | succ n ih =>
        intro hn
        have : ls (fun u => r u * zs (fun i => cc u i * ((mon (a + 1) b).getD i (fun _ => 0)) s) (n + 1)) l = ls (fun u => r u * zs (fun i => cc u i * ((mon (a + 1) b).getD i (fun _ => 0)) s) n + ((mon (a + 1) b).getD n (fun _ => 0)) s * (r u * cc u n)) l := ls_cg _ fun u _ => by
          show r u * (zs (fun i => cc u i * ((mon (a + 1) b).getD i (fun _ => 0)) s) n + cc u n * ((mon (a + 1) b).getD n (fun _ => 0)) s) = _
          rw [Int.mul_add, ← Int.mul_assoc (r u) (cc u n), Int.mul_comm (r u * cc u n)]
        rw [this, ls_add, ih (by omega), ls_mul, h3 n (by omega), Int.mul_zero]
        rfl
    rw [e1]
    exact e2 _ (Nat.le_refl _)
  -- the first one of the relation
  obtain ⟨v, v1, v2⟩ := hlt (l.filter (fun u => decide (r u ≠ 0))) (fun u hu => (List.mem_filter.mp hu).1) (fun e => by
    have : u ∈ l.filter (fun u => decide (r u ≠ 0)) := List.mem_filter.mpr ⟨u1, decide_eq_true u2⟩
    rw [e] at this
    exact absurd this List.not_mem_nil)
  have vm := List.mem_filter.mp v1
  have hev : ∀ p : Nat, zs (fun j => (p : Int) ^ j * cf (A v) j) (a + 1) = pr (fun q => (p : Int) - (q : Int)) (A v) := fun p => by
    have := cf_ev (p := p) (A v)
    rw [hA v vm.1] at this
    exact this
  have meet : ∀ u, pr (fun p => zs (fun j => (p : Int) ^ j * cf (A v) j) (a + 1)) (B u) = 0 ↔ ∃ p, p ∈ B u ∧ p ∈ A v := fun u => by
    rw [pr_0]
    refine exists_congr fun p => and_congr Iff.rfl ?_
    rw [hev p, pr_0]
    constructor
    · intro ⟨q, q1, q2⟩
      have : p = q := by omega
      rw [this]
      exact q1
    · intro h
      exact ⟨p, h, by omega⟩
  have hr := rel (cf (A v))
  rw [ls_one vm.1 hn (fun u hu hne => by
    by_cases e : r u = 0
    · rw [e, Int.zero_mul]
    · rw [(meet u).mpr (h1 u v hu vm.1 (v2 u (List.mem_filter.mpr ⟨hu, decide_eq_true e⟩) hne)), Int.mul_zero])] at hr
  rcases Int.mul_eq_zero.mp hr with z | z
  · exact of_decide_eq_true vm.2 z
  · obtain ⟨p, p1, p2⟩ := (meet v).mp z
    exact h0 v vm.1 p p1 p2
