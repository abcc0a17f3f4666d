/-! THE WORLD: the abstract memory as cells of the heap, the abstract locals as slots -/
def km_tr (ad : Nat → Nat) : Value → Value
  | .ref a => .ref (ad a)
  | v => v
theorem km_tr_cat {ad : Nat → Nat} (v : Value) : (km_tr ad v).category = v.category := by cases v <;> rfl
def kv_ct (ci : Nat) : Nat := kv_cts.getD ci 0
def kv_ft (ci k : Nat) : Nat := (kv_fts.getD ci []).getD k 0
def kv_fs (ad : Nat → Nat) (M : km_M) (a ci : Nat) : List Value := (List.range (kv_ct ci)).map (fun k => km_tr ad (km_ld (kv_ft ci k) M a k))
abbrev kv_Y : Type := ClassId × ClassId × ClassId × ClassId × ClassId
def kv_E (sh : Nat → Nat × Nat) (cy : kv_Y) (ad : Nat → Nat) (M : km_M) (a : Nat) : va_E :=
  match (sh a).1 with
  | 10 => .inl (cy.1, (sh a).2, .inl (M.1 a))
  | 11 => .inl (cy.2.1, (sh a).2, .inr (.inl (M.2.1 a)))
  | 12 => .inl (cy.2.2.1, (sh a).2, .inl (M.1 a))
  | 13 => .inl (cy.2.2.2.1, (sh a).2, .inr (.inr (.inr (.inr (fun i => some (ad (M.2.2 a i)))))))
  | 14 => .inl (cy.2.2.2.2, (sh a).2, .inr (.inr (.inr (.inr (fun i => some (ad (M.2.2 a i)))))))
  | ci => .inr (ci, kv_fs ad M a ci)
def kv_W (sh : Nat → Nat × Nat) (cy : kv_Y) (ad : Nat → Nat) (N : Nat) (M : km_M) : va_W := (List.range N).map (fun a => (ad a, kv_E sh cy ad M a))
def kv_tys (cy : kv_Y) : List (ClassId × FieldType) := [(cy.1, .int), (cy.2.1, .long), (cy.2.2.1, .boolean), (cy.2.2.2.1, .object RX5), (cy.2.2.2.2, .array .long)]
theorem kv_at {sh : Nat → Nat × Nat} {cy : kv_Y} {ad : Nat → Nat} {N : Nat} {M : km_M} {a : Nat} (ha : a < N) : (kv_W sh cy ad N M)[a]? = some (ad a, kv_E sh cy ad M a) := by
  unfold kv_W
  rw [List.getElem?_map, List.getElem?_range ha]
  rfl
theorem kv_set {sh : Nat → Nat × Nat} {cy : kv_Y} {ad : Nat → Nat} {N : Nat} {M M' : km_M} {a : Nat} {E : va_E} (ha : a < N) (he : kv_E sh cy ad M' a = E) (ho : ∀ b, b ≠ a → kv_E sh cy ad M' b = kv_E sh cy ad M b) : (kv_W sh cy ad N M).set a (ad a, E) = kv_W sh cy ad N M' := by
  apply List.ext_getElem?
  intro i
  by_cases hi : i = a
  · subst hi
    rw [List.getElem?_set_self (by unfold kv_W; rw [List.length_map, List.length_range]; exact ha), kv_at ha, he]
  · rw [List.getElem?_set_ne (fun q => hi q.symm)]
    by_cases hN : i < N
    · rw [kv_at hN, kv_at hN, ho i hi]
    · rw [List.getElem?_eq_none (by unfold kv_W; rw [List.length_map, List.length_range]; omega), List.getElem?_eq_none (by unfold kv_W; rw [List.length_map, List.length_range]; omega)]
/-- the locals -/
def kv_L (ad : Nat → Nat) (nL : Nat) (lv : km_L) (ls : Array Slot) : Prop := km_len lv = nL ∧ ls.size = nL ∧ lv_wf ls ∧ ∀ (i : Nat) (v : Value), km_get lv i = some v → ls[i]? = some (.val (km_tr ad v))
def kv_al (ad : Nat → Nat) (lv : km_L) : List (Nat × Value) := (List.range (km_len lv)).filterMap (fun i => (km_get lv i).map (fun v => (i, km_tr ad v)))
theorem km_get_lt : ∀ {lv : km_L} {i : Nat} {v : Value}, km_get lv i = some v → i < km_len lv
  | [], i, v, h => by cases h
  | x :: r, 0, v, h => by simp [km_len]
  | x :: r, n + 1, v, h => by
    have := km_get_lt (lv := r) (i := n) h
    simp only [km_len]; omega
theorem km_len_set : ∀ (lv : km_L) (i : Nat) (v : Option Value), km_len (km_set lv i v) = km_len lv
  | [], i, v => rfl
  | x :: r, 0, v => rfl
  | x :: r, n + 1, v => by simp only [km_set, km_len, km_len_set r n v]
theorem km_get_set : ∀ (lv : km_L) (i : Nat) (v : Option Value) (j : Nat), km_get (km_set lv i v) j = if j = i ∧ i < km_len lv then v else km_get lv j
  | [], i, v, j => by simp [km_set, km_get, km_len]
  | x :: r, 0, v, 0 => by simp [km_set, km_get, km_len]
  | x :: r, 0, v, j + 1 => by simp [km_set, km_get, km_len]
  | x :: r, n + 1, v, 0 => by simp [km_set, km_get, km_len]
  | x :: r, n + 1, v, j + 1 => by
    show km_get (km_set r n v) j = if j + 1 = n + 1 ∧ n + 1 < km_len (x :: r) then v else km_get r j
    rw [km_get_set r n v j]
    have hl : km_len (x :: r) = km_len r + 1 := rfl
    by_cases h : j = n ∧ n < km_len r
    · rw [if_pos h, if_pos (show j + 1 = n + 1 ∧ n + 1 < km_len (x :: r) from ⟨by omega, by omega⟩)]
    · rw [if_neg h, if_neg (fun q : j + 1 = n + 1 ∧ n + 1 < km_len (x :: r) => h ⟨by omega, by omega⟩)]
theorem km_kill_cases (lv : km_L) (i : Nat) : (km_kill lv (i + 1) = km_set lv i none ∧ i < km_len lv) ∨ (km_kill lv (i + 1) = lv ∧ ∀ v, km_get lv i = some v → ¬ v.category = 2) := by
  simp only [km_kill]
  cases h : km_get lv i with
  | none => exact Or.inr ⟨rfl, fun v q => by cases q⟩
  | some v =>
    cases v with
    | long x => exact Or.inl ⟨rfl, km_get_lt h⟩
    | double x => exact Or.inl ⟨rfl, km_get_lt h⟩
    | _ => exact Or.inr ⟨rfl, fun v q => by cases q; simp [Value.category]⟩
theorem km_len_kill (lv : km_L) (i : Nat) : km_len (km_kill lv i) = km_len lv := by
  cases i with
  | zero => simp only [km_kill]
  | succ i =>
    rcases km_kill_cases lv i with ⟨h, -⟩ | ⟨h, -⟩
    · rw [h, km_len_set]
    · rw [h]
theorem km_get_kill {lv : km_L} {i j : Nat} {v : Value} (h : km_get (km_kill lv i) j = some v) : km_get lv j = some v ∧ ¬ (j + 1 = i ∧ v.category = 2) := by
  cases i with
  | zero =>
    simp only [km_kill] at h
    exact ⟨h, fun q => by omega⟩
  | succ i =>
    rcases km_kill_cases lv i with ⟨e, hl⟩ | ⟨e, hl⟩
    · rw [e, km_get_set] at h
      split at h
      · cases h
      · rename_i hn
        exact ⟨h, fun q => hn ⟨by omega, hl⟩⟩
    · rw [e] at h
      refine ⟨h, fun q => ?_⟩
      have e2 : j = i := by omega
      subst e2
      exact hl v h q.2
theorem kv_al_mem {ad : Nat → Nat} {lv : km_L} {i : Nat} {v : Value} (h : km_get lv i = some v) : (i, km_tr ad v) ∈ kv_al ad lv := by
  unfold kv_al
  refine List.mem_filterMap.mpr ⟨i, List.mem_range.mpr (km_get_lt h), ?_⟩
  rw [h]
  rfl
theorem kv_L.has {ad : Nat → Nat} {nL : Nat} {lv : km_L} {ls : Array Slot} (h : kv_L ad nL lv ls) : lv_has ls nL (kv_al ad lv) := by
  refine ⟨h.2.1, h.2.2.1, fun q hq => ?_⟩
  obtain ⟨i, hi, e⟩ := List.mem_filterMap.mp hq
  cases hg : km_get lv i with
  | none => rw [hg] at e; cases e
  | some v =>
    rw [hg] at e
    cases e
    exact h.2.2.2 i v hg
theorem kv_L.st1 {ad : Nat → Nat} {nL : Nat} {lv : km_L} {ls ls' : Array Slot} {i : Nat} {v : Value} (h : kv_L ad nL lv ls) (h' : lv_has ls' nL ((i, km_tr ad v) :: (kv_al ad lv).filter (fun q => !(q.1 == i) && !(q.1 + 1 == i && q.2.category == 2)))) : kv_L ad nL (km_st1 lv i v) ls' := by
  refine ⟨by unfold km_st1; rw [km_len_set, km_len_kill]; exact h.1, h'.1, h'.2.1, fun j w hj => ?_⟩
  unfold km_st1 at hj
  rw [km_get_set] at hj
  split at hj
  · rename_i q
    cases hj
    rw [q.1]
    exact h'.2.2 (i, km_tr ad v) List.mem_cons_self
  · rename_i q
    obtain ⟨g1, g2⟩ := km_get_kill hj
    have hl := km_get_lt hj
    have hne : ¬ j = i := fun e => q ⟨e, e ▸ hl⟩
    refine h'.2.2 (j, km_tr ad w) (List.mem_cons_of_mem _ (List.mem_filter.mpr ⟨kv_al_mem g1, ?_⟩))
    have g3 : ¬ (j + 1 = i ∧ (km_tr ad w).category = 2) := by rw [km_tr_cat]; exact g2
    simp only [Bool.and_eq_true, Bool.not_eq_true', beq_eq_false_iff_ne, ne_eq, Bool.and_eq_false_iff]
    refine ⟨hne, ?_⟩
    by_cases e1 : j + 1 = i
    · exact Or.inr (fun e2 => g3 ⟨e1, e2⟩)
    · exact Or.inl e1
theorem kv_L.st2 {ad : Nat → Nat} {nL : Nat} {lv : km_L} {ls ls' : Array Slot} {i : Nat} {v : Value} (h : kv_L ad nL lv ls) (h' : lv_has ls' nL ((i, km_tr ad v) :: (kv_al ad lv).filter (fun q => !(q.1 == i) && (!(q.1 == i + 1) && !(q.1 + 1 == i && q.2.category == 2))))) : kv_L ad nL (km_st2 lv i v) ls' := by
  refine ⟨by unfold km_st2; rw [km_len_set, km_len_set, km_len_kill]; exact h.1, h'.1, h'.2.1, fun j w hj => ?_⟩
  unfold km_st2 at hj
  rw [km_get_set] at hj
  split at hj
  · cases hj
  · rename_i q0
    have hl0 := km_get_lt hj
    rw [km_len_set] at q0 hl0
    have hne1 : ¬ j = i + 1 := fun e => q0 ⟨e, e ▸ hl0⟩
    rw [km_get_set] at hj
    split at hj
    · rename_i q
      cases hj
      rw [q.1]
      exact h'.2.2 (i, km_tr ad v) List.mem_cons_self
    · rename_i q
      obtain ⟨g1, g2⟩ := km_get_kill hj
      have hl := km_get_lt hj
      have hne : ¬ j = i := fun e => q ⟨e, e ▸ hl⟩
      refine h'.2.2 (j, km_tr ad w) (List.mem_cons_of_mem _ (List.mem_filter.mpr ⟨kv_al_mem g1, ?_⟩))
      have g3 : ¬ (j + 1 = i ∧ (km_tr ad w).category = 2) := by rw [km_tr_cat]; exact g2
      simp only [Bool.and_eq_true, Bool.not_eq_true', beq_eq_false_iff_ne, ne_eq, Bool.and_eq_false_iff]
      refine ⟨hne, hne1, ?_⟩
      by_cases e1 : j + 1 = i
      · exact Or.inr (fun e2 => g3 ⟨e1, e2⟩)
      · exact Or.inl e1
theorem km_len_mask : ∀ (b : List Bool) (lv : km_L), km_len (km_mask b lv) = km_len lv
  | _, [] => by cases ‹List Bool› <;> rfl
  | [], x :: r => by simp only [km_mask, km_len, km_len_mask [] r]
  | true :: b, x :: r => by simp only [km_mask, km_len, km_len_mask b r]
  | false :: b, x :: r => by simp only [km_mask, km_len, km_len_mask b r]
theorem km_get_mask : ∀ {b : List Bool} {lv : km_L} {i : Nat} {v : Value}, km_get (km_mask b lv) i = some v → km_get lv i = some v
  | b, [], i, v, h => by cases b <;> cases h
  | [], x :: r, 0, v, h => by cases h
  | [], x :: r, i + 1, v, h => km_get_mask (lv := r) (b := []) (i := i) h
  | true :: b, x :: r, 0, v, h => h
  | true :: b, x :: r, i + 1, v, h => km_get_mask (lv := r) (b := b) (i := i) h
  | false :: b, x :: r, 0, v, h => by cases h
  | false :: b, x :: r, i + 1, v, h => km_get_mask (lv := r) (b := b) (i := i) h
theorem kv_L.mask {ad : Nat → Nat} {nL : Nat} {lv : km_L} {ls : Array Slot} (h : kv_L ad nL lv ls) (b : List Bool) : kv_L ad nL (km_mask b lv) ls :=
  ⟨(km_len_mask b lv).trans h.1, h.2.1, h.2.2.1, fun i v hv => h.2.2.2 i v (km_get_mask hv)⟩
theorem km_ent_len : ∀ (n : Nat) (as : List Value), km_wd as ≤ n → km_len (km_ent n as) = n
  | 0, as, h => by cases as <;> rfl
  | n + 1, [], h => by simp only [km_ent, km_len, km_ent_len n [] (Nat.zero_le _)]
  | n + 1, .long x :: r, h => by
    simp only [km_wd] at h
    cases n with
    | zero => omega
    | succ k => simp only [km_ent, km_len, km_ent_len k r (by omega)]
  | n + 1, .double x :: r, h => by
    simp only [km_wd] at h
    cases n with
    | zero => omega
    | succ k => simp only [km_ent, km_len, km_ent_len k r (by omega)]
  | n + 1, .int x :: r, h => by simp only [km_wd] at h; simp only [km_ent, km_len, km_ent_len n r (by omega)]
  | n + 1, .float x :: r, h => by simp only [km_wd] at h; simp only [km_ent, km_len, km_ent_len n r (by omega)]
  | n + 1, .null :: r, h => by simp only [km_wd] at h; simp only [km_ent, km_len, km_ent_len n r (by omega)]
  | n + 1, .ref x :: r, h => by simp only [km_wd] at h; simp only [km_ent, km_len, km_ent_len n r (by omega)]
  | n + 1, .retAddr x :: r, h => by simp only [km_wd] at h; simp only [km_ent, km_len, km_ent_len n r (by omega)]
theorem km_ent_nil : ∀ (n i : Nat), km_get (km_ent n []) i = none
  | 0, i => rfl
  | n + 1, 0 => rfl
  | n + 1, i + 1 => by simp only [km_ent, km_get, km_ent_nil n i]
theorem km_ent_wide {n : Nat} {v : Value} {r : List Value} (h : v.category = 2) : km_ent (n + 2) (v :: r) = some v :: none :: km_ent n r := by
  cases v with
  | long x => simp only [km_ent]
  | double x => simp only [km_ent]
  | _ => exact absurd h (by simp [Value.category])
theorem km_ent_slim {n : Nat} {v : Value} {r : List Value} (h : ¬ v.category = 2) : km_ent (n + 1) (v :: r) = some v :: km_ent n r := by
  cases v with
  | long x => exact absurd rfl h
  | double x => exact absurd rfl h
  | _ => simp only [km_ent]
theorem lv_args_cons (ad : Nat → Nat) (b : Nat) (v : Value) (r : List Value) : lv_args b ((v :: r).map (km_tr ad)) = (b, km_tr ad v) :: lv_args (if v.category = 2 then b + 2 else b + 1) (r.map (km_tr ad)) := by
  rw [List.map_cons]
  show (b, km_tr ad v) :: lv_args (if (km_tr ad v).category = 2 then b + 2 else b + 1) (r.map (km_tr ad)) = _
  rw [km_tr_cat]
theorem km_ent_get {ad : Nat → Nat} : ∀ (as : List Value) (n b i : Nat) (v : Value), km_get (km_ent n as) i = some v → (b + i, km_tr ad v) ∈ lv_args b (as.map (km_tr ad))
  | [], n, b, i, v, h => by rw [km_ent_nil] at h; cases h
  | w :: r, 0, b, i, v, h => by simp only [km_ent] at h; cases h
  | w :: r, n + 1, b, i, v, h => by
    rw [lv_args_cons]
    by_cases hc : w.category = 2
    · rw [if_pos hc]
      cases n with
      | zero =>
        cases w with
        | long x =>
          cases i with
          | zero => simp only [km_ent, km_get] at h; cases h; exact List.mem_cons_self
          | succ i => simp only [km_ent, km_get] at h; cases h
        | double x =>
          cases i with
          | zero => simp only [km_ent, km_get] at h; cases h; exact List.mem_cons_self
          | succ i => simp only [km_ent, km_get] at h; cases h
        | _ => exact absurd hc (by simp [Value.category])
      | succ k =>
        rw [km_ent_wide hc] at h
        match i, h with
        | 0, h => cases h; exact List.mem_cons_self
        | 1, h => cases h
        | i + 2, h =>
          have q := km_ent_get (ad := ad) r k (b + 2) i v h
          rw [show b + (i + 2) = b + 2 + i by omega]
          exact List.mem_cons_of_mem _ q
    · rw [if_neg hc]
      rw [km_ent_slim hc] at h
      match i, h with
      | 0, h => cases h; exact List.mem_cons_self
      | i + 1, h =>
        have q := km_ent_get (ad := ad) r n (b + 1) i v h
        rw [show b + (i + 1) = b + 1 + i by omega]
        exact List.mem_cons_of_mem _ q
theorem km_wd_sl (ad : Nat → Nat) : ∀ as : List Value, (lg_sl (as.map (km_tr ad))).length = km_wd as
  | [] => rfl
  | v :: r => by
    have h := km_wd_sl ad r
    have e : lg_sl ((v :: r).map (km_tr ad)) = (if (km_tr ad v).category = 2 then [Slot.val (km_tr ad v), Slot.second] else [Slot.val (km_tr ad v)]) ++ lg_sl (r.map (km_tr ad)) := rfl
    rw [e, List.length_append, h, km_tr_cat]
    cases v with
    | long x => show 2 + km_wd r = km_wd r + 2; omega
    | double x => show 2 + km_wd r = km_wd r + 2; omega
    | int x => show 1 + km_wd r = km_wd r + 1; omega
    | float x => show 1 + km_wd r = km_wd r + 1; omega
    | null => show 1 + km_wd r = km_wd r + 1; omega
    | ref x => show 1 + km_wd r = km_wd r + 1; omega
    | retAddr x => show 1 + km_wd r = km_wd r + 1; omega
theorem km_wd_cat (ad : Nat → Nat) : ∀ as : List Value, ((as.map (km_tr ad)).map fun v => v.category).sum = km_wd as
  | [] => rfl
  | v :: r => by
    have h := km_wd_cat ad r
    simp only [List.map_cons, List.sum_cons, h, km_tr_cat]
    cases v <;> simp [Value.category, km_wd] <;> omega
/-- the locals with which a method begins -/
theorem kv_L.entry {ad : Nat → Nat} {P : km_P} {as : List Value} (h : km_wd as ≤ P.1) : kv_L ad P.1 (kIn P as) ((lg_sl (as.map (km_tr ad)) ++ List.replicate (P.1 - (lg_sl (as.map (km_tr ad))).length) Slot.unset).toArray) := by
  have q := lv_entry (as.map (km_tr ad)) (n := P.1) (by rw [km_wd_sl]; exact h)
  refine kv_L.mask ⟨km_ent_len _ _ h, q.1, q.2.1, fun i v hv => ?_⟩ _
  have q2 := q.2.2 _ (km_ent_get (ad := ad) _ _ 0 i v hv)
  rw [Nat.zero_add] at q2
  exact q2
