/-! THE MACHINE'S GRIDS: 'new long[N][M]' as a row of W -/
/-- the outer array with i rows in it; a row -/
def gk_o (cA : ClassId) (N h i : Nat) : Cell := arrV cA N (fun j => if j < i then .ref (h + 1 + j) else .null)
def gk_i (cB : ClassId) (M : Nat) : Cell := arrV cB M (fun _ => .long 0)
theorem gk_o_s {cA : ClassId} {N h i : Nat} : (gk_o cA N h i).setSlot i (.ref (h + 1 + i)) = gk_o cA N h (i + 1) := by
  unfold gk_o
  rw [arrV_store]
  congr 1
  funext j
  unfold updV
  by_cases e : j = i
  · rw [if_pos e, if_pos (by omega), e]
  · rw [if_neg e]
    show (if j < i then Value.ref (h + 1 + j) else .null) = _
    by_cases g : j < i
    · rw [if_pos g, if_pos (by omega)]
    · rw [if_neg g, if_neg (by omega)]
/-- the state with i rows made -/
def gk_T (T : State) (cA cB : ClassId) (N M : Nat) : Nat → State
  | 0 => T.pushCell (gk_o cA N T.heap.size 0)
  | i + 1 => ((gk_T T cA cB N M i).pushCell (gk_i cB M)).setCell T.heap.size (gk_o cA N T.heap.size (i + 1))
theorem gk_push {T : State} {x : Cell} {a : Nat} (h : a < T.heap.size) : (T.pushCell x).heap[a]? = T.heap[a]? := by
  show (T.heap.push x)[a]? = _
  rw [Array.getElem?_push, if_neg (Nat.ne_of_lt h)]
theorem gk_last {T : State} {x : Cell} : (T.pushCell x).heap[T.heap.size]? = some x := by
  show (T.heap.push x)[T.heap.size]? = _
  rw [Array.getElem?_push_size]
theorem gk_set {T : State} {x : Cell} {a : Nat} (h : a < T.heap.size) : (T.setCell a x).heap[a]? = some x := by
  show (T.heap.setIfInBounds a x)[a]? = _
  rw [Array.getElem?_setIfInBounds_self_of_lt h]
theorem gk_oth {T : State} {x : Cell} {a b : Nat} (h : a ≠ b) : (T.setCell a x).heap[b]? = T.heap[b]? := by
  show (T.heap.setIfInBounds a x)[b]? = _
  rw [Array.getElem?_setIfInBounds_ne h]
theorem gk_all {T : State} {cA cB : ClassId} {N M : Nat} : ∀ i, (gk_T T cA cB N M i).heap.size = T.heap.size + 1 + i ∧ (gk_T T cA cB N M i).heap[T.heap.size]? = some (gk_o cA N T.heap.size i) ∧ (gk_T T cA cB N M i).vm = T.vm ∧ (gk_T T cA cB N M i).slotsUsed = T.slotsUsed + N + i * M ∧ (∀ q, q < T.heap.size → (gk_T T cA cB N M i).heap[q]? = T.heap[q]?) ∧ ∀ j, j < i → (gk_T T cA cB N M i).heap[T.heap.size + 1 + j]? = some (gk_i cB M)
  | 0 => by
    refine ⟨?_, gk_last, rfl, ?_, fun q hq => gk_push hq, fun j hj => absurd hj (by omega)⟩
    · show (T.heap.push _).size = _
      rw [Array.size_push]
    · show T.slotsUsed + (gk_o cA N T.heap.size 0).slots.size = _
      unfold gk_o
      rw [arrV_size, Nat.zero_mul, Nat.add_zero]
  | i + 1 => by
    obtain ⟨a, b, c, d, e, f⟩ := gk_all (T := T) (cA := cA) (cB := cB) (N := N) (M := M) i
    have hs : ((gk_T T cA cB N M i).pushCell (gk_i cB M)).heap.size = T.heap.size + 1 + i + 1 := by
      show ((gk_T T cA cB N M i).heap.push _).size = _
      rw [Array.size_push, a]
    refine ⟨?_, gk_set (by rw [hs]; omega), c, ?_, fun q hq => ?_, fun j hj => ?_⟩
    · show (((gk_T T cA cB N M i).pushCell (gk_i cB M)).heap.setIfInBounds _ _).size = _
      rw [Array.size_setIfInBounds, hs]
      omega
    · show (gk_T T cA cB N M i).slotsUsed + (gk_i cB M).slots.size = _
      unfold gk_i
      rw [arrV_size, d, Nat.succ_mul]
      omega
    · show (((gk_T T cA cB N M i).pushCell (gk_i cB M)).setCell _ _).heap[q]? = _
      rw [gk_oth (by omega), gk_push (by rw [a]; omega)]
      exact e q hq
    · show (((gk_T T cA cB N M i).pushCell (gk_i cB M)).setCell _ _).heap[_]? = _
      rw [gk_oth (by omega)]
      by_cases g : j = i
      · rw [g, ← a]
        exact gk_last
      · rw [gk_push (by rw [a]; omega)]
        exact f j (by omega)
theorem gk_top {T : State} {cA cB : ClassId} {N M : Nat} {f : JFrame} : ∀ i, gk_T (T.setTop f) cA cB N M i = (gk_T T cA cB N M i).setTop f
  | 0 => rfl
  | i + 1 => by
    simp only [gk_T, gk_top i, State.heap_setTop, State.pushCell_setTop, State.setCell_setTop]
section GRID
variable {p : Program} {l : Launch} {e : Env} {R : Room} {s : State} {m : MethodId} {args : Array Value} {below : List Frame} {meth : Method} {c : Code} {H : Heap} {locs : List Loc} {cells slots : Nat} {Q : State → Prop}
theorem gk_stand {T : State} (X : Stand p l e R s m args below meth c T locs cells slots) {cA cB : ClassId} {N M : Nat} : ∀ i, Stand p l e R s m args below meth c (gk_T T cA cB N M i) (locs ++ (List.range i).map (fun j => ⟨T.heap.size, j⟩)) (cells + 1 + i) (slots + N + i * M)
  | 0 => by
    have h := X.pushed (gk_o cA N T.heap.size 0)
    have e1 : (gk_o cA N T.heap.size 0).slots.size = N := arrV_size _ _ _
    rw [e1] at h
    have e2 : locs ++ (List.range 0).map (fun j => (⟨T.heap.size, j⟩ : Loc)) = locs := List.append_nil _
    rw [e2, Nat.zero_mul]
    exact h
  | i + 1 => by
    have h := gk_stand X (cA := cA) (cB := cB) (N := N) (M := M) i
    obtain ⟨a, b, -⟩ := gk_all (T := T) (cA := cA) (cB := cB) (N := N) (M := M) i
    have h2 := (h.pushed (gk_i cB M)).stored (a := T.heap.size) (cell := gk_o cA N T.heap.size i) (by rw [gk_push (by rw [a]; omega)]; exact b) i (.ref (T.heap.size + 1 + i))
    rw [gk_o_s] at h2
    have e1 : (gk_i cB M).slots.size = M := arrV_size _ _ _
    rw [e1] at h2
    have e2 : locs ++ (List.range (i + 1)).map (fun j => (⟨T.heap.size, j⟩ : Loc)) = locs ++ (List.range i).map (fun j => (⟨T.heap.size, j⟩ : Loc)) ++ [⟨T.heap.size, i⟩] := by
      rw [List.range_succ, List.map_append, List.append_assoc]
      rfl
    have e3 : slots + N + (i + 1) * M = slots + N + i * M + M := by
      rw [Nat.succ_mul]
      omega
    rw [e2, e3]
    exact h2
end GRID
section GRIDW
variable {E : CtlPost} {e : Env} {d : Bool} {acts : List Action} {s : State}
/-- one row -/
theorem gk_row {cB cC : ClassId} {kB : Class} {k : Int32} {M : Nat} (hkB : s.vm.classes[cB]? = some kB) (hB : kB.kind = .array cC .long) (hk : ¬ k < 0) (hM : k.toNatClampNeg = M) (hl : ¬ M > e.platform.arrayLengthLimit) (hh : ¬ M * 8 > e.platform.maxHeapBytes) (h1 : s.heap.size < e.platform.maxCells) (h2 : s.slotsUsed + M ≤ e.platform.maxSlots) {Q : Addr → Pre} (hq : ∀ acts', Q s.heap.size d acts' (s.pushCell (gk_i cB M))) : wp (Jvm.Op.multianewarray.make cB [k]) Q E e d acts s := by
  subst hM
  rw [Jvm.Op.multianewarray.make]
  simp only [wp_bind', W.ite, hk, if_false, wp_pure', W.theClass, hkB, hB, Option.some.injEq, exists_eq_left']
  refine W.newArray_of hkB hB hl hh h1 h2 rfl fun acts' => ?_
  have e1 : ({ cls := cB, slots := Array.replicate k.toNatClampNeg (defaultValue .long) } : Cell) = gk_i cB k.toNatClampNeg := arrV_new _ _ _
  rw [e1]
  exact hq acts'
theorem gk_make {cA cB cC : ClassId} {kA kB : Class} {n k : Int32} {N M : Nat} (hkA : s.vm.classes[cA]? = some kA) (hA : kA.kind = .array cB (.array .long)) (hkB : s.vm.classes[cB]? = some kB) (hB : kB.kind = .array cC .long) (hn : ¬ n < 0) (hk : ¬ k < 0) (hN : n.toNatClampNeg = N) (hM : k.toNatClampNeg = M) (hl1 : ¬ N > e.platform.arrayLengthLimit) (hh1 : ¬ N * 4 > e.platform.maxHeapBytes) (hl : ¬ M > e.platform.arrayLengthLimit) (hh : ¬ M * 8 > e.platform.maxHeapBytes) (h1 : s.heap.size + 1 + N ≤ e.platform.maxCells) (h2 : s.slotsUsed + N + N * M ≤ e.platform.maxSlots) {Q : Addr → Pre} (hq : ∀ d' acts', Q s.heap.size d' acts' (gk_T s cA cB N M N)) : wp (Jvm.Op.multianewarray.make cA [n, k]) Q E e d acts s := by
  subst hN
  have hf : ([k].find? (· < 0)) = none := by simp [hk]
  rw [Jvm.Op.multianewarray.make]
  simp only [wp_bind', W.ite, hn, if_false, wp_pure', W.theClass, hkA, hA, Option.some.injEq, exists_eq_left']
  refine W.newArray_of hkA hA hl1 hh1 (by omega) (by omega) rfl fun acts0 => ?_
  have e1 : ({ cls := cA, slots := Array.replicate n.toNatClampNeg .null } : Cell) = gk_o cA n.toNatClampNeg s.heap.size 0 := by
    rw [arrV_new]
    unfold gk_o
    congr 1
  rw [e1]
  simp only [hf]
  rw [ite_self, wp_bind', Std.Legacy.Range.forIn_eq_forIn_range']
  have hz : ([:n.toNatClampNeg] : Std.Legacy.Range).size = n.toNatClampNeg := by simp [Std.Legacy.Range.size]
  rw [hz]
  show wp (forIn (List.range' 0 n.toNatClampNeg 1) PUnit.unit _) _ E e d acts0 _
  refine wp_forIn_inv (fun rest u => ∃ i, i ≤ n.toNatClampNeg ∧ rest = List.range' i (n.toNatClampNeg - i) ∧ u = gk_T s cA cB n.toNatClampNeg M i) _ _ ⟨0, Nat.zero_le _, rfl, rfl⟩ (fun x rest u d' acts' Q' h hnext => ?_) (fun u d' acts' h => ?_)
  · obtain ⟨i, hi, hr, rfl⟩ := h
    have lt : i < n.toNatClampNeg := Classical.byContradiction fun g => by
      rw [show n.toNatClampNeg - i = 0 by omega] at hr
      cases hr
    rw [show n.toNatClampNeg - i = (n.toNatClampNeg - (i + 1)) + 1 by omega, List.range'_succ] at hr
    obtain ⟨rfl, hr⟩ := List.cons.inj hr
    obtain ⟨a, b, cv, dv, ev, fv⟩ := gk_all (T := s) (cA := cA) (cB := cB) (N := n.toNatClampNeg) (M := M) x
    have mul : x * M + M ≤ n.toNatClampNeg * M := by
      have := Nat.mul_le_mul_right M (show x + 1 ≤ n.toNatClampNeg from lt)
      rw [Nat.succ_mul] at this
      exact this
    simp only [wp_bind']
    refine gk_row (cC := cC) (by rw [cv]; exact hkB) hB hk hM hl hh (by rw [a]; omega) (by rw [dv]; omega) fun acts2 => ?_
    simp only [wp_bind', W.writeLoc, wp_pure']
    refine ⟨gk_o cA n.toNatClampNeg s.heap.size x, by rw [gk_push (by rw [a]; omega)]; exact b, (fun c => by cases c), (by unfold gk_o; rw [arrV_size]; exact lt), ?_, hnext _ _ _ ⟨x + 1, lt, hr, ?_⟩⟩
    · show State.fitsSlot _ cA .none x _ = true
      simp [State.fitsSlot, State.slotType?, cv, hkA, hA, fits]
    · rw [a, gk_o_s]
      rfl
  · obtain ⟨i, hi, hr, rfl⟩ := h
    have ei : i = n.toNatClampNeg := Classical.byContradiction fun g => by
      rw [show n.toNatClampNeg - i = (n.toNatClampNeg - (i + 1)) + 1 by omega, List.range'_succ] at hr
      cases hr
    rw [ei]
    simp only [wp_pure']
    exact hq _ _
end GRIDW
section GRIDX
variable {p : Program} {l : Launch} {e : Env} {R : Room} {s : State} {m : MethodId} {args : Array Value} {below : List Frame} {meth : Method} {c : Code} {H : Heap} {locs : List Loc} {cells slots : Nat} {Q : State → Prop}
theorem gk_W {cc : ByteArray} (hexec : p.tables.exec = Jvm.exec) (hb : c.code = cc) {own : String} {index : Nat} (hown : s.vm.findClass own = some m.cls) (hclink : (Cond.classLink own index ("[" ++ (FieldType.array .long).toString)).before args s = true) (hover : (Cond.arrayOver (.array .long)).before args s = true) (harr : (Cond.arrayClass .long).before args s = true) {pc : Nat} {ls : Array Slot} {rest : List Value} {n k : Int32} {N M : Nat} (hdg : decode cc pc = .ok (.multianewarray index 2, 4)) (hn : ¬ n < 0) (hk : ¬ k < 0) (hN : n.toNatClampNeg = N) (hM : k.toNatClampNeg = M) (hN1 : N ≤ 1000) (hM1 : M ≤ 1000) (hcells : cells + (1 + N) ≤ R.cells) (hslots : slots + (N + N * M) ≤ R.slots)
    (kk : ∀ (H' : Heap) (cA cB : ClassId), H'.size = H.size + 1 + N → H'[H.size]? = some (gk_o cA N H.size N) → (∀ j, j < N → H'[H.size + 1 + j]? = some (gk_i cB M)) → (∀ q, q < H.size → H'[q]? = H[q]?) → ArrOfT s cA (.array .long) → s.vm.findClass ("[" ++ (FieldType.array .long).toString) = some cA → ArrOfT s cB .long → s.vm.findClass ("[" ++ FieldType.long.toString) = some cB → W p l e R s m args below meth c H' (locs ++ (List.range N).map (fun j => ⟨H.size, j⟩)) (cells + 1 + N) (slots + N + N * M) Q (F0 m (pc + 4) ls (.ref H.size :: rest))) : W p l e R s m args below meth c H locs cells slots Q (F0 m pc ls (.int k :: .int n :: rest)) := by
  intro T hT X
  subst hT
  subst hb
  have hpl : e.platform.magicAccessors = ({} : Platform).magicAccessors := by rw [X.admits.platform]
  obtain ⟨cB, cA, kA, hB, -, hkA, hkindA, hnA⟩ := arrayOverA_spec hover
  obtain ⟨cB', kB, cC, hB', hkB, hkindB⟩ := Cond.arrayClass_spec harr
  have eB : cB' = cB := Option.some.inj (hB'.symm.trans hB)
  subst eB
  obtain ⟨c0, hc0, hcl⟩ := Cond.classLink_spec hown hclink e.platform hpl
  cases hnA.symm.trans hc0
  obtain ⟨hg, hwarm, hready⟩ := State.classEntry (e := e) X.warmed hcl
  generalize T.vm.noted m.cls index (.cls cA) = vm1 at hg hwarm hready
  obtain ⟨kA1, hkA1, heA⟩ := hwarm.alike.2.2 _ _ hkA
  obtain ⟨kB1, hkB1, heB⟩ := hwarm.alike.2.2 _ _ hkB
  have hkindA1 : kA1.kind = .array cB' (.array .long) := by rw [heA]; exact hkindA
  have hkindB1 : kB1.kind = .array cC .long := by rw [heB]; exact hkindB
  have X1 := X.noted hwarm
  obtain ⟨hr1, hr2⟩ := X.roomAbove hcells hslots
  have XF := gk_stand X1 (cA := cA) (cB := cB') (N := N) (M := M) N
  obtain ⟨a, b, -, -, ev, fv⟩ := gk_all (T := T.setVm vm1) (cA := cA) (cB := cB') (N := N) (M := M) N
  obtain ⟨t', a1, b1⟩ := kk (gk_T (T.setVm vm1) cA cB' N M N).heap cA cB' a b fv ev (fun n z => ⟨(fun k h => by cases h), kA, hkA, cB', hkindA⟩) hnA (fun n z => ⟨(fun k h => by cases h), kB, hkB, cC, hkindB⟩) hB _ rfl XF
  refine ⟨t', ?_, b1⟩
  have hl1 : ¬ N > e.platform.arrayLengthLimit := by rw [Launch.admits_arrayLengthLimit X.admits]; omega
  have hl2 : ¬ M > e.platform.arrayLengthLimit := by rw [Launch.admits_arrayLengthLimit X.admits]; omega
  have hh1 : ¬ N * 4 > e.platform.maxHeapBytes := by rw [Launch.admits_maxHeapBytes X.admits]; omega
  have hh2 : ¬ M * 8 > e.platform.maxHeapBytes := by rw [Launch.admits_maxHeapBytes X.admits]; omega
  jvm_step X.here [hexec, hdg]
  simp only [Jvm.Op.multianewarray.sem, wp_bind', W.resolveClassAt_links (State.method?_setTop (F0 m pc ls (.int k :: .int n :: rest)) X.here.top) hg]
  rw [W.popN, if_neg (by decide)]
  refine ⟨F0 m pc ls (.int k :: .int n :: rest), State.topJava?_setTop' (s := T.setVm vm1) _ X.here.top, [.int n, .int k], rest, rfl, rfl, ?_⟩
  simp only [List.mapM_cons, List.mapM_nil, wp_bind', wp_pure']
  refine gk_make (cC := cC) (kA := kA1) (kB := kB1) hkA1 hkindA1 hkB1 hkindB1 hn hk hN hM hl1 hh1 hl2 hh2 (by show T.heap.size + 1 + N ≤ _; omega) (by show T.slotsUsed + N + N * M ≤ _; omega) fun d' acts' => ?_
  have eS : ((T.setTop (F0 m pc ls (.int k :: .int n :: rest))).setVm vm1).setTop { F0 m pc ls (.int k :: .int n :: rest) with stack := rest } = (T.setVm vm1).setTop { F0 m pc ls (.int k :: .int n :: rest) with stack := rest } := by
    show ((T.setVm vm1).setTop _).setTop _ = _
    rw [State.setTop_setTop]
  rw [eS, gk_top]
  simp only [wp_bind', W.mark, W.pushRef, State.topJava?_setTop' _ XF.here.top, Option.some.injEq, exists_eq_left', State.setTop_setTop, State.heap_setTop]
  intro acts2
  simp [jvm, XF.here.top]
  exact a1
end GRIDX
