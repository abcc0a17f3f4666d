/-! THE WORLD GROWS: rows over a list that holds all cells, for the constructors -/
theorem bset {ws l : va_W} {k : Nat} {a b : Nat × va_E} (h : k < ws.length) : (ws.set k a ++ l).set k b = ws.set k b ++ l := by
  rw [List.set_append_left _ _ (by rw [List.length_set]; exact h), List.set_set]
theorem bget {ws l : va_W} {k : Nat} {a : Nat × va_E} (h : k < ws.length) : (ws.set k a ++ l)[k]? = some a := by
  rw [List.getElem?_append_left (by rw [List.length_set]; exact h), List.getElem?_set_self h]
theorem bini {ws : va_W} {k : Nat} {a : Nat × va_E} (h : ws[k]? = some a) : ws.set k a ++ [] = ws := by
  rw [List.append_nil]
  apply List.ext_getElem?
  intro i
  by_cases e : i = k
  · rw [e, List.getElem?_set_self (List.getElem?_eq_some_iff.mp h).1, h]
  · rw [List.getElem?_set_ne (fun c => e c.symm)]
/-- a constructor: it has its object in the world, the world grows -/
def bz_Pc (D : va_G) (cy : kv_Y) (z : Nat) (ws : va_W) (h0 : Nat) : Array Value → State → Prop := va_Pc [.ref h0] (fun U => va_P D vwCl ws U.heap ∧ va_D (fun q => z ≤ q) ws ∧ z ≤ U.heap.size ∧ kx_U D cy U)
def bz_Qc (D : va_G) (z : Nat) (post : va_W → Prop) : Array Value → State → Outcome → State → Prop := va_Qv post (fun ws t => va_P D vwCl ws t.heap ∧ va_D (fun q => z ≤ q) ws) (fun q => z ≤ q)
theorem bz_blind {D : va_G} {cy : kv_Y} {z : Nat} {ws : va_W} {h0 : Nat} : FrameBlind (bz_Pc D cy z ws h0) := fun a U g mk q => by
  obtain ⟨q0, q1, q2, q3, q4⟩ := q
  exact ⟨q0, q1, q2, q3, q4.calling g mk a⟩
theorem bz_pre {D : va_G} {cy : kv_Y} {z : Nat} {ws : va_W} {h0 : Nat} {s : State} {H : Heap} (hP : va_P D vwCl ws H) (hD : va_D (fun q => z ≤ q) ws) (hz : z ≤ H.size) (hU : kx_U D cy s) : PreS s H (bz_Pc D cy z ws h0) [.ref h0] := ⟨bz_blind, fun U hU' hW => ⟨rfl, by rw [hU']; exact hP, hD, by rw [hU']; exact hz, hU.warm hW⟩⟩
section GROW
variable {p : Program} {l : Launch} {e : Env} {R : Room} {s : State} {m : MethodId} {args : Array Value} {below : List Frame} {meth : Method} {c : Code} {H H0 : Heap} {locs : List Loc} {cells slots : Nat} {Q : State → Prop}
variable {D : va_G} {cy : kv_Y} {A : Nat → Prop} {ws lw : va_W} {cc : ByteArray} {pc : Nat} {ls : Array Slot} {rest : List Value}
theorem bn_put {oc idx x y k h0 : Nat} {fs fs' : List Value} {v : Value} {ty : FieldType} (hx : p.tables.exec = Jvm.exec) (hb : c.code = cc) (hts : ∀ w ∈ kw_gd, w.before args s = true) (hown : s.vm.findClass (kn_o oc) = some m.cls) (hK : va_K D vwCl (kv_tys cy) s) (hP : va_P D vwCl (ws.set k (h0, .inr (x, fs)) ++ lw) H) (hD : va_D A (ws.set k (h0, .inr (x, fs)) ++ lw)) (hS : va_S A H0 H locs) (hk : k < ws.length) (hx7 : x < 7) (hf : (oc, idx, x, y) ∈ kw_f) (hy : y < kv_ct x) (hl : y < fs.length) (hfin : ((kn_at x).2.1 y).2.2.2 = false ∨ (((kn_at x).2.1 y).2.2.2 = true ∧ meth.name = "<init>" ∧ ((kn_at x).2.1 y).1 = kn_o oc)) (hd : parseFieldDescriptor ((kn_at x).2.1 y).2.2.1 = some ty) (hn : narrow ty v = v) (hfit : fits ty v = true) (hfs : fs.set y v = fs') (hdg : decode cc pc = .ok (.putfield idx, 3))
    (kk : ∀ (H1 : Heap) (locs1 : List Loc), va_P D vwCl (ws.set k (h0, .inr (x, fs')) ++ lw) H1 → va_D A (ws.set k (h0, .inr (x, fs')) ++ lw) → va_S A H0 H1 locs1 → W p l e R s m args below meth c H1 locs1 cells slots Q (F0 m (pc + 3) ls rest)) : W p l e R s m args below meth c H locs cells slots Q (F0 m pc ls (v :: .ref h0 :: rest)) := by
  have hy2 : y < (kn_at x).2.2 := by rw [← kn_at_ct x hx7]; exact hy
  rcases hfin with hfin | ⟨hfin, hi, hdc⟩
  · refine va_put (ci := x) (v := v) (ty := ty) (C := (kn_at x).1) (T := (kn_at x).2.1) (N := (kn_at x).2.2) hx hb hts (kn_at_gd x hx7) (kv_ty x) (kn_at_ty x hx7) (kn_at_nm x hx7) hown hK hP hD hS k (bget hk) (kn_at_ok x hx7) y hy2 (hts _ (kw_g (kw_f_ok _ hf) rfl)) (fun _ h9 => h9) hfin hd hn hfit hl hdg (fun H1 locs1 hP1 hD1 hS1 => ?_)
    rw [bset hk, hfs] at hP1 hD1
    exact kk H1 locs1 hP1 hD1 hS1
  · refine va_putF (ci := x) (v := v) (ty := ty) (C := (kn_at x).1) (T := (kn_at x).2.1) (N := (kn_at x).2.2) hx hb hts (kn_at_gd x hx7) (kv_ty x) (kn_at_ty x hx7) (kn_at_nm x hx7) hown hK hP hD hS k (bget hk) (kn_at_ok x hx7) y hy2 (hts _ (kw_g (kw_f_ok _ hf) rfl)) (fun _ h9 => h9) hfin hi hdc hd hn hfit hl hdg (fun H1 locs1 hP1 hD1 hS1 => ?_)
    rw [bset hk, hfs] at hP1 hD1
    exact kk H1 locs1 hP1 hD1 hS1
theorem bn_newa {atype : ArrayType} {ty : FieldType} (t0 : Nat) {cA0 : ClassId} {n : Int32} {N' : Nat} {a0 : vp_A} (hx : p.tables.exec = Jvm.exec) (hb : c.code = cc) (harr : (Cond.arrayClass (Op.newarray.typeOf atype)).before args s = true) (hty : Op.newarray.typeOf atype = ty) (hK : va_K D vwCl (kv_tys cy) s) (ht : (kv_tys cy)[t0]? = some (cA0, ty)) (hno : ty = .int ∨ ty = .long ∨ ty = .boolean) (hP : va_P D vwCl ws H) (hD : va_D A ws) (hS : va_S A H0 H locs) (hA : ∀ q, H0.size ≤ q → A q) (ha : ∀ cA : ClassId, vp_cell cA a0 = arrV cA N' (fun _ => defaultValue ty)) (hn : ¬ n < 0) (hN : n.toNatClampNeg = N') (hbytes : N' * componentBytes ty ≤ 536870912) (hcells : cells + 1 ≤ R.cells) (hslots : slots + N' ≤ R.slots) (hdg : decode cc pc = .ok (.newarray atype, 2))
    (kk : ∀ (q : Nat) (H1 : Heap), va_P D vwCl (ws ++ [(q, .inl (cA0, a0))]) H1 → va_D A (ws ++ [(q, .inl (cA0, a0))]) → va_S A H0 H1 locs → W p l e R s m args below meth c H1 locs (cells + 1) (slots + N') Q (F0 m (pc + 2) ls (.ref q :: rest))) : W p l e R s m args below meth c H locs cells slots Q (F0 m pc ls (.int n :: rest)) := by
  refine va_newa hx hb harr hty hK hP hD hS hA ha hn hN hbytes hcells hslots hdg fun q cA H1 hK1 hP1 hD1 hS1 => ?_
  have h1 := (hK1.2 5 (cA, ty) rfl).2
  have h2 := (hK.2 t0 _ ht).2
  have e : cA = cA0 := by
    rcases hno with rfl | rfl | rfl
    · exact Option.some.inj (h1.symm.trans h2)
    · exact Option.some.inj (h1.symm.trans h2)
    · exact Option.some.inj (h1.symm.trans h2)
  rw [e] at hP1 hD1
  exact kk q H1 hP1 hD1 hS1
/-- a grid's cells -/
def bgr (cy : kv_Y) (h N M : Nat) : va_W := (h, .inl (cy.2.2.2.2, N, .inr (.inr (.inr (.inr (fun j => some (h + 1 + j))))))) :: (List.range N).map (fun j => (h + 1 + j, .inl (cy.2.1, M, .inr (.inl (fun _ => 0)))))
theorem bgr_0 {h N M : Nat} : (bgr cy h N M)[0]? = some (h, .inl (cy.2.2.2.2, N, .inr (.inr (.inr (.inr (fun j => some (h + 1 + j))))))) := rfl
theorem bgr_s {h N M j : Nat} (hj : j < N) : (bgr cy h N M)[j + 1]? = some (h + 1 + j, .inl (cy.2.1, M, .inr (.inl (fun _ => 0)))) := by
  show ((List.range N).map _)[j]? = _
  rw [List.getElem?_map, List.getElem?_range hj]
  rfl
theorem bgr_at {h N M i : Nat} {q : Nat × va_E} (hq : (bgr cy h N M)[i]? = some q) : q.1 = h + i ∧ i ≤ N := by
  cases i with
  | zero =>
    rw [bgr_0] at hq
    cases hq
    exact ⟨rfl, Nat.zero_le _⟩
  | succ j =>
    have hl := (List.getElem?_eq_some_iff.mp hq).1
    have hj : j < N := by
      unfold bgr at hl
      rw [List.length_cons, List.length_map, List.length_range] at hl
      omega
    rw [bgr_s hj] at hq
    cases hq
    exact ⟨by show h + 1 + j = h + (j + 1); omega, by omega⟩
theorem bn_grid {oc idx : Nat} {n k : Int32} {N M : Nat} (hx : p.tables.exec = Jvm.exec) (hb : c.code = cc) (hown : s.vm.findClass (kn_o oc) = some m.cls) (hclink : (Cond.classLink (kn_o oc) idx ("[" ++ (FieldType.array .long).toString)).before args s = true) (harr : (Cond.arrayClass .long).before args s = true) (hU : kx_U D cy s) (hP : va_P D vwCl ws H) (hD : va_D A ws) (hS : va_S A H0 H locs) (hA : ∀ q, H0.size ≤ q → A q) (hn : ¬ n < 0) (hk : ¬ k < 0) (hN : n.toNatClampNeg = N) (hM : k.toNatClampNeg = M) (hN1 : N ≤ 1000) (hM1 : M ≤ 1000) (hcells : cells + (1 + N) ≤ R.cells) (hslots : slots + (N + N * M) ≤ R.slots) (hdg : decode cc pc = .ok (.multianewarray idx 2, 4))
    (kk : ∀ (h : Nat) (H1 : Heap) (locs1 : List Loc), va_P D vwCl (ws ++ bgr cy h N M) H1 → va_D A (ws ++ bgr cy h N M) → va_S A H0 H1 locs1 → W p l e R s m args below meth c H1 locs1 (cells + 1 + N) (slots + N + N * M) Q (F0 m (pc + 4) ls (.ref h :: rest))) : W p l e R s m args below meth c H locs cells slots Q (F0 m pc ls (.int k :: .int n :: rest)) := by
  have hov : (Cond.arrayOver (.array .long)).before args s = true := over_moved (u := s) (E := s) (Vm.Alike.refl s.vm) hU.2.1
  refine gk_W hx hb hown hclink hov harr hdg hn hk hN hM hN1 hM1 hcells hslots fun H' cA cB z1 z2 z3 z4 a1 a2 a3 a4 => ?_
  have eA : cA = cy.2.2.2.2 := Option.some.inj (a2.symm.trans (hU.1.2 4 (cy.2.2.2.2, .array .long) rfl).2)
  have eB : cB = cy.2.1 := Option.some.inj (a4.symm.trans (hU.1.2 1 (cy.2.1, .long) rfl).2)
  subst eA
  subst eB
  have lt : ∀ (i : Nat) (x : Nat × va_E), ws[i]? = some x → x.1 < H.size := fun i x hx => (hP i x hx).lt
  refine kk H.size H' _ (va_P.app (hP.kept fun i x hx => z4 x.1 (lt i x hx)) fun i x hx => ?_) (va_D.app hD ⟨fun i j x y hx hy e => ?_, fun i x hx => ?_⟩ fun i j x y hx hy e => ?_) ⟨?_, fun q h1 h2 => ?_, fun x hx => ?_⟩
  · cases i with
    | zero =>
      rw [bgr_0] at hx
      cases hx
      show H'[H.size]? = some (vp_cell _ _)
      rw [vp_cell_q, z2]
      unfold gk_o arrV
      congr 2
      congr 1
      funext j
      exact if_pos j.isLt
    | succ j =>
      obtain ⟨e1, e2⟩ := bgr_at hx
      rw [bgr_s (by omega)] at hx
      cases hx
      show H'[H.size + 1 + j]? = some (vp_cell _ _)
      rw [vp_cell_l, z3 j (by omega)]
      rfl
  · have h1 := (bgr_at hx).1
    have h2 := (bgr_at hy).1
    omega
  · have h1 := (bgr_at hx).1
    exact hA _ (by have := hS.1; omega)
  · have h1 := lt i x hx
    have h2 := (bgr_at hy).1
    omega
  · have := hS.1
    omega
  · rw [z4 q (Nat.lt_of_lt_of_le h1 hS.1)]
    exact hS.2.1 q h1 h2
  · rcases List.mem_append.mp hx with h | h
    · exact hS.2.2 x h
    · obtain ⟨j, -, rfl⟩ := List.mem_map.mp h
      exact hA _ hS.1
end GROW
