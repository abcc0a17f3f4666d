/-! THE SIMULATION, straight instructions: an effect of the abstract machine is a step of the machine -/
/-- the room of a method that calls h deep -/
def kR (h : Nat) : Room := { frames := h, cells := 0, slots := 0, locals := 40 * h }
/-- what is decided of an instruction: its length and what its operands mean, in class oc, at pc, in a method that calls h deep -/
def kI_c (oc h pc : Nat) : km_I → Bool
  | (i, n, x, y, z, c, w, t) => match i with
    | .iconst k => Nat.beq n 1 && decide (Int32.ofInt k = c)
    | .bipush k => Nat.beq n 2 && decide ((Int8.ofInt k).toInt32 = c)
    | .sipush k => Nat.beq n 3 && decide ((Int16.ofInt k).toInt32 = c)
    | .ldc k => Nat.beq n 2 && decide ((oc, k, c) ∈ kw_c)
    | .ldc_w k => Nat.beq n 3 && decide ((oc, k, c) ∈ kw_c)
    | .lconst k => Nat.beq n 1 && decide (Int64.ofNat (k : Nat) = w)
    | .ldc2_w k => Nat.beq n 3 && decide ((oc, k, w) ∈ kw_l)
    | .iload k => Nat.beq n 2 && Nat.beq k x
    | .lload k => Nat.beq n 2 && Nat.beq k x
    | .aload k => Nat.beq n 2 && Nat.beq k x
    | .istore k => Nat.beq n 2 && Nat.beq k x
    | .lstore k => Nat.beq n 2 && Nat.beq k x
    | .astore k => Nat.beq n 2 && Nat.beq k x
    | .iload_n k => Nat.beq n 1 && Nat.beq (k : Nat) x
    | .lload_n k => Nat.beq n 1 && Nat.beq (k : Nat) x
    | .aload_n k => Nat.beq n 1 && Nat.beq (k : Nat) x
    | .istore_n k => Nat.beq n 1 && Nat.beq (k : Nat) x
    | .lstore_n k => Nat.beq n 1 && Nat.beq (k : Nat) x
    | .astore_n k => Nat.beq n 1 && Nat.beq (k : Nat) x
    | .iinc k d => Nat.beq n 3 && Nat.beq k x && decide (Int32.ofInt d = c)
    | .getfield k => Nat.beq n 3 && decide ((oc, k, x, y) ∈ kw_f) && Nat.beq (kv_ft x y) z && Nat.blt x 7 && Nat.blt y (kv_ct x)
    | .putfield k => Nat.beq n 3 && decide ((oc, k, x, y) ∈ kw_f) && Nat.beq (kv_ft x y) z && Nat.blt x 7 && Nat.blt y (kv_ct x) && !((kn_at x).2.1 y).2.2.2 && (match z with
      | 0 => decide (parseFieldDescriptor ((kn_at x).2.1 y).2.2.1 = some .int)
      | 1 => decide (parseFieldDescriptor ((kn_at x).2.1 y).2.2.1 = some .long)
      | 3 => decide (parseFieldDescriptor ((kn_at x).2.1 y).2.2.1 = some .boolean)
      | _ => decide (parseFieldDescriptor ((kn_at x).2.1 y).2.2.1 = some (.array .int)) || decide (parseFieldDescriptor ((kn_at x).2.1 y).2.2.1 = some (.array (.array .long))))
    | .invokestatic k => Nat.beq n 3 && Nat.blt 0 h && (match z with
      | 10 => decide ((oc, k) ∈ kw_a)
      | 11 => decide ((oc, k) ∈ kw_a)
      | 20 => decide ((oc, k, 20) ∈ kw_x)
      | 21 => decide ((oc, k, 21) ∈ kw_x)
      | _ => (decide ((oc, k, x, 1) ∈ kw_m) || decide ((oc, k, x, 2) ∈ kw_m)) && (match kn_m[x]? with
        | some q => Nat.beq q.2.2.2.2.2.1 y && q.2.2.2.2.2.2.1 && Nat.blt q.2.2.2.2.2.2.2 h
        | none => false))
    | .invokevirtual k => Nat.beq n 3 && decide ((oc, k, x, 0) ∈ kw_m) && (match kn_m[x]? with
        | some q => Nat.beq q.2.2.2.2.2.1 y && !q.2.2.2.2.2.2.1 && Nat.blt q.2.2.2.2.2.2.2 h && decide (q.1.cls = (kn_at z).1) && Nat.blt z 7 && Nat.blt 0 y
        | none => false)
    | .goto o => Nat.beq n 3 && decide ((pc : Int) + o = (x : Int))
    | .if_icmp _ o => Nat.beq n 3 && decide ((pc : Int) + o = (x : Int))
    | .ifCond _ o => Nat.beq n 3 && decide ((pc : Int) + o = (x : Int))
    | .tableswitch d lo hi offs => decide ((pc : Int) + d = (x : Int)) && decide (0 ≤ lo ∧ lo < 1000) && decide (hi + 1 = lo + (offs.size : Int)) && decide (t.length = offs.size) && Nat.blt offs.size 1000 && (List.range offs.size).all (fun j => match t[j]?, offs[j]? with
      | some (k, g), some o => decide (k = Int32.ofNat (lo.toNat + j)) && decide ((pc : Int) + o = (g : Int))
      | _, _ => false)
    | .lookupswitch d ps => decide ((pc : Int) + d = (x : Int)) && (ps.toList.zip (ps.toList.drop 1)).all (fun (a, next) => a.1 < next.1) && decide (t.length = ps.toList.length) && decide ((t.map Prod.fst).Nodup) && (t.zip ps.toList).all (fun e => decide (e.1.1.toInt = e.2.1) && decide ((pc : Int) + e.2.2 = (e.1.2 : Int)))
    | _ => Nat.beq n 1
theorem kn_at_ok : ∀ x, x < 7 → vwCl[x]? = some (kn_at x) := by
  intro x hx
  rcases (show x = 0 ∨ x = 1 ∨ x = 2 ∨ x = 3 ∨ x = 4 ∨ x = 5 ∨ x = 6 by omega) with rfl | rfl | rfl | rfl | rfl | rfl | rfl <;> rfl
theorem kn_at_ct : ∀ x, x < 7 → kv_ct x = (kn_at x).2.2 := by
  intro x hx
  rcases (show x = 0 ∨ x = 1 ∨ x = 2 ∨ x = 3 ∨ x = 4 ∨ x = 5 ∨ x = 6 by omega) with rfl | rfl | rfl | rfl | rfl | rfl | rfl <;> rfl
theorem kn_at_in : ∀ x, x < 7 → ∀ w ∈ u_ws (kn_at x).1 (kn_at x).2.1 (kn_at x).2.2, w ∈ lw_tbl := by
  intro x hx
  rcases (show x = 0 ∨ x = 1 ∨ x = 2 ∨ x = 3 ∨ x = 4 ∨ x = 5 ∨ x = 6 by omega) with rfl | rfl | rfl | rfl | rfl | rfl | rfl
  · exact kn_in0
  · exact kn_in2
  · exact kn_in3
  · exact kn_in4
  · exact kn_in5
  · exact kn_in6
  · exact kn_in7
/-- the words that last -/
def kw_gd : List Cond := lw_tbl.filter goodWord
theorem kw_g {w : Cond} (h : w ∈ lw_tbl) (hg : goodWord w = true) : w ∈ kw_gd := List.mem_filter.mpr ⟨h, hg⟩
theorem kw_good : GoodIn kw_gd kw_gd := fun w h => ⟨h, good_of_word (List.mem_filter.mp h).2⟩
theorem kn_at_gd : ∀ x, x < 7 → ∀ w ∈ u_ws (kn_at x).1 (kn_at x).2.1 (kn_at x).2.2, w ∈ kw_gd := by
  intro x hx w hw
  refine kw_g (kn_at_in x hx w hw) ?_
  obtain ⟨k, -, rfl⟩ := List.mem_map.mp hw
  unfold u_lay
  split <;> rfl
def kv_ty (x : Nat) : Nat → FieldType := kv_tfs.getD x tyX0
theorem kn_at_ty : ∀ x, x < 7 → ∀ k, k < (kn_at x).2.2 → parseFieldDescriptor ((kn_at x).2.1 k).2.2.1 = some (kv_ty x k) := by
  intro x hx
  rcases (show x = 0 ∨ x = 1 ∨ x = 2 ∨ x = 3 ∨ x = 4 ∨ x = 5 ∨ x = 6 by omega) with rfl | rfl | rfl | rfl | rfl | rfl | rfl
  · exact tyX0_ok
  · exact tyX2_ok
  · exact tyX3_ok
  · exact tyX4_ok
  · exact tyX5_ok
  · exact tyX6_ok
  · exact tyX7_ok
theorem kn_at_nm : ∀ x, x < 7 → ∀ a, a < (kn_at x).2.2 → ∀ b, b < (kn_at x).2.2 → a ≠ b → ((kn_at x).2.1 a).2.1 ≠ ((kn_at x).2.1 b).2.1 := by
  intro x hx
  rcases (show x = 0 ∨ x = 1 ∨ x = 2 ∨ x = 3 ∨ x = 4 ∨ x = 5 ∨ x = 6 by omega) with rfl | rfl | rfl | rfl | rfl | rfl | rfl
  · exact nmX0
  · exact nmX2
  · exact nmX3
  · exact nmX4
  · exact nmX5
  · exact nmX6
  · exact nmX7
section KE
variable {sh : Nat → Nat × Nat} {cy : kv_Y} {ad : Nat → Nat} {M M' : km_M} {a : Nat}
theorem kv_E_obj {ci : Nat} (h : (sh a).1 = ci) (hc : ci < 7) : kv_E sh cy ad M a = .inr (ci, kv_fs ad M a ci) := by
  unfold kv_E
  rw [h]
  rcases (show ci = 0 ∨ ci = 1 ∨ ci = 2 ∨ ci = 3 ∨ ci = 4 ∨ ci = 5 ∨ ci = 6 by omega) with rfl | rfl | rfl | rfl | rfl | rfl | rfl <;> rfl
theorem kv_E_10 (h : (sh a).1 = 10) : kv_E sh cy ad M a = .inl (cy.1, (sh a).2, .inl (M.1 a)) := by unfold kv_E; rw [h]; rfl
theorem kv_E_11 (h : (sh a).1 = 11) : kv_E sh cy ad M a = .inl (cy.2.1, (sh a).2, .inr (.inl (M.2.1 a))) := by unfold kv_E; rw [h]; rfl
theorem kv_E_12 (h : (sh a).1 = 12) : kv_E sh cy ad M a = .inl (cy.2.2.1, (sh a).2, .inl (M.1 a)) := by unfold kv_E; rw [h]; rfl
theorem kv_E_13 (h : (sh a).1 = 13) : kv_E sh cy ad M a = .inl (cy.2.2.2.1, (sh a).2, .inr (.inr (.inr (.inr (fun i => some (ad (M.2.2 a i))))))) := by unfold kv_E; rw [h]; rfl
theorem kv_E_14 (h : (sh a).1 = 14) : kv_E sh cy ad M a = .inl (cy.2.2.2.2, (sh a).2, .inr (.inr (.inr (.inr (fun i => some (ad (M.2.2 a i))))))) := by unfold kv_E; rw [h]; rfl
theorem kv_E_same (h1 : M'.1 a = M.1 a) (h2 : M'.2.1 a = M.2.1 a) (h3 : M'.2.2 a = M.2.2 a) : kv_E sh cy ad M' a = kv_E sh cy ad M a := by
  have hf : ∀ ci, kv_fs ad M' a ci = kv_fs ad M a ci := fun ci => by
    unfold kv_fs
    refine List.map_congr_left fun k _ => ?_
    unfold km_ld
    rw [h1, h2, h3]
  unfold kv_E
  simp only [h1, h2, h3, hf]
theorem km_up_ne {α : Type} {f : Nat → Nat → α} {b k : Nat} {v : α} (h : b ≠ a) : km_up f a k v b = f b := by
  funext j
  unfold km_up
  rw [if_neg (fun q => h q.1)]
theorem km_up_at {α : Type} {f : Nat → Nat → α} {k : Nat} {v : α} (j : Nat) : km_up f a k v a j = if j = k then v else f a j := by
  unfold km_up
  by_cases h : j = k
  · rw [if_pos ⟨rfl, h⟩, if_pos h]
  · rw [if_neg (fun q => h q.2), if_neg h]
theorem kv_fs_set {ci y : Nat} {v : Value} (hy : y < kv_ct ci) (hv : km_tr ad (km_ld (kv_ft ci y) M' a y) = v) (ho : ∀ k, k ≠ y → km_ld (kv_ft ci k) M' a k = km_ld (kv_ft ci k) M a k) : kv_fs ad M' a ci = (kv_fs ad M a ci).set y v := by
  apply List.ext_getElem?
  intro i
  by_cases hi : i = y
  · subst hi
    rw [List.getElem?_set_self (by unfold kv_fs; rw [List.length_map, List.length_range]; exact hy)]
    unfold kv_fs
    rw [List.getElem?_map, List.getElem?_range hy, ← hv]
    rfl
  · rw [List.getElem?_set_ne (fun q => hi q.symm)]
    unfold kv_fs
    rw [List.getElem?_map, List.getElem?_map]
    cases hq : (List.range (kv_ct ci))[i]? with
    | none => rfl
    | some k =>
      have e : k = i := by
        have := (List.getElem?_eq_some_iff.mp hq).2
        simpa using this.symm
      subst e
      show some (km_tr ad (km_ld (kv_ft ci k) M' a k)) = some (km_tr ad (km_ld (kv_ft ci k) M a k))
      rw [ho k hi]
end KE
theorem kv_tys0 (cy : kv_Y) : (kv_tys cy)[0]? = some (cy.1, .int) := rfl
theorem kv_nar {v : Int32} (h : v = 0 ∨ v = 1) : vp_nar .boolean v = v ∧ narrow .boolean (.int v) = .int v ∧ fits .boolean (.int v) = true := by
  rcases h with rfl | rfl <;> exact ⟨by decide +kernel, by decide +kernel, by decide +kernel⟩
theorem kv_assignA {s : State} {cJ comp : ClassId} {kJ : Class} {ty : FieldType} (h : s.vm.classes[cJ]? = some kJ) (hk : kJ.kind = .array comp ty) : s.vm.assignable cJ cJ = true := by
  show s.vm.assignableAux (255 + 1) cJ cJ = true
  rw [Vm.assignableAux]
  simp
section KS
variable {p : Program} {l : Launch} {e : Env} {R : Room} {s : State} {m : MethodId} {args : Array Value} {below : List Frame} {meth : Method} {c : Code} {H H0 : Heap} {locs : List Loc} {Q : State → Prop}
variable {cc : ByteArray} {pc : Nat} {ls : Array Slot} {rest : List Value} {D : va_G} {cl : List vw_C} {A : Nat → Prop} {a : Nat} {tys : List (ClassId × FieldType)} {ws : va_W} {cells slots : Nat}
/-- a row of a grid is read -/
theorem kv_aldr (hexec : p.tables.exec = Jvm.exec) (hb : c.code = cc) (hK : va_K D cl tys s) (hP : va_P D cl ws H) (q0 t0 : Nat) {cA : ClassId} {ty : FieldType} {n : Nat} {f : Nat → Option Nat} (ha : ws[q0]? = some (a, .inl (cA, n, .inr (.inr (.inr (.inr f)))))) (ht : tys[t0]? = some (cA, .array ty)) {i : Int32} (hin : vp_in i n) (hdg : decode cc pc = .ok (.aaload, 1))
    (kk : W p l e R s m args below meth c H locs cells slots Q (F0 m (pc + 1) ls (va_rf (f i.toNatClampNeg) :: rest))) : W p l e R s m args below meth c H locs cells slots Q (F0 m pc ls (.int i :: .ref a :: rest)) := by
  have hlt : i.toNatClampNeg < n := Nat.not_le.mp fun q => hin (Or.inr q)
  exact W.aald (v := va_rf (f i.toNatClampNeg)) (ty := .array ty) hexec hb (hP q0 _ ha) ((hK.2 t0 _ ht).1 n (fun j => va_rf (f j))) rfl (fun q => by cases q) (by show ¬ (i < 0 ∨ (arrV _ _ _).slots.size ≤ _); rw [arrV_size]; exact hin) (by show (arrV _ _ _).slots[_]? = _; rw [arrV_read _ _ hlt]) rfl rfl hdg kk
/-- a row of a grid is put -/
theorem kv_astr (hexec : p.tables.exec = Jvm.exec) (hb : c.code = cc) (hov : (Cond.arrayOver (.array .long)).before args s = true) (hK : va_K D cl tys s) (hP : va_P D cl ws H) (hD : va_D A ws) (hS : va_S A H0 H locs) (q0 t0 t1 qk : Nat) {cA cJ : ClassId} {n v : Nat} {g : vp_A} {f : Nat → Option Nat} (ha : ws[q0]? = some (a, .inl (cA, n, .inr (.inr (.inr (.inr f)))))) (ht : tys[t0]? = some (cA, .array .long)) (ht1 : tys[t1]? = some (cJ, .long)) (hv : ws[qk]? = some (v, .inl (cJ, g))) {i : Int32} (hin : vp_in i n) (hdg : decode cc pc = .ok (.aastore, 1))
    (kk : ∀ (H1 : Heap) (locs1 : List Loc), va_P D cl (ws.set q0 (a, .inl (cA, n, .inr (.inr (.inr (.inr (va_up f i.toNatClampNeg (some v)))))))) H1 → va_D A (ws.set q0 (a, .inl (cA, n, .inr (.inr (.inr (.inr (va_up f i.toNatClampNeg (some v)))))))) → va_S A H0 H1 locs1 → W p l e R s m args below meth c H1 locs1 cells slots Q (F0 m (pc + 1) ls rest)) : W p l e R s m args below meth c H locs cells slots Q (F0 m pc ls (.ref v :: .int i :: .ref a :: rest)) := by
  have hlt : i.toNatClampNeg < n := Nat.not_le.mp fun q => hin (Or.inr q)
  have h0 : ¬ i < 0 := fun q => hin (Or.inl q)
  obtain ⟨comp, cG, kG', hcomp, -, hkG, hkind, hcG⟩ := arrayOverA_spec hov
  have e1 : cA = cG := by
    have h1 : s.vm.findClass ("[" ++ (FieldType.array .long).toString) = some cA := (hK.2 t0 _ ht).2
    exact Option.some.inj (h1.symm.trans hcG)
  have e2 : cJ = comp := by
    have h1 : s.vm.findClass ("[" ++ FieldType.long.toString) = some cJ := (hK.2 t1 _ ht1).2
    exact Option.some.inj (h1.symm.trans hcomp)
  subst e1
  subst e2
  have hgv := hP qk _ hv
  obtain ⟨kJ, hkJ, compJ, hkindJ⟩ := ((hK.2 t1 _ ht1).1 0 (fun _ => .null)).2
  have hkJ' : s.vm.classes[cJ]? = some kJ := hkJ
  have hcls : (vp_cell cJ g).cls = cJ := by unfold vp_cell; cases g.2 with
    | inl f => rfl
    | inr r => cases r with
      | inl f => rfl
      | inr r => cases r with
        | inl f => rfl
        | inr r => cases r with
          | inl f => rfl
          | inr f => rfl
  have hvm : ∀ q, (vp_cell cJ g).vm ≠ .statics q := by
    intro q; unfold vp_cell; cases g.2 with
    | inl f => intro h; cases h
    | inr r => cases r with
      | inl f => intro h; cases h
      | inr r => cases r with
        | inl f => intro h; cases h
        | inr r => cases r with
          | inl f => intro h; cases h
          | inr f => intro h; cases h
  refine W.aast hexec hb (hP q0 _ ha) (fun q h => by cases h) (fun h => by cases h) hkG hkind rfl hkJ' ⟨h0, by show _ < (arrV _ _ _).slots.size; rw [arrV_size]; exact hlt⟩ hgv hvm (by rw [hcls]; exact hkJ') (by rw [hcls]; exact kv_assignA hkJ' hkindJ) rfl rfl hdg fun H1 e z oq => ?_
  refine kk H1 _ (hP.set hD ha ?_ oq) (hD.set ha) (hS.put z oq (hD.2 q0 _ ha))
  show H1[a]? = some (vp_cell _ _)
  rw [e]
  show some ((vp_cell _ _).setSlot _ _) = _
  rw [vp_cell_q, vp_cell_q, arrV_store]
  congr 2
  funext q
  by_cases hq : q = i.toNatClampNeg
  · subst hq
    simp [updV, va_up, va_rf]
  · simp [updV, va_up, hq]
end KS
set_option maxHeartbeats 4000000 in
/-- a straight instruction's step -/
theorem kS_sim {p : Program} {l : Launch} {e : Env} {s : State} {m : MethodId} {args : Array Value} {below : List Frame} {meth : Method} {c : Code} {H H0 : Heap} {locs : List Loc} {Q : State → Prop} {cc : ByteArray} {pc : Nat} {ls : Array Slot} {D : va_G} {A : Nat → Prop}
    {sh : Nat → Nat × Nat} {N : Nat} (hN : ∀ a, (sh a).1 < 20 → a < N) {cy : kv_Y} {ad : Nat → Nat} {oc h nL : Nat} {it : km_I} {lv lv' : km_L} {st st' : List Value} {M M' : km_M} {ps : List Prop}
    (hx : p.tables.exec = Jvm.exec) (hb : c.code = cc) (hml : c.maxLocals = nL) (hown : s.vm.findClass (kn_o oc) = some m.cls) (hts : ∀ w ∈ kw_gd, w.before args s = true) (hov : (Cond.arrayOver (.array .long)).before args s = true) (hK : va_K D vwCl (kv_tys cy) s)
    (hd : decode cc pc = .ok (it.1, it.2.1)) (hc : kI_c oc h pc it = true) (hs : kS sh it lv st M = some (ps, lv', st', M')) (hps : ∀ q ∈ ps, q)
    (hP : va_P D vwCl (kv_W sh cy ad N M) H) (hD : va_D A (kv_W sh cy ad N M)) (hS : va_S A H0 H locs) (hL : kv_L ad nL lv ls)
    (kk : ∀ (H' : Heap) (locs' : List Loc) (ls' : Array Slot), va_P D vwCl (kv_W sh cy ad N M') H' → va_D A (kv_W sh cy ad N M') → va_S A H0 H' locs' → kv_L ad nL lv' ls' → W p l e (kR h) s m args below meth c H' locs' 0 0 Q (F0 m (pc + it.2.1) ls' (st'.map (km_tr ad)))) :
    W p l e (kR h) s m args below meth c H locs 0 0 Q (F0 m pc ls (st.map (km_tr ad))) := by
  obtain ⟨i, n, x, y, z, cv, w, t⟩ := it
  unfold kS at hs
  dsimp only at hs hd kk
  split at hs
  · -- iconst
    simp only [kI_c, Bool.and_eq_true, decide_eq_true_eq] at hc
    obtain ⟨hn, hv⟩ := hc
    have hn := Nat.eq_of_beq_eq_true hn
    subst hn
    cases hs
    exact lv_iconst hx hb hd hv (kk H locs ls hP hD hS hL)
  · -- bipush
    simp only [kI_c, Bool.and_eq_true, decide_eq_true_eq] at hc
    obtain ⟨hn, hv⟩ := hc
    have hn := Nat.eq_of_beq_eq_true hn
    subst hn
    cases hs
    exact lv_bipush hx hb hd hv (kk H locs ls hP hD hS hL)
  · -- sipush
    simp only [kI_c, Bool.and_eq_true, decide_eq_true_eq] at hc
    obtain ⟨hn, hv⟩ := hc
    have hn := Nat.eq_of_beq_eq_true hn
    subst hn
    cases hs
    exact lv_sipush hx hb hd hv (kk H locs ls hP hD hS hL)
  · -- ldc
    simp only [kI_c, Bool.and_eq_true, decide_eq_true_eq] at hc
    obtain ⟨hn, hv⟩ := hc
    have hn := Nat.eq_of_beq_eq_true hn
    subst hn
    cases hs
    exact lv_ldc hx hb hown (hts _ (kw_g (kw_c_ok _ hv) rfl)) hd (kk H locs ls hP hD hS hL)
  · -- ldc_w
    simp only [kI_c, Bool.and_eq_true, decide_eq_true_eq] at hc
    obtain ⟨hn, hv⟩ := hc
    have hn := Nat.eq_of_beq_eq_true hn
    subst hn
    cases hs
    exact lv_ldcw hx hb hown (hts _ (kw_g (kw_c_ok _ hv) rfl)) hd (kk H locs ls hP hD hS hL)
  · -- lconst
    simp only [kI_c, Bool.and_eq_true, decide_eq_true_eq] at hc
    obtain ⟨hn, hv⟩ := hc
    have hn := Nat.eq_of_beq_eq_true hn
    subst hn
    cases hs
    exact lv_lconst hx hb hd hv (kk H locs ls hP hD hS hL)
  · -- ldc2_w
    simp only [kI_c, Bool.and_eq_true, decide_eq_true_eq] at hc
    obtain ⟨hn, hv⟩ := hc
    have hn := Nat.eq_of_beq_eq_true hn
    subst hn
    cases hs
    exact lv_ldc2 hx hb hown (hts _ (kw_g (kw_l_ok _ hv) rfl)) hd (kk H locs ls hP hD hS hL)
  · -- iload
    simp only [kI_c, Bool.and_eq_true] at hc
    obtain ⟨hn, hv⟩ := hc
    have hn := Nat.eq_of_beq_eq_true hn
    have hv := Nat.eq_of_beq_eq_true hv
    subst hn
    subst hv
    split at hs
    · rename_i v hg
      cases hs
      exact lv_iload hx hb hd (hL.2.2.2 _ _ hg) (kk H locs ls hP hD hS hL)
    · cases hs
  · -- iload_n
    simp only [kI_c, Bool.and_eq_true] at hc
    obtain ⟨hn, hv⟩ := hc
    have hn := Nat.eq_of_beq_eq_true hn
    have hv := Nat.eq_of_beq_eq_true hv
    subst hn
    split at hs
    · rename_i v hg
      cases hs
      exact lv_iload_n hx hb hd hv (hL.2.2.2 _ _ hg) (kk H locs ls hP hD hS hL)
    · cases hs
  · -- lload
    simp only [kI_c, Bool.and_eq_true] at hc
    obtain ⟨hn, hv⟩ := hc
    have hn := Nat.eq_of_beq_eq_true hn
    have hv := Nat.eq_of_beq_eq_true hv
    subst hn
    subst hv
    split at hs
    · rename_i v hg
      cases hs
      exact lv_lload hx hb hd (hL.2.2.2 _ _ hg) (kk H locs ls hP hD hS hL)
    · cases hs
  · -- lload_n
    simp only [kI_c, Bool.and_eq_true] at hc
    obtain ⟨hn, hv⟩ := hc
    have hn := Nat.eq_of_beq_eq_true hn
    have hv := Nat.eq_of_beq_eq_true hv
    subst hn
    split at hs
    · rename_i v hg
      cases hs
      exact lv_lload_n hx hb hd hv (hL.2.2.2 _ _ hg) (kk H locs ls hP hD hS hL)
    · cases hs
  · -- aload
    simp only [kI_c, Bool.and_eq_true] at hc
    obtain ⟨hn, hv⟩ := hc
    have hn := Nat.eq_of_beq_eq_true hn
    have hv := Nat.eq_of_beq_eq_true hv
    subst hn
    subst hv
    split at hs
    · rename_i v hg
      cases hs
      exact lv_aload hx hb hd (hL.2.2.2 _ _ hg) (kk H locs ls hP hD hS hL)
    · cases hs
  · -- aload_n
    simp only [kI_c, Bool.and_eq_true] at hc
    obtain ⟨hn, hv⟩ := hc
    have hn := Nat.eq_of_beq_eq_true hn
    have hv := Nat.eq_of_beq_eq_true hv
    subst hn
    split at hs
    · rename_i v hg
      cases hs
      exact lv_aload_n hx hb hd hv (hL.2.2.2 _ _ hg) (kk H locs ls hP hD hS hL)
    · cases hs
  · -- istore
    simp only [kI_c, Bool.and_eq_true] at hc
    obtain ⟨hn, hv⟩ := hc
    have hn := Nat.eq_of_beq_eq_true hn
    have hv := Nat.eq_of_beq_eq_true hv
    subst hn
    subst hv
    split at hs
    · split at hs
      · rename_i hbl
        cases hs
        exact lv_istore hx hb hd hL.has (by have h9 := Nat.blt_eq.mp hbl; rw [hL.1] at h9; exact h9) rfl (fun ls' h' => kk H locs ls' hP hD hS (hL.st1 h'))
      · cases hs
    · cases hs
  · -- istore_n
    simp only [kI_c, Bool.and_eq_true] at hc
    obtain ⟨hn, hv⟩ := hc
    have hn := Nat.eq_of_beq_eq_true hn
    have hv := Nat.eq_of_beq_eq_true hv
    subst hn
    split at hs
    · split at hs
      · rename_i hbl
        cases hs
        exact lv_istore_n hx hb hd hv hL.has (by have h9 := Nat.blt_eq.mp hbl; rw [hL.1] at h9; exact h9) rfl (fun ls' h' => kk H locs ls' hP hD hS (hL.st1 h'))
      · cases hs
    · cases hs
  · -- astore
    simp only [kI_c, Bool.and_eq_true] at hc
    obtain ⟨hn, hv⟩ := hc
    have hn := Nat.eq_of_beq_eq_true hn
    have hv := Nat.eq_of_beq_eq_true hv
    subst hn
    subst hv
    split at hs
    · split at hs
      · rename_i hbl
        cases hs
        exact lv_astore hx hb hd hL.has (by have h9 := Nat.blt_eq.mp hbl; rw [hL.1] at h9; exact h9) rfl (fun ls' h' => kk H locs ls' hP hD hS (hL.st1 h'))
      · cases hs
    · cases hs
  · -- astore_n
    simp only [kI_c, Bool.and_eq_true] at hc
    obtain ⟨hn, hv⟩ := hc
    have hn := Nat.eq_of_beq_eq_true hn
    have hv := Nat.eq_of_beq_eq_true hv
    subst hn
    split at hs
    · split at hs
      · rename_i hbl
        cases hs
        exact lv_astore_n hx hb hd hv hL.has (by have h9 := Nat.blt_eq.mp hbl; rw [hL.1] at h9; exact h9) rfl (fun ls' h' => kk H locs ls' hP hD hS (hL.st1 h'))
      · cases hs
    · cases hs
  · -- lstore
    simp only [kI_c, Bool.and_eq_true] at hc
    obtain ⟨hn, hv⟩ := hc
    have hn := Nat.eq_of_beq_eq_true hn
    have hv := Nat.eq_of_beq_eq_true hv
    subst hn
    subst hv
    split at hs
    · split at hs
      · rename_i hbl
        cases hs
        exact lv_lstore hx hb hd hL.has (by have h9 := Nat.blt_eq.mp hbl; rw [hL.1] at h9; exact h9) rfl (fun ls' h' => kk H locs ls' hP hD hS (hL.st2 h'))
      · cases hs
    · cases hs
  · -- lstore_n
    simp only [kI_c, Bool.and_eq_true] at hc
    obtain ⟨hn, hv⟩ := hc
    have hn := Nat.eq_of_beq_eq_true hn
    have hv := Nat.eq_of_beq_eq_true hv
    subst hn
    split at hs
    · split at hs
      · rename_i hbl
        cases hs
        exact lv_lstore_n hx hb hd hv hL.has (by have h9 := Nat.blt_eq.mp hbl; rw [hL.1] at h9; exact h9) rfl (fun ls' h' => kk H locs ls' hP hD hS (hL.st2 h'))
      · cases hs
    · cases hs
  · -- iinc
    simp only [kI_c, Bool.and_eq_true, decide_eq_true_eq] at hc
    obtain ⟨⟨hn, hv⟩, hcv⟩ := hc
    have hn := Nat.eq_of_beq_eq_true hn
    have hv := Nat.eq_of_beq_eq_true hv
    subst hn
    subst hv
    split at hs
    · rename_i v hg
      split at hs
      · rename_i hbl
        cases hs
        obtain ⟨k, hk⟩ := List.getElem?_of_mem (kv_al_mem (ad := ad) hg)
        exact lv_iinc (v := v + cv) hx hb hd hL.has hk (by rw [hcv]) (by have h9 := Nat.blt_eq.mp hbl; rw [hL.1] at h9; exact h9) rfl (fun ls' h' => kk H locs ls' hP hD hS (hL.st1 (v := .int (v + cv)) h'))
      · cases hs
    · cases hs
  · -- iadd
    simp only [kI_c] at hc
    have hn := Nat.eq_of_beq_eq_true hc
    subst hn
    split at hs
    · cases hs
      exact lv_iadd hx hb hd (kk H locs ls hP hD hS hL)
    · cases hs
  · -- isub
    simp only [kI_c] at hc
    have hn := Nat.eq_of_beq_eq_true hc
    subst hn
    split at hs
    · cases hs
      exact lv_isub hx hb hd (kk H locs ls hP hD hS hL)
    · cases hs
  · -- imul
    simp only [kI_c] at hc
    have hn := Nat.eq_of_beq_eq_true hc
    subst hn
    split at hs
    · cases hs
      exact lv_imul hx hb hd (kk H locs ls hP hD hS hL)
    · cases hs
  · -- iand
    simp only [kI_c] at hc
    have hn := Nat.eq_of_beq_eq_true hc
    subst hn
    split at hs
    · cases hs
      exact lv_iand hx hb hd (kk H locs ls hP hD hS hL)
    · cases hs
  · -- ior
    simp only [kI_c] at hc
    have hn := Nat.eq_of_beq_eq_true hc
    subst hn
    split at hs
    · cases hs
      exact lv_ior hx hb hd (kk H locs ls hP hD hS hL)
    · cases hs
  · -- ixor
    simp only [kI_c] at hc
    have hn := Nat.eq_of_beq_eq_true hc
    subst hn
    split at hs
    · cases hs
      exact lv_ixor hx hb hd (kk H locs ls hP hD hS hL)
    · cases hs
  · -- idiv
    simp only [kI_c] at hc
    have hn := Nat.eq_of_beq_eq_true hc
    subst hn
    split at hs
    · cases hs
      exact lv_idiv hx hb hd (hps _ List.mem_cons_self) (kk H locs ls hP hD hS hL)
    · cases hs
  · -- irem
    simp only [kI_c] at hc
    have hn := Nat.eq_of_beq_eq_true hc
    subst hn
    split at hs
    · cases hs
      exact lv_irem hx hb hd (hps _ List.mem_cons_self) (kk H locs ls hP hD hS hL)
    · cases hs
  · -- ishl
    simp only [kI_c] at hc
    have hn := Nat.eq_of_beq_eq_true hc
    subst hn
    split at hs
    · cases hs
      exact lv_ishl hx hb hd (kk H locs ls hP hD hS hL)
    · cases hs
  · -- ishr
    simp only [kI_c] at hc
    have hn := Nat.eq_of_beq_eq_true hc
    subst hn
    split at hs
    · cases hs
      exact lv_ishr hx hb hd (kk H locs ls hP hD hS hL)
    · cases hs
  · -- iushr
    simp only [kI_c] at hc
    have hn := Nat.eq_of_beq_eq_true hc
    subst hn
    split at hs
    · cases hs
      exact lv_iushr hx hb hd rfl (kk H locs ls hP hD hS hL)
    · cases hs
  · -- ladd
    simp only [kI_c] at hc
    have hn := Nat.eq_of_beq_eq_true hc
    subst hn
    split at hs
    · cases hs
      exact lv_ladd hx hb hd (kk H locs ls hP hD hS hL)
    · cases hs
  · -- lsub
    simp only [kI_c] at hc
    have hn := Nat.eq_of_beq_eq_true hc
    subst hn
    split at hs
    · cases hs
      exact lv_lsub hx hb hd (kk H locs ls hP hD hS hL)
    · cases hs
  · -- lmul
    simp only [kI_c] at hc
    have hn := Nat.eq_of_beq_eq_true hc
    subst hn
    split at hs
    · cases hs
      exact lv_lmul hx hb hd (kk H locs ls hP hD hS hL)
    · cases hs
  · -- land
    simp only [kI_c] at hc
    have hn := Nat.eq_of_beq_eq_true hc
    subst hn
    split at hs
    · cases hs
      exact lv_land hx hb hd (kk H locs ls hP hD hS hL)
    · cases hs
  · -- lor
    simp only [kI_c] at hc
    have hn := Nat.eq_of_beq_eq_true hc
    subst hn
    split at hs
    · cases hs
      exact lv_lor hx hb hd (kk H locs ls hP hD hS hL)
    · cases hs
  · -- lxor
    simp only [kI_c] at hc
    have hn := Nat.eq_of_beq_eq_true hc
    subst hn
    split at hs
    · cases hs
      exact lv_lxor hx hb hd (kk H locs ls hP hD hS hL)
    · cases hs
  · -- ldiv
    simp only [kI_c] at hc
    have hn := Nat.eq_of_beq_eq_true hc
    subst hn
    split at hs
    · cases hs
      exact lv_ldiv hx hb hd (hps _ List.mem_cons_self) (kk H locs ls hP hD hS hL)
    · cases hs
  · -- lrem
    simp only [kI_c] at hc
    have hn := Nat.eq_of_beq_eq_true hc
    subst hn
    split at hs
    · cases hs
      exact lv_lrem hx hb hd (hps _ List.mem_cons_self) (kk H locs ls hP hD hS hL)
    · cases hs
  · -- lneg
    simp only [kI_c] at hc
    have hn := Nat.eq_of_beq_eq_true hc
    subst hn
    split at hs
    · cases hs
      exact lv_lneg hx hb hd (kk H locs ls hP hD hS hL)
    · cases hs
  · -- lshl
    simp only [kI_c] at hc
    have hn := Nat.eq_of_beq_eq_true hc
    subst hn
    split at hs
    · cases hs
      exact lv_lshl hx hb hd rfl (kk H locs ls hP hD hS hL)
    · cases hs
  · -- lshr
    simp only [kI_c] at hc
    have hn := Nat.eq_of_beq_eq_true hc
    subst hn
    split at hs
    · cases hs
      exact lv_lshr hx hb hd rfl (kk H locs ls hP hD hS hL)
    · cases hs
  · -- lushr
    simp only [kI_c] at hc
    have hn := Nat.eq_of_beq_eq_true hc
    subst hn
    split at hs
    · cases hs
      exact lv_lushr hx hb hd rfl (kk H locs ls hP hD hS hL)
    · cases hs
  · -- lcmp
    simp only [kI_c] at hc
    have hn := Nat.eq_of_beq_eq_true hc
    subst hn
    split at hs
    · cases hs
      exact W.lcmp hx hb hd (kk H locs ls hP hD hS hL)
    · cases hs
  · -- i2l
    simp only [kI_c] at hc
    have hn := Nat.eq_of_beq_eq_true hc
    subst hn
    split at hs
    · cases hs
      exact lv_i2l hx hb hd rfl (kk H locs ls hP hD hS hL)
    · cases hs
  · -- l2i
    simp only [kI_c] at hc
    have hn := Nat.eq_of_beq_eq_true hc
    subst hn
    split at hs
    · cases hs
      exact lv_l2i hx hb hd rfl (kk H locs ls hP hD hS hL)
    · cases hs
  · -- dup
    simp only [kI_c] at hc
    have hn := Nat.eq_of_beq_eq_true hc
    subst hn
    split at hs
    · cases hs
      exact lv_dup hx hb hd rfl (kk H locs ls hP hD hS hL)
    · cases hs
      exact lv_dup hx hb hd rfl (kk H locs ls hP hD hS hL)
    · cases hs
  · -- dup2
    simp only [kI_c] at hc
    have hn := Nat.eq_of_beq_eq_true hc
    subst hn
    split at hs
    · cases hs
      exact lv_dup2_11 hx hb hd rfl rfl (kk H locs ls hP hD hS hL)
    · cases hs
  · -- pop
    simp only [kI_c] at hc
    have hn := Nat.eq_of_beq_eq_true hc
    subst hn
    split at hs
    · cases hs
      exact lv_pop hx hb hd rfl (kk H locs ls hP hD hS hL)
    · cases hs
      exact lv_pop hx hb hd rfl (kk H locs ls hP hD hS hL)
    · cases hs
  · -- getfield
    simp only [kI_c, Bool.and_eq_true, decide_eq_true_eq] at hc
    obtain ⟨⟨⟨⟨hn, hf⟩, hz⟩, hx7⟩, hy⟩ := hc
    have hn := Nat.eq_of_beq_eq_true hn
    have hz := Nat.eq_of_beq_eq_true hz
    have hx7 := Nat.blt_eq.mp hx7
    have hy := Nat.blt_eq.mp hy
    subst hn
    subst hz
    split at hs
    · rename_i a s9
      cases hs
      have hsh : (sh a).1 = x := hps _ List.mem_cons_self
      have ha : a < N := hN a (by omega)
      have he := kv_at (sh := sh) (cy := cy) (ad := ad) (M := M) ha
      rw [kv_E_obj hsh hx7] at he
      exact va_get (ci := x) (C := (kn_at x).1) (T := (kn_at x).2.1) (N := (kn_at x).2.2) hx hb hts (kn_at_gd x hx7) hown hK hP a he (kn_at_ok x hx7) y (by rw [← kn_at_ct x hx7]; exact hy) (hts _ (kw_g (kw_f_ok _ hf) rfl)) (fun _ h9 => h9) (by unfold kv_fs; rw [List.getElem?_map, List.getElem?_range hy]; rfl) hd (kk H locs ls hP hD hS hL)
    · cases hs
  · -- putfield
    simp only [kI_c, Bool.and_eq_true, decide_eq_true_eq, Bool.not_eq_true'] at hc
    obtain ⟨⟨⟨⟨⟨⟨hn0, hf⟩, hz0⟩, hx70⟩, hy0⟩, hfin⟩, hty⟩ := hc
    have hn := Nat.eq_of_beq_eq_true hn0
    have hz := Nat.eq_of_beq_eq_true hz0
    have hx7 := Nat.blt_eq.mp hx70
    have hy := Nat.blt_eq.mp hy0
    clear hz0 hx70 hy0
    subst hn
    split at hs
    · rename_i v a s9
      cases hs
      have hsh : (sh a).1 = x := hps _ List.mem_cons_self
      have ha : a < N := hN a (by omega)
      have he := kv_at (sh := sh) (cy := cy) (ad := ad) (M := M) ha
      rw [kv_E_obj hsh hx7] at he
      simp only [decide_eq_true_eq] at hty
      have hW : (kv_W sh cy ad N M).set a (ad a, .inr (x, (kv_fs ad M a x).set y (.int v))) = kv_W sh cy ad N (km_up M.1 a y v, M.2.1, M.2.2) := kv_set ha (by
        rw [kv_E_obj hsh hx7]
        refine congrArg (fun q => (.inr (x, q) : va_E)) (kv_fs_set hy ?_ ?_)
        · unfold km_ld
          rw [hz]
          simp only [km_up_at, if_true, km_tr]
        · intro k hk
          unfold km_ld
          simp only [km_up_at, if_neg hk]) (fun b hb9 => kv_E_same (by first | rfl | exact km_up_ne hb9) (by first | rfl | exact km_up_ne hb9) (by first | rfl | exact km_up_ne hb9))
      refine va_put (ci := x) (v := .int v) (C := (kn_at x).1) (T := (kn_at x).2.1) (N := (kn_at x).2.2) hx hb hts (kn_at_gd x hx7) (kv_ty x) (kn_at_ty x hx7) (kn_at_nm x hx7) hown hK hP hD hS a he (kn_at_ok x hx7) y (by rw [← kn_at_ct x hx7]; exact hy) (hts _ (kw_g (kw_f_ok _ hf) rfl)) (fun _ h9 => h9) hfin hty (rfl) (rfl) (by unfold kv_fs; rw [List.length_map, List.length_range]; exact hy) hd (fun H1 locs1 hP1 hD1 hS1 => ?_)
      rw [hW] at hP1 hD1
      exact kk H1 locs1 ls hP1 hD1 hS1 hL
    · rename_i v a s9
      cases hs
      have hsh : (sh a).1 = x := hps _ List.mem_cons_self
      have ha : a < N := hN a (by omega)
      have he := kv_at (sh := sh) (cy := cy) (ad := ad) (M := M) ha
      rw [kv_E_obj hsh hx7] at he
      simp only [decide_eq_true_eq] at hty
      have hW : (kv_W sh cy ad N M).set a (ad a, .inr (x, (kv_fs ad M a x).set y (.long v))) = kv_W sh cy ad N (M.1, km_up M.2.1 a y v, M.2.2) := kv_set ha (by
        rw [kv_E_obj hsh hx7]
        refine congrArg (fun q => (.inr (x, q) : va_E)) (kv_fs_set hy ?_ ?_)
        · unfold km_ld
          rw [hz]
          simp only [km_up_at, if_true, km_tr]
        · intro k hk
          unfold km_ld
          simp only [km_up_at, if_neg hk]) (fun b hb9 => kv_E_same (by first | rfl | exact km_up_ne hb9) (by first | rfl | exact km_up_ne hb9) (by first | rfl | exact km_up_ne hb9))
      refine va_put (ci := x) (v := .long v) (C := (kn_at x).1) (T := (kn_at x).2.1) (N := (kn_at x).2.2) hx hb hts (kn_at_gd x hx7) (kv_ty x) (kn_at_ty x hx7) (kn_at_nm x hx7) hown hK hP hD hS a he (kn_at_ok x hx7) y (by rw [← kn_at_ct x hx7]; exact hy) (hts _ (kw_g (kw_f_ok _ hf) rfl)) (fun _ h9 => h9) hfin hty (rfl) (rfl) (by unfold kv_fs; rw [List.length_map, List.length_range]; exact hy) hd (fun H1 locs1 hP1 hD1 hS1 => ?_)
      rw [hW] at hP1 hD1
      exact kk H1 locs1 ls hP1 hD1 hS1 hL
    · rename_i v a s9
      simp only [Bool.or_eq_true, decide_eq_true_eq] at hty
      rcases hty with hty | hty
      · cases hs
        have hsh : (sh a).1 = x := hps _ List.mem_cons_self
        have ha : a < N := hN a (by omega)
        have he := kv_at (sh := sh) (cy := cy) (ad := ad) (M := M) ha
        rw [kv_E_obj hsh hx7] at he
        have hW : (kv_W sh cy ad N M).set a (ad a, .inr (x, (kv_fs ad M a x).set y (.ref (ad v)))) = kv_W sh cy ad N (M.1, M.2.1, km_up M.2.2 a y v) := kv_set ha (by
          rw [kv_E_obj hsh hx7]
          refine congrArg (fun q => (.inr (x, q) : va_E)) (kv_fs_set hy ?_ ?_)
          · unfold km_ld
            rw [hz]
            simp only [km_up_at, if_true, km_tr]
          · intro k hk
            unfold km_ld
            simp only [km_up_at, if_neg hk]) (fun b hb9 => kv_E_same (by first | rfl | exact km_up_ne hb9) (by first | rfl | exact km_up_ne hb9) (by first | rfl | exact km_up_ne hb9))
        refine va_put (ci := x) (v := .ref (ad v)) (C := (kn_at x).1) (T := (kn_at x).2.1) (N := (kn_at x).2.2) hx hb hts (kn_at_gd x hx7) (kv_ty x) (kn_at_ty x hx7) (kn_at_nm x hx7) hown hK hP hD hS a he (kn_at_ok x hx7) y (by rw [← kn_at_ct x hx7]; exact hy) (hts _ (kw_g (kw_f_ok _ hf) rfl)) (fun _ h9 => h9) hfin hty (rfl) (rfl) (by unfold kv_fs; rw [List.length_map, List.length_range]; exact hy) hd (fun H1 locs1 hP1 hD1 hS1 => ?_)
        rw [hW] at hP1 hD1
        exact kk H1 locs1 ls hP1 hD1 hS1 hL
      · cases hs
        have hsh : (sh a).1 = x := hps _ List.mem_cons_self
        have ha : a < N := hN a (by omega)
        have he := kv_at (sh := sh) (cy := cy) (ad := ad) (M := M) ha
        rw [kv_E_obj hsh hx7] at he
        have hW : (kv_W sh cy ad N M).set a (ad a, .inr (x, (kv_fs ad M a x).set y (.ref (ad v)))) = kv_W sh cy ad N (M.1, M.2.1, km_up M.2.2 a y v) := kv_set ha (by
          rw [kv_E_obj hsh hx7]
          refine congrArg (fun q => (.inr (x, q) : va_E)) (kv_fs_set hy ?_ ?_)
          · unfold km_ld
            rw [hz]
            simp only [km_up_at, if_true, km_tr]
          · intro k hk
            unfold km_ld
            simp only [km_up_at, if_neg hk]) (fun b hb9 => kv_E_same (by first | rfl | exact km_up_ne hb9) (by first | rfl | exact km_up_ne hb9) (by first | rfl | exact km_up_ne hb9))
        refine va_put (ci := x) (v := .ref (ad v)) (C := (kn_at x).1) (T := (kn_at x).2.1) (N := (kn_at x).2.2) hx hb hts (kn_at_gd x hx7) (kv_ty x) (kn_at_ty x hx7) (kn_at_nm x hx7) hown hK hP hD hS a he (kn_at_ok x hx7) y (by rw [← kn_at_ct x hx7]; exact hy) (hts _ (kw_g (kw_f_ok _ hf) rfl)) (fun _ h9 => h9) hfin hty (rfl) (rfl) (by unfold kv_fs; rw [List.length_map, List.length_range]; exact hy) hd (fun H1 locs1 hP1 hD1 hS1 => ?_)
        rw [hW] at hP1 hD1
        exact kk H1 locs1 ls hP1 hD1 hS1 hL
    · rename_i v a s9
      cases hs
      have hsh : (sh a).1 = x := hps _ List.mem_cons_self
      have ha : a < N := hN a (by omega)
      have he := kv_at (sh := sh) (cy := cy) (ad := ad) (M := M) ha
      rw [kv_E_obj hsh hx7] at he
      have hbz : v = 0 ∨ v = 1 := hps _ (List.mem_cons_of_mem _ List.mem_cons_self)
      simp only [decide_eq_true_eq] at hty
      have hW : (kv_W sh cy ad N M).set a (ad a, .inr (x, (kv_fs ad M a x).set y (.int v))) = kv_W sh cy ad N (km_up M.1 a y v, M.2.1, M.2.2) := kv_set ha (by
        rw [kv_E_obj hsh hx7]
        refine congrArg (fun q => (.inr (x, q) : va_E)) (kv_fs_set hy ?_ ?_)
        · unfold km_ld
          rw [hz]
          simp only [km_up_at, if_true, km_tr]
        · intro k hk
          unfold km_ld
          simp only [km_up_at, if_neg hk]) (fun b hb9 => kv_E_same (by first | rfl | exact km_up_ne hb9) (by first | rfl | exact km_up_ne hb9) (by first | rfl | exact km_up_ne hb9))
      refine va_put (ci := x) (v := .int v) (C := (kn_at x).1) (T := (kn_at x).2.1) (N := (kn_at x).2.2) hx hb hts (kn_at_gd x hx7) (kv_ty x) (kn_at_ty x hx7) (kn_at_nm x hx7) hown hK hP hD hS a he (kn_at_ok x hx7) y (by rw [← kn_at_ct x hx7]; exact hy) (hts _ (kw_g (kw_f_ok _ hf) rfl)) (fun _ h9 => h9) hfin hty ((kv_nar hbz).2.1) ((kv_nar hbz).2.2) (by unfold kv_fs; rw [List.length_map, List.length_range]; exact hy) hd (fun H1 locs1 hP1 hD1 hS1 => ?_)
      rw [hW] at hP1 hD1
      exact kk H1 locs1 ls hP1 hD1 hS1 hL
    · cases hs
  · -- iaload
    simp only [kI_c] at hc
    have hn := Nat.eq_of_beq_eq_true hc
    subst hn
    split at hs
    · rename_i j a s9
      cases hs
      have hsh : (sh a).1 = 10 := hps _ List.mem_cons_self
      have hin : vp_in j (sh a).2 := hps _ (List.mem_cons_of_mem _ List.mem_cons_self)
      have ha : a < N := hN a (by omega)
      have he := kv_at (sh := sh) (cy := cy) (ad := ad) (M := M) ha
      rw [kv_E_10 hsh] at he
      exact va_iald hx hb hK hP a 0 he rfl hin hd (kk H locs ls hP hD hS hL)
    · cases hs
  · -- laload
    simp only [kI_c] at hc
    have hn := Nat.eq_of_beq_eq_true hc
    subst hn
    split at hs
    · rename_i j a s9
      cases hs
      have hsh : (sh a).1 = 11 := hps _ List.mem_cons_self
      have hin : vp_in j (sh a).2 := hps _ (List.mem_cons_of_mem _ List.mem_cons_self)
      have ha : a < N := hN a (by omega)
      have he := kv_at (sh := sh) (cy := cy) (ad := ad) (M := M) ha
      rw [kv_E_11 hsh] at he
      exact va_lald hx hb hK hP a 1 he rfl hin hd (kk H locs ls hP hD hS hL)
    · cases hs
  · -- baload
    simp only [kI_c] at hc
    have hn := Nat.eq_of_beq_eq_true hc
    subst hn
    split at hs
    · rename_i j a s9
      cases hs
      have hsh : (sh a).1 = 12 := hps _ List.mem_cons_self
      have hin : vp_in j (sh a).2 := hps _ (List.mem_cons_of_mem _ List.mem_cons_self)
      have ha : a < N := hN a (by omega)
      have he := kv_at (sh := sh) (cy := cy) (ad := ad) (M := M) ha
      rw [kv_E_12 hsh] at he
      exact va_zald hx hb hK hP a 2 he rfl hin hd (kk H locs ls hP hD hS hL)
    · cases hs
  · -- aaload
    simp only [kI_c] at hc
    have hn := Nat.eq_of_beq_eq_true hc
    subst hn
    split at hs
    · rename_i j a s9
      cases hs
      have hsh : (sh a).1 = x := hps _ List.mem_cons_self
      have hk9 : x = 13 ∨ x = 14 := hps _ (List.mem_cons_of_mem _ List.mem_cons_self)
      have hin : vp_in j (sh a).2 := hps _ (List.mem_cons_of_mem _ (List.mem_cons_of_mem _ List.mem_cons_self))
      have ha : a < N := hN a (by omega)
      have he := kv_at (sh := sh) (cy := cy) (ad := ad) (M := M) ha
      rcases hk9 with rfl | rfl
      · rw [kv_E_13 hsh] at he
        exact va_aldq hx hb hK hP a 3 he rfl hin hd (kk H locs ls hP hD hS hL)
      · rw [kv_E_14 hsh] at he
        exact kv_aldr hx hb hK hP a 4 he rfl hin hd (kk H locs ls hP hD hS hL)
    · cases hs
  · -- iastore
    simp only [kI_c] at hc
    have hn := Nat.eq_of_beq_eq_true hc
    subst hn
    split at hs
    · rename_i v j a s9
      cases hs
      have hsh : (sh a).1 = 10 := hps _ List.mem_cons_self
      have hin : vp_in j (sh a).2 := hps _ (List.mem_cons_of_mem _ List.mem_cons_self)
      have ha : a < N := hN a (by omega)
      have he := kv_at (sh := sh) (cy := cy) (ad := ad) (M := M) ha
      rw [kv_E_10 hsh] at he
      have hW : (kv_W sh cy ad N M).set a (ad a, .inl (cy.1, (sh a).2, .inl (upd (M.1 a) j.toNatClampNeg v))) = kv_W sh cy ad N (km_up M.1 a j.toNatClampNeg v, M.2.1, M.2.2) := kv_set ha (by
        rw [kv_E_10 hsh]
        have hf : km_up M.1 a j.toNatClampNeg v a = upd (M.1 a) j.toNatClampNeg v := by
          funext q
          simp only [km_up_at, upd, vp_updL]
        dsimp only
        rw [hf]) (fun b hb9 => kv_E_same (by first | rfl | exact km_up_ne hb9) (by first | rfl | exact km_up_ne hb9) (by first | rfl | exact km_up_ne hb9))
      refine va_iast hx hb hK hP hD hS a 0 he rfl hin hd (fun H1 locs1 hP1 hD1 hS1 => ?_)
      rw [hW] at hP1 hD1
      exact kk H1 locs1 ls hP1 hD1 hS1 hL
    · cases hs
  · -- lastore
    simp only [kI_c] at hc
    have hn := Nat.eq_of_beq_eq_true hc
    subst hn
    split at hs
    · rename_i v j a s9
      cases hs
      have hsh : (sh a).1 = 11 := hps _ List.mem_cons_self
      have hin : vp_in j (sh a).2 := hps _ (List.mem_cons_of_mem _ List.mem_cons_self)
      have ha : a < N := hN a (by omega)
      have he := kv_at (sh := sh) (cy := cy) (ad := ad) (M := M) ha
      rw [kv_E_11 hsh] at he
      have hW : (kv_W sh cy ad N M).set a (ad a, .inl (cy.2.1, (sh a).2, .inr (.inl (vp_updL (M.2.1 a) j.toNatClampNeg v)))) = kv_W sh cy ad N (M.1, km_up M.2.1 a j.toNatClampNeg v, M.2.2) := kv_set ha (by
        rw [kv_E_11 hsh]
        have hf : km_up M.2.1 a j.toNatClampNeg v a = vp_updL (M.2.1 a) j.toNatClampNeg v := by
          funext q
          simp only [km_up_at, upd, vp_updL]
        dsimp only
        rw [hf]) (fun b hb9 => kv_E_same (by first | rfl | exact km_up_ne hb9) (by first | rfl | exact km_up_ne hb9) (by first | rfl | exact km_up_ne hb9))
      refine va_last hx hb hK hP hD hS a 1 he rfl hin hd (fun H1 locs1 hP1 hD1 hS1 => ?_)
      rw [hW] at hP1 hD1
      exact kk H1 locs1 ls hP1 hD1 hS1 hL
    · cases hs
  · -- bastore
    simp only [kI_c] at hc
    have hn := Nat.eq_of_beq_eq_true hc
    subst hn
    split at hs
    · rename_i v j a s9
      cases hs
      have hsh : (sh a).1 = 12 := hps _ List.mem_cons_self
      have hin : vp_in j (sh a).2 := hps _ (List.mem_cons_of_mem _ List.mem_cons_self)
      have hbz : v = 0 ∨ v = 1 := hps _ (List.mem_cons_of_mem _ (List.mem_cons_of_mem _ List.mem_cons_self))
      have ha : a < N := hN a (by omega)
      have he := kv_at (sh := sh) (cy := cy) (ad := ad) (M := M) ha
      rw [kv_E_12 hsh] at he
      have hW : (kv_W sh cy ad N M).set a (ad a, .inl (cy.2.2.1, (sh a).2, .inl (upd (M.1 a) j.toNatClampNeg v))) = kv_W sh cy ad N (km_up M.1 a j.toNatClampNeg v, M.2.1, M.2.2) := kv_set ha (by
        rw [kv_E_12 hsh]
        have hf : km_up M.1 a j.toNatClampNeg v a = upd (M.1 a) j.toNatClampNeg v := by
          funext q
          simp only [km_up_at, upd, vp_updL]
        dsimp only
        rw [hf]) (fun b hb9 => kv_E_same (by first | rfl | exact km_up_ne hb9) (by first | rfl | exact km_up_ne hb9) (by first | rfl | exact km_up_ne hb9))
      refine va_zast hx hb hK hP hD hS a 2 he rfl hin hd (fun H1 locs1 hP1 hD1 hS1 => ?_)
      rw [(kv_nar hbz).1] at hP1 hD1
      rw [hW] at hP1 hD1
      exact kk H1 locs1 ls hP1 hD1 hS1 hL
    · cases hs
  · -- aastore
    simp only [kI_c] at hc
    have hn := Nat.eq_of_beq_eq_true hc
    subst hn
    split at hs
    · rename_i v j a s9
      cases hs
      have hsh : (sh a).1 = x := hps _ List.mem_cons_self
      have hk9 : (x = 13 ∧ (sh v).1 = 4) ∨ (x = 14 ∧ (sh v).1 = 11) := hps _ (List.mem_cons_of_mem _ List.mem_cons_self)
      have hin : vp_in j (sh a).2 := hps _ (List.mem_cons_of_mem _ (List.mem_cons_of_mem _ List.mem_cons_self))
      have ha : a < N := hN a (by omega)
      have hv9 : v < N := hN v (by omega)
      have he := kv_at (sh := sh) (cy := cy) (ad := ad) (M := M) ha
      have hev := kv_at (sh := sh) (cy := cy) (ad := ad) (M := M) hv9
      rcases hk9 with ⟨rfl, hv4⟩ | ⟨rfl, hv4⟩
      · rw [kv_E_obj hv4 (by decide)] at hev
        rw [kv_E_13 hsh] at he
        have hW : (kv_W sh cy ad N M).set a (ad a, .inl (cy.2.2.2.1, (sh a).2, .inr (.inr (.inr (.inr (va_up (fun i => some (ad (M.2.2 a i))) j.toNatClampNeg (some (ad v)))))))) = kv_W sh cy ad N (M.1, M.2.1, km_up M.2.2 a j.toNatClampNeg v) := kv_set ha (by
          rw [kv_E_13 hsh]
          have hf : (fun i => some (ad (km_up M.2.2 a j.toNatClampNeg v a i))) = va_up (fun i => some (ad (M.2.2 a i))) j.toNatClampNeg (some (ad v)) := by
            funext q
            simp only [km_up_at, va_up]
            by_cases hq : q = j.toNatClampNeg
            · rw [if_pos hq, if_pos hq]
            · rw [if_neg hq, if_neg hq]
          rw [hf]) (fun b hb9 => kv_E_same (by first | rfl | exact km_up_ne hb9) (by first | rfl | exact km_up_ne hb9) (by first | rfl | exact km_up_ne hb9))
        refine va_astq hx hb hK hP hD hS a 3 v 4 (r := (RX5, TX5, 12)) he rfl hev rfl hin hd (fun H1 locs1 hP1 hD1 hS1 => ?_)
        rw [hW] at hP1 hD1
        exact kk H1 locs1 ls hP1 hD1 hS1 hL
      · rw [kv_E_11 hv4] at hev
        rw [kv_E_14 hsh] at he
        have hW : (kv_W sh cy ad N M).set a (ad a, .inl (cy.2.2.2.2, (sh a).2, .inr (.inr (.inr (.inr (va_up (fun i => some (ad (M.2.2 a i))) j.toNatClampNeg (some (ad v)))))))) = kv_W sh cy ad N (M.1, M.2.1, km_up M.2.2 a j.toNatClampNeg v) := kv_set ha (by
          rw [kv_E_14 hsh]
          have hf : (fun i => some (ad (km_up M.2.2 a j.toNatClampNeg v a i))) = va_up (fun i => some (ad (M.2.2 a i))) j.toNatClampNeg (some (ad v)) := by
            funext q
            simp only [km_up_at, va_up]
            by_cases hq : q = j.toNatClampNeg
            · rw [if_pos hq, if_pos hq]
            · rw [if_neg hq, if_neg hq]
          rw [hf]) (fun b hb9 => kv_E_same (by first | rfl | exact km_up_ne hb9) (by first | rfl | exact km_up_ne hb9) (by first | rfl | exact km_up_ne hb9))
        refine kv_astr hx hb hov hK hP hD hS a 4 1 v he rfl rfl hev hin hd (fun H1 locs1 hP1 hD1 hS1 => ?_)
        rw [hW] at hP1 hD1
        exact kk H1 locs1 ls hP1 hD1 hS1 hL
    · cases hs
  · -- arraylength
    simp only [kI_c] at hc
    have hn := Nat.eq_of_beq_eq_true hc
    subst hn
    split at hs
    · rename_i a s9
      cases hs
      have hsh : (sh a).1 = x := hps _ List.mem_cons_self
      have hk9 : x = 10 ∨ x = 11 := hps _ (List.mem_cons_of_mem _ List.mem_cons_self)
      have ha : a < N := hN a (by omega)
      have he := kv_at (sh := sh) (cy := cy) (ad := ad) (M := M) ha
      rcases hk9 with rfl | rfl
      · rw [kv_E_10 hsh] at he
        exact va_alen hx hb hK hP a 0 he rfl rfl hd (kk H locs ls hP hD hS hL)
      · rw [kv_E_11 hsh] at he
        exact va_alen hx hb hK hP a 1 he rfl rfl hd (kk H locs ls hP hD hS hL)
    · cases hs
  · -- invokestatic
    simp only [kI_c, Bool.and_eq_true] at hc
    obtain ⟨⟨hn, hh⟩, hz⟩ := hc
    have hn := Nat.eq_of_beq_eq_true hn
    have hh : 0 < h := Nat.blt_eq.mp hh
    subst hn
    split at hs
    · simp only [decide_eq_true_eq] at hz
      · rename_i k dp b sp a s9
        split at hs
        · rename_i hw
          cases hs
          have hq : ∀ q ∈ _, q := hps
          simp only [List.forall_mem_cons] at hq
          obtain ⟨hsa, hsb, h1, h2, h3, h4, h5, -⟩ := hq
          have ha : a < N := hN a (by omega)
          have hb9 : b < N := hN b (by omega)
          have he := kv_at (sh := sh) (cy := cy) (ad := ad) (M := M) ha
          have heb := kv_at (sh := sh) (cy := cy) (ad := ad) (M := M) hb9
          rw [kv_E_10 hsa] at he
          rw [kv_E_10 hsb] at heb
          have hW : (kv_W sh cy ad N M).set b (ad b, .inl (cy.1, (sh b).2, .inl (va_cpy (M.1 a) (M.1 b) sp.toNatClampNeg dp.toNatClampNeg k.toNatClampNeg))) = kv_W sh cy ad N (km_cp M.1 a b sp.toNatClampNeg dp.toNatClampNeg k.toNatClampNeg, M.2.1, M.2.2) := kv_set hb9 (by
            rw [kv_E_10 hsb]
            have hf : km_cp M.1 a b sp.toNatClampNeg dp.toNatClampNeg k.toNatClampNeg b = va_cpy (M.1 a) (M.1 b) sp.toNatClampNeg dp.toNatClampNeg k.toNatClampNeg := by
              funext q
              simp only [km_cp, if_true]
            dsimp only
            rw [hf]) (fun d hd9 => kv_E_same (by first | rfl | (funext q; simp only [km_cp, if_neg hd9])) (by first | rfl | (funext q; simp only [km_cp, if_neg hd9])) (by first | rfl | (funext q; simp only [km_cp, if_neg hd9])))
          have hl9 : ((st'.map (km_tr ad)).map fun v => v.category).sum + (nativeFrameWords "java/lang/System" "arraycopy" 5 + 11) ≤ (kR h).locals := by
            rw [km_wd_cat]
            have h9 := Nat.le_of_ble_eq_true hw
            have h8 : nativeFrameWords "java/lang/System" "arraycopy" 5 = 7 := by decide +kernel
            rw [h8]
            show km_wd st' + (7 + 11) ≤ 40 * h
            omega
          refine va_copyi hx hb (hml.trans hL.2.1.symm) hown (hts _ (kw_g (kw_a_ok _ hz) rfl)) (hts _ (kw_g (kw_an _ List.mem_cons_self) rfl)) (hts _ (kw_g (kw_an _ (List.mem_cons_of_mem _ List.mem_cons_self)) rfl)) (hts _ (kw_g (kw_an _ (List.mem_cons_of_mem _ (List.mem_cons_of_mem _ List.mem_cons_self))) rfl)) hK hP hD hS a b 0 0 he heb rfl rfl rfl h1 h2 h3 h4 h5 (fun i _ => rfl) (show 1 ≤ (kR h).frames from hh) hl9 hd (fun H1 locs1 hP1 hD1 hS1 => ?_)
          rw [hW] at hP1 hD1
          exact kk H1 locs1 ls hP1 hD1 hS1 hL
        · cases hs
    · simp only [decide_eq_true_eq] at hz
      · rename_i k dp b sp a s9
        split at hs
        · rename_i hw
          cases hs
          have hq : ∀ q ∈ _, q := hps
          simp only [List.forall_mem_cons] at hq
          obtain ⟨hsa, hsb, h1, h2, h3, h4, h5, -⟩ := hq
          have ha : a < N := hN a (by omega)
          have hb9 : b < N := hN b (by omega)
          have he := kv_at (sh := sh) (cy := cy) (ad := ad) (M := M) ha
          have heb := kv_at (sh := sh) (cy := cy) (ad := ad) (M := M) hb9
          rw [kv_E_11 hsa] at he
          rw [kv_E_11 hsb] at heb
          have hW : (kv_W sh cy ad N M).set b (ad b, .inl (cy.2.1, (sh b).2, .inr (.inl (va_cpy (M.2.1 a) (M.2.1 b) sp.toNatClampNeg dp.toNatClampNeg k.toNatClampNeg)))) = kv_W sh cy ad N (M.1, km_cp M.2.1 a b sp.toNatClampNeg dp.toNatClampNeg k.toNatClampNeg, M.2.2) := kv_set hb9 (by
            rw [kv_E_11 hsb]
            have hf : km_cp M.2.1 a b sp.toNatClampNeg dp.toNatClampNeg k.toNatClampNeg b = va_cpy (M.2.1 a) (M.2.1 b) sp.toNatClampNeg dp.toNatClampNeg k.toNatClampNeg := by
              funext q
              simp only [km_cp, if_true]
            dsimp only
            rw [hf]) (fun d hd9 => kv_E_same (by first | rfl | (funext q; simp only [km_cp, if_neg hd9])) (by first | rfl | (funext q; simp only [km_cp, if_neg hd9])) (by first | rfl | (funext q; simp only [km_cp, if_neg hd9])))
          have hl9 : ((st'.map (km_tr ad)).map fun v => v.category).sum + (nativeFrameWords "java/lang/System" "arraycopy" 5 + 11) ≤ (kR h).locals := by
            rw [km_wd_cat]
            have h9 := Nat.le_of_ble_eq_true hw
            have h8 : nativeFrameWords "java/lang/System" "arraycopy" 5 = 7 := by decide +kernel
            rw [h8]
            show km_wd st' + (7 + 11) ≤ 40 * h
            omega
          refine va_copyl hx hb (hml.trans hL.2.1.symm) hown (hts _ (kw_g (kw_a_ok _ hz) rfl)) (hts _ (kw_g (kw_an _ List.mem_cons_self) rfl)) (hts _ (kw_g (kw_an _ (List.mem_cons_of_mem _ List.mem_cons_self)) rfl)) (hts _ (kw_g (kw_an _ (List.mem_cons_of_mem _ (List.mem_cons_of_mem _ List.mem_cons_self))) rfl)) hK hP hD hS a b 1 1 he heb rfl rfl rfl h1 h2 h3 h4 h5 (fun i _ => rfl) (show 1 ≤ (kR h).frames from hh) hl9 hd (fun H1 locs1 hP1 hD1 hS1 => ?_)
          rw [hW] at hP1 hD1
          exact kk H1 locs1 ls hP1 hD1 hS1 hL
        · cases hs
    · simp only [decide_eq_true_eq] at hz
      · rename_i b a s9
        split at hs
        · rename_i hw
          cases hs
          exact va_mmax hx hb (hml.trans hL.2.1.symm) hown (hts _ (kw_g (kw_x_ok _ hz) rfl)) (hts _ (kw_g (kw_xn _ (by simp)) rfl)) (hts _ (kw_g (kw_xn _ (by simp)) rfl)) (hts _ (kw_g (kw_xn _ (by simp)) rfl)) (show 1 ≤ (kR h).frames from hh) (show ((s9.map (km_tr ad)).map fun v => v.category).sum + 13 ≤ (kR h).locals by rw [km_wd_cat]; have h9 := Nat.le_of_ble_eq_true hw; show km_wd s9 + 13 ≤ 40 * h; omega) (Nat.le_refl 0) (Nat.le_refl 0) hd (kk H locs ls hP hD hS hL)
        · cases hs
    · simp only [decide_eq_true_eq] at hz
      · rename_i b a s9
        split at hs
        · rename_i hw
          cases hs
          exact va_mmin hx hb (hml.trans hL.2.1.symm) hown (hts _ (kw_g (kw_x_ok _ hz) rfl)) (hts _ (kw_g (kw_xn _ (by simp)) rfl)) (hts _ (kw_g (kw_xn _ (by simp)) rfl)) (hts _ (kw_g (kw_xn _ (by simp)) rfl)) (show 1 ≤ (kR h).frames from hh) (show ((s9.map (km_tr ad)).map fun v => v.category).sum + 13 ≤ (kR h).locals by rw [km_wd_cat]; have h9 := Nat.le_of_ble_eq_true hw; show km_wd s9 + 13 ≤ 40 * h; omega) (Nat.le_refl 0) (Nat.le_refl 0) hd (kk H locs ls hP hD hS hL)
        · cases hs
    · cases hs
  · cases hs
