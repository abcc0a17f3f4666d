/-! CONSTRUCTORS that call none of the others (printed by wip/whole/gen/ctor.py) -/
theorem dc5_0 : decode cX5_init 0 = .ok (.aload_n 0, 1) := by decide +kernel
theorem dc5_1 : decode cX5_init 1 = .ok (.invokespecial 3, 3) := by decide +kernel
theorem dc5_4 : decode cX5_init 4 = .ok (.aload_n 0, 1) := by decide +kernel
theorem dc5_5 : decode cX5_init 5 = .ok (.iconst 0, 1) := by decide +kernel
theorem dc5_6 : decode cX5_init 6 = .ok (.putfield 9, 3) := by decide +kernel
theorem dc5_9 : decode cX5_init 9 = .ok (.aload_n 0, 1) := by decide +kernel
theorem dc5_10 : decode cX5_init 10 = .ok (.iconst 0, 1) := by decide +kernel
theorem dc5_11 : decode cX5_init 11 = .ok (.putfield 15, 3) := by decide +kernel
theorem dc5_14 : decode cX5_init 14 = .ok (.aload_n 0, 1) := by decide +kernel
theorem dc5_15 : decode cX5_init 15 = .ok (.iconst 0, 1) := by decide +kernel
theorem dc5_16 : decode cX5_init 16 = .ok (.putfield 18, 3) := by decide +kernel
theorem dc5_19 : decode cX5_init 19 = .ok (.aload_n 0, 1) := by decide +kernel
theorem dc5_20 : decode cX5_init 20 = .ok (.iconst 0, 1) := by decide +kernel
theorem dc5_21 : decode cX5_init 21 = .ok (.putfield 21, 3) := by decide +kernel
theorem dc5_24 : decode cX5_init 24 = .ok (.aload_n 0, 1) := by decide +kernel
theorem dc5_25 : decode cX5_init 25 = .ok (.lconst 0, 1) := by decide +kernel
theorem dc5_26 : decode cX5_init 26 = .ok (.putfield 25, 3) := by decide +kernel
theorem dc5_29 : decode cX5_init 29 = .ok (.aload_n 0, 1) := by decide +kernel
theorem dc5_30 : decode cX5_init 30 = .ok (.lconst 0, 1) := by decide +kernel
theorem dc5_31 : decode cX5_init 31 = .ok (.putfield 29, 3) := by decide +kernel
theorem dc5_34 : decode cX5_init 34 = .ok (.aload_n 0, 1) := by decide +kernel
theorem dc5_35 : decode cX5_init 35 = .ok (.lconst 0, 1) := by decide +kernel
theorem dc5_36 : decode cX5_init 36 = .ok (.putfield 32, 3) := by decide +kernel
theorem dc5_39 : decode cX5_init 39 = .ok (.aload_n 0, 1) := by decide +kernel
theorem dc5_40 : decode cX5_init 40 = .ok (.bipush 8, 2) := by decide +kernel
theorem dc5_42 : decode cX5_init 42 = .ok (.newarray .long, 2) := by decide +kernel
theorem dc5_44 : decode cX5_init 44 = .ok (.putfield 35, 3) := by decide +kernel
theorem dc5_47 : decode cX5_init 47 = .ok (.aload_n 0, 1) := by decide +kernel
theorem dc5_48 : decode cX5_init 48 = .ok (.bipush 8, 2) := by decide +kernel
theorem dc5_50 : decode cX5_init 50 = .ok (.newarray .long, 2) := by decide +kernel
theorem dc5_52 : decode cX5_init 52 = .ok (.putfield 39, 3) := by decide +kernel
theorem dc5_55 : decode cX5_init 55 = .ok (.aload_n 0, 1) := by decide +kernel
theorem dc5_56 : decode cX5_init 56 = .ok (.bipush 8, 2) := by decide +kernel
theorem dc5_58 : decode cX5_init 58 = .ok (.newarray .int, 2) := by decide +kernel
theorem dc5_60 : decode cX5_init 60 = .ok (.putfield 42, 3) := by decide +kernel
theorem dc5_63 : decode cX5_init 63 = .ok (.aload_n 0, 1) := by decide +kernel
theorem dc5_64 : decode cX5_init 64 = .ok (.iconst 5, 1) := by decide +kernel
theorem dc5_65 : decode cX5_init 65 = .ok (.newarray .int, 2) := by decide +kernel
theorem dc5_67 : decode cX5_init 67 = .ok (.putfield 46, 3) := by decide +kernel
theorem dc5_70 : decode cX5_init 70 = .ok (.aload_n 0, 1) := by decide +kernel
theorem dc5_71 : decode cX5_init 71 = .ok (.iconst 5, 1) := by decide +kernel
theorem dc5_72 : decode cX5_init 72 = .ok (.newarray .int, 2) := by decide +kernel
theorem dc5_74 : decode cX5_init 74 = .ok (.putfield 49, 3) := by decide +kernel
theorem dc5_77 : decode cX5_init 77 = .ok (.return_, 1) := by decide +kernel
/-- what the constructor makes of its object: PalletNets.State -/
def ptSt (cy : kv_Y) (ws : va_W) (k h0 : Nat) (ws' : va_W) : Prop := ∃ q1 q2 q3 q4 q5 : Nat, ws' = ws.set k (h0, .inr (4, [.int 0, .int 0, .int 0, .int 0, .long 0, .long 0, .long 0, .ref q1, .ref q2, .ref q3, .ref q4, .ref q5])) ++ [(q1, .inl (cy.2.1, 8, .inr (.inl (fun _ => 0)))), (q2, .inl (cy.2.1, 8, .inr (.inl (fun _ => 0)))), (q3, .inl (cy.1, 8, .inl (fun _ => 0))), (q4, .inl (cy.1, 5, .inl (fun _ => 0))), (q5, .inl (cy.1, 5, .inl (fun _ => 0)))]
set_option maxHeartbeats 4000000 in
set_option maxRecDepth 100000 in
theorem cSt (l : Launch) (D : va_G) (cy : kv_Y) (z : Nat) (ws : va_W) (k h0 : Nat) (hk0 : ws[k]? = some (h0, .inr (4, [.int 0, .int 0, .int 0, .int 0, .long 0, .long 0, .long 0, .null, .null, .null, .null, .null]))) : Met l yX5_init (Cond.code yX5_init cX5_init 1 none :: kw_gd) { frames := 1, cells := 5, slots := 34, locals := 12 } (bz_Pc D cy z ws h0) (bz_Qc D z (ptSt cy ws k h0)) 5 34 (fun q => z ≤ q) := by
  refine Met.ofW (cc := cX5_init) (maxL := 1) (ret := none) (by decide) rfl ?_
  intro p e s m args below meth c s₁ B hml hv
  obtain ⟨rfl, hP, hD, hz, hU⟩ := hv
  have hx := B.exec
  have hb := B.bytes
  have hr := B.returns
  have hts0 := atoms_spec (ws := Cond.code yX5_init cX5_init 1 none :: kw_gd) B.pre
  have hts : ∀ w ∈ kw_gd, w.before #[Value.ref h0] s = true := fun w hw => hts0 w (List.mem_cons_of_mem _ hw)
  have hown : s.vm.findClass (kn_o 5) = some m.cls := findClass_of_methodNamed B.named
  have hlocks := B.notSynchronized
  have hin : meth.name = "<init>" := (name_of_methodNamed B.named B.method).1
  have hA : ∀ q : Nat, s.heap.size ≤ q → (fun q => z ≤ q) q := fun q h => Nat.le_trans hz h
  have hS : va_S (fun q => z ≤ q) s.heap s.heap [] := va_S.rf
  have hK := hU.1
  have hk : k < ws.length := (List.getElem?_eq_some_iff.mp hk0).1
  have hP : va_P D vwCl (ws.set k (h0, .inr (4, [.int 0, .int 0, .int 0, .int 0, .long 0, .long 0, .long 0, .null, .null, .null, .null, .null])) ++ []) s.heap := by rw [bini hk0]; exact hP
  have hD : va_D (fun q => z ≤ q) (ws.set k (h0, .inr (4, [.int 0, .int 0, .int 0, .int 0, .long 0, .long 0, .long 0, .null, .null, .null, .null, .null])) ++ []) := by rw [bini hk0]; exact hD
  have hl := lv_entry ([.ref h0]) (n := 1) (Nat.le_of_ble_eq_true rfl)
  rw [lg_entry_eq]
  generalize (lg_sl ([.ref h0]) ++ List.replicate (1 - (lg_sl ([.ref h0])).length) Slot.unset).toArray = ls at hl ⊢
  have hl : lv_has ls 1 [(0, .ref h0)] := hl
  refine lv_aload_n hx hb dc5_0 rfl (lv_at hl 0 rfl) ?_
  refine W.objInit hx hb hown (hts (.methodLink (kn_o 5) 3 objectInit) (kw_g (kt_1 (List.mem_of_getElem? (i := 26) rfl)) rfl)) (hts (.instanceMethod objectInit) (kw_g (kt_1 (List.mem_of_getElem? (i := 19) rfl)) rfl)) (hts (.code objectInit ⟨#[0xb1]⟩ 1 none) (kw_g (kt_1 (List.mem_of_getElem? (i := 20) rfl)) rfl)) rfl (by rw [hml]; exact hl.1) rfl dc5_1 (Nat.le_of_ble_eq_true rfl) (Nat.le_of_ble_eq_true rfl) ?_
  refine W.eq (g2 := F0 m 4 ls []) rfl ?_
  refine lv_aload_n hx hb dc5_4 rfl (lv_at hl 0 rfl) ?_
  refine lv_iconst (v := 0) hx hb dc5_5 (by decide +kernel) ?_
  refine bn_put (oc := 5) (idx := 9) (x := 4) (y := 0) (v := .int 0) (fs' := [.int 0, .int 0, .int 0, .int 0, .long 0, .long 0, .long 0, .null, .null, .null, .null, .null]) (ty := .int) hx hb hts hown hK hP hD hS hk (by decide) (by decide +kernel) (by decide) (Nat.le_of_ble_eq_true rfl) (Or.inl rfl) (by decide +kernel) rfl rfl rfl dc5_6 (fun H locs hP hD hS => ?_)
  refine lv_aload_n hx hb dc5_9 rfl (lv_at hl 0 rfl) ?_
  refine lv_iconst (v := 0) hx hb dc5_10 (by decide +kernel) ?_
  refine bn_put (oc := 5) (idx := 15) (x := 4) (y := 1) (v := .int 0) (fs' := [.int 0, .int 0, .int 0, .int 0, .long 0, .long 0, .long 0, .null, .null, .null, .null, .null]) (ty := .int) hx hb hts hown hK hP hD hS hk (by decide) (by decide +kernel) (by decide) (Nat.le_of_ble_eq_true rfl) (Or.inl rfl) (by decide +kernel) rfl rfl rfl dc5_11 (fun H locs hP hD hS => ?_)
  refine lv_aload_n hx hb dc5_14 rfl (lv_at hl 0 rfl) ?_
  refine lv_iconst (v := 0) hx hb dc5_15 (by decide +kernel) ?_
  refine bn_put (oc := 5) (idx := 18) (x := 4) (y := 2) (v := .int 0) (fs' := [.int 0, .int 0, .int 0, .int 0, .long 0, .long 0, .long 0, .null, .null, .null, .null, .null]) (ty := .int) hx hb hts hown hK hP hD hS hk (by decide) (by decide +kernel) (by decide) (Nat.le_of_ble_eq_true rfl) (Or.inl rfl) (by decide +kernel) rfl rfl rfl dc5_16 (fun H locs hP hD hS => ?_)
  refine lv_aload_n hx hb dc5_19 rfl (lv_at hl 0 rfl) ?_
  refine lv_iconst (v := 0) hx hb dc5_20 (by decide +kernel) ?_
  refine bn_put (oc := 5) (idx := 21) (x := 4) (y := 3) (v := .int 0) (fs' := [.int 0, .int 0, .int 0, .int 0, .long 0, .long 0, .long 0, .null, .null, .null, .null, .null]) (ty := .boolean) hx hb hts hown hK hP hD hS hk (by decide) (by decide +kernel) (by decide) (Nat.le_of_ble_eq_true rfl) (Or.inl rfl) (by decide +kernel) rfl rfl rfl dc5_21 (fun H locs hP hD hS => ?_)
  refine lv_aload_n hx hb dc5_24 rfl (lv_at hl 0 rfl) ?_
  refine lv_lconst (v := 0) hx hb dc5_25 (by decide +kernel) ?_
  refine bn_put (oc := 5) (idx := 25) (x := 4) (y := 4) (v := .long 0) (fs' := [.int 0, .int 0, .int 0, .int 0, .long 0, .long 0, .long 0, .null, .null, .null, .null, .null]) (ty := .long) hx hb hts hown hK hP hD hS hk (by decide) (by decide +kernel) (by decide) (Nat.le_of_ble_eq_true rfl) (Or.inl rfl) (by decide +kernel) rfl rfl rfl dc5_26 (fun H locs hP hD hS => ?_)
  refine lv_aload_n hx hb dc5_29 rfl (lv_at hl 0 rfl) ?_
  refine lv_lconst (v := 0) hx hb dc5_30 (by decide +kernel) ?_
  refine bn_put (oc := 5) (idx := 29) (x := 4) (y := 5) (v := .long 0) (fs' := [.int 0, .int 0, .int 0, .int 0, .long 0, .long 0, .long 0, .null, .null, .null, .null, .null]) (ty := .long) hx hb hts hown hK hP hD hS hk (by decide) (by decide +kernel) (by decide) (Nat.le_of_ble_eq_true rfl) (Or.inl rfl) (by decide +kernel) rfl rfl rfl dc5_31 (fun H locs hP hD hS => ?_)
  refine lv_aload_n hx hb dc5_34 rfl (lv_at hl 0 rfl) ?_
  refine lv_lconst (v := 0) hx hb dc5_35 (by decide +kernel) ?_
  refine bn_put (oc := 5) (idx := 32) (x := 4) (y := 6) (v := .long 0) (fs' := [.int 0, .int 0, .int 0, .int 0, .long 0, .long 0, .long 0, .null, .null, .null, .null, .null]) (ty := .long) hx hb hts hown hK hP hD hS hk (by decide) (by decide +kernel) (by decide) (Nat.le_of_ble_eq_true rfl) (Or.inl rfl) (by decide +kernel) rfl rfl rfl dc5_36 (fun H locs hP hD hS => ?_)
  refine lv_aload_n hx hb dc5_39 rfl (lv_at hl 0 rfl) ?_
  refine lv_bipush (v := 8) hx hb dc5_40 (by decide +kernel) ?_
  refine bn_newa (cA0 := cy.2.1) 1 (a0 := (8, .inr (.inl (fun _ => 0)))) (N' := 8) (atype := .long) (ty := .long) hx hb (hts (.arrayClass .long) (kw_g (kt_1 (List.mem_of_getElem? (i := 88) rfl)) rfl)) rfl hK rfl (Or.inr (Or.inl rfl)) hP hD hS hA (fun _ => rfl) (by decide) (by decide +kernel) (Nat.le_of_ble_eq_true rfl) (Nat.le_of_ble_eq_true rfl) (Nat.le_of_ble_eq_true rfl) dc5_42 (fun q1 H hP hD hS => ?_)
  rw [List.append_assoc] at hP hD
  have hP : va_P D vwCl (ws.set k (h0, .inr (4, [.int 0, .int 0, .int 0, .int 0, .long 0, .long 0, .long 0, .null, .null, .null, .null, .null])) ++ [(q1, .inl (cy.2.1, 8, .inr (.inl (fun _ => 0))))]) H := hP
  have hD : va_D (fun q => z ≤ q) (ws.set k (h0, .inr (4, [.int 0, .int 0, .int 0, .int 0, .long 0, .long 0, .long 0, .null, .null, .null, .null, .null])) ++ [(q1, .inl (cy.2.1, 8, .inr (.inl (fun _ => 0))))]) := hD
  refine bn_put (oc := 5) (idx := 35) (x := 4) (y := 7) (v := .ref q1) (fs' := [.int 0, .int 0, .int 0, .int 0, .long 0, .long 0, .long 0, .ref q1, .null, .null, .null, .null]) (ty := (.array .long)) hx hb hts hown hK hP hD hS hk (by decide) (by decide +kernel) (by decide) (Nat.le_of_ble_eq_true rfl) (Or.inr ⟨rfl, hin, rfl⟩) (by decide +kernel) rfl rfl rfl dc5_44 (fun H locs hP hD hS => ?_)
  refine lv_aload_n hx hb dc5_47 rfl (lv_at hl 0 rfl) ?_
  refine lv_bipush (v := 8) hx hb dc5_48 (by decide +kernel) ?_
  refine bn_newa (cA0 := cy.2.1) 1 (a0 := (8, .inr (.inl (fun _ => 0)))) (N' := 8) (atype := .long) (ty := .long) hx hb (hts (.arrayClass .long) (kw_g (kt_1 (List.mem_of_getElem? (i := 88) rfl)) rfl)) rfl hK rfl (Or.inr (Or.inl rfl)) hP hD hS hA (fun _ => rfl) (by decide) (by decide +kernel) (Nat.le_of_ble_eq_true rfl) (Nat.le_of_ble_eq_true rfl) (Nat.le_of_ble_eq_true rfl) dc5_50 (fun q2 H hP hD hS => ?_)
  rw [List.append_assoc] at hP hD
  have hP : va_P D vwCl (ws.set k (h0, .inr (4, [.int 0, .int 0, .int 0, .int 0, .long 0, .long 0, .long 0, .ref q1, .null, .null, .null, .null])) ++ [(q1, .inl (cy.2.1, 8, .inr (.inl (fun _ => 0)))), (q2, .inl (cy.2.1, 8, .inr (.inl (fun _ => 0))))]) H := hP
  have hD : va_D (fun q => z ≤ q) (ws.set k (h0, .inr (4, [.int 0, .int 0, .int 0, .int 0, .long 0, .long 0, .long 0, .ref q1, .null, .null, .null, .null])) ++ [(q1, .inl (cy.2.1, 8, .inr (.inl (fun _ => 0)))), (q2, .inl (cy.2.1, 8, .inr (.inl (fun _ => 0))))]) := hD
  refine bn_put (oc := 5) (idx := 39) (x := 4) (y := 8) (v := .ref q2) (fs' := [.int 0, .int 0, .int 0, .int 0, .long 0, .long 0, .long 0, .ref q1, .ref q2, .null, .null, .null]) (ty := (.array .long)) hx hb hts hown hK hP hD hS hk (by decide) (by decide +kernel) (by decide) (Nat.le_of_ble_eq_true rfl) (Or.inr ⟨rfl, hin, rfl⟩) (by decide +kernel) rfl rfl rfl dc5_52 (fun H locs hP hD hS => ?_)
  refine lv_aload_n hx hb dc5_55 rfl (lv_at hl 0 rfl) ?_
  refine lv_bipush (v := 8) hx hb dc5_56 (by decide +kernel) ?_
  refine bn_newa (cA0 := cy.1) 0 (a0 := (8, .inl (fun _ => 0))) (N' := 8) (atype := .int) (ty := .int) hx hb (hts (.arrayClass .int) (kw_g (kt_1 (List.mem_of_getElem? (i := 89) rfl)) rfl)) rfl hK rfl (Or.inl rfl) hP hD hS hA (fun _ => rfl) (by decide) (by decide +kernel) (Nat.le_of_ble_eq_true rfl) (Nat.le_of_ble_eq_true rfl) (Nat.le_of_ble_eq_true rfl) dc5_58 (fun q3 H hP hD hS => ?_)
  rw [List.append_assoc] at hP hD
  have hP : va_P D vwCl (ws.set k (h0, .inr (4, [.int 0, .int 0, .int 0, .int 0, .long 0, .long 0, .long 0, .ref q1, .ref q2, .null, .null, .null])) ++ [(q1, .inl (cy.2.1, 8, .inr (.inl (fun _ => 0)))), (q2, .inl (cy.2.1, 8, .inr (.inl (fun _ => 0)))), (q3, .inl (cy.1, 8, .inl (fun _ => 0)))]) H := hP
  have hD : va_D (fun q => z ≤ q) (ws.set k (h0, .inr (4, [.int 0, .int 0, .int 0, .int 0, .long 0, .long 0, .long 0, .ref q1, .ref q2, .null, .null, .null])) ++ [(q1, .inl (cy.2.1, 8, .inr (.inl (fun _ => 0)))), (q2, .inl (cy.2.1, 8, .inr (.inl (fun _ => 0)))), (q3, .inl (cy.1, 8, .inl (fun _ => 0)))]) := hD
  refine bn_put (oc := 5) (idx := 42) (x := 4) (y := 9) (v := .ref q3) (fs' := [.int 0, .int 0, .int 0, .int 0, .long 0, .long 0, .long 0, .ref q1, .ref q2, .ref q3, .null, .null]) (ty := (.array .int)) hx hb hts hown hK hP hD hS hk (by decide) (by decide +kernel) (by decide) (Nat.le_of_ble_eq_true rfl) (Or.inr ⟨rfl, hin, rfl⟩) (by decide +kernel) rfl rfl rfl dc5_60 (fun H locs hP hD hS => ?_)
  refine lv_aload_n hx hb dc5_63 rfl (lv_at hl 0 rfl) ?_
  refine lv_iconst (v := 5) hx hb dc5_64 (by decide +kernel) ?_
  refine bn_newa (cA0 := cy.1) 0 (a0 := (5, .inl (fun _ => 0))) (N' := 5) (atype := .int) (ty := .int) hx hb (hts (.arrayClass .int) (kw_g (kt_1 (List.mem_of_getElem? (i := 89) rfl)) rfl)) rfl hK rfl (Or.inl rfl) hP hD hS hA (fun _ => rfl) (by decide) (by decide +kernel) (Nat.le_of_ble_eq_true rfl) (Nat.le_of_ble_eq_true rfl) (Nat.le_of_ble_eq_true rfl) dc5_65 (fun q4 H hP hD hS => ?_)
  rw [List.append_assoc] at hP hD
  have hP : va_P D vwCl (ws.set k (h0, .inr (4, [.int 0, .int 0, .int 0, .int 0, .long 0, .long 0, .long 0, .ref q1, .ref q2, .ref q3, .null, .null])) ++ [(q1, .inl (cy.2.1, 8, .inr (.inl (fun _ => 0)))), (q2, .inl (cy.2.1, 8, .inr (.inl (fun _ => 0)))), (q3, .inl (cy.1, 8, .inl (fun _ => 0))), (q4, .inl (cy.1, 5, .inl (fun _ => 0)))]) H := hP
  have hD : va_D (fun q => z ≤ q) (ws.set k (h0, .inr (4, [.int 0, .int 0, .int 0, .int 0, .long 0, .long 0, .long 0, .ref q1, .ref q2, .ref q3, .null, .null])) ++ [(q1, .inl (cy.2.1, 8, .inr (.inl (fun _ => 0)))), (q2, .inl (cy.2.1, 8, .inr (.inl (fun _ => 0)))), (q3, .inl (cy.1, 8, .inl (fun _ => 0))), (q4, .inl (cy.1, 5, .inl (fun _ => 0)))]) := hD
  refine bn_put (oc := 5) (idx := 46) (x := 4) (y := 10) (v := .ref q4) (fs' := [.int 0, .int 0, .int 0, .int 0, .long 0, .long 0, .long 0, .ref q1, .ref q2, .ref q3, .ref q4, .null]) (ty := (.array .int)) hx hb hts hown hK hP hD hS hk (by decide) (by decide +kernel) (by decide) (Nat.le_of_ble_eq_true rfl) (Or.inr ⟨rfl, hin, rfl⟩) (by decide +kernel) rfl rfl rfl dc5_67 (fun H locs hP hD hS => ?_)
  refine lv_aload_n hx hb dc5_70 rfl (lv_at hl 0 rfl) ?_
  refine lv_iconst (v := 5) hx hb dc5_71 (by decide +kernel) ?_
  refine bn_newa (cA0 := cy.1) 0 (a0 := (5, .inl (fun _ => 0))) (N' := 5) (atype := .int) (ty := .int) hx hb (hts (.arrayClass .int) (kw_g (kt_1 (List.mem_of_getElem? (i := 89) rfl)) rfl)) rfl hK rfl (Or.inl rfl) hP hD hS hA (fun _ => rfl) (by decide) (by decide +kernel) (Nat.le_of_ble_eq_true rfl) (Nat.le_of_ble_eq_true rfl) (Nat.le_of_ble_eq_true rfl) dc5_72 (fun q5 H hP hD hS => ?_)
  rw [List.append_assoc] at hP hD
  have hP : va_P D vwCl (ws.set k (h0, .inr (4, [.int 0, .int 0, .int 0, .int 0, .long 0, .long 0, .long 0, .ref q1, .ref q2, .ref q3, .ref q4, .null])) ++ [(q1, .inl (cy.2.1, 8, .inr (.inl (fun _ => 0)))), (q2, .inl (cy.2.1, 8, .inr (.inl (fun _ => 0)))), (q3, .inl (cy.1, 8, .inl (fun _ => 0))), (q4, .inl (cy.1, 5, .inl (fun _ => 0))), (q5, .inl (cy.1, 5, .inl (fun _ => 0)))]) H := hP
  have hD : va_D (fun q => z ≤ q) (ws.set k (h0, .inr (4, [.int 0, .int 0, .int 0, .int 0, .long 0, .long 0, .long 0, .ref q1, .ref q2, .ref q3, .ref q4, .null])) ++ [(q1, .inl (cy.2.1, 8, .inr (.inl (fun _ => 0)))), (q2, .inl (cy.2.1, 8, .inr (.inl (fun _ => 0)))), (q3, .inl (cy.1, 8, .inl (fun _ => 0))), (q4, .inl (cy.1, 5, .inl (fun _ => 0))), (q5, .inl (cy.1, 5, .inl (fun _ => 0)))]) := hD
  refine bn_put (oc := 5) (idx := 49) (x := 4) (y := 11) (v := .ref q5) (fs' := [.int 0, .int 0, .int 0, .int 0, .long 0, .long 0, .long 0, .ref q1, .ref q2, .ref q3, .ref q4, .ref q5]) (ty := (.array .int)) hx hb hts hown hK hP hD hS hk (by decide) (by decide +kernel) (by decide) (Nat.le_of_ble_eq_true rfl) (Or.inr ⟨rfl, hin, rfl⟩) (by decide +kernel) rfl rfl rfl dc5_74 (fun H locs hP hD hS => ?_)
  exact W.vret hx hb hr (fun t ht hW => ⟨⟨_, rfl, ⟨q1, q2, q3, q4, q5, rfl⟩, by rw [ht]; exact hP, hD⟩, hS.F ht⟩) hS.2.2 dc5_77
theorem dc3_0 : decode cX3_init 0 = .ok (.aload_n 0, 1) := by decide +kernel
theorem dc3_1 : decode cX3_init 1 = .ok (.invokespecial 3, 3) := by decide +kernel
theorem dc3_4 : decode cX3_init 4 = .ok (.aload_n 0, 1) := by decide +kernel
theorem dc3_5 : decode cX3_init 5 = .ok (.sipush 200, 3) := by decide +kernel
theorem dc3_8 : decode cX3_init 8 = .ok (.newarray .long, 2) := by decide +kernel
theorem dc3_10 : decode cX3_init 10 = .ok (.putfield 9, 3) := by decide +kernel
theorem dc3_13 : decode cX3_init 13 = .ok (.aload_n 0, 1) := by decide +kernel
theorem dc3_14 : decode cX3_init 14 = .ok (.sipush 200, 3) := by decide +kernel
theorem dc3_17 : decode cX3_init 17 = .ok (.newarray .int, 2) := by decide +kernel
theorem dc3_19 : decode cX3_init 19 = .ok (.putfield 15, 3) := by decide +kernel
theorem dc3_22 : decode cX3_init 22 = .ok (.aload_n 0, 1) := by decide +kernel
theorem dc3_23 : decode cX3_init 23 = .ok (.sipush 200, 3) := by decide +kernel
theorem dc3_26 : decode cX3_init 26 = .ok (.newarray .int, 2) := by decide +kernel
theorem dc3_28 : decode cX3_init 28 = .ok (.putfield 19, 3) := by decide +kernel
theorem dc3_31 : decode cX3_init 31 = .ok (.aload_n 0, 1) := by decide +kernel
theorem dc3_32 : decode cX3_init 32 = .ok (.iconst 0, 1) := by decide +kernel
theorem dc3_33 : decode cX3_init 33 = .ok (.putfield 22, 3) := by decide +kernel
theorem dc3_36 : decode cX3_init 36 = .ok (.aload_n 0, 1) := by decide +kernel
theorem dc3_37 : decode cX3_init 37 = .ok (.sipush 1600, 3) := by decide +kernel
theorem dc3_40 : decode cX3_init 40 = .ok (.newarray .int, 2) := by decide +kernel
theorem dc3_42 : decode cX3_init 42 = .ok (.putfield 26, 3) := by decide +kernel
theorem dc3_45 : decode cX3_init 45 = .ok (.aload_n 0, 1) := by decide +kernel
theorem dc3_46 : decode cX3_init 46 = .ok (.sipush 512, 3) := by decide +kernel
theorem dc3_49 : decode cX3_init 49 = .ok (.newarray .int, 2) := by decide +kernel
theorem dc3_51 : decode cX3_init 51 = .ok (.putfield 29, 3) := by decide +kernel
theorem dc3_54 : decode cX3_init 54 = .ok (.aload_n 0, 1) := by decide +kernel
theorem dc3_55 : decode cX3_init 55 = .ok (.iconst 0, 1) := by decide +kernel
theorem dc3_56 : decode cX3_init 56 = .ok (.putfield 32, 3) := by decide +kernel
theorem dc3_59 : decode cX3_init 59 = .ok (.return_, 1) := by decide +kernel
/-- what the constructor makes of its object: PalletNets.Search -/
def ptSe (cy : kv_Y) (ws : va_W) (k h0 : Nat) (ws' : va_W) : Prop := ∃ q1 q2 q3 q4 q5 : Nat, ws' = ws.set k (h0, .inr (2, [.ref q1, .ref q2, .ref q3, .int 0, .ref q4, .ref q5, .int 0])) ++ [(q1, .inl (cy.2.1, 200, .inr (.inl (fun _ => 0)))), (q2, .inl (cy.1, 200, .inl (fun _ => 0))), (q3, .inl (cy.1, 200, .inl (fun _ => 0))), (q4, .inl (cy.1, 1600, .inl (fun _ => 0))), (q5, .inl (cy.1, 512, .inl (fun _ => 0)))]
set_option maxHeartbeats 4000000 in
set_option maxRecDepth 100000 in
theorem cSe (l : Launch) (D : va_G) (cy : kv_Y) (z : Nat) (ws : va_W) (k h0 : Nat) (hk0 : ws[k]? = some (h0, .inr (2, [.null, .null, .null, .int 0, .null, .null, .int 0]))) : Met l yX3_init (Cond.code yX3_init cX3_init 1 none :: kw_gd) { frames := 1, cells := 5, slots := 2712, locals := 12 } (bz_Pc D cy z ws h0) (bz_Qc D z (ptSe cy ws k h0)) 5 2712 (fun q => z ≤ q) := by
  refine Met.ofW (cc := cX3_init) (maxL := 1) (ret := none) (by decide) rfl ?_
  intro p e s m args below meth c s₁ B hml hv
  obtain ⟨rfl, hP, hD, hz, hU⟩ := hv
  have hx := B.exec
  have hb := B.bytes
  have hr := B.returns
  have hts0 := atoms_spec (ws := Cond.code yX3_init cX3_init 1 none :: kw_gd) B.pre
  have hts : ∀ w ∈ kw_gd, w.before #[Value.ref h0] s = true := fun w hw => hts0 w (List.mem_cons_of_mem _ hw)
  have hown : s.vm.findClass (kn_o 3) = some m.cls := findClass_of_methodNamed B.named
  have hlocks := B.notSynchronized
  have hin : meth.name = "<init>" := (name_of_methodNamed B.named B.method).1
  have hA : ∀ q : Nat, s.heap.size ≤ q → (fun q => z ≤ q) q := fun q h => Nat.le_trans hz h
  have hS : va_S (fun q => z ≤ q) s.heap s.heap [] := va_S.rf
  have hK := hU.1
  have hk : k < ws.length := (List.getElem?_eq_some_iff.mp hk0).1
  have hP : va_P D vwCl (ws.set k (h0, .inr (2, [.null, .null, .null, .int 0, .null, .null, .int 0])) ++ []) s.heap := by rw [bini hk0]; exact hP
  have hD : va_D (fun q => z ≤ q) (ws.set k (h0, .inr (2, [.null, .null, .null, .int 0, .null, .null, .int 0])) ++ []) := by rw [bini hk0]; exact hD
  have hl := lv_entry ([.ref h0]) (n := 1) (Nat.le_of_ble_eq_true rfl)
  rw [lg_entry_eq]
  generalize (lg_sl ([.ref h0]) ++ List.replicate (1 - (lg_sl ([.ref h0])).length) Slot.unset).toArray = ls at hl ⊢
  have hl : lv_has ls 1 [(0, .ref h0)] := hl
  refine lv_aload_n hx hb dc3_0 rfl (lv_at hl 0 rfl) ?_
  refine W.objInit hx hb hown (hts (.methodLink (kn_o 3) 3 objectInit) (kw_g (kt_1 (List.mem_of_getElem? (i := 96) rfl)) rfl)) (hts (.instanceMethod objectInit) (kw_g (kt_1 (List.mem_of_getElem? (i := 19) rfl)) rfl)) (hts (.code objectInit ⟨#[0xb1]⟩ 1 none) (kw_g (kt_1 (List.mem_of_getElem? (i := 20) rfl)) rfl)) rfl (by rw [hml]; exact hl.1) rfl dc3_1 (Nat.le_of_ble_eq_true rfl) (Nat.le_of_ble_eq_true rfl) ?_
  refine W.eq (g2 := F0 m 4 ls []) rfl ?_
  refine lv_aload_n hx hb dc3_4 rfl (lv_at hl 0 rfl) ?_
  refine lv_sipush (v := 200) hx hb dc3_5 (by decide +kernel) ?_
  refine bn_newa (cA0 := cy.2.1) 1 (a0 := (200, .inr (.inl (fun _ => 0)))) (N' := 200) (atype := .long) (ty := .long) hx hb (hts (.arrayClass .long) (kw_g (kt_1 (List.mem_of_getElem? (i := 88) rfl)) rfl)) rfl hK rfl (Or.inr (Or.inl rfl)) hP hD hS hA (fun _ => rfl) (by decide) (by decide +kernel) (Nat.le_of_ble_eq_true rfl) (Nat.le_of_ble_eq_true rfl) (Nat.le_of_ble_eq_true rfl) dc3_8 (fun q1 H hP hD hS => ?_)
  rw [List.append_assoc] at hP hD
  have hP : va_P D vwCl (ws.set k (h0, .inr (2, [.null, .null, .null, .int 0, .null, .null, .int 0])) ++ [(q1, .inl (cy.2.1, 200, .inr (.inl (fun _ => 0))))]) H := hP
  have hD : va_D (fun q => z ≤ q) (ws.set k (h0, .inr (2, [.null, .null, .null, .int 0, .null, .null, .int 0])) ++ [(q1, .inl (cy.2.1, 200, .inr (.inl (fun _ => 0))))]) := hD
  refine bn_put (oc := 3) (idx := 9) (x := 2) (y := 0) (v := .ref q1) (fs' := [.ref q1, .null, .null, .int 0, .null, .null, .int 0]) (ty := (.array .long)) hx hb hts hown hK hP hD hS hk (by decide) (by decide +kernel) (by decide) (Nat.le_of_ble_eq_true rfl) (Or.inr ⟨rfl, hin, rfl⟩) (by decide +kernel) rfl rfl rfl dc3_10 (fun H locs hP hD hS => ?_)
  refine lv_aload_n hx hb dc3_13 rfl (lv_at hl 0 rfl) ?_
  refine lv_sipush (v := 200) hx hb dc3_14 (by decide +kernel) ?_
  refine bn_newa (cA0 := cy.1) 0 (a0 := (200, .inl (fun _ => 0))) (N' := 200) (atype := .int) (ty := .int) hx hb (hts (.arrayClass .int) (kw_g (kt_1 (List.mem_of_getElem? (i := 89) rfl)) rfl)) rfl hK rfl (Or.inl rfl) hP hD hS hA (fun _ => rfl) (by decide) (by decide +kernel) (Nat.le_of_ble_eq_true rfl) (Nat.le_of_ble_eq_true rfl) (Nat.le_of_ble_eq_true rfl) dc3_17 (fun q2 H hP hD hS => ?_)
  rw [List.append_assoc] at hP hD
  have hP : va_P D vwCl (ws.set k (h0, .inr (2, [.ref q1, .null, .null, .int 0, .null, .null, .int 0])) ++ [(q1, .inl (cy.2.1, 200, .inr (.inl (fun _ => 0)))), (q2, .inl (cy.1, 200, .inl (fun _ => 0)))]) H := hP
  have hD : va_D (fun q => z ≤ q) (ws.set k (h0, .inr (2, [.ref q1, .null, .null, .int 0, .null, .null, .int 0])) ++ [(q1, .inl (cy.2.1, 200, .inr (.inl (fun _ => 0)))), (q2, .inl (cy.1, 200, .inl (fun _ => 0)))]) := hD
  refine bn_put (oc := 3) (idx := 15) (x := 2) (y := 1) (v := .ref q2) (fs' := [.ref q1, .ref q2, .null, .int 0, .null, .null, .int 0]) (ty := (.array .int)) hx hb hts hown hK hP hD hS hk (by decide) (by decide +kernel) (by decide) (Nat.le_of_ble_eq_true rfl) (Or.inr ⟨rfl, hin, rfl⟩) (by decide +kernel) rfl rfl rfl dc3_19 (fun H locs hP hD hS => ?_)
  refine lv_aload_n hx hb dc3_22 rfl (lv_at hl 0 rfl) ?_
  refine lv_sipush (v := 200) hx hb dc3_23 (by decide +kernel) ?_
  refine bn_newa (cA0 := cy.1) 0 (a0 := (200, .inl (fun _ => 0))) (N' := 200) (atype := .int) (ty := .int) hx hb (hts (.arrayClass .int) (kw_g (kt_1 (List.mem_of_getElem? (i := 89) rfl)) rfl)) rfl hK rfl (Or.inl rfl) hP hD hS hA (fun _ => rfl) (by decide) (by decide +kernel) (Nat.le_of_ble_eq_true rfl) (Nat.le_of_ble_eq_true rfl) (Nat.le_of_ble_eq_true rfl) dc3_26 (fun q3 H hP hD hS => ?_)
  rw [List.append_assoc] at hP hD
  have hP : va_P D vwCl (ws.set k (h0, .inr (2, [.ref q1, .ref q2, .null, .int 0, .null, .null, .int 0])) ++ [(q1, .inl (cy.2.1, 200, .inr (.inl (fun _ => 0)))), (q2, .inl (cy.1, 200, .inl (fun _ => 0))), (q3, .inl (cy.1, 200, .inl (fun _ => 0)))]) H := hP
  have hD : va_D (fun q => z ≤ q) (ws.set k (h0, .inr (2, [.ref q1, .ref q2, .null, .int 0, .null, .null, .int 0])) ++ [(q1, .inl (cy.2.1, 200, .inr (.inl (fun _ => 0)))), (q2, .inl (cy.1, 200, .inl (fun _ => 0))), (q3, .inl (cy.1, 200, .inl (fun _ => 0)))]) := hD
  refine bn_put (oc := 3) (idx := 19) (x := 2) (y := 2) (v := .ref q3) (fs' := [.ref q1, .ref q2, .ref q3, .int 0, .null, .null, .int 0]) (ty := (.array .int)) hx hb hts hown hK hP hD hS hk (by decide) (by decide +kernel) (by decide) (Nat.le_of_ble_eq_true rfl) (Or.inr ⟨rfl, hin, rfl⟩) (by decide +kernel) rfl rfl rfl dc3_28 (fun H locs hP hD hS => ?_)
  refine lv_aload_n hx hb dc3_31 rfl (lv_at hl 0 rfl) ?_
  refine lv_iconst (v := 0) hx hb dc3_32 (by decide +kernel) ?_
  refine bn_put (oc := 3) (idx := 22) (x := 2) (y := 3) (v := .int 0) (fs' := [.ref q1, .ref q2, .ref q3, .int 0, .null, .null, .int 0]) (ty := .int) hx hb hts hown hK hP hD hS hk (by decide) (by decide +kernel) (by decide) (Nat.le_of_ble_eq_true rfl) (Or.inl rfl) (by decide +kernel) rfl rfl rfl dc3_33 (fun H locs hP hD hS => ?_)
  refine lv_aload_n hx hb dc3_36 rfl (lv_at hl 0 rfl) ?_
  refine lv_sipush (v := 1600) hx hb dc3_37 (by decide +kernel) ?_
  refine bn_newa (cA0 := cy.1) 0 (a0 := (1600, .inl (fun _ => 0))) (N' := 1600) (atype := .int) (ty := .int) hx hb (hts (.arrayClass .int) (kw_g (kt_1 (List.mem_of_getElem? (i := 89) rfl)) rfl)) rfl hK rfl (Or.inl rfl) hP hD hS hA (fun _ => rfl) (by decide) (by decide +kernel) (Nat.le_of_ble_eq_true rfl) (Nat.le_of_ble_eq_true rfl) (Nat.le_of_ble_eq_true rfl) dc3_40 (fun q4 H hP hD hS => ?_)
  rw [List.append_assoc] at hP hD
  have hP : va_P D vwCl (ws.set k (h0, .inr (2, [.ref q1, .ref q2, .ref q3, .int 0, .null, .null, .int 0])) ++ [(q1, .inl (cy.2.1, 200, .inr (.inl (fun _ => 0)))), (q2, .inl (cy.1, 200, .inl (fun _ => 0))), (q3, .inl (cy.1, 200, .inl (fun _ => 0))), (q4, .inl (cy.1, 1600, .inl (fun _ => 0)))]) H := hP
  have hD : va_D (fun q => z ≤ q) (ws.set k (h0, .inr (2, [.ref q1, .ref q2, .ref q3, .int 0, .null, .null, .int 0])) ++ [(q1, .inl (cy.2.1, 200, .inr (.inl (fun _ => 0)))), (q2, .inl (cy.1, 200, .inl (fun _ => 0))), (q3, .inl (cy.1, 200, .inl (fun _ => 0))), (q4, .inl (cy.1, 1600, .inl (fun _ => 0)))]) := hD
  refine bn_put (oc := 3) (idx := 26) (x := 2) (y := 4) (v := .ref q4) (fs' := [.ref q1, .ref q2, .ref q3, .int 0, .ref q4, .null, .int 0]) (ty := (.array .int)) hx hb hts hown hK hP hD hS hk (by decide) (by decide +kernel) (by decide) (Nat.le_of_ble_eq_true rfl) (Or.inr ⟨rfl, hin, rfl⟩) (by decide +kernel) rfl rfl rfl dc3_42 (fun H locs hP hD hS => ?_)
  refine lv_aload_n hx hb dc3_45 rfl (lv_at hl 0 rfl) ?_
  refine lv_sipush (v := 512) hx hb dc3_46 (by decide +kernel) ?_
  refine bn_newa (cA0 := cy.1) 0 (a0 := (512, .inl (fun _ => 0))) (N' := 512) (atype := .int) (ty := .int) hx hb (hts (.arrayClass .int) (kw_g (kt_1 (List.mem_of_getElem? (i := 89) rfl)) rfl)) rfl hK rfl (Or.inl rfl) hP hD hS hA (fun _ => rfl) (by decide) (by decide +kernel) (Nat.le_of_ble_eq_true rfl) (Nat.le_of_ble_eq_true rfl) (Nat.le_of_ble_eq_true rfl) dc3_49 (fun q5 H hP hD hS => ?_)
  rw [List.append_assoc] at hP hD
  have hP : va_P D vwCl (ws.set k (h0, .inr (2, [.ref q1, .ref q2, .ref q3, .int 0, .ref q4, .null, .int 0])) ++ [(q1, .inl (cy.2.1, 200, .inr (.inl (fun _ => 0)))), (q2, .inl (cy.1, 200, .inl (fun _ => 0))), (q3, .inl (cy.1, 200, .inl (fun _ => 0))), (q4, .inl (cy.1, 1600, .inl (fun _ => 0))), (q5, .inl (cy.1, 512, .inl (fun _ => 0)))]) H := hP
  have hD : va_D (fun q => z ≤ q) (ws.set k (h0, .inr (2, [.ref q1, .ref q2, .ref q3, .int 0, .ref q4, .null, .int 0])) ++ [(q1, .inl (cy.2.1, 200, .inr (.inl (fun _ => 0)))), (q2, .inl (cy.1, 200, .inl (fun _ => 0))), (q3, .inl (cy.1, 200, .inl (fun _ => 0))), (q4, .inl (cy.1, 1600, .inl (fun _ => 0))), (q5, .inl (cy.1, 512, .inl (fun _ => 0)))]) := hD
  refine bn_put (oc := 3) (idx := 29) (x := 2) (y := 5) (v := .ref q5) (fs' := [.ref q1, .ref q2, .ref q3, .int 0, .ref q4, .ref q5, .int 0]) (ty := (.array .int)) hx hb hts hown hK hP hD hS hk (by decide) (by decide +kernel) (by decide) (Nat.le_of_ble_eq_true rfl) (Or.inr ⟨rfl, hin, rfl⟩) (by decide +kernel) rfl rfl rfl dc3_51 (fun H locs hP hD hS => ?_)
  refine lv_aload_n hx hb dc3_54 rfl (lv_at hl 0 rfl) ?_
  refine lv_iconst (v := 0) hx hb dc3_55 (by decide +kernel) ?_
  refine bn_put (oc := 3) (idx := 32) (x := 2) (y := 6) (v := .int 0) (fs' := [.ref q1, .ref q2, .ref q3, .int 0, .ref q4, .ref q5, .int 0]) (ty := .boolean) hx hb hts hown hK hP hD hS hk (by decide) (by decide +kernel) (by decide) (Nat.le_of_ble_eq_true rfl) (Or.inl rfl) (by decide +kernel) rfl rfl rfl dc3_56 (fun H locs hP hD hS => ?_)
  exact W.vret hx hb hr (fun t ht hW => ⟨⟨_, rfl, ⟨q1, q2, q3, q4, q5, rfl⟩, by rw [ht]; exact hP, hD⟩, hS.F ht⟩) hS.2.2 dc3_59
theorem dc4_0 : decode cX4_init 0 = .ok (.aload_n 0, 1) := by decide +kernel
theorem dc4_1 : decode cX4_init 1 = .ok (.invokespecial 3, 3) := by decide +kernel
theorem dc4_4 : decode cX4_init 4 = .ok (.aload_n 0, 1) := by decide +kernel
theorem dc4_5 : decode cX4_init 5 = .ok (.iconst 0, 1) := by decide +kernel
theorem dc4_6 : decode cX4_init 6 = .ok (.putfield 9, 3) := by decide +kernel
theorem dc4_9 : decode cX4_init 9 = .ok (.aload_n 0, 1) := by decide +kernel
theorem dc4_10 : decode cX4_init 10 = .ok (.sipush 252, 3) := by decide +kernel
theorem dc4_13 : decode cX4_init 13 = .ok (.newarray .int, 2) := by decide +kernel
theorem dc4_15 : decode cX4_init 15 = .ok (.putfield 15, 3) := by decide +kernel
theorem dc4_18 : decode cX4_init 18 = .ok (.aload_n 0, 1) := by decide +kernel
theorem dc4_19 : decode cX4_init 19 = .ok (.sipush 252, 3) := by decide +kernel
theorem dc4_22 : decode cX4_init 22 = .ok (.newarray .int, 2) := by decide +kernel
theorem dc4_24 : decode cX4_init 24 = .ok (.putfield 19, 3) := by decide +kernel
theorem dc4_27 : decode cX4_init 27 = .ok (.aload_n 0, 1) := by decide +kernel
theorem dc4_28 : decode cX4_init 28 = .ok (.iconst 0, 1) := by decide +kernel
theorem dc4_29 : decode cX4_init 29 = .ok (.putfield 22, 3) := by decide +kernel
theorem dc4_32 : decode cX4_init 32 = .ok (.aload_n 0, 1) := by decide +kernel
theorem dc4_33 : decode cX4_init 33 = .ok (.bipush 8, 2) := by decide +kernel
theorem dc4_35 : decode cX4_init 35 = .ok (.newarray .int, 2) := by decide +kernel
theorem dc4_37 : decode cX4_init 37 = .ok (.putfield 25, 3) := by decide +kernel
theorem dc4_40 : decode cX4_init 40 = .ok (.aload_n 0, 1) := by decide +kernel
theorem dc4_41 : decode cX4_init 41 = .ok (.bipush 8, 2) := by decide +kernel
theorem dc4_43 : decode cX4_init 43 = .ok (.newarray .int, 2) := by decide +kernel
theorem dc4_45 : decode cX4_init 45 = .ok (.putfield 28, 3) := by decide +kernel
theorem dc4_48 : decode cX4_init 48 = .ok (.return_, 1) := by decide +kernel
/-- what the constructor makes of its object: PalletNets.Siphons -/
def ptSi (cy : kv_Y) (ws : va_W) (k h0 : Nat) (ws' : va_W) : Prop := ∃ q1 q2 q3 q4 : Nat, ws' = ws.set k (h0, .inr (3, [.int 0, .ref q1, .ref q2, .int 0, .ref q3, .ref q4])) ++ [(q1, .inl (cy.1, 252, .inl (fun _ => 0))), (q2, .inl (cy.1, 252, .inl (fun _ => 0))), (q3, .inl (cy.1, 8, .inl (fun _ => 0))), (q4, .inl (cy.1, 8, .inl (fun _ => 0)))]
set_option maxHeartbeats 4000000 in
set_option maxRecDepth 100000 in
theorem cSi (l : Launch) (D : va_G) (cy : kv_Y) (z : Nat) (ws : va_W) (k h0 : Nat) (hk0 : ws[k]? = some (h0, .inr (3, [.int 0, .null, .null, .int 0, .null, .null]))) : Met l yX4_init (Cond.code yX4_init cX4_init 1 none :: kw_gd) { frames := 1, cells := 4, slots := 520, locals := 12 } (bz_Pc D cy z ws h0) (bz_Qc D z (ptSi cy ws k h0)) 4 520 (fun q => z ≤ q) := by
  refine Met.ofW (cc := cX4_init) (maxL := 1) (ret := none) (by decide) rfl ?_
  intro p e s m args below meth c s₁ B hml hv
  obtain ⟨rfl, hP, hD, hz, hU⟩ := hv
  have hx := B.exec
  have hb := B.bytes
  have hr := B.returns
  have hts0 := atoms_spec (ws := Cond.code yX4_init cX4_init 1 none :: kw_gd) B.pre
  have hts : ∀ w ∈ kw_gd, w.before #[Value.ref h0] s = true := fun w hw => hts0 w (List.mem_cons_of_mem _ hw)
  have hown : s.vm.findClass (kn_o 4) = some m.cls := findClass_of_methodNamed B.named
  have hlocks := B.notSynchronized
  have hin : meth.name = "<init>" := (name_of_methodNamed B.named B.method).1
  have hA : ∀ q : Nat, s.heap.size ≤ q → (fun q => z ≤ q) q := fun q h => Nat.le_trans hz h
  have hS : va_S (fun q => z ≤ q) s.heap s.heap [] := va_S.rf
  have hK := hU.1
  have hk : k < ws.length := (List.getElem?_eq_some_iff.mp hk0).1
  have hP : va_P D vwCl (ws.set k (h0, .inr (3, [.int 0, .null, .null, .int 0, .null, .null])) ++ []) s.heap := by rw [bini hk0]; exact hP
  have hD : va_D (fun q => z ≤ q) (ws.set k (h0, .inr (3, [.int 0, .null, .null, .int 0, .null, .null])) ++ []) := by rw [bini hk0]; exact hD
  have hl := lv_entry ([.ref h0]) (n := 1) (Nat.le_of_ble_eq_true rfl)
  rw [lg_entry_eq]
  generalize (lg_sl ([.ref h0]) ++ List.replicate (1 - (lg_sl ([.ref h0])).length) Slot.unset).toArray = ls at hl ⊢
  have hl : lv_has ls 1 [(0, .ref h0)] := hl
  refine lv_aload_n hx hb dc4_0 rfl (lv_at hl 0 rfl) ?_
  refine W.objInit hx hb hown (hts (.methodLink (kn_o 4) 3 objectInit) (kw_g (kt_1 (List.mem_of_getElem? (i := 160) rfl)) rfl)) (hts (.instanceMethod objectInit) (kw_g (kt_1 (List.mem_of_getElem? (i := 19) rfl)) rfl)) (hts (.code objectInit ⟨#[0xb1]⟩ 1 none) (kw_g (kt_1 (List.mem_of_getElem? (i := 20) rfl)) rfl)) rfl (by rw [hml]; exact hl.1) rfl dc4_1 (Nat.le_of_ble_eq_true rfl) (Nat.le_of_ble_eq_true rfl) ?_
  refine W.eq (g2 := F0 m 4 ls []) rfl ?_
  refine lv_aload_n hx hb dc4_4 rfl (lv_at hl 0 rfl) ?_
  refine lv_iconst (v := 0) hx hb dc4_5 (by decide +kernel) ?_
  refine bn_put (oc := 4) (idx := 9) (x := 3) (y := 0) (v := .int 0) (fs' := [.int 0, .null, .null, .int 0, .null, .null]) (ty := .int) hx hb hts hown hK hP hD hS hk (by decide) (by decide +kernel) (by decide) (Nat.le_of_ble_eq_true rfl) (Or.inl rfl) (by decide +kernel) rfl rfl rfl dc4_6 (fun H locs hP hD hS => ?_)
  refine lv_aload_n hx hb dc4_9 rfl (lv_at hl 0 rfl) ?_
  refine lv_sipush (v := 252) hx hb dc4_10 (by decide +kernel) ?_
  refine bn_newa (cA0 := cy.1) 0 (a0 := (252, .inl (fun _ => 0))) (N' := 252) (atype := .int) (ty := .int) hx hb (hts (.arrayClass .int) (kw_g (kt_1 (List.mem_of_getElem? (i := 89) rfl)) rfl)) rfl hK rfl (Or.inl rfl) hP hD hS hA (fun _ => rfl) (by decide) (by decide +kernel) (Nat.le_of_ble_eq_true rfl) (Nat.le_of_ble_eq_true rfl) (Nat.le_of_ble_eq_true rfl) dc4_13 (fun q1 H hP hD hS => ?_)
  rw [List.append_assoc] at hP hD
  have hP : va_P D vwCl (ws.set k (h0, .inr (3, [.int 0, .null, .null, .int 0, .null, .null])) ++ [(q1, .inl (cy.1, 252, .inl (fun _ => 0)))]) H := hP
  have hD : va_D (fun q => z ≤ q) (ws.set k (h0, .inr (3, [.int 0, .null, .null, .int 0, .null, .null])) ++ [(q1, .inl (cy.1, 252, .inl (fun _ => 0)))]) := hD
  refine bn_put (oc := 4) (idx := 15) (x := 3) (y := 1) (v := .ref q1) (fs' := [.int 0, .ref q1, .null, .int 0, .null, .null]) (ty := (.array .int)) hx hb hts hown hK hP hD hS hk (by decide) (by decide +kernel) (by decide) (Nat.le_of_ble_eq_true rfl) (Or.inr ⟨rfl, hin, rfl⟩) (by decide +kernel) rfl rfl rfl dc4_15 (fun H locs hP hD hS => ?_)
  refine lv_aload_n hx hb dc4_18 rfl (lv_at hl 0 rfl) ?_
  refine lv_sipush (v := 252) hx hb dc4_19 (by decide +kernel) ?_
  refine bn_newa (cA0 := cy.1) 0 (a0 := (252, .inl (fun _ => 0))) (N' := 252) (atype := .int) (ty := .int) hx hb (hts (.arrayClass .int) (kw_g (kt_1 (List.mem_of_getElem? (i := 89) rfl)) rfl)) rfl hK rfl (Or.inl rfl) hP hD hS hA (fun _ => rfl) (by decide) (by decide +kernel) (Nat.le_of_ble_eq_true rfl) (Nat.le_of_ble_eq_true rfl) (Nat.le_of_ble_eq_true rfl) dc4_22 (fun q2 H hP hD hS => ?_)
  rw [List.append_assoc] at hP hD
  have hP : va_P D vwCl (ws.set k (h0, .inr (3, [.int 0, .ref q1, .null, .int 0, .null, .null])) ++ [(q1, .inl (cy.1, 252, .inl (fun _ => 0))), (q2, .inl (cy.1, 252, .inl (fun _ => 0)))]) H := hP
  have hD : va_D (fun q => z ≤ q) (ws.set k (h0, .inr (3, [.int 0, .ref q1, .null, .int 0, .null, .null])) ++ [(q1, .inl (cy.1, 252, .inl (fun _ => 0))), (q2, .inl (cy.1, 252, .inl (fun _ => 0)))]) := hD
  refine bn_put (oc := 4) (idx := 19) (x := 3) (y := 2) (v := .ref q2) (fs' := [.int 0, .ref q1, .ref q2, .int 0, .null, .null]) (ty := (.array .int)) hx hb hts hown hK hP hD hS hk (by decide) (by decide +kernel) (by decide) (Nat.le_of_ble_eq_true rfl) (Or.inr ⟨rfl, hin, rfl⟩) (by decide +kernel) rfl rfl rfl dc4_24 (fun H locs hP hD hS => ?_)
  refine lv_aload_n hx hb dc4_27 rfl (lv_at hl 0 rfl) ?_
  refine lv_iconst (v := 0) hx hb dc4_28 (by decide +kernel) ?_
  refine bn_put (oc := 4) (idx := 22) (x := 3) (y := 3) (v := .int 0) (fs' := [.int 0, .ref q1, .ref q2, .int 0, .null, .null]) (ty := .int) hx hb hts hown hK hP hD hS hk (by decide) (by decide +kernel) (by decide) (Nat.le_of_ble_eq_true rfl) (Or.inl rfl) (by decide +kernel) rfl rfl rfl dc4_29 (fun H locs hP hD hS => ?_)
  refine lv_aload_n hx hb dc4_32 rfl (lv_at hl 0 rfl) ?_
  refine lv_bipush (v := 8) hx hb dc4_33 (by decide +kernel) ?_
  refine bn_newa (cA0 := cy.1) 0 (a0 := (8, .inl (fun _ => 0))) (N' := 8) (atype := .int) (ty := .int) hx hb (hts (.arrayClass .int) (kw_g (kt_1 (List.mem_of_getElem? (i := 89) rfl)) rfl)) rfl hK rfl (Or.inl rfl) hP hD hS hA (fun _ => rfl) (by decide) (by decide +kernel) (Nat.le_of_ble_eq_true rfl) (Nat.le_of_ble_eq_true rfl) (Nat.le_of_ble_eq_true rfl) dc4_35 (fun q3 H hP hD hS => ?_)
  rw [List.append_assoc] at hP hD
  have hP : va_P D vwCl (ws.set k (h0, .inr (3, [.int 0, .ref q1, .ref q2, .int 0, .null, .null])) ++ [(q1, .inl (cy.1, 252, .inl (fun _ => 0))), (q2, .inl (cy.1, 252, .inl (fun _ => 0))), (q3, .inl (cy.1, 8, .inl (fun _ => 0)))]) H := hP
  have hD : va_D (fun q => z ≤ q) (ws.set k (h0, .inr (3, [.int 0, .ref q1, .ref q2, .int 0, .null, .null])) ++ [(q1, .inl (cy.1, 252, .inl (fun _ => 0))), (q2, .inl (cy.1, 252, .inl (fun _ => 0))), (q3, .inl (cy.1, 8, .inl (fun _ => 0)))]) := hD
  refine bn_put (oc := 4) (idx := 25) (x := 3) (y := 4) (v := .ref q3) (fs' := [.int 0, .ref q1, .ref q2, .int 0, .ref q3, .null]) (ty := (.array .int)) hx hb hts hown hK hP hD hS hk (by decide) (by decide +kernel) (by decide) (Nat.le_of_ble_eq_true rfl) (Or.inr ⟨rfl, hin, rfl⟩) (by decide +kernel) rfl rfl rfl dc4_37 (fun H locs hP hD hS => ?_)
  refine lv_aload_n hx hb dc4_40 rfl (lv_at hl 0 rfl) ?_
  refine lv_bipush (v := 8) hx hb dc4_41 (by decide +kernel) ?_
  refine bn_newa (cA0 := cy.1) 0 (a0 := (8, .inl (fun _ => 0))) (N' := 8) (atype := .int) (ty := .int) hx hb (hts (.arrayClass .int) (kw_g (kt_1 (List.mem_of_getElem? (i := 89) rfl)) rfl)) rfl hK rfl (Or.inl rfl) hP hD hS hA (fun _ => rfl) (by decide) (by decide +kernel) (Nat.le_of_ble_eq_true rfl) (Nat.le_of_ble_eq_true rfl) (Nat.le_of_ble_eq_true rfl) dc4_43 (fun q4 H hP hD hS => ?_)
  rw [List.append_assoc] at hP hD
  have hP : va_P D vwCl (ws.set k (h0, .inr (3, [.int 0, .ref q1, .ref q2, .int 0, .ref q3, .null])) ++ [(q1, .inl (cy.1, 252, .inl (fun _ => 0))), (q2, .inl (cy.1, 252, .inl (fun _ => 0))), (q3, .inl (cy.1, 8, .inl (fun _ => 0))), (q4, .inl (cy.1, 8, .inl (fun _ => 0)))]) H := hP
  have hD : va_D (fun q => z ≤ q) (ws.set k (h0, .inr (3, [.int 0, .ref q1, .ref q2, .int 0, .ref q3, .null])) ++ [(q1, .inl (cy.1, 252, .inl (fun _ => 0))), (q2, .inl (cy.1, 252, .inl (fun _ => 0))), (q3, .inl (cy.1, 8, .inl (fun _ => 0))), (q4, .inl (cy.1, 8, .inl (fun _ => 0)))]) := hD
  refine bn_put (oc := 4) (idx := 28) (x := 3) (y := 5) (v := .ref q4) (fs' := [.int 0, .ref q1, .ref q2, .int 0, .ref q3, .ref q4]) (ty := (.array .int)) hx hb hts hown hK hP hD hS hk (by decide) (by decide +kernel) (by decide) (Nat.le_of_ble_eq_true rfl) (Or.inr ⟨rfl, hin, rfl⟩) (by decide +kernel) rfl rfl rfl dc4_45 (fun H locs hP hD hS => ?_)
  exact W.vret hx hb hr (fun t ht hW => ⟨⟨_, rfl, ⟨q1, q2, q3, q4, rfl⟩, by rw [ht]; exact hP, hD⟩, hS.F ht⟩) hS.2.2 dc4_48
theorem dc2_0 : decode cX2_init 0 = .ok (.aload_n 0, 1) := by decide +kernel
theorem dc2_1 : decode cX2_init 1 = .ok (.invokespecial 3, 3) := by decide +kernel
theorem dc2_4 : decode cX2_init 4 = .ok (.aload_n 0, 1) := by decide +kernel
theorem dc2_5 : decode cX2_init 5 = .ok (.bipush 120, 2) := by decide +kernel
theorem dc2_7 : decode cX2_init 7 = .ok (.newarray .int, 2) := by decide +kernel
theorem dc2_9 : decode cX2_init 9 = .ok (.putfield 9, 3) := by decide +kernel
theorem dc2_12 : decode cX2_init 12 = .ok (.aload_n 0, 1) := by decide +kernel
theorem dc2_13 : decode cX2_init 13 = .ok (.iconst 0, 1) := by decide +kernel
theorem dc2_14 : decode cX2_init 14 = .ok (.putfield 15, 3) := by decide +kernel
theorem dc2_17 : decode cX2_init 17 = .ok (.aload_n 0, 1) := by decide +kernel
theorem dc2_18 : decode cX2_init 18 = .ok (.iconst (-1), 1) := by decide +kernel
theorem dc2_19 : decode cX2_init 19 = .ok (.putfield 19, 3) := by decide +kernel
theorem dc2_22 : decode cX2_init 22 = .ok (.aload_n 0, 1) := by decide +kernel
theorem dc2_23 : decode cX2_init 23 = .ok (.iconst 0, 1) := by decide +kernel
theorem dc2_24 : decode cX2_init 24 = .ok (.putfield 22, 3) := by decide +kernel
theorem dc2_27 : decode cX2_init 27 = .ok (.aload_n 0, 1) := by decide +kernel
theorem dc2_28 : decode cX2_init 28 = .ok (.iconst 4, 1) := by decide +kernel
theorem dc2_29 : decode cX2_init 29 = .ok (.newarray .int, 2) := by decide +kernel
theorem dc2_31 : decode cX2_init 31 = .ok (.putfield 25, 3) := by decide +kernel
theorem dc2_34 : decode cX2_init 34 = .ok (.return_, 1) := by decide +kernel
/-- what the constructor makes of its object: PalletNets.Reader -/
def ptRd (cy : kv_Y) (ws : va_W) (k h0 : Nat) (ws' : va_W) : Prop := ∃ q1 q2 : Nat, ws' = ws.set k (h0, .inr (1, [.ref q1, .int 0, .int (-1), .int 0, .ref q2])) ++ [(q1, .inl (cy.1, 120, .inl (fun _ => 0))), (q2, .inl (cy.1, 4, .inl (fun _ => 0)))]
set_option maxHeartbeats 4000000 in
set_option maxRecDepth 100000 in
theorem cRd (l : Launch) (D : va_G) (cy : kv_Y) (z : Nat) (ws : va_W) (k h0 : Nat) (hk0 : ws[k]? = some (h0, .inr (1, [.null, .int 0, .int 0, .int 0, .null]))) : Met l yX2_init (Cond.code yX2_init cX2_init 1 none :: kw_gd) { frames := 1, cells := 2, slots := 124, locals := 12 } (bz_Pc D cy z ws h0) (bz_Qc D z (ptRd cy ws k h0)) 2 124 (fun q => z ≤ q) := by
  refine Met.ofW (cc := cX2_init) (maxL := 1) (ret := none) (by decide) rfl ?_
  intro p e s m args below meth c s₁ B hml hv
  obtain ⟨rfl, hP, hD, hz, hU⟩ := hv
  have hx := B.exec
  have hb := B.bytes
  have hr := B.returns
  have hts0 := atoms_spec (ws := Cond.code yX2_init cX2_init 1 none :: kw_gd) B.pre
  have hts : ∀ w ∈ kw_gd, w.before #[Value.ref h0] s = true := fun w hw => hts0 w (List.mem_cons_of_mem _ hw)
  have hown : s.vm.findClass (kn_o 2) = some m.cls := findClass_of_methodNamed B.named
  have hlocks := B.notSynchronized
  have hin : meth.name = "<init>" := (name_of_methodNamed B.named B.method).1
  have hA : ∀ q : Nat, s.heap.size ≤ q → (fun q => z ≤ q) q := fun q h => Nat.le_trans hz h
  have hS : va_S (fun q => z ≤ q) s.heap s.heap [] := va_S.rf
  have hK := hU.1
  have hk : k < ws.length := (List.getElem?_eq_some_iff.mp hk0).1
  have hP : va_P D vwCl (ws.set k (h0, .inr (1, [.null, .int 0, .int 0, .int 0, .null])) ++ []) s.heap := by rw [bini hk0]; exact hP
  have hD : va_D (fun q => z ≤ q) (ws.set k (h0, .inr (1, [.null, .int 0, .int 0, .int 0, .null])) ++ []) := by rw [bini hk0]; exact hD
  have hl := lv_entry ([.ref h0]) (n := 1) (Nat.le_of_ble_eq_true rfl)
  rw [lg_entry_eq]
  generalize (lg_sl ([.ref h0]) ++ List.replicate (1 - (lg_sl ([.ref h0])).length) Slot.unset).toArray = ls at hl ⊢
  have hl : lv_has ls 1 [(0, .ref h0)] := hl
  refine lv_aload_n hx hb dc2_0 rfl (lv_at hl 0 rfl) ?_
  refine W.objInit hx hb hown (hts (.methodLink (kn_o 2) 3 objectInit) (kw_g (kt_1 (List.mem_of_getElem? (i := 187) rfl)) rfl)) (hts (.instanceMethod objectInit) (kw_g (kt_1 (List.mem_of_getElem? (i := 19) rfl)) rfl)) (hts (.code objectInit ⟨#[0xb1]⟩ 1 none) (kw_g (kt_1 (List.mem_of_getElem? (i := 20) rfl)) rfl)) rfl (by rw [hml]; exact hl.1) rfl dc2_1 (Nat.le_of_ble_eq_true rfl) (Nat.le_of_ble_eq_true rfl) ?_
  refine W.eq (g2 := F0 m 4 ls []) rfl ?_
  refine lv_aload_n hx hb dc2_4 rfl (lv_at hl 0 rfl) ?_
  refine lv_bipush (v := 120) hx hb dc2_5 (by decide +kernel) ?_
  refine bn_newa (cA0 := cy.1) 0 (a0 := (120, .inl (fun _ => 0))) (N' := 120) (atype := .int) (ty := .int) hx hb (hts (.arrayClass .int) (kw_g (kt_1 (List.mem_of_getElem? (i := 89) rfl)) rfl)) rfl hK rfl (Or.inl rfl) hP hD hS hA (fun _ => rfl) (by decide) (by decide +kernel) (Nat.le_of_ble_eq_true rfl) (Nat.le_of_ble_eq_true rfl) (Nat.le_of_ble_eq_true rfl) dc2_7 (fun q1 H hP hD hS => ?_)
  rw [List.append_assoc] at hP hD
  have hP : va_P D vwCl (ws.set k (h0, .inr (1, [.null, .int 0, .int 0, .int 0, .null])) ++ [(q1, .inl (cy.1, 120, .inl (fun _ => 0)))]) H := hP
  have hD : va_D (fun q => z ≤ q) (ws.set k (h0, .inr (1, [.null, .int 0, .int 0, .int 0, .null])) ++ [(q1, .inl (cy.1, 120, .inl (fun _ => 0)))]) := hD
  refine bn_put (oc := 2) (idx := 9) (x := 1) (y := 0) (v := .ref q1) (fs' := [.ref q1, .int 0, .int 0, .int 0, .null]) (ty := (.array .int)) hx hb hts hown hK hP hD hS hk (by decide) (by decide +kernel) (by decide) (Nat.le_of_ble_eq_true rfl) (Or.inr ⟨rfl, hin, rfl⟩) (by decide +kernel) rfl rfl rfl dc2_9 (fun H locs hP hD hS => ?_)
  refine lv_aload_n hx hb dc2_12 rfl (lv_at hl 0 rfl) ?_
  refine lv_iconst (v := 0) hx hb dc2_13 (by decide +kernel) ?_
  refine bn_put (oc := 2) (idx := 15) (x := 1) (y := 1) (v := .int 0) (fs' := [.ref q1, .int 0, .int 0, .int 0, .null]) (ty := .int) hx hb hts hown hK hP hD hS hk (by decide) (by decide +kernel) (by decide) (Nat.le_of_ble_eq_true rfl) (Or.inl rfl) (by decide +kernel) rfl rfl rfl dc2_14 (fun H locs hP hD hS => ?_)
  refine lv_aload_n hx hb dc2_17 rfl (lv_at hl 0 rfl) ?_
  refine lv_iconst (v := (-1)) hx hb dc2_18 (by decide +kernel) ?_
  refine bn_put (oc := 2) (idx := 19) (x := 1) (y := 2) (v := .int (-1)) (fs' := [.ref q1, .int 0, .int (-1), .int 0, .null]) (ty := .int) hx hb hts hown hK hP hD hS hk (by decide) (by decide +kernel) (by decide) (Nat.le_of_ble_eq_true rfl) (Or.inl rfl) (by decide +kernel) rfl rfl rfl dc2_19 (fun H locs hP hD hS => ?_)
  refine lv_aload_n hx hb dc2_22 rfl (lv_at hl 0 rfl) ?_
  refine lv_iconst (v := 0) hx hb dc2_23 (by decide +kernel) ?_
  refine bn_put (oc := 2) (idx := 22) (x := 1) (y := 3) (v := .int 0) (fs' := [.ref q1, .int 0, .int (-1), .int 0, .null]) (ty := .int) hx hb hts hown hK hP hD hS hk (by decide) (by decide +kernel) (by decide) (Nat.le_of_ble_eq_true rfl) (Or.inl rfl) (by decide +kernel) rfl rfl rfl dc2_24 (fun H locs hP hD hS => ?_)
  refine lv_aload_n hx hb dc2_27 rfl (lv_at hl 0 rfl) ?_
  refine lv_iconst (v := 4) hx hb dc2_28 (by decide +kernel) ?_
  refine bn_newa (cA0 := cy.1) 0 (a0 := (4, .inl (fun _ => 0))) (N' := 4) (atype := .int) (ty := .int) hx hb (hts (.arrayClass .int) (kw_g (kt_1 (List.mem_of_getElem? (i := 89) rfl)) rfl)) rfl hK rfl (Or.inl rfl) hP hD hS hA (fun _ => rfl) (by decide) (by decide +kernel) (Nat.le_of_ble_eq_true rfl) (Nat.le_of_ble_eq_true rfl) (Nat.le_of_ble_eq_true rfl) dc2_29 (fun q2 H hP hD hS => ?_)
  rw [List.append_assoc] at hP hD
  have hP : va_P D vwCl (ws.set k (h0, .inr (1, [.ref q1, .int 0, .int (-1), .int 0, .null])) ++ [(q1, .inl (cy.1, 120, .inl (fun _ => 0))), (q2, .inl (cy.1, 4, .inl (fun _ => 0)))]) H := hP
  have hD : va_D (fun q => z ≤ q) (ws.set k (h0, .inr (1, [.ref q1, .int 0, .int (-1), .int 0, .null])) ++ [(q1, .inl (cy.1, 120, .inl (fun _ => 0))), (q2, .inl (cy.1, 4, .inl (fun _ => 0)))]) := hD
  refine bn_put (oc := 2) (idx := 25) (x := 1) (y := 4) (v := .ref q2) (fs' := [.ref q1, .int 0, .int (-1), .int 0, .ref q2]) (ty := (.array .int)) hx hb hts hown hK hP hD hS hk (by decide) (by decide +kernel) (by decide) (Nat.le_of_ble_eq_true rfl) (Or.inr ⟨rfl, hin, rfl⟩) (by decide +kernel) rfl rfl rfl dc2_31 (fun H locs hP hD hS => ?_)
  exact W.vret hx hb hr (fun t ht hW => ⟨⟨_, rfl, ⟨q1, q2, rfl⟩, by rw [ht]; exact hP, hD⟩, hS.F ht⟩) hS.2.2 dc2_34
theorem dc0_0 : decode cX0_init 0 = .ok (.aload_n 0, 1) := by decide +kernel
theorem dc0_1 : decode cX0_init 1 = .ok (.invokespecial 3, 3) := by decide +kernel
theorem dc0_4 : decode cX0_init 4 = .ok (.aload_n 0, 1) := by decide +kernel
theorem dc0_5 : decode cX0_init 5 = .ok (.iconst 0, 1) := by decide +kernel
theorem dc0_6 : decode cX0_init 6 = .ok (.putfield 9, 3) := by decide +kernel
theorem dc0_9 : decode cX0_init 9 = .ok (.aload_n 0, 1) := by decide +kernel
theorem dc0_10 : decode cX0_init 10 = .ok (.bipush 64, 2) := by decide +kernel
theorem dc0_12 : decode cX0_init 12 = .ok (.newarray .int, 2) := by decide +kernel
theorem dc0_14 : decode cX0_init 14 = .ok (.putfield 15, 3) := by decide +kernel
theorem dc0_17 : decode cX0_init 17 = .ok (.aload_n 0, 1) := by decide +kernel
theorem dc0_18 : decode cX0_init 18 = .ok (.bipush 64, 2) := by decide +kernel
theorem dc0_20 : decode cX0_init 20 = .ok (.bipush 10, 2) := by decide +kernel
theorem dc0_22 : decode cX0_init 22 = .ok (.multianewarray 19 2, 4) := by decide +kernel
theorem dc0_26 : decode cX0_init 26 = .ok (.putfield 21, 3) := by decide +kernel
theorem dc0_29 : decode cX0_init 29 = .ok (.aload_n 0, 1) := by decide +kernel
theorem dc0_30 : decode cX0_init 30 = .ok (.iconst 0, 1) := by decide +kernel
theorem dc0_31 : decode cX0_init 31 = .ok (.putfield 24, 3) := by decide +kernel
theorem dc0_34 : decode cX0_init 34 = .ok (.aload_n 0, 1) := by decide +kernel
theorem dc0_35 : decode cX0_init 35 = .ok (.bipush 64, 2) := by decide +kernel
theorem dc0_37 : decode cX0_init 37 = .ok (.newarray .int, 2) := by decide +kernel
theorem dc0_39 : decode cX0_init 39 = .ok (.putfield 27, 3) := by decide +kernel
theorem dc0_42 : decode cX0_init 42 = .ok (.aload_n 0, 1) := by decide +kernel
theorem dc0_43 : decode cX0_init 43 = .ok (.bipush 64, 2) := by decide +kernel
theorem dc0_45 : decode cX0_init 45 = .ok (.bipush 10, 2) := by decide +kernel
theorem dc0_47 : decode cX0_init 47 = .ok (.multianewarray 19 2, 4) := by decide +kernel
theorem dc0_51 : decode cX0_init 51 = .ok (.putfield 30, 3) := by decide +kernel
theorem dc0_54 : decode cX0_init 54 = .ok (.aload_n 0, 1) := by decide +kernel
theorem dc0_55 : decode cX0_init 55 = .ok (.bipush 64, 2) := by decide +kernel
theorem dc0_57 : decode cX0_init 57 = .ok (.newarray .long, 2) := by decide +kernel
theorem dc0_59 : decode cX0_init 59 = .ok (.putfield 33, 3) := by decide +kernel
theorem dc0_62 : decode cX0_init 62 = .ok (.return_, 1) := by decide +kernel
/-- what the constructor makes of its object: PalletNets.Invariants -/
def ptIv (cy : kv_Y) (ws : va_W) (k h0 : Nat) (ws' : va_W) : Prop := ∃ q1 g2 q3 g4 q5 : Nat, ws' = ws.set k (h0, .inr (0, [.int 0, .ref q1, .ref g2, .int 0, .ref q3, .ref g4, .ref q5])) ++ ((((([] ++ [(q1, .inl (cy.1, 64, .inl (fun _ => 0)))]) ++ bgr cy g2 64 10) ++ [(q3, .inl (cy.1, 64, .inl (fun _ => 0)))]) ++ bgr cy g4 64 10) ++ [(q5, .inl (cy.2.1, 64, .inr (.inl (fun _ => 0))))])
set_option maxHeartbeats 4000000 in
set_option maxRecDepth 100000 in
theorem cIv (l : Launch) (D : va_G) (cy : kv_Y) (z : Nat) (ws : va_W) (k h0 : Nat) (hk0 : ws[k]? = some (h0, .inr (0, [.int 0, .null, .null, .int 0, .null, .null, .null]))) : Met l yX0_init (Cond.code yX0_init cX0_init 1 none :: kw_gd) { frames := 1, cells := 133, slots := 1600, locals := 12 } (bz_Pc D cy z ws h0) (bz_Qc D z (ptIv cy ws k h0)) 133 1600 (fun q => z ≤ q) := by
  refine Met.ofW (cc := cX0_init) (maxL := 1) (ret := none) (by decide) rfl ?_
  intro p e s m args below meth c s₁ B hml hv
  obtain ⟨rfl, hP, hD, hz, hU⟩ := hv
  have hx := B.exec
  have hb := B.bytes
  have hr := B.returns
  have hts0 := atoms_spec (ws := Cond.code yX0_init cX0_init 1 none :: kw_gd) B.pre
  have hts : ∀ w ∈ kw_gd, w.before #[Value.ref h0] s = true := fun w hw => hts0 w (List.mem_cons_of_mem _ hw)
  have hown : s.vm.findClass (kn_o 0) = some m.cls := findClass_of_methodNamed B.named
  have hlocks := B.notSynchronized
  have hin : meth.name = "<init>" := (name_of_methodNamed B.named B.method).1
  have hA : ∀ q : Nat, s.heap.size ≤ q → (fun q => z ≤ q) q := fun q h => Nat.le_trans hz h
  have hS : va_S (fun q => z ≤ q) s.heap s.heap [] := va_S.rf
  have hK := hU.1
  have hk : k < ws.length := (List.getElem?_eq_some_iff.mp hk0).1
  have hP : va_P D vwCl (ws.set k (h0, .inr (0, [.int 0, .null, .null, .int 0, .null, .null, .null])) ++ []) s.heap := by rw [bini hk0]; exact hP
  have hD : va_D (fun q => z ≤ q) (ws.set k (h0, .inr (0, [.int 0, .null, .null, .int 0, .null, .null, .null])) ++ []) := by rw [bini hk0]; exact hD
  have hl := lv_entry ([.ref h0]) (n := 1) (Nat.le_of_ble_eq_true rfl)
  rw [lg_entry_eq]
  generalize (lg_sl ([.ref h0]) ++ List.replicate (1 - (lg_sl ([.ref h0])).length) Slot.unset).toArray = ls at hl ⊢
  have hl : lv_has ls 1 [(0, .ref h0)] := hl
  refine lv_aload_n hx hb dc0_0 rfl (lv_at hl 0 rfl) ?_
  refine W.objInit hx hb hown (hts (.methodLink (kn_o 0) 3 objectInit) (kw_g (kt_1 (List.mem_of_getElem? (i := 128) rfl)) rfl)) (hts (.instanceMethod objectInit) (kw_g (kt_1 (List.mem_of_getElem? (i := 19) rfl)) rfl)) (hts (.code objectInit ⟨#[0xb1]⟩ 1 none) (kw_g (kt_1 (List.mem_of_getElem? (i := 20) rfl)) rfl)) rfl (by rw [hml]; exact hl.1) rfl dc0_1 (Nat.le_of_ble_eq_true rfl) (Nat.le_of_ble_eq_true rfl) ?_
  refine W.eq (g2 := F0 m 4 ls []) rfl ?_
  refine lv_aload_n hx hb dc0_4 rfl (lv_at hl 0 rfl) ?_
  refine lv_iconst (v := 0) hx hb dc0_5 (by decide +kernel) ?_
  refine bn_put (oc := 0) (idx := 9) (x := 0) (y := 0) (v := .int 0) (fs' := [.int 0, .null, .null, .int 0, .null, .null, .null]) (ty := .int) hx hb hts hown hK hP hD hS hk (by decide) (by decide +kernel) (by decide) (Nat.le_of_ble_eq_true rfl) (Or.inl rfl) (by decide +kernel) rfl rfl rfl dc0_6 (fun H locs hP hD hS => ?_)
  refine lv_aload_n hx hb dc0_9 rfl (lv_at hl 0 rfl) ?_
  refine lv_bipush (v := 64) hx hb dc0_10 (by decide +kernel) ?_
  refine bn_newa (cA0 := cy.1) 0 (a0 := (64, .inl (fun _ => 0))) (N' := 64) (atype := .int) (ty := .int) hx hb (hts (.arrayClass .int) (kw_g (kt_1 (List.mem_of_getElem? (i := 89) rfl)) rfl)) rfl hK rfl (Or.inl rfl) hP hD hS hA (fun _ => rfl) (by decide) (by decide +kernel) (Nat.le_of_ble_eq_true rfl) (Nat.le_of_ble_eq_true rfl) (Nat.le_of_ble_eq_true rfl) dc0_12 (fun q1 H hP hD hS => ?_)
  rw [List.append_assoc] at hP hD
  have hP : va_P D vwCl (ws.set k (h0, .inr (0, [.int 0, .null, .null, .int 0, .null, .null, .null])) ++ ([] ++ [(q1, .inl (cy.1, 64, .inl (fun _ => 0)))])) H := hP
  have hD : va_D (fun q => z ≤ q) (ws.set k (h0, .inr (0, [.int 0, .null, .null, .int 0, .null, .null, .null])) ++ ([] ++ [(q1, .inl (cy.1, 64, .inl (fun _ => 0)))])) := hD
  refine bn_put (oc := 0) (idx := 15) (x := 0) (y := 1) (v := .ref q1) (fs' := [.int 0, .ref q1, .null, .int 0, .null, .null, .null]) (ty := (.array .int)) hx hb hts hown hK hP hD hS hk (by decide) (by decide +kernel) (by decide) (Nat.le_of_ble_eq_true rfl) (Or.inl rfl) (by decide +kernel) rfl rfl rfl dc0_14 (fun H locs hP hD hS => ?_)
  refine lv_aload_n hx hb dc0_17 rfl (lv_at hl 0 rfl) ?_
  refine lv_bipush (v := 64) hx hb dc0_18 (by decide +kernel) ?_
  refine lv_bipush (v := 10) hx hb dc0_20 (by decide +kernel) ?_
  refine bn_grid (oc := 0) (N := 64) (M := 10) hx hb hown (hts (.classLink (kn_o 0) 19 ("[" ++ (FieldType.array .long).toString)) (kw_g (kt_1 (List.mem_of_getElem? (i := 129) rfl)) rfl)) (hts (.arrayClass .long) (kw_g (kt_1 (List.mem_of_getElem? (i := 88) rfl)) rfl)) hU hP hD hS hA (by decide) (by decide) (by decide +kernel) (by decide +kernel) (by decide) (by decide) (Nat.le_of_ble_eq_true rfl) (Nat.le_of_ble_eq_true rfl) dc0_22 (fun g2 H locs hP hD hS => ?_)
  rw [List.append_assoc] at hP hD
  have hP : va_P D vwCl (ws.set k (h0, .inr (0, [.int 0, .ref q1, .null, .int 0, .null, .null, .null])) ++ (([] ++ [(q1, .inl (cy.1, 64, .inl (fun _ => 0)))]) ++ bgr cy g2 64 10)) H := hP
  have hD : va_D (fun q => z ≤ q) (ws.set k (h0, .inr (0, [.int 0, .ref q1, .null, .int 0, .null, .null, .null])) ++ (([] ++ [(q1, .inl (cy.1, 64, .inl (fun _ => 0)))]) ++ bgr cy g2 64 10)) := hD
  refine bn_put (oc := 0) (idx := 21) (x := 0) (y := 2) (v := .ref g2) (fs' := [.int 0, .ref q1, .ref g2, .int 0, .null, .null, .null]) (ty := (.array (.array .long))) hx hb hts hown hK hP hD hS hk (by decide) (by decide +kernel) (by decide) (Nat.le_of_ble_eq_true rfl) (Or.inl rfl) (by decide +kernel) rfl rfl rfl dc0_26 (fun H locs hP hD hS => ?_)
  refine lv_aload_n hx hb dc0_29 rfl (lv_at hl 0 rfl) ?_
  refine lv_iconst (v := 0) hx hb dc0_30 (by decide +kernel) ?_
  refine bn_put (oc := 0) (idx := 24) (x := 0) (y := 3) (v := .int 0) (fs' := [.int 0, .ref q1, .ref g2, .int 0, .null, .null, .null]) (ty := .int) hx hb hts hown hK hP hD hS hk (by decide) (by decide +kernel) (by decide) (Nat.le_of_ble_eq_true rfl) (Or.inl rfl) (by decide +kernel) rfl rfl rfl dc0_31 (fun H locs hP hD hS => ?_)
  refine lv_aload_n hx hb dc0_34 rfl (lv_at hl 0 rfl) ?_
  refine lv_bipush (v := 64) hx hb dc0_35 (by decide +kernel) ?_
  refine bn_newa (cA0 := cy.1) 0 (a0 := (64, .inl (fun _ => 0))) (N' := 64) (atype := .int) (ty := .int) hx hb (hts (.arrayClass .int) (kw_g (kt_1 (List.mem_of_getElem? (i := 89) rfl)) rfl)) rfl hK rfl (Or.inl rfl) hP hD hS hA (fun _ => rfl) (by decide) (by decide +kernel) (Nat.le_of_ble_eq_true rfl) (Nat.le_of_ble_eq_true rfl) (Nat.le_of_ble_eq_true rfl) dc0_37 (fun q3 H hP hD hS => ?_)
  rw [List.append_assoc] at hP hD
  have hP : va_P D vwCl (ws.set k (h0, .inr (0, [.int 0, .ref q1, .ref g2, .int 0, .null, .null, .null])) ++ ((([] ++ [(q1, .inl (cy.1, 64, .inl (fun _ => 0)))]) ++ bgr cy g2 64 10) ++ [(q3, .inl (cy.1, 64, .inl (fun _ => 0)))])) H := hP
  have hD : va_D (fun q => z ≤ q) (ws.set k (h0, .inr (0, [.int 0, .ref q1, .ref g2, .int 0, .null, .null, .null])) ++ ((([] ++ [(q1, .inl (cy.1, 64, .inl (fun _ => 0)))]) ++ bgr cy g2 64 10) ++ [(q3, .inl (cy.1, 64, .inl (fun _ => 0)))])) := hD
  refine bn_put (oc := 0) (idx := 27) (x := 0) (y := 4) (v := .ref q3) (fs' := [.int 0, .ref q1, .ref g2, .int 0, .ref q3, .null, .null]) (ty := (.array .int)) hx hb hts hown hK hP hD hS hk (by decide) (by decide +kernel) (by decide) (Nat.le_of_ble_eq_true rfl) (Or.inl rfl) (by decide +kernel) rfl rfl rfl dc0_39 (fun H locs hP hD hS => ?_)
  refine lv_aload_n hx hb dc0_42 rfl (lv_at hl 0 rfl) ?_
  refine lv_bipush (v := 64) hx hb dc0_43 (by decide +kernel) ?_
  refine lv_bipush (v := 10) hx hb dc0_45 (by decide +kernel) ?_
  refine bn_grid (oc := 0) (N := 64) (M := 10) hx hb hown (hts (.classLink (kn_o 0) 19 ("[" ++ (FieldType.array .long).toString)) (kw_g (kt_1 (List.mem_of_getElem? (i := 129) rfl)) rfl)) (hts (.arrayClass .long) (kw_g (kt_1 (List.mem_of_getElem? (i := 88) rfl)) rfl)) hU hP hD hS hA (by decide) (by decide) (by decide +kernel) (by decide +kernel) (by decide) (by decide) (Nat.le_of_ble_eq_true rfl) (Nat.le_of_ble_eq_true rfl) dc0_47 (fun g4 H locs hP hD hS => ?_)
  rw [List.append_assoc] at hP hD
  have hP : va_P D vwCl (ws.set k (h0, .inr (0, [.int 0, .ref q1, .ref g2, .int 0, .ref q3, .null, .null])) ++ (((([] ++ [(q1, .inl (cy.1, 64, .inl (fun _ => 0)))]) ++ bgr cy g2 64 10) ++ [(q3, .inl (cy.1, 64, .inl (fun _ => 0)))]) ++ bgr cy g4 64 10)) H := hP
  have hD : va_D (fun q => z ≤ q) (ws.set k (h0, .inr (0, [.int 0, .ref q1, .ref g2, .int 0, .ref q3, .null, .null])) ++ (((([] ++ [(q1, .inl (cy.1, 64, .inl (fun _ => 0)))]) ++ bgr cy g2 64 10) ++ [(q3, .inl (cy.1, 64, .inl (fun _ => 0)))]) ++ bgr cy g4 64 10)) := hD
  refine bn_put (oc := 0) (idx := 30) (x := 0) (y := 5) (v := .ref g4) (fs' := [.int 0, .ref q1, .ref g2, .int 0, .ref q3, .ref g4, .null]) (ty := (.array (.array .long))) hx hb hts hown hK hP hD hS hk (by decide) (by decide +kernel) (by decide) (Nat.le_of_ble_eq_true rfl) (Or.inl rfl) (by decide +kernel) rfl rfl rfl dc0_51 (fun H locs hP hD hS => ?_)
  refine lv_aload_n hx hb dc0_54 rfl (lv_at hl 0 rfl) ?_
  refine lv_bipush (v := 64) hx hb dc0_55 (by decide +kernel) ?_
  refine bn_newa (cA0 := cy.2.1) 1 (a0 := (64, .inr (.inl (fun _ => 0)))) (N' := 64) (atype := .long) (ty := .long) hx hb (hts (.arrayClass .long) (kw_g (kt_1 (List.mem_of_getElem? (i := 88) rfl)) rfl)) rfl hK rfl (Or.inr (Or.inl rfl)) hP hD hS hA (fun _ => rfl) (by decide) (by decide +kernel) (Nat.le_of_ble_eq_true rfl) (Nat.le_of_ble_eq_true rfl) (Nat.le_of_ble_eq_true rfl) dc0_57 (fun q5 H hP hD hS => ?_)
  rw [List.append_assoc] at hP hD
  have hP : va_P D vwCl (ws.set k (h0, .inr (0, [.int 0, .ref q1, .ref g2, .int 0, .ref q3, .ref g4, .null])) ++ ((((([] ++ [(q1, .inl (cy.1, 64, .inl (fun _ => 0)))]) ++ bgr cy g2 64 10) ++ [(q3, .inl (cy.1, 64, .inl (fun _ => 0)))]) ++ bgr cy g4 64 10) ++ [(q5, .inl (cy.2.1, 64, .inr (.inl (fun _ => 0))))])) H := hP
  have hD : va_D (fun q => z ≤ q) (ws.set k (h0, .inr (0, [.int 0, .ref q1, .ref g2, .int 0, .ref q3, .ref g4, .null])) ++ ((((([] ++ [(q1, .inl (cy.1, 64, .inl (fun _ => 0)))]) ++ bgr cy g2 64 10) ++ [(q3, .inl (cy.1, 64, .inl (fun _ => 0)))]) ++ bgr cy g4 64 10) ++ [(q5, .inl (cy.2.1, 64, .inr (.inl (fun _ => 0))))])) := hD
  refine bn_put (oc := 0) (idx := 33) (x := 0) (y := 6) (v := .ref q5) (fs' := [.int 0, .ref q1, .ref g2, .int 0, .ref q3, .ref g4, .ref q5]) (ty := (.array .long)) hx hb hts hown hK hP hD hS hk (by decide) (by decide +kernel) (by decide) (Nat.le_of_ble_eq_true rfl) (Or.inr ⟨rfl, hin, rfl⟩) (by decide +kernel) rfl rfl rfl dc0_59 (fun H locs hP hD hS => ?_)
  exact W.vret hx hb hr (fun t ht hW => ⟨⟨_, rfl, ⟨q1, g2, q3, g4, q5, rfl⟩, by rw [ht]; exact hP, hD⟩, hS.F ht⟩) hS.2.2 dc0_62
theorem dc7_0 : decode cX7_init 0 = .ok (.aload_n 0, 1) := by decide +kernel
theorem dc7_1 : decode cX7_init 1 = .ok (.invokespecial 1, 3) := by decide +kernel
theorem dc7_4 : decode cX7_init 4 = .ok (.aload_n 0, 1) := by decide +kernel
theorem dc7_5 : decode cX7_init 5 = .ok (.sipush 212, 3) := by decide +kernel
theorem dc7_8 : decode cX7_init 8 = .ok (.newarray .int, 2) := by decide +kernel
theorem dc7_10 : decode cX7_init 10 = .ok (.putfield 7, 3) := by decide +kernel
theorem dc7_13 : decode cX7_init 13 = .ok (.aload_n 0, 1) := by decide +kernel
theorem dc7_14 : decode cX7_init 14 = .ok (.sipush 1060, 3) := by decide +kernel
theorem dc7_17 : decode cX7_init 17 = .ok (.newarray .int, 2) := by decide +kernel
theorem dc7_19 : decode cX7_init 19 = .ok (.putfield 13, 3) := by decide +kernel
theorem dc7_22 : decode cX7_init 22 = .ok (.aload_n 0, 1) := by decide +kernel
theorem dc7_23 : decode cX7_init 23 = .ok (.sipush 200, 3) := by decide +kernel
theorem dc7_26 : decode cX7_init 26 = .ok (.newarray .long, 2) := by decide +kernel
theorem dc7_28 : decode cX7_init 28 = .ok (.putfield 16, 3) := by decide +kernel
theorem dc7_31 : decode cX7_init 31 = .ok (.aload_n 0, 1) := by decide +kernel
theorem dc7_32 : decode cX7_init 32 = .ok (.sipush 200, 3) := by decide +kernel
theorem dc7_35 : decode cX7_init 35 = .ok (.newarray .int, 2) := by decide +kernel
theorem dc7_37 : decode cX7_init 37 = .ok (.putfield 20, 3) := by decide +kernel
theorem dc7_40 : decode cX7_init 40 = .ok (.aload_n 0, 1) := by decide +kernel
theorem dc7_41 : decode cX7_init 41 = .ok (.sipush 1600, 3) := by decide +kernel
theorem dc7_44 : decode cX7_init 44 = .ok (.newarray .int, 2) := by decide +kernel
theorem dc7_46 : decode cX7_init 46 = .ok (.putfield 23, 3) := by decide +kernel
theorem dc7_49 : decode cX7_init 49 = .ok (.aload_n 0, 1) := by decide +kernel
theorem dc7_50 : decode cX7_init 50 = .ok (.sipush 200, 3) := by decide +kernel
theorem dc7_53 : decode cX7_init 53 = .ok (.newarray .boolean, 2) := by decide +kernel
theorem dc7_55 : decode cX7_init 55 = .ok (.putfield 26, 3) := by decide +kernel
theorem dc7_58 : decode cX7_init 58 = .ok (.aload_n 0, 1) := by decide +kernel
theorem dc7_59 : decode cX7_init 59 = .ok (.bipush 80, 2) := by decide +kernel
theorem dc7_61 : decode cX7_init 61 = .ok (.newarray .long, 2) := by decide +kernel
theorem dc7_63 : decode cX7_init 63 = .ok (.putfield 30, 3) := by decide +kernel
theorem dc7_66 : decode cX7_init 66 = .ok (.aload_n 0, 1) := by decide +kernel
theorem dc7_67 : decode cX7_init 67 = .ok (.bipush 8, 2) := by decide +kernel
theorem dc7_69 : decode cX7_init 69 = .ok (.newarray .int, 2) := by decide +kernel
theorem dc7_71 : decode cX7_init 71 = .ok (.putfield 33, 3) := by decide +kernel
theorem dc7_74 : decode cX7_init 74 = .ok (.aload_n 0, 1) := by decide +kernel
theorem dc7_75 : decode cX7_init 75 = .ok (.bipush 10, 2) := by decide +kernel
theorem dc7_77 : decode cX7_init 77 = .ok (.newarray .long, 2) := by decide +kernel
theorem dc7_79 : decode cX7_init 79 = .ok (.putfield 36, 3) := by decide +kernel
theorem dc7_82 : decode cX7_init 82 = .ok (.aload_n 0, 1) := by decide +kernel
theorem dc7_83 : decode cX7_init 83 = .ok (.sipush 256, 3) := by decide +kernel
theorem dc7_86 : decode cX7_init 86 = .ok (.newarray .int, 2) := by decide +kernel
theorem dc7_88 : decode cX7_init 88 = .ok (.putfield 39, 3) := by decide +kernel
theorem dc7_91 : decode cX7_init 91 = .ok (.aload_n 0, 1) := by decide +kernel
theorem dc7_92 : decode cX7_init 92 = .ok (.sipush 2560, 3) := by decide +kernel
theorem dc7_95 : decode cX7_init 95 = .ok (.newarray .int, 2) := by decide +kernel
theorem dc7_97 : decode cX7_init 97 = .ok (.putfield 42, 3) := by decide +kernel
theorem dc7_100 : decode cX7_init 100 = .ok (.aload_n 0, 1) := by decide +kernel
theorem dc7_101 : decode cX7_init 101 = .ok (.bipush 8, 2) := by decide +kernel
theorem dc7_103 : decode cX7_init 103 = .ok (.newarray .int, 2) := by decide +kernel
theorem dc7_105 : decode cX7_init 105 = .ok (.putfield 45, 3) := by decide +kernel
theorem dc7_108 : decode cX7_init 108 = .ok (.aload_n 0, 1) := by decide +kernel
theorem dc7_109 : decode cX7_init 109 = .ok (.bipush 8, 2) := by decide +kernel
theorem dc7_111 : decode cX7_init 111 = .ok (.newarray .int, 2) := by decide +kernel
theorem dc7_113 : decode cX7_init 113 = .ok (.putfield 48, 3) := by decide +kernel
theorem dc7_116 : decode cX7_init 116 = .ok (.aload_n 0, 1) := by decide +kernel
theorem dc7_117 : decode cX7_init 117 = .ok (.sipush 1024, 3) := by decide +kernel
theorem dc7_120 : decode cX7_init 120 = .ok (.newarray .boolean, 2) := by decide +kernel
theorem dc7_122 : decode cX7_init 122 = .ok (.putfield 51, 3) := by decide +kernel
theorem dc7_125 : decode cX7_init 125 = .ok (.aload_n 0, 1) := by decide +kernel
theorem dc7_126 : decode cX7_init 126 = .ok (.sipush 256, 3) := by decide +kernel
theorem dc7_129 : decode cX7_init 129 = .ok (.newarray .int, 2) := by decide +kernel
theorem dc7_131 : decode cX7_init 131 = .ok (.putfield 54, 3) := by decide +kernel
theorem dc7_134 : decode cX7_init 134 = .ok (.aload_n 0, 1) := by decide +kernel
theorem dc7_135 : decode cX7_init 135 = .ok (.sipush 200, 3) := by decide +kernel
theorem dc7_138 : decode cX7_init 138 = .ok (.newarray .int, 2) := by decide +kernel
theorem dc7_140 : decode cX7_init 140 = .ok (.putfield 57, 3) := by decide +kernel
theorem dc7_143 : decode cX7_init 143 = .ok (.aload_n 0, 1) := by decide +kernel
theorem dc7_144 : decode cX7_init 144 = .ok (.bipush 120, 2) := by decide +kernel
theorem dc7_146 : decode cX7_init 146 = .ok (.newarray .int, 2) := by decide +kernel
theorem dc7_148 : decode cX7_init 148 = .ok (.putfield 60, 3) := by decide +kernel
theorem dc7_151 : decode cX7_init 151 = .ok (.aload_n 0, 1) := by decide +kernel
theorem dc7_152 : decode cX7_init 152 = .ok (.sipush 212, 3) := by decide +kernel
theorem dc7_155 : decode cX7_init 155 = .ok (.newarray .int, 2) := by decide +kernel
theorem dc7_157 : decode cX7_init 157 = .ok (.putfield 63, 3) := by decide +kernel
theorem dc7_160 : decode cX7_init 160 = .ok (.return_, 1) := by decide +kernel
/-- what the constructor makes of its object: PalletNetsModel -/
def ptMd (cy : kv_Y) (ws : va_W) (k h0 : Nat) (ws' : va_W) : Prop := ∃ q1 q2 q3 q4 q5 q6 q7 q8 q9 q10 q11 q12 q13 q14 q15 q16 q17 q18 : Nat, ws' = ws.set k (h0, .inr (6, [.ref q1, .ref q2, .int 0, .int 0, .int 0, .int 0, .int 0, .long 0, .int 0, .ref q3, .ref q4, .ref q5, .ref q6, .ref q7, .ref q8, .ref q9, .int 0, .ref q10, .ref q11, .ref q12, .ref q13, .ref q14, .int 0, .ref q15, .ref q16, .int 0, .ref q17, .int 0, .int 0, .ref q18])) ++ [(q1, .inl (cy.1, 212, .inl (fun _ => 0))), (q2, .inl (cy.1, 1060, .inl (fun _ => 0))), (q3, .inl (cy.2.1, 200, .inr (.inl (fun _ => 0)))), (q4, .inl (cy.1, 200, .inl (fun _ => 0))), (q5, .inl (cy.1, 1600, .inl (fun _ => 0))), (q6, .inl (cy.2.2.1, 200, .inl (fun _ => 0))), (q7, .inl (cy.2.1, 80, .inr (.inl (fun _ => 0)))), (q8, .inl (cy.1, 8, .inl (fun _ => 0))), (q9, .inl (cy.2.1, 10, .inr (.inl (fun _ => 0)))), (q10, .inl (cy.1, 256, .inl (fun _ => 0))), (q11, .inl (cy.1, 2560, .inl (fun _ => 0))), (q12, .inl (cy.1, 8, .inl (fun _ => 0))), (q13, .inl (cy.1, 8, .inl (fun _ => 0))), (q14, .inl (cy.2.2.1, 1024, .inl (fun _ => 0))), (q15, .inl (cy.1, 256, .inl (fun _ => 0))), (q16, .inl (cy.1, 200, .inl (fun _ => 0))), (q17, .inl (cy.1, 120, .inl (fun _ => 0))), (q18, .inl (cy.1, 212, .inl (fun _ => 0)))]
set_option maxHeartbeats 4000000 in
set_option maxRecDepth 100000 in
theorem cMd (l : Launch) (D : va_G) (cy : kv_Y) (z : Nat) (ws : va_W) (k h0 : Nat) (hk0 : ws[k]? = some (h0, .inr (6, [.null, .null, .int 0, .int 0, .int 0, .int 0, .int 0, .long 0, .int 0, .null, .null, .null, .null, .null, .null, .null, .int 0, .null, .null, .null, .null, .null, .int 0, .null, .null, .int 0, .null, .int 0, .int 0, .null]))) : Met l yX7_init (Cond.code yX7_init cX7_init 1 none :: kw_gd) { frames := 1, cells := 18, slots := 8214, locals := 12 } (bz_Pc D cy z ws h0) (bz_Qc D z (ptMd cy ws k h0)) 18 8214 (fun q => z ≤ q) := by
  refine Met.ofW (cc := cX7_init) (maxL := 1) (ret := none) (by decide) rfl ?_
  intro p e s m args below meth c s₁ B hml hv
  obtain ⟨rfl, hP, hD, hz, hU⟩ := hv
  have hx := B.exec
  have hb := B.bytes
  have hr := B.returns
  have hts0 := atoms_spec (ws := Cond.code yX7_init cX7_init 1 none :: kw_gd) B.pre
  have hts : ∀ w ∈ kw_gd, w.before #[Value.ref h0] s = true := fun w hw => hts0 w (List.mem_cons_of_mem _ hw)
  have hown : s.vm.findClass (kn_o 7) = some m.cls := findClass_of_methodNamed B.named
  have hlocks := B.notSynchronized
  have hin : meth.name = "<init>" := (name_of_methodNamed B.named B.method).1
  have hA : ∀ q : Nat, s.heap.size ≤ q → (fun q => z ≤ q) q := fun q h => Nat.le_trans hz h
  have hS : va_S (fun q => z ≤ q) s.heap s.heap [] := va_S.rf
  have hK := hU.1
  have hk : k < ws.length := (List.getElem?_eq_some_iff.mp hk0).1
  have hP : va_P D vwCl (ws.set k (h0, .inr (6, [.null, .null, .int 0, .int 0, .int 0, .int 0, .int 0, .long 0, .int 0, .null, .null, .null, .null, .null, .null, .null, .int 0, .null, .null, .null, .null, .null, .int 0, .null, .null, .int 0, .null, .int 0, .int 0, .null])) ++ []) s.heap := by rw [bini hk0]; exact hP
  have hD : va_D (fun q => z ≤ q) (ws.set k (h0, .inr (6, [.null, .null, .int 0, .int 0, .int 0, .int 0, .int 0, .long 0, .int 0, .null, .null, .null, .null, .null, .null, .null, .int 0, .null, .null, .null, .null, .null, .int 0, .null, .null, .int 0, .null, .int 0, .int 0, .null])) ++ []) := by rw [bini hk0]; exact hD
  have hl := lv_entry ([.ref h0]) (n := 1) (Nat.le_of_ble_eq_true rfl)
  rw [lg_entry_eq]
  generalize (lg_sl ([.ref h0]) ++ List.replicate (1 - (lg_sl ([.ref h0])).length) Slot.unset).toArray = ls at hl ⊢
  have hl : lv_has ls 1 [(0, .ref h0)] := hl
  refine lv_aload_n hx hb dc7_0 rfl (lv_at hl 0 rfl) ?_
  refine W.objInit hx hb hown (hts (.methodLink (kn_o 7) 1 objectInit) (kw_g (kt_4 (List.mem_of_getElem? (i := 97) rfl)) rfl)) (hts (.instanceMethod objectInit) (kw_g (kt_1 (List.mem_of_getElem? (i := 19) rfl)) rfl)) (hts (.code objectInit ⟨#[0xb1]⟩ 1 none) (kw_g (kt_1 (List.mem_of_getElem? (i := 20) rfl)) rfl)) rfl (by rw [hml]; exact hl.1) rfl dc7_1 (Nat.le_of_ble_eq_true rfl) (Nat.le_of_ble_eq_true rfl) ?_
  refine W.eq (g2 := F0 m 4 ls []) rfl ?_
  refine lv_aload_n hx hb dc7_4 rfl (lv_at hl 0 rfl) ?_
  refine lv_sipush (v := 212) hx hb dc7_5 (by decide +kernel) ?_
  refine bn_newa (cA0 := cy.1) 0 (a0 := (212, .inl (fun _ => 0))) (N' := 212) (atype := .int) (ty := .int) hx hb (hts (.arrayClass .int) (kw_g (kt_1 (List.mem_of_getElem? (i := 89) rfl)) rfl)) rfl hK rfl (Or.inl rfl) hP hD hS hA (fun _ => rfl) (by decide) (by decide +kernel) (Nat.le_of_ble_eq_true rfl) (Nat.le_of_ble_eq_true rfl) (Nat.le_of_ble_eq_true rfl) dc7_8 (fun q1 H hP hD hS => ?_)
  rw [List.append_assoc] at hP hD
  have hP : va_P D vwCl (ws.set k (h0, .inr (6, [.null, .null, .int 0, .int 0, .int 0, .int 0, .int 0, .long 0, .int 0, .null, .null, .null, .null, .null, .null, .null, .int 0, .null, .null, .null, .null, .null, .int 0, .null, .null, .int 0, .null, .int 0, .int 0, .null])) ++ [(q1, .inl (cy.1, 212, .inl (fun _ => 0)))]) H := hP
  have hD : va_D (fun q => z ≤ q) (ws.set k (h0, .inr (6, [.null, .null, .int 0, .int 0, .int 0, .int 0, .int 0, .long 0, .int 0, .null, .null, .null, .null, .null, .null, .null, .int 0, .null, .null, .null, .null, .null, .int 0, .null, .null, .int 0, .null, .int 0, .int 0, .null])) ++ [(q1, .inl (cy.1, 212, .inl (fun _ => 0)))]) := hD
  refine bn_put (oc := 7) (idx := 7) (x := 6) (y := 0) (v := .ref q1) (fs' := [.ref q1, .null, .int 0, .int 0, .int 0, .int 0, .int 0, .long 0, .int 0, .null, .null, .null, .null, .null, .null, .null, .int 0, .null, .null, .null, .null, .null, .int 0, .null, .null, .int 0, .null, .int 0, .int 0, .null]) (ty := (.array .int)) hx hb hts hown hK hP hD hS hk (by decide) (by decide +kernel) (by decide) (Nat.le_of_ble_eq_true rfl) (Or.inr ⟨rfl, hin, rfl⟩) (by decide +kernel) rfl rfl rfl dc7_10 (fun H locs hP hD hS => ?_)
  refine lv_aload_n hx hb dc7_13 rfl (lv_at hl 0 rfl) ?_
  refine lv_sipush (v := 1060) hx hb dc7_14 (by decide +kernel) ?_
  refine bn_newa (cA0 := cy.1) 0 (a0 := (1060, .inl (fun _ => 0))) (N' := 1060) (atype := .int) (ty := .int) hx hb (hts (.arrayClass .int) (kw_g (kt_1 (List.mem_of_getElem? (i := 89) rfl)) rfl)) rfl hK rfl (Or.inl rfl) hP hD hS hA (fun _ => rfl) (by decide) (by decide +kernel) (Nat.le_of_ble_eq_true rfl) (Nat.le_of_ble_eq_true rfl) (Nat.le_of_ble_eq_true rfl) dc7_17 (fun q2 H hP hD hS => ?_)
  rw [List.append_assoc] at hP hD
  have hP : va_P D vwCl (ws.set k (h0, .inr (6, [.ref q1, .null, .int 0, .int 0, .int 0, .int 0, .int 0, .long 0, .int 0, .null, .null, .null, .null, .null, .null, .null, .int 0, .null, .null, .null, .null, .null, .int 0, .null, .null, .int 0, .null, .int 0, .int 0, .null])) ++ [(q1, .inl (cy.1, 212, .inl (fun _ => 0))), (q2, .inl (cy.1, 1060, .inl (fun _ => 0)))]) H := hP
  have hD : va_D (fun q => z ≤ q) (ws.set k (h0, .inr (6, [.ref q1, .null, .int 0, .int 0, .int 0, .int 0, .int 0, .long 0, .int 0, .null, .null, .null, .null, .null, .null, .null, .int 0, .null, .null, .null, .null, .null, .int 0, .null, .null, .int 0, .null, .int 0, .int 0, .null])) ++ [(q1, .inl (cy.1, 212, .inl (fun _ => 0))), (q2, .inl (cy.1, 1060, .inl (fun _ => 0)))]) := hD
  refine bn_put (oc := 7) (idx := 13) (x := 6) (y := 1) (v := .ref q2) (fs' := [.ref q1, .ref q2, .int 0, .int 0, .int 0, .int 0, .int 0, .long 0, .int 0, .null, .null, .null, .null, .null, .null, .null, .int 0, .null, .null, .null, .null, .null, .int 0, .null, .null, .int 0, .null, .int 0, .int 0, .null]) (ty := (.array .int)) hx hb hts hown hK hP hD hS hk (by decide) (by decide +kernel) (by decide) (Nat.le_of_ble_eq_true rfl) (Or.inr ⟨rfl, hin, rfl⟩) (by decide +kernel) rfl rfl rfl dc7_19 (fun H locs hP hD hS => ?_)
  refine lv_aload_n hx hb dc7_22 rfl (lv_at hl 0 rfl) ?_
  refine lv_sipush (v := 200) hx hb dc7_23 (by decide +kernel) ?_
  refine bn_newa (cA0 := cy.2.1) 1 (a0 := (200, .inr (.inl (fun _ => 0)))) (N' := 200) (atype := .long) (ty := .long) hx hb (hts (.arrayClass .long) (kw_g (kt_1 (List.mem_of_getElem? (i := 88) rfl)) rfl)) rfl hK rfl (Or.inr (Or.inl rfl)) hP hD hS hA (fun _ => rfl) (by decide) (by decide +kernel) (Nat.le_of_ble_eq_true rfl) (Nat.le_of_ble_eq_true rfl) (Nat.le_of_ble_eq_true rfl) dc7_26 (fun q3 H hP hD hS => ?_)
  rw [List.append_assoc] at hP hD
  have hP : va_P D vwCl (ws.set k (h0, .inr (6, [.ref q1, .ref q2, .int 0, .int 0, .int 0, .int 0, .int 0, .long 0, .int 0, .null, .null, .null, .null, .null, .null, .null, .int 0, .null, .null, .null, .null, .null, .int 0, .null, .null, .int 0, .null, .int 0, .int 0, .null])) ++ [(q1, .inl (cy.1, 212, .inl (fun _ => 0))), (q2, .inl (cy.1, 1060, .inl (fun _ => 0))), (q3, .inl (cy.2.1, 200, .inr (.inl (fun _ => 0))))]) H := hP
  have hD : va_D (fun q => z ≤ q) (ws.set k (h0, .inr (6, [.ref q1, .ref q2, .int 0, .int 0, .int 0, .int 0, .int 0, .long 0, .int 0, .null, .null, .null, .null, .null, .null, .null, .int 0, .null, .null, .null, .null, .null, .int 0, .null, .null, .int 0, .null, .int 0, .int 0, .null])) ++ [(q1, .inl (cy.1, 212, .inl (fun _ => 0))), (q2, .inl (cy.1, 1060, .inl (fun _ => 0))), (q3, .inl (cy.2.1, 200, .inr (.inl (fun _ => 0))))]) := hD
  refine bn_put (oc := 7) (idx := 16) (x := 6) (y := 9) (v := .ref q3) (fs' := [.ref q1, .ref q2, .int 0, .int 0, .int 0, .int 0, .int 0, .long 0, .int 0, .ref q3, .null, .null, .null, .null, .null, .null, .int 0, .null, .null, .null, .null, .null, .int 0, .null, .null, .int 0, .null, .int 0, .int 0, .null]) (ty := (.array .long)) hx hb hts hown hK hP hD hS hk (by decide) (by decide +kernel) (by decide) (Nat.le_of_ble_eq_true rfl) (Or.inr ⟨rfl, hin, rfl⟩) (by decide +kernel) rfl rfl rfl dc7_28 (fun H locs hP hD hS => ?_)
  refine lv_aload_n hx hb dc7_31 rfl (lv_at hl 0 rfl) ?_
  refine lv_sipush (v := 200) hx hb dc7_32 (by decide +kernel) ?_
  refine bn_newa (cA0 := cy.1) 0 (a0 := (200, .inl (fun _ => 0))) (N' := 200) (atype := .int) (ty := .int) hx hb (hts (.arrayClass .int) (kw_g (kt_1 (List.mem_of_getElem? (i := 89) rfl)) rfl)) rfl hK rfl (Or.inl rfl) hP hD hS hA (fun _ => rfl) (by decide) (by decide +kernel) (Nat.le_of_ble_eq_true rfl) (Nat.le_of_ble_eq_true rfl) (Nat.le_of_ble_eq_true rfl) dc7_35 (fun q4 H hP hD hS => ?_)
  rw [List.append_assoc] at hP hD
  have hP : va_P D vwCl (ws.set k (h0, .inr (6, [.ref q1, .ref q2, .int 0, .int 0, .int 0, .int 0, .int 0, .long 0, .int 0, .ref q3, .null, .null, .null, .null, .null, .null, .int 0, .null, .null, .null, .null, .null, .int 0, .null, .null, .int 0, .null, .int 0, .int 0, .null])) ++ [(q1, .inl (cy.1, 212, .inl (fun _ => 0))), (q2, .inl (cy.1, 1060, .inl (fun _ => 0))), (q3, .inl (cy.2.1, 200, .inr (.inl (fun _ => 0)))), (q4, .inl (cy.1, 200, .inl (fun _ => 0)))]) H := hP
  have hD : va_D (fun q => z ≤ q) (ws.set k (h0, .inr (6, [.ref q1, .ref q2, .int 0, .int 0, .int 0, .int 0, .int 0, .long 0, .int 0, .ref q3, .null, .null, .null, .null, .null, .null, .int 0, .null, .null, .null, .null, .null, .int 0, .null, .null, .int 0, .null, .int 0, .int 0, .null])) ++ [(q1, .inl (cy.1, 212, .inl (fun _ => 0))), (q2, .inl (cy.1, 1060, .inl (fun _ => 0))), (q3, .inl (cy.2.1, 200, .inr (.inl (fun _ => 0)))), (q4, .inl (cy.1, 200, .inl (fun _ => 0)))]) := hD
  refine bn_put (oc := 7) (idx := 20) (x := 6) (y := 10) (v := .ref q4) (fs' := [.ref q1, .ref q2, .int 0, .int 0, .int 0, .int 0, .int 0, .long 0, .int 0, .ref q3, .ref q4, .null, .null, .null, .null, .null, .int 0, .null, .null, .null, .null, .null, .int 0, .null, .null, .int 0, .null, .int 0, .int 0, .null]) (ty := (.array .int)) hx hb hts hown hK hP hD hS hk (by decide) (by decide +kernel) (by decide) (Nat.le_of_ble_eq_true rfl) (Or.inr ⟨rfl, hin, rfl⟩) (by decide +kernel) rfl rfl rfl dc7_37 (fun H locs hP hD hS => ?_)
  refine lv_aload_n hx hb dc7_40 rfl (lv_at hl 0 rfl) ?_
  refine lv_sipush (v := 1600) hx hb dc7_41 (by decide +kernel) ?_
  refine bn_newa (cA0 := cy.1) 0 (a0 := (1600, .inl (fun _ => 0))) (N' := 1600) (atype := .int) (ty := .int) hx hb (hts (.arrayClass .int) (kw_g (kt_1 (List.mem_of_getElem? (i := 89) rfl)) rfl)) rfl hK rfl (Or.inl rfl) hP hD hS hA (fun _ => rfl) (by decide) (by decide +kernel) (Nat.le_of_ble_eq_true rfl) (Nat.le_of_ble_eq_true rfl) (Nat.le_of_ble_eq_true rfl) dc7_44 (fun q5 H hP hD hS => ?_)
  rw [List.append_assoc] at hP hD
  have hP : va_P D vwCl (ws.set k (h0, .inr (6, [.ref q1, .ref q2, .int 0, .int 0, .int 0, .int 0, .int 0, .long 0, .int 0, .ref q3, .ref q4, .null, .null, .null, .null, .null, .int 0, .null, .null, .null, .null, .null, .int 0, .null, .null, .int 0, .null, .int 0, .int 0, .null])) ++ [(q1, .inl (cy.1, 212, .inl (fun _ => 0))), (q2, .inl (cy.1, 1060, .inl (fun _ => 0))), (q3, .inl (cy.2.1, 200, .inr (.inl (fun _ => 0)))), (q4, .inl (cy.1, 200, .inl (fun _ => 0))), (q5, .inl (cy.1, 1600, .inl (fun _ => 0)))]) H := hP
  have hD : va_D (fun q => z ≤ q) (ws.set k (h0, .inr (6, [.ref q1, .ref q2, .int 0, .int 0, .int 0, .int 0, .int 0, .long 0, .int 0, .ref q3, .ref q4, .null, .null, .null, .null, .null, .int 0, .null, .null, .null, .null, .null, .int 0, .null, .null, .int 0, .null, .int 0, .int 0, .null])) ++ [(q1, .inl (cy.1, 212, .inl (fun _ => 0))), (q2, .inl (cy.1, 1060, .inl (fun _ => 0))), (q3, .inl (cy.2.1, 200, .inr (.inl (fun _ => 0)))), (q4, .inl (cy.1, 200, .inl (fun _ => 0))), (q5, .inl (cy.1, 1600, .inl (fun _ => 0)))]) := hD
  refine bn_put (oc := 7) (idx := 23) (x := 6) (y := 11) (v := .ref q5) (fs' := [.ref q1, .ref q2, .int 0, .int 0, .int 0, .int 0, .int 0, .long 0, .int 0, .ref q3, .ref q4, .ref q5, .null, .null, .null, .null, .int 0, .null, .null, .null, .null, .null, .int 0, .null, .null, .int 0, .null, .int 0, .int 0, .null]) (ty := (.array .int)) hx hb hts hown hK hP hD hS hk (by decide) (by decide +kernel) (by decide) (Nat.le_of_ble_eq_true rfl) (Or.inr ⟨rfl, hin, rfl⟩) (by decide +kernel) rfl rfl rfl dc7_46 (fun H locs hP hD hS => ?_)
  refine lv_aload_n hx hb dc7_49 rfl (lv_at hl 0 rfl) ?_
  refine lv_sipush (v := 200) hx hb dc7_50 (by decide +kernel) ?_
  refine bn_newa (cA0 := cy.2.2.1) 2 (a0 := (200, .inl (fun _ => 0))) (N' := 200) (atype := .boolean) (ty := .boolean) hx hb (hts (.arrayClass .boolean) (kw_g (kt_4 (List.mem_of_getElem? (i := 189) rfl)) rfl)) rfl hK rfl (Or.inr (Or.inr rfl)) hP hD hS hA (fun _ => rfl) (by decide) (by decide +kernel) (Nat.le_of_ble_eq_true rfl) (Nat.le_of_ble_eq_true rfl) (Nat.le_of_ble_eq_true rfl) dc7_53 (fun q6 H hP hD hS => ?_)
  rw [List.append_assoc] at hP hD
  have hP : va_P D vwCl (ws.set k (h0, .inr (6, [.ref q1, .ref q2, .int 0, .int 0, .int 0, .int 0, .int 0, .long 0, .int 0, .ref q3, .ref q4, .ref q5, .null, .null, .null, .null, .int 0, .null, .null, .null, .null, .null, .int 0, .null, .null, .int 0, .null, .int 0, .int 0, .null])) ++ [(q1, .inl (cy.1, 212, .inl (fun _ => 0))), (q2, .inl (cy.1, 1060, .inl (fun _ => 0))), (q3, .inl (cy.2.1, 200, .inr (.inl (fun _ => 0)))), (q4, .inl (cy.1, 200, .inl (fun _ => 0))), (q5, .inl (cy.1, 1600, .inl (fun _ => 0))), (q6, .inl (cy.2.2.1, 200, .inl (fun _ => 0)))]) H := hP
  have hD : va_D (fun q => z ≤ q) (ws.set k (h0, .inr (6, [.ref q1, .ref q2, .int 0, .int 0, .int 0, .int 0, .int 0, .long 0, .int 0, .ref q3, .ref q4, .ref q5, .null, .null, .null, .null, .int 0, .null, .null, .null, .null, .null, .int 0, .null, .null, .int 0, .null, .int 0, .int 0, .null])) ++ [(q1, .inl (cy.1, 212, .inl (fun _ => 0))), (q2, .inl (cy.1, 1060, .inl (fun _ => 0))), (q3, .inl (cy.2.1, 200, .inr (.inl (fun _ => 0)))), (q4, .inl (cy.1, 200, .inl (fun _ => 0))), (q5, .inl (cy.1, 1600, .inl (fun _ => 0))), (q6, .inl (cy.2.2.1, 200, .inl (fun _ => 0)))]) := hD
  refine bn_put (oc := 7) (idx := 26) (x := 6) (y := 12) (v := .ref q6) (fs' := [.ref q1, .ref q2, .int 0, .int 0, .int 0, .int 0, .int 0, .long 0, .int 0, .ref q3, .ref q4, .ref q5, .ref q6, .null, .null, .null, .int 0, .null, .null, .null, .null, .null, .int 0, .null, .null, .int 0, .null, .int 0, .int 0, .null]) (ty := (.array .boolean)) hx hb hts hown hK hP hD hS hk (by decide) (by decide +kernel) (by decide) (Nat.le_of_ble_eq_true rfl) (Or.inr ⟨rfl, hin, rfl⟩) (by decide +kernel) rfl rfl rfl dc7_55 (fun H locs hP hD hS => ?_)
  refine lv_aload_n hx hb dc7_58 rfl (lv_at hl 0 rfl) ?_
  refine lv_bipush (v := 80) hx hb dc7_59 (by decide +kernel) ?_
  refine bn_newa (cA0 := cy.2.1) 1 (a0 := (80, .inr (.inl (fun _ => 0)))) (N' := 80) (atype := .long) (ty := .long) hx hb (hts (.arrayClass .long) (kw_g (kt_1 (List.mem_of_getElem? (i := 88) rfl)) rfl)) rfl hK rfl (Or.inr (Or.inl rfl)) hP hD hS hA (fun _ => rfl) (by decide) (by decide +kernel) (Nat.le_of_ble_eq_true rfl) (Nat.le_of_ble_eq_true rfl) (Nat.le_of_ble_eq_true rfl) dc7_61 (fun q7 H hP hD hS => ?_)
  rw [List.append_assoc] at hP hD
  have hP : va_P D vwCl (ws.set k (h0, .inr (6, [.ref q1, .ref q2, .int 0, .int 0, .int 0, .int 0, .int 0, .long 0, .int 0, .ref q3, .ref q4, .ref q5, .ref q6, .null, .null, .null, .int 0, .null, .null, .null, .null, .null, .int 0, .null, .null, .int 0, .null, .int 0, .int 0, .null])) ++ [(q1, .inl (cy.1, 212, .inl (fun _ => 0))), (q2, .inl (cy.1, 1060, .inl (fun _ => 0))), (q3, .inl (cy.2.1, 200, .inr (.inl (fun _ => 0)))), (q4, .inl (cy.1, 200, .inl (fun _ => 0))), (q5, .inl (cy.1, 1600, .inl (fun _ => 0))), (q6, .inl (cy.2.2.1, 200, .inl (fun _ => 0))), (q7, .inl (cy.2.1, 80, .inr (.inl (fun _ => 0))))]) H := hP
  have hD : va_D (fun q => z ≤ q) (ws.set k (h0, .inr (6, [.ref q1, .ref q2, .int 0, .int 0, .int 0, .int 0, .int 0, .long 0, .int 0, .ref q3, .ref q4, .ref q5, .ref q6, .null, .null, .null, .int 0, .null, .null, .null, .null, .null, .int 0, .null, .null, .int 0, .null, .int 0, .int 0, .null])) ++ [(q1, .inl (cy.1, 212, .inl (fun _ => 0))), (q2, .inl (cy.1, 1060, .inl (fun _ => 0))), (q3, .inl (cy.2.1, 200, .inr (.inl (fun _ => 0)))), (q4, .inl (cy.1, 200, .inl (fun _ => 0))), (q5, .inl (cy.1, 1600, .inl (fun _ => 0))), (q6, .inl (cy.2.2.1, 200, .inl (fun _ => 0))), (q7, .inl (cy.2.1, 80, .inr (.inl (fun _ => 0))))]) := hD
  refine bn_put (oc := 7) (idx := 30) (x := 6) (y := 13) (v := .ref q7) (fs' := [.ref q1, .ref q2, .int 0, .int 0, .int 0, .int 0, .int 0, .long 0, .int 0, .ref q3, .ref q4, .ref q5, .ref q6, .ref q7, .null, .null, .int 0, .null, .null, .null, .null, .null, .int 0, .null, .null, .int 0, .null, .int 0, .int 0, .null]) (ty := (.array .long)) hx hb hts hown hK hP hD hS hk (by decide) (by decide +kernel) (by decide) (Nat.le_of_ble_eq_true rfl) (Or.inr ⟨rfl, hin, rfl⟩) (by decide +kernel) rfl rfl rfl dc7_63 (fun H locs hP hD hS => ?_)
  refine lv_aload_n hx hb dc7_66 rfl (lv_at hl 0 rfl) ?_
  refine lv_bipush (v := 8) hx hb dc7_67 (by decide +kernel) ?_
  refine bn_newa (cA0 := cy.1) 0 (a0 := (8, .inl (fun _ => 0))) (N' := 8) (atype := .int) (ty := .int) hx hb (hts (.arrayClass .int) (kw_g (kt_1 (List.mem_of_getElem? (i := 89) rfl)) rfl)) rfl hK rfl (Or.inl rfl) hP hD hS hA (fun _ => rfl) (by decide) (by decide +kernel) (Nat.le_of_ble_eq_true rfl) (Nat.le_of_ble_eq_true rfl) (Nat.le_of_ble_eq_true rfl) dc7_69 (fun q8 H hP hD hS => ?_)
  rw [List.append_assoc] at hP hD
  have hP : va_P D vwCl (ws.set k (h0, .inr (6, [.ref q1, .ref q2, .int 0, .int 0, .int 0, .int 0, .int 0, .long 0, .int 0, .ref q3, .ref q4, .ref q5, .ref q6, .ref q7, .null, .null, .int 0, .null, .null, .null, .null, .null, .int 0, .null, .null, .int 0, .null, .int 0, .int 0, .null])) ++ [(q1, .inl (cy.1, 212, .inl (fun _ => 0))), (q2, .inl (cy.1, 1060, .inl (fun _ => 0))), (q3, .inl (cy.2.1, 200, .inr (.inl (fun _ => 0)))), (q4, .inl (cy.1, 200, .inl (fun _ => 0))), (q5, .inl (cy.1, 1600, .inl (fun _ => 0))), (q6, .inl (cy.2.2.1, 200, .inl (fun _ => 0))), (q7, .inl (cy.2.1, 80, .inr (.inl (fun _ => 0)))), (q8, .inl (cy.1, 8, .inl (fun _ => 0)))]) H := hP
  have hD : va_D (fun q => z ≤ q) (ws.set k (h0, .inr (6, [.ref q1, .ref q2, .int 0, .int 0, .int 0, .int 0, .int 0, .long 0, .int 0, .ref q3, .ref q4, .ref q5, .ref q6, .ref q7, .null, .null, .int 0, .null, .null, .null, .null, .null, .int 0, .null, .null, .int 0, .null, .int 0, .int 0, .null])) ++ [(q1, .inl (cy.1, 212, .inl (fun _ => 0))), (q2, .inl (cy.1, 1060, .inl (fun _ => 0))), (q3, .inl (cy.2.1, 200, .inr (.inl (fun _ => 0)))), (q4, .inl (cy.1, 200, .inl (fun _ => 0))), (q5, .inl (cy.1, 1600, .inl (fun _ => 0))), (q6, .inl (cy.2.2.1, 200, .inl (fun _ => 0))), (q7, .inl (cy.2.1, 80, .inr (.inl (fun _ => 0)))), (q8, .inl (cy.1, 8, .inl (fun _ => 0)))]) := hD
  refine bn_put (oc := 7) (idx := 33) (x := 6) (y := 14) (v := .ref q8) (fs' := [.ref q1, .ref q2, .int 0, .int 0, .int 0, .int 0, .int 0, .long 0, .int 0, .ref q3, .ref q4, .ref q5, .ref q6, .ref q7, .ref q8, .null, .int 0, .null, .null, .null, .null, .null, .int 0, .null, .null, .int 0, .null, .int 0, .int 0, .null]) (ty := (.array .int)) hx hb hts hown hK hP hD hS hk (by decide) (by decide +kernel) (by decide) (Nat.le_of_ble_eq_true rfl) (Or.inr ⟨rfl, hin, rfl⟩) (by decide +kernel) rfl rfl rfl dc7_71 (fun H locs hP hD hS => ?_)
  refine lv_aload_n hx hb dc7_74 rfl (lv_at hl 0 rfl) ?_
  refine lv_bipush (v := 10) hx hb dc7_75 (by decide +kernel) ?_
  refine bn_newa (cA0 := cy.2.1) 1 (a0 := (10, .inr (.inl (fun _ => 0)))) (N' := 10) (atype := .long) (ty := .long) hx hb (hts (.arrayClass .long) (kw_g (kt_1 (List.mem_of_getElem? (i := 88) rfl)) rfl)) rfl hK rfl (Or.inr (Or.inl rfl)) hP hD hS hA (fun _ => rfl) (by decide) (by decide +kernel) (Nat.le_of_ble_eq_true rfl) (Nat.le_of_ble_eq_true rfl) (Nat.le_of_ble_eq_true rfl) dc7_77 (fun q9 H hP hD hS => ?_)
  rw [List.append_assoc] at hP hD
  have hP : va_P D vwCl (ws.set k (h0, .inr (6, [.ref q1, .ref q2, .int 0, .int 0, .int 0, .int 0, .int 0, .long 0, .int 0, .ref q3, .ref q4, .ref q5, .ref q6, .ref q7, .ref q8, .null, .int 0, .null, .null, .null, .null, .null, .int 0, .null, .null, .int 0, .null, .int 0, .int 0, .null])) ++ [(q1, .inl (cy.1, 212, .inl (fun _ => 0))), (q2, .inl (cy.1, 1060, .inl (fun _ => 0))), (q3, .inl (cy.2.1, 200, .inr (.inl (fun _ => 0)))), (q4, .inl (cy.1, 200, .inl (fun _ => 0))), (q5, .inl (cy.1, 1600, .inl (fun _ => 0))), (q6, .inl (cy.2.2.1, 200, .inl (fun _ => 0))), (q7, .inl (cy.2.1, 80, .inr (.inl (fun _ => 0)))), (q8, .inl (cy.1, 8, .inl (fun _ => 0))), (q9, .inl (cy.2.1, 10, .inr (.inl (fun _ => 0))))]) H := hP
  have hD : va_D (fun q => z ≤ q) (ws.set k (h0, .inr (6, [.ref q1, .ref q2, .int 0, .int 0, .int 0, .int 0, .int 0, .long 0, .int 0, .ref q3, .ref q4, .ref q5, .ref q6, .ref q7, .ref q8, .null, .int 0, .null, .null, .null, .null, .null, .int 0, .null, .null, .int 0, .null, .int 0, .int 0, .null])) ++ [(q1, .inl (cy.1, 212, .inl (fun _ => 0))), (q2, .inl (cy.1, 1060, .inl (fun _ => 0))), (q3, .inl (cy.2.1, 200, .inr (.inl (fun _ => 0)))), (q4, .inl (cy.1, 200, .inl (fun _ => 0))), (q5, .inl (cy.1, 1600, .inl (fun _ => 0))), (q6, .inl (cy.2.2.1, 200, .inl (fun _ => 0))), (q7, .inl (cy.2.1, 80, .inr (.inl (fun _ => 0)))), (q8, .inl (cy.1, 8, .inl (fun _ => 0))), (q9, .inl (cy.2.1, 10, .inr (.inl (fun _ => 0))))]) := hD
  refine bn_put (oc := 7) (idx := 36) (x := 6) (y := 15) (v := .ref q9) (fs' := [.ref q1, .ref q2, .int 0, .int 0, .int 0, .int 0, .int 0, .long 0, .int 0, .ref q3, .ref q4, .ref q5, .ref q6, .ref q7, .ref q8, .ref q9, .int 0, .null, .null, .null, .null, .null, .int 0, .null, .null, .int 0, .null, .int 0, .int 0, .null]) (ty := (.array .long)) hx hb hts hown hK hP hD hS hk (by decide) (by decide +kernel) (by decide) (Nat.le_of_ble_eq_true rfl) (Or.inr ⟨rfl, hin, rfl⟩) (by decide +kernel) rfl rfl rfl dc7_79 (fun H locs hP hD hS => ?_)
  refine lv_aload_n hx hb dc7_82 rfl (lv_at hl 0 rfl) ?_
  refine lv_sipush (v := 256) hx hb dc7_83 (by decide +kernel) ?_
  refine bn_newa (cA0 := cy.1) 0 (a0 := (256, .inl (fun _ => 0))) (N' := 256) (atype := .int) (ty := .int) hx hb (hts (.arrayClass .int) (kw_g (kt_1 (List.mem_of_getElem? (i := 89) rfl)) rfl)) rfl hK rfl (Or.inl rfl) hP hD hS hA (fun _ => rfl) (by decide) (by decide +kernel) (Nat.le_of_ble_eq_true rfl) (Nat.le_of_ble_eq_true rfl) (Nat.le_of_ble_eq_true rfl) dc7_86 (fun q10 H hP hD hS => ?_)
  rw [List.append_assoc] at hP hD
  have hP : va_P D vwCl (ws.set k (h0, .inr (6, [.ref q1, .ref q2, .int 0, .int 0, .int 0, .int 0, .int 0, .long 0, .int 0, .ref q3, .ref q4, .ref q5, .ref q6, .ref q7, .ref q8, .ref q9, .int 0, .null, .null, .null, .null, .null, .int 0, .null, .null, .int 0, .null, .int 0, .int 0, .null])) ++ [(q1, .inl (cy.1, 212, .inl (fun _ => 0))), (q2, .inl (cy.1, 1060, .inl (fun _ => 0))), (q3, .inl (cy.2.1, 200, .inr (.inl (fun _ => 0)))), (q4, .inl (cy.1, 200, .inl (fun _ => 0))), (q5, .inl (cy.1, 1600, .inl (fun _ => 0))), (q6, .inl (cy.2.2.1, 200, .inl (fun _ => 0))), (q7, .inl (cy.2.1, 80, .inr (.inl (fun _ => 0)))), (q8, .inl (cy.1, 8, .inl (fun _ => 0))), (q9, .inl (cy.2.1, 10, .inr (.inl (fun _ => 0)))), (q10, .inl (cy.1, 256, .inl (fun _ => 0)))]) H := hP
  have hD : va_D (fun q => z ≤ q) (ws.set k (h0, .inr (6, [.ref q1, .ref q2, .int 0, .int 0, .int 0, .int 0, .int 0, .long 0, .int 0, .ref q3, .ref q4, .ref q5, .ref q6, .ref q7, .ref q8, .ref q9, .int 0, .null, .null, .null, .null, .null, .int 0, .null, .null, .int 0, .null, .int 0, .int 0, .null])) ++ [(q1, .inl (cy.1, 212, .inl (fun _ => 0))), (q2, .inl (cy.1, 1060, .inl (fun _ => 0))), (q3, .inl (cy.2.1, 200, .inr (.inl (fun _ => 0)))), (q4, .inl (cy.1, 200, .inl (fun _ => 0))), (q5, .inl (cy.1, 1600, .inl (fun _ => 0))), (q6, .inl (cy.2.2.1, 200, .inl (fun _ => 0))), (q7, .inl (cy.2.1, 80, .inr (.inl (fun _ => 0)))), (q8, .inl (cy.1, 8, .inl (fun _ => 0))), (q9, .inl (cy.2.1, 10, .inr (.inl (fun _ => 0)))), (q10, .inl (cy.1, 256, .inl (fun _ => 0)))]) := hD
  refine bn_put (oc := 7) (idx := 39) (x := 6) (y := 17) (v := .ref q10) (fs' := [.ref q1, .ref q2, .int 0, .int 0, .int 0, .int 0, .int 0, .long 0, .int 0, .ref q3, .ref q4, .ref q5, .ref q6, .ref q7, .ref q8, .ref q9, .int 0, .ref q10, .null, .null, .null, .null, .int 0, .null, .null, .int 0, .null, .int 0, .int 0, .null]) (ty := (.array .int)) hx hb hts hown hK hP hD hS hk (by decide) (by decide +kernel) (by decide) (Nat.le_of_ble_eq_true rfl) (Or.inr ⟨rfl, hin, rfl⟩) (by decide +kernel) rfl rfl rfl dc7_88 (fun H locs hP hD hS => ?_)
  refine lv_aload_n hx hb dc7_91 rfl (lv_at hl 0 rfl) ?_
  refine lv_sipush (v := 2560) hx hb dc7_92 (by decide +kernel) ?_
  refine bn_newa (cA0 := cy.1) 0 (a0 := (2560, .inl (fun _ => 0))) (N' := 2560) (atype := .int) (ty := .int) hx hb (hts (.arrayClass .int) (kw_g (kt_1 (List.mem_of_getElem? (i := 89) rfl)) rfl)) rfl hK rfl (Or.inl rfl) hP hD hS hA (fun _ => rfl) (by decide) (by decide +kernel) (Nat.le_of_ble_eq_true rfl) (Nat.le_of_ble_eq_true rfl) (Nat.le_of_ble_eq_true rfl) dc7_95 (fun q11 H hP hD hS => ?_)
  rw [List.append_assoc] at hP hD
  have hP : va_P D vwCl (ws.set k (h0, .inr (6, [.ref q1, .ref q2, .int 0, .int 0, .int 0, .int 0, .int 0, .long 0, .int 0, .ref q3, .ref q4, .ref q5, .ref q6, .ref q7, .ref q8, .ref q9, .int 0, .ref q10, .null, .null, .null, .null, .int 0, .null, .null, .int 0, .null, .int 0, .int 0, .null])) ++ [(q1, .inl (cy.1, 212, .inl (fun _ => 0))), (q2, .inl (cy.1, 1060, .inl (fun _ => 0))), (q3, .inl (cy.2.1, 200, .inr (.inl (fun _ => 0)))), (q4, .inl (cy.1, 200, .inl (fun _ => 0))), (q5, .inl (cy.1, 1600, .inl (fun _ => 0))), (q6, .inl (cy.2.2.1, 200, .inl (fun _ => 0))), (q7, .inl (cy.2.1, 80, .inr (.inl (fun _ => 0)))), (q8, .inl (cy.1, 8, .inl (fun _ => 0))), (q9, .inl (cy.2.1, 10, .inr (.inl (fun _ => 0)))), (q10, .inl (cy.1, 256, .inl (fun _ => 0))), (q11, .inl (cy.1, 2560, .inl (fun _ => 0)))]) H := hP
  have hD : va_D (fun q => z ≤ q) (ws.set k (h0, .inr (6, [.ref q1, .ref q2, .int 0, .int 0, .int 0, .int 0, .int 0, .long 0, .int 0, .ref q3, .ref q4, .ref q5, .ref q6, .ref q7, .ref q8, .ref q9, .int 0, .ref q10, .null, .null, .null, .null, .int 0, .null, .null, .int 0, .null, .int 0, .int 0, .null])) ++ [(q1, .inl (cy.1, 212, .inl (fun _ => 0))), (q2, .inl (cy.1, 1060, .inl (fun _ => 0))), (q3, .inl (cy.2.1, 200, .inr (.inl (fun _ => 0)))), (q4, .inl (cy.1, 200, .inl (fun _ => 0))), (q5, .inl (cy.1, 1600, .inl (fun _ => 0))), (q6, .inl (cy.2.2.1, 200, .inl (fun _ => 0))), (q7, .inl (cy.2.1, 80, .inr (.inl (fun _ => 0)))), (q8, .inl (cy.1, 8, .inl (fun _ => 0))), (q9, .inl (cy.2.1, 10, .inr (.inl (fun _ => 0)))), (q10, .inl (cy.1, 256, .inl (fun _ => 0))), (q11, .inl (cy.1, 2560, .inl (fun _ => 0)))]) := hD
  refine bn_put (oc := 7) (idx := 42) (x := 6) (y := 18) (v := .ref q11) (fs' := [.ref q1, .ref q2, .int 0, .int 0, .int 0, .int 0, .int 0, .long 0, .int 0, .ref q3, .ref q4, .ref q5, .ref q6, .ref q7, .ref q8, .ref q9, .int 0, .ref q10, .ref q11, .null, .null, .null, .int 0, .null, .null, .int 0, .null, .int 0, .int 0, .null]) (ty := (.array .int)) hx hb hts hown hK hP hD hS hk (by decide) (by decide +kernel) (by decide) (Nat.le_of_ble_eq_true rfl) (Or.inr ⟨rfl, hin, rfl⟩) (by decide +kernel) rfl rfl rfl dc7_97 (fun H locs hP hD hS => ?_)
  refine lv_aload_n hx hb dc7_100 rfl (lv_at hl 0 rfl) ?_
  refine lv_bipush (v := 8) hx hb dc7_101 (by decide +kernel) ?_
  refine bn_newa (cA0 := cy.1) 0 (a0 := (8, .inl (fun _ => 0))) (N' := 8) (atype := .int) (ty := .int) hx hb (hts (.arrayClass .int) (kw_g (kt_1 (List.mem_of_getElem? (i := 89) rfl)) rfl)) rfl hK rfl (Or.inl rfl) hP hD hS hA (fun _ => rfl) (by decide) (by decide +kernel) (Nat.le_of_ble_eq_true rfl) (Nat.le_of_ble_eq_true rfl) (Nat.le_of_ble_eq_true rfl) dc7_103 (fun q12 H hP hD hS => ?_)
  rw [List.append_assoc] at hP hD
  have hP : va_P D vwCl (ws.set k (h0, .inr (6, [.ref q1, .ref q2, .int 0, .int 0, .int 0, .int 0, .int 0, .long 0, .int 0, .ref q3, .ref q4, .ref q5, .ref q6, .ref q7, .ref q8, .ref q9, .int 0, .ref q10, .ref q11, .null, .null, .null, .int 0, .null, .null, .int 0, .null, .int 0, .int 0, .null])) ++ [(q1, .inl (cy.1, 212, .inl (fun _ => 0))), (q2, .inl (cy.1, 1060, .inl (fun _ => 0))), (q3, .inl (cy.2.1, 200, .inr (.inl (fun _ => 0)))), (q4, .inl (cy.1, 200, .inl (fun _ => 0))), (q5, .inl (cy.1, 1600, .inl (fun _ => 0))), (q6, .inl (cy.2.2.1, 200, .inl (fun _ => 0))), (q7, .inl (cy.2.1, 80, .inr (.inl (fun _ => 0)))), (q8, .inl (cy.1, 8, .inl (fun _ => 0))), (q9, .inl (cy.2.1, 10, .inr (.inl (fun _ => 0)))), (q10, .inl (cy.1, 256, .inl (fun _ => 0))), (q11, .inl (cy.1, 2560, .inl (fun _ => 0))), (q12, .inl (cy.1, 8, .inl (fun _ => 0)))]) H := hP
  have hD : va_D (fun q => z ≤ q) (ws.set k (h0, .inr (6, [.ref q1, .ref q2, .int 0, .int 0, .int 0, .int 0, .int 0, .long 0, .int 0, .ref q3, .ref q4, .ref q5, .ref q6, .ref q7, .ref q8, .ref q9, .int 0, .ref q10, .ref q11, .null, .null, .null, .int 0, .null, .null, .int 0, .null, .int 0, .int 0, .null])) ++ [(q1, .inl (cy.1, 212, .inl (fun _ => 0))), (q2, .inl (cy.1, 1060, .inl (fun _ => 0))), (q3, .inl (cy.2.1, 200, .inr (.inl (fun _ => 0)))), (q4, .inl (cy.1, 200, .inl (fun _ => 0))), (q5, .inl (cy.1, 1600, .inl (fun _ => 0))), (q6, .inl (cy.2.2.1, 200, .inl (fun _ => 0))), (q7, .inl (cy.2.1, 80, .inr (.inl (fun _ => 0)))), (q8, .inl (cy.1, 8, .inl (fun _ => 0))), (q9, .inl (cy.2.1, 10, .inr (.inl (fun _ => 0)))), (q10, .inl (cy.1, 256, .inl (fun _ => 0))), (q11, .inl (cy.1, 2560, .inl (fun _ => 0))), (q12, .inl (cy.1, 8, .inl (fun _ => 0)))]) := hD
  refine bn_put (oc := 7) (idx := 45) (x := 6) (y := 19) (v := .ref q12) (fs' := [.ref q1, .ref q2, .int 0, .int 0, .int 0, .int 0, .int 0, .long 0, .int 0, .ref q3, .ref q4, .ref q5, .ref q6, .ref q7, .ref q8, .ref q9, .int 0, .ref q10, .ref q11, .ref q12, .null, .null, .int 0, .null, .null, .int 0, .null, .int 0, .int 0, .null]) (ty := (.array .int)) hx hb hts hown hK hP hD hS hk (by decide) (by decide +kernel) (by decide) (Nat.le_of_ble_eq_true rfl) (Or.inr ⟨rfl, hin, rfl⟩) (by decide +kernel) rfl rfl rfl dc7_105 (fun H locs hP hD hS => ?_)
  refine lv_aload_n hx hb dc7_108 rfl (lv_at hl 0 rfl) ?_
  refine lv_bipush (v := 8) hx hb dc7_109 (by decide +kernel) ?_
  refine bn_newa (cA0 := cy.1) 0 (a0 := (8, .inl (fun _ => 0))) (N' := 8) (atype := .int) (ty := .int) hx hb (hts (.arrayClass .int) (kw_g (kt_1 (List.mem_of_getElem? (i := 89) rfl)) rfl)) rfl hK rfl (Or.inl rfl) hP hD hS hA (fun _ => rfl) (by decide) (by decide +kernel) (Nat.le_of_ble_eq_true rfl) (Nat.le_of_ble_eq_true rfl) (Nat.le_of_ble_eq_true rfl) dc7_111 (fun q13 H hP hD hS => ?_)
  rw [List.append_assoc] at hP hD
  have hP : va_P D vwCl (ws.set k (h0, .inr (6, [.ref q1, .ref q2, .int 0, .int 0, .int 0, .int 0, .int 0, .long 0, .int 0, .ref q3, .ref q4, .ref q5, .ref q6, .ref q7, .ref q8, .ref q9, .int 0, .ref q10, .ref q11, .ref q12, .null, .null, .int 0, .null, .null, .int 0, .null, .int 0, .int 0, .null])) ++ [(q1, .inl (cy.1, 212, .inl (fun _ => 0))), (q2, .inl (cy.1, 1060, .inl (fun _ => 0))), (q3, .inl (cy.2.1, 200, .inr (.inl (fun _ => 0)))), (q4, .inl (cy.1, 200, .inl (fun _ => 0))), (q5, .inl (cy.1, 1600, .inl (fun _ => 0))), (q6, .inl (cy.2.2.1, 200, .inl (fun _ => 0))), (q7, .inl (cy.2.1, 80, .inr (.inl (fun _ => 0)))), (q8, .inl (cy.1, 8, .inl (fun _ => 0))), (q9, .inl (cy.2.1, 10, .inr (.inl (fun _ => 0)))), (q10, .inl (cy.1, 256, .inl (fun _ => 0))), (q11, .inl (cy.1, 2560, .inl (fun _ => 0))), (q12, .inl (cy.1, 8, .inl (fun _ => 0))), (q13, .inl (cy.1, 8, .inl (fun _ => 0)))]) H := hP
  have hD : va_D (fun q => z ≤ q) (ws.set k (h0, .inr (6, [.ref q1, .ref q2, .int 0, .int 0, .int 0, .int 0, .int 0, .long 0, .int 0, .ref q3, .ref q4, .ref q5, .ref q6, .ref q7, .ref q8, .ref q9, .int 0, .ref q10, .ref q11, .ref q12, .null, .null, .int 0, .null, .null, .int 0, .null, .int 0, .int 0, .null])) ++ [(q1, .inl (cy.1, 212, .inl (fun _ => 0))), (q2, .inl (cy.1, 1060, .inl (fun _ => 0))), (q3, .inl (cy.2.1, 200, .inr (.inl (fun _ => 0)))), (q4, .inl (cy.1, 200, .inl (fun _ => 0))), (q5, .inl (cy.1, 1600, .inl (fun _ => 0))), (q6, .inl (cy.2.2.1, 200, .inl (fun _ => 0))), (q7, .inl (cy.2.1, 80, .inr (.inl (fun _ => 0)))), (q8, .inl (cy.1, 8, .inl (fun _ => 0))), (q9, .inl (cy.2.1, 10, .inr (.inl (fun _ => 0)))), (q10, .inl (cy.1, 256, .inl (fun _ => 0))), (q11, .inl (cy.1, 2560, .inl (fun _ => 0))), (q12, .inl (cy.1, 8, .inl (fun _ => 0))), (q13, .inl (cy.1, 8, .inl (fun _ => 0)))]) := hD
  refine bn_put (oc := 7) (idx := 48) (x := 6) (y := 20) (v := .ref q13) (fs' := [.ref q1, .ref q2, .int 0, .int 0, .int 0, .int 0, .int 0, .long 0, .int 0, .ref q3, .ref q4, .ref q5, .ref q6, .ref q7, .ref q8, .ref q9, .int 0, .ref q10, .ref q11, .ref q12, .ref q13, .null, .int 0, .null, .null, .int 0, .null, .int 0, .int 0, .null]) (ty := (.array .int)) hx hb hts hown hK hP hD hS hk (by decide) (by decide +kernel) (by decide) (Nat.le_of_ble_eq_true rfl) (Or.inr ⟨rfl, hin, rfl⟩) (by decide +kernel) rfl rfl rfl dc7_113 (fun H locs hP hD hS => ?_)
  refine lv_aload_n hx hb dc7_116 rfl (lv_at hl 0 rfl) ?_
  refine lv_sipush (v := 1024) hx hb dc7_117 (by decide +kernel) ?_
  refine bn_newa (cA0 := cy.2.2.1) 2 (a0 := (1024, .inl (fun _ => 0))) (N' := 1024) (atype := .boolean) (ty := .boolean) hx hb (hts (.arrayClass .boolean) (kw_g (kt_4 (List.mem_of_getElem? (i := 189) rfl)) rfl)) rfl hK rfl (Or.inr (Or.inr rfl)) hP hD hS hA (fun _ => rfl) (by decide) (by decide +kernel) (Nat.le_of_ble_eq_true rfl) (Nat.le_of_ble_eq_true rfl) (Nat.le_of_ble_eq_true rfl) dc7_120 (fun q14 H hP hD hS => ?_)
  rw [List.append_assoc] at hP hD
  have hP : va_P D vwCl (ws.set k (h0, .inr (6, [.ref q1, .ref q2, .int 0, .int 0, .int 0, .int 0, .int 0, .long 0, .int 0, .ref q3, .ref q4, .ref q5, .ref q6, .ref q7, .ref q8, .ref q9, .int 0, .ref q10, .ref q11, .ref q12, .ref q13, .null, .int 0, .null, .null, .int 0, .null, .int 0, .int 0, .null])) ++ [(q1, .inl (cy.1, 212, .inl (fun _ => 0))), (q2, .inl (cy.1, 1060, .inl (fun _ => 0))), (q3, .inl (cy.2.1, 200, .inr (.inl (fun _ => 0)))), (q4, .inl (cy.1, 200, .inl (fun _ => 0))), (q5, .inl (cy.1, 1600, .inl (fun _ => 0))), (q6, .inl (cy.2.2.1, 200, .inl (fun _ => 0))), (q7, .inl (cy.2.1, 80, .inr (.inl (fun _ => 0)))), (q8, .inl (cy.1, 8, .inl (fun _ => 0))), (q9, .inl (cy.2.1, 10, .inr (.inl (fun _ => 0)))), (q10, .inl (cy.1, 256, .inl (fun _ => 0))), (q11, .inl (cy.1, 2560, .inl (fun _ => 0))), (q12, .inl (cy.1, 8, .inl (fun _ => 0))), (q13, .inl (cy.1, 8, .inl (fun _ => 0))), (q14, .inl (cy.2.2.1, 1024, .inl (fun _ => 0)))]) H := hP
  have hD : va_D (fun q => z ≤ q) (ws.set k (h0, .inr (6, [.ref q1, .ref q2, .int 0, .int 0, .int 0, .int 0, .int 0, .long 0, .int 0, .ref q3, .ref q4, .ref q5, .ref q6, .ref q7, .ref q8, .ref q9, .int 0, .ref q10, .ref q11, .ref q12, .ref q13, .null, .int 0, .null, .null, .int 0, .null, .int 0, .int 0, .null])) ++ [(q1, .inl (cy.1, 212, .inl (fun _ => 0))), (q2, .inl (cy.1, 1060, .inl (fun _ => 0))), (q3, .inl (cy.2.1, 200, .inr (.inl (fun _ => 0)))), (q4, .inl (cy.1, 200, .inl (fun _ => 0))), (q5, .inl (cy.1, 1600, .inl (fun _ => 0))), (q6, .inl (cy.2.2.1, 200, .inl (fun _ => 0))), (q7, .inl (cy.2.1, 80, .inr (.inl (fun _ => 0)))), (q8, .inl (cy.1, 8, .inl (fun _ => 0))), (q9, .inl (cy.2.1, 10, .inr (.inl (fun _ => 0)))), (q10, .inl (cy.1, 256, .inl (fun _ => 0))), (q11, .inl (cy.1, 2560, .inl (fun _ => 0))), (q12, .inl (cy.1, 8, .inl (fun _ => 0))), (q13, .inl (cy.1, 8, .inl (fun _ => 0))), (q14, .inl (cy.2.2.1, 1024, .inl (fun _ => 0)))]) := hD
  refine bn_put (oc := 7) (idx := 51) (x := 6) (y := 21) (v := .ref q14) (fs' := [.ref q1, .ref q2, .int 0, .int 0, .int 0, .int 0, .int 0, .long 0, .int 0, .ref q3, .ref q4, .ref q5, .ref q6, .ref q7, .ref q8, .ref q9, .int 0, .ref q10, .ref q11, .ref q12, .ref q13, .ref q14, .int 0, .null, .null, .int 0, .null, .int 0, .int 0, .null]) (ty := (.array .boolean)) hx hb hts hown hK hP hD hS hk (by decide) (by decide +kernel) (by decide) (Nat.le_of_ble_eq_true rfl) (Or.inr ⟨rfl, hin, rfl⟩) (by decide +kernel) rfl rfl rfl dc7_122 (fun H locs hP hD hS => ?_)
  refine lv_aload_n hx hb dc7_125 rfl (lv_at hl 0 rfl) ?_
  refine lv_sipush (v := 256) hx hb dc7_126 (by decide +kernel) ?_
  refine bn_newa (cA0 := cy.1) 0 (a0 := (256, .inl (fun _ => 0))) (N' := 256) (atype := .int) (ty := .int) hx hb (hts (.arrayClass .int) (kw_g (kt_1 (List.mem_of_getElem? (i := 89) rfl)) rfl)) rfl hK rfl (Or.inl rfl) hP hD hS hA (fun _ => rfl) (by decide) (by decide +kernel) (Nat.le_of_ble_eq_true rfl) (Nat.le_of_ble_eq_true rfl) (Nat.le_of_ble_eq_true rfl) dc7_129 (fun q15 H hP hD hS => ?_)
  rw [List.append_assoc] at hP hD
  have hP : va_P D vwCl (ws.set k (h0, .inr (6, [.ref q1, .ref q2, .int 0, .int 0, .int 0, .int 0, .int 0, .long 0, .int 0, .ref q3, .ref q4, .ref q5, .ref q6, .ref q7, .ref q8, .ref q9, .int 0, .ref q10, .ref q11, .ref q12, .ref q13, .ref q14, .int 0, .null, .null, .int 0, .null, .int 0, .int 0, .null])) ++ [(q1, .inl (cy.1, 212, .inl (fun _ => 0))), (q2, .inl (cy.1, 1060, .inl (fun _ => 0))), (q3, .inl (cy.2.1, 200, .inr (.inl (fun _ => 0)))), (q4, .inl (cy.1, 200, .inl (fun _ => 0))), (q5, .inl (cy.1, 1600, .inl (fun _ => 0))), (q6, .inl (cy.2.2.1, 200, .inl (fun _ => 0))), (q7, .inl (cy.2.1, 80, .inr (.inl (fun _ => 0)))), (q8, .inl (cy.1, 8, .inl (fun _ => 0))), (q9, .inl (cy.2.1, 10, .inr (.inl (fun _ => 0)))), (q10, .inl (cy.1, 256, .inl (fun _ => 0))), (q11, .inl (cy.1, 2560, .inl (fun _ => 0))), (q12, .inl (cy.1, 8, .inl (fun _ => 0))), (q13, .inl (cy.1, 8, .inl (fun _ => 0))), (q14, .inl (cy.2.2.1, 1024, .inl (fun _ => 0))), (q15, .inl (cy.1, 256, .inl (fun _ => 0)))]) H := hP
  have hD : va_D (fun q => z ≤ q) (ws.set k (h0, .inr (6, [.ref q1, .ref q2, .int 0, .int 0, .int 0, .int 0, .int 0, .long 0, .int 0, .ref q3, .ref q4, .ref q5, .ref q6, .ref q7, .ref q8, .ref q9, .int 0, .ref q10, .ref q11, .ref q12, .ref q13, .ref q14, .int 0, .null, .null, .int 0, .null, .int 0, .int 0, .null])) ++ [(q1, .inl (cy.1, 212, .inl (fun _ => 0))), (q2, .inl (cy.1, 1060, .inl (fun _ => 0))), (q3, .inl (cy.2.1, 200, .inr (.inl (fun _ => 0)))), (q4, .inl (cy.1, 200, .inl (fun _ => 0))), (q5, .inl (cy.1, 1600, .inl (fun _ => 0))), (q6, .inl (cy.2.2.1, 200, .inl (fun _ => 0))), (q7, .inl (cy.2.1, 80, .inr (.inl (fun _ => 0)))), (q8, .inl (cy.1, 8, .inl (fun _ => 0))), (q9, .inl (cy.2.1, 10, .inr (.inl (fun _ => 0)))), (q10, .inl (cy.1, 256, .inl (fun _ => 0))), (q11, .inl (cy.1, 2560, .inl (fun _ => 0))), (q12, .inl (cy.1, 8, .inl (fun _ => 0))), (q13, .inl (cy.1, 8, .inl (fun _ => 0))), (q14, .inl (cy.2.2.1, 1024, .inl (fun _ => 0))), (q15, .inl (cy.1, 256, .inl (fun _ => 0)))]) := hD
  refine bn_put (oc := 7) (idx := 54) (x := 6) (y := 23) (v := .ref q15) (fs' := [.ref q1, .ref q2, .int 0, .int 0, .int 0, .int 0, .int 0, .long 0, .int 0, .ref q3, .ref q4, .ref q5, .ref q6, .ref q7, .ref q8, .ref q9, .int 0, .ref q10, .ref q11, .ref q12, .ref q13, .ref q14, .int 0, .ref q15, .null, .int 0, .null, .int 0, .int 0, .null]) (ty := (.array .int)) hx hb hts hown hK hP hD hS hk (by decide) (by decide +kernel) (by decide) (Nat.le_of_ble_eq_true rfl) (Or.inr ⟨rfl, hin, rfl⟩) (by decide +kernel) rfl rfl rfl dc7_131 (fun H locs hP hD hS => ?_)
  refine lv_aload_n hx hb dc7_134 rfl (lv_at hl 0 rfl) ?_
  refine lv_sipush (v := 200) hx hb dc7_135 (by decide +kernel) ?_
  refine bn_newa (cA0 := cy.1) 0 (a0 := (200, .inl (fun _ => 0))) (N' := 200) (atype := .int) (ty := .int) hx hb (hts (.arrayClass .int) (kw_g (kt_1 (List.mem_of_getElem? (i := 89) rfl)) rfl)) rfl hK rfl (Or.inl rfl) hP hD hS hA (fun _ => rfl) (by decide) (by decide +kernel) (Nat.le_of_ble_eq_true rfl) (Nat.le_of_ble_eq_true rfl) (Nat.le_of_ble_eq_true rfl) dc7_138 (fun q16 H hP hD hS => ?_)
  rw [List.append_assoc] at hP hD
  have hP : va_P D vwCl (ws.set k (h0, .inr (6, [.ref q1, .ref q2, .int 0, .int 0, .int 0, .int 0, .int 0, .long 0, .int 0, .ref q3, .ref q4, .ref q5, .ref q6, .ref q7, .ref q8, .ref q9, .int 0, .ref q10, .ref q11, .ref q12, .ref q13, .ref q14, .int 0, .ref q15, .null, .int 0, .null, .int 0, .int 0, .null])) ++ [(q1, .inl (cy.1, 212, .inl (fun _ => 0))), (q2, .inl (cy.1, 1060, .inl (fun _ => 0))), (q3, .inl (cy.2.1, 200, .inr (.inl (fun _ => 0)))), (q4, .inl (cy.1, 200, .inl (fun _ => 0))), (q5, .inl (cy.1, 1600, .inl (fun _ => 0))), (q6, .inl (cy.2.2.1, 200, .inl (fun _ => 0))), (q7, .inl (cy.2.1, 80, .inr (.inl (fun _ => 0)))), (q8, .inl (cy.1, 8, .inl (fun _ => 0))), (q9, .inl (cy.2.1, 10, .inr (.inl (fun _ => 0)))), (q10, .inl (cy.1, 256, .inl (fun _ => 0))), (q11, .inl (cy.1, 2560, .inl (fun _ => 0))), (q12, .inl (cy.1, 8, .inl (fun _ => 0))), (q13, .inl (cy.1, 8, .inl (fun _ => 0))), (q14, .inl (cy.2.2.1, 1024, .inl (fun _ => 0))), (q15, .inl (cy.1, 256, .inl (fun _ => 0))), (q16, .inl (cy.1, 200, .inl (fun _ => 0)))]) H := hP
  have hD : va_D (fun q => z ≤ q) (ws.set k (h0, .inr (6, [.ref q1, .ref q2, .int 0, .int 0, .int 0, .int 0, .int 0, .long 0, .int 0, .ref q3, .ref q4, .ref q5, .ref q6, .ref q7, .ref q8, .ref q9, .int 0, .ref q10, .ref q11, .ref q12, .ref q13, .ref q14, .int 0, .ref q15, .null, .int 0, .null, .int 0, .int 0, .null])) ++ [(q1, .inl (cy.1, 212, .inl (fun _ => 0))), (q2, .inl (cy.1, 1060, .inl (fun _ => 0))), (q3, .inl (cy.2.1, 200, .inr (.inl (fun _ => 0)))), (q4, .inl (cy.1, 200, .inl (fun _ => 0))), (q5, .inl (cy.1, 1600, .inl (fun _ => 0))), (q6, .inl (cy.2.2.1, 200, .inl (fun _ => 0))), (q7, .inl (cy.2.1, 80, .inr (.inl (fun _ => 0)))), (q8, .inl (cy.1, 8, .inl (fun _ => 0))), (q9, .inl (cy.2.1, 10, .inr (.inl (fun _ => 0)))), (q10, .inl (cy.1, 256, .inl (fun _ => 0))), (q11, .inl (cy.1, 2560, .inl (fun _ => 0))), (q12, .inl (cy.1, 8, .inl (fun _ => 0))), (q13, .inl (cy.1, 8, .inl (fun _ => 0))), (q14, .inl (cy.2.2.1, 1024, .inl (fun _ => 0))), (q15, .inl (cy.1, 256, .inl (fun _ => 0))), (q16, .inl (cy.1, 200, .inl (fun _ => 0)))]) := hD
  refine bn_put (oc := 7) (idx := 57) (x := 6) (y := 24) (v := .ref q16) (fs' := [.ref q1, .ref q2, .int 0, .int 0, .int 0, .int 0, .int 0, .long 0, .int 0, .ref q3, .ref q4, .ref q5, .ref q6, .ref q7, .ref q8, .ref q9, .int 0, .ref q10, .ref q11, .ref q12, .ref q13, .ref q14, .int 0, .ref q15, .ref q16, .int 0, .null, .int 0, .int 0, .null]) (ty := (.array .int)) hx hb hts hown hK hP hD hS hk (by decide) (by decide +kernel) (by decide) (Nat.le_of_ble_eq_true rfl) (Or.inr ⟨rfl, hin, rfl⟩) (by decide +kernel) rfl rfl rfl dc7_140 (fun H locs hP hD hS => ?_)
  refine lv_aload_n hx hb dc7_143 rfl (lv_at hl 0 rfl) ?_
  refine lv_bipush (v := 120) hx hb dc7_144 (by decide +kernel) ?_
  refine bn_newa (cA0 := cy.1) 0 (a0 := (120, .inl (fun _ => 0))) (N' := 120) (atype := .int) (ty := .int) hx hb (hts (.arrayClass .int) (kw_g (kt_1 (List.mem_of_getElem? (i := 89) rfl)) rfl)) rfl hK rfl (Or.inl rfl) hP hD hS hA (fun _ => rfl) (by decide) (by decide +kernel) (Nat.le_of_ble_eq_true rfl) (Nat.le_of_ble_eq_true rfl) (Nat.le_of_ble_eq_true rfl) dc7_146 (fun q17 H hP hD hS => ?_)
  rw [List.append_assoc] at hP hD
  have hP : va_P D vwCl (ws.set k (h0, .inr (6, [.ref q1, .ref q2, .int 0, .int 0, .int 0, .int 0, .int 0, .long 0, .int 0, .ref q3, .ref q4, .ref q5, .ref q6, .ref q7, .ref q8, .ref q9, .int 0, .ref q10, .ref q11, .ref q12, .ref q13, .ref q14, .int 0, .ref q15, .ref q16, .int 0, .null, .int 0, .int 0, .null])) ++ [(q1, .inl (cy.1, 212, .inl (fun _ => 0))), (q2, .inl (cy.1, 1060, .inl (fun _ => 0))), (q3, .inl (cy.2.1, 200, .inr (.inl (fun _ => 0)))), (q4, .inl (cy.1, 200, .inl (fun _ => 0))), (q5, .inl (cy.1, 1600, .inl (fun _ => 0))), (q6, .inl (cy.2.2.1, 200, .inl (fun _ => 0))), (q7, .inl (cy.2.1, 80, .inr (.inl (fun _ => 0)))), (q8, .inl (cy.1, 8, .inl (fun _ => 0))), (q9, .inl (cy.2.1, 10, .inr (.inl (fun _ => 0)))), (q10, .inl (cy.1, 256, .inl (fun _ => 0))), (q11, .inl (cy.1, 2560, .inl (fun _ => 0))), (q12, .inl (cy.1, 8, .inl (fun _ => 0))), (q13, .inl (cy.1, 8, .inl (fun _ => 0))), (q14, .inl (cy.2.2.1, 1024, .inl (fun _ => 0))), (q15, .inl (cy.1, 256, .inl (fun _ => 0))), (q16, .inl (cy.1, 200, .inl (fun _ => 0))), (q17, .inl (cy.1, 120, .inl (fun _ => 0)))]) H := hP
  have hD : va_D (fun q => z ≤ q) (ws.set k (h0, .inr (6, [.ref q1, .ref q2, .int 0, .int 0, .int 0, .int 0, .int 0, .long 0, .int 0, .ref q3, .ref q4, .ref q5, .ref q6, .ref q7, .ref q8, .ref q9, .int 0, .ref q10, .ref q11, .ref q12, .ref q13, .ref q14, .int 0, .ref q15, .ref q16, .int 0, .null, .int 0, .int 0, .null])) ++ [(q1, .inl (cy.1, 212, .inl (fun _ => 0))), (q2, .inl (cy.1, 1060, .inl (fun _ => 0))), (q3, .inl (cy.2.1, 200, .inr (.inl (fun _ => 0)))), (q4, .inl (cy.1, 200, .inl (fun _ => 0))), (q5, .inl (cy.1, 1600, .inl (fun _ => 0))), (q6, .inl (cy.2.2.1, 200, .inl (fun _ => 0))), (q7, .inl (cy.2.1, 80, .inr (.inl (fun _ => 0)))), (q8, .inl (cy.1, 8, .inl (fun _ => 0))), (q9, .inl (cy.2.1, 10, .inr (.inl (fun _ => 0)))), (q10, .inl (cy.1, 256, .inl (fun _ => 0))), (q11, .inl (cy.1, 2560, .inl (fun _ => 0))), (q12, .inl (cy.1, 8, .inl (fun _ => 0))), (q13, .inl (cy.1, 8, .inl (fun _ => 0))), (q14, .inl (cy.2.2.1, 1024, .inl (fun _ => 0))), (q15, .inl (cy.1, 256, .inl (fun _ => 0))), (q16, .inl (cy.1, 200, .inl (fun _ => 0))), (q17, .inl (cy.1, 120, .inl (fun _ => 0)))]) := hD
  refine bn_put (oc := 7) (idx := 60) (x := 6) (y := 26) (v := .ref q17) (fs' := [.ref q1, .ref q2, .int 0, .int 0, .int 0, .int 0, .int 0, .long 0, .int 0, .ref q3, .ref q4, .ref q5, .ref q6, .ref q7, .ref q8, .ref q9, .int 0, .ref q10, .ref q11, .ref q12, .ref q13, .ref q14, .int 0, .ref q15, .ref q16, .int 0, .ref q17, .int 0, .int 0, .null]) (ty := (.array .int)) hx hb hts hown hK hP hD hS hk (by decide) (by decide +kernel) (by decide) (Nat.le_of_ble_eq_true rfl) (Or.inr ⟨rfl, hin, rfl⟩) (by decide +kernel) rfl rfl rfl dc7_148 (fun H locs hP hD hS => ?_)
  refine lv_aload_n hx hb dc7_151 rfl (lv_at hl 0 rfl) ?_
  refine lv_sipush (v := 212) hx hb dc7_152 (by decide +kernel) ?_
  refine bn_newa (cA0 := cy.1) 0 (a0 := (212, .inl (fun _ => 0))) (N' := 212) (atype := .int) (ty := .int) hx hb (hts (.arrayClass .int) (kw_g (kt_1 (List.mem_of_getElem? (i := 89) rfl)) rfl)) rfl hK rfl (Or.inl rfl) hP hD hS hA (fun _ => rfl) (by decide) (by decide +kernel) (Nat.le_of_ble_eq_true rfl) (Nat.le_of_ble_eq_true rfl) (Nat.le_of_ble_eq_true rfl) dc7_155 (fun q18 H hP hD hS => ?_)
  rw [List.append_assoc] at hP hD
  have hP : va_P D vwCl (ws.set k (h0, .inr (6, [.ref q1, .ref q2, .int 0, .int 0, .int 0, .int 0, .int 0, .long 0, .int 0, .ref q3, .ref q4, .ref q5, .ref q6, .ref q7, .ref q8, .ref q9, .int 0, .ref q10, .ref q11, .ref q12, .ref q13, .ref q14, .int 0, .ref q15, .ref q16, .int 0, .ref q17, .int 0, .int 0, .null])) ++ [(q1, .inl (cy.1, 212, .inl (fun _ => 0))), (q2, .inl (cy.1, 1060, .inl (fun _ => 0))), (q3, .inl (cy.2.1, 200, .inr (.inl (fun _ => 0)))), (q4, .inl (cy.1, 200, .inl (fun _ => 0))), (q5, .inl (cy.1, 1600, .inl (fun _ => 0))), (q6, .inl (cy.2.2.1, 200, .inl (fun _ => 0))), (q7, .inl (cy.2.1, 80, .inr (.inl (fun _ => 0)))), (q8, .inl (cy.1, 8, .inl (fun _ => 0))), (q9, .inl (cy.2.1, 10, .inr (.inl (fun _ => 0)))), (q10, .inl (cy.1, 256, .inl (fun _ => 0))), (q11, .inl (cy.1, 2560, .inl (fun _ => 0))), (q12, .inl (cy.1, 8, .inl (fun _ => 0))), (q13, .inl (cy.1, 8, .inl (fun _ => 0))), (q14, .inl (cy.2.2.1, 1024, .inl (fun _ => 0))), (q15, .inl (cy.1, 256, .inl (fun _ => 0))), (q16, .inl (cy.1, 200, .inl (fun _ => 0))), (q17, .inl (cy.1, 120, .inl (fun _ => 0))), (q18, .inl (cy.1, 212, .inl (fun _ => 0)))]) H := hP
  have hD : va_D (fun q => z ≤ q) (ws.set k (h0, .inr (6, [.ref q1, .ref q2, .int 0, .int 0, .int 0, .int 0, .int 0, .long 0, .int 0, .ref q3, .ref q4, .ref q5, .ref q6, .ref q7, .ref q8, .ref q9, .int 0, .ref q10, .ref q11, .ref q12, .ref q13, .ref q14, .int 0, .ref q15, .ref q16, .int 0, .ref q17, .int 0, .int 0, .null])) ++ [(q1, .inl (cy.1, 212, .inl (fun _ => 0))), (q2, .inl (cy.1, 1060, .inl (fun _ => 0))), (q3, .inl (cy.2.1, 200, .inr (.inl (fun _ => 0)))), (q4, .inl (cy.1, 200, .inl (fun _ => 0))), (q5, .inl (cy.1, 1600, .inl (fun _ => 0))), (q6, .inl (cy.2.2.1, 200, .inl (fun _ => 0))), (q7, .inl (cy.2.1, 80, .inr (.inl (fun _ => 0)))), (q8, .inl (cy.1, 8, .inl (fun _ => 0))), (q9, .inl (cy.2.1, 10, .inr (.inl (fun _ => 0)))), (q10, .inl (cy.1, 256, .inl (fun _ => 0))), (q11, .inl (cy.1, 2560, .inl (fun _ => 0))), (q12, .inl (cy.1, 8, .inl (fun _ => 0))), (q13, .inl (cy.1, 8, .inl (fun _ => 0))), (q14, .inl (cy.2.2.1, 1024, .inl (fun _ => 0))), (q15, .inl (cy.1, 256, .inl (fun _ => 0))), (q16, .inl (cy.1, 200, .inl (fun _ => 0))), (q17, .inl (cy.1, 120, .inl (fun _ => 0))), (q18, .inl (cy.1, 212, .inl (fun _ => 0)))]) := hD
  refine bn_put (oc := 7) (idx := 63) (x := 6) (y := 29) (v := .ref q18) (fs' := [.ref q1, .ref q2, .int 0, .int 0, .int 0, .int 0, .int 0, .long 0, .int 0, .ref q3, .ref q4, .ref q5, .ref q6, .ref q7, .ref q8, .ref q9, .int 0, .ref q10, .ref q11, .ref q12, .ref q13, .ref q14, .int 0, .ref q15, .ref q16, .int 0, .ref q17, .int 0, .int 0, .ref q18]) (ty := (.array .int)) hx hb hts hown hK hP hD hS hk (by decide) (by decide +kernel) (by decide) (Nat.le_of_ble_eq_true rfl) (Or.inr ⟨rfl, hin, rfl⟩) (by decide +kernel) rfl rfl rfl dc7_157 (fun H locs hP hD hS => ?_)
  exact W.vret hx hb hr (fun t ht hW => ⟨⟨_, rfl, ⟨q1, q2, q3, q4, q5, q6, q7, q8, q9, q10, q11, q12, q13, q14, q15, q16, q17, q18, rfl⟩, by rw [ht]; exact hP, hD⟩, hS.F ht⟩) hS.2.2 dc7_160
