/-! THE CLASS'S OWN CONSTRUCTOR (printed by wip/whole/gen/ctor2.py) -/
theorem bw1 {W0 : va_W} {x : Nat × va_E} : (W0 ++ [x])[W0.length]? = some x := by
  rw [List.getElem?_append_right (Nat.le_refl _), Nat.sub_self]
  rfl
theorem bw2 {W0 r : va_W} {x y : Nat × va_E} : (W0 ++ [x]).set W0.length y ++ r = W0 ++ (y :: r) := by
  rw [List.set_append_right _ _ (Nat.le_refl _), Nat.sub_self, List.append_assoc]
  rfl
def ofB (b : (Nat × va_E) × va_W) : va_W := b.1 :: b.2
theorem gdI {y : MethodName} {cb : ByteArray} {n : Nat} (h : Cond.code y cb n none ∈ kw_gd) : GoodIn kw_gd (Cond.code y cb n none :: kw_gd) := fun w hw => (List.mem_cons.mp hw).elim (fun e => e ▸ kw_good _ h) (kw_good w)
def blSt (cy : kv_Y) (v : Nat → Nat) : (Nat × va_E) × va_W := ((v 0, .inr (4, [.int 0, .int 0, .int 0, .int 0, .long 0, .long 0, .long 0, .ref (v 1), .ref (v 2), .ref (v 3), .ref (v 4), .ref (v 5)])), [((v 1), .inl (cy.2.1, 8, .inr (.inl (fun _ => 0)))), ((v 2), .inl (cy.2.1, 8, .inr (.inl (fun _ => 0)))), ((v 3), .inl (cy.1, 8, .inl (fun _ => 0))), ((v 4), .inl (cy.1, 5, .inl (fun _ => 0))), ((v 5), .inl (cy.1, 5, .inl (fun _ => 0)))])
theorem ptSt_v {cy : kv_Y} {ws ws' : va_W} {k h0 : Nat} (h : ptSt cy ws k h0 ws') : ∃ v : Nat → Nat, v 0 = h0 ∧ ws' = ws.set k (blSt cy v).1 ++ (blSt cy v).2 := by
  obtain ⟨q1, q2, q3, q4, q5, e⟩ := h
  exact ⟨fun i => [h0, q1, q2, q3, q4, q5].getD i 0, rfl, e⟩
def blSe (cy : kv_Y) (v : Nat → Nat) : (Nat × va_E) × va_W := ((v 0, .inr (2, [.ref (v 1), .ref (v 2), .ref (v 3), .int 0, .ref (v 4), .ref (v 5), .int 0])), [((v 1), .inl (cy.2.1, 200, .inr (.inl (fun _ => 0)))), ((v 2), .inl (cy.1, 200, .inl (fun _ => 0))), ((v 3), .inl (cy.1, 200, .inl (fun _ => 0))), ((v 4), .inl (cy.1, 1600, .inl (fun _ => 0))), ((v 5), .inl (cy.1, 512, .inl (fun _ => 0)))])
theorem ptSe_v {cy : kv_Y} {ws ws' : va_W} {k h0 : Nat} (h : ptSe cy ws k h0 ws') : ∃ v : Nat → Nat, v 0 = h0 ∧ ws' = ws.set k (blSe cy v).1 ++ (blSe cy v).2 := by
  obtain ⟨q1, q2, q3, q4, q5, e⟩ := h
  exact ⟨fun i => [h0, q1, q2, q3, q4, q5].getD i 0, rfl, e⟩
def blSi (cy : kv_Y) (v : Nat → Nat) : (Nat × va_E) × va_W := ((v 0, .inr (3, [.int 0, .ref (v 1), .ref (v 2), .int 0, .ref (v 3), .ref (v 4)])), [((v 1), .inl (cy.1, 252, .inl (fun _ => 0))), ((v 2), .inl (cy.1, 252, .inl (fun _ => 0))), ((v 3), .inl (cy.1, 8, .inl (fun _ => 0))), ((v 4), .inl (cy.1, 8, .inl (fun _ => 0)))])
theorem ptSi_v {cy : kv_Y} {ws ws' : va_W} {k h0 : Nat} (h : ptSi cy ws k h0 ws') : ∃ v : Nat → Nat, v 0 = h0 ∧ ws' = ws.set k (blSi cy v).1 ++ (blSi cy v).2 := by
  obtain ⟨q1, q2, q3, q4, e⟩ := h
  exact ⟨fun i => [h0, q1, q2, q3, q4].getD i 0, rfl, e⟩
def blRd (cy : kv_Y) (v : Nat → Nat) : (Nat × va_E) × va_W := ((v 0, .inr (1, [.ref (v 1), .int 0, .int (-1), .int 0, .ref (v 2)])), [((v 1), .inl (cy.1, 120, .inl (fun _ => 0))), ((v 2), .inl (cy.1, 4, .inl (fun _ => 0)))])
theorem ptRd_v {cy : kv_Y} {ws ws' : va_W} {k h0 : Nat} (h : ptRd cy ws k h0 ws') : ∃ v : Nat → Nat, v 0 = h0 ∧ ws' = ws.set k (blRd cy v).1 ++ (blRd cy v).2 := by
  obtain ⟨q1, q2, e⟩ := h
  exact ⟨fun i => [h0, q1, q2].getD i 0, rfl, e⟩
def blIv (cy : kv_Y) (v : Nat → Nat) : (Nat × va_E) × va_W := ((v 0, .inr (0, [.int 0, .ref (v 1), .ref (v 2), .int 0, .ref (v 3), .ref (v 4), .ref (v 5)])), ((((([] ++ [((v 1), .inl (cy.1, 64, .inl (fun _ => 0)))]) ++ bgr cy (v 2) 64 10) ++ [((v 3), .inl (cy.1, 64, .inl (fun _ => 0)))]) ++ bgr cy (v 4) 64 10) ++ [((v 5), .inl (cy.2.1, 64, .inr (.inl (fun _ => 0))))]))
theorem ptIv_v {cy : kv_Y} {ws ws' : va_W} {k h0 : Nat} (h : ptIv cy ws k h0 ws') : ∃ v : Nat → Nat, v 0 = h0 ∧ ws' = ws.set k (blIv cy v).1 ++ (blIv cy v).2 := by
  obtain ⟨q1, g2, q3, g4, q5, e⟩ := h
  exact ⟨fun i => [h0, q1, g2, q3, g4, q5].getD i 0, rfl, e⟩
def blMd (cy : kv_Y) (v : Nat → Nat) : (Nat × va_E) × va_W := ((v 0, .inr (6, [.ref (v 1), .ref (v 2), .int 0, .int 0, .int 0, .int 0, .int 0, .long 0, .int 0, .ref (v 3), .ref (v 4), .ref (v 5), .ref (v 6), .ref (v 7), .ref (v 8), .ref (v 9), .int 0, .ref (v 10), .ref (v 11), .ref (v 12), .ref (v 13), .ref (v 14), .int 0, .ref (v 15), .ref (v 16), .int 0, .ref (v 17), .int 0, .int 0, .ref (v 18)])), [((v 1), .inl (cy.1, 212, .inl (fun _ => 0))), ((v 2), .inl (cy.1, 1060, .inl (fun _ => 0))), ((v 3), .inl (cy.2.1, 200, .inr (.inl (fun _ => 0)))), ((v 4), .inl (cy.1, 200, .inl (fun _ => 0))), ((v 5), .inl (cy.1, 1600, .inl (fun _ => 0))), ((v 6), .inl (cy.2.2.1, 200, .inl (fun _ => 0))), ((v 7), .inl (cy.2.1, 80, .inr (.inl (fun _ => 0)))), ((v 8), .inl (cy.1, 8, .inl (fun _ => 0))), ((v 9), .inl (cy.2.1, 10, .inr (.inl (fun _ => 0)))), ((v 10), .inl (cy.1, 256, .inl (fun _ => 0))), ((v 11), .inl (cy.1, 2560, .inl (fun _ => 0))), ((v 12), .inl (cy.1, 8, .inl (fun _ => 0))), ((v 13), .inl (cy.1, 8, .inl (fun _ => 0))), ((v 14), .inl (cy.2.2.1, 1024, .inl (fun _ => 0))), ((v 15), .inl (cy.1, 256, .inl (fun _ => 0))), ((v 16), .inl (cy.1, 200, .inl (fun _ => 0))), ((v 17), .inl (cy.1, 120, .inl (fun _ => 0))), ((v 18), .inl (cy.1, 212, .inl (fun _ => 0)))])
theorem ptMd_v {cy : kv_Y} {ws ws' : va_W} {k h0 : Nat} (h : ptMd cy ws k h0 ws') : ∃ v : Nat → Nat, v 0 = h0 ∧ ws' = ws.set k (blMd cy v).1 ++ (blMd cy v).2 := by
  obtain ⟨q1, q2, q3, q4, q5, q6, q7, q8, q9, q10, q11, q12, q13, q14, q15, q16, q17, q18, e⟩ := h
  exact ⟨fun i => [h0, q1, q2, q3, q4, q5, q6, q7, q8, q9, q10, q11, q12, q13, q14, q15, q16, q17, q18].getD i 0, rfl, e⟩
section MAKE
variable {p : Program} {l : Launch} {e : Env} {R : Room} {s : State} {m : MethodId} {args : Array Value} {below : List Frame} {meth : Method} {c : Code} {H H0 : Heap} {locs : List Loc} {cells slots : Nat} {Q : State → Prop}
variable {D : va_G} {cy : kv_Y} {W0 : va_W} {cc : ByteArray} {pc : Nat} {ls : Array Slot} {rest : List Value}
/-- a new object and its constructor -/
theorem bn_make {oc x N iN iI mc ms nL z : Nat} {y : MethodName} {cb : ByteArray} {rm : Room} {fs : List Value} {pt : va_W → Nat → Nat → va_W → Prop} {bl : (Nat → Nat) → (Nat × va_E) × va_W} (hx : p.tables.exec = Jvm.exec) (hb : c.code = cc) (hml : c.maxLocals = nL) (hts : ∀ w ∈ kw_gd, w.before args s = true) (hown : s.vm.findClass (kn_o oc) = some m.cls) (hU : kx_U D cy s) (hP : va_P D vwCl W0 H) (hD : va_D (fun q => z ≤ q) W0) (hS : va_S (fun q => z ≤ q) H0 H locs) (hz : z ≤ H0.size) (hx7 : x < 7) (hN : N = (kn_at x).2.2) (hfs : ∀ j, j < (kn_at x).2.2 → defaultValue (kv_ty x j) = vp_V fs j)
    (hcl : Cond.classLink (kn_o oc) iN (kn_at x).1 ∈ kw_gd) (hins : Cond.instantiable (kn_at x).1 (kn_at x).2.2 ∈ kw_gd) (hini : Cond.initialized (kn_at x).1 ∈ kw_gd) (hcode : Cond.code y cb 1 none ∈ kw_gd) (him : Cond.instanceMethod y ∈ kw_gd) (hnw : va_Nw (.methodLinkNest (kn_o oc) iI y RX6) s) (hy : y.cls = (kn_at x).1) (hy1 : y.name = "<init>") (hy2 : y.cls ≠ "java/lang/invoke/MethodHandle" ∧ y.cls ≠ "java/lang/invoke/VarHandle" ∧ (parseMethodDescriptor y.desc).map (fun d => d.parameters.length) = some 0)
    (hM : ∀ (ws : va_W) (k h0 : Nat), ws[k]? = some (h0, .inr (x, fs)) → Met l y (Cond.code y cb 1 none :: kw_gd) rm (bz_Pc D cy z ws h0) (bz_Qc D z (pt ws k h0)) mc ms (fun q => z ≤ q)) (hpt : ∀ (ws : va_W) (k h0 : Nat) (ws' : va_W), pt ws k h0 ws' → ∃ v : Nat → Nat, v 0 = h0 ∧ ws' = ws.set k (bl v).1 ++ (bl v).2) (hrc : rm.cells = mc) (hrs : rm.slots = ms) (hR : rm.frames + 1 ≤ R.frames ∧ 8 + (1 + 11) + rm.locals ≤ R.locals) (hc1 : cells + 1 + mc ≤ R.cells) (hc2 : slots + N + ms ≤ R.slots) (hls : ls.size = nL) (hrest : (((Value.ref 0 :: rest).map fun v => v.category).sum) ≤ 8)
    (hd1 : decode cc pc = .ok (.new iN, 3)) (hd2 : decode cc (pc + 3) = .ok (.dup, 1)) (hd3 : decode cc (pc + 3 + 1) = .ok (.invokespecial iI, 3))
    (kk : ∀ (v : Nat → Nat) (H1 : Heap) (locs1 : List Loc), va_P D vwCl (W0 ++ ofB (bl v)) H1 → va_D (fun q => z ≤ q) (W0 ++ ofB (bl v)) → va_S (fun q => z ≤ q) H0 H1 locs1 → W p l e R s m args below meth c H1 locs1 (cells + 1 + mc) (slots + N + ms) Q (F0 m (pc + 7) ls (.ref (v 0) :: rest))) : W p l e R s m args below meth c H locs cells slots Q (F0 m pc ls rest) := by
  subst hN
  have hA : ∀ q : Nat, H0.size ≤ q → (fun q => z ≤ q) q := fun q h => Nat.le_trans hz h
  refine va_new (ci := x) (fs := fs) (C := (kn_at x).1) (T := (kn_at x).2.1) (N := (kn_at x).2.2) hx hb hts (kn_at_gd x hx7) (kv_ty x) (kn_at_ty x hx7) hown (hts _ hcl) (hts _ hins) (hts _ hini) hU.1 hP hD hS hA (kn_at_ok x hx7) hfs (by omega) (by omega) hd1 (fun q H hP hD hS => ?_)
  refine lv_dup hx hb hd2 rfl ?_
  have hz2 : z ≤ H.size := Nat.le_trans hz hS.1
  refine va_callv (va_runIN (As := []) (rest := .ref q :: rest) ⟨hx, hb, hml, hown, hts⟩ (hM (W0 ++ [(q, .inr (x, fs))]) W0.length q bw1) ⟨va_cnB 0 hts (gdI hcode) rfl hrc hrs hnw (by rw [hy]; exact hts _ hini) hy2 hR, hy1, hts _ him⟩ (bz_pre hP hD hz2 hU) rfl rfl hls rfl (lv_room (by exact hrest)) hd3 ⟨hc1, hc2⟩) hS (fun q _ h => h) (fun q h => h) (fun u t H1 locs1 ht hvm hw hB hz1 hk1 hS => ?_)
  obtain ⟨v, hv0, hv⟩ := hpt _ _ _ _ hw
  subst hv
  obtain ⟨hP1, hD1⟩ := hB
  rw [ht, bw2] at hP1
  rw [bw2] at hD1
  rw [← hv0]
  exact kk v H1 locs1 hP1 hD1 hS
end MAKE
/-- what the constructor needs of the tables beside -/
def kz_U (U : State) : Prop := va_AO RX5 U ∧ va_Nw (.methodLinkNest (kn_o 6) 9 yX5_init RX6) U ∧ va_Nw (.methodLinkNest (kn_o 6) 29 yX3_init RX6) U ∧ va_Nw (.methodLinkNest (kn_o 6) 43 yX0_init RX6) U ∧ va_Nw (.methodLinkNest (kn_o 6) 50 yX4_init RX6) U ∧ va_Nw (.methodLinkNest (kn_o 6) 60 yX2_init RX6) U
theorem kz_U.warm {s U : State} (h : kz_U s) (hW : s.WarmedH U.vm) : kz_U U := ⟨va_AO.moved hW.alike h.1, va_Nw.warmM hW h.2.1, va_Nw.warmM hW h.2.2.1, va_Nw.warmM hW h.2.2.2.1, va_Nw.warmM hW h.2.2.2.2.1, va_Nw.warmM hW h.2.2.2.2.2⟩
theorem kz_U.calling {U : State} (h : kz_U U) (g : JFrame) (mk : MethodId) (a : Array Value) : kz_U (U.calling g mk a) := ⟨va_AO.moved (u := U) (U := U.calling g mk a) (Vm.Alike.refl U.vm) h.1, va_Nw.same rfl rfl h.2.1, va_Nw.same rfl rfl h.2.2.1, va_Nw.same rfl rfl h.2.2.2.1, va_Nw.same rfl rfl h.2.2.2.2.1, va_Nw.same rfl rfl h.2.2.2.2.2⟩
theorem df5 : ∀ j, j < (kn_at 4).2.2 → defaultValue (kv_ty 4 j) = vp_V [.int 0, .int 0, .int 0, .int 0, .long 0, .long 0, .long 0, .null, .null, .null, .null, .null] j := by
  intro j hj
  have hj : j < 12 := hj
  rcases (show j = 0 ∨ j = 1 ∨ j = 2 ∨ j = 3 ∨ j = 4 ∨ j = 5 ∨ j = 6 ∨ j = 7 ∨ j = 8 ∨ j = 9 ∨ j = 10 ∨ j = 11 by omega) with rfl | rfl | rfl | rfl | rfl | rfl | rfl | rfl | rfl | rfl | rfl | rfl <;> rfl
theorem df3 : ∀ j, j < (kn_at 2).2.2 → defaultValue (kv_ty 2 j) = vp_V [.null, .null, .null, .int 0, .null, .null, .int 0] j := by
  intro j hj
  have hj : j < 7 := hj
  rcases (show j = 0 ∨ j = 1 ∨ j = 2 ∨ j = 3 ∨ j = 4 ∨ j = 5 ∨ j = 6 by omega) with rfl | rfl | rfl | rfl | rfl | rfl | rfl <;> rfl
theorem df4 : ∀ j, j < (kn_at 3).2.2 → defaultValue (kv_ty 3 j) = vp_V [.int 0, .null, .null, .int 0, .null, .null] j := by
  intro j hj
  have hj : j < 6 := hj
  rcases (show j = 0 ∨ j = 1 ∨ j = 2 ∨ j = 3 ∨ j = 4 ∨ j = 5 by omega) with rfl | rfl | rfl | rfl | rfl | rfl <;> rfl
theorem df2 : ∀ j, j < (kn_at 1).2.2 → defaultValue (kv_ty 1 j) = vp_V [.null, .int 0, .int 0, .int 0, .null] j := by
  intro j hj
  have hj : j < 5 := hj
  rcases (show j = 0 ∨ j = 1 ∨ j = 2 ∨ j = 3 ∨ j = 4 by omega) with rfl | rfl | rfl | rfl | rfl <;> rfl
theorem df0 : ∀ j, j < (kn_at 0).2.2 → defaultValue (kv_ty 0 j) = vp_V [.int 0, .null, .null, .int 0, .null, .null, .null] j := by
  intro j hj
  have hj : j < 7 := hj
  rcases (show j = 0 ∨ j = 1 ∨ j = 2 ∨ j = 3 ∨ j = 4 ∨ j = 5 ∨ j = 6 by omega) with rfl | rfl | rfl | rfl | rfl | rfl | rfl <;> rfl
theorem df6 : ∀ j, j < (kn_at 5).2.2 → defaultValue (kv_ty 5 j) = vp_V [.null, .null, .null, .int 0, .null, .int 0, .null, .null, .null, .int 0, .null, .null, .int 0, .int 0, .int 0] j := by
  intro j hj
  have hj : j < 15 := hj
  rcases (show j = 0 ∨ j = 1 ∨ j = 2 ∨ j = 3 ∨ j = 4 ∨ j = 5 ∨ j = 6 ∨ j = 7 ∨ j = 8 ∨ j = 9 ∨ j = 10 ∨ j = 11 ∨ j = 12 ∨ j = 13 ∨ j = 14 by omega) with rfl | rfl | rfl | rfl | rfl | rfl | rfl | rfl | rfl | rfl | rfl | rfl | rfl | rfl | rfl <;> rfl
theorem df7 : ∀ j, j < (kn_at 6).2.2 → defaultValue (kv_ty 6 j) = vp_V [.null, .null, .int 0, .int 0, .int 0, .int 0, .int 0, .long 0, .int 0, .null, .null, .null, .null, .null, .null, .null, .int 0, .null, .null, .null, .null, .null, .int 0, .null, .null, .int 0, .null, .int 0, .int 0, .null] j := by
  intro j hj
  have hj : j < 30 := hj
  rcases (show j = 0 ∨ j = 1 ∨ j = 2 ∨ j = 3 ∨ j = 4 ∨ j = 5 ∨ j = 6 ∨ j = 7 ∨ j = 8 ∨ j = 9 ∨ j = 10 ∨ j = 11 ∨ j = 12 ∨ j = 13 ∨ j = 14 ∨ j = 15 ∨ j = 16 ∨ j = 17 ∨ j = 18 ∨ j = 19 ∨ j = 20 ∨ j = 21 ∨ j = 22 ∨ j = 23 ∨ j = 24 ∨ j = 25 ∨ j = 26 ∨ j = 27 ∨ j = 28 ∨ j = 29 by omega) with rfl | rfl | rfl | rfl | rfl | rfl | rfl | rfl | rfl | rfl | rfl | rfl | rfl | rfl | rfl | rfl | rfl | rfl | rfl | rfl | rfl | rfl | rfl | rfl | rfl | rfl | rfl | rfl | rfl | rfl <;> rfl
theorem dc6_0 : decode cX6_init 0 = .ok (.aload_n 0, 1) := by decide +kernel
theorem dc6_1 : decode cX6_init 1 = .ok (.invokespecial 1, 3) := by decide +kernel
theorem dc6_4 : decode cX6_init 4 = .ok (.aload_n 0, 1) := by decide +kernel
theorem dc6_5 : decode cX6_init 5 = .ok (.new 7, 3) := by decide +kernel
theorem dc6_8 : decode cX6_init 8 = .ok (.dup, 1) := by decide +kernel
theorem dc6_9 : decode cX6_init 9 = .ok (.invokespecial 9, 3) := by decide +kernel
theorem dc6_12 : decode cX6_init 12 = .ok (.putfield 10, 3) := by decide +kernel
theorem dc6_15 : decode cX6_init 15 = .ok (.aload_n 0, 1) := by decide +kernel
theorem dc6_16 : decode cX6_init 16 = .ok (.new 7, 3) := by decide +kernel
theorem dc6_19 : decode cX6_init 19 = .ok (.dup, 1) := by decide +kernel
theorem dc6_20 : decode cX6_init 20 = .ok (.invokespecial 9, 3) := by decide +kernel
theorem dc6_23 : decode cX6_init 23 = .ok (.putfield 16, 3) := by decide +kernel
theorem dc6_26 : decode cX6_init 26 = .ok (.aload_n 0, 1) := by decide +kernel
theorem dc6_27 : decode cX6_init 27 = .ok (.iconst 5, 1) := by decide +kernel
theorem dc6_28 : decode cX6_init 28 = .ok (.anewarray 7, 3) := by decide +kernel
theorem dc6_31 : decode cX6_init 31 = .ok (.putfield 19, 3) := by decide +kernel
theorem dc6_34 : decode cX6_init 34 = .ok (.aload_n 0, 1) := by decide +kernel
theorem dc6_35 : decode cX6_init 35 = .ok (.iconst 0, 1) := by decide +kernel
theorem dc6_36 : decode cX6_init 36 = .ok (.putfield 23, 3) := by decide +kernel
theorem dc6_39 : decode cX6_init 39 = .ok (.aload_n 0, 1) := by decide +kernel
theorem dc6_40 : decode cX6_init 40 = .ok (.new 27, 3) := by decide +kernel
theorem dc6_43 : decode cX6_init 43 = .ok (.dup, 1) := by decide +kernel
theorem dc6_44 : decode cX6_init 44 = .ok (.invokespecial 29, 3) := by decide +kernel
theorem dc6_47 : decode cX6_init 47 = .ok (.putfield 30, 3) := by decide +kernel
theorem dc6_50 : decode cX6_init 50 = .ok (.aload_n 0, 1) := by decide +kernel
theorem dc6_51 : decode cX6_init 51 = .ok (.iconst 0, 1) := by decide +kernel
theorem dc6_52 : decode cX6_init 52 = .ok (.putfield 34, 3) := by decide +kernel
theorem dc6_55 : decode cX6_init 55 = .ok (.aload_n 0, 1) := by decide +kernel
theorem dc6_56 : decode cX6_init 56 = .ok (.new 27, 3) := by decide +kernel
theorem dc6_59 : decode cX6_init 59 = .ok (.dup, 1) := by decide +kernel
theorem dc6_60 : decode cX6_init 60 = .ok (.invokespecial 29, 3) := by decide +kernel
theorem dc6_63 : decode cX6_init 63 = .ok (.putfield 38, 3) := by decide +kernel
theorem dc6_66 : decode cX6_init 66 = .ok (.aload_n 0, 1) := by decide +kernel
theorem dc6_67 : decode cX6_init 67 = .ok (.new 41, 3) := by decide +kernel
theorem dc6_70 : decode cX6_init 70 = .ok (.dup, 1) := by decide +kernel
theorem dc6_71 : decode cX6_init 71 = .ok (.invokespecial 43, 3) := by decide +kernel
theorem dc6_74 : decode cX6_init 74 = .ok (.putfield 44, 3) := by decide +kernel
theorem dc6_77 : decode cX6_init 77 = .ok (.aload_n 0, 1) := by decide +kernel
theorem dc6_78 : decode cX6_init 78 = .ok (.new 48, 3) := by decide +kernel
theorem dc6_81 : decode cX6_init 81 = .ok (.dup, 1) := by decide +kernel
theorem dc6_82 : decode cX6_init 82 = .ok (.invokespecial 50, 3) := by decide +kernel
theorem dc6_85 : decode cX6_init 85 = .ok (.putfield 51, 3) := by decide +kernel
theorem dc6_88 : decode cX6_init 88 = .ok (.aload_n 0, 1) := by decide +kernel
theorem dc6_89 : decode cX6_init 89 = .ok (.iconst 0, 1) := by decide +kernel
theorem dc6_90 : decode cX6_init 90 = .ok (.putfield 55, 3) := by decide +kernel
theorem dc6_93 : decode cX6_init 93 = .ok (.aload_n 0, 1) := by decide +kernel
theorem dc6_94 : decode cX6_init 94 = .ok (.new 58, 3) := by decide +kernel
theorem dc6_97 : decode cX6_init 97 = .ok (.dup, 1) := by decide +kernel
theorem dc6_98 : decode cX6_init 98 = .ok (.invokespecial 60, 3) := by decide +kernel
theorem dc6_101 : decode cX6_init 101 = .ok (.putfield 61, 3) := by decide +kernel
theorem dc6_104 : decode cX6_init 104 = .ok (.aload_n 0, 1) := by decide +kernel
theorem dc6_105 : decode cX6_init 105 = .ok (.iconst 4, 1) := by decide +kernel
theorem dc6_106 : decode cX6_init 106 = .ok (.newarray .int, 2) := by decide +kernel
theorem dc6_108 : decode cX6_init 108 = .ok (.putfield 65, 3) := by decide +kernel
theorem dc6_111 : decode cX6_init 111 = .ok (.aload_n 0, 1) := by decide +kernel
theorem dc6_112 : decode cX6_init 112 = .ok (.iconst 0, 1) := by decide +kernel
theorem dc6_113 : decode cX6_init 113 = .ok (.putfield 69, 3) := by decide +kernel
theorem dc6_116 : decode cX6_init 116 = .ok (.aload_n 0, 1) := by decide +kernel
theorem dc6_117 : decode cX6_init 117 = .ok (.iconst 0, 1) := by decide +kernel
theorem dc6_118 : decode cX6_init 118 = .ok (.putfield 72, 3) := by decide +kernel
theorem dc6_121 : decode cX6_init 121 = .ok (.aload_n 0, 1) := by decide +kernel
theorem dc6_122 : decode cX6_init 122 = .ok (.iconst 0, 1) := by decide +kernel
theorem dc6_123 : decode cX6_init 123 = .ok (.putfield 75, 3) := by decide +kernel
theorem dc6_126 : decode cX6_init 126 = .ok (.iconst 0, 1) := by decide +kernel
theorem dc6_127 : decode cX6_init 127 = .ok (.istore_n 1, 1) := by decide +kernel
theorem dc6_128 : decode cX6_init 128 = .ok (.iload_n 1, 1) := by decide +kernel
theorem dc6_129 : decode cX6_init 129 = .ok (.iconst 5, 1) := by decide +kernel
theorem dc6_130 : decode cX6_init 130 = .ok (.if_icmp .ge 22, 3) := by decide +kernel
theorem dc6_133 : decode cX6_init 133 = .ok (.aload_n 0, 1) := by decide +kernel
theorem dc6_134 : decode cX6_init 134 = .ok (.getfield 19, 3) := by decide +kernel
theorem dc6_137 : decode cX6_init 137 = .ok (.iload_n 1, 1) := by decide +kernel
theorem dc6_138 : decode cX6_init 138 = .ok (.new 7, 3) := by decide +kernel
theorem dc6_141 : decode cX6_init 141 = .ok (.dup, 1) := by decide +kernel
theorem dc6_142 : decode cX6_init 142 = .ok (.invokespecial 9, 3) := by decide +kernel
theorem dc6_145 : decode cX6_init 145 = .ok (.aastore, 1) := by decide +kernel
theorem dc6_146 : decode cX6_init 146 = .ok (.iinc 1 1, 3) := by decide +kernel
theorem dc6_149 : decode cX6_init 149 = .ok (.goto (-21), 3) := by decide +kernel
theorem dc6_152 : decode cX6_init 152 = .ok (.return_, 1) := by decide +kernel
theorem bk1 {a b x : Nat × va_E} {P R : va_W} (h : P.length = 12) : ([a].set 0 b ++ (P ++ (x :: R)))[13]? = some x := by
  show (P ++ (x :: R))[12]? = some x
  rw [List.getElem?_append_right (by omega), h]
  rfl
theorem bk2 {a b x y : Nat × va_E} {P R : va_W} (h : P.length = 12) : ([a].set 0 b ++ (P ++ (x :: R))).set 13 y = [a].set 0 b ++ (P ++ (y :: R)) := by
  show b :: (P ++ (x :: R)).set 12 y = b :: (P ++ (y :: R))
  rw [List.set_append_right _ _ (by omega), h]
  rfl
theorem bk3 {a b x : Nat × va_E} {P R : va_W} {B : (Nat × va_E) × va_W} (h : P.length = 12) : ([a].set 0 b ++ (P ++ (x :: (R ++ ofB B))))[14 + R.length]? = some B.1 := by
  rw [show 14 + R.length = (12 + (1 + R.length)) + 1 by omega]
  show (P ++ (x :: (R ++ ofB B)))[12 + (1 + R.length)]? = some B.1
  rw [List.getElem?_append_right (by omega), h, show 12 + (1 + R.length) - 12 = R.length + 1 by omega]
  show (R ++ ofB B)[R.length]? = some B.1
  rw [List.getElem?_append_right (Nat.le_refl _), Nat.sub_self]
  rfl
def ptPn (cy : kv_Y) (x0 : Nat) (ws' : va_W) : Prop := ∃ (v1 v2 v3 v4 v5 v6 v7 v8 v9 v10 v11 v12 : Nat → Nat) (kq ro : Nat), ws' = (x0, .inr (5, [.ref (v1 0), .ref (v2 0), .ref kq, .int 0, .ref (v3 0), .int 0, .ref (v4 0), .ref (v5 0), .ref (v6 0), .int 0, .ref (v7 0), .ref ro, .int 0, .int 0, .int 0])) :: ((ofB (blSt cy v1) ++ ofB (blSt cy v2)) ++ ((kq, .inl (cy.2.2.2.1, 5, .inr (.inr (.inr (.inr (va_up (va_up (va_up (va_up (va_up (fun _ => none) 0 (some (v8 0))) 1 (some (v9 0))) 2 (some (v10 0))) 3 (some (v11 0))) 4 (some (v12 0)))))))) :: ([] ++ ofB (blSe cy v3) ++ ofB (blSe cy v4) ++ ofB (blIv cy v5) ++ ofB (blSi cy v6) ++ ofB (blRd cy v7) ++ [(ro, .inl (cy.1, 4, .inl (fun _ => 0)))] ++ ofB (blSt cy v8) ++ ofB (blSt cy v9) ++ ofB (blSt cy v10) ++ ofB (blSt cy v11) ++ ofB (blSt cy v12))))
def bp_Pc (D : va_G) (cy : kv_Y) (z x0 : Nat) : Array Value → State → Prop := va_Pc [.ref x0] (fun U => va_P D vwCl [(x0, .inr (5, [.null, .null, .null, .int 0, .null, .int 0, .null, .null, .null, .int 0, .null, .null, .int 0, .int 0, .int 0]))] U.heap ∧ va_D (fun q => z ≤ q) [(x0, .inr (5, [.null, .null, .null, .int 0, .null, .int 0, .null, .null, .null, .int 0, .null, .null, .int 0, .int 0, .int 0]))] ∧ z ≤ U.heap.size ∧ kx_U D cy U ∧ kz_U U)
set_option maxHeartbeats 8000000 in
set_option maxRecDepth 100000 in
theorem cPn (l : Launch) (D : va_G) (cy : kv_Y) (z x0 : Nat) : Met l yX6_init (Cond.code yX6_init cX6_init 2 none :: kw_gd) { frames := 2, cells := 198, slots := 8031, locals := 32 } (bp_Pc D cy z x0) (bz_Qc D z (ptPn cy x0)) 198 8031 (fun q => z ≤ q) := by
  refine Met.ofW (cc := cX6_init) (maxL := 2) (ret := none) (by decide) rfl ?_
  intro p e s m args below meth c s₁ B hml hv
  obtain ⟨rfl, hP, hD, hz, hU, hz5⟩ := hv
  have hx := B.exec
  have hb := B.bytes
  have hr := B.returns
  have hts0 := atoms_spec (ws := Cond.code yX6_init cX6_init 2 none :: kw_gd) B.pre
  have hts : ∀ w ∈ kw_gd, w.before #[Value.ref x0] s = true := fun w hw => hts0 w (List.mem_cons_of_mem _ hw)
  have hown : s.vm.findClass (kn_o 6) = some m.cls := findClass_of_methodNamed B.named
  have hlocks := B.notSynchronized
  have hin : meth.name = "<init>" := (name_of_methodNamed B.named B.method).1
  have hA : ∀ q : Nat, s.heap.size ≤ q → (fun q => z ≤ q) q := fun q h => Nat.le_trans hz h
  have hS : va_S (fun q => z ≤ q) s.heap s.heap [] := va_S.rf
  have hK := hU.1
  have hl := lv_entry ([.ref x0]) (n := 2) (Nat.le_of_ble_eq_true rfl)
  rw [lg_entry_eq]
  generalize (lg_sl ([.ref x0]) ++ List.replicate (2 - (lg_sl ([.ref x0])).length) Slot.unset).toArray = ls at hl ⊢
  have hl : lv_has ls 2 [(0, .ref x0)] := hl
  obtain ⟨L0, hL0⟩ : ∃ L : va_W, L = [] := ⟨_, rfl⟩
  have hP : va_P D vwCl ([(x0, .inr (5, [.null, .null, .null, .int 0, .null, .int 0, .null, .null, .null, .int 0, .null, .null, .int 0, .int 0, .int 0]))].set 0 (x0, .inr (5, [.null, .null, .null, .int 0, .null, .int 0, .null, .null, .null, .int 0, .null, .null, .int 0, .int 0, .int 0])) ++ L0) s.heap := by rw [hL0]; exact hP
  have hD : va_D (fun q => z ≤ q) ([(x0, .inr (5, [.null, .null, .null, .int 0, .null, .int 0, .null, .null, .null, .int 0, .null, .null, .int 0, .int 0, .int 0]))].set 0 (x0, .inr (5, [.null, .null, .null, .int 0, .null, .int 0, .null, .null, .null, .int 0, .null, .null, .int 0, .int 0, .int 0])) ++ L0) := by rw [hL0]; exact hD
  refine lv_aload_n hx hb dc6_0 rfl (lv_at hl 0 rfl) ?_
  refine W.objInit hx hb hown (hts (.methodLink (kn_o 6) 1 objectInit) (kw_g (kt_1 (List.mem_of_getElem? (i := 18) rfl)) rfl)) (hts (.instanceMethod objectInit) (kw_g (kt_1 (List.mem_of_getElem? (i := 19) rfl)) rfl)) (hts (.code objectInit ⟨#[0xb1]⟩ 1 none) (kw_g (kt_1 (List.mem_of_getElem? (i := 20) rfl)) rfl)) rfl (by rw [hml]; exact hl.1) rfl dc6_1 (Nat.le_of_ble_eq_true rfl) (Nat.le_of_ble_eq_true rfl) ?_
  refine W.eq (g2 := F0 m 4 ls []) rfl ?_
  refine lv_aload_n hx hb dc6_4 rfl (lv_at hl 0 rfl) ?_
  refine bn_make (oc := 6) (x := 4) (N := 12) (y := yX5_init) (cb := cX5_init) (pt := ptSt cy) (bl := blSt cy) hx hb hml hts hown hU hP hD hS hz (by decide) rfl df5 (kw_g (kt_1 (List.mem_of_getElem? (i := 21) rfl)) rfl) (kw_g (kt_1 (List.mem_of_getElem? (i := 22) rfl)) rfl) (kw_g (kt_1 (List.mem_of_getElem? (i := 2) rfl)) rfl) (kw_g (kt_1 (List.mem_of_getElem? (i := 25) rfl)) rfl) (kw_g (kt_1 (List.mem_of_getElem? (i := 24) rfl)) rfl) hz5.2.1 rfl rfl (by decide +kernel) (cSt l D cy z) (fun _ _ _ _ => ptSt_v) rfl rfl ⟨Nat.le_of_ble_eq_true rfl, Nat.le_of_ble_eq_true rfl⟩ (Nat.le_of_ble_eq_true rfl) (Nat.le_of_ble_eq_true rfl) hl.1 (Nat.le_of_ble_eq_true rfl) dc6_5 dc6_8 dc6_9 (fun v1 H locs hP hD hS => ?_)
  rw [List.append_assoc] at hP hD
  obtain ⟨L1, hL1⟩ : ∃ L, L = L0 ++ ofB (blSt cy v1) := ⟨_, rfl⟩
  rw [← hL1] at hP hD
  refine bn_put (oc := 6) (idx := 10) (x := 5) (y := 0) (v := .ref (v1 0)) (fs' := [.ref (v1 0), .null, .null, .int 0, .null, .int 0, .null, .null, .null, .int 0, .null, .null, .int 0, .int 0, .int 0]) (ty := (.object "PalletNets$State")) hx hb hts hown hK hP hD hS (Nat.le_of_ble_eq_true rfl) (by decide) (by decide +kernel) (by decide) (Nat.le_of_ble_eq_true rfl) (Or.inr ⟨rfl, hin, rfl⟩) (by decide +kernel) rfl rfl rfl dc6_12 (fun H locs hP hD hS => ?_)
  refine lv_aload_n hx hb dc6_15 rfl (lv_at hl 0 rfl) ?_
  refine bn_make (oc := 6) (x := 4) (N := 12) (y := yX5_init) (cb := cX5_init) (pt := ptSt cy) (bl := blSt cy) hx hb hml hts hown hU hP hD hS hz (by decide) rfl df5 (kw_g (kt_1 (List.mem_of_getElem? (i := 21) rfl)) rfl) (kw_g (kt_1 (List.mem_of_getElem? (i := 22) rfl)) rfl) (kw_g (kt_1 (List.mem_of_getElem? (i := 2) rfl)) rfl) (kw_g (kt_1 (List.mem_of_getElem? (i := 25) rfl)) rfl) (kw_g (kt_1 (List.mem_of_getElem? (i := 24) rfl)) rfl) hz5.2.1 rfl rfl (by decide +kernel) (cSt l D cy z) (fun _ _ _ _ => ptSt_v) rfl rfl ⟨Nat.le_of_ble_eq_true rfl, Nat.le_of_ble_eq_true rfl⟩ (Nat.le_of_ble_eq_true rfl) (Nat.le_of_ble_eq_true rfl) hl.1 (Nat.le_of_ble_eq_true rfl) dc6_16 dc6_19 dc6_20 (fun v2 H locs hP hD hS => ?_)
  rw [List.append_assoc] at hP hD
  obtain ⟨L2, hL2⟩ : ∃ L, L = L1 ++ ofB (blSt cy v2) := ⟨_, rfl⟩
  rw [← hL2] at hP hD
  refine bn_put (oc := 6) (idx := 16) (x := 5) (y := 1) (v := .ref (v2 0)) (fs' := [.ref (v1 0), .ref (v2 0), .null, .int 0, .null, .int 0, .null, .null, .null, .int 0, .null, .null, .int 0, .int 0, .int 0]) (ty := (.object "PalletNets$State")) hx hb hts hown hK hP hD hS (Nat.le_of_ble_eq_true rfl) (by decide) (by decide +kernel) (by decide) (Nat.le_of_ble_eq_true rfl) (Or.inr ⟨rfl, hin, rfl⟩) (by decide +kernel) rfl rfl rfl dc6_23 (fun H locs hP hD hS => ?_)
  refine lv_aload_n hx hb dc6_26 rfl (lv_at hl 0 rfl) ?_
  refine lv_iconst (v := 5) hx hb dc6_27 (by decide +kernel) ?_
  refine va_newq (N' := 5) (C := RX5) hx hb hown (hts (.classLink (kn_o 6) 7 RX5) (kw_g (kt_1 (List.mem_of_getElem? (i := 21) rfl)) rfl)) hz5.1 hK hP hD hS hA (by decide) (by decide +kernel) (Nat.le_of_ble_eq_true rfl) (Nat.le_of_ble_eq_true rfl) (Nat.le_of_ble_eq_true rfl) dc6_28 (fun kq cA H hK1 hP hD hS => ?_)
  have ecA : cA = cy.2.2.2.1 := by
    obtain ⟨_, _, _, _, _, k1⟩ := (hK1.2 5 (cA, .object RX5) rfl).2
    obtain ⟨_, _, _, _, _, k2⟩ := (hK.2 3 (cy.2.2.2.1, .object RX5) rfl).2
    exact Option.some.inj (k1.symm.trans k2)
  subst ecA
  rw [List.append_assoc] at hP hD
  obtain ⟨L3, hL3⟩ : ∃ L, L = L2 ++ [(kq, .inl (cy.2.2.2.1, 5, .inr (.inr (.inr (.inr (fun _ => none))))))] := ⟨_, rfl⟩
  rw [← hL3] at hP hD
  refine bn_put (oc := 6) (idx := 19) (x := 5) (y := 2) (v := .ref kq) (fs' := [.ref (v1 0), .ref (v2 0), .ref kq, .int 0, .null, .int 0, .null, .null, .null, .int 0, .null, .null, .int 0, .int 0, .int 0]) (ty := (.array (.object "PalletNets$State"))) hx hb hts hown hK hP hD hS (Nat.le_of_ble_eq_true rfl) (by decide) (by decide +kernel) (by decide) (Nat.le_of_ble_eq_true rfl) (Or.inr ⟨rfl, hin, rfl⟩) (by decide +kernel) rfl rfl rfl dc6_31 (fun H locs hP hD hS => ?_)
  refine lv_aload_n hx hb dc6_34 rfl (lv_at hl 0 rfl) ?_
  refine lv_iconst (v := 0) hx hb dc6_35 (by decide +kernel) ?_
  refine bn_put (oc := 6) (idx := 23) (x := 5) (y := 3) (v := .int 0) (fs' := [.ref (v1 0), .ref (v2 0), .ref kq, .int 0, .null, .int 0, .null, .null, .null, .int 0, .null, .null, .int 0, .int 0, .int 0]) (ty := .int) hx hb hts hown hK hP hD hS (Nat.le_of_ble_eq_true rfl) (by decide) (by decide +kernel) (by decide) (Nat.le_of_ble_eq_true rfl) (Or.inl rfl) (by decide +kernel) rfl rfl rfl dc6_36 (fun H locs hP hD hS => ?_)
  refine lv_aload_n hx hb dc6_39 rfl (lv_at hl 0 rfl) ?_
  refine bn_make (oc := 6) (x := 2) (N := 7) (y := yX3_init) (cb := cX3_init) (pt := ptSe cy) (bl := blSe cy) hx hb hml hts hown hU hP hD hS hz (by decide) rfl df3 (kw_g (kt_1 (List.mem_of_getElem? (i := 91) rfl)) rfl) (kw_g (kt_1 (List.mem_of_getElem? (i := 92) rfl)) rfl) (kw_g (kt_1 (List.mem_of_getElem? (i := 3) rfl)) rfl) (kw_g (kt_1 (List.mem_of_getElem? (i := 95) rfl)) rfl) (kw_g (kt_1 (List.mem_of_getElem? (i := 94) rfl)) rfl) hz5.2.2.1 rfl rfl (by decide +kernel) (cSe l D cy z) (fun _ _ _ _ => ptSe_v) rfl rfl ⟨Nat.le_of_ble_eq_true rfl, Nat.le_of_ble_eq_true rfl⟩ (Nat.le_of_ble_eq_true rfl) (Nat.le_of_ble_eq_true rfl) hl.1 (Nat.le_of_ble_eq_true rfl) dc6_40 dc6_43 dc6_44 (fun v3 H locs hP hD hS => ?_)
  rw [List.append_assoc] at hP hD
  obtain ⟨L4, hL4⟩ : ∃ L, L = L3 ++ ofB (blSe cy v3) := ⟨_, rfl⟩
  rw [← hL4] at hP hD
  refine bn_put (oc := 6) (idx := 30) (x := 5) (y := 4) (v := .ref (v3 0)) (fs' := [.ref (v1 0), .ref (v2 0), .ref kq, .int 0, .ref (v3 0), .int 0, .null, .null, .null, .int 0, .null, .null, .int 0, .int 0, .int 0]) (ty := (.object "PalletNets$Search")) hx hb hts hown hK hP hD hS (Nat.le_of_ble_eq_true rfl) (by decide) (by decide +kernel) (by decide) (Nat.le_of_ble_eq_true rfl) (Or.inr ⟨rfl, hin, rfl⟩) (by decide +kernel) rfl rfl rfl dc6_47 (fun H locs hP hD hS => ?_)
  refine lv_aload_n hx hb dc6_50 rfl (lv_at hl 0 rfl) ?_
  refine lv_iconst (v := 0) hx hb dc6_51 (by decide +kernel) ?_
  refine bn_put (oc := 6) (idx := 34) (x := 5) (y := 5) (v := .int 0) (fs' := [.ref (v1 0), .ref (v2 0), .ref kq, .int 0, .ref (v3 0), .int 0, .null, .null, .null, .int 0, .null, .null, .int 0, .int 0, .int 0]) (ty := .boolean) hx hb hts hown hK hP hD hS (Nat.le_of_ble_eq_true rfl) (by decide) (by decide +kernel) (by decide) (Nat.le_of_ble_eq_true rfl) (Or.inl rfl) (by decide +kernel) rfl rfl rfl dc6_52 (fun H locs hP hD hS => ?_)
  refine lv_aload_n hx hb dc6_55 rfl (lv_at hl 0 rfl) ?_
  refine bn_make (oc := 6) (x := 2) (N := 7) (y := yX3_init) (cb := cX3_init) (pt := ptSe cy) (bl := blSe cy) hx hb hml hts hown hU hP hD hS hz (by decide) rfl df3 (kw_g (kt_1 (List.mem_of_getElem? (i := 91) rfl)) rfl) (kw_g (kt_1 (List.mem_of_getElem? (i := 92) rfl)) rfl) (kw_g (kt_1 (List.mem_of_getElem? (i := 3) rfl)) rfl) (kw_g (kt_1 (List.mem_of_getElem? (i := 95) rfl)) rfl) (kw_g (kt_1 (List.mem_of_getElem? (i := 94) rfl)) rfl) hz5.2.2.1 rfl rfl (by decide +kernel) (cSe l D cy z) (fun _ _ _ _ => ptSe_v) rfl rfl ⟨Nat.le_of_ble_eq_true rfl, Nat.le_of_ble_eq_true rfl⟩ (Nat.le_of_ble_eq_true rfl) (Nat.le_of_ble_eq_true rfl) hl.1 (Nat.le_of_ble_eq_true rfl) dc6_56 dc6_59 dc6_60 (fun v4 H locs hP hD hS => ?_)
  rw [List.append_assoc] at hP hD
  obtain ⟨L5, hL5⟩ : ∃ L, L = L4 ++ ofB (blSe cy v4) := ⟨_, rfl⟩
  rw [← hL5] at hP hD
  refine bn_put (oc := 6) (idx := 38) (x := 5) (y := 6) (v := .ref (v4 0)) (fs' := [.ref (v1 0), .ref (v2 0), .ref kq, .int 0, .ref (v3 0), .int 0, .ref (v4 0), .null, .null, .int 0, .null, .null, .int 0, .int 0, .int 0]) (ty := (.object "PalletNets$Search")) hx hb hts hown hK hP hD hS (Nat.le_of_ble_eq_true rfl) (by decide) (by decide +kernel) (by decide) (Nat.le_of_ble_eq_true rfl) (Or.inr ⟨rfl, hin, rfl⟩) (by decide +kernel) rfl rfl rfl dc6_63 (fun H locs hP hD hS => ?_)
  refine lv_aload_n hx hb dc6_66 rfl (lv_at hl 0 rfl) ?_
  refine bn_make (oc := 6) (x := 0) (N := 7) (y := yX0_init) (cb := cX0_init) (pt := ptIv cy) (bl := blIv cy) hx hb hml hts hown hU hP hD hS hz (by decide) rfl df0 (kw_g (kt_1 (List.mem_of_getElem? (i := 123) rfl)) rfl) (kw_g (kt_1 (List.mem_of_getElem? (i := 124) rfl)) rfl) (kw_g (kt_1 (List.mem_of_getElem? (i := 4) rfl)) rfl) (kw_g (kt_1 (List.mem_of_getElem? (i := 127) rfl)) rfl) (kw_g (kt_1 (List.mem_of_getElem? (i := 126) rfl)) rfl) hz5.2.2.2.1 rfl rfl (by decide +kernel) (cIv l D cy z) (fun _ _ _ _ => ptIv_v) rfl rfl ⟨Nat.le_of_ble_eq_true rfl, Nat.le_of_ble_eq_true rfl⟩ (Nat.le_of_ble_eq_true rfl) (Nat.le_of_ble_eq_true rfl) hl.1 (Nat.le_of_ble_eq_true rfl) dc6_67 dc6_70 dc6_71 (fun v5 H locs hP hD hS => ?_)
  rw [List.append_assoc] at hP hD
  obtain ⟨L6, hL6⟩ : ∃ L, L = L5 ++ ofB (blIv cy v5) := ⟨_, rfl⟩
  rw [← hL6] at hP hD
  refine bn_put (oc := 6) (idx := 44) (x := 5) (y := 7) (v := .ref (v5 0)) (fs' := [.ref (v1 0), .ref (v2 0), .ref kq, .int 0, .ref (v3 0), .int 0, .ref (v4 0), .ref (v5 0), .null, .int 0, .null, .null, .int 0, .int 0, .int 0]) (ty := (.object "PalletNets$Invariants")) hx hb hts hown hK hP hD hS (Nat.le_of_ble_eq_true rfl) (by decide) (by decide +kernel) (by decide) (Nat.le_of_ble_eq_true rfl) (Or.inr ⟨rfl, hin, rfl⟩) (by decide +kernel) rfl rfl rfl dc6_74 (fun H locs hP hD hS => ?_)
  refine lv_aload_n hx hb dc6_77 rfl (lv_at hl 0 rfl) ?_
  refine bn_make (oc := 6) (x := 3) (N := 6) (y := yX4_init) (cb := cX4_init) (pt := ptSi cy) (bl := blSi cy) hx hb hml hts hown hU hP hD hS hz (by decide) rfl df4 (kw_g (kt_1 (List.mem_of_getElem? (i := 155) rfl)) rfl) (kw_g (kt_1 (List.mem_of_getElem? (i := 156) rfl)) rfl) (kw_g (kt_1 (List.mem_of_getElem? (i := 5) rfl)) rfl) (kw_g (kt_1 (List.mem_of_getElem? (i := 159) rfl)) rfl) (kw_g (kt_1 (List.mem_of_getElem? (i := 158) rfl)) rfl) hz5.2.2.2.2.1 rfl rfl (by decide +kernel) (cSi l D cy z) (fun _ _ _ _ => ptSi_v) rfl rfl ⟨Nat.le_of_ble_eq_true rfl, Nat.le_of_ble_eq_true rfl⟩ (Nat.le_of_ble_eq_true rfl) (Nat.le_of_ble_eq_true rfl) hl.1 (Nat.le_of_ble_eq_true rfl) dc6_78 dc6_81 dc6_82 (fun v6 H locs hP hD hS => ?_)
  rw [List.append_assoc] at hP hD
  obtain ⟨L7, hL7⟩ : ∃ L, L = L6 ++ ofB (blSi cy v6) := ⟨_, rfl⟩
  rw [← hL7] at hP hD
  refine bn_put (oc := 6) (idx := 51) (x := 5) (y := 8) (v := .ref (v6 0)) (fs' := [.ref (v1 0), .ref (v2 0), .ref kq, .int 0, .ref (v3 0), .int 0, .ref (v4 0), .ref (v5 0), .ref (v6 0), .int 0, .null, .null, .int 0, .int 0, .int 0]) (ty := (.object "PalletNets$Siphons")) hx hb hts hown hK hP hD hS (Nat.le_of_ble_eq_true rfl) (by decide) (by decide +kernel) (by decide) (Nat.le_of_ble_eq_true rfl) (Or.inr ⟨rfl, hin, rfl⟩) (by decide +kernel) rfl rfl rfl dc6_85 (fun H locs hP hD hS => ?_)
  refine lv_aload_n hx hb dc6_88 rfl (lv_at hl 0 rfl) ?_
  refine lv_iconst (v := 0) hx hb dc6_89 (by decide +kernel) ?_
  refine bn_put (oc := 6) (idx := 55) (x := 5) (y := 9) (v := .int 0) (fs' := [.ref (v1 0), .ref (v2 0), .ref kq, .int 0, .ref (v3 0), .int 0, .ref (v4 0), .ref (v5 0), .ref (v6 0), .int 0, .null, .null, .int 0, .int 0, .int 0]) (ty := .boolean) hx hb hts hown hK hP hD hS (Nat.le_of_ble_eq_true rfl) (by decide) (by decide +kernel) (by decide) (Nat.le_of_ble_eq_true rfl) (Or.inl rfl) (by decide +kernel) rfl rfl rfl dc6_90 (fun H locs hP hD hS => ?_)
  refine lv_aload_n hx hb dc6_93 rfl (lv_at hl 0 rfl) ?_
  refine bn_make (oc := 6) (x := 1) (N := 5) (y := yX2_init) (cb := cX2_init) (pt := ptRd cy) (bl := blRd cy) hx hb hml hts hown hU hP hD hS hz (by decide) rfl df2 (kw_g (kt_1 (List.mem_of_getElem? (i := 182) rfl)) rfl) (kw_g (kt_1 (List.mem_of_getElem? (i := 183) rfl)) rfl) (kw_g (kt_1 (List.mem_of_getElem? (i := 6) rfl)) rfl) (kw_g (kt_1 (List.mem_of_getElem? (i := 186) rfl)) rfl) (kw_g (kt_1 (List.mem_of_getElem? (i := 185) rfl)) rfl) hz5.2.2.2.2.2 rfl rfl (by decide +kernel) (cRd l D cy z) (fun _ _ _ _ => ptRd_v) rfl rfl ⟨Nat.le_of_ble_eq_true rfl, Nat.le_of_ble_eq_true rfl⟩ (Nat.le_of_ble_eq_true rfl) (Nat.le_of_ble_eq_true rfl) hl.1 (Nat.le_of_ble_eq_true rfl) dc6_94 dc6_97 dc6_98 (fun v7 H locs hP hD hS => ?_)
  rw [List.append_assoc] at hP hD
  obtain ⟨L8, hL8⟩ : ∃ L, L = L7 ++ ofB (blRd cy v7) := ⟨_, rfl⟩
  rw [← hL8] at hP hD
  refine bn_put (oc := 6) (idx := 61) (x := 5) (y := 10) (v := .ref (v7 0)) (fs' := [.ref (v1 0), .ref (v2 0), .ref kq, .int 0, .ref (v3 0), .int 0, .ref (v4 0), .ref (v5 0), .ref (v6 0), .int 0, .ref (v7 0), .null, .int 0, .int 0, .int 0]) (ty := (.object "PalletNets$Reader")) hx hb hts hown hK hP hD hS (Nat.le_of_ble_eq_true rfl) (by decide) (by decide +kernel) (by decide) (Nat.le_of_ble_eq_true rfl) (Or.inr ⟨rfl, hin, rfl⟩) (by decide +kernel) rfl rfl rfl dc6_101 (fun H locs hP hD hS => ?_)
  refine lv_aload_n hx hb dc6_104 rfl (lv_at hl 0 rfl) ?_
  refine lv_iconst (v := 4) hx hb dc6_105 (by decide +kernel) ?_
  refine bn_newa (cA0 := cy.1) 0 (a0 := (4, .inl (fun _ => 0))) (N' := 4) (atype := .int) (ty := .int) hx hb (hts (.arrayClass .int) (kw_g (kt_1 (List.mem_of_getElem? (i := 89) rfl)) rfl)) rfl hK rfl (Or.inl rfl) hP hD hS hA (fun _ => rfl) (by decide) (by decide +kernel) (Nat.le_of_ble_eq_true rfl) (Nat.le_of_ble_eq_true rfl) (Nat.le_of_ble_eq_true rfl) dc6_106 (fun ro H hP hD hS => ?_)
  rw [List.append_assoc] at hP hD
  obtain ⟨L9, hL9⟩ : ∃ L, L = L8 ++ [(ro, .inl (cy.1, 4, .inl (fun _ => 0)))] := ⟨_, rfl⟩
  rw [← hL9] at hP hD
  refine bn_put (oc := 6) (idx := 65) (x := 5) (y := 11) (v := .ref ro) (fs' := [.ref (v1 0), .ref (v2 0), .ref kq, .int 0, .ref (v3 0), .int 0, .ref (v4 0), .ref (v5 0), .ref (v6 0), .int 0, .ref (v7 0), .ref ro, .int 0, .int 0, .int 0]) (ty := (.array .int)) hx hb hts hown hK hP hD hS (Nat.le_of_ble_eq_true rfl) (by decide) (by decide +kernel) (by decide) (Nat.le_of_ble_eq_true rfl) (Or.inr ⟨rfl, hin, rfl⟩) (by decide +kernel) rfl rfl rfl dc6_108 (fun H locs hP hD hS => ?_)
  refine lv_aload_n hx hb dc6_111 rfl (lv_at hl 0 rfl) ?_
  refine lv_iconst (v := 0) hx hb dc6_112 (by decide +kernel) ?_
  refine bn_put (oc := 6) (idx := 69) (x := 5) (y := 12) (v := .int 0) (fs' := [.ref (v1 0), .ref (v2 0), .ref kq, .int 0, .ref (v3 0), .int 0, .ref (v4 0), .ref (v5 0), .ref (v6 0), .int 0, .ref (v7 0), .ref ro, .int 0, .int 0, .int 0]) (ty := .int) hx hb hts hown hK hP hD hS (Nat.le_of_ble_eq_true rfl) (by decide) (by decide +kernel) (by decide) (Nat.le_of_ble_eq_true rfl) (Or.inl rfl) (by decide +kernel) rfl rfl rfl dc6_113 (fun H locs hP hD hS => ?_)
  refine lv_aload_n hx hb dc6_116 rfl (lv_at hl 0 rfl) ?_
  refine lv_iconst (v := 0) hx hb dc6_117 (by decide +kernel) ?_
  refine bn_put (oc := 6) (idx := 72) (x := 5) (y := 13) (v := .int 0) (fs' := [.ref (v1 0), .ref (v2 0), .ref kq, .int 0, .ref (v3 0), .int 0, .ref (v4 0), .ref (v5 0), .ref (v6 0), .int 0, .ref (v7 0), .ref ro, .int 0, .int 0, .int 0]) (ty := .int) hx hb hts hown hK hP hD hS (Nat.le_of_ble_eq_true rfl) (by decide) (by decide +kernel) (by decide) (Nat.le_of_ble_eq_true rfl) (Or.inl rfl) (by decide +kernel) rfl rfl rfl dc6_118 (fun H locs hP hD hS => ?_)
  refine lv_aload_n hx hb dc6_121 rfl (lv_at hl 0 rfl) ?_
  refine lv_iconst (v := 0) hx hb dc6_122 (by decide +kernel) ?_
  refine bn_put (oc := 6) (idx := 75) (x := 5) (y := 14) (v := .int 0) (fs' := [.ref (v1 0), .ref (v2 0), .ref kq, .int 0, .ref (v3 0), .int 0, .ref (v4 0), .ref (v5 0), .ref (v6 0), .int 0, .ref (v7 0), .ref ro, .int 0, .int 0, .int 0]) (ty := .int) hx hb hts hown hK hP hD hS (Nat.le_of_ble_eq_true rfl) (by decide) (by decide +kernel) (by decide) (Nat.le_of_ble_eq_true rfl) (Or.inl rfl) (by decide +kernel) rfl rfl rfl dc6_123 (fun H locs hP hD hS => ?_)
  refine lv_iconst (v := 0) hx hb dc6_126 (by decide +kernel) ?_
  refine lv_istore_n (lv' := [(1, .int 0), (0, .ref x0)]) hx hb dc6_127 rfl hl (by decide) rfl (fun ls hl => ?_)
  obtain ⟨Rr0, hR0⟩ : ∃ Rr : va_W, Rr = [] ++ ofB (blSe cy v3) ++ ofB (blSe cy v4) ++ ofB (blIv cy v5) ++ ofB (blSi cy v6) ++ ofB (blRd cy v7) ++ [(ro, .inl (cy.1, 4, .inl (fun _ => 0)))] := ⟨_, rfl⟩
  have hsplit : L9 = L2 ++ ((kq, .inl (cy.2.2.2.1, 5, .inr (.inr (.inr (.inr (fun _ => none)))))) :: Rr0) := by
    rw [hR0, hL9, hL8, hL7, hL6, hL5, hL4, hL3]
    simp only [List.append_assoc, List.cons_append, List.nil_append]
  have len2 : L2.length = 12 := by rw [hL2, hL1, hL0]; rfl
  rw [hsplit] at hP hD
  refine lv_iload_n hx hb dc6_128 rfl (lv_at hl 0 rfl) ?_
  refine lv_iconst (v := 5) hx hb dc6_129 (by decide +kernel) ?_
  refine lv_icmp_ge (tgt := 152) hx hb dc6_130 (by decide) (fun c => absurd c (by decide)) (fun _ => ?_)
  refine lv_aload_n hx hb dc6_133 rfl (lv_at hl 1 rfl) ?_
  refine va_get (ci := 5) (v := .ref kq) (C := (kn_at 5).1) (T := (kn_at 5).2.1) (N := (kn_at 5).2.2) hx hb hts (kn_at_gd 5 (by decide)) hown hK hP 0 rfl (kn_at_ok 5 (by decide)) 2 (by decide) (hts _ (kw_g (kw_f_ok (6, 19, 5, 2) (by decide +kernel)) rfl)) (fun _ h9 => h9) rfl dc6_134 ?_
  refine lv_iload_n hx hb dc6_137 rfl (lv_at hl 0 rfl) ?_
  refine bn_make (oc := 6) (x := 4) (N := 12) (y := yX5_init) (cb := cX5_init) (pt := ptSt cy) (bl := blSt cy) hx hb hml hts hown hU hP hD hS hz (by decide) rfl df5 (kw_g (kt_1 (List.mem_of_getElem? (i := 21) rfl)) rfl) (kw_g (kt_1 (List.mem_of_getElem? (i := 22) rfl)) rfl) (kw_g (kt_1 (List.mem_of_getElem? (i := 2) rfl)) rfl) (kw_g (kt_1 (List.mem_of_getElem? (i := 25) rfl)) rfl) (kw_g (kt_1 (List.mem_of_getElem? (i := 24) rfl)) rfl) hz5.2.1 rfl rfl (by decide +kernel) (cSt l D cy z) (fun _ _ _ _ => ptSt_v) rfl rfl ⟨Nat.le_of_ble_eq_true rfl, Nat.le_of_ble_eq_true rfl⟩ (Nat.le_of_ble_eq_true rfl) (Nat.le_of_ble_eq_true rfl) hl.1 (Nat.le_of_ble_eq_true rfl) dc6_138 dc6_141 dc6_142 (fun v8 H locs hP hD hS => ?_)
  obtain ⟨Rr1, hR1⟩ : ∃ Rr, Rr = Rr0 ++ ofB (blSt cy v8) := ⟨_, rfl⟩
  have es0 : ([(x0, .inr (5, [.null, .null, .null, .int 0, .null, .int 0, .null, .null, .null, .int 0, .null, .null, .int 0, .int 0, .int 0]))].set 0 (x0, .inr (5, [.ref (v1 0), .ref (v2 0), .ref kq, .int 0, .ref (v3 0), .int 0, .ref (v4 0), .ref (v5 0), .ref (v6 0), .int 0, .ref (v7 0), .ref ro, .int 0, .int 0, .int 0])) ++ (L2 ++ ((kq, .inl (cy.2.2.2.1, 5, .inr (.inr (.inr (.inr (fun _ => none)))))) :: Rr0))) ++ ofB (blSt cy v8) = [(x0, .inr (5, [.null, .null, .null, .int 0, .null, .int 0, .null, .null, .null, .int 0, .null, .null, .int 0, .int 0, .int 0]))].set 0 (x0, .inr (5, [.ref (v1 0), .ref (v2 0), .ref kq, .int 0, .ref (v3 0), .int 0, .ref (v4 0), .ref (v5 0), .ref (v6 0), .int 0, .ref (v7 0), .ref ro, .int 0, .int 0, .int 0])) ++ (L2 ++ ((kq, .inl (cy.2.2.2.1, 5, .inr (.inr (.inr (.inr (fun _ => none)))))) :: Rr1)) := by rw [hR1]; simp only [List.append_assoc, List.cons_append]
  rw [es0] at hP hD
  refine va_astq (r := (RX5, TX5, 12)) (v := v8 0) (vs := _) hx hb hK hP hD hS 13 3 (14 + Rr0.length) 4 (bk1 len2) rfl (by rw [hR1]; exact bk3 len2) rfl (pk_in 0 5 (by decide)) dc6_145 (fun H locs hP hD hS => ?_)
  rw [bk2 len2] at hP hD
  have hP : va_P D vwCl ([(x0, .inr (5, [.null, .null, .null, .int 0, .null, .int 0, .null, .null, .null, .int 0, .null, .null, .int 0, .int 0, .int 0]))].set 0 (x0, .inr (5, [.ref (v1 0), .ref (v2 0), .ref kq, .int 0, .ref (v3 0), .int 0, .ref (v4 0), .ref (v5 0), .ref (v6 0), .int 0, .ref (v7 0), .ref ro, .int 0, .int 0, .int 0])) ++ (L2 ++ ((kq, .inl (cy.2.2.2.1, 5, .inr (.inr (.inr (.inr (va_up (fun _ => none) 0 (some (v8 0)))))))) :: Rr1))) H := hP
  have hD : va_D (fun q => z ≤ q) ([(x0, .inr (5, [.null, .null, .null, .int 0, .null, .int 0, .null, .null, .null, .int 0, .null, .null, .int 0, .int 0, .int 0]))].set 0 (x0, .inr (5, [.ref (v1 0), .ref (v2 0), .ref kq, .int 0, .ref (v3 0), .int 0, .ref (v4 0), .ref (v5 0), .ref (v6 0), .int 0, .ref (v7 0), .ref ro, .int 0, .int 0, .int 0])) ++ (L2 ++ ((kq, .inl (cy.2.2.2.1, 5, .inr (.inr (.inr (.inr (va_up (fun _ => none) 0 (some (v8 0)))))))) :: Rr1))) := hD
  refine lv_iinc (v := 1) (lv' := [(1, .int 1), (0, .ref x0)]) hx hb dc6_146 hl (k := 0) rfl (by decide +kernel) (by decide) rfl (fun ls hl => ?_)
  refine lv_goto (tgt := 128) hx hb dc6_149 (by decide) ?_
  refine lv_iload_n hx hb dc6_128 rfl (lv_at hl 0 rfl) ?_
  refine lv_iconst (v := 5) hx hb dc6_129 (by decide +kernel) ?_
  refine lv_icmp_ge (tgt := 152) hx hb dc6_130 (by decide) (fun c => absurd c (by decide)) (fun _ => ?_)
  refine lv_aload_n hx hb dc6_133 rfl (lv_at hl 1 rfl) ?_
  refine va_get (ci := 5) (v := .ref kq) (C := (kn_at 5).1) (T := (kn_at 5).2.1) (N := (kn_at 5).2.2) hx hb hts (kn_at_gd 5 (by decide)) hown hK hP 0 rfl (kn_at_ok 5 (by decide)) 2 (by decide) (hts _ (kw_g (kw_f_ok (6, 19, 5, 2) (by decide +kernel)) rfl)) (fun _ h9 => h9) rfl dc6_134 ?_
  refine lv_iload_n hx hb dc6_137 rfl (lv_at hl 0 rfl) ?_
  refine bn_make (oc := 6) (x := 4) (N := 12) (y := yX5_init) (cb := cX5_init) (pt := ptSt cy) (bl := blSt cy) hx hb hml hts hown hU hP hD hS hz (by decide) rfl df5 (kw_g (kt_1 (List.mem_of_getElem? (i := 21) rfl)) rfl) (kw_g (kt_1 (List.mem_of_getElem? (i := 22) rfl)) rfl) (kw_g (kt_1 (List.mem_of_getElem? (i := 2) rfl)) rfl) (kw_g (kt_1 (List.mem_of_getElem? (i := 25) rfl)) rfl) (kw_g (kt_1 (List.mem_of_getElem? (i := 24) rfl)) rfl) hz5.2.1 rfl rfl (by decide +kernel) (cSt l D cy z) (fun _ _ _ _ => ptSt_v) rfl rfl ⟨Nat.le_of_ble_eq_true rfl, Nat.le_of_ble_eq_true rfl⟩ (Nat.le_of_ble_eq_true rfl) (Nat.le_of_ble_eq_true rfl) hl.1 (Nat.le_of_ble_eq_true rfl) dc6_138 dc6_141 dc6_142 (fun v9 H locs hP hD hS => ?_)
  obtain ⟨Rr2, hR2⟩ : ∃ Rr, Rr = Rr1 ++ ofB (blSt cy v9) := ⟨_, rfl⟩
  have es1 : ([(x0, .inr (5, [.null, .null, .null, .int 0, .null, .int 0, .null, .null, .null, .int 0, .null, .null, .int 0, .int 0, .int 0]))].set 0 (x0, .inr (5, [.ref (v1 0), .ref (v2 0), .ref kq, .int 0, .ref (v3 0), .int 0, .ref (v4 0), .ref (v5 0), .ref (v6 0), .int 0, .ref (v7 0), .ref ro, .int 0, .int 0, .int 0])) ++ (L2 ++ ((kq, .inl (cy.2.2.2.1, 5, .inr (.inr (.inr (.inr (va_up (fun _ => none) 0 (some (v8 0)))))))) :: Rr1))) ++ ofB (blSt cy v9) = [(x0, .inr (5, [.null, .null, .null, .int 0, .null, .int 0, .null, .null, .null, .int 0, .null, .null, .int 0, .int 0, .int 0]))].set 0 (x0, .inr (5, [.ref (v1 0), .ref (v2 0), .ref kq, .int 0, .ref (v3 0), .int 0, .ref (v4 0), .ref (v5 0), .ref (v6 0), .int 0, .ref (v7 0), .ref ro, .int 0, .int 0, .int 0])) ++ (L2 ++ ((kq, .inl (cy.2.2.2.1, 5, .inr (.inr (.inr (.inr (va_up (fun _ => none) 0 (some (v8 0)))))))) :: Rr2)) := by rw [hR2]; simp only [List.append_assoc, List.cons_append]
  rw [es1] at hP hD
  refine va_astq (r := (RX5, TX5, 12)) (v := v9 0) (vs := _) hx hb hK hP hD hS 13 3 (14 + Rr1.length) 4 (bk1 len2) rfl (by rw [hR2]; exact bk3 len2) rfl (pk_in 1 5 (by decide)) dc6_145 (fun H locs hP hD hS => ?_)
  rw [bk2 len2] at hP hD
  have hP : va_P D vwCl ([(x0, .inr (5, [.null, .null, .null, .int 0, .null, .int 0, .null, .null, .null, .int 0, .null, .null, .int 0, .int 0, .int 0]))].set 0 (x0, .inr (5, [.ref (v1 0), .ref (v2 0), .ref kq, .int 0, .ref (v3 0), .int 0, .ref (v4 0), .ref (v5 0), .ref (v6 0), .int 0, .ref (v7 0), .ref ro, .int 0, .int 0, .int 0])) ++ (L2 ++ ((kq, .inl (cy.2.2.2.1, 5, .inr (.inr (.inr (.inr (va_up (va_up (fun _ => none) 0 (some (v8 0))) 1 (some (v9 0)))))))) :: Rr2))) H := hP
  have hD : va_D (fun q => z ≤ q) ([(x0, .inr (5, [.null, .null, .null, .int 0, .null, .int 0, .null, .null, .null, .int 0, .null, .null, .int 0, .int 0, .int 0]))].set 0 (x0, .inr (5, [.ref (v1 0), .ref (v2 0), .ref kq, .int 0, .ref (v3 0), .int 0, .ref (v4 0), .ref (v5 0), .ref (v6 0), .int 0, .ref (v7 0), .ref ro, .int 0, .int 0, .int 0])) ++ (L2 ++ ((kq, .inl (cy.2.2.2.1, 5, .inr (.inr (.inr (.inr (va_up (va_up (fun _ => none) 0 (some (v8 0))) 1 (some (v9 0)))))))) :: Rr2))) := hD
  refine lv_iinc (v := 2) (lv' := [(1, .int 2), (0, .ref x0)]) hx hb dc6_146 hl (k := 0) rfl (by decide +kernel) (by decide) rfl (fun ls hl => ?_)
  refine lv_goto (tgt := 128) hx hb dc6_149 (by decide) ?_
  refine lv_iload_n hx hb dc6_128 rfl (lv_at hl 0 rfl) ?_
  refine lv_iconst (v := 5) hx hb dc6_129 (by decide +kernel) ?_
  refine lv_icmp_ge (tgt := 152) hx hb dc6_130 (by decide) (fun c => absurd c (by decide)) (fun _ => ?_)
  refine lv_aload_n hx hb dc6_133 rfl (lv_at hl 1 rfl) ?_
  refine va_get (ci := 5) (v := .ref kq) (C := (kn_at 5).1) (T := (kn_at 5).2.1) (N := (kn_at 5).2.2) hx hb hts (kn_at_gd 5 (by decide)) hown hK hP 0 rfl (kn_at_ok 5 (by decide)) 2 (by decide) (hts _ (kw_g (kw_f_ok (6, 19, 5, 2) (by decide +kernel)) rfl)) (fun _ h9 => h9) rfl dc6_134 ?_
  refine lv_iload_n hx hb dc6_137 rfl (lv_at hl 0 rfl) ?_
  refine bn_make (oc := 6) (x := 4) (N := 12) (y := yX5_init) (cb := cX5_init) (pt := ptSt cy) (bl := blSt cy) hx hb hml hts hown hU hP hD hS hz (by decide) rfl df5 (kw_g (kt_1 (List.mem_of_getElem? (i := 21) rfl)) rfl) (kw_g (kt_1 (List.mem_of_getElem? (i := 22) rfl)) rfl) (kw_g (kt_1 (List.mem_of_getElem? (i := 2) rfl)) rfl) (kw_g (kt_1 (List.mem_of_getElem? (i := 25) rfl)) rfl) (kw_g (kt_1 (List.mem_of_getElem? (i := 24) rfl)) rfl) hz5.2.1 rfl rfl (by decide +kernel) (cSt l D cy z) (fun _ _ _ _ => ptSt_v) rfl rfl ⟨Nat.le_of_ble_eq_true rfl, Nat.le_of_ble_eq_true rfl⟩ (Nat.le_of_ble_eq_true rfl) (Nat.le_of_ble_eq_true rfl) hl.1 (Nat.le_of_ble_eq_true rfl) dc6_138 dc6_141 dc6_142 (fun v10 H locs hP hD hS => ?_)
  obtain ⟨Rr3, hR3⟩ : ∃ Rr, Rr = Rr2 ++ ofB (blSt cy v10) := ⟨_, rfl⟩
  have es2 : ([(x0, .inr (5, [.null, .null, .null, .int 0, .null, .int 0, .null, .null, .null, .int 0, .null, .null, .int 0, .int 0, .int 0]))].set 0 (x0, .inr (5, [.ref (v1 0), .ref (v2 0), .ref kq, .int 0, .ref (v3 0), .int 0, .ref (v4 0), .ref (v5 0), .ref (v6 0), .int 0, .ref (v7 0), .ref ro, .int 0, .int 0, .int 0])) ++ (L2 ++ ((kq, .inl (cy.2.2.2.1, 5, .inr (.inr (.inr (.inr (va_up (va_up (fun _ => none) 0 (some (v8 0))) 1 (some (v9 0)))))))) :: Rr2))) ++ ofB (blSt cy v10) = [(x0, .inr (5, [.null, .null, .null, .int 0, .null, .int 0, .null, .null, .null, .int 0, .null, .null, .int 0, .int 0, .int 0]))].set 0 (x0, .inr (5, [.ref (v1 0), .ref (v2 0), .ref kq, .int 0, .ref (v3 0), .int 0, .ref (v4 0), .ref (v5 0), .ref (v6 0), .int 0, .ref (v7 0), .ref ro, .int 0, .int 0, .int 0])) ++ (L2 ++ ((kq, .inl (cy.2.2.2.1, 5, .inr (.inr (.inr (.inr (va_up (va_up (fun _ => none) 0 (some (v8 0))) 1 (some (v9 0)))))))) :: Rr3)) := by rw [hR3]; simp only [List.append_assoc, List.cons_append]
  rw [es2] at hP hD
  refine va_astq (r := (RX5, TX5, 12)) (v := v10 0) (vs := _) hx hb hK hP hD hS 13 3 (14 + Rr2.length) 4 (bk1 len2) rfl (by rw [hR3]; exact bk3 len2) rfl (pk_in 2 5 (by decide)) dc6_145 (fun H locs hP hD hS => ?_)
  rw [bk2 len2] at hP hD
  have hP : va_P D vwCl ([(x0, .inr (5, [.null, .null, .null, .int 0, .null, .int 0, .null, .null, .null, .int 0, .null, .null, .int 0, .int 0, .int 0]))].set 0 (x0, .inr (5, [.ref (v1 0), .ref (v2 0), .ref kq, .int 0, .ref (v3 0), .int 0, .ref (v4 0), .ref (v5 0), .ref (v6 0), .int 0, .ref (v7 0), .ref ro, .int 0, .int 0, .int 0])) ++ (L2 ++ ((kq, .inl (cy.2.2.2.1, 5, .inr (.inr (.inr (.inr (va_up (va_up (va_up (fun _ => none) 0 (some (v8 0))) 1 (some (v9 0))) 2 (some (v10 0)))))))) :: Rr3))) H := hP
  have hD : va_D (fun q => z ≤ q) ([(x0, .inr (5, [.null, .null, .null, .int 0, .null, .int 0, .null, .null, .null, .int 0, .null, .null, .int 0, .int 0, .int 0]))].set 0 (x0, .inr (5, [.ref (v1 0), .ref (v2 0), .ref kq, .int 0, .ref (v3 0), .int 0, .ref (v4 0), .ref (v5 0), .ref (v6 0), .int 0, .ref (v7 0), .ref ro, .int 0, .int 0, .int 0])) ++ (L2 ++ ((kq, .inl (cy.2.2.2.1, 5, .inr (.inr (.inr (.inr (va_up (va_up (va_up (fun _ => none) 0 (some (v8 0))) 1 (some (v9 0))) 2 (some (v10 0)))))))) :: Rr3))) := hD
  refine lv_iinc (v := 3) (lv' := [(1, .int 3), (0, .ref x0)]) hx hb dc6_146 hl (k := 0) rfl (by decide +kernel) (by decide) rfl (fun ls hl => ?_)
  refine lv_goto (tgt := 128) hx hb dc6_149 (by decide) ?_
  refine lv_iload_n hx hb dc6_128 rfl (lv_at hl 0 rfl) ?_
  refine lv_iconst (v := 5) hx hb dc6_129 (by decide +kernel) ?_
  refine lv_icmp_ge (tgt := 152) hx hb dc6_130 (by decide) (fun c => absurd c (by decide)) (fun _ => ?_)
  refine lv_aload_n hx hb dc6_133 rfl (lv_at hl 1 rfl) ?_
  refine va_get (ci := 5) (v := .ref kq) (C := (kn_at 5).1) (T := (kn_at 5).2.1) (N := (kn_at 5).2.2) hx hb hts (kn_at_gd 5 (by decide)) hown hK hP 0 rfl (kn_at_ok 5 (by decide)) 2 (by decide) (hts _ (kw_g (kw_f_ok (6, 19, 5, 2) (by decide +kernel)) rfl)) (fun _ h9 => h9) rfl dc6_134 ?_
  refine lv_iload_n hx hb dc6_137 rfl (lv_at hl 0 rfl) ?_
  refine bn_make (oc := 6) (x := 4) (N := 12) (y := yX5_init) (cb := cX5_init) (pt := ptSt cy) (bl := blSt cy) hx hb hml hts hown hU hP hD hS hz (by decide) rfl df5 (kw_g (kt_1 (List.mem_of_getElem? (i := 21) rfl)) rfl) (kw_g (kt_1 (List.mem_of_getElem? (i := 22) rfl)) rfl) (kw_g (kt_1 (List.mem_of_getElem? (i := 2) rfl)) rfl) (kw_g (kt_1 (List.mem_of_getElem? (i := 25) rfl)) rfl) (kw_g (kt_1 (List.mem_of_getElem? (i := 24) rfl)) rfl) hz5.2.1 rfl rfl (by decide +kernel) (cSt l D cy z) (fun _ _ _ _ => ptSt_v) rfl rfl ⟨Nat.le_of_ble_eq_true rfl, Nat.le_of_ble_eq_true rfl⟩ (Nat.le_of_ble_eq_true rfl) (Nat.le_of_ble_eq_true rfl) hl.1 (Nat.le_of_ble_eq_true rfl) dc6_138 dc6_141 dc6_142 (fun v11 H locs hP hD hS => ?_)
  obtain ⟨Rr4, hR4⟩ : ∃ Rr, Rr = Rr3 ++ ofB (blSt cy v11) := ⟨_, rfl⟩
  have es3 : ([(x0, .inr (5, [.null, .null, .null, .int 0, .null, .int 0, .null, .null, .null, .int 0, .null, .null, .int 0, .int 0, .int 0]))].set 0 (x0, .inr (5, [.ref (v1 0), .ref (v2 0), .ref kq, .int 0, .ref (v3 0), .int 0, .ref (v4 0), .ref (v5 0), .ref (v6 0), .int 0, .ref (v7 0), .ref ro, .int 0, .int 0, .int 0])) ++ (L2 ++ ((kq, .inl (cy.2.2.2.1, 5, .inr (.inr (.inr (.inr (va_up (va_up (va_up (fun _ => none) 0 (some (v8 0))) 1 (some (v9 0))) 2 (some (v10 0)))))))) :: Rr3))) ++ ofB (blSt cy v11) = [(x0, .inr (5, [.null, .null, .null, .int 0, .null, .int 0, .null, .null, .null, .int 0, .null, .null, .int 0, .int 0, .int 0]))].set 0 (x0, .inr (5, [.ref (v1 0), .ref (v2 0), .ref kq, .int 0, .ref (v3 0), .int 0, .ref (v4 0), .ref (v5 0), .ref (v6 0), .int 0, .ref (v7 0), .ref ro, .int 0, .int 0, .int 0])) ++ (L2 ++ ((kq, .inl (cy.2.2.2.1, 5, .inr (.inr (.inr (.inr (va_up (va_up (va_up (fun _ => none) 0 (some (v8 0))) 1 (some (v9 0))) 2 (some (v10 0)))))))) :: Rr4)) := by rw [hR4]; simp only [List.append_assoc, List.cons_append]
  rw [es3] at hP hD
  refine va_astq (r := (RX5, TX5, 12)) (v := v11 0) (vs := _) hx hb hK hP hD hS 13 3 (14 + Rr3.length) 4 (bk1 len2) rfl (by rw [hR4]; exact bk3 len2) rfl (pk_in 3 5 (by decide)) dc6_145 (fun H locs hP hD hS => ?_)
  rw [bk2 len2] at hP hD
  have hP : va_P D vwCl ([(x0, .inr (5, [.null, .null, .null, .int 0, .null, .int 0, .null, .null, .null, .int 0, .null, .null, .int 0, .int 0, .int 0]))].set 0 (x0, .inr (5, [.ref (v1 0), .ref (v2 0), .ref kq, .int 0, .ref (v3 0), .int 0, .ref (v4 0), .ref (v5 0), .ref (v6 0), .int 0, .ref (v7 0), .ref ro, .int 0, .int 0, .int 0])) ++ (L2 ++ ((kq, .inl (cy.2.2.2.1, 5, .inr (.inr (.inr (.inr (va_up (va_up (va_up (va_up (fun _ => none) 0 (some (v8 0))) 1 (some (v9 0))) 2 (some (v10 0))) 3 (some (v11 0)))))))) :: Rr4))) H := hP
  have hD : va_D (fun q => z ≤ q) ([(x0, .inr (5, [.null, .null, .null, .int 0, .null, .int 0, .null, .null, .null, .int 0, .null, .null, .int 0, .int 0, .int 0]))].set 0 (x0, .inr (5, [.ref (v1 0), .ref (v2 0), .ref kq, .int 0, .ref (v3 0), .int 0, .ref (v4 0), .ref (v5 0), .ref (v6 0), .int 0, .ref (v7 0), .ref ro, .int 0, .int 0, .int 0])) ++ (L2 ++ ((kq, .inl (cy.2.2.2.1, 5, .inr (.inr (.inr (.inr (va_up (va_up (va_up (va_up (fun _ => none) 0 (some (v8 0))) 1 (some (v9 0))) 2 (some (v10 0))) 3 (some (v11 0)))))))) :: Rr4))) := hD
  refine lv_iinc (v := 4) (lv' := [(1, .int 4), (0, .ref x0)]) hx hb dc6_146 hl (k := 0) rfl (by decide +kernel) (by decide) rfl (fun ls hl => ?_)
  refine lv_goto (tgt := 128) hx hb dc6_149 (by decide) ?_
  refine lv_iload_n hx hb dc6_128 rfl (lv_at hl 0 rfl) ?_
  refine lv_iconst (v := 5) hx hb dc6_129 (by decide +kernel) ?_
  refine lv_icmp_ge (tgt := 152) hx hb dc6_130 (by decide) (fun c => absurd c (by decide)) (fun _ => ?_)
  refine lv_aload_n hx hb dc6_133 rfl (lv_at hl 1 rfl) ?_
  refine va_get (ci := 5) (v := .ref kq) (C := (kn_at 5).1) (T := (kn_at 5).2.1) (N := (kn_at 5).2.2) hx hb hts (kn_at_gd 5 (by decide)) hown hK hP 0 rfl (kn_at_ok 5 (by decide)) 2 (by decide) (hts _ (kw_g (kw_f_ok (6, 19, 5, 2) (by decide +kernel)) rfl)) (fun _ h9 => h9) rfl dc6_134 ?_
  refine lv_iload_n hx hb dc6_137 rfl (lv_at hl 0 rfl) ?_
  refine bn_make (oc := 6) (x := 4) (N := 12) (y := yX5_init) (cb := cX5_init) (pt := ptSt cy) (bl := blSt cy) hx hb hml hts hown hU hP hD hS hz (by decide) rfl df5 (kw_g (kt_1 (List.mem_of_getElem? (i := 21) rfl)) rfl) (kw_g (kt_1 (List.mem_of_getElem? (i := 22) rfl)) rfl) (kw_g (kt_1 (List.mem_of_getElem? (i := 2) rfl)) rfl) (kw_g (kt_1 (List.mem_of_getElem? (i := 25) rfl)) rfl) (kw_g (kt_1 (List.mem_of_getElem? (i := 24) rfl)) rfl) hz5.2.1 rfl rfl (by decide +kernel) (cSt l D cy z) (fun _ _ _ _ => ptSt_v) rfl rfl ⟨Nat.le_of_ble_eq_true rfl, Nat.le_of_ble_eq_true rfl⟩ (Nat.le_of_ble_eq_true rfl) (Nat.le_of_ble_eq_true rfl) hl.1 (Nat.le_of_ble_eq_true rfl) dc6_138 dc6_141 dc6_142 (fun v12 H locs hP hD hS => ?_)
  obtain ⟨Rr5, hR5⟩ : ∃ Rr, Rr = Rr4 ++ ofB (blSt cy v12) := ⟨_, rfl⟩
  have es4 : ([(x0, .inr (5, [.null, .null, .null, .int 0, .null, .int 0, .null, .null, .null, .int 0, .null, .null, .int 0, .int 0, .int 0]))].set 0 (x0, .inr (5, [.ref (v1 0), .ref (v2 0), .ref kq, .int 0, .ref (v3 0), .int 0, .ref (v4 0), .ref (v5 0), .ref (v6 0), .int 0, .ref (v7 0), .ref ro, .int 0, .int 0, .int 0])) ++ (L2 ++ ((kq, .inl (cy.2.2.2.1, 5, .inr (.inr (.inr (.inr (va_up (va_up (va_up (va_up (fun _ => none) 0 (some (v8 0))) 1 (some (v9 0))) 2 (some (v10 0))) 3 (some (v11 0)))))))) :: Rr4))) ++ ofB (blSt cy v12) = [(x0, .inr (5, [.null, .null, .null, .int 0, .null, .int 0, .null, .null, .null, .int 0, .null, .null, .int 0, .int 0, .int 0]))].set 0 (x0, .inr (5, [.ref (v1 0), .ref (v2 0), .ref kq, .int 0, .ref (v3 0), .int 0, .ref (v4 0), .ref (v5 0), .ref (v6 0), .int 0, .ref (v7 0), .ref ro, .int 0, .int 0, .int 0])) ++ (L2 ++ ((kq, .inl (cy.2.2.2.1, 5, .inr (.inr (.inr (.inr (va_up (va_up (va_up (va_up (fun _ => none) 0 (some (v8 0))) 1 (some (v9 0))) 2 (some (v10 0))) 3 (some (v11 0)))))))) :: Rr5)) := by rw [hR5]; simp only [List.append_assoc, List.cons_append]
  rw [es4] at hP hD
  refine va_astq (r := (RX5, TX5, 12)) (v := v12 0) (vs := _) hx hb hK hP hD hS 13 3 (14 + Rr4.length) 4 (bk1 len2) rfl (by rw [hR5]; exact bk3 len2) rfl (pk_in 4 5 (by decide)) dc6_145 (fun H locs hP hD hS => ?_)
  rw [bk2 len2] at hP hD
  have hP : va_P D vwCl ([(x0, .inr (5, [.null, .null, .null, .int 0, .null, .int 0, .null, .null, .null, .int 0, .null, .null, .int 0, .int 0, .int 0]))].set 0 (x0, .inr (5, [.ref (v1 0), .ref (v2 0), .ref kq, .int 0, .ref (v3 0), .int 0, .ref (v4 0), .ref (v5 0), .ref (v6 0), .int 0, .ref (v7 0), .ref ro, .int 0, .int 0, .int 0])) ++ (L2 ++ ((kq, .inl (cy.2.2.2.1, 5, .inr (.inr (.inr (.inr (va_up (va_up (va_up (va_up (va_up (fun _ => none) 0 (some (v8 0))) 1 (some (v9 0))) 2 (some (v10 0))) 3 (some (v11 0))) 4 (some (v12 0)))))))) :: Rr5))) H := hP
  have hD : va_D (fun q => z ≤ q) ([(x0, .inr (5, [.null, .null, .null, .int 0, .null, .int 0, .null, .null, .null, .int 0, .null, .null, .int 0, .int 0, .int 0]))].set 0 (x0, .inr (5, [.ref (v1 0), .ref (v2 0), .ref kq, .int 0, .ref (v3 0), .int 0, .ref (v4 0), .ref (v5 0), .ref (v6 0), .int 0, .ref (v7 0), .ref ro, .int 0, .int 0, .int 0])) ++ (L2 ++ ((kq, .inl (cy.2.2.2.1, 5, .inr (.inr (.inr (.inr (va_up (va_up (va_up (va_up (va_up (fun _ => none) 0 (some (v8 0))) 1 (some (v9 0))) 2 (some (v10 0))) 3 (some (v11 0))) 4 (some (v12 0)))))))) :: Rr5))) := hD
  refine lv_iinc (v := 5) (lv' := [(1, .int 5), (0, .ref x0)]) hx hb dc6_146 hl (k := 0) rfl (by decide +kernel) (by decide) rfl (fun ls hl => ?_)
  refine lv_goto (tgt := 128) hx hb dc6_149 (by decide) ?_
  refine lv_iload_n hx hb dc6_128 rfl (lv_at hl 0 rfl) ?_
  refine lv_iconst (v := 5) hx hb dc6_129 (by decide +kernel) ?_
  refine lv_icmp_ge (tgt := 152) hx hb dc6_130 (by decide) (fun _ => ?_) (fun c => absurd (show (5 : Int32) ≤ 5 by decide) c)
  have ew : [(x0, .inr (5, [.null, .null, .null, .int 0, .null, .int 0, .null, .null, .null, .int 0, .null, .null, .int 0, .int 0, .int 0]))].set 0 (x0, .inr (5, [.ref (v1 0), .ref (v2 0), .ref kq, .int 0, .ref (v3 0), .int 0, .ref (v4 0), .ref (v5 0), .ref (v6 0), .int 0, .ref (v7 0), .ref ro, .int 0, .int 0, .int 0])) ++ (L2 ++ ((kq, .inl (cy.2.2.2.1, 5, .inr (.inr (.inr (.inr (va_up (va_up (va_up (va_up (va_up (fun _ => none) 0 (some (v8 0))) 1 (some (v9 0))) 2 (some (v10 0))) 3 (some (v11 0))) 4 (some (v12 0)))))))) :: Rr5)) = (x0, .inr (5, [.ref (v1 0), .ref (v2 0), .ref kq, .int 0, .ref (v3 0), .int 0, .ref (v4 0), .ref (v5 0), .ref (v6 0), .int 0, .ref (v7 0), .ref ro, .int 0, .int 0, .int 0])) :: ((ofB (blSt cy v1) ++ ofB (blSt cy v2)) ++ ((kq, .inl (cy.2.2.2.1, 5, .inr (.inr (.inr (.inr (va_up (va_up (va_up (va_up (va_up (fun _ => none) 0 (some (v8 0))) 1 (some (v9 0))) 2 (some (v10 0))) 3 (some (v11 0))) 4 (some (v12 0)))))))) :: ([] ++ ofB (blSe cy v3) ++ ofB (blSe cy v4) ++ ofB (blIv cy v5) ++ ofB (blSi cy v6) ++ ofB (blRd cy v7) ++ [(ro, .inl (cy.1, 4, .inl (fun _ => 0)))] ++ ofB (blSt cy v8) ++ ofB (blSt cy v9) ++ ofB (blSt cy v10) ++ ofB (blSt cy v11) ++ ofB (blSt cy v12)))) := by
    rw [hR5, hR4, hR3, hR2, hR1, hR0, hL2, hL1, hL0]
    rfl
  rw [ew] at hP hD
  exact W.vret hx hb hr (fun t ht hW => ⟨⟨_, rfl, ⟨v1, v2, v3, v4, v5, v6, v7, v8, v9, v10, v11, v12, kq, ro, rfl⟩, by rw [ht]; exact hP, hD⟩, hS.F ht⟩) hS.2.2 dc6_152
