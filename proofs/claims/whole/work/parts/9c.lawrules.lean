/-! THE LAW, rules: arguments off the script, a call of class and reference, their answers compared (printed by wip/whole/gen/law.py; what follows this row up to lw_At is the skeleton's) -/
/-! THE CLAIM OUT OF ONE WALK OF THE LAW'S BODY. Your part is whole_start (and what it stands on); all else here is the same for every law, but numbers. -/
def R_law : String := "PalletNetsLaw"
def lw_P (b : Addr) (xs : List Int32) (args : Array Value) (s : State) : Prop := args = #[.ref b] ∧ s.IntsAt b xs ∧ xs.length ≤ 2560 ∧ (Jvm.Cond.and given_1 narrow_1).before args s = true
def lw_Q (_ : Array Value) (s : State) (o : Outcome) (t : State) : Prop := o = .returned (some (.int 1)) ∧ Framed s o t [] 600000 7302250
def lw_Z (below : List Frame) (a : Array Value) (s : State) : State → Prop := fun t => ∃ o, t.status = .running ∧ Ended t below o ∧ lw_Q a s o t
/-- the law's own end, with 1 on the stack, nothing written that was there before, its room as the claim has it -/
theorem lw_ret {p : Program} {l : Launch} {e : Env} {s : State} {m : MethodId} {below : List Frame} {meth : Method} {c : Code} {b : Nat} (hx : p.tables.exec = Jvm.exec) (hb : c.code = code) (hr : meth.sig.returnType = ret) (hlocks : meth.locks = false) {pc : Nat} {H : Heap} {ls : Array Slot} (hdg : decode code pc = .ok (.ireturn, 1)) : W p l e room_1 s m #[Value.ref b] below meth c H [] 600000 7302250 (lw_Z below #[Value.ref b] s) (F0 m pc ls [.int 1]) := by
  intro T hT X
  obtain ⟨fs, hret, hrun, hended, hW, hframe⟩ := X.leave (v := some (.int 1)) (hlocks := hlocks) (fun h => by rw [hr] at h; cases h)
  have hmeth' : T.vm.method? m = some meth := X.method'
  refine ⟨T.setFrames fs, ?_, .returned (some (.int 1)), hrun, hended, rfl, ⟨_, rfl⟩, hW, hframe⟩
  jvm_step X.here [X.here.top, hx, hb, hdg, hmeth', hr, ret, narrow_b1]
  (try refine ⟨rfl, ?_⟩); (try refine ⟨rfl, ?_⟩)
  first | (intro acts; rw [hret _ acts rfl rfl rfl]) | rw [hret _ _ rfl rfl rfl]
  exact Steps.refl _
/-- what holds at the law's entry: the machine, the code, the tables' words (any of lw_tbl by 'hts w (by decide +kernel)'), the script of L ints xs at the cell b, what the Statement gives of the start (any of its parts by flat_of_before) -/
def lw_At (p : Program) (s : State) (m : MethodId) (meth : Method) (c : Code) (b L : Nat) (xs : Nat → Int32) : Prop :=
  p.tables.exec = Jvm.exec ∧ c.code = code ∧ meth.sig.returnType = ret ∧ c.maxLocals = 4 ∧ s.vm.findClass R_law = some m.cls ∧ (∀ w ∈ lw_tbl, w.before #[Value.ref b] s = true) ∧ va_X b L xs s s.heap ∧ b < s.heap.size ∧ meth.locks = false ∧ (Jvm.Cond.and given_1 narrow_1).before #[Value.ref b] s = true
theorem cI_X {I I' : Nat → Nat → Int32} {Lg L' : Nat → Nat → Int64} {q r1 r2 : Nat → Nat} {w : Bool} {s : ast} (hs : s.2.1 ≤ 5) (h : cI I Lg q w r1 r2 s) (f : fX I Lg I' L') : cI I' L' q w r1 r2 s :=
  cI_fr (m := s.1) hs h (fun a k _ _ g => f.1 a k (by omega)) (fun a k g1 g2 => f.2 a k (by omega)) (cR_fr (fun a k g1 g2 => f.1 a k (by omega)) (fun a k g1 g2 => f.2 a k (by omega)) h.1) (cH_fr h.2.2.2.2.1 (f.1 0 5 (by omega)) (fun a k g1 g2 => f.1 a k (by omega)) (fun k => f.2 45 k (by omega))) (cA_fr h.2.2.2.2.2 (f.1 0 9 (by omega)) (fun a k g1 g2 => f.1 a k (by omega)) (fun a k g1 g2 => f.2 a k (by omega)))
/-- a call's arguments -/
def ag (f : Nat → Int32) (n : Nat) : List Value := match n with
  | 0 => []
  | 1 => [.int (f 1)]
  | 2 => [.int (f 1), .int (f 2)]
  | 3 => [.int (f 1), .int (f 2), .int (f 3)]
  | _ => [.int (f 1), .int (f 2), .int (f 3), .int (f 4)]
theorem n5 {n : Nat} (h : n ≤ 4) : n = 0 ∨ n = 1 ∨ n = 2 ∨ n = 3 ∨ n = 4 := by omega
theorem ag_tr {f : Nat → Int32} {ad : Nat → Nat} {n : Nat} (h : n ≤ 4) : (ag f n).map (km_tr ad) = ag f n := by
  rcases n5 h with rfl | rfl | rfl | rfl | rfl <;> rfl
theorem ag_len {f : Nat → Int32} {n : Nat} (h : n ≤ 4) : (ag f n).length = n := by
  rcases n5 h with rfl | rfl | rfl | rfl | rfl <;> rfl
/-- what is asked of a method that the law calls -/
def lw_okm (q : km_N) (n z : Nat) : Bool := Nat.beq q.2.2.2.2.2.1 (n + 1) && (! q.2.2.2.2.2.2.1 && (decide (q.1.cls = (kn_at z).1) && Nat.ble q.2.2.2.2.2.2.2 8))
abbrev lw_da (pc : Nat) (k : Int) : Prop := decode code pc = .ok (.aload_n 0, 1) ∧ decode code (pc + 1) = .ok (.iload_n 3, 1) ∧ decode code (pc + 1 + 1) = .ok (.iconst k, 1) ∧ decode code (pc + 1 + 1 + 1) = .ok (.iadd, 1) ∧ decode code (pc + 1 + 1 + 1 + 1) = .ok (.iaload, 1)
abbrev lw_d2 (pc n ix iy : Nat) : Prop := decode code pc = .ok (.aload_n 1, 1) ∧ (∀ j, j < n → lw_da (pc + 1 + 5 * j) ((j + 1 : Nat) : Int)) ∧ decode code (pc + 1 + 5 * n) = .ok (.invokevirtual ix, 3) ∧ decode code (pc + 1 + 5 * n + 3) = .ok (.aload_n 2, 1) ∧ (∀ j, j < n → lw_da (pc + 1 + 5 * n + 3 + 1 + 5 * j) ((j + 1 : Nat) : Int)) ∧ decode code (pc + 1 + 5 * n + 3 + 1 + 5 * n) = .ok (.invokevirtual iy, 3)
section LAW
variable {p : Program} {l : Launch} {e : Env} {s : State} {m : MethodId} {below : List Frame} {meth : Method} {c : Code} {b L : Nat} {xs : Nat → Int32} {H : Heap} {locs : List Loc} {cells slots : Nat} {Q : State → Prop} {D : va_G} {cy : kv_Y} {ad : Nat → Nat} {ls : Array Slot} {pc : Nat} {rest : List Value} {i xr mr : Nat}
theorem lw_arg (C0 : lw_At p s m meth c b L xs) (hL : L ≤ 2560) (hS : va_S (fun q => s.heap.size ≤ q) s.heap H locs) (hl : lv_has ls 4 [(3, .int (nI i)), (2, .ref mr), (1, .ref xr), (0, .ref b)]) {k : Nat} (hk : k ≤ 4) (hi : i + 5 ≤ L) (hd : lw_da pc (k : Int)) (kk : W p l e room_1 s m #[Value.ref b] below meth c H locs cells slots Q (F0 m (pc + 5) ls (.int (xs (i + k)) :: rest))) : W p l e room_1 s m #[Value.ref b] below meth c H locs cells slots Q (F0 m pc ls rest) := by
  obtain ⟨hx, hb, hr, hml, hown, hts, hX, hbl, hlocks, hgv⟩ := C0
  obtain ⟨d0, d1, d2, d3, d4⟩ := hd
  have hbA : ¬ (fun q : Nat => s.heap.size ≤ q) b := Nat.not_le.mpr hbl
  have hv : Int32.ofInt (k : Int) = nI k := by
    rcases n5 hk with rfl | rfl | rfl | rfl | rfl <;> decide +kernel
  refine lv_aload_n hx hb d0 rfl (lv_at hl 3 rfl) ?_
  refine lv_iload_n hx hb d1 rfl (lv_at hl 0 rfl) ?_
  refine lv_iconst (v := nI k) hx hb d2 hv ?_
  refine lv_iadd hx hb d3 ?_
  rw [nI_add]
  refine va_sld hx hb hX hbl hbA hS (vp_in_nI (by omega) (by omega)) d4 ?_
  rw [nI_clamp (by omega)]
  exact kk
theorem lw_args (C0 : lw_At p s m meth c b L xs) (hL : L ≤ 2560) (hS : va_S (fun q => s.heap.size ≤ q) s.heap H locs) (hl : lv_has ls 4 [(3, .int (nI i)), (2, .ref mr), (1, .ref xr), (0, .ref b)]) (hi : i + 5 ≤ L) {n : Nat} (hn : n ≤ 4) (hd : ∀ j, j < n → lw_da (pc + 5 * j) ((j + 1 : Nat) : Int)) (kk : W p l e room_1 s m #[Value.ref b] below meth c H locs cells slots Q (F0 m (pc + 5 * n) ls ((ag (fun j => xs (i + j)) n).reverse ++ rest))) : W p l e room_1 s m #[Value.ref b] below meth c H locs cells slots Q (F0 m pc ls rest) := by
  rcases n5 hn with rfl | rfl | rfl | rfl | rfl
  · exact kk
  · exact lw_arg C0 hL hS hl (k := 1) (by omega) hi (hd 0 (by omega)) kk
  · refine lw_arg C0 hL hS hl (k := 1) (by omega) hi (hd 0 (by omega)) ?_
    exact lw_arg C0 hL hS hl (k := 2) (by omega) hi (hd 1 (by omega)) kk
  · refine lw_arg C0 hL hS hl (k := 1) (by omega) hi (hd 0 (by omega)) ?_
    refine lw_arg C0 hL hS hl (k := 2) (by omega) hi (hd 1 (by omega)) ?_
    exact lw_arg C0 hL hS hl (k := 3) (by omega) hi (hd 2 (by omega)) kk
  · refine lw_arg C0 hL hS hl (k := 1) (by omega) hi (hd 0 (by omega)) ?_
    refine lw_arg C0 hL hS hl (k := 2) (by omega) hi (hd 1 (by omega)) ?_
    refine lw_arg C0 hL hS hl (k := 3) (by omega) hi (hd 2 (by omega)) ?_
    exact lw_arg C0 hL hS hl (k := 4) (by omega) hi (hd 3 (by omega)) kk
set_option maxHeartbeats 2000000 in
/-- a call of one of our methods by the law -/
theorem lw_call (C0 : lw_At p s m meth c b L xs) (hU : kx_U D cy s) (hinj : ∀ a b, a < 218 → b < 218 → ad a = ad b → a = b) (hAd : ∀ a, a < 218 → s.heap.size ≤ ad a) {mid idx z n a : Nat} {qc : km_N} {as : List Value} {M : km_M} {K : km_K} (hq : kn_m[mid]? = some qc) (hok : lw_okm qc n z = true) (hz7 : z < 7) (hsh : (sh a).1 = z) (hlk : Cond.methodLink R_law idx qc.1 ∈ lw_tbl) (hat : as.map (km_tr ad) = as) (hal : as.length = n) (hC : kC sh kp mid (.ref a :: as) M K) (hP : va_P D vwCl (kv_W sh cy ad 218 M) H) (hS : va_S (fun q => s.heap.size ≤ q) s.heap H locs) (hls : ls.size = 4) (hrest : (rest.map fun v => v.category).sum ≤ 8) (hcs : cells ≤ 600000 ∧ slots ≤ 7302250) (hdg : decode code pc = .ok (.invokevirtual idx, 3))
    (kk : ∀ (v : Option Value) (M1 : km_M) (H1 : Heap) (locs1 : List Loc), K v M1 → va_P D vwCl (kv_W sh cy ad 218 M1) H1 → va_S (fun q => s.heap.size ≤ q) s.heap H1 locs1 → W p l e room_1 s m #[Value.ref b] below meth c H1 locs1 cells slots Q (F0 m (pc + 3) ls ((v.map (km_tr ad)).toList ++ rest))) : W p l e room_1 s m #[Value.ref b] below meth c H locs cells slots Q (F0 m pc ls (as.reverse ++ .ref (ad a) :: rest)) := by
  obtain ⟨hx, hb, hr, hml, hown, hts, hX, hbl, hlocks, hgv⟩ := C0
  have htg : ∀ w ∈ kw_gd, w.before #[Value.ref b] s = true := fun w hw => hts w (List.mem_filter.mp hw).1
  have hM := kC_met (l := l) (D := D) (cy := cy) (ad := ad) sh_in hinj kp_ok hq hC
  unfold lw_okm at hok
  simp only [Bool.and_eq_true, Bool.not_eq_true', decide_eq_true_eq] at hok
  obtain ⟨hy9, hst9, hcl9, hh9⟩ := hok
  have hy9 := Nat.eq_of_beq_eq_true hy9
  have hh9 := Nat.le_of_ble_eq_true hh9
  have ha : a < 218 := sh_in a (by omega)
  have hws := kn_w qc (List.mem_of_getElem? hq)
  have hds := kn_d qc (List.mem_of_getElem? hq)
  unfold kn_ws at hws
  unfold kn_ds at hds
  rw [hst9] at hws hds
  simp only [Bool.and_eq_true, decide_eq_true_eq] at hds
  obtain ⟨⟨⟨⟨⟨hd1, hd2⟩, hd3⟩, hd4⟩, hd5⟩, hd6⟩ := hds
  have hd6 := Nat.le_of_ble_eq_true hd6
  have he := kv_at (sh := sh) (cy := cy) (ad := ad) (M := M) ha
  rw [kv_E_obj hsh hz7] at he
  have hrun := va_runV (p := p) (e := e) (R := room_1) (below := below) (meth := meth) (H := H) (locs := locs) (cells := cells) (slots := slots) (g := F0 m pc ls (as.reverse ++ .ref (ad a) :: rest)) (As := as) (rest := rest) (C := qc.1.cls) (Ts := kw_gd) ⟨hx, hb, hml, hown, htg⟩ hM
    ⟨callB_of n htg (kq_good (q := qc) ⟨hws.1, hws.2.1, by rw [hst9]; exact hws.2.2.1, by rw [hst9]; exact hws.2.2.2⟩) rfl rfl rfl (htg _ (kw_g hws.2.1 rfl)) (hts _ hlk) ⟨hd2, hd3, by rw [hd5, hy9]; rfl⟩ ⟨by show qc.2.2.2.2.2.2.2 + 1 ≤ 11; omega, by show 8 + (qc.2.2.1 + 11) + 40 * qc.2.2.2.2.2.2.2 ≤ 430; omega⟩, htg _ (kw_g hws.2.2.1 rfl), htg _ (kw_g hws.2.2.2 rfl)⟩
    ⟨fun a9 U g mk q9 => ⟨q9.1, q9.2.1, q9.2.2.calling g mk a9⟩, by rw [hcl9]; exact va_recv hU.1 hP (kn_at_ok z hz7) he, fun U hU9 hW => ⟨by show (Value.ref (ad a) :: as).toArray = (Value.ref (ad a) :: as.map (km_tr ad)).toArray; rw [hat], by rw [hU9]; exact hP, hU.warm hW⟩⟩
    rfl hal hls rfl (lv_room hrest) hdg ⟨hcs.1, hcs.2⟩
  intro T hT X
  obtain ⟨v, st₀, t, T', L', h0, X', hLf, e1, e2, ⟨⟨v', M', hv, hKv, hP1⟩, hz9, hk9⟩, st⟩ := hrun T hT X
  cases hv
  rw [h0] at hz9 hk9
  have hf : ∀ x, kq_A ad 218 x → s.heap.size ≤ x := fun x hx => by
    obtain ⟨a1, h1, rfl⟩ := hx
    exact hAd a1 h1
  have hS1 : va_S (fun q => s.heap.size ≤ q) s.heap T'.heap (locs ++ L') := ⟨Nat.le_trans hS.1 (by rw [e1]; exact hz9), fun x h1 h2 => by rw [e1, hk9 x (Nat.lt_of_lt_of_le h1 hS.1) (fun h9 => h2 (hf x h9))]; exact hS.2.1 x h1 h2, fun x hx => by
      rcases List.mem_append.mp hx with h | h
      · exact hS.2.2 x h
      · exact hf _ (hLf x h)⟩
  obtain ⟨t2, a1, b1⟩ := kk v' M' T'.heap (locs ++ L') hKv (by rw [e1]; exact hP1) hS1 T' rfl X'
  exact ⟨t2, st t2 a1, b1⟩
/-- what stands through the loop -/
def lw_E (p : Program) (s : State) (m : MethodId) (meth : Method) (c : Code) (b L : Nat) (xs : Nat → Int32) (D : va_G) (cy : kv_Y) (ad : Nat → Nat) : Prop := lw_At p s m meth c b L xs ∧ L ≤ 2560 ∧ kx_U D cy s ∧ (∀ a b, a < 218 → b < 218 → ad a = ad b → a = b) ∧ ∀ a, a < 218 → s.heap.size ≤ ad a
/-- class and reference hold one state -/
def lw_K (s : State) (D : va_G) (cy : kv_Y) (ad : Nat → Nat) (H : Heap) (locs : List Loc) (st : ast) : Prop := sw st ∧ va_S (fun q => s.heap.size ≤ q) s.heap H locs ∧ ∃ (I : Nat → Nat → Int32) (Lg : Nat → Nat → Int64) (q : Nat → Nat) (w : Bool) (r1 r2 : Nat → Nat), cI I Lg q w r1 r2 st ∧ mI I st ∧ va_P D vwCl (kv_W sh cy ad 218 (I, Lg, kr q w r1 r2)) H
set_option maxHeartbeats 2000000 in
/-- class and reference are called: one answer, one state -/
theorem lw_two (E : lw_E p s m meth c b L xs D cy ad) (hi : i + 5 ≤ L) {st : ast} (hK : lw_K s D cy ad H locs st) (hl : lv_has ls 4 [(3, .int (nI i)), (2, .ref (ad 71)), (1, .ref (ad 0)), (0, .ref b)]) (hcs : cells ≤ 600000 ∧ slots ≤ 7302250) {n ix iy : Nat} (hd : lw_d2 pc n ix iy) (hn : n ≤ 4) {mx my : Nat} {qx qy : km_N} (hqx : kn_m[mx]? = some qx) (hqy : kn_m[my]? = some qy) (okx : lw_okm qx n 5 = true) (oky : lw_okm qy n 6 = true) (hlx : Cond.methodLink R_law ix qx.1 ∈ lw_tbl) (hly : Cond.methodLink R_law iy qy.1 ∈ lw_tbl) (o : ast → Value × ast) (hc2 : (o st).1.category ≤ 2) (hnr : km_tr ad (o st).1 = (o st).1)
    (hX : ∀ (I : Nat → Nat → Int32) (Lg : Nat → Nat → Int64) (q : Nat → Nat) (w : Bool) (r1 r2 : Nat → Nat) (s : ast), sw s → cI I Lg q w r1 r2 s → kC sh kp mx (.ref 0 :: ag (fun j => xs (i + j)) n) (I, Lg, kr q w r1 r2) (cP (o s).2 (some (o s).1) I Lg))
    (hY : ∀ (I : Nat → Nat → Int32) (Lg : Nat → Nat → Int64) (q : Nat → Nat) (w : Bool) (r1 r2 : Nat → Nat) (s : ast), sw s → mI I s → kC sh kp my (.ref 71 :: ag (fun j => xs (i + j)) n) (I, Lg, kr q w r1 r2) (mP (o s).2 (some (o s).1) I Lg (kr q w r1 r2)))
    (hW : ∀ s : ast, sw s → sw (o s).2)
    (kk : ∀ (H1 : Heap) (locs1 : List Loc), lw_K s D cy ad H1 locs1 (o st).2 → W p l e room_1 s m #[Value.ref b] below meth c H1 locs1 cells slots Q (F0 m (pc + 1 + 5 * n + 3 + 1 + 5 * n + 3) ls [(o st).1, (o st).1])) : W p l e room_1 s m #[Value.ref b] below meth c H locs cells slots Q (F0 m pc ls []) := by
  obtain ⟨C0, hL, hU, hinj, hAd⟩ := E
  obtain ⟨hsw, hS, I, Lg, q, w, r1, r2, hcI, hmI, hP⟩ := hK
  obtain ⟨d0, d1, d2, d3, d4, d5⟩ := hd
  have hx := C0.1
  have hb := C0.2.1
  refine lv_aload_n hx hb d0 rfl (lv_at hl 2 rfl) ?_
  refine lw_args C0 hL hS hl hi hn d1 ?_
  refine lw_call (a := 0) C0 hU hinj hAd hqx okx (by decide) rfl hlx (ag_tr hn) (ag_len hn) (hX I Lg q w r1 r2 st hsw hcI) hP hS hl.1 (by decide) hcs d2 (fun v M1 H1 locs1 hv hP1 hS1 => ?_)
  obtain ⟨I1, L1, q1, w1, r11, r21, rfl, rfl, hc1, hf1⟩ := hv
  have hm1 := mI_M hmI hf1
  show W p l e room_1 s m #[Value.ref b] below meth c H1 locs1 cells slots Q (F0 m (pc + 1 + 5 * n + 3) ls [km_tr ad (o st).1])
  rw [hnr]
  refine lv_aload_n hx hb d3 rfl (lv_at hl 1 rfl) ?_
  refine lw_args C0 hL hS1 hl hi hn d4 ?_
  refine lw_call (a := 71) C0 hU hinj hAd hqy oky (by decide) rfl hly (ag_tr hn) (ag_len hn) (hY I1 L1 q1 w1 r11 r21 st hsw hm1) hP1 hS1 hl.1 (by show (o st).1.category + 0 ≤ 8; omega) hcs d5 (fun v2 M2 H2 locs2 hv2 hP2 hS2 => ?_)
  obtain ⟨I2, L2, rfl, rfl, hm2, hf2⟩ := hv2
  show W p l e room_1 s m #[Value.ref b] below meth c H2 locs2 cells slots Q (F0 m (pc + 1 + 5 * n + 3 + 1 + 5 * n + 3) ls [km_tr ad (o st).1, (o st).1])
  rw [hnr]
  have hs2 := hW st hsw
  exact kk H2 locs2 ⟨hs2, hS2, I2, L2, q1, w1, r11, r21, cI_X hs2.2.1 hc1 hf2, hm2, hP2⟩
/-- ints compared -/
theorem lw_case (E : lw_E p s m meth c b L xs D cy ad) (hi : i + 5 ≤ L) {st : ast} (hK : lw_K s D cy ad H locs st) (hl : lv_has ls 4 [(3, .int (nI i)), (2, .ref (ad 71)), (1, .ref (ad 0)), (0, .ref b)]) (hcs : cells ≤ 600000 ∧ slots ≤ 7302250) {n ix iy : Nat} {off : Int} (hd : lw_d2 pc n ix iy) (hn : n ≤ 4) (hj : decode code (pc + 1 + 5 * n + 3 + 1 + 5 * n + 3) = .ok (.if_icmp .eq off, 3) ∧ ((pc + 1 + 5 * n + 3 + 1 + 5 * n + 3 : Nat) : Int) + off = ((1159 : Nat) : Int)) {mx my : Nat} {qx qy : km_N} (hqx : kn_m[mx]? = some qx) (hqy : kn_m[my]? = some qy) (okx : lw_okm qx n 5 = true) (oky : lw_okm qy n 6 = true) (hlx : Cond.methodLink R_law ix qx.1 ∈ lw_tbl) (hly : Cond.methodLink R_law iy qy.1 ∈ lw_tbl) (o : ast → Int32 × ast)
    (hX : ∀ (I : Nat → Nat → Int32) (Lg : Nat → Nat → Int64) (q : Nat → Nat) (w : Bool) (r1 r2 : Nat → Nat) (s : ast), sw s → cI I Lg q w r1 r2 s → kC sh kp mx (.ref 0 :: ag (fun j => xs (i + j)) n) (I, Lg, kr q w r1 r2) (cT (o s) I Lg))
    (hY : ∀ (I : Nat → Nat → Int32) (Lg : Nat → Nat → Int64) (q : Nat → Nat) (w : Bool) (r1 r2 : Nat → Nat) (s : ast), sw s → mI I s → kC sh kp my (.ref 71 :: ag (fun j => xs (i + j)) n) (I, Lg, kr q w r1 r2) (mT (o s) I Lg (kr q w r1 r2)))
    (hW : ∀ s : ast, sw s → sw (o s).2)
    (kk : ∀ (H1 : Heap) (locs1 : List Loc) (st1 : ast), lw_K s D cy ad H1 locs1 st1 → W p l e room_1 s m #[Value.ref b] below meth c H1 locs1 cells slots Q (F0 m 1159 ls [])) : W p l e room_1 s m #[Value.ref b] below meth c H locs cells slots Q (F0 m pc ls []) := by
  refine lw_two E hi hK hl hcs hd hn hqx hqy okx oky hlx hly (fun s => (.int (o s).1, (o s).2)) (show 1 ≤ 2 by decide) rfl hX hY hW (fun H1 locs1 hK1 => ?_)
  exact lv_icmp_eq E.1.1 E.1.2.1 hj.1 hj.2 (fun _ => kk H1 locs1 _ hK1) (fun h => absurd rfl h)
/-- longs compared -/
theorem lw_caseL (E : lw_E p s m meth c b L xs D cy ad) (hi : i + 5 ≤ L) {st : ast} (hK : lw_K s D cy ad H locs st) (hl : lv_has ls 4 [(3, .int (nI i)), (2, .ref (ad 71)), (1, .ref (ad 0)), (0, .ref b)]) (hcs : cells ≤ 600000 ∧ slots ≤ 7302250) {n ix iy : Nat} {off : Int} (hd : lw_d2 pc n ix iy) (hn : n ≤ 4) (hj : decode code (pc + 1 + 5 * n + 3 + 1 + 5 * n + 3) = .ok (.lcmp, 1) ∧ decode code (pc + 1 + 5 * n + 3 + 1 + 5 * n + 3 + 1) = .ok (.ifCond .eq off, 3) ∧ ((pc + 1 + 5 * n + 3 + 1 + 5 * n + 3 + 1 : Nat) : Int) + off = ((1159 : Nat) : Int)) {mx my : Nat} {qx qy : km_N} (hqx : kn_m[mx]? = some qx) (hqy : kn_m[my]? = some qy) (okx : lw_okm qx n 5 = true) (oky : lw_okm qy n 6 = true) (hlx : Cond.methodLink R_law ix qx.1 ∈ lw_tbl) (hly : Cond.methodLink R_law iy qy.1 ∈ lw_tbl) (o : ast → Int64 × ast)
    (hX : ∀ (I : Nat → Nat → Int32) (Lg : Nat → Nat → Int64) (q : Nat → Nat) (w : Bool) (r1 r2 : Nat → Nat) (s : ast), sw s → cI I Lg q w r1 r2 s → kC sh kp mx (.ref 0 :: ag (fun j => xs (i + j)) n) (I, Lg, kr q w r1 r2) (cTL (o s) I Lg))
    (hY : ∀ (I : Nat → Nat → Int32) (Lg : Nat → Nat → Int64) (q : Nat → Nat) (w : Bool) (r1 r2 : Nat → Nat) (s : ast), sw s → mI I s → kC sh kp my (.ref 71 :: ag (fun j => xs (i + j)) n) (I, Lg, kr q w r1 r2) (mTL (o s) I Lg (kr q w r1 r2)))
    (hW : ∀ s : ast, sw s → sw (o s).2)
    (kk : ∀ (H1 : Heap) (locs1 : List Loc) (st1 : ast), lw_K s D cy ad H1 locs1 st1 → W p l e room_1 s m #[Value.ref b] below meth c H1 locs1 cells slots Q (F0 m 1159 ls [])) : W p l e room_1 s m #[Value.ref b] below meth c H locs cells slots Q (F0 m pc ls []) := by
  refine lw_two E hi hK hl hcs hd hn hqx hqy okx oky hlx hly (fun s => (.long (o s).1, (o s).2)) (show 2 ≤ 2 by decide) rfl hX hY hW (fun H1 locs1 hK1 => ?_)
  refine W.lcmp E.1.1 E.1.2.1 hj.1 ?_
  refine lv_if_eq E.1.1 E.1.2.1 hj.2.1 hj.2.2 (fun _ => kk H1 locs1 _ hK1) (fun h => absurd ?_ h)
  unfold lg_cmp
  simp
end LAW
