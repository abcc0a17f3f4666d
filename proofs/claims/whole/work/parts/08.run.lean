/-! THE SIMULATION, whole: blocks, branches, calls; a run of the abstract machine is a contract of the method -/
theorem kF_in : ∀ {bs : List km_B} {pc : Nat} {b : km_B}, kF pc bs = some b → b ∈ bs ∧ b.1 = pc
  | [], _, _, h => by cases h
  | b0 :: r, pc, b, h => by
    unfold kF at h
    cases hq : Nat.beq pc b0.1 with
    | true =>
      rw [hq] at h
      cases h
      exact ⟨List.mem_cons_self, (Nat.eq_of_beq_eq_true hq).symm⟩
    | false =>
      rw [hq] at h
      have q := kF_in (bs := r) h
      exact ⟨List.mem_cons_of_mem _ q.1, q.2⟩
theorem kZ_spec : ∀ (n : Nat) (st acc xs s : List Value), kZ n st acc = some (xs, s) → ∃ f, st = f ++ s ∧ f.length = n ∧ xs = f.reverse ++ acc
  | 0, st, acc, xs, s, h => by
    cases h
    exact ⟨[], rfl, rfl, rfl⟩
  | n + 1, [], acc, xs, s, h => by cases h
  | n + 1, v :: r, acc, xs, s, h => by
    obtain ⟨f, h1, h2, h3⟩ := kZ_spec n r (v :: acc) xs s h
    exact ⟨v :: f, by rw [h1]; rfl, by rw [List.length_cons, h2], by rw [h3]; simp⟩
theorem kT_or {G : km_G} {M : km_M} {lv : km_L} {s : List Value} {v : Int32} {d : Nat} : ∀ (t : List (Int32 × Nat)) (ns : List Prop), kJo G M (kT lv s v t d ns) → (∃ k g, (k, g) ∈ t ∧ v = k ∧ G g lv s M) ∨ ((∀ n ∈ ns, n) ∧ (∀ e ∈ t, ¬ v = e.1) ∧ G d lv s M)
  | [], ns, h => by
    rcases h with ⟨h1, h2⟩ | h
    · exact Or.inr ⟨(km_and_iff.mp h1).1, (fun e he => by cases he), h2⟩
    · exact h.elim
  | (k, g) :: r, ns, h => by
    rcases h with ⟨h1, h2⟩ | h
    · exact Or.inl ⟨k, g, List.mem_cons_self, h1, h2⟩
    · rcases kT_or r _ h with ⟨k', g', q1, q2, q3⟩ | ⟨q1, q2, q3⟩
      · exact Or.inl ⟨k', g', List.mem_cons_of_mem _ q1, q2, q3⟩
      · refine Or.inr ⟨fun n hn => q1 n (List.mem_cons_of_mem _ hn), fun e he => ?_, q3⟩
        rcases List.mem_cons.mp he with rfl | he
        · exact q1 _ List.mem_cons_self
        · exact q2 e he
/-- which answer a return gives -/
def kR_c (rt : Option FieldType) : Instr → Bool
  | .ireturn => decide (rt = some .int) || decide (rt = some .boolean)
  | .lreturn => decide (rt = some .long)
  | .return_ => decide (rt = none)
  | .areturn => match rt with
    | some (.object _) => true
    | _ => false
  | _ => true
/-- a block's instructions are those of the code, and mean what they say -/
def kB_ok (cc : ByteArray) (oc h : Nat) (rt : Option FieldType) : Nat → List km_I → Prop
  | _, [] => True
  | pc, it :: r => decode cc pc = .ok (it.1, it.2.1) ∧ kI_c oc h pc it = true ∧ kR_c rt it.1 = true ∧ kB_ok cc oc h rt (pc + it.2.1) r
def kP_ok (P : km_P) (q : km_N) : Prop := P.1 = q.2.2.1 ∧ P.2.1 = decide (q.2.2.2.1 = some .boolean) ∧ ∀ b ∈ P.2.2, kB_ok q.2.1 q.2.2.2.2.1 q.2.2.2.2.2.2.2 q.2.2.2.1 b.1 b.2.2
abbrev kq_ws (q : km_N) : List Cond := Cond.code q.1 q.2.1 q.2.2.1 q.2.2.2.1 :: kw_gd
theorem kq_good {q : km_N} (h : kn_ws q) : GoodIn kw_gd (kq_ws q) := fun w hw => (List.mem_cons.mp hw).elim (fun e => e ▸ kw_good _ (kw_g h.1 rfl)) (kw_good w)
/-- what stands of the tables beside the words: the classes' shapes, the grids' class, the nest mates' links -/
def kx_U (D : va_G) (cy : kv_Y) (U : State) : Prop := va_K D vwCl (kv_tys cy) U ∧ (Cond.arrayOver (.array .long)).before #[] U = true ∧ ∀ oc k x, (oc, k, x, 2) ∈ kw_m → va_Nw (.methodLinkNest (kn_o oc) k (kn_y x) RX6) U
theorem kx_U.warm {D : va_G} {cy : kv_Y} {s U : State} (h : kx_U D cy s) (hW : s.WarmedH U.vm) : kx_U D cy U := ⟨va_K.moved hW.alike h.1, over_moved hW.alike h.2.1, fun oc k x hm => va_Nw.warmM hW (h.2.2 oc k x hm)⟩
theorem kx_U.calling {D : va_G} {cy : kv_Y} {U : State} (h : kx_U D cy U) (g : JFrame) (mk : MethodId) (a : Array Value) : kx_U D cy (U.calling g mk a) := ⟨va_K.moved (u := U) (U := U.calling g mk a) (Vm.Alike.refl U.vm) h.1, over_moved (u := U) (E := U.calling g mk a) (Vm.Alike.refl U.vm) h.2.1, fun oc k x hm => va_Nw.same rfl rfl (h.2.2 oc k x hm)⟩
theorem kQ_ic {cd : ClassFile.Cond} {off : Int} {st s : List Value} {P Q : Prop} (h : kQ (.if_icmp cd off) st = some (P, Q, s)) : ∃ a b : Int32, st = .int b :: .int a :: s ∧ (match cd with
    | .eq => P = (a = b) ∧ Q = (¬ a = b)
    | .ne => P = (¬ a = b) ∧ Q = (a = b)
    | .lt => P = (a < b) ∧ Q = (¬ a < b)
    | .ge => P = (b ≤ a) ∧ Q = (¬ b ≤ a)
    | .gt => P = (b < a) ∧ Q = (¬ b < a)
    | .le => P = (a ≤ b) ∧ Q = (¬ a ≤ b)) := by
  rcases st with _ | ⟨v, r⟩
  · cases cd <;> cases h
  rcases r with _ | ⟨w, r⟩
  · cases cd <;> cases v <;> cases h
  cases v <;> first | (cases cd <;> cases h; done) | (cases w <;> first | (cases cd <;> cases h; done) | (cases cd <;> (cases h; exact ⟨_, _, rfl, rfl, rfl⟩)))
theorem kQ_if {cd : ClassFile.Cond} {off : Int} {st s : List Value} {P Q : Prop} (h : kQ (.ifCond cd off) st = some (P, Q, s)) : ∃ a : Int32, st = .int a :: s ∧ (match cd with
    | .eq => P = (a = 0) ∧ Q = (¬ a = 0)
    | .ne => P = (¬ a = 0) ∧ Q = (a = 0)
    | .lt => P = (a < 0) ∧ Q = (¬ a < 0)
    | .ge => P = (0 ≤ a) ∧ Q = (¬ 0 ≤ a)
    | .gt => P = (0 < a) ∧ Q = (¬ 0 < a)
    | .le => P = (a ≤ 0) ∧ Q = (¬ a ≤ 0)) := by
  rcases st with _ | ⟨v, r⟩
  · cases cd <;> cases h
  cases v <;> first | (cases cd <;> cases h; done) | (cases cd <;> (cases h; exact ⟨_, rfl, rfl, rfl⟩))
theorem kL_off {v : Int32} {dflt : Int} {pc d : Nat} (hdf : (pc : Int) + dflt = (d : Int)) : ∀ (t : List (Int32 × Nat)) (pl : List (Int × Int)), t.length = pl.length → ((t.zip pl).all (fun e => decide (e.1.1.toInt = e.2.1) && decide ((pc : Int) + e.2.2 = (e.1.2 : Int)))) = true →
    (∃ g, (∃ k, (k, g) ∈ t ∧ v = k) ∧ (pc : Int) + Op.lookupswitch.offset pl dflt v.toInt = (g : Int)) ∨ ((∀ e ∈ t, ¬ v = e.1) ∧ (pc : Int) + Op.lookupswitch.offset pl dflt v.toInt = (d : Int))
  | [], [], _, _ => Or.inr ⟨(fun e he => by cases he), hdf⟩
  | (k, g) :: t, (a, o) :: pl, hl, h => by
    simp only [List.zip_cons_cons, List.all_cons, Bool.and_eq_true, decide_eq_true_eq] at h
    obtain ⟨⟨h1, h2⟩, h3⟩ := h
    by_cases hv : v = k
    · refine Or.inl ⟨g, ⟨k, List.mem_cons_self, hv⟩, ?_⟩
      rw [Op.lookupswitch.offset_cons, if_pos (by rw [← h1, hv])]
      exact h2
    · rw [lv_osw hv h1]
      rcases kL_off hdf t pl (by simpa using hl) h3 with ⟨g', ⟨k', q1, q2⟩, q3⟩ | ⟨q1, q2⟩
      · exact Or.inl ⟨g', ⟨k', List.mem_cons_of_mem _ q1, q2⟩, q3⟩
      · refine Or.inr ⟨fun e he => ?_, q2⟩
        rcases List.mem_cons.mp he with rfl | he
        · exact hv
        · exact q1 e he
def kq_A (ad : Nat → Nat) (N : Nat) : Nat → Prop := fun x => ∃ a, a < N ∧ x = ad a
theorem kL_one : ∀ {t : List (Int32 × Nat)}, (t.map Prod.fst).Nodup → ∀ {k k' : Int32} {g g' : Nat}, (k, g) ∈ t → (k', g') ∈ t → k = k' → g = g'
  | [], _, _, _, _, _, h, _, _ => by cases h
  | (a, b) :: r, hn, k, k', g, g', h1, h2, e => by
    rw [List.map_cons, List.nodup_cons] at hn
    subst e
    rcases List.mem_cons.mp h1 with e1 | h1
    · rcases List.mem_cons.mp h2 with e2 | h2
      · cases e1; cases e2; rfl
      · cases e1
        exact absurd (List.mem_map.mpr ⟨_, h2, rfl⟩) hn.1
    · rcases List.mem_cons.mp h2 with e2 | h2
      · cases e2
        exact absurd (List.mem_map.mpr ⟨_, h1, rfl⟩) hn.1
      · exact kL_one hn.2 h1 h2 rfl
/-- a call of a static method: what was decided of it -/
theorem kI_stat {oc h pc idx n x y : Nat} {cv : Int32} {w : Int64} {t : List (Int32 × Nat)} (hc : kI_c oc h pc (.invokestatic idx, n, x, y, 0, cv, w, t) = true) :
    n = 3 ∧ ((oc, idx, x, 1) ∈ kw_m ∨ (oc, idx, x, 2) ∈ kw_m) ∧ ∃ qc, kn_m[x]? = some qc ∧ qc.2.2.2.2.2.1 = y ∧ qc.2.2.2.2.2.2.1 = true ∧ qc.2.2.2.2.2.2.2 < h := by
  simp only [kI_c, Bool.and_eq_true, Bool.or_eq_true, decide_eq_true_eq] at hc
  obtain ⟨⟨hn, -⟩, hkm, hq⟩ := hc
  refine ⟨Nat.eq_of_beq_eq_true hn, hkm, ?_⟩
  cases hqc : kn_m[x]? with
  | none => rw [hqc] at hq; cases hq
  | some qc =>
    rw [hqc] at hq
    simp only [Bool.and_eq_true] at hq
    exact ⟨qc, rfl, Nat.eq_of_beq_eq_true hq.1.1, hq.1.2, Nat.blt_eq.mp hq.2⟩
section RUN
variable {l : Launch} {D : va_G} {sh : Nat → Nat × Nat} {N : Nat} {cy : kv_Y} {ad : Nat → Nat} {pg : Nat → km_P}
def kq_Pc (D : va_G) (sh : Nat → Nat × Nat) (N : Nat) (cy : kv_Y) (ad : Nat → Nat) (as : List Value) (M : km_M) : Array Value → State → Prop := va_Pc (as.map (km_tr ad)) (fun U => va_P D vwCl (kv_W sh cy ad N M) U.heap ∧ kx_U D cy U)
def kq_Qc (D : va_G) (sh : Nat → Nat × Nat) (N : Nat) (cy : kv_Y) (ad : Nat → Nat) (K : km_K) : Array Value → State → Outcome → State → Prop := fun _ st oc t => (∃ v M1, oc = .returned (v.map (km_tr ad)) ∧ K v M1 ∧ va_P D vwCl (kv_W sh cy ad N M1) t.heap) ∧ va_F (kq_A ad N) st t
theorem kq_D (hinj : ∀ a b, a < N → b < N → ad a = ad b → a = b) (M : km_M) : va_D (kq_A ad N) (kv_W sh cy ad N M) := by
  have hi : ∀ (i : Nat) (q : Nat × va_E), (kv_W sh cy ad N M)[i]? = some q → i < N ∧ q.1 = ad i := fun i q h => by
    have hl := (List.getElem?_eq_some_iff.mp h).1
    have hN : i < N := by
      unfold kv_W at hl
      rw [List.length_map, List.length_range] at hl
      exact hl
    rw [kv_at hN] at h
    cases h
    exact ⟨hN, rfl⟩
  refine ⟨fun i j x y hx hy e => ?_, fun i x hx => ?_⟩
  · obtain ⟨h1, h2⟩ := hi i x hx
    obtain ⟨h3, h4⟩ := hi j y hy
    exact hinj i j h1 h3 (by rw [← h2, ← h4, e])
  · obtain ⟨h1, h2⟩ := hi i x hx
    exact ⟨i, h1, h2⟩
/-- what a walk of one method stands on -/
def kq_At (p : Program) (s : State) (m : MethodId) (args : Array Value) (meth : Method) (c : Code) (q : km_N) : Prop :=
  p.tables.exec = Jvm.exec ∧ c.code = q.2.1 ∧ c.maxLocals = q.2.2.1 ∧ meth.sig.returnType = q.2.2.2.1 ∧ meth.locks = false ∧ s.vm.findClass (kn_o q.2.2.2.2.1) = some m.cls ∧ (∀ w ∈ kw_gd, w.before args s = true)
/-- contracts by fuel -/
def kq_B (l : Launch) (D : va_G) (sh : Nat → Nat × Nat) (N : Nat) (cy : kv_Y) (ad : Nat → Nat) (pg : Nat → km_P) (f : Nat) : Prop :=
  ∀ (mid : Nat) (q : km_N), kn_m[mid]? = some q → ∀ (as : List Value) (M : km_M) (K : km_K), Nat.ble (km_wd as) (pg mid).1 = true → kG sh pg f mid 0 (kIn (pg mid) as) [] M K →
    Met l q.1 (kq_ws q) (kR q.2.2.2.2.2.2.2) (kq_Pc D sh N cy ad as M) (kq_Qc D sh N cy ad K) 0 0 (kq_A ad N)
section ACT
variable {p : Program} {e : Env} {s : State} {m : MethodId} {args : Array Value} {below : List Frame} {meth : Method} {c : Code} {q : km_N} {K : km_K}
abbrev kq_W (l : Launch) (D : va_G) (sh : Nat → Nat × Nat) (N : Nat) (cy : kv_Y) (ad : Nat → Nat) (p : Program) (e : Env) (s : State) (m : MethodId) (args : Array Value) (below : List Frame) (meth : Method) (c : Code) (q : km_N) (K : km_K) (H : Heap) (locs : List Loc) (g : JFrame) : Prop :=
  W p l e (kR q.2.2.2.2.2.2.2) s m args below meth c H locs 0 0 (MQ below (kq_Qc D sh N cy ad K) args s 0 0 (kq_A ad N)) g
/-- a jump's target is walked -/
def kq_G (l : Launch) (D : va_G) (sh : Nat → Nat × Nat) (N : Nat) (cy : kv_Y) (ad : Nat → Nat) (p : Program) (e : Env) (s : State) (m : MethodId) (args : Array Value) (below : List Frame) (meth : Method) (c : Code) (q : km_N) (K : km_K) (G : km_G) : Prop :=
  ∀ (pc : Nat) (lv : km_L) (st : List Value) (M : km_M) (H : Heap) (locs : List Loc) (ls : Array Slot), G pc lv st M → va_P D vwCl (kv_W sh cy ad N M) H → va_S (kq_A ad N) s.heap H locs → kv_L ad q.2.2.1 lv ls → kq_W l D sh N cy ad p e s m args below meth c q K H locs (F0 m pc ls (st.map (km_tr ad)))
theorem kq_end {H : Heap} {locs : List Loc} {M : km_M} {v : Option Value} (hv : K v M) (hP : va_P D vwCl (kv_W sh cy ad N M) H) (hS : va_S (kq_A ad N) s.heap H locs) :
    ∀ t : State, t.heap = H → s.WarmedH t.vm → kq_Qc D sh N cy ad K args s (.returned (v.map (km_tr ad))) t := fun t ht hW =>
  ⟨⟨v, M, rfl, hv, by rw [ht]; exact hP⟩, hS.F ht⟩
set_option maxHeartbeats 2000000 in
/-- a call, done -/
theorem kq_call {mid : Nat} {qc : km_N} (hq : kn_m[mid]? = some qc) {as rest : List Value} {vr : Option Value} {M1 : km_M} {pc : Nat} {lv : km_L} {H : Heap} {locs : List Loc} {ls : Array Slot} {st0 : List Value} {G : km_G}
    (hG : kq_G l D sh N cy ad p e s m args below meth c q K G) (hg : G (pc + 3) lv (vr.toList ++ rest) M1) (hS : va_S (kq_A ad N) s.heap H locs) (hL : kv_L ad q.2.2.1 lv ls)
    (hr : va_Run p l e (kR q.2.2.2.2.2.2.2) s m args below meth c H locs 0 0 0 0 (F0 m pc ls st0) (rest.map (km_tr ad)) (kq_Qc D sh N cy ad (kEq vr M1) (as.map (km_tr ad)).toArray) (kq_A ad N)) :
    kq_W l D sh N cy ad p e s m args below meth c q K H locs (F0 m pc ls st0) := by
  intro T hT X
  obtain ⟨v, st₀, t, T', L, h0, X', hLf, e1, e2, ⟨⟨v', M', hv, ⟨ev, eM⟩, hP1⟩, hz, hk⟩, st⟩ := hr T hT X
  subst ev
  subst eM
  cases hv
  rw [h0] at hz hk
  have hS1 : va_S (kq_A ad N) s.heap T'.heap (locs ++ L) := ⟨Nat.le_trans hS.1 (by rw [e1]; exact hz), fun x h1 h2 => by rw [e1, hk x (Nat.lt_of_lt_of_le h1 hS.1) h2]; exact hS.2.1 x h1 h2, fun x hx => by
      rcases List.mem_append.mp hx with h | h
      · exact hS.2.2 x h
      · exact hLf x h⟩
  have hw := hG (pc + 3) lv (v'.toList ++ rest) M' T'.heap (locs ++ L) ls hg (by rw [e1]; exact hP1) hS1 hL
  obtain ⟨t2, a1, b1⟩ := hw T' rfl X'
  refine ⟨t2, st t2 ?_, b1⟩
  have es : (v'.toList ++ rest).map (km_tr ad) = (v'.map (km_tr ad)).toList ++ rest.map (km_tr ad) := by
    cases v' <;> simp
  rw [es] at a1
  exact a1
set_option maxHeartbeats 4000000 in
/-- the end of a block: it goes on, branches, returns or calls -/
theorem kO_sim (hN : ∀ a, (sh a).1 < 20 → a < N) {f : Nat} (hB : kq_B l D sh N cy ad pg f) (hpg : ∀ mid qc, kn_m[mid]? = some qc → kP_ok (pg mid) qc) (hA : kq_At p s m args meth c q) (hU : kx_U D cy s)
    {G : km_G} (hG : kq_G l D sh N cy ad p e s m args below meth c q K G) {it : km_I} {pc : Nat} {lv : km_L} {st : List Value} {M : km_M} {o : km_O}
    (hd : decode q.2.1 pc = .ok (it.1, it.2.1)) (hc : kI_c q.2.2.2.2.1 q.2.2.2.2.2.2.2 pc it = true) (hr : kR_c q.2.2.2.1 it.1 = true)
    (ho : kO sh (decide (q.2.2.2.1 = some .boolean)) it pc lv st = some o)
    (h : kX kJo G K (fun m as M' K' => Nat.ble (km_wd as) (pg m).1 = true ∧ ∃ v M1, kG sh pg f m 0 (kIn (pg m) as) [] M' (kEq v M1) ∧ K' v M1) o M)
    {H : Heap} {locs : List Loc} {ls : Array Slot} (hP : va_P D vwCl (kv_W sh cy ad N M) H) (hS : va_S (kq_A ad N) s.heap H locs) (hL : kv_L ad q.2.2.1 lv ls) :
    kq_W l D sh N cy ad p e s m args below meth c q K H locs (F0 m pc ls (st.map (km_tr ad))) := by
  obtain ⟨hx, hb, hml, hrt, hlocks, hown, hts⟩ := hA
  obtain ⟨i, n, x, y, z, cv, w, t⟩ := it
  unfold kO at ho
  dsimp only at ho hd hr
  split at ho
  · -- goto
    simp only [kI_c, Bool.and_eq_true, decide_eq_true_eq] at hc
    obtain ⟨hn, hg⟩ := hc
    have hn := Nat.eq_of_beq_eq_true hn
    subst hn
    cases ho
    exact lv_goto hx hb hd hg (hG _ _ _ _ _ _ _ h hP hS hL)
  · -- if_icmp
    simp only [kI_c, Bool.and_eq_true, decide_eq_true_eq] at hc
    obtain ⟨hn, hg⟩ := hc
    have hn := Nat.eq_of_beq_eq_true hn
    subst hn
    rename_i cond off
    split at ho
    · rename_i P Q' s9 hq
      cases ho
      have h : (P ∧ G x lv s9 M) ∨ ((Q' ∧ G (pc + 3) lv s9 M) ∨ False) := h
      obtain ⟨a, b, rfl, ee⟩ := kQ_ic hq
      cases cond with
      | eq =>
        obtain ⟨rfl, rfl⟩ := ee
        rcases h with ⟨h1, h2⟩ | (⟨h1, h2⟩ | h)
        · exact lv_icmp_eq hx hb hd hg (fun _ => hG _ _ _ _ _ _ _ h2 hP hS hL) (fun h9 => absurd h1 h9)
        · exact lv_icmp_eq hx hb hd hg (fun h9 => absurd h9 h1) (fun _ => hG _ _ _ _ _ _ _ h2 hP hS hL)
        · exact h.elim
      | ne =>
        obtain ⟨rfl, rfl⟩ := ee
        rcases h with ⟨h1, h2⟩ | (⟨h1, h2⟩ | h)
        · exact lv_icmp_ne hx hb hd hg (fun _ => hG _ _ _ _ _ _ _ h2 hP hS hL) (fun h9 => absurd h9 h1)
        · exact lv_icmp_ne hx hb hd hg (fun h9 => absurd h1 h9) (fun _ => hG _ _ _ _ _ _ _ h2 hP hS hL)
        · exact h.elim
      | lt =>
        obtain ⟨rfl, rfl⟩ := ee
        rcases h with ⟨h1, h2⟩ | (⟨h1, h2⟩ | h)
        · exact lv_icmp_lt hx hb hd hg (fun _ => hG _ _ _ _ _ _ _ h2 hP hS hL) (fun h9 => absurd h1 h9)
        · exact lv_icmp_lt hx hb hd hg (fun h9 => absurd h9 h1) (fun _ => hG _ _ _ _ _ _ _ h2 hP hS hL)
        · exact h.elim
      | ge =>
        obtain ⟨rfl, rfl⟩ := ee
        rcases h with ⟨h1, h2⟩ | (⟨h1, h2⟩ | h)
        · exact lv_icmp_ge hx hb hd hg (fun _ => hG _ _ _ _ _ _ _ h2 hP hS hL) (fun h9 => absurd h1 h9)
        · exact lv_icmp_ge hx hb hd hg (fun h9 => absurd h9 h1) (fun _ => hG _ _ _ _ _ _ _ h2 hP hS hL)
        · exact h.elim
      | gt =>
        obtain ⟨rfl, rfl⟩ := ee
        rcases h with ⟨h1, h2⟩ | (⟨h1, h2⟩ | h)
        · exact lv_icmp_gt hx hb hd hg (fun _ => hG _ _ _ _ _ _ _ h2 hP hS hL) (fun h9 => absurd h1 h9)
        · exact lv_icmp_gt hx hb hd hg (fun h9 => absurd h9 h1) (fun _ => hG _ _ _ _ _ _ _ h2 hP hS hL)
        · exact h.elim
      | le =>
        obtain ⟨rfl, rfl⟩ := ee
        rcases h with ⟨h1, h2⟩ | (⟨h1, h2⟩ | h)
        · exact lv_icmp_le hx hb hd hg (fun _ => hG _ _ _ _ _ _ _ h2 hP hS hL) (fun h9 => absurd h1 h9)
        · exact lv_icmp_le hx hb hd hg (fun h9 => absurd h9 h1) (fun _ => hG _ _ _ _ _ _ _ h2 hP hS hL)
        · exact h.elim
    · cases ho
  · -- ifCond
    simp only [kI_c, Bool.and_eq_true, decide_eq_true_eq] at hc
    obtain ⟨hn, hg⟩ := hc
    have hn := Nat.eq_of_beq_eq_true hn
    subst hn
    rename_i cond off
    split at ho
    · rename_i P Q' s9 hq
      cases ho
      have h : (P ∧ G x lv s9 M) ∨ ((Q' ∧ G (pc + 3) lv s9 M) ∨ False) := h
      obtain ⟨a, rfl, ee⟩ := kQ_if hq
      cases cond with
      | eq =>
        obtain ⟨rfl, rfl⟩ := ee
        rcases h with ⟨h1, h2⟩ | (⟨h1, h2⟩ | h)
        · exact lv_if_eq hx hb hd hg (fun _ => hG _ _ _ _ _ _ _ h2 hP hS hL) (fun h9 => absurd h1 h9)
        · exact lv_if_eq hx hb hd hg (fun h9 => absurd h9 h1) (fun _ => hG _ _ _ _ _ _ _ h2 hP hS hL)
        · exact h.elim
      | ne =>
        obtain ⟨rfl, rfl⟩ := ee
        rcases h with ⟨h1, h2⟩ | (⟨h1, h2⟩ | h)
        · exact lv_if_ne hx hb hd hg (fun _ => hG _ _ _ _ _ _ _ h2 hP hS hL) (fun h9 => absurd h9 h1)
        · exact lv_if_ne hx hb hd hg (fun h9 => absurd h1 h9) (fun _ => hG _ _ _ _ _ _ _ h2 hP hS hL)
        · exact h.elim
      | lt =>
        obtain ⟨rfl, rfl⟩ := ee
        rcases h with ⟨h1, h2⟩ | (⟨h1, h2⟩ | h)
        · exact lv_if_lt hx hb hd hg (fun _ => hG _ _ _ _ _ _ _ h2 hP hS hL) (fun h9 => absurd h1 h9)
        · exact lv_if_lt hx hb hd hg (fun h9 => absurd h9 h1) (fun _ => hG _ _ _ _ _ _ _ h2 hP hS hL)
        · exact h.elim
      | ge =>
        obtain ⟨rfl, rfl⟩ := ee
        rcases h with ⟨h1, h2⟩ | (⟨h1, h2⟩ | h)
        · exact lv_if_ge hx hb hd hg (fun _ => hG _ _ _ _ _ _ _ h2 hP hS hL) (fun h9 => absurd h1 h9)
        · exact lv_if_ge hx hb hd hg (fun h9 => absurd h9 h1) (fun _ => hG _ _ _ _ _ _ _ h2 hP hS hL)
        · exact h.elim
      | gt =>
        obtain ⟨rfl, rfl⟩ := ee
        rcases h with ⟨h1, h2⟩ | (⟨h1, h2⟩ | h)
        · exact lv_if_gt hx hb hd hg (fun _ => hG _ _ _ _ _ _ _ h2 hP hS hL) (fun h9 => absurd h1 h9)
        · exact lv_if_gt hx hb hd hg (fun h9 => absurd h9 h1) (fun _ => hG _ _ _ _ _ _ _ h2 hP hS hL)
        · exact h.elim
      | le =>
        obtain ⟨rfl, rfl⟩ := ee
        rcases h with ⟨h1, h2⟩ | (⟨h1, h2⟩ | h)
        · exact lv_if_le hx hb hd hg (fun _ => hG _ _ _ _ _ _ _ h2 hP hS hL) (fun h9 => absurd h1 h9)
        · exact lv_if_le hx hb hd hg (fun h9 => absurd h9 h1) (fun _ => hG _ _ _ _ _ _ _ h2 hP hS hL)
        · exact h.elim
    · cases ho
  · -- tableswitch
    rename_i dflt lo hi offs
    simp only [kI_c, Bool.and_eq_true, decide_eq_true_eq, List.all_eq_true, List.mem_range] at hc
    obtain ⟨⟨⟨⟨⟨hdf, hlo⟩, hhi⟩, hlen⟩, hsz⟩, hall⟩ := hc
    have hsz := Nat.blt_eq.mp hsz
    split at ho
    · rename_i v s9
      cases ho
      rcases kT_or t [] h with ⟨k, g, h1, h2, h3⟩ | ⟨-, h1, h3⟩
      · obtain ⟨j, hj⟩ := List.getElem?_of_mem h1
        have hjl : j < offs.size := by rw [← hlen]; exact (List.getElem?_eq_some_iff.mp hj).1
        have ha := hall j hjl
        rw [hj] at ha
        cases hoj : offs[j]? with
        | none => rw [hoj] at ha; exact absurd ha (by simp)
        | some o9 =>
          rw [hoj] at ha
          simp only [Bool.and_eq_true, decide_eq_true_eq] at ha
          obtain ⟨ha1, ha2⟩ := ha
          have hv : v.toInt = lo + (j : Int) := by
            rw [h2, ha1]
            have h6 := nI_toInt (n := lo.toNat + j) (by omega)
            unfold nI at h6
            rw [h6]
            omega
          exact lv_tableIn hx hb hd (by omega) (by omega) (off := o9) (by rw [show (v.toInt - lo).toNat = j by omega]; exact hoj) ha2 (hG _ _ _ _ _ _ _ h3 hP hS hL)
      · refine lv_tableOut hx hb hd ?_ hdf (hG _ _ _ _ _ _ _ h3 hP hS hL)
        by_cases hv0 : v.toInt < lo
        · exact Or.inl hv0
        · refine Or.inr ?_
          refine Int.not_le.mp fun hle => ?_
          obtain ⟨j, hj⟩ : ∃ j : Nat, v.toInt = lo + (j : Int) := ⟨(v.toInt - lo).toNat, by omega⟩
          have hjl : j < offs.size := by omega
          have ha := hall j hjl
          have hjt : j < t.length := by rw [hlen]; exact hjl
          cases htj : t[j]? with
          | none => exact absurd (List.getElem?_eq_none_iff.mp htj) (by omega)
          | some e9 =>
            obtain ⟨k, g⟩ := e9
            rw [htj] at ha
            cases hoj : offs[j]? with
            | none => rw [hoj] at ha; exact absurd ha (by simp)
            | some o9 =>
              rw [hoj] at ha
              simp only [Bool.and_eq_true, decide_eq_true_eq] at ha
              refine h1 (k, g) (List.mem_of_getElem? htj) ?_
              show v = k
              rw [ha.1]
              exact Int32.toInt_inj.mp (by have h6 := nI_toInt (n := lo.toNat + j) (by omega); unfold nI at h6; rw [h6, hj]; omega)
    · cases ho
  · -- lookupswitch
    rename_i dflt pr
    simp only [kI_c, Bool.and_eq_true, decide_eq_true_eq] at hc
    obtain ⟨⟨⟨⟨hdf, hsort⟩, hlen⟩, hnd⟩, hall⟩ := hc
    split at ho
    · rename_i v s9
      cases ho
      have hj := kT_or t [] h
      rcases kL_off hdf t pr.toList hlen hall with ⟨g, ⟨k, q1, q2⟩, q3⟩ | ⟨q1, q2⟩
      · rcases hj with ⟨k', g', r1, r2, r3⟩ | ⟨r0, r1, r2⟩
        · have eg : g' = g := kL_one hnd r1 q1 (r2.symm.trans q2)
          subst eg
          exact lv_lookup hx hb hd hsort rfl q3 (hG _ _ _ _ _ _ _ r3 hP hS hL)
        · exact absurd (by assumption : v = k) (r1 (k, g) q1)
      · rcases hj with ⟨k', g', r1, r2, r3⟩ | ⟨-, r1, r2⟩
        · exact absurd r2 (q1 (k', g') r1)
        · exact lv_lookup hx hb hd hsort rfl q2 (hG _ _ _ _ _ _ _ r2 hP hS hL)
    · cases ho
  · -- ireturn
    split at ho
    · rename_i v
      split at ho
      · rename_i hrz
        cases ho
        have h : (v = 0 ∨ v = 1) ∧ K (some (.int v)) M := h
        have hn : n = 1 := Nat.eq_of_beq_eq_true hc
        subst hn
        exact W.zret hx hb (hrt.trans (of_decide_eq_true hrz)) (kv_nar h.1).2.1 (kq_end (v := some (.int v)) h.2 hP hS) hS.2.2 hd hlocks
      · rename_i hrz
        cases ho
        have h : K (some (.int v)) M := h
        have hn : n = 1 := Nat.eq_of_beq_eq_true hc
        subst hn
        have hri : q.2.2.2.1 = some .int := by
          simp only [kR_c, Bool.or_eq_true, decide_eq_true_eq] at hr
          exact hr.resolve_right (of_decide_eq_false hrz)
        exact W.iret hx hb (hrt.trans hri) (kq_end (v := some (.int v)) h hP hS) hS.2.2 hd hlocks
    · cases ho
  · -- lreturn
    split at ho
    · rename_i v
      cases ho
      have h : K (some (.long v)) M := h
      have hn : n = 1 := Nat.eq_of_beq_eq_true hc
      subst hn
      have hri : q.2.2.2.1 = some .long := by
        simp only [kR_c, decide_eq_true_eq] at hr
        exact hr
      exact W.lret hx hb (hrt.trans hri) (kq_end (v := some (.long v)) h hP hS) hS.2.2 hd hlocks
    · cases ho
  · -- areturn
    split at ho
    · rename_i v
      cases ho
      have h : K (some (.ref v)) M := h
      have hn : n = 1 := Nat.eq_of_beq_eq_true hc
      subst hn
      obtain ⟨C9, hri⟩ : ∃ C9, q.2.2.2.1 = some (.object C9) := by
        unfold kR_c at hr
        dsimp only at hr
        split at hr
        · rename_i C9 e9
          exact ⟨C9, e9⟩
        · cases hr
      exact W.aret (v := .ref (ad v)) hx hb (hrt.trans hri) (Or.inl ⟨C9, rfl⟩) (Or.inr ⟨_, rfl⟩) (kq_end (v := some (.ref v)) h hP hS) hS.2.2 hd hlocks
    · cases ho
  · -- return
    split at ho
    · cases ho
      have h : K none M := h
      have hn : n = 1 := Nat.eq_of_beq_eq_true hc
      subst hn
      have hri : q.2.2.2.1 = none := by
        simp only [kR_c, decide_eq_true_eq] at hr
        exact hr
      exact W.vret hx hb (hrt.trans hri) (kq_end (v := none) h hP hS) hS.2.2 hd hlocks
    · cases ho
  · -- invokevirtual
    rename_i idx
    split at ho
    · rename_i a as s9 hz
      split at ho
      · rename_i hw
        cases ho
        obtain ⟨hsh, hbl, vr, M1, hg1, hg2⟩ := (h : (sh a).1 = z ∧ Nat.ble (km_wd (.ref a :: as)) (pg x).1 = true ∧ ∃ v M1, kG sh pg f x 0 (kIn (pg x) (.ref a :: as)) [] M (kEq v M1) ∧ G (pc + n) lv (v.toList ++ s9) M1)
        simp only [kI_c, Bool.and_eq_true, decide_eq_true_eq] at hc
        obtain ⟨⟨hn, hkm⟩, hq9⟩ := hc
        have hn := Nat.eq_of_beq_eq_true hn
        subst hn
        cases hqc : kn_m[x]? with
        | none => rw [hqc] at hq9; cases hq9
        | some qc =>
          rw [hqc] at hq9
          simp only [Bool.and_eq_true, decide_eq_true_eq, Bool.not_eq_true'] at hq9
          obtain ⟨⟨⟨⟨⟨hy9, hst9⟩, hh9⟩, hcl9⟩, hz9⟩, hy0⟩ := hq9
          have hy9 := Nat.eq_of_beq_eq_true hy9
          have hh9 := Nat.blt_eq.mp hh9
          have hz9 := Nat.blt_eq.mp hz9
          have hy0 := Nat.blt_eq.mp hy0
          have hws := kn_w qc (List.mem_of_getElem? hqc)
          have hds := kn_d qc (List.mem_of_getElem? hqc)
          unfold kn_ws at hws
          unfold kn_ds at hds
          rw [hst9] at hws hds
          simp only [Bool.and_eq_true, decide_eq_true_eq] at hds
          obtain ⟨⟨⟨⟨⟨hd1, hd2⟩, hd3⟩, hd4⟩, hd5⟩, hd6⟩ := hds
          have hd6 := Nat.le_of_ble_eq_true hd6
          obtain ⟨fr, e1, e2, e3⟩ := kZ_spec _ _ _ _ _ hz
          rw [List.append_nil] at e3
          have efr : fr = as.reverse ++ [.ref a] := by
            have := congrArg List.reverse e3
            rw [List.reverse_reverse, List.reverse_cons] at this
            exact this.symm
          have est : st.map (km_tr ad) = (as.map (km_tr ad)).reverse ++ .ref (ad a) :: s9.map (km_tr ad) := by
            rw [e1, efr]
            simp [km_tr]
          have hal : as.length = y - 1 := by
            have := congrArg List.length e3
            rw [List.length_reverse, e2, List.length_cons] at this
            omega
          have ha : a < N := hN a (by omega)
          have he := kv_at (sh := sh) (cy := cy) (ad := ad) (M := M) ha
          rw [kv_E_obj hsh hz9] at he
          have hkl : Cond.methodLink (kn_o q.2.2.2.2.1) idx qc.1 ∈ lw_tbl := by
            have h8 := kw_m_ok _ hkm
            have h7 : kn_y x = qc.1 := by unfold kn_y; rw [hqc]
            simp only [h7] at h8
            exact h8
          have hM := hB x qc hqc (.ref a :: as) M (kEq vr M1) hbl hg1
          rw [est]
          refine kq_call hqc (as := .ref a :: as) hG hg2 hS hL ?_
          exact va_runV (As := as.map (km_tr ad)) (C := qc.1.cls) (Ts := kw_gd) ⟨hx, hb, hml, hown, hts⟩ hM
            ⟨callB_of (y - 1) hts (kq_good (q := qc) ⟨hws.1, hws.2.1, by rw [hst9]; exact hws.2.2.1, by rw [hst9]; exact hws.2.2.2⟩) rfl rfl rfl (hts _ (kw_g hws.2.1 rfl)) (hts _ (kw_g hkl rfl)) ⟨hd2, hd3, by rw [hd5, hy9]⟩ ⟨hh9, by show 8 + (qc.2.2.1 + 11) + 40 * qc.2.2.2.2.2.2.2 ≤ 40 * q.2.2.2.2.2.2.2; omega⟩, hts _ (kw_g hws.2.2.1 rfl), hts _ (kw_g hws.2.2.2 rfl)⟩
            ⟨fun a9 U g mk q9 => ⟨q9.1, q9.2.1, q9.2.2.calling g mk a9⟩, by rw [hcl9]; exact va_recv hU.1 hP (kn_at_ok z hz9) he, fun U hU9 hW => ⟨rfl, by rw [hU9]; exact hP, hU.warm hW⟩⟩
            rfl (by rw [List.length_map]; exact hal) hL.2.1 rfl (lv_room (by rw [km_wd_cat]; exact Nat.le_of_ble_eq_true hw)) hd ⟨Nat.le_refl 0, Nat.le_refl 0⟩
      · cases ho
    · cases ho
  · -- invokestatic
    rename_i idx
    split at ho
    rotate_left
    · cases ho
    split at ho
    · rename_i as s9 hz
      split at ho
      · rename_i hw
        cases ho
        obtain ⟨hbl, vr, M1, hg1, hg2⟩ := (h : Nat.ble (km_wd as) (pg x).1 = true ∧ ∃ v M1, kG sh pg f x 0 (kIn (pg x) as) [] M (kEq v M1) ∧ G (pc + n) lv (v.toList ++ s9) M1)
        obtain ⟨hn, hkm, qc, hqc, hy9, hst9, hh9⟩ := kI_stat hc
        subst hn
        have hws := kn_w qc (List.mem_of_getElem? hqc)
        have hds := kn_d qc (List.mem_of_getElem? hqc)
        have hg9 := kq_good (q := qc) hws
        unfold kn_ws at hws
        unfold kn_ds at hds
        rw [hst9] at hws hds
        simp only [Bool.and_eq_true, decide_eq_true_eq] at hds
        obtain ⟨⟨⟨⟨⟨hd1, hd2⟩, hd3⟩, hd4⟩, hd5⟩, hd6⟩ := hds
        have hd6 := Nat.le_of_ble_eq_true hd6
        obtain ⟨fr, e1, e2, e3⟩ := kZ_spec _ _ _ _ _ hz
        rw [List.append_nil] at e3
        have efr : fr = as.reverse := by
          have := congrArg List.reverse e3
          rw [List.reverse_reverse] at this
          exact this.symm
        have est : st.map (km_tr ad) = (as.map (km_tr ad)).reverse ++ s9.map (km_tr ad) := by
          rw [e1, efr]
          simp
        have hal : as.length = y := by
          have := congrArg List.length e3
          rw [List.length_reverse, e2] at this
          exact this
        have h7 : kn_y x = qc.1 := by unfold kn_y; rw [hqc]
        have hM := hB x qc hqc as M (kEq vr M1) hbl hg1
        rw [est]
        refine kq_call hqc (as := as) hG hg2 hS hL ?_
        have hpre : PreS s H (kq_Pc D sh N cy ad as M) (as.map (km_tr ad)) := ⟨fun a9 U g mk q9 => ⟨q9.1, q9.2.1, q9.2.2.calling g mk a9⟩, fun U hU9 hW => ⟨rfl, by rw [hU9]; exact hP, hU.warm hW⟩⟩
        have hrm : (kR qc.2.2.2.2.2.2.2).frames + 1 ≤ (kR q.2.2.2.2.2.2.2).frames ∧ 8 + (qc.2.2.1 + 11) + (kR qc.2.2.2.2.2.2.2).locals ≤ (kR q.2.2.2.2.2.2.2).locals := ⟨hh9, by show 8 + (qc.2.2.1 + 11) + 40 * qc.2.2.2.2.2.2.2 ≤ 40 * q.2.2.2.2.2.2.2; omega⟩
        rcases hkm with hkm | hkm
        · have hkl : Cond.methodLink (kn_o q.2.2.2.2.1) idx qc.1 ∈ lw_tbl := by
            have h8 := kw_m_ok _ hkm
            simp only [h7] at h8
            exact h8
          exact va_runS (As := as.map (km_tr ad)) (Ts := kw_gd) ⟨hx, hb, hml, hown, hts⟩ hM
            ⟨callB_of y hts hg9 rfl rfl rfl (hts _ (kw_g hws.2.1 rfl)) (hts _ (kw_g hkl rfl)) ⟨hd2, hd3, by rw [hd5, hy9]⟩ hrm, hts _ (kw_g hws.2.2.1 rfl)⟩
            hpre rfl (by rw [List.length_map]; exact hal) hL.2.1 rfl (lv_room (by rw [km_wd_cat]; exact Nat.le_of_ble_eq_true hw)) hd ⟨Nat.le_refl 0, Nat.le_refl 0⟩
        · have hnw := hU.2.2 _ _ _ hkm
          rw [h7] at hnw
          exact va_runSN (As := as.map (km_tr ad)) (Ts := kw_gd) ⟨hx, hb, hml, hown, hts⟩ hM
            ⟨va_cnB y hts hg9 rfl rfl rfl hnw (hts _ (kw_g hws.2.1 rfl)) ⟨hd2, hd3, by rw [hd5, hy9]⟩ hrm, hts _ (kw_g hws.2.2.1 rfl), trivial⟩
            hpre rfl (by rw [List.length_map]; exact hal) hL.2.1 rfl (lv_room (by rw [km_wd_cat]; exact Nat.le_of_ble_eq_true hw)) hd ⟨Nat.le_refl 0, Nat.le_refl 0⟩
      · cases ho
    · cases ho
  · cases ho
set_option maxHeartbeats 1000000 in
/-- a block is walked -/
theorem kB_sim (hN : ∀ a, (sh a).1 < 20 → a < N) (hinj : ∀ a b, a < N → b < N → ad a = ad b → a = b) {f : Nat} (hB : kq_B l D sh N cy ad pg f) (hpg : ∀ mid qc, kn_m[mid]? = some qc → kP_ok (pg mid) qc) (hA : kq_At p s m args meth c q) (hU : kx_U D cy s)
    {G : km_G} (hG : kq_G l D sh N cy ad p e s m args below meth c q K G) : ∀ (cs : List km_I) (pc : Nat) (lv : km_L) (st : List Value) (M : km_M),
    kB_ok q.2.1 q.2.2.2.2.1 q.2.2.2.2.2.2.2 q.2.2.2.1 pc cs →
    kB sh (decide (q.2.2.2.1 = some .boolean)) kJo G K (fun m as M' K' => Nat.ble (km_wd as) (pg m).1 = true ∧ ∃ v M1, kG sh pg f m 0 (kIn (pg m) as) [] M' (kEq v M1) ∧ K' v M1) cs pc lv st M →
    ∀ (H : Heap) (locs : List Loc) (ls : Array Slot), va_P D vwCl (kv_W sh cy ad N M) H → va_S (kq_A ad N) s.heap H locs → kv_L ad q.2.2.1 lv ls →
    kq_W l D sh N cy ad p e s m args below meth c q K H locs (F0 m pc ls (st.map (km_tr ad)))
  | [], pc, lv, st, M, _, h, H, locs, ls, hP, hS, hL => hG _ _ _ _ _ _ _ h hP hS hL
  | it :: r, pc, lv, st, M, hk, h, H, locs, ls, hP, hS, hL => by
    unfold kB at h
    obtain ⟨k1, k2, k3, k4⟩ := hk
    cases hs : kS sh it lv st M with
    | some o =>
      obtain ⟨ps, lv', st', M'⟩ := o
      rw [hs] at h
      have h := km_and_iff.mp h
      have hA2 := hA
      obtain ⟨hx, hb, hml, hrt, hlocks, hown, hts⟩ := hA
      have hov : (Cond.arrayOver (.array .long)).before args s = true := over_moved (u := s) (E := s) (Vm.Alike.refl s.vm) hU.2.1
      exact kS_sim hN hx hb hml hown hts hov hU.1 k1 k2 hs h.1 hP (kq_D hinj M) hS hL (fun H' locs' ls' hP' _ hS' hL' => kB_sim hN hinj hB hpg hA2 hU hG r _ _ _ _ k4 h.2 H' locs' ls' hP' hS' hL')
    | none =>
      rw [hs] at h
      cases ho : kO sh (decide (q.2.2.2.1 = some .boolean)) it pc lv st with
      | none => rw [ho] at h; exact h.elim
      | some o =>
        rw [ho] at h
        exact kO_sim hN hB hpg hA hU hG k1 k2 k3 ho h hP hS hL
end ACT
/-- contracts by fuel, out of the walks by fuel -/
theorem kq_B_of (hpg : ∀ mid qc, kn_m[mid]? = some qc → kP_ok (pg mid) qc) {f : Nat}
    (hW : ∀ (mid : Nat) (q : km_N), kn_m[mid]? = some q → ∀ (p : Program) (e : Env) (s : State) (m : MethodId) (args : Array Value) (below : List Frame) (meth : Method) (c : Code), kq_At p s m args meth c q → kx_U D cy s → ∀ K : km_K, kq_G l D sh N cy ad p e s m args below meth c q K (fun pc lv st M => kG sh pg f mid pc lv st M K)) : kq_B l D sh N cy ad pg f := by
  intro mid q hq as M K hbl h
  have hds := kn_d q (List.mem_of_getElem? hq)
  unfold kn_ds at hds
  simp only [Bool.and_eq_true, decide_eq_true_eq] at hds
  obtain ⟨⟨⟨⟨⟨hd1, hd2⟩, hd3⟩, hd4⟩, hd5⟩, hd6⟩ := hds
  refine Met.ofW (cc := q.2.1) (maxL := q.2.2.1) (ret := q.2.2.2.1) hd1 rfl ?_
  intro p e s m args below meth c s₁ B hml hv
  obtain ⟨rfl, hP, hU⟩ := hv
  have hts0 := atoms_spec (ws := kq_ws q) B.pre
  have hown : s.vm.findClass (kn_o q.2.2.2.2.1) = some m.cls := by
    rw [← hd4]
    exact findClass_of_methodNamed B.named
  have hA : kq_At p s m (as.map (km_tr ad)).toArray meth c q := ⟨B.exec, B.bytes, hml, B.returns, B.notSynchronized, hown, fun w hw => hts0 w (List.mem_cons_of_mem _ hw)⟩
  rw [lg_entry_eq]
  have hp := hpg mid q hq
  have hL := kv_L.entry (ad := ad) (P := pg mid) (as := as) (Nat.le_of_ble_eq_true hbl)
  rw [hp.1] at hL
  exact hW mid q hq p e s m _ below meth c hA hU K 0 _ [] M s.heap [] _ h hP va_S.rf hL
/-- THE SIMULATION: every run of the abstract machine is a walk of the machine -/
theorem kq_all (hN : ∀ a, (sh a).1 < 20 → a < N) (hinj : ∀ a b, a < N → b < N → ad a = ad b → a = b) (hpg : ∀ mid qc, kn_m[mid]? = some qc → kP_ok (pg mid) qc) : ∀ (f : Nat),
    ∀ (mid : Nat) (q : km_N), kn_m[mid]? = some q → ∀ (p : Program) (e : Env) (s : State) (m : MethodId) (args : Array Value) (below : List Frame) (meth : Method) (c : Code), kq_At p s m args meth c q → kx_U D cy s → ∀ K : km_K, kq_G l D sh N cy ad p e s m args below meth c q K (fun pc lv st M => kG sh pg f mid pc lv st M K)
  | 0 => by
    intro mid q hq p e s m args below meth c hA hU K pc lv st M H locs ls h
    exact h.elim
  | f + 1 => by
    intro mid q hq p e s m args below meth c hA hU K pc lv st M H locs ls h hP hS hL
    have ih := kq_all hN hinj hpg f
    have hB := kq_B_of (l := l) (D := D) (sh := sh) (N := N) (cy := cy) (ad := ad) (pg := pg) hpg (f := f) ih
    unfold kG at h
    cases hb : kF pc (pg mid).2.2 with
    | none => rw [hb] at h; exact h.elim
    | some b =>
      rw [hb] at h
      have hp := hpg mid q hq
      obtain ⟨h1, h2⟩ := kF_in hb
      have hk := hp.2.2 b h1
      rw [h2] at hk
      rw [hp.2.1] at h
      exact kB_sim hN hinj hB hpg hA hU (G := fun pc lv st M => kG sh pg f mid pc (km_mask (kMk (pg mid) pc) lv) st M K) (fun pc lv st M H locs ls g hP hS hL => ih mid q hq p e s m args below meth c hA hU K pc _ st M H locs ls g hP hS (hL.mask _)) b.2.2 pc lv st M hk h H locs ls hP hS hL
/-- a method's contract, out of kC -/
theorem kC_met (hN : ∀ a, (sh a).1 < 20 → a < N) (hinj : ∀ a b, a < N → b < N → ad a = ad b → a = b) (hpg : ∀ mid qc, kn_m[mid]? = some qc → kP_ok (pg mid) qc) {mid : Nat} {q : km_N} (hq : kn_m[mid]? = some q) {as : List Value} {M : km_M} {K : km_K} (h : kC sh pg mid as M K) :
    Met l q.1 (kq_ws q) (kR q.2.2.2.2.2.2.2) (kq_Pc D sh N cy ad as M) (kq_Qc D sh N cy ad K) 0 0 (kq_A ad N) := by
  obtain ⟨h1, f, h2⟩ := h
  exact kq_B_of hpg (kq_all hN hinj hpg f) mid q hq as M K h1 h2
end RUN
