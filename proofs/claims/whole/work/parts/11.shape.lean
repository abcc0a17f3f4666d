/-! THE CELLS: which object or array lies at which abstract address; the references among them that never change, and those that do -/
def sh_l : List (Nat × Nat) := [(5, 15), (4, 12), (11, 8), (11, 8), (10, 8), (10, 5), (10, 5), (4, 12), (11, 8), (11, 8), (10, 8), (10, 5), (10, 5), (13, 5), (4, 12), (11, 8), (11, 8), (10, 8), (10, 5), (10, 5), (4, 12), (11, 8), (11, 8), (10, 8), (10, 5), (10, 5), (4, 12), (11, 8), (11, 8), (10, 8), (10, 5), (10, 5), (4, 12), (11, 8), (11, 8), (10, 8), (10, 5), (10, 5), (4, 12), (11, 8), (11, 8), (10, 8), (10, 5), (10, 5), (2, 7), (11, 200), (10, 200), (10, 200), (10, 1600), (10, 512), (2, 7), (11, 200), (10, 200), (10, 200), (10, 1600), (10, 512), (0, 7), (10, 64), (14, 64), (10, 64), (14, 64), (11, 64), (3, 6), (10, 252), (10, 252), (10, 8), (10, 8), (1, 5), (10, 120), (10, 4), (10, 4), (6, 30), (10, 212), (10, 1060), (11, 200), (10, 200), (10, 1600), (12, 200), (11, 80), (10, 8), (11, 10), (10, 256), (10, 2560), (10, 8), (10, 8), (12, 1024), (10, 256), (10, 200), (10, 120), (10, 212)]
def sh (a : Nat) : Nat × Nat := cond (Nat.blt a 90) (sh_l.getD a (99, 0)) (cond (Nat.blt a 218) (11, 10) (99, 0))
/-- references that never change -/
def kr_l : List (List Nat) := [[1, 7, 13, 0, 44, 0, 50, 56, 62, 0, 67, 70], [0, 0, 0, 0, 0, 0, 0, 2, 3, 4, 5, 6], [], [], [], [], [], [0, 0, 0, 0, 0, 0, 0, 8, 9, 10, 11, 12], [], [], [], [], [], [], [0, 0, 0, 0, 0, 0, 0, 15, 16, 17, 18, 19], [], [], [], [], [], [0, 0, 0, 0, 0, 0, 0, 21, 22, 23, 24, 25], [], [], [], [], [], [0, 0, 0, 0, 0, 0, 0, 27, 28, 29, 30, 31], [], [], [], [], [], [0, 0, 0, 0, 0, 0, 0, 33, 34, 35, 36, 37], [], [], [], [], [], [0, 0, 0, 0, 0, 0, 0, 39, 40, 41, 42, 43], [], [], [], [], [], [45, 46, 47, 0, 48, 49], [], [], [], [], [], [51, 52, 53, 0, 54, 55], [], [], [], [], [], [0, 0, 0, 0, 0, 0, 61], [], [], [], [], [], [0, 63, 64, 0, 65, 66], [], [], [], [], [68, 0, 0, 0, 69], [], [], [], [72, 73, 0, 0, 0, 0, 0, 0, 0, 74, 75, 76, 77, 78, 79, 80, 0, 81, 82, 83, 84, 85, 0, 86, 87, 0, 88, 0, 0, 89], [], [], [], [], [], [], [], [], [], [], [], [], [], [], [], [], [], []]
/-- all references: q: the kept states; w: whether the invariants' rows are exchanged; r1, r2: the rows of the two grids -/
def kr (q : Nat → Nat) (w : Bool) (r1 r2 : Nat → Nat) (a k : Nat) : Nat :=
  cond (Nat.beq a 13) (q k) (cond (Nat.beq a 58) (r1 k) (cond (Nat.beq a 60) (r2 k) (cond (Nat.beq a 56) (match k with
    | 1 => cond w 59 57
    | 2 => cond w 60 58
    | 4 => cond w 57 59
    | 5 => cond w 58 60
    | _ => 61) ((kr_l.getD a []).getD k 0))))
theorem sh_in : ∀ a, (sh a).1 < 20 → a < 218 := by
  intro a h
  unfold sh at h
  cases h1 : Nat.blt a 90 with
  | true => have := Nat.blt_eq.mp h1; omega
  | false =>
    rw [h1] at h
    cases h2 : Nat.blt a 218 with
    | true => exact Nat.blt_eq.mp h2
    | false => rw [h2] at h; exact absurd (show 99 < 20 from h) (by decide)
/-- a block's code from some place on -/
abbrev kU (mid : Nat) (K : km_K) : List km_I → Nat → km_L → List Value → km_M → Prop := kB sh (kp mid).2.1 kJa (fun pc lv st M => kW sh kp mid pc (km_mask (kMk (kp mid) pc) lv) st M K) K (kC sh kp)
def kV (Q : km_L → List Value → km_M → Prop) : List km_I → km_L → List Value → km_M → Prop
  | [], lv, st, M => Q lv st M
  | it :: r, lv, st, M => match kS sh it lv st M with
    | some (ps, lv', st', M') => km_and ps (kV Q r lv' st' M')
    | none => False
def kPc : Nat → List km_I → Nat
  | pc, [] => pc
  | pc, it :: r => kPc (pc + it.2.1) r
theorem kB_s {rz : Bool} {Jm : km_G → km_M → km_J → Prop} {G : km_G} {Rt : km_K} {Cl : km_C} {it : km_I} {r : List km_I} {pc : Nat} {lv lv' : km_L} {st st' : List Value} {M M' : km_M} {ps : List Prop} (hs : kS sh it lv st M = some (ps, lv', st', M')) (h : km_and ps (kB sh rz Jm G Rt Cl r (pc + it.2.1) lv' st' M')) : kB sh rz Jm G Rt Cl (it :: r) pc lv st M := by
  unfold kB
  rw [hs]
  exact h
theorem kB_s0 {rz : Bool} {Jm : km_G → km_M → km_J → Prop} {G : km_G} {Rt : km_K} {Cl : km_C} {it : km_I} {r : List km_I} {pc : Nat} {lv lv' : km_L} {st st' : List Value} {M M' : km_M} (hs : kS sh it lv st M = some ([], lv', st', M')) (h : kB sh rz Jm G Rt Cl r (pc + it.2.1) lv' st' M') : kB sh rz Jm G Rt Cl (it :: r) pc lv st M := kB_s hs h
theorem kB_s1 {rz : Bool} {Jm : km_G → km_M → km_J → Prop} {G : km_G} {Rt : km_K} {Cl : km_C} {it : km_I} {r : List km_I} {pc : Nat} {lv lv' : km_L} {st st' : List Value} {M M' : km_M} {p1 : Prop} (hs : kS sh it lv st M = some ([p1], lv', st', M')) (h1 : p1) (h : kB sh rz Jm G Rt Cl r (pc + it.2.1) lv' st' M') : kB sh rz Jm G Rt Cl (it :: r) pc lv st M := kB_s hs ⟨h1, h⟩
theorem kB_s2 {rz : Bool} {Jm : km_G → km_M → km_J → Prop} {G : km_G} {Rt : km_K} {Cl : km_C} {it : km_I} {r : List km_I} {pc : Nat} {lv lv' : km_L} {st st' : List Value} {M M' : km_M} {p1 p2 : Prop} (hs : kS sh it lv st M = some ([p1, p2], lv', st', M')) (h1 : p1) (h2 : p2) (h : kB sh rz Jm G Rt Cl r (pc + it.2.1) lv' st' M') : kB sh rz Jm G Rt Cl (it :: r) pc lv st M := kB_s hs ⟨h1, h2, h⟩
theorem kB_s3 {rz : Bool} {Jm : km_G → km_M → km_J → Prop} {G : km_G} {Rt : km_K} {Cl : km_C} {it : km_I} {r : List km_I} {pc : Nat} {lv lv' : km_L} {st st' : List Value} {M M' : km_M} {p1 p2 p3 : Prop} (hs : kS sh it lv st M = some ([p1, p2, p3], lv', st', M')) (h1 : p1) (h2 : p2) (h3 : p3) (h : kB sh rz Jm G Rt Cl r (pc + it.2.1) lv' st' M') : kB sh rz Jm G Rt Cl (it :: r) pc lv st M := kB_s hs ⟨h1, h2, h3, h⟩
theorem kB_cut {rz : Bool} {Jm : km_G → km_M → km_J → Prop} {G : km_G} {Rt : km_K} {Cl : km_C} (cs2 : List km_I) : ∀ (cs1 : List km_I) (pc : Nat) (lv : km_L) (st : List Value) (M : km_M), kV (fun lv st M => kB sh rz Jm G Rt Cl cs2 (kPc pc cs1) lv st M) cs1 lv st M → kB sh rz Jm G Rt Cl (cs1 ++ cs2) pc lv st M
  | [], pc, lv, st, M, h => h
  | it :: r, pc, lv, st, M, h => by
    show kB sh rz Jm G Rt Cl (it :: (r ++ cs2)) pc lv st M
    unfold kV at h
    unfold kB
    cases hs : kS sh it lv st M with
    | none => rw [hs] at h; exact h.elim
    | some q =>
      obtain ⟨ps, lv', st', M'⟩ := q
      rw [hs] at h
      exact km_and_mono (fun h => kB_cut cs2 r _ _ _ _ h) h
