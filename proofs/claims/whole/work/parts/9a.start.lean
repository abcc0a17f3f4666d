/-! THE FIRST MEMORY: what the constructors have made, as cells of the abstract memory; every cell of it is made, none twice; what class and reference hold of it (printed by wip/whole/gen/first.py) -/
def i00 (a : Nat) : Nat → Int32 := cond (Nat.beq a 67) (fun k => cond (Nat.beq k 2) (-1) 0) (fun _ => 0)
def l00 (_ : Nat) : Nat → Int64 := fun _ => 0
def q00 (i : Nat) : Nat := 14 + 6 * i
def r10 (i : Nat) : Nat := 90 + i
def r20 (i : Nat) : Nat := 154 + i
def m00 : km_M := (i00, l00, kr q00 false r10 r20)
def adL (v1 v2 v3 v4 v5 v6 v7 v8 v9 v10 v11 v12 v13 : Nat → Nat) (x0 kq ro : Nat) : List Nat := [x0, v1 0, v1 1, v1 2, v1 3, v1 4, v1 5, v2 0, v2 1, v2 2, v2 3, v2 4, v2 5, kq, v8 0, v8 1, v8 2, v8 3, v8 4, v8 5, v9 0, v9 1, v9 2, v9 3, v9 4, v9 5, v10 0, v10 1, v10 2, v10 3, v10 4, v10 5, v11 0, v11 1, v11 2, v11 3, v11 4, v11 5, v12 0, v12 1, v12 2, v12 3, v12 4, v12 5, v3 0, v3 1, v3 2, v3 3, v3 4, v3 5, v4 0, v4 1, v4 2, v4 3, v4 4, v4 5, v5 0, v5 1, v5 2, v5 3, v5 4, v5 5, v6 0, v6 1, v6 2, v6 3, v6 4, v7 0, v7 1, v7 2, ro, v13 0, v13 1, v13 2, v13 3, v13 4, v13 5, v13 6, v13 7, v13 8, v13 9, v13 10, v13 11, v13 12, v13 13, v13 14, v13 15, v13 16, v13 17, v13 18]
def ad0 (v1 v2 v3 v4 v5 v6 v7 v8 v9 v10 v11 v12 v13 : Nat → Nat) (x0 kq ro : Nat) (a : Nat) : Nat := cond (Nat.blt a 90) ((adL v1 v2 v3 v4 v5 v6 v7 v8 v9 v10 v11 v12 v13 x0 kq ro).getD a 0) (cond (Nat.blt a 154) (v5 2 + 1 + (a - 90)) (v5 4 + 1 + (a - 154)))
def psL : List Nat := [0, 1, 2, 3, 4, 5, 6, 7, 8, 9, 10, 11, 12, 13, 169, 170, 171, 172, 173, 174, 175, 176, 177, 178, 179, 180, 181, 182, 183, 184, 185, 186, 187, 188, 189, 190, 191, 192, 193, 194, 195, 196, 197, 198, 14, 15, 16, 17, 18, 19, 20, 21, 22, 23, 24, 25, 26, 27, 28, 93, 94, 159, 160, 161, 162, 163, 164, 165, 166, 167, 168, 199, 200, 201, 202, 203, 204, 205, 206, 207, 208, 209, 210, 211, 212, 213, 214, 215, 216, 217]
def ps0 (a : Nat) : Nat := cond (Nat.blt a 90) (psL.getD a 0) (cond (Nat.blt a 154) (29 + (a - 90)) (95 + (a - 154)))
def ws1 (cy : kv_Y) (v1 v2 v3 v4 v5 v6 v7 v8 v9 v10 v11 v12 : Nat → Nat) (x0 kq ro : Nat) : va_W := (x0, .inr (5, [.ref (v1 0), .ref (v2 0), .ref kq, .int 0, .ref (v3 0), .int 0, .ref (v4 0), .ref (v5 0), .ref (v6 0), .int 0, .ref (v7 0), .ref ro, .int 0, .int 0, .int 0])) :: ((ofB (blSt cy v1) ++ ofB (blSt cy v2)) ++ ((kq, .inl (cy.2.2.2.1, 5, .inr (.inr (.inr (.inr (va_up (va_up (va_up (va_up (va_up (fun _ => none) 0 (some (v8 0))) 1 (some (v9 0))) 2 (some (v10 0))) 3 (some (v11 0))) 4 (some (v12 0)))))))) :: ([] ++ ofB (blSe cy v3) ++ ofB (blSe cy v4) ++ ofB (blIv cy v5) ++ ofB (blSi cy v6) ++ ofB (blRd cy v7) ++ [(ro, .inl (cy.1, 4, .inl (fun _ => 0)))] ++ ofB (blSt cy v8) ++ ofB (blSt cy v9) ++ ofB (blSt cy v10) ++ ofB (blSt cy v11) ++ ofB (blSt cy v12))))
def wsT (cy : kv_Y) (v1 v2 v3 v4 v5 v6 v7 v8 v9 v10 v11 v12 v13 : Nat → Nat) (x0 kq ro : Nat) : va_W := ws1 cy v1 v2 v3 v4 v5 v6 v7 v8 v9 v10 v11 v12 x0 kq ro ++ ofB (blMd cy v13)
def ivL : List Nat := [0, 1, 2, 3, 4, 5, 6, 7, 8, 9, 10, 11, 12, 13, 44, 45, 46, 47, 48, 49, 50, 51, 52, 53, 54, 55, 56, 57, 58, 90, 91, 92, 93, 94, 95, 96, 97, 98, 99, 100, 101, 102, 103, 104, 105, 106, 107, 108, 109, 110, 111, 112, 113, 114, 115, 116, 117, 118, 119, 120, 121, 122, 123, 124, 125, 126, 127, 128, 129, 130, 131, 132, 133, 134, 135, 136, 137, 138, 139, 140, 141, 142, 143, 144, 145, 146, 147, 148, 149, 150, 151, 152, 153, 59, 60, 154, 155, 156, 157, 158, 159, 160, 161, 162, 163, 164, 165, 166, 167, 168, 169, 170, 171, 172, 173, 174, 175, 176, 177, 178, 179, 180, 181, 182, 183, 184, 185, 186, 187, 188, 189, 190, 191, 192, 193, 194, 195, 196, 197, 198, 199, 200, 201, 202, 203, 204, 205, 206, 207, 208, 209, 210, 211, 212, 213, 214, 215, 216, 217, 61, 62, 63, 64, 65, 66, 67, 68, 69, 70, 14, 15, 16, 17, 18, 19, 20, 21, 22, 23, 24, 25, 26, 27, 28, 29, 30, 31, 32, 33, 34, 35, 36, 37, 38, 39, 40, 41, 42, 43, 71, 72, 73, 74, 75, 76, 77, 78, 79, 80, 81, 82, 83, 84, 85, 86, 87, 88, 89]
theorem ps_inv : ∀ a, a < 218 → ivL.getD (ps0 a) 0 = a := by decide +kernel
def ent (cy : kv_Y) (ad : Nat → Nat) (a : Nat) : Nat × va_E := (ad a, kv_E sh cy ad m00 a)
theorem arrV_cg {cA : ClassId} {N : Nat} {f g : Nat → Value} (h : ∀ j, j < N → f j = g j) : arrV cA N f = arrV cA N g := by
  have e : (fun j : Fin N => f j.val) = fun j : Fin N => g j.val := funext fun j => h j.val j.isLt
  unfold arrV
  rw [e]
section ENT
variable {cy : kv_Y} {ad v : Nat → Nat}
set_option maxRecDepth 100000 in
theorem e_1 (h : ∀ k, k < 6 → ad (1 + k) = v k) : ofB (blSt cy v) = [1, 2, 3, 4, 5, 6].map (ent cy ad) := by
  unfold ofB blSt
  rw [← h 0 (by decide), ← h 1 (by decide), ← h 2 (by decide), ← h 3 (by decide), ← h 4 (by decide), ← h 5 (by decide)]
  rfl
set_option maxRecDepth 100000 in
theorem e_7 (h : ∀ k, k < 6 → ad (7 + k) = v k) : ofB (blSt cy v) = [7, 8, 9, 10, 11, 12].map (ent cy ad) := by
  unfold ofB blSt
  rw [← h 0 (by decide), ← h 1 (by decide), ← h 2 (by decide), ← h 3 (by decide), ← h 4 (by decide), ← h 5 (by decide)]
  rfl
set_option maxRecDepth 100000 in
theorem e_44 (h : ∀ k, k < 6 → ad (44 + k) = v k) : ofB (blSe cy v) = [44, 45, 46, 47, 48, 49].map (ent cy ad) := by
  unfold ofB blSe
  rw [← h 0 (by decide), ← h 1 (by decide), ← h 2 (by decide), ← h 3 (by decide), ← h 4 (by decide), ← h 5 (by decide)]
  rfl
set_option maxRecDepth 100000 in
theorem e_50 (h : ∀ k, k < 6 → ad (50 + k) = v k) : ofB (blSe cy v) = [50, 51, 52, 53, 54, 55].map (ent cy ad) := by
  unfold ofB blSe
  rw [← h 0 (by decide), ← h 1 (by decide), ← h 2 (by decide), ← h 3 (by decide), ← h 4 (by decide), ← h 5 (by decide)]
  rfl
set_option maxRecDepth 100000 in
theorem e_62 (h : ∀ k, k < 5 → ad (62 + k) = v k) : ofB (blSi cy v) = [62, 63, 64, 65, 66].map (ent cy ad) := by
  unfold ofB blSi
  rw [← h 0 (by decide), ← h 1 (by decide), ← h 2 (by decide), ← h 3 (by decide), ← h 4 (by decide)]
  rfl
set_option maxRecDepth 100000 in
theorem e_67 (h : ∀ k, k < 3 → ad (67 + k) = v k) : ofB (blRd cy v) = [67, 68, 69].map (ent cy ad) := by
  unfold ofB blRd
  rw [← h 0 (by decide), ← h 1 (by decide), ← h 2 (by decide)]
  rfl
set_option maxRecDepth 100000 in
theorem e_14 (h : ∀ k, k < 6 → ad (14 + k) = v k) : ofB (blSt cy v) = [14, 15, 16, 17, 18, 19].map (ent cy ad) := by
  unfold ofB blSt
  rw [← h 0 (by decide), ← h 1 (by decide), ← h 2 (by decide), ← h 3 (by decide), ← h 4 (by decide), ← h 5 (by decide)]
  rfl
set_option maxRecDepth 100000 in
theorem e_20 (h : ∀ k, k < 6 → ad (20 + k) = v k) : ofB (blSt cy v) = [20, 21, 22, 23, 24, 25].map (ent cy ad) := by
  unfold ofB blSt
  rw [← h 0 (by decide), ← h 1 (by decide), ← h 2 (by decide), ← h 3 (by decide), ← h 4 (by decide), ← h 5 (by decide)]
  rfl
set_option maxRecDepth 100000 in
theorem e_26 (h : ∀ k, k < 6 → ad (26 + k) = v k) : ofB (blSt cy v) = [26, 27, 28, 29, 30, 31].map (ent cy ad) := by
  unfold ofB blSt
  rw [← h 0 (by decide), ← h 1 (by decide), ← h 2 (by decide), ← h 3 (by decide), ← h 4 (by decide), ← h 5 (by decide)]
  rfl
set_option maxRecDepth 100000 in
theorem e_32 (h : ∀ k, k < 6 → ad (32 + k) = v k) : ofB (blSt cy v) = [32, 33, 34, 35, 36, 37].map (ent cy ad) := by
  unfold ofB blSt
  rw [← h 0 (by decide), ← h 1 (by decide), ← h 2 (by decide), ← h 3 (by decide), ← h 4 (by decide), ← h 5 (by decide)]
  rfl
set_option maxRecDepth 100000 in
theorem e_38 (h : ∀ k, k < 6 → ad (38 + k) = v k) : ofB (blSt cy v) = [38, 39, 40, 41, 42, 43].map (ent cy ad) := by
  unfold ofB blSt
  rw [← h 0 (by decide), ← h 1 (by decide), ← h 2 (by decide), ← h 3 (by decide), ← h 4 (by decide), ← h 5 (by decide)]
  rfl
set_option maxRecDepth 100000 in
theorem e_71 (h : ∀ k, k < 19 → ad (71 + k) = v k) : ofB (blMd cy v) = [71, 72, 73, 74, 75, 76, 77, 78, 79, 80, 81, 82, 83, 84, 85, 86, 87, 88, 89].map (ent cy ad) := by
  unfold ofB blMd
  rw [← h 0 (by decide), ← h 1 (by decide), ← h 2 (by decide), ← h 3 (by decide), ← h 4 (by decide), ← h 5 (by decide), ← h 6 (by decide), ← h 7 (by decide), ← h 8 (by decide), ← h 9 (by decide), ← h 10 (by decide), ← h 11 (by decide), ← h 12 (by decide), ← h 13 (by decide), ← h 14 (by decide), ← h 15 (by decide), ← h 16 (by decide), ← h 17 (by decide), ← h 18 (by decide)]
  rfl
set_option maxRecDepth 100000 in
theorem e_56 (h : ∀ k, k < 6 → ad (56 + k) = v k) : ofB (blIv cy v) = [56, 57].map (ent cy ad) ++ (bgr cy (v 2) 64 10 ++ ([59].map (ent cy ad) ++ (bgr cy (v 4) 64 10 ++ [61].map (ent cy ad)))) := by
  have e1 : ofB (blIv cy v) = [(blIv cy v).1, (v 1, .inl (cy.1, 64, .inl (fun _ => 0)))] ++ (bgr cy (v 2) 64 10 ++ ([(v 3, .inl (cy.1, 64, .inl (fun _ => 0)))] ++ (bgr cy (v 4) 64 10 ++ [(v 5, .inl (cy.2.1, 64, .inr (.inl (fun _ => 0))))]))) := by
    show (blIv cy v).1 :: ((((([] ++ [((v 1), .inl (cy.1, 64, .inl (fun _ => 0)))]) ++ bgr cy (v 2) 64 10) ++ [((v 3), .inl (cy.1, 64, .inl (fun _ => 0)))]) ++ bgr cy (v 4) 64 10) ++ [((v 5), .inl (cy.2.1, 64, .inr (.inl (fun _ => 0))))]) = _
    generalize bgr cy (v 2) 64 10 = g1
    generalize bgr cy (v 4) 64 10 = g2
    simp only [List.append_assoc, List.cons_append, List.nil_append]
  have a1 : [(blIv cy v).1, (v 1, .inl (cy.1, 64, .inl (fun _ => 0)))] = [56, 57].map (ent cy ad) := by
    show [((v 0, .inr (0, [.int 0, .ref (v 1), .ref (v 2), .int 0, .ref (v 3), .ref (v 4), .ref (v 5)])) : Nat × va_E), (v 1, .inl (cy.1, 64, .inl (fun _ => 0)))] = _
    rw [← h 0 (by decide), ← h 1 (by decide), ← h 2 (by decide), ← h 3 (by decide), ← h 4 (by decide), ← h 5 (by decide)]
    rfl
  have a2 : [((v 3, .inl (cy.1, 64, .inl (fun _ => 0))) : Nat × va_E)] = [59].map (ent cy ad) := by
    rw [← h 3 (by decide)]
    rfl
  have a3 : [((v 5, .inl (cy.2.1, 64, .inr (.inl (fun _ => 0)))) : Nat × va_E)] = [61].map (ent cy ad) := by
    rw [← h 5 (by decide)]
    rfl
  rw [e1, a1, a2, a3]
end ENT
section FIRST
variable {cy : kv_Y} {ad : Nat → Nat} {v1 v2 v3 v4 v5 v6 v7 v8 v9 v10 v11 v12 v13 : Nat → Nat} {x0 kq ro : Nat}
set_option maxRecDepth 100000 in
theorem wsT_eq (h0 : ad 0 = x0) (hq : ad 13 = kq) (hro : ad 70 = ro) (h1 : ∀ k, k < 6 → ad (1 + k) = v1 k) (h7 : ∀ k, k < 6 → ad (7 + k) = v2 k) (h44 : ∀ k, k < 6 → ad (44 + k) = v3 k) (h50 : ∀ k, k < 6 → ad (50 + k) = v4 k) (h62 : ∀ k, k < 5 → ad (62 + k) = v6 k) (h67 : ∀ k, k < 3 → ad (67 + k) = v7 k) (h14 : ∀ k, k < 6 → ad (14 + k) = v8 k) (h20 : ∀ k, k < 6 → ad (20 + k) = v9 k) (h26 : ∀ k, k < 6 → ad (26 + k) = v10 k) (h32 : ∀ k, k < 6 → ad (32 + k) = v11 k) (h38 : ∀ k, k < 6 → ad (38 + k) = v12 k) (h71 : ∀ k, k < 19 → ad (71 + k) = v13 k) (h56 : ∀ k, k < 6 → ad (56 + k) = v5 k) : (wsT cy v1 v2 v3 v4 v5 v6 v7 v8 v9 v10 v11 v12 v13 x0 kq ro) = [0, 1, 2, 3, 4, 5, 6, 7, 8, 9, 10, 11, 12].map (ent cy ad) ++ ((kq, .inl (cy.2.2.2.1, 5, .inr (.inr (.inr (.inr (va_up (va_up (va_up (va_up (va_up (fun _ => none) 0 (some (v8 0))) 1 (some (v9 0))) 2 (some (v10 0))) 3 (some (v11 0))) 4 (some (v12 0)))))))) :: ([44, 45, 46, 47, 48, 49, 50, 51, 52, 53, 54, 55, 56, 57].map (ent cy ad) ++ (bgr cy (v5 2) 64 10 ++ ([59].map (ent cy ad) ++ (bgr cy (v5 4) 64 10 ++ [61, 62, 63, 64, 65, 66, 67, 68, 69, 70, 14, 15, 16, 17, 18, 19, 20, 21, 22, 23, 24, 25, 26, 27, 28, 29, 30, 31, 32, 33, 34, 35, 36, 37, 38, 39, 40, 41, 42, 43, 71, 72, 73, 74, 75, 76, 77, 78, 79, 80, 81, 82, 83, 84, 85, 86, 87, 88, 89].map (ent cy ad)))))) := by
  have e0 : ((x0, .inr (5, [.ref (v1 0), .ref (v2 0), .ref kq, .int 0, .ref (v3 0), .int 0, .ref (v4 0), .ref (v5 0), .ref (v6 0), .int 0, .ref (v7 0), .ref ro, .int 0, .int 0, .int 0])) : Nat × va_E) = ent cy ad 0 := by
    rw [← h0, ← h1 0 (by decide), ← h7 0 (by decide), ← hq, ← h44 0 (by decide), ← h50 0 (by decide), ← h56 0 (by decide), ← h62 0 (by decide), ← h67 0 (by decide), ← hro]
    rfl
  have e70 : ((ro, .inl (cy.1, 4, .inl (fun _ => 0))) : Nat × va_E) = ent cy ad 70 := by
    rw [← hro]
    rfl
  unfold wsT ws1
  rw [e0, e70, e_1 h1, e_7 h7, e_44 h44, e_50 h50, e_56 h56, e_62 h62, e_67 h67, e_14 h14, e_20 h20, e_26 h26, e_32 h32, e_38 h38, e_71 h71]
  generalize ent cy ad = E
  generalize bgr cy (v5 2) 64 10 = g1
  generalize bgr cy (v5 4) 64 10 = g2
  generalize ((kq, .inl (cy.2.2.2.1, 5, .inr (.inr (.inr (.inr (va_up (va_up (va_up (va_up (va_up (fun _ => none) 0 (some (v8 0))) 1 (some (v9 0))) 2 (some (v10 0))) 3 (some (v11 0))) 4 (some (v12 0)))))))) : Nat × va_E) = K9
  simp only [List.append_assoc, List.cons_append, List.nil_append, List.map_cons, List.map_nil]
theorem bgr_len {h N M : Nat} : (bgr cy h N M).length = N + 1 := by
  unfold bgr
  rw [List.length_cons, List.length_map, List.length_range]
set_option maxRecDepth 100000 in
theorem ws0_eq : (wsT cy v1 v2 v3 v4 v5 v6 v7 v8 v9 v10 v11 v12 v13 x0 kq ro) = [0, 1, 2, 3, 4, 5, 6, 7, 8, 9, 10, 11, 12].map (ent cy (ad0 v1 v2 v3 v4 v5 v6 v7 v8 v9 v10 v11 v12 v13 x0 kq ro)) ++ ((kq, .inl (cy.2.2.2.1, 5, .inr (.inr (.inr (.inr (va_up (va_up (va_up (va_up (va_up (fun _ => none) 0 (some (v8 0))) 1 (some (v9 0))) 2 (some (v10 0))) 3 (some (v11 0))) 4 (some (v12 0)))))))) :: ([44, 45, 46, 47, 48, 49, 50, 51, 52, 53, 54, 55, 56, 57].map (ent cy (ad0 v1 v2 v3 v4 v5 v6 v7 v8 v9 v10 v11 v12 v13 x0 kq ro)) ++ (bgr cy (v5 2) 64 10 ++ ([59].map (ent cy (ad0 v1 v2 v3 v4 v5 v6 v7 v8 v9 v10 v11 v12 v13 x0 kq ro)) ++ (bgr cy (v5 4) 64 10 ++ [61, 62, 63, 64, 65, 66, 67, 68, 69, 70, 14, 15, 16, 17, 18, 19, 20, 21, 22, 23, 24, 25, 26, 27, 28, 29, 30, 31, 32, 33, 34, 35, 36, 37, 38, 39, 40, 41, 42, 43, 71, 72, 73, 74, 75, 76, 77, 78, 79, 80, 81, 82, 83, 84, 85, 86, 87, 88, 89].map (ent cy (ad0 v1 v2 v3 v4 v5 v6 v7 v8 v9 v10 v11 v12 v13 x0 kq ro))))))) :=
  wsT_eq (ad := (ad0 v1 v2 v3 v4 v5 v6 v7 v8 v9 v10 v11 v12 v13 x0 kq ro)) rfl rfl rfl (fun k hk => by rcases (show k = 0 ∨ k = 1 ∨ k = 2 ∨ k = 3 ∨ k = 4 ∨ k = 5 by omega) with rfl | rfl | rfl | rfl | rfl | rfl <;> rfl) (fun k hk => by rcases (show k = 0 ∨ k = 1 ∨ k = 2 ∨ k = 3 ∨ k = 4 ∨ k = 5 by omega) with rfl | rfl | rfl | rfl | rfl | rfl <;> rfl) (fun k hk => by rcases (show k = 0 ∨ k = 1 ∨ k = 2 ∨ k = 3 ∨ k = 4 ∨ k = 5 by omega) with rfl | rfl | rfl | rfl | rfl | rfl <;> rfl) (fun k hk => by rcases (show k = 0 ∨ k = 1 ∨ k = 2 ∨ k = 3 ∨ k = 4 ∨ k = 5 by omega) with rfl | rfl | rfl | rfl | rfl | rfl <;> rfl) (fun k hk => by rcases (show k = 0 ∨ k = 1 ∨ k = 2 ∨ k = 3 ∨ k = 4 by omega) with rfl | rfl | rfl | rfl | rfl <;> rfl) (fun k hk => by rcases (show k = 0 ∨ k = 1 ∨ k = 2 by omega) with rfl | rfl | rfl <;> rfl) (fun k hk => by rcases (show k = 0 ∨ k = 1 ∨ k = 2 ∨ k = 3 ∨ k = 4 ∨ k = 5 by omega) with rfl | rfl | rfl | rfl | rfl | rfl <;> rfl) (fun k hk => by rcases (show k = 0 ∨ k = 1 ∨ k = 2 ∨ k = 3 ∨ k = 4 ∨ k = 5 by omega) with rfl | rfl | rfl | rfl | rfl | rfl <;> rfl) (fun k hk => by rcases (show k = 0 ∨ k = 1 ∨ k = 2 ∨ k = 3 ∨ k = 4 ∨ k = 5 by omega) with rfl | rfl | rfl | rfl | rfl | rfl <;> rfl) (fun k hk => by rcases (show k = 0 ∨ k = 1 ∨ k = 2 ∨ k = 3 ∨ k = 4 ∨ k = 5 by omega) with rfl | rfl | rfl | rfl | rfl | rfl <;> rfl) (fun k hk => by rcases (show k = 0 ∨ k = 1 ∨ k = 2 ∨ k = 3 ∨ k = 4 ∨ k = 5 by omega) with rfl | rfl | rfl | rfl | rfl | rfl <;> rfl) (fun k hk => by rcases (show k = 0 ∨ k = 1 ∨ k = 2 ∨ k = 3 ∨ k = 4 ∨ k = 5 ∨ k = 6 ∨ k = 7 ∨ k = 8 ∨ k = 9 ∨ k = 10 ∨ k = 11 ∨ k = 12 ∨ k = 13 ∨ k = 14 ∨ k = 15 ∨ k = 16 ∨ k = 17 ∨ k = 18 by omega) with rfl | rfl | rfl | rfl | rfl | rfl | rfl | rfl | rfl | rfl | rfl | rfl | rfl | rfl | rfl | rfl | rfl | rfl | rfl <;> rfl) (fun k hk => by rcases (show k = 0 ∨ k = 1 ∨ k = 2 ∨ k = 3 ∨ k = 4 ∨ k = 5 by omega) with rfl | rfl | rfl | rfl | rfl | rfl <;> rfl)
/-- the cell a of the first memory is made -/
def tw (cy : kv_Y) (v1 v2 v3 v4 v5 v6 v7 v8 v9 v10 v11 v12 v13 : Nat → Nat) (x0 kq ro a : Nat) : Prop := ∃ E, (wsT cy v1 v2 v3 v4 v5 v6 v7 v8 v9 v10 v11 v12 v13 x0 kq ro)[ps0 a]? = some ((ad0 v1 v2 v3 v4 v5 v6 v7 v8 v9 v10 v11 v12 v13 x0 kq ro) a, E) ∧ ∀ (D : va_G) (H : Heap), va_at D vwCl ((ad0 v1 v2 v3 v4 v5 v6 v7 v8 v9 v10 v11 v12 v13 x0 kq ro) a, E) H → va_at D vwCl ((ad0 v1 v2 v3 v4 v5 v6 v7 v8 v9 v10 v11 v12 v13 x0 kq ro) a, kv_E sh cy (ad0 v1 v2 v3 v4 v5 v6 v7 v8 v9 v10 v11 v12 v13 x0 kq ro) m00 a) H
theorem tw_of {a : Nat} (h : (wsT cy v1 v2 v3 v4 v5 v6 v7 v8 v9 v10 v11 v12 v13 x0 kq ro)[ps0 a]? = some (ent cy (ad0 v1 v2 v3 v4 v5 v6 v7 v8 v9 v10 v11 v12 v13 x0 kq ro) a)) : tw cy v1 v2 v3 v4 v5 v6 v7 v8 v9 v10 v11 v12 v13 x0 kq ro a := ⟨_, h, fun _ _ h => h⟩
theorem ps_a : ∀ a, a < 13 → ps0 a = a ∧ [0, 1, 2, 3, 4, 5, 6, 7, 8, 9, 10, 11, 12][a]? = some a := by decide +kernel
theorem ps_b : ∀ j, j < 14 → ps0 (44 + j) = 14 + j ∧ [44, 45, 46, 47, 48, 49, 50, 51, 52, 53, 54, 55, 56, 57][j]? = some (44 + j) := by decide +kernel
theorem ps_c : ∀ a, a < 90 → (a < 13 ∨ a = 13 ∨ a = 58 ∨ a = 59 ∨ a = 60 ∨ (44 ≤ a ∧ a < 58)) ∨ (159 ≤ ps0 a ∧ [61, 62, 63, 64, 65, 66, 67, 68, 69, 70, 14, 15, 16, 17, 18, 19, 20, 21, 22, 23, 24, 25, 26, 27, 28, 29, 30, 31, 32, 33, 34, 35, 36, 37, 38, 39, 40, 41, 42, 43, 71, 72, 73, 74, 75, 76, 77, 78, 79, 80, 81, 82, 83, 84, 85, 86, 87, 88, 89][ps0 a - 159]? = some a) := by decide +kernel
theorem tw_a {a : Nat} (h : a < 13) : tw cy v1 v2 v3 v4 v5 v6 v7 v8 v9 v10 v11 v12 v13 x0 kq ro a := by
  obtain ⟨h1, h2⟩ := ps_a a h
  apply tw_of
  rw [h1, ws0_eq, List.getElem?_append_left (by rw [List.length_map]; exact h), List.getElem?_map, h2]
  rfl
theorem tw_b {a : Nat} (h : 44 ≤ a) (hh : a < 58) : tw cy v1 v2 v3 v4 v5 v6 v7 v8 v9 v10 v11 v12 v13 x0 kq ro a := by
  obtain ⟨h1, h2⟩ := ps_b (a - 44) (by omega)
  rw [show 44 + (a - 44) = a by omega] at h1 h2
  apply tw_of
  rw [h1, ws0_eq, List.getElem?_append_right (by rw [List.length_map]; show 13 ≤ _; omega), List.length_map, show 14 + (a - 44) - [0, 1, 2, 3, 4, 5, 6, 7, 8, 9, 10, 11, 12].length = (a - 44) + 1 from (by show 14 + (a - 44) - 13 = _; omega), List.getElem?_cons_succ, List.getElem?_append_left (by rw [List.length_map]; show _ < 14; omega), List.getElem?_map, h2]
  rfl
/-- behind the first 28 cells -/
theorem ws_28 (j : Nat) : (wsT cy v1 v2 v3 v4 v5 v6 v7 v8 v9 v10 v11 v12 v13 x0 kq ro)[28 + j]? = (bgr cy (v5 2) 64 10 ++ ([59].map (ent cy (ad0 v1 v2 v3 v4 v5 v6 v7 v8 v9 v10 v11 v12 v13 x0 kq ro)) ++ (bgr cy (v5 4) 64 10 ++ [61, 62, 63, 64, 65, 66, 67, 68, 69, 70, 14, 15, 16, 17, 18, 19, 20, 21, 22, 23, 24, 25, 26, 27, 28, 29, 30, 31, 32, 33, 34, 35, 36, 37, 38, 39, 40, 41, 42, 43, 71, 72, 73, 74, 75, 76, 77, 78, 79, 80, 81, 82, 83, 84, 85, 86, 87, 88, 89].map (ent cy (ad0 v1 v2 v3 v4 v5 v6 v7 v8 v9 v10 v11 v12 v13 x0 kq ro)))))[j]? := by
  rw [ws0_eq, List.getElem?_append_right (by rw [List.length_map]; show 13 ≤ _; omega), List.length_map, show 28 + j - [0, 1, 2, 3, 4, 5, 6, 7, 8, 9, 10, 11, 12].length = (14 + j) + 1 from (by show 28 + j - 13 = _; omega), List.getElem?_cons_succ, List.getElem?_append_right (by rw [List.length_map]; show 14 ≤ _; omega), List.length_map, show 14 + j - [44, 45, 46, 47, 48, 49, 50, 51, 52, 53, 54, 55, 56, 57].length = j from (by show 14 + j - 14 = _; omega)]
theorem ws_93 (j : Nat) : (wsT cy v1 v2 v3 v4 v5 v6 v7 v8 v9 v10 v11 v12 v13 x0 kq ro)[93 + j]? = ([59].map (ent cy (ad0 v1 v2 v3 v4 v5 v6 v7 v8 v9 v10 v11 v12 v13 x0 kq ro)) ++ (bgr cy (v5 4) 64 10 ++ [61, 62, 63, 64, 65, 66, 67, 68, 69, 70, 14, 15, 16, 17, 18, 19, 20, 21, 22, 23, 24, 25, 26, 27, 28, 29, 30, 31, 32, 33, 34, 35, 36, 37, 38, 39, 40, 41, 42, 43, 71, 72, 73, 74, 75, 76, 77, 78, 79, 80, 81, 82, 83, 84, 85, 86, 87, 88, 89].map (ent cy (ad0 v1 v2 v3 v4 v5 v6 v7 v8 v9 v10 v11 v12 v13 x0 kq ro))))[j]? := by
  rw [show 93 + j = 28 + (65 + j) by omega, ws_28, List.getElem?_append_right (by rw [bgr_len]; omega), bgr_len, show 65 + j - (64 + 1) = j by omega]
theorem ws_94 (j : Nat) : (wsT cy v1 v2 v3 v4 v5 v6 v7 v8 v9 v10 v11 v12 v13 x0 kq ro)[94 + j]? = (bgr cy (v5 4) 64 10 ++ [61, 62, 63, 64, 65, 66, 67, 68, 69, 70, 14, 15, 16, 17, 18, 19, 20, 21, 22, 23, 24, 25, 26, 27, 28, 29, 30, 31, 32, 33, 34, 35, 36, 37, 38, 39, 40, 41, 42, 43, 71, 72, 73, 74, 75, 76, 77, 78, 79, 80, 81, 82, 83, 84, 85, 86, 87, 88, 89].map (ent cy (ad0 v1 v2 v3 v4 v5 v6 v7 v8 v9 v10 v11 v12 v13 x0 kq ro)))[j]? := by
  rw [show 94 + j = 93 + (1 + j) by omega, ws_93, List.getElem?_append_right (by rw [List.length_map]; show 1 ≤ _; omega), List.length_map, show 1 + j - [59].length = j from (by show 1 + j - 1 = _; omega)]
theorem ws_159 (j : Nat) : (wsT cy v1 v2 v3 v4 v5 v6 v7 v8 v9 v10 v11 v12 v13 x0 kq ro)[159 + j]? = ([61, 62, 63, 64, 65, 66, 67, 68, 69, 70, 14, 15, 16, 17, 18, 19, 20, 21, 22, 23, 24, 25, 26, 27, 28, 29, 30, 31, 32, 33, 34, 35, 36, 37, 38, 39, 40, 41, 42, 43, 71, 72, 73, 74, 75, 76, 77, 78, 79, 80, 81, 82, 83, 84, 85, 86, 87, 88, 89].map (ent cy (ad0 v1 v2 v3 v4 v5 v6 v7 v8 v9 v10 v11 v12 v13 x0 kq ro)))[j]? := by
  rw [show 159 + j = 94 + (65 + j) by omega, ws_94, List.getElem?_append_right (by rw [bgr_len]; omega), bgr_len, show 65 + j - (64 + 1) = j by omega]
theorem tw_c {a : Nat} (h : 159 ≤ ps0 a) (h2 : [61, 62, 63, 64, 65, 66, 67, 68, 69, 70, 14, 15, 16, 17, 18, 19, 20, 21, 22, 23, 24, 25, 26, 27, 28, 29, 30, 31, 32, 33, 34, 35, 36, 37, 38, 39, 40, 41, 42, 43, 71, 72, 73, 74, 75, 76, 77, 78, 79, 80, 81, 82, 83, 84, 85, 86, 87, 88, 89][ps0 a - 159]? = some a) : tw cy v1 v2 v3 v4 v5 v6 v7 v8 v9 v10 v11 v12 v13 x0 kq ro a := by
  apply tw_of
  have e := ws_159 (cy := cy) (v1 := v1) (v2 := v2) (v3 := v3) (v4 := v4) (v5 := v5) (v6 := v6) (v7 := v7) (v8 := v8) (v9 := v9) (v10 := v10) (v11 := v11) (v12 := v12) (v13 := v13) (x0 := x0) (kq := kq) (ro := ro) (ps0 a - 159)
  rw [show 159 + (ps0 a - 159) = ps0 a by omega] at e
  rw [e, List.getElem?_map, h2]
  rfl
theorem tw_59 : tw cy v1 v2 v3 v4 v5 v6 v7 v8 v9 v10 v11 v12 v13 x0 kq ro 59 := by
  apply tw_of
  show (wsT cy v1 v2 v3 v4 v5 v6 v7 v8 v9 v10 v11 v12 v13 x0 kq ro)[93 + 0]? = _
  rw [ws_93]
  rfl
theorem tw_13 : tw cy v1 v2 v3 v4 v5 v6 v7 v8 v9 v10 v11 v12 v13 x0 kq ro 13 := by
  refine ⟨(.inl (cy.2.2.2.1, 5, .inr (.inr (.inr (.inr (va_up (va_up (va_up (va_up (va_up (fun _ => none) 0 (some (v8 0))) 1 (some (v9 0))) 2 (some (v10 0))) 3 (some (v11 0))) 4 (some (v12 0)))))))), ?_, fun D H h => ?_⟩
  · show (wsT cy v1 v2 v3 v4 v5 v6 v7 v8 v9 v10 v11 v12 v13 x0 kq ro)[13]? = some (kq, (.inl (cy.2.2.2.1, 5, .inr (.inr (.inr (.inr (va_up (va_up (va_up (va_up (va_up (fun _ => none) 0 (some (v8 0))) 1 (some (v9 0))) 2 (some (v10 0))) 3 (some (v11 0))) 4 (some (v12 0)))))))))
    rw [ws0_eq, List.getElem?_append_right (by rw [List.length_map]; exact Nat.le_refl 13), List.length_map]
    rfl
  have h : H[(ad0 v1 v2 v3 v4 v5 v6 v7 v8 v9 v10 v11 v12 v13 x0 kq ro) 13]? = some (vp_cell cy.2.2.2.1 (5, .inr (.inr (.inr (.inr (va_up (va_up (va_up (va_up (va_up (fun _ => none) 0 (some (v8 0))) 1 (some (v9 0))) 2 (some (v10 0))) 3 (some (v11 0))) 4 (some (v12 0)))))))) := h
  show H[(ad0 v1 v2 v3 v4 v5 v6 v7 v8 v9 v10 v11 v12 v13 x0 kq ro) 13]? = some (vp_cell cy.2.2.2.1 (5, .inr (.inr (.inr (.inr (fun i => some ((ad0 v1 v2 v3 v4 v5 v6 v7 v8 v9 v10 v11 v12 v13 x0 kq ro) (q00 i))))))))
  rw [h, vp_cell_q, vp_cell_q]
  refine congrArg some ?_
  refine arrV_cg fun j hj => ?_
  rcases (show j = 0 ∨ j = 1 ∨ j = 2 ∨ j = 3 ∨ j = 4 by omega) with rfl | rfl | rfl | rfl | rfl <;> rfl
theorem nblt {a b : Nat} (h : b ≤ a) : Nat.blt a b = false := by
  cases q : Nat.blt a b with
  | false => rfl
  | true => have := Nat.blt_eq.mp q; omega
theorem ad0_r1 {j : Nat} (hj : j < 64) : (ad0 v1 v2 v3 v4 v5 v6 v7 v8 v9 v10 v11 v12 v13 x0 kq ro) (90 + j) = v5 2 + 1 + j := by
  have h1 : Nat.blt (90 + j) 90 = false := nblt (by omega)
  have h2 : Nat.blt (90 + j) 154 = true := Nat.blt_eq.mpr (by omega)
  unfold ad0
  rw [h1, h2]
  show v5 2 + 1 + (90 + j - 90) = _
  omega
theorem ad0_r2 {j : Nat} (hj : j < 64) : (ad0 v1 v2 v3 v4 v5 v6 v7 v8 v9 v10 v11 v12 v13 x0 kq ro) (154 + j) = v5 4 + 1 + j := by
  have h1 : Nat.blt (154 + j) 90 = false := nblt (by omega)
  have h2 : Nat.blt (154 + j) 154 = false := nblt (by omega)
  unfold ad0
  rw [h1, h2]
  show v5 4 + 1 + (154 + j - 154) = _
  omega
theorem tw_58 : tw cy v1 v2 v3 v4 v5 v6 v7 v8 v9 v10 v11 v12 v13 x0 kq ro 58 := by
  refine ⟨.inl (cy.2.2.2.2, 64, .inr (.inr (.inr (.inr (fun j => some (v5 2 + 1 + j)))))), ?_, fun D H h => ?_⟩
  · show (wsT cy v1 v2 v3 v4 v5 v6 v7 v8 v9 v10 v11 v12 v13 x0 kq ro)[28 + 0]? = some (v5 2, .inl (cy.2.2.2.2, 64, .inr (.inr (.inr (.inr (fun j => some (v5 2 + 1 + j)))))))
    rw [ws_28, List.getElem?_append_left (by rw [bgr_len]; omega)]
    exact bgr_0
  have h : H[(ad0 v1 v2 v3 v4 v5 v6 v7 v8 v9 v10 v11 v12 v13 x0 kq ro) 58]? = some (vp_cell cy.2.2.2.2 (64, .inr (.inr (.inr (.inr (fun j => some (v5 2 + 1 + j))))))) := h
  show H[(ad0 v1 v2 v3 v4 v5 v6 v7 v8 v9 v10 v11 v12 v13 x0 kq ro) 58]? = some (vp_cell cy.2.2.2.2 (64, .inr (.inr (.inr (.inr (fun i => some ((ad0 v1 v2 v3 v4 v5 v6 v7 v8 v9 v10 v11 v12 v13 x0 kq ro) (90 + i))))))))
  rw [h, vp_cell_q, vp_cell_q]
  refine congrArg some ?_
  refine arrV_cg fun j hj => ?_
  rw [ad0_r1 hj]
theorem tw_60 : tw cy v1 v2 v3 v4 v5 v6 v7 v8 v9 v10 v11 v12 v13 x0 kq ro 60 := by
  refine ⟨.inl (cy.2.2.2.2, 64, .inr (.inr (.inr (.inr (fun j => some (v5 4 + 1 + j)))))), ?_, fun D H h => ?_⟩
  · show (wsT cy v1 v2 v3 v4 v5 v6 v7 v8 v9 v10 v11 v12 v13 x0 kq ro)[94 + 0]? = some (v5 4, .inl (cy.2.2.2.2, 64, .inr (.inr (.inr (.inr (fun j => some (v5 4 + 1 + j)))))))
    rw [ws_94, List.getElem?_append_left (by rw [bgr_len]; omega)]
    exact bgr_0
  have h : H[(ad0 v1 v2 v3 v4 v5 v6 v7 v8 v9 v10 v11 v12 v13 x0 kq ro) 60]? = some (vp_cell cy.2.2.2.2 (64, .inr (.inr (.inr (.inr (fun j => some (v5 4 + 1 + j))))))) := h
  show H[(ad0 v1 v2 v3 v4 v5 v6 v7 v8 v9 v10 v11 v12 v13 x0 kq ro) 60]? = some (vp_cell cy.2.2.2.2 (64, .inr (.inr (.inr (.inr (fun i => some ((ad0 v1 v2 v3 v4 v5 v6 v7 v8 v9 v10 v11 v12 v13 x0 kq ro) (154 + i))))))))
  rw [h, vp_cell_q, vp_cell_q]
  refine congrArg some ?_
  refine arrV_cg fun j hj => ?_
  rw [ad0_r2 hj]
theorem sh_row {a : Nat} (h1 : 90 ≤ a) (h2 : a < 218) : sh a = (11, 10) := by
  have e1 : Nat.blt a 90 = false := nblt h1
  have e2 : Nat.blt a 218 = true := Nat.blt_eq.mpr h2
  unfold sh
  rw [e1, e2]
  rfl
theorem kv_row {ad : Nat → Nat} {a : Nat} (h1 : 90 ≤ a) (h2 : a < 218) : kv_E sh cy ad m00 a = .inl (cy.2.1, 10, .inr (.inl (fun _ => 0))) := by
  unfold kv_E
  rw [sh_row h1 h2]
  rfl
theorem tw_r1 {j : Nat} (hj : j < 64) : tw cy v1 v2 v3 v4 v5 v6 v7 v8 v9 v10 v11 v12 v13 x0 kq ro (90 + j) := by
  have h1 : Nat.blt (90 + j) 90 = false := nblt (by omega)
  have h2 : Nat.blt (90 + j) 154 = true := Nat.blt_eq.mpr (by omega)
  have hp : ps0 (90 + j) = 28 + (j + 1) := by
    unfold ps0
    rw [h1, h2]
    show 29 + (90 + j - 90) = _
    omega
  refine ⟨kv_E sh cy (ad0 v1 v2 v3 v4 v5 v6 v7 v8 v9 v10 v11 v12 v13 x0 kq ro) m00 (90 + j), ?_, fun D H h => h⟩
  rw [hp, kv_row (by omega) (by omega), ad0_r1 hj, ws_28, List.getElem?_append_left (by rw [bgr_len]; omega)]
  exact bgr_s hj
theorem tw_r2 {j : Nat} (hj : j < 64) : tw cy v1 v2 v3 v4 v5 v6 v7 v8 v9 v10 v11 v12 v13 x0 kq ro (154 + j) := by
  have h1 : Nat.blt (154 + j) 90 = false := nblt (by omega)
  have h2 : Nat.blt (154 + j) 154 = false := nblt (by omega)
  have hp : ps0 (154 + j) = 94 + (j + 1) := by
    unfold ps0
    rw [h1, h2]
    show 95 + (154 + j - 154) = _
    omega
  refine ⟨kv_E sh cy (ad0 v1 v2 v3 v4 v5 v6 v7 v8 v9 v10 v11 v12 v13 x0 kq ro) m00 (154 + j), ?_, fun D H h => h⟩
  rw [hp, kv_row (by omega) (by omega), ad0_r2 hj, ws_94, List.getElem?_append_left (by rw [bgr_len]; omega)]
  exact bgr_s hj
theorem tw_all {a : Nat} (h : a < 218) : tw cy v1 v2 v3 v4 v5 v6 v7 v8 v9 v10 v11 v12 v13 x0 kq ro a := by
  by_cases h1 : a < 90
  · rcases ps_c a h1 with (q | rfl | rfl | rfl | rfl | ⟨q1, q2⟩) | ⟨q1, q2⟩
    · exact tw_a q
    · exact tw_13
    · exact tw_58
    · exact tw_59
    · exact tw_60
    · exact tw_b q1 q2
    · exact tw_c q1 q2
  by_cases h2 : a < 154
  · have q := tw_r1 (cy := cy) (v1 := v1) (v2 := v2) (v3 := v3) (v4 := v4) (v5 := v5) (v6 := v6) (v7 := v7) (v8 := v8) (v9 := v9) (v10 := v10) (v11 := v11) (v12 := v12) (v13 := v13) (x0 := x0) (kq := kq) (ro := ro) (j := a - 90) (by omega)
    rw [show 90 + (a - 90) = a by omega] at q
    exact q
  · have q := tw_r2 (cy := cy) (v1 := v1) (v2 := v2) (v3 := v3) (v4 := v4) (v5 := v5) (v6 := v6) (v7 := v7) (v8 := v8) (v9 := v9) (v10 := v10) (v11 := v11) (v12 := v12) (v13 := v13) (x0 := x0) (kq := kq) (ro := ro) (j := a - 154) (by omega)
    rw [show 154 + (a - 154) = a by omega] at q
    exact q
/-- the heap behind the constructors is the first memory -/
theorem st_P {D : va_G} {H : Heap} (h : va_P D vwCl (wsT cy v1 v2 v3 v4 v5 v6 v7 v8 v9 v10 v11 v12 v13 x0 kq ro) H) : va_P D vwCl (kv_W sh cy (ad0 v1 v2 v3 v4 v5 v6 v7 v8 v9 v10 v11 v12 v13 x0 kq ro) 218 m00) H := fun k q hk => by
  have hl := (List.getElem?_eq_some_iff.mp hk).1
  have hN : k < 218 := by
    unfold kv_W at hl
    rw [List.length_map, List.length_range] at hl
    exact hl
  rw [kv_at hN] at hk
  cases hk
  obtain ⟨E, e1, e2⟩ := tw_all (cy := cy) (v1 := v1) (v2 := v2) (v3 := v3) (v4 := v4) (v5 := v5) (v6 := v6) (v7 := v7) (v8 := v8) (v9 := v9) (v10 := v10) (v11 := v11) (v12 := v12) (v13 := v13) (x0 := x0) (kq := kq) (ro := ro) hN
  exact e2 D H (h _ _ e1)
theorem st_inj {A : Nat → Prop} (h : va_D A (wsT cy v1 v2 v3 v4 v5 v6 v7 v8 v9 v10 v11 v12 v13 x0 kq ro)) : ∀ a b, a < 218 → b < 218 → (ad0 v1 v2 v3 v4 v5 v6 v7 v8 v9 v10 v11 v12 v13 x0 kq ro) a = (ad0 v1 v2 v3 v4 v5 v6 v7 v8 v9 v10 v11 v12 v13 x0 kq ro) b → a = b := fun a b ha hb e => by
  obtain ⟨E, e1, -⟩ := tw_all (cy := cy) (v1 := v1) (v2 := v2) (v3 := v3) (v4 := v4) (v5 := v5) (v6 := v6) (v7 := v7) (v8 := v8) (v9 := v9) (v10 := v10) (v11 := v11) (v12 := v12) (v13 := v13) (x0 := x0) (kq := kq) (ro := ro) ha
  obtain ⟨F, f1, -⟩ := tw_all (cy := cy) (v1 := v1) (v2 := v2) (v3 := v3) (v4 := v4) (v5 := v5) (v6 := v6) (v7 := v7) (v8 := v8) (v9 := v9) (v10 := v10) (v11 := v11) (v12 := v12) (v13 := v13) (x0 := x0) (kq := kq) (ro := ro) hb
  have q := h.1 _ _ _ _ e1 f1 e
  rw [← ps_inv a ha, ← ps_inv b hb, q]
theorem st_A {A : Nat → Prop} (h : va_D A (wsT cy v1 v2 v3 v4 v5 v6 v7 v8 v9 v10 v11 v12 v13 x0 kq ro)) : ∀ a, a < 218 → A ((ad0 v1 v2 v3 v4 v5 v6 v7 v8 v9 v10 v11 v12 v13 x0 kq ro) a) := fun a ha => by
  obtain ⟨E, e1, -⟩ := tw_all (cy := cy) (v1 := v1) (v2 := v2) (v3 := v3) (v4 := v4) (v5 := v5) (v6 := v6) (v7 := v7) (v8 := v8) (v9 := v9) (v10 := v10) (v11 := v11) (v12 := v12) (v13 := v13) (x0 := x0) (kq := kq) (ro := ro) ha
  exact h.2 _ _ e1
end FIRST
/-- the first state: nothing in it -/
def s00 : ast := (fun _ => 0, 0, fun _ _ => 0, (0, 0, 0), 0, fun _ => 0)
theorem i00_0 {a : Nat} (h : a ≠ 67) (k : Nat) : i00 a k = 0 := by
  have e : Nat.beq a 67 = false := by
    cases q : Nat.beq a 67 with
    | false => rfl
    | true => exact absurd (Nat.eq_of_beq_eq_true q) h
  unfold i00
  rw [e]
  rfl
theorem sw00 : sw s00 := ⟨⟨⟨by decide, by decide, by decide, by decide, fun p _ => ⟨Nat.zero_le _, Nat.zero_le _, Nat.zero_le _⟩, fun t p _ _ => ⟨Nat.zero_le _, Nat.zero_le _⟩, fun t _ => Nat.zero_le _, fun g _ => ⟨by show 0 < 1024; decide, Nat.zero_le _⟩⟩, fun p _ => Nat.le_refl _, fun t p _ _ _ => ⟨rfl, rfl⟩⟩, by decide, fun i hi => absurd hi (Nat.not_lt_zero _), by decide, fun i hi => absurd hi (Nat.not_lt_zero _)⟩
theorem mz00 (c : Nat) : mz (fun _ => 0) c = fun _ => 0 := funext fun p => by
  unfold mz
  split <;> rfl
theorem mp00 (b : Nat) : ∀ n, mp b (fun _ => 0) n = 0
  | 0 => rfl
  | n + 1 => by simp [mp, mp00 b n]
theorem cR00 {c : Nat} (h : c ≠ 67) : cR i00 l00 c (fun _ => 0) := by
  refine ⟨i00_0 h 0, i00_0 h 1, i00_0 h 2, i00_0 h 3, ?_, ?_, ?_, fun t ht => absurd ht (Nat.not_lt_zero _), fun g hg => absurd hg (Nat.not_lt_zero _)⟩
  · rw [mz00, mp00]
    rfl
  · rw [mz00, mp00]
    rfl
  · rw [mz00, mp00]
    rfl
theorem cI00 : cI i00 l00 q00 false r10 r20 s00 := by
  refine ⟨cR00 (by decide), ⟨⟨fun i hi => ?_, fun i j _ _ hij e => ?_⟩, i00_0 (by decide) 3, fun i hi => absurd hi (Nat.not_lt_zero _)⟩, ⟨i00_0 (by decide) 12, i00_0 (by decide) 13, i00_0 (by decide) 14⟩, ⟨rfl, fun i hi => absurd hi (Nat.not_lt_zero _)⟩, Or.inl (i00_0 (by decide) 5), ⟨⟨fun i hi => ?_, fun i j _ _ hij => ⟨fun e => ?_, fun e => ?_⟩, fun i j hi hj e => ?_⟩, Or.inl (i00_0 (by decide) 9)⟩⟩
  · show isKp (14 + 6 * i)
    unfold isKp
    omega
  · have e : 14 + 6 * i = 14 + 6 * j := e
    omega
  · show 90 ≤ 90 + i ∧ 90 + i < 218 ∧ 90 ≤ 154 + i ∧ 154 + i < 218
    omega
  · have e : 90 + i = 90 + j := e
    omega
  · have e : 154 + i = 154 + j := e
    omega
  · have e : 90 + i = 154 + j := e
    omega
theorem mI00 : mI i00 s00 := ⟨fun k _ => i00_0 (by decide) k, ⟨0, by decide, i00_0 (by decide) 3, i00_0 (by decide) 2, fun i hi => absurd hi (Nat.not_lt_zero _)⟩, ⟨i00_0 (by decide) 4, i00_0 (by decide) 5, i00_0 (by decide) 6⟩, i00_0 (by decide) 25, fun i hi => absurd hi (Nat.not_lt_zero _)⟩
