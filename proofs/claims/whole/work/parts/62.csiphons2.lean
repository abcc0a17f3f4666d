/-! SETS OF PLACES: the class finds the least stuck sets -/
def fQ (I I' : Nat → Nat → Int32) : Prop := ∀ a k, (a < 62 ∨ 66 < a) → I' a k = I a k
theorem fQ_refl {I : Nat → Nat → Int32} : fQ I I := fun _ _ _ => rfl
theorem fQ_trans {I I1 I2 : Nat → Nat → Int32} (h : fQ I I1) (h2 : fQ I1 I2) : fQ I I2 := fun a k z => (h2 a k z).trans (h a k z)
theorem fQ_up {I : Nat → Nat → Int32} {a k : Nat} {v : Int32} (h : 62 ≤ a ∧ a ≤ 66) : fQ I (km_up I a k v) := fun b j z => up_a (by omega)
theorem getD_mem {l : List Nat} {k : Nat} (h : k < l.length) : l.getD k 0 ∈ l := by
  rw [List.getD_eq_getElem?_getD, List.getElem?_eq_getElem h]
  exact List.getElem_mem h
section CSIP2
variable {I : Nat → Nat → Int32} {L : Nat → Nat → Int64} {q r1 r2 : Nat → Nat} {w : Bool} {K : km_K} {m : Nat → Nat}
theorem c_bitCount {S : Nat} (hS : S < 1024) (h : K (some (.int (nI (szS S)))) (I, L, kr q w r1 r2)) : kC sh kp 232 [.int (nI S)] (I, L, kr q w r1 r2) K := by
  rw [← bc_ok S hS] at h
  exact ⟨rfl, bJ_bitCount_0 h⟩
theorem c_holdsFormer {S : Nat} {l : List Nat} (hl : l.length ≤ 252) (hb : ∀ c, c ∈ l → c < 1024) (h0 : I 62 0 = nI l.length) (hL : lsI I 64 l) (h1 : (∃ c, c ∈ l ∧ c &&& S = c) → K (some (.int 1)) (I, L, kr q w r1 r2)) (h2 : (∀ c, c ∈ l → ¬ c &&& S = c) → K (some (.int 0)) (I, L, kr q w r1 r2)) : kC sh kp 206 [.ref 62, .int (nI S)] (I, L, kr q w r1 r2) K := by
  refine ⟨rfl, bP_holdsFormer_0 (up0 (Pr := fun j => (∀ i, i < j → ¬ l.getD i 0 &&& S = l.getD i 0) → kW sh kp 206 2 [some (.ref 62), some (.int (nI S)), some (.int (nI j))] [] (I, L, kr q w r1 r2) K) (e := l.length) (fun g => ?_) (fun j hj ih g => ?_) (fun i hi => absurd hi (by omega)))⟩
  · refine bP_holdsFormer_2 (pk_le l.length l.length (fun _ => bP_holdsFormer_31 (h2 fun c hc e => ?_)) (fun y => absurd y (by omega)) h0)
    obtain ⟨i, hi, e2⟩ := List.getElem_of_mem hc
    refine g i hi ?_
    rw [List.getD_eq_getElem?_getD, List.getElem?_eq_getElem hi]
    show l[i] &&& S = l[i]
    rw [e2]
    exact e
  · have hm := getD_mem hj
    have hlt := hb _ hm
    refine bP_holdsFormer_2 (pk_le l.length j (fun y => absurd y (by omega)) (fun _ => bP_holdsFormer_10 ?_) h0)
    rw [nI_clamp (by omega), hL j hj]
    refine ⟨vp_in_nI (by omega) (by decide), fun y => bP_holdsFormer_25 ?_, fun y => bP_holdsFormer_23 (h1 ⟨_, hm, (cmp_0 hlt).mp y⟩)⟩
    rw [nI_1]
    refine ih fun i hi => ?_
    by_cases e : i = j
    · rw [e]
      exact fun z => y ((cmp_0 hlt).mpr z)
    · exact g i (by omega)
/-- one size: the sets found so far are gone through -/
theorem c_order_in {z : Nat} {l o : List Nat} (hl : l.length ≤ 252) (hb : ∀ c, c ∈ l → c < 1024) (hz : z ≤ 10) (ho : (o ++ l.filter (fun S => Nat.beq (szS S) z)).length ≤ 252) (h0 : I 62 0 = nI l.length) (hL : lsI I 64 l) (h : ∀ I', (∀ a k, a ≠ 63 → I' a k = I a k) → lsI I' 63 (o ++ l.filter (fun S => Nat.beq (szS S) z)) → kW sh kp 207 54 [some (.ref 62), some (.int (nI (o ++ l.filter (fun S => Nat.beq (szS S) z)).length)), some (.int (nI z)), none] [] (I', L, kr q w r1 r2) K) : ∀ k j I', j + k = l.length → (∀ a k, a ≠ 63 → I' a k = I a k) → lsI I' 63 (o ++ (l.take j).filter (fun S => Nat.beq (szS S) z)) → kW sh kp 207 12 [some (.ref 62), some (.int (nI (o ++ (l.take j).filter (fun S => Nat.beq (szS S) z)).length)), some (.int (nI z)), some (.int (nI j))] [] (I', L, kr q w r1 r2) K
  | 0, j, I', hj, f1, f2 => by
    have e : l.take j = l := List.take_of_length_le (by omega)
    rw [e] at f2 ⊢
    exact bP_orderBySize_12 (pk_le l.length j (fun _ => h I' f1 f2) (fun y => absurd y (by omega)) ((f1 62 0 (by decide)).trans h0))
  | k + 1, j, I', hj, f1, f2 => by
    have hjl : j < l.length := by omega
    have hm := getD_mem hjl
    have hlt := hb _ hm
    have e64 : I' 64 j = nI (l.getD j 0) := (f1 64 j (by decide)).trans (hL j hjl)
    have hsz := szS_10 (S := l.getD j 0)
    have et : l.take (j + 1) = l.take j ++ [l.getD j 0] := by
      rw [List.take_add_one, List.getElem?_eq_getElem hjl, List.getD_eq_getElem?_getD, List.getElem?_eq_getElem hjl]
      rfl
    have ih := c_order_in hl hb hz ho h0 hL h k (j + 1)
    rw [et, List.filter_append] at ih
    refine bP_orderBySize_12 (pk_le l.length j (fun y => absurd y (by omega)) (fun _ => bP_orderBySize_20 ?_) ((f1 62 0 (by decide)).trans h0))
    rw [nI_clamp (by omega), e64]
    refine ⟨vp_in_nI (by omega) (by decide), c_bitCount hlt (bP_orderBySize_29 (pk_eq (szS (l.getD j 0)) z (fun y => bP_orderBySize_33 ?_) (fun y => bP_orderBySize_48 ?_)).symm)⟩
    · have ef : [l.getD j 0].filter (fun S => Nat.beq (szS S) z) = [l.getD j 0] := by
        rw [List.filter_cons, if_pos (beq_iff.mpr y)]
        rfl
      rw [ef, ← List.append_assoc] at ih
      have hlen : (o ++ (l.take j).filter (fun S => Nat.beq (szS S) z)).length < 252 := by
        have h1 : ((l.take (j + 1)).filter (fun S => Nat.beq (szS S) z)).length ≤ (l.filter (fun S => Nat.beq (szS S) z)).length := ((List.take_sublist (j + 1) l).filter _).length_le
        rw [et, List.filter_append, ef, List.length_append] at h1
        rw [List.length_append] at ho ⊢
        have h1 : ((l.take j).filter (fun S => Nat.beq (szS S) z)).length + 1 ≤ _ := h1
        omega
      generalize o ++ (l.take j).filter (fun S => Nat.beq (szS S) z) = u at ih f2 hlen ⊢
      rw [nI_clamp (by omega), nI_clamp (by omega), e64, nI_1]
      refine ⟨vp_in_nI (by omega) (by decide), vp_in_nI hlen (by decide), bP_orderBySize_48 ?_⟩
      rw [nI_1]
      have := ih (km_up I' 63 u.length (nI (l.getD j 0))) (by omega) (fun a k z => by rw [up_a z]; exact f1 a k z) (lsI_snoc f2)
      rw [List.length_append] at this
      exact this
    · have ef : [l.getD j 0].filter (fun S => Nat.beq (szS S) z) = [] := by
        rw [List.filter_cons, if_neg (fun e => y (beq_iff.mp e))]
        rfl
      rw [ef, List.append_nil] at ih
      rw [nI_1]
      exact ih I' (by omega) f1 f2
theorem c_order_out (hw : m 0 ≤ 10) (h0 : I 62 0 = nI (mnl m (2 ^ m 0)).length) (hL : lsI I 64 (mnl m (2 ^ m 0))) (h : ∀ I', (∀ a k, a ≠ 63 → I' a k = I a k) → lsI I' 63 (sil m) → K none (I', L, kr q w r1 r2)) : ∀ k z I', z + k = 11 → (∀ a k, a ≠ 63 → I' a k = I a k) → lsI I' 63 (sl m z) → kW sh kp 207 4 [some (.ref 62), some (.int (nI (sl m z).length)), some (.int (nI z)), none] [] (I', L, kr q w r1 r2) K
  | 0, z, I', hz, f1, f2 => by
    have e : z = 11 := by omega
    rw [e] at f2 ⊢
    exact bP_orderBySize_4 (pk_lt 10 11 (fun _ => bP_orderBySize_60 (h I' f1 f2)) (fun y => absurd y (by omega)))
  | k + 1, z, I', hz, f1, f2 => by
    have p := p2_le hw
    refine bP_orderBySize_4 (pk_lt 10 z (fun y => absurd y (by omega)) (fun _ => bP_orderBySize_10 ?_))
    have ho : (sl m z ++ (mnl m (2 ^ m 0)).filter (fun S => Nat.beq (szS S) z)).length ≤ 252 := by
      rw [slw_f, ← sl_s]
      exact sl_len hw _
    have key := c_order_in (I := I') (L := L) (q := q) (r1 := r1) (r2 := r2) (w := w) (K := K) (z := z) (l := mnl m (2 ^ m 0)) (o := sl m z) (mnl_len p.2) (fun c hc => by have := (mnl_mem.mp hc).1; omega) (by omega) ho ((f1 62 0 (by decide)).trans h0) (lsI_fr hL (fun k => f1 64 k (by decide))) (fun I2 g1 g2 => bP_orderBySize_54 ?_) (mnl m (2 ^ m 0)).length 0 I' (by omega) (fun _ _ _ => rfl)
    · rw [List.take_zero, List.filter_nil, List.append_nil] at key
      exact key f2
    · rw [slw_f, ← sl_s] at g2 ⊢
      rw [nI_1]
      exact c_order_out hw h0 hL h k (z + 1) I2 (by omega) (fun a k z => (g1 a k z).trans (f1 a k z)) g2
theorem c_orderBySize (hw : m 0 ≤ 10) (h0 : I 62 0 = nI (mnl m (2 ^ m 0)).length) (hL : lsI I 64 (mnl m (2 ^ m 0))) (h : ∀ I', (∀ a k, a ≠ 63 → I' a k = I a k) → lsI I' 63 (sil m) → K none (I', L, kr q w r1 r2)) : kC sh kp 207 [.ref 62] (I, L, kr q w r1 r2) K := by
  have key := c_order_out (L := L) (q := q) (r1 := r1) (r2 := r2) (w := w) hw h0 hL h 10 1 I rfl (fun _ _ _ => rfl)
  rw [sl_1 hw] at key
  exact ⟨rfl, bP_orderBySize_0 (key (fun k hk => absurd hk (by show ¬ k < 0; omega)))⟩
theorem sil_perm (hw : m 0 ≤ 10) : (sil m).length = (mnl m (2 ^ m 0)).length := by
  refine List.Perm.length_eq ((List.perm_ext_iff_of_nodup (sl_nodup 11) (List.nodup_range.filter _)).mpr fun S => ?_)
  rw [← sil_sl, sil_mem]
  show _ ↔ S ∈ mnl m (2 ^ m 0)
  rw [mnl_mem]
  have := szS_10 (S := S)
  exact ⟨fun h => h.2, fun h => ⟨by omega, h⟩⟩
theorem mns_0 : mns m 0 = false := by
  cases e : mns m 0 with
  | false => rfl
  | true => exact absurd rfl (mns_iff.mp e).1
/-- every set in its turn -/
theorem c_findP_loop (hw : m 0 ≤ 10) (hs : m 1 ≤ 8) (h : ∀ I', fQ I I' → aP0 I' m → I' 62 0 = nI (mnl m (2 ^ m 0)).length → lsI I' 64 (mnl m (2 ^ m 0)) → kW sh kp 205 123 [some (.ref 62), none, none, none] [] (I', L, kr q w r1 r2) K) : ∀ k n I', n + k = 2 ^ m 0 → 1 ≤ n → fQ I I' → aP0 I' m → I' 62 0 = nI (mnl m n).length → lsI I' 64 (mnl m n) → kW sh kp 205 66 [some (.ref 62), none, some (.int (nI (2 ^ m 0 - 1))), some (.int (nI n))] [] (I', L, kr q w r1 r2) K
  | 0, n, I', hn, h1, f1, f2, f3, f4 => by
    have p := p2_le hw
    have e : n = 2 ^ m 0 := by omega
    rw [e] at f3 f4 ⊢
    exact bP_findAll_66 (pk_lt (2 ^ m 0 - 1) (2 ^ m 0) (fun _ => h I' f1 f2 f3 f4) (fun y => absurd y (by omega)))
  | k + 1, n, I', hn, h1, f1, f2, f3, f4 => by
    have p := p2_le hw
    have ih := c_findP_loop hw hs h k (n + 1)
    rw [mnl_s] at ih
    -- the set is passed over
    have pass : mns m n = false → kW sh kp 205 117 [some (.ref 62), none, some (.int (nI (2 ^ m 0 - 1))), some (.int (nI n))] [] (I', L, kr q w r1 r2) K := fun e => bP_findAll_117 (by
      rw [if_neg (by rw [e]; decide), List.append_nil] at ih
      rw [nI_1]
      exact ih I' (by omega) (by omega) f1 f2 f3 f4)
    refine bP_findAll_66 (pk_lt (2 ^ m 0 - 1) n (fun y => absurd y (by omega)) (fun _ => bP_findAll_71 (c_isSiphon hs f2 (bP_findAll_76 (cb0 (fun e => bP_findAll_79 ?_) (fun e => pass ?_))))))
    · refine c_holdsFormer (mnl_len (by omega)) (fun c hc => by have := (mnl_mem.mp hc).1; omega) f3 f4 (fun ⟨c, c1, c2⟩ => bP_findAll_84 ⟨fun _ => pass ?_, fun y => absurd y (by decide)⟩) (fun hf => bP_findAll_84 ⟨fun y => absurd rfl y, fun _ => bP_findAll_87 ?_⟩)
      · cases g : mns m n with
        | false => rfl
        | true => exact absurd c2 ((mns_former (by omega) e).mp g c c1)
      · have g := (mns_former (by omega) e).mpr hf
        have hl := mnl_len (m := m) (n := n + 1) (by omega)
        rw [mnl_s, if_pos g, List.length_append] at hl
        have hl : (mnl m n).length + 1 ≤ 252 := hl
        refine pk_le 252 (mnl m n).length (fun y => absurd y (by omega)) (fun _ => bP_findAll_97 ?_) rfl f3
        rw [f3, nI_clamp (by omega), up_a (show (62 : Nat) ≠ 64 by decide), f3, nI_1]
        refine ⟨vp_in_nI (by omega) (by decide), bP_findAll_117 ?_⟩
        rw [nI_1]
        rw [if_pos g, List.length_append] at ih
        have f4' : lsI (km_up (km_up I' 64 (mnl m n).length (nI n)) 62 0 (nI ((mnl m n).length + 1))) 64 (mnl m n ++ [n]) := lsI_fr (lsI_snoc f4) (fun k => up_a (by decide))
        refine ih _ (by omega) (by omega) (fQ_trans f1 (fQ_trans (fQ_up (by decide)) (fQ_up (by decide)))) ⟨?_, fun t ht => ⟨?_, ?_⟩⟩ up_s f4'
        · rw [up_k (by decide), up_a (by decide)]
          exact f2.1
        · rw [up_a (by decide), up_a (by decide)]
          exact (f2.2 t ht).1
        · rw [up_a (by decide), up_a (by decide)]
          exact (f2.2 t ht).2
    · cases g : mns m n with
      | false => rfl
      | true =>
        have := (mns_iff.mp g).2.1
        rw [e] at this
        exact absurd this (by decide)
theorem c_findP (hw : wb m) (hR : cR I L 1 m) (h : ∀ I', fQ I I' → anP I' m → K none (I', L, kr q w r1 r2)) : kC sh kp 205 [.ref 62, .ref 1] (I, L, kr q w r1 r2) K := by
  have w0 := hw.1
  have w1 := hw.2.1
  refine ⟨rfl, bP_findAll_0 ?_⟩
  rw [hR.2.1]
  refine up0 (Pr := fun t => ∀ I', fQ I I' → I' 62 3 = nI (m 1) → (∀ u, u < t → I' 65 u = nI (tS m u) ∧ I' 66 u = nI (gS m u)) → kW sh kp 205 10 [some (.ref 62), some (.ref 1), some (.int (nI t)), none] [] (I', L, kr q w r1 r2) K) (e := m 1) (fun I' f1 f2 f3 => ?_) (fun t ht ih I' f1 f2 f3 => ?_) _ (fQ_up (by decide)) up_s (fun u hu => absurd hu (by omega))
  · refine bP_findAll_10 (pk_le (m 1) (m 1) (fun _ => bP_findAll_54 ?_) (fun y => absurd y (by omega)) f2)
    have R' : cR I' L 1 m := cR_fr (fun a k z1 z2 => f1 a k (by omega)) (fun _ _ _ _ => rfl) hR
    refine c_allPlaces R' w0 (bP_findAll_58 ?_)
    have e1 : mnl m 1 = [] := by
      rw [mnl_s, if_neg (by rw [mns_0]; decide)]
      rfl
    have p := p2_le w0
    refine c_findP_loop (I := I) (m := m) w0 w1 (fun I2 g1 g2 g3 g4 => bP_findAll_123 (c_orderBySize w0 g3 g4 fun I3 j1 j2 => bP_findAll_127 (h I3 (fQ_trans g1 fun a k z => j1 a k (by omega)) ⟨?_, j2, ?_, fun t ht => ⟨?_, ?_⟩⟩))) (2 ^ m 0 - 1) 1 _ (by omega) (Nat.le_refl _) (fQ_trans f1 (fQ_up (by decide))) ⟨?_, fun t ht => ⟨?_, ?_⟩⟩ ?_ ?_
    · rw [j1 62 0 (by decide), g3, sil_perm w0]
    · exact (j1 62 3 (by decide)).trans g2.1
    · exact (j1 65 t (by decide)).trans (g2.2 t ht).1
    · exact (j1 66 t (by decide)).trans (g2.2 t ht).2
    · rw [up_k (by decide)]
      exact f2
    · rw [up_a (by decide)]
      exact (f3 t ht).1
    · rw [up_a (by decide)]
      exact (f3 t ht).2
    · rw [up_s, e1]
      rfl
    · rw [e1]
      exact fun k hk => absurd hk (by show ¬ k < 0; omega)
  · have b := tS_lt (m := m) (t := t)
    have hv : vp_in (nI t) 8 := vp_in_nI (by omega) (by decide)
    have a8 := hR.2.2.2.2.2.2.2.1 t ht
    have f32 : ∀ c, (c = 40 + 10 * t ∨ c = 120 + 10 * t) → ∀ p, p < 10 → mz m c p < 32 := fun c hc p hp => by
      have : mz m c p ≤ 2 := mz_le w0 (fun p hp => by
        have := hw.2.2.2.2.2.1 t p (by omega) hp
        rcases hc with e | e
        · rw [e]; exact this.1
        · rw [e]; exact this.2) p
      omega
    refine bP_findAll_10 (pk_le (m 1) t (fun y => absurd y (by omega)) (fun _ => bP_findAll_18 ?_) f2)
    rw [nI_clamp (by omega), show L 2 t = lN (mp 32 (mz m (40 + 10 * t)) 10) from a8.1]
    refine ⟨hv, s_placesOf (f32 _ (Or.inl rfl)) (bP_findAll_32 ?_)⟩
    rw [nI_clamp (by omega), show L 3 t = lN (mp 32 (mz m (120 + 10 * t)) 10) from a8.2.1]
    refine ⟨rfl, hv, hv, s_placesOf (f32 _ (Or.inr rfl)) (bP_findAll_47 ?_)⟩
    rw [nI_clamp (by omega), nI_1]
    refine ⟨rfl, hv, ih _ (fQ_trans f1 (fQ_trans (fQ_up (by decide)) (fQ_up (by decide)))) ?_ (fun u hu => ?_)⟩
    · rw [up_a (by decide), up_a (by decide)]
      exact f2
    · by_cases e : u = t
      · rw [e]
        refine ⟨?_, up_s⟩
        rw [up_a (by decide), up_s]
        rfl
      · rw [up_a (show (65 : Nat) ≠ 66 by decide), up_k e, up_k e, up_a (show (66 : Nat) ≠ 65 by decide)]
        exact f3 u (by omega)
end CSIP2
