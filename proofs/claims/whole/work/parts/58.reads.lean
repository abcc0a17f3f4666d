/-! CALLS: reads -/
section READS
variable {I : Nat → Nat → Int32} {L : Nat → Nat → Int64} {q r1 r2 : Nat → Nat} {w : Bool} {K : km_K} {m tx : Nat → Nat} {z a f : Nat}
theorem n_order {p : Nat} (hM : mR I tx z p) (hR : nR I m) (hw : wf m) (hz : z ≤ 120) (ht : ∀ i, i < z → tx i ≤ 127) (hp : p ≤ z) (ha : sk tx z p = a) (h : oM tx z (rO tx z m a) K q r1 r2 w I L) : kC sh kp 153 [.ref 71] (I, L, kr q w r1 r2) K := by
  have s1 := sk_p (tx := tx) hp
  have w0 := hw.1.1
  have w1 := hw.1.2.1
  have w2 := hw.1.2.2.1
  refine ⟨rfl, bM_readsOrder_0 (n_take hM hz ht hp fun I1 g1 g2 g3 => bM_readsOrder_4 ?_)⟩
  rw [ha] at s1 g2 g3 ⊢
  have R1 := nR_Y hR g1
  -- a letter
  have let' : ∀ c : Nat, c ≤ 127 → chI tx z a = nI c → chr tx z a = c ∧ a < z ∧ mR I1 tx z (a + 1) := fun c hc e => by
    obtain ⟨l, el⟩ := chI_59 ht hc e
    rw [show tp z a = a + 1 from if_pos l] at g2
    exact ⟨(if_pos l : chr tx z a = tx a).trans el, l, g2⟩
  unfold rO at h
  -- the order's own end
  have go : ∀ {X : Nat × Nat × (Nat → Nat)} {j : Nat}, oM tx z X K q r1 r2 w I L → (∀ (b : Int32) (M1 : (Nat → Nat → Int32) × (Nat → Nat → Int64) × (Nat → Nat → Nat)), b = 0 ∨ b = 1 → K (some (.int b)) M1 → kW sh kp 153 j [none] [.int b] M1 K) → oM tx z X (fun v M1 => kW sh kp 153 j [none] (v.toList ++ []) M1 K) q r1 r2 w I1 L := fun hX hj => ⟨fun e I' f1 f2 f3 => hj 1 _ (Or.inr rfl) (hX.1 e I' (fN_trans (fN_Y g1) f1) f2 f3), fun e I' f1 f2 => hj 0 _ (Or.inl rfl) (hX.2 e I' (fN_trans (fN_Y g1) f1) f2)⟩
  have no : oM tx z (a + 1, a, m) K q r1 r2 w I L → K (some (.int 0)) (I1, L, kr q w r1 r2) := fun hX => hX.2 (Nat.succ_ne_zero _) I1 (fN_Y g1) g3
  refine ⟨fun y => bM_readsOrder_63 ?_, fun y => bM_readsOrder_58 ?_, fun y => bM_readsOrder_48 ?_, fun y => bM_readsOrder_53 ?_, fun y => bM_readsOrder_68 ?_⟩
  · obtain ⟨c1, l, M1⟩ := let' 103 (by decide) y
    rw [if_neg (fun x => absurd (c1.symm.trans x.1) (by decide)), if_neg (fun x => absurd (c1.symm.trans x.1) (by decide)), if_neg (fun x => absurd (c1.symm.trans x) (by decide))] at h
    by_cases e : m 200 < 5
    · rw [if_pos ⟨c1, e⟩] at h
      exact n_guard M1 g3 R1 hw hz ht l e (go h fun b M1 h1 h2 => by obtain ⟨a1, a2, a3⟩ := M1; exact kW_block rfl ⟨h1, h2⟩)
    · rw [if_neg (fun x => e x.2)] at h
      refine ⟨rfl, bM_readsGuard_0 ⟨pk_in 200 212 (by decide), ?_⟩⟩
      rw [cl200, R1 200 (by decide)]
      exact (pk_eq (m 200) 5 (fun _ => bM_readsGuard_17 (bM_readsOrder_67 ⟨Or.inl rfl, no h⟩)) (fun y => absurd y (by omega))).symm
  · obtain ⟨c1, l, M1⟩ := let' 108 (by decide) y
    rw [if_neg (fun x => absurd (c1.symm.trans x.1) (by decide)), if_neg (fun x => absurd (c1.symm.trans x.1) (by decide)), if_pos c1] at h
    exact n_line M1 g3 R1 hw hz ht l (go h fun b M1 h1 h2 => by obtain ⟨a1, a2, a3⟩ := M1; exact kW_block rfl ⟨h1, h2⟩)
  · obtain ⟨c1, l, M1⟩ := let' 112 (by decide) y
    by_cases e : m 0 < 10
    · rw [if_pos ⟨c1, e⟩] at h
      exact n_place M1 g3 R1 hw hz ht l e (go h fun b M1 h1 h2 => by obtain ⟨a1, a2, a3⟩ := M1; exact kW_block rfl ⟨h1, h2⟩)
    · rw [if_neg (fun x => e x.2), if_neg (fun x => absurd (c1.symm.trans x.1) (by decide)), if_neg (fun x => absurd (c1.symm.trans x) (by decide)), if_neg (fun x => absurd (c1.symm.trans x.1) (by decide))] at h
      refine ⟨rfl, bM_readsPlace_0 ⟨pk_in 0 212 (by decide), ?_⟩⟩
      rw [cl0, R1 0 (by decide)]
      exact (pk_eq (m 0) 10 (fun _ => bM_readsPlace_11 (bM_readsOrder_52 ⟨Or.inl rfl, no h⟩)) (fun y => absurd y (by omega))).symm
  · obtain ⟨c1, l, M1⟩ := let' 116 (by decide) y
    rw [if_neg (fun x => absurd (c1.symm.trans x.1) (by decide))] at h
    by_cases e : m 1 < 8
    · rw [if_pos ⟨c1, e⟩] at h
      exact n_step M1 R1 hw hz ht l e (go h fun b M1 h1 h2 => by obtain ⟨a1, a2, a3⟩ := M1; exact kW_block rfl ⟨h1, h2⟩)
    · rw [if_neg (fun x => e x.2), if_neg (fun x => absurd (c1.symm.trans x) (by decide)), if_neg (fun x => absurd (c1.symm.trans x.1) (by decide))] at h
      refine ⟨rfl, bM_readsStep_0 ⟨pk_in 1 212 (by decide), ?_⟩⟩
      rw [cl1, R1 1 (by decide)]
      exact (pk_eq (m 1) 8 (fun _ => bM_readsStep_11 (bM_readsOrder_57 ⟨Or.inl rfl, no h⟩)) (fun y => absurd y (by omega))).symm
  · have ce : ∀ c : Nat, c ≤ 127 → ¬ chI tx z a = nI c → ¬ chr tx z a = c := fun c hc e x => e ((chI_c ht hc).mpr x)
    rw [if_neg (fun x => ce 112 (by decide) y.2.1 x.1), if_neg (fun x => ce 116 (by decide) y.1 x.1), if_neg (fun x => ce 108 (by decide) y.2.2.1 x), if_neg (fun x => ce 103 (by decide) y.2.2.2.1 x.1)] at h
    exact no h
theorem n_reads_loop (hz : z ≤ 120) (ht : ∀ i, i < z → tx i ≤ 127) : ∀ k n p a (m : Nat → Nat) I', n + k = 120 → n ≤ a → p ≤ z → sk tx z p = a → fN I I' → mR I' tx z p → nR I' m → wf m → ((rd tx z k n a m).2.1 = 0 → ∀ I2, fN I I2 → nR I2 (rd tx z k n a m).2.2 → kW sh kp 154 66 [some (.ref 71), some (.int (nI (rd tx z k n a m).1)), none] [] (I2, L, kr q w r1 r2) K) → ((rd tx z k n a m).2.1 ≠ 0 → ∀ I2, fN I I2 → K (some (.int (-10 - nI ((rd tx z k n a m).2.1 - 1)))) (I2, L, kr q w r1 r2)) → kW sh kp 154 34 [some (.ref 71), some (.int (nI n)), none] [] (I', L, kr q w r1 r2) K
  | 0, n, p, a, m, I', hn, hna, hp, ha, f1, f2, f3, hw, h1, h2 => by
    have sp := sk_p (tx := tx) hp
    refine bM_reads_34 (pk_eq n 0 (fun y => absurd y (by omega)) (fun _ => bM_reads_38 (n_look f2 hz ht hp fun I2 g1 g2 g3 => bM_reads_42 ?_)))
    rw [ha] at sp ⊢
    have ec : chI tx z a = -1 := if_neg (by omega)
    rw [ec]
    exact ⟨fun _ => h1 rfl I2 (fN_trans f1 (fN_Y g1)) (nR_Y f3 g1), fun y => absurd (by decide) y⟩
  | k + 1, n, p, a, m, I', hn, hna, hp, ha, f1, f2, f3, hw, h1, h2 => by
    have sp := sk_p (tx := tx) hp
    have ha' : a ≤ z := ha ▸ sp.2.1
    have pO := rO_p (tx := tx) hw ha'
    unfold rd at h1 h2
    have go : ∀ p' I2, p' ≤ z → sk tx z p' = a → fN I I2 → mR I2 tx z p' → nR I2 m → n = 0 ∨ a < z → kW sh kp 154 45 [some (.ref 71), some (.int (nI n)), none] [] (I2, L, kr q w r1 r2) K := fun p' I2 hp' hsk g1 g2 g3 e => bM_reads_45 (by
      rw [if_pos e] at h1 h2
      refine n_order g2 g3 hw hz ht hp' hsk ⟨fun e0 I3 j1 j2 j3 => bM_reads_49 ⟨fun _ => bM_reads_60 ?_, fun y => absurd y (by decide)⟩, fun e0 I3 j1 j2 => bM_reads_49 ⟨fun y => absurd rfl y, fun _ => bM_reads_52 ?_⟩⟩
      · rw [if_pos e0] at h1 h2
        rw [nI_1]
        have sn := sk_p (tx := tx) pO.2.1
        have := pO.2.2.2 e0
        exact n_reads_loop hz ht k (n + 1) (rO tx z m a).2.1 (sk tx z (rO tx z m a).2.1) (rO tx z m a).2.2 I3 (by omega) (by omega) pO.2.1 rfl (fN_trans g1 j1) j2 j3 pO.2.2.1 h1 h2
      · rw [if_neg e0] at h2
        rw [j2]
        exact h2 e0 I3 (fN_trans g1 j1))
    refine bM_reads_34 (pk_eq n 0 (fun y => go p I' hp ha f1 f2 f3 (Or.inl y)) (fun y => bM_reads_38 (n_look f2 hz ht hp fun I2 g1 g2 g3 => bM_reads_42 ?_)))
    rw [ha] at sp g2 ⊢
    have F2 := fN_trans f1 (fN_Y g1)
    by_cases e : a < z
    · have ec : chI tx z a = nI (tx a) := if_pos e
      have := ht a e
      rw [ec]
      refine pk_lt (tx a) 0 (fun y => absurd y (by omega)) (fun _ => go a I2 ha' (sk_id sp.2.2) F2 g2 (nR_Y f3 g1) (Or.inr e))
    · have ec : chI tx z a = -1 := if_neg e
      rw [ec]
      rw [if_neg (by omega)] at h1
      exact ⟨fun _ => h1 rfl I2 F2 (nR_Y f3 g1), fun y => absurd (by decide) y⟩
theorem y_reads {s : ast} (hs : sw s) (hc' : mI I s) : kC sh kp 154 [.ref 71] (I, L, kr q w r1 r2) (mT (o_reads s) I L (kr q w r1 r2)) := by
  have h5 := hs.2.1
  have w0 := hs.1.1.1
  refine ⟨rfl, bM_reads_0 ?_⟩
  refine up0 (Pr := fun i => ∀ I', (∀ a k, a ≠ 89 → I' a k = I a k) → (∀ k, k < i → I' 89 k = nI (s.1 k)) → kW sh kp 154 2 [some (.ref 71), some (.int (nI i)), none] [] (I', L, kr q w r1 r2) (mT (o_reads s) I L (kr q w r1 r2))) (e := 212) ?_ (fun i hi ih => ?_) I (fun _ _ _ => rfl) (fun k hk => absurd hk (by omega))
  · intro I1 f1 f2
    refine bM_reads_2 (pk_le 212 212 (fun _ => bM_reads_27 ?_) (fun y => absurd y (by omega)))
    have F1 : fN I (km_up I1 71 27 0) := fN_trans (fN_89 f1) (fN_Y fY_27)
    have M1 : mR (km_up I1 71 27 0) s.2.2.2.2.2 s.2.2.2.2.1 0 := ⟨(F1 71 25 (by decide) (fun _ => by decide)).trans hc'.2.2.2.1, fun i hi => (F1 88 i (by decide) (fun e => absurd e (by decide))).trans (hc'.2.2.2.2 i hi), up_s⟩
    have R1 : nR (km_up I1 71 27 0) s.1 := fun k hk => by rw [up_a (by decide)]; exact f2 k hk
    have pd := rd_p (tx := s.2.2.2.2.2) (z := s.2.2.2.2.1) 120 0 (sk s.2.2.2.2.2 s.2.2.2.2.1 0) s.1 hs.1 (sk_p (Nat.zero_le _)).2.1
    have mi : ∀ I2, fN I I2 → mI I2 s := fun I2 g => mI_fr (s := s) (m := s.1) hc' (fun a k z1 z2 => g a k (by omega) (fun e => by have := z1 e; omega)) (fun k hk => (g 72 k (by decide) (fun e => absurd e (by decide))).trans (hc'.1 k hk))
    have fx : ∀ I2, fN I I2 → fX I L I2 L := fun I2 g => ⟨fun a k z => g a k (by omega) (fun e => absurd e (by omega)), fun _ _ _ => rfl⟩
    refine n_reads_loop hs.2.2.2.1 hs.2.2.2.2 120 0 0 (sk s.2.2.2.2.2 s.2.2.2.2.1 0) s.1 _ rfl (Nat.zero_le _) (Nat.zero_le _) rfl F1 M1 R1 hs.1 (fun e0 I2 g1 g2 => bM_reads_66 ?_) (fun e0 I2 g1 => ?_)
    · unfold o_reads
      have e : rd s.2.2.2.2.2 s.2.2.2.2.1 120 0 (sk s.2.2.2.2.2 s.2.2.2.2.1 0) s.1 = rdA s := rfl
      rw [e] at e0 g2 pd ⊢
      generalize rdA s = X at e0 g2 pd ⊢
      rw [if_pos e0]
      obtain ⟨a1, ⟨a, a2, a3, a4, a5⟩, a6, a9, a10⟩ := mi I2 g1
      refine m_keepsState a1 a2 hs.2.1 a3 a4 a5 fun I3 j1 j2 j3 j4 => bM_reads_70 ?_
      refine up0 (Pr := fun i => ∀ I', (∀ a k, a ≠ 72 → I' a k = I3 a k) → (∀ k, k < i → I' 72 k = nI (X.2.2 k)) → kW sh kp 154 72 [some (.ref 71), some (.int (nI X.1)), some (.int (nI i))] [] (I', L, kr q w r1 r2) (mT (nI X.1, a_ch s X.2.2) I L (kr q w r1 r2))) (e := 212) ?_ (fun i hi ih => ?_) I3 (fun _ _ _ => rfl) (fun k hk => absurd hk (by omega))
      · intro I4 k1 k2
        refine bM_reads_72 (pk_le 212 212 (fun _ => bM_reads_97 ?_) (fun y => absurd y (by omega)))
        have G : ∀ a k, a ≠ 72 → a ≠ 73 → (a = 71 → k ≠ 2 ∧ k ≠ 3) → I4 a k = I2 a k := fun a k z1 z2 z3 => (k1 a k z1).trans (j1 a k z2 z3)
        refine mP_mk (s := a_ch s X.2.2) ⟨k2, ⟨(a + 1) % 5, Nat.mod_lt _ (by decide), (k1 71 3 (by decide)).trans j2, (k1 71 2 (by decide)).trans j3, fun i hi k hk => (k1 73 _ (by decide)).trans (j4 i hi k hk)⟩, ⟨(G 71 4 (by decide) (by decide) (fun _ => by decide)).trans a6.1, (G 71 5 (by decide) (by decide) (fun _ => by decide)).trans a6.2.1, (G 71 6 (by decide) (by decide) (fun _ => by decide)).trans a6.2.2⟩, (G 71 25 (by decide) (by decide) (fun _ => by decide)).trans a9, fun i hi => (G 88 i (by decide) (by decide) (fun e => absurd e (by decide))).trans (a10 i hi)⟩ ⟨fun a k z => (G a k (by omega) (by omega) (fun e => absurd e (by omega))).trans ((fx I2 g1).1 a k z), fun _ _ _ => rfl⟩
      · intro I4 k1 k2
        refine bM_reads_72 (pk_le 212 i (fun y => absurd y (by omega)) (fun _ => bM_reads_79 ?_))
        have e89 : I4 89 i = nI (X.2.2 i) := by
          rw [k1 89 i (by decide), j1 89 i (by decide) (fun e => absurd e (by decide))]
          exact g2 i hi
        rw [nI_clamp (by omega), e89, nI_1]
        refine ⟨vp_in_nI (by omega) (by decide), vp_in_nI (by omega) (by decide), ih _ (fun a k z => by rw [up_a z]; exact k1 a k z) (fun k hk => ?_)⟩
        by_cases e : k = i
        · rw [e, up_s]
        · rw [up_k e]
          exact k2 k (by omega)
    · unfold o_reads
      have e : rd s.2.2.2.2.2 s.2.2.2.2.1 120 0 (sk s.2.2.2.2.2 s.2.2.2.2.1 0) s.1 = rdA s := rfl
      rw [e] at e0 ⊢
      rw [if_neg e0]
      exact mP_mk (mi I2 g1) (fx I2 g1)
  · intro I1 f1 f2
    refine bM_reads_2 (pk_le 212 i (fun y => absurd y (by omega)) (fun _ => bM_reads_9 ?_))
    have e72 : I1 72 i = nI (s.1 i) := by
      rw [f1 72 i (by decide)]
      exact hc'.1 i hi
    rw [nI_clamp (by omega), e72, nI_1]
    refine ⟨vp_in_nI (by omega) (by decide), vp_in_nI (by omega) (by decide), ih _ (fun a k z => by rw [up_a z]; exact f1 a k z) (fun k hk => ?_)⟩
    by_cases e : k = i
    · rw [e, up_s]
    · rw [up_k e]
      exact f2 k (by omega)
end READS
