/-! SUMS: balance, whole (printed by wip/whole/gen/bal2.py) -/
section BALR0
variable {I : Nat → Nat → Int32} {L : Nat → Nat → Int64} {q r1 r2 : Nat → Nat} {K : km_K} {u : Nat → Nat → Nat} {m : Nat → Nat} {t n : Nat}
theorem c_bal_rows0 (hw : wb m) (ht : t < 8) (hg : gR r1 r2) (hr : rys m t n u) (hn : n ≤ 64) (h : ∀ I' L' n' u', bm0 I L r1 r2 m t n u n n' u' I' L' → bal m t n u n (fun _ _ => False) n' u' → kW sh kp 163 69 [some (.ref 56), none, none, none, none, none, none] [] (I', L', kr q false r1 r2) K) : ∀ k j I' L' n' u', j + k = n → bm0 I L r1 r2 m t n u j n' u' I' L' → bal m t n u j (fun _ _ => False) n' u' → kW sh kp 163 8 [some (.ref 56), some (.long (lN (mp 32 (mz m (40 + 10 * t)) 10))), none, some (.long (lN (mp 32 (mz m (120 + 10 * t)) 10))), none, some (.int (nI j)), none] [] (I', L', kr q false r1 r2) K
  | 0, j, I', L', n', u', hk, hm, hb => by
    have e : j = n := by omega
    rw [e] at hm hb ⊢
    exact bV_balance_0_8 (pk_le n n (fun _ => h I' L' n' u' hm hb) (fun y => absurd y (by omega)) hm.2.2.1)
  | k + 1, j, I', L', n', u', hk, hm, hb => by
    have hjn : j < n := by omega
    have f32 : ∀ p, p < 10 → mz m (40 + 10 * t) p < 32 ∧ mz m (120 + 10 * t) p < 32 := fun p _ => by
      have := mz_2 (m := m) hw ht p
      omega
    have bj := wGT_b hw ht (ray_le hw (by omega) (hr.1 j hjn))
    have sj := su_GT (m := m) (t := t) hw.1 (x := u j)
    have h10 : ∀ p, 10 ≤ p → u j p = 0 := (Kc_cone hw.1 t).2.2.2 _ (hr.1 j hjn).1
    refine bV_balance_0_8 (pk_le n j (fun y => absurd y (by omega)) (fun _ => bV_balance_0_17 (c_weighted0 (T := wG m t (u j)) hg hn hjn hm.2.2.2.2.1 (fun p hp => (f32 p hp).2) rfl (bV_balance_0_30 (c_weighted0 (T := wT m t (u j)) hg hn hjn hm.2.2.2.2.1 (fun p hp => (f32 p hp).1) rfl (bV_balance_0_38 ?_))))) hm.2.2.1)
    rw [nI_clamp (by omega), nI_l (by omega), nI_l (by omega), up_s]
    have vj : vp_in (nI j) 64 := vp_in_nI (by omega) (by decide)
    -- the surplus is written
    have m1 : bm0 I L r1 r2 m t n u (j + 1) n' u' I' (km_up L' 61 j (lN (wG m t (u j)) - lN (wT m t (u j)))) := by
      refine ⟨hm.1, fun a k z1 z2 => by rw [up_a z1]; exact hm.2.1 a k z1 z2, hm.2.2.1, hm.2.2.2.1, fun i hi => ?_, fun i hi => ?_, fun i hi => ?_⟩
      · have g := hg.1 i (by omega)
        have := hm.2.2.2.2.1 i hi
        exact ⟨this.1, fun p hp => by rw [up_a (by omega)]; exact this.2 p hp⟩
      · have rm := bal_room hw ht hb
        have g := hg.1 i (by omega)
        have := hm.2.2.2.2.2.1 i hi
        exact ⟨this.1, fun p hp => by rw [up_a (by omega)]; exact this.2 p hp⟩
      · by_cases e : i = j
        · rw [e, up_s]
        · rw [up_k e]
          exact hm.2.2.2.2.2.2 i (by omega)
    generalize km_up L' 61 j (lN (wG m t (u j)) - lN (wT m t (u j))) = L1 at m1
    refine ⟨rfl, vj, vj, fun y => bV_balance_0_63 ?_, fun y => bV_balance_0_53 ?_⟩
    · rw [nI_1]
      refine c_bal_rows0 hw ht hg hr hn h k (j + 1) I' L1 n' u' (by omega) m1 (bal_skip (fun c => y (lg0.mpr (Int64.toInt_inj.mp ?_))) hb)
      rw [dGT bj.1 bj.2, show (0 : Int64).toInt = 0 by decide]
      omega
    · have z : su m t (u j) = 0 := by
        have := congrArg Int64.toInt (lg0.mp y)
        rw [dGT bj.1 bj.2, show (0 : Int64).toInt = 0 by decide] at this
        omega
      have bn := bal_zero hr (fun _ _ c => c) hjn z hb
      have room := bal_room hw ht bn
      have ex : (fun p => 1 * u j p + 0 * u j p) = u j := funext fun p => by rw [Nat.one_mul, Nat.zero_mul, Nat.add_zero]
      have xj := ray_le hw (by omega) (hr.1 j hjn)
      refine c_comb0 (n := n) (n' := n') (u := u) (ta := 1) (tb := 0) hg hn (by omega) hjn hjn rfl rfl (fun p => ?_) m1.2.2.2.1 m1.2.2.2.2.1 fun I2 L2 f1 f2 f3 f4 f5 f6 => bV_balance_0_63 ?_
      · have := xj p
        have k3 : 10321920 < 5 ^ 25 := by decide
        omega
      · rw [nI_1]
        have gn := hg.1 n' (by omega)
        refine c_bal_rows0 hw ht hg hr hn h k (j + 1) I2 L2 (n' + 1) _ (by omega) ⟨fun c k z1 z2 z3 => (f1 c k (by omega) (fun e => absurd e z1)).trans (m1.1 c k z1 z2 z3), fun c k z1 z2 => (f3 c k (by omega)).trans (m1.2.1 c k z1 z2), (f1 56 0 (by decide) (fun _ => by decide)).trans m1.2.2.1, f4, fun i hi => ?_, ?_, fun i hi => (f3 61 i (by omega)).trans (m1.2.2.2.2.2.2 i hi)⟩ bn
        · have := m1.2.2.2.2.1 i hi
          exact ⟨(f1 57 i (by decide) (fun e => absurd e (by decide))).trans this.1, fun p hp => (f3 _ p (hg.2.2 i n' (by omega) (by omega))).trans (this.2 p hp)⟩
        · refine vo_up (x' := 0) (fun i hi => (hg.2.1 i n' (by omega) (by omega) (by omega)).2) m1.2.2.2.2.2.1 (fun k hk => f2 k hk) f3 ?_ (fun p hp => ?_)
          · rw [f5, Nat.or_self]
          · rw [f6 p hp, ex, gcn_1 (hr.1 j hjn).2.2.2 h10, Nat.one_mul, Nat.zero_mul, Nat.add_zero, Nat.div_one]
theorem c_balance0 (hw : wb m) (ht : t < 8) (hg : gR r1 r2) (hr : rys m t n u) (hn : n ≤ 64) (h0 : I 56 0 = nI n) (hv : vo 57 r1 I L n u) (h : ∀ I' L' n' u', (∀ a k, a ≠ 56 → a ≠ 57 → a ≠ 59 → I' a k = I a k) → (∀ a k, a ≠ 61 → (a < 90 ∨ 218 ≤ a) → L' a k = L a k) → n' ≤ 64 → rys m (t + 1) n' u' → I' 56 0 = nI n' → vo 59 r2 I' L' n' u' → K none (I', L', kr q true r1 r2)) : kC sh kp 163 [.ref 56, .long (lN (mp 32 (mz m (40 + 10 * t)) 10)), .long (lN (mp 32 (mz m (120 + 10 * t)) 10))] (I, L, kr q false r1 r2) K := by
  refine ⟨rfl, bV_balance_0_0 ?_⟩
  refine c_bal_rows0 (I := I) (L := L) hw ht hg hr hn (fun I1 L1 n1 u1 m1 b1 => bV_balance_0_69 ?_) n 0 _ L 0 (fun _ _ => 0) (by omega) ⟨fun a k z1 z2 z3 => up_a z1, fun _ _ _ _ => rfl, by rw [up_k (by decide)]; exact h0, up_s, fun i hi => ?_, fun i hi => absurd hi (by omega), fun j hj => absurd hj (by omega)⟩ (bal_0 (fun _ _ c => c) _)
  · refine c_bal_pairs0 (I := I) (L := L) hw ht hg hr hn (fun I2 L2 n2 u2 m2 ry => bV_balance_0_163 ⟨rfl, bV_exchange_0_0 ?_⟩) n 0 I1 L1 n1 u1 (by omega) m1 (bal_cg (fun c d _ _ => by show False ↔ c < 0; exact ⟨fun z => z.elim, fun z => by omega⟩) b1)
    have e := kr_ex (q := q) (r1 := r1) (r2 := r2) (w := false)
    rw [up_k (show (5 : Nat) ≠ 1 by decide)]
    show kW sh kp 163 167 [none, none, none, none, none, none, none] [] (km_up I2 56 0 (I2 56 3), L2, km_up (km_up (km_up (km_up (kr q false r1 r2) 56 1 (cond false 57 59)) 56 2 (cond false 58 60)) 56 4 (cond false 59 57)) 56 5 (cond false 60 58)) K
    rw [e]
    refine bV_balance_1_167 (h _ L2 n2 u2 (fun a k z1 z2 z3 => by rw [up_a z1]; exact m2.1 a k z1 z2 z3) m2.2.1 (ray_count hw (t := t + 1) (by omega) ry.1 ry.2.1) ry (by rw [up_s]; exact m2.2.2.2.1) (fun i hi => ?_))
    rw [up_a (by decide)]
    exact m2.2.2.2.2.2.1 i hi
  · rw [up_a (by decide)]
    exact hv i hi
end BALR0
section BALR1
variable {I : Nat → Nat → Int32} {L : Nat → Nat → Int64} {q r1 r2 : Nat → Nat} {K : km_K} {u : Nat → Nat → Nat} {m : Nat → Nat} {t n : Nat}
theorem c_bal_rows1 (hw : wb m) (ht : t < 8) (hg : gR r1 r2) (hr : rys m t n u) (hn : n ≤ 64) (h : ∀ I' L' n' u', bm1 I L r1 r2 m t n u n n' u' I' L' → bal m t n u n (fun _ _ => False) n' u' → kW sh kp 163 69 [some (.ref 56), none, none, none, none, none, none] [] (I', L', kr q true r1 r2) K) : ∀ k j I' L' n' u', j + k = n → bm1 I L r1 r2 m t n u j n' u' I' L' → bal m t n u j (fun _ _ => False) n' u' → kW sh kp 163 8 [some (.ref 56), some (.long (lN (mp 32 (mz m (40 + 10 * t)) 10))), none, some (.long (lN (mp 32 (mz m (120 + 10 * t)) 10))), none, some (.int (nI j)), none] [] (I', L', kr q true r1 r2) K
  | 0, j, I', L', n', u', hk, hm, hb => by
    have e : j = n := by omega
    rw [e] at hm hb ⊢
    exact bV_balance_1_8 (pk_le n n (fun _ => h I' L' n' u' hm hb) (fun y => absurd y (by omega)) hm.2.2.1)
  | k + 1, j, I', L', n', u', hk, hm, hb => by
    have hjn : j < n := by omega
    have f32 : ∀ p, p < 10 → mz m (40 + 10 * t) p < 32 ∧ mz m (120 + 10 * t) p < 32 := fun p _ => by
      have := mz_2 (m := m) hw ht p
      omega
    have bj := wGT_b hw ht (ray_le hw (by omega) (hr.1 j hjn))
    have sj := su_GT (m := m) (t := t) hw.1 (x := u j)
    have h10 : ∀ p, 10 ≤ p → u j p = 0 := (Kc_cone hw.1 t).2.2.2 _ (hr.1 j hjn).1
    refine bV_balance_1_8 (pk_le n j (fun y => absurd y (by omega)) (fun _ => bV_balance_1_17 (c_weighted1 (T := wG m t (u j)) hg hn hjn hm.2.2.2.2.1 (fun p hp => (f32 p hp).2) rfl (bV_balance_1_30 (c_weighted1 (T := wT m t (u j)) hg hn hjn hm.2.2.2.2.1 (fun p hp => (f32 p hp).1) rfl (bV_balance_1_38 ?_))))) hm.2.2.1)
    rw [nI_clamp (by omega), nI_l (by omega), nI_l (by omega), up_s]
    have vj : vp_in (nI j) 64 := vp_in_nI (by omega) (by decide)
    -- the surplus is written
    have m1 : bm1 I L r1 r2 m t n u (j + 1) n' u' I' (km_up L' 61 j (lN (wG m t (u j)) - lN (wT m t (u j)))) := by
      refine ⟨hm.1, fun a k z1 z2 => by rw [up_a z1]; exact hm.2.1 a k z1 z2, hm.2.2.1, hm.2.2.2.1, fun i hi => ?_, fun i hi => ?_, fun i hi => ?_⟩
      · have g := hg.1 i (by omega)
        have := hm.2.2.2.2.1 i hi
        exact ⟨this.1, fun p hp => by rw [up_a (by omega)]; exact this.2 p hp⟩
      · have rm := bal_room hw ht hb
        have g := hg.1 i (by omega)
        have := hm.2.2.2.2.2.1 i hi
        exact ⟨this.1, fun p hp => by rw [up_a (by omega)]; exact this.2 p hp⟩
      · by_cases e : i = j
        · rw [e, up_s]
        · rw [up_k e]
          exact hm.2.2.2.2.2.2 i (by omega)
    generalize km_up L' 61 j (lN (wG m t (u j)) - lN (wT m t (u j))) = L1 at m1
    refine ⟨rfl, vj, vj, fun y => bV_balance_1_63 ?_, fun y => bV_balance_1_53 ?_⟩
    · rw [nI_1]
      refine c_bal_rows1 hw ht hg hr hn h k (j + 1) I' L1 n' u' (by omega) m1 (bal_skip (fun c => y (lg0.mpr (Int64.toInt_inj.mp ?_))) hb)
      rw [dGT bj.1 bj.2, show (0 : Int64).toInt = 0 by decide]
      omega
    · have z : su m t (u j) = 0 := by
        have := congrArg Int64.toInt (lg0.mp y)
        rw [dGT bj.1 bj.2, show (0 : Int64).toInt = 0 by decide] at this
        omega
      have bn := bal_zero hr (fun _ _ c => c) hjn z hb
      have room := bal_room hw ht bn
      have ex : (fun p => 1 * u j p + 0 * u j p) = u j := funext fun p => by rw [Nat.one_mul, Nat.zero_mul, Nat.add_zero]
      have xj := ray_le hw (by omega) (hr.1 j hjn)
      refine c_comb1 (n := n) (n' := n') (u := u) (ta := 1) (tb := 0) hg hn (by omega) hjn hjn rfl rfl (fun p => ?_) m1.2.2.2.1 m1.2.2.2.2.1 fun I2 L2 f1 f2 f3 f4 f5 f6 => bV_balance_1_63 ?_
      · have := xj p
        have k3 : 10321920 < 5 ^ 25 := by decide
        omega
      · rw [nI_1]
        have gn := hg.1 n' (by omega)
        refine c_bal_rows1 hw ht hg hr hn h k (j + 1) I2 L2 (n' + 1) _ (by omega) ⟨fun c k z1 z2 z3 => (f1 c k (by omega) (fun e => absurd e z1)).trans (m1.1 c k z1 z2 z3), fun c k z1 z2 => (f3 c k (by omega)).trans (m1.2.1 c k z1 z2), (f1 56 0 (by decide) (fun _ => by decide)).trans m1.2.2.1, f4, fun i hi => ?_, ?_, fun i hi => (f3 61 i (by omega)).trans (m1.2.2.2.2.2.2 i hi)⟩ bn
        · have := m1.2.2.2.2.1 i hi
          exact ⟨(f1 59 i (by decide) (fun e => absurd e (by decide))).trans this.1, fun p hp => (f3 _ p (fun c => hg.2.2 n' i (by omega) (by omega) c.symm)).trans (this.2 p hp)⟩
        · refine vo_up (x' := 0) (fun i hi => (hg.2.1 i n' (by omega) (by omega) (by omega)).1) m1.2.2.2.2.2.1 (fun k hk => f2 k hk) f3 ?_ (fun p hp => ?_)
          · rw [f5, Nat.or_self]
          · rw [f6 p hp, ex, gcn_1 (hr.1 j hjn).2.2.2 h10, Nat.one_mul, Nat.zero_mul, Nat.add_zero, Nat.div_one]
theorem c_balance1 (hw : wb m) (ht : t < 8) (hg : gR r1 r2) (hr : rys m t n u) (hn : n ≤ 64) (h0 : I 56 0 = nI n) (hv : vo 59 r2 I L n u) (h : ∀ I' L' n' u', (∀ a k, a ≠ 56 → a ≠ 57 → a ≠ 59 → I' a k = I a k) → (∀ a k, a ≠ 61 → (a < 90 ∨ 218 ≤ a) → L' a k = L a k) → n' ≤ 64 → rys m (t + 1) n' u' → I' 56 0 = nI n' → vo 57 r1 I' L' n' u' → K none (I', L', kr q false r1 r2)) : kC sh kp 163 [.ref 56, .long (lN (mp 32 (mz m (40 + 10 * t)) 10)), .long (lN (mp 32 (mz m (120 + 10 * t)) 10))] (I, L, kr q true r1 r2) K := by
  refine ⟨rfl, bV_balance_1_0 ?_⟩
  refine c_bal_rows1 (I := I) (L := L) hw ht hg hr hn (fun I1 L1 n1 u1 m1 b1 => bV_balance_1_69 ?_) n 0 _ L 0 (fun _ _ => 0) (by omega) ⟨fun a k z1 z2 z3 => up_a z1, fun _ _ _ _ => rfl, by rw [up_k (by decide)]; exact h0, up_s, fun i hi => ?_, fun i hi => absurd hi (by omega), fun j hj => absurd hj (by omega)⟩ (bal_0 (fun _ _ c => c) _)
  · refine c_bal_pairs1 (I := I) (L := L) hw ht hg hr hn (fun I2 L2 n2 u2 m2 ry => bV_balance_1_163 ⟨rfl, bV_exchange_1_0 ?_⟩) n 0 I1 L1 n1 u1 (by omega) m1 (bal_cg (fun c d _ _ => by show False ↔ c < 0; exact ⟨fun z => z.elim, fun z => by omega⟩) b1)
    have e := kr_ex (q := q) (r1 := r1) (r2 := r2) (w := true)
    rw [up_k (show (5 : Nat) ≠ 1 by decide)]
    show kW sh kp 163 167 [none, none, none, none, none, none, none] [] (km_up I2 56 0 (I2 56 3), L2, km_up (km_up (km_up (km_up (kr q true r1 r2) 56 1 (cond true 57 59)) 56 2 (cond true 58 60)) 56 4 (cond true 59 57)) 56 5 (cond true 60 58)) K
    rw [e]
    refine bV_balance_0_167 (h _ L2 n2 u2 (fun a k z1 z2 z3 => by rw [up_a z1]; exact m2.1 a k z1 z2 z3) m2.2.1 (ray_count hw (t := t + 1) (by omega) ry.1 ry.2.1) ry (by rw [up_s]; exact m2.2.2.2.1) (fun i hi => ?_))
    rw [up_a (by decide)]
    exact m2.2.2.2.2.2.1 i hi
  · rw [up_a (by decide)]
    exact hv i hi
end BALR1
