/-! SUMS: balance (printed by wip/whole/gen/bal.py) -/
theorem bal_cg {m : Nat → Nat} {t n k1 n' : Nat} {u u' : Nat → Nat → Nat} {dn dn' : Nat → Nat → Prop} (h : ∀ c d, c < n → d < n → (dn c d ↔ dn' c d)) (hb : bal m t n u k1 dn n' u') : bal m t n u k1 dn' n' u' := by
  refine ⟨fun i hi => ⟨(hb.1 i hi).1, ?_⟩, hb.2.1, hb.2.2.1, fun c d c1 c2 c3 => hb.2.2.2 c d c1 c2 ((h c d c1 c2).mpr c3)⟩
  rcases (hb.1 i hi).2 with g | ⟨c, d, c1, c2, c3, c4⟩
  · exact Or.inl g
  · exact Or.inr ⟨c, d, c1, c2, (h c d c1 c2).mp c3, c4⟩
theorem dGT {G T : Nat} (hG : G ≤ 206438400) (hT : T ≤ 206438400) : (lN G - lN T).toInt = (G : Int) - (T : Int) := by
  rw [Int64.toInt_sub, pf_lI (by omega), pf_lI (by omega)]
  exact Int.bmod_eq_of_le (by omega) (by omega)
theorem kr_o {q r1 r2 : Nat → Nat} {w w' : Bool} {a k : Nat} (h : a ≠ 56 ∨ (k ≠ 1 ∧ k ≠ 2 ∧ k ≠ 4 ∧ k ≠ 5)) : kr q w r1 r2 a k = kr q w' r1 r2 a k := by
  by_cases e : a = 56
  · rcases h with h | h
    · exact absurd e h
    · rw [e]
      match k, h with
      | 0, _ => rfl
      | 1, h => exact absurd rfl h.1
      | 2, h => exact absurd rfl h.2.1
      | 3, _ => rfl
      | 4, h => exact absurd rfl h.2.2.1
      | 5, h => exact absurd rfl h.2.2.2
      | k + 6, _ => rfl
  · unfold kr
    rw [beq_n e]
    rfl
theorem kr_ex {q r1 r2 : Nat → Nat} {w : Bool} : km_up (km_up (km_up (km_up (kr q w r1 r2) 56 1 (cond w 57 59)) 56 2 (cond w 58 60)) 56 4 (cond w 59 57)) 56 5 (cond w 60 58) = kr q (! w) r1 r2 := funext fun a => funext fun k => by
  by_cases e : a = 56
  · rw [e]
    by_cases e5 : k = 5
    · rw [e5, up_s]
      cases w <;> rfl
    · rw [up_k e5]
      by_cases e4 : k = 4
      · rw [e4, up_s]
        cases w <;> rfl
      · rw [up_k e4]
        by_cases e2 : k = 2
        · rw [e2, up_s]
          cases w <;> rfl
        · rw [up_k e2]
          by_cases e1 : k = 1
          · rw [e1, up_s]
            cases w <;> rfl
          · rw [up_k e1]
            exact kr_o (Or.inr ⟨e1, e2, e4, e5⟩)
  · rw [up_a e, up_a e, up_a e, up_a e]
    exact kr_o (Or.inl e)
theorem gcn_1 {x : Nat → Nat} (hp : prim x) (h10 : ∀ p, 10 ≤ p → x p = 0) : gcn x 10 = 1 := hp _ fun p => by
  by_cases e : p < 10
  · exact gcn_dvd 10 p e
  · rw [h10 p (by omega)]
    exact Nat.dvd_zero _
theorem spt_or {x a b : Nat → Nat} (hx : ∀ p, 10 ≤ p → x p = 0) (ha : ∀ p, 10 ≤ p → a p = 0) (hb : ∀ p, 10 ≤ p → b p = 0) (h : tgz x a b) : spt a ||| spt b = spt x := Nat.eq_of_testBit_eq fun q => by
  have key : (spt a ||| spt b).testBit q = true ↔ (spt x).testBit q = true := by
    rw [Nat.testBit_or, Bool.or_eq_true, spt_tb ha, spt_tb hb, spt_tb hx]
    constructor
    · intro g c
      have := (h q).mp c
      rcases g with z | z
      · exact z this.1
      · exact z this.2
    · intro g
      refine Classical.byContradiction fun c => g ((h q).mpr ⟨Classical.byContradiction fun d => c (Or.inl d), Classical.byContradiction fun d => c (Or.inr d)⟩)
  cases e : (spt x).testBit q with
  | true => exact key.mpr e
  | false =>
    cases e2 : (spt a ||| spt b).testBit q with
    | false => rfl
    | true => rw [key.mp e2] at e; exact absurd e (by decide)
theorem vo_up {S n x' : Nat} {ρ : Nat → Nat} {I I' : Nat → Nat → Int32} {L L' : Nat → Nat → Int64} {u : Nat → Nat → Nat} {x : Nat → Nat} (hρ : ∀ i, i < n → ρ i ≠ ρ n) (hv : vo S ρ I L n u) (f1 : ∀ k, k ≠ n → I' S k = I S k) (f2 : ∀ c k, c ≠ ρ n → L' c k = L c k) (h1 : I' S n = nI (spt x)) (h2 : ∀ p, p < 10 → L' (ρ n) p = lN (x p)) : vo S ρ I' L' (n + 1) (upv u n x) := fun k hk => by
  by_cases e : k = n
  · rw [e, upv_s]
    exact ⟨h1, h2⟩
  · rw [upv_o e]
    have := hv k (by omega)
    exact ⟨(f1 k e).trans this.1, fun p hp => (f2 _ p (hρ k (by omega))).trans (this.2 p hp)⟩
section BALC0
variable {I : Nat → Nat → Int32} {L : Nat → Nat → Int64} {q r1 r2 : Nat → Nat} {K : km_K} {u : Nat → Nat → Nat} {m : Nat → Nat} {t n : Nat}
/-- memory while a step is balanced -/
def bm0 (I : Nat → Nat → Int32) (L : Nat → Nat → Int64) (r1 r2 : Nat → Nat) (m : Nat → Nat) (t n : Nat) (u : Nat → Nat → Nat) (ks : Nat) (n' : Nat) (u' : Nat → Nat → Nat) (I' : Nat → Nat → Int32) (L' : Nat → Nat → Int64) : Prop := (∀ a k, a ≠ 56 → a ≠ 57 → a ≠ 59 → I' a k = I a k) ∧ (∀ a k, a ≠ 61 → (a < 90 ∨ 218 ≤ a) → L' a k = L a k) ∧ I' 56 0 = nI n ∧ I' 56 3 = nI n' ∧ vo 57 r1 I' L' n u ∧ vo 59 r2 I' L' n' u' ∧ ∀ j, j < ks → L' 61 j = lN (wG m t (u j)) - lN (wT m t (u j))
theorem c_bal_pairs0 (hw : wb m) (ht : t < 8) (hg : gR r1 r2) (hr : rys m t n u) (hn : n ≤ 64) (h : ∀ I' L' n' u', bm0 I L r1 r2 m t n u n n' u' I' L' → rys m (t + 1) n' u' → kW sh kp 163 163 [some (.ref 56), none, none, none, none, none, none] [] (I', L', kr q false r1 r2) K) : ∀ k a I' L' n' u', a + k = n → bm0 I L r1 r2 m t n u n n' u' I' L' → bal m t n u n (fun c _ => c < a) n' u' → kW sh kp 163 72 [some (.ref 56), none, none, none, none, some (.int (nI a)), none] [] (I', L', kr q false r1 r2) K
  | 0, a, I', L', n', u', hk, hm, hb => bV_balance_0_72 (pk_le n a (fun _ => h I' L' n' u' hm (bal_end hw.1 hr (fun c d hc _ => by show c < a; omega) hb)) (fun y => absurd y (by omega)) hm.2.2.1)
  | k + 1, a, I', L', n', u', hk, hm, hb => by
    have han : a < n := by omega
    refine bV_balance_0_72 (pk_le n a (fun y => absurd y (by omega)) (fun _ => bV_balance_0_81 ?_) hm.2.2.1)
    have h10 : ∀ i, i < n → ∀ p, 10 ≤ p → u i p = 0 := fun i hi => (Kc_cone hw.1 t).2.2.2 _ (hr.1 i hi).1
    refine up0 (Pr := fun b => ∀ I' L' n' u', bm0 I L r1 r2 m t n u n n' u' I' L' → bal m t n u n (fun c d => c < a ∨ (c = a ∧ d < b)) n' u' → kW sh kp 163 84 [some (.ref 56), none, none, none, none, some (.int (nI a)), some (.int (nI b))] [] (I', L', kr q false r1 r2) K) (e := n) (fun I1 L1 n1 u1 m1 b1 => ?_) (fun b hbn ih I1 L1 n1 u1 m1 b1 => ?_) I' L' n' u' hm (bal_cg (fun c d _ _ => by show c < a ↔ c < a ∨ (c = a ∧ d < 0); omega) hb)
    · refine bV_balance_0_84 (pk_le n n (fun _ => bV_balance_0_157 ?_) (fun y => absurd y (by omega)) m1.2.2.1)
      rw [nI_1]
      exact c_bal_pairs0 hw ht hg hr hn h k (a + 1) I1 L1 n1 u1 (by omega) m1 (bal_cg (fun c d _ hd => by show c < a ∨ (c = a ∧ d < n) ↔ c < a + 1; omega) b1)
    · have hd' : ∀ c d, (c < a ∨ (c = a ∧ d < b + 1)) ↔ (c < a ∨ (c = a ∧ d < b)) ∨ (c = a ∧ d = b) := fun c d => by omega
      have ba := wGT_b hw ht (ray_le hw (by omega) (hr.1 a han))
      have bb := wGT_b hw ht (ray_le hw (by omega) (hr.1 b hbn))
      have sa := su_GT (m := m) (t := t) hw.1 (x := u a)
      have sb := su_GT (m := m) (t := t) hw.1 (x := u b)
      have pass : ¬ (0 < su m t (u a) ∧ su m t (u b) < 0 ∧ adj (Kc m t) (u a) (u b)) → kW sh kp 163 151 [some (.ref 56), none, none, none, none, some (.int (nI a)), some (.int (nI b))] [] (I1, L1, kr q false r1 r2) K := fun c => bV_balance_0_151 (by
        rw [nI_1]
        exact ih I1 L1 n1 u1 m1 (bal_pass hd' c b1))
      have z0 : (0 : Int64).toInt = 0 := by decide
      refine bV_balance_0_84 (pk_le n b (fun y => absurd y (by omega)) (fun _ => bV_balance_0_93 ⟨vp_in_nI (by omega) (by decide), ?_⟩) m1.2.2.1)
      rw [nI_clamp (by omega), m1.2.2.2.2.2.2 a han]
      refine ⟨fun y => pass fun c => ?_, fun y => bV_balance_0_105 ⟨vp_in_nI (by omega) (by decide), ?_⟩⟩
      · rw [lg_le, dGT ba.1 ba.2, z0] at y
        omega
      rw [lg_le, dGT ba.1 ba.2, z0] at y
      rw [nI_clamp (by omega), m1.2.2.2.2.2.2 b hbn]
      refine ⟨fun y2 => pass fun c => ?_, fun y2 => bV_balance_0_117 ?_⟩
      · rw [lg_ge, dGT bb.1 bb.2, z0] at y2
        omega
      rw [lg_ge, dGT bb.1 bb.2, z0] at y2
      refine c_adj0 hn han hbn m1.2.2.1 m1.2.2.2.2.1 (fun hj => bV_balance_0_125 ⟨fun c => absurd c (by decide), fun _ => bV_balance_0_128 ⟨vp_in_nI (by omega) (by decide), vp_in_nI (by omega) (by decide), ?_⟩⟩) (fun hj => bV_balance_0_125 ⟨fun _ => pass fun c => ?_, fun c => absurd rfl c⟩)
      · have hadj := (adj_rows hw hr han hbn).mpr hj
        rw [nI_clamp (show a < 2 ^ 31 by omega), nI_clamp (show b < 2 ^ 31 by omega), m1.2.2.2.2.2.2 a han, m1.2.2.2.2.2.2 b hbn]
        have cr := cmb_ray (t := t) hw.1 (A := wG m t (u a) - wT m t (u a)) (B := wT m t (u b) - wG m t (u b)) (hr.1 a han) (hr.1 b hbn) (by omega) (by omega) (by omega) (by omega) hadj
        have bn := bal_pair hw.1 hr han hbn (by omega) hd' (by omega) (by omega) hadj cr.1 cr.2 b1
        have room := bal_room hw ht bn
        have xa := ray_le hw (by omega) (hr.1 a han)
        have xb := ray_le hw (by omega) (hr.1 b hbn)
        refine c_comb0 (n := n) (n' := n1) (u := u) (ta := wT m t (u b) - wG m t (u b)) (tb := wG m t (u a) - wT m t (u a)) hg hn (by omega) han hbn (by rw [Int64.neg_sub]; exact lN_sb (by omega)) (lN_sb (by omega)) (fun p => ?_) m1.2.2.2.1 m1.2.2.2.2.1 fun I2 L2 f1 f2 f3 f4 f5 f6 => bV_balance_0_151 ?_
        · have k1 : (wT m t (u b) - wG m t (u b)) * u a p ≤ 206438400 * 10321920 := Nat.mul_le_mul (by omega) (xa p)
          have k2 : (wG m t (u a) - wT m t (u a)) * u b p ≤ 206438400 * 10321920 := Nat.mul_le_mul (by omega) (xb p)
          have k3 : 206438400 * 10321920 + 206438400 * 10321920 < 5 ^ 25 := by decide
          omega
        · rw [nI_1]
          have x10 : ∀ p, 10 ≤ p → cmb (wG m t (u a) - wT m t (u a)) (wT m t (u b) - wG m t (u b)) (u a) (u b) p = 0 := (Kc_cone hw.1 (t + 1)).2.2.2 _ cr.1.1
          have gn := hg.1 n1 (by omega)
          refine ih I2 L2 (n1 + 1) _ ⟨fun c k z1 z2 z3 => (f1 c k (by omega) (fun e => absurd e z1)).trans (m1.1 c k z1 z2 z3), fun c k z1 z2 => (f3 c k (by omega)).trans (m1.2.1 c k z1 z2), (f1 56 0 (by decide) (fun _ => by decide)).trans m1.2.2.1, f4, fun i hi => ?_, ?_, fun j hj => (f3 61 j (by omega)).trans (m1.2.2.2.2.2.2 j hj)⟩ bn
          · have := m1.2.2.2.2.1 i hi
            exact ⟨(f1 57 i (by decide) (fun e => absurd e (by decide))).trans this.1, fun p hp => (f3 _ p (hg.2.2 i n1 (by omega) (by omega))).trans (this.2 p hp)⟩
          · refine vo_up (x' := 0) (fun i hi => (hg.2.1 i n1 (by omega) (by omega) (by omega)).2) m1.2.2.2.2.2.1 (fun k hk => f2 k hk) f3 ?_ f6
            rw [f5, spt_or x10 (h10 a han) (h10 b hbn) cr.2]
      · obtain ⟨k', k1, k2, k3, k4⟩ := hj
        exact (adj_rows hw hr han hbn).mp c.2.2 k' k1 k2 k3 k4
end BALC0
section BALC1
variable {I : Nat → Nat → Int32} {L : Nat → Nat → Int64} {q r1 r2 : Nat → Nat} {K : km_K} {u : Nat → Nat → Nat} {m : Nat → Nat} {t n : Nat}
/-- memory while a step is balanced -/
def bm1 (I : Nat → Nat → Int32) (L : Nat → Nat → Int64) (r1 r2 : Nat → Nat) (m : Nat → Nat) (t n : Nat) (u : Nat → Nat → Nat) (ks : Nat) (n' : Nat) (u' : Nat → Nat → Nat) (I' : Nat → Nat → Int32) (L' : Nat → Nat → Int64) : Prop := (∀ a k, a ≠ 56 → a ≠ 57 → a ≠ 59 → I' a k = I a k) ∧ (∀ a k, a ≠ 61 → (a < 90 ∨ 218 ≤ a) → L' a k = L a k) ∧ I' 56 0 = nI n ∧ I' 56 3 = nI n' ∧ vo 59 r2 I' L' n u ∧ vo 57 r1 I' L' n' u' ∧ ∀ j, j < ks → L' 61 j = lN (wG m t (u j)) - lN (wT m t (u j))
theorem c_bal_pairs1 (hw : wb m) (ht : t < 8) (hg : gR r1 r2) (hr : rys m t n u) (hn : n ≤ 64) (h : ∀ I' L' n' u', bm1 I L r1 r2 m t n u n n' u' I' L' → rys m (t + 1) n' u' → kW sh kp 163 163 [some (.ref 56), none, none, none, none, none, none] [] (I', L', kr q true r1 r2) K) : ∀ k a I' L' n' u', a + k = n → bm1 I L r1 r2 m t n u n n' u' I' L' → bal m t n u n (fun c _ => c < a) n' u' → kW sh kp 163 72 [some (.ref 56), none, none, none, none, some (.int (nI a)), none] [] (I', L', kr q true r1 r2) K
  | 0, a, I', L', n', u', hk, hm, hb => bV_balance_1_72 (pk_le n a (fun _ => h I' L' n' u' hm (bal_end hw.1 hr (fun c d hc _ => by show c < a; omega) hb)) (fun y => absurd y (by omega)) hm.2.2.1)
  | k + 1, a, I', L', n', u', hk, hm, hb => by
    have han : a < n := by omega
    refine bV_balance_1_72 (pk_le n a (fun y => absurd y (by omega)) (fun _ => bV_balance_1_81 ?_) hm.2.2.1)
    have h10 : ∀ i, i < n → ∀ p, 10 ≤ p → u i p = 0 := fun i hi => (Kc_cone hw.1 t).2.2.2 _ (hr.1 i hi).1
    refine up0 (Pr := fun b => ∀ I' L' n' u', bm1 I L r1 r2 m t n u n n' u' I' L' → bal m t n u n (fun c d => c < a ∨ (c = a ∧ d < b)) n' u' → kW sh kp 163 84 [some (.ref 56), none, none, none, none, some (.int (nI a)), some (.int (nI b))] [] (I', L', kr q true r1 r2) K) (e := n) (fun I1 L1 n1 u1 m1 b1 => ?_) (fun b hbn ih I1 L1 n1 u1 m1 b1 => ?_) I' L' n' u' hm (bal_cg (fun c d _ _ => by show c < a ↔ c < a ∨ (c = a ∧ d < 0); omega) hb)
    · refine bV_balance_1_84 (pk_le n n (fun _ => bV_balance_1_157 ?_) (fun y => absurd y (by omega)) m1.2.2.1)
      rw [nI_1]
      exact c_bal_pairs1 hw ht hg hr hn h k (a + 1) I1 L1 n1 u1 (by omega) m1 (bal_cg (fun c d _ hd => by show c < a ∨ (c = a ∧ d < n) ↔ c < a + 1; omega) b1)
    · have hd' : ∀ c d, (c < a ∨ (c = a ∧ d < b + 1)) ↔ (c < a ∨ (c = a ∧ d < b)) ∨ (c = a ∧ d = b) := fun c d => by omega
      have ba := wGT_b hw ht (ray_le hw (by omega) (hr.1 a han))
      have bb := wGT_b hw ht (ray_le hw (by omega) (hr.1 b hbn))
      have sa := su_GT (m := m) (t := t) hw.1 (x := u a)
      have sb := su_GT (m := m) (t := t) hw.1 (x := u b)
      have pass : ¬ (0 < su m t (u a) ∧ su m t (u b) < 0 ∧ adj (Kc m t) (u a) (u b)) → kW sh kp 163 151 [some (.ref 56), none, none, none, none, some (.int (nI a)), some (.int (nI b))] [] (I1, L1, kr q true r1 r2) K := fun c => bV_balance_1_151 (by
        rw [nI_1]
        exact ih I1 L1 n1 u1 m1 (bal_pass hd' c b1))
      have z0 : (0 : Int64).toInt = 0 := by decide
      refine bV_balance_1_84 (pk_le n b (fun y => absurd y (by omega)) (fun _ => bV_balance_1_93 ⟨vp_in_nI (by omega) (by decide), ?_⟩) m1.2.2.1)
      rw [nI_clamp (by omega), m1.2.2.2.2.2.2 a han]
      refine ⟨fun y => pass fun c => ?_, fun y => bV_balance_1_105 ⟨vp_in_nI (by omega) (by decide), ?_⟩⟩
      · rw [lg_le, dGT ba.1 ba.2, z0] at y
        omega
      rw [lg_le, dGT ba.1 ba.2, z0] at y
      rw [nI_clamp (by omega), m1.2.2.2.2.2.2 b hbn]
      refine ⟨fun y2 => pass fun c => ?_, fun y2 => bV_balance_1_117 ?_⟩
      · rw [lg_ge, dGT bb.1 bb.2, z0] at y2
        omega
      rw [lg_ge, dGT bb.1 bb.2, z0] at y2
      refine c_adj1 hn han hbn m1.2.2.1 m1.2.2.2.2.1 (fun hj => bV_balance_1_125 ⟨fun c => absurd c (by decide), fun _ => bV_balance_1_128 ⟨vp_in_nI (by omega) (by decide), vp_in_nI (by omega) (by decide), ?_⟩⟩) (fun hj => bV_balance_1_125 ⟨fun _ => pass fun c => ?_, fun c => absurd rfl c⟩)
      · have hadj := (adj_rows hw hr han hbn).mpr hj
        rw [nI_clamp (show a < 2 ^ 31 by omega), nI_clamp (show b < 2 ^ 31 by omega), m1.2.2.2.2.2.2 a han, m1.2.2.2.2.2.2 b hbn]
        have cr := cmb_ray (t := t) hw.1 (A := wG m t (u a) - wT m t (u a)) (B := wT m t (u b) - wG m t (u b)) (hr.1 a han) (hr.1 b hbn) (by omega) (by omega) (by omega) (by omega) hadj
        have bn := bal_pair hw.1 hr han hbn (by omega) hd' (by omega) (by omega) hadj cr.1 cr.2 b1
        have room := bal_room hw ht bn
        have xa := ray_le hw (by omega) (hr.1 a han)
        have xb := ray_le hw (by omega) (hr.1 b hbn)
        refine c_comb1 (n := n) (n' := n1) (u := u) (ta := wT m t (u b) - wG m t (u b)) (tb := wG m t (u a) - wT m t (u a)) hg hn (by omega) han hbn (by rw [Int64.neg_sub]; exact lN_sb (by omega)) (lN_sb (by omega)) (fun p => ?_) m1.2.2.2.1 m1.2.2.2.2.1 fun I2 L2 f1 f2 f3 f4 f5 f6 => bV_balance_1_151 ?_
        · have k1 : (wT m t (u b) - wG m t (u b)) * u a p ≤ 206438400 * 10321920 := Nat.mul_le_mul (by omega) (xa p)
          have k2 : (wG m t (u a) - wT m t (u a)) * u b p ≤ 206438400 * 10321920 := Nat.mul_le_mul (by omega) (xb p)
          have k3 : 206438400 * 10321920 + 206438400 * 10321920 < 5 ^ 25 := by decide
          omega
        · rw [nI_1]
          have x10 : ∀ p, 10 ≤ p → cmb (wG m t (u a) - wT m t (u a)) (wT m t (u b) - wG m t (u b)) (u a) (u b) p = 0 := (Kc_cone hw.1 (t + 1)).2.2.2 _ cr.1.1
          have gn := hg.1 n1 (by omega)
          refine ih I2 L2 (n1 + 1) _ ⟨fun c k z1 z2 z3 => (f1 c k (by omega) (fun e => absurd e z1)).trans (m1.1 c k z1 z2 z3), fun c k z1 z2 => (f3 c k (by omega)).trans (m1.2.1 c k z1 z2), (f1 56 0 (by decide) (fun _ => by decide)).trans m1.2.2.1, f4, fun i hi => ?_, ?_, fun j hj => (f3 61 j (by omega)).trans (m1.2.2.2.2.2.2 j hj)⟩ bn
          · have := m1.2.2.2.2.1 i hi
            exact ⟨(f1 59 i (by decide) (fun e => absurd e (by decide))).trans this.1, fun p hp => (f3 _ p (fun c => hg.2.2 n1 i (by omega) (by omega) c.symm)).trans (this.2 p hp)⟩
          · refine vo_up (x' := 0) (fun i hi => (hg.2.1 i n1 (by omega) (by omega) (by omega)).1) m1.2.2.2.2.2.1 (fun k hk => f2 k hk) f3 ?_ f6
            rw [f5, spt_or x10 (h10 a han) (h10 b hbn) cr.2]
      · obtain ⟨k', k1, k2, k3, k4⟩ := hj
        exact (adj_rows hw hr han hbn).mp c.2.2 k' k1 k2 k3 k4
end BALC1
