/-! THE CLASS'S SEARCH, spread (printed by wip/whole/gen/spread.py, once for each of the two searches) -/
def cQ (B M D N T : Nat) (m : Nat → Nat) (I : Nat → Nat → Int32) (L : Nat → Nat → Int64) (I' : Nat → Nat → Int32) (L' : Nat → Nat → Int64) (s : sst) (u : Nat → Nat) : Prop := cR I' L' 1 m ∧ fP B M D N T I L I' L' ∧ I' B 6 = 0 ∧ cS I' L' B M D s ∧ cU I' T u ∧ tv s u
theorem cQ_up {B M D N T : Nat} {m : Nat → Nat} {I I' : Nat → Nat → Int32} {L L' : Nat → Nat → Int64} {s : sst} {u : Nat → Nat} {j : Nat} {v : Int32} (hB : B ≠ N) (hD : D ≠ N) (hT : T ≠ N) (hN : 6 < N) (h : cQ B M D N T m I L I' L' s u) : cQ B M D N T m I L (km_up I' N j v) L' s u := by
  obtain ⟨h1, h2, h3, h4, h5, h6⟩ := h
  refine ⟨cR_fr (fun a k g1 g2 => up_a (by omega)) (fun _ _ _ _ => rfl) h1, ⟨fun a k g1 g2 g3 g4 => (up_a g3).trans (h2.1 a k g1 g2 g3 g4), h2.2⟩, (up_a hB).trans h3, ⟨(up_a hB).trans h4.1, fun i hi => ⟨(h4.2 i hi).1, (up_a hD).trans (h4.2 i hi).2⟩⟩, fun k hk => (up_a hT).trans (h5 k hk), h6⟩
theorem cQ_E {B M D N T : Nat} {m : Nat → Nat} {I I' I2 : Nat → Nat → Int32} {L L' L2 : Nat → Nat → Int64} {s s2 : sst} {u u2 : Nat → Nat} (hB : 6 < B) (hD : 6 < D) (hT : 6 < T) (hM : 6 < M) (hBD : B ≠ D) (hBT : B ≠ T) (h : cQ B M D N T m I L I' L' s u) (hf : fE B M D T I' L' I2 L2) (g4 : cS I2 L2 B M D s2) (g5 : cU I2 T u2) (g6 : tv s2 u2) : cQ B M D N T m I L I2 L2 s2 u2 := by
  obtain ⟨h1, h2, h3, h4, h5, h6⟩ := h
  exact ⟨cR_fr (fun a k g1 g2 => hf.1 a k (fun e => by omega) (by omega) (by omega)) (fun a k g1 g2 => hf.2 a k (by omega)) h1, fP_E h2 hf, (hf.1 B 6 (fun _ => by decide) hBD hBT).trans h3, g4, g5, g6⟩
/-- the steps laid so far, whatever list comes of it -/
def nd (m : Nat → Nat) (b N : Nat) (I : Nat → Nat → Int32) (s : sst) (k t : Nat) : Prop := ∀ s3, gl m s3 → ext s s3 → (∀ i, i < k → ∀ t', t' < m 1 → I N (8 * i + t') = nx m b s3 i t') ∧ ∀ t', t' < t → I N (8 * k + t') = nx m b s3 k t'
theorem nd_next {m : Nat → Nat} {b N k t : Nat} {I I2 : Nat → Nat → Int32} {s s2 : sst} {v : Int32} (hw : m 1 ≤ 8) (ht : t < m 1) (he : ext s s2) (hn : nd m b N I s k t) (hI : ∀ j, I2 N j = I N j) (hv : ∀ s3, gl m s3 → ext s2 s3 → v = nx m b s3 k t) : nd m b N (km_up I2 N (8 * k + t) v) s2 k (t + 1) := fun s3 hg h3 => by
  have h := hn s3 hg (ext_trans he h3)
  refine ⟨fun i hi t' ht' => ?_, fun t' ht' => ?_⟩
  · rw [up_k (by omega), hI]
    exact h.1 i hi t' ht'
  · by_cases e : t' = t
    · rw [e, up_s]
      exact hv s3 hg h3
    · rw [up_k (by omega), hI]
      exact h.2 t' (by omega)
section SPREAD
variable {I : Nat → Nat → Int32} {L : Nat → Nat → Int64} {q r1 r2 : Nat → Nat} {w : Bool} {K : km_K} {m : Nat → Nat}
theorem c_spread_in_h {s : sst} {b k : Nat} {x5 : Int64} (hw : wb m) (hb : b < 6) (hk : k < 200) (hg : gl m s) (hks : k < s.1)
    (h : ∀ I' L' u, cQ 44 45 46 48 49 m I L I' L' (inn m b k s (m 1)) u → nd m b 48 I' (inn m b k s (m 1)) k (m 1) → kW sh kp 190 155 [some (.ref 44), some (.ref 1), none, none, some (.int (bI b)), some (.long x5), none, none, some (.int (nI k)), none, none] [] (I', L', kr q w r1 r2) K) :
    ∀ d t, t + d = m 1 → ∀ I' L' u, cQ 44 45 46 48 49 m I L I' L' (inn m b k s t) u → nd m b 48 I' (inn m b k s t) k t → kW sh kp 190 67 [some (.ref 44), some (.ref 1), none, none, some (.int (bI b)), some (.long x5), none, none, some (.int (nI k)), some (.int (nI t)), none] [] (I', L', kr q w r1 r2) K := by
  have w0 := hw.1
  have w1 := hw.2.1
  refine up_loop (Pr := fun t => ∀ I' L' u, cQ 44 45 46 48 49 m I L I' L' (inn m b k s t) u → nd m b 48 I' (inn m b k s t) k t → kW sh kp 190 67 [some (.ref 44), some (.ref 1), none, none, some (.int (bI b)), some (.long x5), none, none, some (.int (nI k)), some (.int (nI t)), none] [] (I', L', kr q w r1 r2) K) (e := m 1) ?_ fun t ht ih => ?_
  · intro I' L' u hq hn
    exact bF_spread_h_67 (pk_le (m 1) (m 1) (fun _ => h I' L' u hq hn) (fun g => absurd g (by omega)) hq.1.2.1)
  · intro I' L' u hq hn
    have hi := inn_gl (b := b) w0 hg hks t
    have ih' : ∀ I2 L2 u, cQ 44 45 46 48 49 m I L I2 L2 (stp m b k t (inn m b k s t)) u → nd m b 48 I2 (stp m b k t (inn m b k s t)) k (t + 1) → kW sh kp 190 67 [some (.ref 44), some (.ref 1), none, none, some (.int (bI b)), some (.long x5), none, none, some (.int (nI k)), some (.int (nI (t + 1))), none] [] (I2, L2, kr q w r1 r2) K := ih
    generalize hs' : inn m b k s t = s' at hi hq hn ih'
    have hk' : k < s'.1 := Nat.lt_of_lt_of_le hks hi.2.1
    have h200 := hi.1.2.1
    have hvd := hi.1.2.2.1 k hk'
    have hv := hvd.1
    have vk : vp_in (nI k) 200 := vp_in_nI hk (by decide)
    have ekk : (nI k).toNatClampNeg = k := nI_clamp (by omega)
    have ek : L' 45 (nI k).toNatClampNeg = lN (mp 32 (dg (s'.2.1 k)) 10) := by
      rw [ekk, ← hv.2]
      exact (hq.2.2.2.1.2 k hk').1
    have vn : vp_in (nI (8 * k + t)) 1600 := vp_in_nI (by omega) (by decide)
    have en : (nI (8 * k + t)).toNatClampNeg = 8 * k + t := nI_clamp (by omega)
    refine bF_spread_h_67 (pk_le (m 1) t (fun g => absurd g (by omega)) (fun _ => bF_spread_h_76 ⟨vk, ?_⟩) hq.1.2.1)
    rw [ek]
    refine c_hind hq.1 hw ht hb hv.1 (bF_spread_h_91 ⟨fun g => bF_spread_h_98 (bF_spread_h_99 ⟨fun _ => bF_spread_h_147 (bF_spread_h_148 ⟨rfl, ?_, ?_⟩), fun z => absurd rfl z⟩), fun g => bF_spread_h_94 (bF_spread_h_99 ⟨fun z => absurd z (by decide), fun _ => bF_spread_h_118 ⟨vk, ?_⟩⟩)⟩)
    · rw [nx8]
      exact vn
    · rw [nx8, en, nI_1]
      have hy : ¬ why m (dg (s'.2.1 k)) t b = 0 := fun z => g (by rw [z]; rfl)
      have e : stp m b k t s' = s' := if_neg hy
      rw [e] at ih'
      refine ih' _ _ u (cQ_up (by decide) (by decide) (by decide) (by decide) hq) (nd_next w1 ht (ext_refl s') hn (fun _ => rfl) fun s3 h3 h4 => ?_)
      unfold nx
      rw [(h4.2 k hk').1, if_neg hy]
    · have hy : why m (dg (s'.2.1 k)) t b = 0 := by
        have := why_lt (m := m) (f := dg (s'.2.1 k)) (t := t) (b := b)
        have g : nI (why m (dg (s'.2.1 k)) t b) = nI 0 := g
        exact (nI_eq (by omega) (by decide)).mp g
      have hva := vc_aft w0 hv hy
      have hvl := vc_lt hva.1
      have e : stp m b k t s' = put s' (aftc m (s'.2.1 k) t) (s'.2.2 k + 1) := if_pos hy
      rw [e] at ih'
      rw [ek]
      refine c_after hq.1 hw ht (roomz (why_room hy)).1 (bF_spread_h_132 ⟨vk, ?_⟩)
      rw [ekk, (hq.2.2.2.1.2 k hk').2, nI_1]
      refine c_enter_h (c := aftc m (s'.2.1 k) t) (gl_gk hi.1) hq.2.2.2.1 hq.2.2.2.2.1 hq.2.2.2.2.2 (Nat.lt_trans hvl (by decide)) fun I2 L2 u2 f1 f2 f3 f4 => bF_spread_h_144 (bF_spread_h_148 ⟨rfl, ?_, ?_⟩)
      · rw [nx8]
        exact vn
      · rw [nx8, en, nI_1]
        refine ih' _ _ u2 (cQ_up (by decide) (by decide) (by decide) (by decide) (cQ_E (by decide) (by decide) (by decide) (by decide) (by decide) (by decide) hq f1 f2 f3 f4)) (nd_next w1 ht put_ext hn (fun j => f1.1 48 j (fun z => absurd z (by decide)) (by decide) (by decide)) fun s3 h3 h4 => ?_)
        have ek3 : s3.2.1 k = s'.2.1 k := ((ext_trans put_ext h4).2 k hk').1
        unfold nx
        rw [ek3, if_pos hy]
        exact eI_later (gl_gk h3) h200 h4
theorem c_spread_h {b c : Nat} {x5 : Int64} (hR : cR I L 1 m) (hw : wb m) (hb : b < 6) (hc : vc m c) (hx : x5 = -1 ∨ ∃ g, vc m g ∧ x5 = lN g)
    (h1 : ∀ I' L' u, cQ 44 45 46 48 49 m I L I' L' (sr m b c) u → (∀ k, k < (sr m b c).1 → ∀ t, t < m 1 → I' 48 (8 * k + t) = nx m b (sr m b c) k t) → K none (I', L', kr q w r1 r2))
    (h2 : ∀ g, x5 = lN g → vc m g → ∀ s I' L' u, cQ 44 45 46 48 49 m I L I' L' s u → gl m s → ext s (sr m b c) → pl s g < s.1 → K none (I', L', kr q w r1 r2)) : kC sh kp 190 [.ref 44, .ref 1, .long (lN c), .int (bI b), .long x5] (I, L, kr q w r1 r2) K := by
  have w0 := hw.1
  have hcl := vc_lt hc
  refine ⟨rfl, bF_spread_h_0 (j_fillI rfl (by decide) fun I1 f1 f2 => bF_spread_h_8 ?_)⟩
  have hS0 : cS (km_up (km_up I1 44 3 0) 44 6 0) L 44 45 46 (0, fun _ => c, fun _ => 0) := ⟨by rw [up_k (by decide), up_s]; rfl, fun j hj => absurd hj (by show ¬ j < 0; omega)⟩
  have hU0 : cU (km_up (km_up I1 44 3 0) 44 6 0) 49 (fun _ => 0) := fun k hk => by
    rw [up_a (by decide), up_a (by decide)]
    exact f2 k hk
  refine c_enter_h (m := m) (s := (0, fun _ => c, fun _ => 0)) (d := 0) ⟨(show 0 ≤ 200 by decide), fun j hj => absurd hj (by show ¬ j < 0; omega), fun i j _ hj => absurd hj (by show ¬ j < 0; omega)⟩ hS0 hU0 tv_0 (Nat.lt_trans hcl (by decide)) fun I2 L2 u2 g1 g2 g3 g4 => ?_
  have e0 : put (0, fun _ => c, fun _ => 0) c 0 = ou m b c 0 := by
    have h1 : ups (fun _ => c) 0 c = fun _ => c := funext fun j => by unfold ups; split <;> rfl
    have h2 : ups (fun _ => 0) 0 0 = fun _ => 0 := funext fun j => by unfold ups; split <;> rfl
    show put (0, fun _ => c, fun _ => 0) c 0 = (1, fun _ => c, fun _ => 0)
    unfold put
    rw [if_pos ⟨rfl, (show 0 < 200 by decide)⟩]
    show (0 + 1, ups (fun _ => c) 0 c, ups (fun _ => 0) 0 0) = _
    rw [h1, h2]
  rw [e0] at g2 g4
  have hq0 : cQ 44 45 46 48 49 m I L I2 L2 (ou m b c 0) u2 := by
    refine ⟨cR_fr (fun a k z1 z2 => ?_) (fun a k z1 z2 => g1.2 a k (by omega)) hR, ⟨fun a k z1 z2 z3 z4 => ?_, g1.2⟩, ?_, g2, g3, g4⟩
    · rw [g1.1 a k (fun e => by omega) (by omega) (by omega), up_a (by omega), up_a (by omega)]
      exact f1 a k (by omega)
    · by_cases ea : a = 44
      · rw [g1.1 a k (fun e => (z1 e).1) z2 z4, up_k (z1 ea).2, up_k (z1 ea).1]
        exact f1 a k z4
      · rw [g1.1 a k (fun e => (z1 e).1) z2 z4, up_a ea, up_a ea]
        exact f1 a k z4
    · rw [g1.1 44 6 (fun _ => by decide) (by decide) (by decide), up_s]
  have key := up0 (Pr := fun k => ∀ I' L' u x7, cQ 44 45 46 48 49 m I L I' L' (ou m b c k) u → nd m b 48 I' (ou m b c k) k 0 → (x7 = 0 ∨ (x7 = 1 ∧ ∃ g, x5 = lN g ∧ vc m g ∧ pl (ou m b c k) g < (ou m b c k).1)) → kW sh kp 190 42 [some (.ref 44), some (.ref 1), none, none, some (.int (bI b)), some (.long x5), none, some (.int x7), some (.int (nI k)), none, none] [] (I', L', kr q w r1 r2) K) (e := 200) ?_ (fun k hk ih => ?_) I2 L2 u2
  · have n0 : nd m b 48 I2 (ou m b c 0) 0 0 := fun s3 _ _ => ⟨fun i hi => absurd hi (by omega), fun t ht => absurd ht (by omega)⟩
    refine bF_spread_h_24 ⟨fun _ => bF_spread_h_36 (bF_spread_h_37 (key 0 hq0 n0 (Or.inl rfl))), fun z => bF_spread_h_32 (bF_spread_h_37 (key 1 hq0 n0 (Or.inr ⟨rfl, c, (lg0.mp z).symm, hc, ?_⟩)))⟩
    rw [pl_uniq (c := c) (gl_gk (ou_gl (b := b) w0 hc 0)) (i := 0) (by show 0 < 1; decide) rfl]
    show 0 < 1
    decide
  · intro I' L' u x7 hq hn _
    have hg := ou_gl (b := b) w0 hc 200
    have hgg := hg.2.1
    refine bF_spread_h_42 (pk_le 200 200 (fun _ => bF_spread_h_187 (h1 I' L' u hq fun k hk => (hn _ hg (ext_refl _)).1 k ?_)) (fun z => absurd z (by omega)))
    have hk' : k < (ou m b c 200).1 := hk
    omega
  · intro I' L' u x7 hq hn hx7
    have hg := ou_gl (b := b) w0 hc k
    have h200 := hg.2.1
    refine bF_spread_h_42 (pk_le 200 k (fun z => absurd z (by omega)) (fun _ => bF_spread_h_50 (pk_le (ou m b c k).1 k (fun z => bF_spread_h_187 ?_) (fun z => bF_spread_h_59 ⟨fun y => bF_spread_h_187 ?_, fun y => bF_spread_h_64 ?_⟩) hq.2.2.2.1.1)))
    · have e := sr_end z (by omega)
      rw [e] at h1
      exact h1 I' L' u hq fun i hi => (hn _ hg (ext_refl _)).1 i (by omega)
    · rcases hx7 with e | ⟨e, g, y1, y2, y3⟩
      · exact absurd e y
      · have e2 := ou_ext (b := b) w0 hc k (200 - k)
        rw [show k + (200 - k) = 200 by omega] at e2
        exact h2 g y1 y2 _ I' L' u hq hg e2 y3
    · refine c_spread_in_h (I := I) (L := L) (s := ou m b c k) hw hb hk hg z (fun I3 L3 u3 hq3 hn3 => ?_) (m 1) 0 (by omega) I' L' u hq hn
      have eo : ou m b c (k + 1) = inn m b k (ou m b c k) (m 1) := if_pos z
      rw [← eo] at hq3 hn3
      have hg3 := ou_gl (b := b) w0 hc (k + 1)
      have hn4 : nd m b 48 I3 (ou m b c (k + 1)) (k + 1) 0 := fun s3 g1 g2 => ⟨fun i hi t' ht' => by
        by_cases e : i = k
        · rw [e]
          exact (hn3 s3 g1 g2).2 t' ht'
        · exact (hn3 s3 g1 g2).1 i (by omega) t' ht', fun t ht => absurd ht (by omega)⟩
      have go : ∀ x, (x = 0 ∨ (x = 1 ∧ ∃ g, x5 = lN g ∧ vc m g ∧ pl (ou m b c (k + 1)) g < (ou m b c (k + 1)).1)) → kW sh kp 190 179 [some (.ref 44), some (.ref 1), none, none, some (.int (bI b)), some (.long x5), none, none, some (.int (nI k)), none, none] [.int x] (I3, L3, kr q w r1 r2) K := fun x hxx => bF_spread_h_179 (by
        rw [nI_1]
        exact ih I3 L3 u3 x hq3 hn4 hxx)
      refine bF_spread_h_155 ⟨fun _ => bF_spread_h_178 (go 0 (Or.inl rfl)), fun y => bF_spread_h_164 ?_⟩
      rcases hx with e | ⟨g, e1, e2⟩
      · exact absurd (lg0.mpr e) y
      · have hgl := vc_lt e1
        rw [e2]
        refine c_index_h (gl_gk hg3) hq3.2.2.2.1 hq3.2.2.2.2.1 hq3.2.2.2.2.2 (Nat.lt_trans hgl (by decide)) ?_
        rw [e2] at go
        refine bF_spread_h_170 ⟨fun _ => bF_spread_h_178 (go 0 (Or.inl rfl)), fun y => bF_spread_h_174 (go 1 (Or.inr ⟨rfl, g, rfl, e1, ?_⟩))⟩
        have hle := pl_le (ou m b c (k + 1)) g
        rcases Nat.lt_or_ge (pl (ou m b c (k + 1)) g) (ou m b c (k + 1)).1 with a | a
        · exact a
        · exact absurd (show pI (ou m b c (k + 1)) g = -1 from if_neg (by omega)) y
theorem c_spread_in_a {s : sst} {b k : Nat} {x5 : Int64} (hw : wb m) (hb : b < 6) (hk : k < 200) (hg : gl m s) (hks : k < s.1)
    (h : ∀ I' L' u, cQ 50 51 52 54 55 m I L I' L' (inn m b k s (m 1)) u → nd m b 54 I' (inn m b k s (m 1)) k (m 1) → kW sh kp 190 155 [some (.ref 50), some (.ref 1), none, none, some (.int (bI b)), some (.long x5), none, none, some (.int (nI k)), none, none] [] (I', L', kr q w r1 r2) K) :
    ∀ d t, t + d = m 1 → ∀ I' L' u, cQ 50 51 52 54 55 m I L I' L' (inn m b k s t) u → nd m b 54 I' (inn m b k s t) k t → kW sh kp 190 67 [some (.ref 50), some (.ref 1), none, none, some (.int (bI b)), some (.long x5), none, none, some (.int (nI k)), some (.int (nI t)), none] [] (I', L', kr q w r1 r2) K := by
  have w0 := hw.1
  have w1 := hw.2.1
  refine up_loop (Pr := fun t => ∀ I' L' u, cQ 50 51 52 54 55 m I L I' L' (inn m b k s t) u → nd m b 54 I' (inn m b k s t) k t → kW sh kp 190 67 [some (.ref 50), some (.ref 1), none, none, some (.int (bI b)), some (.long x5), none, none, some (.int (nI k)), some (.int (nI t)), none] [] (I', L', kr q w r1 r2) K) (e := m 1) ?_ fun t ht ih => ?_
  · intro I' L' u hq hn
    exact bF_spread_a_67 (pk_le (m 1) (m 1) (fun _ => h I' L' u hq hn) (fun g => absurd g (by omega)) hq.1.2.1)
  · intro I' L' u hq hn
    have hi := inn_gl (b := b) w0 hg hks t
    have ih' : ∀ I2 L2 u, cQ 50 51 52 54 55 m I L I2 L2 (stp m b k t (inn m b k s t)) u → nd m b 54 I2 (stp m b k t (inn m b k s t)) k (t + 1) → kW sh kp 190 67 [some (.ref 50), some (.ref 1), none, none, some (.int (bI b)), some (.long x5), none, none, some (.int (nI k)), some (.int (nI (t + 1))), none] [] (I2, L2, kr q w r1 r2) K := ih
    generalize hs' : inn m b k s t = s' at hi hq hn ih'
    have hk' : k < s'.1 := Nat.lt_of_lt_of_le hks hi.2.1
    have h200 := hi.1.2.1
    have hvd := hi.1.2.2.1 k hk'
    have hv := hvd.1
    have vk : vp_in (nI k) 200 := vp_in_nI hk (by decide)
    have ekk : (nI k).toNatClampNeg = k := nI_clamp (by omega)
    have ek : L' 51 (nI k).toNatClampNeg = lN (mp 32 (dg (s'.2.1 k)) 10) := by
      rw [ekk, ← hv.2]
      exact (hq.2.2.2.1.2 k hk').1
    have vn : vp_in (nI (8 * k + t)) 1600 := vp_in_nI (by omega) (by decide)
    have en : (nI (8 * k + t)).toNatClampNeg = 8 * k + t := nI_clamp (by omega)
    refine bF_spread_a_67 (pk_le (m 1) t (fun g => absurd g (by omega)) (fun _ => bF_spread_a_76 ⟨vk, ?_⟩) hq.1.2.1)
    rw [ek]
    refine c_hind hq.1 hw ht hb hv.1 (bF_spread_a_91 ⟨fun g => bF_spread_a_98 (bF_spread_a_99 ⟨fun _ => bF_spread_a_147 (bF_spread_a_148 ⟨rfl, ?_, ?_⟩), fun z => absurd rfl z⟩), fun g => bF_spread_a_94 (bF_spread_a_99 ⟨fun z => absurd z (by decide), fun _ => bF_spread_a_118 ⟨vk, ?_⟩⟩)⟩)
    · rw [nx8]
      exact vn
    · rw [nx8, en, nI_1]
      have hy : ¬ why m (dg (s'.2.1 k)) t b = 0 := fun z => g (by rw [z]; rfl)
      have e : stp m b k t s' = s' := if_neg hy
      rw [e] at ih'
      refine ih' _ _ u (cQ_up (by decide) (by decide) (by decide) (by decide) hq) (nd_next w1 ht (ext_refl s') hn (fun _ => rfl) fun s3 h3 h4 => ?_)
      unfold nx
      rw [(h4.2 k hk').1, if_neg hy]
    · have hy : why m (dg (s'.2.1 k)) t b = 0 := by
        have := why_lt (m := m) (f := dg (s'.2.1 k)) (t := t) (b := b)
        have g : nI (why m (dg (s'.2.1 k)) t b) = nI 0 := g
        exact (nI_eq (by omega) (by decide)).mp g
      have hva := vc_aft w0 hv hy
      have hvl := vc_lt hva.1
      have e : stp m b k t s' = put s' (aftc m (s'.2.1 k) t) (s'.2.2 k + 1) := if_pos hy
      rw [e] at ih'
      rw [ek]
      refine c_after hq.1 hw ht (roomz (why_room hy)).1 (bF_spread_a_132 ⟨vk, ?_⟩)
      rw [ekk, (hq.2.2.2.1.2 k hk').2, nI_1]
      refine c_enter_a (c := aftc m (s'.2.1 k) t) (gl_gk hi.1) hq.2.2.2.1 hq.2.2.2.2.1 hq.2.2.2.2.2 (Nat.lt_trans hvl (by decide)) fun I2 L2 u2 f1 f2 f3 f4 => bF_spread_a_144 (bF_spread_a_148 ⟨rfl, ?_, ?_⟩)
      · rw [nx8]
        exact vn
      · rw [nx8, en, nI_1]
        refine ih' _ _ u2 (cQ_up (by decide) (by decide) (by decide) (by decide) (cQ_E (by decide) (by decide) (by decide) (by decide) (by decide) (by decide) hq f1 f2 f3 f4)) (nd_next w1 ht put_ext hn (fun j => f1.1 54 j (fun z => absurd z (by decide)) (by decide) (by decide)) fun s3 h3 h4 => ?_)
        have ek3 : s3.2.1 k = s'.2.1 k := ((ext_trans put_ext h4).2 k hk').1
        unfold nx
        rw [ek3, if_pos hy]
        exact eI_later (gl_gk h3) h200 h4
theorem c_spread_a {b c : Nat} {x5 : Int64} (hR : cR I L 1 m) (hw : wb m) (hb : b < 6) (hc : vc m c) (hx : x5 = -1 ∨ ∃ g, vc m g ∧ x5 = lN g)
    (h1 : ∀ I' L' u, cQ 50 51 52 54 55 m I L I' L' (sr m b c) u → (∀ k, k < (sr m b c).1 → ∀ t, t < m 1 → I' 54 (8 * k + t) = nx m b (sr m b c) k t) → K none (I', L', kr q w r1 r2))
    (h2 : ∀ g, x5 = lN g → vc m g → ∀ s I' L' u, cQ 50 51 52 54 55 m I L I' L' s u → gl m s → ext s (sr m b c) → pl s g < s.1 → K none (I', L', kr q w r1 r2)) : kC sh kp 190 [.ref 50, .ref 1, .long (lN c), .int (bI b), .long x5] (I, L, kr q w r1 r2) K := by
  have w0 := hw.1
  have hcl := vc_lt hc
  refine ⟨rfl, bF_spread_a_0 (j_fillI rfl (by decide) fun I1 f1 f2 => bF_spread_a_8 ?_)⟩
  have hS0 : cS (km_up (km_up I1 50 3 0) 50 6 0) L 50 51 52 (0, fun _ => c, fun _ => 0) := ⟨by rw [up_k (by decide), up_s]; rfl, fun j hj => absurd hj (by show ¬ j < 0; omega)⟩
  have hU0 : cU (km_up (km_up I1 50 3 0) 50 6 0) 55 (fun _ => 0) := fun k hk => by
    rw [up_a (by decide), up_a (by decide)]
    exact f2 k hk
  refine c_enter_a (m := m) (s := (0, fun _ => c, fun _ => 0)) (d := 0) ⟨(show 0 ≤ 200 by decide), fun j hj => absurd hj (by show ¬ j < 0; omega), fun i j _ hj => absurd hj (by show ¬ j < 0; omega)⟩ hS0 hU0 tv_0 (Nat.lt_trans hcl (by decide)) fun I2 L2 u2 g1 g2 g3 g4 => ?_
  have e0 : put (0, fun _ => c, fun _ => 0) c 0 = ou m b c 0 := by
    have h1 : ups (fun _ => c) 0 c = fun _ => c := funext fun j => by unfold ups; split <;> rfl
    have h2 : ups (fun _ => 0) 0 0 = fun _ => 0 := funext fun j => by unfold ups; split <;> rfl
    show put (0, fun _ => c, fun _ => 0) c 0 = (1, fun _ => c, fun _ => 0)
    unfold put
    rw [if_pos ⟨rfl, (show 0 < 200 by decide)⟩]
    show (0 + 1, ups (fun _ => c) 0 c, ups (fun _ => 0) 0 0) = _
    rw [h1, h2]
  rw [e0] at g2 g4
  have hq0 : cQ 50 51 52 54 55 m I L I2 L2 (ou m b c 0) u2 := by
    refine ⟨cR_fr (fun a k z1 z2 => ?_) (fun a k z1 z2 => g1.2 a k (by omega)) hR, ⟨fun a k z1 z2 z3 z4 => ?_, g1.2⟩, ?_, g2, g3, g4⟩
    · rw [g1.1 a k (fun e => by omega) (by omega) (by omega), up_a (by omega), up_a (by omega)]
      exact f1 a k (by omega)
    · by_cases ea : a = 50
      · rw [g1.1 a k (fun e => (z1 e).1) z2 z4, up_k (z1 ea).2, up_k (z1 ea).1]
        exact f1 a k z4
      · rw [g1.1 a k (fun e => (z1 e).1) z2 z4, up_a ea, up_a ea]
        exact f1 a k z4
    · rw [g1.1 50 6 (fun _ => by decide) (by decide) (by decide), up_s]
  have key := up0 (Pr := fun k => ∀ I' L' u x7, cQ 50 51 52 54 55 m I L I' L' (ou m b c k) u → nd m b 54 I' (ou m b c k) k 0 → (x7 = 0 ∨ (x7 = 1 ∧ ∃ g, x5 = lN g ∧ vc m g ∧ pl (ou m b c k) g < (ou m b c k).1)) → kW sh kp 190 42 [some (.ref 50), some (.ref 1), none, none, some (.int (bI b)), some (.long x5), none, some (.int x7), some (.int (nI k)), none, none] [] (I', L', kr q w r1 r2) K) (e := 200) ?_ (fun k hk ih => ?_) I2 L2 u2
  · have n0 : nd m b 54 I2 (ou m b c 0) 0 0 := fun s3 _ _ => ⟨fun i hi => absurd hi (by omega), fun t ht => absurd ht (by omega)⟩
    refine bF_spread_a_24 ⟨fun _ => bF_spread_a_36 (bF_spread_a_37 (key 0 hq0 n0 (Or.inl rfl))), fun z => bF_spread_a_32 (bF_spread_a_37 (key 1 hq0 n0 (Or.inr ⟨rfl, c, (lg0.mp z).symm, hc, ?_⟩)))⟩
    rw [pl_uniq (c := c) (gl_gk (ou_gl (b := b) w0 hc 0)) (i := 0) (by show 0 < 1; decide) rfl]
    show 0 < 1
    decide
  · intro I' L' u x7 hq hn _
    have hg := ou_gl (b := b) w0 hc 200
    have hgg := hg.2.1
    refine bF_spread_a_42 (pk_le 200 200 (fun _ => bF_spread_a_187 (h1 I' L' u hq fun k hk => (hn _ hg (ext_refl _)).1 k ?_)) (fun z => absurd z (by omega)))
    have hk' : k < (ou m b c 200).1 := hk
    omega
  · intro I' L' u x7 hq hn hx7
    have hg := ou_gl (b := b) w0 hc k
    have h200 := hg.2.1
    refine bF_spread_a_42 (pk_le 200 k (fun z => absurd z (by omega)) (fun _ => bF_spread_a_50 (pk_le (ou m b c k).1 k (fun z => bF_spread_a_187 ?_) (fun z => bF_spread_a_59 ⟨fun y => bF_spread_a_187 ?_, fun y => bF_spread_a_64 ?_⟩) hq.2.2.2.1.1)))
    · have e := sr_end z (by omega)
      rw [e] at h1
      exact h1 I' L' u hq fun i hi => (hn _ hg (ext_refl _)).1 i (by omega)
    · rcases hx7 with e | ⟨e, g, y1, y2, y3⟩
      · exact absurd e y
      · have e2 := ou_ext (b := b) w0 hc k (200 - k)
        rw [show k + (200 - k) = 200 by omega] at e2
        exact h2 g y1 y2 _ I' L' u hq hg e2 y3
    · refine c_spread_in_a (I := I) (L := L) (s := ou m b c k) hw hb hk hg z (fun I3 L3 u3 hq3 hn3 => ?_) (m 1) 0 (by omega) I' L' u hq hn
      have eo : ou m b c (k + 1) = inn m b k (ou m b c k) (m 1) := if_pos z
      rw [← eo] at hq3 hn3
      have hg3 := ou_gl (b := b) w0 hc (k + 1)
      have hn4 : nd m b 54 I3 (ou m b c (k + 1)) (k + 1) 0 := fun s3 g1 g2 => ⟨fun i hi t' ht' => by
        by_cases e : i = k
        · rw [e]
          exact (hn3 s3 g1 g2).2 t' ht'
        · exact (hn3 s3 g1 g2).1 i (by omega) t' ht', fun t ht => absurd ht (by omega)⟩
      have go : ∀ x, (x = 0 ∨ (x = 1 ∧ ∃ g, x5 = lN g ∧ vc m g ∧ pl (ou m b c (k + 1)) g < (ou m b c (k + 1)).1)) → kW sh kp 190 179 [some (.ref 50), some (.ref 1), none, none, some (.int (bI b)), some (.long x5), none, none, some (.int (nI k)), none, none] [.int x] (I3, L3, kr q w r1 r2) K := fun x hxx => bF_spread_a_179 (by
        rw [nI_1]
        exact ih I3 L3 u3 x hq3 hn4 hxx)
      refine bF_spread_a_155 ⟨fun _ => bF_spread_a_178 (go 0 (Or.inl rfl)), fun y => bF_spread_a_164 ?_⟩
      rcases hx with e | ⟨g, e1, e2⟩
      · exact absurd (lg0.mpr e) y
      · have hgl := vc_lt e1
        rw [e2]
        refine c_index_a (gl_gk hg3) hq3.2.2.2.1 hq3.2.2.2.2.1 hq3.2.2.2.2.2 (Nat.lt_trans hgl (by decide)) ?_
        rw [e2] at go
        refine bF_spread_a_170 ⟨fun _ => bF_spread_a_178 (go 0 (Or.inl rfl)), fun y => bF_spread_a_174 (go 1 (Or.inr ⟨rfl, g, rfl, e1, ?_⟩))⟩
        have hle := pl_le (ou m b c (k + 1)) g
        rcases Nat.lt_or_ge (pl (ou m b c (k + 1)) g) (ou m b c (k + 1)).1 with a | a
        · exact a
        · exact absurd (show pI (ou m b c (k + 1)) g = -1 from if_neg (by omega)) y
end SPREAD
