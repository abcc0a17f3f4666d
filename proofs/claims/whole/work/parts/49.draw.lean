/-! CALLS: draw -/
def fol (s : Nat) : Nat := (1103515245 * s + 12345) % 2147483648
def dr (s k : Nat) : Nat := s / 65536 % k
def foln : Nat → Nat → Nat
  | 0, s => s
  | j + 1, s => fol (foln j s)
def tkk (k : Nat) : Nat := if k = 0 then 1 else if k = 1 then 2 else if k = 4 then 1 else 0
def gvk (k : Nat) : Nat := if k = 2 then 1 else if k = 3 then 2 else if k = 4 then 1 else 0
/-- what is drawn for a step, up to place i -/
def dft (s i p : Nat) : Nat := if p < i then tkk (dr (foln (p + 1) s) 9) else 0
def dfg (s i p : Nat) : Nat := if p < i then gvk (dr (foln (p + 1) s) 9) else 0
def drA : Nat → Nat × (Nat → Nat) → Nat × (Nat → Nat)
  | 0, x => x
  | n + 1, x => (fol (drA n x).1, adp (drA n x).2 (dr (fol (drA n x).1) 3))
def drS (n : Nat) : Nat → Nat × (Nat → Nat) → Nat × (Nat → Nat)
  | 0, x => x
  | t + 1, x => (foln n (fol (drS n t x).1), ads (drS n t x).2 (dr (fol (drS n t x).1) 10) (dft (fol (drS n t x).1) n) (dfg (fol (drS n t x).1) n))
def drN (m : Nat → Nat) (seed n t : Nat) : Nat → Nat := (drS n t (drA n (seed, ups (ups m 0 0) 1 0))).2
def o_draw (x y z : Int32) (s : ast) : Int32 × ast := cond (okr x 0 999999 && (okr y 1 10 && okr z 1 8)) (nI (hl (stl (drN s.1 (tn x) (tn y) (tn z)))).1, a_ch s (stl (drN s.1 (tn x) (tn y) (tn z)))) (a_bad s)
theorem fol_lt {s : Nat} : fol s < 2147483648 := Nat.mod_lt _ (by decide)
theorem foln_lt {s : Nat} (h : s < 2147483648) : ∀ j, foln j s < 2147483648
  | 0 => h
  | j + 1 => fol_lt
theorem dr_lt {s k : Nat} (h : 0 < k) : dr s k < k := Nat.mod_lt _ h
theorem tkk_le {k : Nat} : tkk k ≤ 2 := by
  unfold tkk
  split
  · decide
  · split
    · decide
    · split <;> decide
theorem gvk_le {k : Nat} : gvk k ≤ 2 := by
  unfold gvk
  split
  · decide
  · split
    · decide
    · split <;> decide
theorem drA_p {m : Nat → Nat} {seed : Nat} (hw : wb m) (hs : seed < 2147483648) : ∀ n, n ≤ 10 → (drA n (seed, ups (ups m 0 0) 1 0)).1 < 2147483648 ∧ wb (drA n (seed, ups (ups m 0 0) 1 0)).2 ∧ (drA n (seed, ups (ups m 0 0) 1 0)).2 0 = n ∧ (drA n (seed, ups (ups m 0 0) 1 0)).2 1 = 0
  | 0, _ => ⟨hs, wb_ups (wb_ups hw (by omega) (by omega) (by omega) (by omega) (by omega) (by omega) (by omega) (by omega) (by omega)) (by omega) (by omega) (by omega) (by omega) (by omega) (by omega) (by omega) (by omega) (by omega), by show ups (ups m 0 0) 1 0 0 = 0; rw [ups_o (by decide), ups_s], by show ups (ups m 0 0) 1 0 1 = 0; rw [ups_s]⟩
  | n + 1, h => by
    obtain ⟨a, b, c, d⟩ := drA_p hw hs n (by omega)
    have v := dr_lt (s := fol (drA n (seed, ups (ups m 0 0) 1 0)).1) (k := 3) (by decide)
    refine ⟨fol_lt, wb_adp b (by omega) (by omega), ?_, ?_⟩
    · show adp (drA n (seed, ups (ups m 0 0) 1 0)).2 (dr (fol (drA n (seed, ups (ups m 0 0) 1 0)).1) 3) 0 = n + 1
      rw [adp_0, c]
    · show adp (drA n (seed, ups (ups m 0 0) 1 0)).2 (dr (fol (drA n (seed, ups (ups m 0 0) 1 0)).1) 3) 1 = 0
      rw [adp_o (by decide) (by omega), d]
theorem drS_p {m : Nat → Nat} {s n : Nat} (hw : wb m) (hs : s < 2147483648) (h0 : m 0 = n) (h1 : m 1 = 0) : ∀ t, t ≤ 8 → (drS n t (s, m)).1 < 2147483648 ∧ wb (drS n t (s, m)).2 ∧ (drS n t (s, m)).2 0 = n ∧ (drS n t (s, m)).2 1 = t ∧ ∀ u p, u < t → n ≤ p → p < 10 → (drS n t (s, m)).2 (40 + 10 * u + p) = 0 ∧ (drS n t (s, m)).2 (120 + 10 * u + p) = 0
  | 0, _ => ⟨hs, hw, h0, h1, fun u p hu => absurd hu (by omega)⟩
  | t + 1, h => by
    obtain ⟨a, b, c, d, e⟩ := drS_p hw hs h0 h1 t (by omega)
    have v := dr_lt (s := fol (drS n t (s, m)).1) (k := 10) (by decide)
    have hft : ∀ p, n ≤ p → dft (fol (drS n t (s, m)).1) n p = 0 ∧ dfg (fol (drS n t (s, m)).1) n p = 0 := fun p hp => ⟨if_neg (by omega), if_neg (by omega)⟩
    have hb : ∀ p, p < 10 → dft (fol (drS n t (s, m)).1) n p ≤ 2 ∧ dfg (fol (drS n t (s, m)).1) n p ≤ 2 := fun p hp => by
      unfold dft dfg
      refine ⟨?_, ?_⟩
      · split
        · exact tkk_le
        · decide
      · split
        · exact gvk_le
        · decide
    have wz := wz_ads (m := (drS n t (s, m)).2) (c := dr (fol (drS n t (s, m)).1) 10) (by omega) (fun p hp => hft p (by omega)) (fun u p hu hp hp2 => e u p (by omega) (by omega) hp2)
    refine ⟨foln_lt fol_lt n, wb_ads b (by omega) (by omega) hb, ?_, ?_, fun u p hu hp hp2 => ?_⟩
    · show ads (drS n t (s, m)).2 (dr (fol (drS n t (s, m)).1) 10) (dft (fol (drS n t (s, m)).1) n) (dfg (fol (drS n t (s, m)).1) n) 0 = n
      rw [ads_o (by omega) (by omega) (by omega) (by omega), c]
    · show ads (drS n t (s, m)).2 (dr (fol (drS n t (s, m)).1) 10) (dft (fol (drS n t (s, m)).1) n) (dfg (fol (drS n t (s, m)).1) n) 1 = t + 1
      rw [ads_1, d]
    · refine wz u p ?_ ?_ hp2
      · rw [ads_1, d]
        exact hu
      · rw [ads_o (by omega) (by omega) (by omega) (by omega), c]
        exact hp
theorem drN_p {m : Nat → Nat} {seed n t : Nat} (hw : wb m) (hs : seed < 2147483648) (hn : n ≤ 10) (ht : t ≤ 8) : wf (stl (drN m seed n t)) ∧ drN m seed n t 0 = n ∧ drN m seed n t 1 = t := by
  obtain ⟨a, b, c, d⟩ := drA_p hw hs n hn
  have e := drS_p (m := (drA n (seed, ups (ups m 0 0) 1 0)).2) (s := (drA n (seed, ups (ups m 0 0) 1 0)).1) b a c d t ht
  refine ⟨wf_stl e.2.1 fun u p h1 h2 h3 => ?_, e.2.2.1, e.2.2.2.1⟩
  have f1 : u < t := Nat.lt_of_lt_of_eq h1 e.2.2.2.1
  have f2 : n ≤ p := Nat.le_trans (Nat.le_of_eq e.2.2.1.symm) h2
  exact e.2.2.2.2 u p f1 f2 h3
theorem w_draw {x y z : Int32} {s : ast} (h : sw s) : sw (o_draw x y z s).2 := by
  unfold o_draw
  cases e : (okr x 0 999999 && (okr y 1 10 && okr z 1 8)) with
  | false => exact h
  | true =>
    rw [Bool.and_eq_true, Bool.and_eq_true] at e
    have b1 := okr_n e.1 (by decide)
    have b2 := okr_n e.2.1 (by decide)
    have b3 := okr_n e.2.2 (by decide)
    exact sw_ch h (drN_p h.1.1 (by omega) (by omega) (by omega)).1
theorem dft_s {s i : Nat} : dft s (i + 1) = fun j => if j = i then tkk (dr (foln (i + 1) s) 9) else dft s i j := funext fun j => by
  unfold dft
  by_cases e : j = i
  · rw [if_pos e, e, if_pos (by omega)]
  · rw [if_neg e]
    by_cases g : j < i
    · rw [if_pos g, if_pos (by omega)]
    · rw [if_neg g, if_neg (by omega)]
theorem dfg_s {s i : Nat} : dfg s (i + 1) = fun j => if j = i then gvk (dr (foln (i + 1) s) 9) else dfg s i j := funext fun j => by
  unfold dfg
  by_cases e : j = i
  · rw [if_pos e, e, if_pos (by omega)]
  · rw [if_neg e]
    by_cases g : j < i
    · rw [if_pos g, if_pos (by omega)]
    · rw [if_neg g, if_neg (by omega)]
theorem mp_set {b n i v : Nat} {f : Nat → Nat} (hi : i < n) (h0 : f i = 0) : mp b f n + b ^ i * v = mp b (fun j => if j = i then v else f j) n := by
  have h1 := mp_upd (b := b) (f := f) (n := n) (p := i) (v := v) hi
  rw [h0, Nat.zero_mul, Nat.add_zero, Nat.mul_comm v] at h1
  exact h1.symm
theorem ads_ups {m : Nat → Nat} {c i v : Nat} {ft fg : Nat → Nat} (hs : m 1 < 8) (hi : i < 10) : ups (ads m c ft fg) (40 + 10 * m 1 + i) v = ads m c (fun j => if j = i then v else ft j) fg := funext fun k => by
  by_cases e : k = 40 + 10 * m 1 + i
  · rw [e, ups_s, ads_t hi, if_pos rfl]
  · rw [ups_o e]
    unfold ads
    by_cases c1 : k = 1
    · rw [if_pos c1, if_pos c1]
    · rw [if_neg c1, if_neg c1]
      by_cases c2 : k = 32 + m 1
      · rw [if_pos c2, if_pos c2]
      · rw [if_neg c2, if_neg c2]
        by_cases c3 : 40 + 10 * m 1 ≤ k ∧ k < 50 + 10 * m 1
        · rw [if_pos c3, if_pos c3]
          exact (if_neg (by omega)).symm
        · rw [if_neg c3, if_neg c3]
theorem ads_upg {m : Nat → Nat} {c i v : Nat} {ft fg : Nat → Nat} (hs : m 1 < 8) (hi : i < 10) : ups (ads m c ft fg) (120 + 10 * m 1 + i) v = ads m c ft (fun j => if j = i then v else fg j) := funext fun k => by
  by_cases e : k = 120 + 10 * m 1 + i
  · rw [e, ups_s, ads_g hs hi, if_pos rfl]
  · rw [ups_o e]
    unfold ads
    by_cases c1 : k = 1
    · rw [if_pos c1, if_pos c1]
    · rw [if_neg c1, if_neg c1]
      by_cases c2 : k = 32 + m 1
      · rw [if_pos c2, if_pos c2]
      · rw [if_neg c2, if_neg c2]
        by_cases c3 : 40 + 10 * m 1 ≤ k ∧ k < 50 + 10 * m 1
        · rw [if_pos c3, if_pos c3]
        · rw [if_neg c3, if_neg c3]
          by_cases c4 : 120 + 10 * m 1 ≤ k ∧ k < 130 + 10 * m 1
          · rw [if_pos c4, if_pos c4]
            exact (if_neg (by omega)).symm
          · rw [if_neg c4, if_neg c4]
section DRAW
variable {I : Nat → Nat → Int32} {L : Nat → Nat → Int64} {q r1 r2 : Nat → Nat} {w : Bool} {s : ast} {K : km_K} {m : Nat → Nat}
theorem fol_e {s : Nat} (h : s < 2147483648) : (1103515245 : Int64) * lN s + 12345 - ((1103515245 : Int64) * lN s + 12345) / 2147483648 * 2147483648 = lN (fol s) := by
  rw [fa_litL 1103515245, lN_mul, fa_litL 12345, lN_add, fa_litL 2147483648, pk_lRem (by omega) (by decide) (by decide)]
  rfl
theorem dr_e {s k : Nat} (h : s < 2147483648) (hk : 0 < k) (hk2 : k < 100) : ¬ (nI k).toInt64 = 0 ∧ (lN s / 65536 - lN s / 65536 / (nI k).toInt64 * (nI k).toInt64).toInt32 = nI (dr s k) := by
  rw [nI_l (by omega), fa_litL 65536, pk_lDiv (by omega) (by decide) (by decide), pk_lRem (by omega) hk (by omega), lN_i]
  refine ⟨fun e => ?_, rfl⟩
  have : k = 0 := (pk_lEQ (b := 0) (by omega) (by decide)).mp e
  omega
theorem c_follower {s : Nat} (h : s < 2147483648) (hK : K (some (.long (lN (fol s)))) (I, L, kr q w r1 r2)) : kC sh kp 221 [.long (lN s)] (I, L, kr q w r1 r2) K := ⟨rfl, bS_follower_0 (by
  rw [fol_e h]
  exact hK)⟩
theorem c_drawn {s k : Nat} (h : s < 2147483648) (hk : 0 < k) (hk2 : k < 100) (hK : K (some (.int (nI (dr s k)))) (I, L, kr q w r1 r2)) : kC sh kp 222 [.long (lN s), .int (nI k)] (I, L, kr q w r1 r2) K := ⟨rfl, bS_drawn_0 ⟨(dr_e h hk hk2).1, by
  rw [(dr_e h hk hk2).2]
  exact hK⟩⟩
theorem c_drawnTakes {k : Nat} (hk : k < 9) (hK : K (some (.int (nI (tkk k)))) (I, L, kr q w r1 r2)) : kC sh kp 223 [.int (nI k)] (I, L, kr q w r1 r2) K := by
  have e : ∀ j : Nat, j < 9 → nI k = nI j → k = j := fun j hj g => (nI_eq (by omega) (by omega)).mp g
  unfold tkk at hK
  refine ⟨rfl, bS_drawnTakes_0 ⟨fun g => bS_drawnTakes_36 ?_, fun g => bS_drawnTakes_38 ?_, fun g => bS_drawnTakes_42 ?_, fun g => bS_drawnTakes_42 ?_, fun g => bS_drawnTakes_40 ?_, fun g => bS_drawnTakes_42 ?_⟩⟩
  · rw [if_pos (e 0 (by decide) g)] at hK
    exact hK
  · have := e 1 (by decide) g
    rw [if_neg (by omega), if_pos this] at hK
    exact hK
  · have := e 2 (by decide) g
    rw [if_neg (by omega), if_neg (by omega), if_neg (by omega)] at hK
    exact hK
  · have := e 3 (by decide) g
    rw [if_neg (by omega), if_neg (by omega), if_neg (by omega)] at hK
    exact hK
  · have := e 4 (by decide) g
    rw [if_neg (by omega), if_neg (by omega), if_pos this] at hK
    exact hK
  · have a4 := nI_ne (b := 4) g.1
    have a1 := nI_ne (b := 1) g.2.2.2.1
    have a0 := nI_ne (b := 0) g.2.2.2.2.1
    rw [if_neg a0, if_neg a1, if_neg a4] at hK
    exact hK
theorem c_drawnGives {k : Nat} (hk : k < 9) (hK : K (some (.int (nI (gvk k)))) (I, L, kr q w r1 r2)) : kC sh kp 224 [.int (nI k)] (I, L, kr q w r1 r2) K := by
  have e : ∀ j : Nat, j < 9 → nI k = nI j → k = j := fun j hj g => (nI_eq (by omega) (by omega)).mp g
  unfold gvk at hK
  refine ⟨rfl, bS_drawnGives_0 ⟨fun g => bS_drawnGives_28 ?_, fun g => bS_drawnGives_30 ?_, fun g => bS_drawnGives_32 ?_, fun g => bS_drawnGives_34 ?_⟩⟩
  · rw [if_pos (e 2 (by decide) g)] at hK
    exact hK
  · have := e 3 (by decide) g
    rw [if_neg (by omega), if_pos this] at hK
    exact hK
  · have := e 4 (by decide) g
    rw [if_neg (by omega), if_neg (by omega), if_pos this] at hK
    exact hK
  · have a4 := nI_ne (b := 4) g.1
    have a3 := nI_ne (b := 3) g.2.1
    have a2 := nI_ne (b := 2) g.2.2.1
    rw [if_neg a2, if_neg a3, if_neg a4] at hK
    exact hK
/-- frame of what the class draws: its own state alone -/
def fD (I : Nat → Nat → Int32) (L : Nat → Nat → Int64) (I' : Nat → Nat → Int32) (L' : Nat → Nat → Int64) : Prop := (∀ a k, (a < 1 ∨ 6 < a) → I' a k = I a k) ∧ ∀ a k, (a < 1 ∨ 6 < a) → L' a k = L a k
theorem c_drawNet {seed n t : Nat} (hR : cR I L 1 m) (hw : wb m) (hs : seed < 2147483648) (hn : n ≤ 10) (ht : t ≤ 8) (h : ∀ I' L', fD I L I' L' → cR0 I' L' (drN m seed n t) → K none (I', L', kr q w r1 r2)) : kC sh kp 220 [.ref 1, .int (nI seed), .int (nI n), .int (nI t)] (I, L, kr q w r1 r2) K := by
  refine ⟨rfl, bS_drawNet_0 ⟨rfl, bS_removeNet_0 (bS_drawNet_4 ?_)⟩⟩
  rw [nI_l (by omega)]
  refine up0 (Pr := fun i => ∀ I' L', fD I L I' L' → cR0 I' L' (drA i (seed, ups (ups m 0 0) 1 0)).2 → kW sh kp 220 11 [some (.ref 1), none, some (.int (nI n)), some (.int (nI t)), some (.long (lN (drA i (seed, ups (ups m 0 0) 1 0)).1)), none, some (.int (nI i)), none, none, none, none, none, none, none] [] (I', L', kr q w r1 r2) K) (e := n) ?_ (fun i hi ih => ?_) _ _ ⟨fun a k z => by rw [up_a (by omega), up_a (by omega)], fun a k z => up_a (by omega)⟩ ?_
  · intro I' L' f1 f2
    have pA := drA_p hw hs n hn
    refine bS_drawNet_11 (pk_le n n (fun _ => bS_drawNet_40 ?_) (fun z => absurd z (by omega)))
    have hdr : drN m seed n t = (drS n t (drA n (seed, ups (ups m 0 0) 1 0))).2 := rfl
    rw [hdr] at h
    generalize drA n (seed, ups (ups m 0 0) 1 0) = x at pA f2 h
    obtain ⟨x1, x2⟩ := x
    refine up0 (Pr := fun u => ∀ I' L', fD I L I' L' → cR0 I' L' (drS n u (x1, x2)).2 → kW sh kp 220 43 [some (.ref 1), none, some (.int (nI n)), some (.int (nI t)), some (.long (lN (drS n u (x1, x2)).1)), none, some (.int (nI u)), none, none, none, none, none, none, none] [] (I', L', kr q w r1 r2) K) (e := t) ?_ (fun u hu ih2 => ?_) I' L' f1 f2
    · intro I2 L2 g1 g2
      exact bS_drawNet_43 (pk_le t t (fun _ => bS_drawNet_152 (h I2 L2 g1 g2)) (fun z => absurd z (by omega)))
    · intro I2 L2 g1 g2
      have pS := drS_p pA.2.1 pA.1 pA.2.2.1 pA.2.2.2 u (by omega)
      have es : drS n (u + 1) (x1, x2) = (foln n (fol (drS n u (x1, x2)).1), ads (drS n u (x1, x2)).2 (dr (fol (drS n u (x1, x2)).1) 10) (dft (fol (drS n u (x1, x2)).1) n) (dfg (fol (drS n u (x1, x2)).1) n)) := rfl
      rw [es] at ih2
      generalize drS n u (x1, x2) = y at pS g2 ih2
      obtain ⟨y1, y2⟩ := y
      have q0 : y2 0 = n := pS.2.2.1
      have q1 : y2 1 = u := pS.2.2.2.1
      refine bS_drawNet_43 (pk_le t u (fun z => absurd z (by omega)) (fun _ => bS_drawNet_49 (c_follower pS.1 (bS_drawNet_54 (c_drawn fol_lt (by decide) (by decide) (bS_drawNet_63 ?_))))))
      have fl : fol y1 < 2147483648 := fol_lt
      generalize fol y1 = z1 at fl ih2
      have ez : ∀ f : Nat → Nat, (∀ p, f p = 0) → (0 : Int64) = lN (mp 32 f 10) := fun f hf => by
        have : f = fun _ => 0 := funext hf
        rw [this, mp_zero]
        rfl
      have key := up0 (Pr := fun i => kW sh kp 220 74 [some (.ref 1), none, some (.int (nI n)), some (.int (nI t)), some (.long (lN (foln i z1))), none, some (.int (nI u)), some (.int (nI (dr z1 10))), some (.long (lN (mp 32 (dft z1 i) 10))), none, some (.long (lN (mp 32 (dfg z1 i) 10))), none, some (.int (nI i)), none] [] (I2, L2, kr q w r1 r2) K) (e := n) ?_ fun i hi ih3 => ?_
      · rw [ez (dft z1 0) (fun p => if_neg (by omega))]
        have := key
        rw [← ez (dfg z1 0) (fun p => if_neg (by omega)), ez (dft z1 0) (fun p => if_neg (by omega))] at this
        exact this
      · refine bS_drawNet_74 (pk_le n n (fun _ => bS_drawNet_136 (c_addStep (m := y2) g2 (by omega) (by omega) (fun p hp => ⟨if_neg (by omega), if_neg (by omega)⟩) fun I3 L3 l1 l2 l3 => bS_drawNet_146 ?_)) (fun z => absurd z (by omega)))
        rw [nI_1]
        exact ih2 I3 L3 ⟨fun a k z => (l1 a k (fun e => absurd e (by omega)) (by omega)).trans (g1.1 a k z), fun a k z => (l2 a k (by omega) (by omega)).trans (g1.2 a k z)⟩ l3
      · have f9 := dr_lt (s := foln (i + 1) z1) (k := 9) (by decide)
        refine bS_drawNet_74 (pk_le n i (fun z => absurd z (by omega)) (fun _ => bS_drawNet_80 (c_follower (foln_lt fl i) (bS_drawNet_85 (c_drawn fol_lt (by decide) (by decide) (bS_drawNet_94 (s_one (by omega) (bS_drawNet_103 (c_drawnTakes f9 (bS_drawNet_108 (s_one (by omega) (bS_drawNet_120 (c_drawnGives f9 (bS_drawNet_125 ?_))))))))))))))
        have t2 := tkk_le (k := dr (foln (i + 1) z1) 9)
        have g2' := gvk_le (k := dr (foln (i + 1) z1) 9)
        have e1 : fol (foln i z1) = foln (i + 1) z1 := rfl
        rw [e1, nI_l (n := tkk (dr (foln (i + 1) z1) 9)) (Nat.lt_of_le_of_lt t2 (by decide)), nI_l (n := gvk (dr (foln (i + 1) z1) 9)) (Nat.lt_of_le_of_lt g2' (by decide)), lN_mul, lN_mul, lN_add, lN_add, mp_set (f := dft z1 i) (by omega) (show dft z1 i i = 0 from if_neg (by omega)), mp_set (f := dfg z1 i) (by omega) (show dfg z1 i i = 0 from if_neg (by omega)), ← dft_s, ← dfg_s, nI_1]
        exact ih3
  · intro I' L' f1 f2
    have pA := drA_p hw hs i (by omega)
    have es : drA (i + 1) (seed, ups (ups m 0 0) 1 0) = (fol (drA i (seed, ups (ups m 0 0) 1 0)).1, adp (drA i (seed, ups (ups m 0 0) 1 0)).2 (dr (fol (drA i (seed, ups (ups m 0 0) 1 0)).1) 3)) := rfl
    rw [es] at ih
    generalize drA i (seed, ups (ups m 0 0) 1 0) = x at pA f2 ih
    obtain ⟨x1, x2⟩ := x
    have q0 : x2 0 = i := pA.2.2.1
    have q1 : x2 1 = 0 := pA.2.2.2
    have v3 := dr_lt (s := fol x1) (k := 3) (by decide)
    refine bS_drawNet_11 (pk_le n i (fun z => absurd z (by omega)) (fun _ => bS_drawNet_17 (c_follower pA.1 (bS_drawNet_22 (c_drawn fol_lt (by decide) (by decide) (bS_drawNet_31 (c_addPlace (m := x2) f2 pA.2.1 (by omega) (Nat.lt_trans v3 (by decide)) (fun t ht => absurd ht (by omega)) fun I3 L3 l1 l2 l3 => bS_drawNet_34 ?_)))))))
    rw [nI_1]
    exact ih I3 L3 ⟨fun a k z => (l1 a k (fun e => absurd e (by omega))).trans (f1.1 a k z), fun a k z => (l2 a k (fun e => absurd e (by omega))).trans (f1.2 a k z)⟩ l3
  · refine ⟨?_, ?_, ?_, ?_, fun t ht => ?_⟩
    · rw [up_k (by decide), up_s]
      show 0 = nI (ups (ups m 0 0) 1 0 0)
      rw [ups_o (by decide), ups_s]
      rfl
    · rw [up_s]
      show 0 = nI (ups (ups m 0 0) 1 0 1)
      rw [ups_s]
      rfl
    · rw [up_k (by decide), up_k (by decide)]
      show _ = nI (ups (ups m 0 0) 1 0 211)
      rw [ups_o (by decide), ups_o (by decide)]
      exact hR.2.2.2.1
    · rw [up_s]
      have e : mz (ups (ups m 0 0) 1 0) 2 = fun _ => 0 := funext fun p => by
        unfold mz
        rw [ups_o (by decide), ups_s]
        exact if_neg (by omega)
      show 0 = lN (mp 32 (mz (ups (ups m 0 0) 1 0) 2) 10)
      rw [e, mp_zero]
      rfl
    · have ht : t < ups (ups m 0 0) 1 0 1 := ht
      rw [ups_s] at ht
      exact absurd ht (by omega)
theorem x_draw {x y z : Int32} (hs : sw s) (hc' : cI I L q w r1 r2 s) : kC sh kp 6 [.ref 0, .int x, .int y, .int z] (I, L, kr q w r1 r2) (cT (o_draw x y z s) I L) := by
  have w0 := hs.1.1.1
  have w1 := hs.1.1.2.1
  have bad : (okr x 0 999999 && (okr y 1 10 && okr z 1 8)) = false → kW sh kp 6 30 [some (.ref 0), none, none, none] [] (I, L, kr q w r1 r2) (cT (o_draw x y z s) I L) := fun e => bX_draw_30 (x_bad hs hc' fun I' g1 g2 => bX_draw_36 (by
    unfold o_draw
    rw [e]
    exact cP_mk g1 g2))
  refine ⟨rfl, bX_draw_0 (c_in (a := 0) (b := 999999) (by decide) (by decide) (bX_draw_7 (cb0 (fun e1 => bX_draw_10 (c_in (a := 1) (b := 10) rfl rfl (bX_draw_17 (cb0 (fun e2 => bX_draw_20 (c_in (a := 1) (b := 8) rfl rfl (bX_draw_27 (cb1 (fun e3 => bX_draw_37 ?_) (fun e3 => bad (by rw [e1, e2, e3]; rfl)))))) (fun e2 => bad (by rw [e1, e2]; rfl)))))) (fun e1 => bad (by rw [e1]; rfl)))))⟩
  unfold o_draw
  rw [e1, e2, e3, Bool.and_self, Bool.and_self, cond_true]
  obtain ⟨a, rfl, ha, b1, b2⟩ := okr_e e1 (by decide)
  obtain ⟨n, rfl, hn, b3, b4⟩ := okr_e e2 (by decide)
  obtain ⟨t, rfl, ht, b5, b6⟩ := okr_e e3 (by decide)
  rw [ha, hn, ht]
  have pN := drN_p (m := s.1) (seed := a) (n := n) (t := t) hs.1.1 (by omega) (by omega) (by omega)
  refine x_save hs hc' fun I1 L1 q1 j1 j2 j3 => bX_draw_41 (c_drawNet (m := s.1) j1.1 hs.1.1 (by omega) (by omega) (by omega) fun I2 L2 f1 f2 => bX_draw_51 (x_renew (sw_sv hs).2.1 j1 f1.1 f1.2 f2 (by rw [pN.2.1]; omega) (by rw [pN.2.2]; omega) fun I3 L3 k1 k2 _ _ => bX_draw_55 (x_homeSearch (s := a_ch s (stl (drN s.1 a n t))) (sw_ch hs pN.1) k1 fun I4 L4 l1 l2 l3 l4 => bX_draw_59 ?_)))
  rw [l4.1.1]
  exact cP_mk l1 (fM_trans j3 (fM_trans (fM_s f1.1 f1.2) (fM_trans k2 l2)))
theorem m_draws {d k : Nat} (hd : d < 2147483648) (hL : L 71 7 = lN d) (hk : 0 < k) (hk2 : k < 100) (h : K (some (.int (nI (dr (fol d) k)))) (I, km_up L 71 7 (lN (fol d)), kr q w r1 r2)) : kC sh kp 70 [.ref 71, .int (nI k)] (I, L, kr q w r1 r2) K := by
  refine ⟨rfl, bM_draws_0 ?_⟩
  have e1 : lN d * 1103515245 + 12345 - (lN d * 1103515245 + 12345) / 2147483648 * 2147483648 = lN (fol d) := by
    rw [show lN d * (1103515245 : Int64) = (1103515245 : Int64) * lN d by rw [fa_litL 1103515245, lN_mul, lN_mul, Nat.mul_comm]]
    exact fol_e hd
  rw [hL, e1, up_s]
  have e2 := dr_e (s := fol d) (k := k) fol_lt hk hk2
  rw [e2.2]
  exact ⟨e2.1, h⟩
/-- frame of what the reference draws -/
def fDm (I : Nat → Nat → Int32) (L : Nat → Nat → Int64) (I' : Nat → Nat → Int32) (L' : Nat → Nat → Int64) : Prop := (∀ a k, a ≠ 72 → I' a k = I a k) ∧ ∀ a k, (a = 71 → k ≠ 7) → L' a k = L a k
theorem fDm_I {I1 I2 : Nat → Nat → Int32} {L1 : Nat → Nat → Int64} (h : fDm I L I1 L1) (f : ∀ a k, a ≠ 72 → I2 a k = I1 a k) : fDm I L I2 L1 := ⟨fun a k z => (f a k z).trans (h.1 a k z), h.2⟩
theorem fDm_L {I1 : Nat → Nat → Int32} {L1 : Nat → Nat → Int64} {v : Int64} (h : fDm I L I1 L1) : fDm I L I1 (km_up L1 71 7 v) := ⟨h.1, fun a k z => by
  rw [← h.2 a k z]
  by_cases e : a = 71
  · exact up_k (z e)
  · exact up_a e⟩
theorem m_drawNet {seed n t : Nat} (hw : wb m) (hs : seed < 2147483648) (hn : n ≤ 10) (ht : t ≤ 8) (hN : nN I m) (h : ∀ I' L', fDm I L I' L' → nN I' (drN m seed n t) → kW sh kp 71 224 [some (.ref 71), none, none, none, none, none, none] [] (I', L', kr q w r1 r2) K) : kW sh kp 71 39 [some (.ref 71), some (.int (nI seed)), some (.int (nI n)), some (.int (nI t)), none, none, none] [] (I, L, kr q w r1 r2) K := by
  refine bM_draw_39 ⟨pk_in 0 212 (by decide), pk_in 1 212 (by decide), ?_⟩
  rw [cl0, cl1, nI_l (by omega)]
  refine up0 (Pr := fun i => ∀ I' L', fDm I L I' L' → L' 71 7 = lN (drA i (seed, ups (ups m 0 0) 1 0)).1 → nN I' (drA i (seed, ups (ups m 0 0) 1 0)).2 → kW sh kp 71 62 [some (.ref 71), none, some (.int (nI n)), some (.int (nI t)), some (.int (nI i)), none, none] [] (I', L', kr q w r1 r2) K) (e := n) ?_ (fun i hi ih => ?_) _ _ ⟨fun a k z => by rw [up_a z, up_a z], fun a k z => by by_cases e : a = 71; exact up_k (z e); exact up_a e⟩ up_s (nN_up (v := 0) (nN_up (v := 0) hN))
  · intro I' L' f1 fL f2
    have pA := drA_p hw hs n hn
    refine bM_draw_62 (pk_le n n (fun _ => bM_draw_87 ?_) (fun z => absurd z (by omega)))
    have hdr : drN m seed n t = (drS n t (drA n (seed, ups (ups m 0 0) 1 0))).2 := rfl
    rw [hdr] at h
    generalize drA n (seed, ups (ups m 0 0) 1 0) = x at pA f2 h fL
    obtain ⟨x1, x2⟩ := x
    refine up0 (Pr := fun u => ∀ I' L', fDm I L I' L' → L' 71 7 = lN (drS n u (x1, x2)).1 → nN I' (drS n u (x1, x2)).2 → kW sh kp 71 90 [some (.ref 71), none, some (.int (nI n)), some (.int (nI t)), some (.int (nI u)), none, none] [] (I', L', kr q w r1 r2) K) (e := t) ?_ (fun u hu ih2 => ?_) I' L' f1 fL f2
    · intro I2 L2 g1 gL g2
      exact bM_draw_90 (pk_le t t (fun _ => h I2 L2 g1 g2) (fun z => absurd z (by omega)))
    · intro I2 L2 g1 gL g2
      have pS := drS_p pA.2.1 pA.1 pA.2.2.1 pA.2.2.2 u (by omega)
      have es : drS n (u + 1) (x1, x2) = (foln n (fol (drS n u (x1, x2)).1), ads (drS n u (x1, x2)).2 (dr (fol (drS n u (x1, x2)).1) 10) (dft (fol (drS n u (x1, x2)).1) n) (dfg (fol (drS n u (x1, x2)).1) n)) := rfl
      rw [es] at ih2
      generalize drS n u (x1, x2) = y at pS g2 ih2 gL
      obtain ⟨y1, y2⟩ := y
      have q0 : y2 0 = n := pS.2.2.1
      have q1 : y2 1 = u := pS.2.2.2.1
      refine bM_draw_90 (pk_le t u (fun z => absurd z (by omega)) (fun _ => bM_draw_96 (m_draws (k := 10) pS.1 gL (by decide) (by decide) (bM_draw_106 (m_addsStep (m := y2) g2 (by omega) fun I3 l1 l2 => bM_draw_109 ?_)))))
      have fl : fol y1 < 2147483648 := fol_lt
      have ez : ads y2 (dr (fol y1) 10) (fun _ => 0) (fun _ => 0) = ads y2 (dr (fol y1) 10) (dft (fol y1) 0) (dfg (fol y1) 0) := by
        have a1 : dft (fol y1) 0 = fun _ => 0 := funext fun p => if_neg (by omega)
        have a2 : dfg (fol y1) 0 = fun _ => 0 := funext fun p => if_neg (by omega)
        rw [a1, a2]
      have l2 : nN I3 (ads y2 (dr (fol y1) 10) (fun _ => 0) (fun _ => 0)) := l2
      rw [ez] at l2
      have gz : fDm I L I3 (km_up L2 71 7 (lN (fol y1))) := fDm_L (fDm_I g1 l1)
      have gzL : km_up L2 71 7 (lN (fol y1)) 71 7 = lN (foln 0 (fol y1)) := up_s
      show kW sh kp 71 113 _ _ (I3, km_up L2 71 7 (lN (fol y1)), kr q w r1 r2) K
      generalize fol y1 = z1 at fl ih2 l2 gz gzL
      refine up0 (Pr := fun i => ∀ I4 L4, fDm I L I4 L4 → L4 71 7 = lN (foln i z1) → nN I4 (ads y2 (dr z1 10) (dft z1 i) (dfg z1 i)) → kW sh kp 71 113 [some (.ref 71), none, some (.int (nI n)), some (.int (nI t)), some (.int (nI u)), some (.int (nI i)), none] [] (I4, L4, kr q w r1 r2) K) (e := n) ?_ (fun i hi ih3 => ?_) _ _ gz gzL l2
      · intro I4 L4 k1 kL k2
        refine bM_draw_113 (pk_le n n (fun _ => bM_draw_218 ?_) (fun z => absurd z (by omega)))
        rw [nI_1]
        exact ih2 I4 L4 k1 kL k2
      · intro I4 L4 k1 kL k2
        have f9 := dr_lt (s := foln (i + 1) z1) (k := 9) (by decide)
        refine bM_draw_113 (pk_le n i (fun z => absurd z (by omega)) (fun _ => bM_draw_119 (m_draws (k := 9) (foln_lt fl i) kL (by decide) (by decide) (bM_draw_125 ?_))))
        have e1 : fol (foln i z1) = foln (i + 1) z1 := rfl
        rw [e1]
        generalize hv : dr (foln (i + 1) z1) 9 = v at f9
        have i40 : (40 : Int32) + 10 * nI u + nI i = nI (40 + 10 * u + i) := ix_tk
        have i120 : (120 : Int32) + 10 * nI u + nI i = nI (120 + 10 * u + i) := ix_gv
        have kL2 : fDm I L I4 (km_up L4 71 7 (lN (foln (i + 1) z1))) := fDm_L k1
        -- the second number
        have second : ∀ (g : Nat), g = gvk v → ∀ (t0 : Nat), t0 = tkk v → kW sh kp 71 211 [some (.ref 71), none, some (.int (nI n)), some (.int (nI t)), some (.int (nI u)), some (.int (nI i)), none] [.int (nI g), .int (120 + 10 * nI u + nI i), .ref 72] (km_up I4 72 (40 + 10 * u + i) (nI t0), km_up L4 71 7 (lN (foln (i + 1) z1)), kr q w r1 r2) K := fun g hg t0 ht0 => bM_draw_211 ⟨rfl, by
          rw [i120]
          exact vp_in_nI (show 120 + 10 * u + i < 212 by omega) (by decide), by
          rw [i120, nI_clamp (by omega), nI_1]
          refine ih3 _ _ (fDm_I kL2 fun a k z => by rw [up_a z, up_a z]) up_s ?_
          rw [dft_s, dfg_s, hv, ← hg, ← ht0, ← ads_upg (by omega) (by omega), ← ads_ups (by omega) (by omega), q1]
          exact nN_up (nN_up k2)⟩
        have first : ∀ (t0 : Nat), t0 = tkk v → kW sh kp 71 168 [some (.ref 71), none, some (.int (nI n)), some (.int (nI t)), some (.int (nI u)), some (.int (nI i)), some (.int (nI v))] [.int (nI t0), .int (40 + 10 * nI u + nI i), .ref 72] (I4, km_up L4 71 7 (lN (foln (i + 1) z1)), kr q w r1 r2) K := fun t0 ht0 => by
          refine bM_draw_168 ⟨rfl, ?_, ?_⟩
          · rw [i40]
            exact vp_in_nI (show 40 + 10 * u + i < 212 by omega) (by decide)
          · rw [i40, nI_clamp (by omega)]
            refine pk_eq v 2 (fun a => bM_draw_196 (second 1 ?_ t0 ht0)) (fun a => bM_draw_190 (pk_eq v 4 (fun b => bM_draw_196 (second 1 ?_ t0 ht0)) (fun b => bM_draw_200 (pk_eq v 3 (fun c => bM_draw_206 (second 2 ?_ t0 ht0)) (fun c => bM_draw_210 (second 0 ?_ t0 ht0))).symm)).symm)
            · unfold gvk
              rw [if_pos a]
            · unfold gvk
              rw [if_neg a, if_neg (by omega), if_pos b]
            · unfold gvk
              rw [if_neg a, if_pos c]
            · unfold gvk
              rw [if_neg a, if_neg c, if_neg b]
        refine pk_eq v 0 (fun a => bM_draw_153 (first 1 ?_)) (fun a => bM_draw_147 (pk_eq v 4 (fun b => bM_draw_153 (first 1 ?_)) (fun b => bM_draw_157 (pk_eq v 1 (fun c => bM_draw_163 (first 2 ?_)) (fun c => bM_draw_167 (first 0 ?_))).symm)).symm)
        · unfold tkk
          rw [if_pos a]
        · unfold tkk
          rw [if_neg a, if_neg (by omega), if_pos b]
        · unfold tkk
          rw [if_neg a, if_pos c]
        · unfold tkk
          rw [if_neg a, if_neg c, if_neg b]
  · intro I' L' f1 fL f2
    have pA := drA_p hw hs i (by omega)
    have es : drA (i + 1) (seed, ups (ups m 0 0) 1 0) = (fol (drA i (seed, ups (ups m 0 0) 1 0)).1, adp (drA i (seed, ups (ups m 0 0) 1 0)).2 (dr (fol (drA i (seed, ups (ups m 0 0) 1 0)).1) 3)) := rfl
    rw [es] at ih
    generalize drA i (seed, ups (ups m 0 0) 1 0) = x at pA f2 ih fL
    obtain ⟨x1, x2⟩ := x
    have q0 : x2 0 = i := pA.2.2.1
    refine bM_draw_62 (pk_le n i (fun z => absurd z (by omega)) (fun _ => bM_draw_68 (m_draws (k := 3) pA.1 fL (by decide) (by decide) (bM_draw_77 (m_adds (m := x2) f2 (by omega) fun I3 l1 l2 => bM_draw_80 ?_)))))
    rw [nI_1]
    exact ih I3 _ (fDm_L (fDm_I f1 l1)) up_s l2
theorem y_draw {x y z : Int32} (hs : sw s) (hc' : mI I s) : kC sh kp 71 [.ref 71, .int x, .int y, .int z] (I, L, kr q w r1 r2) (mT (o_draw x y z s) I L (kr q w r1 r2)) := by
  have bad : (okr x 0 999999 && (okr y 1 10 && okr z 1 8)) = false → kW sh kp 71 30 [some (.ref 71), none, none, none, none, none, none] [] (I, L, kr q w r1 r2) (mT (o_draw x y z s) I L (kr q w r1 r2)) := fun e => bM_draw_30 (mm_bad hc' fun I' g1 g2 => bM_draw_34 (by
    unfold o_draw
    rw [e]
    exact mP_mk g1 g2))
  refine ⟨rfl, bM_draw_0 (mm_in (a := 0) (b := 999999) (by decide) (by decide) (bM_draw_7 (cb0 (fun e1 => bM_draw_10 (mm_in (a := 1) (b := 10) rfl rfl (bM_draw_17 (cb0 (fun e2 => bM_draw_20 (mm_in (a := 1) (b := 8) rfl rfl (bM_draw_27 (cb1 (fun e3 => bM_draw_35 ?_) (fun e3 => bad (by rw [e1, e2, e3]; rfl)))))) (fun e2 => bad (by rw [e1, e2]; rfl)))))) (fun e1 => bad (by rw [e1]; rfl)))))⟩
  unfold o_draw
  rw [e1, e2, e3, Bool.and_self, Bool.and_self, cond_true]
  obtain ⟨a, rfl, ha, b1, b2⟩ := okr_e e1 (by decide)
  obtain ⟨n, rfl, hn, b3, b4⟩ := okr_e e2 (by decide)
  obtain ⟨t, rfl, ht, b5, b6⟩ := okr_e e3 (by decide)
  rw [ha, hn, ht]
  have pN := drN_p (m := s.1) (seed := a) (n := n) (t := t) hs.1.1 (by omega) (by omega) (by omega)
  refine mm_save hs hc' fun I1 j1 j2 => m_drawNet (m := s.1) hs.1.1 (by omega) (by omega) (by omega) j1.1 fun I2 L2 f1 f2 => bM_draw_224 (mm_settles (s := a_sv s) j1 f1.1 f2 (by rw [pN.2.1]; omega) fun I3 k1 k2 => bM_draw_231 (m_home (m := stl (drN s.1 a n t)) k1.1 pN.1.1 pN.1.2.1 (bM_draw_239 ⟨rfl, m_searches (b := 5) (m := stl (drN s.1 a n t)) k1.1 pN.1.1 (by decide) (hc_vc pN.1.1) fun I4 L4 l1 l2 l3 => bM_draw_243 ?_⟩)))
  rw [l3.1]
  have hm4 := mI_fS (s := a_ch s (stl (drN s.1 a n t))) k1 l2
  exact mP_mk hm4.1 (fX_trans j2 (fX_trans ⟨fun b k z => f1.1 b k (by omega), fun b k z => f1.2 b k (fun e => absurd e (by omega))⟩ (fX_trans k2 hm4.2)))
end DRAW
