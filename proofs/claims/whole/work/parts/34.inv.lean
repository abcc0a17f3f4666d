/-! THE INVARIANT: an abstract state, what class and reference hold of it, and what stays -/
/-- sums of integers -/
def zs (f : Nat → Int) : Nat → Int
  | 0 => 0
  | n + 1 => zs f n + f n
/-- what a step adds to a place -/
def ee (m : Nat → Nat) (j p : Nat) : Int := (gv m j p : Int) - (tk m j p : Int)
def lin (m : Nat → Nat) (t : Nat) (x : Nat → Nat) : Prop := ∀ j, j < t → zs (fun p => ee m j p * (x p : Int)) (m 0) = 0
def nz (x : Nat → Nat) : Prop := ∃ p, x p ≠ 0
def inp (m x : Nat → Nat) : Prop := ∀ p, m 0 ≤ p → x p = 0
/-- weights that balance the first t steps, on the least of places, without a common divisor -/
def elm (m : Nat → Nat) (t : Nat) (x : Nat → Nat) : Prop := inp m x ∧ lin m t x ∧ nz x ∧ (∀ y, inp m y → lin m t y → nz y → (∀ p, x p = 0 → y p = 0) → ∀ p, y p = 0 → x p = 0) ∧ ∀ d, (∀ p, d ∣ x p) → d = 1
def spt (x : Nat → Nat) : Nat := bs (fun p => decide (x p ≠ 0)) 10
/-- the sets that bear a sum, in their order, and the weights of each -/
noncomputable def ivl (m : Nat → Nat) : List Nat := (List.range (2 ^ m 0)).filter (fun S => @decide (∃ x, elm m (m 1) x ∧ spt x = S) (Classical.propDecidable _))
noncomputable def ivw (m : Nat → Nat) (S : Nat) : Nat → Nat := Classical.epsilon (fun x => elm m (m 1) x ∧ spt x = S)
def tS (m : Nat → Nat) (t : Nat) : Nat := bs (fun p => decide (mz m (40 + 10 * t) p ≠ 0)) 10
def gS (m : Nat → Nat) (t : Nat) : Nat := bs (fun p => decide (mz m (120 + 10 * t) p ≠ 0)) 10
def szS (S : Nat) : Nat := cn (fun p => S.testBit p) 10
/-- a set that is stuck, and no part of it is -/
def mns (m : Nat → Nat) (S : Nat) : Bool := ! Nat.beq S 0 && (sip (tS m) (gS m) (m 1) S && al S (fun T => Nat.beq T 0 || (! Nat.beq (T &&& S) T || ! sip (tS m) (gS m) (m 1) T)))
def sil (m : Nat → Nat) : List Nat := (List.range 11).flatMap (fun z => (List.range (2 ^ m 0)).filter (fun S => Nat.beq (szS S) z && mns m S))
/-- where a step leads to in the list; its length if nowhere -/
def tg (m : Nat → Nat) (b : Nat) (s : sst) (k t : Nat) : Nat := if why m (dg (s.2.1 k)) t b = 0 then pl s (aftc m (s.2.1 k) t) else s.1
def ec (m : Nat → Nat) (t : Nat) : Nat := 1000 * m (32 + t) + 1
/-- the cheapest ways to g: 0 none, else one more than what it costs -/
def dst (m : Nat → Nat) (b : Nat) (s : sst) (g : Nat) (W : Nat → Nat) : Prop := W g = 1 ∧ (∀ k t, k < s.1 → t < m 1 → tg m b s k t < s.1 → W (tg m b s k t) ≠ 0 → W k ≠ 0 ∧ W k ≤ W (tg m b s k t) + ec m t) ∧ ∀ k, k < s.1 → k ≠ g → W k ≠ 0 → ∃ t, t < m 1 ∧ tg m b s k t < s.1 ∧ W (tg m b s k t) ≠ 0 ∧ W k = W (tg m b s k t) + ec m t
/-- the row is well formed -/
def wf (m : Nat → Nat) : Prop := wb m ∧ (∀ p, p < m 0 → m (12 + p) ≤ m (2 + p)) ∧ ∀ t p, t < m 1 → m 0 ≤ p → p < 10 → m (40 + 10 * t + p) = 0 ∧ m (120 + 10 * t + p) = 0
/-- row, number of rows kept, rows kept, refusals, bytes, text -/
abbrev ast : Type := (Nat → Nat) × Nat × (Nat → Nat → Nat) × (Int32 × Int32 × Int32) × Nat × (Nat → Nat)
def sw (s : ast) : Prop := wf s.1 ∧ s.2.1 ≤ 5 ∧ (∀ i, i < s.2.1 → wf (s.2.2.1 i)) ∧ s.2.2.2.2.1 ≤ 120 ∧ ∀ i, i < s.2.2.2.2.1 → s.2.2.2.2.2 i ≤ 127
def hS0 (I : Nat → Nat → Int32) (L : Nat → Nat → Int64) (m : Nat → Nat) (s : sst) : Prop := cS I L 44 45 46 s ∧ (∀ k, k < s.1 → ∀ t, t < m 1 → I 48 (8 * k + t) = nx m 5 s k t) ∧ (I 44 6 = 0 ∨ (I 44 6 = 1 ∧ ∃ W, dst m 5 s 0 W ∧ (∀ k, k < s.1 → W k ≤ 2 ^ 29) ∧ ∀ k, k < s.1 → I 47 k = sI (W k)))
def hSt (I : Nat → Nat → Int32) (L : Nat → Nat → Int64) (m : Nat → Nat) : Prop := hS0 I L m (sr m 5 (hc m))
theorem hS0_fr {I I' : Nat → Nat → Int32} {L L' : Nat → Nat → Int64} {m : Nat → Nat} {s : sst} (h : hS0 I L m s) (f : ∀ a k, 44 ≤ a → a < 50 → I' a k = I a k) (f2 : ∀ k, L' 45 k = L 45 k) : hS0 I' L' m s := by
  obtain ⟨⟨a, b⟩, c, d⟩ := h
  refine ⟨⟨(f 44 3 (by decide) (by decide)).trans a, fun j hj => ⟨(f2 j).trans (b j hj).1, (f 46 j (by decide) (by decide)).trans (b j hj).2⟩⟩, fun k hk t ht => (f 48 _ (by decide) (by decide)).trans (c k hk t ht), ?_⟩
  rw [f 44 6 (by decide) (by decide)]
  exact d.imp id fun ⟨d1, W, d2, d4, d3⟩ => ⟨d1, W, d2, d4, fun k hk => (f 47 k (by decide) (by decide)).trans (d3 k hk)⟩
/-- the search from home, if it is not stale -/
def cH (I : Nat → Nat → Int32) (L : Nat → Nat → Int64) (m : Nat → Nat) : Prop := I 0 5 = 0 ∨ (I 0 5 = 1 ∧ hSt I L m)
def gR (r1 r2 : Nat → Nat) : Prop := (∀ i, i < 64 → 90 ≤ r1 i ∧ r1 i < 218 ∧ 90 ≤ r2 i ∧ r2 i < 218) ∧ (∀ i j, i < 64 → j < 64 → i ≠ j → r1 i ≠ r1 j ∧ r2 i ≠ r2 j) ∧ ∀ i j, i < 64 → j < 64 → r1 i ≠ r2 j
def anV (I : Nat → Nat → Int32) (L : Nat → Nat → Int64) (w : Bool) (r1 r2 : Nat → Nat) (m : Nat → Nat) : Prop := (ivl m).length ≤ 64 ∧ I 56 0 = nI (ivl m).length ∧ ∀ k, k < (ivl m).length → I (cond w 59 57) k = nI ((ivl m).getD k 0) ∧ ∀ p, p < 10 → L (cond w (r2 k) (r1 k)) p = lN (ivw m ((ivl m).getD k 0) p)
def anP (I : Nat → Nat → Int32) (m : Nat → Nat) : Prop := I 62 0 = nI (sil m).length ∧ (∀ k, k < (sil m).length → I 63 k = nI ((sil m).getD k 0)) ∧ I 62 3 = nI (m 1) ∧ ∀ t, t < m 1 → I 65 t = nI (tS m t) ∧ I 66 t = nI (gS m t)
/-- sums and stuck sets, if they are not stale -/
def cA (I : Nat → Nat → Int32) (L : Nat → Nat → Int64) (w : Bool) (r1 r2 : Nat → Nat) (m : Nat → Nat) : Prop := gR r1 r2 ∧ (I 0 9 = 0 ∨ (I 0 9 = 1 ∧ anV I L w r1 r2 m ∧ anP I m))
/-- what the class holds -/
def cI (I : Nat → Nat → Int32) (L : Nat → Nat → Int64) (q : Nat → Nat) (w : Bool) (r1 r2 : Nat → Nat) (s : ast) : Prop := cR I L 1 s.1 ∧ (kq q ∧ I 0 3 = nI s.2.1 ∧ ∀ i, i < s.2.1 → cR I L (q i) (s.2.2.1 i)) ∧ (I 0 12 = s.2.2.2.1.1 ∧ I 0 13 = s.2.2.2.1.2.1 ∧ I 0 14 = s.2.2.2.1.2.2) ∧ (I 67 1 = nI s.2.2.2.2.1 ∧ ∀ i, i < s.2.2.2.2.1 → I 68 i = nI (s.2.2.2.2.2 i)) ∧ cH I L s.1 ∧ cA I L w r1 r2 s.1
/-- what the reference holds -/
def mI (I : Nat → Nat → Int32) (s : ast) : Prop := nN I s.1 ∧ (∃ a, a < 5 ∧ I 71 3 = nI a ∧ I 71 2 = nI s.2.1 ∧ rg I a s.2.1 s.2.2.1) ∧ (I 71 4 = s.2.2.2.1.1 ∧ I 71 5 = s.2.2.2.1.2.1 ∧ I 71 6 = s.2.2.2.1.2.2) ∧ I 71 25 = nI s.2.2.2.2.1 ∧ ∀ i, i < s.2.2.2.2.1 → I 88 i = nI (s.2.2.2.2.2 i)
/-- a call of the class leaves the reference's cells, and the other way round -/
def fM (I : Nat → Nat → Int32) (L : Nat → Nat → Int64) (I' : Nat → Nat → Int32) (L' : Nat → Nat → Int64) : Prop := (∀ a k, 71 ≤ a → a < 90 → I' a k = I a k) ∧ ∀ a k, 71 ≤ a → a < 90 → L' a k = L a k
def fX (I : Nat → Nat → Int32) (L : Nat → Nat → Int64) (I' : Nat → Nat → Int32) (L' : Nat → Nat → Int64) : Prop := (∀ a k, (a < 71 ∨ 90 ≤ a) → I' a k = I a k) ∧ ∀ a k, (a < 71 ∨ 90 ≤ a) → L' a k = L a k
theorem fM_refl {I : Nat → Nat → Int32} {L : Nat → Nat → Int64} : fM I L I L := ⟨fun _ _ _ _ => rfl, fun _ _ _ _ => rfl⟩
theorem fX_refl {I : Nat → Nat → Int32} {L : Nat → Nat → Int64} : fX I L I L := ⟨fun _ _ _ => rfl, fun _ _ _ => rfl⟩
theorem fM_trans {I I1 I2 : Nat → Nat → Int32} {L L1 L2 : Nat → Nat → Int64} (h : fM I L I1 L1) (h2 : fM I1 L1 I2 L2) : fM I L I2 L2 := ⟨fun a k g1 g2 => (h2.1 a k g1 g2).trans (h.1 a k g1 g2), fun a k g1 g2 => (h2.2 a k g1 g2).trans (h.2 a k g1 g2)⟩
theorem fX_trans {I I1 I2 : Nat → Nat → Int32} {L L1 L2 : Nat → Nat → Int64} (h : fX I L I1 L1) (h2 : fX I1 L1 I2 L2) : fX I L I2 L2 := ⟨fun a k g => (h2.1 a k g).trans (h.1 a k g), fun a k g => (h2.2 a k g).trans (h.2 a k g)⟩
/-- behind a call of the class: the answer and the new state -/
def cP (s : ast) (v : Option Value) (I : Nat → Nat → Int32) (L : Nat → Nat → Int64) : km_K := fun v' M' => ∃ I' L' q' w' r1' r2', M' = (I', L', kr q' w' r1' r2') ∧ v' = v ∧ cI I' L' q' w' r1' r2' s ∧ fM I L I' L'
def mP (s : ast) (v : Option Value) (I : Nat → Nat → Int32) (L : Nat → Nat → Int64) (R : Nat → Nat → Nat) : km_K := fun v' M' => ∃ I' L', M' = (I', L', R) ∧ v' = v ∧ mI I' s ∧ fX I L I' L'
theorem cP_mk {s : ast} {v : Option Value} {I I' : Nat → Nat → Int32} {L L' : Nat → Nat → Int64} {q r1 r2 : Nat → Nat} {w : Bool} (h : cI I' L' q w r1 r2 s) (hf : fM I L I' L') : cP s v I L v (I', L', kr q w r1 r2) := ⟨I', L', q, w, r1, r2, rfl, rfl, h, hf⟩
theorem mP_mk {s : ast} {v : Option Value} {I I' : Nat → Nat → Int32} {L L' : Nat → Nat → Int64} {R : Nat → Nat → Nat} (h : mI I' s) (hf : fX I L I' L') : mP s v I L R v (I', L', R) := ⟨I', L', rfl, rfl, h, hf⟩
theorem kq_b {q : Nat → Nat} {i : Nat} (hq : kq q) (hi : i < 5) : 14 ≤ q i ∧ q i ≤ 38 := by
  have := hq.1 i hi
  unfold isKp at this
  omega
theorem cI_fr {I I' : Nat → Nat → Int32} {L L' : Nat → Nat → Int64} {q r1 r2 r1' r2' : Nat → Nat} {w w' : Bool} {s : ast} {m : Nat → Nat} (hs : s.2.1 ≤ 5) (h : cI I L q w r1 r2 s) (f : ∀ a k, (a = 0 → k = 3 ∨ 12 ≤ k) → (a = 67 → k = 1) → (a = 0 ∨ (13 < a ∧ a < 44) ∨ a = 67 ∨ a = 68) → I' a k = I a k) (f2 : ∀ a k, 13 < a → a < 44 → L' a k = L a k) (hR : cR I' L' 1 m) (hH : cH I' L' m) (hA : cA I' L' w' r1' r2' m) : cI I' L' q w' r1' r2' (m, s.2) := by
  obtain ⟨h1, ⟨h2, h3, h4⟩, ⟨h5, h6, h7⟩, ⟨h8, h9⟩, h10, h11⟩ := h
  refine ⟨hR, ⟨h2, ?_, fun i hi => ?_⟩, ⟨?_, ?_, ?_⟩, ⟨?_, fun i hi => ?_⟩, hH, hA⟩
  · exact (f 0 3 (fun _ => Or.inl rfl) (fun e => absurd e (by decide)) (Or.inl rfl)).trans h3
  · have hi : i < s.2.1 := hi
    have b := kq_b (i := i) h2 (by omega)
    exact cR_fr (fun a k g1 g2 => f a k (fun e => absurd e (by omega)) (fun e => absurd e (by omega)) (by omega)) (fun a k g1 g2 => f2 a k (by omega) (by omega)) (h4 i hi)
  · exact (f 0 12 (fun _ => Or.inr (by decide)) (fun e => absurd e (by decide)) (Or.inl rfl)).trans h5
  · exact (f 0 13 (fun _ => Or.inr (by decide)) (fun e => absurd e (by decide)) (Or.inl rfl)).trans h6
  · exact (f 0 14 (fun _ => Or.inr (by decide)) (fun e => absurd e (by decide)) (Or.inl rfl)).trans h7
  · exact (f 67 1 (fun e => absurd e (by decide)) (fun _ => rfl) (by omega)).trans h8
  · exact (f 68 i (fun e => absurd e (by decide)) (fun e => absurd e (by decide)) (by omega)).trans (h9 i hi)
theorem mI_fr {I I' : Nat → Nat → Int32} {s : ast} {m : Nat → Nat} (h : mI I s) (f : ∀ a k, (a = 71 → (2 ≤ k ∧ k ≤ 6) ∨ k = 25) → (a = 71 ∨ a = 73 ∨ a = 88) → I' a k = I a k) (hn : nN I' m) : mI I' (m, s.2) := by
  obtain ⟨h1, ⟨a, h2, h3, h4, h5⟩, ⟨h6, h7, h8⟩, h9, h10⟩ := h
  refine ⟨hn, ⟨a, h2, ?_, ?_, fun i hi k hk => ?_⟩, ⟨?_, ?_, ?_⟩, ?_, fun i hi => ?_⟩
  · exact (f 71 3 (fun _ => by omega) (Or.inl rfl)).trans h3
  · exact (f 71 2 (fun _ => by omega) (Or.inl rfl)).trans h4
  · exact (f 73 _ (fun e => absurd e (by decide)) (by omega)).trans (h5 i hi k hk)
  · exact (f 71 4 (fun _ => by omega) (Or.inl rfl)).trans h6
  · exact (f 71 5 (fun _ => by omega) (Or.inl rfl)).trans h7
  · exact (f 71 6 (fun _ => by omega) (Or.inl rfl)).trans h8
  · exact (f 71 25 (fun _ => by omega) (Or.inl rfl)).trans h9
  · exact (f 88 i (fun e => absurd e (by decide)) (by omega)).trans (h10 i hi)
/-- the reference's cells seen through a call of the class -/
theorem mI_M {I I' : Nat → Nat → Int32} {L L' : Nat → Nat → Int64} {s : ast} (h : mI I s) (f : fM I L I' L') : mI I' s := mI_fr (s := s) (m := s.1) h (fun a k _ g => f.1 a k (by omega) (by omega)) (fun k hk => (f.1 72 k (by decide) (by decide)).trans (h.1 k hk))
theorem cH_fr {I I' : Nat → Nat → Int32} {L L' : Nat → Nat → Int64} {m : Nat → Nat} (h : cH I L m) (f0 : I' 0 5 = I 0 5) (f : ∀ a k, 44 ≤ a → a < 50 → I' a k = I a k) (f2 : ∀ k, L' 45 k = L 45 k) : cH I' L' m := by
  unfold cH at h ⊢
  rw [f0]
  exact h.imp id fun ⟨h1, h2⟩ => ⟨h1, hS0_fr h2 f f2⟩
theorem cA_fr {I I' : Nat → Nat → Int32} {L L' : Nat → Nat → Int64} {w : Bool} {r1 r2 : Nat → Nat} {m : Nat → Nat} (h : cA I L w r1 r2 m) (f0 : I' 0 9 = I 0 9) (f : ∀ a k, 56 ≤ a → a < 67 → I' a k = I a k) (f2 : ∀ a k, 90 ≤ a → a < 218 → L' a k = L a k) : cA I' L' w r1 r2 m := by
  unfold cA at h ⊢
  rw [f0]
  obtain ⟨hg, h⟩ := h
  refine ⟨hg, h.imp id fun ⟨h1, ⟨hl, a, b⟩, c, d, e, g⟩ => ⟨h1, ⟨hl, (f 56 0 (by decide) (by decide)).trans a, fun k hk => ⟨?_, fun p hp => ?_⟩⟩, (f 62 0 (by decide) (by decide)).trans c, fun k hk => (f 63 k (by decide) (by decide)).trans (d k hk), (f 62 3 (by decide) (by decide)).trans e, fun t ht => ⟨(f 65 t (by decide) (by decide)).trans (g t ht).1, (f 66 t (by decide) (by decide)).trans (g t ht).2⟩⟩⟩
  · refine Eq.trans ?_ (b k hk).1
    cases w with
    | true => exact f 59 k (by decide) (by decide)
    | false => exact f 57 k (by decide) (by decide)
  · refine Eq.trans ?_ ((b k hk).2 p hp)
    have g := hg.1 k (by omega)
    cases w with
    | true => exact f2 (r2 k) p g.2.2.1 g.2.2.2
    | false => exact f2 (r1 k) p g.1 g.2.1
/-- only the net counts for sums and stuck sets -/
def nEq (m m' : Nat → Nat) : Prop := m' 0 = m 0 ∧ m' 1 = m 1 ∧ ∀ k, 40 ≤ k → k < 200 → m' k = m k
theorem nEq_mz {m m' : Nat → Nat} (h : nEq m m') (hw : m 0 ≤ 10) {c : Nat} (h1 : 40 ≤ c) (h2 : c ≤ 190) : mz m' c = mz m c := funext fun p => by
  unfold mz
  rw [h.1]
  by_cases g : p < m 0
  · rw [if_pos g, if_pos g]
    exact h.2.2 _ (by omega) (by omega)
  · rw [if_neg g, if_neg g]
theorem zs_congr {f g : Nat → Int} : ∀ n, (∀ p, p < n → f p = g p) → zs f n = zs g n
  | 0, _ => rfl
  | n + 1, h => by
    show zs f n + f n = zs g n + g n
    rw [zs_congr n (fun p hp => h p (by omega)), h n (by omega)]
theorem nEq_elm {m m' : Nat → Nat} (h : nEq m m') (hw : m 0 ≤ 10) (hs : m 1 ≤ 8) : elm m' (m' 1) = elm m (m 1) := by
  have hi : inp m' = inp m := funext fun x => by
    unfold inp
    rw [h.1]
  have hl : lin m' (m' 1) = lin m (m 1) := funext fun x => by
    unfold lin
    rw [h.1, h.2.1]
    refine propext (forall_congr' fun j => forall_congr' fun hj => ?_)
    rw [zs_congr (m 0) fun p hp => ?_]
    unfold ee gv tk
    rw [h.2.2 _ (by omega) (by omega), h.2.2 _ (by omega) (by omega)]
  funext x
  unfold elm
  rw [hi, hl]
theorem nEq_iv {m m' : Nat → Nat} (h : nEq m m') (hw : m 0 ≤ 10) (hs : m 1 ≤ 8) : ivl m' = ivl m ∧ ivw m' = ivw m := by
  have he := nEq_elm h hw hs
  unfold ivl ivw
  rw [h.1, he]
  exact ⟨rfl, rfl⟩
theorem al_cg {P Q : Nat → Bool} : ∀ n, (∀ t, t < n → P t = Q t) → al n P = al n Q
  | 0, _ => rfl
  | n + 1, h => by rw [al_s, al_s, al_cg n (fun t ht => h t (by omega)), h n (by omega)]
theorem sip_cg {a b c d : Nat → Nat} {n S : Nat} (h : ∀ t, t < n → a t = c t ∧ b t = d t) : sip a b n S = sip c d n S := al_cg n fun t ht => by rw [(h t ht).1, (h t ht).2]
theorem nEq_sip {m m' : Nat → Nat} (h : nEq m m') (hw : m 0 ≤ 10) (hs : m 1 ≤ 8) : (∀ t, t < m 1 → tS m' t = tS m t ∧ gS m' t = gS m t) ∧ sil m' = sil m := by
  have ht : ∀ t, t < m 1 → tS m' t = tS m t ∧ gS m' t = gS m t := fun t ht => by
    unfold tS gS
    rw [nEq_mz h hw (by omega) (by omega), nEq_mz h hw (by omega) (by omega)]
    exact ⟨rfl, rfl⟩
  have hp : ∀ S, sip (tS m') (gS m') (m 1) S = sip (tS m) (gS m) (m 1) S := fun S => sip_cg ht
  have hm : mns m' = mns m := funext fun S => by
    unfold mns
    rw [h.2.1, hp S]
    congr 2
    exact al_cg S fun T _ => by rw [hp T]
  refine ⟨ht, ?_⟩
  unfold sil
  rw [h.1, hm]
theorem cA_nEq {I : Nat → Nat → Int32} {L : Nat → Nat → Int64} {w : Bool} {r1 r2 : Nat → Nat} {m m' : Nat → Nat} (h : nEq m m') (hw : m 0 ≤ 10) (hs : m 1 ≤ 8) (hA : cA I L w r1 r2 m) : cA I L w r1 r2 m' := by
  have e1 := nEq_iv h hw hs
  have e2 := nEq_sip h hw hs
  refine ⟨hA.1, hA.2.imp id fun ⟨a, b, c⟩ => ⟨a, ?_, ?_⟩⟩
  · unfold anV
    rw [e1.1, e1.2]
    exact b
  · unfold anP
    rw [e2.2, h.2.1]
    exact ⟨c.1, c.2.1, c.2.2.1, fun t ht => by rw [(e2.1 t ht).1, (e2.1 t ht).2]; exact c.2.2.2 t ht⟩
