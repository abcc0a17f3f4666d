/-! THE REFERENCE'S SEARCH -/
theorem up_s {α : Type} {f : Nat → Nat → α} {a k : Nat} {v : α} : km_up f a k v a k = v := if_pos ⟨rfl, rfl⟩
theorem up_a {α : Type} {f : Nat → Nat → α} {a k b j : Nat} {v : α} (h : b ≠ a) : km_up f a k v b j = f b j := if_neg fun g => h g.1
theorem up_k {α : Type} {f : Nat → Nat → α} {a k b j : Nat} {v : α} (h : j ≠ k) : km_up f a k v b j = f b j := if_neg fun g => h g.2
def mS (I : Nat → Nat → Int32) (L : Nat → Nat → Int64) (s : sst) : Prop := I 71 8 = nI s.1 ∧ ∀ j, j < s.1 → L 74 j = lN (c16 (s.2.1 j)) ∧ I 75 j = nI (s.2.2 j)
def fS (I : Nat → Nat → Int32) (L : Nat → Nat → Int64) (I' : Nat → Nat → Int32) (L' : Nat → Nat → Int64) : Prop := (∀ a k, (a = 71 → k ≠ 8) → a ≠ 75 → I' a k = I a k) ∧ ∀ a k, a ≠ 74 → L' a k = L a k
theorem fS_refl {I : Nat → Nat → Int32} {L : Nat → Nat → Int64} : fS I L I L := ⟨fun _ _ _ _ => rfl, fun _ _ _ => rfl⟩
theorem fS_n {I I' : Nat → Nat → Int32} {L L' : Nat → Nat → Int64} {m : Nat → Nat} (h : fS I L I' L') (hn : nN I m) : nN I' m := fun k hk => (h.1 72 k (fun g => absurd g (by decide)) (by decide)).trans (hn k hk)
def pI (s : sst) (c : Nat) : Int32 := if pl s c < s.1 then nI (pl s c) else -1
theorem pl_first {s : sst} {c i : Nat} (h : ∀ j, j < i → s.2.1 j ≠ c) (hi : i < s.1) (e : s.2.1 i = c) : pl s c = i := by
  rcases Nat.lt_trichotomy (pl s c) i with g | g | g
  · exact absurd (pl_at (s := s) (c := c) (by omega)) (h _ g)
  · exact g
  · exact absurd e (pl_no g)
section MSEARCH
variable {I : Nat → Nat → Int32} {L : Nat → Nat → Int64} {q r1 r2 : Nat → Nat} {w : Bool} {K : km_K} {m : Nat → Nat}
theorem m_placeIn {s : sst} {c : Nat} (hs : mS I L s) (hg : gl m s) (hc : vc m c) (h : K (some (.int (pI s c))) (I, L, kr q w r1 r2)) : kC sh kp 85 [.ref 71, .long (lN (c16 c))] (I, L, kr q w r1 r2) K := by
  have h200 := hg.2.1
  refine ⟨rfl, bM_placeIn_0 ?_⟩
  refine up0 (Pr := fun i => (∀ j, j < i → s.2.1 j ≠ c) → kW sh kp 85 2 [some (.ref 71), some (.long (lN (c16 c))), none, some (.int (nI i))] [] (I, L, kr q w r1 r2) K) (e := s.1) ?_ (fun i hi ih => ?_) (fun j hj => absurd hj (by omega))
  · intro ha
    refine bM_placeIn_2 (pk_le s.1 s.1 (fun _ => bM_placeIn_29 ?_) (fun g => absurd g (by omega)) hs.1)
    have e : pI s c = -1 := if_neg (by rw [pl_none.mpr ha]; omega)
    rw [e] at h
    exact h
  · intro ha
    refine bM_placeIn_2 (pk_le s.1 i (fun g => absurd g (by omega)) (fun _ => bM_placeIn_10 ⟨vp_in_nI (by omega) (by decide), fun g => bM_placeIn_23 ?_, fun g => bM_placeIn_21 ?_⟩) hs.1)
    · rw [nI_1]
      refine ih fun j hj => ?_
      by_cases e : j = i
      · intro e2
        refine g ?_
        rw [nI_clamp (by omega), (hs.2 i hi).1, ← e, e2]
        exact lg0.mpr rfl
      · exact ha j (by omega)
    · rw [nI_clamp (by omega), (hs.2 i hi).1] at g
      have g2 := (pk_lEQ (Nat.lt_trans (c16_lt (hg.2.2.1 i hi).1) (by decide)) (Nat.lt_trans (c16_lt hc) (by decide))).mp (lg0.mp g)
      have g3 := (c16_inj (hg.2.2.1 i hi).1 hc).mp g2
      have e : pI s c = nI i := by
        unfold pI
        rw [pl_first ha hi g3, if_pos hi]
      rw [e] at h
      exact h
theorem m_searches_in {s : sst} {b k : Nat} (hw : wb m) (hb : b < 6) (hk : k < 200) (hg : gl m s) (hks : k < s.1)
    (h : ∀ I' L', nN I' m → fS I L I' L' → mS I' L' (inn m b k s (m 1)) → kW sh kp 86 142 [some (.ref 71), none, none, some (.int (bI b)), some (.int (nI k)), none, none, none] [] (I', L', kr q w r1 r2) K) :
    ∀ d t, t + d = m 1 → ∀ I' L', nN I' m → fS I L I' L' → mS I' L' (inn m b k s t) → kW sh kp 86 34 [some (.ref 71), none, none, some (.int (bI b)), some (.int (nI k)), some (.int (nI t)), none, none] [] (I', L', kr q w r1 r2) K := by
  have w0 := hw.1
  have w1 := hw.2.1
  refine up_loop (Pr := fun t => ∀ I' L', nN I' m → fS I L I' L' → mS I' L' (inn m b k s t) → kW sh kp 86 34 [some (.ref 71), none, none, some (.int (bI b)), some (.int (nI k)), some (.int (nI t)), none, none] [] (I', L', kr q w r1 r2) K) (e := m 1) ?_ fun t ht ih => ?_
  · intro I' L' hn hf hs
    exact bM_searches_34 ⟨pk_in 1 212 (by decide), pk_le (m 1) (m 1) (fun _ => h I' L' hn hf hs) (fun g => absurd g (by omega)) (by rw [cl1]; exact hn 1 (by decide))⟩
  · intro I' L' hn hf hs
    have hi := inn_gl (b := b) w0 hg hks t
    have ih' : ∀ I2 L2, nN I2 m → fS I L I2 L2 → mS I2 L2 (stp m b k t (inn m b k s t)) → kW sh kp 86 136 [some (.ref 71), none, none, some (.int (bI b)), some (.int (nI k)), some (.int (nI t)), none, none] [] (I2, L2, kr q w r1 r2) K := fun I2 L2 hn2 hf2 hs2 => bM_searches_136 (by
      rw [nI_1]
      exact ih I2 L2 hn2 hf2 hs2)
    generalize hs' : inn m b k s t = s' at hi hs ih'
    have hk' : k < s'.1 := Nat.lt_of_lt_of_le hks hi.2.1
    have h200 := hi.1.2.1
    have hv := (hi.1.2.2.1 k hk').1
    have vk : vp_in (nI k) 200 := vp_in_nI hk (by decide)
    have ek : L' 74 (nI k).toNatClampNeg = lN (c16 (s'.2.1 k)) := by
      rw [nI_clamp (by omega)]
      exact (hs.2 k hk').1
    refine bM_searches_34 ⟨pk_in 1 212 (by decide), pk_le (m 1) t (fun g => absurd g (by omega)) (fun _ => bM_searches_45 (pk_le 200 s'.1 (fun g => ih' I' L' hn hf ?_) (fun g => bM_searches_55 ⟨vk, ?_⟩) rfl hs.1)) (by rw [cl1]; exact hn 1 (by decide))⟩
    · have e : stp m b k t s' = s' := by
        unfold stp put
        split
        · exact if_neg fun z => absurd z.2 (by omega)
        · rfl
      rw [e]
      exact hs
    · rw [ek]
      refine m_why hn hw (by omega) hb hv.1 (bM_searches_69 ⟨fun g1 => ih' I' L' hn hf ?_, fun g1 => bM_searches_72 ⟨vk, ?_⟩⟩)
      · have e : stp m b k t s' = s' := if_neg fun z => g1 (by rw [z]; rfl)
        rw [e]
        exact hs
      · have hy : why m (dg (s'.2.1 k)) t b = 0 := by
          have := why_lt (m := m) (f := dg (s'.2.1 k)) (t := t) (b := b)
          have g1 : nI (why m (dg (s'.2.1 k)) t b) = nI 0 := g1
          exact (nI_eq (by omega) (by decide)).mp g1
        have hva := vc_aft w0 hv hy
        rw [ek]
        refine m_behind hn hw (by omega) hv.1 (roomz (why_room hy)).1 (bM_searches_85 ?_)
        have e16 : mp 16 (aft m (dg (s'.2.1 k)) t) 10 = c16 (aftc m (s'.2.1 k) t) := by
          unfold c16
          rw [hva.2]
        rw [e16]
        refine m_placeIn hs hi.1 hva.1 (bM_searches_93 ⟨fun g2 => ih' I' L' hn hf ?_, fun g2 => bM_searches_97 ?_⟩)
        · have e : stp m b k t s' = s' := by
            unfold stp put
            rw [if_pos hy]
            refine if_neg fun z => g2 ?_
            unfold pI
            rw [if_neg (by omega)]
          rw [e]
          exact hs
        · have hp : pl s' (aftc m (s'.2.1 k) t) = s'.1 := by
            unfold pI at g2
            have hle := pl_le s' (aftc m (s'.2.1 k) t)
            rcases Nat.lt_or_ge (pl s' (aftc m (s'.2.1 k) t)) s'.1 with z | z
            · rw [if_pos z] at g2
              have := nI_pos (n := pl s' (aftc m (s'.2.1 k) t)) (by omega)
              rw [g2] at this
              exact absurd (by decide) this
            · omega
          have e : stp m b k t s' = (s'.1 + 1, ups s'.2.1 s'.1 (aftc m (s'.2.1 k) t), ups s'.2.2 s'.1 (s'.2.2 k + 1)) := by
            unfold stp put
            rw [if_pos hy, if_pos ⟨hp, g⟩]
          have en : (I' 71 8).toNatClampNeg = s'.1 := by rw [hs.1, nI_clamp (by omega)]
          have vn : vp_in (I' 71 8) 200 := by rw [hs.1]; exact vp_in_nI g (by decide)
          refine ⟨vn, vk, vn, ?_⟩
          rw [en, nI_clamp (by omega), up_a (by decide), hs.1, nI_1, (hs.2 k hk').2, nI_1]
          rw [e] at ih'
          refine ih' _ _ (fun j hj => ?_) ⟨fun a j h1 h2 => ?_, fun a j h1 => ?_⟩ ⟨up_s, fun j hj => ⟨?_, ?_⟩⟩
          · rw [up_a (by decide), up_a (by decide)]
            exact hn j hj
          · by_cases ea : a = 71
            · rw [up_k (h1 ea), up_a h2]
              exact hf.1 a j h1 h2
            · rw [up_a ea, up_a h2]
              exact hf.1 a j h1 h2
          · rw [up_a h1]
            exact hf.2 a j h1
          · show km_up L' 74 s'.1 _ 74 j = lN (c16 (ups s'.2.1 s'.1 _ j))
            have hj' : j < s'.1 + 1 := hj
            unfold ups
            by_cases ej : j = s'.1
            · rw [if_pos ej, ej, up_s]
            · rw [if_neg ej, up_k ej]
              exact (hs.2 j (by omega)).1
          · show km_up (km_up I' 75 s'.1 _) 71 8 _ 75 j = nI (ups s'.2.2 s'.1 _ j)
            have hj' : j < s'.1 + 1 := hj
            rw [up_a (by decide)]
            unfold ups
            by_cases ej : j = s'.1
            · rw [if_pos ej, ej, up_s]
            · rw [if_neg ej, up_k ej]
              exact (hs.2 j (by omega)).2
theorem m_searches {b c : Nat} (hn : nN I m) (hw : wb m) (hb : b < 6) (hc : vc m c) (h : ∀ I' L', nN I' m → fS I L I' L' → mS I' L' (sr m b c) → K none (I', L', kr q w r1 r2)) : kC sh kp 86 [.ref 71, .long (lN (c16 c)), .int (bI b)] (I, L, kr q w r1 r2) K := by
  have w0 := hw.1
  have v0 : vp_in (0 : Int32) 200 := pk_in 0 200 (by decide)
  refine ⟨rfl, bM_searches_0 ⟨v0, v0, ?_⟩⟩
  refine up0 (Pr := fun k => ∀ I' L', nN I' m → fS I L I' L' → mS I' L' (ou m b c k) → kW sh kp 86 22 [some (.ref 71), none, none, some (.int (bI b)), some (.int (nI k)), none, none, none] [] (I', L', kr q w r1 r2) K) (e := 200) ?_ (fun k hk ih => ?_) _ _ ?_ ?_ ?_
  · intro I' L' hn hf hs
    have h200 := (ou_gl (b := b) w0 hc 200).2.1
    exact bM_searches_22 (pk_le _ 200 (fun _ => bM_searches_148 (h I' L' hn hf hs)) (fun g => absurd g (by omega)) hs.1)
  · intro I' L' hn hf hs
    have hg := ou_gl (b := b) w0 hc k
    have h200 := hg.2.1
    refine bM_searches_22 (pk_le _ k (fun g => bM_searches_148 (h I' L' hn hf ?_)) (fun g => bM_searches_31 ?_) hs.1)
    · rw [sr_end g (by omega)]
      exact hs
    · refine m_searches_in (I := I) (L := L) (s := ou m b c k) hw hb hk hg g (fun I2 L2 hn2 hf2 hs2 => bM_searches_142 ?_) (m 1) 0 (by omega) I' L' hn hf hs
      rw [nI_1]
      refine ih I2 L2 hn2 hf2 ?_
      show mS I2 L2 (if k < (ou m b c k).1 then inn m b k (ou m b c k) (m 1) else ou m b c k)
      rw [if_pos g]
      exact hs2
  · intro j hj
    rw [up_a (by decide), up_a (by decide)]
    exact hn j hj
  · refine ⟨fun a j h1 h2 => ?_, fun a j h1 => up_a h1⟩
    by_cases ea : a = 71
    · rw [up_a h2, up_k (h1 ea)]
    · rw [up_a h2, up_a ea]
  · refine ⟨?_, fun j hj => ?_⟩
    · rw [up_a (by decide), up_s]
      rfl
    · have hj' : j < 1 := hj
      have ej : j = 0 := by omega
      rw [ej, cl0, up_s, up_s]
      exact ⟨rfl, rfl⟩
end MSEARCH
