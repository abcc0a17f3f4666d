/-! WHETHER A STEP CAN GO, the keeper seen too -/
/-- the present marking as a code -/
def nc (m : Nat → Nat) : Nat := mp 32 (mz m 22) 10
theorem nw_mk {m : Nat → Nat} (hw : wb m) : mk m (mz m 22) := mk_mz hw.1 (Nat.le_refl _) fun p hp => (hw.2.2.2.2.1 p hp).2.2
theorem nc_vc {m : Nat → Nat} (hw : wb m) : vc m (nc m) := vc_mp hw.1 (nw_mk hw)
theorem nc_dg {m : Nat → Nat} (hw : wb m) : dg (nc m) = mz m 22 := dg_mp hw.1 (nw_mk hw)
/-- 0 it can, 1 to 3 why not, 4 the keeper bars it -/
def std (m : Nat → Nat) (t : Nat) : Nat := if why m (mz m 22) t 5 = 0 ∧ m 211 ≠ 0 then (if pl (sr m 5 (aftc m (nc m) t)) (hc m) < (sr m 5 (aftc m (nc m) t)).1 then 0 else 4) else why m (mz m 22) t 5
theorem cl211 : (211 : Int32).toNatClampNeg = 211 := by decide +kernel
theorem why0 {m f : Nat → Nat} {t b : Nat} (g : nI (why m f t b) = 0) : why m f t b = 0 := by
  have := why_lt (m := m) (f := f) (t := t) (b := b)
  have g : nI (why m f t b) = nI 0 := g
  exact (nI_eq (by omega) (by decide)).mp g
theorem pl_ext {m : Nat → Nat} {s s2 : sst} {c : Nat} (h : ext s s2) (hg : gl m s2) (hp : pl s c < s.1) : pl s2 c < s2.1 := by
  have h1 := Nat.lt_of_lt_of_le hp h.1
  rw [pl_uniq hg.2 h1 ((h.2 _ hp).1.trans (pl_at hp))]
  exact h1
section STAND
variable {I : Nat → Nat → Int32} {L : Nat → Nat → Int64} {q r1 r2 : Nat → Nat} {w : Bool} {K : km_K} {m : Nat → Nat}
theorem m_standing {t : Nat} (hn : nN I m) (hw : wb m) (hl : ∀ p, p < m 0 → m (12 + p) ≤ m (2 + p)) (ht : t < m 1) (h : ∀ I' L', nN I' m → fS I L I' L' → K (some (.int (nI (std m t)))) (I', L', kr q w r1 r2)) : kC sh kp 91 [.ref 71, .int (nI t)] (I, L, kr q w r1 r2) K := by
  have w1 := hw.2.1
  have w3 := hw.2.2.2.1
  have hmk := nw_mk hw
  have e211 : I 72 (211 : Int32).toNatClampNeg = nI (m 211) := by
    rw [cl211]
    exact hn 211 (by decide)
  refine ⟨rfl, bM_standing_0 (m_tokensFrom (c := 22) (f := mz m 22) hn hw.1 (by decide) (fun p hp => if_pos hp) hmk (bM_standing_6 (m_why (b := 5) hn hw (by omega) (by decide) hmk (bM_standing_14 ⟨fun g => bM_standing_32 ?_, fun g => bM_standing_21 ⟨pk_in 211 212 (by decide), ?_⟩⟩))))⟩
  · have e : std m t = why m (mz m 22) t 5 := if_neg fun z => g (by rw [z.1]; rfl)
    rw [e] at h
    exact h I L hn fS_refl
  · have hy := why0 g
    rw [e211]
    refine ⟨fun g1 => bM_standing_35 ?_, fun g1 => bM_standing_32 ?_⟩
    · have hk : m 211 ≠ 0 := fun z => g1 (by rw [z]; rfl)
      have hy2 : why m (dg (nc m)) t 5 = 0 := by
        rw [nc_dg hw]
        exact hy
      have hva := vc_aft hw.1 (nc_vc hw) hy2
      have e : std m t = if pl (sr m 5 (aftc m (nc m) t)) (hc m) < (sr m 5 (aftc m (nc m) t)).1 then 0 else 4 := if_pos ⟨hy, hk⟩
      rw [e] at h
      refine m_behind hn hw (by omega) hmk (roomz (why_room hy)).1 (bM_standing_42 ⟨rfl, ?_⟩)
      have e16 : mp 16 (aft m (mz m 22) t) 10 = c16 (aftc m (nc m) t) := by
        unfold c16
        rw [hva.2, nc_dg hw]
      rw [e16]
      refine m_searches (b := 5) hn hw (by decide) hva.1 fun I' L' f1 f2 f3 => bM_standing_46 (m_home f1 hw hl (bM_standing_54 ⟨rfl, m_placeIn f3 (sr_gl hw.1 hva.1) (hc_vc hw) (bM_standing_57 ⟨fun g2 => bM_standing_65 (bM_standing_66 ?_), fun g2 => bM_standing_61 (bM_standing_66 ?_)⟩)⟩))
      · have h := h I' L' f1 f2
        by_cases z : pl (sr m 5 (aftc m (nc m) t)) (hc m) < (sr m 5 (aftc m (nc m) t)).1
        · rw [if_pos z] at h
          exact h
        · exact absurd (if_neg z) g2
      · have h := h I' L' f1 f2
        have h200 := (sr_gl (b := 5) hw.1 hva.1).2.1
        by_cases z : pl (sr m 5 (aftc m (nc m) t)) (hc m) < (sr m 5 (aftc m (nc m) t)).1
        · unfold pI at g2
          rw [if_pos z] at g2
          exact absurd g2 (nI_m1 (by omega))
        · rw [if_neg z] at h
          exact h
    · have g1 : nI (m 211) = nI 0 := g1
      have hk : m 211 = 0 := (nI_eq (by omega) (by decide)).mp g1
      have e : std m t = why m (mz m 22) t 5 := if_neg fun z => z.2 hk
      rw [e] at h
      exact h I L hn fS_refl
theorem c_hindX {t : Nat} (hR : cR I L 1 m) (hw : wb m) (hl : ∀ p, p < m 0 → m (12 + p) ≤ m (2 + p)) (ht : t < m 1) (h : ∀ I' L', cR I' L' 1 m → fP 50 51 52 54 55 I L I' L' → K (some (.int (nI (std m t)))) (I', L', kr q w r1 r2)) : kC sh kp 50 [.ref 0, .int (nI t)] (I, L, kr q w r1 r2) K := by
  have w1 := hw.2.1
  have w3 := hw.2.2.2.1
  have hmk := nw_mk hw
  have e6 : L 1 6 = lN (mp 32 (mz m 22) 10) := hR.2.2.2.2.2.2.1
  have fr : fP 50 51 52 54 55 I L I L := ⟨fun _ _ _ _ _ _ => rfl, fun _ _ _ => rfl⟩
  refine ⟨rfl, bX_hindrance_0 ?_⟩
  rw [e6]
  refine c_hind (b := 5) hR hw ht (by decide) hmk (bX_hindrance_16 ⟨fun g => bX_hindrance_31 ?_, fun g => bX_hindrance_21 ?_⟩)
  · have e : std m t = why m (mz m 22) t 5 := if_neg fun z => g (by rw [z.1]; rfl)
    rw [e] at h
    exact h I L hR fr
  · have hy := why0 g
    rw [hR.2.2.2.1]
    refine ⟨fun g1 => bX_hindrance_33 (c_home hR hl (bX_hindrance_40 ?_)), fun g1 => bX_hindrance_31 ?_⟩
    · have hk : m 211 ≠ 0 := fun z => g1 (by rw [z]; rfl)
      have hy2 : why m (dg (nc m)) t 5 = 0 := by
        rw [nc_dg hw]
        exact hy
      have hva := vc_aft hw.1 (nc_vc hw) hy2
      have hgl := sr_gl (b := 5) hw.1 hva.1
      have hcl : hc m < 2 ^ 63 := Nat.lt_trans (vc_lt (hc_vc hw)) (by decide)
      have e : std m t = if pl (sr m 5 (aftc m (nc m) t)) (hc m) < (sr m 5 (aftc m (nc m) t)).1 then 0 else 4 := if_pos ⟨hy, hk⟩
      rw [e] at h
      rw [e6]
      refine c_after hR hw ht (roomz (why_room hy)).1 (bX_hindrance_64 ?_)
      have ec : mp 32 (aft m (mz m 22) t) 10 = aftc m (nc m) t := by
        unfold aftc
        rw [nc_dg hw]
      rw [ec]
      have done : ∀ s, gl m s → (pl s (hc m) < s.1 ↔ pl (sr m 5 (aftc m (nc m) t)) (hc m) < (sr m 5 (aftc m (nc m) t)).1) → ∀ I' L', cR I' L' 1 m → fP 50 51 52 54 55 I L I' L' → kW sh kp 50 77 [none, none, none, none, none] [.int (pI s (hc m))] (I', L', kr q w r1 r2) K := fun s hs hi I' L' hR' hf => by
        have h := h I' L' hR' hf
        have h200 := hs.2.1
        refine bX_hindrance_77 ⟨fun g2 => bX_hindrance_85 (bX_hindrance_86 ?_), fun g2 => bX_hindrance_81 (bX_hindrance_86 ?_)⟩
        · by_cases z : pl s (hc m) < s.1
          · rw [if_pos (hi.mp z)] at h
            exact h
          · exact absurd (if_neg z) g2
        · by_cases z : pl s (hc m) < s.1
          · unfold pI at g2
            rw [if_pos z] at g2
            exact absurd g2 (nI_m1 (by omega))
          · rw [if_neg (fun y => z (hi.mpr y))] at h
            exact h
      refine c_spread_a (b := 5) (c := aftc m (nc m) t) hR hw (by decide) hva.1 (Or.inr ⟨hc m, hc_vc hw, rfl⟩) (fun I' L' u hq hN => bX_hindrance_69 ?_) (fun g z1 z2 s I' L' u hq hs he hp => bX_hindrance_69 ?_)
      · exact c_index_a hgl.2 hq.2.2.2.1 hq.2.2.2.2.1 hq.2.2.2.2.2 hcl (done _ hgl Iff.rfl I' L' hq.1 hq.2.1)
      · have eg : hc m = g := (pk_lEQ hcl (Nat.lt_trans (vc_lt z2) (by decide))).mp z1
        rw [← eg] at hp
        exact c_index_a hs.2 hq.2.2.2.1 hq.2.2.2.2.1 hq.2.2.2.2.2 hcl (done s hs ⟨fun _ => pl_ext he hgl hp, fun _ => hp⟩ I' L' hq.1 hq.2.1)
    · have g1 : nI (m 211) = nI 0 := g1
      have hk : m 211 = 0 := (nI_eq (by omega) (by decide)).mp g1
      have e : std m t = why m (mz m 22) t 5 := if_neg fun z => z.2 hk
      rw [e] at h
      exact h I L hR fr
end STAND
