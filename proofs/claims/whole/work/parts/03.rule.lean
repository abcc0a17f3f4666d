/-! LAWS OF THE ABSTRACT MACHINE: more fuel, a weaker end, one answer, and the rule by which a block is run -/
theorem kJo_mono {G G' : km_G} {M : km_M} (hG : ∀ pc lv st M, G pc lv st M → G' pc lv st M) : ∀ {js : km_J}, kJo G M js → kJo G' M js
  | [], h => h.elim
  | _ :: _, h => h.elim (fun q => Or.inl ⟨q.1, hG _ _ _ _ q.2⟩) (fun q => Or.inr (kJo_mono hG q))
theorem km_and_mono {ps : List Prop} {Q Q' : Prop} (f : Q → Q') (h : km_and ps Q) : km_and ps Q' := km_and_iff.mpr ⟨(km_and_iff.mp h).1, f (km_and_iff.mp h).2⟩
theorem kX_mono {G G' : km_G} {Rt Rt' : km_K} {Cl Cl' : km_C} (hG : ∀ pc lv st M, G pc lv st M → G' pc lv st M) (hR : ∀ v M, Rt v M → Rt' v M) (hC : ∀ m as M (K1 K2 : km_K), (∀ v M1, K1 v M1 → K2 v M1) → Cl m as M K1 → Cl' m as M K2) :
    ∀ (o : km_O) (M : km_M), kX kJo G Rt Cl o M → kX kJo G' Rt' Cl' o M
  | .inl (pc, lv, s), M, h => hG _ _ _ _ h
  | .inr (.inl js), M, h => kJo_mono hG h
  | .inr (.inr (.inl (ps, v))), M, h => km_and_mono (hR _ _) h
  | .inr (.inr (.inr (ps, m, as, pc, lv, s))), M, h => km_and_mono (hC _ _ _ _ _ (fun _ _ => hG _ _ _ _)) h
theorem kB_mono {sh : Nat → Nat × Nat} {rz : Bool} {G G' : km_G} {Rt Rt' : km_K} {Cl Cl' : km_C} (hG : ∀ pc lv st M, G pc lv st M → G' pc lv st M) (hR : ∀ v M, Rt v M → Rt' v M) (hC : ∀ m as M (K1 K2 : km_K), (∀ v M1, K1 v M1 → K2 v M1) → Cl m as M K1 → Cl' m as M K2) :
    ∀ (cs : List km_I) (pc : Nat) (lv : km_L) (st : List Value) (M : km_M), kB sh rz kJo G Rt Cl cs pc lv st M → kB sh rz kJo G' Rt' Cl' cs pc lv st M
  | [], pc, lv, st, M, h => hG _ _ _ _ h
  | it :: r, pc, lv, st, M, h => by
    unfold kB at h ⊢
    cases hs : kS sh it lv st M with
    | some q =>
      obtain ⟨ps, lv', st', M'⟩ := q
      rw [hs] at h
      exact km_and_mono (kB_mono hG hR hC r _ _ _ _) h
    | none =>
      rw [hs] at h
      cases ho : kO sh rz it pc lv st with
      | some o =>
        rw [ho] at h
        exact kX_mono hG hR hC o M h
      | none =>
        rw [ho] at h
        exact h
theorem kG_mono {sh : Nat → Nat × Nat} {pg : Nat → km_P} : ∀ (f f' : Nat), f ≤ f' → ∀ (mid pc : Nat) (lv : km_L) (st : List Value) (M : km_M) (K K' : km_K), (∀ v M1, K v M1 → K' v M1) → kG sh pg f mid pc lv st M K → kG sh pg f' mid pc lv st M K'
  | 0, _, _, _, _, _, _, _, _, _, _, h => h.elim
  | f + 1, 0, hf, _, _, _, _, _, _, _, _, _ => absurd hf (by omega)
  | f + 1, f' + 1, hf, mid, pc, lv, st, M, K, K', hK, h => by
    unfold kG at h ⊢
    cases hb : kF pc (pg mid).2.2 with
    | none => rw [hb] at h; exact h
    | some b =>
      rw [hb] at h
      refine kB_mono (fun pc lv st M q => kG_mono f f' (by omega) _ _ _ _ _ _ _ hK q) hK (fun m as M K1 K2 hk q => ?_) _ _ _ _ _ h
      obtain ⟨q0, v, M1, q1, q2⟩ := q
      exact ⟨q0, v, M1, kG_mono f f' (by omega) _ _ _ _ _ _ _ (fun _ _ q => q) q1, hk _ _ q2⟩
theorem kJo_exact {G : km_K → km_G} {K : km_K} {M : km_M} (hG : ∀ pc lv st M, G K pc lv st M → ∃ v M1, G (kEq v M1) pc lv st M ∧ K v M1) : ∀ {js : km_J}, kJo (G K) M js → ∃ v M1, kJo (G (kEq v M1)) M js ∧ K v M1
  | [], h => h.elim
  | _ :: _, h => by
    rcases h with ⟨h1, h2⟩ | h
    · obtain ⟨v, M1, q1, q2⟩ := hG _ _ _ _ h2
      exact ⟨v, M1, Or.inl ⟨h1, q1⟩, q2⟩
    · obtain ⟨v, M1, q1, q2⟩ := kJo_exact hG h
      exact ⟨v, M1, Or.inr q1, q2⟩
theorem kX_exact {G : km_K → km_G} {K : km_K} {Cl : km_C} (hG : ∀ pc lv st M, G K pc lv st M → ∃ v M1, G (kEq v M1) pc lv st M ∧ K v M1) (hC : ∀ m as M K', Cl m as M K' → ∃ v M1, K' v M1 ∧ ∀ K'' : km_K, K'' v M1 → Cl m as M K'') :
    ∀ (o : km_O) (M : km_M), kX kJo (G K) K Cl o M → ∃ v M1, kX kJo (G (kEq v M1)) (kEq v M1) Cl o M ∧ K v M1
  | .inl (pc, lv, s), M, h => hG _ _ _ _ h
  | .inr (.inl js), M, h => kJo_exact hG h
  | .inr (.inr (.inl (ps, v))), M, h => ⟨v, M, km_and_mono (fun _ => ⟨rfl, rfl⟩) h, (km_and_iff.mp h).2⟩
  | .inr (.inr (.inr (ps, m, as, pc, lv, s))), M, h => by
    obtain ⟨v0, M0, q1, q2⟩ := hC _ _ _ _ (km_and_iff.mp h).2
    obtain ⟨v, M1, q3, q4⟩ := hG _ _ _ _ q1
    exact ⟨v, M1, km_and_mono (fun _ => q2 _ q3) h, q4⟩
theorem kB_exact {sh : Nat → Nat × Nat} {rz : Bool} {G : km_K → km_G} {K : km_K} {Cl : km_C} (hG : ∀ pc lv st M, G K pc lv st M → ∃ v M1, G (kEq v M1) pc lv st M ∧ K v M1) (hC : ∀ m as M K', Cl m as M K' → ∃ v M1, K' v M1 ∧ ∀ K'' : km_K, K'' v M1 → Cl m as M K'') :
    ∀ (cs : List km_I) (pc : Nat) (lv : km_L) (st : List Value) (M : km_M), kB sh rz kJo (G K) K Cl cs pc lv st M → ∃ v M1, kB sh rz kJo (G (kEq v M1)) (kEq v M1) Cl cs pc lv st M ∧ K v M1
  | [], pc, lv, st, M, h => hG _ _ _ _ h
  | it :: r, pc, lv, st, M, h => by
    unfold kB at h
    cases hs : kS sh it lv st M with
    | some q =>
      obtain ⟨ps, lv', st', M'⟩ := q
      rw [hs] at h
      obtain ⟨v, M1, q1, q2⟩ := kB_exact hG hC r _ _ _ _ (km_and_iff.mp h).2
      refine ⟨v, M1, ?_, q2⟩
      unfold kB
      rw [hs]
      exact km_and_mono (fun _ => q1) h
    | none =>
      rw [hs] at h
      cases ho : kO sh rz it pc lv st with
      | some o =>
        rw [ho] at h
        obtain ⟨v, M1, q1, q2⟩ := kX_exact hG hC o M h
        refine ⟨v, M1, ?_, q2⟩
        unfold kB
        rw [hs, ho]
        exact q1
      | none =>
        rw [ho] at h
        exact h.elim
theorem kG_exact {sh : Nat → Nat × Nat} {pg : Nat → km_P} : ∀ (f mid pc : Nat) (lv : km_L) (st : List Value) (M : km_M) (K : km_K), kG sh pg f mid pc lv st M K → ∃ v M1, kG sh pg f mid pc lv st M (kEq v M1) ∧ K v M1
  | 0, _, _, _, _, _, _, h => h.elim
  | f + 1, mid, pc, lv, st, M, K, h => by
    unfold kG at h
    cases hb : kF pc (pg mid).2.2 with
    | none => rw [hb] at h; exact h.elim
    | some b =>
      rw [hb] at h
      obtain ⟨v, M1, q1, q2⟩ := kB_exact (G := fun K pc lv st M => kG sh pg f mid pc (km_mask (kMk (pg mid) pc) lv) st M K) (fun pc lv st M q => kG_exact f _ _ _ _ _ _ q) (fun m as M K' q => by
        obtain ⟨q0, v, M1, q1, q2⟩ := q
        exact ⟨v, M1, q2, fun K'' q3 => ⟨q0, v, M1, q1, q3⟩⟩) _ _ _ _ _ h
      refine ⟨v, M1, ?_, q2⟩
      unfold kG
      rw [hb]
      exact q1
/-- a branch or a switch has always one way that holds -/
theorem kT_some {lv : km_L} {s : List Value} {v : Int32} : ∀ (t : List (Int32 × Nat)) (d : Nat) (ns : List Prop), (∀ n ∈ ns, n) → ∃ j ∈ kT lv s v t d ns, j.1
  | [], d, ns, h => ⟨_, List.mem_cons_self, km_and_iff.mpr ⟨h, trivial⟩⟩
  | (k, t) :: r, d, ns, h => by
    by_cases hk : v = k
    · exact ⟨_, List.mem_cons_self, hk⟩
    · obtain ⟨j, h1, h2⟩ := kT_some r d ((¬ v = k) :: ns) (fun n hn => (List.mem_cons.mp hn).elim (fun e => e ▸ hk) (h n))
      exact ⟨j, List.mem_cons_of_mem _ h1, h2⟩
theorem kQ_some {i : Instr} {st s : List Value} {P Q : Prop} (h : kQ i st = some (P, Q, s)) : P ∨ Q := by
  unfold kQ at h
  split at h <;> first | (cases h; first | exact Classical.em _ | exact (Classical.em _).symm) | cases h
theorem kO_some {sh : Nat → Nat × Nat} {rz : Bool} {it : km_I} {pc : Nat} {lv : km_L} {st : List Value} {js : km_J} (h : kO sh rz it pc lv st = some (.inr (.inl js))) : ∃ j ∈ js, j.1 := by
  obtain ⟨i, n, x, y, z, c, w, t⟩ := it
  unfold kO at h
  dsimp only at h
  split at h
  · cases h
  · split at h
    · rename_i hq
      cases h
      rcases kQ_some hq with q | q
      · exact ⟨_, List.mem_cons_self, q⟩
      · exact ⟨_, List.mem_cons_of_mem _ List.mem_cons_self, q⟩
    · cases h
  · split at h
    · rename_i hq
      cases h
      rcases kQ_some hq with q | q
      · exact ⟨_, List.mem_cons_self, q⟩
      · exact ⟨_, List.mem_cons_of_mem _ List.mem_cons_self, q⟩
    · cases h
  · split at h
    · cases h
      exact kT_some _ _ _ (fun n hn => by cases hn)
    · cases h
  · split at h
    · cases h
      exact kT_some _ _ _ (fun n hn => by cases hn)
    · cases h
  all_goals (first | cases h | (split at h <;> first | cases h | (split at h <;> first | cases h | (split at h <;> cases h))))
theorem kJa_at {G : km_G} {M : km_M} : ∀ {js : km_J}, kJa G M js → ∀ j ∈ js, j.1 → G j.2.1 j.2.2.1 j.2.2.2 M
  | [], _, j, hj, _ => by cases hj
  | [j0], h, j, hj, q => by
    rw [List.mem_singleton] at hj
    subst hj
    exact h q
  | j0 :: j1 :: r, h, j, hj, q => by
    rcases List.mem_cons.mp hj with e | hj
    · subst e
      exact h.1 q
    · exact kJa_at (js := j1 :: r) h.2 j hj q
theorem kJo_in {G : km_G} {M : km_M} : ∀ {js : km_J} {j : Prop × Nat × km_L × List Value}, j ∈ js → j.1 → G j.2.1 j.2.2.1 j.2.2.2 M → kJo G M js
  | [], _, h, _, _ => by cases h
  | j0 :: r, j, h, q, g => by
    rcases List.mem_cons.mp h with e | h
    · subst e
      exact Or.inl ⟨q, g⟩
    · exact Or.inr (kJo_in h q g)
/-- fuel for a block: enough for each of its ends -/
theorem kX_fuel {G : Nat → km_G} {K : km_K} {Cl : Nat → km_C} (mG : ∀ f f', f ≤ f' → ∀ pc lv st M, G f pc lv st M → G f' pc lv st M)
    (hC : ∀ f m as M (K' : km_K), (∃ v M1, K' v M1 ∧ ∀ K'' : km_K, K'' v M1 → ∀ f', f ≤ f' → Cl f' m as M K'') → True)
    {sh : Nat → Nat × Nat} {rz : Bool} {it : km_I} {pc : Nat} {lv : km_L} {st : List Value} {C : km_C}
    (cC : ∀ m as M (K' : km_K), C m as M K' → ∃ f v M1, K' v M1 ∧ ∀ (K'' : km_K) f', K'' v M1 → f ≤ f' → Cl f' m as M K'') :
    ∀ (o : km_O) (M : km_M), kO sh rz it pc lv st = some o → kX kJa (fun pc lv st M => ∃ f, G f pc lv st M) K C o M → ∃ f, kX kJo (G f) K (Cl f) o M
  | .inl (pc, lv, s), M, _, h => h
  | .inr (.inl js), M, ho, h => by
    obtain ⟨j, h1, h2⟩ := kO_some ho
    obtain ⟨f, q⟩ := kJa_at h j h1 h2
    exact ⟨f, kJo_in h1 h2 q⟩
  | .inr (.inr (.inl (ps, v))), M, _, h => ⟨0, h⟩
  | .inr (.inr (.inr (ps, m, as, pc, lv, s))), M, _, h => by
    obtain ⟨f, v, M1, ⟨f2, q1⟩, q2⟩ := cC _ _ _ _ (km_and_iff.mp h).2
    exact ⟨max f f2, km_and_mono (fun _ => q2 _ _ (mG f2 _ (Nat.le_max_right _ _) _ _ _ _ q1) (Nat.le_max_left _ _)) h⟩
theorem kB_fuel {G : Nat → km_G} {K : km_K} {Cl : Nat → km_C} (mG : ∀ f f', f ≤ f' → ∀ pc lv st M, G f pc lv st M → G f' pc lv st M)
    {sh : Nat → Nat × Nat} {rz : Bool} {C : km_C}
    (cC : ∀ m as M (K' : km_K), C m as M K' → ∃ f v M1, K' v M1 ∧ ∀ (K'' : km_K) f', K'' v M1 → f ≤ f' → Cl f' m as M K'') :
    ∀ (cs : List km_I) (pc : Nat) (lv : km_L) (st : List Value) (M : km_M), kB sh rz kJa (fun pc lv st M => ∃ f, G f pc lv st M) K C cs pc lv st M → ∃ f, kB sh rz kJo (G f) K (Cl f) cs pc lv st M
  | [], pc, lv, st, M, h => h
  | it :: r, pc, lv, st, M, h => by
    unfold kB at h
    cases hs : kS sh it lv st M with
    | some q =>
      obtain ⟨ps, lv', st', M'⟩ := q
      rw [hs] at h
      obtain ⟨f, q1⟩ := kB_fuel mG cC r _ _ _ _ (km_and_iff.mp h).2
      refine ⟨f, ?_⟩
      unfold kB
      rw [hs]
      exact km_and_mono (fun _ => q1) h
    | none =>
      rw [hs] at h
      cases ho : kO sh rz it pc lv st with
      | some o =>
        rw [ho] at h
        obtain ⟨f, q1⟩ := kX_fuel mG (fun _ _ _ _ _ _ => trivial) cC o M ho h
        refine ⟨f, ?_⟩
        unfold kB
        rw [hs, ho]
        exact q1
      | none =>
        rw [ho] at h
        exact h.elim
/-- THE RULE: a block is run, each of its ends by kW and kC -/
theorem kW_block {sh : Nat → Nat × Nat} {pg : Nat → km_P} {mid pc : Nat} {lv : km_L} {st : List Value} {M : km_M} {K : km_K} {b : km_B} (hb : kF pc (pg mid).2.2 = some b)
    (h : kB sh (pg mid).2.1 kJa (fun pc lv st M => kW sh pg mid pc (km_mask (kMk (pg mid) pc) lv) st M K) K (kC sh pg) b.2.2 pc lv st M) : kW sh pg mid pc lv st M K := by
  obtain ⟨f, q⟩ := kB_fuel (G := fun f pc lv st M => kG sh pg f mid pc (km_mask (kMk (pg mid) pc) lv) st M K) (Cl := fun f m as M' K' => Nat.ble (km_wd as) (pg m).1 = true ∧ ∃ v M1, kG sh pg f m 0 (kIn (pg m) as) [] M' (kEq v M1) ∧ K' v M1)
    (fun f f' hf pc lv st M q => kG_mono f f' hf _ _ _ _ _ _ _ (fun _ _ q => q) q)
    (fun m as M K' q => by
      obtain ⟨q0, f, q⟩ := q
      obtain ⟨v, M1, q1, q2⟩ := kG_exact _ _ _ _ _ _ _ q
      exact ⟨f, v, M1, q2, fun K'' f' q3 hf => ⟨q0, v, M1, kG_mono f f' hf _ _ _ _ _ _ _ (fun _ _ q => q) q1, q3⟩⟩) _ _ _ _ _ h
  refine ⟨f + 1, ?_⟩
  unfold kG
  rw [hb]
  exact q
theorem kW_mono {sh : Nat → Nat × Nat} {pg : Nat → km_P} {mid pc : Nat} {lv : km_L} {st : List Value} {M : km_M} {K K' : km_K} (hK : ∀ v M1, K v M1 → K' v M1) (h : kW sh pg mid pc lv st M K) : kW sh pg mid pc lv st M K' := by
  obtain ⟨f, q⟩ := h
  exact ⟨f, kG_mono f f (Nat.le_refl f) _ _ _ _ _ _ _ hK q⟩
theorem kC_mono {sh : Nat → Nat × Nat} {pg : Nat → km_P} {mid : Nat} {as : List Value} {M : km_M} {K K' : km_K} (h : kC sh pg mid as M K) (hK : ∀ v M1, K v M1 → K' v M1) : kC sh pg mid as M K' := ⟨h.1, kW_mono hK h.2⟩
