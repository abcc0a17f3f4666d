/-! THE LAW: its loop, its entry, the claim (printed by wip/whole/gen/law.py; what stands behind whole_start is the skeleton's) -/
theorem d_law_0 : decode code 0 = .ok (.new 7, 3) := by decide +kernel
theorem d_law_3 : decode code 3 = .ok (.dup, 1) := by decide +kernel
theorem d_law_4 : decode code 4 = .ok (.invokespecial 9, 3) := by decide +kernel
theorem d_law_7 : decode code 7 = .ok (.astore_n 1, 1) := by decide +kernel
theorem d_law_8 : decode code 8 = .ok (.new 10, 3) := by decide +kernel
theorem d_law_11 : decode code 11 = .ok (.dup, 1) := by decide +kernel
theorem d_law_12 : decode code 12 = .ok (.invokespecial 12, 3) := by decide +kernel
theorem d_law_15 : decode code 15 = .ok (.astore_n 2, 1) := by decide +kernel
theorem d_law_16 : decode code 16 = .ok (.iconst 0, 1) := by decide +kernel
theorem d_law_17 : decode code 17 = .ok (.istore_n 3, 1) := by decide +kernel
theorem d_law_18 : decode code 18 = .ok (.iload_n 3, 1) := by decide +kernel
theorem d_law_19 : decode code 19 = .ok (.aload_n 0, 1) := by decide +kernel
theorem d_law_20 : decode code 20 = .ok (.arraylength, 1) := by decide +kernel
theorem d_law_21 : decode code 21 = .ok (.iconst 5, 1) := by decide +kernel
theorem d_law_22 : decode code 22 = .ok (.isub, 1) := by decide +kernel
theorem d_law_23 : decode code 23 = .ok (.if_icmp .gt 1142, 3) := by decide +kernel
theorem d_law_26 : decode code 26 = .ok (.aload_n 0, 1) := by decide +kernel
theorem d_law_27 : decode code 27 = .ok (.iload_n 3, 1) := by decide +kernel
theorem d_law_28 : decode code 28 = .ok (.iaload, 1) := by decide +kernel
theorem d_law_29 : decode code 29 = .ok (.bipush 63, 2) := by decide +kernel
theorem d_law_31 : decode code 31 = .ok (.iand, 1) := by decide +kernel
theorem d_law_32 : decode code 32 = .ok (.tableswitch 1127 0 36 #[164, 187, 210, 263, 296, 329, 372, 415, 428, 461, 504, 537, 560, 583, 616, 629, 652, 675, 698, 711, 744, 777, 790, 823, 846, 879, 892, 915, 948, 971, 1005, 1028, 1051, 1064, 1077, 1090, 1113], 164) := by decide +kernel
theorem d_law_1159 : decode code 1159 = .ok (.iinc 3 5, 3) := by decide +kernel
theorem d_law_1162 : decode code 1162 = .ok (.goto (-1144), 3) := by decide +kernel
theorem d_law_1165 : decode code 1165 = .ok (.iconst 1, 1) := by decide +kernel
theorem d_law_1166 : decode code 1166 = .ok (.ireturn, 1) := by decide +kernel
theorem lw_end {L i : Nat} (hL : L ≤ 2560) (hi : i ≤ L) : nI L - 5 < nI i ↔ L < i + 5 := by
  by_cases h : 5 ≤ L
  · have e : nI L - 5 = nI (L - 5) := by
      have e1 : nI (L - 5) + nI 5 = nI L := by
        rw [nI_add]
        congr 1
        omega
      rw [← e1]
      show nI (L - 5) + nI 5 - nI 5 = nI (L - 5)
      simp
    rw [e, nI_ltI (by omega) (by omega)]
    omega
  · have h1 : ∀ L, L < 5 → nI L - 5 < 0 := by decide +kernel
    exact ⟨fun _ => by omega, fun _ => fa_trans (h1 L (by omega)) (nI_pos' (by omega))⟩
theorem lw_and (x : Int32) : ∃ k, k < 64 ∧ x &&& 63 = nI k := by
  obtain ⟨n, -, rfl⟩ := wb_of32 x
  refine ⟨n % 2 ^ 6, Nat.mod_lt _ (by decide), ?_⟩
  exact fa_mask n 6
section LOOP
variable {p : Program} {l : Launch} {e : Env} {s : State} {m : MethodId} {below : List Frame} {meth : Method} {c : Code} {b L : Nat} {xs : Nat → Int32} {cells slots : Nat} {D : va_G} {cy : kv_Y} {ad : Nat → Nat}
set_option maxHeartbeats 4000000 in
set_option maxRecDepth 100000 in
/-- the switch -/
theorem law_switch (E : lw_E p s m meth c b L xs D cy ad) (hcs : cells ≤ 600000 ∧ slots ≤ 7302250) {i k : Nat} (hk : k < 64) (hi : i + 5 ≤ L) {H : Heap} {locs : List Loc} {st : ast} {ls : Array Slot} (hK : lw_K s D cy ad H locs st) (hl : lv_has ls 4 [(3, .int (nI i)), (2, .ref (ad 71)), (1, .ref (ad 0)), (0, .ref b)])
    (kk : ∀ (H1 : Heap) (locs1 : List Loc) (st1 : ast), lw_K s D cy ad H1 locs1 st1 → W p l e room_1 s m #[Value.ref b] below meth c H1 locs1 cells slots (lw_Z below #[Value.ref b] s) (F0 m 1159 ls [])) : W p l e room_1 s m #[Value.ref b] below meth c H locs cells slots (lw_Z below #[Value.ref b] s) (F0 m 32 ls [.int (nI k)]) := by
  have hx := E.1.1
  have hb := E.1.2.1
  by_cases h0 : k = 0
  · rw [h0]
    exact lv_tableIn (off := 164) (tgt := 196) hx hb d_law_32 (by decide +kernel) (by decide +kernel) (by decide +kernel) (by decide) (lw_k0 E hi hK hl hcs kk)
  by_cases h1 : k = 1
  · rw [h1]
    exact lv_tableIn (off := 187) (tgt := 219) hx hb d_law_32 (by decide +kernel) (by decide +kernel) (by decide +kernel) (by decide) (lw_k1 E hi hK hl hcs kk)
  by_cases h2 : k = 2
  · rw [h2]
    exact lv_tableIn (off := 210) (tgt := 242) hx hb d_law_32 (by decide +kernel) (by decide +kernel) (by decide +kernel) (by decide) (lw_k2 E hi hK hl hcs kk)
  by_cases h3 : k = 3
  · rw [h3]
    exact lv_tableIn (off := 263) (tgt := 295) hx hb d_law_32 (by decide +kernel) (by decide +kernel) (by decide +kernel) (by decide) (lw_k3 E hi hK hl hcs kk)
  by_cases h4 : k = 4
  · rw [h4]
    exact lv_tableIn (off := 296) (tgt := 328) hx hb d_law_32 (by decide +kernel) (by decide +kernel) (by decide +kernel) (by decide) (lw_k4 E hi hK hl hcs kk)
  by_cases h5 : k = 5
  · rw [h5]
    exact lv_tableIn (off := 329) (tgt := 361) hx hb d_law_32 (by decide +kernel) (by decide +kernel) (by decide +kernel) (by decide) (lw_k5 E hi hK hl hcs kk)
  by_cases h6 : k = 6
  · rw [h6]
    exact lv_tableIn (off := 372) (tgt := 404) hx hb d_law_32 (by decide +kernel) (by decide +kernel) (by decide +kernel) (by decide) (lw_k6 E hi hK hl hcs kk)
  by_cases h7 : k = 7
  · rw [h7]
    exact lv_tableIn (off := 415) (tgt := 447) hx hb d_law_32 (by decide +kernel) (by decide +kernel) (by decide +kernel) (by decide) (lw_k7 E hi hK hl hcs kk)
  by_cases h8 : k = 8
  · rw [h8]
    exact lv_tableIn (off := 428) (tgt := 460) hx hb d_law_32 (by decide +kernel) (by decide +kernel) (by decide +kernel) (by decide) (lw_k8 E hi hK hl hcs kk)
  by_cases h9 : k = 9
  · rw [h9]
    exact lv_tableIn (off := 461) (tgt := 493) hx hb d_law_32 (by decide +kernel) (by decide +kernel) (by decide +kernel) (by decide) (lw_k9 E hi hK hl hcs kk)
  by_cases h10 : k = 10
  · rw [h10]
    exact lv_tableIn (off := 504) (tgt := 536) hx hb d_law_32 (by decide +kernel) (by decide +kernel) (by decide +kernel) (by decide) (lw_k10 E hi hK hl hcs kk)
  by_cases h11 : k = 11
  · rw [h11]
    exact lv_tableIn (off := 537) (tgt := 569) hx hb d_law_32 (by decide +kernel) (by decide +kernel) (by decide +kernel) (by decide) (lw_k11 E hi hK hl hcs kk)
  by_cases h12 : k = 12
  · rw [h12]
    exact lv_tableIn (off := 560) (tgt := 592) hx hb d_law_32 (by decide +kernel) (by decide +kernel) (by decide +kernel) (by decide) (lw_k12 E hi hK hl hcs kk)
  by_cases h13 : k = 13
  · rw [h13]
    exact lv_tableIn (off := 583) (tgt := 615) hx hb d_law_32 (by decide +kernel) (by decide +kernel) (by decide +kernel) (by decide) (lw_k13 E hi hK hl hcs kk)
  by_cases h14 : k = 14
  · rw [h14]
    exact lv_tableIn (off := 616) (tgt := 648) hx hb d_law_32 (by decide +kernel) (by decide +kernel) (by decide +kernel) (by decide) (lw_k14 E hi hK hl hcs kk)
  by_cases h15 : k = 15
  · rw [h15]
    exact lv_tableIn (off := 629) (tgt := 661) hx hb d_law_32 (by decide +kernel) (by decide +kernel) (by decide +kernel) (by decide) (lw_k15 E hi hK hl hcs kk)
  by_cases h16 : k = 16
  · rw [h16]
    exact lv_tableIn (off := 652) (tgt := 684) hx hb d_law_32 (by decide +kernel) (by decide +kernel) (by decide +kernel) (by decide) (lw_k16 E hi hK hl hcs kk)
  by_cases h17 : k = 17
  · rw [h17]
    exact lv_tableIn (off := 675) (tgt := 707) hx hb d_law_32 (by decide +kernel) (by decide +kernel) (by decide +kernel) (by decide) (lw_k17 E hi hK hl hcs kk)
  by_cases h18 : k = 18
  · rw [h18]
    exact lv_tableIn (off := 698) (tgt := 730) hx hb d_law_32 (by decide +kernel) (by decide +kernel) (by decide +kernel) (by decide) (lw_k18 E hi hK hl hcs kk)
  by_cases h19 : k = 19
  · rw [h19]
    exact lv_tableIn (off := 711) (tgt := 743) hx hb d_law_32 (by decide +kernel) (by decide +kernel) (by decide +kernel) (by decide) (lw_k19 E hi hK hl hcs kk)
  by_cases h20 : k = 20
  · rw [h20]
    exact lv_tableIn (off := 744) (tgt := 776) hx hb d_law_32 (by decide +kernel) (by decide +kernel) (by decide +kernel) (by decide) (lw_k20 E hi hK hl hcs kk)
  by_cases h21 : k = 21
  · rw [h21]
    exact lv_tableIn (off := 777) (tgt := 809) hx hb d_law_32 (by decide +kernel) (by decide +kernel) (by decide +kernel) (by decide) (lw_k21 E hi hK hl hcs kk)
  by_cases h22 : k = 22
  · rw [h22]
    exact lv_tableIn (off := 790) (tgt := 822) hx hb d_law_32 (by decide +kernel) (by decide +kernel) (by decide +kernel) (by decide) (lw_k22 E hi hK hl hcs kk)
  by_cases h23 : k = 23
  · rw [h23]
    exact lv_tableIn (off := 823) (tgt := 855) hx hb d_law_32 (by decide +kernel) (by decide +kernel) (by decide +kernel) (by decide) (lw_k23 E hi hK hl hcs kk)
  by_cases h24 : k = 24
  · rw [h24]
    exact lv_tableIn (off := 846) (tgt := 878) hx hb d_law_32 (by decide +kernel) (by decide +kernel) (by decide +kernel) (by decide) (lw_k24 E hi hK hl hcs kk)
  by_cases h25 : k = 25
  · rw [h25]
    exact lv_tableIn (off := 879) (tgt := 911) hx hb d_law_32 (by decide +kernel) (by decide +kernel) (by decide +kernel) (by decide) (lw_k25 E hi hK hl hcs kk)
  by_cases h26 : k = 26
  · rw [h26]
    exact lv_tableIn (off := 892) (tgt := 924) hx hb d_law_32 (by decide +kernel) (by decide +kernel) (by decide +kernel) (by decide) (lw_k26 E hi hK hl hcs kk)
  by_cases h27 : k = 27
  · rw [h27]
    exact lv_tableIn (off := 915) (tgt := 947) hx hb d_law_32 (by decide +kernel) (by decide +kernel) (by decide +kernel) (by decide) (lw_k27 E hi hK hl hcs kk)
  by_cases h28 : k = 28
  · rw [h28]
    exact lv_tableIn (off := 948) (tgt := 980) hx hb d_law_32 (by decide +kernel) (by decide +kernel) (by decide +kernel) (by decide) (lw_k28 E hi hK hl hcs kk)
  by_cases h29 : k = 29
  · rw [h29]
    exact lv_tableIn (off := 971) (tgt := 1003) hx hb d_law_32 (by decide +kernel) (by decide +kernel) (by decide +kernel) (by decide) (lw_k29 E hi hK hl hcs kk)
  by_cases h30 : k = 30
  · rw [h30]
    exact lv_tableIn (off := 1005) (tgt := 1037) hx hb d_law_32 (by decide +kernel) (by decide +kernel) (by decide +kernel) (by decide) (lw_k30 E hi hK hl hcs kk)
  by_cases h31 : k = 31
  · rw [h31]
    exact lv_tableIn (off := 1028) (tgt := 1060) hx hb d_law_32 (by decide +kernel) (by decide +kernel) (by decide +kernel) (by decide) (lw_k31 E hi hK hl hcs kk)
  by_cases h32 : k = 32
  · rw [h32]
    exact lv_tableIn (off := 1051) (tgt := 1083) hx hb d_law_32 (by decide +kernel) (by decide +kernel) (by decide +kernel) (by decide) (lw_k32 E hi hK hl hcs kk)
  by_cases h33 : k = 33
  · rw [h33]
    exact lv_tableIn (off := 1064) (tgt := 1096) hx hb d_law_32 (by decide +kernel) (by decide +kernel) (by decide +kernel) (by decide) (lw_k33 E hi hK hl hcs kk)
  by_cases h34 : k = 34
  · rw [h34]
    exact lv_tableIn (off := 1077) (tgt := 1109) hx hb d_law_32 (by decide +kernel) (by decide +kernel) (by decide +kernel) (by decide) (lw_k34 E hi hK hl hcs kk)
  by_cases h35 : k = 35
  · rw [h35]
    exact lv_tableIn (off := 1090) (tgt := 1122) hx hb d_law_32 (by decide +kernel) (by decide +kernel) (by decide +kernel) (by decide) (lw_k35 E hi hK hl hcs kk)
  by_cases h36 : k = 36
  · rw [h36]
    exact lv_tableIn (off := 1113) (tgt := 1145) hx hb d_law_32 (by decide +kernel) (by decide +kernel) (by decide +kernel) (by decide) (lw_k36 E hi hK hl hcs kk)
  have h37 : 37 ≤ k := by omega
  refine lv_tableOut (tgt := 1159) hx hb d_law_32 (Or.inr ?_) (by decide) (kk H locs st hK)
  rw [nI_toInt (by omega)]
  omega
set_option maxHeartbeats 4000000 in
/-- the loop -/
theorem law_loop (E : lw_E p s m meth c b L xs D cy ad) (hcs : cells ≤ 600000 ∧ slots ≤ 7302250) : ∀ (n i : Nat), L < i + n → i ≤ L → ∀ (H : Heap) (locs : List Loc) (st : ast) (ls : Array Slot), lw_K s D cy ad H locs st → lv_has ls 4 [(3, .int (nI i)), (2, .ref (ad 71)), (1, .ref (ad 0)), (0, .ref b)] → W p l e room_1 s m #[Value.ref b] below meth c H locs cells slots (lw_Z below #[Value.ref b] s) (F0 m 18 ls [])
  | 0, i, h1, h2, H, locs, st, ls, hK, hl => absurd h1 (by omega)
  | n + 1, i, h1, h2, H, locs, st, ls, hK, hl => by
    have ih := law_loop E hcs n
    obtain ⟨hx, hb, hr, hml, hown, hts, hX, hbl, hlocks, hgv⟩ := E.1
    have hL := E.2.1
    have hS := hK.2.1
    have hbA : ¬ (fun q : Nat => s.heap.size ≤ q) b := Nat.not_le.mpr hbl
    refine lv_iload_n hx hb d_law_18 rfl (lv_at hl 0 rfl) ?_
    refine lv_aload_n hx hb d_law_19 rfl (lv_at hl 3 rfl) ?_
    refine va_slen hx hb hX hbl hbA hS d_law_20 ?_
    refine lv_iconst (v := 5) hx hb d_law_21 (by decide +kernel) ?_
    refine lv_isub hx hb d_law_22 ?_
    refine lv_icmp_gt (tgt := 1165) hx hb d_law_23 (by decide) (fun _ => ?_) (fun c9 => ?_)
    · refine lv_iconst (v := 1) hx hb d_law_1165 (by decide +kernel) ?_
      refine va_forget (fun q hq => hS.2.2 q hq) ?_
      refine W.widen (k := 600000) (n := 7302250) hcs.1 hcs.2 ?_
      exact lw_ret hx hb hr hlocks d_law_1166
    · have hi : i + 5 ≤ L := by
        rcases Nat.lt_or_ge L (i + 5) with q | q
        · exact absurd ((lw_end hL h2).mpr q) c9
        · exact q
      refine lv_aload_n hx hb d_law_26 rfl (lv_at hl 3 rfl) ?_
      refine lv_iload_n hx hb d_law_27 rfl (lv_at hl 0 rfl) ?_
      refine va_sld hx hb hX hbl hbA hS (vp_in_nI (by omega) (by omega)) d_law_28 ?_
      refine lv_bipush (v := 63) hx hb d_law_29 (by decide +kernel) ?_
      refine lv_iand hx hb d_law_31 ?_
      obtain ⟨k, hk, ek⟩ := lw_and (xs (nI i).toNatClampNeg)
      rw [ek]
      refine law_switch E hcs hk hi hK hl (fun H1 locs1 st1 hK1 => ?_)
      refine lv_iinc (v := nI (i + 5)) (lv' := [(3, .int (nI (i + 5))), (2, .ref (ad 71)), (1, .ref (ad 0)), (0, .ref b)]) hx hb d_law_1159 hl (k := 0) rfl (by rw [show Int32.ofInt 5 = nI 5 from by decide +kernel]; exact nI_add i 5) (by decide) rfl (fun ls hl => ?_)
      refine lv_goto (tgt := 18) hx hb d_law_1162 (by decide) ?_
      exact ih (i + 5) (by omega) hi H1 locs1 st1 ls hK1 hl
end LOOP
theorem lw_known {s : State} {b : Nat} (hts : ∀ w ∈ lw_tbl, w.before #[Value.ref b] s = true) : ∃ (D : va_G) (cy : kv_Y), kx_U D cy s := by
  have htg : ∀ w ∈ kw_gd, w.before #[Value.ref b] s = true := fun w hw => hts w (List.mem_filter.mp hw).1
  have hins : ∀ x, x < 7 → Cond.instantiable (kn_at x).1 (kn_at x).2.2 ∈ lw_tbl := fun x hx => by
    rcases (show x = 0 ∨ x = 1 ∨ x = 2 ∨ x = 3 ∨ x = 4 ∨ x = 5 ∨ x = 6 by omega) with rfl | rfl | rfl | rfl | rfl | rfl | rfl
    · exact kt_1 (List.mem_of_getElem? (i := 124) rfl)
    · exact kt_1 (List.mem_of_getElem? (i := 183) rfl)
    · exact kt_1 (List.mem_of_getElem? (i := 92) rfl)
    · exact kt_1 (List.mem_of_getElem? (i := 156) rfl)
    · exact kt_1 (List.mem_of_getElem? (i := 22) rfl)
    · exact kt_1 (List.mem_of_getElem? (i := 14) rfl)
    · exact kt_4 (List.mem_of_getElem? (i := 93) rfl)
  have hKn : ∀ x, x < 7 → ∃ (cC : ClassId) (iS : Nat → Nat), u_Kn s (kn_at x).1 (kn_at x).2.1 (kn_at x).2.2 cC iS := fun x hx => u_known htg (kn_at_gd x hx) (hts _ (hins x hx))
  obtain ⟨c0, i0, -⟩ := hKn 0 (by decide)
  have hC : ∀ x, ∃ q : ClassId × (Nat → Nat), x < 7 → u_Kn s (kn_at x).1 (kn_at x).2.1 (kn_at x).2.2 q.1 q.2 := fun x => by
    by_cases h : x < 7
    · obtain ⟨cC, iS, hh⟩ := hKn x h
      exact ⟨(cC, iS), fun _ => hh⟩
    · exact ⟨(c0, i0), fun g => absurd g h⟩
  obtain ⟨f, hf⟩ := Classical.axiomOfChoice hC
  obtain ⟨cI, kI, dI, eI, fI, gI⟩ := Cond.arrayClass_spec (hts (.arrayClass .int) (kt_1 (List.mem_of_getElem? (i := 89) rfl)))
  obtain ⟨cJ, kJ, dJ, eJ, fJ, gJ⟩ := Cond.arrayClass_spec (hts (.arrayClass .long) (kt_1 (List.mem_of_getElem? (i := 88) rfl)))
  obtain ⟨cZ, kZ9, dZ, eZ, fZ, gZ⟩ := Cond.arrayClass_spec (hts (.arrayClass .boolean) (kt_4 (List.mem_of_getElem? (i := 189) rfl)))
  obtain ⟨aS, cS9, kS9, bS, -, fS, gS9, nS⟩ := Cond.arrayOver_spec (hts (.arrayOver (.object RX5)) (kt_1 (List.mem_of_getElem? (i := 90) rfl)))
  obtain ⟨aG, cG, kG9, bG, -, fG, gG, nG⟩ := arrayOverA_spec (hts (.arrayOver (.array .long)) (kt_1 (List.mem_of_getElem? (i := 130) rfl)))
  refine ⟨(fun x => (f x).1, fun x => (f x).2), (cI, cJ, cZ, cS9, cG), ⟨fun k q hq => ?_, fun k q hq => ?_⟩, hts (.arrayOver (.array .long)) (kt_1 (List.mem_of_getElem? (i := 130) rfl)), fun oc k x hm => va_Nw.of rfl (hts _ (kw_m_ok _ hm))⟩
  · have hk : k < 7 := (List.getElem?_eq_some_iff.mp hq).1
    rw [kn_at_ok k hk] at hq
    cases hq
    exact hf k hk
  · have hk : k < 5 := (List.getElem?_eq_some_iff.mp hq).1
    rcases (show k = 0 ∨ k = 1 ∨ k = 2 ∨ k = 3 ∨ k = 4 by omega) with rfl | rfl | rfl | rfl | rfl
    · cases hq
      exact ⟨fun n z => ⟨(fun k h => by cases h), kI, fI, dI, gI⟩, eI⟩
    · cases hq
      exact ⟨fun n z => ⟨(fun k h => by cases h), kJ, fJ, dJ, gJ⟩, eJ⟩
    · cases hq
      exact ⟨fun n z => ⟨(fun k h => by cases h), kZ9, fZ, dZ, gZ⟩, eZ⟩
    · cases hq
      exact ⟨fun n z => ⟨(fun k h => by cases h), kS9, fS, aS, gS9⟩, kS9, aS, fS, gS9, bS, nS⟩
    · cases hq
      exact ⟨fun n z => ⟨(fun k h => by cases h), kG9, fG, aG, gG⟩, nG⟩
theorem lw_kz {s : State} {b : Nat} (hts : ∀ w ∈ lw_tbl, w.before #[Value.ref b] s = true) : kz_U s := ⟨va_AO.of (hts (.arrayOver (.object RX5)) (kt_1 (List.mem_of_getElem? (i := 90) rfl))), va_Nw.of rfl (hts _ (kt_1 (List.mem_of_getElem? (i := 23) rfl))), va_Nw.of rfl (hts _ (kt_1 (List.mem_of_getElem? (i := 93) rfl))), va_Nw.of rfl (hts _ (kt_1 (List.mem_of_getElem? (i := 125) rfl))), va_Nw.of rfl (hts _ (kt_1 (List.mem_of_getElem? (i := 157) rfl))), va_Nw.of rfl (hts _ (kt_1 (List.mem_of_getElem? (i := 184) rfl)))⟩
set_option maxHeartbeats 4000000 in
set_option maxRecDepth 100000 in
/-- THE LAW, from its entry -/
theorem whole_start {p : Program} {e : Env} {s : State} {m : MethodId} {below : List Frame} {meth : Method} {c : Code} (l : Launch) (hflags : l.flags = flags0) {b L : Nat} {xs : Nat → Int32} (hL : L ≤ 2560) (C0 : lw_At p s m meth c b L xs) : W p l e room_1 s m #[Value.ref b] below meth c s.heap [] 0 0 (lw_Z below #[Value.ref b] s) (entryFrame m ([Value.ref b] : List Value).toArray 4) := by
  obtain ⟨hx, hb, hr, hml, hown, hts, hX, hbl, hlocks, hgv⟩ := id C0
  have htg : ∀ w ∈ kw_gd, w.before #[Value.ref b] s = true := fun w hw => hts w (List.mem_filter.mp hw).1
  have hA : ∀ q : Nat, s.heap.size ≤ q → (fun q : Nat => s.heap.size ≤ q) q := fun _ h => h
  obtain ⟨D, cy, hU⟩ := lw_known hts
  have hz5 := lw_kz hts
  have hS : va_S (fun q : Nat => s.heap.size ≤ q) s.heap s.heap [] := va_S.rf
  have hP : va_P D vwCl [] s.heap := fun k q h => by simp at h
  have hD : va_D (fun q : Nat => s.heap.size ≤ q) [] := ⟨fun i j p q h => by simp at h, fun k q h => by simp at h⟩
  have hl := lv_entry ([.ref b]) (n := 4) (Nat.le_of_ble_eq_true rfl)
  rw [lg_entry_eq]
  generalize (lg_sl ([.ref b]) ++ List.replicate (4 - (lg_sl ([.ref b])).length) Slot.unset).toArray = ls at hl ⊢
  have hl : lv_has ls 4 [(0, .ref b)] := hl
  refine va_new (ci := 5) (fs := [.null, .null, .null, .int 0, .null, .int 0, .null, .null, .null, .int 0, .null, .null, .int 0, .int 0, .int 0]) (C := (kn_at 5).1) (T := (kn_at 5).2.1) (N := (kn_at 5).2.2) hx hb htg (kn_at_gd 5 (by decide)) (kv_ty 5) (kn_at_ty 5 (by decide)) hown (hts (.classLink R_law 7 (kn_at 5).1) (kt_1 (List.mem_of_getElem? (i := 13) rfl))) (hts (.instantiable (kn_at 5).1 (kn_at 5).2.2) (kt_1 (List.mem_of_getElem? (i := 14) rfl))) (hts (.initialized (kn_at 5).1) (kt_1 (List.mem_of_getElem? (i := 1) rfl))) hU.1 hP hD hS hA (kn_at_ok 5 (by decide)) df6 (Nat.le_of_ble_eq_true rfl) (Nat.le_of_ble_eq_true rfl) d_law_0 (fun x0 H hP hD hS => ?_)
  have hP : va_P D vwCl [(x0, .inr (5, [.null, .null, .null, .int 0, .null, .int 0, .null, .null, .null, .int 0, .null, .null, .int 0, .int 0, .int 0]))] H := hP
  have hD : va_D (fun q : Nat => s.heap.size ≤ q) [(x0, .inr (5, [.null, .null, .null, .int 0, .null, .int 0, .null, .null, .null, .int 0, .null, .null, .int 0, .int 0, .int 0]))] := hD
  refine W.widen (k := 1) (n := 15) (Nat.le_of_ble_eq_true rfl) (Nat.le_of_ble_eq_true rfl) ?_
  refine lv_dup hx hb d_law_3 rfl ?_
  refine va_callv (va_runI (As := []) (rest := [.ref x0]) ⟨hx, hb, hml, hown, htg⟩ (cPn l D cy s.heap.size x0) (cwI 0 htg (gdI (kw_g (kt_1 (List.mem_of_getElem? (i := 17) rfl)) rfl)) rfl rfl rfl (hts (.initialized yX6_init.cls) (kt_1 (List.mem_of_getElem? (i := 1) rfl))) (hts (.methodLink R_law 9 yX6_init) (kt_1 (List.mem_of_getElem? (i := 15) rfl))) (hts (.instanceMethod yX6_init) (kt_1 (List.mem_of_getElem? (i := 16) rfl))) rfl (by decide +kernel) ⟨Nat.le_of_ble_eq_true rfl, Nat.le_of_ble_eq_true rfl⟩) ⟨fun a U g mk q => by obtain ⟨q0, q1, q2, q3, q4, q5⟩ := q; exact ⟨q0, q1, q2, q3, q4.calling g mk a, q5.calling g mk a⟩, fun U hU9 hW => ⟨rfl, by rw [hU9]; exact hP, hD, by rw [hU9]; exact hS.1, hU.warm hW, hz5.warm hW⟩⟩ rfl rfl hl.1 rfl (lv_room (Nat.le_of_ble_eq_true rfl)) d_law_4 ⟨Nat.le_of_ble_eq_true rfl, Nat.le_of_ble_eq_true rfl⟩) hS (fun q _ h => h) (fun q h => h) (fun u t H1 locs ht hvm hw hB hz1 hk1 hS => ?_)
  obtain ⟨v1, v2, v3, v4, v5, v6, v7, v8, v9, v10, v11, v12, kq9, ro, rfl⟩ := hw
  obtain ⟨hP1, hD1⟩ := hB
  rw [ht] at hP1
  have hP : va_P D vwCl (ws1 cy v1 v2 v3 v4 v5 v6 v7 v8 v9 v10 v11 v12 x0 kq9 ro) H1 := hP1
  have hD : va_D (fun q : Nat => s.heap.size ≤ q) (ws1 cy v1 v2 v3 v4 v5 v6 v7 v8 v9 v10 v11 v12 x0 kq9 ro) := hD1
  refine W.widen (k := 199) (n := 8046) (Nat.le_of_ble_eq_true rfl) (Nat.le_of_ble_eq_true rfl) ?_
  refine lv_astore_n (lv' := [(1, .ref x0), (0, .ref b)]) hx hb d_law_7 rfl hl (by decide) rfl (fun ls hl => ?_)
  refine va_new (ci := 6) (fs := [.null, .null, .int 0, .int 0, .int 0, .int 0, .int 0, .long 0, .int 0, .null, .null, .null, .null, .null, .null, .null, .int 0, .null, .null, .null, .null, .null, .int 0, .null, .null, .int 0, .null, .int 0, .int 0, .null]) (C := (kn_at 6).1) (T := (kn_at 6).2.1) (N := (kn_at 6).2.2) hx hb htg (kn_at_gd 6 (by decide)) (kv_ty 6) (kn_at_ty 6 (by decide)) hown (hts (.classLink R_law 10 (kn_at 6).1) (kt_4 (List.mem_of_getElem? (i := 92) rfl))) (hts (.instantiable (kn_at 6).1 (kn_at 6).2.2) (kt_4 (List.mem_of_getElem? (i := 93) rfl))) (hts (.initialized (kn_at 6).1) (kt_1 (List.mem_of_getElem? (i := 7) rfl))) hU.1 hP hD hS hA (kn_at_ok 6 (by decide)) df7 (Nat.le_of_ble_eq_true rfl) (Nat.le_of_ble_eq_true rfl) d_law_8 (fun m0 H2 hP hD hS => ?_)
  refine W.widen (k := 200) (n := 8076) (Nat.le_of_ble_eq_true rfl) (Nat.le_of_ble_eq_true rfl) ?_
  refine lv_dup hx hb d_law_11 rfl ?_
  refine va_callv (va_runI (As := []) (rest := [.ref m0]) ⟨hx, hb, hml, hown, htg⟩ (cMd l D cy s.heap.size _ _ m0 bw1) (cwI 0 htg (gdI (kw_g (kt_4 (List.mem_of_getElem? (i := 96) rfl)) rfl)) rfl rfl rfl (hts (.initialized yX7_init.cls) (kt_1 (List.mem_of_getElem? (i := 7) rfl))) (hts (.methodLink R_law 12 yX7_init) (kt_4 (List.mem_of_getElem? (i := 94) rfl))) (hts (.instanceMethod yX7_init) (kt_4 (List.mem_of_getElem? (i := 95) rfl))) rfl (by decide +kernel) ⟨Nat.le_of_ble_eq_true rfl, Nat.le_of_ble_eq_true rfl⟩) (bz_pre hP hD hS.1 hU) rfl rfl hl.1 rfl (lv_room (Nat.le_of_ble_eq_true rfl)) d_law_12 ⟨Nat.le_of_ble_eq_true rfl, Nat.le_of_ble_eq_true rfl⟩) hS (fun q _ h => h) (fun q h => h) (fun u t H3 locs3 ht hvm hw hB hz1 hk1 hS => ?_)
  obtain ⟨v13, hv0, ev⟩ := ptMd_v hw
  subst ev
  obtain ⟨hP1, hD1⟩ := hB
  rw [ht, bw2] at hP1
  rw [bw2] at hD1
  have hP : va_P D vwCl (wsT cy v1 v2 v3 v4 v5 v6 v7 v8 v9 v10 v11 v12 v13 x0 kq9 ro) H3 := hP1
  have hD : va_D (fun q : Nat => s.heap.size ≤ q) (wsT cy v1 v2 v3 v4 v5 v6 v7 v8 v9 v10 v11 v12 v13 x0 kq9 ro) := hD1
  rw [← hv0]
  refine W.widen (k := 218) (n := 16290) (Nat.le_of_ble_eq_true rfl) (Nat.le_of_ble_eq_true rfl) ?_
  refine lv_astore_n (lv' := [(2, .ref (v13 0)), (1, .ref x0), (0, .ref b)]) hx hb d_law_15 rfl hl (by decide) rfl (fun ls hl => ?_)
  refine lv_iconst (v := nI 0) hx hb d_law_16 (by decide +kernel) ?_
  refine lv_istore_n (lv' := [(3, .int (nI 0)), (2, .ref (v13 0)), (1, .ref x0), (0, .ref b)]) hx hb d_law_17 rfl hl (by decide) rfl (fun ls hl => ?_)
  exact law_loop (D := D) (cy := cy) (ad := ad0 v1 v2 v3 v4 v5 v6 v7 v8 v9 v10 v11 v12 v13 x0 kq9 ro) ⟨C0, hL, hU, st_inj hD, st_A hD⟩ ⟨Nat.le_of_ble_eq_true rfl, Nat.le_of_ble_eq_true rfl⟩ (L + 1) 0 (by omega) (Nat.zero_le L) H3 locs3 s00 ls ⟨sw00, hS, i00, l00, q00, false, r10, r20, cI00, mI00, st_P hP⟩ hl
set_option maxHeartbeats 4000000 in
theorem lw_walk (l : Launch) (hflags : l.flags = flags0) (b : Addr) (xs : List Int32) : MetFree l x (headSpec (Jvm.Cond.code x code maxLocals ret :: tables_1) room_1) (lw_P b xs) (fun _ _ _ _ _ => True) lw_Q := by
  refine MetFree.of_bodyS (code := code) (maxLocals := maxLocals) (ret := ret) (by decide) ?_ ?_
  · intro args s m h hn
    obtain ⟨meth, c, h1, h2, h3, h4, h5, h6, -, -⟩ := Cond.code_spec hn (atoms_spec (ws := Jvm.Cond.code x code maxLocals ret :: tables_1) h _ List.mem_cons_self)
    exact ⟨meth, c, h1, h2, h3, h4, h5, h6⟩
  · intro p e s m args below meth c s₁ B hml0 hP _
    obtain ⟨rfl, hx, hbd, hgv⟩ := hP
    obtain ⟨scr, harrAt, hlist, hof, hsmall⟩ := hx
    obtain ⟨hcb, hkn, -, -⟩ := State.arrayAt?_spec harrAt
    have hown : s.vm.findClass R_law = some m.cls := findClass_of_methodNamed B.named
    have hts0 : ∀ c ∈ (Jvm.Cond.code x code maxLocals ret :: tables_1), c.before #[Value.ref b] s = true := atoms_spec (ws := Jvm.Cond.code x code maxLocals ret :: tables_1) B.pre
    have hts : ∀ w ∈ lw_tbl, w.before #[Value.ref b] s = true := k2_hts_sels lw_privs (fun w hw => hts0 w (List.mem_cons_of_mem _ hw)) lw_privs_ok
    have hml : c.maxLocals = 4 := B.maxLocals_eq (hts0 _ List.mem_cons_self)
    have X₀ : Stand p l e room_1 s m #[Value.ref b] below meth c s₁ [] 0 0 := Stand.of_body B
    have hh0 : s₁.heap = s.heap := by rw [B.state]; rfl
    have hsz : scr.slots.size = xs.length := by rw [← Array.length_toList, hlist, List.length_map]
    have hval : ∀ j : Nat, j < xs.length → scr.slots[j]? = some (.int (xs.getD j 0)) := fun j hj => by
      rw [← Array.getElem?_toList, hlist]
      simp [hj]
    have hbl : b < s.heap.size := (Array.getElem?_eq_some_iff.mp hcb).1
    have hX : va_X b xs.length (fun j => xs.getD j 0) s s.heap := ⟨scr, hcb, hof, hkn, hsz, hval⟩
    have K : W p l e room_1 s m #[Value.ref b] below meth c s₁.heap [] 0 0 (lw_Z below #[Value.ref b] s) (entryFrame m ([Value.ref b] : List Value).toArray 4) := by
      rw [hh0]
      exact whole_start l hflags hbd ⟨B.exec, B.bytes, B.returns, hml, hown, hts, hX, hbl, B.notSynchronized, hgv⟩
    obtain ⟨t, a1, o, b1, b2, b3⟩ := K s₁ rfl X₀
    exact ⟨t, o, a1, b1, b2, b3⟩
theorem lw_pre_spec {args : Array Value} {s : State} (h : (Jvm.Cond.and given_1 narrow_1).before args s = true) (hr : rest_1_c.before args s = true) : ∃ (b : Addr) (xs : List Int32), lw_P b xs args s := by
  have hs := flat_of_before _ h
  have hq := flat_of_before _ hr
  have hc : (Cond.count 1).before args s = true := hs _ (by decide +kernel)
  have harr : (Cond.arrayOf (.arg 0) .int).before args s = true := hs _ (by decide +kernel)
  have hle : (Cond.le (.length (.arg 0)) (.int 2560)).before args s = true := hs _ (by decide +kernel)
  have hlen : (Cond.isInt (.length (.arg 0))).before args s = true := hq _ (by decide +kernel)
  have hall : (Cond.all (.arg 0) (.isInt (.elem (.arg 0) (.index 0)))).before args s = true := hq _ (by decide +kernel)
  obtain ⟨b, xs, hb, hx⟩ := State.ints_of_pre rfl harr hlen hall
  have hsm : xs.length < 2 ^ 31 := hx.choose_spec.2.2.2
  have hev : (Term.length (.arg 0)).eval args s none [] s = some (.int xs.length.toInt32) := hx.length_eval hb
  have hv := Cond.le_ints hev (show (Term.int 2560).eval args s none [] s = some (.int 2560) from rfl)
  have hd : xs.length.toInt32 ≤ 2560 := by
    simpa [Cond.before, Cond.holds, hv] using hle
  have hN : xs.length ≤ 2560 := (Int32.ofNat_le_ofNat hsm (by decide)).mp (show Int32.ofNat xs.length ≤ Int32.ofNat 2560 from hd)
  exact ⟨b, xs, Cond.one_arg hc (show args[0]? = some (.ref b) from hb), hx, hN, h⟩
theorem lw_comes (l : Launch) (hflags : l.flags = flags0) : Comes l x (Jvm.Cond.code x code maxLocals ret :: tables_1) room_1 (fun tb e args s => Calls_1 tb e args s ∧ rest_1 tb e args s ∧ Pre_1 tb e args s)
    (fun _ _ args s o t => lw_Q args s o t) := by
  intro p e ha hc hk s m args below hf hfit hheap happ hpre
  obtain ⟨b, xs, hP⟩ := lw_pre_spec hpre.2.2 hpre.2.1
  obtain ⟨k, o, h1, h2, h3, hQ⟩ := lw_walk l hflags b xs p e ha hc hk s m args below hf ((Spec.applies_iff_loose hf).mp happ).1 hP trivial
  exact ⟨k, o, h1, h2, h3, hQ⟩
theorem lw_frame {s t : State} {o : Outcome} {args : Array Value} (h : Framed s o t [] 600000 7302250) :
    Framed s o t (fieldLocs frame_1_writes args s ++ arrayLocs frame_1_arrays args s ++ staticLocs frame_1_statics s) 600000 7302250 := h
theorem lw_limb (L : Cond) (hL : ∀ (args : Array Value) (s t : State), L.after args s (.returned (some (.int 1))) t = true) :
    ArmFor flags0 classFile x code maxLocals ret World_1 tables_1 room_1 Calls_1 rest_1 Pre_1
      (fun tb e a s o t => postC L tb e a s o t ∧ Framed s o t (fieldLocs frame_1_writes a s ++ arrayLocs frame_1_arrays a s ++ staticLocs frame_1_statics s) 600000 7302250) := by
  intro l hflags _ _ p e ha hc hk s m args below hf hfit hheap happ hpre
  obtain ⟨k, o, h1, h2, h3, rfl, hF⟩ := lw_comes l hflags p e ha hc hk s m args below hf hfit hheap happ hpre
  exact ⟨k, _, h1, h2, h3, hL args s _, lw_frame hF⟩
theorem i_vc : Claimed_1_1 ∧ Claimed_1_2 := ⟨lw_limb limb_1_1 (fun args s t => by simp [limb_1_1, Cond.after, Cond.holds, Cond.value]), lw_limb limb_1_2 (fun args s t => Cond.after_iff.mpr (by
  first | (rw [show limb_1_2 = Cond.eq .result (.int 1) from rfl, Cond.eq_ints (x := 1) (y := 1) rfl rfl]; simp; done) | (simp [limb_1_2, Cond.value, Term.eval]; done)))⟩
