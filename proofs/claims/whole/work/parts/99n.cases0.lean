/-! cases of the law's switch -/
section CASES0
variable {p : Program} {l : Launch} {e : Env} {s : State} {m : MethodId} {below : List Frame} {meth : Method} {c : Code} {H : Heap} {locs : List Loc} {cells slots : Nat} {Q : State → Prop} {ls : Array Slot}
variable {b L : Nat} {xs : Nat → Int32} {G : GG} {F i k : Nat}
set_option maxHeartbeats 4000000 in
theorem case_4 (hF : 5041 ≤ F) (C : LWc p l s m c b L xs G) (hL : L ≤ 3072) (hi : i + 6 ≤ L) (hk : k < 512) (h : LWs G s b i k H locs cells slots ls) (back : ∀ (H : Heap) (locs : List Loc) (cells slots : Nat) (ls : Array Slot), LWs G s b i (k + 1) H locs cells slots ls → W p l e room_1 s m #[Value.ref b] below meth c H locs cells slots Q (F0 m 1480 ls [])) : W p l e room_1 s m #[Value.ref b] below meth c H locs cells slots Q (F0 m 328 ls []) := by
  obtain ⟨hx, hb, hml, hown, hT, hX, hbl, hG, hK, hTx, hst⟩ := C
  obtain ⟨sk, f, n, z, mm, st, ee, LI0, hW, hS, hcc, hss, hsk, hl⟩ := h
  have hbA : ¬ WA G b := fun h => by have h1 : G.1 ≤ b := h; omega
  have CF : CallFix p m c cL_law 8 s #[Value.ref b] TB RL := ⟨hx, hb, hml, hown, hT⟩
  refine s_aload_n hx hb dL_law_328 rfl (lv_at hl 1 rfl) ?_
  refine lv_aload_n hx hb dL_law_329 rfl (lv_at hl 0 rfl) ?_
  refine lv_iload hx hb dL_law_330 (lv_at hl 4 rfl) ?_
  refine lv_iconst (v := (1 : Int32)) hx hb dL_law_332 (by decide) ?_
  refine lv_iadd hx hb dL_law_333 ?_
  refine va_sld hx hb hX hbl hbA hS (s_in (k := 1) hi hL (by decide)) dL_law_334 ?_
  refine lv_aload_n hx hb dL_law_335 rfl (lv_at hl 0 rfl) ?_
  refine lv_iload hx hb dL_law_336 (lv_at hl 4 rfl) ?_
  refine lv_iconst (v := (2 : Int32)) hx hb dL_law_338 (by decide) ?_
  refine lv_iadd hx hb dL_law_339 ?_
  refine va_sld hx hb hX hbl hbA hS (s_in (k := 2) hi hL (by decide)) dL_law_340 ?_
  refine s_aload_n hx hb dL_law_341 rfl (lv_at hl 3 rfl) ?_
  obtain ⟨o, f2, e1, cO, hf0, hf1, cM, v, st', e2, cT, L1, et, ev⟩ := stp_line (F := F) (by omega) (xs (nI i + (1 : Int32)).toNatClampNeg) (xs (nI i + (2 : Int32)).toNatClampNeg) LI0
  obtain ⟨n', en⟩ : ∃ j, j = n := ⟨_, rfl⟩
  obtain ⟨z', ez⟩ : ∃ j, j = z := ⟨_, rfl⟩
  have rm0 := LI.room1 LI0 hcc hss (by omega)
  have rm : cells + 1 ≤ 601024 ∧ slots + 6 ≤ 7293034 := rm0
  have hp := s_preX (G := G) hK hTx hW hS [rr G (some 100), .int (xs (nI i + (1 : Int32)).toNatClampNeg), .int (xs (nI i + (2 : Int32)).toNatClampNeg), rr G (some 203)]
  refine va_calli (A0 := WA G) (vx_runSW (As := [rr G (some 100), .int (xs (nI i + (1 : Int32)).toNatClampNeg), .int (xs (nI i + (2 : Int32)).toNatClampNeg), rr G (some 203)]) (rest := []) CF (S_L_line l hst G F e1 cO hf0 hf1) (vx_cwSW 4 hT gw_L_42 rfl rfl rfl hd_L_line.2 ⟨Nat.le_of_ble_eq_true rfl, Nat.le_of_ble_eq_true rfl⟩) hp rfl rfl hl.1 rfl (s_room (rest := []) (Nat.le_of_ble_eq_true rfl)) dL_law_342 ⟨rm0.1, rm0.2⟩) hS (fun _ _ h => h) (fun _ h => h) (fun r kx t H1 locs1 ht hvm hpost hB hz1 hk1 hS => ?_)
  obtain ⟨hr, hkx⟩ := hpost
  rw [ht] at hB
  have hW := hB
  refine W.size (fun hsz => ?_)
  have hcx : kx ≤ n + ee + 1 := by have h3 := hW.2.2.1; have h4 := hW.2.2.2; omega
  have L2 := LI.thrs L1 (kx - n)
  obtain ⟨sk2, esk⟩ : ∃ j, j = sk + (kx - n) := ⟨_, rfl⟩
  obtain ⟨ee2, eee⟩ : ∃ j, j = ee + 1 - (kx - n) := ⟨_, rfl⟩
  obtain ⟨n2, en2⟩ : ∃ j, j = n + (kx - n) := ⟨_, rfl⟩
  obtain ⟨z2, ez2⟩ : ∃ j, j = z + 6 * (kx - n) := ⟨_, rfl⟩
  rw [← esk, ← en2, ← ez2] at L2
  have ekx : kx = n2 := by omega
  rw [ekx] at hW
  have hc2 : cells + 1 + 100 = n2 + ee2 := by omega
  have hs2 : slots + 6 = z2 + 6 * ee2 := by omega
  have hk2 : sk2 + ee2 ≤ k + 1 := by omega
  obtain ⟨m2, em2⟩ : ∃ j, j = mm := ⟨_, rfl⟩
  rw [← em2] at L2
  refine lv_istore (lv' := (5, .int r) :: [(0, .ref b), (1, rr G (some 100)), (2, rr G (some 179)), (3, rr G (some 203)), (4, .int (nI i))]) hx hb dL_law_345 hl (by decide) rfl (fun ls hl => ?_)
  refine s_aload_n hx hb dL_law_347 rfl (lv_at hl 3 rfl) ?_
  refine lv_aload_n hx hb dL_law_348 rfl (lv_at hl 1 rfl) ?_
  refine lv_iload hx hb dL_law_349 (lv_at hl 5 rfl) ?_
  refine lv_iconst (v := (1 : Int32)) hx hb dL_law_351 (by decide) ?_
  refine lv_iadd hx hb dL_law_352 ?_
  refine va_sld hx hb hX hbl hbA hS (s_in (k := 1) hi hL (by decide)) dL_law_353 ?_
  refine lv_aload_n hx hb dL_law_354 rfl (lv_at hl 1 rfl) ?_
  refine lv_iload hx hb dL_law_355 (lv_at hl 5 rfl) ?_
  refine lv_iconst (v := (2 : Int32)) hx hb dL_law_357 (by decide) ?_
  refine lv_iadd hx hb dL_law_358 ?_
  refine va_sld hx hb hX hbl hbA hS (s_in (k := 2) hi hL (by decide)) dL_law_359 ?_
  refine s_callV (As := [.int (xs (nI i + (1 : Int32)).toNatClampNeg), .int (xs (nI i + (2 : Int32)).toNatClampNeg)]) (rest := []) CF hK hW hS (S_X12_line l G F e2) cM rfl gv_L_47 hd_X12_line ⟨Nat.le_of_ble_eq_true rfl, Nat.le_of_ble_eq_true rfl⟩ rfl hl.1 rfl (Nat.le_of_ble_eq_true rfl) dL_law_360 ⟨rm.1, rm.2⟩ (fun H locs hW hS => ?_)
  refine lv_istore (lv' := (6, .int v) :: (5, .int r) :: [(0, .ref b), (1, rr G (some 100)), (2, rr G (some 179)), (3, rr G (some 203)), (4, .int (nI i))]) hx hb dL_law_363 hl (by decide) rfl (fun ls hl => ?_)
  refine s_aload_n hx hb dL_law_365 rfl (lv_at hl 4 rfl) ?_
  refine s_callV (As := []) (rest := []) CF hK hW hS (S_X12_thrown l G F et) cT rfl gv_L_48 hd_X12_thrown ⟨Nat.le_of_ble_eq_true rfl, Nat.le_of_ble_eq_true rfl⟩ rfl hl.1 rfl (Nat.le_of_ble_eq_true rfl) dL_law_366 ⟨rm.1, rm.2⟩ (fun H locs hW hS => ?_)
  refine lv_iload hx hb dL_law_369 (lv_at hl 1 rfl) ?_
  refine lv_icmp_eq (tgt := 376) hx hb dL_law_371 (by decide) (fun _ => ?_) (fun q => (q hr.symm).elim)
  refine lv_iload hx hb dL_law_376 (lv_at hl 1 rfl) ?_
  refine lv_if_ne (tgt := 393) hx hb dL_law_378 (by decide) (fun q => ?_) (fun q => ?_)
  · refine lv_goto (tgt := 1480) hx hb dL_law_393 (by decide) ?_
    exact back _ _ _ _ _ ⟨sk2, _, n2, z2, m2, st', ee2, L2, hW, hS, hc2, hs2, hk2, lv_sub hl [2, 3, 4, 5, 6] rfl⟩
  obtain ⟨y, hy⟩ := thI_0 (hr.symm.trans q)
  obtain ⟨hv, hld⟩ := ev y hy
  refine s_aload_n hx hb dL_law_381 rfl (lv_at hl 5 rfl) ?_
  refine lv_iconst (v := (0 : Int32)) hx hb dL_law_382 (by decide) ?_
  refine s_ldJ hx hb hK hW hS hld dL_law_383 ?_
  refine lv_iload hx hb dL_law_384 (lv_at hl 0 rfl) ?_
  refine lv_i2l (v := v.toInt64) hx hb dL_law_386 rfl ?_
  refine W.lcmp hx hb dL_law_387 ?_
  refine lv_if_eq (tgt := 393) hx hb dL_law_388 (by decide) (fun _ => ?_) (fun q => (q ((lg_cmp_eq _ _).mpr (by rw [hv]))).elim)
  refine lv_goto (tgt := 1480) hx hb dL_law_393 (by decide) ?_
  exact back _ _ _ _ _ ⟨sk2, _, n2, z2, m2, st', ee2, L2, hW, hS, hc2, hs2, hk2, lv_sub hl [2, 3, 4, 5, 6] rfl⟩
set_option maxHeartbeats 4000000 in
theorem case_23 (hF : 5041 ≤ F) (C : LWc p l s m c b L xs G) (hL : L ≤ 3072) (hi : i + 6 ≤ L) (hk : k < 512) (h : LWs G s b i k H locs cells slots ls) (back : ∀ (H : Heap) (locs : List Loc) (cells slots : Nat) (ls : Array Slot), LWs G s b i (k + 1) H locs cells slots ls → W p l e room_1 s m #[Value.ref b] below meth c H locs cells slots Q (F0 m 1480 ls [])) : W p l e room_1 s m #[Value.ref b] below meth c H locs cells slots Q (F0 m 1028 ls []) := by
  obtain ⟨hx, hb, hml, hown, hT, hX, hbl, hG, hK, hTx, hst⟩ := C
  obtain ⟨sk, f, n, z, mm, st, ee, LI0, hW, hS, hcc, hss, hsk, hl⟩ := h
  have hbA : ¬ WA G b := fun h => by have h1 : G.1 ≤ b := h; omega
  have CF : CallFix p m c cL_law 8 s #[Value.ref b] TB RL := ⟨hx, hb, hml, hown, hT⟩
  refine s_aload_n hx hb dL_law_1028 rfl (lv_at hl 1 rfl) ?_
  refine lv_aload_n hx hb dL_law_1029 rfl (lv_at hl 0 rfl) ?_
  refine lv_iload hx hb dL_law_1030 (lv_at hl 4 rfl) ?_
  refine lv_iconst (v := (1 : Int32)) hx hb dL_law_1032 (by decide) ?_
  refine lv_iadd hx hb dL_law_1033 ?_
  refine va_sld hx hb hX hbl hbA hS (s_in (k := 1) hi hL (by decide)) dL_law_1034 ?_
  refine lv_aload_n hx hb dL_law_1035 rfl (lv_at hl 0 rfl) ?_
  refine lv_iload hx hb dL_law_1036 (lv_at hl 4 rfl) ?_
  refine lv_iconst (v := (2 : Int32)) hx hb dL_law_1038 (by decide) ?_
  refine lv_iadd hx hb dL_law_1039 ?_
  refine va_sld hx hb hX hbl hbA hS (s_in (k := 2) hi hL (by decide)) dL_law_1040 ?_
  refine lv_aload_n hx hb dL_law_1041 rfl (lv_at hl 0 rfl) ?_
  refine lv_iload hx hb dL_law_1042 (lv_at hl 4 rfl) ?_
  refine lv_iconst (v := (3 : Int32)) hx hb dL_law_1044 (by decide) ?_
  refine lv_iadd hx hb dL_law_1045 ?_
  refine va_sld hx hb hX hbl hbA hS (s_in (k := 3) hi hL (by decide)) dL_law_1046 ?_
  refine s_aload_n hx hb dL_law_1047 rfl (lv_at hl 3 rfl) ?_
  obtain ⟨o, f1, n', z', f2, e1, hn, hz, cO, hf0, hf1, cM, v, st', e2, cT, L1, et, ev⟩ := stp_along (F := F) (by omega) (xs (nI i + (1 : Int32)).toNatClampNeg) (xs (nI i + (2 : Int32)).toNatClampNeg) (xs (nI i + (3 : Int32)).toNatClampNeg) LI0
  have hcc1 : cells + (n' - n) + 100 = n' + ee := by omega
  have hss1 : slots + (z' - z) = z' + 6 * ee := by omega
  have rm0 := LI.room1 L1 hcc1 hss1 (by omega)
  have rm : cells + (n' - n + 1) ≤ 601024 ∧ slots + (z' - z + 6) ≤ 7293034 := rm0
  have hp := s_preX (G := G) hK hTx hW hS [rr G (some 100), .int (xs (nI i + (1 : Int32)).toNatClampNeg), .int (xs (nI i + (2 : Int32)).toNatClampNeg), .int (xs (nI i + (3 : Int32)).toNatClampNeg), rr G (some 203)]
  refine va_calli (A0 := WA G) (vx_runSW (As := [rr G (some 100), .int (xs (nI i + (1 : Int32)).toNatClampNeg), .int (xs (nI i + (2 : Int32)).toNatClampNeg), .int (xs (nI i + (3 : Int32)).toNatClampNeg), rr G (some 203)]) (rest := []) CF (S_L_along l hst G F e1 cO hf0 hf1) (vx_cwSW 5 hT gw_L_127 rfl rfl rfl hd_L_along.2 ⟨Nat.le_of_ble_eq_true rfl, Nat.le_of_ble_eq_true rfl⟩) hp rfl rfl hl.1 rfl (s_room (rest := []) (Nat.le_of_ble_eq_true rfl)) dL_law_1048 ⟨rm0.1, rm0.2⟩) hS (fun _ _ h => h) (fun _ h => h) (fun r kx t H1 locs1 ht hvm hpost hB hz1 hk1 hS => ?_)
  obtain ⟨hr, hkx⟩ := hpost
  rw [ht] at hB
  have hW := hB
  refine W.size (fun hsz => ?_)
  have hcx : kx ≤ n' + ee + 1 := by have h3 := hW.2.2.1; have h4 := hW.2.2.2; omega
  have L2 := LI.thrs L1 (kx - n')
  obtain ⟨sk2, esk⟩ : ∃ j, j = sk + (kx - n') := ⟨_, rfl⟩
  obtain ⟨ee2, eee⟩ : ∃ j, j = ee + 1 - (kx - n') := ⟨_, rfl⟩
  obtain ⟨n2, en2⟩ : ∃ j, j = n' + (kx - n') := ⟨_, rfl⟩
  obtain ⟨z2, ez2⟩ : ∃ j, j = z' + 6 * (kx - n') := ⟨_, rfl⟩
  rw [← esk, ← en2, ← ez2] at L2
  have ekx : kx = n2 := by omega
  rw [ekx] at hW
  have hc2 : cells + (n' - n + 1) + 100 = n2 + ee2 := by omega
  have hs2 : slots + (z' - z + 6) = z2 + 6 * ee2 := by omega
  have hk2 : sk2 + ee2 ≤ k + 1 := by omega
  obtain ⟨m2, em2⟩ : ∃ j, j = mm := ⟨_, rfl⟩
  rw [← em2] at L2
  refine lv_istore (lv' := (5, .int r) :: [(0, .ref b), (1, rr G (some 100)), (2, rr G (some 179)), (3, rr G (some 203)), (4, .int (nI i))]) hx hb dL_law_1051 hl (by decide) rfl (fun ls hl => ?_)
  refine s_aload_n hx hb dL_law_1053 rfl (lv_at hl 3 rfl) ?_
  refine lv_aload_n hx hb dL_law_1054 rfl (lv_at hl 1 rfl) ?_
  refine lv_iload hx hb dL_law_1055 (lv_at hl 5 rfl) ?_
  refine lv_iconst (v := (1 : Int32)) hx hb dL_law_1057 (by decide) ?_
  refine lv_iadd hx hb dL_law_1058 ?_
  refine va_sld hx hb hX hbl hbA hS (s_in (k := 1) hi hL (by decide)) dL_law_1059 ?_
  refine lv_aload_n hx hb dL_law_1060 rfl (lv_at hl 1 rfl) ?_
  refine lv_iload hx hb dL_law_1061 (lv_at hl 5 rfl) ?_
  refine lv_iconst (v := (2 : Int32)) hx hb dL_law_1063 (by decide) ?_
  refine lv_iadd hx hb dL_law_1064 ?_
  refine va_sld hx hb hX hbl hbA hS (s_in (k := 2) hi hL (by decide)) dL_law_1065 ?_
  refine lv_aload_n hx hb dL_law_1066 rfl (lv_at hl 1 rfl) ?_
  refine lv_iload hx hb dL_law_1067 (lv_at hl 5 rfl) ?_
  refine lv_iconst (v := (3 : Int32)) hx hb dL_law_1069 (by decide) ?_
  refine lv_iadd hx hb dL_law_1070 ?_
  refine va_sld hx hb hX hbl hbA hS (s_in (k := 3) hi hL (by decide)) dL_law_1071 ?_
  refine s_callV (As := [.int (xs (nI i + (1 : Int32)).toNatClampNeg), .int (xs (nI i + (2 : Int32)).toNatClampNeg), .int (xs (nI i + (3 : Int32)).toNatClampNeg)]) (rest := []) CF hK hW hS (S_X12_along l G F e2) cM rfl gv_L_130 hd_X12_along ⟨Nat.le_of_ble_eq_true rfl, Nat.le_of_ble_eq_true rfl⟩ rfl hl.1 rfl (Nat.le_of_ble_eq_true rfl) dL_law_1072 ⟨rm.1, rm.2⟩ (fun H locs hW hS => ?_)
  refine lv_lstore (lv' := (6, .long v) :: (5, .int r) :: [(0, .ref b), (1, rr G (some 100)), (2, rr G (some 179)), (3, rr G (some 203)), (4, .int (nI i))]) hx hb dL_law_1075 hl (by decide) rfl (fun ls hl => ?_)
  refine s_aload_n hx hb dL_law_1077 rfl (lv_at hl 4 rfl) ?_
  refine s_callV (As := []) (rest := []) CF hK hW hS (S_X12_thrown l G F et) cT rfl gv_L_48 hd_X12_thrown ⟨Nat.le_of_ble_eq_true rfl, Nat.le_of_ble_eq_true rfl⟩ rfl hl.1 rfl (Nat.le_of_ble_eq_true rfl) dL_law_1078 ⟨rm.1, rm.2⟩ (fun H locs hW hS => ?_)
  refine lv_iload hx hb dL_law_1081 (lv_at hl 1 rfl) ?_
  refine lv_icmp_eq (tgt := 1088) hx hb dL_law_1083 (by decide) (fun _ => ?_) (fun q => (q hr.symm).elim)
  refine lv_iload hx hb dL_law_1088 (lv_at hl 1 rfl) ?_
  refine lv_if_ne (tgt := 1104) hx hb dL_law_1090 (by decide) (fun q => ?_) (fun q => ?_)
  · refine lv_goto (tgt := 1480) hx hb dL_law_1104 (by decide) ?_
    exact back _ _ _ _ _ ⟨sk2, _, n2, z2, m2, st', ee2, L2, hW, hS, hc2, hs2, hk2, lv_sub hl [2, 3, 4, 5, 6] rfl⟩
  obtain ⟨y, hy⟩ := thI_0 (hr.symm.trans q)
  obtain ⟨hv, hld⟩ := ev y hy
  refine s_aload_n hx hb dL_law_1093 rfl (lv_at hl 5 rfl) ?_
  refine lv_iconst (v := (0 : Int32)) hx hb dL_law_1094 (by decide) ?_
  refine s_ldJ hx hb hK hW hS hld dL_law_1095 ?_
  refine lv_lload hx hb dL_law_1096 (lv_at hl 0 rfl) ?_
  refine W.lcmp hx hb dL_law_1098 ?_
  refine lv_if_eq (tgt := 1104) hx hb dL_law_1099 (by decide) (fun _ => ?_) (fun q => (q ((lg_cmp_eq _ _).mpr (by rw [hv]))).elim)
  refine lv_goto (tgt := 1480) hx hb dL_law_1104 (by decide) ?_
  exact back _ _ _ _ _ ⟨sk2, _, n2, z2, m2, st', ee2, L2, hW, hS, hc2, hs2, hk2, lv_sub hl [2, 3, 4, 5, 6] rfl⟩
end CASES0
