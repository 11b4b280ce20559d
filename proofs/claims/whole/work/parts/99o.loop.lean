/-! the law's loop -/
section LOOP
variable {p : Program} {l : Launch} {e : Env} {s : State} {m : MethodId} {below : List Frame} {meth : Method} {c : Code} {H : Heap} {locs : List Loc} {cells slots : Nat} {Q : State → Prop} {ls : Array Slot}
variable {b L : Nat} {xs : Nat → Int32} {G : GG} {F i k : Nat}
set_option maxHeartbeats 8000000 in
theorem law_switch (hF : 5041 ≤ F) (C : LWc p l s m c b L xs G) (hL : L ≤ 3072) (hi : i + 6 ≤ L) (hk : k < 512) (h : LWs G s b i k H locs cells slots ls) (back : ∀ (H : Heap) (locs : List Loc) (cells slots : Nat) (ls : Array Slot), LWs G s b i (k + 1) H locs cells slots ls → W p l e room_1 s m #[Value.ref b] below meth c H locs cells slots Q (F0 m 1480 ls [])) (x : Int32) : W p l e room_1 s m #[Value.ref b] below meth c H locs cells slots Q (F0 m 40 ls [.int x]) := by
  have hx := C.1
  have hb := C.2.1
  by_cases w0 : x = (0 : Int32)
  · have hi9 : x.toInt = 0 := by rw [w0]; rfl
    exact lv_tableIn (off := 164) (tgt := 204) hx hb dL_law_40 (by rw [hi9]; decide) (by rw [hi9]; decide) (by rw [hi9]; rfl) (by decide) (case_0 hF C hL hi hk h back)
  by_cases w1 : x = (1 : Int32)
  · have hi9 : x.toInt = 1 := by rw [w1]; rfl
    exact lv_tableIn (off := 237) (tgt := 277) hx hb dL_law_40 (by rw [hi9]; decide) (by rw [hi9]; decide) (by rw [hi9]; rfl) (by decide) (case_1 hF C hL hi hk h back)
  by_cases w2 : x = (2 : Int32)
  · have hi9 : x.toInt = 2 := by rw [w2]; rfl
    exact lv_tableIn (off := 262) (tgt := 302) hx hb dL_law_40 (by rw [hi9]; decide) (by rw [hi9]; decide) (by rw [hi9]; rfl) (by decide) (case_2 hF C hL hi hk h back)
  by_cases w3 : x = (3 : Int32)
  · have hi9 : x.toInt = 3 := by rw [w3]; rfl
    exact lv_tableIn (off := 275) (tgt := 315) hx hb dL_law_40 (by rw [hi9]; decide) (by rw [hi9]; decide) (by rw [hi9]; rfl) (by decide) (case_3 hF C hL hi hk h back)
  by_cases w4 : x = (4 : Int32)
  · have hi9 : x.toInt = 4 := by rw [w4]; rfl
    exact lv_tableIn (off := 288) (tgt := 328) hx hb dL_law_40 (by rw [hi9]; decide) (by rw [hi9]; decide) (by rw [hi9]; rfl) (by decide) (case_4 hF C hL hi hk h back)
  by_cases w5 : x = (5 : Int32)
  · have hi9 : x.toInt = 5 := by rw [w5]; rfl
    exact lv_tableIn (off := 356) (tgt := 396) hx hb dL_law_40 (by rw [hi9]; decide) (by rw [hi9]; decide) (by rw [hi9]; rfl) (by decide) (case_5 hF C hL hi hk h back)
  by_cases w6 : x = (6 : Int32)
  · have hi9 : x.toInt = 6 := by rw [w6]; rfl
    exact lv_tableIn (off := 381) (tgt := 421) hx hb dL_law_40 (by rw [hi9]; decide) (by rw [hi9]; decide) (by rw [hi9]; rfl) (by decide) (case_6 hF C hL hi hk h back)
  by_cases w7 : x = (7 : Int32)
  · have hi9 : x.toInt = 7 := by rw [w7]; rfl
    exact lv_tableIn (off := 394) (tgt := 434) hx hb dL_law_40 (by rw [hi9]; decide) (by rw [hi9]; decide) (by rw [hi9]; rfl) (by decide) (case_7 hF C hL hi hk h back)
  by_cases w8 : x = (8 : Int32)
  · have hi9 : x.toInt = 8 := by rw [w8]; rfl
    exact lv_tableIn (off := 431) (tgt := 471) hx hb dL_law_40 (by rw [hi9]; decide) (by rw [hi9]; decide) (by rw [hi9]; rfl) (by decide) (case_8 hF C hL hi hk h back)
  by_cases w9 : x = (9 : Int32)
  · have hi9 : x.toInt = 9 := by rw [w9]; rfl
    exact lv_tableIn (off := 480) (tgt := 520) hx hb dL_law_40 (by rw [hi9]; decide) (by rw [hi9]; decide) (by rw [hi9]; rfl) (by decide) (case_9 hF C hL hi hk h back)
  by_cases w10 : x = (10 : Int32)
  · have hi9 : x.toInt = 10 := by rw [w10]; rfl
    exact lv_tableIn (off := 517) (tgt := 557) hx hb dL_law_40 (by rw [hi9]; decide) (by rw [hi9]; decide) (by rw [hi9]; rfl) (by decide) (case_10 hF C hL hi hk h back)
  by_cases w11 : x = (11 : Int32)
  · have hi9 : x.toInt = 11 := by rw [w11]; rfl
    exact lv_tableIn (off := 566) (tgt := 606) hx hb dL_law_40 (by rw [hi9]; decide) (by rw [hi9]; decide) (by rw [hi9]; rfl) (by decide) (case_11 hF C hL hi hk h back)
  by_cases w12 : x = (12 : Int32)
  · have hi9 : x.toInt = 12 := by rw [w12]; rfl
    exact lv_tableIn (off := 627) (tgt := 667) hx hb dL_law_40 (by rw [hi9]; decide) (by rw [hi9]; decide) (by rw [hi9]; rfl) (by decide) (case_12 hF C hL hi hk h back)
  by_cases w13 : x = (13 : Int32)
  · have hi9 : x.toInt = 13 := by rw [w13]; rfl
    exact lv_tableIn (off := 652) (tgt := 692) hx hb dL_law_40 (by rw [hi9]; decide) (by rw [hi9]; decide) (by rw [hi9]; rfl) (by decide) (case_13 hF C hL hi hk h back)
  by_cases w14 : x = (14 : Int32)
  · have hi9 : x.toInt = 14 := by rw [w14]; rfl
    exact lv_tableIn (off := 689) (tgt := 729) hx hb dL_law_40 (by rw [hi9]; decide) (by rw [hi9]; decide) (by rw [hi9]; rfl) (by decide) (case_14 hF C hL hi hk h back)
  by_cases w15 : x = (15 : Int32)
  · have hi9 : x.toInt = 15 := by rw [w15]; rfl
    exact lv_tableIn (off := 702) (tgt := 742) hx hb dL_law_40 (by rw [hi9]; decide) (by rw [hi9]; decide) (by rw [hi9]; rfl) (by decide) (case_15 hF C hL hi hk h back)
  by_cases w16 : x = (16 : Int32)
  · have hi9 : x.toInt = 16 := by rw [w16]; rfl
    exact lv_tableIn (off := 727) (tgt := 767) hx hb dL_law_40 (by rw [hi9]; decide) (by rw [hi9]; decide) (by rw [hi9]; rfl) (by decide) (case_16 hF C hL hi hk h back)
  by_cases w17 : x = (17 : Int32)
  · have hi9 : x.toInt = 17 := by rw [w17]; rfl
    exact lv_tableIn (off := 752) (tgt := 792) hx hb dL_law_40 (by rw [hi9]; decide) (by rw [hi9]; decide) (by rw [hi9]; rfl) (by decide) (case_17 hF C hL hi hk h back)
  by_cases w18 : x = (18 : Int32)
  · have hi9 : x.toInt = 18 := by rw [w18]; rfl
    exact lv_tableIn (off := 802) (tgt := 842) hx hb dL_law_40 (by rw [hi9]; decide) (by rw [hi9]; decide) (by rw [hi9]; rfl) (by decide) (case_18 hF C hL hi hk h back)
  by_cases w19 : x = (19 : Int32)
  · have hi9 : x.toInt = 19 := by rw [w19]; rfl
    exact lv_tableIn (off := 863) (tgt := 903) hx hb dL_law_40 (by rw [hi9]; decide) (by rw [hi9]; decide) (by rw [hi9]; rfl) (by decide) (case_19 hF C hL hi hk h back)
  by_cases w20 : x = (20 : Int32)
  · have hi9 : x.toInt = 20 := by rw [w20]; rfl
    exact lv_tableIn (off := 877) (tgt := 917) hx hb dL_law_40 (by rw [hi9]; decide) (by rw [hi9]; decide) (by rw [hi9]; rfl) (by decide) (case_20 hF C hL hi hk h back)
  by_cases w21 : x = (21 : Int32)
  · have hi9 : x.toInt = 21 := by rw [w21]; rfl
    exact lv_tableIn (off := 914) (tgt := 954) hx hb dL_law_40 (by rw [hi9]; decide) (by rw [hi9]; decide) (by rw [hi9]; rfl) (by decide) (case_21 hF C hL hi hk h back)
  by_cases w22 : x = (22 : Int32)
  · have hi9 : x.toInt = 22 := by rw [w22]; rfl
    exact lv_tableIn (off := 963) (tgt := 1003) hx hb dL_law_40 (by rw [hi9]; decide) (by rw [hi9]; decide) (by rw [hi9]; rfl) (by decide) (case_22 hF C hL hi hk h back)
  by_cases w23 : x = (23 : Int32)
  · have hi9 : x.toInt = 23 := by rw [w23]; rfl
    exact lv_tableIn (off := 988) (tgt := 1028) hx hb dL_law_40 (by rw [hi9]; decide) (by rw [hi9]; decide) (by rw [hi9]; rfl) (by decide) (case_23 hF C hL hi hk h back)
  by_cases w24 : x = (24 : Int32)
  · have hi9 : x.toInt = 24 := by rw [w24]; rfl
    exact lv_tableIn (off := 1067) (tgt := 1107) hx hb dL_law_40 (by rw [hi9]; decide) (by rw [hi9]; decide) (by rw [hi9]; rfl) (by decide) (case_24 hF C hL hi hk h back)
  by_cases w25 : x = (25 : Int32)
  · have hi9 : x.toInt = 25 := by rw [w25]; rfl
    exact lv_tableIn (off := 1092) (tgt := 1132) hx hb dL_law_40 (by rw [hi9]; decide) (by rw [hi9]; decide) (by rw [hi9]; rfl) (by decide) (case_25 hF C hL hi hk h back)
  by_cases w26 : x = (26 : Int32)
  · have hi9 : x.toInt = 26 := by rw [w26]; rfl
    exact lv_tableIn (off := 1117) (tgt := 1157) hx hb dL_law_40 (by rw [hi9]; decide) (by rw [hi9]; decide) (by rw [hi9]; rfl) (by decide) (case_26 hF C hL hi hk h back)
  by_cases w27 : x = (27 : Int32)
  · have hi9 : x.toInt = 27 := by rw [w27]; rfl
    exact lv_tableIn (off := 1142) (tgt := 1182) hx hb dL_law_40 (by rw [hi9]; decide) (by rw [hi9]; decide) (by rw [hi9]; rfl) (by decide) (case_27 hF C hL hi hk h back)
  by_cases w28 : x = (28 : Int32)
  · have hi9 : x.toInt = 28 := by rw [w28]; rfl
    exact lv_tableIn (off := 1179) (tgt := 1219) hx hb dL_law_40 (by rw [hi9]; decide) (by rw [hi9]; decide) (by rw [hi9]; rfl) (by decide) (case_28 hF C hL hi hk h back)
  by_cases w29 : x = (29 : Int32)
  · have hi9 : x.toInt = 29 := by rw [w29]; rfl
    exact lv_tableIn (off := 1204) (tgt := 1244) hx hb dL_law_40 (by rw [hi9]; decide) (by rw [hi9]; decide) (by rw [hi9]; rfl) (by decide) (case_29 hF C hL hi hk h back)
  by_cases w30 : x = (30 : Int32)
  · have hi9 : x.toInt = 30 := by rw [w30]; rfl
    exact lv_tableIn (off := 1241) (tgt := 1281) hx hb dL_law_40 (by rw [hi9]; decide) (by rw [hi9]; decide) (by rw [hi9]; rfl) (by decide) (case_30 hF C hL hi hk h back)
  by_cases w31 : x = (31 : Int32)
  · have hi9 : x.toInt = 31 := by rw [w31]; rfl
    exact lv_tableIn (off := 1290) (tgt := 1330) hx hb dL_law_40 (by rw [hi9]; decide) (by rw [hi9]; decide) (by rw [hi9]; rfl) (by decide) (case_31 hF C hL hi hk h back)
  by_cases w32 : x = (32 : Int32)
  · have hi9 : x.toInt = 32 := by rw [w32]; rfl
    exact lv_tableIn (off := 1339) (tgt := 1379) hx hb dL_law_40 (by rw [hi9]; decide) (by rw [hi9]; decide) (by rw [hi9]; rfl) (by decide) (case_32 hF C hL hi hk h back)
  by_cases w33 : x = (33 : Int32)
  · have hi9 : x.toInt = 33 := by rw [w33]; rfl
    exact lv_tableIn (off := 1352) (tgt := 1392) hx hb dL_law_40 (by rw [hi9]; decide) (by rw [hi9]; decide) (by rw [hi9]; rfl) (by decide) (case_33 hF C hL hi hk h back)
  by_cases w34 : x = (34 : Int32)
  · have hi9 : x.toInt = 34 := by rw [w34]; rfl
    exact lv_tableIn (off := 1365) (tgt := 1405) hx hb dL_law_40 (by rw [hi9]; decide) (by rw [hi9]; decide) (by rw [hi9]; rfl) (by decide) (case_34 hF C hL hi hk h back)
  by_cases w35 : x = (35 : Int32)
  · have hi9 : x.toInt = 35 := by rw [w35]; rfl
    exact lv_tableIn (off := 1390) (tgt := 1430) hx hb dL_law_40 (by rw [hi9]; decide) (by rw [hi9]; decide) (by rw [hi9]; rfl) (by decide) (case_35 hF C hL hi hk h back)
  by_cases w36 : x = (36 : Int32)
  · have hi9 : x.toInt = 36 := by rw [w36]; rfl
    exact lv_tableIn (off := 1415) (tgt := 1455) hx hb dL_law_40 (by rw [hi9]; decide) (by rw [hi9]; decide) (by rw [hi9]; rfl) (by decide) (case_36 hF C hL hi hk h back)
  replace w0 := lv_neT w0 (a := 0) rfl
  replace w1 := lv_neT w1 (a := 1) rfl
  replace w2 := lv_neT w2 (a := 2) rfl
  replace w3 := lv_neT w3 (a := 3) rfl
  replace w4 := lv_neT w4 (a := 4) rfl
  replace w5 := lv_neT w5 (a := 5) rfl
  replace w6 := lv_neT w6 (a := 6) rfl
  replace w7 := lv_neT w7 (a := 7) rfl
  replace w8 := lv_neT w8 (a := 8) rfl
  replace w9 := lv_neT w9 (a := 9) rfl
  replace w10 := lv_neT w10 (a := 10) rfl
  replace w11 := lv_neT w11 (a := 11) rfl
  replace w12 := lv_neT w12 (a := 12) rfl
  replace w13 := lv_neT w13 (a := 13) rfl
  replace w14 := lv_neT w14 (a := 14) rfl
  replace w15 := lv_neT w15 (a := 15) rfl
  replace w16 := lv_neT w16 (a := 16) rfl
  replace w17 := lv_neT w17 (a := 17) rfl
  replace w18 := lv_neT w18 (a := 18) rfl
  replace w19 := lv_neT w19 (a := 19) rfl
  replace w20 := lv_neT w20 (a := 20) rfl
  replace w21 := lv_neT w21 (a := 21) rfl
  replace w22 := lv_neT w22 (a := 22) rfl
  replace w23 := lv_neT w23 (a := 23) rfl
  replace w24 := lv_neT w24 (a := 24) rfl
  replace w25 := lv_neT w25 (a := 25) rfl
  replace w26 := lv_neT w26 (a := 26) rfl
  replace w27 := lv_neT w27 (a := 27) rfl
  replace w28 := lv_neT w28 (a := 28) rfl
  replace w29 := lv_neT w29 (a := 29) rfl
  replace w30 := lv_neT w30 (a := 30) rfl
  replace w31 := lv_neT w31 (a := 31) rfl
  replace w32 := lv_neT w32 (a := 32) rfl
  replace w33 := lv_neT w33 (a := 33) rfl
  replace w34 := lv_neT w34 (a := 34) rfl
  replace w35 := lv_neT w35 (a := 35) rfl
  replace w36 := lv_neT w36 (a := 36) rfl
  refine lv_tableOut (tgt := 1480) hx hb dL_law_40 (by omega) (by decide) ?_
  obtain ⟨sk, f, n, z, mm, st, ee, a1, a2, a3, a4, a5, a6, a7⟩ := h
  exact back _ _ _ _ _ ⟨sk, f, n, z, mm, st, ee, a1, a2, a3, a4, a5, by omega, a7⟩
set_option maxHeartbeats 4000000 in
theorem law_loop (hF : 5041 ≤ F) (C : LWc p l s m c b L xs G) (hL : L ≤ 3072) (endk : ∀ (H : Heap) (locs : List Loc) (cells slots : Nat) (ls : Array Slot), va_S (WA G) s.heap H locs → cells ≤ 601024 → slots ≤ 7293034 → W p l e room_1 s m #[Value.ref b] below meth c H locs cells slots Q (F0 m 1486 ls [])) : ∀ (d k : Nat), L < 6 * k + 6 * d → 6 * k ≤ L → ∀ (H : Heap) (locs : List Loc) (cells slots : Nat) (ls : Array Slot), LWs G s b (6 * k) k H locs cells slots ls → W p l e room_1 s m #[Value.ref b] below meth c H locs cells slots Q (F0 m 23 ls []) := by
  intro d
  induction d with
  | zero => intro k h1 h2; exact absurd h1 (by omega)
  | succ d ih =>
    intro k hd hk H locs cells slots ls h
    have hC := C
    obtain ⟨hx, hb, hml, hown, hT, hX, hbl, hG, hK, hTx, hst⟩ := hC
    obtain ⟨sk, f, n, z, mm, st, ee, LI0, hW, hS, hcc, hss, hsk, hl⟩ := id h
    have hbA : ¬ WA G b := fun h => by have h1 : G.1 ≤ b := h; omega
    have rm := LI.room LI0 hcc hss (by omega)
    refine lv_iload hx hb dL_law_23 (lv_at hl 4 rfl) ?_
    refine lv_aload_n hx hb dL_law_25 rfl (lv_at hl 0 rfl) ?_
    refine va_slen hx hb hX hbl hbA hS dL_law_26 ?_
    refine lv_bipush (v := (6 : Int32)) hx hb dL_law_27 (by decide) ?_
    refine lv_isub hx hb dL_law_29 ?_
    refine lv_icmp_gt (tgt := 1486) hx hb dL_law_30 (by decide) (fun q => ?_) (fun q => ?_)
    · exact endk _ _ _ _ _ hS rm.1 rm.2
    · have hi : 6 * k + 6 ≤ L := by
        have h9 : ¬ L < 6 * k + 6 := fun h8 => q ((law_cmp (by omega) hL).mpr h8)
        omega
      refine lv_aload_n hx hb dL_law_33 rfl (lv_at hl 0 rfl) ?_
      refine lv_iload hx hb dL_law_34 (lv_at hl 4 rfl) ?_
      refine va_sld hx hb hX hbl hbA hS (vp_in_nI (by omega) (by omega)) dL_law_36 ?_
      refine lv_bipush (v := (63 : Int32)) hx hb dL_law_37 (by decide) ?_
      refine lv_iand hx hb dL_law_39 ?_
      refine law_switch hF C hL hi (by omega) h (fun H locs cells slots ls h => ?_) _
      obtain ⟨sk, f, n, z, mm, st, ee, a1, a2, a3, a4, a5, a6, a7⟩ := h
      refine lv_iinc (k := 4) (v := nI (6 * (k + 1))) (lv' := [(4, .int (nI (6 * (k + 1)))), (0, .ref b), (1, rr G (some 100)), (2, rr G (some 179)), (3, rr G (some 203))]) hx hb dL_law_1480 a7 rfl (by rw [show (6 * (k + 1)) = 6 * k + 6 by omega, ← nI_add]; rfl) (by decide) rfl (fun ls hl => ?_)
      refine lv_goto (tgt := 23) hx hb dL_law_1483 (by decide) ?_
      exact ih (k + 1) (by omega) (by omega) _ _ _ _ _ ⟨sk, f, n, z, mm, st, ee, a1, a2, a3, a4, a5, a6, lv_sub hl [1, 2, 3, 4, 0] rfl⟩
end LOOP
