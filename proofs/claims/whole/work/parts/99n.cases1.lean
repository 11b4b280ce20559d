/-! cases of the law's switch -/
section CASES1
variable {p : Program} {l : Launch} {e : Env} {s : State} {m : MethodId} {below : List Frame} {meth : Method} {c : Code} {H : Heap} {locs : List Loc} {cells slots : Nat} {Q : State → Prop} {ls : Array Slot}
variable {b L : Nat} {xs : Nat → Int32} {G : GG} {F i k : Nat}
set_option maxHeartbeats 4000000 in
theorem case_0 (hF : 5041 ≤ F) (C : LWc p l s m c b L xs G) (hL : L ≤ 3072) (hi : i + 6 ≤ L) (hk : k < 512) (h : LWs G s b i k H locs cells slots ls) (back : ∀ (H : Heap) (locs : List Loc) (cells slots : Nat) (ls : Array Slot), LWs G s b i (k + 1) H locs cells slots ls → W p l e room_1 s m #[Value.ref b] below meth c H locs cells slots Q (F0 m 1480 ls [])) : W p l e room_1 s m #[Value.ref b] below meth c H locs cells slots Q (F0 m 204 ls []) := by
  obtain ⟨hx, hb, hml, hown, hT, hX, hbl, hG, hK, hTx, hst⟩ := C
  obtain ⟨sk, f, n, z, mm, st, ee, LI0, hW, hS, hcc, hss, hsk, hl⟩ := h
  have hbA : ¬ WA G b := fun h => by have h1 : G.1 ≤ b := h; omega
  have CF : CallFix p m c cL_law 8 s #[Value.ref b] TB RL := ⟨hx, hb, hml, hown, hT⟩
  refine s_aload_n hx hb dL_law_204 rfl (lv_at hl 1 rfl) ?_
  refine lv_aload_n hx hb dL_law_205 rfl (lv_at hl 0 rfl) ?_
  refine lv_iload hx hb dL_law_206 (lv_at hl 4 rfl) ?_
  refine lv_iconst (v := (1 : Int32)) hx hb dL_law_208 (by decide) ?_
  refine lv_iadd hx hb dL_law_209 ?_
  refine va_sld hx hb hX hbl hbA hS (s_in (k := 1) hi hL (by decide)) dL_law_210 ?_
  refine lv_aload_n hx hb dL_law_211 rfl (lv_at hl 0 rfl) ?_
  refine lv_iload hx hb dL_law_212 (lv_at hl 4 rfl) ?_
  refine lv_iconst (v := (2 : Int32)) hx hb dL_law_214 (by decide) ?_
  refine lv_iadd hx hb dL_law_215 ?_
  refine va_sld hx hb hX hbl hbA hS (s_in (k := 2) hi hL (by decide)) dL_law_216 ?_
  refine lv_aload_n hx hb dL_law_217 rfl (lv_at hl 0 rfl) ?_
  refine lv_iload hx hb dL_law_218 (lv_at hl 4 rfl) ?_
  refine lv_iconst (v := (3 : Int32)) hx hb dL_law_220 (by decide) ?_
  refine lv_iadd hx hb dL_law_221 ?_
  refine va_sld hx hb hX hbl hbA hS (s_in (k := 3) hi hL (by decide)) dL_law_222 ?_
  refine lv_aload_n hx hb dL_law_223 rfl (lv_at hl 0 rfl) ?_
  refine lv_iload hx hb dL_law_224 (lv_at hl 4 rfl) ?_
  refine lv_iconst (v := (4 : Int32)) hx hb dL_law_226 (by decide) ?_
  refine lv_iadd hx hb dL_law_227 ?_
  refine va_sld hx hb hX hbl hbA hS (s_in (k := 4) hi hL (by decide)) dL_law_228 ?_
  refine lv_aload_n hx hb dL_law_229 rfl (lv_at hl 0 rfl) ?_
  refine lv_iload hx hb dL_law_230 (lv_at hl 4 rfl) ?_
  refine lv_iconst (v := (5 : Int32)) hx hb dL_law_232 (by decide) ?_
  refine lv_iadd hx hb dL_law_233 ?_
  refine va_sld hx hb hX hbl hbA hS (s_in (k := 5) hi hL (by decide)) dL_law_234 ?_
  obtain ⟨v, f', m', st', e1, cO, cM, e2, L1⟩ := stp_W (k_feed (F := F) (by omega) (xs (nI i + (1 : Int32)).toNatClampNeg) (xs (nI i + (2 : Int32)).toNatClampNeg) (xs (nI i + (3 : Int32)).toNatClampNeg) (xs (nI i + (4 : Int32)).toNatClampNeg) (xs (nI i + (5 : Int32)).toNatClampNeg)) LI0
  have rm := LI.room LI0 hcc hss (by omega)
  refine s_callV (As := [.int (xs (nI i + (1 : Int32)).toNatClampNeg), .int (xs (nI i + (2 : Int32)).toNatClampNeg), .int (xs (nI i + (3 : Int32)).toNatClampNeg), .int (xs (nI i + (4 : Int32)).toNatClampNeg), .int (xs (nI i + (5 : Int32)).toNatClampNeg)]) (rest := []) CF hK hW hS (S_X11_feed l G F e1) cO rfl gv_L_23 hd_X11_feed ⟨Nat.le_of_ble_eq_true rfl, Nat.le_of_ble_eq_true rfl⟩ rfl hl.1 rfl (Nat.le_of_ble_eq_true rfl) dL_law_235 ⟨rm.1, rm.2⟩ (fun H locs hW hS => ?_)
  refine s_aload_n hx hb dL_law_238 rfl (lv_at hl 2 rfl) ?_
  refine lv_aload_n hx hb dL_law_239 rfl (lv_at hl 0 rfl) ?_
  refine lv_iload hx hb dL_law_240 (lv_at hl 4 rfl) ?_
  refine lv_iconst (v := (1 : Int32)) hx hb dL_law_242 (by decide) ?_
  refine lv_iadd hx hb dL_law_243 ?_
  refine va_sld hx hb hX hbl hbA hS (s_in (k := 1) hi hL (by decide)) dL_law_244 ?_
  refine lv_aload_n hx hb dL_law_245 rfl (lv_at hl 0 rfl) ?_
  refine lv_iload hx hb dL_law_246 (lv_at hl 4 rfl) ?_
  refine lv_iconst (v := (2 : Int32)) hx hb dL_law_248 (by decide) ?_
  refine lv_iadd hx hb dL_law_249 ?_
  refine va_sld hx hb hX hbl hbA hS (s_in (k := 2) hi hL (by decide)) dL_law_250 ?_
  refine lv_aload_n hx hb dL_law_251 rfl (lv_at hl 0 rfl) ?_
  refine lv_iload hx hb dL_law_252 (lv_at hl 4 rfl) ?_
  refine lv_iconst (v := (3 : Int32)) hx hb dL_law_254 (by decide) ?_
  refine lv_iadd hx hb dL_law_255 ?_
  refine va_sld hx hb hX hbl hbA hS (s_in (k := 3) hi hL (by decide)) dL_law_256 ?_
  refine lv_aload_n hx hb dL_law_257 rfl (lv_at hl 0 rfl) ?_
  refine lv_iload hx hb dL_law_258 (lv_at hl 4 rfl) ?_
  refine lv_iconst (v := (4 : Int32)) hx hb dL_law_260 (by decide) ?_
  refine lv_iadd hx hb dL_law_261 ?_
  refine va_sld hx hb hX hbl hbA hS (s_in (k := 4) hi hL (by decide)) dL_law_262 ?_
  refine lv_aload_n hx hb dL_law_263 rfl (lv_at hl 0 rfl) ?_
  refine lv_iload hx hb dL_law_264 (lv_at hl 4 rfl) ?_
  refine lv_iconst (v := (5 : Int32)) hx hb dL_law_266 (by decide) ?_
  refine lv_iadd hx hb dL_law_267 ?_
  refine va_sld hx hb hX hbl hbA hS (s_in (k := 5) hi hL (by decide)) dL_law_268 ?_
  refine s_callV (As := [.int (xs (nI i + (1 : Int32)).toNatClampNeg), .int (xs (nI i + (2 : Int32)).toNatClampNeg), .int (xs (nI i + (3 : Int32)).toNatClampNeg), .int (xs (nI i + (4 : Int32)).toNatClampNeg), .int (xs (nI i + (5 : Int32)).toNatClampNeg)]) (rest := [.int v]) CF hK hW hS (S_X12_feed l G F e2) cM rfl gv_L_27 hd_X12_feed ⟨Nat.le_of_ble_eq_true rfl, Nat.le_of_ble_eq_true rfl⟩ rfl hl.1 rfl (Nat.le_of_ble_eq_true rfl) dL_law_269 ⟨rm.1, rm.2⟩ (fun H locs hW hS => ?_)
  refine lv_icmp_eq (tgt := 1480) hx hb dL_law_272 (by decide) (fun _ => ?_) (fun q => (q rfl).elim)
  exact back _ _ _ _ _ ⟨sk, _, n, z, m', st', ee, L1, hW, hS, hcc, hss, by omega, hl⟩
set_option maxHeartbeats 4000000 in
theorem case_1 (hF : 5041 ≤ F) (C : LWc p l s m c b L xs G) (hL : L ≤ 3072) (hi : i + 6 ≤ L) (hk : k < 512) (h : LWs G s b i k H locs cells slots ls) (back : ∀ (H : Heap) (locs : List Loc) (cells slots : Nat) (ls : Array Slot), LWs G s b i (k + 1) H locs cells slots ls → W p l e room_1 s m #[Value.ref b] below meth c H locs cells slots Q (F0 m 1480 ls [])) : W p l e room_1 s m #[Value.ref b] below meth c H locs cells slots Q (F0 m 277 ls []) := by
  obtain ⟨hx, hb, hml, hown, hT, hX, hbl, hG, hK, hTx, hst⟩ := C
  obtain ⟨sk, f, n, z, mm, st, ee, LI0, hW, hS, hcc, hss, hsk, hl⟩ := h
  have hbA : ¬ WA G b := fun h => by have h1 : G.1 ≤ b := h; omega
  have CF : CallFix p m c cL_law 8 s #[Value.ref b] TB RL := ⟨hx, hb, hml, hown, hT⟩
  refine s_aload_n hx hb dL_law_277 rfl (lv_at hl 1 rfl) ?_
  refine lv_aload_n hx hb dL_law_278 rfl (lv_at hl 0 rfl) ?_
  refine lv_iload hx hb dL_law_279 (lv_at hl 4 rfl) ?_
  refine lv_iconst (v := (1 : Int32)) hx hb dL_law_281 (by decide) ?_
  refine lv_iadd hx hb dL_law_282 ?_
  refine va_sld hx hb hX hbl hbA hS (s_in (k := 1) hi hL (by decide)) dL_law_283 ?_
  obtain ⟨v, f', m', st', e1, cO, cM, e2, L1⟩ := stp_W (k_end (F := F) (xs (nI i + (1 : Int32)).toNatClampNeg)) LI0
  have rm := LI.room LI0 hcc hss (by omega)
  refine s_callV (As := [.int (xs (nI i + (1 : Int32)).toNatClampNeg)]) (rest := []) CF hK hW hS (S_X11_end l G F e1) cO rfl gv_L_28 hd_X11_end ⟨Nat.le_of_ble_eq_true rfl, Nat.le_of_ble_eq_true rfl⟩ rfl hl.1 rfl (Nat.le_of_ble_eq_true rfl) dL_law_284 ⟨rm.1, rm.2⟩ (fun H locs hW hS => ?_)
  refine s_aload_n hx hb dL_law_287 rfl (lv_at hl 2 rfl) ?_
  refine lv_aload_n hx hb dL_law_288 rfl (lv_at hl 0 rfl) ?_
  refine lv_iload hx hb dL_law_289 (lv_at hl 4 rfl) ?_
  refine lv_iconst (v := (1 : Int32)) hx hb dL_law_291 (by decide) ?_
  refine lv_iadd hx hb dL_law_292 ?_
  refine va_sld hx hb hX hbl hbA hS (s_in (k := 1) hi hL (by decide)) dL_law_293 ?_
  refine s_callV (As := [.int (xs (nI i + (1 : Int32)).toNatClampNeg)]) (rest := [.int v]) CF hK hW hS (S_X12_end l G F e2) cM rfl gv_L_32 hd_X12_end ⟨Nat.le_of_ble_eq_true rfl, Nat.le_of_ble_eq_true rfl⟩ rfl hl.1 rfl (Nat.le_of_ble_eq_true rfl) dL_law_294 ⟨rm.1, rm.2⟩ (fun H locs hW hS => ?_)
  refine lv_icmp_eq (tgt := 1480) hx hb dL_law_297 (by decide) (fun _ => ?_) (fun q => (q rfl).elim)
  exact back _ _ _ _ _ ⟨sk, _, n, z, m', st', ee, L1, hW, hS, hcc, hss, by omega, hl⟩
set_option maxHeartbeats 4000000 in
theorem case_2 (hF : 5041 ≤ F) (C : LWc p l s m c b L xs G) (hL : L ≤ 3072) (hi : i + 6 ≤ L) (hk : k < 512) (h : LWs G s b i k H locs cells slots ls) (back : ∀ (H : Heap) (locs : List Loc) (cells slots : Nat) (ls : Array Slot), LWs G s b i (k + 1) H locs cells slots ls → W p l e room_1 s m #[Value.ref b] below meth c H locs cells slots Q (F0 m 1480 ls [])) : W p l e room_1 s m #[Value.ref b] below meth c H locs cells slots Q (F0 m 302 ls []) := by
  obtain ⟨hx, hb, hml, hown, hT, hX, hbl, hG, hK, hTx, hst⟩ := C
  obtain ⟨sk, f, n, z, mm, st, ee, LI0, hW, hS, hcc, hss, hsk, hl⟩ := h
  have hbA : ¬ WA G b := fun h => by have h1 : G.1 ≤ b := h; omega
  have CF : CallFix p m c cL_law 8 s #[Value.ref b] TB RL := ⟨hx, hb, hml, hown, hT⟩
  refine s_aload_n hx hb dL_law_302 rfl (lv_at hl 1 rfl) ?_
  obtain ⟨v, f', m', st', e1, cO, cM, e2, L1⟩ := stp_W (k_house (F := F) (by omega) ) LI0
  have rm := LI.room LI0 hcc hss (by omega)
  refine s_callV (As := []) (rest := []) CF hK hW hS (S_X11_house l G F e1) cO rfl gv_L_33 hd_X11_house ⟨Nat.le_of_ble_eq_true rfl, Nat.le_of_ble_eq_true rfl⟩ rfl hl.1 rfl (Nat.le_of_ble_eq_true rfl) dL_law_303 ⟨rm.1, rm.2⟩ (fun H locs hW hS => ?_)
  refine s_aload_n hx hb dL_law_306 rfl (lv_at hl 2 rfl) ?_
  refine s_callV (As := []) (rest := [.int v]) CF hK hW hS (S_X12_house l G F e2) cM rfl gv_L_37 hd_X12_house ⟨Nat.le_of_ble_eq_true rfl, Nat.le_of_ble_eq_true rfl⟩ rfl hl.1 rfl (Nat.le_of_ble_eq_true rfl) dL_law_307 ⟨rm.1, rm.2⟩ (fun H locs hW hS => ?_)
  refine lv_icmp_eq (tgt := 1480) hx hb dL_law_310 (by decide) (fun _ => ?_) (fun q => (q rfl).elim)
  exact back _ _ _ _ _ ⟨sk, _, n, z, m', st', ee, L1, hW, hS, hcc, hss, by omega, hl⟩
set_option maxHeartbeats 4000000 in
theorem case_3 (hF : 5041 ≤ F) (C : LWc p l s m c b L xs G) (hL : L ≤ 3072) (hi : i + 6 ≤ L) (hk : k < 512) (h : LWs G s b i k H locs cells slots ls) (back : ∀ (H : Heap) (locs : List Loc) (cells slots : Nat) (ls : Array Slot), LWs G s b i (k + 1) H locs cells slots ls → W p l e room_1 s m #[Value.ref b] below meth c H locs cells slots Q (F0 m 1480 ls [])) : W p l e room_1 s m #[Value.ref b] below meth c H locs cells slots Q (F0 m 315 ls []) := by
  obtain ⟨hx, hb, hml, hown, hT, hX, hbl, hG, hK, hTx, hst⟩ := C
  obtain ⟨sk, f, n, z, mm, st, ee, LI0, hW, hS, hcc, hss, hsk, hl⟩ := h
  have hbA : ¬ WA G b := fun h => by have h1 : G.1 ≤ b := h; omega
  have CF : CallFix p m c cL_law 8 s #[Value.ref b] TB RL := ⟨hx, hb, hml, hown, hT⟩
  refine s_aload_n hx hb dL_law_315 rfl (lv_at hl 1 rfl) ?_
  obtain ⟨v, st', e1, cO, cM, e2, L1⟩ := stp_R (k_fault (F := F) ) LI0
  have rm := LI.room LI0 hcc hss (by omega)
  refine s_callV (As := []) (rest := []) CF hK hW hS (S_X11_fault l G F e1) cO rfl gv_L_38 hd_X11_fault ⟨Nat.le_of_ble_eq_true rfl, Nat.le_of_ble_eq_true rfl⟩ rfl hl.1 rfl (Nat.le_of_ble_eq_true rfl) dL_law_316 ⟨rm.1, rm.2⟩ (fun H locs hW hS => ?_)
  refine s_aload_n hx hb dL_law_319 rfl (lv_at hl 2 rfl) ?_
  refine s_callV (As := []) (rest := [.int v]) CF hK hW hS (S_X12_fault l G F e2) cM rfl gv_L_41 hd_X12_fault ⟨Nat.le_of_ble_eq_true rfl, Nat.le_of_ble_eq_true rfl⟩ rfl hl.1 rfl (Nat.le_of_ble_eq_true rfl) dL_law_320 ⟨rm.1, rm.2⟩ (fun H locs hW hS => ?_)
  refine lv_icmp_eq (tgt := 1480) hx hb dL_law_323 (by decide) (fun _ => ?_) (fun q => (q rfl).elim)
  exact back _ _ _ _ _ ⟨sk, _, n, z, mm, st', ee, L1, hW, hS, hcc, hss, by omega, hl⟩
set_option maxHeartbeats 4000000 in
theorem case_5 (hF : 5041 ≤ F) (C : LWc p l s m c b L xs G) (hL : L ≤ 3072) (hi : i + 6 ≤ L) (hk : k < 512) (h : LWs G s b i k H locs cells slots ls) (back : ∀ (H : Heap) (locs : List Loc) (cells slots : Nat) (ls : Array Slot), LWs G s b i (k + 1) H locs cells slots ls → W p l e room_1 s m #[Value.ref b] below meth c H locs cells slots Q (F0 m 1480 ls [])) : W p l e room_1 s m #[Value.ref b] below meth c H locs cells slots Q (F0 m 396 ls []) := by
  obtain ⟨hx, hb, hml, hown, hT, hX, hbl, hG, hK, hTx, hst⟩ := C
  obtain ⟨sk, f, n, z, mm, st, ee, LI0, hW, hS, hcc, hss, hsk, hl⟩ := h
  have hbA : ¬ WA G b := fun h => by have h1 : G.1 ≤ b := h; omega
  have CF : CallFix p m c cL_law 8 s #[Value.ref b] TB RL := ⟨hx, hb, hml, hown, hT⟩
  refine s_aload_n hx hb dL_law_396 rfl (lv_at hl 1 rfl) ?_
  refine lv_aload_n hx hb dL_law_397 rfl (lv_at hl 0 rfl) ?_
  refine lv_iload hx hb dL_law_398 (lv_at hl 4 rfl) ?_
  refine lv_iconst (v := (1 : Int32)) hx hb dL_law_400 (by decide) ?_
  refine lv_iadd hx hb dL_law_401 ?_
  refine va_sld hx hb hX hbl hbA hS (s_in (k := 1) hi hL (by decide)) dL_law_402 ?_
  obtain ⟨v, st', e1, cO, cM, e2, L1⟩ := stp_R (k_size (F := F) (by omega) (xs (nI i + (1 : Int32)).toNatClampNeg)) LI0
  have rm := LI.room LI0 hcc hss (by omega)
  refine s_callV (As := [.int (xs (nI i + (1 : Int32)).toNatClampNeg)]) (rest := []) CF hK hW hS (S_X11_size l G F e1) cO rfl gv_L_51 hd_X11_size ⟨Nat.le_of_ble_eq_true rfl, Nat.le_of_ble_eq_true rfl⟩ rfl hl.1 rfl (Nat.le_of_ble_eq_true rfl) dL_law_403 ⟨rm.1, rm.2⟩ (fun H locs hW hS => ?_)
  refine s_aload_n hx hb dL_law_406 rfl (lv_at hl 2 rfl) ?_
  refine lv_aload_n hx hb dL_law_407 rfl (lv_at hl 0 rfl) ?_
  refine lv_iload hx hb dL_law_408 (lv_at hl 4 rfl) ?_
  refine lv_iconst (v := (1 : Int32)) hx hb dL_law_410 (by decide) ?_
  refine lv_iadd hx hb dL_law_411 ?_
  refine va_sld hx hb hX hbl hbA hS (s_in (k := 1) hi hL (by decide)) dL_law_412 ?_
  refine s_callV (As := [.int (xs (nI i + (1 : Int32)).toNatClampNeg)]) (rest := [.int v]) CF hK hW hS (S_X12_size l G F e2) cM rfl gv_L_55 hd_X12_size ⟨Nat.le_of_ble_eq_true rfl, Nat.le_of_ble_eq_true rfl⟩ rfl hl.1 rfl (Nat.le_of_ble_eq_true rfl) dL_law_413 ⟨rm.1, rm.2⟩ (fun H locs hW hS => ?_)
  refine lv_icmp_eq (tgt := 1480) hx hb dL_law_416 (by decide) (fun _ => ?_) (fun q => (q rfl).elim)
  exact back _ _ _ _ _ ⟨sk, _, n, z, mm, st', ee, L1, hW, hS, hcc, hss, by omega, hl⟩
set_option maxHeartbeats 4000000 in
theorem case_6 (hF : 5041 ≤ F) (C : LWc p l s m c b L xs G) (hL : L ≤ 3072) (hi : i + 6 ≤ L) (hk : k < 512) (h : LWs G s b i k H locs cells slots ls) (back : ∀ (H : Heap) (locs : List Loc) (cells slots : Nat) (ls : Array Slot), LWs G s b i (k + 1) H locs cells slots ls → W p l e room_1 s m #[Value.ref b] below meth c H locs cells slots Q (F0 m 1480 ls [])) : W p l e room_1 s m #[Value.ref b] below meth c H locs cells slots Q (F0 m 421 ls []) := by
  obtain ⟨hx, hb, hml, hown, hT, hX, hbl, hG, hK, hTx, hst⟩ := C
  obtain ⟨sk, f, n, z, mm, st, ee, LI0, hW, hS, hcc, hss, hsk, hl⟩ := h
  have hbA : ¬ WA G b := fun h => by have h1 : G.1 ≤ b := h; omega
  have CF : CallFix p m c cL_law 8 s #[Value.ref b] TB RL := ⟨hx, hb, hml, hown, hT⟩
  refine s_aload_n hx hb dL_law_421 rfl (lv_at hl 1 rfl) ?_
  obtain ⟨v, f', m', st', e1, cO, cM, e2, L1⟩ := stp_W (k_add (F := F) (by omega) ) LI0
  have rm := LI.room LI0 hcc hss (by omega)
  refine s_callV (As := []) (rest := []) CF hK hW hS (S_X11_add l G F e1) cO rfl gv_L_56 hd_X11_add ⟨Nat.le_of_ble_eq_true rfl, Nat.le_of_ble_eq_true rfl⟩ rfl hl.1 rfl (Nat.le_of_ble_eq_true rfl) dL_law_422 ⟨rm.1, rm.2⟩ (fun H locs hW hS => ?_)
  refine s_aload_n hx hb dL_law_425 rfl (lv_at hl 2 rfl) ?_
  refine s_callV (As := []) (rest := [.int v]) CF hK hW hS (S_X12_add l G F e2) cM rfl gv_L_59 hd_X12_add ⟨Nat.le_of_ble_eq_true rfl, Nat.le_of_ble_eq_true rfl⟩ rfl hl.1 rfl (Nat.le_of_ble_eq_true rfl) dL_law_426 ⟨rm.1, rm.2⟩ (fun H locs hW hS => ?_)
  refine lv_icmp_eq (tgt := 1480) hx hb dL_law_429 (by decide) (fun _ => ?_) (fun q => (q rfl).elim)
  exact back _ _ _ _ _ ⟨sk, _, n, z, m', st', ee, L1, hW, hS, hcc, hss, by omega, hl⟩
set_option maxHeartbeats 4000000 in
theorem case_7 (hF : 5041 ≤ F) (C : LWc p l s m c b L xs G) (hL : L ≤ 3072) (hi : i + 6 ≤ L) (hk : k < 512) (h : LWs G s b i k H locs cells slots ls) (back : ∀ (H : Heap) (locs : List Loc) (cells slots : Nat) (ls : Array Slot), LWs G s b i (k + 1) H locs cells slots ls → W p l e room_1 s m #[Value.ref b] below meth c H locs cells slots Q (F0 m 1480 ls [])) : W p l e room_1 s m #[Value.ref b] below meth c H locs cells slots Q (F0 m 434 ls []) := by
  obtain ⟨hx, hb, hml, hown, hT, hX, hbl, hG, hK, hTx, hst⟩ := C
  obtain ⟨sk, f, n, z, mm, st, ee, LI0, hW, hS, hcc, hss, hsk, hl⟩ := h
  have hbA : ¬ WA G b := fun h => by have h1 : G.1 ≤ b := h; omega
  have CF : CallFix p m c cL_law 8 s #[Value.ref b] TB RL := ⟨hx, hb, hml, hown, hT⟩
  refine s_aload_n hx hb dL_law_434 rfl (lv_at hl 1 rfl) ?_
  refine lv_aload_n hx hb dL_law_435 rfl (lv_at hl 0 rfl) ?_
  refine lv_iload hx hb dL_law_436 (lv_at hl 4 rfl) ?_
  refine lv_iconst (v := (1 : Int32)) hx hb dL_law_438 (by decide) ?_
  refine lv_iadd hx hb dL_law_439 ?_
  refine va_sld hx hb hX hbl hbA hS (s_in (k := 1) hi hL (by decide)) dL_law_440 ?_
  refine lv_aload_n hx hb dL_law_441 rfl (lv_at hl 0 rfl) ?_
  refine lv_iload hx hb dL_law_442 (lv_at hl 4 rfl) ?_
  refine lv_iconst (v := (2 : Int32)) hx hb dL_law_444 (by decide) ?_
  refine lv_iadd hx hb dL_law_445 ?_
  refine va_sld hx hb hX hbl hbA hS (s_in (k := 2) hi hL (by decide)) dL_law_446 ?_
  obtain ⟨v, f', n', z', m', st', e1, hn, hz, cO, cM, e2, L1⟩ := stp_A (k_order (F := F) (by omega) (xs (nI i + (1 : Int32)).toNatClampNeg) (xs (nI i + (2 : Int32)).toNatClampNeg)) LI0
  have hcc1 : cells + (n' - n) + 100 = n' + ee := by omega
  have hss1 : slots + (z' - z) = z' + 6 * ee := by omega
  have rm := LI.room L1 hcc1 hss1 (by omega)
  refine s_callV (As := [.int (xs (nI i + (1 : Int32)).toNatClampNeg), .int (xs (nI i + (2 : Int32)).toNatClampNeg)]) (rest := []) CF hK hW hS (S_X11_order l G F e1) cO rfl gv_L_60 hd_X11_order ⟨Nat.le_of_ble_eq_true rfl, Nat.le_of_ble_eq_true rfl⟩ rfl hl.1 rfl (Nat.le_of_ble_eq_true rfl) dL_law_447 ⟨rm.1, rm.2⟩ (fun H locs hW hS => ?_)
  refine s_aload_n hx hb dL_law_450 rfl (lv_at hl 2 rfl) ?_
  refine lv_aload_n hx hb dL_law_451 rfl (lv_at hl 0 rfl) ?_
  refine lv_iload hx hb dL_law_452 (lv_at hl 4 rfl) ?_
  refine lv_iconst (v := (1 : Int32)) hx hb dL_law_454 (by decide) ?_
  refine lv_iadd hx hb dL_law_455 ?_
  refine va_sld hx hb hX hbl hbA hS (s_in (k := 1) hi hL (by decide)) dL_law_456 ?_
  refine lv_aload_n hx hb dL_law_457 rfl (lv_at hl 0 rfl) ?_
  refine lv_iload hx hb dL_law_458 (lv_at hl 4 rfl) ?_
  refine lv_iconst (v := (2 : Int32)) hx hb dL_law_460 (by decide) ?_
  refine lv_iadd hx hb dL_law_461 ?_
  refine va_sld hx hb hX hbl hbA hS (s_in (k := 2) hi hL (by decide)) dL_law_462 ?_
  refine s_callV (As := [.int (xs (nI i + (1 : Int32)).toNatClampNeg), .int (xs (nI i + (2 : Int32)).toNatClampNeg)]) (rest := [.int v]) CF hK hW hS (S_X12_order l G F e2) cM rfl gv_L_63 hd_X12_order ⟨Nat.le_of_ble_eq_true rfl, Nat.le_of_ble_eq_true rfl⟩ rfl hl.1 rfl (Nat.le_of_ble_eq_true rfl) dL_law_463 ⟨rm.1, rm.2⟩ (fun H locs hW hS => ?_)
  refine lv_icmp_eq (tgt := 1480) hx hb dL_law_466 (by decide) (fun _ => ?_) (fun q => (q rfl).elim)
  exact back _ _ _ _ _ ⟨sk, _, n', z', m', st', ee, L1, hW, hS, hcc1, hss1, by omega, hl⟩
set_option maxHeartbeats 4000000 in
theorem case_8 (hF : 5041 ≤ F) (C : LWc p l s m c b L xs G) (hL : L ≤ 3072) (hi : i + 6 ≤ L) (hk : k < 512) (h : LWs G s b i k H locs cells slots ls) (back : ∀ (H : Heap) (locs : List Loc) (cells slots : Nat) (ls : Array Slot), LWs G s b i (k + 1) H locs cells slots ls → W p l e room_1 s m #[Value.ref b] below meth c H locs cells slots Q (F0 m 1480 ls [])) : W p l e room_1 s m #[Value.ref b] below meth c H locs cells slots Q (F0 m 471 ls []) := by
  obtain ⟨hx, hb, hml, hown, hT, hX, hbl, hG, hK, hTx, hst⟩ := C
  obtain ⟨sk, f, n, z, mm, st, ee, LI0, hW, hS, hcc, hss, hsk, hl⟩ := h
  have hbA : ¬ WA G b := fun h => by have h1 : G.1 ≤ b := h; omega
  have CF : CallFix p m c cL_law 8 s #[Value.ref b] TB RL := ⟨hx, hb, hml, hown, hT⟩
  refine s_aload_n hx hb dL_law_471 rfl (lv_at hl 1 rfl) ?_
  refine lv_aload_n hx hb dL_law_472 rfl (lv_at hl 0 rfl) ?_
  refine lv_iload hx hb dL_law_473 (lv_at hl 4 rfl) ?_
  refine lv_iconst (v := (1 : Int32)) hx hb dL_law_475 (by decide) ?_
  refine lv_iadd hx hb dL_law_476 ?_
  refine va_sld hx hb hX hbl hbA hS (s_in (k := 1) hi hL (by decide)) dL_law_477 ?_
  refine lv_aload_n hx hb dL_law_478 rfl (lv_at hl 0 rfl) ?_
  refine lv_iload hx hb dL_law_479 (lv_at hl 4 rfl) ?_
  refine lv_iconst (v := (2 : Int32)) hx hb dL_law_481 (by decide) ?_
  refine lv_iadd hx hb dL_law_482 ?_
  refine va_sld hx hb hX hbl hbA hS (s_in (k := 2) hi hL (by decide)) dL_law_483 ?_
  refine lv_aload_n hx hb dL_law_484 rfl (lv_at hl 0 rfl) ?_
  refine lv_iload hx hb dL_law_485 (lv_at hl 4 rfl) ?_
  refine lv_iconst (v := (3 : Int32)) hx hb dL_law_487 (by decide) ?_
  refine lv_iadd hx hb dL_law_488 ?_
  refine va_sld hx hb hX hbl hbA hS (s_in (k := 3) hi hL (by decide)) dL_law_489 ?_
  obtain ⟨v, st', e1, cO, cM, e2, L1⟩ := stp_R (k_between (F := F) (by omega) (xs (nI i + (1 : Int32)).toNatClampNeg) (xs (nI i + (2 : Int32)).toNatClampNeg) (xs (nI i + (3 : Int32)).toNatClampNeg)) LI0
  have rm := LI.room LI0 hcc hss (by omega)
  refine s_callV (As := [.int (xs (nI i + (1 : Int32)).toNatClampNeg), .int (xs (nI i + (2 : Int32)).toNatClampNeg), .int (xs (nI i + (3 : Int32)).toNatClampNeg)]) (rest := []) CF hK hW hS (S_X11_between l G F e1) cO rfl gv_L_64 hd_X11_between ⟨Nat.le_of_ble_eq_true rfl, Nat.le_of_ble_eq_true rfl⟩ rfl hl.1 rfl (Nat.le_of_ble_eq_true rfl) dL_law_490 ⟨rm.1, rm.2⟩ (fun H locs hW hS => ?_)
  refine s_aload_n hx hb dL_law_493 rfl (lv_at hl 2 rfl) ?_
  refine lv_aload_n hx hb dL_law_494 rfl (lv_at hl 0 rfl) ?_
  refine lv_iload hx hb dL_law_495 (lv_at hl 4 rfl) ?_
  refine lv_iconst (v := (1 : Int32)) hx hb dL_law_497 (by decide) ?_
  refine lv_iadd hx hb dL_law_498 ?_
  refine va_sld hx hb hX hbl hbA hS (s_in (k := 1) hi hL (by decide)) dL_law_499 ?_
  refine lv_aload_n hx hb dL_law_500 rfl (lv_at hl 0 rfl) ?_
  refine lv_iload hx hb dL_law_501 (lv_at hl 4 rfl) ?_
  refine lv_iconst (v := (2 : Int32)) hx hb dL_law_503 (by decide) ?_
  refine lv_iadd hx hb dL_law_504 ?_
  refine va_sld hx hb hX hbl hbA hS (s_in (k := 2) hi hL (by decide)) dL_law_505 ?_
  refine lv_aload_n hx hb dL_law_506 rfl (lv_at hl 0 rfl) ?_
  refine lv_iload hx hb dL_law_507 (lv_at hl 4 rfl) ?_
  refine lv_iconst (v := (3 : Int32)) hx hb dL_law_509 (by decide) ?_
  refine lv_iadd hx hb dL_law_510 ?_
  refine va_sld hx hb hX hbl hbA hS (s_in (k := 3) hi hL (by decide)) dL_law_511 ?_
  refine s_callV (As := [.int (xs (nI i + (1 : Int32)).toNatClampNeg), .int (xs (nI i + (2 : Int32)).toNatClampNeg), .int (xs (nI i + (3 : Int32)).toNatClampNeg)]) (rest := [.int v]) CF hK hW hS (S_X12_between l G F e2) cM rfl gv_L_68 hd_X12_between ⟨Nat.le_of_ble_eq_true rfl, Nat.le_of_ble_eq_true rfl⟩ rfl hl.1 rfl (Nat.le_of_ble_eq_true rfl) dL_law_512 ⟨rm.1, rm.2⟩ (fun H locs hW hS => ?_)
  refine lv_icmp_eq (tgt := 1480) hx hb dL_law_515 (by decide) (fun _ => ?_) (fun q => (q rfl).elim)
  exact back _ _ _ _ _ ⟨sk, _, n, z, mm, st', ee, L1, hW, hS, hcc, hss, by omega, hl⟩
set_option maxHeartbeats 4000000 in
theorem case_9 (hF : 5041 ≤ F) (C : LWc p l s m c b L xs G) (hL : L ≤ 3072) (hi : i + 6 ≤ L) (hk : k < 512) (h : LWs G s b i k H locs cells slots ls) (back : ∀ (H : Heap) (locs : List Loc) (cells slots : Nat) (ls : Array Slot), LWs G s b i (k + 1) H locs cells slots ls → W p l e room_1 s m #[Value.ref b] below meth c H locs cells slots Q (F0 m 1480 ls [])) : W p l e room_1 s m #[Value.ref b] below meth c H locs cells slots Q (F0 m 520 ls []) := by
  obtain ⟨hx, hb, hml, hown, hT, hX, hbl, hG, hK, hTx, hst⟩ := C
  obtain ⟨sk, f, n, z, mm, st, ee, LI0, hW, hS, hcc, hss, hsk, hl⟩ := h
  have hbA : ¬ WA G b := fun h => by have h1 : G.1 ≤ b := h; omega
  have CF : CallFix p m c cL_law 8 s #[Value.ref b] TB RL := ⟨hx, hb, hml, hown, hT⟩
  refine s_aload_n hx hb dL_law_520 rfl (lv_at hl 1 rfl) ?_
  refine lv_aload_n hx hb dL_law_521 rfl (lv_at hl 0 rfl) ?_
  refine lv_iload hx hb dL_law_522 (lv_at hl 4 rfl) ?_
  refine lv_iconst (v := (1 : Int32)) hx hb dL_law_524 (by decide) ?_
  refine lv_iadd hx hb dL_law_525 ?_
  refine va_sld hx hb hX hbl hbA hS (s_in (k := 1) hi hL (by decide)) dL_law_526 ?_
  refine lv_aload_n hx hb dL_law_527 rfl (lv_at hl 0 rfl) ?_
  refine lv_iload hx hb dL_law_528 (lv_at hl 4 rfl) ?_
  refine lv_iconst (v := (2 : Int32)) hx hb dL_law_530 (by decide) ?_
  refine lv_iadd hx hb dL_law_531 ?_
  refine va_sld hx hb hX hbl hbA hS (s_in (k := 2) hi hL (by decide)) dL_law_532 ?_
  obtain ⟨v, st', e1, cO, cM, e2, L1⟩ := stp_R (k_made (F := F) (by omega) (xs (nI i + (1 : Int32)).toNatClampNeg) (xs (nI i + (2 : Int32)).toNatClampNeg)) LI0
  have rm := LI.room LI0 hcc hss (by omega)
  refine s_callV (As := [.int (xs (nI i + (1 : Int32)).toNatClampNeg), .int (xs (nI i + (2 : Int32)).toNatClampNeg)]) (rest := []) CF hK hW hS (S_X11_made l G F e1) cO rfl gv_L_69 hd_X11_made ⟨Nat.le_of_ble_eq_true rfl, Nat.le_of_ble_eq_true rfl⟩ rfl hl.1 rfl (Nat.le_of_ble_eq_true rfl) dL_law_533 ⟨rm.1, rm.2⟩ (fun H locs hW hS => ?_)
  refine s_aload_n hx hb dL_law_536 rfl (lv_at hl 2 rfl) ?_
  refine lv_aload_n hx hb dL_law_537 rfl (lv_at hl 0 rfl) ?_
  refine lv_iload hx hb dL_law_538 (lv_at hl 4 rfl) ?_
  refine lv_iconst (v := (1 : Int32)) hx hb dL_law_540 (by decide) ?_
  refine lv_iadd hx hb dL_law_541 ?_
  refine va_sld hx hb hX hbl hbA hS (s_in (k := 1) hi hL (by decide)) dL_law_542 ?_
  refine lv_aload_n hx hb dL_law_543 rfl (lv_at hl 0 rfl) ?_
  refine lv_iload hx hb dL_law_544 (lv_at hl 4 rfl) ?_
  refine lv_iconst (v := (2 : Int32)) hx hb dL_law_546 (by decide) ?_
  refine lv_iadd hx hb dL_law_547 ?_
  refine va_sld hx hb hX hbl hbA hS (s_in (k := 2) hi hL (by decide)) dL_law_548 ?_
  refine s_callV (As := [.int (xs (nI i + (1 : Int32)).toNatClampNeg), .int (xs (nI i + (2 : Int32)).toNatClampNeg)]) (rest := [.int v]) CF hK hW hS (S_X12_made l G F e2) cM rfl gv_L_72 hd_X12_made ⟨Nat.le_of_ble_eq_true rfl, Nat.le_of_ble_eq_true rfl⟩ rfl hl.1 rfl (Nat.le_of_ble_eq_true rfl) dL_law_549 ⟨rm.1, rm.2⟩ (fun H locs hW hS => ?_)
  refine lv_icmp_eq (tgt := 1480) hx hb dL_law_552 (by decide) (fun _ => ?_) (fun q => (q rfl).elim)
  exact back _ _ _ _ _ ⟨sk, _, n, z, mm, st', ee, L1, hW, hS, hcc, hss, by omega, hl⟩
set_option maxHeartbeats 4000000 in
theorem case_10 (hF : 5041 ≤ F) (C : LWc p l s m c b L xs G) (hL : L ≤ 3072) (hi : i + 6 ≤ L) (hk : k < 512) (h : LWs G s b i k H locs cells slots ls) (back : ∀ (H : Heap) (locs : List Loc) (cells slots : Nat) (ls : Array Slot), LWs G s b i (k + 1) H locs cells slots ls → W p l e room_1 s m #[Value.ref b] below meth c H locs cells slots Q (F0 m 1480 ls [])) : W p l e room_1 s m #[Value.ref b] below meth c H locs cells slots Q (F0 m 557 ls []) := by
  obtain ⟨hx, hb, hml, hown, hT, hX, hbl, hG, hK, hTx, hst⟩ := C
  obtain ⟨sk, f, n, z, mm, st, ee, LI0, hW, hS, hcc, hss, hsk, hl⟩ := h
  have hbA : ¬ WA G b := fun h => by have h1 : G.1 ≤ b := h; omega
  have CF : CallFix p m c cL_law 8 s #[Value.ref b] TB RL := ⟨hx, hb, hml, hown, hT⟩
  refine s_aload_n hx hb dL_law_557 rfl (lv_at hl 1 rfl) ?_
  refine lv_aload_n hx hb dL_law_558 rfl (lv_at hl 0 rfl) ?_
  refine lv_iload hx hb dL_law_559 (lv_at hl 4 rfl) ?_
  refine lv_iconst (v := (1 : Int32)) hx hb dL_law_561 (by decide) ?_
  refine lv_iadd hx hb dL_law_562 ?_
  refine va_sld hx hb hX hbl hbA hS (s_in (k := 1) hi hL (by decide)) dL_law_563 ?_
  refine lv_aload_n hx hb dL_law_564 rfl (lv_at hl 0 rfl) ?_
  refine lv_iload hx hb dL_law_565 (lv_at hl 4 rfl) ?_
  refine lv_iconst (v := (2 : Int32)) hx hb dL_law_567 (by decide) ?_
  refine lv_iadd hx hb dL_law_568 ?_
  refine va_sld hx hb hX hbl hbA hS (s_in (k := 2) hi hL (by decide)) dL_law_569 ?_
  refine lv_aload_n hx hb dL_law_570 rfl (lv_at hl 0 rfl) ?_
  refine lv_iload hx hb dL_law_571 (lv_at hl 4 rfl) ?_
  refine lv_iconst (v := (3 : Int32)) hx hb dL_law_573 (by decide) ?_
  refine lv_iadd hx hb dL_law_574 ?_
  refine va_sld hx hb hX hbl hbA hS (s_in (k := 3) hi hL (by decide)) dL_law_575 ?_
  obtain ⟨v, st', e1, cO, cM, e2, L1⟩ := stp_R (k_fewest (F := F) (by omega) (xs (nI i + (1 : Int32)).toNatClampNeg) (xs (nI i + (2 : Int32)).toNatClampNeg) (xs (nI i + (3 : Int32)).toNatClampNeg)) LI0
  have rm := LI.room LI0 hcc hss (by omega)
  refine s_callV (As := [.int (xs (nI i + (1 : Int32)).toNatClampNeg), .int (xs (nI i + (2 : Int32)).toNatClampNeg), .int (xs (nI i + (3 : Int32)).toNatClampNeg)]) (rest := []) CF hK hW hS (S_X11_fewest l G F e1) cO rfl gv_L_73 hd_X11_fewest ⟨Nat.le_of_ble_eq_true rfl, Nat.le_of_ble_eq_true rfl⟩ rfl hl.1 rfl (Nat.le_of_ble_eq_true rfl) dL_law_576 ⟨rm.1, rm.2⟩ (fun H locs hW hS => ?_)
  refine s_aload_n hx hb dL_law_579 rfl (lv_at hl 2 rfl) ?_
  refine lv_aload_n hx hb dL_law_580 rfl (lv_at hl 0 rfl) ?_
  refine lv_iload hx hb dL_law_581 (lv_at hl 4 rfl) ?_
  refine lv_iconst (v := (1 : Int32)) hx hb dL_law_583 (by decide) ?_
  refine lv_iadd hx hb dL_law_584 ?_
  refine va_sld hx hb hX hbl hbA hS (s_in (k := 1) hi hL (by decide)) dL_law_585 ?_
  refine lv_aload_n hx hb dL_law_586 rfl (lv_at hl 0 rfl) ?_
  refine lv_iload hx hb dL_law_587 (lv_at hl 4 rfl) ?_
  refine lv_iconst (v := (2 : Int32)) hx hb dL_law_589 (by decide) ?_
  refine lv_iadd hx hb dL_law_590 ?_
  refine va_sld hx hb hX hbl hbA hS (s_in (k := 2) hi hL (by decide)) dL_law_591 ?_
  refine lv_aload_n hx hb dL_law_592 rfl (lv_at hl 0 rfl) ?_
  refine lv_iload hx hb dL_law_593 (lv_at hl 4 rfl) ?_
  refine lv_iconst (v := (3 : Int32)) hx hb dL_law_595 (by decide) ?_
  refine lv_iadd hx hb dL_law_596 ?_
  refine va_sld hx hb hX hbl hbA hS (s_in (k := 3) hi hL (by decide)) dL_law_597 ?_
  refine s_callV (As := [.int (xs (nI i + (1 : Int32)).toNatClampNeg), .int (xs (nI i + (2 : Int32)).toNatClampNeg), .int (xs (nI i + (3 : Int32)).toNatClampNeg)]) (rest := [.int v]) CF hK hW hS (S_X12_fewest l G F e2) cM rfl gv_L_76 hd_X12_fewest ⟨Nat.le_of_ble_eq_true rfl, Nat.le_of_ble_eq_true rfl⟩ rfl hl.1 rfl (Nat.le_of_ble_eq_true rfl) dL_law_598 ⟨rm.1, rm.2⟩ (fun H locs hW hS => ?_)
  refine lv_icmp_eq (tgt := 1480) hx hb dL_law_601 (by decide) (fun _ => ?_) (fun q => (q rfl).elim)
  exact back _ _ _ _ _ ⟨sk, _, n, z, mm, st', ee, L1, hW, hS, hcc, hss, by omega, hl⟩
set_option maxHeartbeats 4000000 in
theorem case_11 (hF : 5041 ≤ F) (C : LWc p l s m c b L xs G) (hL : L ≤ 3072) (hi : i + 6 ≤ L) (hk : k < 512) (h : LWs G s b i k H locs cells slots ls) (back : ∀ (H : Heap) (locs : List Loc) (cells slots : Nat) (ls : Array Slot), LWs G s b i (k + 1) H locs cells slots ls → W p l e room_1 s m #[Value.ref b] below meth c H locs cells slots Q (F0 m 1480 ls [])) : W p l e room_1 s m #[Value.ref b] below meth c H locs cells slots Q (F0 m 606 ls []) := by
  obtain ⟨hx, hb, hml, hown, hT, hX, hbl, hG, hK, hTx, hst⟩ := C
  obtain ⟨sk, f, n, z, mm, st, ee, LI0, hW, hS, hcc, hss, hsk, hl⟩ := h
  have hbA : ¬ WA G b := fun h => by have h1 : G.1 ≤ b := h; omega
  have CF : CallFix p m c cL_law 8 s #[Value.ref b] TB RL := ⟨hx, hb, hml, hown, hT⟩
  refine s_aload_n hx hb dL_law_606 rfl (lv_at hl 1 rfl) ?_
  refine lv_aload_n hx hb dL_law_607 rfl (lv_at hl 0 rfl) ?_
  refine lv_iload hx hb dL_law_608 (lv_at hl 4 rfl) ?_
  refine lv_iconst (v := (1 : Int32)) hx hb dL_law_610 (by decide) ?_
  refine lv_iadd hx hb dL_law_611 ?_
  refine va_sld hx hb hX hbl hbA hS (s_in (k := 1) hi hL (by decide)) dL_law_612 ?_
  refine lv_aload_n hx hb dL_law_613 rfl (lv_at hl 0 rfl) ?_
  refine lv_iload hx hb dL_law_614 (lv_at hl 4 rfl) ?_
  refine lv_iconst (v := (2 : Int32)) hx hb dL_law_616 (by decide) ?_
  refine lv_iadd hx hb dL_law_617 ?_
  refine va_sld hx hb hX hbl hbA hS (s_in (k := 2) hi hL (by decide)) dL_law_618 ?_
  refine lv_aload_n hx hb dL_law_619 rfl (lv_at hl 0 rfl) ?_
  refine lv_iload hx hb dL_law_620 (lv_at hl 4 rfl) ?_
  refine lv_iconst (v := (3 : Int32)) hx hb dL_law_622 (by decide) ?_
  refine lv_iadd hx hb dL_law_623 ?_
  refine va_sld hx hb hX hbl hbA hS (s_in (k := 3) hi hL (by decide)) dL_law_624 ?_
  refine lv_aload_n hx hb dL_law_625 rfl (lv_at hl 0 rfl) ?_
  refine lv_iload hx hb dL_law_626 (lv_at hl 4 rfl) ?_
  refine lv_iconst (v := (4 : Int32)) hx hb dL_law_628 (by decide) ?_
  refine lv_iadd hx hb dL_law_629 ?_
  refine va_sld hx hb hX hbl hbA hS (s_in (k := 4) hi hL (by decide)) dL_law_630 ?_
  obtain ⟨v, st', e1, cO, cM, e2, L1⟩ := stp_R (k_just (F := F) (by omega) (xs (nI i + (1 : Int32)).toNatClampNeg) (xs (nI i + (2 : Int32)).toNatClampNeg) (xs (nI i + (3 : Int32)).toNatClampNeg) (xs (nI i + (4 : Int32)).toNatClampNeg)) LI0
  have rm := LI.room LI0 hcc hss (by omega)
  refine s_callV (As := [.int (xs (nI i + (1 : Int32)).toNatClampNeg), .int (xs (nI i + (2 : Int32)).toNatClampNeg), .int (xs (nI i + (3 : Int32)).toNatClampNeg), .int (xs (nI i + (4 : Int32)).toNatClampNeg)]) (rest := []) CF hK hW hS (S_X11_just l G F e1) cO rfl gv_L_77 hd_X11_just ⟨Nat.le_of_ble_eq_true rfl, Nat.le_of_ble_eq_true rfl⟩ rfl hl.1 rfl (Nat.le_of_ble_eq_true rfl) dL_law_631 ⟨rm.1, rm.2⟩ (fun H locs hW hS => ?_)
  refine s_aload_n hx hb dL_law_634 rfl (lv_at hl 2 rfl) ?_
  refine lv_aload_n hx hb dL_law_635 rfl (lv_at hl 0 rfl) ?_
  refine lv_iload hx hb dL_law_636 (lv_at hl 4 rfl) ?_
  refine lv_iconst (v := (1 : Int32)) hx hb dL_law_638 (by decide) ?_
  refine lv_iadd hx hb dL_law_639 ?_
  refine va_sld hx hb hX hbl hbA hS (s_in (k := 1) hi hL (by decide)) dL_law_640 ?_
  refine lv_aload_n hx hb dL_law_641 rfl (lv_at hl 0 rfl) ?_
  refine lv_iload hx hb dL_law_642 (lv_at hl 4 rfl) ?_
  refine lv_iconst (v := (2 : Int32)) hx hb dL_law_644 (by decide) ?_
  refine lv_iadd hx hb dL_law_645 ?_
  refine va_sld hx hb hX hbl hbA hS (s_in (k := 2) hi hL (by decide)) dL_law_646 ?_
  refine lv_aload_n hx hb dL_law_647 rfl (lv_at hl 0 rfl) ?_
  refine lv_iload hx hb dL_law_648 (lv_at hl 4 rfl) ?_
  refine lv_iconst (v := (3 : Int32)) hx hb dL_law_650 (by decide) ?_
  refine lv_iadd hx hb dL_law_651 ?_
  refine va_sld hx hb hX hbl hbA hS (s_in (k := 3) hi hL (by decide)) dL_law_652 ?_
  refine lv_aload_n hx hb dL_law_653 rfl (lv_at hl 0 rfl) ?_
  refine lv_iload hx hb dL_law_654 (lv_at hl 4 rfl) ?_
  refine lv_iconst (v := (4 : Int32)) hx hb dL_law_656 (by decide) ?_
  refine lv_iadd hx hb dL_law_657 ?_
  refine va_sld hx hb hX hbl hbA hS (s_in (k := 4) hi hL (by decide)) dL_law_658 ?_
  refine s_callV (As := [.int (xs (nI i + (1 : Int32)).toNatClampNeg), .int (xs (nI i + (2 : Int32)).toNatClampNeg), .int (xs (nI i + (3 : Int32)).toNatClampNeg), .int (xs (nI i + (4 : Int32)).toNatClampNeg)]) (rest := [.int v]) CF hK hW hS (S_X12_just l G F e2) cM rfl gv_L_81 hd_X12_just ⟨Nat.le_of_ble_eq_true rfl, Nat.le_of_ble_eq_true rfl⟩ rfl hl.1 rfl (Nat.le_of_ble_eq_true rfl) dL_law_659 ⟨rm.1, rm.2⟩ (fun H locs hW hS => ?_)
  refine lv_icmp_eq (tgt := 1480) hx hb dL_law_662 (by decide) (fun _ => ?_) (fun q => (q rfl).elim)
  exact back _ _ _ _ _ ⟨sk, _, n, z, mm, st', ee, L1, hW, hS, hcc, hss, by omega, hl⟩
set_option maxHeartbeats 4000000 in
theorem case_12 (hF : 5041 ≤ F) (C : LWc p l s m c b L xs G) (hL : L ≤ 3072) (hi : i + 6 ≤ L) (hk : k < 512) (h : LWs G s b i k H locs cells slots ls) (back : ∀ (H : Heap) (locs : List Loc) (cells slots : Nat) (ls : Array Slot), LWs G s b i (k + 1) H locs cells slots ls → W p l e room_1 s m #[Value.ref b] below meth c H locs cells slots Q (F0 m 1480 ls [])) : W p l e room_1 s m #[Value.ref b] below meth c H locs cells slots Q (F0 m 667 ls []) := by
  obtain ⟨hx, hb, hml, hown, hT, hX, hbl, hG, hK, hTx, hst⟩ := C
  obtain ⟨sk, f, n, z, mm, st, ee, LI0, hW, hS, hcc, hss, hsk, hl⟩ := h
  have hbA : ¬ WA G b := fun h => by have h1 : G.1 ≤ b := h; omega
  have CF : CallFix p m c cL_law 8 s #[Value.ref b] TB RL := ⟨hx, hb, hml, hown, hT⟩
  refine s_aload_n hx hb dL_law_667 rfl (lv_at hl 1 rfl) ?_
  refine lv_aload_n hx hb dL_law_668 rfl (lv_at hl 0 rfl) ?_
  refine lv_iload hx hb dL_law_669 (lv_at hl 4 rfl) ?_
  refine lv_iconst (v := (1 : Int32)) hx hb dL_law_671 (by decide) ?_
  refine lv_iadd hx hb dL_law_672 ?_
  refine va_sld hx hb hX hbl hbA hS (s_in (k := 1) hi hL (by decide)) dL_law_673 ?_
  obtain ⟨v, f', m', st', e1, cO, cM, e2, L1⟩ := stp_W (k_judge (F := F) (by omega) (xs (nI i + (1 : Int32)).toNatClampNeg)) LI0
  have rm := LI.room LI0 hcc hss (by omega)
  refine s_callV (As := [.int (xs (nI i + (1 : Int32)).toNatClampNeg)]) (rest := []) CF hK hW hS (S_X11_judge l G F e1) cO rfl gv_L_82 hd_X11_judge ⟨Nat.le_of_ble_eq_true rfl, Nat.le_of_ble_eq_true rfl⟩ rfl hl.1 rfl (Nat.le_of_ble_eq_true rfl) dL_law_674 ⟨rm.1, rm.2⟩ (fun H locs hW hS => ?_)
  refine s_aload_n hx hb dL_law_677 rfl (lv_at hl 2 rfl) ?_
  refine lv_aload_n hx hb dL_law_678 rfl (lv_at hl 0 rfl) ?_
  refine lv_iload hx hb dL_law_679 (lv_at hl 4 rfl) ?_
  refine lv_iconst (v := (1 : Int32)) hx hb dL_law_681 (by decide) ?_
  refine lv_iadd hx hb dL_law_682 ?_
  refine va_sld hx hb hX hbl hbA hS (s_in (k := 1) hi hL (by decide)) dL_law_683 ?_
  refine s_callV (As := [.int (xs (nI i + (1 : Int32)).toNatClampNeg)]) (rest := [.int v]) CF hK hW hS (S_X12_judge l G F e2) cM rfl gv_L_85 hd_X12_judge ⟨Nat.le_of_ble_eq_true rfl, Nat.le_of_ble_eq_true rfl⟩ rfl hl.1 rfl (Nat.le_of_ble_eq_true rfl) dL_law_684 ⟨rm.1, rm.2⟩ (fun H locs hW hS => ?_)
  refine lv_icmp_eq (tgt := 1480) hx hb dL_law_687 (by decide) (fun _ => ?_) (fun q => (q rfl).elim)
  exact back _ _ _ _ _ ⟨sk, _, n, z, m', st', ee, L1, hW, hS, hcc, hss, by omega, hl⟩
end CASES1
