/-! cases of the law's switch -/
section CASES3
variable {p : Program} {l : Launch} {e : Env} {s : State} {m : MethodId} {below : List Frame} {meth : Method} {c : Code} {H : Heap} {locs : List Loc} {cells slots : Nat} {Q : State → Prop} {ls : Array Slot}
variable {b L : Nat} {xs : Nat → Int32} {G : GG} {F i k : Nat}
set_option maxHeartbeats 4000000 in
theorem case_25 (hF : 5041 ≤ F) (C : LWc p l s m c b L xs G) (hL : L ≤ 3072) (hi : i + 6 ≤ L) (hk : k < 512) (h : LWs G s b i k H locs cells slots ls) (back : ∀ (H : Heap) (locs : List Loc) (cells slots : Nat) (ls : Array Slot), LWs G s b i (k + 1) H locs cells slots ls → W p l e room_1 s m #[Value.ref b] below meth c H locs cells slots Q (F0 m 1480 ls [])) : W p l e room_1 s m #[Value.ref b] below meth c H locs cells slots Q (F0 m 1132 ls []) := by
  obtain ⟨hx, hb, hml, hown, hT, hX, hbl, hG, hK, hTx, hst⟩ := C
  obtain ⟨sk, f, n, z, mm, st, ee, LI0, hW, hS, hcc, hss, hsk, hl⟩ := h
  have hbA : ¬ WA G b := fun h => by have h1 : G.1 ≤ b := h; omega
  have CF : CallFix p m c cL_law 8 s #[Value.ref b] TB RL := ⟨hx, hb, hml, hown, hT⟩
  refine s_aload_n hx hb dL_law_1132 rfl (lv_at hl 1 rfl) ?_
  refine lv_aload_n hx hb dL_law_1133 rfl (lv_at hl 0 rfl) ?_
  refine lv_iload hx hb dL_law_1134 (lv_at hl 4 rfl) ?_
  refine lv_iconst (v := (1 : Int32)) hx hb dL_law_1136 (by decide) ?_
  refine lv_iadd hx hb dL_law_1137 ?_
  refine va_sld hx hb hX hbl hbA hS (s_in (k := 1) hi hL (by decide)) dL_law_1138 ?_
  obtain ⟨v, f', n', z', m', st', e1, hn, hz, cO, cM, e2, L1⟩ := stp_A (k_marks (F := F) (by omega) (xs (nI i + (1 : Int32)).toNatClampNeg)) LI0
  have hcc1 : cells + (n' - n) + 100 = n' + ee := by omega
  have hss1 : slots + (z' - z) = z' + 6 * ee := by omega
  have rm := LI.room L1 hcc1 hss1 (by omega)
  refine s_callV (As := [.int (xs (nI i + (1 : Int32)).toNatClampNeg)]) (rest := []) CF hK hW hS (S_X11_marks l G F e1) cO rfl gv_L_135 hd_X11_marks ⟨Nat.le_of_ble_eq_true rfl, Nat.le_of_ble_eq_true rfl⟩ rfl hl.1 rfl (Nat.le_of_ble_eq_true rfl) dL_law_1139 ⟨rm.1, rm.2⟩ (fun H locs hW hS => ?_)
  refine s_aload_n hx hb dL_law_1142 rfl (lv_at hl 2 rfl) ?_
  refine lv_aload_n hx hb dL_law_1143 rfl (lv_at hl 0 rfl) ?_
  refine lv_iload hx hb dL_law_1144 (lv_at hl 4 rfl) ?_
  refine lv_iconst (v := (1 : Int32)) hx hb dL_law_1146 (by decide) ?_
  refine lv_iadd hx hb dL_law_1147 ?_
  refine va_sld hx hb hX hbl hbA hS (s_in (k := 1) hi hL (by decide)) dL_law_1148 ?_
  refine s_callV (As := [.int (xs (nI i + (1 : Int32)).toNatClampNeg)]) (rest := [.int v]) CF hK hW hS (S_X12_marks l G F e2) cM rfl gv_L_138 hd_X12_marks ⟨Nat.le_of_ble_eq_true rfl, Nat.le_of_ble_eq_true rfl⟩ rfl hl.1 rfl (Nat.le_of_ble_eq_true rfl) dL_law_1149 ⟨rm.1, rm.2⟩ (fun H locs hW hS => ?_)
  refine lv_icmp_eq (tgt := 1480) hx hb dL_law_1152 (by decide) (fun _ => ?_) (fun q => (q rfl).elim)
  exact back _ _ _ _ _ ⟨sk, _, n', z', m', st', ee, L1, hW, hS, hcc1, hss1, by omega, hl⟩
set_option maxHeartbeats 4000000 in
theorem case_26 (hF : 5041 ≤ F) (C : LWc p l s m c b L xs G) (hL : L ≤ 3072) (hi : i + 6 ≤ L) (hk : k < 512) (h : LWs G s b i k H locs cells slots ls) (back : ∀ (H : Heap) (locs : List Loc) (cells slots : Nat) (ls : Array Slot), LWs G s b i (k + 1) H locs cells slots ls → W p l e room_1 s m #[Value.ref b] below meth c H locs cells slots Q (F0 m 1480 ls [])) : W p l e room_1 s m #[Value.ref b] below meth c H locs cells slots Q (F0 m 1157 ls []) := by
  obtain ⟨hx, hb, hml, hown, hT, hX, hbl, hG, hK, hTx, hst⟩ := C
  obtain ⟨sk, f, n, z, mm, st, ee, LI0, hW, hS, hcc, hss, hsk, hl⟩ := h
  have hbA : ¬ WA G b := fun h => by have h1 : G.1 ≤ b := h; omega
  have CF : CallFix p m c cL_law 8 s #[Value.ref b] TB RL := ⟨hx, hb, hml, hown, hT⟩
  refine s_aload_n hx hb dL_law_1157 rfl (lv_at hl 1 rfl) ?_
  refine lv_aload_n hx hb dL_law_1158 rfl (lv_at hl 0 rfl) ?_
  refine lv_iload hx hb dL_law_1159 (lv_at hl 4 rfl) ?_
  refine lv_iconst (v := (1 : Int32)) hx hb dL_law_1161 (by decide) ?_
  refine lv_iadd hx hb dL_law_1162 ?_
  refine va_sld hx hb hX hbl hbA hS (s_in (k := 1) hi hL (by decide)) dL_law_1163 ?_
  obtain ⟨v, f', n', z', m', st', e1, hn, hz, cO, cM, e2, L1⟩ := stp_A (k_sense (F := F) (by omega) (xs (nI i + (1 : Int32)).toNatClampNeg)) LI0
  have hcc1 : cells + (n' - n) + 100 = n' + ee := by omega
  have hss1 : slots + (z' - z) = z' + 6 * ee := by omega
  have rm := LI.room L1 hcc1 hss1 (by omega)
  refine s_callV (As := [.int (xs (nI i + (1 : Int32)).toNatClampNeg)]) (rest := []) CF hK hW hS (S_X11_sense l G F e1) cO rfl gv_L_139 hd_X11_sense ⟨Nat.le_of_ble_eq_true rfl, Nat.le_of_ble_eq_true rfl⟩ rfl hl.1 rfl (Nat.le_of_ble_eq_true rfl) dL_law_1164 ⟨rm.1, rm.2⟩ (fun H locs hW hS => ?_)
  refine s_aload_n hx hb dL_law_1167 rfl (lv_at hl 2 rfl) ?_
  refine lv_aload_n hx hb dL_law_1168 rfl (lv_at hl 0 rfl) ?_
  refine lv_iload hx hb dL_law_1169 (lv_at hl 4 rfl) ?_
  refine lv_iconst (v := (1 : Int32)) hx hb dL_law_1171 (by decide) ?_
  refine lv_iadd hx hb dL_law_1172 ?_
  refine va_sld hx hb hX hbl hbA hS (s_in (k := 1) hi hL (by decide)) dL_law_1173 ?_
  refine s_callV (As := [.int (xs (nI i + (1 : Int32)).toNatClampNeg)]) (rest := [.int v]) CF hK hW hS (S_X12_sense l G F e2) cM rfl gv_L_142 hd_X12_sense ⟨Nat.le_of_ble_eq_true rfl, Nat.le_of_ble_eq_true rfl⟩ rfl hl.1 rfl (Nat.le_of_ble_eq_true rfl) dL_law_1174 ⟨rm.1, rm.2⟩ (fun H locs hW hS => ?_)
  refine lv_icmp_eq (tgt := 1480) hx hb dL_law_1177 (by decide) (fun _ => ?_) (fun q => (q rfl).elim)
  exact back _ _ _ _ _ ⟨sk, _, n', z', m', st', ee, L1, hW, hS, hcc1, hss1, by omega, hl⟩
set_option maxHeartbeats 4000000 in
theorem case_27 (hF : 5041 ≤ F) (C : LWc p l s m c b L xs G) (hL : L ≤ 3072) (hi : i + 6 ≤ L) (hk : k < 512) (h : LWs G s b i k H locs cells slots ls) (back : ∀ (H : Heap) (locs : List Loc) (cells slots : Nat) (ls : Array Slot), LWs G s b i (k + 1) H locs cells slots ls → W p l e room_1 s m #[Value.ref b] below meth c H locs cells slots Q (F0 m 1480 ls [])) : W p l e room_1 s m #[Value.ref b] below meth c H locs cells slots Q (F0 m 1182 ls []) := by
  obtain ⟨hx, hb, hml, hown, hT, hX, hbl, hG, hK, hTx, hst⟩ := C
  obtain ⟨sk, f, n, z, mm, st, ee, LI0, hW, hS, hcc, hss, hsk, hl⟩ := h
  have hbA : ¬ WA G b := fun h => by have h1 : G.1 ≤ b := h; omega
  have CF : CallFix p m c cL_law 8 s #[Value.ref b] TB RL := ⟨hx, hb, hml, hown, hT⟩
  refine s_aload_n hx hb dL_law_1182 rfl (lv_at hl 1 rfl) ?_
  refine lv_aload_n hx hb dL_law_1183 rfl (lv_at hl 0 rfl) ?_
  refine lv_iload hx hb dL_law_1184 (lv_at hl 4 rfl) ?_
  refine lv_iconst (v := (1 : Int32)) hx hb dL_law_1186 (by decide) ?_
  refine lv_iadd hx hb dL_law_1187 ?_
  refine va_sld hx hb hX hbl hbA hS (s_in (k := 1) hi hL (by decide)) dL_law_1188 ?_
  refine lv_aload_n hx hb dL_law_1189 rfl (lv_at hl 0 rfl) ?_
  refine lv_iload hx hb dL_law_1190 (lv_at hl 4 rfl) ?_
  refine lv_iconst (v := (2 : Int32)) hx hb dL_law_1192 (by decide) ?_
  refine lv_iadd hx hb dL_law_1193 ?_
  refine va_sld hx hb hX hbl hbA hS (s_in (k := 2) hi hL (by decide)) dL_law_1194 ?_
  obtain ⟨v, f', n', z', m', st', e1, hn, hz, cO, cM, e2, L1⟩ := stp_A (k_mended (F := F) (by omega) (xs (nI i + (1 : Int32)).toNatClampNeg) (xs (nI i + (2 : Int32)).toNatClampNeg)) LI0
  have hcc1 : cells + (n' - n) + 100 = n' + ee := by omega
  have hss1 : slots + (z' - z) = z' + 6 * ee := by omega
  have rm := LI.room L1 hcc1 hss1 (by omega)
  refine s_callV (As := [.int (xs (nI i + (1 : Int32)).toNatClampNeg), .int (xs (nI i + (2 : Int32)).toNatClampNeg)]) (rest := []) CF hK hW hS (S_X11_mended l G F e1) cO rfl gv_L_143 hd_X11_mended ⟨Nat.le_of_ble_eq_true rfl, Nat.le_of_ble_eq_true rfl⟩ rfl hl.1 rfl (Nat.le_of_ble_eq_true rfl) dL_law_1195 ⟨rm.1, rm.2⟩ (fun H locs hW hS => ?_)
  refine s_aload_n hx hb dL_law_1198 rfl (lv_at hl 2 rfl) ?_
  refine lv_aload_n hx hb dL_law_1199 rfl (lv_at hl 0 rfl) ?_
  refine lv_iload hx hb dL_law_1200 (lv_at hl 4 rfl) ?_
  refine lv_iconst (v := (1 : Int32)) hx hb dL_law_1202 (by decide) ?_
  refine lv_iadd hx hb dL_law_1203 ?_
  refine va_sld hx hb hX hbl hbA hS (s_in (k := 1) hi hL (by decide)) dL_law_1204 ?_
  refine lv_aload_n hx hb dL_law_1205 rfl (lv_at hl 0 rfl) ?_
  refine lv_iload hx hb dL_law_1206 (lv_at hl 4 rfl) ?_
  refine lv_iconst (v := (2 : Int32)) hx hb dL_law_1208 (by decide) ?_
  refine lv_iadd hx hb dL_law_1209 ?_
  refine va_sld hx hb hX hbl hbA hS (s_in (k := 2) hi hL (by decide)) dL_law_1210 ?_
  refine s_callV (As := [.int (xs (nI i + (1 : Int32)).toNatClampNeg), .int (xs (nI i + (2 : Int32)).toNatClampNeg)]) (rest := [.int v]) CF hK hW hS (S_X12_mended l G F e2) cM rfl gv_L_146 hd_X12_mended ⟨Nat.le_of_ble_eq_true rfl, Nat.le_of_ble_eq_true rfl⟩ rfl hl.1 rfl (Nat.le_of_ble_eq_true rfl) dL_law_1211 ⟨rm.1, rm.2⟩ (fun H locs hW hS => ?_)
  refine lv_icmp_eq (tgt := 1480) hx hb dL_law_1214 (by decide) (fun _ => ?_) (fun q => (q rfl).elim)
  exact back _ _ _ _ _ ⟨sk, _, n', z', m', st', ee, L1, hW, hS, hcc1, hss1, by omega, hl⟩
set_option maxHeartbeats 4000000 in
theorem case_28 (hF : 5041 ≤ F) (C : LWc p l s m c b L xs G) (hL : L ≤ 3072) (hi : i + 6 ≤ L) (hk : k < 512) (h : LWs G s b i k H locs cells slots ls) (back : ∀ (H : Heap) (locs : List Loc) (cells slots : Nat) (ls : Array Slot), LWs G s b i (k + 1) H locs cells slots ls → W p l e room_1 s m #[Value.ref b] below meth c H locs cells slots Q (F0 m 1480 ls [])) : W p l e room_1 s m #[Value.ref b] below meth c H locs cells slots Q (F0 m 1219 ls []) := by
  obtain ⟨hx, hb, hml, hown, hT, hX, hbl, hG, hK, hTx, hst⟩ := C
  obtain ⟨sk, f, n, z, mm, st, ee, LI0, hW, hS, hcc, hss, hsk, hl⟩ := h
  have hbA : ¬ WA G b := fun h => by have h1 : G.1 ≤ b := h; omega
  have CF : CallFix p m c cL_law 8 s #[Value.ref b] TB RL := ⟨hx, hb, hml, hown, hT⟩
  refine s_aload_n hx hb dL_law_1219 rfl (lv_at hl 1 rfl) ?_
  refine lv_aload_n hx hb dL_law_1220 rfl (lv_at hl 0 rfl) ?_
  refine lv_iload hx hb dL_law_1221 (lv_at hl 4 rfl) ?_
  refine lv_iconst (v := (1 : Int32)) hx hb dL_law_1223 (by decide) ?_
  refine lv_iadd hx hb dL_law_1224 ?_
  refine va_sld hx hb hX hbl hbA hS (s_in (k := 1) hi hL (by decide)) dL_law_1225 ?_
  obtain ⟨v, f', n', z', m', st', e1, hn, hz, cO, cM, e2, L1⟩ := stp_A (k_song (F := F) (by omega) (xs (nI i + (1 : Int32)).toNatClampNeg)) LI0
  have hcc1 : cells + (n' - n) + 100 = n' + ee := by omega
  have hss1 : slots + (z' - z) = z' + 6 * ee := by omega
  have rm := LI.room L1 hcc1 hss1 (by omega)
  refine s_callV (As := [.int (xs (nI i + (1 : Int32)).toNatClampNeg)]) (rest := []) CF hK hW hS (S_X11_song l G F e1) cO rfl gv_L_147 hd_X11_song ⟨Nat.le_of_ble_eq_true rfl, Nat.le_of_ble_eq_true rfl⟩ rfl hl.1 rfl (Nat.le_of_ble_eq_true rfl) dL_law_1226 ⟨rm.1, rm.2⟩ (fun H locs hW hS => ?_)
  refine s_aload_n hx hb dL_law_1229 rfl (lv_at hl 2 rfl) ?_
  refine lv_aload_n hx hb dL_law_1230 rfl (lv_at hl 0 rfl) ?_
  refine lv_iload hx hb dL_law_1231 (lv_at hl 4 rfl) ?_
  refine lv_iconst (v := (1 : Int32)) hx hb dL_law_1233 (by decide) ?_
  refine lv_iadd hx hb dL_law_1234 ?_
  refine va_sld hx hb hX hbl hbA hS (s_in (k := 1) hi hL (by decide)) dL_law_1235 ?_
  refine s_callV (As := [.int (xs (nI i + (1 : Int32)).toNatClampNeg)]) (rest := [.int v]) CF hK hW hS (S_X12_song l G F e2) cM rfl gv_L_150 hd_X12_song ⟨Nat.le_of_ble_eq_true rfl, Nat.le_of_ble_eq_true rfl⟩ rfl hl.1 rfl (Nat.le_of_ble_eq_true rfl) dL_law_1236 ⟨rm.1, rm.2⟩ (fun H locs hW hS => ?_)
  refine lv_icmp_eq (tgt := 1480) hx hb dL_law_1239 (by decide) (fun _ => ?_) (fun q => (q rfl).elim)
  exact back _ _ _ _ _ ⟨sk, _, n', z', m', st', ee, L1, hW, hS, hcc1, hss1, by omega, hl⟩
set_option maxHeartbeats 4000000 in
theorem case_29 (hF : 5041 ≤ F) (C : LWc p l s m c b L xs G) (hL : L ≤ 3072) (hi : i + 6 ≤ L) (hk : k < 512) (h : LWs G s b i k H locs cells slots ls) (back : ∀ (H : Heap) (locs : List Loc) (cells slots : Nat) (ls : Array Slot), LWs G s b i (k + 1) H locs cells slots ls → W p l e room_1 s m #[Value.ref b] below meth c H locs cells slots Q (F0 m 1480 ls [])) : W p l e room_1 s m #[Value.ref b] below meth c H locs cells slots Q (F0 m 1244 ls []) := by
  obtain ⟨hx, hb, hml, hown, hT, hX, hbl, hG, hK, hTx, hst⟩ := C
  obtain ⟨sk, f, n, z, mm, st, ee, LI0, hW, hS, hcc, hss, hsk, hl⟩ := h
  have hbA : ¬ WA G b := fun h => by have h1 : G.1 ≤ b := h; omega
  have CF : CallFix p m c cL_law 8 s #[Value.ref b] TB RL := ⟨hx, hb, hml, hown, hT⟩
  refine s_aload_n hx hb dL_law_1244 rfl (lv_at hl 1 rfl) ?_
  refine lv_aload_n hx hb dL_law_1245 rfl (lv_at hl 0 rfl) ?_
  refine lv_iload hx hb dL_law_1246 (lv_at hl 4 rfl) ?_
  refine lv_iconst (v := (1 : Int32)) hx hb dL_law_1248 (by decide) ?_
  refine lv_iadd hx hb dL_law_1249 ?_
  refine va_sld hx hb hX hbl hbA hS (s_in (k := 1) hi hL (by decide)) dL_law_1250 ?_
  refine lv_aload_n hx hb dL_law_1251 rfl (lv_at hl 0 rfl) ?_
  refine lv_iload hx hb dL_law_1252 (lv_at hl 4 rfl) ?_
  refine lv_iconst (v := (2 : Int32)) hx hb dL_law_1254 (by decide) ?_
  refine lv_iadd hx hb dL_law_1255 ?_
  refine va_sld hx hb hX hbl hbA hS (s_in (k := 2) hi hL (by decide)) dL_law_1256 ?_
  obtain ⟨v, f', n', z', m', st', e1, hn, hz, cO, cM, e2, L1⟩ := stp_A (k_better (F := F) (by omega) (xs (nI i + (1 : Int32)).toNatClampNeg) (xs (nI i + (2 : Int32)).toNatClampNeg)) LI0
  have hcc1 : cells + (n' - n) + 100 = n' + ee := by omega
  have hss1 : slots + (z' - z) = z' + 6 * ee := by omega
  have rm := LI.room L1 hcc1 hss1 (by omega)
  refine s_callV (As := [.int (xs (nI i + (1 : Int32)).toNatClampNeg), .int (xs (nI i + (2 : Int32)).toNatClampNeg)]) (rest := []) CF hK hW hS (S_X11_better l G F e1) cO rfl gv_L_151 hd_X11_better ⟨Nat.le_of_ble_eq_true rfl, Nat.le_of_ble_eq_true rfl⟩ rfl hl.1 rfl (Nat.le_of_ble_eq_true rfl) dL_law_1257 ⟨rm.1, rm.2⟩ (fun H locs hW hS => ?_)
  refine s_aload_n hx hb dL_law_1260 rfl (lv_at hl 2 rfl) ?_
  refine lv_aload_n hx hb dL_law_1261 rfl (lv_at hl 0 rfl) ?_
  refine lv_iload hx hb dL_law_1262 (lv_at hl 4 rfl) ?_
  refine lv_iconst (v := (1 : Int32)) hx hb dL_law_1264 (by decide) ?_
  refine lv_iadd hx hb dL_law_1265 ?_
  refine va_sld hx hb hX hbl hbA hS (s_in (k := 1) hi hL (by decide)) dL_law_1266 ?_
  refine lv_aload_n hx hb dL_law_1267 rfl (lv_at hl 0 rfl) ?_
  refine lv_iload hx hb dL_law_1268 (lv_at hl 4 rfl) ?_
  refine lv_iconst (v := (2 : Int32)) hx hb dL_law_1270 (by decide) ?_
  refine lv_iadd hx hb dL_law_1271 ?_
  refine va_sld hx hb hX hbl hbA hS (s_in (k := 2) hi hL (by decide)) dL_law_1272 ?_
  refine s_callV (As := [.int (xs (nI i + (1 : Int32)).toNatClampNeg), .int (xs (nI i + (2 : Int32)).toNatClampNeg)]) (rest := [.int v]) CF hK hW hS (S_X12_better l G F e2) cM rfl gv_L_154 hd_X12_better ⟨Nat.le_of_ble_eq_true rfl, Nat.le_of_ble_eq_true rfl⟩ rfl hl.1 rfl (Nat.le_of_ble_eq_true rfl) dL_law_1273 ⟨rm.1, rm.2⟩ (fun H locs hW hS => ?_)
  refine lv_icmp_eq (tgt := 1480) hx hb dL_law_1276 (by decide) (fun _ => ?_) (fun q => (q rfl).elim)
  exact back _ _ _ _ _ ⟨sk, _, n', z', m', st', ee, L1, hW, hS, hcc1, hss1, by omega, hl⟩
set_option maxHeartbeats 4000000 in
theorem case_30 (hF : 5041 ≤ F) (C : LWc p l s m c b L xs G) (hL : L ≤ 3072) (hi : i + 6 ≤ L) (hk : k < 512) (h : LWs G s b i k H locs cells slots ls) (back : ∀ (H : Heap) (locs : List Loc) (cells slots : Nat) (ls : Array Slot), LWs G s b i (k + 1) H locs cells slots ls → W p l e room_1 s m #[Value.ref b] below meth c H locs cells slots Q (F0 m 1480 ls [])) : W p l e room_1 s m #[Value.ref b] below meth c H locs cells slots Q (F0 m 1281 ls []) := by
  obtain ⟨hx, hb, hml, hown, hT, hX, hbl, hG, hK, hTx, hst⟩ := C
  obtain ⟨sk, f, n, z, mm, st, ee, LI0, hW, hS, hcc, hss, hsk, hl⟩ := h
  have hbA : ¬ WA G b := fun h => by have h1 : G.1 ≤ b := h; omega
  have CF : CallFix p m c cL_law 8 s #[Value.ref b] TB RL := ⟨hx, hb, hml, hown, hT⟩
  refine s_aload_n hx hb dL_law_1281 rfl (lv_at hl 1 rfl) ?_
  refine lv_aload_n hx hb dL_law_1282 rfl (lv_at hl 0 rfl) ?_
  refine lv_iload hx hb dL_law_1283 (lv_at hl 4 rfl) ?_
  refine lv_iconst (v := (1 : Int32)) hx hb dL_law_1285 (by decide) ?_
  refine lv_iadd hx hb dL_law_1286 ?_
  refine va_sld hx hb hX hbl hbA hS (s_in (k := 1) hi hL (by decide)) dL_law_1287 ?_
  refine lv_aload_n hx hb dL_law_1288 rfl (lv_at hl 0 rfl) ?_
  refine lv_iload hx hb dL_law_1289 (lv_at hl 4 rfl) ?_
  refine lv_iconst (v := (2 : Int32)) hx hb dL_law_1291 (by decide) ?_
  refine lv_iadd hx hb dL_law_1292 ?_
  refine va_sld hx hb hX hbl hbA hS (s_in (k := 2) hi hL (by decide)) dL_law_1293 ?_
  refine lv_aload_n hx hb dL_law_1294 rfl (lv_at hl 0 rfl) ?_
  refine lv_iload hx hb dL_law_1295 (lv_at hl 4 rfl) ?_
  refine lv_iconst (v := (3 : Int32)) hx hb dL_law_1297 (by decide) ?_
  refine lv_iadd hx hb dL_law_1298 ?_
  refine va_sld hx hb hX hbl hbA hS (s_in (k := 3) hi hL (by decide)) dL_law_1299 ?_
  obtain ⟨v, f', n', z', m', st', e1, hn, hz, cO, cM, e2, L1⟩ := stp_A (k_join (F := F) (by omega) (xs (nI i + (1 : Int32)).toNatClampNeg) (xs (nI i + (2 : Int32)).toNatClampNeg) (xs (nI i + (3 : Int32)).toNatClampNeg)) LI0
  have hcc1 : cells + (n' - n) + 100 = n' + ee := by omega
  have hss1 : slots + (z' - z) = z' + 6 * ee := by omega
  have rm := LI.room L1 hcc1 hss1 (by omega)
  refine s_callV (As := [.int (xs (nI i + (1 : Int32)).toNatClampNeg), .int (xs (nI i + (2 : Int32)).toNatClampNeg), .int (xs (nI i + (3 : Int32)).toNatClampNeg)]) (rest := []) CF hK hW hS (S_X11_join l G F e1) cO rfl gv_L_155 hd_X11_join ⟨Nat.le_of_ble_eq_true rfl, Nat.le_of_ble_eq_true rfl⟩ rfl hl.1 rfl (Nat.le_of_ble_eq_true rfl) dL_law_1300 ⟨rm.1, rm.2⟩ (fun H locs hW hS => ?_)
  refine s_aload_n hx hb dL_law_1303 rfl (lv_at hl 2 rfl) ?_
  refine lv_aload_n hx hb dL_law_1304 rfl (lv_at hl 0 rfl) ?_
  refine lv_iload hx hb dL_law_1305 (lv_at hl 4 rfl) ?_
  refine lv_iconst (v := (1 : Int32)) hx hb dL_law_1307 (by decide) ?_
  refine lv_iadd hx hb dL_law_1308 ?_
  refine va_sld hx hb hX hbl hbA hS (s_in (k := 1) hi hL (by decide)) dL_law_1309 ?_
  refine lv_aload_n hx hb dL_law_1310 rfl (lv_at hl 0 rfl) ?_
  refine lv_iload hx hb dL_law_1311 (lv_at hl 4 rfl) ?_
  refine lv_iconst (v := (2 : Int32)) hx hb dL_law_1313 (by decide) ?_
  refine lv_iadd hx hb dL_law_1314 ?_
  refine va_sld hx hb hX hbl hbA hS (s_in (k := 2) hi hL (by decide)) dL_law_1315 ?_
  refine lv_aload_n hx hb dL_law_1316 rfl (lv_at hl 0 rfl) ?_
  refine lv_iload hx hb dL_law_1317 (lv_at hl 4 rfl) ?_
  refine lv_iconst (v := (3 : Int32)) hx hb dL_law_1319 (by decide) ?_
  refine lv_iadd hx hb dL_law_1320 ?_
  refine va_sld hx hb hX hbl hbA hS (s_in (k := 3) hi hL (by decide)) dL_law_1321 ?_
  refine s_callV (As := [.int (xs (nI i + (1 : Int32)).toNatClampNeg), .int (xs (nI i + (2 : Int32)).toNatClampNeg), .int (xs (nI i + (3 : Int32)).toNatClampNeg)]) (rest := [.int v]) CF hK hW hS (S_X12_join l G F e2) cM rfl gv_L_158 hd_X12_join ⟨Nat.le_of_ble_eq_true rfl, Nat.le_of_ble_eq_true rfl⟩ rfl hl.1 rfl (Nat.le_of_ble_eq_true rfl) dL_law_1322 ⟨rm.1, rm.2⟩ (fun H locs hW hS => ?_)
  refine lv_icmp_eq (tgt := 1480) hx hb dL_law_1325 (by decide) (fun _ => ?_) (fun q => (q rfl).elim)
  exact back _ _ _ _ _ ⟨sk, _, n', z', m', st', ee, L1, hW, hS, hcc1, hss1, by omega, hl⟩
set_option maxHeartbeats 4000000 in
theorem case_31 (hF : 5041 ≤ F) (C : LWc p l s m c b L xs G) (hL : L ≤ 3072) (hi : i + 6 ≤ L) (hk : k < 512) (h : LWs G s b i k H locs cells slots ls) (back : ∀ (H : Heap) (locs : List Loc) (cells slots : Nat) (ls : Array Slot), LWs G s b i (k + 1) H locs cells slots ls → W p l e room_1 s m #[Value.ref b] below meth c H locs cells slots Q (F0 m 1480 ls [])) : W p l e room_1 s m #[Value.ref b] below meth c H locs cells slots Q (F0 m 1330 ls []) := by
  obtain ⟨hx, hb, hml, hown, hT, hX, hbl, hG, hK, hTx, hst⟩ := C
  obtain ⟨sk, f, n, z, mm, st, ee, LI0, hW, hS, hcc, hss, hsk, hl⟩ := h
  have hbA : ¬ WA G b := fun h => by have h1 : G.1 ≤ b := h; omega
  have CF : CallFix p m c cL_law 8 s #[Value.ref b] TB RL := ⟨hx, hb, hml, hown, hT⟩
  refine s_aload_n hx hb dL_law_1330 rfl (lv_at hl 1 rfl) ?_
  refine lv_aload_n hx hb dL_law_1331 rfl (lv_at hl 0 rfl) ?_
  refine lv_iload hx hb dL_law_1332 (lv_at hl 4 rfl) ?_
  refine lv_iconst (v := (1 : Int32)) hx hb dL_law_1334 (by decide) ?_
  refine lv_iadd hx hb dL_law_1335 ?_
  refine va_sld hx hb hX hbl hbA hS (s_in (k := 1) hi hL (by decide)) dL_law_1336 ?_
  refine lv_aload_n hx hb dL_law_1337 rfl (lv_at hl 0 rfl) ?_
  refine lv_iload hx hb dL_law_1338 (lv_at hl 4 rfl) ?_
  refine lv_iconst (v := (2 : Int32)) hx hb dL_law_1340 (by decide) ?_
  refine lv_iadd hx hb dL_law_1341 ?_
  refine va_sld hx hb hX hbl hbA hS (s_in (k := 2) hi hL (by decide)) dL_law_1342 ?_
  refine lv_aload_n hx hb dL_law_1343 rfl (lv_at hl 0 rfl) ?_
  refine lv_iload hx hb dL_law_1344 (lv_at hl 4 rfl) ?_
  refine lv_iconst (v := (3 : Int32)) hx hb dL_law_1346 (by decide) ?_
  refine lv_iadd hx hb dL_law_1347 ?_
  refine va_sld hx hb hX hbl hbA hS (s_in (k := 3) hi hL (by decide)) dL_law_1348 ?_
  obtain ⟨v, st', e1, cO, cM, e2, L1⟩ := stp_R (k_woven (F := F) (by omega) (xs (nI i + (1 : Int32)).toNatClampNeg) (xs (nI i + (2 : Int32)).toNatClampNeg) (xs (nI i + (3 : Int32)).toNatClampNeg)) LI0
  have rm := LI.room LI0 hcc hss (by omega)
  refine s_callV (As := [.int (xs (nI i + (1 : Int32)).toNatClampNeg), .int (xs (nI i + (2 : Int32)).toNatClampNeg), .int (xs (nI i + (3 : Int32)).toNatClampNeg)]) (rest := []) CF hK hW hS (S_X11_woven l G F e1) cO rfl gv_L_159 hd_X11_woven ⟨Nat.le_of_ble_eq_true rfl, Nat.le_of_ble_eq_true rfl⟩ rfl hl.1 rfl (Nat.le_of_ble_eq_true rfl) dL_law_1349 ⟨rm.1, rm.2⟩ (fun H locs hW hS => ?_)
  refine s_aload_n hx hb dL_law_1352 rfl (lv_at hl 2 rfl) ?_
  refine lv_aload_n hx hb dL_law_1353 rfl (lv_at hl 0 rfl) ?_
  refine lv_iload hx hb dL_law_1354 (lv_at hl 4 rfl) ?_
  refine lv_iconst (v := (1 : Int32)) hx hb dL_law_1356 (by decide) ?_
  refine lv_iadd hx hb dL_law_1357 ?_
  refine va_sld hx hb hX hbl hbA hS (s_in (k := 1) hi hL (by decide)) dL_law_1358 ?_
  refine lv_aload_n hx hb dL_law_1359 rfl (lv_at hl 0 rfl) ?_
  refine lv_iload hx hb dL_law_1360 (lv_at hl 4 rfl) ?_
  refine lv_iconst (v := (2 : Int32)) hx hb dL_law_1362 (by decide) ?_
  refine lv_iadd hx hb dL_law_1363 ?_
  refine va_sld hx hb hX hbl hbA hS (s_in (k := 2) hi hL (by decide)) dL_law_1364 ?_
  refine lv_aload_n hx hb dL_law_1365 rfl (lv_at hl 0 rfl) ?_
  refine lv_iload hx hb dL_law_1366 (lv_at hl 4 rfl) ?_
  refine lv_iconst (v := (3 : Int32)) hx hb dL_law_1368 (by decide) ?_
  refine lv_iadd hx hb dL_law_1369 ?_
  refine va_sld hx hb hX hbl hbA hS (s_in (k := 3) hi hL (by decide)) dL_law_1370 ?_
  refine s_callV (As := [.int (xs (nI i + (1 : Int32)).toNatClampNeg), .int (xs (nI i + (2 : Int32)).toNatClampNeg), .int (xs (nI i + (3 : Int32)).toNatClampNeg)]) (rest := [.int v]) CF hK hW hS (S_X12_woven l G F e2) cM rfl gv_L_162 hd_X12_woven ⟨Nat.le_of_ble_eq_true rfl, Nat.le_of_ble_eq_true rfl⟩ rfl hl.1 rfl (Nat.le_of_ble_eq_true rfl) dL_law_1371 ⟨rm.1, rm.2⟩ (fun H locs hW hS => ?_)
  refine lv_icmp_eq (tgt := 1480) hx hb dL_law_1374 (by decide) (fun _ => ?_) (fun q => (q rfl).elim)
  exact back _ _ _ _ _ ⟨sk, _, n, z, mm, st', ee, L1, hW, hS, hcc, hss, by omega, hl⟩
set_option maxHeartbeats 4000000 in
theorem case_32 (hF : 5041 ≤ F) (C : LWc p l s m c b L xs G) (hL : L ≤ 3072) (hi : i + 6 ≤ L) (hk : k < 512) (h : LWs G s b i k H locs cells slots ls) (back : ∀ (H : Heap) (locs : List Loc) (cells slots : Nat) (ls : Array Slot), LWs G s b i (k + 1) H locs cells slots ls → W p l e room_1 s m #[Value.ref b] below meth c H locs cells slots Q (F0 m 1480 ls [])) : W p l e room_1 s m #[Value.ref b] below meth c H locs cells slots Q (F0 m 1379 ls []) := by
  obtain ⟨hx, hb, hml, hown, hT, hX, hbl, hG, hK, hTx, hst⟩ := C
  obtain ⟨sk, f, n, z, mm, st, ee, LI0, hW, hS, hcc, hss, hsk, hl⟩ := h
  have hbA : ¬ WA G b := fun h => by have h1 : G.1 ≤ b := h; omega
  have CF : CallFix p m c cL_law 8 s #[Value.ref b] TB RL := ⟨hx, hb, hml, hown, hT⟩
  refine s_aload_n hx hb dL_law_1379 rfl (lv_at hl 1 rfl) ?_
  obtain ⟨v, f', m', st', e1, cO, cM, e2, L1⟩ := stp_W (k_sentence (F := F) (by omega) ) LI0
  have rm := LI.room LI0 hcc hss (by omega)
  refine s_callV (As := []) (rest := []) CF hK hW hS (S_X11_sentence l G F e1) cO rfl gv_L_163 hd_X11_sentence ⟨Nat.le_of_ble_eq_true rfl, Nat.le_of_ble_eq_true rfl⟩ rfl hl.1 rfl (Nat.le_of_ble_eq_true rfl) dL_law_1380 ⟨rm.1, rm.2⟩ (fun H locs hW hS => ?_)
  refine s_aload_n hx hb dL_law_1383 rfl (lv_at hl 2 rfl) ?_
  refine s_callV (As := []) (rest := [.int v]) CF hK hW hS (S_X12_sentence l G F e2) cM rfl gv_L_166 hd_X12_sentence ⟨Nat.le_of_ble_eq_true rfl, Nat.le_of_ble_eq_true rfl⟩ rfl hl.1 rfl (Nat.le_of_ble_eq_true rfl) dL_law_1384 ⟨rm.1, rm.2⟩ (fun H locs hW hS => ?_)
  refine lv_icmp_eq (tgt := 1480) hx hb dL_law_1387 (by decide) (fun _ => ?_) (fun q => (q rfl).elim)
  exact back _ _ _ _ _ ⟨sk, _, n, z, m', st', ee, L1, hW, hS, hcc, hss, by omega, hl⟩
set_option maxHeartbeats 4000000 in
theorem case_33 (hF : 5041 ≤ F) (C : LWc p l s m c b L xs G) (hL : L ≤ 3072) (hi : i + 6 ≤ L) (hk : k < 512) (h : LWs G s b i k H locs cells slots ls) (back : ∀ (H : Heap) (locs : List Loc) (cells slots : Nat) (ls : Array Slot), LWs G s b i (k + 1) H locs cells slots ls → W p l e room_1 s m #[Value.ref b] below meth c H locs cells slots Q (F0 m 1480 ls [])) : W p l e room_1 s m #[Value.ref b] below meth c H locs cells slots Q (F0 m 1392 ls []) := by
  obtain ⟨hx, hb, hml, hown, hT, hX, hbl, hG, hK, hTx, hst⟩ := C
  obtain ⟨sk, f, n, z, mm, st, ee, LI0, hW, hS, hcc, hss, hsk, hl⟩ := h
  have hbA : ¬ WA G b := fun h => by have h1 : G.1 ≤ b := h; omega
  have CF : CallFix p m c cL_law 8 s #[Value.ref b] TB RL := ⟨hx, hb, hml, hown, hT⟩
  refine s_aload_n hx hb dL_law_1392 rfl (lv_at hl 1 rfl) ?_
  obtain ⟨v, st', e1, cO, cM, e2, L1⟩ := stp_R (k_said (F := F) (by omega) ) LI0
  have rm := LI.room LI0 hcc hss (by omega)
  refine s_callV (As := []) (rest := []) CF hK hW hS (S_X11_said l G F e1) cO rfl gv_L_167 hd_X11_said ⟨Nat.le_of_ble_eq_true rfl, Nat.le_of_ble_eq_true rfl⟩ rfl hl.1 rfl (Nat.le_of_ble_eq_true rfl) dL_law_1393 ⟨rm.1, rm.2⟩ (fun H locs hW hS => ?_)
  refine s_aload_n hx hb dL_law_1396 rfl (lv_at hl 2 rfl) ?_
  refine s_callV (As := []) (rest := [.int v]) CF hK hW hS (S_X12_said l G F e2) cM rfl gv_L_170 hd_X12_said ⟨Nat.le_of_ble_eq_true rfl, Nat.le_of_ble_eq_true rfl⟩ rfl hl.1 rfl (Nat.le_of_ble_eq_true rfl) dL_law_1397 ⟨rm.1, rm.2⟩ (fun H locs hW hS => ?_)
  refine lv_icmp_eq (tgt := 1480) hx hb dL_law_1400 (by decide) (fun _ => ?_) (fun q => (q rfl).elim)
  exact back _ _ _ _ _ ⟨sk, _, n, z, mm, st', ee, L1, hW, hS, hcc, hss, by omega, hl⟩
set_option maxHeartbeats 4000000 in
theorem case_34 (hF : 5041 ≤ F) (C : LWc p l s m c b L xs G) (hL : L ≤ 3072) (hi : i + 6 ≤ L) (hk : k < 512) (h : LWs G s b i k H locs cells slots ls) (back : ∀ (H : Heap) (locs : List Loc) (cells slots : Nat) (ls : Array Slot), LWs G s b i (k + 1) H locs cells slots ls → W p l e room_1 s m #[Value.ref b] below meth c H locs cells slots Q (F0 m 1480 ls [])) : W p l e room_1 s m #[Value.ref b] below meth c H locs cells slots Q (F0 m 1405 ls []) := by
  obtain ⟨hx, hb, hml, hown, hT, hX, hbl, hG, hK, hTx, hst⟩ := C
  obtain ⟨sk, f, n, z, mm, st, ee, LI0, hW, hS, hcc, hss, hsk, hl⟩ := h
  have hbA : ¬ WA G b := fun h => by have h1 : G.1 ≤ b := h; omega
  have CF : CallFix p m c cL_law 8 s #[Value.ref b] TB RL := ⟨hx, hb, hml, hown, hT⟩
  refine s_aload_n hx hb dL_law_1405 rfl (lv_at hl 1 rfl) ?_
  refine lv_aload_n hx hb dL_law_1406 rfl (lv_at hl 0 rfl) ?_
  refine lv_iload hx hb dL_law_1407 (lv_at hl 4 rfl) ?_
  refine lv_iconst (v := (1 : Int32)) hx hb dL_law_1409 (by decide) ?_
  refine lv_iadd hx hb dL_law_1410 ?_
  refine va_sld hx hb hX hbl hbA hS (s_in (k := 1) hi hL (by decide)) dL_law_1411 ?_
  obtain ⟨v, f', n', z', m', st', e1, hn, hz, cO, cM, e2, L1⟩ := stp_A (k_image (F := F) (by omega) (xs (nI i + (1 : Int32)).toNatClampNeg)) LI0
  have hcc1 : cells + (n' - n) + 100 = n' + ee := by omega
  have hss1 : slots + (z' - z) = z' + 6 * ee := by omega
  have rm := LI.room L1 hcc1 hss1 (by omega)
  refine s_callV (As := [.int (xs (nI i + (1 : Int32)).toNatClampNeg)]) (rest := []) CF hK hW hS (S_X11_image l G F e1) cO rfl gv_L_171 hd_X11_image ⟨Nat.le_of_ble_eq_true rfl, Nat.le_of_ble_eq_true rfl⟩ rfl hl.1 rfl (Nat.le_of_ble_eq_true rfl) dL_law_1412 ⟨rm.1, rm.2⟩ (fun H locs hW hS => ?_)
  refine s_aload_n hx hb dL_law_1415 rfl (lv_at hl 2 rfl) ?_
  refine lv_aload_n hx hb dL_law_1416 rfl (lv_at hl 0 rfl) ?_
  refine lv_iload hx hb dL_law_1417 (lv_at hl 4 rfl) ?_
  refine lv_iconst (v := (1 : Int32)) hx hb dL_law_1419 (by decide) ?_
  refine lv_iadd hx hb dL_law_1420 ?_
  refine va_sld hx hb hX hbl hbA hS (s_in (k := 1) hi hL (by decide)) dL_law_1421 ?_
  refine s_callV (As := [.int (xs (nI i + (1 : Int32)).toNatClampNeg)]) (rest := [.int v]) CF hK hW hS (S_X12_image l G F e2) cM rfl gv_L_174 hd_X12_image ⟨Nat.le_of_ble_eq_true rfl, Nat.le_of_ble_eq_true rfl⟩ rfl hl.1 rfl (Nat.le_of_ble_eq_true rfl) dL_law_1422 ⟨rm.1, rm.2⟩ (fun H locs hW hS => ?_)
  refine lv_icmp_eq (tgt := 1480) hx hb dL_law_1425 (by decide) (fun _ => ?_) (fun q => (q rfl).elim)
  exact back _ _ _ _ _ ⟨sk, _, n', z', m', st', ee, L1, hW, hS, hcc1, hss1, by omega, hl⟩
set_option maxHeartbeats 4000000 in
theorem case_35 (hF : 5041 ≤ F) (C : LWc p l s m c b L xs G) (hL : L ≤ 3072) (hi : i + 6 ≤ L) (hk : k < 512) (h : LWs G s b i k H locs cells slots ls) (back : ∀ (H : Heap) (locs : List Loc) (cells slots : Nat) (ls : Array Slot), LWs G s b i (k + 1) H locs cells slots ls → W p l e room_1 s m #[Value.ref b] below meth c H locs cells slots Q (F0 m 1480 ls [])) : W p l e room_1 s m #[Value.ref b] below meth c H locs cells slots Q (F0 m 1430 ls []) := by
  obtain ⟨hx, hb, hml, hown, hT, hX, hbl, hG, hK, hTx, hst⟩ := C
  obtain ⟨sk, f, n, z, mm, st, ee, LI0, hW, hS, hcc, hss, hsk, hl⟩ := h
  have hbA : ¬ WA G b := fun h => by have h1 : G.1 ≤ b := h; omega
  have CF : CallFix p m c cL_law 8 s #[Value.ref b] TB RL := ⟨hx, hb, hml, hown, hT⟩
  refine s_aload_n hx hb dL_law_1430 rfl (lv_at hl 1 rfl) ?_
  refine lv_aload_n hx hb dL_law_1431 rfl (lv_at hl 0 rfl) ?_
  refine lv_iload hx hb dL_law_1432 (lv_at hl 4 rfl) ?_
  refine lv_iconst (v := (1 : Int32)) hx hb dL_law_1434 (by decide) ?_
  refine lv_iadd hx hb dL_law_1435 ?_
  refine va_sld hx hb hX hbl hbA hS (s_in (k := 1) hi hL (by decide)) dL_law_1436 ?_
  obtain ⟨v, f', m', st', e1, cO, cM, e2, L1⟩ := stp_W (k_restore (F := F) (by omega) (xs (nI i + (1 : Int32)).toNatClampNeg)) LI0
  have rm := LI.room LI0 hcc hss (by omega)
  refine s_callV (As := [.int (xs (nI i + (1 : Int32)).toNatClampNeg)]) (rest := []) CF hK hW hS (S_X11_restore l G F e1) cO rfl gv_L_175 hd_X11_restore ⟨Nat.le_of_ble_eq_true rfl, Nat.le_of_ble_eq_true rfl⟩ rfl hl.1 rfl (Nat.le_of_ble_eq_true rfl) dL_law_1437 ⟨rm.1, rm.2⟩ (fun H locs hW hS => ?_)
  refine s_aload_n hx hb dL_law_1440 rfl (lv_at hl 2 rfl) ?_
  refine lv_aload_n hx hb dL_law_1441 rfl (lv_at hl 0 rfl) ?_
  refine lv_iload hx hb dL_law_1442 (lv_at hl 4 rfl) ?_
  refine lv_iconst (v := (1 : Int32)) hx hb dL_law_1444 (by decide) ?_
  refine lv_iadd hx hb dL_law_1445 ?_
  refine va_sld hx hb hX hbl hbA hS (s_in (k := 1) hi hL (by decide)) dL_law_1446 ?_
  refine s_callV (As := [.int (xs (nI i + (1 : Int32)).toNatClampNeg)]) (rest := [.int v]) CF hK hW hS (S_X12_restore l G F e2) cM rfl gv_L_178 hd_X12_restore ⟨Nat.le_of_ble_eq_true rfl, Nat.le_of_ble_eq_true rfl⟩ rfl hl.1 rfl (Nat.le_of_ble_eq_true rfl) dL_law_1447 ⟨rm.1, rm.2⟩ (fun H locs hW hS => ?_)
  refine lv_icmp_eq (tgt := 1480) hx hb dL_law_1450 (by decide) (fun _ => ?_) (fun q => (q rfl).elim)
  exact back _ _ _ _ _ ⟨sk, _, n, z, m', st', ee, L1, hW, hS, hcc, hss, by omega, hl⟩
set_option maxHeartbeats 4000000 in
theorem case_36 (hF : 5041 ≤ F) (C : LWc p l s m c b L xs G) (hL : L ≤ 3072) (hi : i + 6 ≤ L) (hk : k < 512) (h : LWs G s b i k H locs cells slots ls) (back : ∀ (H : Heap) (locs : List Loc) (cells slots : Nat) (ls : Array Slot), LWs G s b i (k + 1) H locs cells slots ls → W p l e room_1 s m #[Value.ref b] below meth c H locs cells slots Q (F0 m 1480 ls [])) : W p l e room_1 s m #[Value.ref b] below meth c H locs cells slots Q (F0 m 1455 ls []) := by
  obtain ⟨hx, hb, hml, hown, hT, hX, hbl, hG, hK, hTx, hst⟩ := C
  obtain ⟨sk, f, n, z, mm, st, ee, LI0, hW, hS, hcc, hss, hsk, hl⟩ := h
  have hbA : ¬ WA G b := fun h => by have h1 : G.1 ≤ b := h; omega
  have CF : CallFix p m c cL_law 8 s #[Value.ref b] TB RL := ⟨hx, hb, hml, hown, hT⟩
  refine s_aload_n hx hb dL_law_1455 rfl (lv_at hl 1 rfl) ?_
  refine lv_aload_n hx hb dL_law_1456 rfl (lv_at hl 0 rfl) ?_
  refine lv_iload hx hb dL_law_1457 (lv_at hl 4 rfl) ?_
  refine lv_iconst (v := (1 : Int32)) hx hb dL_law_1459 (by decide) ?_
  refine lv_iadd hx hb dL_law_1460 ?_
  refine va_sld hx hb hX hbl hbA hS (s_in (k := 1) hi hL (by decide)) dL_law_1461 ?_
  obtain ⟨v, st', e1, cO, cM, e2, L1⟩ := stp_R (k_count (F := F) (by omega) (xs (nI i + (1 : Int32)).toNatClampNeg)) LI0
  have rm := LI.room LI0 hcc hss (by omega)
  refine s_callV (As := [.int (xs (nI i + (1 : Int32)).toNatClampNeg)]) (rest := []) CF hK hW hS (S_X11_count l G F e1) cO rfl gv_L_179 hd_X11_count ⟨Nat.le_of_ble_eq_true rfl, Nat.le_of_ble_eq_true rfl⟩ rfl hl.1 rfl (Nat.le_of_ble_eq_true rfl) dL_law_1462 ⟨rm.1, rm.2⟩ (fun H locs hW hS => ?_)
  refine s_aload_n hx hb dL_law_1465 rfl (lv_at hl 2 rfl) ?_
  refine lv_aload_n hx hb dL_law_1466 rfl (lv_at hl 0 rfl) ?_
  refine lv_iload hx hb dL_law_1467 (lv_at hl 4 rfl) ?_
  refine lv_iconst (v := (1 : Int32)) hx hb dL_law_1469 (by decide) ?_
  refine lv_iadd hx hb dL_law_1470 ?_
  refine va_sld hx hb hX hbl hbA hS (s_in (k := 1) hi hL (by decide)) dL_law_1471 ?_
  refine s_callV (As := [.int (xs (nI i + (1 : Int32)).toNatClampNeg)]) (rest := [.int v]) CF hK hW hS (S_X12_count l G F e2) cM rfl gv_L_182 hd_X12_count ⟨Nat.le_of_ble_eq_true rfl, Nat.le_of_ble_eq_true rfl⟩ rfl hl.1 rfl (Nat.le_of_ble_eq_true rfl) dL_law_1472 ⟨rm.1, rm.2⟩ (fun H locs hW hS => ?_)
  refine lv_icmp_eq (tgt := 1480) hx hb dL_law_1475 (by decide) (fun _ => ?_) (fun q => (q rfl).elim)
  exact back _ _ _ _ _ ⟨sk, _, n, z, mm, st', ee, L1, hW, hS, hcc, hss, by omega, hl⟩
end CASES3
