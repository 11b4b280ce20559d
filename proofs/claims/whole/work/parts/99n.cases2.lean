/-! cases of the law's switch -/
section CASES2
variable {p : Program} {l : Launch} {e : Env} {s : State} {m : MethodId} {below : List Frame} {meth : Method} {c : Code} {H : Heap} {locs : List Loc} {cells slots : Nat} {Q : State → Prop} {ls : Array Slot}
variable {b L : Nat} {xs : Nat → Int32} {G : GG} {F i k : Nat}
set_option maxHeartbeats 4000000 in
theorem case_13 (hF : 5041 ≤ F) (C : LWc p l s m c b L xs G) (hL : L ≤ 3072) (hi : i + 6 ≤ L) (hk : k < 512) (h : LWs G s b i k H locs cells slots ls) (back : ∀ (H : Heap) (locs : List Loc) (cells slots : Nat) (ls : Array Slot), LWs G s b i (k + 1) H locs cells slots ls → W p l e room_1 s m #[Value.ref b] below meth c H locs cells slots Q (F0 m 1480 ls [])) : W p l e room_1 s m #[Value.ref b] below meth c H locs cells slots Q (F0 m 692 ls []) := by
  obtain ⟨hx, hb, hml, hown, hT, hX, hbl, hG, hK, hTx, hst⟩ := C
  obtain ⟨sk, f, n, z, mm, st, ee, LI0, hW, hS, hcc, hss, hsk, hl⟩ := h
  have hbA : ¬ WA G b := fun h => by have h1 : G.1 ≤ b := h; omega
  have CF : CallFix p m c cL_law 8 s #[Value.ref b] TB RL := ⟨hx, hb, hml, hown, hT⟩
  refine s_aload_n hx hb dL_law_692 rfl (lv_at hl 1 rfl) ?_
  refine lv_aload_n hx hb dL_law_693 rfl (lv_at hl 0 rfl) ?_
  refine lv_iload hx hb dL_law_694 (lv_at hl 4 rfl) ?_
  refine lv_iconst (v := (1 : Int32)) hx hb dL_law_696 (by decide) ?_
  refine lv_iadd hx hb dL_law_697 ?_
  refine va_sld hx hb hX hbl hbA hS (s_in (k := 1) hi hL (by decide)) dL_law_698 ?_
  refine lv_aload_n hx hb dL_law_699 rfl (lv_at hl 0 rfl) ?_
  refine lv_iload hx hb dL_law_700 (lv_at hl 4 rfl) ?_
  refine lv_iconst (v := (2 : Int32)) hx hb dL_law_702 (by decide) ?_
  refine lv_iadd hx hb dL_law_703 ?_
  refine va_sld hx hb hX hbl hbA hS (s_in (k := 2) hi hL (by decide)) dL_law_704 ?_
  obtain ⟨v, f', n', z', m', st', e1, hn, hz, cO, cM, e2, L1⟩ := stp_A (k_nearest (F := F) (by omega) (xs (nI i + (1 : Int32)).toNatClampNeg) (xs (nI i + (2 : Int32)).toNatClampNeg)) LI0
  have hcc1 : cells + (n' - n) + 100 = n' + ee := by omega
  have hss1 : slots + (z' - z) = z' + 6 * ee := by omega
  have rm := LI.room L1 hcc1 hss1 (by omega)
  refine s_callV (As := [.int (xs (nI i + (1 : Int32)).toNatClampNeg), .int (xs (nI i + (2 : Int32)).toNatClampNeg)]) (rest := []) CF hK hW hS (S_X11_nearest l G F e1) cO rfl gv_L_86 hd_X11_nearest ⟨Nat.le_of_ble_eq_true rfl, Nat.le_of_ble_eq_true rfl⟩ rfl hl.1 rfl (Nat.le_of_ble_eq_true rfl) dL_law_705 ⟨rm.1, rm.2⟩ (fun H locs hW hS => ?_)
  refine s_aload_n hx hb dL_law_708 rfl (lv_at hl 2 rfl) ?_
  refine lv_aload_n hx hb dL_law_709 rfl (lv_at hl 0 rfl) ?_
  refine lv_iload hx hb dL_law_710 (lv_at hl 4 rfl) ?_
  refine lv_iconst (v := (1 : Int32)) hx hb dL_law_712 (by decide) ?_
  refine lv_iadd hx hb dL_law_713 ?_
  refine va_sld hx hb hX hbl hbA hS (s_in (k := 1) hi hL (by decide)) dL_law_714 ?_
  refine lv_aload_n hx hb dL_law_715 rfl (lv_at hl 0 rfl) ?_
  refine lv_iload hx hb dL_law_716 (lv_at hl 4 rfl) ?_
  refine lv_iconst (v := (2 : Int32)) hx hb dL_law_718 (by decide) ?_
  refine lv_iadd hx hb dL_law_719 ?_
  refine va_sld hx hb hX hbl hbA hS (s_in (k := 2) hi hL (by decide)) dL_law_720 ?_
  refine s_callV (As := [.int (xs (nI i + (1 : Int32)).toNatClampNeg), .int (xs (nI i + (2 : Int32)).toNatClampNeg)]) (rest := [.int v]) CF hK hW hS (S_X12_nearest l G F e2) cM rfl gv_L_89 hd_X12_nearest ⟨Nat.le_of_ble_eq_true rfl, Nat.le_of_ble_eq_true rfl⟩ rfl hl.1 rfl (Nat.le_of_ble_eq_true rfl) dL_law_721 ⟨rm.1, rm.2⟩ (fun H locs hW hS => ?_)
  refine lv_icmp_eq (tgt := 1480) hx hb dL_law_724 (by decide) (fun _ => ?_) (fun q => (q rfl).elim)
  exact back _ _ _ _ _ ⟨sk, _, n', z', m', st', ee, L1, hW, hS, hcc1, hss1, by omega, hl⟩
set_option maxHeartbeats 4000000 in
theorem case_14 (hF : 5041 ≤ F) (C : LWc p l s m c b L xs G) (hL : L ≤ 3072) (hi : i + 6 ≤ L) (hk : k < 512) (h : LWs G s b i k H locs cells slots ls) (back : ∀ (H : Heap) (locs : List Loc) (cells slots : Nat) (ls : Array Slot), LWs G s b i (k + 1) H locs cells slots ls → W p l e room_1 s m #[Value.ref b] below meth c H locs cells slots Q (F0 m 1480 ls [])) : W p l e room_1 s m #[Value.ref b] below meth c H locs cells slots Q (F0 m 729 ls []) := by
  obtain ⟨hx, hb, hml, hown, hT, hX, hbl, hG, hK, hTx, hst⟩ := C
  obtain ⟨sk, f, n, z, mm, st, ee, LI0, hW, hS, hcc, hss, hsk, hl⟩ := h
  have hbA : ¬ WA G b := fun h => by have h1 : G.1 ≤ b := h; omega
  have CF : CallFix p m c cL_law 8 s #[Value.ref b] TB RL := ⟨hx, hb, hml, hown, hT⟩
  refine s_aload_n hx hb dL_law_729 rfl (lv_at hl 1 rfl) ?_
  obtain ⟨v, f', m', st', e1, cO, cM, e2, L1⟩ := stp_W (k_tree (F := F) (by omega) ) LI0
  have rm := LI.room LI0 hcc hss (by omega)
  refine s_callV (As := []) (rest := []) CF hK hW hS (S_X11_tree l G F e1) cO rfl gv_L_90 hd_X11_tree ⟨Nat.le_of_ble_eq_true rfl, Nat.le_of_ble_eq_true rfl⟩ rfl hl.1 rfl (Nat.le_of_ble_eq_true rfl) dL_law_730 ⟨rm.1, rm.2⟩ (fun H locs hW hS => ?_)
  refine s_aload_n hx hb dL_law_733 rfl (lv_at hl 2 rfl) ?_
  refine s_callV (As := []) (rest := [.int v]) CF hK hW hS (S_X12_tree l G F e2) cM rfl gv_L_93 hd_X12_tree ⟨Nat.le_of_ble_eq_true rfl, Nat.le_of_ble_eq_true rfl⟩ rfl hl.1 rfl (Nat.le_of_ble_eq_true rfl) dL_law_734 ⟨rm.1, rm.2⟩ (fun H locs hW hS => ?_)
  refine lv_icmp_eq (tgt := 1480) hx hb dL_law_737 (by decide) (fun _ => ?_) (fun q => (q rfl).elim)
  exact back _ _ _ _ _ ⟨sk, _, n, z, m', st', ee, L1, hW, hS, hcc, hss, by omega, hl⟩
set_option maxHeartbeats 4000000 in
theorem case_15 (hF : 5041 ≤ F) (C : LWc p l s m c b L xs G) (hL : L ≤ 3072) (hi : i + 6 ≤ L) (hk : k < 512) (h : LWs G s b i k H locs cells slots ls) (back : ∀ (H : Heap) (locs : List Loc) (cells slots : Nat) (ls : Array Slot), LWs G s b i (k + 1) H locs cells slots ls → W p l e room_1 s m #[Value.ref b] below meth c H locs cells slots Q (F0 m 1480 ls [])) : W p l e room_1 s m #[Value.ref b] below meth c H locs cells slots Q (F0 m 742 ls []) := by
  obtain ⟨hx, hb, hml, hown, hT, hX, hbl, hG, hK, hTx, hst⟩ := C
  obtain ⟨sk, f, n, z, mm, st, ee, LI0, hW, hS, hcc, hss, hsk, hl⟩ := h
  have hbA : ¬ WA G b := fun h => by have h1 : G.1 ≤ b := h; omega
  have CF : CallFix p m c cL_law 8 s #[Value.ref b] TB RL := ⟨hx, hb, hml, hown, hT⟩
  refine s_aload_n hx hb dL_law_742 rfl (lv_at hl 1 rfl) ?_
  refine lv_aload_n hx hb dL_law_743 rfl (lv_at hl 0 rfl) ?_
  refine lv_iload hx hb dL_law_744 (lv_at hl 4 rfl) ?_
  refine lv_iconst (v := (1 : Int32)) hx hb dL_law_746 (by decide) ?_
  refine lv_iadd hx hb dL_law_747 ?_
  refine va_sld hx hb hX hbl hbA hS (s_in (k := 1) hi hL (by decide)) dL_law_748 ?_
  obtain ⟨v, st', e1, cO, cM, e2, L1⟩ := stp_R (k_from (F := F) (xs (nI i + (1 : Int32)).toNatClampNeg)) LI0
  have rm := LI.room LI0 hcc hss (by omega)
  refine s_callV (As := [.int (xs (nI i + (1 : Int32)).toNatClampNeg)]) (rest := []) CF hK hW hS (S_X11_from l G F e1) cO rfl gv_L_94 hd_X11_from ⟨Nat.le_of_ble_eq_true rfl, Nat.le_of_ble_eq_true rfl⟩ rfl hl.1 rfl (Nat.le_of_ble_eq_true rfl) dL_law_749 ⟨rm.1, rm.2⟩ (fun H locs hW hS => ?_)
  refine s_aload_n hx hb dL_law_752 rfl (lv_at hl 2 rfl) ?_
  refine lv_aload_n hx hb dL_law_753 rfl (lv_at hl 0 rfl) ?_
  refine lv_iload hx hb dL_law_754 (lv_at hl 4 rfl) ?_
  refine lv_iconst (v := (1 : Int32)) hx hb dL_law_756 (by decide) ?_
  refine lv_iadd hx hb dL_law_757 ?_
  refine va_sld hx hb hX hbl hbA hS (s_in (k := 1) hi hL (by decide)) dL_law_758 ?_
  refine s_callV (As := [.int (xs (nI i + (1 : Int32)).toNatClampNeg)]) (rest := [.int v]) CF hK hW hS (S_X12_from l G F e2) cM rfl gv_L_97 hd_X12_from ⟨Nat.le_of_ble_eq_true rfl, Nat.le_of_ble_eq_true rfl⟩ rfl hl.1 rfl (Nat.le_of_ble_eq_true rfl) dL_law_759 ⟨rm.1, rm.2⟩ (fun H locs hW hS => ?_)
  refine lv_icmp_eq (tgt := 1480) hx hb dL_law_762 (by decide) (fun _ => ?_) (fun q => (q rfl).elim)
  exact back _ _ _ _ _ ⟨sk, _, n, z, mm, st', ee, L1, hW, hS, hcc, hss, by omega, hl⟩
set_option maxHeartbeats 4000000 in
theorem case_16 (hF : 5041 ≤ F) (C : LWc p l s m c b L xs G) (hL : L ≤ 3072) (hi : i + 6 ≤ L) (hk : k < 512) (h : LWs G s b i k H locs cells slots ls) (back : ∀ (H : Heap) (locs : List Loc) (cells slots : Nat) (ls : Array Slot), LWs G s b i (k + 1) H locs cells slots ls → W p l e room_1 s m #[Value.ref b] below meth c H locs cells slots Q (F0 m 1480 ls [])) : W p l e room_1 s m #[Value.ref b] below meth c H locs cells slots Q (F0 m 767 ls []) := by
  obtain ⟨hx, hb, hml, hown, hT, hX, hbl, hG, hK, hTx, hst⟩ := C
  obtain ⟨sk, f, n, z, mm, st, ee, LI0, hW, hS, hcc, hss, hsk, hl⟩ := h
  have hbA : ¬ WA G b := fun h => by have h1 : G.1 ≤ b := h; omega
  have CF : CallFix p m c cL_law 8 s #[Value.ref b] TB RL := ⟨hx, hb, hml, hown, hT⟩
  refine s_aload_n hx hb dL_law_767 rfl (lv_at hl 1 rfl) ?_
  refine lv_aload_n hx hb dL_law_768 rfl (lv_at hl 0 rfl) ?_
  refine lv_iload hx hb dL_law_769 (lv_at hl 4 rfl) ?_
  refine lv_iconst (v := (1 : Int32)) hx hb dL_law_771 (by decide) ?_
  refine lv_iadd hx hb dL_law_772 ?_
  refine va_sld hx hb hX hbl hbA hS (s_in (k := 1) hi hL (by decide)) dL_law_773 ?_
  obtain ⟨v, f', n', z', m', st', e1, hn, hz, cO, cM, e2, L1⟩ := stp_A (k_missing (F := F) (by omega) (xs (nI i + (1 : Int32)).toNatClampNeg)) LI0
  have hcc1 : cells + (n' - n) + 100 = n' + ee := by omega
  have hss1 : slots + (z' - z) = z' + 6 * ee := by omega
  have rm := LI.room L1 hcc1 hss1 (by omega)
  refine s_callV (As := [.int (xs (nI i + (1 : Int32)).toNatClampNeg)]) (rest := []) CF hK hW hS (S_X11_missing l G F e1) cO rfl gv_L_98 hd_X11_missing ⟨Nat.le_of_ble_eq_true rfl, Nat.le_of_ble_eq_true rfl⟩ rfl hl.1 rfl (Nat.le_of_ble_eq_true rfl) dL_law_774 ⟨rm.1, rm.2⟩ (fun H locs hW hS => ?_)
  refine s_aload_n hx hb dL_law_777 rfl (lv_at hl 2 rfl) ?_
  refine lv_aload_n hx hb dL_law_778 rfl (lv_at hl 0 rfl) ?_
  refine lv_iload hx hb dL_law_779 (lv_at hl 4 rfl) ?_
  refine lv_iconst (v := (1 : Int32)) hx hb dL_law_781 (by decide) ?_
  refine lv_iadd hx hb dL_law_782 ?_
  refine va_sld hx hb hX hbl hbA hS (s_in (k := 1) hi hL (by decide)) dL_law_783 ?_
  refine s_callV (As := [.int (xs (nI i + (1 : Int32)).toNatClampNeg)]) (rest := [.int v]) CF hK hW hS (S_X12_missing l G F e2) cM rfl gv_L_101 hd_X12_missing ⟨Nat.le_of_ble_eq_true rfl, Nat.le_of_ble_eq_true rfl⟩ rfl hl.1 rfl (Nat.le_of_ble_eq_true rfl) dL_law_784 ⟨rm.1, rm.2⟩ (fun H locs hW hS => ?_)
  refine lv_icmp_eq (tgt := 1480) hx hb dL_law_787 (by decide) (fun _ => ?_) (fun q => (q rfl).elim)
  exact back _ _ _ _ _ ⟨sk, _, n', z', m', st', ee, L1, hW, hS, hcc1, hss1, by omega, hl⟩
set_option maxHeartbeats 4000000 in
theorem case_17 (hF : 5041 ≤ F) (C : LWc p l s m c b L xs G) (hL : L ≤ 3072) (hi : i + 6 ≤ L) (hk : k < 512) (h : LWs G s b i k H locs cells slots ls) (back : ∀ (H : Heap) (locs : List Loc) (cells slots : Nat) (ls : Array Slot), LWs G s b i (k + 1) H locs cells slots ls → W p l e room_1 s m #[Value.ref b] below meth c H locs cells slots Q (F0 m 1480 ls [])) : W p l e room_1 s m #[Value.ref b] below meth c H locs cells slots Q (F0 m 792 ls []) := by
  obtain ⟨hx, hb, hml, hown, hT, hX, hbl, hG, hK, hTx, hst⟩ := C
  obtain ⟨sk, f, n, z, mm, st, ee, LI0, hW, hS, hcc, hss, hsk, hl⟩ := h
  have hbA : ¬ WA G b := fun h => by have h1 : G.1 ≤ b := h; omega
  have CF : CallFix p m c cL_law 8 s #[Value.ref b] TB RL := ⟨hx, hb, hml, hown, hT⟩
  refine s_aload_n hx hb dL_law_792 rfl (lv_at hl 1 rfl) ?_
  refine lv_aload_n hx hb dL_law_793 rfl (lv_at hl 0 rfl) ?_
  refine lv_iload hx hb dL_law_794 (lv_at hl 4 rfl) ?_
  refine lv_iconst (v := (1 : Int32)) hx hb dL_law_796 (by decide) ?_
  refine lv_iadd hx hb dL_law_797 ?_
  refine va_sld hx hb hX hbl hbA hS (s_in (k := 1) hi hL (by decide)) dL_law_798 ?_
  refine lv_aload_n hx hb dL_law_799 rfl (lv_at hl 0 rfl) ?_
  refine lv_iload hx hb dL_law_800 (lv_at hl 4 rfl) ?_
  refine lv_iconst (v := (2 : Int32)) hx hb dL_law_802 (by decide) ?_
  refine lv_iadd hx hb dL_law_803 ?_
  refine va_sld hx hb hX hbl hbA hS (s_in (k := 2) hi hL (by decide)) dL_law_804 ?_
  refine lv_aload_n hx hb dL_law_805 rfl (lv_at hl 0 rfl) ?_
  refine lv_iload hx hb dL_law_806 (lv_at hl 4 rfl) ?_
  refine lv_iconst (v := (3 : Int32)) hx hb dL_law_808 (by decide) ?_
  refine lv_iadd hx hb dL_law_809 ?_
  refine va_sld hx hb hX hbl hbA hS (s_in (k := 3) hi hL (by decide)) dL_law_810 ?_
  obtain ⟨v, f', n', z', m', st', e1, hn, hz, cO, cM, e2, L1⟩ := stp_A (k_ways (F := F) (by omega) (xs (nI i + (1 : Int32)).toNatClampNeg) (xs (nI i + (2 : Int32)).toNatClampNeg) (xs (nI i + (3 : Int32)).toNatClampNeg)) LI0
  have hcc1 : cells + (n' - n) + 100 = n' + ee := by omega
  have hss1 : slots + (z' - z) = z' + 6 * ee := by omega
  have rm := LI.room L1 hcc1 hss1 (by omega)
  refine s_callV (As := [.int (xs (nI i + (1 : Int32)).toNatClampNeg), .int (xs (nI i + (2 : Int32)).toNatClampNeg), .int (xs (nI i + (3 : Int32)).toNatClampNeg)]) (rest := []) CF hK hW hS (S_X11_ways l G F e1) cO rfl gv_L_102 hd_X11_ways ⟨Nat.le_of_ble_eq_true rfl, Nat.le_of_ble_eq_true rfl⟩ rfl hl.1 rfl (Nat.le_of_ble_eq_true rfl) dL_law_811 ⟨rm.1, rm.2⟩ (fun H locs hW hS => ?_)
  refine s_aload_n hx hb dL_law_814 rfl (lv_at hl 2 rfl) ?_
  refine lv_aload_n hx hb dL_law_815 rfl (lv_at hl 0 rfl) ?_
  refine lv_iload hx hb dL_law_816 (lv_at hl 4 rfl) ?_
  refine lv_iconst (v := (1 : Int32)) hx hb dL_law_818 (by decide) ?_
  refine lv_iadd hx hb dL_law_819 ?_
  refine va_sld hx hb hX hbl hbA hS (s_in (k := 1) hi hL (by decide)) dL_law_820 ?_
  refine lv_aload_n hx hb dL_law_821 rfl (lv_at hl 0 rfl) ?_
  refine lv_iload hx hb dL_law_822 (lv_at hl 4 rfl) ?_
  refine lv_iconst (v := (2 : Int32)) hx hb dL_law_824 (by decide) ?_
  refine lv_iadd hx hb dL_law_825 ?_
  refine va_sld hx hb hX hbl hbA hS (s_in (k := 2) hi hL (by decide)) dL_law_826 ?_
  refine lv_aload_n hx hb dL_law_827 rfl (lv_at hl 0 rfl) ?_
  refine lv_iload hx hb dL_law_828 (lv_at hl 4 rfl) ?_
  refine lv_iconst (v := (3 : Int32)) hx hb dL_law_830 (by decide) ?_
  refine lv_iadd hx hb dL_law_831 ?_
  refine va_sld hx hb hX hbl hbA hS (s_in (k := 3) hi hL (by decide)) dL_law_832 ?_
  refine s_callV (As := [.int (xs (nI i + (1 : Int32)).toNatClampNeg), .int (xs (nI i + (2 : Int32)).toNatClampNeg), .int (xs (nI i + (3 : Int32)).toNatClampNeg)]) (rest := [.long v]) CF hK hW hS (S_X12_ways l G F e2) cM rfl gv_L_105 hd_X12_ways ⟨Nat.le_of_ble_eq_true rfl, Nat.le_of_ble_eq_true rfl⟩ rfl hl.1 rfl (Nat.le_of_ble_eq_true rfl) dL_law_833 ⟨rm.1, rm.2⟩ (fun H locs hW hS => ?_)
  refine W.lcmp hx hb dL_law_836 ?_
  refine lv_if_eq (tgt := 1480) hx hb dL_law_837 (by decide) (fun _ => ?_) (fun q => (q ((lg_cmp_eq _ _).mpr rfl)).elim)
  exact back _ _ _ _ _ ⟨sk, _, n', z', m', st', ee, L1, hW, hS, hcc1, hss1, by omega, hl⟩
set_option maxHeartbeats 4000000 in
theorem case_18 (hF : 5041 ≤ F) (C : LWc p l s m c b L xs G) (hL : L ≤ 3072) (hi : i + 6 ≤ L) (hk : k < 512) (h : LWs G s b i k H locs cells slots ls) (back : ∀ (H : Heap) (locs : List Loc) (cells slots : Nat) (ls : Array Slot), LWs G s b i (k + 1) H locs cells slots ls → W p l e room_1 s m #[Value.ref b] below meth c H locs cells slots Q (F0 m 1480 ls [])) : W p l e room_1 s m #[Value.ref b] below meth c H locs cells slots Q (F0 m 842 ls []) := by
  obtain ⟨hx, hb, hml, hown, hT, hX, hbl, hG, hK, hTx, hst⟩ := C
  obtain ⟨sk, f, n, z, mm, st, ee, LI0, hW, hS, hcc, hss, hsk, hl⟩ := h
  have hbA : ¬ WA G b := fun h => by have h1 : G.1 ≤ b := h; omega
  have CF : CallFix p m c cL_law 8 s #[Value.ref b] TB RL := ⟨hx, hb, hml, hown, hT⟩
  refine s_aload_n hx hb dL_law_842 rfl (lv_at hl 1 rfl) ?_
  refine lv_aload_n hx hb dL_law_843 rfl (lv_at hl 0 rfl) ?_
  refine lv_iload hx hb dL_law_844 (lv_at hl 4 rfl) ?_
  refine lv_iconst (v := (1 : Int32)) hx hb dL_law_846 (by decide) ?_
  refine lv_iadd hx hb dL_law_847 ?_
  refine va_sld hx hb hX hbl hbA hS (s_in (k := 1) hi hL (by decide)) dL_law_848 ?_
  refine lv_aload_n hx hb dL_law_849 rfl (lv_at hl 0 rfl) ?_
  refine lv_iload hx hb dL_law_850 (lv_at hl 4 rfl) ?_
  refine lv_iconst (v := (2 : Int32)) hx hb dL_law_852 (by decide) ?_
  refine lv_iadd hx hb dL_law_853 ?_
  refine va_sld hx hb hX hbl hbA hS (s_in (k := 2) hi hL (by decide)) dL_law_854 ?_
  refine lv_aload_n hx hb dL_law_855 rfl (lv_at hl 0 rfl) ?_
  refine lv_iload hx hb dL_law_856 (lv_at hl 4 rfl) ?_
  refine lv_iconst (v := (3 : Int32)) hx hb dL_law_858 (by decide) ?_
  refine lv_iadd hx hb dL_law_859 ?_
  refine va_sld hx hb hX hbl hbA hS (s_in (k := 3) hi hL (by decide)) dL_law_860 ?_
  refine lv_aload_n hx hb dL_law_861 rfl (lv_at hl 0 rfl) ?_
  refine lv_iload hx hb dL_law_862 (lv_at hl 4 rfl) ?_
  refine lv_iconst (v := (4 : Int32)) hx hb dL_law_864 (by decide) ?_
  refine lv_iadd hx hb dL_law_865 ?_
  refine va_sld hx hb hX hbl hbA hS (s_in (k := 4) hi hL (by decide)) dL_law_866 ?_
  obtain ⟨v, f', n', z', m', st', e1, hn, hz, cO, cM, e2, L1⟩ := stp_A (k_likeliest (F := F) (by omega) (xs (nI i + (1 : Int32)).toNatClampNeg) (xs (nI i + (2 : Int32)).toNatClampNeg) (xs (nI i + (3 : Int32)).toNatClampNeg) (xs (nI i + (4 : Int32)).toNatClampNeg)) LI0
  have hcc1 : cells + (n' - n) + 100 = n' + ee := by omega
  have hss1 : slots + (z' - z) = z' + 6 * ee := by omega
  have rm := LI.room L1 hcc1 hss1 (by omega)
  refine s_callV (As := [.int (xs (nI i + (1 : Int32)).toNatClampNeg), .int (xs (nI i + (2 : Int32)).toNatClampNeg), .int (xs (nI i + (3 : Int32)).toNatClampNeg), .int (xs (nI i + (4 : Int32)).toNatClampNeg)]) (rest := []) CF hK hW hS (S_X11_likeliest l G F e1) cO rfl gv_L_106 hd_X11_likeliest ⟨Nat.le_of_ble_eq_true rfl, Nat.le_of_ble_eq_true rfl⟩ rfl hl.1 rfl (Nat.le_of_ble_eq_true rfl) dL_law_867 ⟨rm.1, rm.2⟩ (fun H locs hW hS => ?_)
  refine s_aload_n hx hb dL_law_870 rfl (lv_at hl 2 rfl) ?_
  refine lv_aload_n hx hb dL_law_871 rfl (lv_at hl 0 rfl) ?_
  refine lv_iload hx hb dL_law_872 (lv_at hl 4 rfl) ?_
  refine lv_iconst (v := (1 : Int32)) hx hb dL_law_874 (by decide) ?_
  refine lv_iadd hx hb dL_law_875 ?_
  refine va_sld hx hb hX hbl hbA hS (s_in (k := 1) hi hL (by decide)) dL_law_876 ?_
  refine lv_aload_n hx hb dL_law_877 rfl (lv_at hl 0 rfl) ?_
  refine lv_iload hx hb dL_law_878 (lv_at hl 4 rfl) ?_
  refine lv_iconst (v := (2 : Int32)) hx hb dL_law_880 (by decide) ?_
  refine lv_iadd hx hb dL_law_881 ?_
  refine va_sld hx hb hX hbl hbA hS (s_in (k := 2) hi hL (by decide)) dL_law_882 ?_
  refine lv_aload_n hx hb dL_law_883 rfl (lv_at hl 0 rfl) ?_
  refine lv_iload hx hb dL_law_884 (lv_at hl 4 rfl) ?_
  refine lv_iconst (v := (3 : Int32)) hx hb dL_law_886 (by decide) ?_
  refine lv_iadd hx hb dL_law_887 ?_
  refine va_sld hx hb hX hbl hbA hS (s_in (k := 3) hi hL (by decide)) dL_law_888 ?_
  refine lv_aload_n hx hb dL_law_889 rfl (lv_at hl 0 rfl) ?_
  refine lv_iload hx hb dL_law_890 (lv_at hl 4 rfl) ?_
  refine lv_iconst (v := (4 : Int32)) hx hb dL_law_892 (by decide) ?_
  refine lv_iadd hx hb dL_law_893 ?_
  refine va_sld hx hb hX hbl hbA hS (s_in (k := 4) hi hL (by decide)) dL_law_894 ?_
  refine s_callV (As := [.int (xs (nI i + (1 : Int32)).toNatClampNeg), .int (xs (nI i + (2 : Int32)).toNatClampNeg), .int (xs (nI i + (3 : Int32)).toNatClampNeg), .int (xs (nI i + (4 : Int32)).toNatClampNeg)]) (rest := [.int v]) CF hK hW hS (S_X12_likeliest l G F e2) cM rfl gv_L_109 hd_X12_likeliest ⟨Nat.le_of_ble_eq_true rfl, Nat.le_of_ble_eq_true rfl⟩ rfl hl.1 rfl (Nat.le_of_ble_eq_true rfl) dL_law_895 ⟨rm.1, rm.2⟩ (fun H locs hW hS => ?_)
  refine lv_icmp_eq (tgt := 1480) hx hb dL_law_898 (by decide) (fun _ => ?_) (fun q => (q rfl).elim)
  exact back _ _ _ _ _ ⟨sk, _, n', z', m', st', ee, L1, hW, hS, hcc1, hss1, by omega, hl⟩
set_option maxHeartbeats 4000000 in
theorem case_19 (hF : 5041 ≤ F) (C : LWc p l s m c b L xs G) (hL : L ≤ 3072) (hi : i + 6 ≤ L) (hk : k < 512) (h : LWs G s b i k H locs cells slots ls) (back : ∀ (H : Heap) (locs : List Loc) (cells slots : Nat) (ls : Array Slot), LWs G s b i (k + 1) H locs cells slots ls → W p l e room_1 s m #[Value.ref b] below meth c H locs cells slots Q (F0 m 1480 ls [])) : W p l e room_1 s m #[Value.ref b] below meth c H locs cells slots Q (F0 m 903 ls []) := by
  obtain ⟨hx, hb, hml, hown, hT, hX, hbl, hG, hK, hTx, hst⟩ := C
  obtain ⟨sk, f, n, z, mm, st, ee, LI0, hW, hS, hcc, hss, hsk, hl⟩ := h
  have hbA : ¬ WA G b := fun h => by have h1 : G.1 ≤ b := h; omega
  have CF : CallFix p m c cL_law 8 s #[Value.ref b] TB RL := ⟨hx, hb, hml, hown, hT⟩
  refine s_aload_n hx hb dL_law_903 rfl (lv_at hl 1 rfl) ?_
  obtain ⟨v, st', e1, cO, cM, e2, L1⟩ := stp_R (k_likely (F := F) ) LI0
  have rm := LI.room LI0 hcc hss (by omega)
  refine s_callV (As := []) (rest := []) CF hK hW hS (S_X11_likely l G F e1) cO rfl gv_L_110 hd_X11_likely ⟨Nat.le_of_ble_eq_true rfl, Nat.le_of_ble_eq_true rfl⟩ rfl hl.1 rfl (Nat.le_of_ble_eq_true rfl) dL_law_904 ⟨rm.1, rm.2⟩ (fun H locs hW hS => ?_)
  refine s_aload_n hx hb dL_law_907 rfl (lv_at hl 2 rfl) ?_
  refine s_callV (As := []) (rest := [.long v]) CF hK hW hS (S_X12_likely l G F e2) cM rfl gv_L_114 hd_X12_likely ⟨Nat.le_of_ble_eq_true rfl, Nat.le_of_ble_eq_true rfl⟩ rfl hl.1 rfl (Nat.le_of_ble_eq_true rfl) dL_law_908 ⟨rm.1, rm.2⟩ (fun H locs hW hS => ?_)
  refine W.lcmp hx hb dL_law_911 ?_
  refine lv_if_eq (tgt := 1480) hx hb dL_law_912 (by decide) (fun _ => ?_) (fun q => (q ((lg_cmp_eq _ _).mpr rfl)).elim)
  exact back _ _ _ _ _ ⟨sk, _, n, z, mm, st', ee, L1, hW, hS, hcc, hss, by omega, hl⟩
set_option maxHeartbeats 4000000 in
theorem case_20 (hF : 5041 ≤ F) (C : LWc p l s m c b L xs G) (hL : L ≤ 3072) (hi : i + 6 ≤ L) (hk : k < 512) (h : LWs G s b i k H locs cells slots ls) (back : ∀ (H : Heap) (locs : List Loc) (cells slots : Nat) (ls : Array Slot), LWs G s b i (k + 1) H locs cells slots ls → W p l e room_1 s m #[Value.ref b] below meth c H locs cells slots Q (F0 m 1480 ls [])) : W p l e room_1 s m #[Value.ref b] below meth c H locs cells slots Q (F0 m 917 ls []) := by
  obtain ⟨hx, hb, hml, hown, hT, hX, hbl, hG, hK, hTx, hst⟩ := C
  obtain ⟨sk, f, n, z, mm, st, ee, LI0, hW, hS, hcc, hss, hsk, hl⟩ := h
  have hbA : ¬ WA G b := fun h => by have h1 : G.1 ≤ b := h; omega
  have CF : CallFix p m c cL_law 8 s #[Value.ref b] TB RL := ⟨hx, hb, hml, hown, hT⟩
  refine s_aload_n hx hb dL_law_917 rfl (lv_at hl 1 rfl) ?_
  refine lv_aload_n hx hb dL_law_918 rfl (lv_at hl 0 rfl) ?_
  refine lv_iload hx hb dL_law_919 (lv_at hl 4 rfl) ?_
  refine lv_iconst (v := (1 : Int32)) hx hb dL_law_921 (by decide) ?_
  refine lv_iadd hx hb dL_law_922 ?_
  refine va_sld hx hb hX hbl hbA hS (s_in (k := 1) hi hL (by decide)) dL_law_923 ?_
  refine lv_aload_n hx hb dL_law_924 rfl (lv_at hl 0 rfl) ?_
  refine lv_iload hx hb dL_law_925 (lv_at hl 4 rfl) ?_
  refine lv_iconst (v := (2 : Int32)) hx hb dL_law_927 (by decide) ?_
  refine lv_iadd hx hb dL_law_928 ?_
  refine va_sld hx hb hX hbl hbA hS (s_in (k := 2) hi hL (by decide)) dL_law_929 ?_
  obtain ⟨v, f', n', z', m', st', e1, hn, hz, cO, cM, e2, L1⟩ := stp_A (k_firsts (F := F) (by omega) (xs (nI i + (1 : Int32)).toNatClampNeg) (xs (nI i + (2 : Int32)).toNatClampNeg)) LI0
  have hcc1 : cells + (n' - n) + 100 = n' + ee := by omega
  have hss1 : slots + (z' - z) = z' + 6 * ee := by omega
  have rm := LI.room L1 hcc1 hss1 (by omega)
  refine s_callV (As := [.int (xs (nI i + (1 : Int32)).toNatClampNeg), .int (xs (nI i + (2 : Int32)).toNatClampNeg)]) (rest := []) CF hK hW hS (S_X11_firsts l G F e1) cO rfl gv_L_115 hd_X11_firsts ⟨Nat.le_of_ble_eq_true rfl, Nat.le_of_ble_eq_true rfl⟩ rfl hl.1 rfl (Nat.le_of_ble_eq_true rfl) dL_law_930 ⟨rm.1, rm.2⟩ (fun H locs hW hS => ?_)
  refine s_aload_n hx hb dL_law_933 rfl (lv_at hl 2 rfl) ?_
  refine lv_aload_n hx hb dL_law_934 rfl (lv_at hl 0 rfl) ?_
  refine lv_iload hx hb dL_law_935 (lv_at hl 4 rfl) ?_
  refine lv_iconst (v := (1 : Int32)) hx hb dL_law_937 (by decide) ?_
  refine lv_iadd hx hb dL_law_938 ?_
  refine va_sld hx hb hX hbl hbA hS (s_in (k := 1) hi hL (by decide)) dL_law_939 ?_
  refine lv_aload_n hx hb dL_law_940 rfl (lv_at hl 0 rfl) ?_
  refine lv_iload hx hb dL_law_941 (lv_at hl 4 rfl) ?_
  refine lv_iconst (v := (2 : Int32)) hx hb dL_law_943 (by decide) ?_
  refine lv_iadd hx hb dL_law_944 ?_
  refine va_sld hx hb hX hbl hbA hS (s_in (k := 2) hi hL (by decide)) dL_law_945 ?_
  refine s_callV (As := [.int (xs (nI i + (1 : Int32)).toNatClampNeg), .int (xs (nI i + (2 : Int32)).toNatClampNeg)]) (rest := [.int v]) CF hK hW hS (S_X12_firsts l G F e2) cM rfl gv_L_118 hd_X12_firsts ⟨Nat.le_of_ble_eq_true rfl, Nat.le_of_ble_eq_true rfl⟩ rfl hl.1 rfl (Nat.le_of_ble_eq_true rfl) dL_law_946 ⟨rm.1, rm.2⟩ (fun H locs hW hS => ?_)
  refine lv_icmp_eq (tgt := 1480) hx hb dL_law_949 (by decide) (fun _ => ?_) (fun q => (q rfl).elim)
  exact back _ _ _ _ _ ⟨sk, _, n', z', m', st', ee, L1, hW, hS, hcc1, hss1, by omega, hl⟩
set_option maxHeartbeats 4000000 in
theorem case_21 (hF : 5041 ≤ F) (C : LWc p l s m c b L xs G) (hL : L ≤ 3072) (hi : i + 6 ≤ L) (hk : k < 512) (h : LWs G s b i k H locs cells slots ls) (back : ∀ (H : Heap) (locs : List Loc) (cells slots : Nat) (ls : Array Slot), LWs G s b i (k + 1) H locs cells slots ls → W p l e room_1 s m #[Value.ref b] below meth c H locs cells slots Q (F0 m 1480 ls [])) : W p l e room_1 s m #[Value.ref b] below meth c H locs cells slots Q (F0 m 954 ls []) := by
  obtain ⟨hx, hb, hml, hown, hT, hX, hbl, hG, hK, hTx, hst⟩ := C
  obtain ⟨sk, f, n, z, mm, st, ee, LI0, hW, hS, hcc, hss, hsk, hl⟩ := h
  have hbA : ¬ WA G b := fun h => by have h1 : G.1 ≤ b := h; omega
  have CF : CallFix p m c cL_law 8 s #[Value.ref b] TB RL := ⟨hx, hb, hml, hown, hT⟩
  refine s_aload_n hx hb dL_law_954 rfl (lv_at hl 1 rfl) ?_
  refine lv_aload_n hx hb dL_law_955 rfl (lv_at hl 0 rfl) ?_
  refine lv_iload hx hb dL_law_956 (lv_at hl 4 rfl) ?_
  refine lv_iconst (v := (1 : Int32)) hx hb dL_law_958 (by decide) ?_
  refine lv_iadd hx hb dL_law_959 ?_
  refine va_sld hx hb hX hbl hbA hS (s_in (k := 1) hi hL (by decide)) dL_law_960 ?_
  refine lv_aload_n hx hb dL_law_961 rfl (lv_at hl 0 rfl) ?_
  refine lv_iload hx hb dL_law_962 (lv_at hl 4 rfl) ?_
  refine lv_iconst (v := (2 : Int32)) hx hb dL_law_964 (by decide) ?_
  refine lv_iadd hx hb dL_law_965 ?_
  refine va_sld hx hb hX hbl hbA hS (s_in (k := 2) hi hL (by decide)) dL_law_966 ?_
  refine lv_aload_n hx hb dL_law_967 rfl (lv_at hl 0 rfl) ?_
  refine lv_iload hx hb dL_law_968 (lv_at hl 4 rfl) ?_
  refine lv_iconst (v := (3 : Int32)) hx hb dL_law_970 (by decide) ?_
  refine lv_iadd hx hb dL_law_971 ?_
  refine va_sld hx hb hX hbl hbA hS (s_in (k := 3) hi hL (by decide)) dL_law_972 ?_
  obtain ⟨v, f', n', z', m', st', e1, hn, hz, cO, cM, e2, L1⟩ := stp_A (k_drawn (F := F) (by omega) (xs (nI i + (1 : Int32)).toNatClampNeg) (xs (nI i + (2 : Int32)).toNatClampNeg) (xs (nI i + (3 : Int32)).toNatClampNeg)) LI0
  have hcc1 : cells + (n' - n) + 100 = n' + ee := by omega
  have hss1 : slots + (z' - z) = z' + 6 * ee := by omega
  have rm := LI.room L1 hcc1 hss1 (by omega)
  refine s_callV (As := [.int (xs (nI i + (1 : Int32)).toNatClampNeg), .int (xs (nI i + (2 : Int32)).toNatClampNeg), .int (xs (nI i + (3 : Int32)).toNatClampNeg)]) (rest := []) CF hK hW hS (S_X11_drawn l G F e1) cO rfl gv_L_119 hd_X11_drawn ⟨Nat.le_of_ble_eq_true rfl, Nat.le_of_ble_eq_true rfl⟩ rfl hl.1 rfl (Nat.le_of_ble_eq_true rfl) dL_law_973 ⟨rm.1, rm.2⟩ (fun H locs hW hS => ?_)
  refine s_aload_n hx hb dL_law_976 rfl (lv_at hl 2 rfl) ?_
  refine lv_aload_n hx hb dL_law_977 rfl (lv_at hl 0 rfl) ?_
  refine lv_iload hx hb dL_law_978 (lv_at hl 4 rfl) ?_
  refine lv_iconst (v := (1 : Int32)) hx hb dL_law_980 (by decide) ?_
  refine lv_iadd hx hb dL_law_981 ?_
  refine va_sld hx hb hX hbl hbA hS (s_in (k := 1) hi hL (by decide)) dL_law_982 ?_
  refine lv_aload_n hx hb dL_law_983 rfl (lv_at hl 0 rfl) ?_
  refine lv_iload hx hb dL_law_984 (lv_at hl 4 rfl) ?_
  refine lv_iconst (v := (2 : Int32)) hx hb dL_law_986 (by decide) ?_
  refine lv_iadd hx hb dL_law_987 ?_
  refine va_sld hx hb hX hbl hbA hS (s_in (k := 2) hi hL (by decide)) dL_law_988 ?_
  refine lv_aload_n hx hb dL_law_989 rfl (lv_at hl 0 rfl) ?_
  refine lv_iload hx hb dL_law_990 (lv_at hl 4 rfl) ?_
  refine lv_iconst (v := (3 : Int32)) hx hb dL_law_992 (by decide) ?_
  refine lv_iadd hx hb dL_law_993 ?_
  refine va_sld hx hb hX hbl hbA hS (s_in (k := 3) hi hL (by decide)) dL_law_994 ?_
  refine s_callV (As := [.int (xs (nI i + (1 : Int32)).toNatClampNeg), .int (xs (nI i + (2 : Int32)).toNatClampNeg), .int (xs (nI i + (3 : Int32)).toNatClampNeg)]) (rest := [.int v]) CF hK hW hS (S_X12_drawn l G F e2) cM rfl gv_L_122 hd_X12_drawn ⟨Nat.le_of_ble_eq_true rfl, Nat.le_of_ble_eq_true rfl⟩ rfl hl.1 rfl (Nat.le_of_ble_eq_true rfl) dL_law_995 ⟨rm.1, rm.2⟩ (fun H locs hW hS => ?_)
  refine lv_icmp_eq (tgt := 1480) hx hb dL_law_998 (by decide) (fun _ => ?_) (fun q => (q rfl).elim)
  exact back _ _ _ _ _ ⟨sk, _, n', z', m', st', ee, L1, hW, hS, hcc1, hss1, by omega, hl⟩
set_option maxHeartbeats 4000000 in
theorem case_22 (hF : 5041 ≤ F) (C : LWc p l s m c b L xs G) (hL : L ≤ 3072) (hi : i + 6 ≤ L) (hk : k < 512) (h : LWs G s b i k H locs cells slots ls) (back : ∀ (H : Heap) (locs : List Loc) (cells slots : Nat) (ls : Array Slot), LWs G s b i (k + 1) H locs cells slots ls → W p l e room_1 s m #[Value.ref b] below meth c H locs cells slots Q (F0 m 1480 ls [])) : W p l e room_1 s m #[Value.ref b] below meth c H locs cells slots Q (F0 m 1003 ls []) := by
  obtain ⟨hx, hb, hml, hown, hT, hX, hbl, hG, hK, hTx, hst⟩ := C
  obtain ⟨sk, f, n, z, mm, st, ee, LI0, hW, hS, hcc, hss, hsk, hl⟩ := h
  have hbA : ¬ WA G b := fun h => by have h1 : G.1 ≤ b := h; omega
  have CF : CallFix p m c cL_law 8 s #[Value.ref b] TB RL := ⟨hx, hb, hml, hown, hT⟩
  refine s_aload_n hx hb dL_law_1003 rfl (lv_at hl 1 rfl) ?_
  refine lv_aload_n hx hb dL_law_1004 rfl (lv_at hl 0 rfl) ?_
  refine lv_iload hx hb dL_law_1005 (lv_at hl 4 rfl) ?_
  refine lv_iconst (v := (1 : Int32)) hx hb dL_law_1007 (by decide) ?_
  refine lv_iadd hx hb dL_law_1008 ?_
  refine va_sld hx hb hX hbl hbA hS (s_in (k := 1) hi hL (by decide)) dL_law_1009 ?_
  obtain ⟨v, f', n', z', m', st', e1, hn, hz, cO, cM, e2, L1⟩ := stp_A (k_again (F := F) (by omega) (xs (nI i + (1 : Int32)).toNatClampNeg)) LI0
  have hcc1 : cells + (n' - n) + 100 = n' + ee := by omega
  have hss1 : slots + (z' - z) = z' + 6 * ee := by omega
  have rm := LI.room L1 hcc1 hss1 (by omega)
  refine s_callV (As := [.int (xs (nI i + (1 : Int32)).toNatClampNeg)]) (rest := []) CF hK hW hS (S_X11_again l G F e1) cO rfl gv_L_123 hd_X11_again ⟨Nat.le_of_ble_eq_true rfl, Nat.le_of_ble_eq_true rfl⟩ rfl hl.1 rfl (Nat.le_of_ble_eq_true rfl) dL_law_1010 ⟨rm.1, rm.2⟩ (fun H locs hW hS => ?_)
  refine s_aload_n hx hb dL_law_1013 rfl (lv_at hl 2 rfl) ?_
  refine lv_aload_n hx hb dL_law_1014 rfl (lv_at hl 0 rfl) ?_
  refine lv_iload hx hb dL_law_1015 (lv_at hl 4 rfl) ?_
  refine lv_iconst (v := (1 : Int32)) hx hb dL_law_1017 (by decide) ?_
  refine lv_iadd hx hb dL_law_1018 ?_
  refine va_sld hx hb hX hbl hbA hS (s_in (k := 1) hi hL (by decide)) dL_law_1019 ?_
  refine s_callV (As := [.int (xs (nI i + (1 : Int32)).toNatClampNeg)]) (rest := [.int v]) CF hK hW hS (S_X12_again l G F e2) cM rfl gv_L_126 hd_X12_again ⟨Nat.le_of_ble_eq_true rfl, Nat.le_of_ble_eq_true rfl⟩ rfl hl.1 rfl (Nat.le_of_ble_eq_true rfl) dL_law_1020 ⟨rm.1, rm.2⟩ (fun H locs hW hS => ?_)
  refine lv_icmp_eq (tgt := 1480) hx hb dL_law_1023 (by decide) (fun _ => ?_) (fun q => (q rfl).elim)
  exact back _ _ _ _ _ ⟨sk, _, n', z', m', st', ee, L1, hW, hS, hcc1, hss1, by omega, hl⟩
set_option maxHeartbeats 4000000 in
theorem case_24 (hF : 5041 ≤ F) (C : LWc p l s m c b L xs G) (hL : L ≤ 3072) (hi : i + 6 ≤ L) (hk : k < 512) (h : LWs G s b i k H locs cells slots ls) (back : ∀ (H : Heap) (locs : List Loc) (cells slots : Nat) (ls : Array Slot), LWs G s b i (k + 1) H locs cells slots ls → W p l e room_1 s m #[Value.ref b] below meth c H locs cells slots Q (F0 m 1480 ls [])) : W p l e room_1 s m #[Value.ref b] below meth c H locs cells slots Q (F0 m 1107 ls []) := by
  obtain ⟨hx, hb, hml, hown, hT, hX, hbl, hG, hK, hTx, hst⟩ := C
  obtain ⟨sk, f, n, z, mm, st, ee, LI0, hW, hS, hcc, hss, hsk, hl⟩ := h
  have hbA : ¬ WA G b := fun h => by have h1 : G.1 ≤ b := h; omega
  have CF : CallFix p m c cL_law 8 s #[Value.ref b] TB RL := ⟨hx, hb, hml, hown, hT⟩
  refine s_aload_n hx hb dL_law_1107 rfl (lv_at hl 1 rfl) ?_
  refine lv_aload_n hx hb dL_law_1108 rfl (lv_at hl 0 rfl) ?_
  refine lv_iload hx hb dL_law_1109 (lv_at hl 4 rfl) ?_
  refine lv_iconst (v := (1 : Int32)) hx hb dL_law_1111 (by decide) ?_
  refine lv_iadd hx hb dL_law_1112 ?_
  refine va_sld hx hb hX hbl hbA hS (s_in (k := 1) hi hL (by decide)) dL_law_1113 ?_
  obtain ⟨v, f', n', z', m', st', e1, hn, hz, cO, cM, e2, L1⟩ := stp_A (k_holds (F := F) (by omega) (xs (nI i + (1 : Int32)).toNatClampNeg)) LI0
  have hcc1 : cells + (n' - n) + 100 = n' + ee := by omega
  have hss1 : slots + (z' - z) = z' + 6 * ee := by omega
  have rm := LI.room L1 hcc1 hss1 (by omega)
  refine s_callV (As := [.int (xs (nI i + (1 : Int32)).toNatClampNeg)]) (rest := []) CF hK hW hS (S_X11_holds l G F e1) cO rfl gv_L_131 hd_X11_holds ⟨Nat.le_of_ble_eq_true rfl, Nat.le_of_ble_eq_true rfl⟩ rfl hl.1 rfl (Nat.le_of_ble_eq_true rfl) dL_law_1114 ⟨rm.1, rm.2⟩ (fun H locs hW hS => ?_)
  refine s_aload_n hx hb dL_law_1117 rfl (lv_at hl 2 rfl) ?_
  refine lv_aload_n hx hb dL_law_1118 rfl (lv_at hl 0 rfl) ?_
  refine lv_iload hx hb dL_law_1119 (lv_at hl 4 rfl) ?_
  refine lv_iconst (v := (1 : Int32)) hx hb dL_law_1121 (by decide) ?_
  refine lv_iadd hx hb dL_law_1122 ?_
  refine va_sld hx hb hX hbl hbA hS (s_in (k := 1) hi hL (by decide)) dL_law_1123 ?_
  refine s_callV (As := [.int (xs (nI i + (1 : Int32)).toNatClampNeg)]) (rest := [.int v]) CF hK hW hS (S_X12_holds l G F e2) cM rfl gv_L_134 hd_X12_holds ⟨Nat.le_of_ble_eq_true rfl, Nat.le_of_ble_eq_true rfl⟩ rfl hl.1 rfl (Nat.le_of_ble_eq_true rfl) dL_law_1124 ⟨rm.1, rm.2⟩ (fun H locs hW hS => ?_)
  refine lv_icmp_eq (tgt := 1480) hx hb dL_law_1127 (by decide) (fun _ => ?_) (fun q => (q rfl).elim)
  exact back _ _ _ _ _ ⟨sk, _, n', z', m', st', ee, L1, hW, hS, hcc1, hss1, by omega, hl⟩
end CASES2
