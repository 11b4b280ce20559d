/-! the walk of the law's body from its entry -/
theorem law_flags {l : Launch} (h : l.flags = flags0) : l.stackTraces = false := by
  unfold Launch.stackTraces
  rw [h]
  decide +kernel
theorem stat_no {a : Nat} (h : 100 ≤ a) : stat a = none := by
  unfold stat
  rw [if_neg (by omega), if_neg (by omega), if_neg (by omega), if_neg (by omega)]
theorem Wd_start {G : GG} {H : Heap} (h : G.1 = H.size) : Wd G stat 100 H := ⟨fun a c ha hc => absurd ((stat_no ha).symm.trans hc) (fun h => nomatch h), (fun _ _ => rfl), by rw [h], Nat.le_refl _⟩
theorem def12 : ∀ j, j < 47 → defaultValue (tyX12 j) = vp_V cell0 j := by decide +kernel
set_option maxHeartbeats 4000000 in
theorem whole_start {p : Program} {e : Env} {s : State} {m : MethodId} {below : List Frame} {meth : Method} {c : Code} (l : Launch) (hflags : l.flags = flags0) {b L : Nat} {xs : Nat → Int32} (hL : L ≤ 3072) (C0 : lw_At p s m meth c b L xs) : W p l e room_1 s m #[Value.ref b] below meth c s.heap [] 0 0 (lw_Z below #[Value.ref b] s) (entryFrame m ([Value.ref b] : List Value).toArray 8) := by
  obtain ⟨hx, hb, hr, hml, hown, hts, hX, hbl, hlocks, hgv⟩ := id C0
  have hn : ∀ w ∈ NwL, w.before #[Value.ref b] s = true := flat_of_before _ hgv
  obtain ⟨G, hG, hK, hTx⟩ := law_start hts hn
  have hst : l.stackTraces = false := law_flags hflags
  have hT : ∀ w ∈ TB, w.before #[Value.ref b] s = true := fun w hw => hts w (List.mem_filter.mp hw).1
  have hown : s.vm.findClass RL = some m.cls := hown
  have hb : c.code = cL_law := hb
  have CF : CallFix p m c cL_law 8 s #[Value.ref b] TB RL := ⟨hx, hb, hml, hown, hT⟩
  have hS : va_S (WA G) s.heap s.heap [] := va_S.rf
  have hW : Wd G stat 100 s.heap := Wd_start hG
  have hC : LWc p l s m c b L xs G := ⟨hx, hb, hml, hown, hT, hX, hbl, hG, hK, hTx, hst⟩
  obtain ⟨f1, z1, e1, z1a, z1b, e2, LL⟩ := start_e (sk := 0) (F := 6000) (by omega) (g := stat) (fun _ _ => rfl) (z := 0)
  have e3 := e2 0
  have zl := zR_lo 0
  have zh := zR_hi 0
  have hl := lv_entry ([.ref b]) (n := 8) (Nat.le_of_ble_eq_true rfl)
  rw [lg_entry_eq]
  generalize (lg_sl ([.ref b]) ++ List.replicate (8 - (lg_sl ([.ref b])).length) Slot.unset).toArray = ls at hl ⊢
  have hl : lv_has ls 8 [(0, .ref b)] := hl
  refine s_new (ci := 9) (fs := [.null, .int 0, .null, .null, .null, .null, .null, .null, .null, .null, .null, .null, .int 0, .long 0]) hx hb hT u_X11 tyX11 tyX11_ok hown cl_L_8 ist_X11 ini_CopyOrders hK hW hS rfl (fun j hj => by match j, hj with | 0, _ => rfl | 1, _ => rfl | 2, _ => rfl | 3, _ => rfl | 4, _ => rfl | 5, _ => rfl | 6, _ => rfl | 7, _ => rfl | 8, _ => rfl | 9, _ => rfl | 10, _ => rfl | 11, _ => rfl | 12, _ => rfl | 13, _ => rfl) rfl (Nat.le_of_ble_eq_true rfl) (Nat.le_of_ble_eq_true rfl) dL_law_0 (fun H hW hS => ?_)
  refine lv_dup hx hb dL_law_3 (cat_rr G _) ?_
  refine s_callI (As := []) (rest := [rr G (some 100)]) CF hK hW hS (S_X11_init l G 6000 e1) go_X11_init ini_CopyOrders ml_L_19 im_X11_init rfl hd_X11_init.2 ⟨Nat.le_of_ble_eq_true rfl, Nat.le_of_ble_eq_true rfl⟩ rfl hl.1 rfl (Nat.le_of_ble_eq_true rfl) dL_law_4 ⟨show 0 + 1 + (179 - 101) ≤ 601024 by omega, show 0 + 14 + (z1 - 0) ≤ 7293034 by omega⟩ (fun H locs hW hS => ?_)
  refine s_astore_n (i := 1) (lv' := [(1, rr G (some 100)), (0, .ref b)]) hx hb dL_law_7 rfl hl (by decide) rfl (fun ls hl => ?_)
  refine s_new (ci := 10) (fs := cell0) hx hb hT u_X12 tyX12 tyX12_ok hown cl_L_20 ist_X12 ini_CopyOrdersModel hK hW hS rfl def12 rfl (show 0 + 1 + (179 - 101) + 1 ≤ 601024 by omega) (show 0 + 14 + (z1 - 0) + 47 ≤ 7293034 by omega) dL_law_8 (fun H hW hS => ?_)
  refine lv_dup hx hb dL_law_11 (cat_rr G _) ?_
  refine s_callI (As := []) (rest := [rr G (some 179)]) CF hK hW hS (S_X12_init l G 6000 e3) go_X12_init ini_CopyOrdersModel ml_L_22 im_X12_init rfl hd_X12_init.2 ⟨Nat.le_of_ble_eq_true rfl, Nat.le_of_ble_eq_true rfl⟩ rfl hl.1 rfl (Nat.le_of_ble_eq_true rfl) dL_law_12 ⟨show 0 + 1 + (179 - 101) + 1 + (203 - 180) ≤ 601024 by omega, show 0 + 14 + (z1 - 0) + 47 + (zR 0 - 0) ≤ 7293034 by omega⟩ (fun H locs hW hS => ?_)
  refine s_astore_n (i := 2) (lv' := [(2, rr G (some 179)), (1, rr G (some 100)), (0, .ref b)]) hx hb dL_law_15 rfl hl (by decide) rfl (fun ls hl => ?_)
  refine lv_iconst (v := (1 : Int32)) hx hb dL_law_16 (by decide) ?_
  refine s_newA (t := 2) (x := .inr (.inl fun _ => 0)) hx hb rfl (by decide) (hT _ ac_long) (fun h => h) hK hW hS (fun _ => rfl) (by decide) (by decide) (show 0 + 1 + (179 - 101) + 1 + (203 - 180) + 1 ≤ 601024 by omega) (show 0 + 14 + (z1 - 0) + 47 + (zR 0 - 0) + Int32.toNatClampNeg 1 ≤ 7293034 by rw [show Int32.toNatClampNeg 1 = 1 from rfl]; omega) dL_law_17 (fun H hW hS => ?_)
  refine s_astore_n (i := 3) (lv' := [(3, rr G (some 203)), (2, rr G (some 179)), (1, rr G (some 100)), (0, .ref b)]) hx hb dL_law_19 rfl hl (by decide) rfl (fun ls hl => ?_)
  refine lv_iconst (v := (0 : Int32)) hx hb dL_law_20 (by decide) ?_
  refine lv_istore (lv' := [(4, .int (0 : Int32)), (3, rr G (some 203)), (2, rr G (some 179)), (1, rr G (some 100)), (0, .ref b)]) hx hb dL_law_21 hl (by decide) rfl (fun ls hl => ?_)
  obtain ⟨z3, ez3⟩ : ∃ j, j = 0 + 14 + (z1 - 0) + 47 + (zR 0 - 0) + 1 := ⟨_, rfl⟩
  have L0 := LL z3 (fun _ => 0) (by omega)
  have hl2 : lv_has ls 8 [(0, .ref b), (1, rr G (some 100)), (2, rr G (some 179)), (3, rr G (some 203)), (4, .int (nI (6 * 0)))] := by
    rw [show nI (6 * 0) = (0 : Int32) from nI_0]
    exact lv_sub hl [4, 3, 2, 1, 0] rfl
  refine law_loop (F := 6000) (by omega) hC hL (fun H locs cells slots ls hS hc hs => ?_) (L + 1) 0 (by omega) (by omega) _ _ _ _ _ ⟨0, _, 204, z3, m00, st00, 0, L0, hW, hS, rfl, ?_, by omega, hl2⟩
  · refine lv_iconst (v := (1 : Int32)) hx hb dL_law_1486 (by decide) ?_
    refine va_forget (fun q hq => ?_) ?_
    · have h9 : G.1 ≤ q.base := hS.2.2 q hq
      omega
    refine W.widen hc hs ?_
    exact lw_ret hx hb hr hlocks dL_law_1487
  · rw [ez3]
    rfl
