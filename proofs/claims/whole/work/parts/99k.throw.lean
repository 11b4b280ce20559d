/-! the class's two methods that throw -/
theorem ml_X11_277 : Cond.methodLink RX11 277 yX6_allWays ∈ TB := TB_t 1142 (by decide +kernel) rfl
theorem im_X6_allWays : Cond.instanceMethod yX6_allWays ∈ TB := TB_t 1143 (by decide +kernel) rfl
theorem sl_X6_allWays : Cond.selects "CopyOrders$Orders" yX6_allWays yX6_allWays ∈ TB := TB_t 1144 (by decide +kernel) rfl
theorem cd_X6_allWays : Cond.code yX6_allWays cX6_allWays 4 (some .long) ∈ TB := TB_t 1145 (by decide +kernel) rfl
theorem gv_X11_277 : GoodIn TB (wsV RX11 277 "CopyOrders$Orders" yX6_allWays (wsO yX6_allWays cX6_allWays 4 (some .long))) := gV ml_X11_277 im_X6_allWays sl_X6_allWays ini_CopyOrders_Orders cd_X6_allWays
theorem hd_X6_allWays : yX6_allWays.cls = "CopyOrders$Orders" ∧ yX6_allWays.cls ≠ "java/lang/invoke/MethodHandle" ∧ yX6_allWays.cls ≠ "java/lang/invoke/VarHandle" ∧ (parseMethodDescriptor yX6_allWays.desc).map (fun d => d.parameters.length) = some 0 := by decide +kernel
theorem ml_X11_281 : Cond.methodLink RX11 281 yX6_allWaysFar ∈ TB := TB_t 1146 (by decide +kernel) rfl
theorem im_X6_allWaysFar : Cond.instanceMethod yX6_allWaysFar ∈ TB := TB_t 1147 (by decide +kernel) rfl
theorem sl_X6_allWaysFar : Cond.selects "CopyOrders$Orders" yX6_allWaysFar yX6_allWaysFar ∈ TB := TB_t 1148 (by decide +kernel) rfl
theorem cd_X6_allWaysFar : Cond.code yX6_allWaysFar cX6_allWaysFar 5 (some .long) ∈ TB := TB_t 1149 (by decide +kernel) rfl
theorem gv_X11_281 : GoodIn TB (wsV RX11 281 "CopyOrders$Orders" yX6_allWaysFar (wsO yX6_allWaysFar cX6_allWaysFar 5 (some .long))) := gV ml_X11_281 im_X6_allWaysFar sl_X6_allWaysFar ini_CopyOrders_Orders cd_X6_allWaysFar
theorem hd_X6_allWaysFar : yX6_allWaysFar.cls = "CopyOrders$Orders" ∧ yX6_allWaysFar.cls ≠ "java/lang/invoke/MethodHandle" ∧ yX6_allWaysFar.cls ≠ "java/lang/invoke/VarHandle" ∧ (parseMethodDescriptor yX6_allWaysFar.desc).map (fun d => d.parameters.length) = some 1 := by decide +kernel
theorem ml_X11_285 : Cond.methodLink RX11 285 yX11_commonDivisor ∈ TB := TB_t 1150 (by decide +kernel) rfl
theorem stt_X11_commonDivisor : Cond.static yX11_commonDivisor ∈ TB := TB_t 1151 (by decide +kernel) rfl
theorem cd_X11_commonDivisor : Cond.code yX11_commonDivisor cX11_commonDivisor 11 (some .long) ∈ TB := TB_t 1152 (by decide +kernel) rfl
theorem gs_X11_285 : GoodIn TB (va_wsS RX11 285 yX11_commonDivisor (wsO yX11_commonDivisor cX11_commonDivisor 11 (some .long))) := gS ml_X11_285 stt_X11_commonDivisor ini_CopyOrders cd_X11_commonDivisor
theorem hd_X11_commonDivisor : yX11_commonDivisor.cls = "CopyOrders" ∧ yX11_commonDivisor.cls ≠ "java/lang/invoke/MethodHandle" ∧ yX11_commonDivisor.cls ≠ "java/lang/invoke/VarHandle" ∧ (parseMethodDescriptor yX11_commonDivisor.desc).map (fun d => d.parameters.length) = some 2 := by decide +kernel
theorem fl_X11_117 : Cond.fieldLink RX11 117 "CopyOrders$Copy" "packed" "I" ∈ TB := TB_t 89 (by decide +kernel) rfl
theorem cl_X11_114 : Cond.classLink RX11 114 "java/util/NoSuchElementException" ∈ TB := TB_t 1074 (by decide +kernel) rfl
def XN : String := "java/util/NoSuchElementException"
def xnm : List String := ["java/lang/RuntimeException", "java/lang/Exception"]
def xbad : List Cond := [.declares ⟨"java/lang/RuntimeException", "<init>", "()V"⟩, .declares ⟨"java/lang/Exception", "<init>", "()V"⟩, .declares ⟨"java/lang/Throwable", "<init>", "()V"⟩, .castable XN XN]
theorem xat_good : ∀ w ∈ (vx_at0 RX11 116 XN xnm).filter goodWord, w ∈ TB := TB_all _ [16, 1096, 1105, 1107, 1110, 1112, 1097, 1098, 29, 30, 1099, 1104, 1108, 1124, 1086, 1125, 1088, 1126, 1090, 1100, 1102, 1092, 1114, 1115, 1116, 1117, 1117, 1118, 1119, 1120, 1120, 1121, 1122, 1097, 1113, 1075, 1083, 1084, 1085, 1087, 1089, 1091, 1095, 1094, 1093] (by decide +kernel) (by decide +kernel)
theorem xat_bad_e : (vx_at0 RX11 116 XN xnm).filter (fun w => !goodWord w) = xbad := by decide +kernel
theorem xat_bad : ∀ w ∈ (vx_at0 RX11 116 XN xnm).filter (fun w => !goodWord w), w ∈ xbad := fun w h => by rw [← xat_bad_e]; exact h
theorem xat_ot_e : (Cond.classLink RX11 114 XN :: Cond.initialized XN :: vx_at0 RX11 116 XN xnm).all vx_ot = true := by decide +kernel
theorem xini : Cond.initialized XN ∈ TB := TB_t 19 (by decide +kernel) rfl
/-- what a throw asks of the launch -/
def Tx (G : GG) (U : State) : Prop := va_Nw (.declares ⟨"java/lang/RuntimeException", "<init>", "()V"⟩) U ∧ va_Nw (.declares ⟨"java/lang/Exception", "<init>", "()V"⟩) U ∧ va_Nw (.declares ⟨"java/lang/Throwable", "<init>", "()V"⟩) U ∧ va_Nw (.castable XN XN) U ∧ vx_Zq Bundle.tN "UNASSIGNED_STACK" Bundle.steD (WA G) U U.heap ∧ vx_Zq Bundle.tN "SUPPRESSED_SENTINEL" Bundle.listD (WA G) U U.heap
theorem Tx.go {G : GG} {s U : State} {H : Heap} {locs : List Loc} (h : Tx G s) (hS : va_S (WA G) s.heap H locs) (hU : U.heap = H) (hW : s.WarmedH U.vm) : Tx G U := by
  obtain ⟨h1, h2, h3, h4, h5, h6⟩ := h
  refine ⟨h1.warmD hW, h2.warmD hW, h3.warmD hW, h4.warmC hW, ?_, ?_⟩
  · rw [hU]; exact (vx_Zq.moved hW.alike h5).kept (fun a h1 h2 => hS.2.1 a h1 h2)
  · rw [hU]; exact (vx_Zq.moved hW.alike h6).kept (fun a h1 h2 => hS.2.1 a h1 h2)
theorem Tx.blind {G : GG} {U : State} {g : JFrame} {mk : MethodId} {a : Array Value} (h : Tx G U) : Tx G (U.calling g mk a) := by
  obtain ⟨h1, h2, h3, h4, h5, h6⟩ := h
  exact ⟨va_Nw.same rfl (rfl : U.vm = (U.calling g mk a).vm) h1, va_Nw.same rfl (rfl : U.vm = (U.calling g mk a).vm) h2, va_Nw.same rfl (rfl : U.vm = (U.calling g mk a).vm) h3, va_Nw.same rfl (rfl : U.vm = (U.calling g mk a).vm) h4, vx_Zq.moved (u := U) (U := U.calling g mk a) (Vm.Alike.refl U.vm) h5, vx_Zq.moved (u := U) (U := U.calling g mk a) (Vm.Alike.refl U.vm) h6⟩
def Pcx (G : GG) (av : List Value) (f : Hp) (n : Nat) : Array Value → State → Prop := va_Pc av (fun U => (Kx G U ∧ Tx G U) ∧ Wd G f n U.heap)
theorem Pcx_blind (G : GG) (av : List Value) (f : Hp) (n : Nat) : FrameBlind (Pcx G av f n) := fun a U g mk h => ⟨h.1, ⟨h.2.1.1.blind, h.2.1.2.blind⟩, h.2.2⟩
/-- the heap holds the map, with what was thrown behind it -/
def Xw (G : GG) (f : Hp) (n : Nat) (H : Heap) : Prop := ∃ k, n ≤ k ∧ Wd G f k H
def XCx (G : GG) (thr : Prop) (f : Hp) (n : Nat) : String → State → State → Prop := vx_X (fun _ : Unit => thr) (fun E _ t => E = XN ∧ Xw G f n t.heap) (WA G)
theorem Wd.upto {G : GG} {f : Hp} {n : Nat} {H H1 : Heap} (h : Wd G f n H) (z : H.size ≤ H1.size) (oq : ∀ q : Nat, q < H.size → H1[q]? = H[q]?) : Xw G f n H1 := by
  have h3 := h.2.2.1
  have h4 := h.2.2.2
  refine ⟨n + (H1.size - H.size), Nat.le_add_right _ _, fun a c ha hc => (h.1 a c ha hc).kept (oq _ (h.1 a c ha hc).lt), h.2.1, by omega, by omega⟩
section STHR
variable {p : Program} {l : Launch} {e : Env} {R : Room} {s : State} {m : MethodId} {args : Array Value} {below : List Frame} {meth : Method} {c : Code} {H : Heap} {locs : List Loc} {cells slots : Nat}
variable {cc : ByteArray} {pc : Nat} {ls : Array Slot} {rest : List Value} {G : GG} {f : Hp} {n mc ms : Nat} {thr : Prop} {Qc : Array Value → State → Outcome → State → Prop}
/-- 'throw new NoSuchElementException()' in a method of the class -/
theorem s_thr (hx : p.tables.exec = Jvm.exec) (hb : c.code = cc) (hl : l.stackTraces = false) (hT : ∀ w ∈ TB, w.before args s = true) (hown : s.vm.findClass RX11 = some m.cls) (hTx : Tx G s) (hS : va_S (WA G) s.heap H locs) (hW : Wd G f n H) (hsize : ls.size = c.maxLocals)
    (d0 : decode cc pc = .ok (.new 114, 3)) (d3 : decode cc (pc + 3) = .ok (.dup, 1)) (d4 : decode cc (pc + 4) = .ok (.invokespecial 116, 3)) (d7 : decode cc (pc + 7) = .ok (.athrow, 1))
    (htab : ∀ x ∈ c.exceptionTable.toList, False) (hRf : 6 ≤ R.frames) (hRl : (rest.map fun v => v.category).sum + 81 ≤ R.locals) (hRc : cells + 1 ≤ R.cells) (hRs : slots + 6 ≤ R.slots) (hlocks : meth.locks = false) (hthr : thr) (hc : cells + 1 ≤ mc) (hs : slots + 6 ≤ ms) :
    W p l e R s m args below meth c H locs cells slots (vx_MQ below Qc (XCx G thr f n) args s mc ms (WA G)) (F0 m pc ls rest) := by
  obtain ⟨h1, h2, h3, h4, h5, h6⟩ := hTx
  exact vx_throw0 (cls := XN) (names := xnm) (A := WA G) hx hb hl hown (by decide +kernel) (List.all_eq_true.mp (show xnm.all (fun n => Bundle.fit n) = true by decide +kernel)) (hT _ cl_X11_114) (hT _ xini)
    (vx_hat (fun w hw => hT w (xat_good w hw)) xat_bad (vx_c (va_Nw.use rfl h1) (vx_c (va_Nw.use rfl h2) (vx_c (va_Nw.use rfl h3) (vx_c (va_Nw.use rfl h4) vx_n)))))
    (List.all_eq_true.mp xat_ot_e) h5 h6 hS hsize d0 d3 d4 d7 (fun x hx => (htab x hx).elim) (Nat.lt_of_lt_of_le (by decide) hRf) hRl hRc hRs hlocks
    (fun t _ hz hk => ⟨(), hthr, ⟨rfl, hW.upto hz hk⟩, ⟨Nat.le_trans hS.1 hz, fun q q1 q2 => by rw [hk q (Nat.lt_of_lt_of_le q1 hS.1)]; exact hS.2.1 q q1 q2⟩⟩)
    hS.2.2 hc hs
end STHR
set_option maxHeartbeats 4000000 in
theorem S_X11_line (l : Launch) (hst : l.stackTraces = false) (G : GG) (F : Nat) {u0 : Option Nat} {u1 u2 : Int32} {f : Hp} {o : Option Int32} {n : Nat} (hE : m_X11_line F u0 u1 u2 f = some o) : vx_Met l yX11_line (wsO yX11_line cX11_line 4 (some .int)) { frames := 8, cells := 1, slots := 6, locals := 200 } (Pcx G [rr G u0, .int u1, .int u2] f n) (fun a => va_Qi (fun r (_ : Unit) => o = some r) (fun _ t => Wd G f n t.heap) (WA G) a) (XCx G (o = none) f n) 1 6 (WA G) := by
  refine vx_ofW (cc := cX11_line) (maxL := 4) (ret := (some .int)) (by decide) rfl ?_
  intro p e s m args below meth c s₁ B hml htab hv
  obtain ⟨rfl, ⟨hK, hTx⟩, hW⟩ := hv
  have hx := B.exec
  have hb := B.bytes
  have hr := B.returns
  have hts := atoms_spec (ws := wsO yX11_line cX11_line 4 (some .int)) B.pre
  have hT : ∀ w ∈ TB, w.before [rr G u0, .int u1, .int u2].toArray s = true := fun w hw => hts w (List.mem_cons_of_mem _ hw)
  have hown : s.vm.findClass RX11 = some m.cls := findClass_of_methodNamed B.named
  have hlocks := B.notSynchronized
  have CF : CallFix p m c cX11_line 4 s [rr G u0, .int u1, .int u2].toArray TB RX11 := ⟨hx, hb, hml, hown, hT⟩
  have hS : va_S (WA G) s.heap s.heap [] := va_S.rf
  have hl : lv_has (lg_sl ([rr G u0, .int u1, .int u2]) ++ List.replicate (4 - (lg_sl ([rr G u0, .int u1, .int u2])).length) Slot.unset).toArray 4 [(0, rr G u0), (1, .int u1), (2, .int u2)] := by cases u0 <;> exact lv_entry _ (Nat.le_of_ble_eq_true rfl)
  rw [lg_entry_eq]
  generalize (lg_sl ([rr G u0, .int u1, .int u2]) ++ List.replicate (4 - (lg_sl ([rr G u0, .int u1, .int u2])).length) Slot.unset).toArray = ls at hl ⊢
  refine s_aload_n hx hb dX11_line_0 rfl (lv_at hl 0 rfl) ?_
  obtain ⟨x1, hx1, hE⟩ := bd hE
  refine s_gR hx hb hT u_X11 hown hK hW hx1 rfl (by decide) fl_X11_16 rfl dX11_line_1 ?_
  refine lv_iload_n hx hb dX11_line_4 rfl (lv_at hl 1 rfl) ?_
  obtain ⟨c2, hE⟩ := ck hE
  obtain ⟨x3, hx3, hE⟩ := bd hE
  refine s_callV (As := [.int u1]) (rest := []) CF hK hW hS (S_X4_copyAt l G F hx3) c2 rfl gv_X11_105 hd_X4_copyAt ⟨Nat.le_of_ble_eq_true rfl, Nat.le_of_ble_eq_true rfl⟩ rfl hl.1 rfl (Nat.le_of_ble_eq_true rfl) dX11_line_5 ⟨Nat.le_of_ble_eq_true rfl, Nat.le_of_ble_eq_true rfl⟩ (fun H locs hW hS => ?_)
  refine s_astore_n (i := 3) (lv' := [(3, rr G x3), (0, rr G u0), (1, .int u1), (2, .int u2)]) hx hb dX11_line_8 rfl hl (by decide) rfl (fun ls hl => ?_)
  refine s_aload_n hx hb dX11_line_9 rfl (lv_at hl 0 rfl) ?_
  refine s_ifnull (tgt := 25) hx hb dX11_line_10 (by decide) (fun q4 => ?_) (fun q4 => ?_)
  · replace hE := ite_t q4 hE
    exact s_thr hx hb hst hT hown hTx hS hW (hl.1.trans hml.symm) dX11_line_25 dX11_line_28 dX11_line_29 dX11_line_32 htab (Nat.le_of_ble_eq_true rfl) (Nat.le_of_ble_eq_true rfl) (Nat.le_refl _) (Nat.le_refl _) hlocks (so1 hE).symm (Nat.le_refl _) (Nat.le_refl _)
  · replace hE := ite_f q4 hE
    refine lv_iload_n hx hb dX11_line_13 rfl (lv_at hl 3 rfl) ?_
    refine lv_if_lt (tgt := 25) hx hb dX11_line_14 (by decide) (fun q5 => ?_) (fun q5 => ?_)
    · replace hE := ite_t q5 hE
      exact s_thr hx hb hst hT hown hTx hS hW (hl.1.trans hml.symm) dX11_line_25 dX11_line_28 dX11_line_29 dX11_line_32 htab (Nat.le_of_ble_eq_true rfl) (Nat.le_of_ble_eq_true rfl) (Nat.le_refl _) (Nat.le_refl _) hlocks (so1 hE).symm (Nat.le_refl _) (Nat.le_refl _)
    · replace hE := ite_f q5 hE
      refine lv_iload_n hx hb dX11_line_17 rfl (lv_at hl 3 rfl) ?_
      refine s_aload_n hx hb dX11_line_18 rfl (lv_at hl 0 rfl) ?_
      obtain ⟨x5, hx5, hE⟩ := bd hE
      refine s_gI hx hb hT u_X1 hown hK hW hx5 rfl (by decide) fl_X11_109 rfl dX11_line_19 ?_
      refine lv_icmp_lt (tgt := 33) hx hb dX11_line_22 (by decide) (fun q6 => ?_) (fun q6 => ?_)
      · replace hE := ite_t q6 hE
        refine s_aload_n hx hb dX11_line_33 rfl (lv_at hl 0 rfl) ?_
        obtain ⟨x6, hx6, hE⟩ := bd hE
        refine s_gI hx hb hT u_X1 hown hK hW hx6 rfl (by decide) fl_X11_117 rfl dX11_line_34 ?_
        refine lv_iload_n hx hb dX11_line_37 rfl (lv_at hl 3 rfl) ?_
        obtain ⟨x7, hx7, hE⟩ := bd hE
        refine s_callS (As := [.int x6, .int u2]) (rest := []) CF hK hW hS (S_X11_lineOf l G F hx7) gs_X11_120 hd_X11_lineOf.2 ⟨Nat.le_of_ble_eq_true rfl, Nat.le_of_ble_eq_true rfl⟩ rfl hl.1 rfl (Nat.le_of_ble_eq_true rfl) dX11_line_38 ⟨Nat.le_of_ble_eq_true rfl, Nat.le_of_ble_eq_true rfl⟩ (fun H locs hW hS => ?_)
        refine W.widen (k := 1) (n := 6) (Nat.le_of_ble_eq_true rfl) (Nat.le_of_ble_eq_true rfl) ?_
        exact vx_ret (W.iret hx hb hr (fun t ht _ => ⟨⟨x7, (), rfl, (so1 hE).symm, show Wd G f n t.heap by rw [ht]; exact hW⟩, hS.F ht⟩) hS.2.2 dX11_line_41 hlocks)
      · replace hE := ite_f q6 hE
        exact s_thr hx hb hst hT hown hTx hS hW (hl.1.trans hml.symm) dX11_line_25 dX11_line_28 dX11_line_29 dX11_line_32 htab (Nat.le_of_ble_eq_true rfl) (Nat.le_of_ble_eq_true rfl) (Nat.le_refl _) (Nat.le_refl _) hlocks (so1 hE).symm (Nat.le_refl _) (Nat.le_refl _)
theorem along_nz {F : Nat} {u0 : Option Nat} {u1 u2 u3 : Int32} {f f' : Hp} {o : Option Int64} {n n2 z z2 : Nat} (hE : m_X11_along F u0 u1 u2 u3 f n z = some (o, f', n2, z2)) : ∃ x4 f3, m_X11_orders F u0 f n z = some (x4, f3, n2, z2) := by
  unfold m_X11_along at hE
  obtain ⟨-, h⟩ := ck hE
  obtain ⟨x4, f3, n5, z6, h4, h⟩ := bd4_of h
  obtain ⟨-, h⟩ := ck h
  obtain ⟨-, h⟩ := ck h
  obtain ⟨x7, -, h⟩ := bd h
  have e : n5 = n2 ∧ z6 = z2 := by
    split at h
    · exact (so4 h).2.2
    obtain ⟨x8, -, h⟩ := bd h
    split at h
    · exact (so4 h).2.2
    split at h
    · exact (so4 h).2.2
    split at h
    · exact (so4 h).2.2
    obtain ⟨x9, -, h⟩ := bd h
    obtain ⟨x10, -, h⟩ := bd h
    obtain ⟨-, h⟩ := ck h
    obtain ⟨f11, -, h⟩ := bd h
    obtain ⟨-, h⟩ := ck h
    obtain ⟨x12, -, h⟩ := bd h
    split at h
    · exact (so4 h).2.2
    obtain ⟨-, h⟩ := ck h
    obtain ⟨x13, -, h⟩ := bd h
    obtain ⟨x14, -, h⟩ := bd h
    split at h
    · exact (so4 h).2.2
    split at h
    · obtain ⟨-, h⟩ := ck h
      exact (so4 h).2.2
    · obtain ⟨-, h⟩ := ck h
      exact (so4 h).2.2
  obtain ⟨rfl, rfl⟩ := e
  exact ⟨x4, f3, h4⟩
set_option maxHeartbeats 4000000 in
theorem S_X11_along (l : Launch) (hst : l.stackTraces = false) (G : GG) (F : Nat) {u0 : Option Nat} {u1 u2 u3 : Int32} {f f' : Hp} {o : Option Int64} {n n2 z z2 : Nat} (hE : m_X11_along F u0 u1 u2 u3 f n z = some (o, f', n2, z2)) : vx_Met l yX11_along (wsO yX11_along cX11_along 11 (some .long)) { frames := 8, cells := n2 - n + 1, slots := z2 - z + 6, locals := 200 } (Pcx G [rr G u0, .int u1, .int u2, .int u3] f n) (fun a => va_Ql (fun r (_ : Unit) => o = some r) (fun _ t => Wd G f' n2 t.heap) (WA G) a) (XCx G (o = none) f' n2) (n2 - n + 1) (z2 - z + 6) (WA G) := by
  refine vx_ofW (cc := cX11_along) (maxL := 11) (ret := (some .long)) (by decide) rfl ?_
  intro p e s m args below meth c s₁ B hml htab hv
  obtain ⟨rfl, ⟨hK, hTx⟩, hW⟩ := hv
  have hx := B.exec
  have hb := B.bytes
  have hr := B.returns
  have hts := atoms_spec (ws := wsO yX11_along cX11_along 11 (some .long)) B.pre
  have hT : ∀ w ∈ TB, w.before [rr G u0, .int u1, .int u2, .int u3].toArray s = true := fun w hw => hts w (List.mem_cons_of_mem _ hw)
  have hown : s.vm.findClass RX11 = some m.cls := findClass_of_methodNamed B.named
  have hlocks := B.notSynchronized
  have CF : CallFix p m c cX11_along 11 s [rr G u0, .int u1, .int u2, .int u3].toArray TB RX11 := ⟨hx, hb, hml, hown, hT⟩
  have hS : va_S (WA G) s.heap s.heap [] := va_S.rf
  have hl : lv_has (lg_sl ([rr G u0, .int u1, .int u2, .int u3]) ++ List.replicate (11 - (lg_sl ([rr G u0, .int u1, .int u2, .int u3])).length) Slot.unset).toArray 11 [(0, rr G u0), (1, .int u1), (2, .int u2), (3, .int u3)] := by cases u0 <;> exact lv_entry _ (Nat.le_of_ble_eq_true rfl)
  rw [lg_entry_eq]
  generalize (lg_sl ([rr G u0, .int u1, .int u2, .int u3]) ++ List.replicate (11 - (lg_sl ([rr G u0, .int u1, .int u2, .int u3])).length) Slot.unset).toArray = ls at hl ⊢
  obtain ⟨y4, g3, hord⟩ := along_nz hE
  unfold m_X11_along at hE
  refine W.cs (cells' := n - n) (slots' := z - z) (by omega) (by omega) ?_
  refine s_aload_n hx hb dX11_along_0 rfl (lv_at hl 0 rfl) ?_
  obtain ⟨c1, hE⟩ := ck hE
  obtain ⟨x4, f3, n5, z6, hf3, hE⟩ := bd4_of hE
  obtain ⟨-, -, hn, hz⟩ := so4 (hord.symm.trans hf3)
  subst hn; subst hz
  obtain ⟨c6, hE⟩ := ck hE
  replace c6 := of_decide_eq_true c6
  clear hord
  refine s_callV (As := []) (rest := []) CF hK hW hS (S_X11_orders l G F hf3) c1 rfl gv_X11_145 hd_X11_orders ⟨Nat.le_of_ble_eq_true rfl, Nat.le_of_ble_eq_true rfl⟩ rfl hl.1 rfl (Nat.le_of_ble_eq_true rfl) dX11_along_1 ⟨show n - n + (n2 - n) ≤ n2 - n + 1 by omega, show z - z + (z2 - z) ≤ z2 - z + 6 by omega⟩ (fun H locs hW hS => ?_)
  refine W.cs (cells' := n2 - n) (slots' := z2 - z) (by omega) (by omega) ?_
  refine s_astore (lv' := [(4, rr G x4), (0, rr G u0), (1, .int u1), (2, .int u2), (3, .int u3)]) hx hb dX11_along_4 hl (by decide) rfl (fun ls hl => ?_)
  refine s_aload hx hb dX11_along_6 (lv_at hl 0 rfl) ?_
  refine lv_iload_n hx hb dX11_along_8 rfl (lv_at hl 2 rfl) ?_
  obtain ⟨c7, hE⟩ := ck hE
  obtain ⟨x7, hx7, hE⟩ := bd hE
  refine s_callV (As := [.int u1]) (rest := []) CF hK hW hS (S_X6_has l G F hx7) c7 rfl gv_X11_149 hd_X6_has ⟨Nat.le_of_ble_eq_true rfl, Nat.le_of_ble_eq_true rfl⟩ rfl hl.1 rfl (Nat.le_of_ble_eq_true rfl) dX11_along_9 ⟨show n2 - n + 0 ≤ n2 - n + 1 by omega, show z2 - z + 0 ≤ z2 - z + 6 by omega⟩ (fun H locs hW hS => ?_)
  refine lv_if_eq (tgt := 33) hx hb dX11_along_12 (by decide) (fun q1 => ?_) (fun q1 => ?_)
  · replace hE := ite_t q1 hE
    obtain ⟨rfl, rfl, -, -⟩ := so4 hE
    exact s_thr hx hb hst hT hown hTx hS hW (hl.1.trans hml.symm) dX11_along_33 dX11_along_36 dX11_along_37 dX11_along_40 htab (Nat.le_of_ble_eq_true rfl) (Nat.le_of_ble_eq_true rfl) (Nat.le_refl _) (Nat.le_refl _) hlocks rfl (Nat.le_refl _) (Nat.le_refl _)
  replace hE := ite_f q1 hE
  refine lv_iload_n hx hb dX11_along_15 rfl (lv_at hl 3 rfl) ?_
  refine lv_bipush (v := (10 : Int32)) hx hb dX11_along_16 (by decide) ?_
  obtain ⟨x8, hx8, hE⟩ := bd hE
  refine s_callS (As := [.int u2, .int (10 : Int32)]) (rest := []) CF hK hW hS (S_X11_isWithin l G F hx8) gs_X11_235 hd_X11_isWithin.2 ⟨Nat.le_of_ble_eq_true rfl, Nat.le_of_ble_eq_true rfl⟩ rfl hl.1 rfl (Nat.le_of_ble_eq_true rfl) dX11_along_18 ⟨show n2 - n + 0 ≤ n2 - n + 1 by omega, show z2 - z + 0 ≤ z2 - z + 6 by omega⟩ (fun H locs hW hS => ?_)
  refine lv_if_eq (tgt := 33) hx hb dX11_along_21 (by decide) (fun q2 => ?_) (fun q2 => ?_)
  · replace hE := ite_t q2 hE
    obtain ⟨rfl, rfl, -, -⟩ := so4 hE
    exact s_thr hx hb hst hT hown hTx hS hW (hl.1.trans hml.symm) dX11_along_33 dX11_along_36 dX11_along_37 dX11_along_40 htab (Nat.le_of_ble_eq_true rfl) (Nat.le_of_ble_eq_true rfl) (Nat.le_refl _) (Nat.le_refl _) hlocks rfl (Nat.le_refl _) (Nat.le_refl _)
  replace hE := ite_f q2 hE
  refine lv_iload_n hx hb dX11_along_24 rfl (lv_at hl 4 rfl) ?_
  refine lv_if_lt (tgt := 33) hx hb dX11_along_25 (by decide) (fun q3 => ?_) (fun q3 => ?_)
  · replace hE := ite_t q3 hE
    obtain ⟨rfl, rfl, -, -⟩ := so4 hE
    exact s_thr hx hb hst hT hown hTx hS hW (hl.1.trans hml.symm) dX11_along_33 dX11_along_36 dX11_along_37 dX11_along_40 htab (Nat.le_of_ble_eq_true rfl) (Nat.le_of_ble_eq_true rfl) (Nat.le_refl _) (Nat.le_refl _) hlocks rfl (Nat.le_refl _) (Nat.le_refl _)
  replace hE := ite_f q3 hE
  refine lv_iload_n hx hb dX11_along_28 rfl (lv_at hl 4 rfl) ?_
  refine lv_iconst (v := (1 : Int32)) hx hb dX11_along_29 (by decide) ?_
  refine lv_icmp_le (tgt := 41) hx hb dX11_along_30 (by decide) (fun q4 => ?_) (fun q4 => ?_)
  rotate_left
  · replace hE := ite_t (Int32.not_le.mp q4) hE
    obtain ⟨rfl, rfl, -, -⟩ := so4 hE
    exact s_thr hx hb hst hT hown hTx hS hW (hl.1.trans hml.symm) dX11_along_33 dX11_along_36 dX11_along_37 dX11_along_40 htab (Nat.le_of_ble_eq_true rfl) (Nat.le_of_ble_eq_true rfl) (Nat.le_refl _) (Nat.le_refl _) hlocks rfl (Nat.le_refl _) (Nat.le_refl _)
  replace hE := ite_f (Int32.not_lt.mpr q4) hE
  refine s_aload hx hb dX11_along_41 (lv_at hl 0 rfl) ?_
  refine lv_iload_n hx hb dX11_along_43 rfl (lv_at hl 2 rfl) ?_
  refine lv_iload_n hx hb dX11_along_44 rfl (lv_at hl 3 rfl) ?_
  refine s_aload_n hx hb dX11_along_45 rfl (lv_at hl 1 rfl) ?_
  obtain ⟨x9, hx9, hE⟩ := bd hE
  refine s_gR hx hb hT u_X11 hown hK hW hx9 rfl (by decide) fl_X11_16 rfl dX11_along_46 ?_
  obtain ⟨x10, hx10, hE⟩ := bd hE
  refine s_gR hx hb hT u_X4 hown hK hW hx10 rfl (by decide) fl_X11_240 rfl dX11_along_49 ?_
  obtain ⟨c8, hE⟩ := ck hE
  obtain ⟨f11, hf11, hE⟩ := bd hE
  refine s_callV (As := [.int u1, .int u2, rr G x10]) (rest := []) CF hK hW hS (S_X6_spread l G F hf11) c8 rfl gv_X11_243 hd_X6_spread ⟨Nat.le_of_ble_eq_true rfl, Nat.le_of_ble_eq_true rfl⟩ rfl hl.1 rfl (Nat.le_of_ble_eq_true rfl) dX11_along_52 ⟨show n2 - n + 0 ≤ n2 - n + 1 by omega, show z2 - z + 0 ≤ z2 - z + 6 by omega⟩ (fun H locs hW hS => ?_)
  refine s_aload hx hb dX11_along_55 (lv_at hl 0 rfl) ?_
  obtain ⟨c9, hE⟩ := ck hE
  obtain ⟨x12, hx12, hE⟩ := bd hE
  refine s_callV (As := []) (rest := []) CF hK hW hS (S_X6_allWays l G F hx12) c9 rfl gv_X11_277 hd_X6_allWays ⟨Nat.le_of_ble_eq_true rfl, Nat.le_of_ble_eq_true rfl⟩ rfl hl.1 rfl (Nat.le_of_ble_eq_true rfl) dX11_along_57 ⟨show n2 - n + 0 ≤ n2 - n + 1 by omega, show z2 - z + 0 ≤ z2 - z + 6 by omega⟩ (fun H locs hW hS => ?_)
  refine lv_lstore (lv' := [(5, .long x12), (4, rr G x4), (0, rr G u0), (1, .int u1), (2, .int u2), (3, .int u3)]) hx hb dX11_along_60 hl (by decide) (by simp [cat_rr]) (fun ls hl => ?_)
  refine lv_lload hx hb dX11_along_62 (lv_at hl 0 rfl) ?_
  refine lv_lconst (v := (0 : Int64)) hx hb dX11_along_64 (by decide) ?_
  refine W.lcmp hx hb dX11_along_65 ?_
  refine lv_if_gt (tgt := 77) hx hb dX11_along_66 (by decide) (fun q5 => ?_) (fun q5 => ?_)
  rotate_left
  · replace hE := ite_t (Int32.not_lt.mp q5) hE
    obtain ⟨rfl, rfl, -, -⟩ := so4 hE
    exact s_thr hx hb hst hT hown hTx hS hW (hl.1.trans hml.symm) dX11_along_69 dX11_along_72 dX11_along_73 dX11_along_76 htab (Nat.le_of_ble_eq_true rfl) (Nat.le_of_ble_eq_true rfl) (Nat.le_refl _) (Nat.le_refl _) hlocks rfl (Nat.le_refl _) (Nat.le_refl _)
  replace hE := ite_f (Int32.not_le.mpr q5) hE
  refine s_aload hx hb dX11_along_77 (lv_at hl 1 rfl) ?_
  refine lv_iload_n hx hb dX11_along_79 rfl (lv_at hl 3 rfl) ?_
  obtain ⟨c10, hE⟩ := ck hE
  obtain ⟨x13, hx13, hE⟩ := bd hE
  refine s_callV (As := [.int u1]) (rest := []) CF hK hW hS (S_X6_allWaysFar l G F hx13) c10 rfl gv_X11_281 hd_X6_allWaysFar ⟨Nat.le_of_ble_eq_true rfl, Nat.le_of_ble_eq_true rfl⟩ rfl hl.1 rfl (Nat.le_of_ble_eq_true rfl) dX11_along_80 ⟨show n2 - n + 0 ≤ n2 - n + 1 by omega, show z2 - z + 0 ≤ z2 - z + 6 by omega⟩ (fun H locs hW hS => ?_)
  refine lv_lstore (lv' := [(7, .long x13), (5, .long x12), (4, rr G x4), (0, rr G u0), (1, .int u1), (2, .int u2), (3, .int u3)]) hx hb dX11_along_83 hl (by decide) rfl (fun ls hl => ?_)
  refine lv_lload hx hb dX11_along_85 (lv_at hl 0 rfl) ?_
  refine lv_lload hx hb dX11_along_87 (lv_at hl 1 rfl) ?_
  obtain ⟨x14, hx14, hE⟩ := bd hE
  refine s_callS (As := [.long x13, .long x12]) (rest := []) CF hK hW hS (S_X11_commonDivisor l G F hx14) gs_X11_285 hd_X11_commonDivisor.2 ⟨Nat.le_of_ble_eq_true rfl, Nat.le_of_ble_eq_true rfl⟩ rfl hl.1 rfl (Nat.le_of_ble_eq_true rfl) dX11_along_89 ⟨show n2 - n + 0 ≤ n2 - n + 1 by omega, show z2 - z + 0 ≤ z2 - z + 6 by omega⟩ (fun H locs hW hS => ?_)
  refine lv_lstore (lv' := [(9, .long x14), (7, .long x13), (5, .long x12), (4, rr G x4), (0, rr G u0), (1, .int u1), (2, .int u2), (3, .int u3)]) hx hb dX11_along_92 hl (by decide) rfl (fun ls hl => ?_)
  refine lv_lload hx hb dX11_along_94 (lv_at hl 0 rfl) ?_
  refine lv_lconst (v := (0 : Int64)) hx hb dX11_along_96 (by decide) ?_
  refine W.lcmp hx hb dX11_along_97 ?_
  refine lv_if_gt (tgt := 109) hx hb dX11_along_98 (by decide) (fun q6 => ?_) (fun q6 => ?_)
  rotate_left
  · replace hE := ite_t (Int32.not_lt.mp q6) hE
    obtain ⟨rfl, rfl, -, -⟩ := so4 hE
    exact s_thr hx hb hst hT hown hTx hS hW (hl.1.trans hml.symm) dX11_along_101 dX11_along_104 dX11_along_105 dX11_along_108 htab (Nat.le_of_ble_eq_true rfl) (Nat.le_of_ble_eq_true rfl) (Nat.le_refl _) (Nat.le_refl _) hlocks rfl (Nat.le_refl _) (Nat.le_refl _)
  replace hE := ite_f (Int32.not_le.mpr q6) hE
  refine lv_iload_n hx hb dX11_along_109 rfl (lv_at hl 7 rfl) ?_
  refine lv_if_ne (tgt := 118) hx hb dX11_along_110 (by decide) (fun q7 => ?_) (fun q7 => ?_)
  · replace hE := ite_f q7 hE
    refine lv_lload hx hb dX11_along_118 (lv_at hl 2 rfl) ?_
    refine lv_lload hx hb dX11_along_120 (lv_at hl 0 rfl) ?_
    obtain ⟨c15, hE⟩ := ck hE
    replace c15 := of_decide_eq_true c15
    obtain ⟨rfl, rfl, -, -⟩ := so4 hE
    refine lv_ldiv hx hb dX11_along_122 c15 ?_
    refine W.widen (k := n2 - n + 1) (n := z2 - z + 6) (by omega) (by omega) ?_
    exact vx_ret (W.lret hx hb hr (fun t ht _ => ⟨⟨_, (), rfl, rfl, show Wd G f11 n2 t.heap by rw [ht]; exact hW⟩, hS.F ht⟩) hS.2.2 dX11_along_123 hlocks)
  · replace hE := ite_t q7 hE
    refine lv_lload hx hb dX11_along_113 (lv_at hl 1 rfl) ?_
    refine lv_goto (tgt := 120) hx hb dX11_along_115 (by decide) ?_
    refine lv_lload hx hb dX11_along_120 (lv_at hl 0 rfl) ?_
    obtain ⟨c15, hE⟩ := ck hE
    replace c15 := of_decide_eq_true c15
    obtain ⟨rfl, rfl, -, -⟩ := so4 hE
    refine lv_ldiv hx hb dX11_along_122 c15 ?_
    refine W.widen (k := n2 - n + 1) (n := z2 - z + 6) (by omega) (by omega) ?_
    exact vx_ret (W.lret hx hb hr (fun t ht _ => ⟨⟨_, (), rfl, rfl, show Wd G f11 n2 t.heap by rw [ht]; exact hW⟩, hS.F ht⟩) hS.2.2 dX11_along_123 hlocks)
