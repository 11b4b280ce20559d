set_option maxHeartbeats 4000000 in
set_option maxRecDepth 100000 in
theorem S_X11_takeTape (l : Launch) (G : GG) (F : Nat) {u0 : Option Nat} {f : Hp} {r : Int32} {f' : Hp} {n : Nat} (hE : m_X11_takeTape F u0 f = some (r, f')) : Ctr l G yX11_takeTape cX11_takeTape 2 (some .int) 0 0 [rr G u0] f n (some (.int r)) f' n 0 0 := by
  refine Met.ofW (cc := cX11_takeTape) (maxL := 2) (ret := (some .int)) (by decide) rfl ?_
  intro p e s m args below meth c s₁ B hml hv
  obtain ⟨rfl, hK, hW⟩ := hv
  have hx := B.exec
  have hb := B.bytes
  have hr := B.returns
  have hts := atoms_spec (ws := wsO yX11_takeTape cX11_takeTape 2 (some .int)) B.pre
  have hT : ∀ w ∈ TB, w.before [rr G u0].toArray s = true := fun w hw => hts w (List.mem_cons_of_mem _ hw)
  have hown : s.vm.findClass RX11 = some m.cls := findClass_of_methodNamed B.named
  have hlocks := B.notSynchronized
  have CF : CallFix p m c cX11_takeTape 2 s [rr G u0].toArray TB RX11 := ⟨hx, hb, hml, hown, hT⟩
  have hS : va_S (WA G) s.heap s.heap [] := va_S.rf
  have hl : lv_has (lg_sl ([rr G u0]) ++ List.replicate (2 - (lg_sl ([rr G u0])).length) Slot.unset).toArray 2 [(0, rr G u0)] := by cases u0 <;> exact lv_entry _ (Nat.le_of_ble_eq_true rfl)
  rw [lg_entry_eq]
  generalize (lg_sl ([rr G u0]) ++ List.replicate (2 - (lg_sl ([rr G u0])).length) Slot.unset).toArray = ls at hl ⊢
  refine s_aload_n hx hb dX11_takeTape_0 rfl (lv_at hl 0 rfl) ?_
  obtain ⟨x1, hx1, hE⟩ := bd hE
  refine s_gI hx hb hT u_X11 hown hK hW hx1 rfl (by decide) fl_X11_76 rfl dX11_takeTape_1 ?_
  refine lv_istore_n (i := 1) (lv' := [(1, .int x1), (0, rr G u0)]) hx hb dX11_takeTape_4 rfl hl (by decide) (by simp [cat_rr]) (fun ls hl => ?_)
  refine s_aload_n hx hb dX11_takeTape_5 rfl (lv_at hl 1 rfl) ?_
  refine lv_iconst (v := (0 : Int32)) hx hb dX11_takeTape_6 (by decide) ?_
  obtain ⟨f2, hf2, hE⟩ := bd hE
  refine s_putI hx hb hT u_X11 tyX11 tyX11_ok nmX11 hown hK hW hS hf2 rfl (by decide) fl_X11_76 rfl (Or.inl rfl) rfl dX11_takeTape_7 (fun H locs hW hS => ?_)
  refine lv_iload_n hx hb dX11_takeTape_10 rfl (lv_at hl 0 rfl) ?_
  obtain ⟨rfl, rfl⟩ := so2 hE
  exact s_iret hx hb hr hlocks hW hS dX11_takeTape_11
set_option maxHeartbeats 4000000 in
set_option maxRecDepth 100000 in
theorem S_X1_clear (l : Launch) (G : GG) (F : Nat) {u0 : Option Nat} {f : Hp} {f' : Hp} {n : Nat} (hE : m_X1_clear F u0 f = some f') : Ctr l G yX1_clear cX1_clear 1 none 0 0 [rr G u0] f n none f' n 0 0 := by
  refine Met.ofW (cc := cX1_clear) (maxL := 1) (ret := none) (by decide) rfl ?_
  intro p e s m args below meth c s₁ B hml hv
  obtain ⟨rfl, hK, hW⟩ := hv
  have hx := B.exec
  have hb := B.bytes
  have hr := B.returns
  have hts := atoms_spec (ws := wsO yX1_clear cX1_clear 1 none) B.pre
  have hT : ∀ w ∈ TB, w.before [rr G u0].toArray s = true := fun w hw => hts w (List.mem_cons_of_mem _ hw)
  have hown : s.vm.findClass RX1 = some m.cls := findClass_of_methodNamed B.named
  have hlocks := B.notSynchronized
  have CF : CallFix p m c cX1_clear 1 s [rr G u0].toArray TB RX1 := ⟨hx, hb, hml, hown, hT⟩
  have hS : va_S (WA G) s.heap s.heap [] := va_S.rf
  have hl : lv_has (lg_sl ([rr G u0]) ++ List.replicate (1 - (lg_sl ([rr G u0])).length) Slot.unset).toArray 1 [(0, rr G u0)] := by cases u0 <;> exact lv_entry _ (Nat.le_of_ble_eq_true rfl)
  rw [lg_entry_eq]
  generalize (lg_sl ([rr G u0]) ++ List.replicate (1 - (lg_sl ([rr G u0])).length) Slot.unset).toArray = ls at hl ⊢
  refine s_aload_n hx hb dX1_clear_0 rfl (lv_at hl 0 rfl) ?_
  refine lv_lconst (v := (0 : Int64)) hx hb dX1_clear_1 (by decide) ?_
  obtain ⟨f1, hf1, hE⟩ := bd hE
  refine s_putJ hx hb hT u_X1 tyX1 tyX1_ok nmX1 hown hK hW hS hf1 rfl (by decide) fl_X1_9 rfl (Or.inl rfl) rfl dX1_clear_2 (fun H locs hW hS => ?_)
  refine s_aload_n hx hb dX1_clear_5 rfl (lv_at hl 0 rfl) ?_
  refine lv_iconst (v := (0 : Int32)) hx hb dX1_clear_6 (by decide) ?_
  obtain ⟨f2, hf2, hE⟩ := bd hE
  refine s_putI hx hb hT u_X1 tyX1 tyX1_ok nmX1 hown hK hW hS hf2 rfl (by decide) fl_X1_15 rfl (Or.inl rfl) rfl dX1_clear_7 (fun H locs hW hS => ?_)
  refine s_aload_n hx hb dX1_clear_10 rfl (lv_at hl 0 rfl) ?_
  refine lv_iconst (v := (0 : Int32)) hx hb dX1_clear_11 (by decide) ?_
  obtain ⟨f3, hf3, hE⟩ := bd hE
  refine s_putI hx hb hT u_X1 tyX1 tyX1_ok nmX1 hown hK hW hS hf3 rfl (by decide) fl_X1_19 rfl (Or.inl rfl) rfl dX1_clear_12 (fun H locs hW hS => ?_)
  refine s_aload_n hx hb dX1_clear_15 rfl (lv_at hl 0 rfl) ?_
  refine lv_iconst (v := (0 : Int32)) hx hb dX1_clear_16 (by decide) ?_
  obtain ⟨f4, hf4, hE⟩ := bd hE
  refine s_putI hx hb hT u_X1 tyX1 tyX1_ok nmX1 hown hK hW hS hf4 rfl (by decide) fl_X1_22 rfl (Or.inl rfl) rfl dX1_clear_17 (fun H locs hW hS => ?_)
  refine s_aload_n hx hb dX1_clear_20 rfl (lv_at hl 0 rfl) ?_
  refine lv_iconst (v := (0 : Int32)) hx hb dX1_clear_21 (by decide) ?_
  obtain ⟨f5, hf5, hE⟩ := bd hE
  refine s_putI hx hb hT u_X1 tyX1 tyX1_ok nmX1 hown hK hW hS hf5 rfl (by decide) fl_X1_25 rfl (Or.inl rfl) rfl dX1_clear_22 (fun H locs hW hS => ?_)
  refine s_aload_n hx hb dX1_clear_25 rfl (lv_at hl 0 rfl) ?_
  refine lv_iconst (v := (0 : Int32)) hx hb dX1_clear_26 (by decide) ?_
  obtain ⟨f6, hf6, hE⟩ := bd hE
  refine s_putI hx hb hT u_X1 tyX1 tyX1_ok nmX1 hown hK hW hS hf6 rfl (by decide) fl_X1_28 rfl (Or.inl rfl) rfl dX1_clear_27 (fun H locs hW hS => ?_)
  obtain rfl := so1 hE
  exact s_vret hx hb hr hlocks hW hS dX1_clear_30
set_option maxHeartbeats 4000000 in
set_option maxRecDepth 100000 in
theorem S_X4_nextCopy (l : Launch) (G : GG) (F : Nat) {u0 : Option Nat} {f : Hp} {r : Option Nat} {f' : Hp} {n : Nat} (hE : m_X4_nextCopy F u0 f = some (r, f')) : Ctr l G yX4_nextCopy cX4_nextCopy 1 (some (.object "CopyOrders$Copy")) 1 20 [rr G u0] f n (some (rr G r)) f' n 0 0 := by
  refine Met.ofW (cc := cX4_nextCopy) (maxL := 1) (ret := (some (.object "CopyOrders$Copy"))) (by decide) rfl ?_
  intro p e s m args below meth c s₁ B hml hv
  obtain ⟨rfl, hK, hW⟩ := hv
  have hx := B.exec
  have hb := B.bytes
  have hr := B.returns
  have hts := atoms_spec (ws := wsO yX4_nextCopy cX4_nextCopy 1 (some (.object "CopyOrders$Copy"))) B.pre
  have hT : ∀ w ∈ TB, w.before [rr G u0].toArray s = true := fun w hw => hts w (List.mem_cons_of_mem _ hw)
  have hown : s.vm.findClass RX4 = some m.cls := findClass_of_methodNamed B.named
  have hlocks := B.notSynchronized
  have CF : CallFix p m c cX4_nextCopy 1 s [rr G u0].toArray TB RX4 := ⟨hx, hb, hml, hown, hT⟩
  have hS : va_S (WA G) s.heap s.heap [] := va_S.rf
  have hl : lv_has (lg_sl ([rr G u0]) ++ List.replicate (1 - (lg_sl ([rr G u0])).length) Slot.unset).toArray 1 [(0, rr G u0)] := by cases u0 <;> exact lv_entry _ (Nat.le_of_ble_eq_true rfl)
  rw [lg_entry_eq]
  generalize (lg_sl ([rr G u0]) ++ List.replicate (1 - (lg_sl ([rr G u0])).length) Slot.unset).toArray = ls at hl ⊢
  refine s_aload_n hx hb dX4_nextCopy_0 rfl (lv_at hl 0 rfl) ?_
  obtain ⟨x1, hx1, hE⟩ := bd hE
  refine s_gI hx hb hT u_X4 hown hK hW hx1 rfl (by decide) fl_X4_55 rfl dX4_nextCopy_1 ?_
  refine lv_bipush (v := (10 : Int32)) hx hb dX4_nextCopy_4 (by decide) ?_
  refine lv_icmp_lt (tgt := 11) hx hb dX4_nextCopy_6 (by decide) (fun q2 => ?_) (fun q2 => ?_)
  · replace hE := ite_t q2 hE
    refine s_aload_n hx hb dX4_nextCopy_11 rfl (lv_at hl 0 rfl) ?_
    obtain ⟨x3, hx3, hE⟩ := bd hE
    refine s_gR hx hb hT u_X4 hown hK hW hx3 rfl (by decide) fl_X4_17 rfl dX4_nextCopy_12 ?_
    refine s_aload_n hx hb dX4_nextCopy_15 rfl (lv_at hl 0 rfl) ?_
    obtain ⟨x4, hx4, hE⟩ := bd hE
    refine s_gI hx hb hT u_X4 hown hK hW hx4 rfl (by decide) fl_X4_55 rfl dX4_nextCopy_16 ?_
    obtain ⟨x5, hx5, hE⟩ := bd hE
    refine s_ldR hx hb hK hW hS hx5 (by decide) rfl dX4_nextCopy_19 ?_
    obtain ⟨c6, hE⟩ := ck hE
    obtain ⟨f7, hf7, hE⟩ := bd hE
    refine s_callV (As := []) (rest := []) CF hK hW hS (S_X1_clear l G F hf7) c6 rfl gv_X4_93 hd_X1_clear ⟨Nat.le_of_ble_eq_true rfl, Nat.le_of_ble_eq_true rfl⟩ rfl hl.1 rfl (Nat.le_of_ble_eq_true rfl) dX4_nextCopy_20 ⟨Nat.le_refl _, Nat.le_refl _⟩ (fun H locs hW hS => ?_)
    refine s_aload_n hx hb dX4_nextCopy_23 rfl (lv_at hl 0 rfl) ?_
    obtain ⟨x8, hx8, hE⟩ := bd hE
    refine s_gR hx hb hT u_X4 hown hK hW hx8 rfl (by decide) fl_X4_17 rfl dX4_nextCopy_24 ?_
    refine s_aload_n hx hb dX4_nextCopy_27 rfl (lv_at hl 0 rfl) ?_
    obtain ⟨x9, hx9, hE⟩ := bd hE
    refine s_gI hx hb hT u_X4 hown hK hW hx9 rfl (by decide) fl_X4_55 rfl dX4_nextCopy_28 ?_
    obtain ⟨x10, hx10, hE⟩ := bd hE
    refine s_ldR hx hb hK hW hS hx10 (by decide) rfl dX4_nextCopy_31 ?_
    obtain ⟨rfl, rfl⟩ := so2 hE
    exact s_aret hx hb hr (Or.inl ⟨_, rfl⟩) hlocks hW hS dX4_nextCopy_32
  · replace hE := ite_f q2 hE
    refine s_null (G := G) hx hb dX4_nextCopy_9 ?_
    obtain ⟨rfl, rfl⟩ := so2 hE
    exact s_aret hx hb hr (Or.inl ⟨_, rfl⟩) hlocks hW hS dX4_nextCopy_10
set_option maxHeartbeats 4000000 in
set_option maxRecDepth 100000 in
theorem S_X11_byteAt (l : Launch) (G : GG) (F : Nat) {u0 : Option Nat} {u1 : Int32} {f : Hp} {r : Int32} {n : Nat} (hE : m_X11_byteAt F u0 u1 f = some r) : Ctr l G yX11_byteAt cX11_byteAt 2 (some .int) 0 0 [rr G u0, .int u1] f n (some (.int r)) f n 0 0 := by
  refine Met.ofW (cc := cX11_byteAt) (maxL := 2) (ret := (some .int)) (by decide) rfl ?_
  intro p e s m args below meth c s₁ B hml hv
  obtain ⟨rfl, hK, hW⟩ := hv
  have hx := B.exec
  have hb := B.bytes
  have hr := B.returns
  have hts := atoms_spec (ws := wsO yX11_byteAt cX11_byteAt 2 (some .int)) B.pre
  have hT : ∀ w ∈ TB, w.before [rr G u0, .int u1].toArray s = true := fun w hw => hts w (List.mem_cons_of_mem _ hw)
  have hown : s.vm.findClass RX11 = some m.cls := findClass_of_methodNamed B.named
  have hlocks := B.notSynchronized
  have CF : CallFix p m c cX11_byteAt 2 s [rr G u0, .int u1].toArray TB RX11 := ⟨hx, hb, hml, hown, hT⟩
  have hS : va_S (WA G) s.heap s.heap [] := va_S.rf
  have hl : lv_has (lg_sl ([rr G u0, .int u1]) ++ List.replicate (2 - (lg_sl ([rr G u0, .int u1])).length) Slot.unset).toArray 2 [(0, rr G u0), (1, .int u1)] := by cases u0 <;> exact lv_entry _ (Nat.le_of_ble_eq_true rfl)
  rw [lg_entry_eq]
  generalize (lg_sl ([rr G u0, .int u1]) ++ List.replicate (2 - (lg_sl ([rr G u0, .int u1])).length) Slot.unset).toArray = ls at hl ⊢
  refine lv_iload_n hx hb dX11_byteAt_0 rfl (lv_at hl 1 rfl) ?_
  refine lv_if_lt (tgt := 24) hx hb dX11_byteAt_1 (by decide) (fun q1 => ?_) (fun q1 => ?_)
  · replace hE := ite_t q1 hE
    refine lv_iconst (v := (0 : Int32)) hx hb dX11_byteAt_24 (by decide) ?_
    obtain rfl := so1 hE
    exact s_iret hx hb hr hlocks hW hS dX11_byteAt_25
  · replace hE := ite_f q1 hE
    refine lv_iload_n hx hb dX11_byteAt_4 rfl (lv_at hl 1 rfl) ?_
    refine lv_sipush (v := (740 : Int32)) hx hb dX11_byteAt_5 (by decide) ?_
    refine lv_icmp_ge (tgt := 24) hx hb dX11_byteAt_8 (by decide) (fun q2 => ?_) (fun q2 => ?_)
    · replace hE := ite_t q2 hE
      refine lv_iconst (v := (0 : Int32)) hx hb dX11_byteAt_24 (by decide) ?_
      obtain rfl := so1 hE
      exact s_iret hx hb hr hlocks hW hS dX11_byteAt_25
    · replace hE := ite_f q2 hE
      refine s_aload_n hx hb dX11_byteAt_11 rfl (lv_at hl 0 rfl) ?_
      obtain ⟨x3, hx3, hE⟩ := bd hE
      refine s_gR hx hb hT u_X11 hown hK hW hx3 rfl (by decide) fl_X11_9 rfl dX11_byteAt_12 ?_
      refine lv_iload_n hx hb dX11_byteAt_15 rfl (lv_at hl 1 rfl) ?_
      obtain ⟨x4, hx4, hE⟩ := bd hE
      refine s_ldB hx hb hK hW hS hx4 dX11_byteAt_16 ?_
      refine lv_sipush (v := (255 : Int32)) hx hb dX11_byteAt_17 (by decide) ?_
      refine lv_iand hx hb dX11_byteAt_20 ?_
      refine lv_goto (tgt := 25) hx hb dX11_byteAt_21 (by decide) ?_
      obtain rfl := so1 hE
      exact s_iret hx hb hr hlocks hW hS dX11_byteAt_25
set_option maxHeartbeats 4000000 in
set_option maxRecDepth 100000 in
theorem S_X1_hasLine (l : Launch) (G : GG) (F : Nat) {u0 : Option Nat} {u1 : Int32} {f : Hp} {r : Int32} {n : Nat} (hE : m_X1_hasLine F u0 u1 f = some r) : Ctr l G yX1_hasLine cX1_hasLine 2 (some .boolean) 0 0 [rr G u0, .int u1] f n (some (.int r)) f n 0 0 := by
  refine Met.ofW (cc := cX1_hasLine) (maxL := 2) (ret := (some .boolean)) (by decide) rfl ?_
  intro p e s m args below meth c s₁ B hml hv
  obtain ⟨rfl, hK, hW⟩ := hv
  have hx := B.exec
  have hb := B.bytes
  have hr := B.returns
  have hts := atoms_spec (ws := wsO yX1_hasLine cX1_hasLine 2 (some .boolean)) B.pre
  have hT : ∀ w ∈ TB, w.before [rr G u0, .int u1].toArray s = true := fun w hw => hts w (List.mem_cons_of_mem _ hw)
  have hown : s.vm.findClass RX1 = some m.cls := findClass_of_methodNamed B.named
  have hlocks := B.notSynchronized
  have CF : CallFix p m c cX1_hasLine 2 s [rr G u0, .int u1].toArray TB RX1 := ⟨hx, hb, hml, hown, hT⟩
  have hS : va_S (WA G) s.heap s.heap [] := va_S.rf
  have hl : lv_has (lg_sl ([rr G u0, .int u1]) ++ List.replicate (2 - (lg_sl ([rr G u0, .int u1])).length) Slot.unset).toArray 2 [(0, rr G u0), (1, .int u1)] := by cases u0 <;> exact lv_entry _ (Nat.le_of_ble_eq_true rfl)
  rw [lg_entry_eq]
  generalize (lg_sl ([rr G u0, .int u1]) ++ List.replicate (2 - (lg_sl ([rr G u0, .int u1])).length) Slot.unset).toArray = ls at hl ⊢
  refine s_aload_n hx hb dX1_hasLine_0 rfl (lv_at hl 0 rfl) ?_
  obtain ⟨x1, hx1, hE⟩ := bd hE
  refine s_gI hx hb hT u_X1 hown hK hW hx1 rfl (by decide) fl_X1_22 rfl dX1_hasLine_1 ?_
  refine lv_iload_n hx hb dX1_hasLine_4 rfl (lv_at hl 1 rfl) ?_
  refine lv_iushr (v := (ius x1 u1)) hx hb dX1_hasLine_5 rfl ?_
  refine lv_iconst (v := (1 : Int32)) hx hb dX1_hasLine_6 (by decide) ?_
  refine lv_iand hx hb dX1_hasLine_7 ?_
  refine lv_if_eq (tgt := 15) hx hb dX1_hasLine_8 (by decide) (fun q2 => ?_) (fun q2 => ?_)
  · replace hE := ite_t q2 hE
    refine lv_iconst (v := (0 : Int32)) hx hb dX1_hasLine_15 (by decide) ?_
    obtain ⟨c3, hE⟩ := ck hE
    obtain rfl := so1 hE
    exact s_zret hx hb hr c3 hlocks hW hS dX1_hasLine_16
  · replace hE := ite_f q2 hE
    refine lv_iconst (v := (1 : Int32)) hx hb dX1_hasLine_11 (by decide) ?_
    refine lv_goto (tgt := 16) hx hb dX1_hasLine_12 (by decide) ?_
    obtain ⟨c4, hE⟩ := ck hE
    obtain rfl := so1 hE
    exact s_zret hx hb hr c4 hlocks hW hS dX1_hasLine_16
set_option maxHeartbeats 4000000 in
set_option maxRecDepth 100000 in
theorem S_X11_lineOf (l : Launch) (G : GG) (F : Nat) {u0 : Int32} {u1 : Int32} {f : Hp} {r : Int32} {n : Nat} (hE : m_X11_lineOf F u0 u1 f = some r) : Ctr l G yX11_lineOf cX11_lineOf 2 (some .int) 0 0 [.int u0, .int u1] f n (some (.int r)) f n 0 0 := by
  refine Met.ofW (cc := cX11_lineOf) (maxL := 2) (ret := (some .int)) (by decide) rfl ?_
  intro p e s m args below meth c s₁ B hml hv
  obtain ⟨rfl, hK, hW⟩ := hv
  have hx := B.exec
  have hb := B.bytes
  have hr := B.returns
  have hts := atoms_spec (ws := wsO yX11_lineOf cX11_lineOf 2 (some .int)) B.pre
  have hT : ∀ w ∈ TB, w.before [.int u0, .int u1].toArray s = true := fun w hw => hts w (List.mem_cons_of_mem _ hw)
  have hown : s.vm.findClass RX11 = some m.cls := findClass_of_methodNamed B.named
  have hlocks := B.notSynchronized
  have CF : CallFix p m c cX11_lineOf 2 s [.int u0, .int u1].toArray TB RX11 := ⟨hx, hb, hml, hown, hT⟩
  have hS : va_S (WA G) s.heap s.heap [] := va_S.rf
  have hl : lv_has (lg_sl ([.int u0, .int u1]) ++ List.replicate (2 - (lg_sl ([.int u0, .int u1])).length) Slot.unset).toArray 2 [(0, .int u0), (1, .int u1)] := by exact lv_entry [.int u0, .int u1] (Nat.le_of_ble_eq_true rfl)
  rw [lg_entry_eq]
  generalize (lg_sl ([.int u0, .int u1]) ++ List.replicate (2 - (lg_sl ([.int u0, .int u1])).length) Slot.unset).toArray = ls at hl ⊢
  refine lv_iload_n hx hb dX11_lineOf_0 rfl (lv_at hl 0 rfl) ?_
  refine lv_iconst (v := (4 : Int32)) hx hb dX11_lineOf_1 (by decide) ?_
  refine lv_iload_n hx hb dX11_lineOf_2 rfl (lv_at hl 1 rfl) ?_
  refine lv_imul hx hb dX11_lineOf_3 ?_
  refine lv_iushr (v := (ius u0 ((4 : Int32) * u1))) hx hb dX11_lineOf_4 rfl ?_
  refine lv_bipush (v := (15 : Int32)) hx hb dX11_lineOf_5 (by decide) ?_
  refine lv_iand hx hb dX11_lineOf_7 ?_
  obtain rfl := so1 hE
  exact s_iret hx hb hr hlocks hW hS dX11_lineOf_8
set_option maxHeartbeats 4000000 in
set_option maxRecDepth 100000 in
theorem S_X11_pairBit (l : Launch) (G : GG) (F : Nat) {u0 : Int32} {u1 : Int32} {f : Hp} {r : Int32} {n : Nat} (hE : m_X11_pairBit F u0 u1 f = some r) : Ctr l G yX11_pairBit cX11_pairBit 3 (some .int) 1 24 [.int u0, .int u1] f n (some (.int r)) f n 0 0 := by
  refine Met.ofW (cc := cX11_pairBit) (maxL := 3) (ret := (some .int)) (by decide) rfl ?_
  intro p e s m args below meth c s₁ B hml hv
  obtain ⟨rfl, hK, hW⟩ := hv
  have hx := B.exec
  have hb := B.bytes
  have hr := B.returns
  have hts := atoms_spec (ws := wsO yX11_pairBit cX11_pairBit 3 (some .int)) B.pre
  have hT : ∀ w ∈ TB, w.before [.int u0, .int u1].toArray s = true := fun w hw => hts w (List.mem_cons_of_mem _ hw)
  have hown : s.vm.findClass RX11 = some m.cls := findClass_of_methodNamed B.named
  have hlocks := B.notSynchronized
  have CF : CallFix p m c cX11_pairBit 3 s [.int u0, .int u1].toArray TB RX11 := ⟨hx, hb, hml, hown, hT⟩
  have hS : va_S (WA G) s.heap s.heap [] := va_S.rf
  have hl : lv_has (lg_sl ([.int u0, .int u1]) ++ List.replicate (3 - (lg_sl ([.int u0, .int u1])).length) Slot.unset).toArray 3 [(0, .int u0), (1, .int u1)] := by exact lv_entry [.int u0, .int u1] (Nat.le_of_ble_eq_true rfl)
  rw [lg_entry_eq]
  generalize (lg_sl ([.int u0, .int u1]) ++ List.replicate (3 - (lg_sl ([.int u0, .int u1])).length) Slot.unset).toArray = ls at hl ⊢
  refine lv_iload_n hx hb dX11_pairBit_0 rfl (lv_at hl 0 rfl) ?_
  refine lv_iload_n hx hb dX11_pairBit_1 rfl (lv_at hl 1 rfl) ?_
  refine s_max hx hb (by rw [hml]; exact hl.1.symm) hT hown mx_X11_315 (Nat.le_of_ble_eq_true rfl) (Nat.le_of_ble_eq_true rfl) (Nat.le_of_ble_eq_true rfl) (Nat.le_refl _) (Nat.le_refl _) dX11_pairBit_2 ?_
  refine lv_topi (fun y1 ey1 => ?_)
  replace hE := nm_o ey1 hE
  refine lv_istore_n (i := 2) (lv' := [(2, .int y1), (0, .int u0), (1, .int u1)]) hx hb dX11_pairBit_5 rfl hl (by decide) rfl (fun ls hl => ?_)
  refine lv_iconst (v := (1 : Int32)) hx hb dX11_pairBit_6 (by decide) ?_
  refine lv_iload_n hx hb dX11_pairBit_7 rfl (lv_at hl 0 rfl) ?_
  refine lv_iload_n hx hb dX11_pairBit_8 rfl (lv_at hl 0 rfl) ?_
  refine lv_iconst (v := (1 : Int32)) hx hb dX11_pairBit_9 (by decide) ?_
  refine lv_isub hx hb dX11_pairBit_10 ?_
  refine lv_imul hx hb dX11_pairBit_11 ?_
  refine lv_iconst (v := (2 : Int32)) hx hb dX11_pairBit_12 (by decide) ?_
  obtain ⟨c2, hE⟩ := ck hE
  refine lv_idiv hx hb dX11_pairBit_13 (of_decide_eq_true c2) ?_
  refine lv_iload_n hx hb dX11_pairBit_14 rfl (lv_at hl 1 rfl) ?_
  refine lv_iload_n hx hb dX11_pairBit_15 rfl (lv_at hl 2 rfl) ?_
  refine s_min hx hb (by rw [hml]; exact hl.1.symm) hT hown mx_X11_202 (Nat.le_of_ble_eq_true rfl) (Nat.le_of_ble_eq_true rfl) (Nat.le_of_ble_eq_true rfl) (Nat.le_refl _) (Nat.le_refl _) dX11_pairBit_16 ?_
  refine lv_iadd hx hb dX11_pairBit_19 ?_
  refine lv_ishl hx hb dX11_pairBit_20 ?_
  obtain rfl := so1 hE
  exact s_iret hx hb hr hlocks hW hS dX11_pairBit_21
set_option maxHeartbeats 4000000 in
set_option maxRecDepth 100000 in
theorem S_X1_append (l : Launch) (G : GG) (F : Nat) {u0 : Option Nat} {u1 : Int32} {f : Hp} {f' : Hp} {n : Nat} (hE : m_X1_append F u0 u1 f = some f') : Ctr l G yX1_append cX1_append 5 none 2 46 [rr G u0, .int u1] f n none f' n 0 0 := by
  refine Met.ofW (cc := cX1_append) (maxL := 5) (ret := none) (by decide) rfl ?_
  intro p e s m args below meth c s₁ B hml hv
  obtain ⟨rfl, hK, hW⟩ := hv
  have hx := B.exec
  have hb := B.bytes
  have hr := B.returns
  have hts := atoms_spec (ws := wsO yX1_append cX1_append 5 none) B.pre
  have hT : ∀ w ∈ TB, w.before [rr G u0, .int u1].toArray s = true := fun w hw => hts w (List.mem_cons_of_mem _ hw)
  have hown : s.vm.findClass RX1 = some m.cls := findClass_of_methodNamed B.named
  have hlocks := B.notSynchronized
  have CF : CallFix p m c cX1_append 5 s [rr G u0, .int u1].toArray TB RX1 := ⟨hx, hb, hml, hown, hT⟩
  have hS : va_S (WA G) s.heap s.heap [] := va_S.rf
  have hl : lv_has (lg_sl ([rr G u0, .int u1]) ++ List.replicate (5 - (lg_sl ([rr G u0, .int u1])).length) Slot.unset).toArray 5 [(0, rr G u0), (1, .int u1)] := by cases u0 <;> exact lv_entry _ (Nat.le_of_ble_eq_true rfl)
  rw [lg_entry_eq]
  generalize (lg_sl ([rr G u0, .int u1]) ++ List.replicate (5 - (lg_sl ([rr G u0, .int u1])).length) Slot.unset).toArray = ls at hl ⊢
  have hC59 : ∀ (v0 : Option Nat) (v1 : Int32) (fa : Hp) (H : Heap) (locs : List Loc) (ls : Array Slot), m_X1_append_B59 F v0 v1 fa = some f' → Wd G fa n H → va_S (WA G) s.heap H locs → lv_has ls 5 [(0, rr G v0), (1, .int v1)] → W p l e (headSpec (wsO yX1_append cX1_append 5 none) { frames := 2, cells := 0, slots := 0, locals := 46 }).room s m [rr G u0, .int u1].toArray below meth c H locs 0 0 (MQ below (Qcn G none f' n) [rr G u0, .int u1].toArray s 0 0 (WA G)) (F0 m 59 ls []) := by
    intro v0 v1 fa H locs ls hE hW hS hl
    refine s_aload_n hx hb dX1_append_59 rfl (lv_at hl 0 rfl) ?_
    refine lv_dup hx hb dX1_append_60 (cat_rr G _) ?_
    obtain ⟨x13, hx13, hE⟩ := bd hE
    refine s_gI hx hb hT u_X1 hown hK hW hx13 rfl (by decide) fl_X1_19 rfl dX1_append_61 ?_
    refine lv_iload_n hx hb dX1_append_64 rfl (lv_at hl 1 rfl) ?_
    refine lv_iconst (v := (4 : Int32)) hx hb dX1_append_65 (by decide) ?_
    refine s_aload_n hx hb dX1_append_66 rfl (lv_at hl 0 rfl) ?_
    obtain ⟨x14, hx14, hE⟩ := bd hE
    refine s_gI hx hb hT u_X1 hown hK hW hx14 rfl (by decide) fl_X1_15 rfl dX1_append_67 ?_
    refine lv_imul hx hb dX1_append_70 ?_
    refine lv_ishl hx hb dX1_append_71 ?_
    refine lv_ior hx hb dX1_append_72 ?_
    obtain ⟨f15, hf15, hE⟩ := bd hE
    refine s_putI hx hb hT u_X1 tyX1 tyX1_ok nmX1 hown hK hW hS hf15 rfl (by decide) fl_X1_19 rfl (Or.inl rfl) rfl dX1_append_73 (fun H locs hW hS => ?_)
    refine s_aload_n hx hb dX1_append_76 rfl (lv_at hl 0 rfl) ?_
    refine lv_dup hx hb dX1_append_77 (cat_rr G _) ?_
    obtain ⟨x16, hx16, hE⟩ := bd hE
    refine s_gI hx hb hT u_X1 hown hK hW hx16 rfl (by decide) fl_X1_22 rfl dX1_append_78 ?_
    refine lv_iconst (v := (1 : Int32)) hx hb dX1_append_81 (by decide) ?_
    refine lv_iload_n hx hb dX1_append_82 rfl (lv_at hl 1 rfl) ?_
    refine lv_ishl hx hb dX1_append_83 ?_
    refine lv_ior hx hb dX1_append_84 ?_
    obtain ⟨f17, hf17, hE⟩ := bd hE
    refine s_putI hx hb hT u_X1 tyX1 tyX1_ok nmX1 hown hK hW hS hf17 rfl (by decide) fl_X1_22 rfl (Or.inl rfl) rfl dX1_append_85 (fun H locs hW hS => ?_)
    refine s_aload_n hx hb dX1_append_88 rfl (lv_at hl 0 rfl) ?_
    refine lv_dup hx hb dX1_append_89 (cat_rr G _) ?_
    obtain ⟨x18, hx18, hE⟩ := bd hE
    refine s_gI hx hb hT u_X1 hown hK hW hx18 rfl (by decide) fl_X1_15 rfl dX1_append_90 ?_
    refine lv_iconst (v := (1 : Int32)) hx hb dX1_append_93 (by decide) ?_
    refine lv_iadd hx hb dX1_append_94 ?_
    obtain ⟨f19, hf19, hE⟩ := bd hE
    refine s_putI hx hb hT u_X1 tyX1 tyX1_ok nmX1 hown hK hW hS hf19 rfl (by decide) fl_X1_15 rfl (Or.inl rfl) rfl dX1_append_95 (fun H locs hW hS => ?_)
    obtain rfl := so1 hE
    exact s_vret hx hb hr hlocks hW hS dX1_append_98
  have hC2 : ∀ (k2 : Nat), ∀ (v0 : Option Nat) (v1 : Int32) (v2 : Int32) (fa : Hp) (H : Heap) (locs : List Loc) (ls : Array Slot), m_X1_append_L2 F k2 v0 v1 v2 fa = some f' → Wd G fa n H → va_S (WA G) s.heap H locs → lv_has ls 5 [(0, rr G v0), (1, .int v1), (2, .int v2)] → W p l e (headSpec (wsO yX1_append cX1_append 5 none) { frames := 2, cells := 0, slots := 0, locals := 46 }).room s m [rr G u0, .int u1].toArray below meth c H locs 0 0 (MQ below (Qcn G none f' n) [rr G u0, .int u1].toArray s 0 0 (WA G)) (F0 m 2 ls []) := by
    intro k2
    induction k2 with
    | zero => intro v0 v1 v2 fa H locs ls hE _ _ _; cases (show (none : Option Hp) = some f' from hE)
    | succ k2 ih2 =>
      intro v0 v1 v2 fa H locs ls hE hW hS hl
      replace hE : m_X1_append_b2 F (m_X1_append_L2 F k2) v0 v1 v2 fa = some f' := hE
      refine lv_iload_n hx hb dX1_append_2 rfl (lv_at hl 2 rfl) ?_
      refine s_aload_n hx hb dX1_append_3 rfl (lv_at hl 0 rfl) ?_
      obtain ⟨x1, hx1, hE⟩ := bd hE
      refine s_gI hx hb hT u_X1 hown hK hW hx1 rfl (by decide) fl_X1_15 rfl dX1_append_4 ?_
      refine lv_icmp_ge (tgt := 59) hx hb dX1_append_7 (by decide) (fun q2 => ?_) (fun q2 => ?_)
      · replace hE := ite_t q2 hE
        exact hC59 _ _ _ _ _ _ hE hW hS (lv_sub hl [0, 1] rfl)
      · replace hE := ite_f q2 hE
        refine s_aload_n hx hb dX1_append_10 rfl (lv_at hl 0 rfl) ?_
        obtain ⟨x3, hx3, hE⟩ := bd hE
        refine s_gI hx hb hT u_X1 hown hK hW hx3 rfl (by decide) fl_X1_19 rfl dX1_append_11 ?_
        refine lv_iload_n hx hb dX1_append_14 rfl (lv_at hl 2 rfl) ?_
        obtain ⟨x4, hx4, hE⟩ := bd hE
        refine s_callSN (As := [.int x3, .int v2]) (rest := []) CF hK hW hS (S_X11_lineOf l G F hx4) go_X11_lineOf nm_X1_31 ini_CopyOrders stt_X11_lineOf hd_X11_lineOf.2 ⟨Nat.le_of_ble_eq_true rfl, Nat.le_of_ble_eq_true rfl⟩ rfl hl.1 rfl (Nat.le_of_ble_eq_true rfl) dX1_append_15 ⟨Nat.le_refl _, Nat.le_refl _⟩ (fun H locs hW hS => ?_)
        refine lv_istore_n (i := 3) (lv' := [(3, .int x4), (0, rr G v0), (1, .int v1), (2, .int v2)]) hx hb dX1_append_18 rfl hl (by decide) rfl (fun ls hl => ?_)
        refine lv_iload_n hx hb dX1_append_19 rfl (lv_at hl 0 rfl) ?_
        refine lv_iload_n hx hb dX1_append_20 rfl (lv_at hl 2 rfl) ?_
        obtain ⟨x5, hx5, hE⟩ := bd hE
        refine s_callSN (As := [.int x4, .int v1]) (rest := []) CF hK hW hS (S_X11_pairBit l G F hx5) go_X11_pairBit nm_X1_35 ini_CopyOrders stt_X11_pairBit hd_X11_pairBit.2 ⟨Nat.le_of_ble_eq_true rfl, Nat.le_of_ble_eq_true rfl⟩ rfl hl.1 rfl (Nat.le_of_ble_eq_true rfl) dX1_append_21 ⟨Nat.le_refl _, Nat.le_refl _⟩ (fun H locs hW hS => ?_)
        refine lv_istore (lv' := [(4, .int x5), (3, .int x4), (0, rr G v0), (1, .int v1), (2, .int v2)]) hx hb dX1_append_24 hl (by decide) rfl (fun ls hl => ?_)
        refine s_aload_n hx hb dX1_append_26 rfl (lv_at hl 2 rfl) ?_
        refine lv_dup hx hb dX1_append_27 (cat_rr G _) ?_
        obtain ⟨x6, hx6, hE⟩ := bd hE
        refine s_gI hx hb hT u_X1 hown hK hW hx6 rfl (by decide) fl_X1_25 rfl dX1_append_28 ?_
        refine lv_iload hx hb dX1_append_31 (lv_at hl 0 rfl) ?_
        refine lv_ior hx hb dX1_append_33 ?_
        obtain ⟨f7, hf7, hE⟩ := bd hE
        refine s_putI hx hb hT u_X1 tyX1 tyX1_ok nmX1 hown hK hW hS hf7 rfl (by decide) fl_X1_25 rfl (Or.inl rfl) rfl dX1_append_34 (fun H locs hW hS => ?_)
        refine lv_iload_n hx hb dX1_append_37 rfl (lv_at hl 1 rfl) ?_
        refine lv_iload_n hx hb dX1_append_38 rfl (lv_at hl 3 rfl) ?_
        refine lv_icmp_le (tgt := 53) hx hb dX1_append_39 (by decide) (fun q8 => ?_) (fun q8 => ?_)
        · replace hE := ite_t q8 hE
          obtain ⟨y9, ey9⟩ : ∃ y : Int32, y = v2 + (1 : Int32) := ⟨_, rfl⟩
          replace hE := nm_o ey9 hE
          refine lv_iinc (k := 4) (v := y9) (lv' := [(2, .int y9), (4, .int x5), (3, .int x4), (0, rr G v0), (1, .int v1)]) hx hb dX1_append_53 hl rfl (by rw [ey9]; rfl) (by decide) rfl (fun ls hl => ?_)
          refine lv_goto (tgt := 2) hx hb dX1_append_56 (by decide) ?_
          exact ih2 _ _ _ _ _ _ _ hE hW hS (lv_sub hl [3, 4, 0] rfl)
        · replace hE := ite_f q8 hE
          refine s_aload_n hx hb dX1_append_42 rfl (lv_at hl 2 rfl) ?_
          refine lv_dup hx hb dX1_append_43 (cat_rr G _) ?_
          obtain ⟨x10, hx10, hE⟩ := bd hE
          refine s_gI hx hb hT u_X1 hown hK hW hx10 rfl (by decide) fl_X1_28 rfl dX1_append_44 ?_
          refine lv_iload hx hb dX1_append_47 (lv_at hl 0 rfl) ?_
          refine lv_ior hx hb dX1_append_49 ?_
          obtain ⟨f11, hf11, hE⟩ := bd hE
          refine s_putI hx hb hT u_X1 tyX1 tyX1_ok nmX1 hown hK hW hS hf11 rfl (by decide) fl_X1_28 rfl (Or.inl rfl) rfl dX1_append_50 (fun H locs hW hS => ?_)
          obtain ⟨y12, ey12⟩ : ∃ y : Int32, y = v2 + (1 : Int32) := ⟨_, rfl⟩
          replace hE := nm_o ey12 hE
          refine lv_iinc (k := 4) (v := y12) (lv' := [(2, .int y12), (4, .int x5), (3, .int x4), (0, rr G v0), (1, .int v1)]) hx hb dX1_append_53 hl rfl (by rw [ey12]; rfl) (by decide) rfl (fun ls hl => ?_)
          refine lv_goto (tgt := 2) hx hb dX1_append_56 (by decide) ?_
          exact ih2 _ _ _ _ _ _ _ hE hW hS (lv_sub hl [3, 4, 0] rfl)
  refine lv_iconst (v := (0 : Int32)) hx hb dX1_append_0 (by decide) ?_
  refine lv_istore_n (i := 2) (lv' := [(2, .int (0 : Int32)), (0, rr G u0), (1, .int u1)]) hx hb dX1_append_1 rfl hl (by decide) rfl (fun ls hl => ?_)
  exact hC2 F _ _ _ _ _ _ _ hE hW hS (lv_sub hl [1, 2, 0] rfl)
set_option maxHeartbeats 4000000 in
set_option maxRecDepth 100000 in
theorem S_X11_add (l : Launch) (G : GG) (F : Nat) {u0 : Option Nat} {f : Hp} {r : Int32} {f' : Hp} {n : Nat} (hE : m_X11_add F u0 f = some (r, f')) : Ctr l G yX11_add cX11_add 5 (some .int) 3 70 [rr G u0] f n (some (.int r)) f' n 0 0 := by
  refine Met.ofW (cc := cX11_add) (maxL := 5) (ret := (some .int)) (by decide) rfl ?_
  intro p e s m args below meth c s₁ B hml hv
  obtain ⟨rfl, hK, hW⟩ := hv
  have hx := B.exec
  have hb := B.bytes
  have hr := B.returns
  have hts := atoms_spec (ws := wsO yX11_add cX11_add 5 (some .int)) B.pre
  have hT : ∀ w ∈ TB, w.before [rr G u0].toArray s = true := fun w hw => hts w (List.mem_cons_of_mem _ hw)
  have hown : s.vm.findClass RX11 = some m.cls := findClass_of_methodNamed B.named
  have hlocks := B.notSynchronized
  have CF : CallFix p m c cX11_add 5 s [rr G u0].toArray TB RX11 := ⟨hx, hb, hml, hown, hT⟩
  have hS : va_S (WA G) s.heap s.heap [] := va_S.rf
  have hl : lv_has (lg_sl ([rr G u0]) ++ List.replicate (5 - (lg_sl ([rr G u0])).length) Slot.unset).toArray 5 [(0, rr G u0)] := by cases u0 <;> exact lv_entry _ (Nat.le_of_ble_eq_true rfl)
  rw [lg_entry_eq]
  generalize (lg_sl ([rr G u0]) ++ List.replicate (5 - (lg_sl ([rr G u0])).length) Slot.unset).toArray = ls at hl ⊢
  have hC73 : ∀ (v0 : Option Nat) (fa : Hp) (H : Heap) (locs : List Loc) (ls : Array Slot), m_X11_add_B73 F v0 fa = some (r, f') → Wd G fa n H → va_S (WA G) s.heap H locs → lv_has ls 5 [(0, rr G v0)] → W p l e (headSpec (wsO yX11_add cX11_add 5 (some .int)) { frames := 3, cells := 0, slots := 0, locals := 70 }).room s m [rr G u0].toArray below meth c H locs 0 0 (MQ below (Qcn G (some (.int r)) f' n) [rr G u0].toArray s 0 0 (WA G)) (F0 m 73 ls []) := by
    intro v0 fa H locs ls hE hW hS hl
    refine s_aload_n hx hb dX11_add_73 rfl (lv_at hl 0 rfl) ?_
    obtain ⟨x13, hx13, hE⟩ := bd hE
    refine s_gR hx hb hT u_X11 hown hK hW hx13 rfl (by decide) fl_X11_16 rfl dX11_add_74 ?_
    refine lv_dup hx hb dX11_add_77 (cat_rr G _) ?_
    obtain ⟨x14, hx14, hE⟩ := bd hE
    refine s_gI hx hb hT u_X4 hown hK hW hx14 rfl (by decide) fl_X11_142 rfl dX11_add_78 ?_
    refine lv_iconst (v := (1 : Int32)) hx hb dX11_add_81 (by decide) ?_
    refine lv_iadd hx hb dX11_add_82 ?_
    obtain ⟨f15, hf15, hE⟩ := bd hE
    refine s_putI hx hb hT u_X4 tyX4 tyX4_ok nmX4 hown hK hW hS hf15 rfl (by decide) fl_X11_142 rfl (Or.inl rfl) rfl dX11_add_83 (fun H locs hW hS => ?_)
    refine s_aload_n hx hb dX11_add_86 rfl (lv_at hl 0 rfl) ?_
    obtain ⟨x16, hx16, hE⟩ := bd hE
    refine s_gR hx hb hT u_X11 hown hK hW hx16 rfl (by decide) fl_X11_16 rfl dX11_add_87 ?_
    obtain ⟨x17, hx17, hE⟩ := bd hE
    refine s_gI hx hb hT u_X4 hown hK hW hx17 rfl (by decide) fl_X11_142 rfl dX11_add_90 ?_
    refine lv_iconst (v := (1 : Int32)) hx hb dX11_add_93 (by decide) ?_
    refine lv_isub hx hb dX11_add_94 ?_
    obtain ⟨rfl, rfl⟩ := so2 hE
    exact s_iret hx hb hr hlocks hW hS dX11_add_95
  have hC26 : ∀ (k26 : Nat), ∀ (v0 : Option Nat) (v1 : Int32) (v2 : Option Nat) (v3 : Int32) (fa : Hp) (H : Heap) (locs : List Loc) (ls : Array Slot), m_X11_add_L26 F k26 v0 v1 v2 v3 fa = some (r, f') → Wd G fa n H → va_S (WA G) s.heap H locs → lv_has ls 5 [(0, rr G v0), (1, .int v1), (2, rr G v2), (3, .int v3)] → W p l e (headSpec (wsO yX11_add cX11_add 5 (some .int)) { frames := 3, cells := 0, slots := 0, locals := 70 }).room s m [rr G u0].toArray below meth c H locs 0 0 (MQ below (Qcn G (some (.int r)) f' n) [rr G u0].toArray s 0 0 (WA G)) (F0 m 26 ls []) := by
    intro k26
    induction k26 with
    | zero => intro v0 v1 v2 v3 fa H locs ls hE _ _ _; cases (show (none : Option ((Int32) × Hp)) = some (r, f') from hE)
    | succ k26 ih26 =>
      intro v0 v1 v2 v3 fa H locs ls hE hW hS hl
      replace hE : m_X11_add_b26 F (m_X11_add_L26 F k26) v0 v1 v2 v3 fa = some (r, f') := hE
      refine lv_iload_n hx hb dX11_add_26 rfl (lv_at hl 3 rfl) ?_
      refine lv_iload_n hx hb dX11_add_27 rfl (lv_at hl 1 rfl) ?_
      refine lv_icmp_ge (tgt := 73) hx hb dX11_add_28 (by decide) (fun q1 => ?_) (fun q1 => ?_)
      · replace hE := ite_t q1 hE
        exact hC73 _ _ _ _ _ hE hW hS (lv_sub hl [0] rfl)
      · replace hE := ite_f q1 hE
        refine s_aload_n hx hb dX11_add_31 rfl (lv_at hl 0 rfl) ?_
        refine lv_iload_n hx hb dX11_add_32 rfl (lv_at hl 3 rfl) ?_
        obtain ⟨c2, hE⟩ := ck hE
        obtain ⟨x3, hx3, hE⟩ := bd hE
        refine s_callV (As := [.int v3]) (rest := []) CF hK hW hS (S_X11_byteAt l G F hx3) c2 rfl gv_X11_128 hd_X11_byteAt ⟨Nat.le_of_ble_eq_true rfl, Nat.le_of_ble_eq_true rfl⟩ rfl hl.1 rfl (Nat.le_of_ble_eq_true rfl) dX11_add_33 ⟨Nat.le_refl _, Nat.le_refl _⟩ (fun H locs hW hS => ?_)
        refine lv_istore (lv' := [(4, .int x3), (0, rr G v0), (1, .int v1), (2, rr G v2), (3, .int v3)]) hx hb dX11_add_36 hl (by decide) rfl (fun ls hl => ?_)
        refine lv_iload hx hb dX11_add_38 (lv_at hl 0 rfl) ?_
        refine s_aload_n hx hb dX11_add_40 rfl (lv_at hl 1 rfl) ?_
        obtain ⟨x4, hx4, hE⟩ := bd hE
        refine s_gR hx hb hT u_X11 hown hK hW hx4 rfl (by decide) fl_X11_16 rfl dX11_add_41 ?_
        obtain ⟨x5, hx5, hE⟩ := bd hE
        refine s_gI hx hb hT u_X4 hown hK hW hx5 rfl (by decide) fl_X11_132 rfl dX11_add_44 ?_
        refine lv_icmp_ge (tgt := 59) hx hb dX11_add_47 (by decide) (fun q6 => ?_) (fun q6 => ?_)
        · replace hE := ite_t q6 hE
          refine lv_iconst (v := (-1 : Int32)) hx hb dX11_add_59 (by decide) ?_
          obtain ⟨rfl, rfl⟩ := so2 hE
          exact s_iret hx hb hr hlocks hW hS dX11_add_60
        · replace hE := ite_f q6 hE
          refine s_aload_n hx hb dX11_add_50 rfl (lv_at hl 3 rfl) ?_
          refine lv_iload hx hb dX11_add_51 (lv_at hl 0 rfl) ?_
          obtain ⟨c7, hE⟩ := ck hE
          obtain ⟨x8, hx8, hE⟩ := bd hE
          refine s_callV (As := [.int x3]) (rest := []) CF hK hW hS (S_X1_hasLine l G F hx8) c7 rfl gv_X11_135 hd_X1_hasLine ⟨Nat.le_of_ble_eq_true rfl, Nat.le_of_ble_eq_true rfl⟩ rfl hl.1 rfl (Nat.le_of_ble_eq_true rfl) dX11_add_53 ⟨Nat.le_refl _, Nat.le_refl _⟩ (fun H locs hW hS => ?_)
          refine lv_if_eq (tgt := 61) hx hb dX11_add_56 (by decide) (fun q9 => ?_) (fun q9 => ?_)
          · replace hE := ite_t q9 hE
            refine s_aload_n hx hb dX11_add_61 rfl (lv_at hl 3 rfl) ?_
            refine lv_iload hx hb dX11_add_62 (lv_at hl 0 rfl) ?_
            obtain ⟨c10, hE⟩ := ck hE
            obtain ⟨f11, hf11, hE⟩ := bd hE
            refine s_callV (As := [.int x3]) (rest := []) CF hK hW hS (S_X1_append l G F hf11) c10 rfl gv_X11_139 hd_X1_append ⟨Nat.le_of_ble_eq_true rfl, Nat.le_of_ble_eq_true rfl⟩ rfl hl.1 rfl (Nat.le_of_ble_eq_true rfl) dX11_add_64 ⟨Nat.le_refl _, Nat.le_refl _⟩ (fun H locs hW hS => ?_)
            obtain ⟨y12, ey12⟩ : ∃ y : Int32, y = v3 + (1 : Int32) := ⟨_, rfl⟩
            replace hE := nm_o ey12 hE
            refine lv_iinc (k := 4) (v := y12) (lv' := [(3, .int y12), (4, .int x3), (0, rr G v0), (1, .int v1), (2, rr G v2)]) hx hb dX11_add_67 hl rfl (by rw [ey12]; rfl) (by decide) (by simp [cat_rr]) (fun ls hl => ?_)
            refine lv_goto (tgt := 26) hx hb dX11_add_70 (by decide) ?_
            exact ih26 _ _ _ _ _ _ _ _ hE hW hS (lv_sub hl [2, 3, 4, 0] rfl)
          · replace hE := ite_f q9 hE
            refine lv_iconst (v := (-1 : Int32)) hx hb dX11_add_59 (by decide) ?_
            obtain ⟨rfl, rfl⟩ := so2 hE
            exact s_iret hx hb hr hlocks hW hS dX11_add_60
  refine s_aload_n hx hb dX11_add_0 rfl (lv_at hl 0 rfl) ?_
  obtain ⟨c18, hE⟩ := ck hE
  obtain ⟨x19, f20, hx19, hE⟩ := bd2_of hE
  refine s_callV (As := []) (rest := []) CF hK hW hS (S_X11_takeTape l G F hx19) c18 rfl gv_X11_84 hd_X11_takeTape ⟨Nat.le_of_ble_eq_true rfl, Nat.le_of_ble_eq_true rfl⟩ rfl hl.1 rfl (Nat.le_of_ble_eq_true rfl) dX11_add_1 ⟨Nat.le_refl _, Nat.le_refl _⟩ (fun H locs hW hS => ?_)
  refine lv_istore_n (i := 1) (lv' := [(1, .int x19), (0, rr G u0)]) hx hb dX11_add_4 rfl hl (by decide) (by simp [cat_rr]) (fun ls hl => ?_)
  refine s_aload_n hx hb dX11_add_5 rfl (lv_at hl 1 rfl) ?_
  obtain ⟨x21, hx21, hE⟩ := bd hE
  refine s_gR hx hb hT u_X11 hown hK hW hx21 rfl (by decide) fl_X11_16 rfl dX11_add_6 ?_
  obtain ⟨c22, hE⟩ := ck hE
  obtain ⟨x23, f24, hx23, hE⟩ := bd2_of hE
  refine s_callV (As := []) (rest := []) CF hK hW hS (S_X4_nextCopy l G F hx23) c22 rfl gv_X11_124 hd_X4_nextCopy ⟨Nat.le_of_ble_eq_true rfl, Nat.le_of_ble_eq_true rfl⟩ rfl hl.1 rfl (Nat.le_of_ble_eq_true rfl) dX11_add_9 ⟨Nat.le_refl _, Nat.le_refl _⟩ (fun H locs hW hS => ?_)
  refine s_astore_n (i := 2) (lv' := [(2, rr G x23), (1, .int x19), (0, rr G u0)]) hx hb dX11_add_12 rfl hl (by decide) rfl (fun ls hl => ?_)
  refine s_aload_n hx hb dX11_add_13 rfl (lv_at hl 0 rfl) ?_
  refine s_ifnull (tgt := 22) hx hb dX11_add_14 (by decide) (fun q25 => ?_) (fun q25 => ?_)
  · replace hE := ite_t q25 hE
    refine lv_iconst (v := (-1 : Int32)) hx hb dX11_add_22 (by decide) ?_
    obtain ⟨rfl, rfl⟩ := so2 hE
    exact s_iret hx hb hr hlocks hW hS dX11_add_23
  · replace hE := ite_f q25 hE
    refine lv_iload_n hx hb dX11_add_17 rfl (lv_at hl 1 rfl) ?_
    refine lv_iconst (v := (1 : Int32)) hx hb dX11_add_18 (by decide) ?_
    refine lv_icmp_ge (tgt := 24) hx hb dX11_add_19 (by decide) (fun q26 => ?_) (fun q26 => ?_)
    · replace hE := ite_t q26 hE
      refine lv_iconst (v := (0 : Int32)) hx hb dX11_add_24 (by decide) ?_
      refine lv_istore_n (i := 3) (lv' := [(3, .int (0 : Int32)), (2, rr G x23), (1, .int x19), (0, rr G u0)]) hx hb dX11_add_25 rfl hl (by decide) (by simp [cat_rr]) (fun ls hl => ?_)
      exact hC26 F _ _ _ _ _ _ _ _ hE hW hS (lv_sub hl [3, 2, 1, 0] rfl)
    · replace hE := ite_f q26 hE
      refine lv_iconst (v := (-1 : Int32)) hx hb dX11_add_22 (by decide) ?_
      obtain ⟨rfl, rfl⟩ := so2 hE
      exact s_iret hx hb hr hlocks hW hS dX11_add_23
set_option maxHeartbeats 4000000 in
set_option maxRecDepth 100000 in
theorem S_X11_isWithin (l : Launch) (G : GG) (F : Nat) {u0 : Int32} {u1 : Int32} {f : Hp} {r : Int32} {n : Nat} (hE : m_X11_isWithin F u0 u1 f = some r) : Ctr l G yX11_isWithin cX11_isWithin 2 (some .boolean) 0 0 [.int u0, .int u1] f n (some (.int r)) f n 0 0 := by
  refine Met.ofW (cc := cX11_isWithin) (maxL := 2) (ret := (some .boolean)) (by decide) rfl ?_
  intro p e s m args below meth c s₁ B hml hv
  obtain ⟨rfl, hK, hW⟩ := hv
  have hx := B.exec
  have hb := B.bytes
  have hr := B.returns
  have hts := atoms_spec (ws := wsO yX11_isWithin cX11_isWithin 2 (some .boolean)) B.pre
  have hT : ∀ w ∈ TB, w.before [.int u0, .int u1].toArray s = true := fun w hw => hts w (List.mem_cons_of_mem _ hw)
  have hown : s.vm.findClass RX11 = some m.cls := findClass_of_methodNamed B.named
  have hlocks := B.notSynchronized
  have CF : CallFix p m c cX11_isWithin 2 s [.int u0, .int u1].toArray TB RX11 := ⟨hx, hb, hml, hown, hT⟩
  have hS : va_S (WA G) s.heap s.heap [] := va_S.rf
  have hl : lv_has (lg_sl ([.int u0, .int u1]) ++ List.replicate (2 - (lg_sl ([.int u0, .int u1])).length) Slot.unset).toArray 2 [(0, .int u0), (1, .int u1)] := by exact lv_entry [.int u0, .int u1] (Nat.le_of_ble_eq_true rfl)
  rw [lg_entry_eq]
  generalize (lg_sl ([.int u0, .int u1]) ++ List.replicate (2 - (lg_sl ([.int u0, .int u1])).length) Slot.unset).toArray = ls at hl ⊢
  refine lv_iload_n hx hb dX11_isWithin_0 rfl (lv_at hl 0 rfl) ?_
  refine lv_if_lt (tgt := 13) hx hb dX11_isWithin_1 (by decide) (fun q1 => ?_) (fun q1 => ?_)
  · replace hE := ite_t q1 hE
    refine lv_iconst (v := (0 : Int32)) hx hb dX11_isWithin_13 (by decide) ?_
    obtain ⟨c2, hE⟩ := ck hE
    obtain rfl := so1 hE
    exact s_zret hx hb hr c2 hlocks hW hS dX11_isWithin_14
  · replace hE := ite_f q1 hE
    refine lv_iload_n hx hb dX11_isWithin_4 rfl (lv_at hl 0 rfl) ?_
    refine lv_iload_n hx hb dX11_isWithin_5 rfl (lv_at hl 1 rfl) ?_
    refine lv_icmp_gt (tgt := 13) hx hb dX11_isWithin_6 (by decide) (fun q3 => ?_) (fun q3 => ?_)
    · replace hE := ite_t q3 hE
      refine lv_iconst (v := (0 : Int32)) hx hb dX11_isWithin_13 (by decide) ?_
      obtain ⟨c4, hE⟩ := ck hE
      obtain rfl := so1 hE
      exact s_zret hx hb hr c4 hlocks hW hS dX11_isWithin_14
    · replace hE := ite_f q3 hE
      refine lv_iconst (v := (1 : Int32)) hx hb dX11_isWithin_9 (by decide) ?_
      refine lv_goto (tgt := 14) hx hb dX11_isWithin_10 (by decide) ?_
      obtain ⟨c5, hE⟩ := ck hE
      obtain rfl := so1 hE
      exact s_zret hx hb hr c5 hlocks hW hS dX11_isWithin_14
set_option maxHeartbeats 4000000 in
set_option maxRecDepth 100000 in
theorem S_X11_factorial (l : Launch) (G : GG) (F : Nat) {u0 : Int32} {f : Hp} {r : Int32} {n : Nat} (hE : m_X11_factorial F u0 f = some r) : Ctr l G yX11_factorial cX11_factorial 1 (some .int) 0 0 [.int u0] f n (some (.int r)) f n 0 0 := by
  refine Met.ofW (cc := cX11_factorial) (maxL := 1) (ret := (some .int)) (by decide) rfl ?_
  intro p e s m args below meth c s₁ B hml hv
  obtain ⟨rfl, hK, hW⟩ := hv
  have hx := B.exec
  have hb := B.bytes
  have hr := B.returns
  have hts := atoms_spec (ws := wsO yX11_factorial cX11_factorial 1 (some .int)) B.pre
  have hT : ∀ w ∈ TB, w.before [.int u0].toArray s = true := fun w hw => hts w (List.mem_cons_of_mem _ hw)
  have hown : s.vm.findClass RX11 = some m.cls := findClass_of_methodNamed B.named
  have hlocks := B.notSynchronized
  have CF : CallFix p m c cX11_factorial 1 s [.int u0].toArray TB RX11 := ⟨hx, hb, hml, hown, hT⟩
  have hS : va_S (WA G) s.heap s.heap [] := va_S.rf
  have hl : lv_has (lg_sl ([.int u0]) ++ List.replicate (1 - (lg_sl ([.int u0])).length) Slot.unset).toArray 1 [(0, .int u0)] := by exact lv_entry [.int u0] (Nat.le_of_ble_eq_true rfl)
  rw [lg_entry_eq]
  generalize (lg_sl ([.int u0]) ++ List.replicate (1 - (lg_sl ([.int u0])).length) Slot.unset).toArray = ls at hl ⊢
  refine lv_iload_n hx hb dX11_factorial_0 rfl (lv_at hl 0 rfl) ?_
  refine lv_if_lt (tgt := 20) hx hb dX11_factorial_1 (by decide) (fun q1 => ?_) (fun q1 => ?_)
  · replace hE := ite_t q1 hE
    refine lv_iconst (v := (1 : Int32)) hx hb dX11_factorial_20 (by decide) ?_
    obtain rfl := so1 hE
    exact s_iret hx hb hr hlocks hW hS dX11_factorial_21
  · replace hE := ite_f q1 hE
    refine lv_iload_n hx hb dX11_factorial_4 rfl (lv_at hl 0 rfl) ?_
    refine s_getSt hx hb hT hK hS hown 30 (by decide) (z30 hK) fl_X11_348 dX11_factorial_5 ?_
    obtain ⟨x2, hx2, hE⟩ := bd hE
    refine s_alen hx hb hK hW hS hx2 dX11_factorial_8 ?_
    refine lv_icmp_ge (tgt := 20) hx hb dX11_factorial_9 (by decide) (fun q3 => ?_) (fun q3 => ?_)
    · replace hE := ite_t q3 hE
      refine lv_iconst (v := (1 : Int32)) hx hb dX11_factorial_20 (by decide) ?_
      obtain rfl := so1 hE
      exact s_iret hx hb hr hlocks hW hS dX11_factorial_21
    · replace hE := ite_f q3 hE
      refine s_getSt hx hb hT hK hS hown 30 (by decide) (z30 hK) fl_X11_348 dX11_factorial_12 ?_
      refine lv_iload_n hx hb dX11_factorial_15 rfl (lv_at hl 0 rfl) ?_
      obtain ⟨x4, hx4, hE⟩ := bd hE
      refine s_ldI hx hb hK hW hS hx4 dX11_factorial_16 ?_
      refine lv_goto (tgt := 21) hx hb dX11_factorial_17 (by decide) ?_
      obtain rfl := so1 hE
      exact s_iret hx hb hr hlocks hW hS dX11_factorial_21
set_option maxHeartbeats 4000000 in
set_option maxRecDepth 100000 in
theorem S_X1_init (l : Launch) (G : GG) (F : Nat) {u0 : Option Nat} {f : Hp} {f' : Hp} {n : Nat} (hE : m_X1_init F u0 f = some f') : Ctr l G yX1_init cX1_init 1 none 1 24 [rr G u0] f n none f' n 0 0 := by
  refine Met.ofW (cc := cX1_init) (maxL := 1) (ret := none) (by decide) rfl ?_
  intro p e s m args below meth c s₁ B hml hv
  obtain ⟨rfl, hK, hW⟩ := hv
  have hx := B.exec
  have hb := B.bytes
  have hr := B.returns
  have hts := atoms_spec (ws := wsO yX1_init cX1_init 1 none) B.pre
  have hT : ∀ w ∈ TB, w.before [rr G u0].toArray s = true := fun w hw => hts w (List.mem_cons_of_mem _ hw)
  have hown : s.vm.findClass RX1 = some m.cls := findClass_of_methodNamed B.named
  have hlocks := B.notSynchronized
  have hin : meth.name = "<init>" := (name_of_methodNamed B.named B.method).1
  have CF : CallFix p m c cX1_init 1 s [rr G u0].toArray TB RX1 := ⟨hx, hb, hml, hown, hT⟩
  have hS : va_S (WA G) s.heap s.heap [] := va_S.rf
  have hl : lv_has (lg_sl ([rr G u0]) ++ List.replicate (1 - (lg_sl ([rr G u0])).length) Slot.unset).toArray 1 [(0, rr G u0)] := by cases u0 <;> exact lv_entry _ (Nat.le_of_ble_eq_true rfl)
  rw [lg_entry_eq]
  generalize (lg_sl ([rr G u0]) ++ List.replicate (1 - (lg_sl ([rr G u0])).length) Slot.unset).toArray = ls at hl ⊢
  refine s_aload_n hx hb dX1_init_0 rfl (lv_at hl 0 rfl) ?_
  obtain ⟨c1, hE⟩ := ck hE
  refine s_obj hx hb hml hl.1 hown hT ob_X1_3 ob_im ob_cd c1 (Nat.le_of_ble_eq_true rfl) (Nat.le_of_ble_eq_true rfl) (Nat.le_of_ble_eq_true rfl) dX1_init_1 ?_
  obtain rfl := so1 hE
  exact s_vret hx hb hr hlocks hW hS dX1_init_4
set_option maxHeartbeats 4000000 in
set_option maxRecDepth 100000 in
theorem S_X6_lowerBehind (l : Launch) (G : GG) (F : Nat) {u0 : Option Nat} {u1 : Int32} {f : Hp} {r : Int32} {n : Nat} (hE : m_X6_lowerBehind F u0 u1 f = some r) : Ctr l G yX6_lowerBehind cX6_lowerBehind 4 (some .int) 1 21 [rr G u0, .int u1] f n (some (.int r)) f n 0 0 := by
  refine Met.ofW (cc := cX6_lowerBehind) (maxL := 4) (ret := (some .int)) (by decide) rfl ?_
  intro p e s m args below meth c s₁ B hml hv
  obtain ⟨rfl, hK, hW⟩ := hv
  have hx := B.exec
  have hb := B.bytes
  have hr := B.returns
  have hts := atoms_spec (ws := wsO yX6_lowerBehind cX6_lowerBehind 4 (some .int)) B.pre
  have hT : ∀ w ∈ TB, w.before [rr G u0, .int u1].toArray s = true := fun w hw => hts w (List.mem_cons_of_mem _ hw)
  have hown : s.vm.findClass RX6 = some m.cls := findClass_of_methodNamed B.named
  have hlocks := B.notSynchronized
  have CF : CallFix p m c cX6_lowerBehind 4 s [rr G u0, .int u1].toArray TB RX6 := ⟨hx, hb, hml, hown, hT⟩
  have hS : va_S (WA G) s.heap s.heap [] := va_S.rf
  have hl : lv_has (lg_sl ([rr G u0, .int u1]) ++ List.replicate (4 - (lg_sl ([rr G u0, .int u1])).length) Slot.unset).toArray 4 [(0, rr G u0), (1, .int u1)] := by cases u0 <;> exact lv_entry _ (Nat.le_of_ble_eq_true rfl)
  rw [lg_entry_eq]
  generalize (lg_sl ([rr G u0, .int u1]) ++ List.replicate (4 - (lg_sl ([rr G u0, .int u1])).length) Slot.unset).toArray = ls at hl ⊢
  have hC6 : ∀ (k6 : Nat), ∀ (v0 : Option Nat) (v1 : Int32) (v2 : Int32) (v3 : Int32) (H : Heap) (locs : List Loc) (ls : Array Slot), m_X6_lowerBehind_L6 F k6 v0 v1 v2 v3 f = some r → Wd G f n H → va_S (WA G) s.heap H locs → lv_has ls 4 [(0, rr G v0), (1, .int v1), (2, .int v2), (3, .int v3)] → W p l e (headSpec (wsO yX6_lowerBehind cX6_lowerBehind 4 (some .int)) { frames := 1, cells := 0, slots := 0, locals := 21 }).room s m [rr G u0, .int u1].toArray below meth c H locs 0 0 (MQ below (Qcn G (some (.int r)) f n) [rr G u0, .int u1].toArray s 0 0 (WA G)) (F0 m 6 ls []) := by
    intro k6
    induction k6 with
    | zero => intro v0 v1 v2 v3 H locs ls hE _ _ _; cases (show (none : Option Int32) = some r from hE)
    | succ k6 ih6 =>
      intro v0 v1 v2 v3 H locs ls hE hW hS hl
      replace hE : m_X6_lowerBehind_b6 F (m_X6_lowerBehind_L6 F k6) v0 v1 v2 v3 f = some r := hE
      refine lv_iload_n hx hb dX6_lowerBehind_6 rfl (lv_at hl 3 rfl) ?_
      refine s_aload_n hx hb dX6_lowerBehind_7 rfl (lv_at hl 0 rfl) ?_
      obtain ⟨x1, hx1, hE⟩ := bd hE
      refine s_gI hx hb hT u_X1 hown hK hW hx1 rfl (by decide) fl_X6_88 rfl dX6_lowerBehind_8 ?_
      refine lv_icmp_ge (tgt := 42) hx hb dX6_lowerBehind_11 (by decide) (fun q2 => ?_) (fun q2 => ?_)
      · replace hE := ite_t q2 hE
        refine lv_iload_n hx hb dX6_lowerBehind_42 rfl (lv_at hl 2 rfl) ?_
        obtain rfl := so1 hE
        exact s_iret hx hb hr hlocks hW hS dX6_lowerBehind_43
      · replace hE := ite_f q2 hE
        refine s_aload_n hx hb dX6_lowerBehind_14 rfl (lv_at hl 0 rfl) ?_
        obtain ⟨x3, hx3, hE⟩ := bd hE
        refine s_gI hx hb hT u_X1 hown hK hW hx3 rfl (by decide) fl_X6_64 rfl dX6_lowerBehind_15 ?_
        refine lv_iload_n hx hb dX6_lowerBehind_18 rfl (lv_at hl 3 rfl) ?_
        obtain ⟨x4, hx4, hE⟩ := bd hE
        refine s_callSN (As := [.int x3, .int v3]) (rest := []) CF hK hW hS (S_X11_lineOf l G F hx4) go_X11_lineOf nm_X6_119 ini_CopyOrders stt_X11_lineOf hd_X11_lineOf.2 ⟨Nat.le_of_ble_eq_true rfl, Nat.le_of_ble_eq_true rfl⟩ rfl hl.1 rfl (Nat.le_of_ble_eq_true rfl) dX6_lowerBehind_19 ⟨Nat.le_refl _, Nat.le_refl _⟩ (fun H locs hW hS => ?_)
        refine s_aload_n hx hb dX6_lowerBehind_22 rfl (lv_at hl 0 rfl) ?_
        obtain ⟨x5, hx5, hE⟩ := bd hE
        refine s_gI hx hb hT u_X1 hown hK hW hx5 rfl (by decide) fl_X6_64 rfl dX6_lowerBehind_23 ?_
        refine lv_iload_n hx hb dX6_lowerBehind_26 rfl (lv_at hl 1 rfl) ?_
        obtain ⟨x6, hx6, hE⟩ := bd hE
        refine s_callSN (As := [.int x5, .int v1]) (rest := [.int x4]) CF hK hW hS (S_X11_lineOf l G F hx6) go_X11_lineOf nm_X6_119 ini_CopyOrders stt_X11_lineOf hd_X11_lineOf.2 ⟨Nat.le_of_ble_eq_true rfl, Nat.le_of_ble_eq_true rfl⟩ rfl hl.1 rfl (Nat.le_of_ble_eq_true rfl) dX6_lowerBehind_27 ⟨Nat.le_refl _, Nat.le_refl _⟩ (fun H locs hW hS => ?_)
        refine lv_icmp_ge (tgt := 36) hx hb dX6_lowerBehind_30 (by decide) (fun q7 => ?_) (fun q7 => ?_)
        · replace hE := ite_t q7 hE
          obtain ⟨y8, ey8⟩ : ∃ y : Int32, y = v3 + (1 : Int32) := ⟨_, rfl⟩
          replace hE := nm_o ey8 hE
          refine lv_iinc (k := 3) (v := y8) (lv' := [(3, .int y8), (0, rr G v0), (1, .int v1), (2, .int v2)]) hx hb dX6_lowerBehind_36 hl rfl (by rw [ey8]; rfl) (by decide) rfl (fun ls hl => ?_)
          refine lv_goto (tgt := 6) hx hb dX6_lowerBehind_39 (by decide) ?_
          exact ih6 _ _ _ _ _ _ _ hE hW hS (lv_sub hl [1, 2, 3, 0] rfl)
        · replace hE := ite_f q7 hE
          obtain ⟨y9, ey9⟩ : ∃ y : Int32, y = v2 + (1 : Int32) := ⟨_, rfl⟩
          replace hE := nm_o ey9 hE
          refine lv_iinc (k := 2) (v := y9) (lv' := [(2, .int y9), (0, rr G v0), (1, .int v1), (3, .int v3)]) hx hb dX6_lowerBehind_33 hl rfl (by rw [ey9]; rfl) (by decide) rfl (fun ls hl => ?_)
          obtain ⟨y10, ey10⟩ : ∃ y : Int32, y = v3 + (1 : Int32) := ⟨_, rfl⟩
          replace hE := nm_o ey10 hE
          refine lv_iinc (k := 3) (v := y10) (lv' := [(3, .int y10), (2, .int y9), (0, rr G v0), (1, .int v1)]) hx hb dX6_lowerBehind_36 hl rfl (by rw [ey10]; rfl) (by decide) rfl (fun ls hl => ?_)
          refine lv_goto (tgt := 6) hx hb dX6_lowerBehind_39 (by decide) ?_
          exact ih6 _ _ _ _ _ _ _ hE hW hS (lv_sub hl [2, 3, 1, 0] rfl)
  refine lv_iconst (v := (0 : Int32)) hx hb dX6_lowerBehind_0 (by decide) ?_
  refine lv_istore_n (i := 2) (lv' := [(2, .int (0 : Int32)), (0, rr G u0), (1, .int u1)]) hx hb dX6_lowerBehind_1 rfl hl (by decide) rfl (fun ls hl => ?_)
  refine lv_iload_n hx hb dX6_lowerBehind_2 rfl (lv_at hl 2 rfl) ?_
  refine lv_iconst (v := (1 : Int32)) hx hb dX6_lowerBehind_3 (by decide) ?_
  refine lv_iadd hx hb dX6_lowerBehind_4 ?_
  refine lv_topi (fun y11 ey11 => ?_)
  replace hE := nm_o ey11 hE
  refine lv_istore_n (i := 3) (lv' := [(3, .int y11), (2, .int (0 : Int32)), (0, rr G u0), (1, .int u1)]) hx hb dX6_lowerBehind_5 rfl hl (by decide) rfl (fun ls hl => ?_)
  exact hC6 F _ _ _ _ _ _ _ hE hW hS (lv_sub hl [2, 3, 1, 0] rfl)
set_option maxHeartbeats 4000000 in
set_option maxRecDepth 100000 in
theorem S_X6_putExchanges (l : Launch) (G : GG) (F : Nat) {u0 : Option Nat} {u1 : Int32} {u2 : Option Nat} {f : Hp} {f' : Hp} {n : Nat} (hE : m_X6_putExchanges F u0 u1 u2 f = some f') : Ctr l G yX6_putExchanges cX6_putExchanges 9 none 2 44 [rr G u0, .int u1, rr G u2] f n none f' n 0 0 := by
  refine Met.ofW (cc := cX6_putExchanges) (maxL := 9) (ret := none) (by decide) rfl ?_
  intro p e s m args below meth c s₁ B hml hv
  obtain ⟨rfl, hK, hW⟩ := hv
  have hx := B.exec
  have hb := B.bytes
  have hr := B.returns
  have hts := atoms_spec (ws := wsO yX6_putExchanges cX6_putExchanges 9 none) B.pre
  have hT : ∀ w ∈ TB, w.before [rr G u0, .int u1, rr G u2].toArray s = true := fun w hw => hts w (List.mem_cons_of_mem _ hw)
  have hown : s.vm.findClass RX6 = some m.cls := findClass_of_methodNamed B.named
  have hlocks := B.notSynchronized
  have CF : CallFix p m c cX6_putExchanges 9 s [rr G u0, .int u1, rr G u2].toArray TB RX6 := ⟨hx, hb, hml, hown, hT⟩
  have hS : va_S (WA G) s.heap s.heap [] := va_S.rf
  have hl : lv_has (lg_sl ([rr G u0, .int u1, rr G u2]) ++ List.replicate (9 - (lg_sl ([rr G u0, .int u1, rr G u2])).length) Slot.unset).toArray 9 [(0, rr G u0), (1, .int u1), (2, rr G u2)] := by cases u0 <;> cases u2 <;> exact lv_entry _ (Nat.le_of_ble_eq_true rfl)
  rw [lg_entry_eq]
  generalize (lg_sl ([rr G u0, .int u1, rr G u2]) ++ List.replicate (9 - (lg_sl ([rr G u0, .int u1, rr G u2])).length) Slot.unset).toArray = ls at hl ⊢
  have hC2 : ∀ (k2 : Nat), ∀ (v0 : Option Nat) (v1 : Int32) (v2 : Option Nat) (v3 : Int32) (fa : Hp) (H : Heap) (locs : List Loc) (ls : Array Slot), m_X6_putExchanges_L2 F k2 v0 v1 v2 v3 fa = some f' → Wd G fa n H → va_S (WA G) s.heap H locs → lv_has ls 9 [(0, rr G v0), (1, .int v1), (2, rr G v2), (3, .int v3)] → W p l e (headSpec (wsO yX6_putExchanges cX6_putExchanges 9 none) { frames := 2, cells := 0, slots := 0, locals := 44 }).room s m [rr G u0, .int u1, rr G u2].toArray below meth c H locs 0 0 (MQ below (Qcn G none f' n) [rr G u0, .int u1, rr G u2].toArray s 0 0 (WA G)) (F0 m 2 ls []) := by
    intro k2
    induction k2 with
    | zero => intro v0 v1 v2 v3 fa H locs ls hE _ _ _; cases (show (none : Option Hp) = some f' from hE)
    | succ k2 ih2 =>
      have hC86 : ∀ (v0 : Option Nat) (v1 : Int32) (v2 : Option Nat) (v3 : Int32) (v4 : Int32) (v5 : Int32) (v7 : Int32) (s0 : Int32) (fa : Hp) (H : Heap) (locs : List Loc) (ls : Array Slot), m_X6_putExchanges_B86 F (m_X6_putExchanges_L2 F k2) v0 v1 v2 v3 v4 v5 v7 s0 fa = some f' → Wd G fa n H → va_S (WA G) s.heap H locs → lv_has ls 9 [(0, rr G v0), (1, .int v1), (2, rr G v2), (3, .int v3), (4, .int v4), (5, .int v5), (7, .int v7)] → W p l e (headSpec (wsO yX6_putExchanges cX6_putExchanges 9 none) { frames := 2, cells := 0, slots := 0, locals := 44 }).room s m [rr G u0, .int u1, rr G u2].toArray below meth c H locs 0 0 (MQ below (Qcn G none f' n) [rr G u0, .int u1, rr G u2].toArray s 0 0 (WA G)) (F0 m 86 ls [.int s0]) := by
        intro v0 v1 v2 v3 v4 v5 v7 s0 fa H locs ls hE hW hS hl
        refine lv_istore (lv' := [(8, .int s0), (0, rr G v0), (1, .int v1), (2, rr G v2), (3, .int v3), (4, .int v4), (5, .int v5), (7, .int v7)]) hx hb dX6_putExchanges_86 hl (by decide) rfl (fun ls hl => ?_)
        refine s_aload_n hx hb dX6_putExchanges_88 rfl (lv_at hl 1 rfl) ?_
        obtain ⟨x12, hx12, hE⟩ := bd hE
        refine s_gR hx hb hT u_X6 hown hK hW hx12 rfl (by decide) fl_X6_41 rfl dX6_putExchanges_89 ?_
        refine lv_iload_n hx hb dX6_putExchanges_92 rfl (lv_at hl 2 rfl) ?_
        refine s_aload_n hx hb dX6_putExchanges_93 rfl (lv_at hl 1 rfl) ?_
        obtain ⟨x13, hx13, hE⟩ := bd hE
        refine s_gI hx hb hT u_X6 hown hK hW hx13 rfl (by decide) fl_X6_18 rfl dX6_putExchanges_94 ?_
        refine lv_iconst (v := (1 : Int32)) hx hb dX6_putExchanges_97 (by decide) ?_
        refine lv_isub hx hb dX6_putExchanges_98 ?_
        refine lv_imul hx hb dX6_putExchanges_99 ?_
        refine lv_iload_n hx hb dX6_putExchanges_100 rfl (lv_at hl 4 rfl) ?_
        refine lv_iadd hx hb dX6_putExchanges_101 ?_
        refine lv_iload_n hx hb dX6_putExchanges_102 rfl (lv_at hl 2 rfl) ?_
        refine lv_iload hx hb dX6_putExchanges_103 (lv_at hl 7 rfl) ?_
        refine lv_iload hx hb dX6_putExchanges_105 (lv_at hl 5 rfl) ?_
        refine lv_isub hx hb dX6_putExchanges_107 ?_
        refine s_aload_n hx hb dX6_putExchanges_108 rfl (lv_at hl 1 rfl) ?_
        obtain ⟨x14, hx14, hE⟩ := bd hE
        refine s_gI hx hb hT u_X6 hown hK hW hx14 rfl (by decide) fl_X6_18 rfl dX6_putExchanges_109 ?_
        refine lv_iconst (v := (1 : Int32)) hx hb dX6_putExchanges_112 (by decide) ?_
        refine lv_isub hx hb dX6_putExchanges_113 ?_
        refine lv_iload_n hx hb dX6_putExchanges_114 rfl (lv_at hl 4 rfl) ?_
        refine lv_isub hx hb dX6_putExchanges_115 ?_
        obtain ⟨x15, hx15, hE⟩ := bd hE
        refine s_callSN (As := [.int ((x14 - (1 : Int32)) - v3)]) (rest := [.int (v7 - v4), .int v1, .int ((v1 * (x13 - (1 : Int32))) + v3), rr G x12]) CF hK hW hS (S_X11_factorial l G F hx15) go_X11_factorial nm_X6_24 ini_CopyOrders stt_X11_factorial hd_X11_factorial.2 ⟨Nat.le_of_ble_eq_true rfl, Nat.le_of_ble_eq_true rfl⟩ rfl hl.1 rfl (Nat.le_of_ble_eq_true rfl) dX6_putExchanges_116 ⟨Nat.le_refl _, Nat.le_refl _⟩ (fun H locs hW hS => ?_)
        refine lv_imul hx hb dX6_putExchanges_119 ?_
        refine lv_iadd hx hb dX6_putExchanges_120 ?_
        refine lv_iload hx hb dX6_putExchanges_121 (lv_at hl 0 rfl) ?_
        refine lv_iload hx hb dX6_putExchanges_123 (lv_at hl 6 rfl) ?_
        refine lv_isub hx hb dX6_putExchanges_125 ?_
        refine s_aload_n hx hb dX6_putExchanges_126 rfl (lv_at hl 1 rfl) ?_
        obtain ⟨x16, hx16, hE⟩ := bd hE
        refine s_gI hx hb hT u_X6 hown hK hW hx16 rfl (by decide) fl_X6_18 rfl dX6_putExchanges_127 ?_
        refine lv_iconst (v := (2 : Int32)) hx hb dX6_putExchanges_130 (by decide) ?_
        refine lv_isub hx hb dX6_putExchanges_131 ?_
        refine lv_iload_n hx hb dX6_putExchanges_132 rfl (lv_at hl 4 rfl) ?_
        refine lv_isub hx hb dX6_putExchanges_133 ?_
        obtain ⟨x17, hx17, hE⟩ := bd hE
        refine s_callSN (As := [.int ((x16 - (2 : Int32)) - v3)]) (rest := [.int (s0 - v5), .int (v1 + ((v7 - v4) * x15)), .int ((v1 * (x13 - (1 : Int32))) + v3), rr G x12]) CF hK hW hS (S_X11_factorial l G F hx17) go_X11_factorial nm_X6_24 ini_CopyOrders stt_X11_factorial hd_X11_factorial.2 ⟨Nat.le_of_ble_eq_true rfl, Nat.le_of_ble_eq_true rfl⟩ rfl hl.1 rfl (Nat.le_of_ble_eq_true rfl) dX6_putExchanges_134 ⟨Nat.le_refl _, Nat.le_refl _⟩ (fun H locs hW hS => ?_)
        refine lv_imul hx hb dX6_putExchanges_137 ?_
        refine lv_iadd hx hb dX6_putExchanges_138 ?_
        obtain ⟨f18, hf18, hE⟩ := bd hE
        refine s_stI hx hb hK hW hS hf18 dX6_putExchanges_139 (fun H locs hW hS => ?_)
        obtain ⟨y19, ey19⟩ : ∃ y : Int32, y = v3 + (1 : Int32) := ⟨_, rfl⟩
        replace hE := nm_o ey19 hE
        refine lv_iinc (k := 4) (v := y19) (lv' := [(3, .int y19), (8, .int s0), (0, rr G v0), (1, .int v1), (2, rr G v2), (4, .int v4), (5, .int v5), (7, .int v7)]) hx hb dX6_putExchanges_140 hl rfl (by rw [ey19]; rfl) (by decide) (by simp [cat_rr]) (fun ls hl => ?_)
        refine lv_goto (tgt := 2) hx hb dX6_putExchanges_143 (by decide) ?_
        exact ih2 _ _ _ _ _ _ _ _ hE hW hS (lv_sub hl [2, 3, 4, 0] rfl)
      have hC70 : ∀ (v0 : Option Nat) (v1 : Int32) (v2 : Option Nat) (v3 : Int32) (v4 : Int32) (v5 : Int32) (v6 : Int32) (s0 : Int32) (fa : Hp) (H : Heap) (locs : List Loc) (ls : Array Slot), m_X6_putExchanges_B70 F (m_X6_putExchanges_L2 F k2) v0 v1 v2 v3 v4 v5 v6 s0 fa = some f' → Wd G fa n H → va_S (WA G) s.heap H locs → lv_has ls 9 [(0, rr G v0), (1, .int v1), (2, rr G v2), (3, .int v3), (4, .int v4), (5, .int v5), (6, .int v6)] → W p l e (headSpec (wsO yX6_putExchanges cX6_putExchanges 9 none) { frames := 2, cells := 0, slots := 0, locals := 44 }).room s m [rr G u0, .int u1, rr G u2].toArray below meth c H locs 0 0 (MQ below (Qcn G none f' n) [rr G u0, .int u1, rr G u2].toArray s 0 0 (WA G)) (F0 m 70 ls [.int s0]) := by
        intro v0 v1 v2 v3 v4 v5 v6 s0 fa H locs ls hE hW hS hl
        refine lv_istore (lv' := [(7, .int s0), (0, rr G v0), (1, .int v1), (2, rr G v2), (3, .int v3), (4, .int v4), (5, .int v5), (6, .int v6)]) hx hb dX6_putExchanges_70 hl (by decide) rfl (fun ls hl => ?_)
        refine lv_iload hx hb dX6_putExchanges_72 (lv_at hl 7 rfl) ?_
        refine lv_if_eq (tgt := 84) hx hb dX6_putExchanges_74 (by decide) (fun q11 => ?_) (fun q11 => ?_)
        · replace hE := ite_t q11 hE
          refine lv_iload hx hb dX6_putExchanges_84 (lv_at hl 5 rfl) ?_
          exact hC86 _ _ _ _ _ _ _ _ _ _ _ _ hE hW hS (lv_sub hl [1, 2, 3, 4, 5, 6, 0] rfl)
        · replace hE := ite_f q11 hE
          refine lv_iload hx hb dX6_putExchanges_77 (lv_at hl 5 rfl) ?_
          refine lv_iconst (v := (1 : Int32)) hx hb dX6_putExchanges_79 (by decide) ?_
          refine lv_isub hx hb dX6_putExchanges_80 ?_
          refine lv_goto (tgt := 86) hx hb dX6_putExchanges_81 (by decide) ?_
          exact hC86 _ _ _ _ _ _ _ _ _ _ _ _ hE hW hS (lv_sub hl [1, 2, 3, 4, 5, 6, 0] rfl)
      have hC54 : ∀ (v0 : Option Nat) (v1 : Int32) (v2 : Option Nat) (v3 : Int32) (v4 : Int32) (v5 : Int32) (s0 : Int32) (fa : Hp) (H : Heap) (locs : List Loc) (ls : Array Slot), m_X6_putExchanges_B54 F (m_X6_putExchanges_L2 F k2) v0 v1 v2 v3 v4 v5 s0 fa = some f' → Wd G fa n H → va_S (WA G) s.heap H locs → lv_has ls 9 [(0, rr G v0), (1, .int v1), (2, rr G v2), (3, .int v3), (4, .int v4), (5, .int v5)] → W p l e (headSpec (wsO yX6_putExchanges cX6_putExchanges 9 none) { frames := 2, cells := 0, slots := 0, locals := 44 }).room s m [rr G u0, .int u1, rr G u2].toArray below meth c H locs 0 0 (MQ below (Qcn G none f' n) [rr G u0, .int u1, rr G u2].toArray s 0 0 (WA G)) (F0 m 54 ls [.int s0]) := by
        intro v0 v1 v2 v3 v4 v5 s0 fa H locs ls hE hW hS hl
        refine lv_istore (lv' := [(6, .int s0), (0, rr G v0), (1, .int v1), (2, rr G v2), (3, .int v3), (4, .int v4), (5, .int v5)]) hx hb dX6_putExchanges_54 hl (by decide) rfl (fun ls hl => ?_)
        refine lv_iload hx hb dX6_putExchanges_56 (lv_at hl 0 rfl) ?_
        refine lv_if_eq (tgt := 66) hx hb dX6_putExchanges_58 (by decide) (fun q10 => ?_) (fun q10 => ?_)
        · replace hE := ite_t q10 hE
          refine lv_iload hx hb dX6_putExchanges_66 (lv_at hl 6 rfl) ?_
          refine lv_iconst (v := (1 : Int32)) hx hb dX6_putExchanges_68 (by decide) ?_
          refine lv_iadd hx hb dX6_putExchanges_69 ?_
          exact hC70 _ _ _ _ _ _ _ _ _ _ _ _ hE hW hS (lv_sub hl [1, 2, 3, 4, 5, 6, 0] rfl)
        · replace hE := ite_f q10 hE
          refine lv_iload hx hb dX6_putExchanges_61 (lv_at hl 6 rfl) ?_
          refine lv_goto (tgt := 70) hx hb dX6_putExchanges_63 (by decide) ?_
          exact hC70 _ _ _ _ _ _ _ _ _ _ _ _ hE hW hS (lv_sub hl [1, 2, 3, 4, 5, 6, 0] rfl)
      intro v0 v1 v2 v3 fa H locs ls hE hW hS hl
      replace hE : m_X6_putExchanges_b2 F (m_X6_putExchanges_L2 F k2) v0 v1 v2 v3 fa = some f' := hE
      refine lv_iload_n hx hb dX6_putExchanges_2 rfl (lv_at hl 3 rfl) ?_
      refine s_aload_n hx hb dX6_putExchanges_3 rfl (lv_at hl 0 rfl) ?_
      obtain ⟨x1, hx1, hE⟩ := bd hE
      refine s_gI hx hb hT u_X6 hown hK hW hx1 rfl (by decide) fl_X6_18 rfl dX6_putExchanges_4 ?_
      refine lv_iconst (v := (1 : Int32)) hx hb dX6_putExchanges_7 (by decide) ?_
      refine lv_isub hx hb dX6_putExchanges_8 ?_
      refine lv_icmp_ge (tgt := 146) hx hb dX6_putExchanges_9 (by decide) (fun q2 => ?_) (fun q2 => ?_)
      · replace hE := ite_t q2 hE
        obtain rfl := so1 hE
        exact s_vret hx hb hr hlocks hW hS dX6_putExchanges_146
      · replace hE := ite_f q2 hE
        refine s_aload_n hx hb dX6_putExchanges_12 rfl (lv_at hl 2 rfl) ?_
        refine lv_iload_n hx hb dX6_putExchanges_13 rfl (lv_at hl 3 rfl) ?_
        obtain ⟨x3, hx3, hE⟩ := bd hE
        refine s_callS (As := [rr G v2, .int v3]) (rest := []) CF hK hW hS (S_X6_lowerBehind l G F hx3) gs_X6_91 hd_X6_lowerBehind.2 ⟨Nat.le_of_ble_eq_true rfl, Nat.le_of_ble_eq_true rfl⟩ rfl hl.1 rfl (Nat.le_of_ble_eq_true rfl) dX6_putExchanges_14 ⟨Nat.le_refl _, Nat.le_refl _⟩ (fun H locs hW hS => ?_)
        refine lv_istore (lv' := [(4, .int x3), (0, rr G v0), (1, .int v1), (2, rr G v2), (3, .int v3)]) hx hb dX6_putExchanges_17 hl (by decide) rfl (fun ls hl => ?_)
        refine s_aload_n hx hb dX6_putExchanges_19 rfl (lv_at hl 3 rfl) ?_
        refine lv_iload_n hx hb dX6_putExchanges_20 rfl (lv_at hl 4 rfl) ?_
        refine lv_iconst (v := (1 : Int32)) hx hb dX6_putExchanges_21 (by decide) ?_
        refine lv_iadd hx hb dX6_putExchanges_22 ?_
        obtain ⟨x4, hx4, hE⟩ := bd hE
        refine s_callS (As := [rr G v2, .int (v3 + (1 : Int32))]) (rest := []) CF hK hW hS (S_X6_lowerBehind l G F hx4) gs_X6_91 hd_X6_lowerBehind.2 ⟨Nat.le_of_ble_eq_true rfl, Nat.le_of_ble_eq_true rfl⟩ rfl hl.1 rfl (Nat.le_of_ble_eq_true rfl) dX6_putExchanges_23 ⟨Nat.le_refl _, Nat.le_refl _⟩ (fun H locs hW hS => ?_)
        refine lv_istore (lv' := [(5, .int x4), (4, .int x3), (0, rr G v0), (1, .int v1), (2, rr G v2), (3, .int v3)]) hx hb dX6_putExchanges_26 hl (by decide) rfl (fun ls hl => ?_)
        refine s_aload_n hx hb dX6_putExchanges_28 rfl (lv_at hl 4 rfl) ?_
        obtain ⟨x5, hx5, hE⟩ := bd hE
        refine s_gI hx hb hT u_X1 hown hK hW hx5 rfl (by decide) fl_X6_64 rfl dX6_putExchanges_29 ?_
        refine lv_iload_n hx hb dX6_putExchanges_32 rfl (lv_at hl 5 rfl) ?_
        obtain ⟨x6, hx6, hE⟩ := bd hE
        refine s_callSN (As := [.int x5, .int v3]) (rest := []) CF hK hW hS (S_X11_lineOf l G F hx6) go_X11_lineOf nm_X6_119 ini_CopyOrders stt_X11_lineOf hd_X11_lineOf.2 ⟨Nat.le_of_ble_eq_true rfl, Nat.le_of_ble_eq_true rfl⟩ rfl hl.1 rfl (Nat.le_of_ble_eq_true rfl) dX6_putExchanges_33 ⟨Nat.le_refl _, Nat.le_refl _⟩ (fun H locs hW hS => ?_)
        refine s_aload_n hx hb dX6_putExchanges_36 rfl (lv_at hl 4 rfl) ?_
        obtain ⟨x7, hx7, hE⟩ := bd hE
        refine s_gI hx hb hT u_X1 hown hK hW hx7 rfl (by decide) fl_X6_64 rfl dX6_putExchanges_37 ?_
        refine lv_iload_n hx hb dX6_putExchanges_40 rfl (lv_at hl 5 rfl) ?_
        refine lv_iconst (v := (1 : Int32)) hx hb dX6_putExchanges_41 (by decide) ?_
        refine lv_iadd hx hb dX6_putExchanges_42 ?_
        obtain ⟨x8, hx8, hE⟩ := bd hE
        refine s_callSN (As := [.int x7, .int (v3 + (1 : Int32))]) (rest := [.int x6]) CF hK hW hS (S_X11_lineOf l G F hx8) go_X11_lineOf nm_X6_119 ini_CopyOrders stt_X11_lineOf hd_X11_lineOf.2 ⟨Nat.le_of_ble_eq_true rfl, Nat.le_of_ble_eq_true rfl⟩ rfl hl.1 rfl (Nat.le_of_ble_eq_true rfl) dX6_putExchanges_43 ⟨Nat.le_refl _, Nat.le_refl _⟩ (fun H locs hW hS => ?_)
        refine lv_icmp_le (tgt := 53) hx hb dX6_putExchanges_46 (by decide) (fun q9 => ?_) (fun q9 => ?_)
        · replace hE := ite_t q9 hE
          refine lv_iconst (v := (0 : Int32)) hx hb dX6_putExchanges_53 (by decide) ?_
          exact hC54 _ _ _ _ _ _ _ _ _ _ _ hE hW hS (lv_sub hl [2, 3, 4, 5, 1, 0] rfl)
        · replace hE := ite_f q9 hE
          refine lv_iconst (v := (1 : Int32)) hx hb dX6_putExchanges_49 (by decide) ?_
          refine lv_goto (tgt := 54) hx hb dX6_putExchanges_50 (by decide) ?_
          exact hC54 _ _ _ _ _ _ _ _ _ _ _ hE hW hS (lv_sub hl [2, 3, 4, 5, 1, 0] rfl)
  refine lv_iconst (v := (0 : Int32)) hx hb dX6_putExchanges_0 (by decide) ?_
  refine lv_istore_n (i := 3) (lv' := [(3, .int (0 : Int32)), (0, rr G u0), (1, .int u1), (2, rr G u2)]) hx hb dX6_putExchanges_1 rfl hl (by decide) (by simp [cat_rr]) (fun ls hl => ?_)
  exact hC2 F _ _ _ _ _ _ _ _ hE hW hS (lv_sub hl [1, 2, 3, 0] rfl)
set_option maxHeartbeats 4000000 in
set_option maxRecDepth 100000 in
theorem S_X6_exchange (l : Launch) (G : GG) (F : Nat) {u0 : Option Nat} {u1 : Int32} {u2 : Int32} {f : Hp} {f' : Hp} {n : Nat} (hE : m_X6_exchange F u0 u1 u2 f = some f') : Ctr l G yX6_exchange cX6_exchange 4 none 0 0 [rr G u0, .int u1, .int u2] f n none f' n 0 0 := by
  refine Met.ofW (cc := cX6_exchange) (maxL := 4) (ret := none) (by decide) rfl ?_
  intro p e s m args below meth c s₁ B hml hv
  obtain ⟨rfl, hK, hW⟩ := hv
  have hx := B.exec
  have hb := B.bytes
  have hr := B.returns
  have hts := atoms_spec (ws := wsO yX6_exchange cX6_exchange 4 none) B.pre
  have hT : ∀ w ∈ TB, w.before [rr G u0, .int u1, .int u2].toArray s = true := fun w hw => hts w (List.mem_cons_of_mem _ hw)
  have hown : s.vm.findClass RX6 = some m.cls := findClass_of_methodNamed B.named
  have hlocks := B.notSynchronized
  have CF : CallFix p m c cX6_exchange 4 s [rr G u0, .int u1, .int u2].toArray TB RX6 := ⟨hx, hb, hml, hown, hT⟩
  have hS : va_S (WA G) s.heap s.heap [] := va_S.rf
  have hl : lv_has (lg_sl ([rr G u0, .int u1, .int u2]) ++ List.replicate (4 - (lg_sl ([rr G u0, .int u1, .int u2])).length) Slot.unset).toArray 4 [(0, rr G u0), (1, .int u1), (2, .int u2)] := by cases u0 <;> exact lv_entry _ (Nat.le_of_ble_eq_true rfl)
  rw [lg_entry_eq]
  generalize (lg_sl ([rr G u0, .int u1, .int u2]) ++ List.replicate (4 - (lg_sl ([rr G u0, .int u1, .int u2])).length) Slot.unset).toArray = ls at hl ⊢
  refine s_aload_n hx hb dX6_exchange_0 rfl (lv_at hl 0 rfl) ?_
  refine lv_iload_n hx hb dX6_exchange_1 rfl (lv_at hl 1 rfl) ?_
  obtain ⟨x1, hx1, hE⟩ := bd hE
  refine s_ldI hx hb hK hW hS hx1 dX6_exchange_2 ?_
  refine lv_istore_n (i := 3) (lv' := [(3, .int x1), (0, rr G u0), (1, .int u1), (2, .int u2)]) hx hb dX6_exchange_3 rfl hl (by decide) rfl (fun ls hl => ?_)
  refine s_aload_n hx hb dX6_exchange_4 rfl (lv_at hl 1 rfl) ?_
  refine lv_iload_n hx hb dX6_exchange_5 rfl (lv_at hl 2 rfl) ?_
  refine s_aload_n hx hb dX6_exchange_6 rfl (lv_at hl 1 rfl) ?_
  refine lv_iload_n hx hb dX6_exchange_7 rfl (lv_at hl 3 rfl) ?_
  obtain ⟨x2, hx2, hE⟩ := bd hE
  refine s_ldI hx hb hK hW hS hx2 dX6_exchange_8 ?_
  obtain ⟨f3, hf3, hE⟩ := bd hE
  refine s_stI hx hb hK hW hS hf3 dX6_exchange_9 (fun H locs hW hS => ?_)
  refine s_aload_n hx hb dX6_exchange_10 rfl (lv_at hl 1 rfl) ?_
  refine lv_iload_n hx hb dX6_exchange_11 rfl (lv_at hl 3 rfl) ?_
  refine lv_iload_n hx hb dX6_exchange_12 rfl (lv_at hl 0 rfl) ?_
  obtain ⟨f4, hf4, hE⟩ := bd hE
  refine s_stI hx hb hK hW hS hf4 dX6_exchange_13 (fun H locs hW hS => ?_)
  obtain rfl := so1 hE
  exact s_vret hx hb hr hlocks hW hS dX6_exchange_14
set_option maxHeartbeats 4000000 in
set_option maxRecDepth 100000 in
theorem S_X6_rise (l : Launch) (G : GG) (F : Nat) {u0 : Option Nat} {f : Hp} {f' : Hp} {n : Nat} (hE : m_X6_rise F u0 f = some f') : Ctr l G yX6_rise cX6_rise 5 none 1 23 [rr G u0] f n none f' n 0 0 := by
  refine Met.ofW (cc := cX6_rise) (maxL := 5) (ret := none) (by decide) rfl ?_
  intro p e s m args below meth c s₁ B hml hv
  obtain ⟨rfl, hK, hW⟩ := hv
  have hx := B.exec
  have hb := B.bytes
  have hr := B.returns
  have hts := atoms_spec (ws := wsO yX6_rise cX6_rise 5 none) B.pre
  have hT : ∀ w ∈ TB, w.before [rr G u0].toArray s = true := fun w hw => hts w (List.mem_cons_of_mem _ hw)
  have hown : s.vm.findClass RX6 = some m.cls := findClass_of_methodNamed B.named
  have hlocks := B.notSynchronized
  have CF : CallFix p m c cX6_rise 5 s [rr G u0].toArray TB RX6 := ⟨hx, hb, hml, hown, hT⟩
  have hS : va_S (WA G) s.heap s.heap [] := va_S.rf
  have hl : lv_has (lg_sl ([rr G u0]) ++ List.replicate (5 - (lg_sl ([rr G u0])).length) Slot.unset).toArray 5 [(0, rr G u0)] := by cases u0 <;> exact lv_entry _ (Nat.le_of_ble_eq_true rfl)
  rw [lg_entry_eq]
  generalize (lg_sl ([rr G u0]) ++ List.replicate (5 - (lg_sl ([rr G u0])).length) Slot.unset).toArray = ls at hl ⊢
  have hC72 : ∀ (k72 : Nat), ∀ (v0 : Option Nat) (v3 : Int32) (v4 : Int32) (fa : Hp) (H : Heap) (locs : List Loc) (ls : Array Slot), m_X6_rise_L72 F k72 v0 v3 v4 fa = some f' → Wd G fa n H → va_S (WA G) s.heap H locs → lv_has ls 5 [(0, rr G v0), (3, .int v3), (4, .int v4)] → W p l e (headSpec (wsO yX6_rise cX6_rise 5 none) { frames := 1, cells := 0, slots := 0, locals := 23 }).room s m [rr G u0].toArray below meth c H locs 0 0 (MQ below (Qcn G none f' n) [rr G u0].toArray s 0 0 (WA G)) (F0 m 72 ls []) := by
    intro k72
    induction k72 with
    | zero => intro v0 v3 v4 fa H locs ls hE _ _ _; cases (show (none : Option Hp) = some f' from hE)
    | succ k72 ih72 =>
      intro v0 v3 v4 fa H locs ls hE hW hS hl
      replace hE : m_X6_rise_b72 F (m_X6_rise_L72 F k72) v0 v3 v4 fa = some f' := hE
      refine lv_iload_n hx hb dX6_rise_72 rfl (lv_at hl 1 rfl) ?_
      refine lv_iload hx hb dX6_rise_73 (lv_at hl 2 rfl) ?_
      refine lv_icmp_ge (tgt := 94) hx hb dX6_rise_75 (by decide) (fun q18 => ?_) (fun q18 => ?_)
      · replace hE := ite_t q18 hE
        obtain rfl := so1 hE
        exact s_vret hx hb hr hlocks hW hS dX6_rise_94
      · replace hE := ite_f q18 hE
        refine s_aload_n hx hb dX6_rise_78 rfl (lv_at hl 0 rfl) ?_
        refine lv_iload_n hx hb dX6_rise_79 rfl (lv_at hl 1 rfl) ?_
        refine lv_iload hx hb dX6_rise_80 (lv_at hl 2 rfl) ?_
        obtain ⟨f19, hf19, hE⟩ := bd hE
        refine s_callS (As := [rr G v0, .int v3, .int v4]) (rest := []) CF hK hW hS (S_X6_exchange l G F hf19) gs_X6_125 hd_X6_exchange.2 ⟨Nat.le_of_ble_eq_true rfl, Nat.le_of_ble_eq_true rfl⟩ rfl hl.1 rfl (Nat.le_of_ble_eq_true rfl) dX6_rise_82 ⟨Nat.le_refl _, Nat.le_refl _⟩ (fun H locs hW hS => ?_)
        obtain ⟨y20, ey20⟩ : ∃ y : Int32, y = v3 + (1 : Int32) := ⟨_, rfl⟩
        replace hE := nm_o ey20 hE
        refine lv_iinc (k := 1) (v := y20) (lv' := [(3, .int y20), (0, rr G v0), (4, .int v4)]) hx hb dX6_rise_85 hl rfl (by rw [ey20]; rfl) (by decide) rfl (fun ls hl => ?_)
        obtain ⟨y21, ey21⟩ : ∃ y : Int32, y = v4 + (-1 : Int32) := ⟨_, rfl⟩
        replace hE := nm_o ey21 hE
        refine lv_iinc (k := 2) (v := y21) (lv' := [(4, .int y21), (3, .int y20), (0, rr G v0)]) hx hb dX6_rise_88 hl rfl (by rw [ey21]; rfl) (by decide) rfl (fun ls hl => ?_)
        refine lv_goto (tgt := 72) hx hb dX6_rise_91 (by decide) ?_
        exact ih72 _ _ _ _ _ _ _ hE hW hS (lv_sub hl [2, 1, 0] rfl)
  have hC56 : ∀ (v0 : Option Nat) (v1 : Int32) (v2 : Int32) (fa : Hp) (H : Heap) (locs : List Loc) (ls : Array Slot), m_X6_rise_B56 F v0 v1 v2 fa = some f' → Wd G fa n H → va_S (WA G) s.heap H locs → lv_has ls 5 [(0, rr G v0), (1, .int v1), (2, .int v2)] → W p l e (headSpec (wsO yX6_rise cX6_rise 5 none) { frames := 1, cells := 0, slots := 0, locals := 23 }).room s m [rr G u0].toArray below meth c H locs 0 0 (MQ below (Qcn G none f' n) [rr G u0].toArray s 0 0 (WA G)) (F0 m 56 ls []) := by
    intro v0 v1 v2 fa H locs ls hE hW hS hl
    refine s_aload_n hx hb dX6_rise_56 rfl (lv_at hl 0 rfl) ?_
    refine lv_iload_n hx hb dX6_rise_57 rfl (lv_at hl 1 rfl) ?_
    refine lv_iload_n hx hb dX6_rise_58 rfl (lv_at hl 2 rfl) ?_
    obtain ⟨f14, hf14, hE⟩ := bd hE
    refine s_callS (As := [rr G v0, .int v1, .int v2]) (rest := []) CF hK hW hS (S_X6_exchange l G F hf14) gs_X6_125 hd_X6_exchange.2 ⟨Nat.le_of_ble_eq_true rfl, Nat.le_of_ble_eq_true rfl⟩ rfl hl.1 rfl (Nat.le_of_ble_eq_true rfl) dX6_rise_59 ⟨Nat.le_refl _, Nat.le_refl _⟩ (fun H locs hW hS => ?_)
    refine lv_iload_n hx hb dX6_rise_62 rfl (lv_at hl 1 rfl) ?_
    refine lv_iconst (v := (1 : Int32)) hx hb dX6_rise_63 (by decide) ?_
    refine lv_iadd hx hb dX6_rise_64 ?_
    refine lv_topi (fun y15 ey15 => ?_)
    replace hE := nm_o ey15 hE
    refine lv_istore_n (i := 3) (lv' := [(3, .int y15), (0, rr G v0), (1, .int v1), (2, .int v2)]) hx hb dX6_rise_65 rfl hl (by decide) rfl (fun ls hl => ?_)
    refine s_aload_n hx hb dX6_rise_66 rfl (lv_at hl 1 rfl) ?_
    obtain ⟨x16, hx16, hE⟩ := bd hE
    refine s_alen hx hb hK hW hS hx16 dX6_rise_67 ?_
    refine lv_iconst (v := (1 : Int32)) hx hb dX6_rise_68 (by decide) ?_
    refine lv_isub hx hb dX6_rise_69 ?_
    refine lv_topi (fun y17 ey17 => ?_)
    replace hE := nm_o ey17 hE
    refine lv_istore (lv' := [(4, .int y17), (3, .int y15), (0, rr G v0), (1, .int v1), (2, .int v2)]) hx hb dX6_rise_70 hl (by decide) rfl (fun ls hl => ?_)
    exact hC72 F _ _ _ _ _ _ _ hE hW hS (lv_sub hl [2, 1, 0] rfl)
  have hC36 : ∀ (k36 : Nat), ∀ (v0 : Option Nat) (v1 : Int32) (v2 : Int32) (fa : Hp) (H : Heap) (locs : List Loc) (ls : Array Slot), m_X6_rise_L36 F k36 v0 v1 v2 fa = some f' → Wd G fa n H → va_S (WA G) s.heap H locs → lv_has ls 5 [(0, rr G v0), (1, .int v1), (2, .int v2)] → W p l e (headSpec (wsO yX6_rise cX6_rise 5 none) { frames := 1, cells := 0, slots := 0, locals := 23 }).room s m [rr G u0].toArray below meth c H locs 0 0 (MQ below (Qcn G none f' n) [rr G u0].toArray s 0 0 (WA G)) (F0 m 36 ls []) := by
    intro k36
    induction k36 with
    | zero => intro v0 v1 v2 fa H locs ls hE _ _ _; cases (show (none : Option Hp) = some f' from hE)
    | succ k36 ih36 =>
      intro v0 v1 v2 fa H locs ls hE hW hS hl
      replace hE : m_X6_rise_b36 F (m_X6_rise_L36 F k36) v0 v1 v2 fa = some f' := hE
      refine lv_iload_n hx hb dX6_rise_36 rfl (lv_at hl 2 rfl) ?_
      refine lv_iload_n hx hb dX6_rise_37 rfl (lv_at hl 1 rfl) ?_
      refine lv_icmp_le (tgt := 56) hx hb dX6_rise_38 (by decide) (fun q9 => ?_) (fun q9 => ?_)
      · replace hE := ite_t q9 hE
        exact hC56 _ _ _ _ _ _ _ hE hW hS (lv_sub hl [0, 1, 2] rfl)
      · replace hE := ite_f q9 hE
        refine s_aload_n hx hb dX6_rise_41 rfl (lv_at hl 0 rfl) ?_
        refine lv_iload_n hx hb dX6_rise_42 rfl (lv_at hl 2 rfl) ?_
        obtain ⟨x10, hx10, hE⟩ := bd hE
        refine s_ldI hx hb hK hW hS hx10 dX6_rise_43 ?_
        refine s_aload_n hx hb dX6_rise_44 rfl (lv_at hl 0 rfl) ?_
        refine lv_iload_n hx hb dX6_rise_45 rfl (lv_at hl 1 rfl) ?_
        obtain ⟨x11, hx11, hE⟩ := bd hE
        refine s_ldI hx hb hK hW hS hx11 dX6_rise_46 ?_
        refine lv_icmp_ge (tgt := 56) hx hb dX6_rise_47 (by decide) (fun q12 => ?_) (fun q12 => ?_)
        · replace hE := ite_t q12 hE
          exact hC56 _ _ _ _ _ _ _ hE hW hS (lv_sub hl [0, 1, 2] rfl)
        · replace hE := ite_f q12 hE
          obtain ⟨y13, ey13⟩ : ∃ y : Int32, y = v2 + (-1 : Int32) := ⟨_, rfl⟩
          replace hE := nm_o ey13 hE
          refine lv_iinc (k := 2) (v := y13) (lv' := [(2, .int y13), (0, rr G v0), (1, .int v1)]) hx hb dX6_rise_50 hl rfl (by rw [ey13]; rfl) (by decide) rfl (fun ls hl => ?_)
          refine lv_goto (tgt := 36) hx hb dX6_rise_53 (by decide) ?_
          exact ih36 _ _ _ _ _ _ _ hE hW hS (lv_sub hl [1, 2, 0] rfl)
  have hC26 : ∀ (v0 : Option Nat) (v1 : Int32) (fa : Hp) (H : Heap) (locs : List Loc) (ls : Array Slot), m_X6_rise_B26 F v0 v1 fa = some f' → Wd G fa n H → va_S (WA G) s.heap H locs → lv_has ls 5 [(0, rr G v0), (1, .int v1)] → W p l e (headSpec (wsO yX6_rise cX6_rise 5 none) { frames := 1, cells := 0, slots := 0, locals := 23 }).room s m [rr G u0].toArray below meth c H locs 0 0 (MQ below (Qcn G none f' n) [rr G u0].toArray s 0 0 (WA G)) (F0 m 26 ls []) := by
    intro v0 v1 fa H locs ls hE hW hS hl
    refine lv_iload_n hx hb dX6_rise_26 rfl (lv_at hl 1 rfl) ?_
    refine lv_if_ge (tgt := 31) hx hb dX6_rise_27 (by decide) (fun q6 => ?_) (fun q6 => ?_)
    · replace hE := ite_t q6 hE
      refine s_aload_n hx hb dX6_rise_31 rfl (lv_at hl 0 rfl) ?_
      obtain ⟨x7, hx7, hE⟩ := bd hE
      refine s_alen hx hb hK hW hS hx7 dX6_rise_32 ?_
      refine lv_iconst (v := (1 : Int32)) hx hb dX6_rise_33 (by decide) ?_
      refine lv_isub hx hb dX6_rise_34 ?_
      refine lv_topi (fun y8 ey8 => ?_)
      replace hE := nm_o ey8 hE
      refine lv_istore_n (i := 2) (lv' := [(2, .int y8), (0, rr G v0), (1, .int v1)]) hx hb dX6_rise_35 rfl hl (by decide) rfl (fun ls hl => ?_)
      exact hC36 F _ _ _ _ _ _ _ hE hW hS (lv_sub hl [1, 2, 0] rfl)
    · replace hE := ite_f q6 hE
      obtain rfl := so1 hE
      exact s_vret hx hb hr hlocks hW hS dX6_rise_30
  have hC5 : ∀ (k5 : Nat), ∀ (v0 : Option Nat) (v1 : Int32) (fa : Hp) (H : Heap) (locs : List Loc) (ls : Array Slot), m_X6_rise_L5 F k5 v0 v1 fa = some f' → Wd G fa n H → va_S (WA G) s.heap H locs → lv_has ls 5 [(0, rr G v0), (1, .int v1)] → W p l e (headSpec (wsO yX6_rise cX6_rise 5 none) { frames := 1, cells := 0, slots := 0, locals := 23 }).room s m [rr G u0].toArray below meth c H locs 0 0 (MQ below (Qcn G none f' n) [rr G u0].toArray s 0 0 (WA G)) (F0 m 5 ls []) := by
    intro k5
    induction k5 with
    | zero => intro v0 v1 fa H locs ls hE _ _ _; cases (show (none : Option Hp) = some f' from hE)
    | succ k5 ih5 =>
      intro v0 v1 fa H locs ls hE hW hS hl
      replace hE : m_X6_rise_b5 F (m_X6_rise_L5 F k5) v0 v1 fa = some f' := hE
      refine lv_iload_n hx hb dX6_rise_5 rfl (lv_at hl 1 rfl) ?_
      refine lv_if_lt (tgt := 26) hx hb dX6_rise_6 (by decide) (fun q1 => ?_) (fun q1 => ?_)
      · replace hE := ite_t q1 hE
        exact hC26 _ _ _ _ _ _ hE hW hS (lv_sub hl [0, 1] rfl)
      · replace hE := ite_f q1 hE
        refine s_aload_n hx hb dX6_rise_9 rfl (lv_at hl 0 rfl) ?_
        refine lv_iload_n hx hb dX6_rise_10 rfl (lv_at hl 1 rfl) ?_
        obtain ⟨x2, hx2, hE⟩ := bd hE
        refine s_ldI hx hb hK hW hS hx2 dX6_rise_11 ?_
        refine s_aload_n hx hb dX6_rise_12 rfl (lv_at hl 0 rfl) ?_
        refine lv_iload_n hx hb dX6_rise_13 rfl (lv_at hl 1 rfl) ?_
        refine lv_iconst (v := (1 : Int32)) hx hb dX6_rise_14 (by decide) ?_
        refine lv_iadd hx hb dX6_rise_15 ?_
        obtain ⟨x3, hx3, hE⟩ := bd hE
        refine s_ldI hx hb hK hW hS hx3 dX6_rise_16 ?_
        refine lv_icmp_le (tgt := 26) hx hb dX6_rise_17 (by decide) (fun q4 => ?_) (fun q4 => ?_)
        · replace hE := ite_t q4 hE
          exact hC26 _ _ _ _ _ _ hE hW hS (lv_sub hl [0, 1] rfl)
        · replace hE := ite_f q4 hE
          obtain ⟨y5, ey5⟩ : ∃ y : Int32, y = v1 + (-1 : Int32) := ⟨_, rfl⟩
          replace hE := nm_o ey5 hE
          refine lv_iinc (k := 1) (v := y5) (lv' := [(1, .int y5), (0, rr G v0)]) hx hb dX6_rise_20 hl rfl (by rw [ey5]; rfl) (by decide) (by simp [cat_rr]) (fun ls hl => ?_)
          refine lv_goto (tgt := 5) hx hb dX6_rise_23 (by decide) ?_
          exact ih5 _ _ _ _ _ _ hE hW hS (lv_sub hl [1, 0] rfl)
  refine s_aload_n hx hb dX6_rise_0 rfl (lv_at hl 0 rfl) ?_
  obtain ⟨x22, hx22, hE⟩ := bd hE
  refine s_alen hx hb hK hW hS hx22 dX6_rise_1 ?_
  refine lv_iconst (v := (2 : Int32)) hx hb dX6_rise_2 (by decide) ?_
  refine lv_isub hx hb dX6_rise_3 ?_
  refine lv_topi (fun y23 ey23 => ?_)
  replace hE := nm_o ey23 hE
  refine lv_istore_n (i := 1) (lv' := [(1, .int y23), (0, rr G u0)]) hx hb dX6_rise_4 rfl hl (by decide) (by simp [cat_rr]) (fun ls hl => ?_)
  exact hC5 F _ _ _ _ _ _ hE hW hS (lv_sub hl [1, 0] rfl)
set_option maxHeartbeats 4000000 in
set_option maxRecDepth 100000 in
theorem S_X6_init (l : Launch) (G : GG) (F : Nat) {u0 : Option Nat} {u1 : Int32} {f : Hp} {f' : Hp} {n n2 z z2 : Nat} (hE : m_X6_init F u0 u1 f n z = some (f', n2, z2)) : Ctr l G yX6_init cX6_init 6 none 3 72 [rr G u0, .int u1] f n none f' n2 (n2 - n) (z2 - z) := by
  refine Met.ofW (cc := cX6_init) (maxL := 6) (ret := none) (by decide) rfl ?_
  intro p e s m args below meth c s₁ B hml hv
  obtain ⟨rfl, hK, hW⟩ := hv
  have hx := B.exec
  have hb := B.bytes
  have hr := B.returns
  have hts := atoms_spec (ws := wsO yX6_init cX6_init 6 none) B.pre
  have hT : ∀ w ∈ TB, w.before [rr G u0, .int u1].toArray s = true := fun w hw => hts w (List.mem_cons_of_mem _ hw)
  have hown : s.vm.findClass RX6 = some m.cls := findClass_of_methodNamed B.named
  have hlocks := B.notSynchronized
  have hin : meth.name = "<init>" := (name_of_methodNamed B.named B.method).1
  have CF : CallFix p m c cX6_init 6 s [rr G u0, .int u1].toArray TB RX6 := ⟨hx, hb, hml, hown, hT⟩
  have hS : va_S (WA G) s.heap s.heap [] := va_S.rf
  have hl : lv_has (lg_sl ([rr G u0, .int u1]) ++ List.replicate (6 - (lg_sl ([rr G u0, .int u1])).length) Slot.unset).toArray 6 [(0, rr G u0), (1, .int u1)] := by cases u0 <;> exact lv_entry _ (Nat.le_of_ble_eq_true rfl)
  rw [lg_entry_eq]
  generalize (lg_sl ([rr G u0, .int u1]) ++ List.replicate (6 - (lg_sl ([rr G u0, .int u1])).length) Slot.unset).toArray = ls at hl ⊢
  have hC159 : ∀ (k159 : Nat), ∀ (v0 : Option Nat) (v2 : Option Nat) (v3 : Option Nat) (v4 : Int32) (fa : Hp) (na za : Nat) (H : Heap) (locs : List Loc) (ls : Array Slot), n ≤ na → z ≤ za → m_X6_init_L159 F k159 v0 v2 v3 v4 fa na za = some (f', n2, z2) → Wd G fa na H → va_S (WA G) s.heap H locs → lv_has ls 6 [(0, rr G v0), (2, rr G v2), (3, rr G v3), (4, .int v4)] → W p l e (headSpec (wsO yX6_init cX6_init 6 none) { frames := 3, cells := (n2 - n), slots := (z2 - z), locals := 72 }).room s m [rr G u0, .int u1].toArray below meth c H locs (na - n) (za - z) (MQ below (Qcn G none f' n2) [rr G u0, .int u1].toArray s (n2 - n) (z2 - z) (WA G)) (F0 m 159 ls []) := by
    intro k159
    induction k159 with
    | zero => intro v0 v2 v3 v4 fa na za H locs ls hna hza hE _ _ _; cases (show (none : Option (Hp × Nat × Nat)) = some (f', n2, z2) from hE)
    | succ k159 ih159 =>
      have hC198 : ∀ (v0 : Option Nat) (v2 : Option Nat) (v3 : Option Nat) (v4 : Int32) (fa : Hp) (na za : Nat) (H : Heap) (locs : List Loc) (ls : Array Slot), n ≤ na → z ≤ za → m_X6_init_B198 F (m_X6_init_L159 F k159) v0 v2 v3 v4 fa na za = some (f', n2, z2) → Wd G fa na H → va_S (WA G) s.heap H locs → lv_has ls 6 [(0, rr G v0), (2, rr G v2), (3, rr G v3), (4, .int v4)] → W p l e (headSpec (wsO yX6_init cX6_init 6 none) { frames := 3, cells := (n2 - n), slots := (z2 - z), locals := 72 }).room s m [rr G u0, .int u1].toArray below meth c H locs (na - n) (za - z) (MQ below (Qcn G none f' n2) [rr G u0, .int u1].toArray s (n2 - n) (z2 - z) (WA G)) (F0 m 198 ls []) := by
        intro v0 v2 v3 v4 fa na za H locs ls hna hza hE hW hS hl
        refine s_aload_n hx hb dX6_init_198 rfl (lv_at hl 0 rfl) ?_
        obtain ⟨x17, hx17, hE⟩ := bd hE
        refine s_gR hx hb hT u_X6 hown hK hW hx17 rfl (by decide) fl_X6_34 rfl dX6_init_199 ?_
        refine lv_iload hx hb dX6_init_202 (lv_at hl 3 rfl) ?_
        refine s_aload_n hx hb dX6_init_204 rfl (lv_at hl 1 rfl) ?_
        obtain ⟨x18, hx18, hE⟩ := bd hE
        refine s_gI hx hb hT u_X1 hown hK hW hx18 rfl (by decide) fl_X6_64 rfl dX6_init_205 ?_
        obtain ⟨f19, hf19, hE⟩ := bd hE
        refine s_stI hx hb hK hW hS hf19 dX6_init_208 (fun H locs hW hS => ?_)
        refine s_aload_n hx hb dX6_init_209 rfl (lv_at hl 0 rfl) ?_
        obtain ⟨x20, hx20, hE⟩ := bd hE
        refine s_gR hx hb hT u_X6 hown hK hW hx20 rfl (by decide) fl_X6_38 rfl dX6_init_210 ?_
        refine lv_iload hx hb dX6_init_213 (lv_at hl 3 rfl) ?_
        refine s_aload_n hx hb dX6_init_215 rfl (lv_at hl 1 rfl) ?_
        obtain ⟨x21, hx21, hE⟩ := bd hE
        refine s_gI hx hb hT u_X1 hown hK hW hx21 rfl (by decide) fl_X6_66 rfl dX6_init_216 ?_
        obtain ⟨f22, hf22, hE⟩ := bd hE
        refine s_stI hx hb hK hW hS hf22 dX6_init_219 (fun H locs hW hS => ?_)
        refine s_aload_n hx hb dX6_init_220 rfl (lv_at hl 0 rfl) ?_
        refine lv_iload hx hb dX6_init_221 (lv_at hl 3 rfl) ?_
        refine s_aload_n hx hb dX6_init_223 rfl (lv_at hl 1 rfl) ?_
        obtain ⟨c23, hE⟩ := ck hE
        obtain ⟨g24a, g24b, hE⟩ := grow_of hE
        replace g24a : na ≤ n2 := g24a
        replace g24b : za ≤ z2 := g24b
        obtain ⟨f25, hf25, hE⟩ := bd hE
        refine s_callV (As := [.int v4, rr G v2]) (rest := []) CF hK hW hS (S_X6_putExchanges l G F hf25) c23 rfl gv_X6_68 hd_X6_putExchanges ⟨Nat.le_of_ble_eq_true rfl, Nat.le_of_ble_eq_true rfl⟩ rfl hl.1 rfl (Nat.le_of_ble_eq_true rfl) dX6_init_224 ⟨show na - n + 0 ≤ n2 - n by omega, show za - z + 0 ≤ z2 - z by omega⟩ (fun H locs hW hS => ?_)
        refine s_aload_n hx hb dX6_init_227 rfl (lv_at hl 2 rfl) ?_
        obtain ⟨g26a, g26b, hE⟩ := grow_of hE
        replace g26a : na ≤ n2 := g26a
        replace g26b : za ≤ z2 := g26b
        obtain ⟨f27, hf27, hE⟩ := bd hE
        refine s_callS (As := [rr G v3]) (rest := []) CF hK hW hS (S_X6_rise l G F hf27) gs_X6_72 hd_X6_rise.2 ⟨Nat.le_of_ble_eq_true rfl, Nat.le_of_ble_eq_true rfl⟩ rfl hl.1 rfl (Nat.le_of_ble_eq_true rfl) dX6_init_228 ⟨show na - n + 0 ≤ n2 - n by omega, show za - z + 0 ≤ z2 - z by omega⟩ (fun H locs hW hS => ?_)
        obtain ⟨y28, ey28⟩ : ∃ y : Int32, y = v4 + (1 : Int32) := ⟨_, rfl⟩
        replace hE := nm_o ey28 hE
        refine lv_iinc (k := 3) (v := y28) (lv' := [(4, .int y28), (0, rr G v0), (2, rr G v2), (3, rr G v3)]) hx hb dX6_init_231 hl rfl (by rw [ey28]; rfl) (by decide) (by simp [cat_rr]) (fun ls hl => ?_)
        refine lv_goto (tgt := 159) hx hb dX6_init_234 (by decide) ?_
        exact ih159 _ _ _ _ _ _ _ _ _ _ (by omega) (by omega) hE hW hS (lv_sub hl [1, 2, 3, 0] rfl)
      have hC175 : ∀ (k175 : Nat), ∀ (v0 : Option Nat) (v2 : Option Nat) (v3 : Option Nat) (v4 : Int32) (v5 : Int32) (fa : Hp) (na za : Nat) (H : Heap) (locs : List Loc) (ls : Array Slot), n ≤ na → z ≤ za → m_X6_init_L175 F (m_X6_init_L159 F k159) k175 v0 v2 v3 v4 v5 fa na za = some (f', n2, z2) → Wd G fa na H → va_S (WA G) s.heap H locs → lv_has ls 6 [(0, rr G v0), (2, rr G v2), (3, rr G v3), (4, .int v4), (5, .int v5)] → W p l e (headSpec (wsO yX6_init cX6_init 6 none) { frames := 3, cells := (n2 - n), slots := (z2 - z), locals := 72 }).room s m [rr G u0, .int u1].toArray below meth c H locs (na - n) (za - z) (MQ below (Qcn G none f' n2) [rr G u0, .int u1].toArray s (n2 - n) (z2 - z) (WA G)) (F0 m 175 ls []) := by
        intro k175
        induction k175 with
        | zero => intro v0 v2 v3 v4 v5 fa na za H locs ls hna hza hE _ _ _; cases (show (none : Option (Hp × Nat × Nat)) = some (f', n2, z2) from hE)
        | succ k175 ih175 =>
          intro v0 v2 v3 v4 v5 fa na za H locs ls hna hza hE hW hS hl
          replace hE : m_X6_init_b175 F (m_X6_init_L159 F k159) (m_X6_init_L175 F (m_X6_init_L159 F k159) k175) v0 v2 v3 v4 v5 fa na za = some (f', n2, z2) := hE
          refine lv_iload hx hb dX6_init_175 (lv_at hl 4 rfl) ?_
          refine s_aload_n hx hb dX6_init_177 rfl (lv_at hl 0 rfl) ?_
          obtain ⟨x10, hx10, hE⟩ := bd hE
          refine s_gI hx hb hT u_X6 hown hK hW hx10 rfl (by decide) fl_X6_18 rfl dX6_init_178 ?_
          refine lv_icmp_ge (tgt := 198) hx hb dX6_init_181 (by decide) (fun q11 => ?_) (fun q11 => ?_)
          · replace hE := ite_t q11 hE
            exact hC198 _ _ _ _ _ _ _ _ _ _ (by omega) (by omega) hE hW hS (lv_sub hl [0, 1, 2, 3] rfl)
          · replace hE := ite_f q11 hE
            refine s_aload_n hx hb dX6_init_184 rfl (lv_at hl 1 rfl) ?_
            refine s_aload_n hx hb dX6_init_185 rfl (lv_at hl 2 rfl) ?_
            refine lv_iload hx hb dX6_init_186 (lv_at hl 4 rfl) ?_
            obtain ⟨x12, hx12, hE⟩ := bd hE
            refine s_ldI hx hb hK hW hS hx12 dX6_init_188 ?_
            obtain ⟨c13, hE⟩ := ck hE
            obtain ⟨g14a, g14b, hE⟩ := grow_of hE
            replace g14a : na ≤ n2 := g14a
            replace g14b : za ≤ z2 := g14b
            obtain ⟨f15, hf15, hE⟩ := bd hE
            refine s_callV (As := [.int x12]) (rest := []) CF hK hW hS (S_X1_append l G F hf15) c13 rfl gv_X6_60 hd_X1_append ⟨Nat.le_of_ble_eq_true rfl, Nat.le_of_ble_eq_true rfl⟩ rfl hl.1 rfl (Nat.le_of_ble_eq_true rfl) dX6_init_189 ⟨show na - n + 0 ≤ n2 - n by omega, show za - z + 0 ≤ z2 - z by omega⟩ (fun H locs hW hS => ?_)
            obtain ⟨y16, ey16⟩ : ∃ y : Int32, y = v5 + (1 : Int32) := ⟨_, rfl⟩
            replace hE := nm_o ey16 hE
            refine lv_iinc (k := 4) (v := y16) (lv' := [(5, .int y16), (0, rr G v0), (2, rr G v2), (3, rr G v3), (4, .int v4)]) hx hb dX6_init_192 hl rfl (by rw [ey16]; rfl) (by decide) rfl (fun ls hl => ?_)
            refine lv_goto (tgt := 175) hx hb dX6_init_195 (by decide) ?_
            exact ih175 _ _ _ _ _ _ _ _ _ _ _ (by omega) (by omega) hE hW hS (lv_sub hl [1, 2, 3, 4, 0] rfl)
      intro v0 v2 v3 v4 fa na za H locs ls hna hza hE hW hS hl
      replace hE : m_X6_init_b159 F (m_X6_init_L159 F k159) v0 v2 v3 v4 fa na za = some (f', n2, z2) := hE
      refine lv_iload hx hb dX6_init_159 (lv_at hl 3 rfl) ?_
      refine s_aload_n hx hb dX6_init_161 rfl (lv_at hl 0 rfl) ?_
      obtain ⟨x5, hx5, hE⟩ := bd hE
      refine s_gI hx hb hT u_X6 hown hK hW hx5 rfl (by decide) fl_X6_28 rfl dX6_init_162 ?_
      refine lv_icmp_ge (tgt := 237) hx hb dX6_init_165 (by decide) (fun q6 => ?_) (fun q6 => ?_)
      · replace hE := ite_t q6 hE
        obtain ⟨rfl, rfl, rfl⟩ := so3 hE
        exact s_vret hx hb hr hlocks hW hS dX6_init_237
      · replace hE := ite_f q6 hE
        refine s_aload_n hx hb dX6_init_168 rfl (lv_at hl 1 rfl) ?_
        obtain ⟨c7, hE⟩ := ck hE
        obtain ⟨g8a, g8b, hE⟩ := grow_of hE
        replace g8a : na ≤ n2 := g8a
        replace g8b : za ≤ z2 := g8b
        obtain ⟨f9, hf9, hE⟩ := bd hE
        refine s_callV (As := []) (rest := []) CF hK hW hS (S_X1_clear l G F hf9) c7 rfl gv_X6_57 hd_X1_clear ⟨Nat.le_of_ble_eq_true rfl, Nat.le_of_ble_eq_true rfl⟩ rfl hl.1 rfl (Nat.le_of_ble_eq_true rfl) dX6_init_169 ⟨show na - n + 0 ≤ n2 - n by omega, show za - z + 0 ≤ z2 - z by omega⟩ (fun H locs hW hS => ?_)
        refine lv_iconst (v := (0 : Int32)) hx hb dX6_init_172 (by decide) ?_
        refine lv_istore (lv' := [(5, .int (0 : Int32)), (0, rr G v0), (2, rr G v2), (3, rr G v3), (4, .int v4)]) hx hb dX6_init_173 hl (by decide) rfl (fun ls hl => ?_)
        exact hC175 F _ _ _ _ _ _ _ _ _ _ _ (by omega) (by omega) hE hW hS (lv_sub hl [1, 2, 3, 4, 0] rfl)
  have hC135 : ∀ (k135 : Nat), ∀ (v0 : Option Nat) (v2 : Option Nat) (v3 : Option Nat) (v4 : Int32) (fa : Hp) (na za : Nat) (H : Heap) (locs : List Loc) (ls : Array Slot), n ≤ na → z ≤ za → m_X6_init_L135 F k135 v0 v2 v3 v4 fa na za = some (f', n2, z2) → Wd G fa na H → va_S (WA G) s.heap H locs → lv_has ls 6 [(0, rr G v0), (2, rr G v2), (3, rr G v3), (4, .int v4)] → W p l e (headSpec (wsO yX6_init cX6_init 6 none) { frames := 3, cells := (n2 - n), slots := (z2 - z), locals := 72 }).room s m [rr G u0, .int u1].toArray below meth c H locs (na - n) (za - z) (MQ below (Qcn G none f' n2) [rr G u0, .int u1].toArray s (n2 - n) (z2 - z) (WA G)) (F0 m 135 ls []) := by
    intro k135
    induction k135 with
    | zero => intro v0 v2 v3 v4 fa na za H locs ls hna hza hE _ _ _; cases (show (none : Option (Hp × Nat × Nat)) = some (f', n2, z2) from hE)
    | succ k135 ih135 =>
      intro v0 v2 v3 v4 fa na za H locs ls hna hza hE hW hS hl
      replace hE : m_X6_init_b135 F (m_X6_init_L135 F k135) v0 v2 v3 v4 fa na za = some (f', n2, z2) := hE
      refine lv_iload hx hb dX6_init_135 (lv_at hl 3 rfl) ?_
      refine s_aload_n hx hb dX6_init_137 rfl (lv_at hl 0 rfl) ?_
      obtain ⟨x1, hx1, hE⟩ := bd hE
      refine s_gI hx hb hT u_X6 hown hK hW hx1 rfl (by decide) fl_X6_18 rfl dX6_init_138 ?_
      refine lv_icmp_ge (tgt := 156) hx hb dX6_init_141 (by decide) (fun q2 => ?_) (fun q2 => ?_)
      · replace hE := ite_t q2 hE
        refine lv_iconst (v := (0 : Int32)) hx hb dX6_init_156 (by decide) ?_
        refine lv_istore (lv' := [(4, .int (0 : Int32)), (0, rr G v0), (2, rr G v2), (3, rr G v3)]) hx hb dX6_init_157 hl (by decide) (by simp [cat_rr]) (fun ls hl => ?_)
        exact hC159 F _ _ _ _ _ _ _ _ _ _ (by omega) (by omega) hE hW hS (lv_sub hl [1, 2, 3, 0] rfl)
      · replace hE := ite_f q2 hE
        refine s_aload_n hx hb dX6_init_144 rfl (lv_at hl 2 rfl) ?_
        refine lv_iload hx hb dX6_init_145 (lv_at hl 3 rfl) ?_
        refine lv_iload hx hb dX6_init_147 (lv_at hl 3 rfl) ?_
        obtain ⟨f3, hf3, hE⟩ := bd hE
        refine s_stI hx hb hK hW hS hf3 dX6_init_149 (fun H locs hW hS => ?_)
        obtain ⟨y4, ey4⟩ : ∃ y : Int32, y = v4 + (1 : Int32) := ⟨_, rfl⟩
        replace hE := nm_o ey4 hE
        refine lv_iinc (k := 3) (v := y4) (lv' := [(4, .int y4), (0, rr G v0), (2, rr G v2), (3, rr G v3)]) hx hb dX6_init_150 hl rfl (by rw [ey4]; rfl) (by decide) (by simp [cat_rr]) (fun ls hl => ?_)
        refine lv_goto (tgt := 135) hx hb dX6_init_153 (by decide) ?_
        exact ih135 _ _ _ _ _ _ _ _ _ _ (by omega) (by omega) hE hW hS (lv_sub hl [1, 2, 3, 0] rfl)
  refine W.cs (cells' := n - n) (slots' := z - z) (by omega) (by omega) ?_
  refine s_aload_n hx hb dX6_init_0 rfl (lv_at hl 0 rfl) ?_
  obtain ⟨c29, hE⟩ := ck hE
  refine s_obj hx hb hml hl.1 hown hT ob_X6_3 ob_im ob_cd c29 (Nat.le_of_ble_eq_true rfl) (Nat.le_of_ble_eq_true rfl) (Nat.le_of_ble_eq_true rfl) dX6_init_1 ?_
  refine s_aload_n hx hb dX6_init_4 rfl (lv_at hl 0 rfl) ?_
  refine lv_iconst (v := (2 : Int32)) hx hb dX6_init_5 (by decide) ?_
  refine lv_bipush (v := (7 : Int32)) hx hb dX6_init_6 (by decide) ?_
  refine lv_iload_n hx hb dX6_init_8 rfl (lv_at hl 1 rfl) ?_
  obtain ⟨g30a, g30b, hE⟩ := grow_of hE
  replace g30a : n ≤ n2 := g30a
  replace g30b : z ≤ z2 := g30b
  refine s_min hx hb (by rw [hml]; exact hl.1.symm) hT hown mx_X6_9 (Nat.le_of_ble_eq_true rfl) (Nat.le_of_ble_eq_true rfl) (Nat.le_of_ble_eq_true rfl) (show n - n ≤ n2 - n by omega) (show z - z ≤ z2 - z by omega) dX6_init_9 ?_
  obtain ⟨g31a, g31b, hE⟩ := grow_of hE
  replace g31a : n ≤ n2 := g31a
  replace g31b : z ≤ z2 := g31b
  refine s_max hx hb (by rw [hml]; exact hl.1.symm) hT hown mx_X6_15 (Nat.le_of_ble_eq_true rfl) (Nat.le_of_ble_eq_true rfl) (Nat.le_of_ble_eq_true rfl) (show n - n ≤ n2 - n by omega) (show z - z ≤ z2 - z by omega) dX6_init_12 ?_
  obtain ⟨f32, hf32, hE⟩ := bd hE
  refine s_putI hx hb hT u_X6 tyX6 tyX6_ok nmX6 hown hK hW hS hf32 rfl (by decide) fl_X6_18 rfl (Or.inr ⟨rfl, hin, rfl⟩) rfl dX6_init_15 (fun H locs hW hS => ?_)
  refine s_aload_n hx hb dX6_init_18 rfl (lv_at hl 0 rfl) ?_
  refine s_aload_n hx hb dX6_init_19 rfl (lv_at hl 0 rfl) ?_
  obtain ⟨x33, hx33, hE⟩ := bd hE
  refine s_gI hx hb hT u_X6 hown hK hW hx33 rfl (by decide) fl_X6_18 rfl dX6_init_20 ?_
  obtain ⟨g34a, g34b, hE⟩ := grow_of hE
  replace g34a : n ≤ n2 := g34a
  replace g34b : z ≤ z2 := g34b
  obtain ⟨x35, hx35, hE⟩ := bd hE
  refine s_callSN (As := [.int x33]) (rest := [rr G u0]) CF hK hW hS (S_X11_factorial l G F hx35) go_X11_factorial nm_X6_24 ini_CopyOrders stt_X11_factorial hd_X11_factorial.2 ⟨Nat.le_of_ble_eq_true rfl, Nat.le_of_ble_eq_true rfl⟩ rfl hl.1 rfl (Nat.le_of_ble_eq_true rfl) dX6_init_23 ⟨show n - n + 0 ≤ n2 - n by omega, show z - z + 0 ≤ z2 - z by omega⟩ (fun H locs hW hS => ?_)
  obtain ⟨f36, hf36, hE⟩ := bd hE
  refine s_putI hx hb hT u_X6 tyX6 tyX6_ok nmX6 hown hK hW hS hf36 rfl (by decide) fl_X6_28 rfl (Or.inr ⟨rfl, hin, rfl⟩) rfl dX6_init_26 (fun H locs hW hS => ?_)
  refine s_aload_n hx hb dX6_init_29 rfl (lv_at hl 0 rfl) ?_
  refine lv_iconst (v := (1 : Int32)) hx hb dX6_init_30 (by decide) ?_
  refine s_aload_n hx hb dX6_init_31 rfl (lv_at hl 0 rfl) ?_
  obtain ⟨x37, hx37, hE⟩ := bd hE
  refine s_gI hx hb hT u_X6 hown hK hW hx37 rfl (by decide) fl_X6_18 rfl dX6_init_32 ?_
  refine s_aload_n hx hb dX6_init_35 rfl (lv_at hl 0 rfl) ?_
  obtain ⟨x38, hx38, hE⟩ := bd hE
  refine s_gI hx hb hT u_X6 hown hK hW hx38 rfl (by decide) fl_X6_18 rfl dX6_init_36 ?_
  refine lv_iconst (v := (1 : Int32)) hx hb dX6_init_39 (by decide) ?_
  refine lv_isub hx hb dX6_init_40 ?_
  refine lv_imul hx hb dX6_init_41 ?_
  refine lv_iconst (v := (2 : Int32)) hx hb dX6_init_42 (by decide) ?_
  obtain ⟨c39, hE⟩ := ck hE
  refine lv_idiv hx hb dX6_init_43 (of_decide_eq_true c39) ?_
  refine lv_ishl hx hb dX6_init_44 ?_
  refine lv_iconst (v := (1 : Int32)) hx hb dX6_init_45 (by decide) ?_
  refine lv_isub hx hb dX6_init_46 ?_
  obtain ⟨f40, hf40, hE⟩ := bd hE
  refine s_putI hx hb hT u_X6 tyX6 tyX6_ok nmX6 hown hK hW hS hf40 rfl (by decide) fl_X6_31 rfl (Or.inr ⟨rfl, hin, rfl⟩) rfl dX6_init_47 (fun H locs hW hS => ?_)
  refine s_aload_n hx hb dX6_init_50 rfl (lv_at hl 0 rfl) ?_
  refine s_aload_n hx hb dX6_init_51 rfl (lv_at hl 0 rfl) ?_
  obtain ⟨x41, hx41, hE⟩ := bd hE
  refine s_gI hx hb hT u_X6 hown hK hW hx41 rfl (by decide) fl_X6_28 rfl dX6_init_52 ?_
  obtain ⟨c42, hE⟩ := ck hE
  replace c42 := of_decide_eq_true c42
  obtain ⟨g43a, g43b, hE⟩ := grow_of hE
  replace g43a : n + 1 ≤ n2 := g43a
  replace g43b : z + Int32.toNatClampNeg x41 ≤ z2 := g43b
  obtain ⟨f44, ef44⟩ : ∃ y : Hp, y = va_up f40 (n) (some (.inr (1, Int32.toNatClampNeg x41, .inl fun _ => 0))) := ⟨_, rfl⟩
  replace hE := nm_o ef44 hE
  refine s_newA (t := 1) (x := .inl fun _ => 0) hx hb rfl (by decide) (hT _ ac_int) (fun h => h) hK hW hS (fun _ => rfl) c42.1 (Nat.le_trans (Nat.mul_le_mul_right _ c42.2) (by decide)) (show n - n + 1 ≤ n2 - n by omega) (show z - z + Int32.toNatClampNeg x41 ≤ z2 - z by omega) dX6_init_55 (fun H hW hS => ?_)
  rw [← ef44] at hW
  refine W.cs (cells' := n + 1 - n) (slots' := z + Int32.toNatClampNeg x41 - z) (by omega) (by omega) ?_
  obtain ⟨f45, hf45, hE⟩ := bd hE
  refine s_putR hx hb hT u_X6 tyX6 tyX6_ok nmX6 hown hK hW hS hf45 rfl (by decide) fl_X6_34 rfl (Or.inr ⟨rfl, hin, rfl⟩) rfl fit_a dX6_init_57 (fun H locs hW hS => ?_)
  refine s_aload_n hx hb dX6_init_60 rfl (lv_at hl 0 rfl) ?_
  refine s_aload_n hx hb dX6_init_61 rfl (lv_at hl 0 rfl) ?_
  obtain ⟨x46, hx46, hE⟩ := bd hE
  refine s_gI hx hb hT u_X6 hown hK hW hx46 rfl (by decide) fl_X6_28 rfl dX6_init_62 ?_
  obtain ⟨c47, hE⟩ := ck hE
  replace c47 := of_decide_eq_true c47
  obtain ⟨g48a, g48b, hE⟩ := grow_of hE
  replace g48a : n + 1 + 1 ≤ n2 := g48a
  replace g48b : z + Int32.toNatClampNeg x41 + Int32.toNatClampNeg x46 ≤ z2 := g48b
  obtain ⟨f49, ef49⟩ : ∃ y : Hp, y = va_up f45 (n + 1) (some (.inr (1, Int32.toNatClampNeg x46, .inl fun _ => 0))) := ⟨_, rfl⟩
  replace hE := nm_o ef49 hE
  refine s_newA (t := 1) (x := .inl fun _ => 0) hx hb rfl (by decide) (hT _ ac_int) (fun h => h) hK hW hS (fun _ => rfl) c47.1 (Nat.le_trans (Nat.mul_le_mul_right _ c47.2) (by decide)) (show n + 1 - n + 1 ≤ n2 - n by omega) (show z + Int32.toNatClampNeg x41 - z + Int32.toNatClampNeg x46 ≤ z2 - z by omega) dX6_init_65 (fun H hW hS => ?_)
  rw [← ef49] at hW
  refine W.cs (cells' := n + 1 + 1 - n) (slots' := z + Int32.toNatClampNeg x41 + Int32.toNatClampNeg x46 - z) (by omega) (by omega) ?_
  obtain ⟨f50, hf50, hE⟩ := bd hE
  refine s_putR hx hb hT u_X6 tyX6 tyX6_ok nmX6 hown hK hW hS hf50 rfl (by decide) fl_X6_38 rfl (Or.inr ⟨rfl, hin, rfl⟩) rfl fit_a dX6_init_67 (fun H locs hW hS => ?_)
  refine s_aload_n hx hb dX6_init_70 rfl (lv_at hl 0 rfl) ?_
  refine s_aload_n hx hb dX6_init_71 rfl (lv_at hl 0 rfl) ?_
  obtain ⟨x51, hx51, hE⟩ := bd hE
  refine s_gI hx hb hT u_X6 hown hK hW hx51 rfl (by decide) fl_X6_28 rfl dX6_init_72 ?_
  refine s_aload_n hx hb dX6_init_75 rfl (lv_at hl 0 rfl) ?_
  obtain ⟨x52, hx52, hE⟩ := bd hE
  refine s_gI hx hb hT u_X6 hown hK hW hx52 rfl (by decide) fl_X6_18 rfl dX6_init_76 ?_
  refine lv_iconst (v := (1 : Int32)) hx hb dX6_init_79 (by decide) ?_
  refine lv_isub hx hb dX6_init_80 ?_
  refine lv_imul hx hb dX6_init_81 ?_
  obtain ⟨c53, hE⟩ := ck hE
  replace c53 := of_decide_eq_true c53
  obtain ⟨g54a, g54b, hE⟩ := grow_of hE
  replace g54a : n + 1 + 1 + 1 ≤ n2 := g54a
  replace g54b : z + Int32.toNatClampNeg x41 + Int32.toNatClampNeg x46 + Int32.toNatClampNeg (x51 * (x52 - (1 : Int32))) ≤ z2 := g54b
  obtain ⟨f55, ef55⟩ : ∃ y : Hp, y = va_up f50 (n + 1 + 1) (some (.inr (1, Int32.toNatClampNeg (x51 * (x52 - (1 : Int32))), .inl fun _ => 0))) := ⟨_, rfl⟩
  replace hE := nm_o ef55 hE
  refine s_newA (t := 1) (x := .inl fun _ => 0) hx hb rfl (by decide) (hT _ ac_int) (fun h => h) hK hW hS (fun _ => rfl) c53.1 (Nat.le_trans (Nat.mul_le_mul_right _ c53.2) (by decide)) (show n + 1 + 1 - n + 1 ≤ n2 - n by omega) (show z + Int32.toNatClampNeg x41 + Int32.toNatClampNeg x46 - z + Int32.toNatClampNeg (x51 * (x52 - (1 : Int32))) ≤ z2 - z by omega) dX6_init_82 (fun H hW hS => ?_)
  rw [← ef55] at hW
  refine W.cs (cells' := n + 1 + 1 + 1 - n) (slots' := z + Int32.toNatClampNeg x41 + Int32.toNatClampNeg x46 + Int32.toNatClampNeg (x51 * (x52 - (1 : Int32))) - z) (by omega) (by omega) ?_
  obtain ⟨f56, hf56, hE⟩ := bd hE
  refine s_putR hx hb hT u_X6 tyX6 tyX6_ok nmX6 hown hK hW hS hf56 rfl (by decide) fl_X6_41 rfl (Or.inr ⟨rfl, hin, rfl⟩) rfl fit_a dX6_init_84 (fun H locs hW hS => ?_)
  refine s_aload_n hx hb dX6_init_87 rfl (lv_at hl 0 rfl) ?_
  refine s_aload_n hx hb dX6_init_88 rfl (lv_at hl 0 rfl) ?_
  obtain ⟨x57, hx57, hE⟩ := bd hE
  refine s_gI hx hb hT u_X6 hown hK hW hx57 rfl (by decide) fl_X6_28 rfl dX6_init_89 ?_
  obtain ⟨c58, hE⟩ := ck hE
  replace c58 := of_decide_eq_true c58
  obtain ⟨g59a, g59b, hE⟩ := grow_of hE
  replace g59a : n + 1 + 1 + 1 + 1 ≤ n2 := g59a
  replace g59b : z + Int32.toNatClampNeg x41 + Int32.toNatClampNeg x46 + Int32.toNatClampNeg (x51 * (x52 - (1 : Int32))) + Int32.toNatClampNeg x57 ≤ z2 := g59b
  obtain ⟨f60, ef60⟩ : ∃ y : Hp, y = va_up f56 (n + 1 + 1 + 1) (some (.inr (2, Int32.toNatClampNeg x57, .inr (.inl fun _ => 0)))) := ⟨_, rfl⟩
  replace hE := nm_o ef60 hE
  refine s_newA (t := 2) (x := .inr (.inl fun _ => 0)) hx hb rfl (by decide) (hT _ ac_long) (fun h => h) hK hW hS (fun _ => rfl) c58.1 (Nat.le_trans (Nat.mul_le_mul_right _ c58.2) (by decide)) (show n + 1 + 1 + 1 - n + 1 ≤ n2 - n by omega) (show z + Int32.toNatClampNeg x41 + Int32.toNatClampNeg x46 + Int32.toNatClampNeg (x51 * (x52 - (1 : Int32))) - z + Int32.toNatClampNeg x57 ≤ z2 - z by omega) dX6_init_92 (fun H hW hS => ?_)
  rw [← ef60] at hW
  refine W.cs (cells' := n + 1 + 1 + 1 + 1 - n) (slots' := z + Int32.toNatClampNeg x41 + Int32.toNatClampNeg x46 + Int32.toNatClampNeg (x51 * (x52 - (1 : Int32))) + Int32.toNatClampNeg x57 - z) (by omega) (by omega) ?_
  obtain ⟨f61, hf61, hE⟩ := bd hE
  refine s_putR hx hb hT u_X6 tyX6 tyX6_ok nmX6 hown hK hW hS hf61 rfl (by decide) fl_X6_44 rfl (Or.inl rfl) rfl fit_a dX6_init_94 (fun H locs hW hS => ?_)
  refine s_aload_n hx hb dX6_init_97 rfl (lv_at hl 0 rfl) ?_
  refine s_aload_n hx hb dX6_init_98 rfl (lv_at hl 0 rfl) ?_
  obtain ⟨x62, hx62, hE⟩ := bd hE
  refine s_gI hx hb hT u_X6 hown hK hW hx62 rfl (by decide) fl_X6_28 rfl dX6_init_99 ?_
  obtain ⟨c63, hE⟩ := ck hE
  replace c63 := of_decide_eq_true c63
  obtain ⟨g64a, g64b, hE⟩ := grow_of hE
  replace g64a : n + 1 + 1 + 1 + 1 + 1 ≤ n2 := g64a
  replace g64b : z + Int32.toNatClampNeg x41 + Int32.toNatClampNeg x46 + Int32.toNatClampNeg (x51 * (x52 - (1 : Int32))) + Int32.toNatClampNeg x57 + Int32.toNatClampNeg x62 ≤ z2 := g64b
  obtain ⟨f65, ef65⟩ : ∃ y : Hp, y = va_up f61 (n + 1 + 1 + 1 + 1) (some (.inr (2, Int32.toNatClampNeg x62, .inr (.inl fun _ => 0)))) := ⟨_, rfl⟩
  replace hE := nm_o ef65 hE
  refine s_newA (t := 2) (x := .inr (.inl fun _ => 0)) hx hb rfl (by decide) (hT _ ac_long) (fun h => h) hK hW hS (fun _ => rfl) c63.1 (Nat.le_trans (Nat.mul_le_mul_right _ c63.2) (by decide)) (show n + 1 + 1 + 1 + 1 - n + 1 ≤ n2 - n by omega) (show z + Int32.toNatClampNeg x41 + Int32.toNatClampNeg x46 + Int32.toNatClampNeg (x51 * (x52 - (1 : Int32))) + Int32.toNatClampNeg x57 - z + Int32.toNatClampNeg x62 ≤ z2 - z by omega) dX6_init_102 (fun H hW hS => ?_)
  rw [← ef65] at hW
  refine W.cs (cells' := n + 1 + 1 + 1 + 1 + 1 - n) (slots' := z + Int32.toNatClampNeg x41 + Int32.toNatClampNeg x46 + Int32.toNatClampNeg (x51 * (x52 - (1 : Int32))) + Int32.toNatClampNeg x57 + Int32.toNatClampNeg x62 - z) (by omega) (by omega) ?_
  obtain ⟨f66, hf66, hE⟩ := bd hE
  refine s_putR hx hb hT u_X6 tyX6 tyX6_ok nmX6 hown hK hW hS hf66 rfl (by decide) fl_X6_48 rfl (Or.inl rfl) rfl fit_a dX6_init_104 (fun H locs hW hS => ?_)
  refine s_aload_n hx hb dX6_init_107 rfl (lv_at hl 0 rfl) ?_
  refine s_aload_n hx hb dX6_init_108 rfl (lv_at hl 0 rfl) ?_
  obtain ⟨x67, hx67, hE⟩ := bd hE
  refine s_gI hx hb hT u_X6 hown hK hW hx67 rfl (by decide) fl_X6_28 rfl dX6_init_109 ?_
  obtain ⟨c68, hE⟩ := ck hE
  replace c68 := of_decide_eq_true c68
  obtain ⟨g69a, g69b, hE⟩ := grow_of hE
  replace g69a : n + 1 + 1 + 1 + 1 + 1 + 1 ≤ n2 := g69a
  replace g69b : z + Int32.toNatClampNeg x41 + Int32.toNatClampNeg x46 + Int32.toNatClampNeg (x51 * (x52 - (1 : Int32))) + Int32.toNatClampNeg x57 + Int32.toNatClampNeg x62 + Int32.toNatClampNeg x67 ≤ z2 := g69b
  obtain ⟨f70, ef70⟩ : ∃ y : Hp, y = va_up f66 (n + 1 + 1 + 1 + 1 + 1) (some (.inr (2, Int32.toNatClampNeg x67, .inr (.inl fun _ => 0)))) := ⟨_, rfl⟩
  replace hE := nm_o ef70 hE
  refine s_newA (t := 2) (x := .inr (.inl fun _ => 0)) hx hb rfl (by decide) (hT _ ac_long) (fun h => h) hK hW hS (fun _ => rfl) c68.1 (Nat.le_trans (Nat.mul_le_mul_right _ c68.2) (by decide)) (show n + 1 + 1 + 1 + 1 + 1 - n + 1 ≤ n2 - n by omega) (show z + Int32.toNatClampNeg x41 + Int32.toNatClampNeg x46 + Int32.toNatClampNeg (x51 * (x52 - (1 : Int32))) + Int32.toNatClampNeg x57 + Int32.toNatClampNeg x62 - z + Int32.toNatClampNeg x67 ≤ z2 - z by omega) dX6_init_112 (fun H hW hS => ?_)
  rw [← ef70] at hW
  refine W.cs (cells' := n + 1 + 1 + 1 + 1 + 1 + 1 - n) (slots' := z + Int32.toNatClampNeg x41 + Int32.toNatClampNeg x46 + Int32.toNatClampNeg (x51 * (x52 - (1 : Int32))) + Int32.toNatClampNeg x57 + Int32.toNatClampNeg x62 + Int32.toNatClampNeg x67 - z) (by omega) (by omega) ?_
  obtain ⟨f71, hf71, hE⟩ := bd hE
  refine s_putR hx hb hT u_X6 tyX6 tyX6_ok nmX6 hown hK hW hS hf71 rfl (by decide) fl_X6_51 rfl (Or.inr ⟨rfl, hin, rfl⟩) rfl fit_a dX6_init_114 (fun H locs hW hS => ?_)
  obtain ⟨g72a, g72b, hE⟩ := grow_of hE
  replace g72a : n + 1 + 1 + 1 + 1 + 1 + 1 + 1 ≤ n2 := g72a
  replace g72b : z + Int32.toNatClampNeg x41 + Int32.toNatClampNeg x46 + Int32.toNatClampNeg (x51 * (x52 - (1 : Int32))) + Int32.toNatClampNeg x57 + Int32.toNatClampNeg x62 + Int32.toNatClampNeg x67 + 6 ≤ z2 := g72b
  obtain ⟨f73, ef73⟩ : ∃ y : Hp, y = va_up f71 (n + 1 + 1 + 1 + 1 + 1 + 1) (some (.inl (0, [.long 0, .int 0, .int 0, .int 0, .int 0, .int 0]))) := ⟨_, rfl⟩
  replace hE := nm_o ef73 hE
  refine s_new (ci := 0) (fs := [.long 0, .int 0, .int 0, .int 0, .int 0, .int 0]) hx hb hT u_X1 tyX1 tyX1_ok hown cl_X6_54 ist_X1 ini_CopyOrders_Copy hK hW hS rfl (fun j hj => by match j, hj with | 0, _ => rfl | 1, _ => rfl | 2, _ => rfl | 3, _ => rfl | 4, _ => rfl | 5, _ => rfl) rfl (show n + 1 + 1 + 1 + 1 + 1 + 1 - n + 1 ≤ n2 - n by omega) (show z + Int32.toNatClampNeg x41 + Int32.toNatClampNeg x46 + Int32.toNatClampNeg (x51 * (x52 - (1 : Int32))) + Int32.toNatClampNeg x57 + Int32.toNatClampNeg x62 + Int32.toNatClampNeg x67 - z + 6 ≤ z2 - z by omega) dX6_init_117 (fun H hW hS => ?_)
  rw [← ef73] at hW
  refine W.cs (cells' := n + 1 + 1 + 1 + 1 + 1 + 1 + 1 - n) (slots' := z + Int32.toNatClampNeg x41 + Int32.toNatClampNeg x46 + Int32.toNatClampNeg (x51 * (x52 - (1 : Int32))) + Int32.toNatClampNeg x57 + Int32.toNatClampNeg x62 + Int32.toNatClampNeg x67 + 6 - z) (by omega) (by omega) ?_
  refine lv_dup hx hb dX6_init_120 (cat_rr G _) ?_
  obtain ⟨g74a, g74b, hE⟩ := grow_of hE
  replace g74a : n + 1 + 1 + 1 + 1 + 1 + 1 + 1 ≤ n2 := g74a
  replace g74b : z + Int32.toNatClampNeg x41 + Int32.toNatClampNeg x46 + Int32.toNatClampNeg (x51 * (x52 - (1 : Int32))) + Int32.toNatClampNeg x57 + Int32.toNatClampNeg x62 + Int32.toNatClampNeg x67 + 6 ≤ z2 := g74b
  obtain ⟨f75, hf75, hE⟩ := bd hE
  refine s_callIN (As := []) (rest := [rr G (some (n + 1 + 1 + 1 + 1 + 1 + 1))]) CF hK hW hS (S_X1_init l G F hf75) go_X1_init nm_X6_56 ini_CopyOrders_Copy im_X1_init rfl hd_X1_init.2 ⟨Nat.le_of_ble_eq_true rfl, Nat.le_of_ble_eq_true rfl⟩ rfl hl.1 rfl (Nat.le_of_ble_eq_true rfl) dX6_init_121 ⟨show n + 1 + 1 + 1 + 1 + 1 + 1 + 1 - n + 0 ≤ n2 - n by omega, show z + Int32.toNatClampNeg x41 + Int32.toNatClampNeg x46 + Int32.toNatClampNeg (x51 * (x52 - (1 : Int32))) + Int32.toNatClampNeg x57 + Int32.toNatClampNeg x62 + Int32.toNatClampNeg x67 + 6 - z + 0 ≤ z2 - z by omega⟩ (fun H locs hW hS => ?_)
  refine s_astore_n (i := 2) (lv' := [(2, rr G (some (n + 1 + 1 + 1 + 1 + 1 + 1))), (0, rr G u0), (1, .int u1)]) hx hb dX6_init_124 rfl hl (by decide) rfl (fun ls hl => ?_)
  refine s_aload_n hx hb dX6_init_125 rfl (lv_at hl 1 rfl) ?_
  obtain ⟨x76, hx76, hE⟩ := bd hE
  refine s_gI hx hb hT u_X6 hown hK hW hx76 rfl (by decide) fl_X6_18 rfl dX6_init_126 ?_
  obtain ⟨c77, hE⟩ := ck hE
  replace c77 := of_decide_eq_true c77
  obtain ⟨g78a, g78b, hE⟩ := grow_of hE
  replace g78a : n + 1 + 1 + 1 + 1 + 1 + 1 + 1 + 1 ≤ n2 := g78a
  replace g78b : z + Int32.toNatClampNeg x41 + Int32.toNatClampNeg x46 + Int32.toNatClampNeg (x51 * (x52 - (1 : Int32))) + Int32.toNatClampNeg x57 + Int32.toNatClampNeg x62 + Int32.toNatClampNeg x67 + 6 + Int32.toNatClampNeg x76 ≤ z2 := g78b
  obtain ⟨f79, ef79⟩ : ∃ y : Hp, y = va_up f75 (n + 1 + 1 + 1 + 1 + 1 + 1 + 1) (some (.inr (1, Int32.toNatClampNeg x76, .inl fun _ => 0))) := ⟨_, rfl⟩
  replace hE := nm_o ef79 hE
  refine s_newA (t := 1) (x := .inl fun _ => 0) hx hb rfl (by decide) (hT _ ac_int) (fun h => h) hK hW hS (fun _ => rfl) c77.1 (Nat.le_trans (Nat.mul_le_mul_right _ c77.2) (by decide)) (show n + 1 + 1 + 1 + 1 + 1 + 1 + 1 - n + 1 ≤ n2 - n by omega) (show z + Int32.toNatClampNeg x41 + Int32.toNatClampNeg x46 + Int32.toNatClampNeg (x51 * (x52 - (1 : Int32))) + Int32.toNatClampNeg x57 + Int32.toNatClampNeg x62 + Int32.toNatClampNeg x67 + 6 - z + Int32.toNatClampNeg x76 ≤ z2 - z by omega) dX6_init_129 (fun H hW hS => ?_)
  rw [← ef79] at hW
  refine W.cs (cells' := n + 1 + 1 + 1 + 1 + 1 + 1 + 1 + 1 - n) (slots' := z + Int32.toNatClampNeg x41 + Int32.toNatClampNeg x46 + Int32.toNatClampNeg (x51 * (x52 - (1 : Int32))) + Int32.toNatClampNeg x57 + Int32.toNatClampNeg x62 + Int32.toNatClampNeg x67 + 6 + Int32.toNatClampNeg x76 - z) (by omega) (by omega) ?_
  refine s_astore_n (i := 3) (lv' := [(3, rr G (some (n + 1 + 1 + 1 + 1 + 1 + 1 + 1))), (2, rr G (some (n + 1 + 1 + 1 + 1 + 1 + 1))), (0, rr G u0), (1, .int u1)]) hx hb dX6_init_131 rfl hl (by decide) (by simp [cat_rr]) (fun ls hl => ?_)
  refine lv_iconst (v := (0 : Int32)) hx hb dX6_init_132 (by decide) ?_
  refine lv_istore (lv' := [(4, .int (0 : Int32)), (3, rr G (some (n + 1 + 1 + 1 + 1 + 1 + 1 + 1))), (2, rr G (some (n + 1 + 1 + 1 + 1 + 1 + 1))), (0, rr G u0), (1, .int u1)]) hx hb dX6_init_133 hl (by decide) (by simp [cat_rr]) (fun ls hl => ?_)
  exact hC135 F _ _ _ _ _ _ _ _ _ _ (by omega) (by omega) hE hW hS (lv_sub hl [3, 2, 1, 0] rfl)
set_option maxHeartbeats 4000000 in
set_option maxRecDepth 100000 in
theorem S_X11_orders (l : Launch) (G : GG) (F : Nat) {u0 : Option Nat} {f : Hp} {r : Option Nat} {f' : Hp} {n n2 z z2 : Nat} (hE : m_X11_orders F u0 f n z = some (r, f', n2, z2)) : Ctr l G yX11_orders cX11_orders 2 (some (.object "CopyOrders$Orders")) 4 97 [rr G u0] f n (some (rr G r)) f' n2 (n2 - n) (z2 - z) := by
  refine Met.ofW (cc := cX11_orders) (maxL := 2) (ret := (some (.object "CopyOrders$Orders"))) (by decide) rfl ?_
  intro p e s m args below meth c s₁ B hml hv
  obtain ⟨rfl, hK, hW⟩ := hv
  have hx := B.exec
  have hb := B.bytes
  have hr := B.returns
  have hts := atoms_spec (ws := wsO yX11_orders cX11_orders 2 (some (.object "CopyOrders$Orders"))) B.pre
  have hT : ∀ w ∈ TB, w.before [rr G u0].toArray s = true := fun w hw => hts w (List.mem_cons_of_mem _ hw)
  have hown : s.vm.findClass RX11 = some m.cls := findClass_of_methodNamed B.named
  have hlocks := B.notSynchronized
  have CF : CallFix p m c cX11_orders 2 s [rr G u0].toArray TB RX11 := ⟨hx, hb, hml, hown, hT⟩
  have hS : va_S (WA G) s.heap s.heap [] := va_S.rf
  have hl : lv_has (lg_sl ([rr G u0]) ++ List.replicate (2 - (lg_sl ([rr G u0])).length) Slot.unset).toArray 2 [(0, rr G u0)] := by cases u0 <;> exact lv_entry _ (Nat.le_of_ble_eq_true rfl)
  rw [lg_entry_eq]
  generalize (lg_sl ([rr G u0]) ++ List.replicate (2 - (lg_sl ([rr G u0])).length) Slot.unset).toArray = ls at hl ⊢
  refine W.cs (cells' := n - n) (slots' := z - z) (by omega) (by omega) ?_
  refine lv_iconst (v := (2 : Int32)) hx hb dX11_orders_0 (by decide) ?_
  refine lv_bipush (v := (7 : Int32)) hx hb dX11_orders_1 (by decide) ?_
  refine s_aload_n hx hb dX11_orders_3 rfl (lv_at hl 0 rfl) ?_
  obtain ⟨x1, hx1, hE⟩ := bd hE
  refine s_gR hx hb hT u_X11 hown hK hW hx1 rfl (by decide) fl_X11_16 rfl dX11_orders_4 ?_
  obtain ⟨x2, hx2, hE⟩ := bd hE
  refine s_gI hx hb hT u_X4 hown hK hW hx2 rfl (by decide) fl_X11_132 rfl dX11_orders_7 ?_
  obtain ⟨g3a, g3b, hE⟩ := grow_of hE
  replace g3a : n ≤ n2 := g3a
  replace g3b : z ≤ z2 := g3b
  refine s_min hx hb (by rw [hml]; exact hl.1.symm) hT hown mx_X11_202 (Nat.le_of_ble_eq_true rfl) (Nat.le_of_ble_eq_true rfl) (Nat.le_of_ble_eq_true rfl) (show n - n ≤ n2 - n by omega) (show z - z ≤ z2 - z by omega) dX11_orders_10 ?_
  obtain ⟨g4a, g4b, hE⟩ := grow_of hE
  replace g4a : n ≤ n2 := g4a
  replace g4b : z ≤ z2 := g4b
  refine s_max hx hb (by rw [hml]; exact hl.1.symm) hT hown mx_X11_315 (Nat.le_of_ble_eq_true rfl) (Nat.le_of_ble_eq_true rfl) (Nat.le_of_ble_eq_true rfl) (show n - n ≤ n2 - n by omega) (show z - z ≤ z2 - z by omega) dX11_orders_13 ?_
  refine lv_topi (fun y5 ey5 => ?_)
  replace hE := nm_o ey5 hE
  refine lv_istore_n (i := 1) (lv' := [(1, .int y5), (0, rr G u0)]) hx hb dX11_orders_16 rfl hl (by decide) (by simp [cat_rr]) (fun ls hl => ?_)
  refine s_aload_n hx hb dX11_orders_17 rfl (lv_at hl 1 rfl) ?_
  obtain ⟨x6, hx6, hE⟩ := bd hE
  refine s_gR hx hb hT u_X11 hown hK hW hx6 rfl (by decide) fl_X11_36 rfl dX11_orders_18 ?_
  refine lv_iload_n hx hb dX11_orders_21 rfl (lv_at hl 0 rfl) ?_
  obtain ⟨x7, hx7, hE⟩ := bd hE
  refine s_ldR hx hb hK hW hS hx7 (by decide) rfl dX11_orders_22 ?_
  refine s_ifnonnull (tgt := 40) hx hb dX11_orders_23 (by decide) (fun q8 => ?_) (fun q8 => ?_)
  · replace hE := ite_f q8 hE
    refine s_aload_n hx hb dX11_orders_40 rfl (lv_at hl 1 rfl) ?_
    obtain ⟨x9, hx9, hE⟩ := bd hE
    refine s_gR hx hb hT u_X11 hown hK hW hx9 rfl (by decide) fl_X11_36 rfl dX11_orders_41 ?_
    refine lv_iload_n hx hb dX11_orders_44 rfl (lv_at hl 0 rfl) ?_
    obtain ⟨x10, hx10, hE⟩ := bd hE
    refine s_ldR hx hb hK hW hS hx10 (by decide) rfl dX11_orders_45 ?_
    obtain ⟨rfl, rfl, rfl, rfl⟩ := so4 hE
    exact s_aret hx hb hr (Or.inl ⟨_, rfl⟩) hlocks hW hS dX11_orders_46
  · replace hE := ite_t q8 hE
    refine s_aload_n hx hb dX11_orders_26 rfl (lv_at hl 1 rfl) ?_
    obtain ⟨x11, hx11, hE⟩ := bd hE
    refine s_gR hx hb hT u_X11 hown hK hW hx11 rfl (by decide) fl_X11_36 rfl dX11_orders_27 ?_
    refine lv_iload_n hx hb dX11_orders_30 rfl (lv_at hl 0 rfl) ?_
    obtain ⟨g12a, g12b, hE⟩ := grow_of hE
    replace g12a : n + 1 ≤ n2 := g12a
    replace g12b : z + 9 ≤ z2 := g12b
    obtain ⟨f13, ef13⟩ : ∃ y : Hp, y = va_up f (n) (some (.inl (5, [.int 0, .int 0, .int 0, .null, .null, .null, .null, .null, .null]))) := ⟨_, rfl⟩
    replace hE := nm_o ef13 hE
    refine s_new (ci := 5) (fs := [.int 0, .int 0, .int 0, .null, .null, .null, .null, .null, .null]) hx hb hT u_X6 tyX6 tyX6_ok hown cl_X11_34 ist_X6 ini_CopyOrders_Orders hK hW hS rfl (fun j hj => by match j, hj with | 0, _ => rfl | 1, _ => rfl | 2, _ => rfl | 3, _ => rfl | 4, _ => rfl | 5, _ => rfl | 6, _ => rfl | 7, _ => rfl | 8, _ => rfl) rfl (show n - n + 1 ≤ n2 - n by omega) (show z - z + 9 ≤ z2 - z by omega) dX11_orders_31 (fun H hW hS => ?_)
    rw [← ef13] at hW
    refine W.cs (cells' := n + 1 - n) (slots' := z + 9 - z) (by omega) (by omega) ?_
    refine lv_dup hx hb dX11_orders_34 (cat_rr G _) ?_
    refine lv_iload_n hx hb dX11_orders_35 rfl (lv_at hl 0 rfl) ?_
    obtain ⟨f16, nq14, zq15, hf16, hE⟩ := bd3_of hE
    obtain ⟨c17, hE⟩ := ck hE
    replace c17 := of_decide_eq_true c17
    obtain ⟨g18a, g18b, hE⟩ := grow_of hE
    replace g18a : nq14 ≤ n2 := g18a
    replace g18b : zq15 ≤ z2 := g18b
    refine s_callI (As := [.int y5]) (rest := [rr G (some (n)), .int y5, rr G x11]) CF hK hW hS (S_X6_init l G F hf16) go_X6_init ini_CopyOrders_Orders ml_X11_346 im_X6_init rfl hd_X6_init.2 ⟨Nat.le_of_ble_eq_true rfl, Nat.le_of_ble_eq_true rfl⟩ rfl hl.1 rfl (Nat.le_of_ble_eq_true rfl) dX11_orders_36 ⟨show n + 1 - n + (nq14 - (n + 1)) ≤ n2 - n by omega, show z + 9 - z + (zq15 - (z + 9)) ≤ z2 - z by omega⟩ (fun H locs hW hS => ?_)
    refine W.cs (cells' := nq14 - n) (slots' := zq15 - z) (by omega) (by omega) ?_
    obtain ⟨f19, hf19, hE⟩ := bd hE
    refine s_stR hx hb hK hW hS (by decide) rfl hf19 dX11_orders_39 (fun H locs hW hS => ?_)
    refine s_aload_n hx hb dX11_orders_40 rfl (lv_at hl 1 rfl) ?_
    obtain ⟨x20, hx20, hE⟩ := bd hE
    refine s_gR hx hb hT u_X11 hown hK hW hx20 rfl (by decide) fl_X11_36 rfl dX11_orders_41 ?_
    refine lv_iload_n hx hb dX11_orders_44 rfl (lv_at hl 0 rfl) ?_
    obtain ⟨x21, hx21, hE⟩ := bd hE
    refine s_ldR hx hb hK hW hS hx21 (by decide) rfl dX11_orders_45 ?_
    obtain ⟨rfl, rfl, rfl, rfl⟩ := so4 hE
    exact s_aret hx hb hr (Or.inl ⟨_, rfl⟩) hlocks hW hS dX11_orders_46
set_option maxHeartbeats 4000000 in
set_option maxRecDepth 100000 in
theorem S_J7_fill_d0a16 (l : Launch) (G : GG) (F : Nat) {u0 : Option Nat} {u1 : Int64} {f : Hp} {f' : Hp} {n : Nat} (hE : m_J7_fill_d0a16 F u0 u1 f = some f') : Ctr l G yJ7_fill_d0a16 cJ7_fill_d0a16 5 none 0 0 [rr G u0, .long u1] f n none f' n 0 0 := by
  refine Met.ofW (cc := cJ7_fill_d0a16) (maxL := 5) (ret := none) (by decide) rfl ?_
  intro p e s m args below meth c s₁ B hml hv
  obtain ⟨rfl, hK, hW⟩ := hv
  have hx := B.exec
  have hb := B.bytes
  have hr := B.returns
  have hts := atoms_spec (ws := wsO yJ7_fill_d0a16 cJ7_fill_d0a16 5 none) B.pre
  have hT : ∀ w ∈ TB, w.before [rr G u0, .long u1].toArray s = true := fun w hw => hts w (List.mem_cons_of_mem _ hw)
  have hown : s.vm.findClass RJ7 = some m.cls := findClass_of_methodNamed B.named
  have hlocks := B.notSynchronized
  have CF : CallFix p m c cJ7_fill_d0a16 5 s [rr G u0, .long u1].toArray TB RJ7 := ⟨hx, hb, hml, hown, hT⟩
  have hS : va_S (WA G) s.heap s.heap [] := va_S.rf
  have hl : lv_has (lg_sl ([rr G u0, .long u1]) ++ List.replicate (5 - (lg_sl ([rr G u0, .long u1])).length) Slot.unset).toArray 5 [(0, rr G u0), (1, .long u1)] := by cases u0 <;> exact lv_entry _ (Nat.le_of_ble_eq_true rfl)
  rw [lg_entry_eq]
  generalize (lg_sl ([rr G u0, .long u1]) ++ List.replicate (5 - (lg_sl ([rr G u0, .long u1])).length) Slot.unset).toArray = ls at hl ⊢
  have hC6 : ∀ (k6 : Nat), ∀ (v0 : Option Nat) (v1 : Int64) (v3 : Int32) (v4 : Int32) (fa : Hp) (H : Heap) (locs : List Loc) (ls : Array Slot), m_J7_fill_d0a16_L6 F k6 v0 v1 v3 v4 fa = some f' → Wd G fa n H → va_S (WA G) s.heap H locs → lv_has ls 5 [(0, rr G v0), (1, .long v1), (3, .int v3), (4, .int v4)] → W p l e (headSpec (wsO yJ7_fill_d0a16 cJ7_fill_d0a16 5 none) { frames := 0, cells := 0, slots := 0, locals := 0 }).room s m [rr G u0, .long u1].toArray below meth c H locs 0 0 (MQ below (Qcn G none f' n) [rr G u0, .long u1].toArray s 0 0 (WA G)) (F0 m 6 ls []) := by
    intro k6
    induction k6 with
    | zero => intro v0 v1 v3 v4 fa H locs ls hE _ _ _; cases (show (none : Option Hp) = some f' from hE)
    | succ k6 ih6 =>
      intro v0 v1 v3 v4 fa H locs ls hE hW hS hl
      replace hE : m_J7_fill_d0a16_b6 F (m_J7_fill_d0a16_L6 F k6) v0 v1 v3 v4 fa = some f' := hE
      refine lv_iload_n hx hb dJ7_fill_d0a16_6 rfl (lv_at hl 2 rfl) ?_
      refine lv_iload hx hb dJ7_fill_d0a16_7 (lv_at hl 3 rfl) ?_
      refine lv_icmp_ge (tgt := 22) hx hb dJ7_fill_d0a16_9 (by decide) (fun q1 => ?_) (fun q1 => ?_)
      · replace hE := ite_t q1 hE
        obtain rfl := so1 hE
        exact s_vret hx hb hr hlocks hW hS dJ7_fill_d0a16_22
      · replace hE := ite_f q1 hE
        refine s_aload_n hx hb dJ7_fill_d0a16_12 rfl (lv_at hl 0 rfl) ?_
        refine lv_iload_n hx hb dJ7_fill_d0a16_13 rfl (lv_at hl 2 rfl) ?_
        refine lv_lload_n hx hb dJ7_fill_d0a16_14 rfl (lv_at hl 1 rfl) ?_
        obtain ⟨f2, hf2, hE⟩ := bd hE
        refine s_stJ hx hb hK hW hS hf2 dJ7_fill_d0a16_15 (fun H locs hW hS => ?_)
        obtain ⟨y3, ey3⟩ : ∃ y : Int32, y = v3 + (1 : Int32) := ⟨_, rfl⟩
        replace hE := nm_o ey3 hE
        refine lv_iinc (k := 2) (v := y3) (lv' := [(3, .int y3), (0, rr G v0), (1, .long v1), (4, .int v4)]) hx hb dJ7_fill_d0a16_16 hl rfl (by rw [ey3]; rfl) (by decide) rfl (fun ls hl => ?_)
        refine lv_goto (tgt := 6) hx hb dJ7_fill_d0a16_19 (by decide) ?_
        exact ih6 _ _ _ _ _ _ _ _ hE hW hS (lv_sub hl [1, 2, 0, 3] rfl)
  refine lv_iconst (v := (0 : Int32)) hx hb dJ7_fill_d0a16_0 (by decide) ?_
  refine lv_istore_n (i := 3) (lv' := [(3, .int (0 : Int32)), (0, rr G u0), (1, .long u1)]) hx hb dJ7_fill_d0a16_1 rfl hl (by decide) rfl (fun ls hl => ?_)
  refine s_aload_n hx hb dJ7_fill_d0a16_2 rfl (lv_at hl 1 rfl) ?_
  obtain ⟨x4, hx4, hE⟩ := bd hE
  refine s_alen hx hb hK hW hS hx4 dJ7_fill_d0a16_3 ?_
  refine lv_istore (lv' := [(4, .int x4), (3, .int (0 : Int32)), (0, rr G u0), (1, .long u1)]) hx hb dJ7_fill_d0a16_4 hl (by decide) rfl (fun ls hl => ?_)
  exact hC6 F _ _ _ _ _ _ _ _ hE hW hS (lv_sub hl [2, 3, 1, 0] rfl)
set_option maxHeartbeats 4000000 in
set_option maxRecDepth 100000 in
theorem S_X6_has (l : Launch) (G : GG) (F : Nat) {u0 : Option Nat} {u1 : Int32} {f : Hp} {r : Int32} {n : Nat} (hE : m_X6_has F u0 u1 f = some r) : Ctr l G yX6_has cX6_has 2 (some .boolean) 0 0 [rr G u0, .int u1] f n (some (.int r)) f n 0 0 := by
  refine Met.ofW (cc := cX6_has) (maxL := 2) (ret := (some .boolean)) (by decide) rfl ?_
  intro p e s m args below meth c s₁ B hml hv
  obtain ⟨rfl, hK, hW⟩ := hv
  have hx := B.exec
  have hb := B.bytes
  have hr := B.returns
  have hts := atoms_spec (ws := wsO yX6_has cX6_has 2 (some .boolean)) B.pre
  have hT : ∀ w ∈ TB, w.before [rr G u0, .int u1].toArray s = true := fun w hw => hts w (List.mem_cons_of_mem _ hw)
  have hown : s.vm.findClass RX6 = some m.cls := findClass_of_methodNamed B.named
  have hlocks := B.notSynchronized
  have CF : CallFix p m c cX6_has 2 s [rr G u0, .int u1].toArray TB RX6 := ⟨hx, hb, hml, hown, hT⟩
  have hS : va_S (WA G) s.heap s.heap [] := va_S.rf
  have hl : lv_has (lg_sl ([rr G u0, .int u1]) ++ List.replicate (2 - (lg_sl ([rr G u0, .int u1])).length) Slot.unset).toArray 2 [(0, rr G u0), (1, .int u1)] := by cases u0 <;> exact lv_entry _ (Nat.le_of_ble_eq_true rfl)
  rw [lg_entry_eq]
  generalize (lg_sl ([rr G u0, .int u1]) ++ List.replicate (2 - (lg_sl ([rr G u0, .int u1])).length) Slot.unset).toArray = ls at hl ⊢
  refine lv_iload_n hx hb dX6_has_0 rfl (lv_at hl 1 rfl) ?_
  refine lv_if_lt (tgt := 16) hx hb dX6_has_1 (by decide) (fun q1 => ?_) (fun q1 => ?_)
  · replace hE := ite_t q1 hE
    refine lv_iconst (v := (0 : Int32)) hx hb dX6_has_16 (by decide) ?_
    obtain ⟨c2, hE⟩ := ck hE
    obtain rfl := so1 hE
    exact s_zret hx hb hr c2 hlocks hW hS dX6_has_17
  · replace hE := ite_f q1 hE
    refine lv_iload_n hx hb dX6_has_4 rfl (lv_at hl 1 rfl) ?_
    refine s_aload_n hx hb dX6_has_5 rfl (lv_at hl 0 rfl) ?_
    obtain ⟨x3, hx3, hE⟩ := bd hE
    refine s_gI hx hb hT u_X6 hown hK hW hx3 rfl (by decide) fl_X6_28 rfl dX6_has_6 ?_
    refine lv_icmp_ge (tgt := 16) hx hb dX6_has_9 (by decide) (fun q4 => ?_) (fun q4 => ?_)
    · replace hE := ite_t q4 hE
      refine lv_iconst (v := (0 : Int32)) hx hb dX6_has_16 (by decide) ?_
      obtain ⟨c5, hE⟩ := ck hE
      obtain rfl := so1 hE
      exact s_zret hx hb hr c5 hlocks hW hS dX6_has_17
    · replace hE := ite_f q4 hE
      refine lv_iconst (v := (1 : Int32)) hx hb dX6_has_12 (by decide) ?_
      refine lv_goto (tgt := 17) hx hb dX6_has_13 (by decide) ?_
      obtain ⟨c6, hE⟩ := ck hE
      obtain rfl := so1 hE
      exact s_zret hx hb hr c6 hlocks hW hS dX6_has_17
set_option maxHeartbeats 4000000 in
set_option maxRecDepth 100000 in
theorem S_X6_exchanged (l : Launch) (G : GG) (F : Nat) {u0 : Option Nat} {u1 : Int32} {u2 : Int32} {f : Hp} {r : Int32} {n : Nat} (hE : m_X6_exchanged F u0 u1 u2 f = some r) : Ctr l G yX6_exchanged cX6_exchanged 4 (some .int) 0 0 [rr G u0, .int u1, .int u2] f n (some (.int r)) f n 0 0 := by
  refine Met.ofW (cc := cX6_exchanged) (maxL := 4) (ret := (some .int)) (by decide) rfl ?_
  intro p e s m args below meth c s₁ B hml hv
  obtain ⟨rfl, hK, hW⟩ := hv
  have hx := B.exec
  have hb := B.bytes
  have hr := B.returns
  have hts := atoms_spec (ws := wsO yX6_exchanged cX6_exchanged 4 (some .int)) B.pre
  have hT : ∀ w ∈ TB, w.before [rr G u0, .int u1, .int u2].toArray s = true := fun w hw => hts w (List.mem_cons_of_mem _ hw)
  have hown : s.vm.findClass RX6 = some m.cls := findClass_of_methodNamed B.named
  have hlocks := B.notSynchronized
  have CF : CallFix p m c cX6_exchanged 4 s [rr G u0, .int u1, .int u2].toArray TB RX6 := ⟨hx, hb, hml, hown, hT⟩
  have hS : va_S (WA G) s.heap s.heap [] := va_S.rf
  have hl : lv_has (lg_sl ([rr G u0, .int u1, .int u2]) ++ List.replicate (4 - (lg_sl ([rr G u0, .int u1, .int u2])).length) Slot.unset).toArray 4 [(0, rr G u0), (1, .int u1), (2, .int u2)] := by cases u0 <;> exact lv_entry _ (Nat.le_of_ble_eq_true rfl)
  rw [lg_entry_eq]
  generalize (lg_sl ([rr G u0, .int u1, .int u2]) ++ List.replicate (4 - (lg_sl ([rr G u0, .int u1, .int u2])).length) Slot.unset).toArray = ls at hl ⊢
  refine lv_iload_n hx hb dX6_exchanged_0 rfl (lv_at hl 1 rfl) ?_
  refine s_aload_n hx hb dX6_exchanged_1 rfl (lv_at hl 0 rfl) ?_
  obtain ⟨x1, hx1, hE⟩ := bd hE
  refine s_gI hx hb hT u_X6 hown hK hW hx1 rfl (by decide) fl_X6_18 rfl dX6_exchanged_2 ?_
  refine lv_iconst (v := (1 : Int32)) hx hb dX6_exchanged_5 (by decide) ?_
  refine lv_isub hx hb dX6_exchanged_6 ?_
  refine lv_imul hx hb dX6_exchanged_7 ?_
  refine lv_iload_n hx hb dX6_exchanged_8 rfl (lv_at hl 2 rfl) ?_
  refine lv_iadd hx hb dX6_exchanged_9 ?_
  refine lv_topi (fun y2 ey2 => ?_)
  replace hE := nm_o ey2 hE
  refine lv_istore_n (i := 3) (lv' := [(3, .int y2), (0, rr G u0), (1, .int u1), (2, .int u2)]) hx hb dX6_exchanged_10 rfl hl (by decide) rfl (fun ls hl => ?_)
  refine lv_iload_n hx hb dX6_exchanged_11 rfl (lv_at hl 0 rfl) ?_
  refine lv_if_lt (tgt := 33) hx hb dX6_exchanged_12 (by decide) (fun q3 => ?_) (fun q3 => ?_)
  · replace hE := ite_t q3 hE
    refine lv_iload_n hx hb dX6_exchanged_33 rfl (lv_at hl 2 rfl) ?_
    obtain rfl := so1 hE
    exact s_iret hx hb hr hlocks hW hS dX6_exchanged_34
  · replace hE := ite_f q3 hE
    refine lv_iload_n hx hb dX6_exchanged_15 rfl (lv_at hl 0 rfl) ?_
    refine s_aload_n hx hb dX6_exchanged_16 rfl (lv_at hl 1 rfl) ?_
    obtain ⟨x4, hx4, hE⟩ := bd hE
    refine s_gR hx hb hT u_X6 hown hK hW hx4 rfl (by decide) fl_X6_41 rfl dX6_exchanged_17 ?_
    obtain ⟨x5, hx5, hE⟩ := bd hE
    refine s_alen hx hb hK hW hS hx5 dX6_exchanged_20 ?_
    refine lv_icmp_ge (tgt := 33) hx hb dX6_exchanged_21 (by decide) (fun q6 => ?_) (fun q6 => ?_)
    · replace hE := ite_t q6 hE
      refine lv_iload_n hx hb dX6_exchanged_33 rfl (lv_at hl 2 rfl) ?_
      obtain rfl := so1 hE
      exact s_iret hx hb hr hlocks hW hS dX6_exchanged_34
    · replace hE := ite_f q6 hE
      refine s_aload_n hx hb dX6_exchanged_24 rfl (lv_at hl 1 rfl) ?_
      obtain ⟨x7, hx7, hE⟩ := bd hE
      refine s_gR hx hb hT u_X6 hown hK hW hx7 rfl (by decide) fl_X6_41 rfl dX6_exchanged_25 ?_
      refine lv_iload_n hx hb dX6_exchanged_28 rfl (lv_at hl 0 rfl) ?_
      obtain ⟨x8, hx8, hE⟩ := bd hE
      refine s_ldI hx hb hK hW hS hx8 dX6_exchanged_29 ?_
      refine lv_goto (tgt := 34) hx hb dX6_exchanged_30 (by decide) ?_
      obtain rfl := so1 hE
      exact s_iret hx hb hr hlocks hW hS dX6_exchanged_34
set_option maxHeartbeats 4000000 in
set_option maxRecDepth 100000 in
theorem S_X6_passOn (l : Launch) (G : GG) (F : Nat) {u0 : Option Nat} {u1 : Int32} {u2 : Option Nat} {f : Hp} {f' : Hp} {n : Nat} (hE : m_X6_passOn F u0 u1 u2 f = some f') : Ctr l G yX6_passOn cX6_passOn 5 none 1 23 [rr G u0, .int u1, rr G u2] f n none f' n 0 0 := by
  refine Met.ofW (cc := cX6_passOn) (maxL := 5) (ret := none) (by decide) rfl ?_
  intro p e s m args below meth c s₁ B hml hv
  obtain ⟨rfl, hK, hW⟩ := hv
  have hx := B.exec
  have hb := B.bytes
  have hr := B.returns
  have hts := atoms_spec (ws := wsO yX6_passOn cX6_passOn 5 none) B.pre
  have hT : ∀ w ∈ TB, w.before [rr G u0, .int u1, rr G u2].toArray s = true := fun w hw => hts w (List.mem_cons_of_mem _ hw)
  have hown : s.vm.findClass RX6 = some m.cls := findClass_of_methodNamed B.named
  have hlocks := B.notSynchronized
  have CF : CallFix p m c cX6_passOn 5 s [rr G u0, .int u1, rr G u2].toArray TB RX6 := ⟨hx, hb, hml, hown, hT⟩
  have hS : va_S (WA G) s.heap s.heap [] := va_S.rf
  have hl : lv_has (lg_sl ([rr G u0, .int u1, rr G u2]) ++ List.replicate (5 - (lg_sl ([rr G u0, .int u1, rr G u2])).length) Slot.unset).toArray 5 [(0, rr G u0), (1, .int u1), (2, rr G u2)] := by cases u0 <;> cases u2 <;> exact lv_entry _ (Nat.le_of_ble_eq_true rfl)
  rw [lg_entry_eq]
  generalize (lg_sl ([rr G u0, .int u1, rr G u2]) ++ List.replicate (5 - (lg_sl ([rr G u0, .int u1, rr G u2])).length) Slot.unset).toArray = ls at hl ⊢
  have hC2 : ∀ (k2 : Nat), ∀ (v0 : Option Nat) (v1 : Int32) (v2 : Option Nat) (v3 : Int32) (fa : Hp) (H : Heap) (locs : List Loc) (ls : Array Slot), m_X6_passOn_L2 F k2 v0 v1 v2 v3 fa = some f' → Wd G fa n H → va_S (WA G) s.heap H locs → lv_has ls 5 [(0, rr G v0), (1, .int v1), (2, rr G v2), (3, .int v3)] → W p l e (headSpec (wsO yX6_passOn cX6_passOn 5 none) { frames := 1, cells := 0, slots := 0, locals := 23 }).room s m [rr G u0, .int u1, rr G u2].toArray below meth c H locs 0 0 (MQ below (Qcn G none f' n) [rr G u0, .int u1, rr G u2].toArray s 0 0 (WA G)) (F0 m 2 ls []) := by
    intro k2
    induction k2 with
    | zero => intro v0 v1 v2 v3 fa H locs ls hE _ _ _; cases (show (none : Option Hp) = some f' from hE)
    | succ k2 ih2 =>
      intro v0 v1 v2 v3 fa H locs ls hE hW hS hl
      replace hE : m_X6_passOn_b2 F (m_X6_passOn_L2 F k2) v0 v1 v2 v3 fa = some f' := hE
      refine lv_iload_n hx hb dX6_passOn_2 rfl (lv_at hl 3 rfl) ?_
      refine s_aload_n hx hb dX6_passOn_3 rfl (lv_at hl 0 rfl) ?_
      obtain ⟨x1, hx1, hE⟩ := bd hE
      refine s_gI hx hb hT u_X6 hown hK hW hx1 rfl (by decide) fl_X6_18 rfl dX6_passOn_4 ?_
      refine lv_iconst (v := (1 : Int32)) hx hb dX6_passOn_7 (by decide) ?_
      refine lv_isub hx hb dX6_passOn_8 ?_
      refine lv_icmp_ge (tgt := 62) hx hb dX6_passOn_9 (by decide) (fun q2 => ?_) (fun q2 => ?_)
      · replace hE := ite_t q2 hE
        obtain rfl := so1 hE
        exact s_vret hx hb hr hlocks hW hS dX6_passOn_62
      · replace hE := ite_f q2 hE
        refine lv_iload_n hx hb dX6_passOn_12 rfl (lv_at hl 3 rfl) ?_
        refine s_aload_n hx hb dX6_passOn_13 rfl (lv_at hl 2 rfl) ?_
        obtain ⟨x3, hx3, hE⟩ := bd hE
        refine s_alen hx hb hK hW hS hx3 dX6_passOn_14 ?_
        refine lv_icmp_ge (tgt := 62) hx hb dX6_passOn_15 (by decide) (fun q4 => ?_) (fun q4 => ?_)
        · replace hE := ite_t q4 hE
          obtain rfl := so1 hE
          exact s_vret hx hb hr hlocks hW hS dX6_passOn_62
        · replace hE := ite_f q4 hE
          refine s_aload_n hx hb dX6_passOn_18 rfl (lv_at hl 0 rfl) ?_
          refine lv_iload_n hx hb dX6_passOn_19 rfl (lv_at hl 1 rfl) ?_
          refine lv_iload_n hx hb dX6_passOn_20 rfl (lv_at hl 3 rfl) ?_
          obtain ⟨c5, hE⟩ := ck hE
          obtain ⟨x6, hx6, hE⟩ := bd hE
          refine s_callV (As := [.int v1, .int v3]) (rest := []) CF hK hW hS (S_X6_exchanged l G F hx6) c5 rfl gv_X6_122 hd_X6_exchanged ⟨Nat.le_of_ble_eq_true rfl, Nat.le_of_ble_eq_true rfl⟩ rfl hl.1 rfl (Nat.le_of_ble_eq_true rfl) dX6_passOn_21 ⟨Nat.le_refl _, Nat.le_refl _⟩ (fun H locs hW hS => ?_)
          refine lv_istore (lv' := [(4, .int x6), (0, rr G v0), (1, .int v1), (2, rr G v2), (3, .int v3)]) hx hb dX6_passOn_24 hl (by decide) rfl (fun ls hl => ?_)
          refine s_aload_n hx hb dX6_passOn_26 rfl (lv_at hl 1 rfl) ?_
          refine lv_iload hx hb dX6_passOn_27 (lv_at hl 0 rfl) ?_
          obtain ⟨c7, hE⟩ := ck hE
          obtain ⟨x8, hx8, hE⟩ := bd hE
          refine s_callV (As := [.int x6]) (rest := []) CF hK hW hS (S_X6_has l G F hx8) c7 rfl gv_X6_101 hd_X6_has ⟨Nat.le_of_ble_eq_true rfl, Nat.le_of_ble_eq_true rfl⟩ rfl hl.1 rfl (Nat.le_of_ble_eq_true rfl) dX6_passOn_29 ⟨Nat.le_refl _, Nat.le_refl _⟩ (fun H locs hW hS => ?_)
          refine lv_if_eq (tgt := 56) hx hb dX6_passOn_32 (by decide) (fun q9 => ?_) (fun q9 => ?_)
          · replace hE := ite_t q9 hE
            obtain ⟨y10, ey10⟩ : ∃ y : Int32, y = v3 + (1 : Int32) := ⟨_, rfl⟩
            replace hE := nm_o ey10 hE
            refine lv_iinc (k := 4) (v := y10) (lv' := [(3, .int y10), (4, .int x6), (0, rr G v0), (1, .int v1), (2, rr G v2)]) hx hb dX6_passOn_56 hl rfl (by rw [ey10]; rfl) (by decide) (by simp [cat_rr]) (fun ls hl => ?_)
            refine lv_goto (tgt := 2) hx hb dX6_passOn_59 (by decide) ?_
            exact ih2 _ _ _ _ _ _ _ _ hE hW hS (lv_sub hl [2, 3, 4, 0] rfl)
          · replace hE := ite_f q9 hE
            refine s_aload_n hx hb dX6_passOn_35 rfl (lv_at hl 1 rfl) ?_
            obtain ⟨x11, hx11, hE⟩ := bd hE
            refine s_gR hx hb hT u_X6 hown hK hW hx11 rfl (by decide) fl_X6_48 rfl dX6_passOn_36 ?_
            refine lv_iload hx hb dX6_passOn_39 (lv_at hl 0 rfl) ?_
            refine lv_dup2_11 hx hb dX6_passOn_41 rfl (cat_rr G _) ?_
            obtain ⟨x12, hx12, hE⟩ := bd hE
            refine s_ldJ hx hb hK hW hS hx12 dX6_passOn_42 ?_
            refine s_aload_n hx hb dX6_passOn_43 rfl (lv_at hl 1 rfl) ?_
            obtain ⟨x13, hx13, hE⟩ := bd hE
            refine s_gR hx hb hT u_X6 hown hK hW hx13 rfl (by decide) fl_X6_44 rfl dX6_passOn_44 ?_
            refine lv_iload_n hx hb dX6_passOn_47 rfl (lv_at hl 2 rfl) ?_
            obtain ⟨x14, hx14, hE⟩ := bd hE
            refine s_ldJ hx hb hK hW hS hx14 dX6_passOn_48 ?_
            refine s_aload_n hx hb dX6_passOn_49 rfl (lv_at hl 3 rfl) ?_
            refine lv_iload_n hx hb dX6_passOn_50 rfl (lv_at hl 4 rfl) ?_
            obtain ⟨x15, hx15, hE⟩ := bd hE
            refine s_ldI hx hb hK hW hS hx15 dX6_passOn_51 ?_
            refine lv_i2l (v := (Int32.toInt64 x15)) hx hb dX6_passOn_52 rfl ?_
            refine lv_lmul hx hb dX6_passOn_53 ?_
            refine lv_ladd hx hb dX6_passOn_54 ?_
            obtain ⟨f16, hf16, hE⟩ := bd hE
            refine s_stJ hx hb hK hW hS hf16 dX6_passOn_55 (fun H locs hW hS => ?_)
            obtain ⟨y17, ey17⟩ : ∃ y : Int32, y = v3 + (1 : Int32) := ⟨_, rfl⟩
            replace hE := nm_o ey17 hE
            refine lv_iinc (k := 4) (v := y17) (lv' := [(3, .int y17), (4, .int x6), (0, rr G v0), (1, .int v1), (2, rr G v2)]) hx hb dX6_passOn_56 hl rfl (by rw [ey17]; rfl) (by decide) (by simp [cat_rr]) (fun ls hl => ?_)
            refine lv_goto (tgt := 2) hx hb dX6_passOn_59 (by decide) ?_
            exact ih2 _ _ _ _ _ _ _ _ hE hW hS (lv_sub hl [2, 3, 4, 0] rfl)
  refine lv_iconst (v := (0 : Int32)) hx hb dX6_passOn_0 (by decide) ?_
  refine lv_istore_n (i := 3) (lv' := [(3, .int (0 : Int32)), (0, rr G u0), (1, .int u1), (2, rr G u2)]) hx hb dX6_passOn_1 rfl hl (by decide) (by simp [cat_rr]) (fun ls hl => ?_)
  exact hC2 F _ _ _ _ _ _ _ _ hE hW hS (lv_sub hl [1, 2, 3, 0] rfl)
set_option maxHeartbeats 4000000 in
set_option maxRecDepth 100000 in
theorem S_X6_spread (l : Launch) (G : GG) (F : Nat) {u0 : Option Nat} {u1 : Int32} {u2 : Int32} {u3 : Option Nat} {f : Hp} {f' : Hp} {n : Nat} (hE : m_X6_spread F u0 u1 u2 u3 f = some f') : Ctr l G yX6_spread cX6_spread 6 none 2 47 [rr G u0, .int u1, .int u2, rr G u3] f n none f' n 0 0 := by
  refine Met.ofW (cc := cX6_spread) (maxL := 6) (ret := none) (by decide) rfl ?_
  intro p e s m args below meth c s₁ B hml hv
  obtain ⟨rfl, hK, hW⟩ := hv
  have hx := B.exec
  have hb := B.bytes
  have hr := B.returns
  have hts := atoms_spec (ws := wsO yX6_spread cX6_spread 6 none) B.pre
  have hT : ∀ w ∈ TB, w.before [rr G u0, .int u1, .int u2, rr G u3].toArray s = true := fun w hw => hts w (List.mem_cons_of_mem _ hw)
  have hown : s.vm.findClass RX6 = some m.cls := findClass_of_methodNamed B.named
  have hlocks := B.notSynchronized
  have CF : CallFix p m c cX6_spread 6 s [rr G u0, .int u1, .int u2, rr G u3].toArray TB RX6 := ⟨hx, hb, hml, hown, hT⟩
  have hS : va_S (WA G) s.heap s.heap [] := va_S.rf
  have hl : lv_has (lg_sl ([rr G u0, .int u1, .int u2, rr G u3]) ++ List.replicate (6 - (lg_sl ([rr G u0, .int u1, .int u2, rr G u3])).length) Slot.unset).toArray 6 [(0, rr G u0), (1, .int u1), (2, .int u2), (3, rr G u3)] := by cases u0 <;> cases u3 <;> exact lv_entry _ (Nat.le_of_ble_eq_true rfl)
  rw [lg_entry_eq]
  generalize (lg_sl ([rr G u0, .int u1, .int u2, rr G u3]) ++ List.replicate (6 - (lg_sl ([rr G u0, .int u1, .int u2, rr G u3])).length) Slot.unset).toArray = ls at hl ⊢
  have hC27 : ∀ (k27 : Nat), ∀ (v0 : Option Nat) (v2 : Int32) (v3 : Option Nat) (v4 : Int32) (fa : Hp) (H : Heap) (locs : List Loc) (ls : Array Slot), m_X6_spread_L27 F k27 v0 v2 v3 v4 fa = some f' → Wd G fa n H → va_S (WA G) s.heap H locs → lv_has ls 6 [(0, rr G v0), (2, .int v2), (3, rr G v3), (4, .int v4)] → W p l e (headSpec (wsO yX6_spread cX6_spread 6 none) { frames := 2, cells := 0, slots := 0, locals := 47 }).room s m [rr G u0, .int u1, .int u2, rr G u3].toArray below meth c H locs 0 0 (MQ below (Qcn G none f' n) [rr G u0, .int u1, .int u2, rr G u3].toArray s 0 0 (WA G)) (F0 m 27 ls []) := by
    intro k27
    induction k27 with
    | zero => intro v0 v2 v3 v4 fa H locs ls hE _ _ _; cases (show (none : Option Hp) = some f' from hE)
    | succ k27 ih27 =>
      have hC78 : ∀ (v0 : Option Nat) (v2 : Int32) (v3 : Option Nat) (v4 : Int32) (fa : Hp) (H : Heap) (locs : List Loc) (ls : Array Slot), m_X6_spread_B78 F (m_X6_spread_L27 F k27) v0 v2 v3 v4 fa = some f' → Wd G fa n H → va_S (WA G) s.heap H locs → lv_has ls 6 [(0, rr G v0), (2, .int v2), (3, rr G v3), (4, .int v4)] → W p l e (headSpec (wsO yX6_spread cX6_spread 6 none) { frames := 2, cells := 0, slots := 0, locals := 47 }).room s m [rr G u0, .int u1, .int u2, rr G u3].toArray below meth c H locs 0 0 (MQ below (Qcn G none f' n) [rr G u0, .int u1, .int u2, rr G u3].toArray s 0 0 (WA G)) (F0 m 78 ls []) := by
        intro v0 v2 v3 v4 fa H locs ls hE hW hS hl
        refine s_aload_n hx hb dX6_spread_78 rfl (lv_at hl 0 rfl) ?_
        obtain ⟨x13, hx13, hE⟩ := bd hE
        refine s_gR hx hb hT u_X6 hown hK hW hx13 rfl (by decide) fl_X6_44 rfl dX6_spread_79 ?_
        refine s_astore (lv' := [(5, rr G x13), (0, rr G v0), (2, .int v2), (3, rr G v3), (4, .int v4)]) hx hb dX6_spread_82 hl (by decide) rfl (fun ls hl => ?_)
        refine s_aload_n hx hb dX6_spread_84 rfl (lv_at hl 1 rfl) ?_
        refine s_aload_n hx hb dX6_spread_85 rfl (lv_at hl 1 rfl) ?_
        obtain ⟨x14, hx14, hE⟩ := bd hE
        refine s_gR hx hb hT u_X6 hown hK hW hx14 rfl (by decide) fl_X6_48 rfl dX6_spread_86 ?_
        obtain ⟨f15, hf15, hE⟩ := bd hE
        refine s_putR hx hb hT u_X6 tyX6 tyX6_ok nmX6 hown hK hW hS hf15 rfl (by decide) fl_X6_44 rfl (Or.inl rfl) rfl fit_a dX6_spread_89 (fun H locs hW hS => ?_)
        refine s_aload_n hx hb dX6_spread_92 rfl (lv_at hl 1 rfl) ?_
        refine s_aload hx hb dX6_spread_93 (lv_at hl 0 rfl) ?_
        obtain ⟨f16, hf16, hE⟩ := bd hE
        refine s_putR hx hb hT u_X6 tyX6 tyX6_ok nmX6 hown hK hW hS hf16 rfl (by decide) fl_X6_48 rfl (Or.inl rfl) rfl fit_a dX6_spread_95 (fun H locs hW hS => ?_)
        obtain ⟨y17, ey17⟩ : ∃ y : Int32, y = v4 + (1 : Int32) := ⟨_, rfl⟩
        replace hE := nm_o ey17 hE
        refine lv_iinc (k := 4) (v := y17) (lv' := [(4, .int y17), (5, rr G x13), (0, rr G v0), (2, .int v2), (3, rr G v3)]) hx hb dX6_spread_98 hl rfl (by rw [ey17]; rfl) (by decide) (by simp [cat_rr]) (fun ls hl => ?_)
        refine lv_goto (tgt := 27) hx hb dX6_spread_101 (by decide) ?_
        exact ih27 _ _ _ _ _ _ _ _ hE hW hS (lv_sub hl [2, 3, 4, 0] rfl)
      have hC44 : ∀ (k44 : Nat), ∀ (v0 : Option Nat) (v2 : Int32) (v3 : Option Nat) (v4 : Int32) (v5 : Int32) (fa : Hp) (H : Heap) (locs : List Loc) (ls : Array Slot), m_X6_spread_L44 F (m_X6_spread_L27 F k27) k44 v0 v2 v3 v4 v5 fa = some f' → Wd G fa n H → va_S (WA G) s.heap H locs → lv_has ls 6 [(0, rr G v0), (2, .int v2), (3, rr G v3), (4, .int v4), (5, .int v5)] → W p l e (headSpec (wsO yX6_spread cX6_spread 6 none) { frames := 2, cells := 0, slots := 0, locals := 47 }).room s m [rr G u0, .int u1, .int u2, rr G u3].toArray below meth c H locs 0 0 (MQ below (Qcn G none f' n) [rr G u0, .int u1, .int u2, rr G u3].toArray s 0 0 (WA G)) (F0 m 44 ls []) := by
        intro k44
        induction k44 with
        | zero => intro v0 v2 v3 v4 v5 fa H locs ls hE _ _ _; cases (show (none : Option Hp) = some f' from hE)
        | succ k44 ih44 =>
          intro v0 v2 v3 v4 v5 fa H locs ls hE hW hS hl
          replace hE : m_X6_spread_b44 F (m_X6_spread_L27 F k27) (m_X6_spread_L44 F (m_X6_spread_L27 F k27) k44) v0 v2 v3 v4 v5 fa = some f' := hE
          refine lv_iload hx hb dX6_spread_44 (lv_at hl 4 rfl) ?_
          refine s_aload_n hx hb dX6_spread_46 rfl (lv_at hl 0 rfl) ?_
          obtain ⟨x4, hx4, hE⟩ := bd hE
          refine s_gI hx hb hT u_X6 hown hK hW hx4 rfl (by decide) fl_X6_28 rfl dX6_spread_47 ?_
          refine lv_icmp_ge (tgt := 78) hx hb dX6_spread_50 (by decide) (fun q5 => ?_) (fun q5 => ?_)
          · replace hE := ite_t q5 hE
            exact hC78 _ _ _ _ _ _ _ _ hE hW hS (lv_sub hl [0, 1, 2, 3] rfl)
          · replace hE := ite_f q5 hE
            refine s_aload_n hx hb dX6_spread_53 rfl (lv_at hl 0 rfl) ?_
            obtain ⟨x6, hx6, hE⟩ := bd hE
            refine s_gR hx hb hT u_X6 hown hK hW hx6 rfl (by decide) fl_X6_44 rfl dX6_spread_54 ?_
            refine lv_iload hx hb dX6_spread_57 (lv_at hl 4 rfl) ?_
            obtain ⟨x7, hx7, hE⟩ := bd hE
            refine s_ldJ hx hb hK hW hS hx7 dX6_spread_59 ?_
            refine lv_lconst (v := (0 : Int64)) hx hb dX6_spread_60 (by decide) ?_
            refine W.lcmp hx hb dX6_spread_61 ?_
            refine lv_if_eq (tgt := 72) hx hb dX6_spread_62 (by decide) (fun q8 => ?_) (fun q8 => ?_)
            · replace hE := ite_t q8 hE
              obtain ⟨y9, ey9⟩ : ∃ y : Int32, y = v5 + (1 : Int32) := ⟨_, rfl⟩
              replace hE := nm_o ey9 hE
              refine lv_iinc (k := 4) (v := y9) (lv' := [(5, .int y9), (0, rr G v0), (2, .int v2), (3, rr G v3), (4, .int v4)]) hx hb dX6_spread_72 hl rfl (by rw [ey9]; rfl) (by decide) rfl (fun ls hl => ?_)
              refine lv_goto (tgt := 44) hx hb dX6_spread_75 (by decide) ?_
              exact ih44 _ _ _ _ _ _ _ _ _ hE hW hS (lv_sub hl [1, 2, 3, 4, 0] rfl)
            · replace hE := ite_f q8 hE
              refine s_aload_n hx hb dX6_spread_65 rfl (lv_at hl 0 rfl) ?_
              refine lv_iload hx hb dX6_spread_66 (lv_at hl 4 rfl) ?_
              refine s_aload_n hx hb dX6_spread_68 rfl (lv_at hl 2 rfl) ?_
              obtain ⟨c10, hE⟩ := ck hE
              obtain ⟨f11, hf11, hE⟩ := bd hE
              refine s_callV (As := [.int v5, rr G v3]) (rest := []) CF hK hW hS (S_X6_passOn l G F hf11) c10 rfl gv_X6_105 hd_X6_passOn ⟨Nat.le_of_ble_eq_true rfl, Nat.le_of_ble_eq_true rfl⟩ rfl hl.1 rfl (Nat.le_of_ble_eq_true rfl) dX6_spread_69 ⟨Nat.le_refl _, Nat.le_refl _⟩ (fun H locs hW hS => ?_)
              obtain ⟨y12, ey12⟩ : ∃ y : Int32, y = v5 + (1 : Int32) := ⟨_, rfl⟩
              replace hE := nm_o ey12 hE
              refine lv_iinc (k := 4) (v := y12) (lv' := [(5, .int y12), (0, rr G v0), (2, .int v2), (3, rr G v3), (4, .int v4)]) hx hb dX6_spread_72 hl rfl (by rw [ey12]; rfl) (by decide) rfl (fun ls hl => ?_)
              refine lv_goto (tgt := 44) hx hb dX6_spread_75 (by decide) ?_
              exact ih44 _ _ _ _ _ _ _ _ _ hE hW hS (lv_sub hl [1, 2, 3, 4, 0] rfl)
      intro v0 v2 v3 v4 fa H locs ls hE hW hS hl
      replace hE : m_X6_spread_b27 F (m_X6_spread_L27 F k27) v0 v2 v3 v4 fa = some f' := hE
      refine lv_iload hx hb dX6_spread_27 (lv_at hl 3 rfl) ?_
      refine lv_iload_n hx hb dX6_spread_29 rfl (lv_at hl 1 rfl) ?_
      refine lv_icmp_ge (tgt := 104) hx hb dX6_spread_30 (by decide) (fun q1 => ?_) (fun q1 => ?_)
      · replace hE := ite_t q1 hE
        obtain rfl := so1 hE
        exact s_vret hx hb hr hlocks hW hS dX6_spread_104
      · replace hE := ite_f q1 hE
        refine s_aload_n hx hb dX6_spread_33 rfl (lv_at hl 0 rfl) ?_
        obtain ⟨x2, hx2, hE⟩ := bd hE
        refine s_gR hx hb hT u_X6 hown hK hW hx2 rfl (by decide) fl_X6_48 rfl dX6_spread_34 ?_
        refine lv_lconst (v := (0 : Int64)) hx hb dX6_spread_37 (by decide) ?_
        obtain ⟨f3, hf3, hE⟩ := bd hE
        refine s_callS (As := [rr G x2, .long (0 : Int64)]) (rest := []) CF hK hW hS (S_J7_fill_d0a16 l G F hf3) gs_X6_95 hd_J7_fill_d0a16.2 ⟨Nat.le_of_ble_eq_true rfl, Nat.le_of_ble_eq_true rfl⟩ rfl hl.1 rfl (Nat.le_of_ble_eq_true rfl) dX6_spread_38 ⟨Nat.le_refl _, Nat.le_refl _⟩ (fun H locs hW hS => ?_)
        refine lv_iconst (v := (0 : Int32)) hx hb dX6_spread_41 (by decide) ?_
        refine lv_istore (lv' := [(5, .int (0 : Int32)), (0, rr G v0), (2, .int v2), (3, rr G v3), (4, .int v4)]) hx hb dX6_spread_42 hl (by decide) rfl (fun ls hl => ?_)
        exact hC44 F _ _ _ _ _ _ _ _ _ hE hW hS (lv_sub hl [1, 2, 3, 4, 0] rfl)
  refine s_aload_n hx hb dX6_spread_0 rfl (lv_at hl 0 rfl) ?_
  obtain ⟨x18, hx18, hE⟩ := bd hE
  refine s_gR hx hb hT u_X6 hown hK hW hx18 rfl (by decide) fl_X6_44 rfl dX6_spread_1 ?_
  refine lv_lconst (v := (0 : Int64)) hx hb dX6_spread_4 (by decide) ?_
  obtain ⟨f19, hf19, hE⟩ := bd hE
  refine s_callS (As := [rr G x18, .long (0 : Int64)]) (rest := []) CF hK hW hS (S_J7_fill_d0a16 l G F hf19) gs_X6_95 hd_J7_fill_d0a16.2 ⟨Nat.le_of_ble_eq_true rfl, Nat.le_of_ble_eq_true rfl⟩ rfl hl.1 rfl (Nat.le_of_ble_eq_true rfl) dX6_spread_5 ⟨Nat.le_refl _, Nat.le_refl _⟩ (fun H locs hW hS => ?_)
  refine s_aload_n hx hb dX6_spread_8 rfl (lv_at hl 0 rfl) ?_
  refine lv_iload_n hx hb dX6_spread_9 rfl (lv_at hl 1 rfl) ?_
  obtain ⟨c20, hE⟩ := ck hE
  obtain ⟨x21, hx21, hE⟩ := bd hE
  refine s_callV (As := [.int u1]) (rest := []) CF hK hW hS (S_X6_has l G F hx21) c20 rfl gv_X6_101 hd_X6_has ⟨Nat.le_of_ble_eq_true rfl, Nat.le_of_ble_eq_true rfl⟩ rfl hl.1 rfl (Nat.le_of_ble_eq_true rfl) dX6_spread_10 ⟨Nat.le_refl _, Nat.le_refl _⟩ (fun H locs hW hS => ?_)
  refine lv_if_ne (tgt := 17) hx hb dX6_spread_13 (by decide) (fun q22 => ?_) (fun q22 => ?_)
  · replace hE := ite_f q22 hE
    refine s_aload_n hx hb dX6_spread_17 rfl (lv_at hl 0 rfl) ?_
    obtain ⟨x23, hx23, hE⟩ := bd hE
    refine s_gR hx hb hT u_X6 hown hK hW hx23 rfl (by decide) fl_X6_44 rfl dX6_spread_18 ?_
    refine lv_iload_n hx hb dX6_spread_21 rfl (lv_at hl 1 rfl) ?_
    refine lv_lconst (v := (1 : Int64)) hx hb dX6_spread_22 (by decide) ?_
    obtain ⟨f24, hf24, hE⟩ := bd hE
    refine s_stJ hx hb hK hW hS hf24 dX6_spread_23 (fun H locs hW hS => ?_)
    refine lv_iconst (v := (0 : Int32)) hx hb dX6_spread_24 (by decide) ?_
    refine lv_istore (lv' := [(4, .int (0 : Int32)), (0, rr G u0), (1, .int u1), (2, .int u2), (3, rr G u3)]) hx hb dX6_spread_25 hl (by decide) (by simp [cat_rr]) (fun ls hl => ?_)
    exact hC27 F _ _ _ _ _ _ _ _ hE hW hS (lv_sub hl [1, 3, 4, 0] rfl)
  · replace hE := ite_t q22 hE
    obtain rfl := so1 hE
    exact s_vret hx hb hr hlocks hW hS dX6_spread_16
set_option maxHeartbeats 4000000 in
set_option maxRecDepth 100000 in
theorem S_X11_again (l : Launch) (G : GG) (F : Nat) {u0 : Option Nat} {u1 : Int32} {f : Hp} {r : Int32} {f' : Hp} {n n2 z z2 : Nat} (hE : m_X11_again F u0 u1 f n z = some (r, f', n2, z2)) : Ctr l G yX11_again cX11_again 3 (some .int) 5 118 [rr G u0, .int u1] f n (some (.int r)) f' n2 (n2 - n) (z2 - z) := by
  refine Met.ofW (cc := cX11_again) (maxL := 3) (ret := (some .int)) (by decide) rfl ?_
  intro p e s m args below meth c s₁ B hml hv
  obtain ⟨rfl, hK, hW⟩ := hv
  have hx := B.exec
  have hb := B.bytes
  have hr := B.returns
  have hts := atoms_spec (ws := wsO yX11_again cX11_again 3 (some .int)) B.pre
  have hT : ∀ w ∈ TB, w.before [rr G u0, .int u1].toArray s = true := fun w hw => hts w (List.mem_cons_of_mem _ hw)
  have hown : s.vm.findClass RX11 = some m.cls := findClass_of_methodNamed B.named
  have hlocks := B.notSynchronized
  have CF : CallFix p m c cX11_again 3 s [rr G u0, .int u1].toArray TB RX11 := ⟨hx, hb, hml, hown, hT⟩
  have hS : va_S (WA G) s.heap s.heap [] := va_S.rf
  have hl : lv_has (lg_sl ([rr G u0, .int u1]) ++ List.replicate (3 - (lg_sl ([rr G u0, .int u1])).length) Slot.unset).toArray 3 [(0, rr G u0), (1, .int u1)] := by cases u0 <;> exact lv_entry _ (Nat.le_of_ble_eq_true rfl)
  rw [lg_entry_eq]
  generalize (lg_sl ([rr G u0, .int u1]) ++ List.replicate (3 - (lg_sl ([rr G u0, .int u1])).length) Slot.unset).toArray = ls at hl ⊢
  refine W.cs (cells' := n - n) (slots' := z - z) (by omega) (by omega) ?_
  refine lv_iload_n hx hb dX11_again_0 rfl (lv_at hl 1 rfl) ?_
  refine lv_bipush (v := (10 : Int32)) hx hb dX11_again_1 (by decide) ?_
  obtain ⟨g1a, g1b, hE⟩ := grow_of hE
  replace g1a : n ≤ n2 := g1a
  replace g1b : z ≤ z2 := g1b
  obtain ⟨x2, hx2, hE⟩ := bd hE
  refine s_callS (As := [.int u1, .int (10 : Int32)]) (rest := []) CF hK hW hS (S_X11_isWithin l G F hx2) gs_X11_235 hd_X11_isWithin.2 ⟨Nat.le_of_ble_eq_true rfl, Nat.le_of_ble_eq_true rfl⟩ rfl hl.1 rfl (Nat.le_of_ble_eq_true rfl) dX11_again_3 ⟨show n - n + 0 ≤ n2 - n by omega, show z - z + 0 ≤ z2 - z by omega⟩ (fun H locs hW hS => ?_)
  refine lv_if_ne (tgt := 11) hx hb dX11_again_6 (by decide) (fun q3 => ?_) (fun q3 => ?_)
  · replace hE := ite_f q3 hE
    refine s_aload_n hx hb dX11_again_11 rfl (lv_at hl 0 rfl) ?_
    obtain ⟨c4, hE⟩ := ck hE
    obtain ⟨x8, f7, nq5, zq6, hf7, hE⟩ := bd4_of hE
    obtain ⟨c9, hE⟩ := ck hE
    replace c9 := of_decide_eq_true c9
    obtain ⟨g10a, g10b, hE⟩ := grow_of hE
    replace g10a : nq5 ≤ n2 := g10a
    replace g10b : zq6 ≤ z2 := g10b
    refine s_callV (As := []) (rest := []) CF hK hW hS (S_X11_orders l G F hf7) c4 rfl gv_X11_145 hd_X11_orders ⟨Nat.le_of_ble_eq_true rfl, Nat.le_of_ble_eq_true rfl⟩ rfl hl.1 rfl (Nat.le_of_ble_eq_true rfl) dX11_again_12 ⟨show n - n + (nq5 - (n)) ≤ n2 - n by omega, show z - z + (zq6 - (z)) ≤ z2 - z by omega⟩ (fun H locs hW hS => ?_)
    refine W.cs (cells' := nq5 - n) (slots' := zq6 - z) (by omega) (by omega) ?_
    refine s_astore_n (i := 2) (lv' := [(2, rr G x8), (0, rr G u0), (1, .int u1)]) hx hb dX11_again_15 rfl hl (by decide) rfl (fun ls hl => ?_)
    refine s_aload_n hx hb dX11_again_16 rfl (lv_at hl 0 rfl) ?_
    refine lv_iconst (v := (0 : Int32)) hx hb dX11_again_17 (by decide) ?_
    refine lv_iload_n hx hb dX11_again_18 rfl (lv_at hl 2 rfl) ?_
    refine s_getSt hx hb hT hK hS hown 31 (by decide) (z31 hK) fl_X11_274 dX11_again_19 ?_
    obtain ⟨c11, hE⟩ := ck hE
    obtain ⟨g12a, g12b, hE⟩ := grow_of hE
    replace g12a : nq5 ≤ n2 := g12a
    replace g12b : zq6 ≤ z2 := g12b
    obtain ⟨f13, hf13, hE⟩ := bd hE
    refine s_callV (As := [.int (0 : Int32), .int u1, rr G (some 31)]) (rest := []) CF hK hW hS (S_X6_spread l G F hf13) c11 rfl gv_X11_243 hd_X6_spread ⟨Nat.le_of_ble_eq_true rfl, Nat.le_of_ble_eq_true rfl⟩ rfl hl.1 rfl (Nat.le_of_ble_eq_true rfl) dX11_again_22 ⟨show nq5 - n + 0 ≤ n2 - n by omega, show zq6 - z + 0 ≤ z2 - z by omega⟩ (fun H locs hW hS => ?_)
    refine s_aload_n hx hb dX11_again_25 rfl (lv_at hl 0 rfl) ?_
    obtain ⟨x14, hx14, hE⟩ := bd hE
    refine s_gR hx hb hT u_X6 hown hK hW hx14 rfl (by decide) fl_X11_247 rfl dX11_again_26 ?_
    refine lv_iconst (v := (0 : Int32)) hx hb dX11_again_29 (by decide) ?_
    obtain ⟨x15, hx15, hE⟩ := bd hE
    refine s_ldJ hx hb hK hW hS hx15 dX11_again_30 ?_
    refine lv_l2i (v := (Int64.toInt32 x15)) hx hb dX11_again_31 rfl ?_
    obtain ⟨rfl, rfl, rfl, rfl⟩ := so4 hE
    exact s_iret hx hb hr hlocks hW hS dX11_again_32
  · replace hE := ite_t q3 hE
    refine lv_iconst (v := (-1 : Int32)) hx hb dX11_again_9 (by decide) ?_
    obtain ⟨rfl, rfl, rfl, rfl⟩ := so4 hE
    exact s_iret hx hb hr hlocks hW hS dX11_again_10
set_option maxHeartbeats 4000000 in
set_option maxRecDepth 100000 in
theorem S_X11_areCopies (l : Launch) (G : GG) (F : Nat) {u0 : Option Nat} {u1 : Int32} {f : Hp} {r : Int32} {n : Nat} (hE : m_X11_areCopies F u0 u1 f = some r) : Ctr l G yX11_areCopies cX11_areCopies 3 (some .boolean) 1 21 [rr G u0, .int u1] f n (some (.int r)) f n 0 0 := by
  refine Met.ofW (cc := cX11_areCopies) (maxL := 3) (ret := (some .boolean)) (by decide) rfl ?_
  intro p e s m args below meth c s₁ B hml hv
  obtain ⟨rfl, hK, hW⟩ := hv
  have hx := B.exec
  have hb := B.bytes
  have hr := B.returns
  have hts := atoms_spec (ws := wsO yX11_areCopies cX11_areCopies 3 (some .boolean)) B.pre
  have hT : ∀ w ∈ TB, w.before [rr G u0, .int u1].toArray s = true := fun w hw => hts w (List.mem_cons_of_mem _ hw)
  have hown : s.vm.findClass RX11 = some m.cls := findClass_of_methodNamed B.named
  have hlocks := B.notSynchronized
  have CF : CallFix p m c cX11_areCopies 3 s [rr G u0, .int u1].toArray TB RX11 := ⟨hx, hb, hml, hown, hT⟩
  have hS : va_S (WA G) s.heap s.heap [] := va_S.rf
  have hl : lv_has (lg_sl ([rr G u0, .int u1]) ++ List.replicate (3 - (lg_sl ([rr G u0, .int u1])).length) Slot.unset).toArray 3 [(0, rr G u0), (1, .int u1)] := by cases u0 <;> exact lv_entry _ (Nat.le_of_ble_eq_true rfl)
  rw [lg_entry_eq]
  generalize (lg_sl ([rr G u0, .int u1]) ++ List.replicate (3 - (lg_sl ([rr G u0, .int u1])).length) Slot.unset).toArray = ls at hl ⊢
  have hC2 : ∀ (k2 : Nat), ∀ (v0 : Option Nat) (v1 : Int32) (v2 : Int32) (H : Heap) (locs : List Loc) (ls : Array Slot), m_X11_areCopies_L2 F k2 v0 v1 v2 f = some r → Wd G f n H → va_S (WA G) s.heap H locs → lv_has ls 3 [(0, rr G v0), (1, .int v1), (2, .int v2)] → W p l e (headSpec (wsO yX11_areCopies cX11_areCopies 3 (some .boolean)) { frames := 1, cells := 0, slots := 0, locals := 21 }).room s m [rr G u0, .int u1].toArray below meth c H locs 0 0 (MQ below (Qcn G (some (.int r)) f n) [rr G u0, .int u1].toArray s 0 0 (WA G)) (F0 m 2 ls []) := by
    intro k2
    induction k2 with
    | zero => intro v0 v1 v2 H locs ls hE _ _ _; cases (show (none : Option Int32) = some r from hE)
    | succ k2 ih2 =>
      intro v0 v1 v2 H locs ls hE hW hS hl
      replace hE : m_X11_areCopies_b2 F (m_X11_areCopies_L2 F k2) v0 v1 v2 f = some r := hE
      refine lv_iload_n hx hb dX11_areCopies_2 rfl (lv_at hl 2 rfl) ?_
      refine lv_iload_n hx hb dX11_areCopies_3 rfl (lv_at hl 1 rfl) ?_
      refine lv_icmp_ge (tgt := 30) hx hb dX11_areCopies_4 (by decide) (fun q1 => ?_) (fun q1 => ?_)
      · replace hE := ite_t q1 hE
        refine lv_iconst (v := (1 : Int32)) hx hb dX11_areCopies_30 (by decide) ?_
        obtain ⟨c2, hE⟩ := ck hE
        obtain rfl := so1 hE
        exact s_zret hx hb hr c2 hlocks hW hS dX11_areCopies_31
      · replace hE := ite_f q1 hE
        refine s_aload_n hx hb dX11_areCopies_7 rfl (lv_at hl 0 rfl) ?_
        refine lv_iload_n hx hb dX11_areCopies_8 rfl (lv_at hl 2 rfl) ?_
        obtain ⟨c3, hE⟩ := ck hE
        obtain ⟨x4, hx4, hE⟩ := bd hE
        refine s_callV (As := [.int v2]) (rest := []) CF hK hW hS (S_X11_byteAt l G F hx4) c3 rfl gv_X11_128 hd_X11_byteAt ⟨Nat.le_of_ble_eq_true rfl, Nat.le_of_ble_eq_true rfl⟩ rfl hl.1 rfl (Nat.le_of_ble_eq_true rfl) dX11_areCopies_9 ⟨Nat.le_refl _, Nat.le_refl _⟩ (fun H locs hW hS => ?_)
        refine s_aload_n hx hb dX11_areCopies_12 rfl (lv_at hl 0 rfl) ?_
        obtain ⟨x5, hx5, hE⟩ := bd hE
        refine s_gR hx hb hT u_X11 hown hK hW hx5 rfl (by decide) fl_X11_16 rfl dX11_areCopies_13 ?_
        obtain ⟨x6, hx6, hE⟩ := bd hE
        refine s_gI hx hb hT u_X4 hown hK hW hx6 rfl (by decide) fl_X11_142 rfl dX11_areCopies_16 ?_
        refine lv_icmp_lt (tgt := 24) hx hb dX11_areCopies_19 (by decide) (fun q7 => ?_) (fun q7 => ?_)
        · replace hE := ite_t q7 hE
          obtain ⟨y8, ey8⟩ : ∃ y : Int32, y = v2 + (1 : Int32) := ⟨_, rfl⟩
          replace hE := nm_o ey8 hE
          refine lv_iinc (k := 2) (v := y8) (lv' := [(2, .int y8), (0, rr G v0), (1, .int v1)]) hx hb dX11_areCopies_24 hl rfl (by rw [ey8]; rfl) (by decide) rfl (fun ls hl => ?_)
          refine lv_goto (tgt := 2) hx hb dX11_areCopies_27 (by decide) ?_
          exact ih2 _ _ _ _ _ _ hE hW hS (lv_sub hl [1, 2, 0] rfl)
        · replace hE := ite_f q7 hE
          refine lv_iconst (v := (0 : Int32)) hx hb dX11_areCopies_22 (by decide) ?_
          obtain ⟨c9, hE⟩ := ck hE
          obtain rfl := so1 hE
          exact s_zret hx hb hr c9 hlocks hW hS dX11_areCopies_23
  refine lv_iconst (v := (0 : Int32)) hx hb dX11_areCopies_0 (by decide) ?_
  refine lv_istore_n (i := 2) (lv' := [(2, .int (0 : Int32)), (0, rr G u0), (1, .int u1)]) hx hb dX11_areCopies_1 rfl hl (by decide) rfl (fun ls hl => ?_)
  exact hC2 F _ _ _ _ _ _ hE hW hS (lv_sub hl [1, 2, 0] rfl)
set_option maxHeartbeats 4000000 in
set_option maxRecDepth 100000 in
theorem S_X11_areUnlike (l : Launch) (G : GG) (F : Nat) {u0 : Option Nat} {u1 : Int32} {f : Hp} {r : Int32} {n : Nat} (hE : m_X11_areUnlike F u0 u1 f = some r) : Ctr l G yX11_areUnlike cX11_areUnlike 4 (some .boolean) 1 21 [rr G u0, .int u1] f n (some (.int r)) f n 0 0 := by
  refine Met.ofW (cc := cX11_areUnlike) (maxL := 4) (ret := (some .boolean)) (by decide) rfl ?_
  intro p e s m args below meth c s₁ B hml hv
  obtain ⟨rfl, hK, hW⟩ := hv
  have hx := B.exec
  have hb := B.bytes
  have hr := B.returns
  have hts := atoms_spec (ws := wsO yX11_areUnlike cX11_areUnlike 4 (some .boolean)) B.pre
  have hT : ∀ w ∈ TB, w.before [rr G u0, .int u1].toArray s = true := fun w hw => hts w (List.mem_cons_of_mem _ hw)
  have hown : s.vm.findClass RX11 = some m.cls := findClass_of_methodNamed B.named
  have hlocks := B.notSynchronized
  have CF : CallFix p m c cX11_areUnlike 4 s [rr G u0, .int u1].toArray TB RX11 := ⟨hx, hb, hml, hown, hT⟩
  have hS : va_S (WA G) s.heap s.heap [] := va_S.rf
  have hl : lv_has (lg_sl ([rr G u0, .int u1]) ++ List.replicate (4 - (lg_sl ([rr G u0, .int u1])).length) Slot.unset).toArray 4 [(0, rr G u0), (1, .int u1)] := by cases u0 <;> exact lv_entry _ (Nat.le_of_ble_eq_true rfl)
  rw [lg_entry_eq]
  generalize (lg_sl ([rr G u0, .int u1]) ++ List.replicate (4 - (lg_sl ([rr G u0, .int u1])).length) Slot.unset).toArray = ls at hl ⊢
  have hC2 : ∀ (k2 : Nat), ∀ (v0 : Option Nat) (v1 : Int32) (v2 : Int32) (H : Heap) (locs : List Loc) (ls : Array Slot), m_X11_areUnlike_L2 F k2 v0 v1 v2 f = some r → Wd G f n H → va_S (WA G) s.heap H locs → lv_has ls 4 [(0, rr G v0), (1, .int v1), (2, .int v2)] → W p l e (headSpec (wsO yX11_areUnlike cX11_areUnlike 4 (some .boolean)) { frames := 1, cells := 0, slots := 0, locals := 21 }).room s m [rr G u0, .int u1].toArray below meth c H locs 0 0 (MQ below (Qcn G (some (.int r)) f n) [rr G u0, .int u1].toArray s 0 0 (WA G)) (F0 m 2 ls []) := by
    intro k2
    induction k2 with
    | zero => intro v0 v1 v2 H locs ls hE _ _ _; cases (show (none : Option Int32) = some r from hE)
    | succ k2 ih2 =>
      have hC9 : ∀ (k9 : Nat), ∀ (v0 : Option Nat) (v1 : Int32) (v2 : Int32) (v3 : Int32) (H : Heap) (locs : List Loc) (ls : Array Slot), m_X11_areUnlike_L9 F (m_X11_areUnlike_L2 F k2) k9 v0 v1 v2 v3 f = some r → Wd G f n H → va_S (WA G) s.heap H locs → lv_has ls 4 [(0, rr G v0), (1, .int v1), (2, .int v2), (3, .int v3)] → W p l e (headSpec (wsO yX11_areUnlike cX11_areUnlike 4 (some .boolean)) { frames := 1, cells := 0, slots := 0, locals := 21 }).room s m [rr G u0, .int u1].toArray below meth c H locs 0 0 (MQ below (Qcn G (some (.int r)) f n) [rr G u0, .int u1].toArray s 0 0 (WA G)) (F0 m 9 ls []) := by
        intro k9
        induction k9 with
        | zero => intro v0 v1 v2 v3 H locs ls hE _ _ _; cases (show (none : Option Int32) = some r from hE)
        | succ k9 ih9 =>
          intro v0 v1 v2 v3 H locs ls hE hW hS hl
          replace hE : m_X11_areUnlike_b9 F (m_X11_areUnlike_L2 F k2) (m_X11_areUnlike_L9 F (m_X11_areUnlike_L2 F k2) k9) v0 v1 v2 v3 f = some r := hE
          refine lv_iload_n hx hb dX11_areUnlike_9 rfl (lv_at hl 3 rfl) ?_
          refine lv_iload_n hx hb dX11_areUnlike_10 rfl (lv_at hl 2 rfl) ?_
          refine lv_icmp_ge (tgt := 35) hx hb dX11_areUnlike_11 (by decide) (fun q3 => ?_) (fun q3 => ?_)
          · replace hE := ite_t q3 hE
            obtain ⟨y4, ey4⟩ : ∃ y : Int32, y = v2 + (1 : Int32) := ⟨_, rfl⟩
            replace hE := nm_o ey4 hE
            refine lv_iinc (k := 2) (v := y4) (lv' := [(2, .int y4), (0, rr G v0), (1, .int v1), (3, .int v3)]) hx hb dX11_areUnlike_35 hl rfl (by rw [ey4]; rfl) (by decide) rfl (fun ls hl => ?_)
            refine lv_goto (tgt := 2) hx hb dX11_areUnlike_38 (by decide) ?_
            exact ih2 _ _ _ _ _ _ hE hW hS (lv_sub hl [1, 2, 0] rfl)
          · replace hE := ite_f q3 hE
            refine s_aload_n hx hb dX11_areUnlike_14 rfl (lv_at hl 0 rfl) ?_
            refine lv_iload_n hx hb dX11_areUnlike_15 rfl (lv_at hl 2 rfl) ?_
            obtain ⟨c5, hE⟩ := ck hE
            obtain ⟨x6, hx6, hE⟩ := bd hE
            refine s_callV (As := [.int v2]) (rest := []) CF hK hW hS (S_X11_byteAt l G F hx6) c5 rfl gv_X11_128 hd_X11_byteAt ⟨Nat.le_of_ble_eq_true rfl, Nat.le_of_ble_eq_true rfl⟩ rfl hl.1 rfl (Nat.le_of_ble_eq_true rfl) dX11_areUnlike_16 ⟨Nat.le_refl _, Nat.le_refl _⟩ (fun H locs hW hS => ?_)
            refine s_aload_n hx hb dX11_areUnlike_19 rfl (lv_at hl 0 rfl) ?_
            refine lv_iload_n hx hb dX11_areUnlike_20 rfl (lv_at hl 3 rfl) ?_
            obtain ⟨c7, hE⟩ := ck hE
            obtain ⟨x8, hx8, hE⟩ := bd hE
            refine s_callV (As := [.int v3]) (rest := [.int x6]) CF hK hW hS (S_X11_byteAt l G F hx8) c7 rfl gv_X11_128 hd_X11_byteAt ⟨Nat.le_of_ble_eq_true rfl, Nat.le_of_ble_eq_true rfl⟩ rfl hl.1 rfl (Nat.le_of_ble_eq_true rfl) dX11_areUnlike_21 ⟨Nat.le_refl _, Nat.le_refl _⟩ (fun H locs hW hS => ?_)
            refine lv_icmp_ne (tgt := 29) hx hb dX11_areUnlike_24 (by decide) (fun q9 => ?_) (fun q9 => ?_)
            · replace hE := ite_f q9 hE
              obtain ⟨y10, ey10⟩ : ∃ y : Int32, y = v3 + (1 : Int32) := ⟨_, rfl⟩
              replace hE := nm_o ey10 hE
              refine lv_iinc (k := 3) (v := y10) (lv' := [(3, .int y10), (0, rr G v0), (1, .int v1), (2, .int v2)]) hx hb dX11_areUnlike_29 hl rfl (by rw [ey10]; rfl) (by decide) rfl (fun ls hl => ?_)
              refine lv_goto (tgt := 9) hx hb dX11_areUnlike_32 (by decide) ?_
              exact ih9 _ _ _ _ _ _ _ hE hW hS (lv_sub hl [1, 2, 3, 0] rfl)
            · replace hE := ite_t q9 hE
              refine lv_iconst (v := (0 : Int32)) hx hb dX11_areUnlike_27 (by decide) ?_
              obtain ⟨c11, hE⟩ := ck hE
              obtain rfl := so1 hE
              exact s_zret hx hb hr c11 hlocks hW hS dX11_areUnlike_28
      intro v0 v1 v2 H locs ls hE hW hS hl
      replace hE : m_X11_areUnlike_b2 F (m_X11_areUnlike_L2 F k2) v0 v1 v2 f = some r := hE
      refine lv_iload_n hx hb dX11_areUnlike_2 rfl (lv_at hl 2 rfl) ?_
      refine lv_iload_n hx hb dX11_areUnlike_3 rfl (lv_at hl 1 rfl) ?_
      refine lv_icmp_ge (tgt := 41) hx hb dX11_areUnlike_4 (by decide) (fun q1 => ?_) (fun q1 => ?_)
      · replace hE := ite_t q1 hE
        refine lv_iconst (v := (1 : Int32)) hx hb dX11_areUnlike_41 (by decide) ?_
        obtain ⟨c2, hE⟩ := ck hE
        obtain rfl := so1 hE
        exact s_zret hx hb hr c2 hlocks hW hS dX11_areUnlike_42
      · replace hE := ite_f q1 hE
        refine lv_iconst (v := (0 : Int32)) hx hb dX11_areUnlike_7 (by decide) ?_
        refine lv_istore_n (i := 3) (lv' := [(3, .int (0 : Int32)), (0, rr G v0), (1, .int v1), (2, .int v2)]) hx hb dX11_areUnlike_8 rfl hl (by decide) rfl (fun ls hl => ?_)
        exact hC9 F _ _ _ _ _ _ _ hE hW hS (lv_sub hl [1, 2, 3, 0] rfl)
  refine lv_iconst (v := (0 : Int32)) hx hb dX11_areUnlike_0 (by decide) ?_
  refine lv_istore_n (i := 2) (lv' := [(2, .int (0 : Int32)), (0, rr G u0), (1, .int u1)]) hx hb dX11_areUnlike_1 rfl hl (by decide) rfl (fun ls hl => ?_)
  exact hC2 F _ _ _ _ _ _ hE hW hS (lv_sub hl [1, 2, 0] rfl)
set_option maxHeartbeats 4000000 in
set_option maxRecDepth 100000 in
theorem S_X4_copyAt (l : Launch) (G : GG) (F : Nat) {u0 : Option Nat} {u1 : Int32} {f : Hp} {r : Option Nat} {n : Nat} (hE : m_X4_copyAt F u0 u1 f = some r) : Ctr l G yX4_copyAt cX4_copyAt 2 (some (.object "CopyOrders$Copy")) 0 0 [rr G u0, .int u1] f n (some (rr G r)) f n 0 0 := by
  refine Met.ofW (cc := cX4_copyAt) (maxL := 2) (ret := (some (.object "CopyOrders$Copy"))) (by decide) rfl ?_
  intro p e s m args below meth c s₁ B hml hv
  obtain ⟨rfl, hK, hW⟩ := hv
  have hx := B.exec
  have hb := B.bytes
  have hr := B.returns
  have hts := atoms_spec (ws := wsO yX4_copyAt cX4_copyAt 2 (some (.object "CopyOrders$Copy"))) B.pre
  have hT : ∀ w ∈ TB, w.before [rr G u0, .int u1].toArray s = true := fun w hw => hts w (List.mem_cons_of_mem _ hw)
  have hown : s.vm.findClass RX4 = some m.cls := findClass_of_methodNamed B.named
  have hlocks := B.notSynchronized
  have CF : CallFix p m c cX4_copyAt 2 s [rr G u0, .int u1].toArray TB RX4 := ⟨hx, hb, hml, hown, hT⟩
  have hS : va_S (WA G) s.heap s.heap [] := va_S.rf
  have hl : lv_has (lg_sl ([rr G u0, .int u1]) ++ List.replicate (2 - (lg_sl ([rr G u0, .int u1])).length) Slot.unset).toArray 2 [(0, rr G u0), (1, .int u1)] := by cases u0 <;> exact lv_entry _ (Nat.le_of_ble_eq_true rfl)
  rw [lg_entry_eq]
  generalize (lg_sl ([rr G u0, .int u1]) ++ List.replicate (2 - (lg_sl ([rr G u0, .int u1])).length) Slot.unset).toArray = ls at hl ⊢
  refine lv_iload_n hx hb dX4_copyAt_0 rfl (lv_at hl 1 rfl) ?_
  refine lv_if_lt (tgt := 27) hx hb dX4_copyAt_1 (by decide) (fun q1 => ?_) (fun q1 => ?_)
  · replace hE := ite_t q1 hE
    refine s_null (G := G) hx hb dX4_copyAt_27 ?_
    obtain rfl := so1 hE
    exact s_aret hx hb hr (Or.inl ⟨_, rfl⟩) hlocks hW hS dX4_copyAt_28
  · replace hE := ite_f q1 hE
    refine lv_iload_n hx hb dX4_copyAt_4 rfl (lv_at hl 1 rfl) ?_
    refine s_aload_n hx hb dX4_copyAt_5 rfl (lv_at hl 0 rfl) ?_
    obtain ⟨x2, hx2, hE⟩ := bd hE
    refine s_gI hx hb hT u_X4 hown hK hW hx2 rfl (by decide) fl_X4_55 rfl dX4_copyAt_6 ?_
    refine lv_icmp_ge (tgt := 27) hx hb dX4_copyAt_9 (by decide) (fun q3 => ?_) (fun q3 => ?_)
    · replace hE := ite_t q3 hE
      refine s_null (G := G) hx hb dX4_copyAt_27 ?_
      obtain rfl := so1 hE
      exact s_aret hx hb hr (Or.inl ⟨_, rfl⟩) hlocks hW hS dX4_copyAt_28
    · replace hE := ite_f q3 hE
      refine lv_iload_n hx hb dX4_copyAt_12 rfl (lv_at hl 1 rfl) ?_
      refine lv_bipush (v := (10 : Int32)) hx hb dX4_copyAt_13 (by decide) ?_
      refine lv_icmp_ge (tgt := 27) hx hb dX4_copyAt_15 (by decide) (fun q4 => ?_) (fun q4 => ?_)
      · replace hE := ite_t q4 hE
        refine s_null (G := G) hx hb dX4_copyAt_27 ?_
        obtain rfl := so1 hE
        exact s_aret hx hb hr (Or.inl ⟨_, rfl⟩) hlocks hW hS dX4_copyAt_28
      · replace hE := ite_f q4 hE
        refine s_aload_n hx hb dX4_copyAt_18 rfl (lv_at hl 0 rfl) ?_
        obtain ⟨x5, hx5, hE⟩ := bd hE
        refine s_gR hx hb hT u_X4 hown hK hW hx5 rfl (by decide) fl_X4_17 rfl dX4_copyAt_19 ?_
        refine lv_iload_n hx hb dX4_copyAt_22 rfl (lv_at hl 1 rfl) ?_
        obtain ⟨x6, hx6, hE⟩ := bd hE
        refine s_ldR hx hb hK hW hS hx6 (by decide) rfl dX4_copyAt_23 ?_
        refine lv_goto (tgt := 28) hx hb dX4_copyAt_24 (by decide) ?_
        obtain rfl := so1 hE
        exact s_aret hx hb hr (Or.inl ⟨_, rfl⟩) hlocks hW hS dX4_copyAt_28
set_option maxHeartbeats 4000000 in
set_option maxRecDepth 100000 in
theorem S_X4_wholeAt (l : Launch) (G : GG) (F : Nat) {u0 : Option Nat} {u1 : Int32} {f : Hp} {r : Option Nat} {n : Nat} (hE : m_X4_wholeAt F u0 u1 f = some r) : Ctr l G yX4_wholeAt cX4_wholeAt 3 (some (.object "CopyOrders$Copy")) 1 21 [rr G u0, .int u1] f n (some (rr G r)) f n 0 0 := by
  refine Met.ofW (cc := cX4_wholeAt) (maxL := 3) (ret := (some (.object "CopyOrders$Copy"))) (by decide) rfl ?_
  intro p e s m args below meth c s₁ B hml hv
  obtain ⟨rfl, hK, hW⟩ := hv
  have hx := B.exec
  have hb := B.bytes
  have hr := B.returns
  have hts := atoms_spec (ws := wsO yX4_wholeAt cX4_wholeAt 3 (some (.object "CopyOrders$Copy"))) B.pre
  have hT : ∀ w ∈ TB, w.before [rr G u0, .int u1].toArray s = true := fun w hw => hts w (List.mem_cons_of_mem _ hw)
  have hown : s.vm.findClass RX4 = some m.cls := findClass_of_methodNamed B.named
  have hlocks := B.notSynchronized
  have CF : CallFix p m c cX4_wholeAt 3 s [rr G u0, .int u1].toArray TB RX4 := ⟨hx, hb, hml, hown, hT⟩
  have hS : va_S (WA G) s.heap s.heap [] := va_S.rf
  have hl : lv_has (lg_sl ([rr G u0, .int u1]) ++ List.replicate (3 - (lg_sl ([rr G u0, .int u1])).length) Slot.unset).toArray 3 [(0, rr G u0), (1, .int u1)] := by cases u0 <;> exact lv_entry _ (Nat.le_of_ble_eq_true rfl)
  rw [lg_entry_eq]
  generalize (lg_sl ([rr G u0, .int u1]) ++ List.replicate (3 - (lg_sl ([rr G u0, .int u1])).length) Slot.unset).toArray = ls at hl ⊢
  refine s_aload_n hx hb dX4_wholeAt_0 rfl (lv_at hl 0 rfl) ?_
  refine lv_iload_n hx hb dX4_wholeAt_1 rfl (lv_at hl 1 rfl) ?_
  obtain ⟨c1, hE⟩ := ck hE
  obtain ⟨x2, hx2, hE⟩ := bd hE
  refine s_callV (As := [.int u1]) (rest := []) CF hK hW hS (S_X4_copyAt l G F hx2) c1 rfl gv_X4_86 hd_X4_copyAt ⟨Nat.le_of_ble_eq_true rfl, Nat.le_of_ble_eq_true rfl⟩ rfl hl.1 rfl (Nat.le_of_ble_eq_true rfl) dX4_wholeAt_2 ⟨Nat.le_refl _, Nat.le_refl _⟩ (fun H locs hW hS => ?_)
  refine s_astore_n (i := 2) (lv' := [(2, rr G x2), (0, rr G u0), (1, .int u1)]) hx hb dX4_wholeAt_5 rfl hl (by decide) rfl (fun ls hl => ?_)
  refine s_aload_n hx hb dX4_wholeAt_6 rfl (lv_at hl 0 rfl) ?_
  refine s_ifnull (tgt := 25) hx hb dX4_wholeAt_7 (by decide) (fun q3 => ?_) (fun q3 => ?_)
  · replace hE := ite_t q3 hE
    refine s_null (G := G) hx hb dX4_wholeAt_25 ?_
    obtain rfl := so1 hE
    exact s_aret hx hb hr (Or.inl ⟨_, rfl⟩) hlocks hW hS dX4_wholeAt_26
  · replace hE := ite_f q3 hE
    refine s_aload_n hx hb dX4_wholeAt_10 rfl (lv_at hl 0 rfl) ?_
    obtain ⟨x4, hx4, hE⟩ := bd hE
    refine s_gI hx hb hT u_X1 hown hK hW hx4 rfl (by decide) fl_X4_90 rfl dX4_wholeAt_11 ?_
    refine s_aload_n hx hb dX4_wholeAt_14 rfl (lv_at hl 1 rfl) ?_
    obtain ⟨x5, hx5, hE⟩ := bd hE
    refine s_gI hx hb hT u_X4 hown hK hW hx5 rfl (by decide) fl_X4_9 rfl dX4_wholeAt_15 ?_
    refine lv_icmp_ne (tgt := 25) hx hb dX4_wholeAt_18 (by decide) (fun q6 => ?_) (fun q6 => ?_)
    · replace hE := ite_f q6 hE
      refine s_null (G := G) hx hb dX4_wholeAt_25 ?_
      obtain rfl := so1 hE
      exact s_aret hx hb hr (Or.inl ⟨_, rfl⟩) hlocks hW hS dX4_wholeAt_26
    · replace hE := ite_t q6 hE
      refine s_aload_n hx hb dX4_wholeAt_21 rfl (lv_at hl 0 rfl) ?_
      refine lv_goto (tgt := 26) hx hb dX4_wholeAt_22 (by decide) ?_
      obtain rfl := so1 hE
      exact s_aret hx hb hr (Or.inl ⟨_, rfl⟩) hlocks hW hS dX4_wholeAt_26
set_option maxHeartbeats 4000000 in
set_option maxRecDepth 100000 in
theorem S_J6_bitCount_0f7a4 (l : Launch) (G : GG) (F : Nat) {u0 : Int32} {f : Hp} {r : Int32} {n : Nat} (hE : m_J6_bitCount_0f7a4 F u0 f = some r) : Ctr l G yJ6_bitCount_0f7a4 cJ6_bitCount_0f7a4 1 (some .int) 0 0 [.int u0] f n (some (.int r)) f n 0 0 := by
  refine Met.ofW (cc := cJ6_bitCount_0f7a4) (maxL := 1) (ret := (some .int)) (by decide) rfl ?_
  intro p e s m args below meth c s₁ B hml hv
  obtain ⟨rfl, hK, hW⟩ := hv
  have hx := B.exec
  have hb := B.bytes
  have hr := B.returns
  have hts := atoms_spec (ws := wsO yJ6_bitCount_0f7a4 cJ6_bitCount_0f7a4 1 (some .int)) B.pre
  have hT : ∀ w ∈ TB, w.before [.int u0].toArray s = true := fun w hw => hts w (List.mem_cons_of_mem _ hw)
  have hown : s.vm.findClass RJ6 = some m.cls := findClass_of_methodNamed B.named
  have hlocks := B.notSynchronized
  have CF : CallFix p m c cJ6_bitCount_0f7a4 1 s [.int u0].toArray TB RJ6 := ⟨hx, hb, hml, hown, hT⟩
  have hS : va_S (WA G) s.heap s.heap [] := va_S.rf
  have hl : lv_has (lg_sl ([.int u0]) ++ List.replicate (1 - (lg_sl ([.int u0])).length) Slot.unset).toArray 1 [(0, .int u0)] := by exact lv_entry [.int u0] (Nat.le_of_ble_eq_true rfl)
  rw [lg_entry_eq]
  generalize (lg_sl ([.int u0]) ++ List.replicate (1 - (lg_sl ([.int u0])).length) Slot.unset).toArray = ls at hl ⊢
  refine lv_iload_n hx hb dJ6_bitCount_0f7a4_0 rfl (lv_at hl 0 rfl) ?_
  refine lv_iload_n hx hb dJ6_bitCount_0f7a4_1 rfl (lv_at hl 0 rfl) ?_
  refine lv_iconst (v := (1 : Int32)) hx hb dJ6_bitCount_0f7a4_2 (by decide) ?_
  refine lv_iushr (v := (ius u0 (1 : Int32))) hx hb dJ6_bitCount_0f7a4_3 rfl ?_
  refine lv_ldcw (v := (1431655765 : Int32)) hx hb hown (hT _ kc_J6_265) dJ6_bitCount_0f7a4_4 ?_
  refine lv_iand hx hb dJ6_bitCount_0f7a4_7 ?_
  refine lv_isub hx hb dJ6_bitCount_0f7a4_8 ?_
  refine lv_topi (fun y1 ey1 => ?_)
  replace hE := nm_o ey1 hE
  refine lv_istore_n (i := 0) (lv' := [(0, .int y1)]) hx hb dJ6_bitCount_0f7a4_9 rfl hl (by decide) rfl (fun ls hl => ?_)
  refine lv_iload_n hx hb dJ6_bitCount_0f7a4_10 rfl (lv_at hl 0 rfl) ?_
  refine lv_ldcw (v := (858993459 : Int32)) hx hb hown (hT _ kc_J6_266) dJ6_bitCount_0f7a4_11 ?_
  refine lv_iand hx hb dJ6_bitCount_0f7a4_14 ?_
  refine lv_iload_n hx hb dJ6_bitCount_0f7a4_15 rfl (lv_at hl 0 rfl) ?_
  refine lv_iconst (v := (2 : Int32)) hx hb dJ6_bitCount_0f7a4_16 (by decide) ?_
  refine lv_iushr (v := (ius y1 (2 : Int32))) hx hb dJ6_bitCount_0f7a4_17 rfl ?_
  refine lv_ldcw (v := (858993459 : Int32)) hx hb hown (hT _ kc_J6_266) dJ6_bitCount_0f7a4_18 ?_
  refine lv_iand hx hb dJ6_bitCount_0f7a4_21 ?_
  refine lv_iadd hx hb dJ6_bitCount_0f7a4_22 ?_
  refine lv_topi (fun y2 ey2 => ?_)
  replace hE := nm_o ey2 hE
  refine lv_istore_n (i := 0) (lv' := [(0, .int y2)]) hx hb dJ6_bitCount_0f7a4_23 rfl hl (by decide) rfl (fun ls hl => ?_)
  refine lv_iload_n hx hb dJ6_bitCount_0f7a4_24 rfl (lv_at hl 0 rfl) ?_
  refine lv_iload_n hx hb dJ6_bitCount_0f7a4_25 rfl (lv_at hl 0 rfl) ?_
  refine lv_iconst (v := (4 : Int32)) hx hb dJ6_bitCount_0f7a4_26 (by decide) ?_
  refine lv_iushr (v := (ius y2 (4 : Int32))) hx hb dJ6_bitCount_0f7a4_27 rfl ?_
  refine lv_iadd hx hb dJ6_bitCount_0f7a4_28 ?_
  refine lv_ldcw (v := (252645135 : Int32)) hx hb hown (hT _ kc_J6_267) dJ6_bitCount_0f7a4_29 ?_
  refine lv_iand hx hb dJ6_bitCount_0f7a4_32 ?_
  refine lv_topi (fun y3 ey3 => ?_)
  replace hE := nm_o ey3 hE
  refine lv_istore_n (i := 0) (lv' := [(0, .int y3)]) hx hb dJ6_bitCount_0f7a4_33 rfl hl (by decide) rfl (fun ls hl => ?_)
  refine lv_iload_n hx hb dJ6_bitCount_0f7a4_34 rfl (lv_at hl 0 rfl) ?_
  refine lv_iload_n hx hb dJ6_bitCount_0f7a4_35 rfl (lv_at hl 0 rfl) ?_
  refine lv_bipush (v := (8 : Int32)) hx hb dJ6_bitCount_0f7a4_36 (by decide) ?_
  refine lv_iushr (v := (ius y3 (8 : Int32))) hx hb dJ6_bitCount_0f7a4_38 rfl ?_
  refine lv_iadd hx hb dJ6_bitCount_0f7a4_39 ?_
  refine lv_topi (fun y4 ey4 => ?_)
  replace hE := nm_o ey4 hE
  refine lv_istore_n (i := 0) (lv' := [(0, .int y4)]) hx hb dJ6_bitCount_0f7a4_40 rfl hl (by decide) rfl (fun ls hl => ?_)
  refine lv_iload_n hx hb dJ6_bitCount_0f7a4_41 rfl (lv_at hl 0 rfl) ?_
  refine lv_iload_n hx hb dJ6_bitCount_0f7a4_42 rfl (lv_at hl 0 rfl) ?_
  refine lv_bipush (v := (16 : Int32)) hx hb dJ6_bitCount_0f7a4_43 (by decide) ?_
  refine lv_iushr (v := (ius y4 (16 : Int32))) hx hb dJ6_bitCount_0f7a4_45 rfl ?_
  refine lv_iadd hx hb dJ6_bitCount_0f7a4_46 ?_
  refine lv_topi (fun y5 ey5 => ?_)
  replace hE := nm_o ey5 hE
  refine lv_istore_n (i := 0) (lv' := [(0, .int y5)]) hx hb dJ6_bitCount_0f7a4_47 rfl hl (by decide) rfl (fun ls hl => ?_)
  refine lv_iload_n hx hb dJ6_bitCount_0f7a4_48 rfl (lv_at hl 0 rfl) ?_
  refine lv_bipush (v := (63 : Int32)) hx hb dJ6_bitCount_0f7a4_49 (by decide) ?_
  refine lv_iand hx hb dJ6_bitCount_0f7a4_51 ?_
  obtain rfl := so1 hE
  exact s_iret hx hb hr hlocks hW hS dJ6_bitCount_0f7a4_52
set_option maxHeartbeats 4000000 in
set_option maxRecDepth 100000 in
theorem S_X6_stepsTo (l : Launch) (G : GG) (F : Nat) {u0 : Option Nat} {u1 : Int32} {u2 : Option Nat} {f : Hp} {r : Int32} {n : Nat} (hE : m_X6_stepsTo F u0 u1 u2 f = some r) : Ctr l G yX6_stepsTo cX6_stepsTo 3 (some .int) 1 20 [rr G u0, .int u1, rr G u2] f n (some (.int r)) f n 0 0 := by
  refine Met.ofW (cc := cX6_stepsTo) (maxL := 3) (ret := (some .int)) (by decide) rfl ?_
  intro p e s m args below meth c s₁ B hml hv
  obtain ⟨rfl, hK, hW⟩ := hv
  have hx := B.exec
  have hb := B.bytes
  have hr := B.returns
  have hts := atoms_spec (ws := wsO yX6_stepsTo cX6_stepsTo 3 (some .int)) B.pre
  have hT : ∀ w ∈ TB, w.before [rr G u0, .int u1, rr G u2].toArray s = true := fun w hw => hts w (List.mem_cons_of_mem _ hw)
  have hown : s.vm.findClass RX6 = some m.cls := findClass_of_methodNamed B.named
  have hlocks := B.notSynchronized
  have CF : CallFix p m c cX6_stepsTo 3 s [rr G u0, .int u1, rr G u2].toArray TB RX6 := ⟨hx, hb, hml, hown, hT⟩
  have hS : va_S (WA G) s.heap s.heap [] := va_S.rf
  have hl : lv_has (lg_sl ([rr G u0, .int u1, rr G u2]) ++ List.replicate (3 - (lg_sl ([rr G u0, .int u1, rr G u2])).length) Slot.unset).toArray 3 [(0, rr G u0), (1, .int u1), (2, rr G u2)] := by cases u0 <;> cases u2 <;> exact lv_entry _ (Nat.le_of_ble_eq_true rfl)
  rw [lg_entry_eq]
  generalize (lg_sl ([rr G u0, .int u1, rr G u2]) ++ List.replicate (3 - (lg_sl ([rr G u0, .int u1, rr G u2])).length) Slot.unset).toArray = ls at hl ⊢
  refine s_aload_n hx hb dX6_stepsTo_0 rfl (lv_at hl 0 rfl) ?_
  obtain ⟨x1, hx1, hE⟩ := bd hE
  refine s_gR hx hb hT u_X6 hown hK hW hx1 rfl (by decide) fl_X6_38 rfl dX6_stepsTo_1 ?_
  refine lv_iload_n hx hb dX6_stepsTo_4 rfl (lv_at hl 1 rfl) ?_
  obtain ⟨x2, hx2, hE⟩ := bd hE
  refine s_ldI hx hb hK hW hS hx2 dX6_stepsTo_5 ?_
  refine s_aload_n hx hb dX6_stepsTo_6 rfl (lv_at hl 2 rfl) ?_
  obtain ⟨x3, hx3, hE⟩ := bd hE
  refine s_gI hx hb hT u_X1 hown hK hW hx3 rfl (by decide) fl_X6_66 rfl dX6_stepsTo_7 ?_
  refine lv_ixor hx hb dX6_stepsTo_10 ?_
  refine s_aload_n hx hb dX6_stepsTo_11 rfl (lv_at hl 2 rfl) ?_
  obtain ⟨x4, hx4, hE⟩ := bd hE
  refine s_gI hx hb hT u_X1 hown hK hW hx4 rfl (by decide) fl_X6_76 rfl dX6_stepsTo_12 ?_
  refine lv_iand hx hb dX6_stepsTo_15 ?_
  obtain ⟨x5, hx5, hE⟩ := bd hE
  refine s_callS (As := [.int ((x2 ^^^ x3) &&& x4)]) (rest := []) CF hK hW hS (S_J6_bitCount_0f7a4 l G F hx5) gs_X6_79 hd_J6_bitCount_0f7a4.2 ⟨Nat.le_of_ble_eq_true rfl, Nat.le_of_ble_eq_true rfl⟩ rfl hl.1 rfl (Nat.le_of_ble_eq_true rfl) dX6_stepsTo_16 ⟨Nat.le_refl _, Nat.le_refl _⟩ (fun H locs hW hS => ?_)
  obtain rfl := so1 hE
  exact s_iret hx hb hr hlocks hW hS dX6_stepsTo_19
set_option maxHeartbeats 4000000 in
set_option maxRecDepth 100000 in
theorem S_X4_gainOf (l : Launch) (G : GG) (F : Nat) {u0 : Option Nat} {u1 : Int32} {u2 : Int32} {f : Hp} {r : Int32} {n : Nat} (hE : m_X4_gainOf F u0 u1 u2 f = some r) : Ctr l G yX4_gainOf cX4_gainOf 4 (some .int) 0 0 [rr G u0, .int u1, .int u2] f n (some (.int r)) f n 0 0 := by
  refine Met.ofW (cc := cX4_gainOf) (maxL := 4) (ret := (some .int)) (by decide) rfl ?_
  intro p e s m args below meth c s₁ B hml hv
  obtain ⟨rfl, hK, hW⟩ := hv
  have hx := B.exec
  have hb := B.bytes
  have hr := B.returns
  have hts := atoms_spec (ws := wsO yX4_gainOf cX4_gainOf 4 (some .int)) B.pre
  have hT : ∀ w ∈ TB, w.before [rr G u0, .int u1, .int u2].toArray s = true := fun w hw => hts w (List.mem_cons_of_mem _ hw)
  have hown : s.vm.findClass RX4 = some m.cls := findClass_of_methodNamed B.named
  have hlocks := B.notSynchronized
  have CF : CallFix p m c cX4_gainOf 4 s [rr G u0, .int u1, .int u2].toArray TB RX4 := ⟨hx, hb, hml, hown, hT⟩
  have hS : va_S (WA G) s.heap s.heap [] := va_S.rf
  have hl : lv_has (lg_sl ([rr G u0, .int u1, .int u2]) ++ List.replicate (4 - (lg_sl ([rr G u0, .int u1, .int u2])).length) Slot.unset).toArray 4 [(0, rr G u0), (1, .int u1), (2, .int u2)] := by cases u0 <;> exact lv_entry _ (Nat.le_of_ble_eq_true rfl)
  rw [lg_entry_eq]
  generalize (lg_sl ([rr G u0, .int u1, .int u2]) ++ List.replicate (4 - (lg_sl ([rr G u0, .int u1, .int u2])).length) Slot.unset).toArray = ls at hl ⊢
  refine lv_iload_n hx hb dX4_gainOf_0 rfl (lv_at hl 1 rfl) ?_
  refine lv_bipush (v := (7 : Int32)) hx hb dX4_gainOf_1 (by decide) ?_
  refine lv_imul hx hb dX4_gainOf_3 ?_
  refine lv_iload_n hx hb dX4_gainOf_4 rfl (lv_at hl 2 rfl) ?_
  refine lv_iadd hx hb dX4_gainOf_5 ?_
  refine lv_topi (fun y1 ey1 => ?_)
  replace hE := nm_o ey1 hE
  refine lv_istore_n (i := 3) (lv' := [(3, .int y1), (0, rr G u0), (1, .int u1), (2, .int u2)]) hx hb dX4_gainOf_6 rfl hl (by decide) rfl (fun ls hl => ?_)
  refine lv_iload_n hx hb dX4_gainOf_7 rfl (lv_at hl 0 rfl) ?_
  refine lv_if_lt (tgt := 29) hx hb dX4_gainOf_8 (by decide) (fun q2 => ?_) (fun q2 => ?_)
  · replace hE := ite_t q2 hE
    refine lv_iconst (v := (0 : Int32)) hx hb dX4_gainOf_29 (by decide) ?_
    obtain rfl := so1 hE
    exact s_iret hx hb hr hlocks hW hS dX4_gainOf_30
  · replace hE := ite_f q2 hE
    refine lv_iload_n hx hb dX4_gainOf_11 rfl (lv_at hl 0 rfl) ?_
    refine s_aload_n hx hb dX4_gainOf_12 rfl (lv_at hl 1 rfl) ?_
    obtain ⟨x3, hx3, hE⟩ := bd hE
    refine s_gR hx hb hT u_X4 hown hK hW hx3 rfl (by decide) fl_X4_37 rfl dX4_gainOf_13 ?_
    obtain ⟨x4, hx4, hE⟩ := bd hE
    refine s_alen hx hb hK hW hS hx4 dX4_gainOf_16 ?_
    refine lv_icmp_ge (tgt := 29) hx hb dX4_gainOf_17 (by decide) (fun q5 => ?_) (fun q5 => ?_)
    · replace hE := ite_t q5 hE
      refine lv_iconst (v := (0 : Int32)) hx hb dX4_gainOf_29 (by decide) ?_
      obtain rfl := so1 hE
      exact s_iret hx hb hr hlocks hW hS dX4_gainOf_30
    · replace hE := ite_f q5 hE
      refine s_aload_n hx hb dX4_gainOf_20 rfl (lv_at hl 1 rfl) ?_
      obtain ⟨x6, hx6, hE⟩ := bd hE
      refine s_gR hx hb hT u_X4 hown hK hW hx6 rfl (by decide) fl_X4_37 rfl dX4_gainOf_21 ?_
      refine lv_iload_n hx hb dX4_gainOf_24 rfl (lv_at hl 0 rfl) ?_
      obtain ⟨x7, hx7, hE⟩ := bd hE
      refine s_ldI hx hb hK hW hS hx7 dX4_gainOf_25 ?_
      refine lv_goto (tgt := 30) hx hb dX4_gainOf_26 (by decide) ?_
      obtain rfl := so1 hE
      exact s_iret hx hb hr hlocks hW hS dX4_gainOf_30
set_option maxHeartbeats 4000000 in
set_option maxRecDepth 100000 in
theorem S_X4_songOf (l : Launch) (G : GG) (F : Nat) {u0 : Option Nat} {u1 : Int32} {u2 : Int32} {f : Hp} {r : Int32} {n : Nat} (hE : m_X4_songOf F u0 u1 u2 f = some r) : Ctr l G yX4_songOf cX4_songOf 5 (some .int) 1 23 [rr G u0, .int u1, .int u2] f n (some (.int r)) f n 0 0 := by
  refine Met.ofW (cc := cX4_songOf) (maxL := 5) (ret := (some .int)) (by decide) rfl ?_
  intro p e s m args below meth c s₁ B hml hv
  obtain ⟨rfl, hK, hW⟩ := hv
  have hx := B.exec
  have hb := B.bytes
  have hr := B.returns
  have hts := atoms_spec (ws := wsO yX4_songOf cX4_songOf 5 (some .int)) B.pre
  have hT : ∀ w ∈ TB, w.before [rr G u0, .int u1, .int u2].toArray s = true := fun w hw => hts w (List.mem_cons_of_mem _ hw)
  have hown : s.vm.findClass RX4 = some m.cls := findClass_of_methodNamed B.named
  have hlocks := B.notSynchronized
  have CF : CallFix p m c cX4_songOf 5 s [rr G u0, .int u1, .int u2].toArray TB RX4 := ⟨hx, hb, hml, hown, hT⟩
  have hS : va_S (WA G) s.heap s.heap [] := va_S.rf
  have hl : lv_has (lg_sl ([rr G u0, .int u1, .int u2]) ++ List.replicate (5 - (lg_sl ([rr G u0, .int u1, .int u2])).length) Slot.unset).toArray 5 [(0, rr G u0), (1, .int u1), (2, .int u2)] := by cases u0 <;> exact lv_entry _ (Nat.le_of_ble_eq_true rfl)
  rw [lg_entry_eq]
  generalize (lg_sl ([rr G u0, .int u1, .int u2]) ++ List.replicate (5 - (lg_sl ([rr G u0, .int u1, .int u2])).length) Slot.unset).toArray = ls at hl ⊢
  have hC5 : ∀ (k5 : Nat), ∀ (v0 : Option Nat) (v1 : Int32) (v2 : Int32) (v3 : Int32) (v4 : Int32) (H : Heap) (locs : List Loc) (ls : Array Slot), m_X4_songOf_L5 F k5 v0 v1 v2 v3 v4 f = some r → Wd G f n H → va_S (WA G) s.heap H locs → lv_has ls 5 [(0, rr G v0), (1, .int v1), (2, .int v2), (3, .int v3), (4, .int v4)] → W p l e (headSpec (wsO yX4_songOf cX4_songOf 5 (some .int)) { frames := 1, cells := 0, slots := 0, locals := 23 }).room s m [rr G u0, .int u1, .int u2].toArray below meth c H locs 0 0 (MQ below (Qcn G (some (.int r)) f n) [rr G u0, .int u1, .int u2].toArray s 0 0 (WA G)) (F0 m 5 ls []) := by
    intro k5
    induction k5 with
    | zero => intro v0 v1 v2 v3 v4 H locs ls hE _ _ _; cases (show (none : Option Int32) = some r from hE)
    | succ k5 ih5 =>
      intro v0 v1 v2 v3 v4 H locs ls hE hW hS hl
      replace hE : m_X4_songOf_b5 F (m_X4_songOf_L5 F k5) v0 v1 v2 v3 v4 f = some r := hE
      refine lv_iload hx hb dX4_songOf_5 (lv_at hl 4 rfl) ?_
      refine lv_iload_n hx hb dX4_songOf_7 rfl (lv_at hl 2 rfl) ?_
      refine lv_icmp_ge (tgt := 38) hx hb dX4_songOf_8 (by decide) (fun q1 => ?_) (fun q1 => ?_)
      · replace hE := ite_t q1 hE
        refine lv_iload_n hx hb dX4_songOf_38 rfl (lv_at hl 3 rfl) ?_
        obtain rfl := so1 hE
        exact s_iret hx hb hr hlocks hW hS dX4_songOf_39
      · replace hE := ite_f q1 hE
        refine lv_iload_n hx hb dX4_songOf_11 rfl (lv_at hl 3 rfl) ?_
        refine s_aload_n hx hb dX4_songOf_12 rfl (lv_at hl 0 rfl) ?_
        refine lv_iload_n hx hb dX4_songOf_13 rfl (lv_at hl 1 rfl) ?_
        refine lv_iload hx hb dX4_songOf_14 (lv_at hl 4 rfl) ?_
        refine lv_iconst (v := (1 : Int32)) hx hb dX4_songOf_16 (by decide) ?_
        refine lv_isub hx hb dX4_songOf_17 ?_
        obtain ⟨x2, hx2, hE⟩ := bd hE
        refine s_callSN (As := [.int v1, .int (v4 - (1 : Int32))]) (rest := [rr G v0, .int v3]) CF hK hW hS (S_X11_lineOf l G F hx2) go_X11_lineOf nm_X4_107 ini_CopyOrders stt_X11_lineOf hd_X11_lineOf.2 ⟨Nat.le_of_ble_eq_true rfl, Nat.le_of_ble_eq_true rfl⟩ rfl hl.1 rfl (Nat.le_of_ble_eq_true rfl) dX4_songOf_18 ⟨Nat.le_refl _, Nat.le_refl _⟩ (fun H locs hW hS => ?_)
        refine lv_iload_n hx hb dX4_songOf_21 rfl (lv_at hl 1 rfl) ?_
        refine lv_iload hx hb dX4_songOf_22 (lv_at hl 4 rfl) ?_
        obtain ⟨x3, hx3, hE⟩ := bd hE
        refine s_callSN (As := [.int v1, .int v4]) (rest := [.int x2, rr G v0, .int v3]) CF hK hW hS (S_X11_lineOf l G F hx3) go_X11_lineOf nm_X4_107 ini_CopyOrders stt_X11_lineOf hd_X11_lineOf.2 ⟨Nat.le_of_ble_eq_true rfl, Nat.le_of_ble_eq_true rfl⟩ rfl hl.1 rfl (Nat.le_of_ble_eq_true rfl) dX4_songOf_24 ⟨Nat.le_refl _, Nat.le_refl _⟩ (fun H locs hW hS => ?_)
        obtain ⟨c4, hE⟩ := ck hE
        obtain ⟨x5, hx5, hE⟩ := bd hE
        refine s_callV (As := [.int x2, .int x3]) (rest := [.int v3]) CF hK hW hS (S_X4_gainOf l G F hx5) c4 rfl gv_X4_110 hd_X4_gainOf ⟨Nat.le_of_ble_eq_true rfl, Nat.le_of_ble_eq_true rfl⟩ rfl hl.1 rfl (Nat.le_of_ble_eq_true rfl) dX4_songOf_27 ⟨Nat.le_refl _, Nat.le_refl _⟩ (fun H locs hW hS => ?_)
        refine lv_iadd hx hb dX4_songOf_30 ?_
        refine lv_topi (fun y6 ey6 => ?_)
        replace hE := nm_o ey6 hE
        refine lv_istore_n (i := 3) (lv' := [(3, .int y6), (0, rr G v0), (1, .int v1), (2, .int v2), (4, .int v4)]) hx hb dX4_songOf_31 rfl hl (by decide) rfl (fun ls hl => ?_)
        obtain ⟨y7, ey7⟩ : ∃ y : Int32, y = v4 + (1 : Int32) := ⟨_, rfl⟩
        replace hE := nm_o ey7 hE
        refine lv_iinc (k := 4) (v := y7) (lv' := [(4, .int y7), (3, .int y6), (0, rr G v0), (1, .int v1), (2, .int v2)]) hx hb dX4_songOf_32 hl rfl (by rw [ey7]; rfl) (by decide) rfl (fun ls hl => ?_)
        refine lv_goto (tgt := 5) hx hb dX4_songOf_35 (by decide) ?_
        exact ih5 _ _ _ _ _ _ _ _ hE hW hS (lv_sub hl [2, 3, 4, 1, 0] rfl)
  refine lv_iconst (v := (0 : Int32)) hx hb dX4_songOf_0 (by decide) ?_
  refine lv_istore_n (i := 3) (lv' := [(3, .int (0 : Int32)), (0, rr G u0), (1, .int u1), (2, .int u2)]) hx hb dX4_songOf_1 rfl hl (by decide) rfl (fun ls hl => ?_)
  refine lv_iconst (v := (1 : Int32)) hx hb dX4_songOf_2 (by decide) ?_
  refine lv_istore (lv' := [(4, .int (1 : Int32)), (3, .int (0 : Int32)), (0, rr G u0), (1, .int u1), (2, .int u2)]) hx hb dX4_songOf_3 hl (by decide) rfl (fun ls hl => ?_)
  exact hC5 F _ _ _ _ _ _ _ _ hE hW hS (lv_sub hl [2, 3, 4, 1, 0] rfl)
set_option maxHeartbeats 4000000 in
set_option maxRecDepth 100000 in
theorem S_X11_better (l : Launch) (G : GG) (F : Nat) {u0 : Option Nat} {u1 : Int32} {u2 : Int32} {f : Hp} {r : Int32} {f' : Hp} {n n2 z z2 : Nat} (hE : m_X11_better F u0 u1 u2 f n z = some (r, f', n2, z2)) : Ctr l G yX11_better cX11_better 11 (some .int) 5 118 [rr G u0, .int u1, .int u2] f n (some (.int r)) f' n2 (n2 - n) (z2 - z) := by
  refine Met.ofW (cc := cX11_better) (maxL := 11) (ret := (some .int)) (by decide) rfl ?_
  intro p e s m args below meth c s₁ B hml hv
  obtain ⟨rfl, hK, hW⟩ := hv
  have hx := B.exec
  have hb := B.bytes
  have hr := B.returns
  have hts := atoms_spec (ws := wsO yX11_better cX11_better 11 (some .int)) B.pre
  have hT : ∀ w ∈ TB, w.before [rr G u0, .int u1, .int u2].toArray s = true := fun w hw => hts w (List.mem_cons_of_mem _ hw)
  have hown : s.vm.findClass RX11 = some m.cls := findClass_of_methodNamed B.named
  have hlocks := B.notSynchronized
  have CF : CallFix p m c cX11_better 11 s [rr G u0, .int u1, .int u2].toArray TB RX11 := ⟨hx, hb, hml, hown, hT⟩
  have hS : va_S (WA G) s.heap s.heap [] := va_S.rf
  have hl : lv_has (lg_sl ([rr G u0, .int u1, .int u2]) ++ List.replicate (11 - (lg_sl ([rr G u0, .int u1, .int u2])).length) Slot.unset).toArray 11 [(0, rr G u0), (1, .int u1), (2, .int u2)] := by cases u0 <;> exact lv_entry _ (Nat.le_of_ble_eq_true rfl)
  rw [lg_entry_eq]
  generalize (lg_sl ([rr G u0, .int u1, .int u2]) ++ List.replicate (11 - (lg_sl ([rr G u0, .int u1, .int u2])).length) Slot.unset).toArray = ls at hl ⊢
  have hC42 : ∀ (k42 : Nat), ∀ (v0 : Option Nat) (v2 : Int32) (v3 : Option Nat) (v4 : Option Nat) (v5 : Int32) (v6 : Int32) (v7 : Int32) (v8 : Int32) (fa : Hp) (na za : Nat) (H : Heap) (locs : List Loc) (ls : Array Slot), n ≤ na → z ≤ za → m_X11_better_L42 F k42 v0 v2 v3 v4 v5 v6 v7 v8 fa na za = some (r, f', n2, z2) → Wd G fa na H → va_S (WA G) s.heap H locs → lv_has ls 11 [(0, rr G v0), (2, .int v2), (3, rr G v3), (4, rr G v4), (5, .int v5), (6, .int v6), (7, .int v7), (8, .int v8)] → W p l e (headSpec (wsO yX11_better cX11_better 11 (some .int)) { frames := 5, cells := (n2 - n), slots := (z2 - z), locals := 118 }).room s m [rr G u0, .int u1, .int u2].toArray below meth c H locs (na - n) (za - z) (MQ below (Qcn G (some (.int r)) f' n2) [rr G u0, .int u1, .int u2].toArray s (n2 - n) (z2 - z) (WA G)) (F0 m 42 ls []) := by
    intro k42
    induction k42 with
    | zero => intro v0 v2 v3 v4 v5 v6 v7 v8 fa na za H locs ls hna hza hE _ _ _; cases (show (none : Option ((Int32) × Hp × Nat × Nat)) = some (r, f', n2, z2) from hE)
    | succ k42 ih42 =>
      have hC111 : ∀ (v0 : Option Nat) (v2 : Int32) (v3 : Option Nat) (v4 : Option Nat) (v8 : Int32) (v9 : Int32) (v10 : Int32) (fa : Hp) (na za : Nat) (H : Heap) (locs : List Loc) (ls : Array Slot), n ≤ na → z ≤ za → m_X11_better_B111 F (m_X11_better_L42 F k42) v0 v2 v3 v4 v8 v9 v10 fa na za = some (r, f', n2, z2) → Wd G fa na H → va_S (WA G) s.heap H locs → lv_has ls 11 [(0, rr G v0), (2, .int v2), (3, rr G v3), (4, rr G v4), (8, .int v8), (9, .int v9), (10, .int v10)] → W p l e (headSpec (wsO yX11_better cX11_better 11 (some .int)) { frames := 5, cells := (n2 - n), slots := (z2 - z), locals := 118 }).room s m [rr G u0, .int u1, .int u2].toArray below meth c H locs (na - n) (za - z) (MQ below (Qcn G (some (.int r)) f' n2) [rr G u0, .int u1, .int u2].toArray s (n2 - n) (z2 - z) (WA G)) (F0 m 111 ls []) := by
        intro v0 v2 v3 v4 v8 v9 v10 fa na za H locs ls hna hza hE hW hS hl
        refine lv_iload hx hb dX11_better_111 (lv_at hl 6 rfl) ?_
        refine lv_istore (lv' := [(5, .int v10), (0, rr G v0), (2, .int v2), (3, rr G v3), (4, rr G v4), (8, .int v8), (9, .int v9), (10, .int v10)]) hx hb dX11_better_113 hl (by decide) (by simp [cat_rr]) (fun ls hl => ?_)
        refine lv_iload hx hb dX11_better_115 (lv_at hl 6 rfl) ?_
        refine lv_istore (lv' := [(6, .int v9), (5, .int v10), (0, rr G v0), (2, .int v2), (3, rr G v3), (4, rr G v4), (8, .int v8), (9, .int v9), (10, .int v10)]) hx hb dX11_better_117 hl (by decide) rfl (fun ls hl => ?_)
        refine lv_iload hx hb dX11_better_119 (lv_at hl 6 rfl) ?_
        refine lv_istore (lv' := [(7, .int v8), (6, .int v9), (5, .int v10), (0, rr G v0), (2, .int v2), (3, rr G v3), (4, rr G v4), (8, .int v8), (9, .int v9), (10, .int v10)]) hx hb dX11_better_121 hl (by decide) rfl (fun ls hl => ?_)
        obtain ⟨y20, ey20⟩ : ∃ y : Int32, y = v8 + (1 : Int32) := ⟨_, rfl⟩
        replace hE := nm_o ey20 hE
        refine lv_iinc (k := 7) (v := y20) (lv' := [(8, .int y20), (7, .int v8), (6, .int v9), (5, .int v10), (0, rr G v0), (2, .int v2), (3, rr G v3), (4, rr G v4), (9, .int v9), (10, .int v10)]) hx hb dX11_better_123 hl rfl (by rw [ey20]; rfl) (by decide) rfl (fun ls hl => ?_)
        refine lv_goto (tgt := 42) hx hb dX11_better_126 (by decide) ?_
        exact ih42 _ _ _ _ _ _ _ _ _ _ _ _ _ _ (by omega) (by omega) hE hW hS (lv_sub hl [4, 5, 6, 7, 3, 2, 1, 0] rfl)
      intro v0 v2 v3 v4 v5 v6 v7 v8 fa na za H locs ls hna hza hE hW hS hl
      replace hE : m_X11_better_b42 F (m_X11_better_L42 F k42) v0 v2 v3 v4 v5 v6 v7 v8 fa na za = some (r, f', n2, z2) := hE
      refine lv_iload hx hb dX11_better_42 (lv_at hl 7 rfl) ?_
      refine s_aload hx hb dX11_better_44 (lv_at hl 3 rfl) ?_
      obtain ⟨x1, hx1, hE⟩ := bd hE
      refine s_gI hx hb hT u_X6 hown hK hW hx1 rfl (by decide) fl_X11_199 rfl dX11_better_46 ?_
      refine lv_icmp_ge (tgt := 129) hx hb dX11_better_49 (by decide) (fun q2 => ?_) (fun q2 => ?_)
      · replace hE := ite_t q2 hE
        refine lv_iload hx hb dX11_better_129 (lv_at hl 6 rfl) ?_
        obtain ⟨rfl, rfl, rfl, rfl⟩ := so4 hE
        exact s_iret hx hb hr hlocks hW hS dX11_better_131
      · replace hE := ite_f q2 hE
        refine s_aload hx hb dX11_better_52 (lv_at hl 3 rfl) ?_
        refine lv_iload hx hb dX11_better_54 (lv_at hl 7 rfl) ?_
        refine s_aload_n hx hb dX11_better_56 rfl (lv_at hl 2 rfl) ?_
        obtain ⟨c3, hE⟩ := ck hE
        obtain ⟨g4a, g4b, hE⟩ := grow_of hE
        replace g4a : na ≤ n2 := g4a
        replace g4b : za ≤ z2 := g4b
        obtain ⟨x5, hx5, hE⟩ := bd hE
        refine s_callV (As := [.int v8, rr G v3]) (rest := []) CF hK hW hS (S_X6_stepsTo l G F hx5) c3 rfl gv_X11_309 hd_X6_stepsTo ⟨Nat.le_of_ble_eq_true rfl, Nat.le_of_ble_eq_true rfl⟩ rfl hl.1 rfl (Nat.le_of_ble_eq_true rfl) dX11_better_57 ⟨show na - n + 0 ≤ n2 - n by omega, show za - z + 0 ≤ z2 - z by omega⟩ (fun H locs hW hS => ?_)
        refine lv_istore (lv' := [(9, .int x5), (0, rr G v0), (2, .int v2), (3, rr G v3), (4, rr G v4), (5, .int v5), (6, .int v6), (7, .int v7), (8, .int v8)]) hx hb dX11_better_60 hl (by decide) rfl (fun ls hl => ?_)
        refine lv_iload hx hb dX11_better_62 (lv_at hl 0 rfl) ?_
        refine lv_iload_n hx hb dX11_better_64 rfl (lv_at hl 2 rfl) ?_
        refine lv_icmp_gt (tgt := 123) hx hb dX11_better_65 (by decide) (fun q6 => ?_) (fun q6 => ?_)
        · replace hE := ite_t q6 hE
          obtain ⟨y7, ey7⟩ : ∃ y : Int32, y = v8 + (1 : Int32) := ⟨_, rfl⟩
          replace hE := nm_o ey7 hE
          refine lv_iinc (k := 8) (v := y7) (lv' := [(8, .int y7), (9, .int x5), (0, rr G v0), (2, .int v2), (3, rr G v3), (4, rr G v4), (5, .int v5), (6, .int v6), (7, .int v7)]) hx hb dX11_better_123 hl rfl (by rw [ey7]; rfl) (by decide) rfl (fun ls hl => ?_)
          refine lv_goto (tgt := 42) hx hb dX11_better_126 (by decide) ?_
          exact ih42 _ _ _ _ _ _ _ _ _ _ _ _ _ _ (by omega) (by omega) hE hW hS (lv_sub hl [2, 3, 4, 5, 6, 7, 8, 0] rfl)
        · replace hE := ite_f q6 hE
          refine s_aload_n hx hb dX11_better_68 rfl (lv_at hl 1 rfl) ?_
          obtain ⟨x8, hx8, hE⟩ := bd hE
          refine s_gR hx hb hT u_X11 hown hK hW hx8 rfl (by decide) fl_X11_16 rfl dX11_better_69 ?_
          refine s_aload hx hb dX11_better_72 (lv_at hl 4 rfl) ?_
          obtain ⟨x9, hx9, hE⟩ := bd hE
          refine s_gR hx hb hT u_X6 hown hK hW hx9 rfl (by decide) fl_X11_153 rfl dX11_better_74 ?_
          refine lv_iload hx hb dX11_better_77 (lv_at hl 8 rfl) ?_
          obtain ⟨x10, hx10, hE⟩ := bd hE
          refine s_ldI hx hb hK hW hS hx10 dX11_better_79 ?_
          refine s_aload hx hb dX11_better_80 (lv_at hl 4 rfl) ?_
          obtain ⟨x11, hx11, hE⟩ := bd hE
          refine s_gI hx hb hT u_X6 hown hK hW hx11 rfl (by decide) fl_X11_152 rfl dX11_better_82 ?_
          obtain ⟨c12, hE⟩ := ck hE
          obtain ⟨g13a, g13b, hE⟩ := grow_of hE
          replace g13a : na ≤ n2 := g13a
          replace g13b : za ≤ z2 := g13b
          obtain ⟨x14, hx14, hE⟩ := bd hE
          refine s_callV (As := [.int x10, .int x11]) (rest := []) CF hK hW hS (S_X4_songOf l G F hx14) c12 rfl gv_X11_306 hd_X4_songOf ⟨Nat.le_of_ble_eq_true rfl, Nat.le_of_ble_eq_true rfl⟩ rfl hl.1 rfl (Nat.le_of_ble_eq_true rfl) dX11_better_85 ⟨show na - n + 0 ≤ n2 - n by omega, show za - z + 0 ≤ z2 - z by omega⟩ (fun H locs hW hS => ?_)
          refine lv_istore (lv' := [(10, .int x14), (9, .int x5), (0, rr G v0), (2, .int v2), (3, rr G v3), (4, rr G v4), (5, .int v5), (6, .int v6), (7, .int v7), (8, .int v8)]) hx hb dX11_better_88 hl (by decide) rfl (fun ls hl => ?_)
          refine lv_iload hx hb dX11_better_90 (lv_at hl 0 rfl) ?_
          refine lv_iload hx hb dX11_better_92 (lv_at hl 6 rfl) ?_
          refine lv_icmp_gt (tgt := 111) hx hb dX11_better_94 (by decide) (fun q15 => ?_) (fun q15 => ?_)
          · replace hE := ite_t q15 hE
            exact hC111 _ _ _ _ _ _ _ _ _ _ _ _ _ (by omega) (by omega) hE hW hS (lv_sub hl [2, 3, 4, 5, 9, 1, 0] rfl)
          · replace hE := ite_f q15 hE
            refine lv_iload hx hb dX11_better_97 (lv_at hl 0 rfl) ?_
            refine lv_iload hx hb dX11_better_99 (lv_at hl 6 rfl) ?_
            refine lv_icmp_ne (tgt := 123) hx hb dX11_better_101 (by decide) (fun q16 => ?_) (fun q16 => ?_)
            · replace hE := ite_f q16 hE
              obtain ⟨y17, ey17⟩ : ∃ y : Int32, y = v8 + (1 : Int32) := ⟨_, rfl⟩
              replace hE := nm_o ey17 hE
              refine lv_iinc (k := 9) (v := y17) (lv' := [(8, .int y17), (10, .int x14), (9, .int x5), (0, rr G v0), (2, .int v2), (3, rr G v3), (4, rr G v4), (5, .int v5), (6, .int v6), (7, .int v7)]) hx hb dX11_better_123 hl rfl (by rw [ey17]; rfl) (by decide) rfl (fun ls hl => ?_)
              refine lv_goto (tgt := 42) hx hb dX11_better_126 (by decide) ?_
              exact ih42 _ _ _ _ _ _ _ _ _ _ _ _ _ _ (by omega) (by omega) hE hW hS (lv_sub hl [3, 4, 5, 6, 7, 8, 9, 0] rfl)
            · replace hE := ite_t q16 hE
              refine lv_iload hx hb dX11_better_104 (lv_at hl 1 rfl) ?_
              refine lv_iload hx hb dX11_better_106 (lv_at hl 7 rfl) ?_
              refine lv_icmp_ge (tgt := 123) hx hb dX11_better_108 (by decide) (fun q18 => ?_) (fun q18 => ?_)
              · replace hE := ite_t q18 hE
                obtain ⟨y19, ey19⟩ : ∃ y : Int32, y = v8 + (1 : Int32) := ⟨_, rfl⟩
                replace hE := nm_o ey19 hE
                refine lv_iinc (k := 9) (v := y19) (lv' := [(8, .int y19), (10, .int x14), (9, .int x5), (0, rr G v0), (2, .int v2), (3, rr G v3), (4, rr G v4), (5, .int v5), (6, .int v6), (7, .int v7)]) hx hb dX11_better_123 hl rfl (by rw [ey19]; rfl) (by decide) rfl (fun ls hl => ?_)
                refine lv_goto (tgt := 42) hx hb dX11_better_126 (by decide) ?_
                exact ih42 _ _ _ _ _ _ _ _ _ _ _ _ _ _ (by omega) (by omega) hE hW hS (lv_sub hl [3, 4, 5, 6, 7, 8, 9, 0] rfl)
              · replace hE := ite_f q18 hE
                exact hC111 _ _ _ _ _ _ _ _ _ _ _ _ _ (by omega) (by omega) hE hW hS (lv_sub hl [2, 3, 4, 5, 9, 1, 0] rfl)
  refine W.cs (cells' := n - n) (slots' := z - z) (by omega) (by omega) ?_
  refine s_aload_n hx hb dX11_better_0 rfl (lv_at hl 0 rfl) ?_
  obtain ⟨x21, hx21, hE⟩ := bd hE
  refine s_gR hx hb hT u_X11 hown hK hW hx21 rfl (by decide) fl_X11_16 rfl dX11_better_1 ?_
  refine lv_iload_n hx hb dX11_better_4 rfl (lv_at hl 1 rfl) ?_
  obtain ⟨c22, hE⟩ := ck hE
  obtain ⟨g23a, g23b, hE⟩ := grow_of hE
  replace g23a : n ≤ n2 := g23a
  replace g23b : z ≤ z2 := g23b
  obtain ⟨x24, hx24, hE⟩ := bd hE
  refine s_callV (As := [.int u1]) (rest := []) CF hK hW hS (S_X4_wholeAt l G F hx24) c22 rfl gv_X11_178 hd_X4_wholeAt ⟨Nat.le_of_ble_eq_true rfl, Nat.le_of_ble_eq_true rfl⟩ rfl hl.1 rfl (Nat.le_of_ble_eq_true rfl) dX11_better_5 ⟨show n - n + 0 ≤ n2 - n by omega, show z - z + 0 ≤ z2 - z by omega⟩ (fun H locs hW hS => ?_)
  refine s_astore_n (i := 3) (lv' := [(3, rr G x24), (0, rr G u0), (1, .int u1), (2, .int u2)]) hx hb dX11_better_8 rfl hl (by decide) rfl (fun ls hl => ?_)
  refine s_aload_n hx hb dX11_better_9 rfl (lv_at hl 0 rfl) ?_
  refine s_ifnull (tgt := 22) hx hb dX11_better_10 (by decide) (fun q25 => ?_) (fun q25 => ?_)
  · replace hE := ite_t q25 hE
    refine lv_iconst (v := (-1 : Int32)) hx hb dX11_better_22 (by decide) ?_
    obtain ⟨rfl, rfl, rfl, rfl⟩ := so4 hE
    exact s_iret hx hb hr hlocks hW hS dX11_better_23
  · replace hE := ite_f q25 hE
    refine lv_iload_n hx hb dX11_better_13 rfl (lv_at hl 3 rfl) ?_
    refine lv_bipush (v := (21 : Int32)) hx hb dX11_better_14 (by decide) ?_
    obtain ⟨g26a, g26b, hE⟩ := grow_of hE
    replace g26a : n ≤ n2 := g26a
    replace g26b : z ≤ z2 := g26b
    obtain ⟨x27, hx27, hE⟩ := bd hE
    refine s_callS (As := [.int u2, .int (21 : Int32)]) (rest := []) CF hK hW hS (S_X11_isWithin l G F hx27) gs_X11_235 hd_X11_isWithin.2 ⟨Nat.le_of_ble_eq_true rfl, Nat.le_of_ble_eq_true rfl⟩ rfl hl.1 rfl (Nat.le_of_ble_eq_true rfl) dX11_better_16 ⟨show n - n + 0 ≤ n2 - n by omega, show z - z + 0 ≤ z2 - z by omega⟩ (fun H locs hW hS => ?_)
    refine lv_if_ne (tgt := 24) hx hb dX11_better_19 (by decide) (fun q28 => ?_) (fun q28 => ?_)
    · replace hE := ite_f q28 hE
      refine s_aload_n hx hb dX11_better_24 rfl (lv_at hl 1 rfl) ?_
      obtain ⟨c29, hE⟩ := ck hE
      obtain ⟨x33, f32, nq30, zq31, hf32, hE⟩ := bd4_of hE
      obtain ⟨c34, hE⟩ := ck hE
      replace c34 := of_decide_eq_true c34
      obtain ⟨g35a, g35b, hE⟩ := grow_of hE
      replace g35a : nq30 ≤ n2 := g35a
      replace g35b : zq31 ≤ z2 := g35b
      refine s_callV (As := []) (rest := []) CF hK hW hS (S_X11_orders l G F hf32) c29 rfl gv_X11_145 hd_X11_orders ⟨Nat.le_of_ble_eq_true rfl, Nat.le_of_ble_eq_true rfl⟩ rfl hl.1 rfl (Nat.le_of_ble_eq_true rfl) dX11_better_25 ⟨show n - n + (nq30 - (n)) ≤ n2 - n by omega, show z - z + (zq31 - (z)) ≤ z2 - z by omega⟩ (fun H locs hW hS => ?_)
      refine W.cs (cells' := nq30 - n) (slots' := zq31 - z) (by omega) (by omega) ?_
      refine s_astore (lv' := [(4, rr G x33), (3, rr G x24), (0, rr G u0), (1, .int u1), (2, .int u2)]) hx hb dX11_better_28 hl (by decide) (by simp [cat_rr]) (fun ls hl => ?_)
      refine lv_iconst (v := (-1 : Int32)) hx hb dX11_better_30 (by decide) ?_
      refine lv_istore (lv' := [(5, .int (-1 : Int32)), (4, rr G x33), (3, rr G x24), (0, rr G u0), (1, .int u1), (2, .int u2)]) hx hb dX11_better_31 hl (by decide) (by simp [cat_rr]) (fun ls hl => ?_)
      refine lv_iconst (v := (0 : Int32)) hx hb dX11_better_33 (by decide) ?_
      refine lv_istore (lv' := [(6, .int (0 : Int32)), (5, .int (-1 : Int32)), (4, rr G x33), (3, rr G x24), (0, rr G u0), (1, .int u1), (2, .int u2)]) hx hb dX11_better_34 hl (by decide) rfl (fun ls hl => ?_)
      refine lv_iconst (v := (-1 : Int32)) hx hb dX11_better_36 (by decide) ?_
      refine lv_istore (lv' := [(7, .int (-1 : Int32)), (6, .int (0 : Int32)), (5, .int (-1 : Int32)), (4, rr G x33), (3, rr G x24), (0, rr G u0), (1, .int u1), (2, .int u2)]) hx hb dX11_better_37 hl (by decide) rfl (fun ls hl => ?_)
      refine lv_iconst (v := (0 : Int32)) hx hb dX11_better_39 (by decide) ?_
      refine lv_istore (lv' := [(8, .int (0 : Int32)), (7, .int (-1 : Int32)), (6, .int (0 : Int32)), (5, .int (-1 : Int32)), (4, rr G x33), (3, rr G x24), (0, rr G u0), (1, .int u1), (2, .int u2)]) hx hb dX11_better_40 hl (by decide) rfl (fun ls hl => ?_)
      exact hC42 F _ _ _ _ _ _ _ _ _ _ _ _ _ _ (by omega) (by omega) hE hW hS (lv_sub hl [6, 8, 5, 4, 3, 2, 1, 0] rfl)
    · replace hE := ite_t q28 hE
      refine lv_iconst (v := (-1 : Int32)) hx hb dX11_better_22 (by decide) ?_
      obtain ⟨rfl, rfl, rfl, rfl⟩ := so4 hE
      exact s_iret hx hb hr hlocks hW hS dX11_better_23
set_option maxHeartbeats 4000000 in
set_option maxRecDepth 100000 in
theorem S_X1_stepsTo (l : Launch) (G : GG) (F : Nat) {u0 : Option Nat} {u1 : Option Nat} {f : Hp} {r : Int32} {n : Nat} (hE : m_X1_stepsTo F u0 u1 f = some r) : Ctr l G yX1_stepsTo cX1_stepsTo 2 (some .int) 1 20 [rr G u0, rr G u1] f n (some (.int r)) f n 0 0 := by
  refine Met.ofW (cc := cX1_stepsTo) (maxL := 2) (ret := (some .int)) (by decide) rfl ?_
  intro p e s m args below meth c s₁ B hml hv
  obtain ⟨rfl, hK, hW⟩ := hv
  have hx := B.exec
  have hb := B.bytes
  have hr := B.returns
  have hts := atoms_spec (ws := wsO yX1_stepsTo cX1_stepsTo 2 (some .int)) B.pre
  have hT : ∀ w ∈ TB, w.before [rr G u0, rr G u1].toArray s = true := fun w hw => hts w (List.mem_cons_of_mem _ hw)
  have hown : s.vm.findClass RX1 = some m.cls := findClass_of_methodNamed B.named
  have hlocks := B.notSynchronized
  have CF : CallFix p m c cX1_stepsTo 2 s [rr G u0, rr G u1].toArray TB RX1 := ⟨hx, hb, hml, hown, hT⟩
  have hS : va_S (WA G) s.heap s.heap [] := va_S.rf
  have hl : lv_has (lg_sl ([rr G u0, rr G u1]) ++ List.replicate (2 - (lg_sl ([rr G u0, rr G u1])).length) Slot.unset).toArray 2 [(0, rr G u0), (1, rr G u1)] := by cases u0 <;> cases u1 <;> exact lv_entry _ (Nat.le_of_ble_eq_true rfl)
  rw [lg_entry_eq]
  generalize (lg_sl ([rr G u0, rr G u1]) ++ List.replicate (2 - (lg_sl ([rr G u0, rr G u1])).length) Slot.unset).toArray = ls at hl ⊢
  refine s_aload_n hx hb dX1_stepsTo_0 rfl (lv_at hl 0 rfl) ?_
  obtain ⟨x1, hx1, hE⟩ := bd hE
  refine s_gI hx hb hT u_X1 hown hK hW hx1 rfl (by decide) fl_X1_28 rfl dX1_stepsTo_1 ?_
  refine s_aload_n hx hb dX1_stepsTo_4 rfl (lv_at hl 1 rfl) ?_
  obtain ⟨x2, hx2, hE⟩ := bd hE
  refine s_gI hx hb hT u_X1 hown hK hW hx2 rfl (by decide) fl_X1_28 rfl dX1_stepsTo_5 ?_
  refine lv_ixor hx hb dX1_stepsTo_8 ?_
  refine s_aload_n hx hb dX1_stepsTo_9 rfl (lv_at hl 0 rfl) ?_
  obtain ⟨x3, hx3, hE⟩ := bd hE
  refine s_gI hx hb hT u_X1 hown hK hW hx3 rfl (by decide) fl_X1_25 rfl dX1_stepsTo_10 ?_
  refine lv_iand hx hb dX1_stepsTo_13 ?_
  refine s_aload_n hx hb dX1_stepsTo_14 rfl (lv_at hl 1 rfl) ?_
  obtain ⟨x4, hx4, hE⟩ := bd hE
  refine s_gI hx hb hT u_X1 hown hK hW hx4 rfl (by decide) fl_X1_25 rfl dX1_stepsTo_15 ?_
  refine lv_iand hx hb dX1_stepsTo_18 ?_
  obtain ⟨x5, hx5, hE⟩ := bd hE
  refine s_callS (As := [.int (((x1 ^^^ x2) &&& x3) &&& x4)]) (rest := []) CF hK hW hS (S_J6_bitCount_0f7a4 l G F hx5) gs_X1_38 hd_J6_bitCount_0f7a4.2 ⟨Nat.le_of_ble_eq_true rfl, Nat.le_of_ble_eq_true rfl⟩ rfl hl.1 rfl (Nat.le_of_ble_eq_true rfl) dX1_stepsTo_19 ⟨Nat.le_refl _, Nat.le_refl _⟩ (fun H locs hW hS => ?_)
  obtain rfl := so1 hE
  exact s_iret hx hb hr hlocks hW hS dX1_stepsTo_22
set_option maxHeartbeats 4000000 in
set_option maxRecDepth 100000 in
theorem S_X1_fallenTo (l : Launch) (G : GG) (F : Nat) {u0 : Option Nat} {u1 : Option Nat} {f : Hp} {r : Int32} {n : Nat} (hE : m_X1_fallenTo F u0 u1 f = some r) : Ctr l G yX1_fallenTo cX1_fallenTo 2 (some .int) 1 20 [rr G u0, rr G u1] f n (some (.int r)) f n 0 0 := by
  refine Met.ofW (cc := cX1_fallenTo) (maxL := 2) (ret := (some .int)) (by decide) rfl ?_
  intro p e s m args below meth c s₁ B hml hv
  obtain ⟨rfl, hK, hW⟩ := hv
  have hx := B.exec
  have hb := B.bytes
  have hr := B.returns
  have hts := atoms_spec (ws := wsO yX1_fallenTo cX1_fallenTo 2 (some .int)) B.pre
  have hT : ∀ w ∈ TB, w.before [rr G u0, rr G u1].toArray s = true := fun w hw => hts w (List.mem_cons_of_mem _ hw)
  have hown : s.vm.findClass RX1 = some m.cls := findClass_of_methodNamed B.named
  have hlocks := B.notSynchronized
  have CF : CallFix p m c cX1_fallenTo 2 s [rr G u0, rr G u1].toArray TB RX1 := ⟨hx, hb, hml, hown, hT⟩
  have hS : va_S (WA G) s.heap s.heap [] := va_S.rf
  have hl : lv_has (lg_sl ([rr G u0, rr G u1]) ++ List.replicate (2 - (lg_sl ([rr G u0, rr G u1])).length) Slot.unset).toArray 2 [(0, rr G u0), (1, rr G u1)] := by cases u0 <;> cases u1 <;> exact lv_entry _ (Nat.le_of_ble_eq_true rfl)
  rw [lg_entry_eq]
  generalize (lg_sl ([rr G u0, rr G u1]) ++ List.replicate (2 - (lg_sl ([rr G u0, rr G u1])).length) Slot.unset).toArray = ls at hl ⊢
  refine s_aload_n hx hb dX1_fallenTo_0 rfl (lv_at hl 0 rfl) ?_
  obtain ⟨x1, hx1, hE⟩ := bd hE
  refine s_gI hx hb hT u_X1 hown hK hW hx1 rfl (by decide) fl_X1_22 rfl dX1_fallenTo_1 ?_
  refine s_aload_n hx hb dX1_fallenTo_4 rfl (lv_at hl 1 rfl) ?_
  obtain ⟨x2, hx2, hE⟩ := bd hE
  refine s_gI hx hb hT u_X1 hown hK hW hx2 rfl (by decide) fl_X1_22 rfl dX1_fallenTo_5 ?_
  refine lv_ixor hx hb dX1_fallenTo_8 ?_
  obtain ⟨x3, hx3, hE⟩ := bd hE
  refine s_callS (As := [.int (x1 ^^^ x2)]) (rest := []) CF hK hW hS (S_J6_bitCount_0f7a4 l G F hx3) gs_X1_38 hd_J6_bitCount_0f7a4.2 ⟨Nat.le_of_ble_eq_true rfl, Nat.le_of_ble_eq_true rfl⟩ rfl hl.1 rfl (Nat.le_of_ble_eq_true rfl) dX1_fallenTo_9 ⟨Nat.le_refl _, Nat.le_refl _⟩ (fun H locs hW hS => ?_)
  obtain rfl := so1 hE
  exact s_iret hx hb hr hlocks hW hS dX1_fallenTo_12
set_option maxHeartbeats 4000000 in
set_option maxRecDepth 100000 in
theorem S_X1_farTo (l : Launch) (G : GG) (F : Nat) {u0 : Option Nat} {u1 : Option Nat} {f : Hp} {r : Int32} {n : Nat} (hE : m_X1_farTo F u0 u1 f = some r) : Ctr l G yX1_farTo cX1_farTo 2 (some .int) 2 41 [rr G u0, rr G u1] f n (some (.int r)) f n 0 0 := by
  refine Met.ofW (cc := cX1_farTo) (maxL := 2) (ret := (some .int)) (by decide) rfl ?_
  intro p e s m args below meth c s₁ B hml hv
  obtain ⟨rfl, hK, hW⟩ := hv
  have hx := B.exec
  have hb := B.bytes
  have hr := B.returns
  have hts := atoms_spec (ws := wsO yX1_farTo cX1_farTo 2 (some .int)) B.pre
  have hT : ∀ w ∈ TB, w.before [rr G u0, rr G u1].toArray s = true := fun w hw => hts w (List.mem_cons_of_mem _ hw)
  have hown : s.vm.findClass RX1 = some m.cls := findClass_of_methodNamed B.named
  have hlocks := B.notSynchronized
  have CF : CallFix p m c cX1_farTo 2 s [rr G u0, rr G u1].toArray TB RX1 := ⟨hx, hb, hml, hown, hT⟩
  have hS : va_S (WA G) s.heap s.heap [] := va_S.rf
  have hl : lv_has (lg_sl ([rr G u0, rr G u1]) ++ List.replicate (2 - (lg_sl ([rr G u0, rr G u1])).length) Slot.unset).toArray 2 [(0, rr G u0), (1, rr G u1)] := by cases u0 <;> cases u1 <;> exact lv_entry _ (Nat.le_of_ble_eq_true rfl)
  rw [lg_entry_eq]
  generalize (lg_sl ([rr G u0, rr G u1]) ++ List.replicate (2 - (lg_sl ([rr G u0, rr G u1])).length) Slot.unset).toArray = ls at hl ⊢
  refine s_aload_n hx hb dX1_farTo_0 rfl (lv_at hl 0 rfl) ?_
  refine s_aload_n hx hb dX1_farTo_1 rfl (lv_at hl 1 rfl) ?_
  obtain ⟨c1, hE⟩ := ck hE
  obtain ⟨x2, hx2, hE⟩ := bd hE
  refine s_callV (As := [rr G u1]) (rest := []) CF hK hW hS (S_X1_stepsTo l G F hx2) c1 rfl gv_X1_44 hd_X1_stepsTo ⟨Nat.le_of_ble_eq_true rfl, Nat.le_of_ble_eq_true rfl⟩ rfl hl.1 rfl (Nat.le_of_ble_eq_true rfl) dX1_farTo_2 ⟨Nat.le_refl _, Nat.le_refl _⟩ (fun H locs hW hS => ?_)
  refine lv_iconst (v := (3 : Int32)) hx hb dX1_farTo_5 (by decide) ?_
  refine s_aload_n hx hb dX1_farTo_6 rfl (lv_at hl 0 rfl) ?_
  refine s_aload_n hx hb dX1_farTo_7 rfl (lv_at hl 1 rfl) ?_
  obtain ⟨c3, hE⟩ := ck hE
  obtain ⟨x4, hx4, hE⟩ := bd hE
  refine s_callV (As := [rr G u1]) (rest := [.int (3 : Int32), .int x2]) CF hK hW hS (S_X1_fallenTo l G F hx4) c3 rfl gv_X1_48 hd_X1_fallenTo ⟨Nat.le_of_ble_eq_true rfl, Nat.le_of_ble_eq_true rfl⟩ rfl hl.1 rfl (Nat.le_of_ble_eq_true rfl) dX1_farTo_8 ⟨Nat.le_refl _, Nat.le_refl _⟩ (fun H locs hW hS => ?_)
  refine lv_imul hx hb dX1_farTo_11 ?_
  refine lv_iadd hx hb dX1_farTo_12 ?_
  obtain rfl := so1 hE
  exact s_iret hx hb hr hlocks hW hS dX1_farTo_13
set_option maxHeartbeats 4000000 in
set_option maxRecDepth 100000 in
theorem S_X11_between (l : Launch) (G : GG) (F : Nat) {u0 : Option Nat} {u1 : Int32} {u2 : Int32} {u3 : Int32} {f : Hp} {r : Int32} {n : Nat} (hE : m_X11_between F u0 u1 u2 u3 f = some r) : Ctr l G yX11_between cX11_between 6 (some .int) 3 62 [rr G u0, .int u1, .int u2, .int u3] f n (some (.int r)) f n 0 0 := by
  refine Met.ofW (cc := cX11_between) (maxL := 6) (ret := (some .int)) (by decide) rfl ?_
  intro p e s m args below meth c s₁ B hml hv
  obtain ⟨rfl, hK, hW⟩ := hv
  have hx := B.exec
  have hb := B.bytes
  have hr := B.returns
  have hts := atoms_spec (ws := wsO yX11_between cX11_between 6 (some .int)) B.pre
  have hT : ∀ w ∈ TB, w.before [rr G u0, .int u1, .int u2, .int u3].toArray s = true := fun w hw => hts w (List.mem_cons_of_mem _ hw)
  have hown : s.vm.findClass RX11 = some m.cls := findClass_of_methodNamed B.named
  have hlocks := B.notSynchronized
  have CF : CallFix p m c cX11_between 6 s [rr G u0, .int u1, .int u2, .int u3].toArray TB RX11 := ⟨hx, hb, hml, hown, hT⟩
  have hS : va_S (WA G) s.heap s.heap [] := va_S.rf
  have hl : lv_has (lg_sl ([rr G u0, .int u1, .int u2, .int u3]) ++ List.replicate (6 - (lg_sl ([rr G u0, .int u1, .int u2, .int u3])).length) Slot.unset).toArray 6 [(0, rr G u0), (1, .int u1), (2, .int u2), (3, .int u3)] := by cases u0 <;> exact lv_entry _ (Nat.le_of_ble_eq_true rfl)
  rw [lg_entry_eq]
  generalize (lg_sl ([rr G u0, .int u1, .int u2, .int u3]) ++ List.replicate (6 - (lg_sl ([rr G u0, .int u1, .int u2, .int u3])).length) Slot.unset).toArray = ls at hl ⊢
  refine s_aload_n hx hb dX11_between_0 rfl (lv_at hl 0 rfl) ?_
  obtain ⟨x1, hx1, hE⟩ := bd hE
  refine s_gR hx hb hT u_X11 hown hK hW hx1 rfl (by decide) fl_X11_16 rfl dX11_between_1 ?_
  refine lv_iload_n hx hb dX11_between_4 rfl (lv_at hl 1 rfl) ?_
  obtain ⟨c2, hE⟩ := ck hE
  obtain ⟨x3, hx3, hE⟩ := bd hE
  refine s_callV (As := [.int u1]) (rest := []) CF hK hW hS (S_X4_copyAt l G F hx3) c2 rfl gv_X11_105 hd_X4_copyAt ⟨Nat.le_of_ble_eq_true rfl, Nat.le_of_ble_eq_true rfl⟩ rfl hl.1 rfl (Nat.le_of_ble_eq_true rfl) dX11_between_5 ⟨Nat.le_refl _, Nat.le_refl _⟩ (fun H locs hW hS => ?_)
  refine s_astore (lv' := [(4, rr G x3), (0, rr G u0), (1, .int u1), (2, .int u2), (3, .int u3)]) hx hb dX11_between_8 hl (by decide) rfl (fun ls hl => ?_)
  refine s_aload_n hx hb dX11_between_10 rfl (lv_at hl 1 rfl) ?_
  obtain ⟨x4, hx4, hE⟩ := bd hE
  refine s_gR hx hb hT u_X11 hown hK hW hx4 rfl (by decide) fl_X11_16 rfl dX11_between_11 ?_
  refine lv_iload_n hx hb dX11_between_14 rfl (lv_at hl 3 rfl) ?_
  obtain ⟨c5, hE⟩ := ck hE
  obtain ⟨x6, hx6, hE⟩ := bd hE
  refine s_callV (As := [.int u2]) (rest := []) CF hK hW hS (S_X4_copyAt l G F hx6) c5 rfl gv_X11_105 hd_X4_copyAt ⟨Nat.le_of_ble_eq_true rfl, Nat.le_of_ble_eq_true rfl⟩ rfl hl.1 rfl (Nat.le_of_ble_eq_true rfl) dX11_between_15 ⟨Nat.le_refl _, Nat.le_refl _⟩ (fun H locs hW hS => ?_)
  refine s_astore (lv' := [(5, rr G x6), (4, rr G x3), (0, rr G u0), (1, .int u1), (2, .int u2), (3, .int u3)]) hx hb dX11_between_18 hl (by decide) (by simp [cat_rr]) (fun ls hl => ?_)
  refine s_aload hx hb dX11_between_20 (lv_at hl 1 rfl) ?_
  refine s_ifnull (tgt := 30) hx hb dX11_between_22 (by decide) (fun q7 => ?_) (fun q7 => ?_)
  · replace hE := ite_t q7 hE
    refine lv_iconst (v := (-1 : Int32)) hx hb dX11_between_30 (by decide) ?_
    obtain rfl := so1 hE
    exact s_iret hx hb hr hlocks hW hS dX11_between_31
  · replace hE := ite_f q7 hE
    refine s_aload hx hb dX11_between_25 (lv_at hl 0 rfl) ?_
    refine s_ifnonnull (tgt := 32) hx hb dX11_between_27 (by decide) (fun q8 => ?_) (fun q8 => ?_)
    · replace hE := ite_f q8 hE
      refine lv_iload_n hx hb dX11_between_32 rfl (lv_at hl 5 rfl) ?_
      by_cases w9 : u3 = (0 : Int32)
      · replace hE := ite_t w9 hE
        have hi : (u3).toInt = 0 := by rw [w9]; rfl
        refine lv_tableIn (off := 27) (tgt := 60) hx hb dX11_between_33 (by rw [hi]; decide) (by rw [hi]; decide) (by rw [hi]; rfl) (by decide) ?_
        refine s_aload hx hb dX11_between_60 (lv_at hl 1 rfl) ?_
        refine s_aload hx hb dX11_between_62 (lv_at hl 0 rfl) ?_
        obtain ⟨c10, hE⟩ := ck hE
        obtain ⟨x11, hx11, hE⟩ := bd hE
        refine s_callV (As := [rr G x6]) (rest := []) CF hK hW hS (S_X1_stepsTo l G F hx11) c10 rfl gv_X11_155 hd_X1_stepsTo ⟨Nat.le_of_ble_eq_true rfl, Nat.le_of_ble_eq_true rfl⟩ rfl hl.1 rfl (Nat.le_of_ble_eq_true rfl) dX11_between_64 ⟨Nat.le_refl _, Nat.le_refl _⟩ (fun H locs hW hS => ?_)
        obtain rfl := so1 hE
        exact s_iret hx hb hr hlocks hW hS dX11_between_67
      · replace hE := ite_f w9 hE
        by_cases w12 : u3 = (1 : Int32)
        · replace hE := ite_t w12 hE
          have hi : (u3).toInt = 1 := by rw [w12]; rfl
          refine lv_tableIn (off := 35) (tgt := 68) hx hb dX11_between_33 (by rw [hi]; decide) (by rw [hi]; decide) (by rw [hi]; rfl) (by decide) ?_
          refine s_aload hx hb dX11_between_68 (lv_at hl 1 rfl) ?_
          refine s_aload hx hb dX11_between_70 (lv_at hl 0 rfl) ?_
          obtain ⟨c13, hE⟩ := ck hE
          obtain ⟨x14, hx14, hE⟩ := bd hE
          refine s_callV (As := [rr G x6]) (rest := []) CF hK hW hS (S_X1_fallenTo l G F hx14) c13 rfl gv_X11_159 hd_X1_fallenTo ⟨Nat.le_of_ble_eq_true rfl, Nat.le_of_ble_eq_true rfl⟩ rfl hl.1 rfl (Nat.le_of_ble_eq_true rfl) dX11_between_72 ⟨Nat.le_refl _, Nat.le_refl _⟩ (fun H locs hW hS => ?_)
          obtain rfl := so1 hE
          exact s_iret hx hb hr hlocks hW hS dX11_between_75
        · replace hE := ite_f w12 hE
          by_cases w15 : u3 = (2 : Int32)
          · replace hE := ite_t w15 hE
            have hi : (u3).toInt = 2 := by rw [w15]; rfl
            refine lv_tableIn (off := 43) (tgt := 76) hx hb dX11_between_33 (by rw [hi]; decide) (by rw [hi]; decide) (by rw [hi]; rfl) (by decide) ?_
            refine s_aload hx hb dX11_between_76 (lv_at hl 1 rfl) ?_
            refine s_aload hx hb dX11_between_78 (lv_at hl 0 rfl) ?_
            obtain ⟨c16, hE⟩ := ck hE
            obtain ⟨x17, hx17, hE⟩ := bd hE
            refine s_callV (As := [rr G x6]) (rest := []) CF hK hW hS (S_X1_farTo l G F hx17) c16 rfl gv_X11_162 hd_X1_farTo ⟨Nat.le_of_ble_eq_true rfl, Nat.le_of_ble_eq_true rfl⟩ rfl hl.1 rfl (Nat.le_of_ble_eq_true rfl) dX11_between_80 ⟨Nat.le_refl _, Nat.le_refl _⟩ (fun H locs hW hS => ?_)
            obtain rfl := so1 hE
            exact s_iret hx hb hr hlocks hW hS dX11_between_83
          · replace hE := ite_f w15 hE
            replace w9 := lv_neT w9 (a := 0) rfl
            replace w12 := lv_neT w12 (a := 1) rfl
            replace w15 := lv_neT w15 (a := 2) rfl
            refine lv_tableOut (tgt := 84) hx hb dX11_between_33 (by omega) (by decide) ?_
            refine lv_iconst (v := (-1 : Int32)) hx hb dX11_between_84 (by decide) ?_
            obtain rfl := so1 hE
            exact s_iret hx hb hr hlocks hW hS dX11_between_85
    · replace hE := ite_t q8 hE
      refine lv_iconst (v := (-1 : Int32)) hx hb dX11_between_30 (by decide) ?_
      obtain rfl := so1 hE
      exact s_iret hx hb hr hlocks hW hS dX11_between_31
set_option maxHeartbeats 4000000 in
set_option maxRecDepth 100000 in
theorem S_X11_commonDivisor (l : Launch) (G : GG) (F : Nat) {u0 : Int64} {u2 : Int64} {f : Hp} {r : Int64} {n : Nat} (hE : m_X11_commonDivisor F u0 u2 f = some r) : Ctr l G yX11_commonDivisor cX11_commonDivisor 11 (some .long) 0 0 [.long u0, .long u2] f n (some (.long r)) f n 0 0 := by
  refine Met.ofW (cc := cX11_commonDivisor) (maxL := 11) (ret := (some .long)) (by decide) rfl ?_
  intro p e s m args below meth c s₁ B hml hv
  obtain ⟨rfl, hK, hW⟩ := hv
  have hx := B.exec
  have hb := B.bytes
  have hr := B.returns
  have hts := atoms_spec (ws := wsO yX11_commonDivisor cX11_commonDivisor 11 (some .long)) B.pre
  have hT : ∀ w ∈ TB, w.before [.long u0, .long u2].toArray s = true := fun w hw => hts w (List.mem_cons_of_mem _ hw)
  have hown : s.vm.findClass RX11 = some m.cls := findClass_of_methodNamed B.named
  have hlocks := B.notSynchronized
  have CF : CallFix p m c cX11_commonDivisor 11 s [.long u0, .long u2].toArray TB RX11 := ⟨hx, hb, hml, hown, hT⟩
  have hS : va_S (WA G) s.heap s.heap [] := va_S.rf
  have hl : lv_has (lg_sl ([.long u0, .long u2]) ++ List.replicate (11 - (lg_sl ([.long u0, .long u2])).length) Slot.unset).toArray 11 [(0, .long u0), (2, .long u2)] := by exact lv_entry [.long u0, .long u2] (Nat.le_of_ble_eq_true rfl)
  rw [lg_entry_eq]
  generalize (lg_sl ([.long u0, .long u2]) ++ List.replicate (11 - (lg_sl ([.long u0, .long u2])).length) Slot.unset).toArray = ls at hl ⊢
  have hC9 : ∀ (k9 : Nat), ∀ (v4 : Int64) (v6 : Int64) (v8 : Int32) (H : Heap) (locs : List Loc) (ls : Array Slot), m_X11_commonDivisor_L9 F k9 v4 v6 v8 f = some r → Wd G f n H → va_S (WA G) s.heap H locs → lv_has ls 11 [(4, .long v4), (6, .long v6), (8, .int v8)] → W p l e (headSpec (wsO yX11_commonDivisor cX11_commonDivisor 11 (some .long)) { frames := 0, cells := 0, slots := 0, locals := 0 }).room s m [.long u0, .long u2].toArray below meth c H locs 0 0 (MQ below (Qcn G (some (.long r)) f n) [.long u0, .long u2].toArray s 0 0 (WA G)) (F0 m 9 ls []) := by
    intro k9
    induction k9 with
    | zero => intro v4 v6 v8 H locs ls hE _ _ _; cases (show (none : Option Int64) = some r from hE)
    | succ k9 ih9 =>
      intro v4 v6 v8 H locs ls hE hW hS hl
      replace hE : m_X11_commonDivisor_b9 F (m_X11_commonDivisor_L9 F k9) v4 v6 v8 f = some r := hE
      refine lv_iload hx hb dX11_commonDivisor_9 (lv_at hl 2 rfl) ?_
      refine lv_sipush (v := (200 : Int32)) hx hb dX11_commonDivisor_11 (by decide) ?_
      refine lv_icmp_ge (tgt := 45) hx hb dX11_commonDivisor_14 (by decide) (fun q1 => ?_) (fun q1 => ?_)
      · replace hE := ite_t q1 hE
        refine lv_lload hx hb dX11_commonDivisor_45 (lv_at hl 0 rfl) ?_
        obtain rfl := so1 hE
        exact s_lret hx hb hr hlocks hW hS dX11_commonDivisor_47
      · replace hE := ite_f q1 hE
        refine lv_lload hx hb dX11_commonDivisor_17 (lv_at hl 1 rfl) ?_
        refine lv_lconst (v := (0 : Int64)) hx hb dX11_commonDivisor_19 (by decide) ?_
        refine W.lcmp hx hb dX11_commonDivisor_20 ?_
        refine lv_if_le (tgt := 45) hx hb dX11_commonDivisor_21 (by decide) (fun q2 => ?_) (fun q2 => ?_)
        · replace hE := ite_t q2 hE
          refine lv_lload hx hb dX11_commonDivisor_45 (lv_at hl 0 rfl) ?_
          obtain rfl := so1 hE
          exact s_lret hx hb hr hlocks hW hS dX11_commonDivisor_47
        · replace hE := ite_f q2 hE
          refine lv_lload hx hb dX11_commonDivisor_24 (lv_at hl 0 rfl) ?_
          refine lv_lload hx hb dX11_commonDivisor_26 (lv_at hl 1 rfl) ?_
          obtain ⟨c3, hE⟩ := ck hE
          refine lv_lrem hx hb dX11_commonDivisor_28 (of_decide_eq_true c3) ?_
          refine lv_topl (fun y4 ey4 => ?_)
          replace hE := nm_o ey4 hE
          refine lv_lstore (lv' := [(9, .long y4), (4, .long v4), (6, .long v6), (8, .int v8)]) hx hb dX11_commonDivisor_29 hl (by decide) rfl (fun ls hl => ?_)
          refine lv_lload hx hb dX11_commonDivisor_31 (lv_at hl 2 rfl) ?_
          refine lv_lstore (lv' := [(4, .long v6), (9, .long y4), (6, .long v6), (8, .int v8)]) hx hb dX11_commonDivisor_33 hl (by decide) rfl (fun ls hl => ?_)
          refine lv_lload hx hb dX11_commonDivisor_35 (lv_at hl 1 rfl) ?_
          refine lv_lstore (lv' := [(6, .long y4), (4, .long v6), (9, .long y4), (8, .int v8)]) hx hb dX11_commonDivisor_37 hl (by decide) rfl (fun ls hl => ?_)
          obtain ⟨y5, ey5⟩ : ∃ y : Int32, y = v8 + (1 : Int32) := ⟨_, rfl⟩
          replace hE := nm_o ey5 hE
          refine lv_iinc (k := 3) (v := y5) (lv' := [(8, .int y5), (6, .long y4), (4, .long v6), (9, .long y4)]) hx hb dX11_commonDivisor_39 hl rfl (by rw [ey5]; rfl) (by decide) rfl (fun ls hl => ?_)
          refine lv_goto (tgt := 9) hx hb dX11_commonDivisor_42 (by decide) ?_
          exact ih9 _ _ _ _ _ _ hE hW hS (lv_sub hl [2, 1, 0] rfl)
  refine lv_lload_n hx hb dX11_commonDivisor_0 rfl (lv_at hl 0 rfl) ?_
  refine lv_lstore (lv' := [(4, .long u0), (0, .long u0), (2, .long u2)]) hx hb dX11_commonDivisor_1 hl (by decide) rfl (fun ls hl => ?_)
  refine lv_lload_n hx hb dX11_commonDivisor_3 rfl (lv_at hl 2 rfl) ?_
  refine lv_lstore (lv' := [(6, .long u2), (4, .long u0), (0, .long u0), (2, .long u2)]) hx hb dX11_commonDivisor_4 hl (by decide) rfl (fun ls hl => ?_)
  refine lv_iconst (v := (0 : Int32)) hx hb dX11_commonDivisor_6 (by decide) ?_
  refine lv_istore (lv' := [(8, .int (0 : Int32)), (6, .long u2), (4, .long u0), (0, .long u0), (2, .long u2)]) hx hb dX11_commonDivisor_7 hl (by decide) rfl (fun ls hl => ?_)
  exact hC9 F _ _ _ _ _ _ hE hW hS (lv_sub hl [2, 1, 0] rfl)
set_option maxHeartbeats 4000000 in
set_option maxRecDepth 100000 in
theorem S_X11_count (l : Launch) (G : GG) (F : Nat) {u0 : Option Nat} {u1 : Int32} {f : Hp} {r : Int32} {n : Nat} (hE : m_X11_count F u0 u1 f = some r) : Ctr l G yX11_count cX11_count 2 (some .int) 1 20 [rr G u0, .int u1] f n (some (.int r)) f n 0 0 := by
  refine Met.ofW (cc := cX11_count) (maxL := 2) (ret := (some .int)) (by decide) rfl ?_
  intro p e s m args below meth c s₁ B hml hv
  obtain ⟨rfl, hK, hW⟩ := hv
  have hx := B.exec
  have hb := B.bytes
  have hr := B.returns
  have hts := atoms_spec (ws := wsO yX11_count cX11_count 2 (some .int)) B.pre
  have hT : ∀ w ∈ TB, w.before [rr G u0, .int u1].toArray s = true := fun w hw => hts w (List.mem_cons_of_mem _ hw)
  have hown : s.vm.findClass RX11 = some m.cls := findClass_of_methodNamed B.named
  have hlocks := B.notSynchronized
  have CF : CallFix p m c cX11_count 2 s [rr G u0, .int u1].toArray TB RX11 := ⟨hx, hb, hml, hown, hT⟩
  have hS : va_S (WA G) s.heap s.heap [] := va_S.rf
  have hl : lv_has (lg_sl ([rr G u0, .int u1]) ++ List.replicate (2 - (lg_sl ([rr G u0, .int u1])).length) Slot.unset).toArray 2 [(0, rr G u0), (1, .int u1)] := by cases u0 <;> exact lv_entry _ (Nat.le_of_ble_eq_true rfl)
  rw [lg_entry_eq]
  generalize (lg_sl ([rr G u0, .int u1]) ++ List.replicate (2 - (lg_sl ([rr G u0, .int u1])).length) Slot.unset).toArray = ls at hl ⊢
  refine lv_iload_n hx hb dX11_count_0 rfl (lv_at hl 1 rfl) ?_
  by_cases w1 : u1 = (0 : Int32)
  · replace hE := ite_t w1 hE
    have hi : (u1).toInt = 0 := by rw [w1]; rfl
    refine lv_tableIn (off := 43) (tgt := 44) hx hb dX11_count_1 (by rw [hi]; decide) (by rw [hi]; decide) (by rw [hi]; rfl) (by decide) ?_
    refine s_aload_n hx hb dX11_count_44 rfl (lv_at hl 0 rfl) ?_
    obtain ⟨x2, hx2, hE⟩ := bd hE
    refine s_gR hx hb hT u_X11 hown hK hW hx2 rfl (by decide) fl_X11_16 rfl dX11_count_45 ?_
    obtain ⟨x3, hx3, hE⟩ := bd hE
    refine s_gI hx hb hT u_X4 hown hK hW hx3 rfl (by decide) fl_X11_132 rfl dX11_count_48 ?_
    obtain rfl := so1 hE
    exact s_iret hx hb hr hlocks hW hS dX11_count_51
  · replace hE := ite_f w1 hE
    by_cases w4 : u1 = (1 : Int32)
    · replace hE := ite_t w4 hE
      have hi : (u1).toInt = 1 := by rw [w4]; rfl
      refine lv_tableIn (off := 51) (tgt := 52) hx hb dX11_count_1 (by rw [hi]; decide) (by rw [hi]; decide) (by rw [hi]; rfl) (by decide) ?_
      refine s_aload_n hx hb dX11_count_52 rfl (lv_at hl 0 rfl) ?_
      obtain ⟨x5, hx5, hE⟩ := bd hE
      refine s_gR hx hb hT u_X11 hown hK hW hx5 rfl (by decide) fl_X11_16 rfl dX11_count_53 ?_
      obtain ⟨x6, hx6, hE⟩ := bd hE
      refine s_gI hx hb hT u_X4 hown hK hW hx6 rfl (by decide) fl_X11_142 rfl dX11_count_56 ?_
      obtain rfl := so1 hE
      exact s_iret hx hb hr hlocks hW hS dX11_count_59
    · replace hE := ite_f w4 hE
      by_cases w7 : u1 = (2 : Int32)
      · replace hE := ite_t w7 hE
        have hi : (u1).toInt = 2 := by rw [w7]; rfl
        refine lv_tableIn (off := 59) (tgt := 60) hx hb dX11_count_1 (by rw [hi]; decide) (by rw [hi]; decide) (by rw [hi]; rfl) (by decide) ?_
        refine s_aload_n hx hb dX11_count_60 rfl (lv_at hl 0 rfl) ?_
        obtain ⟨x8, hx8, hE⟩ := bd hE
        refine s_gR hx hb hT u_X11 hown hK hW hx8 rfl (by decide) fl_X11_16 rfl dX11_count_61 ?_
        obtain ⟨x9, hx9, hE⟩ := bd hE
        refine s_gI hx hb hT u_X4 hown hK hW hx9 rfl (by decide) fl_X11_165 rfl dX11_count_64 ?_
        obtain rfl := so1 hE
        exact s_iret hx hb hr hlocks hW hS dX11_count_67
      · replace hE := ite_f w7 hE
        by_cases w10 : u1 = (3 : Int32)
        · replace hE := ite_t w10 hE
          have hi : (u1).toInt = 3 := by rw [w10]; rfl
          refine lv_tableIn (off := 67) (tgt := 68) hx hb dX11_count_1 (by rw [hi]; decide) (by rw [hi]; decide) (by rw [hi]; rfl) (by decide) ?_
          refine s_aload_n hx hb dX11_count_68 rfl (lv_at hl 0 rfl) ?_
          obtain ⟨x11, hx11, hE⟩ := bd hE
          refine s_gR hx hb hT u_X11 hown hK hW hx11 rfl (by decide) fl_X11_16 rfl dX11_count_69 ?_
          obtain ⟨x12, hx12, hE⟩ := bd hE
          refine s_gI hx hb hT u_X4 hown hK hW hx12 rfl (by decide) fl_X11_132 rfl dX11_count_72 ?_
          obtain ⟨x13, hx13, hE⟩ := bd hE
          refine s_callS (As := [.int x12]) (rest := []) CF hK hW hS (S_X11_factorial l G F hx13) gs_X11_337 hd_X11_factorial.2 ⟨Nat.le_of_ble_eq_true rfl, Nat.le_of_ble_eq_true rfl⟩ rfl hl.1 rfl (Nat.le_of_ble_eq_true rfl) dX11_count_75 ⟨Nat.le_refl _, Nat.le_refl _⟩ (fun H locs hW hS => ?_)
          obtain rfl := so1 hE
          exact s_iret hx hb hr hlocks hW hS dX11_count_78
        · replace hE := ite_f w10 hE
          by_cases w14 : u1 = (4 : Int32)
          · replace hE := ite_t w14 hE
            have hi : (u1).toInt = 4 := by rw [w14]; rfl
            refine lv_tableIn (off := 78) (tgt := 79) hx hb dX11_count_1 (by rw [hi]; decide) (by rw [hi]; decide) (by rw [hi]; rfl) (by decide) ?_
            refine s_aload_n hx hb dX11_count_79 rfl (lv_at hl 0 rfl) ?_
            obtain ⟨x15, hx15, hE⟩ := bd hE
            refine s_gR hx hb hT u_X11 hown hK hW hx15 rfl (by decide) fl_X11_16 rfl dX11_count_80 ?_
            obtain ⟨x16, hx16, hE⟩ := bd hE
            refine s_gI hx hb hT u_X4 hown hK hW hx16 rfl (by decide) fl_X11_340 rfl dX11_count_83 ?_
            obtain rfl := so1 hE
            exact s_iret hx hb hr hlocks hW hS dX11_count_86
          · replace hE := ite_f w14 hE
            by_cases w17 : u1 = (5 : Int32)
            · replace hE := ite_t w17 hE
              have hi : (u1).toInt = 5 := by rw [w17]; rfl
              refine lv_tableIn (off := 86) (tgt := 87) hx hb dX11_count_1 (by rw [hi]; decide) (by rw [hi]; decide) (by rw [hi]; rfl) (by decide) ?_
              refine s_aload_n hx hb dX11_count_87 rfl (lv_at hl 0 rfl) ?_
              obtain ⟨x18, hx18, hE⟩ := bd hE
              refine s_gR hx hb hT u_X11 hown hK hW hx18 rfl (by decide) fl_X11_16 rfl dX11_count_88 ?_
              obtain ⟨x19, hx19, hE⟩ := bd hE
              refine s_gI hx hb hT u_X4 hown hK hW hx19 rfl (by decide) fl_X11_343 rfl dX11_count_91 ?_
              obtain rfl := so1 hE
              exact s_iret hx hb hr hlocks hW hS dX11_count_94
            · replace hE := ite_f w17 hE
              by_cases w20 : u1 = (6 : Int32)
              · replace hE := ite_t w20 hE
                have hi : (u1).toInt = 6 := by rw [w20]; rfl
                refine lv_tableIn (off := 94) (tgt := 95) hx hb dX11_count_1 (by rw [hi]; decide) (by rw [hi]; decide) (by rw [hi]; rfl) (by decide) ?_
                refine s_aload_n hx hb dX11_count_95 rfl (lv_at hl 0 rfl) ?_
                obtain ⟨x21, hx21, hE⟩ := bd hE
                refine s_gI hx hb hT u_X11 hown hK hW hx21 rfl (by decide) fl_X11_76 rfl dX11_count_96 ?_
                obtain rfl := so1 hE
                exact s_iret hx hb hr hlocks hW hS dX11_count_99
              · replace hE := ite_f w20 hE
                replace w1 := lv_neT w1 (a := 0) rfl
                replace w4 := lv_neT w4 (a := 1) rfl
                replace w7 := lv_neT w7 (a := 2) rfl
                replace w10 := lv_neT w10 (a := 3) rfl
                replace w14 := lv_neT w14 (a := 4) rfl
                replace w17 := lv_neT w17 (a := 5) rfl
                replace w20 := lv_neT w20 (a := 6) rfl
                refine lv_tableOut (tgt := 100) hx hb dX11_count_1 (by omega) (by decide) ?_
                refine lv_iconst (v := (-1 : Int32)) hx hb dX11_count_100 (by decide) ?_
                obtain rfl := so1 hE
                exact s_iret hx hb hr hlocks hW hS dX11_count_101
set_option maxHeartbeats 4000000 in
set_option maxRecDepth 100000 in
theorem S_X4_allWeights (l : Launch) (G : GG) (F : Nat) {u0 : Option Nat} {f : Hp} {r : Int32} {n : Nat} (hE : m_X4_allWeights F u0 f = some r) : Ctr l G yX4_allWeights cX4_allWeights 3 (some .int) 0 0 [rr G u0] f n (some (.int r)) f n 0 0 := by
  refine Met.ofW (cc := cX4_allWeights) (maxL := 3) (ret := (some .int)) (by decide) rfl ?_
  intro p e s m args below meth c s₁ B hml hv
  obtain ⟨rfl, hK, hW⟩ := hv
  have hx := B.exec
  have hb := B.bytes
  have hr := B.returns
  have hts := atoms_spec (ws := wsO yX4_allWeights cX4_allWeights 3 (some .int)) B.pre
  have hT : ∀ w ∈ TB, w.before [rr G u0].toArray s = true := fun w hw => hts w (List.mem_cons_of_mem _ hw)
  have hown : s.vm.findClass RX4 = some m.cls := findClass_of_methodNamed B.named
  have hlocks := B.notSynchronized
  have CF : CallFix p m c cX4_allWeights 3 s [rr G u0].toArray TB RX4 := ⟨hx, hb, hml, hown, hT⟩
  have hS : va_S (WA G) s.heap s.heap [] := va_S.rf
  have hl : lv_has (lg_sl ([rr G u0]) ++ List.replicate (3 - (lg_sl ([rr G u0])).length) Slot.unset).toArray 3 [(0, rr G u0)] := by cases u0 <;> exact lv_entry _ (Nat.le_of_ble_eq_true rfl)
  rw [lg_entry_eq]
  generalize (lg_sl ([rr G u0]) ++ List.replicate (3 - (lg_sl ([rr G u0])).length) Slot.unset).toArray = ls at hl ⊢
  have hC4 : ∀ (k4 : Nat), ∀ (v0 : Option Nat) (v1 : Int32) (v2 : Int32) (H : Heap) (locs : List Loc) (ls : Array Slot), m_X4_allWeights_L4 F k4 v0 v1 v2 f = some r → Wd G f n H → va_S (WA G) s.heap H locs → lv_has ls 3 [(0, rr G v0), (1, .int v1), (2, .int v2)] → W p l e (headSpec (wsO yX4_allWeights cX4_allWeights 3 (some .int)) { frames := 0, cells := 0, slots := 0, locals := 0 }).room s m [rr G u0].toArray below meth c H locs 0 0 (MQ below (Qcn G (some (.int r)) f n) [rr G u0].toArray s 0 0 (WA G)) (F0 m 4 ls []) := by
    intro k4
    induction k4 with
    | zero => intro v0 v1 v2 H locs ls hE _ _ _; cases (show (none : Option Int32) = some r from hE)
    | succ k4 ih4 =>
      intro v0 v1 v2 H locs ls hE hW hS hl
      replace hE : m_X4_allWeights_b4 F (m_X4_allWeights_L4 F k4) v0 v1 v2 f = some r := hE
      refine lv_iload_n hx hb dX4_allWeights_4 rfl (lv_at hl 2 rfl) ?_
      refine s_aload_n hx hb dX4_allWeights_5 rfl (lv_at hl 0 rfl) ?_
      obtain ⟨x1, hx1, hE⟩ := bd hE
      refine s_gI hx hb hT u_X4 hown hK hW hx1 rfl (by decide) fl_X4_9 rfl dX4_allWeights_6 ?_
      refine lv_iconst (v := (1 : Int32)) hx hb dX4_allWeights_9 (by decide) ?_
      refine lv_isub hx hb dX4_allWeights_10 ?_
      refine lv_icmp_ge (tgt := 38) hx hb dX4_allWeights_11 (by decide) (fun q2 => ?_) (fun q2 => ?_)
      · replace hE := ite_t q2 hE
        refine lv_iload_n hx hb dX4_allWeights_38 rfl (lv_at hl 1 rfl) ?_
        obtain rfl := so1 hE
        exact s_iret hx hb hr hlocks hW hS dX4_allWeights_39
      · replace hE := ite_f q2 hE
        refine lv_iload_n hx hb dX4_allWeights_14 rfl (lv_at hl 2 rfl) ?_
        refine s_aload_n hx hb dX4_allWeights_15 rfl (lv_at hl 0 rfl) ?_
        obtain ⟨x3, hx3, hE⟩ := bd hE
        refine s_gR hx hb hT u_X4 hown hK hW hx3 rfl (by decide) fl_X4_27 rfl dX4_allWeights_16 ?_
        obtain ⟨x4, hx4, hE⟩ := bd hE
        refine s_alen hx hb hK hW hS hx4 dX4_allWeights_19 ?_
        refine lv_icmp_ge (tgt := 38) hx hb dX4_allWeights_20 (by decide) (fun q5 => ?_) (fun q5 => ?_)
        · replace hE := ite_t q5 hE
          refine lv_iload_n hx hb dX4_allWeights_38 rfl (lv_at hl 1 rfl) ?_
          obtain rfl := so1 hE
          exact s_iret hx hb hr hlocks hW hS dX4_allWeights_39
        · replace hE := ite_f q5 hE
          refine lv_iload_n hx hb dX4_allWeights_23 rfl (lv_at hl 1 rfl) ?_
          refine s_aload_n hx hb dX4_allWeights_24 rfl (lv_at hl 0 rfl) ?_
          obtain ⟨x6, hx6, hE⟩ := bd hE
          refine s_gR hx hb hT u_X4 hown hK hW hx6 rfl (by decide) fl_X4_27 rfl dX4_allWeights_25 ?_
          refine lv_iload_n hx hb dX4_allWeights_28 rfl (lv_at hl 2 rfl) ?_
          obtain ⟨x7, hx7, hE⟩ := bd hE
          refine s_ldI hx hb hK hW hS hx7 dX4_allWeights_29 ?_
          refine lv_iadd hx hb dX4_allWeights_30 ?_
          refine lv_topi (fun y8 ey8 => ?_)
          replace hE := nm_o ey8 hE
          refine lv_istore_n (i := 1) (lv' := [(1, .int y8), (0, rr G v0), (2, .int v2)]) hx hb dX4_allWeights_31 rfl hl (by decide) (by simp [cat_rr]) (fun ls hl => ?_)
          obtain ⟨y9, ey9⟩ : ∃ y : Int32, y = v2 + (1 : Int32) := ⟨_, rfl⟩
          replace hE := nm_o ey9 hE
          refine lv_iinc (k := 2) (v := y9) (lv' := [(2, .int y9), (1, .int y8), (0, rr G v0)]) hx hb dX4_allWeights_32 hl rfl (by rw [ey9]; rfl) (by decide) rfl (fun ls hl => ?_)
          refine lv_goto (tgt := 4) hx hb dX4_allWeights_35 (by decide) ?_
          exact ih4 _ _ _ _ _ _ hE hW hS (lv_sub hl [2, 1, 0] rfl)
  refine lv_iconst (v := (0 : Int32)) hx hb dX4_allWeights_0 (by decide) ?_
  refine lv_istore_n (i := 1) (lv' := [(1, .int (0 : Int32)), (0, rr G u0)]) hx hb dX4_allWeights_1 rfl hl (by decide) (by simp [cat_rr]) (fun ls hl => ?_)
  refine lv_iconst (v := (0 : Int32)) hx hb dX4_allWeights_2 (by decide) ?_
  refine lv_istore_n (i := 2) (lv' := [(2, .int (0 : Int32)), (1, .int (0 : Int32)), (0, rr G u0)]) hx hb dX4_allWeights_3 rfl hl (by decide) rfl (fun ls hl => ?_)
  exact hC4 F _ _ _ _ _ _ hE hW hS (lv_sub hl [2, 1, 0] rfl)
set_option maxHeartbeats 4000000 in
set_option maxRecDepth 100000 in
theorem S_X4_placeDrawn (l : Launch) (G : GG) (F : Nat) {u0 : Option Nat} {u1 : Int32} {f : Hp} {r : Int32} {n : Nat} (hE : m_X4_placeDrawn F u0 u1 f = some r) : Ctr l G yX4_placeDrawn cX4_placeDrawn 4 (some .int) 0 0 [rr G u0, .int u1] f n (some (.int r)) f n 0 0 := by
  refine Met.ofW (cc := cX4_placeDrawn) (maxL := 4) (ret := (some .int)) (by decide) rfl ?_
  intro p e s m args below meth c s₁ B hml hv
  obtain ⟨rfl, hK, hW⟩ := hv
  have hx := B.exec
  have hb := B.bytes
  have hr := B.returns
  have hts := atoms_spec (ws := wsO yX4_placeDrawn cX4_placeDrawn 4 (some .int)) B.pre
  have hT : ∀ w ∈ TB, w.before [rr G u0, .int u1].toArray s = true := fun w hw => hts w (List.mem_cons_of_mem _ hw)
  have hown : s.vm.findClass RX4 = some m.cls := findClass_of_methodNamed B.named
  have hlocks := B.notSynchronized
  have CF : CallFix p m c cX4_placeDrawn 4 s [rr G u0, .int u1].toArray TB RX4 := ⟨hx, hb, hml, hown, hT⟩
  have hS : va_S (WA G) s.heap s.heap [] := va_S.rf
  have hl : lv_has (lg_sl ([rr G u0, .int u1]) ++ List.replicate (4 - (lg_sl ([rr G u0, .int u1])).length) Slot.unset).toArray 4 [(0, rr G u0), (1, .int u1)] := by cases u0 <;> exact lv_entry _ (Nat.le_of_ble_eq_true rfl)
  rw [lg_entry_eq]
  generalize (lg_sl ([rr G u0, .int u1]) ++ List.replicate (4 - (lg_sl ([rr G u0, .int u1])).length) Slot.unset).toArray = ls at hl ⊢
  have hC4 : ∀ (k4 : Nat), ∀ (v0 : Option Nat) (v1 : Int32) (v2 : Int32) (v3 : Int32) (H : Heap) (locs : List Loc) (ls : Array Slot), m_X4_placeDrawn_L4 F k4 v0 v1 v2 v3 f = some r → Wd G f n H → va_S (WA G) s.heap H locs → lv_has ls 4 [(0, rr G v0), (1, .int v1), (2, .int v2), (3, .int v3)] → W p l e (headSpec (wsO yX4_placeDrawn cX4_placeDrawn 4 (some .int)) { frames := 0, cells := 0, slots := 0, locals := 0 }).room s m [rr G u0, .int u1].toArray below meth c H locs 0 0 (MQ below (Qcn G (some (.int r)) f n) [rr G u0, .int u1].toArray s 0 0 (WA G)) (F0 m 4 ls []) := by
    intro k4
    induction k4 with
    | zero => intro v0 v1 v2 v3 H locs ls hE _ _ _; cases (show (none : Option Int32) = some r from hE)
    | succ k4 ih4 =>
      intro v0 v1 v2 v3 H locs ls hE hW hS hl
      replace hE : m_X4_placeDrawn_b4 F (m_X4_placeDrawn_L4 F k4) v0 v1 v2 v3 f = some r := hE
      refine lv_iload_n hx hb dX4_placeDrawn_4 rfl (lv_at hl 3 rfl) ?_
      refine s_aload_n hx hb dX4_placeDrawn_5 rfl (lv_at hl 0 rfl) ?_
      obtain ⟨x1, hx1, hE⟩ := bd hE
      refine s_gI hx hb hT u_X4 hown hK hW hx1 rfl (by decide) fl_X4_9 rfl dX4_placeDrawn_6 ?_
      refine lv_iconst (v := (1 : Int32)) hx hb dX4_placeDrawn_9 (by decide) ?_
      refine lv_isub hx hb dX4_placeDrawn_10 ?_
      refine lv_icmp_ge (tgt := 45) hx hb dX4_placeDrawn_11 (by decide) (fun q2 => ?_) (fun q2 => ?_)
      · replace hE := ite_t q2 hE
        refine lv_iconst (v := (0 : Int32)) hx hb dX4_placeDrawn_45 (by decide) ?_
        obtain rfl := so1 hE
        exact s_iret hx hb hr hlocks hW hS dX4_placeDrawn_46
      · replace hE := ite_f q2 hE
        refine lv_iload_n hx hb dX4_placeDrawn_14 rfl (lv_at hl 3 rfl) ?_
        refine s_aload_n hx hb dX4_placeDrawn_15 rfl (lv_at hl 0 rfl) ?_
        obtain ⟨x3, hx3, hE⟩ := bd hE
        refine s_gR hx hb hT u_X4 hown hK hW hx3 rfl (by decide) fl_X4_27 rfl dX4_placeDrawn_16 ?_
        obtain ⟨x4, hx4, hE⟩ := bd hE
        refine s_alen hx hb hK hW hS hx4 dX4_placeDrawn_19 ?_
        refine lv_icmp_ge (tgt := 45) hx hb dX4_placeDrawn_20 (by decide) (fun q5 => ?_) (fun q5 => ?_)
        · replace hE := ite_t q5 hE
          refine lv_iconst (v := (0 : Int32)) hx hb dX4_placeDrawn_45 (by decide) ?_
          obtain rfl := so1 hE
          exact s_iret hx hb hr hlocks hW hS dX4_placeDrawn_46
        · replace hE := ite_f q5 hE
          refine lv_iload_n hx hb dX4_placeDrawn_23 rfl (lv_at hl 2 rfl) ?_
          refine s_aload_n hx hb dX4_placeDrawn_24 rfl (lv_at hl 0 rfl) ?_
          obtain ⟨x6, hx6, hE⟩ := bd hE
          refine s_gR hx hb hT u_X4 hown hK hW hx6 rfl (by decide) fl_X4_27 rfl dX4_placeDrawn_25 ?_
          refine lv_iload_n hx hb dX4_placeDrawn_28 rfl (lv_at hl 3 rfl) ?_
          obtain ⟨x7, hx7, hE⟩ := bd hE
          refine s_ldI hx hb hK hW hS hx7 dX4_placeDrawn_29 ?_
          refine lv_iadd hx hb dX4_placeDrawn_30 ?_
          refine lv_topi (fun y8 ey8 => ?_)
          replace hE := nm_o ey8 hE
          refine lv_istore_n (i := 2) (lv' := [(2, .int y8), (0, rr G v0), (1, .int v1), (3, .int v3)]) hx hb dX4_placeDrawn_31 rfl hl (by decide) rfl (fun ls hl => ?_)
          refine lv_iload_n hx hb dX4_placeDrawn_32 rfl (lv_at hl 0 rfl) ?_
          refine lv_iload_n hx hb dX4_placeDrawn_33 rfl (lv_at hl 2 rfl) ?_
          refine lv_icmp_le (tgt := 39) hx hb dX4_placeDrawn_34 (by decide) (fun q9 => ?_) (fun q9 => ?_)
          · replace hE := ite_t q9 hE
            obtain ⟨y10, ey10⟩ : ∃ y : Int32, y = v3 + (1 : Int32) := ⟨_, rfl⟩
            replace hE := nm_o ey10 hE
            refine lv_iinc (k := 3) (v := y10) (lv' := [(3, .int y10), (2, .int y8), (0, rr G v0), (1, .int v1)]) hx hb dX4_placeDrawn_39 hl rfl (by rw [ey10]; rfl) (by decide) rfl (fun ls hl => ?_)
            refine lv_goto (tgt := 4) hx hb dX4_placeDrawn_42 (by decide) ?_
            exact ih4 _ _ _ _ _ _ _ hE hW hS (lv_sub hl [2, 3, 1, 0] rfl)
          · replace hE := ite_f q9 hE
            refine lv_iload_n hx hb dX4_placeDrawn_37 rfl (lv_at hl 3 rfl) ?_
            obtain rfl := so1 hE
            exact s_iret hx hb hr hlocks hW hS dX4_placeDrawn_38
  refine lv_iconst (v := (0 : Int32)) hx hb dX4_placeDrawn_0 (by decide) ?_
  refine lv_istore_n (i := 2) (lv' := [(2, .int (0 : Int32)), (0, rr G u0), (1, .int u1)]) hx hb dX4_placeDrawn_1 rfl hl (by decide) rfl (fun ls hl => ?_)
  refine lv_iconst (v := (0 : Int32)) hx hb dX4_placeDrawn_2 (by decide) ?_
  refine lv_istore_n (i := 3) (lv' := [(3, .int (0 : Int32)), (2, .int (0 : Int32)), (0, rr G u0), (1, .int u1)]) hx hb dX4_placeDrawn_3 rfl hl (by decide) rfl (fun ls hl => ?_)
  exact hC4 F _ _ _ _ _ _ _ hE hW hS (lv_sub hl [2, 3, 1, 0] rfl)
set_option maxHeartbeats 4000000 in
set_option maxRecDepth 100000 in
theorem S_X11_drawn (l : Launch) (G : GG) (F : Nat) {u0 : Option Nat} {u1 : Int32} {u2 : Int32} {u3 : Int32} {f : Hp} {r : Int32} {f' : Hp} {n n2 z z2 : Nat} (hE : m_X11_drawn F u0 u1 u2 u3 f n z = some (r, f', n2, z2)) : Ctr l G yX11_drawn cX11_drawn 9 (some .int) 5 118 [rr G u0, .int u1, .int u2, .int u3] f n (some (.int r)) f' n2 (n2 - n) (z2 - z) := by
  refine Met.ofW (cc := cX11_drawn) (maxL := 9) (ret := (some .int)) (by decide) rfl ?_
  intro p e s m args below meth c s₁ B hml hv
  obtain ⟨rfl, hK, hW⟩ := hv
  have hx := B.exec
  have hb := B.bytes
  have hr := B.returns
  have hts := atoms_spec (ws := wsO yX11_drawn cX11_drawn 9 (some .int)) B.pre
  have hT : ∀ w ∈ TB, w.before [rr G u0, .int u1, .int u2, .int u3].toArray s = true := fun w hw => hts w (List.mem_cons_of_mem _ hw)
  have hown : s.vm.findClass RX11 = some m.cls := findClass_of_methodNamed B.named
  have hlocks := B.notSynchronized
  have CF : CallFix p m c cX11_drawn 9 s [rr G u0, .int u1, .int u2, .int u3].toArray TB RX11 := ⟨hx, hb, hml, hown, hT⟩
  have hS : va_S (WA G) s.heap s.heap [] := va_S.rf
  have hl : lv_has (lg_sl ([rr G u0, .int u1, .int u2, .int u3]) ++ List.replicate (9 - (lg_sl ([rr G u0, .int u1, .int u2, .int u3])).length) Slot.unset).toArray 9 [(0, rr G u0), (1, .int u1), (2, .int u2), (3, .int u3)] := by cases u0 <;> exact lv_entry _ (Nat.le_of_ble_eq_true rfl)
  rw [lg_entry_eq]
  generalize (lg_sl ([rr G u0, .int u1, .int u2, .int u3]) ++ List.replicate (9 - (lg_sl ([rr G u0, .int u1, .int u2, .int u3])).length) Slot.unset).toArray = ls at hl ⊢
  have hC49 : ∀ (k49 : Nat), ∀ (v0 : Option Nat) (v2 : Int32) (v4 : Option Nat) (v5 : Int32) (v6 : Int32) (v7 : Int32) (v8 : Int32) (fa : Hp) (na za : Nat) (H : Heap) (locs : List Loc) (ls : Array Slot), n ≤ na → z ≤ za → m_X11_drawn_L49 F k49 v0 v2 v4 v5 v6 v7 v8 fa na za = some (r, f', n2, z2) → Wd G fa na H → va_S (WA G) s.heap H locs → lv_has ls 9 [(0, rr G v0), (2, .int v2), (4, rr G v4), (5, .int v5), (6, .int v6), (7, .int v7), (8, .int v8)] → W p l e (headSpec (wsO yX11_drawn cX11_drawn 9 (some .int)) { frames := 5, cells := (n2 - n), slots := (z2 - z), locals := 118 }).room s m [rr G u0, .int u1, .int u2, .int u3].toArray below meth c H locs (na - n) (za - z) (MQ below (Qcn G (some (.int r)) f' n2) [rr G u0, .int u1, .int u2, .int u3].toArray s (n2 - n) (z2 - z) (WA G)) (F0 m 49 ls []) := by
    intro k49
    induction k49 with
    | zero => intro v0 v2 v4 v5 v6 v7 v8 fa na za H locs ls hna hza hE _ _ _; cases (show (none : Option ((Int32) × Hp × Nat × Nat)) = some (r, f', n2, z2) from hE)
    | succ k49 ih49 =>
      intro v0 v2 v4 v5 v6 v7 v8 fa na za H locs ls hna hza hE hW hS hl
      replace hE : m_X11_drawn_b49 F (m_X11_drawn_L49 F k49) v0 v2 v4 v5 v6 v7 v8 fa na za = some (r, f', n2, z2) := hE
      refine lv_iload hx hb dX11_drawn_49 (lv_at hl 6 rfl) ?_
      refine lv_iload_n hx hb dX11_drawn_51 rfl (lv_at hl 1 rfl) ?_
      refine lv_icmp_ge (tgt := 97) hx hb dX11_drawn_52 (by decide) (fun q1 => ?_) (fun q1 => ?_)
      · replace hE := ite_t q1 hE
        refine lv_iload hx hb dX11_drawn_97 (lv_at hl 4 rfl) ?_
        obtain ⟨rfl, rfl, rfl, rfl⟩ := so4 hE
        exact s_iret hx hb hr hlocks hW hS dX11_drawn_99
      · replace hE := ite_f q1 hE
        refine lv_iload hx hb dX11_drawn_55 (lv_at hl 5 rfl) ?_
        refine lv_ldcw (v := (1103515245 : Int32)) hx hb hown (hT _ kc_X11_267) dX11_drawn_57 ?_
        refine lv_imul hx hb dX11_drawn_60 ?_
        refine lv_sipush (v := (12345 : Int32)) hx hb dX11_drawn_61 (by decide) ?_
        refine lv_iadd hx hb dX11_drawn_64 ?_
        refine lv_topi (fun y2 ey2 => ?_)
        replace hE := nm_o ey2 hE
        refine lv_istore (lv' := [(7, .int y2), (0, rr G v0), (2, .int v2), (4, rr G v4), (5, .int v5), (6, .int v6), (8, .int v8)]) hx hb dX11_drawn_65 hl (by decide) rfl (fun ls hl => ?_)
        refine s_aload hx hb dX11_drawn_67 (lv_at hl 3 rfl) ?_
        refine lv_iload hx hb dX11_drawn_69 (lv_at hl 5 rfl) ?_
        refine s_aload_n hx hb dX11_drawn_71 rfl (lv_at hl 1 rfl) ?_
        obtain ⟨x3, hx3, hE⟩ := bd hE
        refine s_gR hx hb hT u_X11 hown hK hW hx3 rfl (by decide) fl_X11_16 rfl dX11_drawn_72 ?_
        refine lv_iload hx hb dX11_drawn_75 (lv_at hl 0 rfl) ?_
        refine lv_bipush (v := (8 : Int32)) hx hb dX11_drawn_77 (by decide) ?_
        refine lv_iushr (v := (ius y2 (8 : Int32))) hx hb dX11_drawn_79 rfl ?_
        refine lv_iload hx hb dX11_drawn_80 (lv_at hl 4 rfl) ?_
        obtain ⟨c4, hE⟩ := ck hE
        refine lv_irem hx hb dX11_drawn_82 (of_decide_eq_true c4) ?_
        obtain ⟨c5, hE⟩ := ck hE
        obtain ⟨g6a, g6b, hE⟩ := grow_of hE
        replace g6a : na ≤ n2 := g6a
        replace g6b : za ≤ z2 := g6b
        obtain ⟨x7, hx7, hE⟩ := bd hE
        refine s_callV (As := [.int (irm (ius y2 (8 : Int32)) v5)]) (rest := [.int v6, rr G v4]) CF hK hW hS (S_X4_placeDrawn l G F hx7) c5 rfl gv_X11_268 hd_X4_placeDrawn ⟨Nat.le_of_ble_eq_true rfl, Nat.le_of_ble_eq_true rfl⟩ rfl hl.1 rfl (Nat.le_of_ble_eq_true rfl) dX11_drawn_83 ⟨show na - n + 0 ≤ n2 - n by omega, show za - z + 0 ≤ z2 - z by omega⟩ (fun H locs hW hS => ?_)
        obtain ⟨c8, hE⟩ := ck hE
        obtain ⟨g9a, g9b, hE⟩ := grow_of hE
        replace g9a : na ≤ n2 := g9a
        replace g9b : za ≤ z2 := g9b
        obtain ⟨x10, hx10, hE⟩ := bd hE
        refine s_callV (As := [.int v6, .int x7]) (rest := []) CF hK hW hS (S_X6_exchanged l G F hx10) c8 rfl gv_X11_271 hd_X6_exchanged ⟨Nat.le_of_ble_eq_true rfl, Nat.le_of_ble_eq_true rfl⟩ rfl hl.1 rfl (Nat.le_of_ble_eq_true rfl) dX11_drawn_86 ⟨show na - n + 0 ≤ n2 - n by omega, show za - z + 0 ≤ z2 - z by omega⟩ (fun H locs hW hS => ?_)
        refine lv_istore (lv' := [(6, .int x10), (7, .int y2), (0, rr G v0), (2, .int v2), (4, rr G v4), (5, .int v5), (8, .int v8)]) hx hb dX11_drawn_89 hl (by decide) rfl (fun ls hl => ?_)
        obtain ⟨y11, ey11⟩ : ∃ y : Int32, y = v8 + (1 : Int32) := ⟨_, rfl⟩
        replace hE := nm_o ey11 hE
        refine lv_iinc (k := 6) (v := y11) (lv' := [(8, .int y11), (6, .int x10), (7, .int y2), (0, rr G v0), (2, .int v2), (4, rr G v4), (5, .int v5)]) hx hb dX11_drawn_91 hl rfl (by rw [ey11]; rfl) (by decide) rfl (fun ls hl => ?_)
        refine lv_goto (tgt := 49) hx hb dX11_drawn_94 (by decide) ?_
        exact ih49 _ _ _ _ _ _ _ _ _ _ _ _ _ (by omega) (by omega) hE hW hS (lv_sub hl [3, 4, 5, 6, 1, 2, 0] rfl)
  refine W.cs (cells' := n - n) (slots' := z - z) (by omega) (by omega) ?_
  refine s_aload_n hx hb dX11_drawn_0 rfl (lv_at hl 0 rfl) ?_
  obtain ⟨c12, hE⟩ := ck hE
  obtain ⟨x16, f15, nq13, zq14, hf15, hE⟩ := bd4_of hE
  obtain ⟨c17, hE⟩ := ck hE
  replace c17 := of_decide_eq_true c17
  obtain ⟨g18a, g18b, hE⟩ := grow_of hE
  replace g18a : nq13 ≤ n2 := g18a
  replace g18b : zq14 ≤ z2 := g18b
  refine s_callV (As := []) (rest := []) CF hK hW hS (S_X11_orders l G F hf15) c12 rfl gv_X11_145 hd_X11_orders ⟨Nat.le_of_ble_eq_true rfl, Nat.le_of_ble_eq_true rfl⟩ rfl hl.1 rfl (Nat.le_of_ble_eq_true rfl) dX11_drawn_1 ⟨show n - n + (nq13 - (n)) ≤ n2 - n by omega, show z - z + (zq14 - (z)) ≤ z2 - z by omega⟩ (fun H locs hW hS => ?_)
  refine W.cs (cells' := nq13 - n) (slots' := zq14 - z) (by omega) (by omega) ?_
  refine s_astore (lv' := [(4, rr G x16), (0, rr G u0), (1, .int u1), (2, .int u2), (3, .int u3)]) hx hb dX11_drawn_4 hl (by decide) rfl (fun ls hl => ?_)
  refine s_aload_n hx hb dX11_drawn_6 rfl (lv_at hl 1 rfl) ?_
  obtain ⟨x19, hx19, hE⟩ := bd hE
  refine s_gR hx hb hT u_X11 hown hK hW hx19 rfl (by decide) fl_X11_16 rfl dX11_drawn_7 ?_
  obtain ⟨c20, hE⟩ := ck hE
  obtain ⟨g21a, g21b, hE⟩ := grow_of hE
  replace g21a : nq13 ≤ n2 := g21a
  replace g21b : zq14 ≤ z2 := g21b
  obtain ⟨x22, hx22, hE⟩ := bd hE
  refine s_callV (As := []) (rest := []) CF hK hW hS (S_X4_allWeights l G F hx22) c20 rfl gv_X11_264 hd_X4_allWeights ⟨Nat.le_of_ble_eq_true rfl, Nat.le_of_ble_eq_true rfl⟩ rfl hl.1 rfl (Nat.le_of_ble_eq_true rfl) dX11_drawn_10 ⟨show nq13 - n + 0 ≤ n2 - n by omega, show zq14 - z + 0 ≤ z2 - z by omega⟩ (fun H locs hW hS => ?_)
  refine lv_istore (lv' := [(5, .int x22), (4, rr G x16), (0, rr G u0), (1, .int u1), (2, .int u2), (3, .int u3)]) hx hb dX11_drawn_13 hl (by decide) (by simp [cat_rr]) (fun ls hl => ?_)
  refine s_aload hx hb dX11_drawn_15 (lv_at hl 1 rfl) ?_
  refine lv_iload_n hx hb dX11_drawn_17 rfl (lv_at hl 3 rfl) ?_
  obtain ⟨c23, hE⟩ := ck hE
  obtain ⟨g24a, g24b, hE⟩ := grow_of hE
  replace g24a : nq13 ≤ n2 := g24a
  replace g24b : zq14 ≤ z2 := g24b
  obtain ⟨x25, hx25, hE⟩ := bd hE
  refine s_callV (As := [.int u1]) (rest := []) CF hK hW hS (S_X6_has l G F hx25) c23 rfl gv_X11_149 hd_X6_has ⟨Nat.le_of_ble_eq_true rfl, Nat.le_of_ble_eq_true rfl⟩ rfl hl.1 rfl (Nat.le_of_ble_eq_true rfl) dX11_drawn_18 ⟨show nq13 - n + 0 ≤ n2 - n by omega, show zq14 - z + 0 ≤ z2 - z by omega⟩ (fun H locs hW hS => ?_)
  refine lv_if_eq (tgt := 38) hx hb dX11_drawn_21 (by decide) (fun q26 => ?_) (fun q26 => ?_)
  · replace hE := ite_t q26 hE
    refine lv_iconst (v := (-1 : Int32)) hx hb dX11_drawn_38 (by decide) ?_
    obtain ⟨rfl, rfl, rfl, rfl⟩ := so4 hE
    exact s_iret hx hb hr hlocks hW hS dX11_drawn_39
  · replace hE := ite_f q26 hE
    refine lv_iload_n hx hb dX11_drawn_24 rfl (lv_at hl 4 rfl) ?_
    refine lv_bipush (v := (100 : Int32)) hx hb dX11_drawn_25 (by decide) ?_
    obtain ⟨g27a, g27b, hE⟩ := grow_of hE
    replace g27a : nq13 ≤ n2 := g27a
    replace g27b : zq14 ≤ z2 := g27b
    obtain ⟨x28, hx28, hE⟩ := bd hE
    refine s_callS (As := [.int u2, .int (100 : Int32)]) (rest := []) CF hK hW hS (S_X11_isWithin l G F hx28) gs_X11_235 hd_X11_isWithin.2 ⟨Nat.le_of_ble_eq_true rfl, Nat.le_of_ble_eq_true rfl⟩ rfl hl.1 rfl (Nat.le_of_ble_eq_true rfl) dX11_drawn_27 ⟨show nq13 - n + 0 ≤ n2 - n by omega, show zq14 - z + 0 ≤ z2 - z by omega⟩ (fun H locs hW hS => ?_)
    refine lv_if_eq (tgt := 38) hx hb dX11_drawn_30 (by decide) (fun q29 => ?_) (fun q29 => ?_)
    · replace hE := ite_t q29 hE
      refine lv_iconst (v := (-1 : Int32)) hx hb dX11_drawn_38 (by decide) ?_
      obtain ⟨rfl, rfl, rfl, rfl⟩ := so4 hE
      exact s_iret hx hb hr hlocks hW hS dX11_drawn_39
    · replace hE := ite_f q29 hE
      refine lv_iload hx hb dX11_drawn_33 (lv_at hl 0 rfl) ?_
      refine lv_if_gt (tgt := 40) hx hb dX11_drawn_35 (by decide) (fun q30 => ?_) (fun q30 => ?_)
      · replace hE := ite_t q30 hE
        refine lv_iload_n hx hb dX11_drawn_40 rfl (lv_at hl 3 rfl) ?_
        refine lv_istore (lv' := [(6, .int u1), (5, .int x22), (4, rr G x16), (0, rr G u0), (1, .int u1), (2, .int u2), (3, .int u3)]) hx hb dX11_drawn_41 hl (by decide) rfl (fun ls hl => ?_)
        refine lv_iload_n hx hb dX11_drawn_43 rfl (lv_at hl 6 rfl) ?_
        refine lv_istore (lv' := [(7, .int u3), (6, .int u1), (5, .int x22), (4, rr G x16), (0, rr G u0), (1, .int u1), (2, .int u2), (3, .int u3)]) hx hb dX11_drawn_44 hl (by decide) rfl (fun ls hl => ?_)
        refine lv_iconst (v := (0 : Int32)) hx hb dX11_drawn_46 (by decide) ?_
        refine lv_istore (lv' := [(8, .int (0 : Int32)), (7, .int u3), (6, .int u1), (5, .int x22), (4, rr G x16), (0, rr G u0), (1, .int u1), (2, .int u2), (3, .int u3)]) hx hb dX11_drawn_47 hl (by decide) rfl (fun ls hl => ?_)
        exact hC49 F _ _ _ _ _ _ _ _ _ _ _ _ _ (by omega) (by omega) hE hW hS (lv_sub hl [5, 7, 4, 3, 2, 1, 0] rfl)
      · replace hE := ite_f q30 hE
        refine lv_iconst (v := (-1 : Int32)) hx hb dX11_drawn_38 (by decide) ?_
        obtain ⟨rfl, rfl, rfl, rfl⟩ := so4 hE
        exact s_iret hx hb hr hlocks hW hS dX11_drawn_39
set_option maxHeartbeats 4000000 in
set_option maxRecDepth 100000 in
theorem S_X11_end (l : Launch) (G : GG) (F : Nat) {u0 : Option Nat} {u1 : Int32} {f : Hp} {r : Int32} {f' : Hp} {n : Nat} (hE : m_X11_end F u0 u1 f = some (r, f')) : Ctr l G yX11_end cX11_end 2 (some .boolean) 0 0 [rr G u0, .int u1] f n (some (.int r)) f' n 0 0 := by
  refine Met.ofW (cc := cX11_end) (maxL := 2) (ret := (some .boolean)) (by decide) rfl ?_
  intro p e s m args below meth c s₁ B hml hv
  obtain ⟨rfl, hK, hW⟩ := hv
  have hx := B.exec
  have hb := B.bytes
  have hr := B.returns
  have hts := atoms_spec (ws := wsO yX11_end cX11_end 2 (some .boolean)) B.pre
  have hT : ∀ w ∈ TB, w.before [rr G u0, .int u1].toArray s = true := fun w hw => hts w (List.mem_cons_of_mem _ hw)
  have hown : s.vm.findClass RX11 = some m.cls := findClass_of_methodNamed B.named
  have hlocks := B.notSynchronized
  have CF : CallFix p m c cX11_end 2 s [rr G u0, .int u1].toArray TB RX11 := ⟨hx, hb, hml, hown, hT⟩
  have hS : va_S (WA G) s.heap s.heap [] := va_S.rf
  have hl : lv_has (lg_sl ([rr G u0, .int u1]) ++ List.replicate (2 - (lg_sl ([rr G u0, .int u1])).length) Slot.unset).toArray 2 [(0, rr G u0), (1, .int u1)] := by cases u0 <;> exact lv_entry _ (Nat.le_of_ble_eq_true rfl)
  rw [lg_entry_eq]
  generalize (lg_sl ([rr G u0, .int u1]) ++ List.replicate (2 - (lg_sl ([rr G u0, .int u1])).length) Slot.unset).toArray = ls at hl ⊢
  refine lv_iload_n hx hb dX11_end_0 rfl (lv_at hl 1 rfl) ?_
  refine lv_if_lt (tgt := 12) hx hb dX11_end_1 (by decide) (fun q1 => ?_) (fun q1 => ?_)
  · replace hE := ite_t q1 hE
    refine lv_iconst (v := (0 : Int32)) hx hb dX11_end_12 (by decide) ?_
    obtain ⟨c2, hE⟩ := ck hE
    obtain ⟨rfl, rfl⟩ := so2 hE
    exact s_zret hx hb hr c2 hlocks hW hS dX11_end_13
  · replace hE := ite_f q1 hE
    refine lv_iload_n hx hb dX11_end_4 rfl (lv_at hl 1 rfl) ?_
    refine s_aload_n hx hb dX11_end_5 rfl (lv_at hl 0 rfl) ?_
    obtain ⟨x3, hx3, hE⟩ := bd hE
    refine s_gI hx hb hT u_X11 hown hK hW hx3 rfl (by decide) fl_X11_76 rfl dX11_end_6 ?_
    refine lv_icmp_le (tgt := 14) hx hb dX11_end_9 (by decide) (fun q4 => ?_) (fun q4 => ?_)
    · replace hE := ite_t q4 hE
      refine s_aload_n hx hb dX11_end_14 rfl (lv_at hl 0 rfl) ?_
      refine lv_iload_n hx hb dX11_end_15 rfl (lv_at hl 1 rfl) ?_
      obtain ⟨f5, hf5, hE⟩ := bd hE
      refine s_putI hx hb hT u_X11 tyX11 tyX11_ok nmX11 hown hK hW hS hf5 rfl (by decide) fl_X11_76 rfl (Or.inl rfl) rfl dX11_end_16 (fun H locs hW hS => ?_)
      refine lv_iconst (v := (1 : Int32)) hx hb dX11_end_19 (by decide) ?_
      obtain ⟨c6, hE⟩ := ck hE
      obtain ⟨rfl, rfl⟩ := so2 hE
      exact s_zret hx hb hr c6 hlocks hW hS dX11_end_20
    · replace hE := ite_f q4 hE
      refine lv_iconst (v := (0 : Int32)) hx hb dX11_end_12 (by decide) ?_
      obtain ⟨c7, hE⟩ := ck hE
      obtain ⟨rfl, rfl⟩ := so2 hE
      exact s_zret hx hb hr c7 hlocks hW hS dX11_end_13
set_option maxHeartbeats 4000000 in
set_option maxRecDepth 100000 in
theorem S_X6_farTo (l : Launch) (G : GG) (F : Nat) {u0 : Option Nat} {u1 : Int32} {u2 : Option Nat} {f : Hp} {r : Int32} {n : Nat} (hE : m_X6_farTo F u0 u1 u2 f = some r) : Ctr l G yX6_farTo cX6_farTo 3 (some .int) 2 42 [rr G u0, .int u1, rr G u2] f n (some (.int r)) f n 0 0 := by
  refine Met.ofW (cc := cX6_farTo) (maxL := 3) (ret := (some .int)) (by decide) rfl ?_
  intro p e s m args below meth c s₁ B hml hv
  obtain ⟨rfl, hK, hW⟩ := hv
  have hx := B.exec
  have hb := B.bytes
  have hr := B.returns
  have hts := atoms_spec (ws := wsO yX6_farTo cX6_farTo 3 (some .int)) B.pre
  have hT : ∀ w ∈ TB, w.before [rr G u0, .int u1, rr G u2].toArray s = true := fun w hw => hts w (List.mem_cons_of_mem _ hw)
  have hown : s.vm.findClass RX6 = some m.cls := findClass_of_methodNamed B.named
  have hlocks := B.notSynchronized
  have CF : CallFix p m c cX6_farTo 3 s [rr G u0, .int u1, rr G u2].toArray TB RX6 := ⟨hx, hb, hml, hown, hT⟩
  have hS : va_S (WA G) s.heap s.heap [] := va_S.rf
  have hl : lv_has (lg_sl ([rr G u0, .int u1, rr G u2]) ++ List.replicate (3 - (lg_sl ([rr G u0, .int u1, rr G u2])).length) Slot.unset).toArray 3 [(0, rr G u0), (1, .int u1), (2, rr G u2)] := by cases u0 <;> cases u2 <;> exact lv_entry _ (Nat.le_of_ble_eq_true rfl)
  rw [lg_entry_eq]
  generalize (lg_sl ([rr G u0, .int u1, rr G u2]) ++ List.replicate (3 - (lg_sl ([rr G u0, .int u1, rr G u2])).length) Slot.unset).toArray = ls at hl ⊢
  refine s_aload_n hx hb dX6_farTo_0 rfl (lv_at hl 0 rfl) ?_
  refine lv_iload_n hx hb dX6_farTo_1 rfl (lv_at hl 1 rfl) ?_
  refine s_aload_n hx hb dX6_farTo_2 rfl (lv_at hl 2 rfl) ?_
  obtain ⟨c1, hE⟩ := ck hE
  obtain ⟨x2, hx2, hE⟩ := bd hE
  refine s_callV (As := [.int u1, rr G u2]) (rest := []) CF hK hW hS (S_X6_stepsTo l G F hx2) c1 rfl gv_X6_84 hd_X6_stepsTo ⟨Nat.le_of_ble_eq_true rfl, Nat.le_of_ble_eq_true rfl⟩ rfl hl.1 rfl (Nat.le_of_ble_eq_true rfl) dX6_farTo_3 ⟨Nat.le_refl _, Nat.le_refl _⟩ (fun H locs hW hS => ?_)
  refine lv_iconst (v := (3 : Int32)) hx hb dX6_farTo_6 (by decide) ?_
  refine s_aload_n hx hb dX6_farTo_7 rfl (lv_at hl 0 rfl) ?_
  obtain ⟨x3, hx3, hE⟩ := bd hE
  refine s_gI hx hb hT u_X6 hown hK hW hx3 rfl (by decide) fl_X6_18 rfl dX6_farTo_8 ?_
  refine s_aload_n hx hb dX6_farTo_11 rfl (lv_at hl 2 rfl) ?_
  obtain ⟨x4, hx4, hE⟩ := bd hE
  refine s_gI hx hb hT u_X1 hown hK hW hx4 rfl (by decide) fl_X6_88 rfl dX6_farTo_12 ?_
  refine lv_isub hx hb dX6_farTo_15 ?_
  refine lv_imul hx hb dX6_farTo_16 ?_
  refine lv_iadd hx hb dX6_farTo_17 ?_
  obtain rfl := so1 hE
  exact s_iret hx hb hr hlocks hW hS dX6_farTo_18
set_option maxHeartbeats 4000000 in
set_option maxRecDepth 100000 in
theorem S_X11_farFromAll (l : Launch) (G : GG) (F : Nat) {u0 : Option Nat} {u1 : Option Nat} {u2 : Int32} {u3 : Int32} {f : Hp} {r : Int32} {n : Nat} (hE : m_X11_farFromAll F u0 u1 u2 u3 f = some r) : Ctr l G yX11_farFromAll cX11_farFromAll 8 (some .int) 3 64 [rr G u0, rr G u1, .int u2, .int u3] f n (some (.int r)) f n 0 0 := by
  refine Met.ofW (cc := cX11_farFromAll) (maxL := 8) (ret := (some .int)) (by decide) rfl ?_
  intro p e s m args below meth c s₁ B hml hv
  obtain ⟨rfl, hK, hW⟩ := hv
  have hx := B.exec
  have hb := B.bytes
  have hr := B.returns
  have hts := atoms_spec (ws := wsO yX11_farFromAll cX11_farFromAll 8 (some .int)) B.pre
  have hT : ∀ w ∈ TB, w.before [rr G u0, rr G u1, .int u2, .int u3].toArray s = true := fun w hw => hts w (List.mem_cons_of_mem _ hw)
  have hown : s.vm.findClass RX11 = some m.cls := findClass_of_methodNamed B.named
  have hlocks := B.notSynchronized
  have CF : CallFix p m c cX11_farFromAll 8 s [rr G u0, rr G u1, .int u2, .int u3].toArray TB RX11 := ⟨hx, hb, hml, hown, hT⟩
  have hS : va_S (WA G) s.heap s.heap [] := va_S.rf
  have hl : lv_has (lg_sl ([rr G u0, rr G u1, .int u2, .int u3]) ++ List.replicate (8 - (lg_sl ([rr G u0, rr G u1, .int u2, .int u3])).length) Slot.unset).toArray 8 [(0, rr G u0), (1, rr G u1), (2, .int u2), (3, .int u3)] := by cases u0 <;> cases u1 <;> exact lv_entry _ (Nat.le_of_ble_eq_true rfl)
  rw [lg_entry_eq]
  generalize (lg_sl ([rr G u0, rr G u1, .int u2, .int u3]) ++ List.replicate (8 - (lg_sl ([rr G u0, rr G u1, .int u2, .int u3])).length) Slot.unset).toArray = ls at hl ⊢
  have hC67 : ∀ (v3 : Int32) (v4 : Int32) (v5 : Int32) (H : Heap) (locs : List Loc) (ls : Array Slot), m_X11_farFromAll_B67 F v3 v4 v5 f = some r → Wd G f n H → va_S (WA G) s.heap H locs → lv_has ls 8 [(3, .int v3), (4, .int v4), (5, .int v5)] → W p l e (headSpec (wsO yX11_farFromAll cX11_farFromAll 8 (some .int)) { frames := 3, cells := 0, slots := 0, locals := 64 }).room s m [rr G u0, rr G u1, .int u2, .int u3].toArray below meth c H locs 0 0 (MQ below (Qcn G (some (.int r)) f n) [rr G u0, rr G u1, .int u2, .int u3].toArray s 0 0 (WA G)) (F0 m 67 ls []) := by
    intro v3 v4 v5 H locs ls hE hW hS hl
    refine lv_iload_n hx hb dX11_farFromAll_67 rfl (lv_at hl 0 rfl) ?_
    refine lv_if_ne (tgt := 76) hx hb dX11_farFromAll_68 (by decide) (fun q13 => ?_) (fun q13 => ?_)
    · replace hE := ite_f q13 hE
      refine lv_iload hx hb dX11_farFromAll_76 (lv_at hl 2 rfl) ?_
      obtain rfl := so1 hE
      exact s_iret hx hb hr hlocks hW hS dX11_farFromAll_78
    · replace hE := ite_t q13 hE
      refine lv_iload hx hb dX11_farFromAll_71 (lv_at hl 1 rfl) ?_
      refine lv_goto (tgt := 78) hx hb dX11_farFromAll_73 (by decide) ?_
      obtain rfl := so1 hE
      exact s_iret hx hb hr hlocks hW hS dX11_farFromAll_78
  have hC9 : ∀ (k9 : Nat), ∀ (v0 : Option Nat) (v1 : Option Nat) (v2 : Int32) (v3 : Int32) (v4 : Int32) (v5 : Int32) (v6 : Int32) (H : Heap) (locs : List Loc) (ls : Array Slot), m_X11_farFromAll_L9 F k9 v0 v1 v2 v3 v4 v5 v6 f = some r → Wd G f n H → va_S (WA G) s.heap H locs → lv_has ls 8 [(0, rr G v0), (1, rr G v1), (2, .int v2), (3, .int v3), (4, .int v4), (5, .int v5), (6, .int v6)] → W p l e (headSpec (wsO yX11_farFromAll cX11_farFromAll 8 (some .int)) { frames := 3, cells := 0, slots := 0, locals := 64 }).room s m [rr G u0, rr G u1, .int u2, .int u3].toArray below meth c H locs 0 0 (MQ below (Qcn G (some (.int r)) f n) [rr G u0, rr G u1, .int u2, .int u3].toArray s 0 0 (WA G)) (F0 m 9 ls []) := by
    intro k9
    induction k9 with
    | zero => intro v0 v1 v2 v3 v4 v5 v6 H locs ls hE _ _ _; cases (show (none : Option Int32) = some r from hE)
    | succ k9 ih9 =>
      intro v0 v1 v2 v3 v4 v5 v6 H locs ls hE hW hS hl
      replace hE : m_X11_farFromAll_b9 F (m_X11_farFromAll_L9 F k9) v0 v1 v2 v3 v4 v5 v6 f = some r := hE
      refine lv_iload hx hb dX11_farFromAll_9 (lv_at hl 6 rfl) ?_
      refine s_aload_n hx hb dX11_farFromAll_11 rfl (lv_at hl 0 rfl) ?_
      obtain ⟨x1, hx1, hE⟩ := bd hE
      refine s_gR hx hb hT u_X11 hown hK hW hx1 rfl (by decide) fl_X11_16 rfl dX11_farFromAll_12 ?_
      obtain ⟨x2, hx2, hE⟩ := bd hE
      refine s_gI hx hb hT u_X4 hown hK hW hx2 rfl (by decide) fl_X11_142 rfl dX11_farFromAll_15 ?_
      refine lv_icmp_ge (tgt := 67) hx hb dX11_farFromAll_18 (by decide) (fun q3 => ?_) (fun q3 => ?_)
      · replace hE := ite_t q3 hE
        exact hC67 _ _ _ _ _ _ hE hW hS (lv_sub hl [3, 4, 5] rfl)
      · replace hE := ite_f q3 hE
        refine lv_iload hx hb dX11_farFromAll_21 (lv_at hl 6 rfl) ?_
        refine lv_bipush (v := (10 : Int32)) hx hb dX11_farFromAll_23 (by decide) ?_
        refine lv_icmp_ge (tgt := 67) hx hb dX11_farFromAll_25 (by decide) (fun q4 => ?_) (fun q4 => ?_)
        · replace hE := ite_t q4 hE
          exact hC67 _ _ _ _ _ _ hE hW hS (lv_sub hl [3, 4, 5] rfl)
        · replace hE := ite_f q4 hE
          refine s_aload_n hx hb dX11_farFromAll_28 rfl (lv_at hl 1 rfl) ?_
          refine lv_iload_n hx hb dX11_farFromAll_29 rfl (lv_at hl 2 rfl) ?_
          refine s_aload_n hx hb dX11_farFromAll_30 rfl (lv_at hl 0 rfl) ?_
          obtain ⟨x5, hx5, hE⟩ := bd hE
          refine s_gR hx hb hT u_X11 hown hK hW hx5 rfl (by decide) fl_X11_16 rfl dX11_farFromAll_31 ?_
          obtain ⟨x6, hx6, hE⟩ := bd hE
          refine s_gR hx hb hT u_X4 hown hK hW hx6 rfl (by decide) fl_X11_325 rfl dX11_farFromAll_34 ?_
          refine lv_iload hx hb dX11_farFromAll_37 (lv_at hl 6 rfl) ?_
          obtain ⟨x7, hx7, hE⟩ := bd hE
          refine s_ldR hx hb hK hW hS hx7 (by decide) rfl dX11_farFromAll_39 ?_
          obtain ⟨c8, hE⟩ := ck hE
          obtain ⟨x9, hx9, hE⟩ := bd hE
          refine s_callV (As := [.int v2, rr G x7]) (rest := []) CF hK hW hS (S_X6_farTo l G F hx9) c8 rfl gv_X11_303 hd_X6_farTo ⟨Nat.le_of_ble_eq_true rfl, Nat.le_of_ble_eq_true rfl⟩ rfl hl.1 rfl (Nat.le_of_ble_eq_true rfl) dX11_farFromAll_40 ⟨Nat.le_refl _, Nat.le_refl _⟩ (fun H locs hW hS => ?_)
          refine lv_istore (lv' := [(7, .int x9), (0, rr G v0), (1, rr G v1), (2, .int v2), (3, .int v3), (4, .int v4), (5, .int v5), (6, .int v6)]) hx hb dX11_farFromAll_43 hl (by decide) rfl (fun ls hl => ?_)
          refine lv_iload hx hb dX11_farFromAll_45 (lv_at hl 5 rfl) ?_
          refine lv_iload hx hb dX11_farFromAll_47 (lv_at hl 0 rfl) ?_
          refine lv_iadd hx hb dX11_farFromAll_49 ?_
          refine lv_topi (fun y10 ey10 => ?_)
          replace hE := nm_o ey10 hE
          refine lv_istore (lv' := [(4, .int y10), (7, .int x9), (0, rr G v0), (1, rr G v1), (2, .int v2), (3, .int v3), (5, .int v5), (6, .int v6)]) hx hb dX11_farFromAll_50 hl (by decide) rfl (fun ls hl => ?_)
          refine lv_iload hx hb dX11_farFromAll_52 (lv_at hl 6 rfl) ?_
          refine lv_iload hx hb dX11_farFromAll_54 (lv_at hl 1 rfl) ?_
          refine s_max hx hb (by rw [hml]; exact hl.1.symm) hT hown mx_X11_315 (Nat.le_of_ble_eq_true rfl) (Nat.le_of_ble_eq_true rfl) (Nat.le_of_ble_eq_true rfl) (Nat.le_refl _) (Nat.le_refl _) dX11_farFromAll_56 ?_
          refine lv_topi (fun y11 ey11 => ?_)
          replace hE := nm_o ey11 hE
          refine lv_istore (lv' := [(5, .int y11), (4, .int y10), (7, .int x9), (0, rr G v0), (1, rr G v1), (2, .int v2), (3, .int v3), (6, .int v6)]) hx hb dX11_farFromAll_59 hl (by decide) rfl (fun ls hl => ?_)
          obtain ⟨y12, ey12⟩ : ∃ y : Int32, y = v6 + (1 : Int32) := ⟨_, rfl⟩
          replace hE := nm_o ey12 hE
          refine lv_iinc (k := 7) (v := y12) (lv' := [(6, .int y12), (5, .int y11), (4, .int y10), (7, .int x9), (0, rr G v0), (1, rr G v1), (2, .int v2), (3, .int v3)]) hx hb dX11_farFromAll_61 hl rfl (by rw [ey12]; rfl) (by decide) rfl (fun ls hl => ?_)
          refine lv_goto (tgt := 9) hx hb dX11_farFromAll_64 (by decide) ?_
          exact ih9 _ _ _ _ _ _ _ _ _ _ hE hW hS (lv_sub hl [4, 5, 6, 7, 2, 1, 0] rfl)
  refine lv_iconst (v := (0 : Int32)) hx hb dX11_farFromAll_0 (by decide) ?_
  refine lv_istore (lv' := [(4, .int (0 : Int32)), (0, rr G u0), (1, rr G u1), (2, .int u2), (3, .int u3)]) hx hb dX11_farFromAll_1 hl (by decide) rfl (fun ls hl => ?_)
  refine lv_iconst (v := (0 : Int32)) hx hb dX11_farFromAll_3 (by decide) ?_
  refine lv_istore (lv' := [(5, .int (0 : Int32)), (4, .int (0 : Int32)), (0, rr G u0), (1, rr G u1), (2, .int u2), (3, .int u3)]) hx hb dX11_farFromAll_4 hl (by decide) rfl (fun ls hl => ?_)
  refine lv_iconst (v := (0 : Int32)) hx hb dX11_farFromAll_6 (by decide) ?_
  refine lv_istore (lv' := [(6, .int (0 : Int32)), (5, .int (0 : Int32)), (4, .int (0 : Int32)), (0, rr G u0), (1, rr G u1), (2, .int u2), (3, .int u3)]) hx hb dX11_farFromAll_7 hl (by decide) rfl (fun ls hl => ?_)
  exact hC9 F _ _ _ _ _ _ _ _ _ _ hE hW hS (lv_sub hl [3, 4, 5, 6, 2, 1, 0] rfl)
set_option maxHeartbeats 4000000 in
set_option maxRecDepth 100000 in
theorem S_X11_fault (l : Launch) (G : GG) (F : Nat) {u0 : Option Nat} {f : Hp} {r : Int32} {n : Nat} (hE : m_X11_fault F u0 f = some r) : Ctr l G yX11_fault cX11_fault 1 (some .int) 0 0 [rr G u0] f n (some (.int r)) f n 0 0 := by
  refine Met.ofW (cc := cX11_fault) (maxL := 1) (ret := (some .int)) (by decide) rfl ?_
  intro p e s m args below meth c s₁ B hml hv
  obtain ⟨rfl, hK, hW⟩ := hv
  have hx := B.exec
  have hb := B.bytes
  have hr := B.returns
  have hts := atoms_spec (ws := wsO yX11_fault cX11_fault 1 (some .int)) B.pre
  have hT : ∀ w ∈ TB, w.before [rr G u0].toArray s = true := fun w hw => hts w (List.mem_cons_of_mem _ hw)
  have hown : s.vm.findClass RX11 = some m.cls := findClass_of_methodNamed B.named
  have hlocks := B.notSynchronized
  have CF : CallFix p m c cX11_fault 1 s [rr G u0].toArray TB RX11 := ⟨hx, hb, hml, hown, hT⟩
  have hS : va_S (WA G) s.heap s.heap [] := va_S.rf
  have hl : lv_has (lg_sl ([rr G u0]) ++ List.replicate (1 - (lg_sl ([rr G u0])).length) Slot.unset).toArray 1 [(0, rr G u0)] := by cases u0 <;> exact lv_entry _ (Nat.le_of_ble_eq_true rfl)
  rw [lg_entry_eq]
  generalize (lg_sl ([rr G u0]) ++ List.replicate (1 - (lg_sl ([rr G u0])).length) Slot.unset).toArray = ls at hl ⊢
  refine s_aload_n hx hb dX11_fault_0 rfl (lv_at hl 0 rfl) ?_
  obtain ⟨x1, hx1, hE⟩ := bd hE
  refine s_gI hx hb hT u_X11 hown hK hW hx1 rfl (by decide) fl_X11_99 rfl dX11_fault_1 ?_
  obtain rfl := so1 hE
  exact s_iret hx hb hr hlocks hW hS dX11_fault_4
set_option maxHeartbeats 4000000 in
set_option maxRecDepth 100000 in
theorem S_X11_putNumber (l : Launch) (G : GG) (F : Nat) {u0 : Option Nat} {u1 : Int32} {f : Hp} {f' : Hp} {n : Nat} (hE : m_X11_putNumber F u0 u1 f = some f') : Ctr l G yX11_putNumber cX11_putNumber 3 none 0 0 [rr G u0, .int u1] f n none f' n 0 0 := by
  refine Met.ofW (cc := cX11_putNumber) (maxL := 3) (ret := none) (by decide) rfl ?_
  intro p e s m args below meth c s₁ B hml hv
  obtain ⟨rfl, hK, hW⟩ := hv
  have hx := B.exec
  have hb := B.bytes
  have hr := B.returns
  have hts := atoms_spec (ws := wsO yX11_putNumber cX11_putNumber 3 none) B.pre
  have hT : ∀ w ∈ TB, w.before [rr G u0, .int u1].toArray s = true := fun w hw => hts w (List.mem_cons_of_mem _ hw)
  have hown : s.vm.findClass RX11 = some m.cls := findClass_of_methodNamed B.named
  have hlocks := B.notSynchronized
  have CF : CallFix p m c cX11_putNumber 3 s [rr G u0, .int u1].toArray TB RX11 := ⟨hx, hb, hml, hown, hT⟩
  have hS : va_S (WA G) s.heap s.heap [] := va_S.rf
  have hl : lv_has (lg_sl ([rr G u0, .int u1]) ++ List.replicate (3 - (lg_sl ([rr G u0, .int u1])).length) Slot.unset).toArray 3 [(0, rr G u0), (1, .int u1)] := by cases u0 <;> exact lv_entry _ (Nat.le_of_ble_eq_true rfl)
  rw [lg_entry_eq]
  generalize (lg_sl ([rr G u0, .int u1]) ++ List.replicate (3 - (lg_sl ([rr G u0, .int u1])).length) Slot.unset).toArray = ls at hl ⊢
  have hC3 : ∀ (k3 : Nat), ∀ (v0 : Option Nat) (v1 : Int32) (v2 : Int32) (fa : Hp) (H : Heap) (locs : List Loc) (ls : Array Slot), m_X11_putNumber_L3 F k3 v0 v1 v2 fa = some f' → Wd G fa n H → va_S (WA G) s.heap H locs → lv_has ls 3 [(0, rr G v0), (1, .int v1), (2, .int v2)] → W p l e (headSpec (wsO yX11_putNumber cX11_putNumber 3 none) { frames := 0, cells := 0, slots := 0, locals := 0 }).room s m [rr G u0, .int u1].toArray below meth c H locs 0 0 (MQ below (Qcn G none f' n) [rr G u0, .int u1].toArray s 0 0 (WA G)) (F0 m 3 ls []) := by
    intro k3
    induction k3 with
    | zero => intro v0 v1 v2 fa H locs ls hE _ _ _; cases (show (none : Option Hp) = some f' from hE)
    | succ k3 ih3 =>
      intro v0 v1 v2 fa H locs ls hE hW hS hl
      replace hE : m_X11_putNumber_b3 F (m_X11_putNumber_L3 F k3) v0 v1 v2 fa = some f' := hE
      refine lv_iload_n hx hb dX11_putNumber_3 rfl (lv_at hl 2 rfl) ?_
      refine lv_if_lt (tgt := 46) hx hb dX11_putNumber_4 (by decide) (fun q1 => ?_) (fun q1 => ?_)
      · replace hE := ite_t q1 hE
        obtain rfl := so1 hE
        exact s_vret hx hb hr hlocks hW hS dX11_putNumber_46
      · replace hE := ite_f q1 hE
        refine s_aload_n hx hb dX11_putNumber_7 rfl (lv_at hl 0 rfl) ?_
        obtain ⟨x2, hx2, hE⟩ := bd hE
        refine s_gI hx hb hT u_X11 hown hK hW hx2 rfl (by decide) fl_X11_76 rfl dX11_putNumber_8 ?_
        refine lv_sipush (v := (740 : Int32)) hx hb dX11_putNumber_11 (by decide) ?_
        refine lv_icmp_ge (tgt := 46) hx hb dX11_putNumber_14 (by decide) (fun q3 => ?_) (fun q3 => ?_)
        · replace hE := ite_t q3 hE
          obtain rfl := so1 hE
          exact s_vret hx hb hr hlocks hW hS dX11_putNumber_46
        · replace hE := ite_f q3 hE
          refine s_aload_n hx hb dX11_putNumber_17 rfl (lv_at hl 0 rfl) ?_
          obtain ⟨x4, hx4, hE⟩ := bd hE
          refine s_gR hx hb hT u_X11 hown hK hW hx4 rfl (by decide) fl_X11_9 rfl dX11_putNumber_18 ?_
          refine s_aload_n hx hb dX11_putNumber_21 rfl (lv_at hl 0 rfl) ?_
          obtain ⟨x5, hx5, hE⟩ := bd hE
          refine s_gI hx hb hT u_X11 hown hK hW hx5 rfl (by decide) fl_X11_76 rfl dX11_putNumber_22 ?_
          refine lv_iload_n hx hb dX11_putNumber_25 rfl (lv_at hl 1 rfl) ?_
          refine lv_iload_n hx hb dX11_putNumber_26 rfl (lv_at hl 2 rfl) ?_
          refine lv_iushr (v := (ius v1 v2)) hx hb dX11_putNumber_27 rfl ?_
          refine lv_i2b (v := (i2b (ius v1 v2))) hx hb dX11_putNumber_28 rfl ?_
          obtain ⟨f6, hf6, hE⟩ := bd hE
          refine s_stB hx hb hK hW hS hf6 dX11_putNumber_29 (fun H locs hW hS => ?_)
          refine s_aload_n hx hb dX11_putNumber_30 rfl (lv_at hl 0 rfl) ?_
          refine lv_dup hx hb dX11_putNumber_31 (cat_rr G _) ?_
          obtain ⟨x7, hx7, hE⟩ := bd hE
          refine s_gI hx hb hT u_X11 hown hK hW hx7 rfl (by decide) fl_X11_76 rfl dX11_putNumber_32 ?_
          refine lv_iconst (v := (1 : Int32)) hx hb dX11_putNumber_35 (by decide) ?_
          refine lv_iadd hx hb dX11_putNumber_36 ?_
          obtain ⟨f8, hf8, hE⟩ := bd hE
          refine s_putI hx hb hT u_X11 tyX11 tyX11_ok nmX11 hown hK hW hS hf8 rfl (by decide) fl_X11_76 rfl (Or.inl rfl) rfl dX11_putNumber_37 (fun H locs hW hS => ?_)
          obtain ⟨y9, ey9⟩ : ∃ y : Int32, y = v2 + (-8 : Int32) := ⟨_, rfl⟩
          replace hE := nm_o ey9 hE
          refine lv_iinc (k := 2) (v := y9) (lv' := [(2, .int y9), (0, rr G v0), (1, .int v1)]) hx hb dX11_putNumber_40 hl rfl (by rw [ey9]; rfl) (by decide) rfl (fun ls hl => ?_)
          refine lv_goto (tgt := 3) hx hb dX11_putNumber_43 (by decide) ?_
          exact ih3 _ _ _ _ _ _ _ hE hW hS (lv_sub hl [1, 2, 0] rfl)
  refine lv_bipush (v := (24 : Int32)) hx hb dX11_putNumber_0 (by decide) ?_
  refine lv_istore_n (i := 2) (lv' := [(2, .int (24 : Int32)), (0, rr G u0), (1, .int u1)]) hx hb dX11_putNumber_2 rfl hl (by decide) rfl (fun ls hl => ?_)
  exact hC3 F _ _ _ _ _ _ _ hE hW hS (lv_sub hl [1, 2, 0] rfl)
set_option maxHeartbeats 4000000 in
set_option maxRecDepth 100000 in
theorem S_X11_feed (l : Launch) (G : GG) (F : Nat) {u0 : Option Nat} {u1 : Int32} {u2 : Int32} {u3 : Int32} {u4 : Int32} {u5 : Int32} {f : Hp} {r : Int32} {f' : Hp} {n : Nat} (hE : m_X11_feed F u0 u1 u2 u3 u4 u5 f = some (r, f')) : Ctr l G yX11_feed cX11_feed 6 (some .int) 1 22 [rr G u0, .int u1, .int u2, .int u3, .int u4, .int u5] f n (some (.int r)) f' n 0 0 := by
  refine Met.ofW (cc := cX11_feed) (maxL := 6) (ret := (some .int)) (by decide) rfl ?_
  intro p e s m args below meth c s₁ B hml hv
  obtain ⟨rfl, hK, hW⟩ := hv
  have hx := B.exec
  have hb := B.bytes
  have hr := B.returns
  have hts := atoms_spec (ws := wsO yX11_feed cX11_feed 6 (some .int)) B.pre
  have hT : ∀ w ∈ TB, w.before [rr G u0, .int u1, .int u2, .int u3, .int u4, .int u5].toArray s = true := fun w hw => hts w (List.mem_cons_of_mem _ hw)
  have hown : s.vm.findClass RX11 = some m.cls := findClass_of_methodNamed B.named
  have hlocks := B.notSynchronized
  have CF : CallFix p m c cX11_feed 6 s [rr G u0, .int u1, .int u2, .int u3, .int u4, .int u5].toArray TB RX11 := ⟨hx, hb, hml, hown, hT⟩
  have hS : va_S (WA G) s.heap s.heap [] := va_S.rf
  have hl : lv_has (lg_sl ([rr G u0, .int u1, .int u2, .int u3, .int u4, .int u5]) ++ List.replicate (6 - (lg_sl ([rr G u0, .int u1, .int u2, .int u3, .int u4, .int u5])).length) Slot.unset).toArray 6 [(0, rr G u0), (1, .int u1), (2, .int u2), (3, .int u3), (4, .int u4), (5, .int u5)] := by cases u0 <;> exact lv_entry _ (Nat.le_of_ble_eq_true rfl)
  rw [lg_entry_eq]
  generalize (lg_sl ([rr G u0, .int u1, .int u2, .int u3, .int u4, .int u5]) ++ List.replicate (6 - (lg_sl ([rr G u0, .int u1, .int u2, .int u3, .int u4, .int u5])).length) Slot.unset).toArray = ls at hl ⊢
  refine s_aload_n hx hb dX11_feed_0 rfl (lv_at hl 0 rfl) ?_
  obtain ⟨x1, hx1, hE⟩ := bd hE
  refine s_gI hx hb hT u_X11 hown hK hW hx1 rfl (by decide) fl_X11_76 rfl dX11_feed_1 ?_
  refine lv_bipush (v := (20 : Int32)) hx hb dX11_feed_4 (by decide) ?_
  refine lv_iadd hx hb dX11_feed_6 ?_
  refine lv_sipush (v := (740 : Int32)) hx hb dX11_feed_7 (by decide) ?_
  refine lv_icmp_le (tgt := 15) hx hb dX11_feed_10 (by decide) (fun q2 => ?_) (fun q2 => ?_)
  · replace hE := ite_t q2 hE
    refine s_aload_n hx hb dX11_feed_15 rfl (lv_at hl 0 rfl) ?_
    refine lv_iload_n hx hb dX11_feed_16 rfl (lv_at hl 1 rfl) ?_
    obtain ⟨c3, hE⟩ := ck hE
    obtain ⟨f4, hf4, hE⟩ := bd hE
    refine s_callV (As := [.int u1]) (rest := []) CF hK hW hS (S_X11_putNumber l G F hf4) c3 rfl gv_X11_80 hd_X11_putNumber ⟨Nat.le_of_ble_eq_true rfl, Nat.le_of_ble_eq_true rfl⟩ rfl hl.1 rfl (Nat.le_of_ble_eq_true rfl) dX11_feed_17 ⟨Nat.le_refl _, Nat.le_refl _⟩ (fun H locs hW hS => ?_)
    refine s_aload_n hx hb dX11_feed_20 rfl (lv_at hl 0 rfl) ?_
    refine lv_iload_n hx hb dX11_feed_21 rfl (lv_at hl 2 rfl) ?_
    obtain ⟨c5, hE⟩ := ck hE
    obtain ⟨f6, hf6, hE⟩ := bd hE
    refine s_callV (As := [.int u2]) (rest := []) CF hK hW hS (S_X11_putNumber l G F hf6) c5 rfl gv_X11_80 hd_X11_putNumber ⟨Nat.le_of_ble_eq_true rfl, Nat.le_of_ble_eq_true rfl⟩ rfl hl.1 rfl (Nat.le_of_ble_eq_true rfl) dX11_feed_22 ⟨Nat.le_refl _, Nat.le_refl _⟩ (fun H locs hW hS => ?_)
    refine s_aload_n hx hb dX11_feed_25 rfl (lv_at hl 0 rfl) ?_
    refine lv_iload_n hx hb dX11_feed_26 rfl (lv_at hl 3 rfl) ?_
    obtain ⟨c7, hE⟩ := ck hE
    obtain ⟨f8, hf8, hE⟩ := bd hE
    refine s_callV (As := [.int u3]) (rest := []) CF hK hW hS (S_X11_putNumber l G F hf8) c7 rfl gv_X11_80 hd_X11_putNumber ⟨Nat.le_of_ble_eq_true rfl, Nat.le_of_ble_eq_true rfl⟩ rfl hl.1 rfl (Nat.le_of_ble_eq_true rfl) dX11_feed_27 ⟨Nat.le_refl _, Nat.le_refl _⟩ (fun H locs hW hS => ?_)
    refine s_aload_n hx hb dX11_feed_30 rfl (lv_at hl 0 rfl) ?_
    refine lv_iload hx hb dX11_feed_31 (lv_at hl 4 rfl) ?_
    obtain ⟨c9, hE⟩ := ck hE
    obtain ⟨f10, hf10, hE⟩ := bd hE
    refine s_callV (As := [.int u4]) (rest := []) CF hK hW hS (S_X11_putNumber l G F hf10) c9 rfl gv_X11_80 hd_X11_putNumber ⟨Nat.le_of_ble_eq_true rfl, Nat.le_of_ble_eq_true rfl⟩ rfl hl.1 rfl (Nat.le_of_ble_eq_true rfl) dX11_feed_33 ⟨Nat.le_refl _, Nat.le_refl _⟩ (fun H locs hW hS => ?_)
    refine s_aload_n hx hb dX11_feed_36 rfl (lv_at hl 0 rfl) ?_
    refine lv_iload hx hb dX11_feed_37 (lv_at hl 5 rfl) ?_
    obtain ⟨c11, hE⟩ := ck hE
    obtain ⟨f12, hf12, hE⟩ := bd hE
    refine s_callV (As := [.int u5]) (rest := []) CF hK hW hS (S_X11_putNumber l G F hf12) c11 rfl gv_X11_80 hd_X11_putNumber ⟨Nat.le_of_ble_eq_true rfl, Nat.le_of_ble_eq_true rfl⟩ rfl hl.1 rfl (Nat.le_of_ble_eq_true rfl) dX11_feed_39 ⟨Nat.le_refl _, Nat.le_refl _⟩ (fun H locs hW hS => ?_)
    refine s_aload_n hx hb dX11_feed_42 rfl (lv_at hl 0 rfl) ?_
    obtain ⟨x13, hx13, hE⟩ := bd hE
    refine s_gI hx hb hT u_X11 hown hK hW hx13 rfl (by decide) fl_X11_76 rfl dX11_feed_43 ?_
    obtain ⟨rfl, rfl⟩ := so2 hE
    exact s_iret hx hb hr hlocks hW hS dX11_feed_46
  · replace hE := ite_f q2 hE
    refine lv_iconst (v := (-1 : Int32)) hx hb dX11_feed_13 (by decide) ?_
    obtain ⟨rfl, rfl⟩ := so2 hE
    exact s_iret hx hb hr hlocks hW hS dX11_feed_14
set_option maxHeartbeats 4000000 in
set_option maxRecDepth 100000 in
theorem S_X4_deskAt (l : Launch) (G : GG) (F : Nat) {u0 : Option Nat} {u1 : Int32} {f : Hp} {r : Option Nat} {n : Nat} (hE : m_X4_deskAt F u0 u1 f = some r) : Ctr l G yX4_deskAt cX4_deskAt 2 (some (.object "CopyOrders$Desk")) 0 0 [rr G u0, .int u1] f n (some (rr G r)) f n 0 0 := by
  refine Met.ofW (cc := cX4_deskAt) (maxL := 2) (ret := (some (.object "CopyOrders$Desk"))) (by decide) rfl ?_
  intro p e s m args below meth c s₁ B hml hv
  obtain ⟨rfl, hK, hW⟩ := hv
  have hx := B.exec
  have hb := B.bytes
  have hr := B.returns
  have hts := atoms_spec (ws := wsO yX4_deskAt cX4_deskAt 2 (some (.object "CopyOrders$Desk"))) B.pre
  have hT : ∀ w ∈ TB, w.before [rr G u0, .int u1].toArray s = true := fun w hw => hts w (List.mem_cons_of_mem _ hw)
  have hown : s.vm.findClass RX4 = some m.cls := findClass_of_methodNamed B.named
  have hlocks := B.notSynchronized
  have CF : CallFix p m c cX4_deskAt 2 s [rr G u0, .int u1].toArray TB RX4 := ⟨hx, hb, hml, hown, hT⟩
  have hS : va_S (WA G) s.heap s.heap [] := va_S.rf
  have hl : lv_has (lg_sl ([rr G u0, .int u1]) ++ List.replicate (2 - (lg_sl ([rr G u0, .int u1])).length) Slot.unset).toArray 2 [(0, rr G u0), (1, .int u1)] := by cases u0 <;> exact lv_entry _ (Nat.le_of_ble_eq_true rfl)
  rw [lg_entry_eq]
  generalize (lg_sl ([rr G u0, .int u1]) ++ List.replicate (2 - (lg_sl ([rr G u0, .int u1])).length) Slot.unset).toArray = ls at hl ⊢
  refine lv_iload_n hx hb dX4_deskAt_0 rfl (lv_at hl 1 rfl) ?_
  refine lv_if_lt (tgt := 27) hx hb dX4_deskAt_1 (by decide) (fun q1 => ?_) (fun q1 => ?_)
  · replace hE := ite_t q1 hE
    refine s_null (G := G) hx hb dX4_deskAt_27 ?_
    obtain rfl := so1 hE
    exact s_aret hx hb hr (Or.inl ⟨_, rfl⟩) hlocks hW hS dX4_deskAt_28
  · replace hE := ite_f q1 hE
    refine lv_iload_n hx hb dX4_deskAt_4 rfl (lv_at hl 1 rfl) ?_
    refine s_aload_n hx hb dX4_deskAt_5 rfl (lv_at hl 0 rfl) ?_
    obtain ⟨x2, hx2, hE⟩ := bd hE
    refine s_gI hx hb hT u_X4 hown hK hW hx2 rfl (by decide) fl_X4_58 rfl dX4_deskAt_6 ?_
    refine lv_icmp_ge (tgt := 27) hx hb dX4_deskAt_9 (by decide) (fun q3 => ?_) (fun q3 => ?_)
    · replace hE := ite_t q3 hE
      refine s_null (G := G) hx hb dX4_deskAt_27 ?_
      obtain rfl := so1 hE
      exact s_aret hx hb hr (Or.inl ⟨_, rfl⟩) hlocks hW hS dX4_deskAt_28
    · replace hE := ite_f q3 hE
      refine lv_iload_n hx hb dX4_deskAt_12 rfl (lv_at hl 1 rfl) ?_
      refine lv_bipush (v := (6 : Int32)) hx hb dX4_deskAt_13 (by decide) ?_
      refine lv_icmp_ge (tgt := 27) hx hb dX4_deskAt_15 (by decide) (fun q4 => ?_) (fun q4 => ?_)
      · replace hE := ite_t q4 hE
        refine s_null (G := G) hx hb dX4_deskAt_27 ?_
        obtain rfl := so1 hE
        exact s_aret hx hb hr (Or.inl ⟨_, rfl⟩) hlocks hW hS dX4_deskAt_28
      · replace hE := ite_f q4 hE
        refine s_aload_n hx hb dX4_deskAt_18 rfl (lv_at hl 0 rfl) ?_
        obtain ⟨x5, hx5, hE⟩ := bd hE
        refine s_gR hx hb hT u_X4 hown hK hW hx5 rfl (by decide) fl_X4_23 rfl dX4_deskAt_19 ?_
        refine lv_iload_n hx hb dX4_deskAt_22 rfl (lv_at hl 1 rfl) ?_
        obtain ⟨x6, hx6, hE⟩ := bd hE
        refine s_ldR hx hb hK hW hS hx6 (by decide) rfl dX4_deskAt_23 ?_
        refine lv_goto (tgt := 28) hx hb dX4_deskAt_24 (by decide) ?_
        obtain rfl := so1 hE
        exact s_aret hx hb hr (Or.inl ⟨_, rfl⟩) hlocks hW hS dX4_deskAt_28
set_option maxHeartbeats 4000000 in
set_option maxRecDepth 100000 in
theorem S_X2_fewestFor (l : Launch) (G : GG) (F : Nat) {u0 : Option Nat} {u1 : Int32} {f : Hp} {r : Int32} {n : Nat} (hE : m_X2_fewestFor F u0 u1 f = some r) : Ctr l G yX2_fewestFor cX2_fewestFor 2 (some .int) 1 24 [rr G u0, .int u1] f n (some (.int r)) f n 0 0 := by
  refine Met.ofW (cc := cX2_fewestFor) (maxL := 2) (ret := (some .int)) (by decide) rfl ?_
  intro p e s m args below meth c s₁ B hml hv
  obtain ⟨rfl, hK, hW⟩ := hv
  have hx := B.exec
  have hb := B.bytes
  have hr := B.returns
  have hts := atoms_spec (ws := wsO yX2_fewestFor cX2_fewestFor 2 (some .int)) B.pre
  have hT : ∀ w ∈ TB, w.before [rr G u0, .int u1].toArray s = true := fun w hw => hts w (List.mem_cons_of_mem _ hw)
  have hown : s.vm.findClass RX2 = some m.cls := findClass_of_methodNamed B.named
  have hlocks := B.notSynchronized
  have CF : CallFix p m c cX2_fewestFor 2 s [rr G u0, .int u1].toArray TB RX2 := ⟨hx, hb, hml, hown, hT⟩
  have hS : va_S (WA G) s.heap s.heap [] := va_S.rf
  have hl : lv_has (lg_sl ([rr G u0, .int u1]) ++ List.replicate (2 - (lg_sl ([rr G u0, .int u1])).length) Slot.unset).toArray 2 [(0, rr G u0), (1, .int u1)] := by cases u0 <;> exact lv_entry _ (Nat.le_of_ble_eq_true rfl)
  rw [lg_entry_eq]
  generalize (lg_sl ([rr G u0, .int u1]) ++ List.replicate (2 - (lg_sl ([rr G u0, .int u1])).length) Slot.unset).toArray = ls at hl ⊢
  refine s_getSt hx hb hT hK hS hown 33 (by decide) (z33 hK) fl_X2_37 dX2_fewestFor_0 ?_
  refine s_aload_n hx hb dX2_fewestFor_3 rfl (lv_at hl 0 rfl) ?_
  obtain ⟨x1, hx1, hE⟩ := bd hE
  refine s_gR hx hb hT u_X2 hown hK hW hx1 rfl (by decide) fl_X2_15 rfl dX2_fewestFor_4 ?_
  obtain ⟨i2, hi2, hE⟩ := bd hE
  refine s_ord (l := l) CF hK hW hS hi2 or_X2_43 ⟨Nat.le_of_ble_eq_true rfl, Nat.le_of_ble_eq_true rfl⟩ hl.1 (Nat.le_of_ble_eq_true rfl) dX2_fewestFor_7 ⟨Nat.le_refl _, Nat.le_refl _⟩ (fun H locs hW hS => ?_)
  obtain ⟨x3, hx3, hE⟩ := bd hE
  refine s_ldI hx hb hK hW hS hx3 dX2_fewestFor_10 ?_
  by_cases w4 : x3 = (1 : Int32)
  · replace hE := ite_t w4 hE
    have hi : (x3).toInt = 1 := by rw [w4]; rfl
    refine lv_lookup (off := 25) (tgt := 36) hx hb dX2_fewestFor_11 (by decide) (by rw [hi]; rfl) (by decide) ?_
    refine lv_iload_n hx hb dX2_fewestFor_36 rfl (lv_at hl 1 rfl) ?_
    obtain rfl := so1 hE
    exact s_iret hx hb hr hlocks hW hS dX2_fewestFor_37
  · replace hE := ite_f w4 hE
    by_cases w5 : x3 = (2 : Int32)
    · replace hE := ite_t w5 hE
      have hi : (x3).toInt = 2 := by rw [w5]; rfl
      refine lv_lookup (off := 27) (tgt := 38) hx hb dX2_fewestFor_11 (by decide) (by rw [hi]; rfl) (by decide) ?_
      refine s_aload_n hx hb dX2_fewestFor_38 rfl (lv_at hl 0 rfl) ?_
      obtain ⟨x6, hx6, hE⟩ := bd hE
      refine s_gI hx hb hT u_X2 hown hK hW hx6 rfl (by decide) fl_X2_20 rfl dX2_fewestFor_39 ?_
      refine lv_if_le (tgt := 61) hx hb dX2_fewestFor_42 (by decide) (fun q7 => ?_) (fun q7 => ?_)
      · replace hE := ite_t q7 hE
        refine lv_iconst (v := (-1 : Int32)) hx hb dX2_fewestFor_61 (by decide) ?_
        obtain rfl := so1 hE
        exact s_iret hx hb hr hlocks hW hS dX2_fewestFor_62
      · replace hE := ite_f q7 hE
        refine lv_iload_n hx hb dX2_fewestFor_45 rfl (lv_at hl 1 rfl) ?_
        refine s_aload_n hx hb dX2_fewestFor_46 rfl (lv_at hl 0 rfl) ?_
        obtain ⟨x8, hx8, hE⟩ := bd hE
        refine s_gI hx hb hT u_X2 hown hK hW hx8 rfl (by decide) fl_X2_20 rfl dX2_fewestFor_47 ?_
        refine lv_iadd hx hb dX2_fewestFor_50 ?_
        refine lv_iconst (v := (1 : Int32)) hx hb dX2_fewestFor_51 (by decide) ?_
        refine lv_isub hx hb dX2_fewestFor_52 ?_
        refine s_aload_n hx hb dX2_fewestFor_53 rfl (lv_at hl 0 rfl) ?_
        obtain ⟨x9, hx9, hE⟩ := bd hE
        refine s_gI hx hb hT u_X2 hown hK hW hx9 rfl (by decide) fl_X2_20 rfl dX2_fewestFor_54 ?_
        obtain ⟨c10, hE⟩ := ck hE
        refine lv_idiv hx hb dX2_fewestFor_57 (of_decide_eq_true c10) ?_
        refine lv_goto (tgt := 62) hx hb dX2_fewestFor_58 (by decide) ?_
        obtain rfl := so1 hE
        exact s_iret hx hb hr hlocks hW hS dX2_fewestFor_62
    · replace hE := ite_f w5 hE
      refine lv_lookup (off := 52) (tgt := 63) hx hb dX2_fewestFor_11 (by decide) ((lv_osw w4 (a := 1) rfl).trans ((lv_osw w5 (a := 2) rfl).trans rfl)) (by decide) ?_
      refine lv_iload_n hx hb dX2_fewestFor_63 rfl (lv_at hl 1 rfl) ?_
      refine lv_if_ne (tgt := 71) hx hb dX2_fewestFor_64 (by decide) (fun q11 => ?_) (fun q11 => ?_)
      · replace hE := ite_f q11 hE
        refine lv_iconst (v := (-1 : Int32)) hx hb dX2_fewestFor_71 (by decide) ?_
        obtain rfl := so1 hE
        exact s_iret hx hb hr hlocks hW hS dX2_fewestFor_72
      · replace hE := ite_t q11 hE
        refine lv_iconst (v := (0 : Int32)) hx hb dX2_fewestFor_67 (by decide) ?_
        refine lv_goto (tgt := 72) hx hb dX2_fewestFor_68 (by decide) ?_
        obtain rfl := so1 hE
        exact s_iret hx hb hr hlocks hW hS dX2_fewestFor_72
set_option maxHeartbeats 4000000 in
set_option maxRecDepth 100000 in
theorem S_X11_fewest (l : Launch) (G : GG) (F : Nat) {u0 : Option Nat} {u1 : Int32} {u2 : Int32} {u3 : Int32} {f : Hp} {r : Int32} {n : Nat} (hE : m_X11_fewest F u0 u1 u2 u3 f = some r) : Ctr l G yX11_fewest cX11_fewest 7 (some .int) 2 45 [rr G u0, .int u1, .int u2, .int u3] f n (some (.int r)) f n 0 0 := by
  refine Met.ofW (cc := cX11_fewest) (maxL := 7) (ret := (some .int)) (by decide) rfl ?_
  intro p e s m args below meth c s₁ B hml hv
  obtain ⟨rfl, hK, hW⟩ := hv
  have hx := B.exec
  have hb := B.bytes
  have hr := B.returns
  have hts := atoms_spec (ws := wsO yX11_fewest cX11_fewest 7 (some .int)) B.pre
  have hT : ∀ w ∈ TB, w.before [rr G u0, .int u1, .int u2, .int u3].toArray s = true := fun w hw => hts w (List.mem_cons_of_mem _ hw)
  have hown : s.vm.findClass RX11 = some m.cls := findClass_of_methodNamed B.named
  have hlocks := B.notSynchronized
  have CF : CallFix p m c cX11_fewest 7 s [rr G u0, .int u1, .int u2, .int u3].toArray TB RX11 := ⟨hx, hb, hml, hown, hT⟩
  have hS : va_S (WA G) s.heap s.heap [] := va_S.rf
  have hl : lv_has (lg_sl ([rr G u0, .int u1, .int u2, .int u3]) ++ List.replicate (7 - (lg_sl ([rr G u0, .int u1, .int u2, .int u3])).length) Slot.unset).toArray 7 [(0, rr G u0), (1, .int u1), (2, .int u2), (3, .int u3)] := by cases u0 <;> exact lv_entry _ (Nat.le_of_ble_eq_true rfl)
  rw [lg_entry_eq]
  generalize (lg_sl ([rr G u0, .int u1, .int u2, .int u3]) ++ List.replicate (7 - (lg_sl ([rr G u0, .int u1, .int u2, .int u3])).length) Slot.unset).toArray = ls at hl ⊢
  refine s_aload_n hx hb dX11_fewest_0 rfl (lv_at hl 0 rfl) ?_
  obtain ⟨x1, hx1, hE⟩ := bd hE
  refine s_gR hx hb hT u_X11 hown hK hW hx1 rfl (by decide) fl_X11_16 rfl dX11_fewest_1 ?_
  refine lv_iload_n hx hb dX11_fewest_4 rfl (lv_at hl 1 rfl) ?_
  obtain ⟨c2, hE⟩ := ck hE
  obtain ⟨x3, hx3, hE⟩ := bd hE
  refine s_callV (As := [.int u1]) (rest := []) CF hK hW hS (S_X4_wholeAt l G F hx3) c2 rfl gv_X11_178 hd_X4_wholeAt ⟨Nat.le_of_ble_eq_true rfl, Nat.le_of_ble_eq_true rfl⟩ rfl hl.1 rfl (Nat.le_of_ble_eq_true rfl) dX11_fewest_5 ⟨Nat.le_refl _, Nat.le_refl _⟩ (fun H locs hW hS => ?_)
  refine s_astore (lv' := [(4, rr G x3), (0, rr G u0), (1, .int u1), (2, .int u2), (3, .int u3)]) hx hb dX11_fewest_8 hl (by decide) rfl (fun ls hl => ?_)
  refine s_aload_n hx hb dX11_fewest_10 rfl (lv_at hl 1 rfl) ?_
  obtain ⟨x4, hx4, hE⟩ := bd hE
  refine s_gR hx hb hT u_X11 hown hK hW hx4 rfl (by decide) fl_X11_16 rfl dX11_fewest_11 ?_
  refine lv_iload_n hx hb dX11_fewest_14 rfl (lv_at hl 3 rfl) ?_
  obtain ⟨c5, hE⟩ := ck hE
  obtain ⟨x6, hx6, hE⟩ := bd hE
  refine s_callV (As := [.int u2]) (rest := []) CF hK hW hS (S_X4_wholeAt l G F hx6) c5 rfl gv_X11_178 hd_X4_wholeAt ⟨Nat.le_of_ble_eq_true rfl, Nat.le_of_ble_eq_true rfl⟩ rfl hl.1 rfl (Nat.le_of_ble_eq_true rfl) dX11_fewest_15 ⟨Nat.le_refl _, Nat.le_refl _⟩ (fun H locs hW hS => ?_)
  refine s_astore (lv' := [(5, rr G x6), (4, rr G x3), (0, rr G u0), (1, .int u1), (2, .int u2), (3, .int u3)]) hx hb dX11_fewest_18 hl (by decide) (by simp [cat_rr]) (fun ls hl => ?_)
  refine s_aload_n hx hb dX11_fewest_20 rfl (lv_at hl 2 rfl) ?_
  obtain ⟨x7, hx7, hE⟩ := bd hE
  refine s_gR hx hb hT u_X11 hown hK hW hx7 rfl (by decide) fl_X11_16 rfl dX11_fewest_21 ?_
  refine lv_iload_n hx hb dX11_fewest_24 rfl (lv_at hl 5 rfl) ?_
  obtain ⟨c8, hE⟩ := ck hE
  obtain ⟨x9, hx9, hE⟩ := bd hE
  refine s_callV (As := [.int u3]) (rest := []) CF hK hW hS (S_X4_deskAt l G F hx9) c8 rfl gv_X11_181 hd_X4_deskAt ⟨Nat.le_of_ble_eq_true rfl, Nat.le_of_ble_eq_true rfl⟩ rfl hl.1 rfl (Nat.le_of_ble_eq_true rfl) dX11_fewest_25 ⟨Nat.le_refl _, Nat.le_refl _⟩ (fun H locs hW hS => ?_)
  refine s_astore (lv' := [(6, rr G x9), (5, rr G x6), (4, rr G x3), (0, rr G u0), (1, .int u1), (2, .int u2), (3, .int u3)]) hx hb dX11_fewest_28 hl (by decide) (by simp [cat_rr]) (fun ls hl => ?_)
  refine s_aload hx hb dX11_fewest_30 (lv_at hl 2 rfl) ?_
  refine s_ifnull (tgt := 45) hx hb dX11_fewest_32 (by decide) (fun q10 => ?_) (fun q10 => ?_)
  · replace hE := ite_t q10 hE
    refine lv_iconst (v := (-1 : Int32)) hx hb dX11_fewest_45 (by decide) ?_
    obtain rfl := so1 hE
    exact s_iret hx hb hr hlocks hW hS dX11_fewest_46
  · replace hE := ite_f q10 hE
    refine s_aload hx hb dX11_fewest_35 (lv_at hl 1 rfl) ?_
    refine s_ifnull (tgt := 45) hx hb dX11_fewest_37 (by decide) (fun q11 => ?_) (fun q11 => ?_)
    · replace hE := ite_t q11 hE
      refine lv_iconst (v := (-1 : Int32)) hx hb dX11_fewest_45 (by decide) ?_
      obtain rfl := so1 hE
      exact s_iret hx hb hr hlocks hW hS dX11_fewest_46
    · replace hE := ite_f q11 hE
      refine s_aload hx hb dX11_fewest_40 (lv_at hl 0 rfl) ?_
      refine s_ifnonnull (tgt := 47) hx hb dX11_fewest_42 (by decide) (fun q12 => ?_) (fun q12 => ?_)
      · replace hE := ite_f q12 hE
        refine s_aload hx hb dX11_fewest_47 (lv_at hl 0 rfl) ?_
        refine s_aload hx hb dX11_fewest_49 (lv_at hl 2 rfl) ?_
        refine s_aload hx hb dX11_fewest_51 (lv_at hl 1 rfl) ?_
        obtain ⟨c13, hE⟩ := ck hE
        obtain ⟨x14, hx14, hE⟩ := bd hE
        refine s_callV (As := [rr G x6]) (rest := [rr G x9]) CF hK hW hS (S_X1_stepsTo l G F hx14) c13 rfl gv_X11_155 hd_X1_stepsTo ⟨Nat.le_of_ble_eq_true rfl, Nat.le_of_ble_eq_true rfl⟩ rfl hl.1 rfl (Nat.le_of_ble_eq_true rfl) dX11_fewest_53 ⟨Nat.le_refl _, Nat.le_refl _⟩ (fun H locs hW hS => ?_)
        obtain ⟨c15, hE⟩ := ck hE
        obtain ⟨x16, hx16, hE⟩ := bd hE
        refine s_callV (As := [.int x14]) (rest := []) CF hK hW hS (S_X2_fewestFor l G F hx16) c15 rfl gv_X11_185 hd_X2_fewestFor ⟨Nat.le_of_ble_eq_true rfl, Nat.le_of_ble_eq_true rfl⟩ rfl hl.1 rfl (Nat.le_of_ble_eq_true rfl) dX11_fewest_56 ⟨Nat.le_refl _, Nat.le_refl _⟩ (fun H locs hW hS => ?_)
        obtain rfl := so1 hE
        exact s_iret hx hb hr hlocks hW hS dX11_fewest_59
      · replace hE := ite_t q12 hE
        refine lv_iconst (v := (-1 : Int32)) hx hb dX11_fewest_45 (by decide) ?_
        obtain rfl := so1 hE
        exact s_iret hx hb hr hlocks hW hS dX11_fewest_46
set_option maxHeartbeats 4000000 in
set_option maxRecDepth 100000 in
theorem S_X11_firsts (l : Launch) (G : GG) (F : Nat) {u0 : Option Nat} {u1 : Int32} {u2 : Int32} {f : Hp} {r : Int32} {f' : Hp} {n n2 z z2 : Nat} (hE : m_X11_firsts F u0 u1 u2 f n z = some (r, f', n2, z2)) : Ctr l G yX11_firsts cX11_firsts 6 (some .int) 5 118 [rr G u0, .int u1, .int u2] f n (some (.int r)) f' n2 (n2 - n) (z2 - z) := by
  refine Met.ofW (cc := cX11_firsts) (maxL := 6) (ret := (some .int)) (by decide) rfl ?_
  intro p e s m args below meth c s₁ B hml hv
  obtain ⟨rfl, hK, hW⟩ := hv
  have hx := B.exec
  have hb := B.bytes
  have hr := B.returns
  have hts := atoms_spec (ws := wsO yX11_firsts cX11_firsts 6 (some .int)) B.pre
  have hT : ∀ w ∈ TB, w.before [rr G u0, .int u1, .int u2].toArray s = true := fun w hw => hts w (List.mem_cons_of_mem _ hw)
  have hown : s.vm.findClass RX11 = some m.cls := findClass_of_methodNamed B.named
  have hlocks := B.notSynchronized
  have CF : CallFix p m c cX11_firsts 6 s [rr G u0, .int u1, .int u2].toArray TB RX11 := ⟨hx, hb, hml, hown, hT⟩
  have hS : va_S (WA G) s.heap s.heap [] := va_S.rf
  have hl : lv_has (lg_sl ([rr G u0, .int u1, .int u2]) ++ List.replicate (6 - (lg_sl ([rr G u0, .int u1, .int u2])).length) Slot.unset).toArray 6 [(0, rr G u0), (1, .int u1), (2, .int u2)] := by cases u0 <;> exact lv_entry _ (Nat.le_of_ble_eq_true rfl)
  rw [lg_entry_eq]
  generalize (lg_sl ([rr G u0, .int u1, .int u2]) ++ List.replicate (6 - (lg_sl ([rr G u0, .int u1, .int u2])).length) Slot.unset).toArray = ls at hl ⊢
  have hC43 : ∀ (k43 : Nat), ∀ (v3 : Option Nat) (v4 : Int32) (v5 : Int32) (fa : Hp) (na za : Nat) (H : Heap) (locs : List Loc) (ls : Array Slot), n ≤ na → z ≤ za → m_X11_firsts_L43 F k43 v3 v4 v5 fa na za = some (r, f', n2, z2) → Wd G fa na H → va_S (WA G) s.heap H locs → lv_has ls 6 [(3, rr G v3), (4, .int v4), (5, .int v5)] → W p l e (headSpec (wsO yX11_firsts cX11_firsts 6 (some .int)) { frames := 5, cells := (n2 - n), slots := (z2 - z), locals := 118 }).room s m [rr G u0, .int u1, .int u2].toArray below meth c H locs (na - n) (za - z) (MQ below (Qcn G (some (.int r)) f' n2) [rr G u0, .int u1, .int u2].toArray s (n2 - n) (z2 - z) (WA G)) (F0 m 43 ls []) := by
    intro k43
    induction k43 with
    | zero => intro v3 v4 v5 fa na za H locs ls hna hza hE _ _ _; cases (show (none : Option ((Int32) × Hp × Nat × Nat)) = some (r, f', n2, z2) from hE)
    | succ k43 ih43 =>
      intro v3 v4 v5 fa na za H locs ls hna hza hE hW hS hl
      replace hE : m_X11_firsts_b43 F (m_X11_firsts_L43 F k43) v3 v4 v5 fa na za = some (r, f', n2, z2) := hE
      refine lv_iload hx hb dX11_firsts_43 (lv_at hl 2 rfl) ?_
      refine s_aload_n hx hb dX11_firsts_45 rfl (lv_at hl 0 rfl) ?_
      obtain ⟨x1, hx1, hE⟩ := bd hE
      refine s_gI hx hb hT u_X6 hown hK hW hx1 rfl (by decide) fl_X11_199 rfl dX11_firsts_46 ?_
      refine lv_icmp_ge (tgt := 73) hx hb dX11_firsts_49 (by decide) (fun q2 => ?_) (fun q2 => ?_)
      · replace hE := ite_t q2 hE
        refine lv_iload hx hb dX11_firsts_73 (lv_at hl 1 rfl) ?_
        obtain ⟨rfl, rfl, rfl, rfl⟩ := so4 hE
        exact s_iret hx hb hr hlocks hW hS dX11_firsts_75
      · replace hE := ite_f q2 hE
        refine s_aload_n hx hb dX11_firsts_52 rfl (lv_at hl 0 rfl) ?_
        obtain ⟨x3, hx3, hE⟩ := bd hE
        refine s_gR hx hb hT u_X6 hown hK hW hx3 rfl (by decide) fl_X11_247 rfl dX11_firsts_53 ?_
        refine lv_iload hx hb dX11_firsts_56 (lv_at hl 2 rfl) ?_
        obtain ⟨x4, hx4, hE⟩ := bd hE
        refine s_ldJ hx hb hK hW hS hx4 dX11_firsts_58 ?_
        refine lv_lconst (v := (0 : Int64)) hx hb dX11_firsts_59 (by decide) ?_
        refine W.lcmp hx hb dX11_firsts_60 ?_
        refine lv_if_le (tgt := 67) hx hb dX11_firsts_61 (by decide) (fun q5 => ?_) (fun q5 => ?_)
        · replace hE := ite_t q5 hE
          obtain ⟨y6, ey6⟩ : ∃ y : Int32, y = v5 + (1 : Int32) := ⟨_, rfl⟩
          replace hE := nm_o ey6 hE
          refine lv_iinc (k := 2) (v := y6) (lv' := [(5, .int y6), (3, rr G v3), (4, .int v4)]) hx hb dX11_firsts_67 hl rfl (by rw [ey6]; rfl) (by decide) rfl (fun ls hl => ?_)
          refine lv_goto (tgt := 43) hx hb dX11_firsts_70 (by decide) ?_
          exact ih43 _ _ _ _ _ _ _ _ _ (by omega) (by omega) hE hW hS (lv_sub hl [1, 2, 0] rfl)
        · replace hE := ite_f q5 hE
          obtain ⟨y7, ey7⟩ : ∃ y : Int32, y = v4 + (1 : Int32) := ⟨_, rfl⟩
          replace hE := nm_o ey7 hE
          refine lv_iinc (k := 1) (v := y7) (lv' := [(4, .int y7), (3, rr G v3), (5, .int v5)]) hx hb dX11_firsts_64 hl rfl (by rw [ey7]; rfl) (by decide) (by simp [cat_rr]) (fun ls hl => ?_)
          obtain ⟨y8, ey8⟩ : ∃ y : Int32, y = v5 + (1 : Int32) := ⟨_, rfl⟩
          replace hE := nm_o ey8 hE
          refine lv_iinc (k := 2) (v := y8) (lv' := [(5, .int y8), (4, .int y7), (3, rr G v3)]) hx hb dX11_firsts_67 hl rfl (by rw [ey8]; rfl) (by decide) rfl (fun ls hl => ?_)
          refine lv_goto (tgt := 43) hx hb dX11_firsts_70 (by decide) ?_
          exact ih43 _ _ _ _ _ _ _ _ _ (by omega) (by omega) hE hW hS (lv_sub hl [2, 1, 0] rfl)
  refine W.cs (cells' := n - n) (slots' := z - z) (by omega) (by omega) ?_
  refine s_aload_n hx hb dX11_firsts_0 rfl (lv_at hl 0 rfl) ?_
  obtain ⟨c9, hE⟩ := ck hE
  obtain ⟨x13, f12, nq10, zq11, hf12, hE⟩ := bd4_of hE
  obtain ⟨c14, hE⟩ := ck hE
  replace c14 := of_decide_eq_true c14
  obtain ⟨g15a, g15b, hE⟩ := grow_of hE
  replace g15a : nq10 ≤ n2 := g15a
  replace g15b : zq11 ≤ z2 := g15b
  refine s_callV (As := []) (rest := []) CF hK hW hS (S_X11_orders l G F hf12) c9 rfl gv_X11_145 hd_X11_orders ⟨Nat.le_of_ble_eq_true rfl, Nat.le_of_ble_eq_true rfl⟩ rfl hl.1 rfl (Nat.le_of_ble_eq_true rfl) dX11_firsts_1 ⟨show n - n + (nq10 - (n)) ≤ n2 - n by omega, show z - z + (zq11 - (z)) ≤ z2 - z by omega⟩ (fun H locs hW hS => ?_)
  refine W.cs (cells' := nq10 - n) (slots' := zq11 - z) (by omega) (by omega) ?_
  refine s_astore_n (i := 3) (lv' := [(3, rr G x13), (0, rr G u0), (1, .int u1), (2, .int u2)]) hx hb dX11_firsts_4 rfl hl (by decide) rfl (fun ls hl => ?_)
  refine s_aload_n hx hb dX11_firsts_5 rfl (lv_at hl 0 rfl) ?_
  refine lv_iload_n hx hb dX11_firsts_6 rfl (lv_at hl 2 rfl) ?_
  obtain ⟨c16, hE⟩ := ck hE
  obtain ⟨g17a, g17b, hE⟩ := grow_of hE
  replace g17a : nq10 ≤ n2 := g17a
  replace g17b : zq11 ≤ z2 := g17b
  obtain ⟨x18, hx18, hE⟩ := bd hE
  refine s_callV (As := [.int u1]) (rest := []) CF hK hW hS (S_X6_has l G F hx18) c16 rfl gv_X11_149 hd_X6_has ⟨Nat.le_of_ble_eq_true rfl, Nat.le_of_ble_eq_true rfl⟩ rfl hl.1 rfl (Nat.le_of_ble_eq_true rfl) dX11_firsts_7 ⟨show nq10 - n + 0 ≤ n2 - n by omega, show zq11 - z + 0 ≤ z2 - z by omega⟩ (fun H locs hW hS => ?_)
  refine lv_if_eq (tgt := 22) hx hb dX11_firsts_10 (by decide) (fun q19 => ?_) (fun q19 => ?_)
  · replace hE := ite_t q19 hE
    refine lv_iconst (v := (-1 : Int32)) hx hb dX11_firsts_22 (by decide) ?_
    obtain ⟨rfl, rfl, rfl, rfl⟩ := so4 hE
    exact s_iret hx hb hr hlocks hW hS dX11_firsts_23
  · replace hE := ite_f q19 hE
    refine lv_iload_n hx hb dX11_firsts_13 rfl (lv_at hl 3 rfl) ?_
    refine lv_bipush (v := (10 : Int32)) hx hb dX11_firsts_14 (by decide) ?_
    obtain ⟨g20a, g20b, hE⟩ := grow_of hE
    replace g20a : nq10 ≤ n2 := g20a
    replace g20b : zq11 ≤ z2 := g20b
    obtain ⟨x21, hx21, hE⟩ := bd hE
    refine s_callS (As := [.int u2, .int (10 : Int32)]) (rest := []) CF hK hW hS (S_X11_isWithin l G F hx21) gs_X11_235 hd_X11_isWithin.2 ⟨Nat.le_of_ble_eq_true rfl, Nat.le_of_ble_eq_true rfl⟩ rfl hl.1 rfl (Nat.le_of_ble_eq_true rfl) dX11_firsts_16 ⟨show nq10 - n + 0 ≤ n2 - n by omega, show zq11 - z + 0 ≤ z2 - z by omega⟩ (fun H locs hW hS => ?_)
    refine lv_if_ne (tgt := 24) hx hb dX11_firsts_19 (by decide) (fun q22 => ?_) (fun q22 => ?_)
    · replace hE := ite_f q22 hE
      refine s_aload_n hx hb dX11_firsts_24 rfl (lv_at hl 0 rfl) ?_
      refine lv_iload_n hx hb dX11_firsts_25 rfl (lv_at hl 2 rfl) ?_
      refine lv_iload_n hx hb dX11_firsts_26 rfl (lv_at hl 3 rfl) ?_
      refine s_aload_n hx hb dX11_firsts_27 rfl (lv_at hl 1 rfl) ?_
      obtain ⟨x23, hx23, hE⟩ := bd hE
      refine s_gR hx hb hT u_X11 hown hK hW hx23 rfl (by decide) fl_X11_16 rfl dX11_firsts_28 ?_
      obtain ⟨x24, hx24, hE⟩ := bd hE
      refine s_gR hx hb hT u_X4 hown hK hW hx24 rfl (by decide) fl_X11_240 rfl dX11_firsts_31 ?_
      obtain ⟨c25, hE⟩ := ck hE
      obtain ⟨g26a, g26b, hE⟩ := grow_of hE
      replace g26a : nq10 ≤ n2 := g26a
      replace g26b : zq11 ≤ z2 := g26b
      obtain ⟨f27, hf27, hE⟩ := bd hE
      refine s_callV (As := [.int u1, .int u2, rr G x24]) (rest := []) CF hK hW hS (S_X6_spread l G F hf27) c25 rfl gv_X11_243 hd_X6_spread ⟨Nat.le_of_ble_eq_true rfl, Nat.le_of_ble_eq_true rfl⟩ rfl hl.1 rfl (Nat.le_of_ble_eq_true rfl) dX11_firsts_34 ⟨show nq10 - n + 0 ≤ n2 - n by omega, show zq11 - z + 0 ≤ z2 - z by omega⟩ (fun H locs hW hS => ?_)
      refine lv_iconst (v := (0 : Int32)) hx hb dX11_firsts_37 (by decide) ?_
      refine lv_istore (lv' := [(4, .int (0 : Int32)), (3, rr G x13), (0, rr G u0), (1, .int u1), (2, .int u2)]) hx hb dX11_firsts_38 hl (by decide) (by simp [cat_rr]) (fun ls hl => ?_)
      refine lv_iconst (v := (0 : Int32)) hx hb dX11_firsts_40 (by decide) ?_
      refine lv_istore (lv' := [(5, .int (0 : Int32)), (4, .int (0 : Int32)), (3, rr G x13), (0, rr G u0), (1, .int u1), (2, .int u2)]) hx hb dX11_firsts_41 hl (by decide) rfl (fun ls hl => ?_)
      exact hC43 F _ _ _ _ _ _ _ _ _ (by omega) (by omega) hE hW hS (lv_sub hl [2, 1, 0] rfl)
    · replace hE := ite_t q22 hE
      refine lv_iconst (v := (-1 : Int32)) hx hb dX11_firsts_22 (by decide) ?_
      obtain ⟨rfl, rfl, rfl, rfl⟩ := so4 hE
      exact s_iret hx hb hr hlocks hW hS dX11_firsts_23
set_option maxHeartbeats 4000000 in
set_option maxRecDepth 100000 in
theorem S_X3_sourceOf (l : Launch) (G : GG) (F : Nat) {u0 : Option Nat} {u1 : Int32} {f : Hp} {r : Int32} {n : Nat} (hE : m_X3_sourceOf F u0 u1 f = some r) : Ctr l G yX3_sourceOf cX3_sourceOf 2 (some .int) 0 0 [rr G u0, .int u1] f n (some (.int r)) f n 0 0 := by
  refine Met.ofW (cc := cX3_sourceOf) (maxL := 2) (ret := (some .int)) (by decide) rfl ?_
  intro p e s m args below meth c s₁ B hml hv
  obtain ⟨rfl, hK, hW⟩ := hv
  have hx := B.exec
  have hb := B.bytes
  have hr := B.returns
  have hts := atoms_spec (ws := wsO yX3_sourceOf cX3_sourceOf 2 (some .int)) B.pre
  have hT : ∀ w ∈ TB, w.before [rr G u0, .int u1].toArray s = true := fun w hw => hts w (List.mem_cons_of_mem _ hw)
  have hown : s.vm.findClass RX3 = some m.cls := findClass_of_methodNamed B.named
  have hlocks := B.notSynchronized
  have CF : CallFix p m c cX3_sourceOf 2 s [rr G u0, .int u1].toArray TB RX3 := ⟨hx, hb, hml, hown, hT⟩
  have hS : va_S (WA G) s.heap s.heap [] := va_S.rf
  have hl : lv_has (lg_sl ([rr G u0, .int u1]) ++ List.replicate (2 - (lg_sl ([rr G u0, .int u1])).length) Slot.unset).toArray 2 [(0, rr G u0), (1, .int u1)] := by cases u0 <;> exact lv_entry _ (Nat.le_of_ble_eq_true rfl)
  rw [lg_entry_eq]
  generalize (lg_sl ([rr G u0, .int u1]) ++ List.replicate (2 - (lg_sl ([rr G u0, .int u1])).length) Slot.unset).toArray = ls at hl ⊢
  refine lv_iload_n hx hb dX3_sourceOf_0 rfl (lv_at hl 1 rfl) ?_
  refine lv_if_lt (tgt := 27) hx hb dX3_sourceOf_1 (by decide) (fun q1 => ?_) (fun q1 => ?_)
  · replace hE := ite_t q1 hE
    refine lv_iconst (v := (-1 : Int32)) hx hb dX3_sourceOf_27 (by decide) ?_
    obtain rfl := so1 hE
    exact s_iret hx hb hr hlocks hW hS dX3_sourceOf_28
  · replace hE := ite_f q1 hE
    refine lv_iload_n hx hb dX3_sourceOf_4 rfl (lv_at hl 1 rfl) ?_
    refine s_aload_n hx hb dX3_sourceOf_5 rfl (lv_at hl 0 rfl) ?_
    obtain ⟨x2, hx2, hE⟩ := bd hE
    refine s_gI hx hb hT u_X3 hown hK hW hx2 rfl (by decide) fl_X3_31 rfl dX3_sourceOf_6 ?_
    refine lv_icmp_ge (tgt := 27) hx hb dX3_sourceOf_9 (by decide) (fun q3 => ?_) (fun q3 => ?_)
    · replace hE := ite_t q3 hE
      refine lv_iconst (v := (-1 : Int32)) hx hb dX3_sourceOf_27 (by decide) ?_
      obtain rfl := so1 hE
      exact s_iret hx hb hr hlocks hW hS dX3_sourceOf_28
    · replace hE := ite_f q3 hE
      refine lv_iload_n hx hb dX3_sourceOf_12 rfl (lv_at hl 1 rfl) ?_
      refine lv_bipush (v := (10 : Int32)) hx hb dX3_sourceOf_13 (by decide) ?_
      refine lv_icmp_ge (tgt := 27) hx hb dX3_sourceOf_15 (by decide) (fun q4 => ?_) (fun q4 => ?_)
      · replace hE := ite_t q4 hE
        refine lv_iconst (v := (-1 : Int32)) hx hb dX3_sourceOf_27 (by decide) ?_
        obtain rfl := so1 hE
        exact s_iret hx hb hr hlocks hW hS dX3_sourceOf_28
      · replace hE := ite_f q4 hE
        refine s_aload_n hx hb dX3_sourceOf_18 rfl (lv_at hl 0 rfl) ?_
        obtain ⟨x5, hx5, hE⟩ := bd hE
        refine s_gR hx hb hT u_X3 hown hK hW hx5 rfl (by decide) fl_X3_15 rfl dX3_sourceOf_19 ?_
        refine lv_iload_n hx hb dX3_sourceOf_22 rfl (lv_at hl 1 rfl) ?_
        obtain ⟨x6, hx6, hE⟩ := bd hE
        refine s_ldI hx hb hK hW hS hx6 dX3_sourceOf_23 ?_
        refine lv_goto (tgt := 28) hx hb dX3_sourceOf_24 (by decide) ?_
        obtain rfl := so1 hE
        exact s_iret hx hb hr hlocks hW hS dX3_sourceOf_28
set_option maxHeartbeats 4000000 in
set_option maxRecDepth 100000 in
theorem S_X11_from (l : Launch) (G : GG) (F : Nat) {u0 : Option Nat} {u1 : Int32} {f : Hp} {r : Int32} {n : Nat} (hE : m_X11_from F u0 u1 f = some r) : Ctr l G yX11_from cX11_from 2 (some .int) 1 21 [rr G u0, .int u1] f n (some (.int r)) f n 0 0 := by
  refine Met.ofW (cc := cX11_from) (maxL := 2) (ret := (some .int)) (by decide) rfl ?_
  intro p e s m args below meth c s₁ B hml hv
  obtain ⟨rfl, hK, hW⟩ := hv
  have hx := B.exec
  have hb := B.bytes
  have hr := B.returns
  have hts := atoms_spec (ws := wsO yX11_from cX11_from 2 (some .int)) B.pre
  have hT : ∀ w ∈ TB, w.before [rr G u0, .int u1].toArray s = true := fun w hw => hts w (List.mem_cons_of_mem _ hw)
  have hown : s.vm.findClass RX11 = some m.cls := findClass_of_methodNamed B.named
  have hlocks := B.notSynchronized
  have CF : CallFix p m c cX11_from 2 s [rr G u0, .int u1].toArray TB RX11 := ⟨hx, hb, hml, hown, hT⟩
  have hS : va_S (WA G) s.heap s.heap [] := va_S.rf
  have hl : lv_has (lg_sl ([rr G u0, .int u1]) ++ List.replicate (2 - (lg_sl ([rr G u0, .int u1])).length) Slot.unset).toArray 2 [(0, rr G u0), (1, .int u1)] := by cases u0 <;> exact lv_entry _ (Nat.le_of_ble_eq_true rfl)
  rw [lg_entry_eq]
  generalize (lg_sl ([rr G u0, .int u1]) ++ List.replicate (2 - (lg_sl ([rr G u0, .int u1])).length) Slot.unset).toArray = ls at hl ⊢
  refine s_aload_n hx hb dX11_from_0 rfl (lv_at hl 0 rfl) ?_
  obtain ⟨x1, hx1, hE⟩ := bd hE
  refine s_gR hx hb hT u_X11 hown hK hW hx1 rfl (by decide) fl_X11_68 rfl dX11_from_1 ?_
  refine lv_iload_n hx hb dX11_from_4 rfl (lv_at hl 1 rfl) ?_
  obtain ⟨c2, hE⟩ := ck hE
  obtain ⟨x3, hx3, hE⟩ := bd hE
  refine s_callV (As := [.int u1]) (rest := []) CF hK hW hS (S_X3_sourceOf l G F hx3) c2 rfl gv_X11_222 hd_X3_sourceOf ⟨Nat.le_of_ble_eq_true rfl, Nat.le_of_ble_eq_true rfl⟩ rfl hl.1 rfl (Nat.le_of_ble_eq_true rfl) dX11_from_5 ⟨Nat.le_refl _, Nat.le_refl _⟩ (fun H locs hW hS => ?_)
  obtain rfl := so1 hE
  exact s_iret hx hb hr hlocks hW hS dX11_from_8
set_option maxHeartbeats 4000000 in
set_option maxRecDepth 100000 in
theorem S_X6_hasLikeMarks (l : Launch) (G : GG) (F : Nat) {u0 : Option Nat} {u1 : Option Nat} {u2 : Int32} {f : Hp} {r : Int32} {n : Nat} (hE : m_X6_hasLikeMarks F u0 u1 u2 f = some r) : Ctr l G yX6_hasLikeMarks cX6_hasLikeMarks 5 (some .boolean) 1 21 [rr G u0, rr G u1, .int u2] f n (some (.int r)) f n 0 0 := by
  refine Met.ofW (cc := cX6_hasLikeMarks) (maxL := 5) (ret := (some .boolean)) (by decide) rfl ?_
  intro p e s m args below meth c s₁ B hml hv
  obtain ⟨rfl, hK, hW⟩ := hv
  have hx := B.exec
  have hb := B.bytes
  have hr := B.returns
  have hts := atoms_spec (ws := wsO yX6_hasLikeMarks cX6_hasLikeMarks 5 (some .boolean)) B.pre
  have hT : ∀ w ∈ TB, w.before [rr G u0, rr G u1, .int u2].toArray s = true := fun w hw => hts w (List.mem_cons_of_mem _ hw)
  have hown : s.vm.findClass RX6 = some m.cls := findClass_of_methodNamed B.named
  have hlocks := B.notSynchronized
  have CF : CallFix p m c cX6_hasLikeMarks 5 s [rr G u0, rr G u1, .int u2].toArray TB RX6 := ⟨hx, hb, hml, hown, hT⟩
  have hS : va_S (WA G) s.heap s.heap [] := va_S.rf
  have hl : lv_has (lg_sl ([rr G u0, rr G u1, .int u2]) ++ List.replicate (5 - (lg_sl ([rr G u0, rr G u1, .int u2])).length) Slot.unset).toArray 5 [(0, rr G u0), (1, rr G u1), (2, .int u2)] := by cases u0 <;> cases u1 <;> exact lv_entry _ (Nat.le_of_ble_eq_true rfl)
  rw [lg_entry_eq]
  generalize (lg_sl ([rr G u0, rr G u1, .int u2]) ++ List.replicate (5 - (lg_sl ([rr G u0, rr G u1, .int u2])).length) Slot.unset).toArray = ls at hl ⊢
  have hC2 : ∀ (k2 : Nat), ∀ (v0 : Option Nat) (v1 : Option Nat) (v2 : Int32) (v3 : Int32) (H : Heap) (locs : List Loc) (ls : Array Slot), m_X6_hasLikeMarks_L2 F k2 v0 v1 v2 v3 f = some r → Wd G f n H → va_S (WA G) s.heap H locs → lv_has ls 5 [(0, rr G v0), (1, rr G v1), (2, .int v2), (3, .int v3)] → W p l e (headSpec (wsO yX6_hasLikeMarks cX6_hasLikeMarks 5 (some .boolean)) { frames := 1, cells := 0, slots := 0, locals := 21 }).room s m [rr G u0, rr G u1, .int u2].toArray below meth c H locs 0 0 (MQ below (Qcn G (some (.int r)) f n) [rr G u0, rr G u1, .int u2].toArray s 0 0 (WA G)) (F0 m 2 ls []) := by
    intro k2
    induction k2 with
    | zero => intro v0 v1 v2 v3 H locs ls hE _ _ _; cases (show (none : Option Int32) = some r from hE)
    | succ k2 ih2 =>
      intro v0 v1 v2 v3 H locs ls hE hW hS hl
      replace hE : m_X6_hasLikeMarks_b2 F (m_X6_hasLikeMarks_L2 F k2) v0 v1 v2 v3 f = some r := hE
      refine lv_iload_n hx hb dX6_hasLikeMarks_2 rfl (lv_at hl 3 rfl) ?_
      refine s_aload_n hx hb dX6_hasLikeMarks_3 rfl (lv_at hl 0 rfl) ?_
      obtain ⟨x1, hx1, hE⟩ := bd hE
      refine s_gI hx hb hT u_X6 hown hK hW hx1 rfl (by decide) fl_X6_18 rfl dX6_hasLikeMarks_4 ?_
      refine lv_icmp_ge (tgt := 53) hx hb dX6_hasLikeMarks_7 (by decide) (fun q2 => ?_) (fun q2 => ?_)
      · replace hE := ite_t q2 hE
        refine lv_iconst (v := (1 : Int32)) hx hb dX6_hasLikeMarks_53 (by decide) ?_
        obtain ⟨c3, hE⟩ := ck hE
        obtain rfl := so1 hE
        exact s_zret hx hb hr c3 hlocks hW hS dX6_hasLikeMarks_54
      · replace hE := ite_f q2 hE
        refine s_aload_n hx hb dX6_hasLikeMarks_10 rfl (lv_at hl 0 rfl) ?_
        obtain ⟨x4, hx4, hE⟩ := bd hE
        refine s_gR hx hb hT u_X6 hown hK hW hx4 rfl (by decide) fl_X6_34 rfl dX6_hasLikeMarks_11 ?_
        refine lv_iload_n hx hb dX6_hasLikeMarks_14 rfl (lv_at hl 2 rfl) ?_
        obtain ⟨x5, hx5, hE⟩ := bd hE
        refine s_ldI hx hb hK hW hS hx5 dX6_hasLikeMarks_15 ?_
        refine lv_iload_n hx hb dX6_hasLikeMarks_16 rfl (lv_at hl 3 rfl) ?_
        obtain ⟨x6, hx6, hE⟩ := bd hE
        refine s_callSN (As := [.int x5, .int v3]) (rest := []) CF hK hW hS (S_X11_lineOf l G F hx6) go_X11_lineOf nm_X6_119 ini_CopyOrders stt_X11_lineOf hd_X11_lineOf.2 ⟨Nat.le_of_ble_eq_true rfl, Nat.le_of_ble_eq_true rfl⟩ rfl hl.1 rfl (Nat.le_of_ble_eq_true rfl) dX6_hasLikeMarks_17 ⟨Nat.le_refl _, Nat.le_refl _⟩ (fun H locs hW hS => ?_)
        refine lv_istore (lv' := [(4, .int x6), (0, rr G v0), (1, rr G v1), (2, .int v2), (3, .int v3)]) hx hb dX6_hasLikeMarks_20 hl (by decide) rfl (fun ls hl => ?_)
        refine lv_iload_n hx hb dX6_hasLikeMarks_22 rfl (lv_at hl 4 rfl) ?_
        refine s_aload_n hx hb dX6_hasLikeMarks_23 rfl (lv_at hl 2 rfl) ?_
        obtain ⟨x7, hx7, hE⟩ := bd hE
        refine s_alen hx hb hK hW hS hx7 dX6_hasLikeMarks_24 ?_
        refine lv_icmp_ge (tgt := 45) hx hb dX6_hasLikeMarks_25 (by decide) (fun q8 => ?_) (fun q8 => ?_)
        · replace hE := ite_t q8 hE
          refine lv_iconst (v := (0 : Int32)) hx hb dX6_hasLikeMarks_45 (by decide) ?_
          obtain ⟨c9, hE⟩ := ck hE
          obtain rfl := so1 hE
          exact s_zret hx hb hr c9 hlocks hW hS dX6_hasLikeMarks_46
        · replace hE := ite_f q8 hE
          refine lv_iload hx hb dX6_hasLikeMarks_28 (lv_at hl 0 rfl) ?_
          refine s_aload_n hx hb dX6_hasLikeMarks_30 rfl (lv_at hl 2 rfl) ?_
          obtain ⟨x10, hx10, hE⟩ := bd hE
          refine s_alen hx hb hK hW hS hx10 dX6_hasLikeMarks_31 ?_
          refine lv_icmp_ge (tgt := 45) hx hb dX6_hasLikeMarks_32 (by decide) (fun q11 => ?_) (fun q11 => ?_)
          · replace hE := ite_t q11 hE
            refine lv_iconst (v := (0 : Int32)) hx hb dX6_hasLikeMarks_45 (by decide) ?_
            obtain ⟨c12, hE⟩ := ck hE
            obtain rfl := so1 hE
            exact s_zret hx hb hr c12 hlocks hW hS dX6_hasLikeMarks_46
          · replace hE := ite_f q11 hE
            refine s_aload_n hx hb dX6_hasLikeMarks_35 rfl (lv_at hl 2 rfl) ?_
            refine lv_iload hx hb dX6_hasLikeMarks_36 (lv_at hl 0 rfl) ?_
            obtain ⟨x13, hx13, hE⟩ := bd hE
            refine s_ldI hx hb hK hW hS hx13 dX6_hasLikeMarks_38 ?_
            refine s_aload_n hx hb dX6_hasLikeMarks_39 rfl (lv_at hl 2 rfl) ?_
            refine lv_iload_n hx hb dX6_hasLikeMarks_40 rfl (lv_at hl 4 rfl) ?_
            obtain ⟨x14, hx14, hE⟩ := bd hE
            refine s_ldI hx hb hK hW hS hx14 dX6_hasLikeMarks_41 ?_
            refine lv_icmp_eq (tgt := 47) hx hb dX6_hasLikeMarks_42 (by decide) (fun q15 => ?_) (fun q15 => ?_)
            · replace hE := ite_t q15 hE
              obtain ⟨y16, ey16⟩ : ∃ y : Int32, y = v3 + (1 : Int32) := ⟨_, rfl⟩
              replace hE := nm_o ey16 hE
              refine lv_iinc (k := 4) (v := y16) (lv' := [(3, .int y16), (4, .int x6), (0, rr G v0), (1, rr G v1), (2, .int v2)]) hx hb dX6_hasLikeMarks_47 hl rfl (by rw [ey16]; rfl) (by decide) rfl (fun ls hl => ?_)
              refine lv_goto (tgt := 2) hx hb dX6_hasLikeMarks_50 (by decide) ?_
              exact ih2 _ _ _ _ _ _ _ hE hW hS (lv_sub hl [2, 3, 4, 0] rfl)
            · replace hE := ite_f q15 hE
              refine lv_iconst (v := (0 : Int32)) hx hb dX6_hasLikeMarks_45 (by decide) ?_
              obtain ⟨c17, hE⟩ := ck hE
              obtain rfl := so1 hE
              exact s_zret hx hb hr c17 hlocks hW hS dX6_hasLikeMarks_46
  refine lv_iconst (v := (0 : Int32)) hx hb dX6_hasLikeMarks_0 (by decide) ?_
  refine lv_istore_n (i := 3) (lv' := [(3, .int (0 : Int32)), (0, rr G u0), (1, rr G u1), (2, .int u2)]) hx hb dX6_hasLikeMarks_1 rfl hl (by decide) rfl (fun ls hl => ?_)
  exact hC2 F _ _ _ _ _ _ _ hE hW hS (lv_sub hl [1, 2, 3, 0] rfl)
set_option maxHeartbeats 4000000 in
set_option maxRecDepth 100000 in
theorem S_X6_marksHold (l : Launch) (G : GG) (F : Nat) {u0 : Option Nat} {u1 : Option Nat} {u2 : Int32} {f : Hp} {r : Int32} {n : Nat} (hE : m_X6_marksHold F u0 u1 u2 f = some r) : Ctr l G yX6_marksHold cX6_marksHold 4 (some .boolean) 2 45 [rr G u0, rr G u1, .int u2] f n (some (.int r)) f n 0 0 := by
  refine Met.ofW (cc := cX6_marksHold) (maxL := 4) (ret := (some .boolean)) (by decide) rfl ?_
  intro p e s m args below meth c s₁ B hml hv
  obtain ⟨rfl, hK, hW⟩ := hv
  have hx := B.exec
  have hb := B.bytes
  have hr := B.returns
  have hts := atoms_spec (ws := wsO yX6_marksHold cX6_marksHold 4 (some .boolean)) B.pre
  have hT : ∀ w ∈ TB, w.before [rr G u0, rr G u1, .int u2].toArray s = true := fun w hw => hts w (List.mem_cons_of_mem _ hw)
  have hown : s.vm.findClass RX6 = some m.cls := findClass_of_methodNamed B.named
  have hlocks := B.notSynchronized
  have CF : CallFix p m c cX6_marksHold 4 s [rr G u0, rr G u1, .int u2].toArray TB RX6 := ⟨hx, hb, hml, hown, hT⟩
  have hS : va_S (WA G) s.heap s.heap [] := va_S.rf
  have hl : lv_has (lg_sl ([rr G u0, rr G u1, .int u2]) ++ List.replicate (4 - (lg_sl ([rr G u0, rr G u1, .int u2])).length) Slot.unset).toArray 4 [(0, rr G u0), (1, rr G u1), (2, .int u2)] := by cases u0 <;> cases u1 <;> exact lv_entry _ (Nat.le_of_ble_eq_true rfl)
  rw [lg_entry_eq]
  generalize (lg_sl ([rr G u0, rr G u1, .int u2]) ++ List.replicate (4 - (lg_sl ([rr G u0, rr G u1, .int u2])).length) Slot.unset).toArray = ls at hl ⊢
  have hC2 : ∀ (k2 : Nat), ∀ (v0 : Option Nat) (v1 : Option Nat) (v2 : Int32) (v3 : Int32) (H : Heap) (locs : List Loc) (ls : Array Slot), m_X6_marksHold_L2 F k2 v0 v1 v2 v3 f = some r → Wd G f n H → va_S (WA G) s.heap H locs → lv_has ls 4 [(0, rr G v0), (1, rr G v1), (2, .int v2), (3, .int v3)] → W p l e (headSpec (wsO yX6_marksHold cX6_marksHold 4 (some .boolean)) { frames := 2, cells := 0, slots := 0, locals := 45 }).room s m [rr G u0, rr G u1, .int u2].toArray below meth c H locs 0 0 (MQ below (Qcn G (some (.int r)) f n) [rr G u0, rr G u1, .int u2].toArray s 0 0 (WA G)) (F0 m 2 ls []) := by
    intro k2
    induction k2 with
    | zero => intro v0 v1 v2 v3 H locs ls hE _ _ _; cases (show (none : Option Int32) = some r from hE)
    | succ k2 ih2 =>
      intro v0 v1 v2 v3 H locs ls hE hW hS hl
      replace hE : m_X6_marksHold_b2 F (m_X6_marksHold_L2 F k2) v0 v1 v2 v3 f = some r := hE
      refine lv_iload_n hx hb dX6_marksHold_2 rfl (lv_at hl 3 rfl) ?_
      refine s_aload_n hx hb dX6_marksHold_3 rfl (lv_at hl 0 rfl) ?_
      obtain ⟨x1, hx1, hE⟩ := bd hE
      refine s_gI hx hb hT u_X6 hown hK hW hx1 rfl (by decide) fl_X6_28 rfl dX6_marksHold_4 ?_
      refine lv_icmp_ge (tgt := 42) hx hb dX6_marksHold_7 (by decide) (fun q2 => ?_) (fun q2 => ?_)
      · replace hE := ite_t q2 hE
        refine lv_iconst (v := (1 : Int32)) hx hb dX6_marksHold_42 (by decide) ?_
        obtain ⟨c3, hE⟩ := ck hE
        obtain rfl := so1 hE
        exact s_zret hx hb hr c3 hlocks hW hS dX6_marksHold_43
      · replace hE := ite_f q2 hE
        refine s_aload_n hx hb dX6_marksHold_10 rfl (lv_at hl 0 rfl) ?_
        obtain ⟨x4, hx4, hE⟩ := bd hE
        refine s_gR hx hb hT u_X6 hown hK hW hx4 rfl (by decide) fl_X6_38 rfl dX6_marksHold_11 ?_
        refine lv_iload_n hx hb dX6_marksHold_14 rfl (lv_at hl 3 rfl) ?_
        obtain ⟨x5, hx5, hE⟩ := bd hE
        refine s_ldI hx hb hK hW hS hx5 dX6_marksHold_15 ?_
        obtain ⟨x6, hx6, hE⟩ := bd hE
        refine s_callS (As := [.int x5]) (rest := []) CF hK hW hS (S_J6_bitCount_0f7a4 l G F hx6) gs_X6_79 hd_J6_bitCount_0f7a4.2 ⟨Nat.le_of_ble_eq_true rfl, Nat.le_of_ble_eq_true rfl⟩ rfl hl.1 rfl (Nat.le_of_ble_eq_true rfl) dX6_marksHold_16 ⟨Nat.le_refl _, Nat.le_refl _⟩ (fun H locs hW hS => ?_)
        refine lv_iconst (v := (2 : Int32)) hx hb dX6_marksHold_19 (by decide) ?_
        refine lv_iload_n hx hb dX6_marksHold_20 rfl (lv_at hl 2 rfl) ?_
        refine lv_imul hx hb dX6_marksHold_21 ?_
        refine lv_icmp_gt (tgt := 36) hx hb dX6_marksHold_22 (by decide) (fun q7 => ?_) (fun q7 => ?_)
        · replace hE := ite_t q7 hE
          obtain ⟨y8, ey8⟩ : ∃ y : Int32, y = v3 + (1 : Int32) := ⟨_, rfl⟩
          replace hE := nm_o ey8 hE
          refine lv_iinc (k := 3) (v := y8) (lv' := [(3, .int y8), (0, rr G v0), (1, rr G v1), (2, .int v2)]) hx hb dX6_marksHold_36 hl rfl (by rw [ey8]; rfl) (by decide) rfl (fun ls hl => ?_)
          refine lv_goto (tgt := 2) hx hb dX6_marksHold_39 (by decide) ?_
          exact ih2 _ _ _ _ _ _ _ hE hW hS (lv_sub hl [1, 2, 3, 0] rfl)
        · replace hE := ite_f q7 hE
          refine s_aload_n hx hb dX6_marksHold_25 rfl (lv_at hl 0 rfl) ?_
          refine s_aload_n hx hb dX6_marksHold_26 rfl (lv_at hl 1 rfl) ?_
          refine lv_iload_n hx hb dX6_marksHold_27 rfl (lv_at hl 3 rfl) ?_
          obtain ⟨c9, hE⟩ := ck hE
          obtain ⟨x10, hx10, hE⟩ := bd hE
          refine s_callV (As := [rr G v1, .int v3]) (rest := []) CF hK hW hS (S_X6_hasLikeMarks l G F hx10) c9 rfl gv_X6_115 hd_X6_hasLikeMarks ⟨Nat.le_of_ble_eq_true rfl, Nat.le_of_ble_eq_true rfl⟩ rfl hl.1 rfl (Nat.le_of_ble_eq_true rfl) dX6_marksHold_28 ⟨Nat.le_refl _, Nat.le_refl _⟩ (fun H locs hW hS => ?_)
          refine lv_if_eq (tgt := 36) hx hb dX6_marksHold_31 (by decide) (fun q11 => ?_) (fun q11 => ?_)
          · replace hE := ite_t q11 hE
            obtain ⟨y12, ey12⟩ : ∃ y : Int32, y = v3 + (1 : Int32) := ⟨_, rfl⟩
            replace hE := nm_o ey12 hE
            refine lv_iinc (k := 3) (v := y12) (lv' := [(3, .int y12), (0, rr G v0), (1, rr G v1), (2, .int v2)]) hx hb dX6_marksHold_36 hl rfl (by rw [ey12]; rfl) (by decide) rfl (fun ls hl => ?_)
            refine lv_goto (tgt := 2) hx hb dX6_marksHold_39 (by decide) ?_
            exact ih2 _ _ _ _ _ _ _ hE hW hS (lv_sub hl [1, 2, 3, 0] rfl)
          · replace hE := ite_f q11 hE
            refine lv_iconst (v := (0 : Int32)) hx hb dX6_marksHold_34 (by decide) ?_
            obtain ⟨c13, hE⟩ := ck hE
            obtain rfl := so1 hE
            exact s_zret hx hb hr c13 hlocks hW hS dX6_marksHold_35
  refine lv_iconst (v := (1 : Int32)) hx hb dX6_marksHold_0 (by decide) ?_
  refine lv_istore_n (i := 3) (lv' := [(3, .int (1 : Int32)), (0, rr G u0), (1, rr G u1), (2, .int u2)]) hx hb dX6_marksHold_1 rfl hl (by decide) rfl (fun ls hl => ?_)
  exact hC2 F _ _ _ _ _ _ _ hE hW hS (lv_sub hl [1, 2, 3, 0] rfl)
set_option maxHeartbeats 4000000 in
set_option maxRecDepth 100000 in
theorem S_X11_holds (l : Launch) (G : GG) (F : Nat) {u0 : Option Nat} {u1 : Int32} {f : Hp} {r : Int32} {f' : Hp} {n n2 z z2 : Nat} (hE : m_X11_holds F u0 u1 f n z = some (r, f', n2, z2)) : Ctr l G yX11_holds cX11_holds 4 (some .int) 5 118 [rr G u0, .int u1] f n (some (.int r)) f' n2 (n2 - n) (z2 - z) := by
  refine Met.ofW (cc := cX11_holds) (maxL := 4) (ret := (some .int)) (by decide) rfl ?_
  intro p e s m args below meth c s₁ B hml hv
  obtain ⟨rfl, hK, hW⟩ := hv
  have hx := B.exec
  have hb := B.bytes
  have hr := B.returns
  have hts := atoms_spec (ws := wsO yX11_holds cX11_holds 4 (some .int)) B.pre
  have hT : ∀ w ∈ TB, w.before [rr G u0, .int u1].toArray s = true := fun w hw => hts w (List.mem_cons_of_mem _ hw)
  have hown : s.vm.findClass RX11 = some m.cls := findClass_of_methodNamed B.named
  have hlocks := B.notSynchronized
  have CF : CallFix p m c cX11_holds 4 s [rr G u0, .int u1].toArray TB RX11 := ⟨hx, hb, hml, hown, hT⟩
  have hS : va_S (WA G) s.heap s.heap [] := va_S.rf
  have hl : lv_has (lg_sl ([rr G u0, .int u1]) ++ List.replicate (4 - (lg_sl ([rr G u0, .int u1])).length) Slot.unset).toArray 4 [(0, rr G u0), (1, .int u1)] := by cases u0 <;> exact lv_entry _ (Nat.le_of_ble_eq_true rfl)
  rw [lg_entry_eq]
  generalize (lg_sl ([rr G u0, .int u1]) ++ List.replicate (4 - (lg_sl ([rr G u0, .int u1])).length) Slot.unset).toArray = ls at hl ⊢
  have hC57 : ∀ (v0 : Option Nat) (v1 : Int32) (fa : Hp) (na za : Nat) (H : Heap) (locs : List Loc) (ls : Array Slot), n ≤ na → z ≤ za → m_X11_holds_B57 F v0 v1 fa na za = some (r, f', n2, z2) → Wd G fa na H → va_S (WA G) s.heap H locs → lv_has ls 4 [(0, rr G v0), (1, .int v1)] → W p l e (headSpec (wsO yX11_holds cX11_holds 4 (some .int)) { frames := 5, cells := (n2 - n), slots := (z2 - z), locals := 118 }).room s m [rr G u0, .int u1].toArray below meth c H locs (na - n) (za - z) (MQ below (Qcn G (some (.int r)) f' n2) [rr G u0, .int u1].toArray s (n2 - n) (z2 - z) (WA G)) (F0 m 57 ls []) := by
    intro v0 v1 fa na za H locs ls hna hza hE hW hS hl
    refine s_aload_n hx hb dX11_holds_57 rfl (lv_at hl 0 rfl) ?_
    obtain ⟨c9, hE⟩ := ck hE
    obtain ⟨x13, f12, nq10, zq11, hf12, hE⟩ := bd4_of hE
    obtain ⟨c14, hE⟩ := ck hE
    replace c14 := of_decide_eq_true c14
    obtain ⟨g15a, g15b, hE⟩ := grow_of hE
    replace g15a : nq10 ≤ n2 := g15a
    replace g15b : zq11 ≤ z2 := g15b
    refine s_callV (As := []) (rest := []) CF hK hW hS (S_X11_orders l G F hf12) c9 rfl gv_X11_145 hd_X11_orders ⟨Nat.le_of_ble_eq_true rfl, Nat.le_of_ble_eq_true rfl⟩ rfl hl.1 rfl (Nat.le_of_ble_eq_true rfl) dX11_holds_58 ⟨show na - n + (nq10 - (na)) ≤ n2 - n by omega, show za - z + (zq11 - (za)) ≤ z2 - z by omega⟩ (fun H locs hW hS => ?_)
    refine W.cs (cells' := nq10 - n) (slots' := zq11 - z) (by omega) (by omega) ?_
    refine s_aload_n hx hb dX11_holds_61 rfl (lv_at hl 0 rfl) ?_
    obtain ⟨x16, hx16, hE⟩ := bd hE
    refine s_gR hx hb hT u_X11 hown hK hW hx16 rfl (by decide) fl_X11_72 rfl dX11_holds_62 ?_
    refine lv_iload_n hx hb dX11_holds_65 rfl (lv_at hl 1 rfl) ?_
    obtain ⟨c17, hE⟩ := ck hE
    obtain ⟨g18a, g18b, hE⟩ := grow_of hE
    replace g18a : nq10 ≤ n2 := g18a
    replace g18b : zq11 ≤ z2 := g18b
    obtain ⟨x19, hx19, hE⟩ := bd hE
    refine s_callV (As := [rr G x16, .int v1]) (rest := []) CF hK hW hS (S_X6_marksHold l G F hx19) c17 rfl gv_X11_289 hd_X6_marksHold ⟨Nat.le_of_ble_eq_true rfl, Nat.le_of_ble_eq_true rfl⟩ rfl hl.1 rfl (Nat.le_of_ble_eq_true rfl) dX11_holds_66 ⟨show nq10 - n + 0 ≤ n2 - n by omega, show zq11 - z + 0 ≤ z2 - z by omega⟩ (fun H locs hW hS => ?_)
    refine lv_if_eq (tgt := 76) hx hb dX11_holds_69 (by decide) (fun q20 => ?_) (fun q20 => ?_)
    · replace hE := ite_t q20 hE
      refine lv_iconst (v := (0 : Int32)) hx hb dX11_holds_76 (by decide) ?_
      obtain ⟨rfl, rfl, rfl, rfl⟩ := so4 hE
      exact s_iret hx hb hr hlocks hW hS dX11_holds_77
    · replace hE := ite_f q20 hE
      refine lv_iconst (v := (1 : Int32)) hx hb dX11_holds_72 (by decide) ?_
      refine lv_goto (tgt := 77) hx hb dX11_holds_73 (by decide) ?_
      obtain ⟨rfl, rfl, rfl, rfl⟩ := so4 hE
      exact s_iret hx hb hr hlocks hW hS dX11_holds_77
  have hC29 : ∀ (k29 : Nat), ∀ (v0 : Option Nat) (v1 : Int32) (v2 : Int32) (v3 : Int32) (fa : Hp) (na za : Nat) (H : Heap) (locs : List Loc) (ls : Array Slot), n ≤ na → z ≤ za → m_X11_holds_L29 F k29 v0 v1 v2 v3 fa na za = some (r, f', n2, z2) → Wd G fa na H → va_S (WA G) s.heap H locs → lv_has ls 4 [(0, rr G v0), (1, .int v1), (2, .int v2), (3, .int v3)] → W p l e (headSpec (wsO yX11_holds cX11_holds 4 (some .int)) { frames := 5, cells := (n2 - n), slots := (z2 - z), locals := 118 }).room s m [rr G u0, .int u1].toArray below meth c H locs (na - n) (za - z) (MQ below (Qcn G (some (.int r)) f' n2) [rr G u0, .int u1].toArray s (n2 - n) (z2 - z) (WA G)) (F0 m 29 ls []) := by
    intro k29
    induction k29 with
    | zero => intro v0 v1 v2 v3 fa na za H locs ls hna hza hE _ _ _; cases (show (none : Option ((Int32) × Hp × Nat × Nat)) = some (r, f', n2, z2) from hE)
    | succ k29 ih29 =>
      intro v0 v1 v2 v3 fa na za H locs ls hna hza hE hW hS hl
      replace hE : m_X11_holds_b29 F (m_X11_holds_L29 F k29) v0 v1 v2 v3 fa na za = some (r, f', n2, z2) := hE
      refine lv_iload_n hx hb dX11_holds_29 rfl (lv_at hl 3 rfl) ?_
      refine lv_iload_n hx hb dX11_holds_30 rfl (lv_at hl 2 rfl) ?_
      refine lv_icmp_ge (tgt := 57) hx hb dX11_holds_31 (by decide) (fun q1 => ?_) (fun q1 => ?_)
      · replace hE := ite_t q1 hE
        exact hC57 _ _ _ _ _ _ _ _ (by omega) (by omega) hE hW hS (lv_sub hl [0, 1] rfl)
      · replace hE := ite_f q1 hE
        refine lv_iload_n hx hb dX11_holds_34 rfl (lv_at hl 3 rfl) ?_
        refine lv_bipush (v := (7 : Int32)) hx hb dX11_holds_35 (by decide) ?_
        refine lv_icmp_ge (tgt := 57) hx hb dX11_holds_37 (by decide) (fun q2 => ?_) (fun q2 => ?_)
        · replace hE := ite_t q2 hE
          exact hC57 _ _ _ _ _ _ _ _ (by omega) (by omega) hE hW hS (lv_sub hl [0, 1] rfl)
        · replace hE := ite_f q2 hE
          refine s_aload_n hx hb dX11_holds_40 rfl (lv_at hl 0 rfl) ?_
          obtain ⟨x3, hx3, hE⟩ := bd hE
          refine s_gR hx hb hT u_X11 hown hK hW hx3 rfl (by decide) fl_X11_72 rfl dX11_holds_41 ?_
          refine lv_iload_n hx hb dX11_holds_44 rfl (lv_at hl 3 rfl) ?_
          refine s_aload_n hx hb dX11_holds_45 rfl (lv_at hl 0 rfl) ?_
          refine lv_iload_n hx hb dX11_holds_46 rfl (lv_at hl 3 rfl) ?_
          obtain ⟨c4, hE⟩ := ck hE
          obtain ⟨g5a, g5b, hE⟩ := grow_of hE
          replace g5a : na ≤ n2 := g5a
          replace g5b : za ≤ z2 := g5b
          obtain ⟨x6, hx6, hE⟩ := bd hE
          refine s_callV (As := [.int v3]) (rest := [.int v3, rr G x3]) CF hK hW hS (S_X11_byteAt l G F hx6) c4 rfl gv_X11_128 hd_X11_byteAt ⟨Nat.le_of_ble_eq_true rfl, Nat.le_of_ble_eq_true rfl⟩ rfl hl.1 rfl (Nat.le_of_ble_eq_true rfl) dX11_holds_47 ⟨show na - n + 0 ≤ n2 - n by omega, show za - z + 0 ≤ z2 - z by omega⟩ (fun H locs hW hS => ?_)
          obtain ⟨f7, hf7, hE⟩ := bd hE
          refine s_stI hx hb hK hW hS hf7 dX11_holds_50 (fun H locs hW hS => ?_)
          obtain ⟨y8, ey8⟩ : ∃ y : Int32, y = v3 + (1 : Int32) := ⟨_, rfl⟩
          replace hE := nm_o ey8 hE
          refine lv_iinc (k := 3) (v := y8) (lv' := [(3, .int y8), (0, rr G v0), (1, .int v1), (2, .int v2)]) hx hb dX11_holds_51 hl rfl (by rw [ey8]; rfl) (by decide) rfl (fun ls hl => ?_)
          refine lv_goto (tgt := 29) hx hb dX11_holds_54 (by decide) ?_
          exact ih29 _ _ _ _ _ _ _ _ _ _ (by omega) (by omega) hE hW hS (lv_sub hl [1, 2, 3, 0] rfl)
  refine W.cs (cells' := n - n) (slots' := z - z) (by omega) (by omega) ?_
  refine s_aload_n hx hb dX11_holds_0 rfl (lv_at hl 0 rfl) ?_
  obtain ⟨c21, hE⟩ := ck hE
  obtain ⟨g22a, g22b, hE⟩ := grow_of hE
  replace g22a : n ≤ n2 := g22a
  replace g22b : z ≤ z2 := g22b
  obtain ⟨x23, f24, hx23, hE⟩ := bd2_of hE
  refine s_callV (As := []) (rest := []) CF hK hW hS (S_X11_takeTape l G F hx23) c21 rfl gv_X11_84 hd_X11_takeTape ⟨Nat.le_of_ble_eq_true rfl, Nat.le_of_ble_eq_true rfl⟩ rfl hl.1 rfl (Nat.le_of_ble_eq_true rfl) dX11_holds_1 ⟨show n - n + 0 ≤ n2 - n by omega, show z - z + 0 ≤ z2 - z by omega⟩ (fun H locs hW hS => ?_)
  refine lv_istore_n (i := 2) (lv' := [(2, .int x23), (0, rr G u0), (1, .int u1)]) hx hb dX11_holds_4 rfl hl (by decide) rfl (fun ls hl => ?_)
  refine lv_iload_n hx hb dX11_holds_5 rfl (lv_at hl 2 rfl) ?_
  refine lv_bipush (v := (9 : Int32)) hx hb dX11_holds_6 (by decide) ?_
  obtain ⟨g25a, g25b, hE⟩ := grow_of hE
  replace g25a : n ≤ n2 := g25a
  replace g25b : z ≤ z2 := g25b
  obtain ⟨x26, hx26, hE⟩ := bd hE
  refine s_callS (As := [.int u1, .int (9 : Int32)]) (rest := []) CF hK hW hS (S_X11_isWithin l G F hx26) gs_X11_235 hd_X11_isWithin.2 ⟨Nat.le_of_ble_eq_true rfl, Nat.le_of_ble_eq_true rfl⟩ rfl hl.1 rfl (Nat.le_of_ble_eq_true rfl) dX11_holds_8 ⟨show n - n + 0 ≤ n2 - n by omega, show z - z + 0 ≤ z2 - z by omega⟩ (fun H locs hW hS => ?_)
  refine lv_if_eq (tgt := 25) hx hb dX11_holds_11 (by decide) (fun q27 => ?_) (fun q27 => ?_)
  · replace hE := ite_t q27 hE
    refine lv_iconst (v := (-1 : Int32)) hx hb dX11_holds_25 (by decide) ?_
    obtain ⟨rfl, rfl, rfl, rfl⟩ := so4 hE
    exact s_iret hx hb hr hlocks hW hS dX11_holds_26
  · replace hE := ite_f q27 hE
    refine lv_iload_n hx hb dX11_holds_14 rfl (lv_at hl 0 rfl) ?_
    refine s_aload_n hx hb dX11_holds_15 rfl (lv_at hl 1 rfl) ?_
    obtain ⟨x28, hx28, hE⟩ := bd hE
    refine s_gR hx hb hT u_X11 hown hK hW hx28 rfl (by decide) fl_X11_16 rfl dX11_holds_16 ?_
    obtain ⟨x29, hx29, hE⟩ := bd hE
    refine s_gI hx hb hT u_X4 hown hK hW hx29 rfl (by decide) fl_X11_132 rfl dX11_holds_19 ?_
    refine lv_icmp_eq (tgt := 27) hx hb dX11_holds_22 (by decide) (fun q30 => ?_) (fun q30 => ?_)
    · replace hE := ite_t q30 hE
      refine lv_iconst (v := (0 : Int32)) hx hb dX11_holds_27 (by decide) ?_
      refine lv_istore_n (i := 3) (lv' := [(3, .int (0 : Int32)), (2, .int x23), (0, rr G u0), (1, .int u1)]) hx hb dX11_holds_28 rfl hl (by decide) rfl (fun ls hl => ?_)
      exact hC29 F _ _ _ _ _ _ _ _ _ _ (by omega) (by omega) hE hW hS (lv_sub hl [2, 3, 1, 0] rfl)
    · replace hE := ite_f q30 hE
      refine lv_iconst (v := (-1 : Int32)) hx hb dX11_holds_25 (by decide) ?_
      obtain ⟨rfl, rfl, rfl, rfl⟩ := so4 hE
      exact s_iret hx hb hr hlocks hW hS dX11_holds_26
set_option maxHeartbeats 4000000 in
set_option maxRecDepth 100000 in
theorem S_X9_isBlank (l : Launch) (G : GG) (F : Nat) {u0 : Int32} {f : Hp} {r : Int32} {n : Nat} (hE : m_X9_isBlank F u0 f = some r) : Ctr l G yX9_isBlank cX9_isBlank 1 (some .boolean) 0 0 [.int u0] f n (some (.int r)) f n 0 0 := by
  refine Met.ofW (cc := cX9_isBlank) (maxL := 1) (ret := (some .boolean)) (by decide) rfl ?_
  intro p e s m args below meth c s₁ B hml hv
  obtain ⟨rfl, hK, hW⟩ := hv
  have hx := B.exec
  have hb := B.bytes
  have hr := B.returns
  have hts := atoms_spec (ws := wsO yX9_isBlank cX9_isBlank 1 (some .boolean)) B.pre
  have hT : ∀ w ∈ TB, w.before [.int u0].toArray s = true := fun w hw => hts w (List.mem_cons_of_mem _ hw)
  have hown : s.vm.findClass RX9 = some m.cls := findClass_of_methodNamed B.named
  have hlocks := B.notSynchronized
  have CF : CallFix p m c cX9_isBlank 1 s [.int u0].toArray TB RX9 := ⟨hx, hb, hml, hown, hT⟩
  have hS : va_S (WA G) s.heap s.heap [] := va_S.rf
  have hl : lv_has (lg_sl ([.int u0]) ++ List.replicate (1 - (lg_sl ([.int u0])).length) Slot.unset).toArray 1 [(0, .int u0)] := by exact lv_entry [.int u0] (Nat.le_of_ble_eq_true rfl)
  rw [lg_entry_eq]
  generalize (lg_sl ([.int u0]) ++ List.replicate (1 - (lg_sl ([.int u0])).length) Slot.unset).toArray = ls at hl ⊢
  refine lv_iload_n hx hb dX9_isBlank_0 rfl (lv_at hl 0 rfl) ?_
  refine lv_bipush (v := (32 : Int32)) hx hb dX9_isBlank_1 (by decide) ?_
  refine lv_icmp_eq (tgt := 12) hx hb dX9_isBlank_3 (by decide) (fun q1 => ?_) (fun q1 => ?_)
  · replace hE := ite_t q1 hE
    refine lv_iconst (v := (1 : Int32)) hx hb dX9_isBlank_12 (by decide) ?_
    refine lv_goto (tgt := 17) hx hb dX9_isBlank_13 (by decide) ?_
    obtain ⟨c2, hE⟩ := ck hE
    obtain rfl := so1 hE
    exact s_zret hx hb hr c2 hlocks hW hS dX9_isBlank_17
  · replace hE := ite_f q1 hE
    refine lv_iload_n hx hb dX9_isBlank_6 rfl (lv_at hl 0 rfl) ?_
    refine lv_bipush (v := (10 : Int32)) hx hb dX9_isBlank_7 (by decide) ?_
    refine lv_icmp_ne (tgt := 16) hx hb dX9_isBlank_9 (by decide) (fun q3 => ?_) (fun q3 => ?_)
    · replace hE := ite_f q3 hE
      refine lv_iconst (v := (0 : Int32)) hx hb dX9_isBlank_16 (by decide) ?_
      obtain ⟨c4, hE⟩ := ck hE
      obtain rfl := so1 hE
      exact s_zret hx hb hr c4 hlocks hW hS dX9_isBlank_17
    · replace hE := ite_t q3 hE
      refine lv_iconst (v := (1 : Int32)) hx hb dX9_isBlank_12 (by decide) ?_
      refine lv_goto (tgt := 17) hx hb dX9_isBlank_13 (by decide) ?_
      obtain ⟨c5, hE⟩ := ck hE
      obtain rfl := so1 hE
      exact s_zret hx hb hr c5 hlocks hW hS dX9_isBlank_17
set_option maxHeartbeats 4000000 in
set_option maxRecDepth 100000 in
theorem S_X9_isLetter (l : Launch) (G : GG) (F : Nat) {u0 : Int32} {f : Hp} {r : Int32} {n : Nat} (hE : m_X9_isLetter F u0 f = some r) : Ctr l G yX9_isLetter cX9_isLetter 1 (some .boolean) 0 0 [.int u0] f n (some (.int r)) f n 0 0 := by
  refine Met.ofW (cc := cX9_isLetter) (maxL := 1) (ret := (some .boolean)) (by decide) rfl ?_
  intro p e s m args below meth c s₁ B hml hv
  obtain ⟨rfl, hK, hW⟩ := hv
  have hx := B.exec
  have hb := B.bytes
  have hr := B.returns
  have hts := atoms_spec (ws := wsO yX9_isLetter cX9_isLetter 1 (some .boolean)) B.pre
  have hT : ∀ w ∈ TB, w.before [.int u0].toArray s = true := fun w hw => hts w (List.mem_cons_of_mem _ hw)
  have hown : s.vm.findClass RX9 = some m.cls := findClass_of_methodNamed B.named
  have hlocks := B.notSynchronized
  have CF : CallFix p m c cX9_isLetter 1 s [.int u0].toArray TB RX9 := ⟨hx, hb, hml, hown, hT⟩
  have hS : va_S (WA G) s.heap s.heap [] := va_S.rf
  have hl : lv_has (lg_sl ([.int u0]) ++ List.replicate (1 - (lg_sl ([.int u0])).length) Slot.unset).toArray 1 [(0, .int u0)] := by exact lv_entry [.int u0] (Nat.le_of_ble_eq_true rfl)
  rw [lg_entry_eq]
  generalize (lg_sl ([.int u0]) ++ List.replicate (1 - (lg_sl ([.int u0])).length) Slot.unset).toArray = ls at hl ⊢
  refine lv_iload_n hx hb dX9_isLetter_0 rfl (lv_at hl 0 rfl) ?_
  refine lv_bipush (v := (97 : Int32)) hx hb dX9_isLetter_1 (by decide) ?_
  refine lv_icmp_lt (tgt := 16) hx hb dX9_isLetter_3 (by decide) (fun q1 => ?_) (fun q1 => ?_)
  · replace hE := ite_t q1 hE
    refine lv_iconst (v := (0 : Int32)) hx hb dX9_isLetter_16 (by decide) ?_
    obtain ⟨c2, hE⟩ := ck hE
    obtain rfl := so1 hE
    exact s_zret hx hb hr c2 hlocks hW hS dX9_isLetter_17
  · replace hE := ite_f q1 hE
    refine lv_iload_n hx hb dX9_isLetter_6 rfl (lv_at hl 0 rfl) ?_
    refine lv_bipush (v := (122 : Int32)) hx hb dX9_isLetter_7 (by decide) ?_
    refine lv_icmp_gt (tgt := 16) hx hb dX9_isLetter_9 (by decide) (fun q3 => ?_) (fun q3 => ?_)
    · replace hE := ite_t q3 hE
      refine lv_iconst (v := (0 : Int32)) hx hb dX9_isLetter_16 (by decide) ?_
      obtain ⟨c4, hE⟩ := ck hE
      obtain rfl := so1 hE
      exact s_zret hx hb hr c4 hlocks hW hS dX9_isLetter_17
    · replace hE := ite_f q3 hE
      refine lv_iconst (v := (1 : Int32)) hx hb dX9_isLetter_12 (by decide) ?_
      refine lv_goto (tgt := 17) hx hb dX9_isLetter_13 (by decide) ?_
      obtain ⟨c5, hE⟩ := ck hE
      obtain rfl := so1 hE
      exact s_zret hx hb hr c5 hlocks hW hS dX9_isLetter_17
set_option maxHeartbeats 4000000 in
set_option maxRecDepth 100000 in
theorem S_X9_isDigit (l : Launch) (G : GG) (F : Nat) {u0 : Int32} {f : Hp} {r : Int32} {n : Nat} (hE : m_X9_isDigit F u0 f = some r) : Ctr l G yX9_isDigit cX9_isDigit 1 (some .boolean) 0 0 [.int u0] f n (some (.int r)) f n 0 0 := by
  refine Met.ofW (cc := cX9_isDigit) (maxL := 1) (ret := (some .boolean)) (by decide) rfl ?_
  intro p e s m args below meth c s₁ B hml hv
  obtain ⟨rfl, hK, hW⟩ := hv
  have hx := B.exec
  have hb := B.bytes
  have hr := B.returns
  have hts := atoms_spec (ws := wsO yX9_isDigit cX9_isDigit 1 (some .boolean)) B.pre
  have hT : ∀ w ∈ TB, w.before [.int u0].toArray s = true := fun w hw => hts w (List.mem_cons_of_mem _ hw)
  have hown : s.vm.findClass RX9 = some m.cls := findClass_of_methodNamed B.named
  have hlocks := B.notSynchronized
  have CF : CallFix p m c cX9_isDigit 1 s [.int u0].toArray TB RX9 := ⟨hx, hb, hml, hown, hT⟩
  have hS : va_S (WA G) s.heap s.heap [] := va_S.rf
  have hl : lv_has (lg_sl ([.int u0]) ++ List.replicate (1 - (lg_sl ([.int u0])).length) Slot.unset).toArray 1 [(0, .int u0)] := by exact lv_entry [.int u0] (Nat.le_of_ble_eq_true rfl)
  rw [lg_entry_eq]
  generalize (lg_sl ([.int u0]) ++ List.replicate (1 - (lg_sl ([.int u0])).length) Slot.unset).toArray = ls at hl ⊢
  refine lv_iload_n hx hb dX9_isDigit_0 rfl (lv_at hl 0 rfl) ?_
  refine lv_bipush (v := (48 : Int32)) hx hb dX9_isDigit_1 (by decide) ?_
  refine lv_icmp_lt (tgt := 16) hx hb dX9_isDigit_3 (by decide) (fun q1 => ?_) (fun q1 => ?_)
  · replace hE := ite_t q1 hE
    refine lv_iconst (v := (0 : Int32)) hx hb dX9_isDigit_16 (by decide) ?_
    obtain ⟨c2, hE⟩ := ck hE
    obtain rfl := so1 hE
    exact s_zret hx hb hr c2 hlocks hW hS dX9_isDigit_17
  · replace hE := ite_f q1 hE
    refine lv_iload_n hx hb dX9_isDigit_6 rfl (lv_at hl 0 rfl) ?_
    refine lv_bipush (v := (57 : Int32)) hx hb dX9_isDigit_7 (by decide) ?_
    refine lv_icmp_gt (tgt := 16) hx hb dX9_isDigit_9 (by decide) (fun q3 => ?_) (fun q3 => ?_)
    · replace hE := ite_t q3 hE
      refine lv_iconst (v := (0 : Int32)) hx hb dX9_isDigit_16 (by decide) ?_
      obtain ⟨c4, hE⟩ := ck hE
      obtain rfl := so1 hE
      exact s_zret hx hb hr c4 hlocks hW hS dX9_isDigit_17
    · replace hE := ite_f q3 hE
      refine lv_iconst (v := (1 : Int32)) hx hb dX9_isDigit_12 (by decide) ?_
      refine lv_goto (tgt := 17) hx hb dX9_isDigit_13 (by decide) ?_
      obtain ⟨c5, hE⟩ := ck hE
      obtain rfl := so1 hE
      exact s_zret hx hb hr c5 hlocks hW hS dX9_isDigit_17
set_option maxHeartbeats 4000000 in
set_option maxRecDepth 100000 in
theorem S_X9_wordOf (l : Launch) (G : GG) (F : Nat) {u0 : Int64} {f : Hp} {r : Option Nat} {n : Nat} (hE : m_X9_wordOf F u0 f = some r) : Ctr l G yX9_wordOf cX9_wordOf 6 (some (.object "CopyOrders$Word")) 0 0 [.long u0] f n (some (rr G r)) f n 0 0 := by
  refine Met.ofW (cc := cX9_wordOf) (maxL := 6) (ret := (some (.object "CopyOrders$Word"))) (by decide) rfl ?_
  intro p e s m args below meth c s₁ B hml hv
  obtain ⟨rfl, hK, hW⟩ := hv
  have hx := B.exec
  have hb := B.bytes
  have hr := B.returns
  have hts := atoms_spec (ws := wsO yX9_wordOf cX9_wordOf 6 (some (.object "CopyOrders$Word"))) B.pre
  have hT : ∀ w ∈ TB, w.before [.long u0].toArray s = true := fun w hw => hts w (List.mem_cons_of_mem _ hw)
  have hown : s.vm.findClass RX9 = some m.cls := findClass_of_methodNamed B.named
  have hlocks := B.notSynchronized
  have CF : CallFix p m c cX9_wordOf 6 s [.long u0].toArray TB RX9 := ⟨hx, hb, hml, hown, hT⟩
  have hS : va_S (WA G) s.heap s.heap [] := va_S.rf
  have hl : lv_has (lg_sl ([.long u0]) ++ List.replicate (6 - (lg_sl ([.long u0])).length) Slot.unset).toArray 6 [(0, .long u0)] := by exact lv_entry [.long u0] (Nat.le_of_ble_eq_true rfl)
  rw [lg_entry_eq]
  generalize (lg_sl ([.long u0]) ++ List.replicate (6 - (lg_sl ([.long u0])).length) Slot.unset).toArray = ls at hl ⊢
  have hC10 : ∀ (k10 : Nat), ∀ (v0 : Int64) (v2 : Option Nat) (v3 : Int32) (v4 : Int32) (H : Heap) (locs : List Loc) (ls : Array Slot), m_X9_wordOf_L10 F k10 v0 v2 v3 v4 f = some r → Wd G f n H → va_S (WA G) s.heap H locs → lv_has ls 6 [(0, .long v0), (2, rr G v2), (3, .int v3), (4, .int v4)] → W p l e (headSpec (wsO yX9_wordOf cX9_wordOf 6 (some (.object "CopyOrders$Word"))) { frames := 0, cells := 0, slots := 0, locals := 0 }).room s m [.long u0].toArray below meth c H locs 0 0 (MQ below (Qcn G (some (rr G r)) f n) [.long u0].toArray s 0 0 (WA G)) (F0 m 10 ls []) := by
    intro k10
    induction k10 with
    | zero => intro v0 v2 v3 v4 H locs ls hE _ _ _; cases (show (none : Option (Option Nat)) = some r from hE)
    | succ k10 ih10 =>
      intro v0 v2 v3 v4 H locs ls hE hW hS hl
      replace hE : m_X9_wordOf_b10 F (m_X9_wordOf_L10 F k10) v0 v2 v3 v4 f = some r := hE
      refine lv_iload hx hb dX9_wordOf_10 (lv_at hl 3 rfl) ?_
      refine lv_iload_n hx hb dX9_wordOf_12 rfl (lv_at hl 2 rfl) ?_
      refine lv_icmp_ge (tgt := 41) hx hb dX9_wordOf_13 (by decide) (fun q1 => ?_) (fun q1 => ?_)
      · replace hE := ite_t q1 hE
        refine s_getEn hx hb hT hK hS hown 0 (by decide) fl_X9_9 dX9_wordOf_41 ?_
        obtain rfl := so1 hE
        exact s_aret hx hb hr (Or.inl ⟨_, rfl⟩) hlocks hW hS dX9_wordOf_44
      · replace hE := ite_f q1 hE
        refine s_aload_n hx hb dX9_wordOf_16 rfl (lv_at hl 1 rfl) ?_
        refine lv_iload hx hb dX9_wordOf_17 (lv_at hl 3 rfl) ?_
        obtain ⟨x2, hx2, hE⟩ := bd hE
        refine s_ldR hx hb hK hW hS hx2 (by decide) rfl dX9_wordOf_19 ?_
        refine s_astore (lv' := [(5, rr G x2), (0, .long v0), (2, rr G v2), (3, .int v3), (4, .int v4)]) hx hb dX9_wordOf_20 hl (by decide) rfl (fun ls hl => ?_)
        refine s_aload hx hb dX9_wordOf_22 (lv_at hl 0 rfl) ?_
        obtain ⟨i3, hi3, hE⟩ := bd hE
        refine s_enC hx hb hT hK hS hown hi3 fl_X9_94 dX9_wordOf_24 ?_
        refine lv_lload_n hx hb dX9_wordOf_27 rfl (lv_at hl 1 rfl) ?_
        refine W.lcmp hx hb dX9_wordOf_28 ?_
        refine lv_if_ne (tgt := 35) hx hb dX9_wordOf_29 (by decide) (fun q4 => ?_) (fun q4 => ?_)
        · replace hE := ite_f q4 hE
          obtain ⟨y5, ey5⟩ : ∃ y : Int32, y = v4 + (1 : Int32) := ⟨_, rfl⟩
          replace hE := nm_o ey5 hE
          refine lv_iinc (k := 4) (v := y5) (lv' := [(4, .int y5), (5, rr G x2), (0, .long v0), (2, rr G v2), (3, .int v3)]) hx hb dX9_wordOf_35 hl rfl (by rw [ey5]; rfl) (by decide) rfl (fun ls hl => ?_)
          refine lv_goto (tgt := 10) hx hb dX9_wordOf_38 (by decide) ?_
          exact ih10 _ _ _ _ _ _ _ hE hW hS (lv_sub hl [2, 3, 4, 0] rfl)
        · replace hE := ite_t q4 hE
          refine s_aload hx hb dX9_wordOf_32 (lv_at hl 0 rfl) ?_
          obtain rfl := so1 hE
          exact s_aret hx hb hr (Or.inl ⟨_, rfl⟩) hlocks hW hS dX9_wordOf_34
  refine s_getStN hx hb hK hS hown 32 (by decide) (z32 hK) nf_X9_90 dX9_wordOf_0 ?_
  refine s_astore_n (i := 2) (lv' := [(2, rr G (some 32)), (0, .long u0)]) hx hb dX9_wordOf_3 rfl hl (by decide) rfl (fun ls hl => ?_)
  refine s_aload_n hx hb dX9_wordOf_4 rfl (lv_at hl 0 rfl) ?_
  obtain ⟨x6, hx6, hE⟩ := bd hE
  refine s_alen hx hb hK hW hS hx6 dX9_wordOf_5 ?_
  refine lv_istore_n (i := 3) (lv' := [(3, .int x6), (2, rr G (some 32)), (0, .long u0)]) hx hb dX9_wordOf_6 rfl hl (by decide) (by simp [cat_rr]) (fun ls hl => ?_)
  refine lv_iconst (v := (0 : Int32)) hx hb dX9_wordOf_7 (by decide) ?_
  refine lv_istore (lv' := [(4, .int (0 : Int32)), (3, .int x6), (2, rr G (some 32)), (0, .long u0)]) hx hb dX9_wordOf_8 hl (by decide) rfl (fun ls hl => ?_)
  exact hC10 F _ _ _ _ _ _ _ hE hW hS (lv_sub hl [3, 2, 1, 0] rfl)
set_option maxHeartbeats 4000000 in
set_option maxRecDepth 100000 in
theorem S_X9_readRun (l : Launch) (G : GG) (F : Nat) {u0 : Option Nat} {f : Hp} {f' : Hp} {n : Nat} (hE : m_X9_readRun F u0 f = some f') : Ctr l G yX9_readRun cX9_readRun 4 none 1 25 [rr G u0] f n none f' n 0 0 := by
  refine Met.ofW (cc := cX9_readRun) (maxL := 4) (ret := none) (by decide) rfl ?_
  intro p e s m args below meth c s₁ B hml hv
  obtain ⟨rfl, hK, hW⟩ := hv
  have hx := B.exec
  have hb := B.bytes
  have hr := B.returns
  have hts := atoms_spec (ws := wsO yX9_readRun cX9_readRun 4 none) B.pre
  have hT : ∀ w ∈ TB, w.before [rr G u0].toArray s = true := fun w hw => hts w (List.mem_cons_of_mem _ hw)
  have hown : s.vm.findClass RX9 = some m.cls := findClass_of_methodNamed B.named
  have hlocks := B.notSynchronized
  have CF : CallFix p m c cX9_readRun 4 s [rr G u0].toArray TB RX9 := ⟨hx, hb, hml, hown, hT⟩
  have hS : va_S (WA G) s.heap s.heap [] := va_S.rf
  have hl : lv_has (lg_sl ([rr G u0]) ++ List.replicate (4 - (lg_sl ([rr G u0])).length) Slot.unset).toArray 4 [(0, rr G u0)] := by cases u0 <;> exact lv_entry _ (Nat.le_of_ble_eq_true rfl)
  rw [lg_entry_eq]
  generalize (lg_sl ([rr G u0]) ++ List.replicate (4 - (lg_sl ([rr G u0])).length) Slot.unset).toArray = ls at hl ⊢
  have hC153 : ∀ (v0 : Option Nat) (v1 : Int32) (v2 : Int32) (fa : Hp) (H : Heap) (locs : List Loc) (ls : Array Slot), m_X9_readRun_B153 F v0 v1 v2 fa = some f' → Wd G fa n H → va_S (WA G) s.heap H locs → lv_has ls 4 [(0, rr G v0), (1, .int v1), (2, .int v2)] → W p l e (headSpec (wsO yX9_readRun cX9_readRun 4 none) { frames := 1, cells := 0, slots := 0, locals := 25 }).room s m [rr G u0].toArray below meth c H locs 0 0 (MQ below (Qcn G none f' n) [rr G u0].toArray s 0 0 (WA G)) (F0 m 153 ls []) := by
    intro v0 v1 v2 fa H locs ls hE hW hS hl
    refine lv_iload_n hx hb dX9_readRun_153 rfl (lv_at hl 1 rfl) ?_
    refine lv_if_ne (tgt := 167) hx hb dX9_readRun_154 (by decide) (fun q35 => ?_) (fun q35 => ?_)
    · replace hE := ite_f q35 hE
      obtain rfl := so1 hE
      exact s_vret hx hb hr hlocks hW hS dX9_readRun_167
    · replace hE := ite_t q35 hE
      refine lv_iload_n hx hb dX9_readRun_157 rfl (lv_at hl 2 rfl) ?_
      refine lv_iconst (v := (2 : Int32)) hx hb dX9_readRun_158 (by decide) ?_
      refine lv_icmp_gt (tgt := 167) hx hb dX9_readRun_159 (by decide) (fun q36 => ?_) (fun q36 => ?_)
      · replace hE := ite_t q36 hE
        obtain rfl := so1 hE
        exact s_vret hx hb hr hlocks hW hS dX9_readRun_167
      · replace hE := ite_f q36 hE
        refine s_aload_n hx hb dX9_readRun_162 rfl (lv_at hl 0 rfl) ?_
        refine lv_iconst (v := (3 : Int32)) hx hb dX9_readRun_163 (by decide) ?_
        obtain ⟨f37, hf37, hE⟩ := bd hE
        refine s_putI hx hb hT u_X9 tyX9 tyX9_ok nmX9 hown hK hW hS hf37 rfl (by decide) fl_X9_66 rfl (Or.inl rfl) rfl dX9_readRun_164 (fun H locs hW hS => ?_)
        obtain rfl := so1 hE
        exact s_vret hx hb hr hlocks hW hS dX9_readRun_167
  have hC114 : ∀ (v0 : Option Nat) (v1 : Int32) (v2 : Int32) (v3 : Int32) (fa : Hp) (H : Heap) (locs : List Loc) (ls : Array Slot), m_X9_readRun_B114 F v0 v1 v2 v3 fa = some f' → Wd G fa n H → va_S (WA G) s.heap H locs → lv_has ls 4 [(0, rr G v0), (1, .int v1), (2, .int v2), (3, .int v3)] → W p l e (headSpec (wsO yX9_readRun cX9_readRun 4 none) { frames := 1, cells := 0, slots := 0, locals := 25 }).room s m [rr G u0].toArray below meth c H locs 0 0 (MQ below (Qcn G none f' n) [rr G u0].toArray s 0 0 (WA G)) (F0 m 114 ls []) := by
    intro v0 v1 v2 v3 fa H locs ls hE hW hS hl
    refine s_aload_n hx hb dX9_readRun_114 rfl (lv_at hl 0 rfl) ?_
    refine lv_iload_n hx hb dX9_readRun_115 rfl (lv_at hl 3 rfl) ?_
    obtain ⟨f27, hf27, hE⟩ := bd hE
    refine s_putI hx hb hT u_X9 tyX9 tyX9_ok nmX9 hown hK hW hS hf27 rfl (by decide) fl_X9_37 rfl (Or.inl rfl) rfl dX9_readRun_116 (fun H locs hW hS => ?_)
    refine s_aload_n hx hb dX9_readRun_119 rfl (lv_at hl 0 rfl) ?_
    refine lv_iconst (v := (1 : Int32)) hx hb dX9_readRun_120 (by decide) ?_
    obtain ⟨f28, hf28, hE⟩ := bd hE
    refine s_putI hx hb hT u_X9 tyX9 tyX9_ok nmX9 hown hK hW hS hf28 rfl (by decide) fl_X9_66 rfl (Or.inl rfl) rfl dX9_readRun_121 (fun H locs hW hS => ?_)
    refine lv_iload_n hx hb dX9_readRun_124 rfl (lv_at hl 2 rfl) ?_
    refine lv_if_ne (tgt := 153) hx hb dX9_readRun_125 (by decide) (fun q29 => ?_) (fun q29 => ?_)
    · replace hE := ite_f q29 hE
      exact hC153 _ _ _ _ _ _ _ hE hW hS (lv_sub hl [0, 1, 2] rfl)
    · replace hE := ite_t q29 hE
      refine lv_iload_n hx hb dX9_readRun_128 rfl (lv_at hl 1 rfl) ?_
      refine lv_bipush (v := (7 : Int32)) hx hb dX9_readRun_129 (by decide) ?_
      refine lv_icmp_gt (tgt := 153) hx hb dX9_readRun_131 (by decide) (fun q30 => ?_) (fun q30 => ?_)
      · replace hE := ite_t q30 hE
        exact hC153 _ _ _ _ _ _ _ hE hW hS (lv_sub hl [0, 1, 2] rfl)
      · replace hE := ite_f q30 hE
        refine s_aload_n hx hb dX9_readRun_134 rfl (lv_at hl 0 rfl) ?_
        refine lv_iconst (v := (2 : Int32)) hx hb dX9_readRun_135 (by decide) ?_
        obtain ⟨f31, hf31, hE⟩ := bd hE
        refine s_putI hx hb hT u_X9 tyX9 tyX9_ok nmX9 hown hK hW hS hf31 rfl (by decide) fl_X9_66 rfl (Or.inl rfl) rfl dX9_readRun_136 (fun H locs hW hS => ?_)
        refine s_aload_n hx hb dX9_readRun_139 rfl (lv_at hl 0 rfl) ?_
        refine s_aload_n hx hb dX9_readRun_140 rfl (lv_at hl 0 rfl) ?_
        obtain ⟨x32, hx32, hE⟩ := bd hE
        refine s_gJ hx hb hT u_X9 hown hK hW hx32 rfl (by decide) fl_X9_56 rfl dX9_readRun_141 ?_
        obtain ⟨x33, hx33, hE⟩ := bd hE
        refine s_callS (As := [.long x32]) (rest := [rr G v0]) CF hK hW hS (S_X9_wordOf l G F hx33) gs_X9_86 hd_X9_wordOf.2 ⟨Nat.le_of_ble_eq_true rfl, Nat.le_of_ble_eq_true rfl⟩ rfl hl.1 rfl (Nat.le_of_ble_eq_true rfl) dX9_readRun_144 ⟨Nat.le_refl _, Nat.le_refl _⟩ (fun H locs hW hS => ?_)
        obtain ⟨f34, hf34, hE⟩ := bd hE
        refine s_putR hx hb hT u_X9 tyX9 tyX9_ok nmX9 hown hK hW hS hf34 rfl (by decide) fl_X9_15 rfl (Or.inl rfl) rfl fit_o dX9_readRun_147 (fun H locs hW hS => ?_)
        refine lv_goto (tgt := 167) hx hb dX9_readRun_150 (by decide) ?_
        obtain rfl := so1 hE
        exact s_vret hx hb hr hlocks hW hS dX9_readRun_167
  have hC9 : ∀ (k9 : Nat), ∀ (v0 : Option Nat) (v1 : Int32) (v2 : Int32) (v3 : Int32) (fa : Hp) (H : Heap) (locs : List Loc) (ls : Array Slot), m_X9_readRun_L9 F k9 v0 v1 v2 v3 fa = some f' → Wd G fa n H → va_S (WA G) s.heap H locs → lv_has ls 4 [(0, rr G v0), (1, .int v1), (2, .int v2), (3, .int v3)] → W p l e (headSpec (wsO yX9_readRun cX9_readRun 4 none) { frames := 1, cells := 0, slots := 0, locals := 25 }).room s m [rr G u0].toArray below meth c H locs 0 0 (MQ below (Qcn G none f' n) [rr G u0].toArray s 0 0 (WA G)) (F0 m 9 ls []) := by
    intro k9
    induction k9 with
    | zero => intro v0 v1 v2 v3 fa H locs ls hE _ _ _; cases (show (none : Option Hp) = some f' from hE)
    | succ k9 ih9 =>
      have hC41 : ∀ (v0 : Option Nat) (v1 : Int32) (v2 : Int32) (v3 : Int32) (fa : Hp) (H : Heap) (locs : List Loc) (ls : Array Slot), m_X9_readRun_B41 F (m_X9_readRun_L9 F k9) v0 v1 v2 v3 fa = some f' → Wd G fa n H → va_S (WA G) s.heap H locs → lv_has ls 4 [(0, rr G v0), (1, .int v1), (2, .int v2), (3, .int v3)] → W p l e (headSpec (wsO yX9_readRun cX9_readRun 4 none) { frames := 1, cells := 0, slots := 0, locals := 25 }).room s m [rr G u0].toArray below meth c H locs 0 0 (MQ below (Qcn G none f' n) [rr G u0].toArray s 0 0 (WA G)) (F0 m 41 ls []) := by
        intro v0 v1 v2 v3 fa H locs ls hE hW hS hl
        refine s_aload_n hx hb dX9_readRun_41 rfl (lv_at hl 0 rfl) ?_
        obtain ⟨x11, hx11, hE⟩ := bd hE
        refine s_gR hx hb hT u_X9 hown hK hW hx11 rfl (by decide) fl_X9_20 rfl dX9_readRun_42 ?_
        refine lv_iload_n hx hb dX9_readRun_45 rfl (lv_at hl 3 rfl) ?_
        obtain ⟨x12, hx12, hE⟩ := bd hE
        refine s_ldB hx hb hK hW hS hx12 dX9_readRun_46 ?_
        obtain ⟨x13, hx13, hE⟩ := bd hE
        refine s_callS (As := [.int x12]) (rest := []) CF hK hW hS (S_X9_isLetter l G F hx13) gs_X9_69 hd_X9_isLetter.2 ⟨Nat.le_of_ble_eq_true rfl, Nat.le_of_ble_eq_true rfl⟩ rfl hl.1 rfl (Nat.le_of_ble_eq_true rfl) dX9_readRun_47 ⟨Nat.le_refl _, Nat.le_refl _⟩ (fun H locs hW hS => ?_)
        refine lv_if_eq (tgt := 84) hx hb dX9_readRun_50 (by decide) (fun q14 => ?_) (fun q14 => ?_)
        · replace hE := ite_t q14 hE
          obtain ⟨y15, ey15⟩ : ∃ y : Int32, y = v2 + (1 : Int32) := ⟨_, rfl⟩
          replace hE := nm_o ey15 hE
          refine lv_iinc (k := 2) (v := y15) (lv' := [(2, .int y15), (0, rr G v0), (1, .int v1), (3, .int v3)]) hx hb dX9_readRun_84 hl rfl (by rw [ey15]; rfl) (by decide) rfl (fun ls hl => ?_)
          refine s_aload_n hx hb dX9_readRun_87 rfl (lv_at hl 1 rfl) ?_
          refine s_aload_n hx hb dX9_readRun_88 rfl (lv_at hl 1 rfl) ?_
          obtain ⟨x16, hx16, hE⟩ := bd hE
          refine s_gI hx hb hT u_X9 hown hK hW hx16 rfl (by decide) fl_X9_60 rfl dX9_readRun_89 ?_
          refine lv_bipush (v := (10 : Int32)) hx hb dX9_readRun_92 (by decide) ?_
          refine lv_imul hx hb dX9_readRun_94 ?_
          refine s_aload_n hx hb dX9_readRun_95 rfl (lv_at hl 1 rfl) ?_
          obtain ⟨x17, hx17, hE⟩ := bd hE
          refine s_gR hx hb hT u_X9 hown hK hW hx17 rfl (by decide) fl_X9_20 rfl dX9_readRun_96 ?_
          refine lv_iload_n hx hb dX9_readRun_99 rfl (lv_at hl 3 rfl) ?_
          obtain ⟨x18, hx18, hE⟩ := bd hE
          refine s_ldB hx hb hK hW hS hx18 dX9_readRun_100 ?_
          refine lv_bipush (v := (48 : Int32)) hx hb dX9_readRun_101 (by decide) ?_
          refine lv_isub hx hb dX9_readRun_103 ?_
          refine lv_iadd hx hb dX9_readRun_104 ?_
          obtain ⟨f19, hf19, hE⟩ := bd hE
          refine s_putI hx hb hT u_X9 tyX9 tyX9_ok nmX9 hown hK hW hS hf19 rfl (by decide) fl_X9_60 rfl (Or.inl rfl) rfl dX9_readRun_105 (fun H locs hW hS => ?_)
          obtain ⟨y20, ey20⟩ : ∃ y : Int32, y = v3 + (1 : Int32) := ⟨_, rfl⟩
          replace hE := nm_o ey20 hE
          refine lv_iinc (k := 3) (v := y20) (lv' := [(3, .int y20), (2, .int y15), (0, rr G v0), (1, .int v1)]) hx hb dX9_readRun_108 hl rfl (by rw [ey20]; rfl) (by decide) rfl (fun ls hl => ?_)
          refine lv_goto (tgt := 9) hx hb dX9_readRun_111 (by decide) ?_
          exact ih9 _ _ _ _ _ _ _ _ hE hW hS (lv_sub hl [2, 3, 1, 0] rfl)
        · replace hE := ite_f q14 hE
          obtain ⟨y21, ey21⟩ : ∃ y : Int32, y = v1 + (1 : Int32) := ⟨_, rfl⟩
          replace hE := nm_o ey21 hE
          refine lv_iinc (k := 1) (v := y21) (lv' := [(1, .int y21), (0, rr G v0), (2, .int v2), (3, .int v3)]) hx hb dX9_readRun_53 hl rfl (by rw [ey21]; rfl) (by decide) (by simp [cat_rr]) (fun ls hl => ?_)
          refine s_aload_n hx hb dX9_readRun_56 rfl (lv_at hl 1 rfl) ?_
          refine s_aload_n hx hb dX9_readRun_57 rfl (lv_at hl 1 rfl) ?_
          obtain ⟨x22, hx22, hE⟩ := bd hE
          refine s_gJ hx hb hT u_X9 hown hK hW hx22 rfl (by decide) fl_X9_56 rfl dX9_readRun_58 ?_
          refine lv_ldc2 (v := (32 : Int64)) hx hb hown (hT _ kc_X9_84) dX9_readRun_61 ?_
          refine lv_lmul hx hb dX9_readRun_64 ?_
          refine s_aload_n hx hb dX9_readRun_65 rfl (lv_at hl 1 rfl) ?_
          obtain ⟨x23, hx23, hE⟩ := bd hE
          refine s_gR hx hb hT u_X9 hown hK hW hx23 rfl (by decide) fl_X9_20 rfl dX9_readRun_66 ?_
          refine lv_iload_n hx hb dX9_readRun_69 rfl (lv_at hl 3 rfl) ?_
          obtain ⟨x24, hx24, hE⟩ := bd hE
          refine s_ldB hx hb hK hW hS hx24 dX9_readRun_70 ?_
          refine lv_bipush (v := (97 : Int32)) hx hb dX9_readRun_71 (by decide) ?_
          refine lv_isub hx hb dX9_readRun_73 ?_
          refine lv_iconst (v := (1 : Int32)) hx hb dX9_readRun_74 (by decide) ?_
          refine lv_iadd hx hb dX9_readRun_75 ?_
          refine lv_i2l (v := (Int32.toInt64 ((x24 - (97 : Int32)) + (1 : Int32)))) hx hb dX9_readRun_76 rfl ?_
          refine lv_ladd hx hb dX9_readRun_77 ?_
          obtain ⟨f25, hf25, hE⟩ := bd hE
          refine s_putJ hx hb hT u_X9 tyX9 tyX9_ok nmX9 hown hK hW hS hf25 rfl (by decide) fl_X9_56 rfl (Or.inl rfl) rfl dX9_readRun_78 (fun H locs hW hS => ?_)
          refine lv_goto (tgt := 108) hx hb dX9_readRun_81 (by decide) ?_
          obtain ⟨y26, ey26⟩ : ∃ y : Int32, y = v3 + (1 : Int32) := ⟨_, rfl⟩
          replace hE := nm_o ey26 hE
          refine lv_iinc (k := 3) (v := y26) (lv' := [(3, .int y26), (1, .int y21), (0, rr G v0), (2, .int v2)]) hx hb dX9_readRun_108 hl rfl (by rw [ey26]; rfl) (by decide) rfl (fun ls hl => ?_)
          refine lv_goto (tgt := 9) hx hb dX9_readRun_111 (by decide) ?_
          exact ih9 _ _ _ _ _ _ _ _ hE hW hS (lv_sub hl [2, 1, 3, 0] rfl)
      intro v0 v1 v2 v3 fa H locs ls hE hW hS hl
      replace hE : m_X9_readRun_b9 F (m_X9_readRun_L9 F k9) v0 v1 v2 v3 fa = some f' := hE
      refine lv_iload_n hx hb dX9_readRun_9 rfl (lv_at hl 3 rfl) ?_
      refine s_aload_n hx hb dX9_readRun_10 rfl (lv_at hl 0 rfl) ?_
      obtain ⟨x1, hx1, hE⟩ := bd hE
      refine s_gI hx hb hT u_X9 hown hK hW hx1 rfl (by decide) fl_X9_30 rfl dX9_readRun_11 ?_
      refine lv_icmp_ge (tgt := 114) hx hb dX9_readRun_14 (by decide) (fun q2 => ?_) (fun q2 => ?_)
      · replace hE := ite_t q2 hE
        exact hC114 _ _ _ _ _ _ _ _ hE hW hS (lv_sub hl [0, 1, 2, 3] rfl)
      · replace hE := ite_f q2 hE
        refine s_aload_n hx hb dX9_readRun_17 rfl (lv_at hl 0 rfl) ?_
        obtain ⟨x3, hx3, hE⟩ := bd hE
        refine s_gR hx hb hT u_X9 hown hK hW hx3 rfl (by decide) fl_X9_20 rfl dX9_readRun_18 ?_
        refine lv_iload_n hx hb dX9_readRun_21 rfl (lv_at hl 3 rfl) ?_
        obtain ⟨x4, hx4, hE⟩ := bd hE
        refine s_ldB hx hb hK hW hS hx4 dX9_readRun_22 ?_
        obtain ⟨x5, hx5, hE⟩ := bd hE
        refine s_callS (As := [.int x4]) (rest := []) CF hK hW hS (S_X9_isLetter l G F hx5) gs_X9_69 hd_X9_isLetter.2 ⟨Nat.le_of_ble_eq_true rfl, Nat.le_of_ble_eq_true rfl⟩ rfl hl.1 rfl (Nat.le_of_ble_eq_true rfl) dX9_readRun_23 ⟨Nat.le_refl _, Nat.le_refl _⟩ (fun H locs hW hS => ?_)
        refine lv_if_ne (tgt := 41) hx hb dX9_readRun_26 (by decide) (fun q6 => ?_) (fun q6 => ?_)
        · replace hE := ite_f q6 hE
          exact hC41 _ _ _ _ _ _ _ _ hE hW hS (lv_sub hl [0, 1, 2, 3] rfl)
        · replace hE := ite_t q6 hE
          refine s_aload_n hx hb dX9_readRun_29 rfl (lv_at hl 0 rfl) ?_
          obtain ⟨x7, hx7, hE⟩ := bd hE
          refine s_gR hx hb hT u_X9 hown hK hW hx7 rfl (by decide) fl_X9_20 rfl dX9_readRun_30 ?_
          refine lv_iload_n hx hb dX9_readRun_33 rfl (lv_at hl 3 rfl) ?_
          obtain ⟨x8, hx8, hE⟩ := bd hE
          refine s_ldB hx hb hK hW hS hx8 dX9_readRun_34 ?_
          obtain ⟨x9, hx9, hE⟩ := bd hE
          refine s_callS (As := [.int x8]) (rest := []) CF hK hW hS (S_X9_isDigit l G F hx9) gs_X9_72 hd_X9_isDigit.2 ⟨Nat.le_of_ble_eq_true rfl, Nat.le_of_ble_eq_true rfl⟩ rfl hl.1 rfl (Nat.le_of_ble_eq_true rfl) dX9_readRun_35 ⟨Nat.le_refl _, Nat.le_refl _⟩ (fun H locs hW hS => ?_)
          refine lv_if_eq (tgt := 114) hx hb dX9_readRun_38 (by decide) (fun q10 => ?_) (fun q10 => ?_)
          · replace hE := ite_t q10 hE
            exact hC114 _ _ _ _ _ _ _ _ hE hW hS (lv_sub hl [0, 1, 2, 3] rfl)
          · replace hE := ite_f q10 hE
            exact hC41 _ _ _ _ _ _ _ _ hE hW hS (lv_sub hl [0, 1, 2, 3] rfl)
  refine lv_iconst (v := (0 : Int32)) hx hb dX9_readRun_0 (by decide) ?_
  refine lv_istore_n (i := 1) (lv' := [(1, .int (0 : Int32)), (0, rr G u0)]) hx hb dX9_readRun_1 rfl hl (by decide) (by simp [cat_rr]) (fun ls hl => ?_)
  refine lv_iconst (v := (0 : Int32)) hx hb dX9_readRun_2 (by decide) ?_
  refine lv_istore_n (i := 2) (lv' := [(2, .int (0 : Int32)), (1, .int (0 : Int32)), (0, rr G u0)]) hx hb dX9_readRun_3 rfl hl (by decide) rfl (fun ls hl => ?_)
  refine s_aload_n hx hb dX9_readRun_4 rfl (lv_at hl 2 rfl) ?_
  obtain ⟨x38, hx38, hE⟩ := bd hE
  refine s_gI hx hb hT u_X9 hown hK hW hx38 rfl (by decide) fl_X9_63 rfl dX9_readRun_5 ?_
  refine lv_istore_n (i := 3) (lv' := [(3, .int x38), (2, .int (0 : Int32)), (1, .int (0 : Int32)), (0, rr G u0)]) hx hb dX9_readRun_8 rfl hl (by decide) rfl (fun ls hl => ?_)
  exact hC9 F _ _ _ _ _ _ _ _ hE hW hS (lv_sub hl [3, 2, 1, 0] rfl)
