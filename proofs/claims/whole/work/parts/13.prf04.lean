set_option maxHeartbeats 4000000 in
set_option maxRecDepth 100000 in
theorem S_X12_from (l : Launch) (G : GG) (F : Nat) {u0 : Option Nat} {u1 : Int32} {f : Hp} {r : Int32} {f' : Hp} {n : Nat} (hE : m_X12_from F u0 u1 f = some (r, f')) : Ctr l G yX12_from cX12_from 2 (some .int) 0 0 [rr G u0, .int u1] f n (some (.int r)) f' n 0 0 := by
  refine Met.ofW (cc := cX12_from) (maxL := 2) (ret := (some .int)) (by decide) rfl ?_
  intro p e s m args below meth c s₁ B hml hv
  obtain ⟨rfl, hK, hW⟩ := hv
  have hx := B.exec
  have hb := B.bytes
  have hr := B.returns
  have hts := atoms_spec (ws := wsO yX12_from cX12_from 2 (some .int)) B.pre
  have hT : ∀ w ∈ TB, w.before [rr G u0, .int u1].toArray s = true := fun w hw => hts w (List.mem_cons_of_mem _ hw)
  have hown : s.vm.findClass RX12 = some m.cls := findClass_of_methodNamed B.named
  have hlocks := B.notSynchronized
  have CF : CallFix p m c cX12_from 2 s [rr G u0, .int u1].toArray TB RX12 := ⟨hx, hb, hml, hown, hT⟩
  have hS : va_S (WA G) s.heap s.heap [] := va_S.rf
  have hl : lv_has (lg_sl ([rr G u0, .int u1]) ++ List.replicate (2 - (lg_sl ([rr G u0, .int u1])).length) Slot.unset).toArray 2 [(0, rr G u0), (1, .int u1)] := by cases u0 <;> exact lv_entry _ (Nat.le_of_ble_eq_true rfl)
  rw [lg_entry_eq]
  generalize (lg_sl ([rr G u0, .int u1]) ++ List.replicate (2 - (lg_sl ([rr G u0, .int u1])).length) Slot.unset).toArray = ls at hl ⊢
  refine s_aload_n hx hb dX12_from_0 rfl (lv_at hl 0 rfl) ?_
  refine lv_iconst (v := (0 : Int32)) hx hb dX12_from_1 (by decide) ?_
  obtain ⟨f1, hf1, hE⟩ := bd hE
  refine s_putI hx hb hT u_X12 tyX12 tyX12_ok nmX12 hown hK hW hS hf1 rfl (by decide) fl_X12_81 rfl (Or.inl rfl) rfl dX12_from_2 (fun H locs hW hS => ?_)
  refine lv_iload_n hx hb dX12_from_5 rfl (lv_at hl 1 rfl) ?_
  refine lv_if_lt (tgt := 26) hx hb dX12_from_6 (by decide) (fun q2 => ?_) (fun q2 => ?_)
  · replace hE := ite_t q2 hE
    refine lv_iconst (v := (-1 : Int32)) hx hb dX12_from_26 (by decide) ?_
    obtain ⟨rfl, rfl⟩ := so2 hE
    exact s_iret hx hb hr hlocks hW hS dX12_from_27
  · replace hE := ite_f q2 hE
    refine lv_iload_n hx hb dX12_from_9 rfl (lv_at hl 1 rfl) ?_
    refine s_aload_n hx hb dX12_from_10 rfl (lv_at hl 0 rfl) ?_
    obtain ⟨x3, hx3, hE⟩ := bd hE
    refine s_gI hx hb hT u_X12 hown hK hW hx3 rfl (by decide) fl_X12_307 rfl dX12_from_11 ?_
    refine lv_icmp_ge (tgt := 26) hx hb dX12_from_14 (by decide) (fun q4 => ?_) (fun q4 => ?_)
    · replace hE := ite_t q4 hE
      refine lv_iconst (v := (-1 : Int32)) hx hb dX12_from_26 (by decide) ?_
      obtain ⟨rfl, rfl⟩ := so2 hE
      exact s_iret hx hb hr hlocks hW hS dX12_from_27
    · replace hE := ite_f q4 hE
      refine s_aload_n hx hb dX12_from_17 rfl (lv_at hl 0 rfl) ?_
      obtain ⟨x5, hx5, hE⟩ := bd hE
      refine s_gR hx hb hT u_X12 hown hK hW hx5 rfl (by decide) fl_X12_60 rfl dX12_from_18 ?_
      refine lv_iload_n hx hb dX12_from_21 rfl (lv_at hl 1 rfl) ?_
      obtain ⟨x6, hx6, hE⟩ := bd hE
      refine s_ldI hx hb hK hW hS hx6 dX12_from_22 ?_
      refine lv_goto (tgt := 27) hx hb dX12_from_23 (by decide) ?_
      obtain ⟨rfl, rfl⟩ := so2 hE
      exact s_iret hx hb hr hlocks hW hS dX12_from_27
set_option maxHeartbeats 4000000 in
set_option maxRecDepth 100000 in
theorem S_X12_hasSense (l : Launch) (G : GG) (F : Nat) {u0 : Option Nat} {u1 : Option Nat} {f : Hp} {r : Int32} {n : Nat} (hE : m_X12_hasSense F u0 u1 f = some r) : Ctr l G yX12_hasSense cX12_hasSense 5 (some .boolean) 0 0 [rr G u0, rr G u1] f n (some (.int r)) f n 0 0 := by
  refine Met.ofW (cc := cX12_hasSense) (maxL := 5) (ret := (some .boolean)) (by decide) rfl ?_
  intro p e s m args below meth c s₁ B hml hv
  obtain ⟨rfl, hK, hW⟩ := hv
  have hx := B.exec
  have hb := B.bytes
  have hr := B.returns
  have hts := atoms_spec (ws := wsO yX12_hasSense cX12_hasSense 5 (some .boolean)) B.pre
  have hT : ∀ w ∈ TB, w.before [rr G u0, rr G u1].toArray s = true := fun w hw => hts w (List.mem_cons_of_mem _ hw)
  have hown : s.vm.findClass RX12 = some m.cls := findClass_of_methodNamed B.named
  have hlocks := B.notSynchronized
  have CF : CallFix p m c cX12_hasSense 5 s [rr G u0, rr G u1].toArray TB RX12 := ⟨hx, hb, hml, hown, hT⟩
  have hS : va_S (WA G) s.heap s.heap [] := va_S.rf
  have hl : lv_has (lg_sl ([rr G u0, rr G u1]) ++ List.replicate (5 - (lg_sl ([rr G u0, rr G u1])).length) Slot.unset).toArray 5 [(0, rr G u0), (1, rr G u1)] := by cases u0 <;> cases u1 <;> exact lv_entry _ (Nat.le_of_ble_eq_true rfl)
  rw [lg_entry_eq]
  generalize (lg_sl ([rr G u0, rr G u1]) ++ List.replicate (5 - (lg_sl ([rr G u0, rr G u1])).length) Slot.unset).toArray = ls at hl ⊢
  have hC2 : ∀ (k2 : Nat), ∀ (v0 : Option Nat) (v1 : Option Nat) (v2 : Int32) (H : Heap) (locs : List Loc) (ls : Array Slot), m_X12_hasSense_L2 F k2 v0 v1 v2 f = some r → Wd G f n H → va_S (WA G) s.heap H locs → lv_has ls 5 [(0, rr G v0), (1, rr G v1), (2, .int v2)] → W p l e (headSpec (wsO yX12_hasSense cX12_hasSense 5 (some .boolean)) { frames := 0, cells := 0, slots := 0, locals := 0 }).room s m [rr G u0, rr G u1].toArray below meth c H locs 0 0 (MQ below (Qcn G (some (.int r)) f n) [rr G u0, rr G u1].toArray s 0 0 (WA G)) (F0 m 2 ls []) := by
    intro k2
    induction k2 with
    | zero => intro v0 v1 v2 H locs ls hE _ _ _; cases (show (none : Option Int32) = some r from hE)
    | succ k2 ih2 =>
      intro v0 v1 v2 H locs ls hE hW hS hl
      replace hE : m_X12_hasSense_b2 F (m_X12_hasSense_L2 F k2) v0 v1 v2 f = some r := hE
      refine lv_iload_n hx hb dX12_hasSense_2 rfl (lv_at hl 2 rfl) ?_
      refine s_aload_n hx hb dX12_hasSense_3 rfl (lv_at hl 0 rfl) ?_
      obtain ⟨x1, hx1, hE⟩ := bd hE
      refine s_gR hx hb hT u_X12 hown hK hW hx1 rfl (by decide) fl_X12_13 rfl dX12_hasSense_4 ?_
      refine lv_iconst (v := (3 : Int32)) hx hb dX12_hasSense_7 (by decide) ?_
      obtain ⟨x2, hx2, hE⟩ := bd hE
      refine s_ldI hx hb hK hW hS hx2 dX12_hasSense_8 ?_
      refine lv_icmp_ge (tgt := 68) hx hb dX12_hasSense_9 (by decide) (fun q3 => ?_) (fun q3 => ?_)
      · replace hE := ite_t q3 hE
        refine lv_iconst (v := (1 : Int32)) hx hb dX12_hasSense_68 (by decide) ?_
        obtain ⟨c4, hE⟩ := ck hE
        obtain rfl := so1 hE
        exact s_zret hx hb hr c4 hlocks hW hS dX12_hasSense_69
      · replace hE := ite_f q3 hE
        refine s_aload_n hx hb dX12_hasSense_12 rfl (lv_at hl 1 rfl) ?_
        refine s_aload_n hx hb dX12_hasSense_13 rfl (lv_at hl 0 rfl) ?_
        obtain ⟨x5, hx5, hE⟩ := bd hE
        refine s_gR hx hb hT u_X12 hown hK hW hx5 rfl (by decide) fl_X12_13 rfl dX12_hasSense_14 ?_
        refine lv_bipush (v := (110 : Int32)) hx hb dX12_hasSense_17 (by decide) ?_
        refine lv_iconst (v := (2 : Int32)) hx hb dX12_hasSense_19 (by decide) ?_
        refine lv_iload_n hx hb dX12_hasSense_20 rfl (lv_at hl 2 rfl) ?_
        refine lv_imul hx hb dX12_hasSense_21 ?_
        refine lv_iadd hx hb dX12_hasSense_22 ?_
        obtain ⟨x6, hx6, hE⟩ := bd hE
        refine s_ldI hx hb hK hW hS hx6 dX12_hasSense_23 ?_
        obtain ⟨x7, hx7, hE⟩ := bd hE
        refine s_ldI hx hb hK hW hS hx7 dX12_hasSense_24 ?_
        refine lv_istore_n (i := 3) (lv' := [(3, .int x7), (0, rr G v0), (1, rr G v1), (2, .int v2)]) hx hb dX12_hasSense_25 rfl hl (by decide) rfl (fun ls hl => ?_)
        refine s_aload_n hx hb dX12_hasSense_26 rfl (lv_at hl 2 rfl) ?_
        refine s_aload_n hx hb dX12_hasSense_27 rfl (lv_at hl 1 rfl) ?_
        obtain ⟨x8, hx8, hE⟩ := bd hE
        refine s_gR hx hb hT u_X12 hown hK hW hx8 rfl (by decide) fl_X12_13 rfl dX12_hasSense_28 ?_
        refine lv_bipush (v := (110 : Int32)) hx hb dX12_hasSense_31 (by decide) ?_
        refine lv_iconst (v := (2 : Int32)) hx hb dX12_hasSense_33 (by decide) ?_
        refine lv_iload_n hx hb dX12_hasSense_34 rfl (lv_at hl 3 rfl) ?_
        refine lv_imul hx hb dX12_hasSense_35 ?_
        refine lv_iadd hx hb dX12_hasSense_36 ?_
        refine lv_iconst (v := (1 : Int32)) hx hb dX12_hasSense_37 (by decide) ?_
        refine lv_iadd hx hb dX12_hasSense_38 ?_
        obtain ⟨x9, hx9, hE⟩ := bd hE
        refine s_ldI hx hb hK hW hS hx9 dX12_hasSense_39 ?_
        obtain ⟨x10, hx10, hE⟩ := bd hE
        refine s_ldI hx hb hK hW hS hx10 dX12_hasSense_40 ?_
        refine lv_istore (lv' := [(4, .int x10), (3, .int x7), (0, rr G v0), (1, rr G v1), (2, .int v2)]) hx hb dX12_hasSense_41 hl (by decide) rfl (fun ls hl => ?_)
        refine lv_iload_n hx hb dX12_hasSense_43 rfl (lv_at hl 1 rfl) ?_
        refine lv_iconst (v := (-1 : Int32)) hx hb dX12_hasSense_44 (by decide) ?_
        refine lv_icmp_eq (tgt := 62) hx hb dX12_hasSense_45 (by decide) (fun q11 => ?_) (fun q11 => ?_)
        · replace hE := ite_t q11 hE
          obtain ⟨y12, ey12⟩ : ∃ y : Int32, y = v2 + (1 : Int32) := ⟨_, rfl⟩
          replace hE := nm_o ey12 hE
          refine lv_iinc (k := 4) (v := y12) (lv' := [(2, .int y12), (4, .int x10), (3, .int x7), (0, rr G v0), (1, rr G v1)]) hx hb dX12_hasSense_62 hl rfl (by rw [ey12]; rfl) (by decide) (by simp [cat_rr]) (fun ls hl => ?_)
          refine lv_goto (tgt := 2) hx hb dX12_hasSense_65 (by decide) ?_
          exact ih2 _ _ _ _ _ _ hE hW hS (lv_sub hl [3, 4, 0] rfl)
        · replace hE := ite_f q11 hE
          refine lv_iload hx hb dX12_hasSense_48 (lv_at hl 0 rfl) ?_
          refine lv_iconst (v := (-1 : Int32)) hx hb dX12_hasSense_50 (by decide) ?_
          refine lv_icmp_eq (tgt := 62) hx hb dX12_hasSense_51 (by decide) (fun q13 => ?_) (fun q13 => ?_)
          · replace hE := ite_t q13 hE
            obtain ⟨y14, ey14⟩ : ∃ y : Int32, y = v2 + (1 : Int32) := ⟨_, rfl⟩
            replace hE := nm_o ey14 hE
            refine lv_iinc (k := 4) (v := y14) (lv' := [(2, .int y14), (4, .int x10), (3, .int x7), (0, rr G v0), (1, rr G v1)]) hx hb dX12_hasSense_62 hl rfl (by rw [ey14]; rfl) (by decide) (by simp [cat_rr]) (fun ls hl => ?_)
            refine lv_goto (tgt := 2) hx hb dX12_hasSense_65 (by decide) ?_
            exact ih2 _ _ _ _ _ _ hE hW hS (lv_sub hl [3, 4, 0] rfl)
          · replace hE := ite_f q13 hE
            refine lv_iload_n hx hb dX12_hasSense_54 rfl (lv_at hl 1 rfl) ?_
            refine lv_iload hx hb dX12_hasSense_55 (lv_at hl 0 rfl) ?_
            refine lv_icmp_le (tgt := 62) hx hb dX12_hasSense_57 (by decide) (fun q15 => ?_) (fun q15 => ?_)
            · replace hE := ite_t q15 hE
              obtain ⟨y16, ey16⟩ : ∃ y : Int32, y = v2 + (1 : Int32) := ⟨_, rfl⟩
              replace hE := nm_o ey16 hE
              refine lv_iinc (k := 4) (v := y16) (lv' := [(2, .int y16), (4, .int x10), (3, .int x7), (0, rr G v0), (1, rr G v1)]) hx hb dX12_hasSense_62 hl rfl (by rw [ey16]; rfl) (by decide) (by simp [cat_rr]) (fun ls hl => ?_)
              refine lv_goto (tgt := 2) hx hb dX12_hasSense_65 (by decide) ?_
              exact ih2 _ _ _ _ _ _ hE hW hS (lv_sub hl [3, 4, 0] rfl)
            · replace hE := ite_f q15 hE
              refine lv_iconst (v := (0 : Int32)) hx hb dX12_hasSense_60 (by decide) ?_
              obtain ⟨c17, hE⟩ := ck hE
              obtain rfl := so1 hE
              exact s_zret hx hb hr c17 hlocks hW hS dX12_hasSense_61
  refine lv_iconst (v := (0 : Int32)) hx hb dX12_hasSense_0 (by decide) ?_
  refine lv_istore_n (i := 2) (lv' := [(2, .int (0 : Int32)), (0, rr G u0), (1, rr G u1)]) hx hb dX12_hasSense_1 rfl hl (by decide) (by simp [cat_rr]) (fun ls hl => ?_)
  exact hC2 F _ _ _ _ _ _ hE hW hS (lv_sub hl [1, 2, 0] rfl)
set_option maxHeartbeats 4000000 in
set_option maxRecDepth 100000 in
theorem S_X12_nearestLike (l : Launch) (G : GG) (F : Nat) {u0 : Option Nat} {f : Hp} {r : Int32} {f' : Hp} {n : Nat} (hE : m_X12_nearestLike F u0 f = some (r, f')) : Ctr l G yX12_nearestLike cX12_nearestLike 5 (some .int) 4 92 [rr G u0] f n (some (.int r)) f' n 0 0 := by
  refine Met.ofW (cc := cX12_nearestLike) (maxL := 5) (ret := (some .int)) (by decide) rfl ?_
  intro p e s m args below meth c s₁ B hml hv
  obtain ⟨rfl, hK, hW⟩ := hv
  have hx := B.exec
  have hb := B.bytes
  have hr := B.returns
  have hts := atoms_spec (ws := wsO yX12_nearestLike cX12_nearestLike 5 (some .int)) B.pre
  have hT : ∀ w ∈ TB, w.before [rr G u0].toArray s = true := fun w hw => hts w (List.mem_cons_of_mem _ hw)
  have hown : s.vm.findClass RX12 = some m.cls := findClass_of_methodNamed B.named
  have hlocks := B.notSynchronized
  have CF : CallFix p m c cX12_nearestLike 5 s [rr G u0].toArray TB RX12 := ⟨hx, hb, hml, hown, hT⟩
  have hS : va_S (WA G) s.heap s.heap [] := va_S.rf
  have hl : lv_has (lg_sl ([rr G u0]) ++ List.replicate (5 - (lg_sl ([rr G u0])).length) Slot.unset).toArray 5 [(0, rr G u0)] := by cases u0 <;> exact lv_entry _ (Nat.le_of_ble_eq_true rfl)
  rw [lg_entry_eq]
  generalize (lg_sl ([rr G u0]) ++ List.replicate (5 - (lg_sl ([rr G u0])).length) Slot.unset).toArray = ls at hl ⊢
  have hC14 : ∀ (k14 : Nat), ∀ (v0 : Option Nat) (v1 : Int32) (v2 : Int32) (fa : Hp) (H : Heap) (locs : List Loc) (ls : Array Slot), m_X12_nearestLike_L14 F k14 v0 v1 v2 fa = some (r, f') → Wd G fa n H → va_S (WA G) s.heap H locs → lv_has ls 5 [(0, rr G v0), (1, .int v1), (2, .int v2)] → W p l e (headSpec (wsO yX12_nearestLike cX12_nearestLike 5 (some .int)) { frames := 4, cells := 0, slots := 0, locals := 92 }).room s m [rr G u0].toArray below meth c H locs 0 0 (MQ below (Qcn G (some (.int r)) f' n) [rr G u0].toArray s 0 0 (WA G)) (F0 m 14 ls []) := by
    intro k14
    induction k14 with
    | zero => intro v0 v1 v2 fa H locs ls hE _ _ _; cases (show (none : Option ((Int32) × Hp)) = some (r, f') from hE)
    | succ k14 ih14 =>
      have hC83 : ∀ (v0 : Option Nat) (v1 : Int32) (v2 : Int32) (v3 : Int32) (fa : Hp) (H : Heap) (locs : List Loc) (ls : Array Slot), m_X12_nearestLike_B83 F (m_X12_nearestLike_L14 F k14) v0 v1 v2 v3 fa = some (r, f') → Wd G fa n H → va_S (WA G) s.heap H locs → lv_has ls 5 [(0, rr G v0), (1, .int v1), (2, .int v2), (3, .int v3)] → W p l e (headSpec (wsO yX12_nearestLike cX12_nearestLike 5 (some .int)) { frames := 4, cells := 0, slots := 0, locals := 92 }).room s m [rr G u0].toArray below meth c H locs 0 0 (MQ below (Qcn G (some (.int r)) f' n) [rr G u0].toArray s 0 0 (WA G)) (F0 m 83 ls []) := by
        intro v0 v1 v2 v3 fa H locs ls hE hW hS hl
        refine lv_iload_n hx hb dX12_nearestLike_83 rfl (lv_at hl 3 rfl) ?_
        refine lv_if_ne (tgt := 90) hx hb dX12_nearestLike_84 (by decide) (fun q20 => ?_) (fun q20 => ?_)
        · replace hE := ite_f q20 hE
          refine s_aload_n hx hb dX12_nearestLike_90 rfl (lv_at hl 0 rfl) ?_
          obtain ⟨c21, hE⟩ := ck hE
          obtain ⟨x22, hx22, hE⟩ := bd hE
          refine s_callV (As := []) (rest := []) CF hK hW hS (S_X12_steps l G F hx22) c21 rfl gv_X12_259 hd_X12_steps ⟨Nat.le_of_ble_eq_true rfl, Nat.le_of_ble_eq_true rfl⟩ rfl hl.1 rfl (Nat.le_of_ble_eq_true rfl) dX12_nearestLike_91 ⟨Nat.le_refl _, Nat.le_refl _⟩ (fun H locs hW hS => ?_)
          refine lv_istore (lv' := [(4, .int x22), (0, rr G v0), (1, .int v1), (2, .int v2), (3, .int v3)]) hx hb dX12_nearestLike_94 hl (by decide) rfl (fun ls hl => ?_)
          refine lv_iload hx hb dX12_nearestLike_96 (lv_at hl 0 rfl) ?_
          refine lv_iload_n hx hb dX12_nearestLike_98 rfl (lv_at hl 2 rfl) ?_
          refine lv_icmp_ge (tgt := 105) hx hb dX12_nearestLike_99 (by decide) (fun q23 => ?_) (fun q23 => ?_)
          · replace hE := ite_t q23 hE
            obtain ⟨y24, ey24⟩ : ∃ y : Int32, y = v2 + (1 : Int32) := ⟨_, rfl⟩
            replace hE := nm_o ey24 hE
            refine lv_iinc (k := 3) (v := y24) (lv' := [(2, .int y24), (4, .int x22), (0, rr G v0), (1, .int v1), (3, .int v3)]) hx hb dX12_nearestLike_105 hl rfl (by rw [ey24]; rfl) (by decide) rfl (fun ls hl => ?_)
            refine lv_goto (tgt := 14) hx hb dX12_nearestLike_108 (by decide) ?_
            exact ih14 _ _ _ _ _ _ _ hE hW hS (lv_sub hl [2, 3, 0] rfl)
          · replace hE := ite_f q23 hE
            refine lv_iload hx hb dX12_nearestLike_102 (lv_at hl 0 rfl) ?_
            refine lv_istore_n (i := 1) (lv' := [(1, .int x22), (4, .int x22), (0, rr G v0), (2, .int v2), (3, .int v3)]) hx hb dX12_nearestLike_104 rfl hl (by decide) (by simp [cat_rr]) (fun ls hl => ?_)
            obtain ⟨y25, ey25⟩ : ∃ y : Int32, y = v2 + (1 : Int32) := ⟨_, rfl⟩
            replace hE := nm_o ey25 hE
            refine lv_iinc (k := 3) (v := y25) (lv' := [(2, .int y25), (1, .int x22), (4, .int x22), (0, rr G v0), (3, .int v3)]) hx hb dX12_nearestLike_105 hl rfl (by rw [ey25]; rfl) (by decide) rfl (fun ls hl => ?_)
            refine lv_goto (tgt := 14) hx hb dX12_nearestLike_108 (by decide) ?_
            exact ih14 _ _ _ _ _ _ _ hE hW hS (lv_sub hl [3, 1, 0] rfl)
        · replace hE := ite_t q20 hE
          refine lv_goto (tgt := 105) hx hb dX12_nearestLike_87 (by decide) ?_
          obtain ⟨y26, ey26⟩ : ∃ y : Int32, y = v2 + (1 : Int32) := ⟨_, rfl⟩
          replace hE := nm_o ey26 hE
          refine lv_iinc (k := 2) (v := y26) (lv' := [(2, .int y26), (0, rr G v0), (1, .int v1), (3, .int v3)]) hx hb dX12_nearestLike_105 hl rfl (by rw [ey26]; rfl) (by decide) rfl (fun ls hl => ?_)
          refine lv_goto (tgt := 14) hx hb dX12_nearestLike_108 (by decide) ?_
          exact ih14 _ _ _ _ _ _ _ hE hW hS (lv_sub hl [1, 2, 0] rfl)
      have hC36 : ∀ (k36 : Nat), ∀ (v0 : Option Nat) (v1 : Int32) (v2 : Int32) (v3 : Int32) (v4 : Int32) (fa : Hp) (H : Heap) (locs : List Loc) (ls : Array Slot), m_X12_nearestLike_L36 F (m_X12_nearestLike_L14 F k14) k36 v0 v1 v2 v3 v4 fa = some (r, f') → Wd G fa n H → va_S (WA G) s.heap H locs → lv_has ls 5 [(0, rr G v0), (1, .int v1), (2, .int v2), (3, .int v3), (4, .int v4)] → W p l e (headSpec (wsO yX12_nearestLike cX12_nearestLike 5 (some .int)) { frames := 4, cells := 0, slots := 0, locals := 92 }).room s m [rr G u0].toArray below meth c H locs 0 0 (MQ below (Qcn G (some (.int r)) f' n) [rr G u0].toArray s 0 0 (WA G)) (F0 m 36 ls []) := by
        intro k36
        induction k36 with
        | zero => intro v0 v1 v2 v3 v4 fa H locs ls hE _ _ _; cases (show (none : Option ((Int32) × Hp)) = some (r, f') from hE)
        | succ k36 ih36 =>
          intro v0 v1 v2 v3 v4 fa H locs ls hE hW hS hl
          replace hE : m_X12_nearestLike_b36 F (m_X12_nearestLike_L14 F k14) (m_X12_nearestLike_L36 F (m_X12_nearestLike_L14 F k14) k36) v0 v1 v2 v3 v4 fa = some (r, f') := hE
          refine lv_iload hx hb dX12_nearestLike_36 (lv_at hl 4 rfl) ?_
          refine s_aload_n hx hb dX12_nearestLike_38 rfl (lv_at hl 0 rfl) ?_
          obtain ⟨c7, hE⟩ := ck hE
          obtain ⟨x8, hx8, hE⟩ := bd hE
          refine s_callV (As := []) (rest := [.int v4]) CF hK hW hS (S_X12_lines l G F hx8) c7 rfl gv_X12_185 hd_X12_lines ⟨Nat.le_of_ble_eq_true rfl, Nat.le_of_ble_eq_true rfl⟩ rfl hl.1 rfl (Nat.le_of_ble_eq_true rfl) dX12_nearestLike_39 ⟨Nat.le_refl _, Nat.le_refl _⟩ (fun H locs hW hS => ?_)
          refine lv_icmp_ge (tgt := 83) hx hb dX12_nearestLike_42 (by decide) (fun q9 => ?_) (fun q9 => ?_)
          · replace hE := ite_t q9 hE
            exact hC83 _ _ _ _ _ _ _ _ hE hW hS (lv_sub hl [0, 1, 2, 3] rfl)
          · replace hE := ite_f q9 hE
            refine lv_iload_n hx hb dX12_nearestLike_45 rfl (lv_at hl 3 rfl) ?_
            refine lv_if_eq (tgt := 83) hx hb dX12_nearestLike_46 (by decide) (fun q10 => ?_) (fun q10 => ?_)
            · replace hE := ite_t q10 hE
              exact hC83 _ _ _ _ _ _ _ _ hE hW hS (lv_sub hl [0, 1, 2, 3] rfl)
            · replace hE := ite_f q10 hE
              refine s_aload_n hx hb dX12_nearestLike_49 rfl (lv_at hl 0 rfl) ?_
              obtain ⟨x11, hx11, hE⟩ := bd hE
              refine s_gR hx hb hT u_X12 hown hK hW hx11 rfl (by decide) fl_X12_75 rfl dX12_nearestLike_50 ?_
              refine s_aload_n hx hb dX12_nearestLike_53 rfl (lv_at hl 0 rfl) ?_
              obtain ⟨x12, hx12, hE⟩ := bd hE
              refine s_gR hx hb hT u_X12 hown hK hW hx12 rfl (by decide) fl_X12_36 rfl dX12_nearestLike_54 ?_
              refine lv_iload hx hb dX12_nearestLike_57 (lv_at hl 4 rfl) ?_
              obtain ⟨x13, hx13, hE⟩ := bd hE
              refine s_ldI hx hb hK hW hS hx13 dX12_nearestLike_59 ?_
              obtain ⟨x14, hx14, hE⟩ := bd hE
              refine s_ldI hx hb hK hW hS hx14 dX12_nearestLike_60 ?_
              refine s_aload_n hx hb dX12_nearestLike_61 rfl (lv_at hl 0 rfl) ?_
              obtain ⟨x15, hx15, hE⟩ := bd hE
              refine s_gR hx hb hT u_X12 hown hK hW hx15 rfl (by decide) fl_X12_75 rfl dX12_nearestLike_62 ?_
              refine lv_iload hx hb dX12_nearestLike_65 (lv_at hl 4 rfl) ?_
              obtain ⟨x16, hx16, hE⟩ := bd hE
              refine s_ldI hx hb hK hW hS hx16 dX12_nearestLike_67 ?_
              refine lv_icmp_ne (tgt := 75) hx hb dX12_nearestLike_68 (by decide) (fun q17 => ?_) (fun q17 => ?_)
              · replace hE := ite_f q17 hE
                refine lv_iconst (v := (0 : Int32)) hx hb dX12_nearestLike_75 (by decide) ?_
                refine lv_istore_n (i := 3) (lv' := [(3, .int (0 : Int32)), (0, rr G v0), (1, .int v1), (2, .int v2), (4, .int v4)]) hx hb dX12_nearestLike_76 rfl hl (by decide) rfl (fun ls hl => ?_)
                obtain ⟨y18, ey18⟩ : ∃ y : Int32, y = v4 + (1 : Int32) := ⟨_, rfl⟩
                replace hE := nm_o ey18 hE
                refine lv_iinc (k := 4) (v := y18) (lv' := [(4, .int y18), (3, .int (0 : Int32)), (0, rr G v0), (1, .int v1), (2, .int v2)]) hx hb dX12_nearestLike_77 hl rfl (by rw [ey18]; rfl) (by decide) rfl (fun ls hl => ?_)
                refine lv_goto (tgt := 36) hx hb dX12_nearestLike_80 (by decide) ?_
                exact ih36 _ _ _ _ _ _ _ _ _ hE hW hS (lv_sub hl [2, 3, 4, 1, 0] rfl)
              · replace hE := ite_t q17 hE
                refine lv_iconst (v := (1 : Int32)) hx hb dX12_nearestLike_71 (by decide) ?_
                refine lv_goto (tgt := 76) hx hb dX12_nearestLike_72 (by decide) ?_
                refine lv_istore_n (i := 3) (lv' := [(3, .int (1 : Int32)), (0, rr G v0), (1, .int v1), (2, .int v2), (4, .int v4)]) hx hb dX12_nearestLike_76 rfl hl (by decide) rfl (fun ls hl => ?_)
                obtain ⟨y19, ey19⟩ : ∃ y : Int32, y = v4 + (1 : Int32) := ⟨_, rfl⟩
                replace hE := nm_o ey19 hE
                refine lv_iinc (k := 4) (v := y19) (lv' := [(4, .int y19), (3, .int (1 : Int32)), (0, rr G v0), (1, .int v1), (2, .int v2)]) hx hb dX12_nearestLike_77 hl rfl (by rw [ey19]; rfl) (by decide) rfl (fun ls hl => ?_)
                refine lv_goto (tgt := 36) hx hb dX12_nearestLike_80 (by decide) ?_
                exact ih36 _ _ _ _ _ _ _ _ _ hE hW hS (lv_sub hl [2, 3, 4, 1, 0] rfl)
      intro v0 v1 v2 fa H locs ls hE hW hS hl
      replace hE : m_X12_nearestLike_b14 F (m_X12_nearestLike_L14 F k14) v0 v1 v2 fa = some (r, f') := hE
      refine lv_iload_n hx hb dX12_nearestLike_14 rfl (lv_at hl 2 rfl) ?_
      refine s_aload_n hx hb dX12_nearestLike_15 rfl (lv_at hl 0 rfl) ?_
      obtain ⟨c1, hE⟩ := ck hE
      obtain ⟨x2, hx2, hE⟩ := bd hE
      refine s_callV (As := []) (rest := [.int v2]) CF hK hW hS (S_X12_orders l G F hx2) c1 rfl gv_X12_251 hd_X12_orders ⟨Nat.le_of_ble_eq_true rfl, Nat.le_of_ble_eq_true rfl⟩ rfl hl.1 rfl (Nat.le_of_ble_eq_true rfl) dX12_nearestLike_16 ⟨Nat.le_refl _, Nat.le_refl _⟩ (fun H locs hW hS => ?_)
      refine lv_icmp_ge (tgt := 111) hx hb dX12_nearestLike_19 (by decide) (fun q3 => ?_) (fun q3 => ?_)
      · replace hE := ite_t q3 hE
        refine lv_iload_n hx hb dX12_nearestLike_111 rfl (lv_at hl 1 rfl) ?_
        obtain ⟨rfl, rfl⟩ := so2 hE
        exact s_iret hx hb hr hlocks hW hS dX12_nearestLike_112
      · replace hE := ite_f q3 hE
        refine s_aload_n hx hb dX12_nearestLike_22 rfl (lv_at hl 0 rfl) ?_
        refine lv_iload_n hx hb dX12_nearestLike_23 rfl (lv_at hl 2 rfl) ?_
        refine s_aload_n hx hb dX12_nearestLike_24 rfl (lv_at hl 0 rfl) ?_
        obtain ⟨x4, hx4, hE⟩ := bd hE
        refine s_gR hx hb hT u_X12 hown hK hW hx4 rfl (by decide) fl_X12_45 rfl dX12_nearestLike_25 ?_
        obtain ⟨c5, hE⟩ := ck hE
        obtain ⟨f6, hf6, hE⟩ := bd hE
        refine s_callV (As := [.int v2, rr G x4]) (rest := []) CF hK hW hS (S_X12_layOrder l G F hf6) c5 rfl gv_X12_292 hd_X12_layOrder ⟨Nat.le_of_ble_eq_true rfl, Nat.le_of_ble_eq_true rfl⟩ rfl hl.1 rfl (Nat.le_of_ble_eq_true rfl) dX12_nearestLike_28 ⟨Nat.le_refl _, Nat.le_refl _⟩ (fun H locs hW hS => ?_)
        refine lv_iconst (v := (1 : Int32)) hx hb dX12_nearestLike_31 (by decide) ?_
        refine lv_istore_n (i := 3) (lv' := [(3, .int (1 : Int32)), (0, rr G v0), (1, .int v1), (2, .int v2)]) hx hb dX12_nearestLike_32 rfl hl (by decide) rfl (fun ls hl => ?_)
        refine lv_iconst (v := (0 : Int32)) hx hb dX12_nearestLike_33 (by decide) ?_
        refine lv_istore (lv' := [(4, .int (0 : Int32)), (3, .int (1 : Int32)), (0, rr G v0), (1, .int v1), (2, .int v2)]) hx hb dX12_nearestLike_34 hl (by decide) rfl (fun ls hl => ?_)
        exact hC36 F _ _ _ _ _ _ _ _ _ hE hW hS (lv_sub hl [2, 3, 4, 1, 0] rfl)
  refine lv_bipush (v := (100 : Int32)) hx hb dX12_nearestLike_0 (by decide) ?_
  refine lv_istore_n (i := 1) (lv' := [(1, .int (100 : Int32)), (0, rr G u0)]) hx hb dX12_nearestLike_2 rfl hl (by decide) (by simp [cat_rr]) (fun ls hl => ?_)
  refine s_aload_n hx hb dX12_nearestLike_3 rfl (lv_at hl 1 rfl) ?_
  refine lv_iconst (v := (0 : Int32)) hx hb dX12_nearestLike_4 (by decide) ?_
  refine s_aload_n hx hb dX12_nearestLike_5 rfl (lv_at hl 1 rfl) ?_
  obtain ⟨x27, hx27, hE⟩ := bd hE
  refine s_gR hx hb hT u_X12 hown hK hW hx27 rfl (by decide) fl_X12_42 rfl dX12_nearestLike_6 ?_
  obtain ⟨c28, hE⟩ := ck hE
  obtain ⟨f29, hf29, hE⟩ := bd hE
  refine s_callV (As := [.int (0 : Int32), rr G x27]) (rest := []) CF hK hW hS (S_X12_layOrder l G F hf29) c28 rfl gv_X12_292 hd_X12_layOrder ⟨Nat.le_of_ble_eq_true rfl, Nat.le_of_ble_eq_true rfl⟩ rfl hl.1 rfl (Nat.le_of_ble_eq_true rfl) dX12_nearestLike_9 ⟨Nat.le_refl _, Nat.le_refl _⟩ (fun H locs hW hS => ?_)
  refine lv_iconst (v := (1 : Int32)) hx hb dX12_nearestLike_12 (by decide) ?_
  refine lv_istore_n (i := 2) (lv' := [(2, .int (1 : Int32)), (1, .int (100 : Int32)), (0, rr G u0)]) hx hb dX12_nearestLike_13 rfl hl (by decide) rfl (fun ls hl => ?_)
  exact hC14 F _ _ _ _ _ _ _ hE hW hS (lv_sub hl [2, 1, 0] rfl)
set_option maxHeartbeats 4000000 in
set_option maxRecDepth 100000 in
theorem S_X12_holds (l : Launch) (G : GG) (F : Nat) {u0 : Option Nat} {u1 : Int32} {f : Hp} {r : Int32} {f' : Hp} {n : Nat} (hE : m_X12_holds F u0 u1 f = some (r, f')) : Ctr l G yX12_holds cX12_holds 4 (some .int) 5 116 [rr G u0, .int u1] f n (some (.int r)) f' n 0 0 := by
  refine Met.ofW (cc := cX12_holds) (maxL := 4) (ret := (some .int)) (by decide) rfl ?_
  intro p e s m args below meth c s₁ B hml hv
  obtain ⟨rfl, hK, hW⟩ := hv
  have hx := B.exec
  have hb := B.bytes
  have hr := B.returns
  have hts := atoms_spec (ws := wsO yX12_holds cX12_holds 4 (some .int)) B.pre
  have hT : ∀ w ∈ TB, w.before [rr G u0, .int u1].toArray s = true := fun w hw => hts w (List.mem_cons_of_mem _ hw)
  have hown : s.vm.findClass RX12 = some m.cls := findClass_of_methodNamed B.named
  have hlocks := B.notSynchronized
  have CF : CallFix p m c cX12_holds 4 s [rr G u0, .int u1].toArray TB RX12 := ⟨hx, hb, hml, hown, hT⟩
  have hS : va_S (WA G) s.heap s.heap [] := va_S.rf
  have hl : lv_has (lg_sl ([rr G u0, .int u1]) ++ List.replicate (4 - (lg_sl ([rr G u0, .int u1])).length) Slot.unset).toArray 4 [(0, rr G u0), (1, .int u1)] := by cases u0 <;> exact lv_entry _ (Nat.le_of_ble_eq_true rfl)
  rw [lg_entry_eq]
  generalize (lg_sl ([rr G u0, .int u1]) ++ List.replicate (4 - (lg_sl ([rr G u0, .int u1])).length) Slot.unset).toArray = ls at hl ⊢
  have hC59 : ∀ (v0 : Option Nat) (v1 : Int32) (fa : Hp) (H : Heap) (locs : List Loc) (ls : Array Slot), m_X12_holds_B59 F v0 v1 fa = some (r, f') → Wd G fa n H → va_S (WA G) s.heap H locs → lv_has ls 4 [(0, rr G v0), (1, .int v1)] → W p l e (headSpec (wsO yX12_holds cX12_holds 4 (some .int)) { frames := 5, cells := 0, slots := 0, locals := 116 }).room s m [rr G u0, .int u1].toArray below meth c H locs 0 0 (MQ below (Qcn G (some (.int r)) f' n) [rr G u0, .int u1].toArray s 0 0 (WA G)) (F0 m 59 ls []) := by
    intro v0 v1 fa H locs ls hE hW hS hl
    refine s_aload_n hx hb dX12_holds_59 rfl (lv_at hl 0 rfl) ?_
    obtain ⟨c7, hE⟩ := ck hE
    obtain ⟨x8, f9, hx8, hE⟩ := bd2_of hE
    refine s_callV (As := []) (rest := []) CF hK hW hS (S_X12_nearestLike l G F hx8) c7 rfl gv_X12_335 hd_X12_nearestLike ⟨Nat.le_of_ble_eq_true rfl, Nat.le_of_ble_eq_true rfl⟩ rfl hl.1 rfl (Nat.le_of_ble_eq_true rfl) dX12_holds_60 ⟨Nat.le_refl _, Nat.le_refl _⟩ (fun H locs hW hS => ?_)
    refine lv_iconst (v := (2 : Int32)) hx hb dX12_holds_63 (by decide) ?_
    refine lv_iload_n hx hb dX12_holds_64 rfl (lv_at hl 1 rfl) ?_
    refine lv_imul hx hb dX12_holds_65 ?_
    refine lv_icmp_le (tgt := 73) hx hb dX12_holds_66 (by decide) (fun q10 => ?_) (fun q10 => ?_)
    · replace hE := ite_t q10 hE
      refine lv_iconst (v := (0 : Int32)) hx hb dX12_holds_73 (by decide) ?_
      obtain ⟨rfl, rfl⟩ := so2 hE
      exact s_iret hx hb hr hlocks hW hS dX12_holds_74
    · replace hE := ite_f q10 hE
      refine lv_iconst (v := (1 : Int32)) hx hb dX12_holds_69 (by decide) ?_
      refine lv_goto (tgt := 74) hx hb dX12_holds_70 (by decide) ?_
      obtain ⟨rfl, rfl⟩ := so2 hE
      exact s_iret hx hb hr hlocks hW hS dX12_holds_74
  have hC36 : ∀ (k36 : Nat), ∀ (v0 : Option Nat) (v1 : Int32) (v2 : Int32) (v3 : Int32) (fa : Hp) (H : Heap) (locs : List Loc) (ls : Array Slot), m_X12_holds_L36 F k36 v0 v1 v2 v3 fa = some (r, f') → Wd G fa n H → va_S (WA G) s.heap H locs → lv_has ls 4 [(0, rr G v0), (1, .int v1), (2, .int v2), (3, .int v3)] → W p l e (headSpec (wsO yX12_holds cX12_holds 4 (some .int)) { frames := 5, cells := 0, slots := 0, locals := 116 }).room s m [rr G u0, .int u1].toArray below meth c H locs 0 0 (MQ below (Qcn G (some (.int r)) f' n) [rr G u0, .int u1].toArray s 0 0 (WA G)) (F0 m 36 ls []) := by
    intro k36
    induction k36 with
    | zero => intro v0 v1 v2 v3 fa H locs ls hE _ _ _; cases (show (none : Option ((Int32) × Hp)) = some (r, f') from hE)
    | succ k36 ih36 =>
      intro v0 v1 v2 v3 fa H locs ls hE hW hS hl
      replace hE : m_X12_holds_b36 F (m_X12_holds_L36 F k36) v0 v1 v2 v3 fa = some (r, f') := hE
      refine lv_iload_n hx hb dX12_holds_36 rfl (lv_at hl 3 rfl) ?_
      refine lv_iload_n hx hb dX12_holds_37 rfl (lv_at hl 2 rfl) ?_
      refine lv_icmp_ge (tgt := 59) hx hb dX12_holds_38 (by decide) (fun q1 => ?_) (fun q1 => ?_)
      · replace hE := ite_t q1 hE
        exact hC59 _ _ _ _ _ _ hE hW hS (lv_sub hl [0, 1] rfl)
      · replace hE := ite_f q1 hE
        refine s_aload_n hx hb dX12_holds_41 rfl (lv_at hl 0 rfl) ?_
        obtain ⟨x2, hx2, hE⟩ := bd hE
        refine s_gR hx hb hT u_X12 hown hK hW hx2 rfl (by decide) fl_X12_75 rfl dX12_holds_42 ?_
        refine lv_iload_n hx hb dX12_holds_45 rfl (lv_at hl 3 rfl) ?_
        refine s_aload_n hx hb dX12_holds_46 rfl (lv_at hl 0 rfl) ?_
        obtain ⟨x3, hx3, hE⟩ := bd hE
        refine s_gR hx hb hT u_X12 hown hK hW hx3 rfl (by decide) fl_X12_7 rfl dX12_holds_47 ?_
        refine lv_iload_n hx hb dX12_holds_50 rfl (lv_at hl 3 rfl) ?_
        obtain ⟨x4, hx4, hE⟩ := bd hE
        refine s_ldI hx hb hK hW hS hx4 dX12_holds_51 ?_
        obtain ⟨f5, hf5, hE⟩ := bd hE
        refine s_stI hx hb hK hW hS hf5 dX12_holds_52 (fun H locs hW hS => ?_)
        obtain ⟨y6, ey6⟩ : ∃ y : Int32, y = v3 + (1 : Int32) := ⟨_, rfl⟩
        replace hE := nm_o ey6 hE
        refine lv_iinc (k := 3) (v := y6) (lv' := [(3, .int y6), (0, rr G v0), (1, .int v1), (2, .int v2)]) hx hb dX12_holds_53 hl rfl (by rw [ey6]; rfl) (by decide) rfl (fun ls hl => ?_)
        refine lv_goto (tgt := 36) hx hb dX12_holds_56 (by decide) ?_
        exact ih36 _ _ _ _ _ _ _ _ hE hW hS (lv_sub hl [1, 2, 3, 0] rfl)
  refine s_aload_n hx hb dX12_holds_0 rfl (lv_at hl 0 rfl) ?_
  refine lv_iconst (v := (0 : Int32)) hx hb dX12_holds_1 (by decide) ?_
  obtain ⟨f11, hf11, hE⟩ := bd hE
  refine s_putI hx hb hT u_X12 tyX12 tyX12_ok nmX12 hown hK hW hS hf11 rfl (by decide) fl_X12_81 rfl (Or.inl rfl) rfl dX12_holds_2 (fun H locs hW hS => ?_)
  refine s_aload_n hx hb dX12_holds_5 rfl (lv_at hl 0 rfl) ?_
  obtain ⟨c12, hE⟩ := ck hE
  obtain ⟨f13, hf13, hE⟩ := bd hE
  refine s_callV (As := []) (rest := []) CF hK hW hS (S_X12_lay l G F hf13) c12 rfl gv_X12_164 hd_X12_lay ⟨Nat.le_of_ble_eq_true rfl, Nat.le_of_ble_eq_true rfl⟩ rfl hl.1 rfl (Nat.le_of_ble_eq_true rfl) dX12_holds_6 ⟨Nat.le_refl _, Nat.le_refl _⟩ (fun H locs hW hS => ?_)
  refine s_aload_n hx hb dX12_holds_9 rfl (lv_at hl 0 rfl) ?_
  obtain ⟨c14, hE⟩ := ck hE
  obtain ⟨x15, f16, hx15, hE⟩ := bd2_of hE
  refine s_callV (As := []) (rest := []) CF hK hW hS (S_X12_take l G F hx15) c14 rfl gv_X12_167 hd_X12_take ⟨Nat.le_of_ble_eq_true rfl, Nat.le_of_ble_eq_true rfl⟩ rfl hl.1 rfl (Nat.le_of_ble_eq_true rfl) dX12_holds_10 ⟨Nat.le_refl _, Nat.le_refl _⟩ (fun H locs hW hS => ?_)
  refine lv_istore_n (i := 2) (lv' := [(2, .int x15), (0, rr G u0), (1, .int u1)]) hx hb dX12_holds_13 rfl hl (by decide) rfl (fun ls hl => ?_)
  refine lv_iload_n hx hb dX12_holds_14 rfl (lv_at hl 0 rfl) ?_
  refine s_aload_n hx hb dX12_holds_15 rfl (lv_at hl 1 rfl) ?_
  obtain ⟨c17, hE⟩ := ck hE
  obtain ⟨x18, hx18, hE⟩ := bd hE
  refine s_callV (As := []) (rest := [.int x15]) CF hK hW hS (S_X12_lines l G F hx18) c17 rfl gv_X12_185 hd_X12_lines ⟨Nat.le_of_ble_eq_true rfl, Nat.le_of_ble_eq_true rfl⟩ rfl hl.1 rfl (Nat.le_of_ble_eq_true rfl) dX12_holds_16 ⟨Nat.le_refl _, Nat.le_refl _⟩ (fun H locs hW hS => ?_)
  refine lv_icmp_ne (tgt := 32) hx hb dX12_holds_19 (by decide) (fun q19 => ?_) (fun q19 => ?_)
  · replace hE := ite_f q19 hE
    refine lv_iconst (v := (-1 : Int32)) hx hb dX12_holds_32 (by decide) ?_
    obtain ⟨rfl, rfl⟩ := so2 hE
    exact s_iret hx hb hr hlocks hW hS dX12_holds_33
  · replace hE := ite_t q19 hE
    refine lv_iload_n hx hb dX12_holds_22 rfl (lv_at hl 2 rfl) ?_
    refine lv_iconst (v := (0 : Int32)) hx hb dX12_holds_23 (by decide) ?_
    refine lv_bipush (v := (9 : Int32)) hx hb dX12_holds_24 (by decide) ?_
    obtain ⟨x20, hx20, hE⟩ := bd hE
    refine s_callS (As := [.int u1, .int (0 : Int32), .int (9 : Int32)]) (rest := []) CF hK hW hS (S_X12_isIn l G F hx20) gs_X12_151 hd_X12_isIn.2 ⟨Nat.le_of_ble_eq_true rfl, Nat.le_of_ble_eq_true rfl⟩ rfl hl.1 rfl (Nat.le_of_ble_eq_true rfl) dX12_holds_26 ⟨Nat.le_refl _, Nat.le_refl _⟩ (fun H locs hW hS => ?_)
    refine lv_if_ne (tgt := 34) hx hb dX12_holds_29 (by decide) (fun q21 => ?_) (fun q21 => ?_)
    · replace hE := ite_f q21 hE
      refine lv_iconst (v := (0 : Int32)) hx hb dX12_holds_34 (by decide) ?_
      refine lv_istore_n (i := 3) (lv' := [(3, .int (0 : Int32)), (2, .int x15), (0, rr G u0), (1, .int u1)]) hx hb dX12_holds_35 rfl hl (by decide) rfl (fun ls hl => ?_)
      exact hC36 F _ _ _ _ _ _ _ _ hE hW hS (lv_sub hl [2, 3, 1, 0] rfl)
    · replace hE := ite_t q21 hE
      refine lv_iconst (v := (-1 : Int32)) hx hb dX12_holds_32 (by decide) ?_
      obtain ⟨rfl, rfl⟩ := so2 hE
      exact s_iret hx hb hr hlocks hW hS dX12_holds_33
set_option maxHeartbeats 4000000 in
set_option maxRecDepth 100000 in
theorem S_X12_spelt (l : Launch) (G : GG) (F : Nat) {u0 : Int32} {u1 : Int32} {u2 : Int32} {u3 : Int32} {u4 : Int32} {f : Hp} {r : Int64} {n : Nat} (hE : m_X12_spelt F u0 u1 u2 u3 u4 f = some r) : Ctr l G yX12_spelt cX12_spelt 7 (some .long) 0 0 [.int u0, .int u1, .int u2, .int u3, .int u4] f n (some (.long r)) f n 0 0 := by
  refine Met.ofW (cc := cX12_spelt) (maxL := 7) (ret := (some .long)) (by decide) rfl ?_
  intro p e s m args below meth c s₁ B hml hv
  obtain ⟨rfl, hK, hW⟩ := hv
  have hx := B.exec
  have hb := B.bytes
  have hr := B.returns
  have hts := atoms_spec (ws := wsO yX12_spelt cX12_spelt 7 (some .long)) B.pre
  have hT : ∀ w ∈ TB, w.before [.int u0, .int u1, .int u2, .int u3, .int u4].toArray s = true := fun w hw => hts w (List.mem_cons_of_mem _ hw)
  have hown : s.vm.findClass RX12 = some m.cls := findClass_of_methodNamed B.named
  have hlocks := B.notSynchronized
  have CF : CallFix p m c cX12_spelt 7 s [.int u0, .int u1, .int u2, .int u3, .int u4].toArray TB RX12 := ⟨hx, hb, hml, hown, hT⟩
  have hS : va_S (WA G) s.heap s.heap [] := va_S.rf
  have hl : lv_has (lg_sl ([.int u0, .int u1, .int u2, .int u3, .int u4]) ++ List.replicate (7 - (lg_sl ([.int u0, .int u1, .int u2, .int u3, .int u4])).length) Slot.unset).toArray 7 [(0, .int u0), (1, .int u1), (2, .int u2), (3, .int u3), (4, .int u4)] := by exact lv_entry [.int u0, .int u1, .int u2, .int u3, .int u4] (Nat.le_of_ble_eq_true rfl)
  rw [lg_entry_eq]
  generalize (lg_sl ([.int u0, .int u1, .int u2, .int u3, .int u4]) ++ List.replicate (7 - (lg_sl ([.int u0, .int u1, .int u2, .int u3, .int u4])).length) Slot.unset).toArray = ls at hl ⊢
  have hC57 : ∀ (v4 : Int32) (v5 : Int64) (H : Heap) (locs : List Loc) (ls : Array Slot), m_X12_spelt_B57 F v4 v5 f = some r → Wd G f n H → va_S (WA G) s.heap H locs → lv_has ls 7 [(4, .int v4), (5, .long v5)] → W p l e (headSpec (wsO yX12_spelt cX12_spelt 7 (some .long)) { frames := 0, cells := 0, slots := 0, locals := 0 }).room s m [.int u0, .int u1, .int u2, .int u3, .int u4].toArray below meth c H locs 0 0 (MQ below (Qcn G (some (.long r)) f n) [.int u0, .int u1, .int u2, .int u3, .int u4].toArray s 0 0 (WA G)) (F0 m 57 ls []) := by
    intro v4 v5 H locs ls hE hW hS hl
    refine lv_iload hx hb dX12_spelt_57 (lv_at hl 0 rfl) ?_
    refine lv_if_le (tgt := 79) hx hb dX12_spelt_59 (by decide) (fun q3 => ?_) (fun q3 => ?_)
    · replace hE := ite_t q3 hE
      refine lv_lload hx hb dX12_spelt_79 (lv_at hl 1 rfl) ?_
      obtain rfl := so1 hE
      exact s_lret hx hb hr hlocks hW hS dX12_spelt_81
    · replace hE := ite_f q3 hE
      refine lv_ldc2 (v := (27 : Int64)) hx hb hown (hT _ kc_X12_128) dX12_spelt_62 ?_
      refine lv_lload hx hb dX12_spelt_65 (lv_at hl 1 rfl) ?_
      refine lv_lmul hx hb dX12_spelt_67 ?_
      refine lv_iload hx hb dX12_spelt_68 (lv_at hl 0 rfl) ?_
      refine lv_i2l (v := (Int32.toInt64 v4)) hx hb dX12_spelt_70 rfl ?_
      refine lv_ladd hx hb dX12_spelt_71 ?_
      refine lv_ldc2 (v := (96 : Int64)) hx hb hown (hT _ kc_X12_130) dX12_spelt_72 ?_
      refine lv_lsub hx hb dX12_spelt_75 ?_
      refine lv_goto (tgt := 81) hx hb dX12_spelt_76 (by decide) ?_
      obtain rfl := so1 hE
      exact s_lret hx hb hr hlocks hW hS dX12_spelt_81
  have hC38 : ∀ (v3 : Int32) (v4 : Int32) (v5 : Int64) (H : Heap) (locs : List Loc) (ls : Array Slot), m_X12_spelt_B38 F v3 v4 v5 f = some r → Wd G f n H → va_S (WA G) s.heap H locs → lv_has ls 7 [(3, .int v3), (4, .int v4), (5, .long v5)] → W p l e (headSpec (wsO yX12_spelt cX12_spelt 7 (some .long)) { frames := 0, cells := 0, slots := 0, locals := 0 }).room s m [.int u0, .int u1, .int u2, .int u3, .int u4].toArray below meth c H locs 0 0 (MQ below (Qcn G (some (.long r)) f n) [.int u0, .int u1, .int u2, .int u3, .int u4].toArray s 0 0 (WA G)) (F0 m 38 ls []) := by
    intro v3 v4 v5 H locs ls hE hW hS hl
    refine lv_iload_n hx hb dX12_spelt_38 rfl (lv_at hl 0 rfl) ?_
    refine lv_if_le (tgt := 57) hx hb dX12_spelt_39 (by decide) (fun q1 => ?_) (fun q1 => ?_)
    · replace hE := ite_t q1 hE
      exact hC57 _ _ _ _ _ hE hW hS (lv_sub hl [1, 2] rfl)
    · replace hE := ite_f q1 hE
      refine lv_ldc2 (v := (27 : Int64)) hx hb hown (hT _ kc_X12_128) dX12_spelt_42 ?_
      refine lv_lload hx hb dX12_spelt_45 (lv_at hl 2 rfl) ?_
      refine lv_lmul hx hb dX12_spelt_47 ?_
      refine lv_iload_n hx hb dX12_spelt_48 rfl (lv_at hl 0 rfl) ?_
      refine lv_i2l (v := (Int32.toInt64 v3)) hx hb dX12_spelt_49 rfl ?_
      refine lv_ladd hx hb dX12_spelt_50 ?_
      refine lv_ldc2 (v := (96 : Int64)) hx hb hown (hT _ kc_X12_130) dX12_spelt_51 ?_
      refine lv_lsub hx hb dX12_spelt_54 ?_
      refine lv_topl (fun y2 ey2 => ?_)
      replace hE := nm_o ey2 hE
      refine lv_lstore (lv' := [(5, .long y2), (3, .int v3), (4, .int v4)]) hx hb dX12_spelt_55 hl (by decide) rfl (fun ls hl => ?_)
      exact hC57 _ _ _ _ _ hE hW hS (lv_sub hl [2, 0] rfl)
  refine lv_ldc2 (v := (27 : Int64)) hx hb hown (hT _ kc_X12_128) dX12_spelt_0 ?_
  refine lv_iload_n hx hb dX12_spelt_3 rfl (lv_at hl 0 rfl) ?_
  refine lv_i2l (v := (Int32.toInt64 u0)) hx hb dX12_spelt_4 rfl ?_
  refine lv_ldc2 (v := (96 : Int64)) hx hb hown (hT _ kc_X12_130) dX12_spelt_5 ?_
  refine lv_lsub hx hb dX12_spelt_8 ?_
  refine lv_lmul hx hb dX12_spelt_9 ?_
  refine lv_iload_n hx hb dX12_spelt_10 rfl (lv_at hl 1 rfl) ?_
  refine lv_i2l (v := (Int32.toInt64 u1)) hx hb dX12_spelt_11 rfl ?_
  refine lv_ladd hx hb dX12_spelt_12 ?_
  refine lv_ldc2 (v := (96 : Int64)) hx hb hown (hT _ kc_X12_130) dX12_spelt_13 ?_
  refine lv_lsub hx hb dX12_spelt_16 ?_
  refine lv_topl (fun y4 ey4 => ?_)
  replace hE := nm_o ey4 hE
  refine lv_lstore (lv' := [(5, .long y4), (0, .int u0), (1, .int u1), (2, .int u2), (3, .int u3), (4, .int u4)]) hx hb dX12_spelt_17 hl (by decide) rfl (fun ls hl => ?_)
  refine lv_iload_n hx hb dX12_spelt_19 rfl (lv_at hl 3 rfl) ?_
  refine lv_if_le (tgt := 38) hx hb dX12_spelt_20 (by decide) (fun q5 => ?_) (fun q5 => ?_)
  · replace hE := ite_t q5 hE
    exact hC38 _ _ _ _ _ _ hE hW hS (lv_sub hl [4, 5, 0] rfl)
  · replace hE := ite_f q5 hE
    refine lv_ldc2 (v := (27 : Int64)) hx hb hown (hT _ kc_X12_128) dX12_spelt_23 ?_
    refine lv_lload hx hb dX12_spelt_26 (lv_at hl 0 rfl) ?_
    refine lv_lmul hx hb dX12_spelt_28 ?_
    refine lv_iload_n hx hb dX12_spelt_29 rfl (lv_at hl 3 rfl) ?_
    refine lv_i2l (v := (Int32.toInt64 u2)) hx hb dX12_spelt_30 rfl ?_
    refine lv_ladd hx hb dX12_spelt_31 ?_
    refine lv_ldc2 (v := (96 : Int64)) hx hb hown (hT _ kc_X12_130) dX12_spelt_32 ?_
    refine lv_lsub hx hb dX12_spelt_35 ?_
    refine lv_topl (fun y6 ey6 => ?_)
    replace hE := nm_o ey6 hE
    refine lv_lstore (lv' := [(5, .long y6), (0, .int u0), (1, .int u1), (2, .int u2), (3, .int u3), (4, .int u4)]) hx hb dX12_spelt_36 hl (by decide) rfl (fun ls hl => ?_)
    exact hC38 _ _ _ _ _ _ hE hW hS (lv_sub hl [4, 5, 0] rfl)
set_option maxHeartbeats 4000000 in
set_option maxRecDepth 100000 in
theorem S_X12_wordOf (l : Launch) (G : GG) (F : Nat) {u0 : Int32} {f : Hp} {r : Int64} {n : Nat} (hE : m_X12_wordOf F u0 f = some r) : Ctr l G yX12_wordOf cX12_wordOf 1 (some .long) 1 26 [.int u0] f n (some (.long r)) f n 0 0 := by
  refine Met.ofW (cc := cX12_wordOf) (maxL := 1) (ret := (some .long)) (by decide) rfl ?_
  intro p e s m args below meth c s₁ B hml hv
  obtain ⟨rfl, hK, hW⟩ := hv
  have hx := B.exec
  have hb := B.bytes
  have hr := B.returns
  have hts := atoms_spec (ws := wsO yX12_wordOf cX12_wordOf 1 (some .long)) B.pre
  have hT : ∀ w ∈ TB, w.before [.int u0].toArray s = true := fun w hw => hts w (List.mem_cons_of_mem _ hw)
  have hown : s.vm.findClass RX12 = some m.cls := findClass_of_methodNamed B.named
  have hlocks := B.notSynchronized
  have CF : CallFix p m c cX12_wordOf 1 s [.int u0].toArray TB RX12 := ⟨hx, hb, hml, hown, hT⟩
  have hS : va_S (WA G) s.heap s.heap [] := va_S.rf
  have hl : lv_has (lg_sl ([.int u0]) ++ List.replicate (1 - (lg_sl ([.int u0])).length) Slot.unset).toArray 1 [(0, .int u0)] := by exact lv_entry [.int u0] (Nat.le_of_ble_eq_true rfl)
  rw [lg_entry_eq]
  generalize (lg_sl ([.int u0]) ++ List.replicate (1 - (lg_sl ([.int u0])).length) Slot.unset).toArray = ls at hl ⊢
  refine lv_iload_n hx hb dX12_wordOf_0 rfl (lv_at hl 0 rfl) ?_
  by_cases w1 : u0 = (0 : Int32)
  · replace hE := ite_t w1 hE
    have hi : (u0).toInt = 0 := by rw [w1]; rfl
    refine lv_tableIn (off := 91) (tgt := 92) hx hb dX12_wordOf_1 (by rw [hi]; decide) (by rw [hi]; decide) (by rw [hi]; rfl) (by decide) ?_
    refine lv_bipush (v := (108 : Int32)) hx hb dX12_wordOf_92 (by decide) ?_
    refine lv_bipush (v := (105 : Int32)) hx hb dX12_wordOf_94 (by decide) ?_
    refine lv_bipush (v := (110 : Int32)) hx hb dX12_wordOf_96 (by decide) ?_
    refine lv_bipush (v := (101 : Int32)) hx hb dX12_wordOf_98 (by decide) ?_
    refine lv_bipush (v := (115 : Int32)) hx hb dX12_wordOf_100 (by decide) ?_
    obtain ⟨x2, hx2, hE⟩ := bd hE
    refine s_callS (As := [.int (108 : Int32), .int (105 : Int32), .int (110 : Int32), .int (101 : Int32), .int (115 : Int32)]) (rest := []) CF hK hW hS (S_X12_spelt l G F hx2) gs_X12_132 hd_X12_spelt.2 ⟨Nat.le_of_ble_eq_true rfl, Nat.le_of_ble_eq_true rfl⟩ rfl hl.1 rfl (Nat.le_of_ble_eq_true rfl) dX12_wordOf_102 ⟨Nat.le_refl _, Nat.le_refl _⟩ (fun H locs hW hS => ?_)
    obtain rfl := so1 hE
    exact s_lret hx hb hr hlocks hW hS dX12_wordOf_105
  · replace hE := ite_f w1 hE
    by_cases w3 : u0 = (1 : Int32)
    · replace hE := ite_t w3 hE
      have hi : (u0).toInt = 1 := by rw [w3]; rfl
      refine lv_tableIn (off := 105) (tgt := 106) hx hb dX12_wordOf_1 (by rw [hi]; decide) (by rw [hi]; decide) (by rw [hi]; rfl) (by decide) ?_
      refine lv_bipush (v := (99 : Int32)) hx hb dX12_wordOf_106 (by decide) ?_
      refine lv_bipush (v := (111 : Int32)) hx hb dX12_wordOf_108 (by decide) ?_
      refine lv_bipush (v := (112 : Int32)) hx hb dX12_wordOf_110 (by decide) ?_
      refine lv_bipush (v := (121 : Int32)) hx hb dX12_wordOf_112 (by decide) ?_
      refine lv_iconst (v := (0 : Int32)) hx hb dX12_wordOf_114 (by decide) ?_
      obtain ⟨x4, hx4, hE⟩ := bd hE
      refine s_callS (As := [.int (99 : Int32), .int (111 : Int32), .int (112 : Int32), .int (121 : Int32), .int (0 : Int32)]) (rest := []) CF hK hW hS (S_X12_spelt l G F hx4) gs_X12_132 hd_X12_spelt.2 ⟨Nat.le_of_ble_eq_true rfl, Nat.le_of_ble_eq_true rfl⟩ rfl hl.1 rfl (Nat.le_of_ble_eq_true rfl) dX12_wordOf_115 ⟨Nat.le_refl _, Nat.le_refl _⟩ (fun H locs hW hS => ?_)
      obtain rfl := so1 hE
      exact s_lret hx hb hr hlocks hW hS dX12_wordOf_118
    · replace hE := ite_f w3 hE
      by_cases w5 : u0 = (2 : Int32)
      · replace hE := ite_t w5 hE
        have hi : (u0).toInt = 2 := by rw [w5]; rfl
        refine lv_tableIn (off := 118) (tgt := 119) hx hb dX12_wordOf_1 (by rw [hi]; decide) (by rw [hi]; decide) (by rw [hi]; rfl) (by decide) ?_
        refine lv_bipush (v := (100 : Int32)) hx hb dX12_wordOf_119 (by decide) ?_
        refine lv_bipush (v := (101 : Int32)) hx hb dX12_wordOf_121 (by decide) ?_
        refine lv_bipush (v := (115 : Int32)) hx hb dX12_wordOf_123 (by decide) ?_
        refine lv_bipush (v := (107 : Int32)) hx hb dX12_wordOf_125 (by decide) ?_
        refine lv_iconst (v := (0 : Int32)) hx hb dX12_wordOf_127 (by decide) ?_
        obtain ⟨x6, hx6, hE⟩ := bd hE
        refine s_callS (As := [.int (100 : Int32), .int (101 : Int32), .int (115 : Int32), .int (107 : Int32), .int (0 : Int32)]) (rest := []) CF hK hW hS (S_X12_spelt l G F hx6) gs_X12_132 hd_X12_spelt.2 ⟨Nat.le_of_ble_eq_true rfl, Nat.le_of_ble_eq_true rfl⟩ rfl hl.1 rfl (Nat.le_of_ble_eq_true rfl) dX12_wordOf_128 ⟨Nat.le_refl _, Nat.le_refl _⟩ (fun H locs hW hS => ?_)
        obtain rfl := so1 hE
        exact s_lret hx hb hr hlocks hW hS dX12_wordOf_131
      · replace hE := ite_f w5 hE
        by_cases w7 : u0 = (3 : Int32)
        · replace hE := ite_t w7 hE
          have hi : (u0).toInt = 3 := by rw [w7]; rfl
          refine lv_tableIn (off := 131) (tgt := 132) hx hb dX12_wordOf_1 (by rw [hi]; decide) (by rw [hi]; decide) (by rw [hi]; rfl) (by decide) ?_
          refine lv_ldc2 (v := (27 : Int64)) hx hb hown (hT _ kc_X12_128) dX12_wordOf_132 ?_
          refine lv_bipush (v := (108 : Int32)) hx hb dX12_wordOf_135 (by decide) ?_
          refine lv_bipush (v := (105 : Int32)) hx hb dX12_wordOf_137 (by decide) ?_
          refine lv_bipush (v := (107 : Int32)) hx hb dX12_wordOf_139 (by decide) ?_
          refine lv_bipush (v := (101 : Int32)) hx hb dX12_wordOf_141 (by decide) ?_
          refine lv_bipush (v := (108 : Int32)) hx hb dX12_wordOf_143 (by decide) ?_
          obtain ⟨x8, hx8, hE⟩ := bd hE
          refine s_callS (As := [.int (108 : Int32), .int (105 : Int32), .int (107 : Int32), .int (101 : Int32), .int (108 : Int32)]) (rest := [.long (27 : Int64)]) CF hK hW hS (S_X12_spelt l G F hx8) gs_X12_132 hd_X12_spelt.2 ⟨Nat.le_of_ble_eq_true rfl, Nat.le_of_ble_eq_true rfl⟩ rfl hl.1 rfl (Nat.le_of_ble_eq_true rfl) dX12_wordOf_145 ⟨Nat.le_refl _, Nat.le_refl _⟩ (fun H locs hW hS => ?_)
          refine lv_lmul hx hb dX12_wordOf_148 ?_
          refine lv_ldc2 (v := (121 : Int64)) hx hb hown (hT _ kc_X12_136) dX12_wordOf_149 ?_
          refine lv_ladd hx hb dX12_wordOf_152 ?_
          refine lv_ldc2 (v := (96 : Int64)) hx hb hown (hT _ kc_X12_130) dX12_wordOf_153 ?_
          refine lv_lsub hx hb dX12_wordOf_156 ?_
          obtain rfl := so1 hE
          exact s_lret hx hb hr hlocks hW hS dX12_wordOf_157
        · replace hE := ite_f w7 hE
          by_cases w9 : u0 = (4 : Int32)
          · replace hE := ite_t w9 hE
            have hi : (u0).toInt = 4 := by rw [w9]; rfl
            refine lv_tableIn (off := 157) (tgt := 158) hx hb dX12_wordOf_1 (by rw [hi]; decide) (by rw [hi]; decide) (by rw [hi]; rfl) (by decide) ?_
            refine lv_bipush (v := (115 : Int32)) hx hb dX12_wordOf_158 (by decide) ?_
            refine lv_bipush (v := (101 : Int32)) hx hb dX12_wordOf_160 (by decide) ?_
            refine lv_bipush (v := (110 : Int32)) hx hb dX12_wordOf_162 (by decide) ?_
            refine lv_bipush (v := (115 : Int32)) hx hb dX12_wordOf_164 (by decide) ?_
            refine lv_bipush (v := (101 : Int32)) hx hb dX12_wordOf_166 (by decide) ?_
            obtain ⟨x10, hx10, hE⟩ := bd hE
            refine s_callS (As := [.int (115 : Int32), .int (101 : Int32), .int (110 : Int32), .int (115 : Int32), .int (101 : Int32)]) (rest := []) CF hK hW hS (S_X12_spelt l G F hx10) gs_X12_132 hd_X12_spelt.2 ⟨Nat.le_of_ble_eq_true rfl, Nat.le_of_ble_eq_true rfl⟩ rfl hl.1 rfl (Nat.le_of_ble_eq_true rfl) dX12_wordOf_168 ⟨Nat.le_refl _, Nat.le_refl _⟩ (fun H locs hW hS => ?_)
            obtain rfl := so1 hE
            exact s_lret hx hb hr hlocks hW hS dX12_wordOf_171
          · replace hE := ite_f w9 hE
            by_cases w11 : u0 = (5 : Int32)
            · replace hE := ite_t w11 hE
              have hi : (u0).toInt = 5 := by rw [w11]; rfl
              refine lv_tableIn (off := 171) (tgt := 172) hx hb dX12_wordOf_1 (by rw [hi]; decide) (by rw [hi]; decide) (by rw [hi]; rfl) (by decide) ?_
              refine lv_bipush (v := (114 : Int32)) hx hb dX12_wordOf_172 (by decide) ?_
              refine lv_bipush (v := (104 : Int32)) hx hb dX12_wordOf_174 (by decide) ?_
              refine lv_bipush (v := (121 : Int32)) hx hb dX12_wordOf_176 (by decide) ?_
              refine lv_bipush (v := (109 : Int32)) hx hb dX12_wordOf_178 (by decide) ?_
              refine lv_bipush (v := (101 : Int32)) hx hb dX12_wordOf_180 (by decide) ?_
              obtain ⟨x12, hx12, hE⟩ := bd hE
              refine s_callS (As := [.int (114 : Int32), .int (104 : Int32), .int (121 : Int32), .int (109 : Int32), .int (101 : Int32)]) (rest := []) CF hK hW hS (S_X12_spelt l G F hx12) gs_X12_132 hd_X12_spelt.2 ⟨Nat.le_of_ble_eq_true rfl, Nat.le_of_ble_eq_true rfl⟩ rfl hl.1 rfl (Nat.le_of_ble_eq_true rfl) dX12_wordOf_182 ⟨Nat.le_refl _, Nat.le_refl _⟩ (fun H locs hW hS => ?_)
              obtain rfl := so1 hE
              exact s_lret hx hb hr hlocks hW hS dX12_wordOf_185
            · replace hE := ite_f w11 hE
              by_cases w13 : u0 = (6 : Int32)
              · replace hE := ite_t w13 hE
                have hi : (u0).toInt = 6 := by rw [w13]; rfl
                refine lv_tableIn (off := 185) (tgt := 186) hx hb dX12_wordOf_1 (by rw [hi]; decide) (by rw [hi]; decide) (by rw [hi]; rfl) (by decide) ?_
                refine lv_bipush (v := (115 : Int32)) hx hb dX12_wordOf_186 (by decide) ?_
                refine lv_bipush (v := (119 : Int32)) hx hb dX12_wordOf_188 (by decide) ?_
                refine lv_bipush (v := (97 : Int32)) hx hb dX12_wordOf_190 (by decide) ?_
                refine lv_bipush (v := (112 : Int32)) hx hb dX12_wordOf_192 (by decide) ?_
                refine lv_iconst (v := (0 : Int32)) hx hb dX12_wordOf_194 (by decide) ?_
                obtain ⟨x14, hx14, hE⟩ := bd hE
                refine s_callS (As := [.int (115 : Int32), .int (119 : Int32), .int (97 : Int32), .int (112 : Int32), .int (0 : Int32)]) (rest := []) CF hK hW hS (S_X12_spelt l G F hx14) gs_X12_132 hd_X12_spelt.2 ⟨Nat.le_of_ble_eq_true rfl, Nat.le_of_ble_eq_true rfl⟩ rfl hl.1 rfl (Nat.le_of_ble_eq_true rfl) dX12_wordOf_195 ⟨Nat.le_refl _, Nat.le_refl _⟩ (fun H locs hW hS => ?_)
                obtain rfl := so1 hE
                exact s_lret hx hb hr hlocks hW hS dX12_wordOf_198
              · replace hE := ite_f w13 hE
                by_cases w15 : u0 = (7 : Int32)
                · replace hE := ite_t w15 hE
                  have hi : (u0).toInt = 7 := by rw [w15]; rfl
                  refine lv_tableIn (off := 198) (tgt := 199) hx hb dX12_wordOf_1 (by rw [hi]; decide) (by rw [hi]; decide) (by rw [hi]; rfl) (by decide) ?_
                  refine lv_bipush (v := (109 : Int32)) hx hb dX12_wordOf_199 (by decide) ?_
                  refine lv_bipush (v := (111 : Int32)) hx hb dX12_wordOf_201 (by decide) ?_
                  refine lv_bipush (v := (115 : Int32)) hx hb dX12_wordOf_203 (by decide) ?_
                  refine lv_bipush (v := (116 : Int32)) hx hb dX12_wordOf_205 (by decide) ?_
                  refine lv_iconst (v := (0 : Int32)) hx hb dX12_wordOf_207 (by decide) ?_
                  obtain ⟨x16, hx16, hE⟩ := bd hE
                  refine s_callS (As := [.int (109 : Int32), .int (111 : Int32), .int (115 : Int32), .int (116 : Int32), .int (0 : Int32)]) (rest := []) CF hK hW hS (S_X12_spelt l G F hx16) gs_X12_132 hd_X12_spelt.2 ⟨Nat.le_of_ble_eq_true rfl, Nat.le_of_ble_eq_true rfl⟩ rfl hl.1 rfl (Nat.le_of_ble_eq_true rfl) dX12_wordOf_208 ⟨Nat.le_refl _, Nat.le_refl _⟩ (fun H locs hW hS => ?_)
                  obtain rfl := so1 hE
                  exact s_lret hx hb hr hlocks hW hS dX12_wordOf_211
                · replace hE := ite_f w15 hE
                  by_cases w17 : u0 = (8 : Int32)
                  · replace hE := ite_t w17 hE
                    have hi : (u0).toInt = 8 := by rw [w17]; rfl
                    refine lv_tableIn (off := 211) (tgt := 212) hx hb dX12_wordOf_1 (by rw [hi]; decide) (by rw [hi]; decide) (by rw [hi]; rfl) (by decide) ?_
                    refine lv_bipush (v := (100 : Int32)) hx hb dX12_wordOf_212 (by decide) ?_
                    refine lv_bipush (v := (114 : Int32)) hx hb dX12_wordOf_214 (by decide) ?_
                    refine lv_bipush (v := (111 : Int32)) hx hb dX12_wordOf_216 (by decide) ?_
                    refine lv_bipush (v := (112 : Int32)) hx hb dX12_wordOf_218 (by decide) ?_
                    refine lv_bipush (v := (115 : Int32)) hx hb dX12_wordOf_220 (by decide) ?_
                    obtain ⟨x18, hx18, hE⟩ := bd hE
                    refine s_callS (As := [.int (100 : Int32), .int (114 : Int32), .int (111 : Int32), .int (112 : Int32), .int (115 : Int32)]) (rest := []) CF hK hW hS (S_X12_spelt l G F hx18) gs_X12_132 hd_X12_spelt.2 ⟨Nat.le_of_ble_eq_true rfl, Nat.le_of_ble_eq_true rfl⟩ rfl hl.1 rfl (Nat.le_of_ble_eq_true rfl) dX12_wordOf_222 ⟨Nat.le_refl _, Nat.le_refl _⟩ (fun H locs hW hS => ?_)
                    obtain rfl := so1 hE
                    exact s_lret hx hb hr hlocks hW hS dX12_wordOf_225
                  · replace hE := ite_f w17 hE
                    by_cases w19 : u0 = (9 : Int32)
                    · replace hE := ite_t w19 hE
                      have hi : (u0).toInt = 9 := by rw [w19]; rfl
                      refine lv_tableIn (off := 225) (tgt := 226) hx hb dX12_wordOf_1 (by rw [hi]; decide) (by rw [hi]; decide) (by rw [hi]; rfl) (by decide) ?_
                      refine lv_bipush (v := (111 : Int32)) hx hb dX12_wordOf_226 (by decide) ?_
                      refine lv_bipush (v := (114 : Int32)) hx hb dX12_wordOf_228 (by decide) ?_
                      refine lv_iconst (v := (0 : Int32)) hx hb dX12_wordOf_230 (by decide) ?_
                      refine lv_iconst (v := (0 : Int32)) hx hb dX12_wordOf_231 (by decide) ?_
                      refine lv_iconst (v := (0 : Int32)) hx hb dX12_wordOf_232 (by decide) ?_
                      obtain ⟨x20, hx20, hE⟩ := bd hE
                      refine s_callS (As := [.int (111 : Int32), .int (114 : Int32), .int (0 : Int32), .int (0 : Int32), .int (0 : Int32)]) (rest := []) CF hK hW hS (S_X12_spelt l G F hx20) gs_X12_132 hd_X12_spelt.2 ⟨Nat.le_of_ble_eq_true rfl, Nat.le_of_ble_eq_true rfl⟩ rfl hl.1 rfl (Nat.le_of_ble_eq_true rfl) dX12_wordOf_233 ⟨Nat.le_refl _, Nat.le_refl _⟩ (fun H locs hW hS => ?_)
                      obtain rfl := so1 hE
                      exact s_lret hx hb hr hlocks hW hS dX12_wordOf_236
                    · replace hE := ite_f w19 hE
                      by_cases w21 : u0 = (10 : Int32)
                      · replace hE := ite_t w21 hE
                        have hi : (u0).toInt = 10 := by rw [w21]; rfl
                        refine lv_tableIn (off := 236) (tgt := 237) hx hb dX12_wordOf_1 (by rw [hi]; decide) (by rw [hi]; decide) (by rw [hi]; rfl) (by decide) ?_
                        refine lv_bipush (v := (97 : Int32)) hx hb dX12_wordOf_237 (by decide) ?_
                        refine lv_bipush (v := (110 : Int32)) hx hb dX12_wordOf_239 (by decide) ?_
                        refine lv_bipush (v := (100 : Int32)) hx hb dX12_wordOf_241 (by decide) ?_
                        refine lv_iconst (v := (0 : Int32)) hx hb dX12_wordOf_243 (by decide) ?_
                        refine lv_iconst (v := (0 : Int32)) hx hb dX12_wordOf_244 (by decide) ?_
                        obtain ⟨x22, hx22, hE⟩ := bd hE
                        refine s_callS (As := [.int (97 : Int32), .int (110 : Int32), .int (100 : Int32), .int (0 : Int32), .int (0 : Int32)]) (rest := []) CF hK hW hS (S_X12_spelt l G F hx22) gs_X12_132 hd_X12_spelt.2 ⟨Nat.le_of_ble_eq_true rfl, Nat.le_of_ble_eq_true rfl⟩ rfl hl.1 rfl (Nat.le_of_ble_eq_true rfl) dX12_wordOf_245 ⟨Nat.le_refl _, Nat.le_refl _⟩ (fun H locs hW hS => ?_)
                        obtain rfl := so1 hE
                        exact s_lret hx hb hr hlocks hW hS dX12_wordOf_248
                      · replace hE := ite_f w21 hE
                        by_cases w23 : u0 = (11 : Int32)
                        · replace hE := ite_t w23 hE
                          have hi : (u0).toInt = 11 := by rw [w23]; rfl
                          refine lv_tableIn (off := 248) (tgt := 249) hx hb dX12_wordOf_1 (by rw [hi]; decide) (by rw [hi]; decide) (by rw [hi]; rfl) (by decide) ?_
                          refine lv_bipush (v := (110 : Int32)) hx hb dX12_wordOf_249 (by decide) ?_
                          refine lv_bipush (v := (111 : Int32)) hx hb dX12_wordOf_251 (by decide) ?_
                          refine lv_bipush (v := (116 : Int32)) hx hb dX12_wordOf_253 (by decide) ?_
                          refine lv_iconst (v := (0 : Int32)) hx hb dX12_wordOf_255 (by decide) ?_
                          refine lv_iconst (v := (0 : Int32)) hx hb dX12_wordOf_256 (by decide) ?_
                          obtain ⟨x24, hx24, hE⟩ := bd hE
                          refine s_callS (As := [.int (110 : Int32), .int (111 : Int32), .int (116 : Int32), .int (0 : Int32), .int (0 : Int32)]) (rest := []) CF hK hW hS (S_X12_spelt l G F hx24) gs_X12_132 hd_X12_spelt.2 ⟨Nat.le_of_ble_eq_true rfl, Nat.le_of_ble_eq_true rfl⟩ rfl hl.1 rfl (Nat.le_of_ble_eq_true rfl) dX12_wordOf_257 ⟨Nat.le_refl _, Nat.le_refl _⟩ (fun H locs hW hS => ?_)
                          obtain rfl := so1 hE
                          exact s_lret hx hb hr hlocks hW hS dX12_wordOf_260
                        · replace hE := ite_f w23 hE
                          by_cases w25 : u0 = (12 : Int32)
                          · replace hE := ite_t w25 hE
                            have hi : (u0).toInt = 12 := by rw [w25]; rfl
                            refine lv_tableIn (off := 260) (tgt := 261) hx hb dX12_wordOf_1 (by rw [hi]; decide) (by rw [hi]; decide) (by rw [hi]; rfl) (by decide) ?_
                            refine lv_bipush (v := (119 : Int32)) hx hb dX12_wordOf_261 (by decide) ?_
                            refine lv_bipush (v := (104 : Int32)) hx hb dX12_wordOf_263 (by decide) ?_
                            refine lv_bipush (v := (111 : Int32)) hx hb dX12_wordOf_265 (by decide) ?_
                            refine lv_bipush (v := (108 : Int32)) hx hb dX12_wordOf_267 (by decide) ?_
                            refine lv_bipush (v := (101 : Int32)) hx hb dX12_wordOf_269 (by decide) ?_
                            obtain ⟨x26, hx26, hE⟩ := bd hE
                            refine s_callS (As := [.int (119 : Int32), .int (104 : Int32), .int (111 : Int32), .int (108 : Int32), .int (101 : Int32)]) (rest := []) CF hK hW hS (S_X12_spelt l G F hx26) gs_X12_132 hd_X12_spelt.2 ⟨Nat.le_of_ble_eq_true rfl, Nat.le_of_ble_eq_true rfl⟩ rfl hl.1 rfl (Nat.le_of_ble_eq_true rfl) dX12_wordOf_271 ⟨Nat.le_refl _, Nat.le_refl _⟩ (fun H locs hW hS => ?_)
                            obtain rfl := so1 hE
                            exact s_lret hx hb hr hlocks hW hS dX12_wordOf_274
                          · replace hE := ite_f w25 hE
                            by_cases w27 : u0 = (13 : Int32)
                            · replace hE := ite_t w27 hE
                              have hi : (u0).toInt = 13 := by rw [w27]; rfl
                              refine lv_tableIn (off := 274) (tgt := 275) hx hb dX12_wordOf_1 (by rw [hi]; decide) (by rw [hi]; decide) (by rw [hi]; rfl) (by decide) ?_
                              refine lv_bipush (v := (104 : Int32)) hx hb dX12_wordOf_275 (by decide) ?_
                              refine lv_bipush (v := (111 : Int32)) hx hb dX12_wordOf_277 (by decide) ?_
                              refine lv_bipush (v := (108 : Int32)) hx hb dX12_wordOf_279 (by decide) ?_
                              refine lv_bipush (v := (100 : Int32)) hx hb dX12_wordOf_281 (by decide) ?_
                              refine lv_bipush (v := (115 : Int32)) hx hb dX12_wordOf_283 (by decide) ?_
                              obtain ⟨x28, hx28, hE⟩ := bd hE
                              refine s_callS (As := [.int (104 : Int32), .int (111 : Int32), .int (108 : Int32), .int (100 : Int32), .int (115 : Int32)]) (rest := []) CF hK hW hS (S_X12_spelt l G F hx28) gs_X12_132 hd_X12_spelt.2 ⟨Nat.le_of_ble_eq_true rfl, Nat.le_of_ble_eq_true rfl⟩ rfl hl.1 rfl (Nat.le_of_ble_eq_true rfl) dX12_wordOf_285 ⟨Nat.le_refl _, Nat.le_refl _⟩ (fun H locs hW hS => ?_)
                              obtain rfl := so1 hE
                              exact s_lret hx hb hr hlocks hW hS dX12_wordOf_288
                            · replace hE := ite_f w27 hE
                              by_cases w29 : u0 = (14 : Int32)
                              · replace hE := ite_t w29 hE
                                have hi : (u0).toInt = 14 := by rw [w29]; rfl
                                refine lv_tableIn (off := 288) (tgt := 289) hx hb dX12_wordOf_1 (by rw [hi]; decide) (by rw [hi]; decide) (by rw [hi]; rfl) (by decide) ?_
                                refine lv_bipush (v := (104 : Int32)) hx hb dX12_wordOf_289 (by decide) ?_
                                refine lv_bipush (v := (97 : Int32)) hx hb dX12_wordOf_291 (by decide) ?_
                                refine lv_bipush (v := (115 : Int32)) hx hb dX12_wordOf_293 (by decide) ?_
                                refine lv_iconst (v := (0 : Int32)) hx hb dX12_wordOf_295 (by decide) ?_
                                refine lv_iconst (v := (0 : Int32)) hx hb dX12_wordOf_296 (by decide) ?_
                                obtain ⟨x30, hx30, hE⟩ := bd hE
                                refine s_callS (As := [.int (104 : Int32), .int (97 : Int32), .int (115 : Int32), .int (0 : Int32), .int (0 : Int32)]) (rest := []) CF hK hW hS (S_X12_spelt l G F hx30) gs_X12_132 hd_X12_spelt.2 ⟨Nat.le_of_ble_eq_true rfl, Nat.le_of_ble_eq_true rfl⟩ rfl hl.1 rfl (Nat.le_of_ble_eq_true rfl) dX12_wordOf_297 ⟨Nat.le_refl _, Nat.le_refl _⟩ (fun H locs hW hS => ?_)
                                obtain rfl := so1 hE
                                exact s_lret hx hb hr hlocks hW hS dX12_wordOf_300
                              · replace hE := ite_f w29 hE
                                by_cases w31 : u0 = (15 : Int32)
                                · replace hE := ite_t w31 hE
                                  have hi : (u0).toInt = 15 := by rw [w31]; rfl
                                  refine lv_tableIn (off := 300) (tgt := 301) hx hb dX12_wordOf_1 (by rw [hi]; decide) (by rw [hi]; decide) (by rw [hi]; rfl) (by decide) ?_
                                  refine lv_bipush (v := (97 : Int32)) hx hb dX12_wordOf_301 (by decide) ?_
                                  refine lv_bipush (v := (104 : Int32)) hx hb dX12_wordOf_303 (by decide) ?_
                                  refine lv_bipush (v := (101 : Int32)) hx hb dX12_wordOf_305 (by decide) ?_
                                  refine lv_bipush (v := (97 : Int32)) hx hb dX12_wordOf_307 (by decide) ?_
                                  refine lv_bipush (v := (100 : Int32)) hx hb dX12_wordOf_309 (by decide) ?_
                                  obtain ⟨x32, hx32, hE⟩ := bd hE
                                  refine s_callS (As := [.int (97 : Int32), .int (104 : Int32), .int (101 : Int32), .int (97 : Int32), .int (100 : Int32)]) (rest := []) CF hK hW hS (S_X12_spelt l G F hx32) gs_X12_132 hd_X12_spelt.2 ⟨Nat.le_of_ble_eq_true rfl, Nat.le_of_ble_eq_true rfl⟩ rfl hl.1 rfl (Nat.le_of_ble_eq_true rfl) dX12_wordOf_311 ⟨Nat.le_refl _, Nat.le_refl _⟩ (fun H locs hW hS => ?_)
                                  obtain rfl := so1 hE
                                  exact s_lret hx hb hr hlocks hW hS dX12_wordOf_314
                                · replace hE := ite_f w31 hE
                                  by_cases w33 : u0 = (16 : Int32)
                                  · replace hE := ite_t w33 hE
                                    have hi : (u0).toInt = 16 := by rw [w33]; rfl
                                    refine lv_tableIn (off := 314) (tgt := 315) hx hb dX12_wordOf_1 (by rw [hi]; decide) (by rw [hi]; decide) (by rw [hi]; rfl) (by decide) ?_
                                    refine lv_bipush (v := (102 : Int32)) hx hb dX12_wordOf_315 (by decide) ?_
                                    refine lv_bipush (v := (97 : Int32)) hx hb dX12_wordOf_317 (by decide) ?_
                                    refine lv_bipush (v := (114 : Int32)) hx hb dX12_wordOf_319 (by decide) ?_
                                    refine lv_iconst (v := (0 : Int32)) hx hb dX12_wordOf_321 (by decide) ?_
                                    refine lv_iconst (v := (0 : Int32)) hx hb dX12_wordOf_322 (by decide) ?_
                                    obtain ⟨x34, hx34, hE⟩ := bd hE
                                    refine s_callS (As := [.int (102 : Int32), .int (97 : Int32), .int (114 : Int32), .int (0 : Int32), .int (0 : Int32)]) (rest := []) CF hK hW hS (S_X12_spelt l G F hx34) gs_X12_132 hd_X12_spelt.2 ⟨Nat.le_of_ble_eq_true rfl, Nat.le_of_ble_eq_true rfl⟩ rfl hl.1 rfl (Nat.le_of_ble_eq_true rfl) dX12_wordOf_323 ⟨Nat.le_refl _, Nat.le_refl _⟩ (fun H locs hW hS => ?_)
                                    obtain rfl := so1 hE
                                    exact s_lret hx hb hr hlocks hW hS dX12_wordOf_326
                                  · replace hE := ite_f w33 hE
                                    by_cases w35 : u0 = (17 : Int32)
                                    · replace hE := ite_t w35 hE
                                      have hi : (u0).toInt = 17 := by rw [w35]; rfl
                                      refine lv_tableIn (off := 326) (tgt := 327) hx hb dX12_wordOf_1 (by rw [hi]; decide) (by rw [hi]; decide) (by rw [hi]; rfl) (by decide) ?_
                                      refine lv_bipush (v := (115 : Int32)) hx hb dX12_wordOf_327 (by decide) ?_
                                      refine lv_bipush (v := (116 : Int32)) hx hb dX12_wordOf_329 (by decide) ?_
                                      refine lv_bipush (v := (101 : Int32)) hx hb dX12_wordOf_331 (by decide) ?_
                                      refine lv_bipush (v := (112 : Int32)) hx hb dX12_wordOf_333 (by decide) ?_
                                      refine lv_bipush (v := (115 : Int32)) hx hb dX12_wordOf_335 (by decide) ?_
                                      obtain ⟨x36, hx36, hE⟩ := bd hE
                                      refine s_callS (As := [.int (115 : Int32), .int (116 : Int32), .int (101 : Int32), .int (112 : Int32), .int (115 : Int32)]) (rest := []) CF hK hW hS (S_X12_spelt l G F hx36) gs_X12_132 hd_X12_spelt.2 ⟨Nat.le_of_ble_eq_true rfl, Nat.le_of_ble_eq_true rfl⟩ rfl hl.1 rfl (Nat.le_of_ble_eq_true rfl) dX12_wordOf_337 ⟨Nat.le_refl _, Nat.le_refl _⟩ (fun H locs hW hS => ?_)
                                      obtain rfl := so1 hE
                                      exact s_lret hx hb hr hlocks hW hS dX12_wordOf_340
                                    · replace hE := ite_f w35 hE
                                      by_cases w37 : u0 = (18 : Int32)
                                      · replace hE := ite_t w37 hE
                                        have hi : (u0).toInt = 18 := by rw [w37]; rfl
                                        refine lv_tableIn (off := 340) (tgt := 341) hx hb dX12_wordOf_1 (by rw [hi]; decide) (by rw [hi]; decide) (by rw [hi]; rfl) (by decide) ?_
                                        refine lv_bipush (v := (115 : Int32)) hx hb dX12_wordOf_341 (by decide) ?_
                                        refine lv_bipush (v := (111 : Int32)) hx hb dX12_wordOf_343 (by decide) ?_
                                        refine lv_bipush (v := (110 : Int32)) hx hb dX12_wordOf_345 (by decide) ?_
                                        refine lv_bipush (v := (103 : Int32)) hx hb dX12_wordOf_347 (by decide) ?_
                                        refine lv_iconst (v := (0 : Int32)) hx hb dX12_wordOf_349 (by decide) ?_
                                        obtain ⟨x38, hx38, hE⟩ := bd hE
                                        refine s_callS (As := [.int (115 : Int32), .int (111 : Int32), .int (110 : Int32), .int (103 : Int32), .int (0 : Int32)]) (rest := []) CF hK hW hS (S_X12_spelt l G F hx38) gs_X12_132 hd_X12_spelt.2 ⟨Nat.le_of_ble_eq_true rfl, Nat.le_of_ble_eq_true rfl⟩ rfl hl.1 rfl (Nat.le_of_ble_eq_true rfl) dX12_wordOf_350 ⟨Nat.le_refl _, Nat.le_refl _⟩ (fun H locs hW hS => ?_)
                                        obtain rfl := so1 hE
                                        exact s_lret hx hb hr hlocks hW hS dX12_wordOf_353
                                      · replace hE := ite_f w37 hE
                                        replace w1 := lv_neT w1 (a := 0) rfl
                                        replace w3 := lv_neT w3 (a := 1) rfl
                                        replace w5 := lv_neT w5 (a := 2) rfl
                                        replace w7 := lv_neT w7 (a := 3) rfl
                                        replace w9 := lv_neT w9 (a := 4) rfl
                                        replace w11 := lv_neT w11 (a := 5) rfl
                                        replace w13 := lv_neT w13 (a := 6) rfl
                                        replace w15 := lv_neT w15 (a := 7) rfl
                                        replace w17 := lv_neT w17 (a := 8) rfl
                                        replace w19 := lv_neT w19 (a := 9) rfl
                                        replace w21 := lv_neT w21 (a := 10) rfl
                                        replace w23 := lv_neT w23 (a := 11) rfl
                                        replace w25 := lv_neT w25 (a := 12) rfl
                                        replace w27 := lv_neT w27 (a := 13) rfl
                                        replace w29 := lv_neT w29 (a := 14) rfl
                                        replace w31 := lv_neT w31 (a := 15) rfl
                                        replace w33 := lv_neT w33 (a := 16) rfl
                                        replace w35 := lv_neT w35 (a := 17) rfl
                                        replace w37 := lv_neT w37 (a := 18) rfl
                                        refine lv_tableOut (tgt := 354) hx hb dX12_wordOf_1 (by omega) (by decide) ?_
                                        refine lv_bipush (v := (115 : Int32)) hx hb dX12_wordOf_354 (by decide) ?_
                                        refine lv_bipush (v := (105 : Int32)) hx hb dX12_wordOf_356 (by decide) ?_
                                        refine lv_bipush (v := (122 : Int32)) hx hb dX12_wordOf_358 (by decide) ?_
                                        refine lv_bipush (v := (101 : Int32)) hx hb dX12_wordOf_360 (by decide) ?_
                                        refine lv_iconst (v := (0 : Int32)) hx hb dX12_wordOf_362 (by decide) ?_
                                        obtain ⟨x39, hx39, hE⟩ := bd hE
                                        refine s_callS (As := [.int (115 : Int32), .int (105 : Int32), .int (122 : Int32), .int (101 : Int32), .int (0 : Int32)]) (rest := []) CF hK hW hS (S_X12_spelt l G F hx39) gs_X12_132 hd_X12_spelt.2 ⟨Nat.le_of_ble_eq_true rfl, Nat.le_of_ble_eq_true rfl⟩ rfl hl.1 rfl (Nat.le_of_ble_eq_true rfl) dX12_wordOf_363 ⟨Nat.le_refl _, Nat.le_refl _⟩ (fun H locs hW hS => ?_)
                                        obtain rfl := so1 hE
                                        exact s_lret hx hb hr hlocks hW hS dX12_wordOf_366
set_option maxHeartbeats 4000000 in
set_option maxRecDepth 100000 in
theorem S_X12_isWord (l : Launch) (G : GG) (F : Nat) {u0 : Option Nat} {u1 : Int32} {f : Hp} {r : Int32} {n : Nat} (hE : m_X12_isWord F u0 u1 f = some r) : Ctr l G yX12_isWord cX12_isWord 2 (some .boolean) 2 46 [rr G u0, .int u1] f n (some (.int r)) f n 0 0 := by
  refine Met.ofW (cc := cX12_isWord) (maxL := 2) (ret := (some .boolean)) (by decide) rfl ?_
  intro p e s m args below meth c s₁ B hml hv
  obtain ⟨rfl, hK, hW⟩ := hv
  have hx := B.exec
  have hb := B.bytes
  have hr := B.returns
  have hts := atoms_spec (ws := wsO yX12_isWord cX12_isWord 2 (some .boolean)) B.pre
  have hT : ∀ w ∈ TB, w.before [rr G u0, .int u1].toArray s = true := fun w hw => hts w (List.mem_cons_of_mem _ hw)
  have hown : s.vm.findClass RX12 = some m.cls := findClass_of_methodNamed B.named
  have hlocks := B.notSynchronized
  have CF : CallFix p m c cX12_isWord 2 s [rr G u0, .int u1].toArray TB RX12 := ⟨hx, hb, hml, hown, hT⟩
  have hS : va_S (WA G) s.heap s.heap [] := va_S.rf
  have hl : lv_has (lg_sl ([rr G u0, .int u1]) ++ List.replicate (2 - (lg_sl ([rr G u0, .int u1])).length) Slot.unset).toArray 2 [(0, rr G u0), (1, .int u1)] := by cases u0 <;> exact lv_entry _ (Nat.le_of_ble_eq_true rfl)
  rw [lg_entry_eq]
  generalize (lg_sl ([rr G u0, .int u1]) ++ List.replicate (2 - (lg_sl ([rr G u0, .int u1])).length) Slot.unset).toArray = ls at hl ⊢
  refine s_aload_n hx hb dX12_isWord_0 rfl (lv_at hl 0 rfl) ?_
  obtain ⟨x1, hx1, hE⟩ := bd hE
  refine s_gI hx hb hT u_X12 hown hK hW hx1 rfl (by decide) fl_X12_104 rfl dX12_isWord_1 ?_
  refine lv_iconst (v := (2 : Int32)) hx hb dX12_isWord_4 (by decide) ?_
  refine lv_icmp_ne (tgt := 24) hx hb dX12_isWord_5 (by decide) (fun q2 => ?_) (fun q2 => ?_)
  · replace hE := ite_f q2 hE
    refine lv_iconst (v := (0 : Int32)) hx hb dX12_isWord_24 (by decide) ?_
    obtain ⟨c3, hE⟩ := ck hE
    obtain rfl := so1 hE
    exact s_zret hx hb hr c3 hlocks hW hS dX12_isWord_25
  · replace hE := ite_t q2 hE
    refine s_aload_n hx hb dX12_isWord_8 rfl (lv_at hl 0 rfl) ?_
    obtain ⟨x4, hx4, hE⟩ := bd hE
    refine s_gJ hx hb hT u_X12 hown hK hW hx4 rfl (by decide) fl_X12_117 rfl dX12_isWord_9 ?_
    refine lv_iload_n hx hb dX12_isWord_12 rfl (lv_at hl 1 rfl) ?_
    obtain ⟨x5, hx5, hE⟩ := bd hE
    refine s_callS (As := [.int u1]) (rest := [.long x4]) CF hK hW hS (S_X12_wordOf l G F hx5) gs_X12_138 hd_X12_wordOf.2 ⟨Nat.le_of_ble_eq_true rfl, Nat.le_of_ble_eq_true rfl⟩ rfl hl.1 rfl (Nat.le_of_ble_eq_true rfl) dX12_isWord_13 ⟨Nat.le_refl _, Nat.le_refl _⟩ (fun H locs hW hS => ?_)
    refine W.lcmp hx hb dX12_isWord_16 ?_
    refine lv_if_ne (tgt := 24) hx hb dX12_isWord_17 (by decide) (fun q6 => ?_) (fun q6 => ?_)
    · replace hE := ite_f q6 hE
      refine lv_iconst (v := (0 : Int32)) hx hb dX12_isWord_24 (by decide) ?_
      obtain ⟨c7, hE⟩ := ck hE
      obtain rfl := so1 hE
      exact s_zret hx hb hr c7 hlocks hW hS dX12_isWord_25
    · replace hE := ite_t q6 hE
      refine lv_iconst (v := (1 : Int32)) hx hb dX12_isWord_20 (by decide) ?_
      refine lv_goto (tgt := 25) hx hb dX12_isWord_21 (by decide) ?_
      obtain ⟨c8, hE⟩ := ck hE
      obtain rfl := so1 hE
      exact s_zret hx hb hr c8 hlocks hW hS dX12_isWord_25
set_option maxHeartbeats 4000000 in
set_option maxRecDepth 100000 in
theorem S_X12_readNumber (l : Launch) (G : GG) (F : Nat) {u0 : Option Nat} {u1 : Int32} {u2 : Int32} {f : Hp} {r : Int32} {f' : Hp} {n : Nat} (hE : m_X12_readNumber F u0 u1 u2 f = some (r, f')) : Ctr l G yX12_readNumber cX12_readNumber 3 (some .boolean) 2 45 [rr G u0, .int u1, .int u2] f n (some (.int r)) f' n 0 0 := by
  refine Met.ofW (cc := cX12_readNumber) (maxL := 3) (ret := (some .boolean)) (by decide) rfl ?_
  intro p e s m args below meth c s₁ B hml hv
  obtain ⟨rfl, hK, hW⟩ := hv
  have hx := B.exec
  have hb := B.bytes
  have hr := B.returns
  have hts := atoms_spec (ws := wsO yX12_readNumber cX12_readNumber 3 (some .boolean)) B.pre
  have hT : ∀ w ∈ TB, w.before [rr G u0, .int u1, .int u2].toArray s = true := fun w hw => hts w (List.mem_cons_of_mem _ hw)
  have hown : s.vm.findClass RX12 = some m.cls := findClass_of_methodNamed B.named
  have hlocks := B.notSynchronized
  have CF : CallFix p m c cX12_readNumber 3 s [rr G u0, .int u1, .int u2].toArray TB RX12 := ⟨hx, hb, hml, hown, hT⟩
  have hS : va_S (WA G) s.heap s.heap [] := va_S.rf
  have hl : lv_has (lg_sl ([rr G u0, .int u1, .int u2]) ++ List.replicate (3 - (lg_sl ([rr G u0, .int u1, .int u2])).length) Slot.unset).toArray 3 [(0, rr G u0), (1, .int u1), (2, .int u2)] := by cases u0 <;> exact lv_entry _ (Nat.le_of_ble_eq_true rfl)
  rw [lg_entry_eq]
  generalize (lg_sl ([rr G u0, .int u1, .int u2]) ++ List.replicate (3 - (lg_sl ([rr G u0, .int u1, .int u2])).length) Slot.unset).toArray = ls at hl ⊢
  refine s_aload_n hx hb dX12_readNumber_0 rfl (lv_at hl 0 rfl) ?_
  obtain ⟨x1, hx1, hE⟩ := bd hE
  refine s_gI hx hb hT u_X12 hown hK hW hx1 rfl (by decide) fl_X12_104 rfl dX12_readNumber_1 ?_
  refine lv_iconst (v := (3 : Int32)) hx hb dX12_readNumber_4 (by decide) ?_
  refine lv_icmp_eq (tgt := 14) hx hb dX12_readNumber_5 (by decide) (fun q2 => ?_) (fun q2 => ?_)
  · replace hE := ite_t q2 hE
    refine s_aload_n hx hb dX12_readNumber_14 rfl (lv_at hl 0 rfl) ?_
    obtain ⟨x3, hx3, hE⟩ := bd hE
    refine s_gI hx hb hT u_X12 hown hK hW hx3 rfl (by decide) fl_X12_121 rfl dX12_readNumber_15 ?_
    refine lv_iload_n hx hb dX12_readNumber_18 rfl (lv_at hl 1 rfl) ?_
    refine lv_iload_n hx hb dX12_readNumber_19 rfl (lv_at hl 2 rfl) ?_
    obtain ⟨x4, hx4, hE⟩ := bd hE
    refine s_callS (As := [.int x3, .int u1, .int u2]) (rest := []) CF hK hW hS (S_X12_isIn l G F hx4) gs_X12_151 hd_X12_isIn.2 ⟨Nat.le_of_ble_eq_true rfl, Nat.le_of_ble_eq_true rfl⟩ rfl hl.1 rfl (Nat.le_of_ble_eq_true rfl) dX12_readNumber_20 ⟨Nat.le_refl _, Nat.le_refl _⟩ (fun H locs hW hS => ?_)
    refine lv_if_ne (tgt := 32) hx hb dX12_readNumber_23 (by decide) (fun q5 => ?_) (fun q5 => ?_)
    · replace hE := ite_f q5 hE
      refine s_aload_n hx hb dX12_readNumber_32 rfl (lv_at hl 0 rfl) ?_
      refine s_aload_n hx hb dX12_readNumber_33 rfl (lv_at hl 0 rfl) ?_
      obtain ⟨x6, hx6, hE⟩ := bd hE
      refine s_gI hx hb hT u_X12 hown hK hW hx6 rfl (by decide) fl_X12_121 rfl dX12_readNumber_34 ?_
      obtain ⟨f7, hf7, hE⟩ := bd hE
      refine s_putI hx hb hT u_X12 tyX12 tyX12_ok nmX12 hown hK hW hS hf7 rfl (by decide) fl_X12_155 rfl (Or.inl rfl) rfl dX12_readNumber_37 (fun H locs hW hS => ?_)
      refine s_aload_n hx hb dX12_readNumber_40 rfl (lv_at hl 0 rfl) ?_
      obtain ⟨c8, hE⟩ := ck hE
      obtain ⟨f9, hf9, hE⟩ := bd hE
      refine s_callV (As := []) (rest := []) CF hK hW hS (S_X12_go l G F hf9) c8 rfl gv_X12_158 hd_X12_go ⟨Nat.le_of_ble_eq_true rfl, Nat.le_of_ble_eq_true rfl⟩ rfl hl.1 rfl (Nat.le_of_ble_eq_true rfl) dX12_readNumber_41 ⟨Nat.le_refl _, Nat.le_refl _⟩ (fun H locs hW hS => ?_)
      refine lv_iconst (v := (1 : Int32)) hx hb dX12_readNumber_44 (by decide) ?_
      obtain ⟨c10, hE⟩ := ck hE
      obtain ⟨rfl, rfl⟩ := so2 hE
      exact s_zret hx hb hr c10 hlocks hW hS dX12_readNumber_45
    · replace hE := ite_t q5 hE
      refine s_aload_n hx hb dX12_readNumber_26 rfl (lv_at hl 0 rfl) ?_
      refine lv_iconst (v := (2 : Int32)) hx hb dX12_readNumber_27 (by decide) ?_
      obtain ⟨c11, hE⟩ := ck hE
      obtain ⟨x12, f13, hx12, hE⟩ := bd2_of hE
      refine s_callV (As := [.int (2 : Int32)]) (rest := []) CF hK hW hS (S_X12_bad l G F hx12) c11 rfl gv_X12_148 hd_X12_bad ⟨Nat.le_of_ble_eq_true rfl, Nat.le_of_ble_eq_true rfl⟩ rfl hl.1 rfl (Nat.le_of_ble_eq_true rfl) dX12_readNumber_28 ⟨Nat.le_refl _, Nat.le_refl _⟩ (fun H locs hW hS => ?_)
      obtain ⟨c14, hE⟩ := ck hE
      obtain ⟨rfl, rfl⟩ := so2 hE
      exact s_zret hx hb hr c14 hlocks hW hS dX12_readNumber_31
  · replace hE := ite_f q2 hE
    refine s_aload_n hx hb dX12_readNumber_8 rfl (lv_at hl 0 rfl) ?_
    refine lv_iconst (v := (1 : Int32)) hx hb dX12_readNumber_9 (by decide) ?_
    obtain ⟨c15, hE⟩ := ck hE
    obtain ⟨x16, f17, hx16, hE⟩ := bd2_of hE
    refine s_callV (As := [.int (1 : Int32)]) (rest := []) CF hK hW hS (S_X12_bad l G F hx16) c15 rfl gv_X12_148 hd_X12_bad ⟨Nat.le_of_ble_eq_true rfl, Nat.le_of_ble_eq_true rfl⟩ rfl hl.1 rfl (Nat.le_of_ble_eq_true rfl) dX12_readNumber_10 ⟨Nat.le_refl _, Nat.le_refl _⟩ (fun H locs hW hS => ?_)
    obtain ⟨c18, hE⟩ := ck hE
    obtain ⟨rfl, rfl⟩ := so2 hE
    exact s_zret hx hb hr c18 hlocks hW hS dX12_readNumber_13
set_option maxHeartbeats 4000000 in
set_option maxRecDepth 100000 in
theorem S_X12_readLines (l : Launch) (G : GG) (F : Nat) {u0 : Option Nat} {f : Hp} {r : Int32} {f' : Hp} {n : Nat} (hE : m_X12_readLines F u0 f = some (r, f')) : Ctr l G yX12_readLines cX12_readLines 1 (some .boolean) 3 67 [rr G u0] f n (some (.int r)) f' n 0 0 := by
  refine Met.ofW (cc := cX12_readLines) (maxL := 1) (ret := (some .boolean)) (by decide) rfl ?_
  intro p e s m args below meth c s₁ B hml hv
  obtain ⟨rfl, hK, hW⟩ := hv
  have hx := B.exec
  have hb := B.bytes
  have hr := B.returns
  have hts := atoms_spec (ws := wsO yX12_readLines cX12_readLines 1 (some .boolean)) B.pre
  have hT : ∀ w ∈ TB, w.before [rr G u0].toArray s = true := fun w hw => hts w (List.mem_cons_of_mem _ hw)
  have hown : s.vm.findClass RX12 = some m.cls := findClass_of_methodNamed B.named
  have hlocks := B.notSynchronized
  have CF : CallFix p m c cX12_readLines 1 s [rr G u0].toArray TB RX12 := ⟨hx, hb, hml, hown, hT⟩
  have hS : va_S (WA G) s.heap s.heap [] := va_S.rf
  have hl : lv_has (lg_sl ([rr G u0]) ++ List.replicate (1 - (lg_sl ([rr G u0])).length) Slot.unset).toArray 1 [(0, rr G u0)] := by cases u0 <;> exact lv_entry _ (Nat.le_of_ble_eq_true rfl)
  rw [lg_entry_eq]
  generalize (lg_sl ([rr G u0]) ++ List.replicate (1 - (lg_sl ([rr G u0])).length) Slot.unset).toArray = ls at hl ⊢
  refine s_aload_n hx hb dX12_readLines_0 rfl (lv_at hl 0 rfl) ?_
  obtain ⟨x1, hx1, hE⟩ := bd hE
  refine s_gI hx hb hT u_X12 hown hK hW hx1 rfl (by decide) fl_X12_214 rfl dX12_readLines_1 ?_
  refine lv_if_eq (tgt := 13) hx hb dX12_readLines_4 (by decide) (fun q2 => ?_) (fun q2 => ?_)
  · replace hE := ite_t q2 hE
    refine s_aload_n hx hb dX12_readLines_13 rfl (lv_at hl 0 rfl) ?_
    obtain ⟨c3, hE⟩ := ck hE
    obtain ⟨f4, hf4, hE⟩ := bd hE
    refine s_callV (As := []) (rest := []) CF hK hW hS (S_X12_go l G F hf4) c3 rfl gv_X12_158 hd_X12_go ⟨Nat.le_of_ble_eq_true rfl, Nat.le_of_ble_eq_true rfl⟩ rfl hl.1 rfl (Nat.le_of_ble_eq_true rfl) dX12_readLines_14 ⟨Nat.le_refl _, Nat.le_refl _⟩ (fun H locs hW hS => ?_)
    refine s_aload_n hx hb dX12_readLines_17 rfl (lv_at hl 0 rfl) ?_
    refine lv_iconst (v := (2 : Int32)) hx hb dX12_readLines_18 (by decide) ?_
    refine lv_bipush (v := (7 : Int32)) hx hb dX12_readLines_19 (by decide) ?_
    obtain ⟨c5, hE⟩ := ck hE
    obtain ⟨x6, f7, hx6, hE⟩ := bd2_of hE
    refine s_callV (As := [.int (2 : Int32), .int (7 : Int32)]) (rest := []) CF hK hW hS (S_X12_readNumber l G F hx6) c5 rfl gv_X12_205 hd_X12_readNumber ⟨Nat.le_of_ble_eq_true rfl, Nat.le_of_ble_eq_true rfl⟩ rfl hl.1 rfl (Nat.le_of_ble_eq_true rfl) dX12_readLines_21 ⟨Nat.le_refl _, Nat.le_refl _⟩ (fun H locs hW hS => ?_)
    refine lv_if_ne (tgt := 29) hx hb dX12_readLines_24 (by decide) (fun q8 => ?_) (fun q8 => ?_)
    · replace hE := ite_f q8 hE
      refine s_aload_n hx hb dX12_readLines_29 rfl (lv_at hl 0 rfl) ?_
      obtain ⟨x9, hx9, hE⟩ := bd hE
      refine s_gR hx hb hT u_X12 hown hK hW hx9 rfl (by decide) fl_X12_16 rfl dX12_readLines_30 ?_
      refine lv_iconst (v := (0 : Int32)) hx hb dX12_readLines_33 (by decide) ?_
      refine s_aload_n hx hb dX12_readLines_34 rfl (lv_at hl 0 rfl) ?_
      obtain ⟨x10, hx10, hE⟩ := bd hE
      refine s_gI hx hb hT u_X12 hown hK hW hx10 rfl (by decide) fl_X12_155 rfl dX12_readLines_35 ?_
      obtain ⟨f11, hf11, hE⟩ := bd hE
      refine s_stI hx hb hK hW hS hf11 dX12_readLines_38 (fun H locs hW hS => ?_)
      refine lv_iconst (v := (1 : Int32)) hx hb dX12_readLines_39 (by decide) ?_
      obtain ⟨c12, hE⟩ := ck hE
      obtain ⟨rfl, rfl⟩ := so2 hE
      exact s_zret hx hb hr c12 hlocks hW hS dX12_readLines_40
    · replace hE := ite_t q8 hE
      refine lv_iconst (v := (0 : Int32)) hx hb dX12_readLines_27 (by decide) ?_
      obtain ⟨c13, hE⟩ := ck hE
      obtain ⟨rfl, rfl⟩ := so2 hE
      exact s_zret hx hb hr c13 hlocks hW hS dX12_readLines_28
  · replace hE := ite_f q2 hE
    refine s_aload_n hx hb dX12_readLines_7 rfl (lv_at hl 0 rfl) ?_
    refine lv_iconst (v := (3 : Int32)) hx hb dX12_readLines_8 (by decide) ?_
    obtain ⟨c14, hE⟩ := ck hE
    obtain ⟨x15, f16, hx15, hE⟩ := bd2_of hE
    refine s_callV (As := [.int (3 : Int32)]) (rest := []) CF hK hW hS (S_X12_bad l G F hx15) c14 rfl gv_X12_148 hd_X12_bad ⟨Nat.le_of_ble_eq_true rfl, Nat.le_of_ble_eq_true rfl⟩ rfl hl.1 rfl (Nat.le_of_ble_eq_true rfl) dX12_readLines_9 ⟨Nat.le_refl _, Nat.le_refl _⟩ (fun H locs hW hS => ?_)
    obtain ⟨c17, hE⟩ := ck hE
    obtain ⟨rfl, rfl⟩ := so2 hE
    exact s_zret hx hb hr c17 hlocks hW hS dX12_readLines_12
set_option maxHeartbeats 4000000 in
set_option maxRecDepth 100000 in
theorem S_X12_isName (l : Launch) (G : GG) (F : Nat) {u0 : Option Nat} {f : Hp} {r : Int32} {n : Nat} (hE : m_X12_isName F u0 f = some r) : Ctr l G yX12_isName cX12_isName 2 (some .boolean) 2 46 [rr G u0] f n (some (.int r)) f n 0 0 := by
  refine Met.ofW (cc := cX12_isName) (maxL := 2) (ret := (some .boolean)) (by decide) rfl ?_
  intro p e s m args below meth c s₁ B hml hv
  obtain ⟨rfl, hK, hW⟩ := hv
  have hx := B.exec
  have hb := B.bytes
  have hr := B.returns
  have hts := atoms_spec (ws := wsO yX12_isName cX12_isName 2 (some .boolean)) B.pre
  have hT : ∀ w ∈ TB, w.before [rr G u0].toArray s = true := fun w hw => hts w (List.mem_cons_of_mem _ hw)
  have hown : s.vm.findClass RX12 = some m.cls := findClass_of_methodNamed B.named
  have hlocks := B.notSynchronized
  have CF : CallFix p m c cX12_isName 2 s [rr G u0].toArray TB RX12 := ⟨hx, hb, hml, hown, hT⟩
  have hS : va_S (WA G) s.heap s.heap [] := va_S.rf
  have hl : lv_has (lg_sl ([rr G u0]) ++ List.replicate (2 - (lg_sl ([rr G u0])).length) Slot.unset).toArray 2 [(0, rr G u0)] := by cases u0 <;> exact lv_entry _ (Nat.le_of_ble_eq_true rfl)
  rw [lg_entry_eq]
  generalize (lg_sl ([rr G u0]) ++ List.replicate (2 - (lg_sl ([rr G u0])).length) Slot.unset).toArray = ls at hl ⊢
  have hC12 : ∀ (k12 : Nat), ∀ (v0 : Option Nat) (v1 : Int32) (H : Heap) (locs : List Loc) (ls : Array Slot), m_X12_isName_L12 F k12 v0 v1 f = some r → Wd G f n H → va_S (WA G) s.heap H locs → lv_has ls 2 [(0, rr G v0), (1, .int v1)] → W p l e (headSpec (wsO yX12_isName cX12_isName 2 (some .boolean)) { frames := 2, cells := 0, slots := 0, locals := 46 }).room s m [rr G u0].toArray below meth c H locs 0 0 (MQ below (Qcn G (some (.int r)) f n) [rr G u0].toArray s 0 0 (WA G)) (F0 m 12 ls []) := by
    intro k12
    induction k12 with
    | zero => intro v0 v1 H locs ls hE _ _ _; cases (show (none : Option Int32) = some r from hE)
    | succ k12 ih12 =>
      intro v0 v1 H locs ls hE hW hS hl
      replace hE : m_X12_isName_b12 F (m_X12_isName_L12 F k12) v0 v1 f = some r := hE
      refine lv_iload_n hx hb dX12_isName_12 rfl (lv_at hl 1 rfl) ?_
      refine lv_bipush (v := (19 : Int32)) hx hb dX12_isName_13 (by decide) ?_
      refine lv_icmp_gt (tgt := 38) hx hb dX12_isName_15 (by decide) (fun q1 => ?_) (fun q1 => ?_)
      · replace hE := ite_t q1 hE
        refine lv_iconst (v := (1 : Int32)) hx hb dX12_isName_38 (by decide) ?_
        obtain ⟨c2, hE⟩ := ck hE
        obtain rfl := so1 hE
        exact s_zret hx hb hr c2 hlocks hW hS dX12_isName_39
      · replace hE := ite_f q1 hE
        refine s_aload_n hx hb dX12_isName_18 rfl (lv_at hl 0 rfl) ?_
        obtain ⟨x3, hx3, hE⟩ := bd hE
        refine s_gJ hx hb hT u_X12 hown hK hW hx3 rfl (by decide) fl_X12_117 rfl dX12_isName_19 ?_
        refine lv_iload_n hx hb dX12_isName_22 rfl (lv_at hl 1 rfl) ?_
        obtain ⟨x4, hx4, hE⟩ := bd hE
        refine s_callS (As := [.int v1]) (rest := [.long x3]) CF hK hW hS (S_X12_wordOf l G F hx4) gs_X12_138 hd_X12_wordOf.2 ⟨Nat.le_of_ble_eq_true rfl, Nat.le_of_ble_eq_true rfl⟩ rfl hl.1 rfl (Nat.le_of_ble_eq_true rfl) dX12_isName_23 ⟨Nat.le_refl _, Nat.le_refl _⟩ (fun H locs hW hS => ?_)
        refine W.lcmp hx hb dX12_isName_26 ?_
        refine lv_if_ne (tgt := 32) hx hb dX12_isName_27 (by decide) (fun q5 => ?_) (fun q5 => ?_)
        · replace hE := ite_f q5 hE
          obtain ⟨y6, ey6⟩ : ∃ y : Int32, y = v1 + (1 : Int32) := ⟨_, rfl⟩
          replace hE := nm_o ey6 hE
          refine lv_iinc (k := 1) (v := y6) (lv' := [(1, .int y6), (0, rr G v0)]) hx hb dX12_isName_32 hl rfl (by rw [ey6]; rfl) (by decide) (by simp [cat_rr]) (fun ls hl => ?_)
          refine lv_goto (tgt := 12) hx hb dX12_isName_35 (by decide) ?_
          exact ih12 _ _ _ _ _ hE hW hS (lv_sub hl [1, 0] rfl)
        · replace hE := ite_t q5 hE
          refine lv_iconst (v := (0 : Int32)) hx hb dX12_isName_30 (by decide) ?_
          obtain ⟨c7, hE⟩ := ck hE
          obtain rfl := so1 hE
          exact s_zret hx hb hr c7 hlocks hW hS dX12_isName_31
  refine s_aload_n hx hb dX12_isName_0 rfl (lv_at hl 0 rfl) ?_
  obtain ⟨x8, hx8, hE⟩ := bd hE
  refine s_gI hx hb hT u_X12 hown hK hW hx8 rfl (by decide) fl_X12_104 rfl dX12_isName_1 ?_
  refine lv_iconst (v := (2 : Int32)) hx hb dX12_isName_4 (by decide) ?_
  refine lv_icmp_eq (tgt := 10) hx hb dX12_isName_5 (by decide) (fun q9 => ?_) (fun q9 => ?_)
  · replace hE := ite_t q9 hE
    refine lv_iconst (v := (0 : Int32)) hx hb dX12_isName_10 (by decide) ?_
    refine lv_istore_n (i := 1) (lv' := [(1, .int (0 : Int32)), (0, rr G u0)]) hx hb dX12_isName_11 rfl hl (by decide) (by simp [cat_rr]) (fun ls hl => ?_)
    exact hC12 F _ _ _ _ _ hE hW hS (lv_sub hl [1, 0] rfl)
  · replace hE := ite_f q9 hE
    refine lv_iconst (v := (0 : Int32)) hx hb dX12_isName_8 (by decide) ?_
    obtain ⟨c10, hE⟩ := ck hE
    obtain rfl := so1 hE
    exact s_zret hx hb hr c10 hlocks hW hS dX12_isName_9
set_option maxHeartbeats 4000000 in
set_option maxRecDepth 100000 in
theorem S_X12_readNew (l : Launch) (G : GG) (F : Nat) {u0 : Option Nat} {u1 : Int32} {f : Hp} {r : Int32} {f' : Hp} {n : Nat} (hE : m_X12_readNew F u0 u1 f = some (r, f')) : Ctr l G yX12_readNew cX12_readNew 2 (some .boolean) 3 67 [rr G u0, .int u1] f n (some (.int r)) f' n 0 0 := by
  refine Met.ofW (cc := cX12_readNew) (maxL := 2) (ret := (some .boolean)) (by decide) rfl ?_
  intro p e s m args below meth c s₁ B hml hv
  obtain ⟨rfl, hK, hW⟩ := hv
  have hx := B.exec
  have hb := B.bytes
  have hr := B.returns
  have hts := atoms_spec (ws := wsO yX12_readNew cX12_readNew 2 (some .boolean)) B.pre
  have hT : ∀ w ∈ TB, w.before [rr G u0, .int u1].toArray s = true := fun w hw => hts w (List.mem_cons_of_mem _ hw)
  have hown : s.vm.findClass RX12 = some m.cls := findClass_of_methodNamed B.named
  have hlocks := B.notSynchronized
  have CF : CallFix p m c cX12_readNew 2 s [rr G u0, .int u1].toArray TB RX12 := ⟨hx, hb, hml, hown, hT⟩
  have hS : va_S (WA G) s.heap s.heap [] := va_S.rf
  have hl : lv_has (lg_sl ([rr G u0, .int u1]) ++ List.replicate (2 - (lg_sl ([rr G u0, .int u1])).length) Slot.unset).toArray 2 [(0, rr G u0), (1, .int u1)] := by cases u0 <;> exact lv_entry _ (Nat.le_of_ble_eq_true rfl)
  rw [lg_entry_eq]
  generalize (lg_sl ([rr G u0, .int u1]) ++ List.replicate (2 - (lg_sl ([rr G u0, .int u1])).length) Slot.unset).toArray = ls at hl ⊢
  refine s_aload_n hx hb dX12_readNew_0 rfl (lv_at hl 0 rfl) ?_
  obtain ⟨c1, hE⟩ := ck hE
  obtain ⟨x2, hx2, hE⟩ := bd hE
  refine s_callV (As := []) (rest := []) CF hK hW hS (S_X12_isName l G F hx2) c1 rfl gv_X12_188 hd_X12_isName ⟨Nat.le_of_ble_eq_true rfl, Nat.le_of_ble_eq_true rfl⟩ rfl hl.1 rfl (Nat.le_of_ble_eq_true rfl) dX12_readNew_1 ⟨Nat.le_refl _, Nat.le_refl _⟩ (fun H locs hW hS => ?_)
  refine lv_if_ne (tgt := 13) hx hb dX12_readNew_4 (by decide) (fun q3 => ?_) (fun q3 => ?_)
  · replace hE := ite_f q3 hE
    refine s_aload_n hx hb dX12_readNew_13 rfl (lv_at hl 0 rfl) ?_
    obtain ⟨c4, hE⟩ := ck hE
    obtain ⟨x5, hx5, hE⟩ := bd hE
    refine s_callV (As := []) (rest := []) CF hK hW hS (S_X12_findRead l G F hx5) c4 rfl gv_X12_192 hd_X12_findRead ⟨Nat.le_of_ble_eq_true rfl, Nat.le_of_ble_eq_true rfl⟩ rfl hl.1 rfl (Nat.le_of_ble_eq_true rfl) dX12_readNew_14 ⟨Nat.le_refl _, Nat.le_refl _⟩ (fun H locs hW hS => ?_)
    refine lv_iconst (v := (-1 : Int32)) hx hb dX12_readNew_17 (by decide) ?_
    refine lv_icmp_eq (tgt := 27) hx hb dX12_readNew_18 (by decide) (fun q6 => ?_) (fun q6 => ?_)
    · replace hE := ite_t q6 hE
      refine s_aload_n hx hb dX12_readNew_27 rfl (lv_at hl 0 rfl) ?_
      obtain ⟨x7, hx7, hE⟩ := bd hE
      refine s_gR hx hb hT u_X12 hown hK hW hx7 rfl (by decide) fl_X12_26 rfl dX12_readNew_28 ?_
      refine lv_iload_n hx hb dX12_readNew_31 rfl (lv_at hl 1 rfl) ?_
      refine s_aload_n hx hb dX12_readNew_32 rfl (lv_at hl 0 rfl) ?_
      obtain ⟨x8, hx8, hE⟩ := bd hE
      refine s_gJ hx hb hT u_X12 hown hK hW hx8 rfl (by decide) fl_X12_117 rfl dX12_readNew_33 ?_
      obtain ⟨f9, hf9, hE⟩ := bd hE
      refine s_stJ hx hb hK hW hS hf9 dX12_readNew_36 (fun H locs hW hS => ?_)
      refine s_aload_n hx hb dX12_readNew_37 rfl (lv_at hl 0 rfl) ?_
      obtain ⟨c10, hE⟩ := ck hE
      obtain ⟨f11, hf11, hE⟩ := bd hE
      refine s_callV (As := []) (rest := []) CF hK hW hS (S_X12_go l G F hf11) c10 rfl gv_X12_158 hd_X12_go ⟨Nat.le_of_ble_eq_true rfl, Nat.le_of_ble_eq_true rfl⟩ rfl hl.1 rfl (Nat.le_of_ble_eq_true rfl) dX12_readNew_38 ⟨Nat.le_refl _, Nat.le_refl _⟩ (fun H locs hW hS => ?_)
      refine lv_iconst (v := (1 : Int32)) hx hb dX12_readNew_41 (by decide) ?_
      obtain ⟨c12, hE⟩ := ck hE
      obtain ⟨rfl, rfl⟩ := so2 hE
      exact s_zret hx hb hr c12 hlocks hW hS dX12_readNew_42
    · replace hE := ite_f q6 hE
      refine s_aload_n hx hb dX12_readNew_21 rfl (lv_at hl 0 rfl) ?_
      refine lv_iconst (v := (3 : Int32)) hx hb dX12_readNew_22 (by decide) ?_
      obtain ⟨c13, hE⟩ := ck hE
      obtain ⟨x14, f15, hx14, hE⟩ := bd2_of hE
      refine s_callV (As := [.int (3 : Int32)]) (rest := []) CF hK hW hS (S_X12_bad l G F hx14) c13 rfl gv_X12_148 hd_X12_bad ⟨Nat.le_of_ble_eq_true rfl, Nat.le_of_ble_eq_true rfl⟩ rfl hl.1 rfl (Nat.le_of_ble_eq_true rfl) dX12_readNew_23 ⟨Nat.le_refl _, Nat.le_refl _⟩ (fun H locs hW hS => ?_)
      obtain ⟨c16, hE⟩ := ck hE
      obtain ⟨rfl, rfl⟩ := so2 hE
      exact s_zret hx hb hr c16 hlocks hW hS dX12_readNew_26
  · replace hE := ite_t q3 hE
    refine s_aload_n hx hb dX12_readNew_7 rfl (lv_at hl 0 rfl) ?_
    refine lv_iconst (v := (1 : Int32)) hx hb dX12_readNew_8 (by decide) ?_
    obtain ⟨c17, hE⟩ := ck hE
    obtain ⟨x18, f19, hx18, hE⟩ := bd2_of hE
    refine s_callV (As := [.int (1 : Int32)]) (rest := []) CF hK hW hS (S_X12_bad l G F hx18) c17 rfl gv_X12_148 hd_X12_bad ⟨Nat.le_of_ble_eq_true rfl, Nat.le_of_ble_eq_true rfl⟩ rfl hl.1 rfl (Nat.le_of_ble_eq_true rfl) dX12_readNew_9 ⟨Nat.le_refl _, Nat.le_refl _⟩ (fun H locs hW hS => ?_)
    obtain ⟨c20, hE⟩ := ck hE
    obtain ⟨rfl, rfl⟩ := so2 hE
    exact s_zret hx hb hr c20 hlocks hW hS dX12_readNew_12
set_option maxHeartbeats 4000000 in
set_option maxRecDepth 100000 in
theorem S_X12_readCopy (l : Launch) (G : GG) (F : Nat) {u0 : Option Nat} {f : Hp} {r : Int32} {f' : Hp} {n : Nat} (hE : m_X12_readCopy F u0 f = some (r, f')) : Ctr l G yX12_readCopy cX12_readCopy 6 (some .boolean) 4 88 [rr G u0] f n (some (.int r)) f' n 0 0 := by
  refine Met.ofW (cc := cX12_readCopy) (maxL := 6) (ret := (some .boolean)) (by decide) rfl ?_
  intro p e s m args below meth c s₁ B hml hv
  obtain ⟨rfl, hK, hW⟩ := hv
  have hx := B.exec
  have hb := B.bytes
  have hr := B.returns
  have hts := atoms_spec (ws := wsO yX12_readCopy cX12_readCopy 6 (some .boolean)) B.pre
  have hT : ∀ w ∈ TB, w.before [rr G u0].toArray s = true := fun w hw => hts w (List.mem_cons_of_mem _ hw)
  have hown : s.vm.findClass RX12 = some m.cls := findClass_of_methodNamed B.named
  have hlocks := B.notSynchronized
  have CF : CallFix p m c cX12_readCopy 6 s [rr G u0].toArray TB RX12 := ⟨hx, hb, hml, hown, hT⟩
  have hS : va_S (WA G) s.heap s.heap [] := va_S.rf
  have hl : lv_has (lg_sl ([rr G u0]) ++ List.replicate (6 - (lg_sl ([rr G u0])).length) Slot.unset).toArray 6 [(0, rr G u0)] := by cases u0 <;> exact lv_entry _ (Nat.le_of_ble_eq_true rfl)
  rw [lg_entry_eq]
  generalize (lg_sl ([rr G u0]) ++ List.replicate (6 - (lg_sl ([rr G u0])).length) Slot.unset).toArray = ls at hl ⊢
  have hC141 : ∀ (v0 : Option Nat) (v2 : Int32) (fa : Hp) (H : Heap) (locs : List Loc) (ls : Array Slot), m_X12_readCopy_B141 F v0 v2 fa = some (r, f') → Wd G fa n H → va_S (WA G) s.heap H locs → lv_has ls 6 [(0, rr G v0), (2, .int v2)] → W p l e (headSpec (wsO yX12_readCopy cX12_readCopy 6 (some .boolean)) { frames := 4, cells := 0, slots := 0, locals := 88 }).room s m [rr G u0].toArray below meth c H locs 0 0 (MQ below (Qcn G (some (.int r)) f' n) [rr G u0].toArray s 0 0 (WA G)) (F0 m 141 ls []) := by
    intro v0 v2 fa H locs ls hE hW hS hl
    refine s_aload_n hx hb dX12_readCopy_141 rfl (lv_at hl 0 rfl) ?_
    obtain ⟨x24, hx24, hE⟩ := bd hE
    refine s_gR hx hb hT u_X12 hown hK hW hx24 rfl (by decide) fl_X12_16 rfl dX12_readCopy_142 ?_
    refine lv_iload_n hx hb dX12_readCopy_145 rfl (lv_at hl 1 rfl) ?_
    refine s_aload_n hx hb dX12_readCopy_146 rfl (lv_at hl 0 rfl) ?_
    obtain ⟨x25, hx25, hE⟩ := bd hE
    refine s_gI hx hb hT u_X12 hown hK hW hx25 rfl (by decide) fl_X12_95 rfl dX12_readCopy_147 ?_
    refine s_aload_n hx hb dX12_readCopy_150 rfl (lv_at hl 0 rfl) ?_
    obtain ⟨x26, hx26, hE⟩ := bd hE
    refine s_gI hx hb hT u_X12 hown hK hW hx26 rfl (by decide) fl_X12_98 rfl dX12_readCopy_151 ?_
    refine lv_isub hx hb dX12_readCopy_154 ?_
    obtain ⟨f27, hf27, hE⟩ := bd hE
    refine s_stI hx hb hK hW hS hf27 dX12_readCopy_155 (fun H locs hW hS => ?_)
    refine s_aload_n hx hb dX12_readCopy_156 rfl (lv_at hl 0 rfl) ?_
    obtain ⟨x28, hx28, hE⟩ := bd hE
    refine s_gR hx hb hT u_X12 hown hK hW hx28 rfl (by decide) fl_X12_16 rfl dX12_readCopy_157 ?_
    refine lv_iconst (v := (1 : Int32)) hx hb dX12_readCopy_160 (by decide) ?_
    refine lv_dup2_11 hx hb dX12_readCopy_161 rfl (cat_rr G _) ?_
    obtain ⟨x29, hx29, hE⟩ := bd hE
    refine s_ldI hx hb hK hW hS hx29 dX12_readCopy_162 ?_
    refine lv_iconst (v := (1 : Int32)) hx hb dX12_readCopy_163 (by decide) ?_
    refine lv_iadd hx hb dX12_readCopy_164 ?_
    obtain ⟨f30, hf30, hE⟩ := bd hE
    refine s_stI hx hb hK hW hS hf30 dX12_readCopy_165 (fun H locs hW hS => ?_)
    refine s_aload_n hx hb dX12_readCopy_166 rfl (lv_at hl 0 rfl) ?_
    obtain ⟨c31, hE⟩ := ck hE
    obtain ⟨f32, hf32, hE⟩ := bd hE
    refine s_callV (As := []) (rest := []) CF hK hW hS (S_X12_go l G F hf32) c31 rfl gv_X12_158 hd_X12_go ⟨Nat.le_of_ble_eq_true rfl, Nat.le_of_ble_eq_true rfl⟩ rfl hl.1 rfl (Nat.le_of_ble_eq_true rfl) dX12_readCopy_167 ⟨Nat.le_refl _, Nat.le_refl _⟩ (fun H locs hW hS => ?_)
    refine lv_iconst (v := (1 : Int32)) hx hb dX12_readCopy_170 (by decide) ?_
    obtain ⟨c33, hE⟩ := ck hE
    obtain ⟨rfl, rfl⟩ := so2 hE
    exact s_zret hx hb hr c33 hlocks hW hS dX12_readCopy_171
  have hC63 : ∀ (k63 : Nat), ∀ (v0 : Option Nat) (v2 : Int32) (v3 : Int32) (v4 : Int32) (fa : Hp) (H : Heap) (locs : List Loc) (ls : Array Slot), m_X12_readCopy_L63 F k63 v0 v2 v3 v4 fa = some (r, f') → Wd G fa n H → va_S (WA G) s.heap H locs → lv_has ls 6 [(0, rr G v0), (2, .int v2), (3, .int v3), (4, .int v4)] → W p l e (headSpec (wsO yX12_readCopy cX12_readCopy 6 (some .boolean)) { frames := 4, cells := 0, slots := 0, locals := 88 }).room s m [rr G u0].toArray below meth c H locs 0 0 (MQ below (Qcn G (some (.int r)) f' n) [rr G u0].toArray s 0 0 (WA G)) (F0 m 63 ls []) := by
    intro k63
    induction k63 with
    | zero => intro v0 v2 v3 v4 fa H locs ls hE _ _ _; cases (show (none : Option ((Int32) × Hp)) = some (r, f') from hE)
    | succ k63 ih63 =>
      intro v0 v2 v3 v4 fa H locs ls hE hW hS hl
      replace hE : m_X12_readCopy_b63 F (m_X12_readCopy_L63 F k63) v0 v2 v3 v4 fa = some (r, f') := hE
      refine lv_iload hx hb dX12_readCopy_63 (lv_at hl 3 rfl) ?_
      refine s_aload_n hx hb dX12_readCopy_65 rfl (lv_at hl 0 rfl) ?_
      obtain ⟨x1, hx1, hE⟩ := bd hE
      refine s_gI hx hb hT u_X12 hown hK hW hx1 rfl (by decide) fl_X12_95 rfl dX12_readCopy_66 ?_
      refine lv_icmp_ge (tgt := 141) hx hb dX12_readCopy_69 (by decide) (fun q2 => ?_) (fun q2 => ?_)
      · replace hE := ite_t q2 hE
        exact hC141 _ _ _ _ _ _ hE hW hS (lv_sub hl [0, 1] rfl)
      · replace hE := ite_f q2 hE
        refine s_aload_n hx hb dX12_readCopy_72 rfl (lv_at hl 0 rfl) ?_
        obtain ⟨x3, hx3, hE⟩ := bd hE
        refine s_gR hx hb hT u_X12 hown hK hW hx3 rfl (by decide) fl_X12_7 rfl dX12_readCopy_73 ?_
        refine lv_iload hx hb dX12_readCopy_76 (lv_at hl 3 rfl) ?_
        obtain ⟨x4, hx4, hE⟩ := bd hE
        refine s_ldI hx hb hK hW hS hx4 dX12_readCopy_78 ?_
        refine lv_bipush (v := (97 : Int32)) hx hb dX12_readCopy_79 (by decide) ?_
        refine lv_isub hx hb dX12_readCopy_81 ?_
        refine lv_topi (fun y5 ey5 => ?_)
        replace hE := nm_o ey5 hE
        refine lv_istore (lv' := [(5, .int y5), (0, rr G v0), (2, .int v2), (3, .int v3), (4, .int v4)]) hx hb dX12_readCopy_82 hl (by decide) rfl (fun ls hl => ?_)
        refine lv_iload hx hb dX12_readCopy_84 (lv_at hl 0 rfl) ?_
        refine s_aload_n hx hb dX12_readCopy_86 rfl (lv_at hl 1 rfl) ?_
        obtain ⟨x6, hx6, hE⟩ := bd hE
        refine s_gR hx hb hT u_X12 hown hK hW hx6 rfl (by decide) fl_X12_16 rfl dX12_readCopy_87 ?_
        refine lv_iconst (v := (0 : Int32)) hx hb dX12_readCopy_90 (by decide) ?_
        obtain ⟨x7, hx7, hE⟩ := bd hE
        refine s_ldI hx hb hK hW hS hx7 dX12_readCopy_91 ?_
        refine lv_icmp_ge (tgt := 104) hx hb dX12_readCopy_92 (by decide) (fun q8 => ?_) (fun q8 => ?_)
        · replace hE := ite_t q8 hE
          refine s_aload_n hx hb dX12_readCopy_104 rfl (lv_at hl 1 rfl) ?_
          refine lv_iconst (v := (2 : Int32)) hx hb dX12_readCopy_105 (by decide) ?_
          obtain ⟨c9, hE⟩ := ck hE
          obtain ⟨x10, f11, hx10, hE⟩ := bd2_of hE
          refine s_callV (As := [.int (2 : Int32)]) (rest := []) CF hK hW hS (S_X12_bad l G F hx10) c9 rfl gv_X12_148 hd_X12_bad ⟨Nat.le_of_ble_eq_true rfl, Nat.le_of_ble_eq_true rfl⟩ rfl hl.1 rfl (Nat.le_of_ble_eq_true rfl) dX12_readCopy_106 ⟨Nat.le_refl _, Nat.le_refl _⟩ (fun H locs hW hS => ?_)
          obtain ⟨c12, hE⟩ := ck hE
          obtain ⟨rfl, rfl⟩ := so2 hE
          exact s_zret hx hb hr c12 hlocks hW hS dX12_readCopy_109
        · replace hE := ite_f q8 hE
          refine lv_iload_n hx hb dX12_readCopy_95 rfl (lv_at hl 3 rfl) ?_
          refine lv_iload hx hb dX12_readCopy_96 (lv_at hl 0 rfl) ?_
          obtain ⟨x13, hx13, hE⟩ := bd hE
          refine s_callS (As := [.int v3, .int y5]) (rest := []) CF hK hW hS (S_X12_has l G F hx13) gs_X12_198 hd_X12_has.2 ⟨Nat.le_of_ble_eq_true rfl, Nat.le_of_ble_eq_true rfl⟩ rfl hl.1 rfl (Nat.le_of_ble_eq_true rfl) dX12_readCopy_98 ⟨Nat.le_refl _, Nat.le_refl _⟩ (fun H locs hW hS => ?_)
          refine lv_if_eq (tgt := 110) hx hb dX12_readCopy_101 (by decide) (fun q14 => ?_) (fun q14 => ?_)
          · replace hE := ite_t q14 hE
            refine lv_iload_n hx hb dX12_readCopy_110 rfl (lv_at hl 3 rfl) ?_
            refine lv_iconst (v := (1 : Int32)) hx hb dX12_readCopy_111 (by decide) ?_
            refine lv_iload hx hb dX12_readCopy_112 (lv_at hl 0 rfl) ?_
            refine lv_ishl hx hb dX12_readCopy_114 ?_
            refine lv_ior hx hb dX12_readCopy_115 ?_
            refine lv_topi (fun y15 ey15 => ?_)
            replace hE := nm_o ey15 hE
            refine lv_istore_n (i := 3) (lv' := [(3, .int y15), (5, .int y5), (0, rr G v0), (2, .int v2), (4, .int v4)]) hx hb dX12_readCopy_116 rfl hl (by decide) rfl (fun ls hl => ?_)
            refine s_aload_n hx hb dX12_readCopy_117 rfl (lv_at hl 2 rfl) ?_
            obtain ⟨x16, hx16, hE⟩ := bd hE
            refine s_gR hx hb hT u_X12 hown hK hW hx16 rfl (by decide) fl_X12_16 rfl dX12_readCopy_118 ?_
            refine lv_iload_n hx hb dX12_readCopy_121 rfl (lv_at hl 3 rfl) ?_
            refine lv_iconst (v := (1 : Int32)) hx hb dX12_readCopy_122 (by decide) ?_
            refine lv_iadd hx hb dX12_readCopy_123 ?_
            refine lv_iload hx hb dX12_readCopy_124 (lv_at hl 4 rfl) ?_
            refine lv_iadd hx hb dX12_readCopy_126 ?_
            refine s_aload_n hx hb dX12_readCopy_127 rfl (lv_at hl 2 rfl) ?_
            obtain ⟨x17, hx17, hE⟩ := bd hE
            refine s_gI hx hb hT u_X12 hown hK hW hx17 rfl (by decide) fl_X12_98 rfl dX12_readCopy_128 ?_
            refine lv_isub hx hb dX12_readCopy_131 ?_
            refine lv_iload hx hb dX12_readCopy_132 (lv_at hl 1 rfl) ?_
            obtain ⟨f18, hf18, hE⟩ := bd hE
            refine s_stI hx hb hK hW hS hf18 dX12_readCopy_134 (fun H locs hW hS => ?_)
            obtain ⟨y19, ey19⟩ : ∃ y : Int32, y = v4 + (1 : Int32) := ⟨_, rfl⟩
            replace hE := nm_o ey19 hE
            refine lv_iinc (k := 4) (v := y19) (lv' := [(4, .int y19), (3, .int y15), (5, .int y5), (0, rr G v0), (2, .int v2)]) hx hb dX12_readCopy_135 hl rfl (by rw [ey19]; rfl) (by decide) rfl (fun ls hl => ?_)
            refine lv_goto (tgt := 63) hx hb dX12_readCopy_138 (by decide) ?_
            exact ih63 _ _ _ _ _ _ _ _ hE hW hS (lv_sub hl [3, 4, 1, 0] rfl)
          · replace hE := ite_f q14 hE
            refine s_aload_n hx hb dX12_readCopy_104 rfl (lv_at hl 1 rfl) ?_
            refine lv_iconst (v := (2 : Int32)) hx hb dX12_readCopy_105 (by decide) ?_
            obtain ⟨c20, hE⟩ := ck hE
            obtain ⟨x21, f22, hx21, hE⟩ := bd2_of hE
            refine s_callV (As := [.int (2 : Int32)]) (rest := []) CF hK hW hS (S_X12_bad l G F hx21) c20 rfl gv_X12_148 hd_X12_bad ⟨Nat.le_of_ble_eq_true rfl, Nat.le_of_ble_eq_true rfl⟩ rfl hl.1 rfl (Nat.le_of_ble_eq_true rfl) dX12_readCopy_106 ⟨Nat.le_refl _, Nat.le_refl _⟩ (fun H locs hW hS => ?_)
            obtain ⟨c23, hE⟩ := ck hE
            obtain ⟨rfl, rfl⟩ := so2 hE
            exact s_zret hx hb hr c23 hlocks hW hS dX12_readCopy_109
  refine s_aload_n hx hb dX12_readCopy_0 rfl (lv_at hl 0 rfl) ?_
  obtain ⟨x34, hx34, hE⟩ := bd hE
  refine s_gR hx hb hT u_X12 hown hK hW hx34 rfl (by decide) fl_X12_16 rfl dX12_readCopy_1 ?_
  refine lv_iconst (v := (1 : Int32)) hx hb dX12_readCopy_4 (by decide) ?_
  obtain ⟨x35, hx35, hE⟩ := bd hE
  refine s_ldI hx hb hK hW hS hx35 dX12_readCopy_5 ?_
  refine lv_istore_n (i := 1) (lv' := [(1, .int x35), (0, rr G u0)]) hx hb dX12_readCopy_6 rfl hl (by decide) (by simp [cat_rr]) (fun ls hl => ?_)
  refine lv_iload_n hx hb dX12_readCopy_7 rfl (lv_at hl 0 rfl) ?_
  refine lv_bipush (v := (10 : Int32)) hx hb dX12_readCopy_8 (by decide) ?_
  refine lv_icmp_ne (tgt := 19) hx hb dX12_readCopy_10 (by decide) (fun q36 => ?_) (fun q36 => ?_)
  · replace hE := ite_f q36 hE
    refine s_aload_n hx hb dX12_readCopy_19 rfl (lv_at hl 1 rfl) ?_
    obtain ⟨c37, hE⟩ := ck hE
    obtain ⟨f38, hf38, hE⟩ := bd hE
    refine s_callV (As := []) (rest := []) CF hK hW hS (S_X12_go l G F hf38) c37 rfl gv_X12_158 hd_X12_go ⟨Nat.le_of_ble_eq_true rfl, Nat.le_of_ble_eq_true rfl⟩ rfl hl.1 rfl (Nat.le_of_ble_eq_true rfl) dX12_readCopy_20 ⟨Nat.le_refl _, Nat.le_refl _⟩ (fun H locs hW hS => ?_)
    refine s_aload_n hx hb dX12_readCopy_23 rfl (lv_at hl 1 rfl) ?_
    refine lv_iload_n hx hb dX12_readCopy_24 rfl (lv_at hl 0 rfl) ?_
    obtain ⟨c39, hE⟩ := ck hE
    obtain ⟨x40, f41, hx40, hE⟩ := bd2_of hE
    refine s_callV (As := [.int x35]) (rest := []) CF hK hW hS (S_X12_readNew l G F hx40) c39 rfl gv_X12_195 hd_X12_readNew ⟨Nat.le_of_ble_eq_true rfl, Nat.le_of_ble_eq_true rfl⟩ rfl hl.1 rfl (Nat.le_of_ble_eq_true rfl) dX12_readCopy_25 ⟨Nat.le_refl _, Nat.le_refl _⟩ (fun H locs hW hS => ?_)
    refine lv_if_ne (tgt := 33) hx hb dX12_readCopy_28 (by decide) (fun q42 => ?_) (fun q42 => ?_)
    · replace hE := ite_f q42 hE
      refine s_aload_n hx hb dX12_readCopy_33 rfl (lv_at hl 1 rfl) ?_
      obtain ⟨x43, hx43, hE⟩ := bd hE
      refine s_gI hx hb hT u_X12 hown hK hW hx43 rfl (by decide) fl_X12_104 rfl dX12_readCopy_34 ?_
      refine lv_iconst (v := (2 : Int32)) hx hb dX12_readCopy_37 (by decide) ?_
      refine lv_icmp_eq (tgt := 47) hx hb dX12_readCopy_38 (by decide) (fun q44 => ?_) (fun q44 => ?_)
      · replace hE := ite_t q44 hE
        refine lv_bipush (v := (10 : Int32)) hx hb dX12_readCopy_47 (by decide) ?_
        refine lv_bipush (v := (8 : Int32)) hx hb dX12_readCopy_49 (by decide) ?_
        refine lv_iload_n hx hb dX12_readCopy_51 rfl (lv_at hl 0 rfl) ?_
        refine lv_imul hx hb dX12_readCopy_52 ?_
        refine lv_iadd hx hb dX12_readCopy_53 ?_
        refine lv_topi (fun y45 ey45 => ?_)
        replace hE := nm_o ey45 hE
        refine lv_istore_n (i := 2) (lv' := [(2, .int y45), (1, .int x35), (0, rr G u0)]) hx hb dX12_readCopy_54 rfl hl (by decide) rfl (fun ls hl => ?_)
        refine lv_iconst (v := (0 : Int32)) hx hb dX12_readCopy_55 (by decide) ?_
        refine lv_istore_n (i := 3) (lv' := [(3, .int (0 : Int32)), (2, .int y45), (1, .int x35), (0, rr G u0)]) hx hb dX12_readCopy_56 rfl hl (by decide) rfl (fun ls hl => ?_)
        refine s_aload_n hx hb dX12_readCopy_57 rfl (lv_at hl 3 rfl) ?_
        obtain ⟨x46, hx46, hE⟩ := bd hE
        refine s_gI hx hb hT u_X12 hown hK hW hx46 rfl (by decide) fl_X12_98 rfl dX12_readCopy_58 ?_
        refine lv_istore (lv' := [(4, .int x46), (3, .int (0 : Int32)), (2, .int y45), (1, .int x35), (0, rr G u0)]) hx hb dX12_readCopy_61 hl (by decide) rfl (fun ls hl => ?_)
        exact hC63 F _ _ _ _ _ _ _ _ hE hW hS (lv_sub hl [4, 2, 1, 0] rfl)
      · replace hE := ite_f q44 hE
        refine s_aload_n hx hb dX12_readCopy_41 rfl (lv_at hl 1 rfl) ?_
        refine lv_iconst (v := (1 : Int32)) hx hb dX12_readCopy_42 (by decide) ?_
        obtain ⟨c47, hE⟩ := ck hE
        obtain ⟨x48, f49, hx48, hE⟩ := bd2_of hE
        refine s_callV (As := [.int (1 : Int32)]) (rest := []) CF hK hW hS (S_X12_bad l G F hx48) c47 rfl gv_X12_148 hd_X12_bad ⟨Nat.le_of_ble_eq_true rfl, Nat.le_of_ble_eq_true rfl⟩ rfl hl.1 rfl (Nat.le_of_ble_eq_true rfl) dX12_readCopy_43 ⟨Nat.le_refl _, Nat.le_refl _⟩ (fun H locs hW hS => ?_)
        obtain ⟨c50, hE⟩ := ck hE
        obtain ⟨rfl, rfl⟩ := so2 hE
        exact s_zret hx hb hr c50 hlocks hW hS dX12_readCopy_46
    · replace hE := ite_t q42 hE
      refine lv_iconst (v := (0 : Int32)) hx hb dX12_readCopy_31 (by decide) ?_
      obtain ⟨c51, hE⟩ := ck hE
      obtain ⟨rfl, rfl⟩ := so2 hE
      exact s_zret hx hb hr c51 hlocks hW hS dX12_readCopy_32
  · replace hE := ite_t q36 hE
    refine s_aload_n hx hb dX12_readCopy_13 rfl (lv_at hl 1 rfl) ?_
    refine lv_iconst (v := (4 : Int32)) hx hb dX12_readCopy_14 (by decide) ?_
    obtain ⟨c52, hE⟩ := ck hE
    obtain ⟨x53, f54, hx53, hE⟩ := bd2_of hE
    refine s_callV (As := [.int (4 : Int32)]) (rest := []) CF hK hW hS (S_X12_bad l G F hx53) c52 rfl gv_X12_148 hd_X12_bad ⟨Nat.le_of_ble_eq_true rfl, Nat.le_of_ble_eq_true rfl⟩ rfl hl.1 rfl (Nat.le_of_ble_eq_true rfl) dX12_readCopy_15 ⟨Nat.le_refl _, Nat.le_refl _⟩ (fun H locs hW hS => ?_)
    obtain ⟨c55, hE⟩ := ck hE
    obtain ⟨rfl, rfl⟩ := so2 hE
    exact s_zret hx hb hr c55 hlocks hW hS dX12_readCopy_18
set_option maxHeartbeats 4000000 in
set_option maxRecDepth 100000 in
theorem S_X12_readDesk (l : Launch) (G : GG) (F : Nat) {u0 : Option Nat} {f : Hp} {r : Int32} {f' : Hp} {n : Nat} (hE : m_X12_readDesk F u0 f = some (r, f')) : Ctr l G yX12_readDesk cX12_readDesk 3 (some .boolean) 4 88 [rr G u0] f n (some (.int r)) f' n 0 0 := by
  refine Met.ofW (cc := cX12_readDesk) (maxL := 3) (ret := (some .boolean)) (by decide) rfl ?_
  intro p e s m args below meth c s₁ B hml hv
  obtain ⟨rfl, hK, hW⟩ := hv
  have hx := B.exec
  have hb := B.bytes
  have hr := B.returns
  have hts := atoms_spec (ws := wsO yX12_readDesk cX12_readDesk 3 (some .boolean)) B.pre
  have hT : ∀ w ∈ TB, w.before [rr G u0].toArray s = true := fun w hw => hts w (List.mem_cons_of_mem _ hw)
  have hown : s.vm.findClass RX12 = some m.cls := findClass_of_methodNamed B.named
  have hlocks := B.notSynchronized
  have CF : CallFix p m c cX12_readDesk 3 s [rr G u0].toArray TB RX12 := ⟨hx, hb, hml, hown, hT⟩
  have hS : va_S (WA G) s.heap s.heap [] := va_S.rf
  have hl : lv_has (lg_sl ([rr G u0]) ++ List.replicate (3 - (lg_sl ([rr G u0])).length) Slot.unset).toArray 3 [(0, rr G u0)] := by cases u0 <;> exact lv_entry _ (Nat.le_of_ble_eq_true rfl)
  rw [lg_entry_eq]
  generalize (lg_sl ([rr G u0]) ++ List.replicate (3 - (lg_sl ([rr G u0])).length) Slot.unset).toArray = ls at hl ⊢
  have hC138 : ∀ (v0 : Option Nat) (fa : Hp) (H : Heap) (locs : List Loc) (ls : Array Slot), m_X12_readDesk_B138 F v0 fa = some (r, f') → Wd G fa n H → va_S (WA G) s.heap H locs → lv_has ls 3 [(0, rr G v0)] → W p l e (headSpec (wsO yX12_readDesk cX12_readDesk 3 (some .boolean)) { frames := 4, cells := 0, slots := 0, locals := 88 }).room s m [rr G u0].toArray below meth c H locs 0 0 (MQ below (Qcn G (some (.int r)) f' n) [rr G u0].toArray s 0 0 (WA G)) (F0 m 138 ls []) := by
    intro v0 fa H locs ls hE hW hS hl
    refine s_aload_n hx hb dX12_readDesk_138 rfl (lv_at hl 0 rfl) ?_
    obtain ⟨x19, hx19, hE⟩ := bd hE
    refine s_gR hx hb hT u_X12 hown hK hW hx19 rfl (by decide) fl_X12_16 rfl dX12_readDesk_139 ?_
    refine lv_iconst (v := (2 : Int32)) hx hb dX12_readDesk_142 (by decide) ?_
    refine lv_dup2_11 hx hb dX12_readDesk_143 rfl (cat_rr G _) ?_
    obtain ⟨x20, hx20, hE⟩ := bd hE
    refine s_ldI hx hb hK hW hS hx20 dX12_readDesk_144 ?_
    refine lv_iconst (v := (1 : Int32)) hx hb dX12_readDesk_145 (by decide) ?_
    refine lv_iadd hx hb dX12_readDesk_146 ?_
    obtain ⟨f21, hf21, hE⟩ := bd hE
    refine s_stI hx hb hK hW hS hf21 dX12_readDesk_147 (fun H locs hW hS => ?_)
    refine lv_iconst (v := (1 : Int32)) hx hb dX12_readDesk_148 (by decide) ?_
    obtain ⟨c22, hE⟩ := ck hE
    obtain ⟨rfl, rfl⟩ := so2 hE
    exact s_zret hx hb hr c22 hlocks hW hS dX12_readDesk_149
  have hC76 : ∀ (v0 : Option Nat) (v1 : Int32) (s0 : Int32) (fa : Hp) (H : Heap) (locs : List Loc) (ls : Array Slot), m_X12_readDesk_B76 F v0 v1 s0 fa = some (r, f') → Wd G fa n H → va_S (WA G) s.heap H locs → lv_has ls 3 [(0, rr G v0), (1, .int v1)] → W p l e (headSpec (wsO yX12_readDesk cX12_readDesk 3 (some .boolean)) { frames := 4, cells := 0, slots := 0, locals := 88 }).room s m [rr G u0].toArray below meth c H locs 0 0 (MQ below (Qcn G (some (.int r)) f' n) [rr G u0].toArray s 0 0 (WA G)) (F0 m 76 ls [.int s0]) := by
    intro v0 v1 s0 fa H locs ls hE hW hS hl
    refine lv_istore_n (i := 2) (lv' := [(2, .int s0), (0, rr G v0), (1, .int v1)]) hx hb dX12_readDesk_76 rfl hl (by decide) rfl (fun ls hl => ?_)
    refine lv_iload_n hx hb dX12_readDesk_77 rfl (lv_at hl 0 rfl) ?_
    refine lv_iconst (v := (-1 : Int32)) hx hb dX12_readDesk_78 (by decide) ?_
    refine lv_icmp_ne (tgt := 88) hx hb dX12_readDesk_79 (by decide) (fun q1 => ?_) (fun q1 => ?_)
    · replace hE := ite_f q1 hE
      refine s_aload_n hx hb dX12_readDesk_88 rfl (lv_at hl 1 rfl) ?_
      obtain ⟨c2, hE⟩ := ck hE
      obtain ⟨f3, hf3, hE⟩ := bd hE
      refine s_callV (As := []) (rest := []) CF hK hW hS (S_X12_go l G F hf3) c2 rfl gv_X12_158 hd_X12_go ⟨Nat.le_of_ble_eq_true rfl, Nat.le_of_ble_eq_true rfl⟩ rfl hl.1 rfl (Nat.le_of_ble_eq_true rfl) dX12_readDesk_89 ⟨Nat.le_refl _, Nat.le_refl _⟩ (fun H locs hW hS => ?_)
      refine s_aload_n hx hb dX12_readDesk_92 rfl (lv_at hl 1 rfl) ?_
      obtain ⟨x4, hx4, hE⟩ := bd hE
      refine s_gR hx hb hT u_X12 hown hK hW hx4 rfl (by decide) fl_X12_16 rfl dX12_readDesk_93 ?_
      refine lv_bipush (v := (90 : Int32)) hx hb dX12_readDesk_96 (by decide) ?_
      refine lv_iconst (v := (2 : Int32)) hx hb dX12_readDesk_98 (by decide) ?_
      refine lv_iload_n hx hb dX12_readDesk_99 rfl (lv_at hl 2 rfl) ?_
      refine lv_imul hx hb dX12_readDesk_100 ?_
      refine lv_iadd hx hb dX12_readDesk_101 ?_
      refine lv_iload_n hx hb dX12_readDesk_102 rfl (lv_at hl 0 rfl) ?_
      obtain ⟨f5, hf5, hE⟩ := bd hE
      refine s_stI hx hb hK hW hS hf5 dX12_readDesk_103 (fun H locs hW hS => ?_)
      refine lv_iload_n hx hb dX12_readDesk_104 rfl (lv_at hl 0 rfl) ?_
      refine lv_iconst (v := (1 : Int32)) hx hb dX12_readDesk_105 (by decide) ?_
      refine lv_icmp_ne (tgt := 138) hx hb dX12_readDesk_106 (by decide) (fun q6 => ?_) (fun q6 => ?_)
      · replace hE := ite_f q6 hE
        exact hC138 _ _ _ _ _ hE hW hS (lv_sub hl [1] rfl)
      · replace hE := ite_t q6 hE
        refine s_aload_n hx hb dX12_readDesk_109 rfl (lv_at hl 1 rfl) ?_
        refine lv_iconst (v := (1 : Int32)) hx hb dX12_readDesk_110 (by decide) ?_
        refine lv_bipush (v := (9 : Int32)) hx hb dX12_readDesk_111 (by decide) ?_
        obtain ⟨c7, hE⟩ := ck hE
        obtain ⟨x8, f9, hx8, hE⟩ := bd2_of hE
        refine s_callV (As := [.int (1 : Int32), .int (9 : Int32)]) (rest := []) CF hK hW hS (S_X12_readNumber l G F hx8) c7 rfl gv_X12_205 hd_X12_readNumber ⟨Nat.le_of_ble_eq_true rfl, Nat.le_of_ble_eq_true rfl⟩ rfl hl.1 rfl (Nat.le_of_ble_eq_true rfl) dX12_readDesk_113 ⟨Nat.le_refl _, Nat.le_refl _⟩ (fun H locs hW hS => ?_)
        refine lv_if_ne (tgt := 121) hx hb dX12_readDesk_116 (by decide) (fun q10 => ?_) (fun q10 => ?_)
        · replace hE := ite_f q10 hE
          refine s_aload_n hx hb dX12_readDesk_121 rfl (lv_at hl 1 rfl) ?_
          obtain ⟨x11, hx11, hE⟩ := bd hE
          refine s_gR hx hb hT u_X12 hown hK hW hx11 rfl (by decide) fl_X12_16 rfl dX12_readDesk_122 ?_
          refine lv_bipush (v := (90 : Int32)) hx hb dX12_readDesk_125 (by decide) ?_
          refine lv_iconst (v := (2 : Int32)) hx hb dX12_readDesk_127 (by decide) ?_
          refine lv_iload_n hx hb dX12_readDesk_128 rfl (lv_at hl 2 rfl) ?_
          refine lv_imul hx hb dX12_readDesk_129 ?_
          refine lv_iadd hx hb dX12_readDesk_130 ?_
          refine lv_iconst (v := (1 : Int32)) hx hb dX12_readDesk_131 (by decide) ?_
          refine lv_iadd hx hb dX12_readDesk_132 ?_
          refine s_aload_n hx hb dX12_readDesk_133 rfl (lv_at hl 1 rfl) ?_
          obtain ⟨x12, hx12, hE⟩ := bd hE
          refine s_gI hx hb hT u_X12 hown hK hW hx12 rfl (by decide) fl_X12_155 rfl dX12_readDesk_134 ?_
          obtain ⟨f13, hf13, hE⟩ := bd hE
          refine s_stI hx hb hK hW hS hf13 dX12_readDesk_137 (fun H locs hW hS => ?_)
          exact hC138 _ _ _ _ _ hE hW hS (lv_sub hl [1] rfl)
        · replace hE := ite_t q10 hE
          refine lv_iconst (v := (0 : Int32)) hx hb dX12_readDesk_119 (by decide) ?_
          obtain ⟨c14, hE⟩ := ck hE
          obtain ⟨rfl, rfl⟩ := so2 hE
          exact s_zret hx hb hr c14 hlocks hW hS dX12_readDesk_120
    · replace hE := ite_t q1 hE
      refine s_aload_n hx hb dX12_readDesk_82 rfl (lv_at hl 1 rfl) ?_
      refine lv_iconst (v := (1 : Int32)) hx hb dX12_readDesk_83 (by decide) ?_
      obtain ⟨c15, hE⟩ := ck hE
      obtain ⟨x16, f17, hx16, hE⟩ := bd2_of hE
      refine s_callV (As := [.int (1 : Int32)]) (rest := []) CF hK hW hS (S_X12_bad l G F hx16) c15 rfl gv_X12_148 hd_X12_bad ⟨Nat.le_of_ble_eq_true rfl, Nat.le_of_ble_eq_true rfl⟩ rfl hl.1 rfl (Nat.le_of_ble_eq_true rfl) dX12_readDesk_84 ⟨Nat.le_refl _, Nat.le_refl _⟩ (fun H locs hW hS => ?_)
      obtain ⟨c18, hE⟩ := ck hE
      obtain ⟨rfl, rfl⟩ := so2 hE
      exact s_zret hx hb hr c18 hlocks hW hS dX12_readDesk_87
  refine s_aload_n hx hb dX12_readDesk_0 rfl (lv_at hl 0 rfl) ?_
  obtain ⟨x23, hx23, hE⟩ := bd hE
  refine s_gR hx hb hT u_X12 hown hK hW hx23 rfl (by decide) fl_X12_16 rfl dX12_readDesk_1 ?_
  refine lv_iconst (v := (2 : Int32)) hx hb dX12_readDesk_4 (by decide) ?_
  obtain ⟨x24, hx24, hE⟩ := bd hE
  refine s_ldI hx hb hK hW hS hx24 dX12_readDesk_5 ?_
  refine lv_istore_n (i := 1) (lv' := [(1, .int x24), (0, rr G u0)]) hx hb dX12_readDesk_6 rfl hl (by decide) (by simp [cat_rr]) (fun ls hl => ?_)
  refine lv_iload_n hx hb dX12_readDesk_7 rfl (lv_at hl 0 rfl) ?_
  refine lv_bipush (v := (6 : Int32)) hx hb dX12_readDesk_8 (by decide) ?_
  refine lv_icmp_ne (tgt := 19) hx hb dX12_readDesk_10 (by decide) (fun q25 => ?_) (fun q25 => ?_)
  · replace hE := ite_f q25 hE
    refine s_aload_n hx hb dX12_readDesk_19 rfl (lv_at hl 1 rfl) ?_
    obtain ⟨c26, hE⟩ := ck hE
    obtain ⟨f27, hf27, hE⟩ := bd hE
    refine s_callV (As := []) (rest := []) CF hK hW hS (S_X12_go l G F hf27) c26 rfl gv_X12_158 hd_X12_go ⟨Nat.le_of_ble_eq_true rfl, Nat.le_of_ble_eq_true rfl⟩ rfl hl.1 rfl (Nat.le_of_ble_eq_true rfl) dX12_readDesk_20 ⟨Nat.le_refl _, Nat.le_refl _⟩ (fun H locs hW hS => ?_)
    refine s_aload_n hx hb dX12_readDesk_23 rfl (lv_at hl 1 rfl) ?_
    refine lv_bipush (v := (10 : Int32)) hx hb dX12_readDesk_24 (by decide) ?_
    refine lv_iload_n hx hb dX12_readDesk_26 rfl (lv_at hl 0 rfl) ?_
    refine lv_iadd hx hb dX12_readDesk_27 ?_
    obtain ⟨c28, hE⟩ := ck hE
    obtain ⟨x29, f30, hx29, hE⟩ := bd2_of hE
    refine s_callV (As := [.int ((10 : Int32) + x24)]) (rest := []) CF hK hW hS (S_X12_readNew l G F hx29) c28 rfl gv_X12_195 hd_X12_readNew ⟨Nat.le_of_ble_eq_true rfl, Nat.le_of_ble_eq_true rfl⟩ rfl hl.1 rfl (Nat.le_of_ble_eq_true rfl) dX12_readDesk_28 ⟨Nat.le_refl _, Nat.le_refl _⟩ (fun H locs hW hS => ?_)
    refine lv_if_ne (tgt := 36) hx hb dX12_readDesk_31 (by decide) (fun q31 => ?_) (fun q31 => ?_)
    · replace hE := ite_f q31 hE
      refine s_aload_n hx hb dX12_readDesk_36 rfl (lv_at hl 1 rfl) ?_
      refine lv_bipush (v := (6 : Int32)) hx hb dX12_readDesk_37 (by decide) ?_
      obtain ⟨c32, hE⟩ := ck hE
      obtain ⟨x33, hx33, hE⟩ := bd hE
      refine s_callV (As := [.int (6 : Int32)]) (rest := []) CF hK hW hS (S_X12_isWord l G F hx33) c32 rfl gv_X12_202 hd_X12_isWord ⟨Nat.le_of_ble_eq_true rfl, Nat.le_of_ble_eq_true rfl⟩ rfl hl.1 rfl (Nat.le_of_ble_eq_true rfl) dX12_readDesk_39 ⟨Nat.le_refl _, Nat.le_refl _⟩ (fun H locs hW hS => ?_)
      refine lv_if_eq (tgt := 49) hx hb dX12_readDesk_42 (by decide) (fun q34 => ?_) (fun q34 => ?_)
      · replace hE := ite_t q34 hE
        refine s_aload_n hx hb dX12_readDesk_49 rfl (lv_at hl 1 rfl) ?_
        refine lv_bipush (v := (7 : Int32)) hx hb dX12_readDesk_50 (by decide) ?_
        obtain ⟨c35, hE⟩ := ck hE
        obtain ⟨x36, hx36, hE⟩ := bd hE
        refine s_callV (As := [.int (7 : Int32)]) (rest := []) CF hK hW hS (S_X12_isWord l G F hx36) c35 rfl gv_X12_202 hd_X12_isWord ⟨Nat.le_of_ble_eq_true rfl, Nat.le_of_ble_eq_true rfl⟩ rfl hl.1 rfl (Nat.le_of_ble_eq_true rfl) dX12_readDesk_52 ⟨Nat.le_refl _, Nat.le_refl _⟩ (fun H locs hW hS => ?_)
        refine lv_if_eq (tgt := 62) hx hb dX12_readDesk_55 (by decide) (fun q37 => ?_) (fun q37 => ?_)
        · replace hE := ite_t q37 hE
          refine s_aload_n hx hb dX12_readDesk_62 rfl (lv_at hl 1 rfl) ?_
          refine lv_bipush (v := (8 : Int32)) hx hb dX12_readDesk_63 (by decide) ?_
          obtain ⟨c38, hE⟩ := ck hE
          obtain ⟨x39, hx39, hE⟩ := bd hE
          refine s_callV (As := [.int (8 : Int32)]) (rest := []) CF hK hW hS (S_X12_isWord l G F hx39) c38 rfl gv_X12_202 hd_X12_isWord ⟨Nat.le_of_ble_eq_true rfl, Nat.le_of_ble_eq_true rfl⟩ rfl hl.1 rfl (Nat.le_of_ble_eq_true rfl) dX12_readDesk_65 ⟨Nat.le_refl _, Nat.le_refl _⟩ (fun H locs hW hS => ?_)
          refine lv_if_eq (tgt := 75) hx hb dX12_readDesk_68 (by decide) (fun q40 => ?_) (fun q40 => ?_)
          · replace hE := ite_t q40 hE
            refine lv_iconst (v := (-1 : Int32)) hx hb dX12_readDesk_75 (by decide) ?_
            exact hC76 _ _ _ _ _ _ _ hE hW hS (lv_sub hl [1, 0] rfl)
          · replace hE := ite_f q40 hE
            refine lv_iconst (v := (2 : Int32)) hx hb dX12_readDesk_71 (by decide) ?_
            refine lv_goto (tgt := 76) hx hb dX12_readDesk_72 (by decide) ?_
            exact hC76 _ _ _ _ _ _ _ hE hW hS (lv_sub hl [1, 0] rfl)
        · replace hE := ite_f q37 hE
          refine lv_iconst (v := (1 : Int32)) hx hb dX12_readDesk_58 (by decide) ?_
          refine lv_goto (tgt := 76) hx hb dX12_readDesk_59 (by decide) ?_
          exact hC76 _ _ _ _ _ _ _ hE hW hS (lv_sub hl [1, 0] rfl)
      · replace hE := ite_f q34 hE
        refine lv_iconst (v := (0 : Int32)) hx hb dX12_readDesk_45 (by decide) ?_
        refine lv_goto (tgt := 76) hx hb dX12_readDesk_46 (by decide) ?_
        exact hC76 _ _ _ _ _ _ _ hE hW hS (lv_sub hl [1, 0] rfl)
    · replace hE := ite_t q31 hE
      refine lv_iconst (v := (0 : Int32)) hx hb dX12_readDesk_34 (by decide) ?_
      obtain ⟨c41, hE⟩ := ck hE
      obtain ⟨rfl, rfl⟩ := so2 hE
      exact s_zret hx hb hr c41 hlocks hW hS dX12_readDesk_35
  · replace hE := ite_t q25 hE
    refine s_aload_n hx hb dX12_readDesk_13 rfl (lv_at hl 1 rfl) ?_
    refine lv_iconst (v := (4 : Int32)) hx hb dX12_readDesk_14 (by decide) ?_
    obtain ⟨c42, hE⟩ := ck hE
    obtain ⟨x43, f44, hx43, hE⟩ := bd2_of hE
    refine s_callV (As := [.int (4 : Int32)]) (rest := []) CF hK hW hS (S_X12_bad l G F hx43) c42 rfl gv_X12_148 hd_X12_bad ⟨Nat.le_of_ble_eq_true rfl, Nat.le_of_ble_eq_true rfl⟩ rfl hl.1 rfl (Nat.le_of_ble_eq_true rfl) dX12_readDesk_15 ⟨Nat.le_refl _, Nat.le_refl _⟩ (fun H locs hW hS => ?_)
    obtain ⟨c45, hE⟩ := ck hE
    obtain ⟨rfl, rfl⟩ := so2 hE
    exact s_zret hx hb hr c45 hlocks hW hS dX12_readDesk_18
set_option maxHeartbeats 4000000 in
set_option maxRecDepth 100000 in
theorem S_X12_readLikely (l : Launch) (G : GG) (F : Nat) {u0 : Option Nat} {f : Hp} {r : Int32} {f' : Hp} {n : Nat} (hE : m_X12_readLikely F u0 f = some (r, f')) : Ctr l G yX12_readLikely cX12_readLikely 2 (some .boolean) 3 67 [rr G u0] f n (some (.int r)) f' n 0 0 := by
  refine Met.ofW (cc := cX12_readLikely) (maxL := 2) (ret := (some .boolean)) (by decide) rfl ?_
  intro p e s m args below meth c s₁ B hml hv
  obtain ⟨rfl, hK, hW⟩ := hv
  have hx := B.exec
  have hb := B.bytes
  have hr := B.returns
  have hts := atoms_spec (ws := wsO yX12_readLikely cX12_readLikely 2 (some .boolean)) B.pre
  have hT : ∀ w ∈ TB, w.before [rr G u0].toArray s = true := fun w hw => hts w (List.mem_cons_of_mem _ hw)
  have hown : s.vm.findClass RX12 = some m.cls := findClass_of_methodNamed B.named
  have hlocks := B.notSynchronized
  have CF : CallFix p m c cX12_readLikely 2 s [rr G u0].toArray TB RX12 := ⟨hx, hb, hml, hown, hT⟩
  have hS : va_S (WA G) s.heap s.heap [] := va_S.rf
  have hl : lv_has (lg_sl ([rr G u0]) ++ List.replicate (2 - (lg_sl ([rr G u0])).length) Slot.unset).toArray 2 [(0, rr G u0)] := by cases u0 <;> exact lv_entry _ (Nat.le_of_ble_eq_true rfl)
  rw [lg_entry_eq]
  generalize (lg_sl ([rr G u0]) ++ List.replicate (2 - (lg_sl ([rr G u0])).length) Slot.unset).toArray = ls at hl ⊢
  refine s_aload_n hx hb dX12_readLikely_0 rfl (lv_at hl 0 rfl) ?_
  obtain ⟨c1, hE⟩ := ck hE
  obtain ⟨f2, hf2, hE⟩ := bd hE
  refine s_callV (As := []) (rest := []) CF hK hW hS (S_X12_go l G F hf2) c1 rfl gv_X12_158 hd_X12_go ⟨Nat.le_of_ble_eq_true rfl, Nat.le_of_ble_eq_true rfl⟩ rfl hl.1 rfl (Nat.le_of_ble_eq_true rfl) dX12_readLikely_1 ⟨Nat.le_refl _, Nat.le_refl _⟩ (fun H locs hW hS => ?_)
  refine s_aload_n hx hb dX12_readLikely_4 rfl (lv_at hl 0 rfl) ?_
  obtain ⟨x3, hx3, hE⟩ := bd hE
  refine s_gI hx hb hT u_X12 hown hK hW hx3 rfl (by decide) fl_X12_104 rfl dX12_readLikely_5 ?_
  refine lv_iconst (v := (3 : Int32)) hx hb dX12_readLikely_8 (by decide) ?_
  refine lv_icmp_eq (tgt := 18) hx hb dX12_readLikely_9 (by decide) (fun q4 => ?_) (fun q4 => ?_)
  · replace hE := ite_t q4 hE
    refine s_aload_n hx hb dX12_readLikely_18 rfl (lv_at hl 0 rfl) ?_
    obtain ⟨x5, hx5, hE⟩ := bd hE
    refine s_gI hx hb hT u_X12 hown hK hW hx5 rfl (by decide) fl_X12_121 rfl dX12_readLikely_19 ?_
    refine lv_iconst (v := (1 : Int32)) hx hb dX12_readLikely_22 (by decide) ?_
    refine s_aload_n hx hb dX12_readLikely_23 rfl (lv_at hl 0 rfl) ?_
    obtain ⟨x6, hx6, hE⟩ := bd hE
    refine s_gR hx hb hT u_X12 hown hK hW hx6 rfl (by decide) fl_X12_16 rfl dX12_readLikely_24 ?_
    refine lv_iconst (v := (0 : Int32)) hx hb dX12_readLikely_27 (by decide) ?_
    obtain ⟨x7, hx7, hE⟩ := bd hE
    refine s_ldI hx hb hK hW hS hx7 dX12_readLikely_28 ?_
    refine lv_iconst (v := (1 : Int32)) hx hb dX12_readLikely_29 (by decide) ?_
    refine lv_isub hx hb dX12_readLikely_30 ?_
    obtain ⟨x8, hx8, hE⟩ := bd hE
    refine s_callS (As := [.int x5, .int (1 : Int32), .int (x7 - (1 : Int32))]) (rest := []) CF hK hW hS (S_X12_isIn l G F hx8) gs_X12_151 hd_X12_isIn.2 ⟨Nat.le_of_ble_eq_true rfl, Nat.le_of_ble_eq_true rfl⟩ rfl hl.1 rfl (Nat.le_of_ble_eq_true rfl) dX12_readLikely_31 ⟨Nat.le_refl _, Nat.le_refl _⟩ (fun H locs hW hS => ?_)
    refine lv_if_ne (tgt := 43) hx hb dX12_readLikely_34 (by decide) (fun q9 => ?_) (fun q9 => ?_)
    · replace hE := ite_f q9 hE
      refine s_aload_n hx hb dX12_readLikely_43 rfl (lv_at hl 0 rfl) ?_
      obtain ⟨x10, hx10, hE⟩ := bd hE
      refine s_gI hx hb hT u_X12 hown hK hW hx10 rfl (by decide) fl_X12_208 rfl dX12_readLikely_44 ?_
      refine s_aload_n hx hb dX12_readLikely_47 rfl (lv_at hl 0 rfl) ?_
      obtain ⟨x11, hx11, hE⟩ := bd hE
      refine s_gI hx hb hT u_X12 hown hK hW hx11 rfl (by decide) fl_X12_121 rfl dX12_readLikely_48 ?_
      obtain ⟨x12, hx12, hE⟩ := bd hE
      refine s_callS (As := [.int x10, .int x11]) (rest := []) CF hK hW hS (S_X12_has l G F hx12) gs_X12_198 hd_X12_has.2 ⟨Nat.le_of_ble_eq_true rfl, Nat.le_of_ble_eq_true rfl⟩ rfl hl.1 rfl (Nat.le_of_ble_eq_true rfl) dX12_readLikely_51 ⟨Nat.le_refl _, Nat.le_refl _⟩ (fun H locs hW hS => ?_)
      refine lv_if_eq (tgt := 63) hx hb dX12_readLikely_54 (by decide) (fun q13 => ?_) (fun q13 => ?_)
      · replace hE := ite_t q13 hE
        refine s_aload_n hx hb dX12_readLikely_63 rfl (lv_at hl 0 rfl) ?_
        refine lv_dup hx hb dX12_readLikely_64 (cat_rr G _) ?_
        obtain ⟨x14, hx14, hE⟩ := bd hE
        refine s_gI hx hb hT u_X12 hown hK hW hx14 rfl (by decide) fl_X12_208 rfl dX12_readLikely_65 ?_
        refine lv_iconst (v := (1 : Int32)) hx hb dX12_readLikely_68 (by decide) ?_
        refine s_aload_n hx hb dX12_readLikely_69 rfl (lv_at hl 0 rfl) ?_
        obtain ⟨x15, hx15, hE⟩ := bd hE
        refine s_gI hx hb hT u_X12 hown hK hW hx15 rfl (by decide) fl_X12_121 rfl dX12_readLikely_70 ?_
        refine lv_ishl hx hb dX12_readLikely_73 ?_
        refine lv_ior hx hb dX12_readLikely_74 ?_
        obtain ⟨f16, hf16, hE⟩ := bd hE
        refine s_putI hx hb hT u_X12 tyX12 tyX12_ok nmX12 hown hK hW hS hf16 rfl (by decide) fl_X12_208 rfl (Or.inl rfl) rfl dX12_readLikely_75 (fun H locs hW hS => ?_)
        refine s_aload_n hx hb dX12_readLikely_78 rfl (lv_at hl 0 rfl) ?_
        obtain ⟨x17, hx17, hE⟩ := bd hE
        refine s_gI hx hb hT u_X12 hown hK hW hx17 rfl (by decide) fl_X12_121 rfl dX12_readLikely_79 ?_
        refine lv_istore_n (i := 1) (lv' := [(1, .int x17), (0, rr G u0)]) hx hb dX12_readLikely_82 rfl hl (by decide) (by simp [cat_rr]) (fun ls hl => ?_)
        refine s_aload_n hx hb dX12_readLikely_83 rfl (lv_at hl 1 rfl) ?_
        obtain ⟨c18, hE⟩ := ck hE
        obtain ⟨f19, hf19, hE⟩ := bd hE
        refine s_callV (As := []) (rest := []) CF hK hW hS (S_X12_go l G F hf19) c18 rfl gv_X12_158 hd_X12_go ⟨Nat.le_of_ble_eq_true rfl, Nat.le_of_ble_eq_true rfl⟩ rfl hl.1 rfl (Nat.le_of_ble_eq_true rfl) dX12_readLikely_84 ⟨Nat.le_refl _, Nat.le_refl _⟩ (fun H locs hW hS => ?_)
        refine s_aload_n hx hb dX12_readLikely_87 rfl (lv_at hl 1 rfl) ?_
        refine lv_iconst (v := (0 : Int32)) hx hb dX12_readLikely_88 (by decide) ?_
        refine lv_bipush (v := (9 : Int32)) hx hb dX12_readLikely_89 (by decide) ?_
        obtain ⟨c20, hE⟩ := ck hE
        obtain ⟨x21, f22, hx21, hE⟩ := bd2_of hE
        refine s_callV (As := [.int (0 : Int32), .int (9 : Int32)]) (rest := []) CF hK hW hS (S_X12_readNumber l G F hx21) c20 rfl gv_X12_205 hd_X12_readNumber ⟨Nat.le_of_ble_eq_true rfl, Nat.le_of_ble_eq_true rfl⟩ rfl hl.1 rfl (Nat.le_of_ble_eq_true rfl) dX12_readLikely_91 ⟨Nat.le_refl _, Nat.le_refl _⟩ (fun H locs hW hS => ?_)
        refine lv_if_ne (tgt := 99) hx hb dX12_readLikely_94 (by decide) (fun q23 => ?_) (fun q23 => ?_)
        · replace hE := ite_f q23 hE
          refine s_aload_n hx hb dX12_readLikely_99 rfl (lv_at hl 1 rfl) ?_
          obtain ⟨x24, hx24, hE⟩ := bd hE
          refine s_gR hx hb hT u_X12 hown hK hW hx24 rfl (by decide) fl_X12_16 rfl dX12_readLikely_100 ?_
          refine lv_bipush (v := (102 : Int32)) hx hb dX12_readLikely_103 (by decide) ?_
          refine lv_iload_n hx hb dX12_readLikely_105 rfl (lv_at hl 0 rfl) ?_
          refine lv_iadd hx hb dX12_readLikely_106 ?_
          refine lv_iconst (v := (1 : Int32)) hx hb dX12_readLikely_107 (by decide) ?_
          refine lv_isub hx hb dX12_readLikely_108 ?_
          refine s_aload_n hx hb dX12_readLikely_109 rfl (lv_at hl 1 rfl) ?_
          obtain ⟨x25, hx25, hE⟩ := bd hE
          refine s_gI hx hb hT u_X12 hown hK hW hx25 rfl (by decide) fl_X12_155 rfl dX12_readLikely_110 ?_
          obtain ⟨f26, hf26, hE⟩ := bd hE
          refine s_stI hx hb hK hW hS hf26 dX12_readLikely_113 (fun H locs hW hS => ?_)
          refine lv_iconst (v := (1 : Int32)) hx hb dX12_readLikely_114 (by decide) ?_
          obtain ⟨c27, hE⟩ := ck hE
          obtain ⟨rfl, rfl⟩ := so2 hE
          exact s_zret hx hb hr c27 hlocks hW hS dX12_readLikely_115
        · replace hE := ite_t q23 hE
          refine lv_iconst (v := (0 : Int32)) hx hb dX12_readLikely_97 (by decide) ?_
          obtain ⟨c28, hE⟩ := ck hE
          obtain ⟨rfl, rfl⟩ := so2 hE
          exact s_zret hx hb hr c28 hlocks hW hS dX12_readLikely_98
      · replace hE := ite_f q13 hE
        refine s_aload_n hx hb dX12_readLikely_57 rfl (lv_at hl 0 rfl) ?_
        refine lv_iconst (v := (3 : Int32)) hx hb dX12_readLikely_58 (by decide) ?_
        obtain ⟨c29, hE⟩ := ck hE
        obtain ⟨x30, f31, hx30, hE⟩ := bd2_of hE
        refine s_callV (As := [.int (3 : Int32)]) (rest := []) CF hK hW hS (S_X12_bad l G F hx30) c29 rfl gv_X12_148 hd_X12_bad ⟨Nat.le_of_ble_eq_true rfl, Nat.le_of_ble_eq_true rfl⟩ rfl hl.1 rfl (Nat.le_of_ble_eq_true rfl) dX12_readLikely_59 ⟨Nat.le_refl _, Nat.le_refl _⟩ (fun H locs hW hS => ?_)
        obtain ⟨c32, hE⟩ := ck hE
        obtain ⟨rfl, rfl⟩ := so2 hE
        exact s_zret hx hb hr c32 hlocks hW hS dX12_readLikely_62
    · replace hE := ite_t q9 hE
      refine s_aload_n hx hb dX12_readLikely_37 rfl (lv_at hl 0 rfl) ?_
      refine lv_iconst (v := (2 : Int32)) hx hb dX12_readLikely_38 (by decide) ?_
      obtain ⟨c33, hE⟩ := ck hE
      obtain ⟨x34, f35, hx34, hE⟩ := bd2_of hE
      refine s_callV (As := [.int (2 : Int32)]) (rest := []) CF hK hW hS (S_X12_bad l G F hx34) c33 rfl gv_X12_148 hd_X12_bad ⟨Nat.le_of_ble_eq_true rfl, Nat.le_of_ble_eq_true rfl⟩ rfl hl.1 rfl (Nat.le_of_ble_eq_true rfl) dX12_readLikely_39 ⟨Nat.le_refl _, Nat.le_refl _⟩ (fun H locs hW hS => ?_)
      obtain ⟨c36, hE⟩ := ck hE
      obtain ⟨rfl, rfl⟩ := so2 hE
      exact s_zret hx hb hr c36 hlocks hW hS dX12_readLikely_42
  · replace hE := ite_f q4 hE
    refine s_aload_n hx hb dX12_readLikely_12 rfl (lv_at hl 0 rfl) ?_
    refine lv_iconst (v := (1 : Int32)) hx hb dX12_readLikely_13 (by decide) ?_
    obtain ⟨c37, hE⟩ := ck hE
    obtain ⟨x38, f39, hx38, hE⟩ := bd2_of hE
    refine s_callV (As := [.int (1 : Int32)]) (rest := []) CF hK hW hS (S_X12_bad l G F hx38) c37 rfl gv_X12_148 hd_X12_bad ⟨Nat.le_of_ble_eq_true rfl, Nat.le_of_ble_eq_true rfl⟩ rfl hl.1 rfl (Nat.le_of_ble_eq_true rfl) dX12_readLikely_14 ⟨Nat.le_refl _, Nat.le_refl _⟩ (fun H locs hW hS => ?_)
    obtain ⟨c40, hE⟩ := ck hE
    obtain ⟨rfl, rfl⟩ := so2 hE
    exact s_zret hx hb hr c40 hlocks hW hS dX12_readLikely_17
set_option maxHeartbeats 4000000 in
set_option maxRecDepth 100000 in
theorem S_X12_readLetter (l : Launch) (G : GG) (F : Nat) {u0 : Option Nat} {u1 : Int32} {f : Hp} {r : Int32} {f' : Hp} {n : Nat} (hE : m_X12_readLetter F u0 u1 f = some (r, f')) : Ctr l G yX12_readLetter cX12_readLetter 2 (some .boolean) 1 21 [rr G u0, .int u1] f n (some (.int r)) f' n 0 0 := by
  refine Met.ofW (cc := cX12_readLetter) (maxL := 2) (ret := (some .boolean)) (by decide) rfl ?_
  intro p e s m args below meth c s₁ B hml hv
  obtain ⟨rfl, hK, hW⟩ := hv
  have hx := B.exec
  have hb := B.bytes
  have hr := B.returns
  have hts := atoms_spec (ws := wsO yX12_readLetter cX12_readLetter 2 (some .boolean)) B.pre
  have hT : ∀ w ∈ TB, w.before [rr G u0, .int u1].toArray s = true := fun w hw => hts w (List.mem_cons_of_mem _ hw)
  have hown : s.vm.findClass RX12 = some m.cls := findClass_of_methodNamed B.named
  have hlocks := B.notSynchronized
  have CF : CallFix p m c cX12_readLetter 2 s [rr G u0, .int u1].toArray TB RX12 := ⟨hx, hb, hml, hown, hT⟩
  have hS : va_S (WA G) s.heap s.heap [] := va_S.rf
  have hl : lv_has (lg_sl ([rr G u0, .int u1]) ++ List.replicate (2 - (lg_sl ([rr G u0, .int u1])).length) Slot.unset).toArray 2 [(0, rr G u0), (1, .int u1)] := by cases u0 <;> exact lv_entry _ (Nat.le_of_ble_eq_true rfl)
  rw [lg_entry_eq]
  generalize (lg_sl ([rr G u0, .int u1]) ++ List.replicate (2 - (lg_sl ([rr G u0, .int u1])).length) Slot.unset).toArray = ls at hl ⊢
  refine s_aload_n hx hb dX12_readLetter_0 rfl (lv_at hl 0 rfl) ?_
  obtain ⟨x1, hx1, hE⟩ := bd hE
  refine s_gI hx hb hT u_X12 hown hK hW hx1 rfl (by decide) fl_X12_104 rfl dX12_readLetter_1 ?_
  refine lv_iconst (v := (2 : Int32)) hx hb dX12_readLetter_4 (by decide) ?_
  refine lv_icmp_eq (tgt := 14) hx hb dX12_readLetter_5 (by decide) (fun q2 => ?_) (fun q2 => ?_)
  · replace hE := ite_t q2 hE
    refine s_aload_n hx hb dX12_readLetter_14 rfl (lv_at hl 0 rfl) ?_
    obtain ⟨x3, hx3, hE⟩ := bd hE
    refine s_gI hx hb hT u_X12 hown hK hW hx3 rfl (by decide) fl_X12_95 rfl dX12_readLetter_15 ?_
    refine s_aload_n hx hb dX12_readLetter_18 rfl (lv_at hl 0 rfl) ?_
    obtain ⟨x4, hx4, hE⟩ := bd hE
    refine s_gI hx hb hT u_X12 hown hK hW hx4 rfl (by decide) fl_X12_98 rfl dX12_readLetter_19 ?_
    refine lv_isub hx hb dX12_readLetter_22 ?_
    refine lv_iconst (v := (1 : Int32)) hx hb dX12_readLetter_23 (by decide) ?_
    refine lv_icmp_ne (tgt := 43) hx hb dX12_readLetter_24 (by decide) (fun q5 => ?_) (fun q5 => ?_)
    · replace hE := ite_f q5 hE
      refine s_aload_n hx hb dX12_readLetter_43 rfl (lv_at hl 0 rfl) ?_
      refine lv_iconst (v := (2 : Int32)) hx hb dX12_readLetter_44 (by decide) ?_
      obtain ⟨c6, hE⟩ := ck hE
      obtain ⟨x7, f8, hx7, hE⟩ := bd2_of hE
      refine s_callV (As := [.int (2 : Int32)]) (rest := []) CF hK hW hS (S_X12_bad l G F hx7) c6 rfl gv_X12_148 hd_X12_bad ⟨Nat.le_of_ble_eq_true rfl, Nat.le_of_ble_eq_true rfl⟩ rfl hl.1 rfl (Nat.le_of_ble_eq_true rfl) dX12_readLetter_45 ⟨Nat.le_refl _, Nat.le_refl _⟩ (fun H locs hW hS => ?_)
      obtain ⟨c9, hE⟩ := ck hE
      obtain ⟨rfl, rfl⟩ := so2 hE
      exact s_zret hx hb hr c9 hlocks hW hS dX12_readLetter_48
    · replace hE := ite_t q5 hE
      refine s_aload_n hx hb dX12_readLetter_27 rfl (lv_at hl 0 rfl) ?_
      obtain ⟨x10, hx10, hE⟩ := bd hE
      refine s_gR hx hb hT u_X12 hown hK hW hx10 rfl (by decide) fl_X12_7 rfl dX12_readLetter_28 ?_
      refine s_aload_n hx hb dX12_readLetter_31 rfl (lv_at hl 0 rfl) ?_
      obtain ⟨x11, hx11, hE⟩ := bd hE
      refine s_gI hx hb hT u_X12 hown hK hW hx11 rfl (by decide) fl_X12_98 rfl dX12_readLetter_32 ?_
      obtain ⟨x12, hx12, hE⟩ := bd hE
      refine s_ldI hx hb hK hW hS hx12 dX12_readLetter_35 ?_
      refine lv_bipush (v := (97 : Int32)) hx hb dX12_readLetter_36 (by decide) ?_
      refine lv_isub hx hb dX12_readLetter_38 ?_
      refine lv_iload_n hx hb dX12_readLetter_39 rfl (lv_at hl 1 rfl) ?_
      refine lv_icmp_lt (tgt := 49) hx hb dX12_readLetter_40 (by decide) (fun q13 => ?_) (fun q13 => ?_)
      · replace hE := ite_t q13 hE
        refine s_aload_n hx hb dX12_readLetter_49 rfl (lv_at hl 0 rfl) ?_
        refine s_aload_n hx hb dX12_readLetter_50 rfl (lv_at hl 0 rfl) ?_
        obtain ⟨x14, hx14, hE⟩ := bd hE
        refine s_gR hx hb hT u_X12 hown hK hW hx14 rfl (by decide) fl_X12_7 rfl dX12_readLetter_51 ?_
        refine s_aload_n hx hb dX12_readLetter_54 rfl (lv_at hl 0 rfl) ?_
        obtain ⟨x15, hx15, hE⟩ := bd hE
        refine s_gI hx hb hT u_X12 hown hK hW hx15 rfl (by decide) fl_X12_98 rfl dX12_readLetter_55 ?_
        obtain ⟨x16, hx16, hE⟩ := bd hE
        refine s_ldI hx hb hK hW hS hx16 dX12_readLetter_58 ?_
        refine lv_bipush (v := (97 : Int32)) hx hb dX12_readLetter_59 (by decide) ?_
        refine lv_isub hx hb dX12_readLetter_61 ?_
        obtain ⟨f17, hf17, hE⟩ := bd hE
        refine s_putI hx hb hT u_X12 tyX12 tyX12_ok nmX12 hown hK hW hS hf17 rfl (by decide) fl_X12_155 rfl (Or.inl rfl) rfl dX12_readLetter_62 (fun H locs hW hS => ?_)
        refine lv_iconst (v := (1 : Int32)) hx hb dX12_readLetter_65 (by decide) ?_
        obtain ⟨c18, hE⟩ := ck hE
        obtain ⟨rfl, rfl⟩ := so2 hE
        exact s_zret hx hb hr c18 hlocks hW hS dX12_readLetter_66
      · replace hE := ite_f q13 hE
        refine s_aload_n hx hb dX12_readLetter_43 rfl (lv_at hl 0 rfl) ?_
        refine lv_iconst (v := (2 : Int32)) hx hb dX12_readLetter_44 (by decide) ?_
        obtain ⟨c19, hE⟩ := ck hE
        obtain ⟨x20, f21, hx20, hE⟩ := bd2_of hE
        refine s_callV (As := [.int (2 : Int32)]) (rest := []) CF hK hW hS (S_X12_bad l G F hx20) c19 rfl gv_X12_148 hd_X12_bad ⟨Nat.le_of_ble_eq_true rfl, Nat.le_of_ble_eq_true rfl⟩ rfl hl.1 rfl (Nat.le_of_ble_eq_true rfl) dX12_readLetter_45 ⟨Nat.le_refl _, Nat.le_refl _⟩ (fun H locs hW hS => ?_)
        obtain ⟨c22, hE⟩ := ck hE
        obtain ⟨rfl, rfl⟩ := so2 hE
        exact s_zret hx hb hr c22 hlocks hW hS dX12_readLetter_48
  · replace hE := ite_f q2 hE
    refine s_aload_n hx hb dX12_readLetter_8 rfl (lv_at hl 0 rfl) ?_
    refine lv_iconst (v := (1 : Int32)) hx hb dX12_readLetter_9 (by decide) ?_
    obtain ⟨c23, hE⟩ := ck hE
    obtain ⟨x24, f25, hx24, hE⟩ := bd2_of hE
    refine s_callV (As := [.int (1 : Int32)]) (rest := []) CF hK hW hS (S_X12_bad l G F hx24) c23 rfl gv_X12_148 hd_X12_bad ⟨Nat.le_of_ble_eq_true rfl, Nat.le_of_ble_eq_true rfl⟩ rfl hl.1 rfl (Nat.le_of_ble_eq_true rfl) dX12_readLetter_10 ⟨Nat.le_refl _, Nat.le_refl _⟩ (fun H locs hW hS => ?_)
    obtain ⟨c26, hE⟩ := ck hE
    obtain ⟨rfl, rfl⟩ := so2 hE
    exact s_zret hx hb hr c26 hlocks hW hS dX12_readLetter_13
set_option maxHeartbeats 4000000 in
set_option maxRecDepth 100000 in
theorem S_X12_readPair (l : Launch) (G : GG) (F : Nat) {u0 : Option Nat} {u1 : Int32} {u2 : Int32} {u3 : Int32} {f : Hp} {r : Int32} {f' : Hp} {n : Nat} (hE : m_X12_readPair F u0 u1 u2 u3 f = some (r, f')) : Ctr l G yX12_readPair cX12_readPair 8 (some .boolean) 3 67 [rr G u0, .int u1, .int u2, .int u3] f n (some (.int r)) f' n 0 0 := by
  refine Met.ofW (cc := cX12_readPair) (maxL := 8) (ret := (some .boolean)) (by decide) rfl ?_
  intro p e s m args below meth c s₁ B hml hv
  obtain ⟨rfl, hK, hW⟩ := hv
  have hx := B.exec
  have hb := B.bytes
  have hr := B.returns
  have hts := atoms_spec (ws := wsO yX12_readPair cX12_readPair 8 (some .boolean)) B.pre
  have hT : ∀ w ∈ TB, w.before [rr G u0, .int u1, .int u2, .int u3].toArray s = true := fun w hw => hts w (List.mem_cons_of_mem _ hw)
  have hown : s.vm.findClass RX12 = some m.cls := findClass_of_methodNamed B.named
  have hlocks := B.notSynchronized
  have CF : CallFix p m c cX12_readPair 8 s [rr G u0, .int u1, .int u2, .int u3].toArray TB RX12 := ⟨hx, hb, hml, hown, hT⟩
  have hS : va_S (WA G) s.heap s.heap [] := va_S.rf
  have hl : lv_has (lg_sl ([rr G u0, .int u1, .int u2, .int u3]) ++ List.replicate (8 - (lg_sl ([rr G u0, .int u1, .int u2, .int u3])).length) Slot.unset).toArray 8 [(0, rr G u0), (1, .int u1), (2, .int u2), (3, .int u3)] := by cases u0 <;> exact lv_entry _ (Nat.le_of_ble_eq_true rfl)
  rw [lg_entry_eq]
  generalize (lg_sl ([rr G u0, .int u1, .int u2, .int u3]) ++ List.replicate (8 - (lg_sl ([rr G u0, .int u1, .int u2, .int u3])).length) Slot.unset).toArray = ls at hl ⊢
  have hC206 : ∀ (v0 : Option Nat) (v1 : Int32) (fa : Hp) (H : Heap) (locs : List Loc) (ls : Array Slot), m_X12_readPair_B206 F v0 v1 fa = some (r, f') → Wd G fa n H → va_S (WA G) s.heap H locs → lv_has ls 8 [(0, rr G v0), (1, .int v1)] → W p l e (headSpec (wsO yX12_readPair cX12_readPair 8 (some .boolean)) { frames := 3, cells := 0, slots := 0, locals := 67 }).room s m [rr G u0, .int u1, .int u2, .int u3].toArray below meth c H locs 0 0 (MQ below (Qcn G (some (.int r)) f' n) [rr G u0, .int u1, .int u2, .int u3].toArray s 0 0 (WA G)) (F0 m 206 ls []) := by
    intro v0 v1 fa H locs ls hE hW hS hl
    refine s_aload_n hx hb dX12_readPair_206 rfl (lv_at hl 0 rfl) ?_
    obtain ⟨x29, hx29, hE⟩ := bd hE
    refine s_gR hx hb hT u_X12 hown hK hW hx29 rfl (by decide) fl_X12_16 rfl dX12_readPair_207 ?_
    refine lv_iload_n hx hb dX12_readPair_210 rfl (lv_at hl 1 rfl) ?_
    refine lv_dup2_11 hx hb dX12_readPair_211 rfl (cat_rr G _) ?_
    obtain ⟨x30, hx30, hE⟩ := bd hE
    refine s_ldI hx hb hK hW hS hx30 dX12_readPair_212 ?_
    refine lv_iconst (v := (1 : Int32)) hx hb dX12_readPair_213 (by decide) ?_
    refine lv_iadd hx hb dX12_readPair_214 ?_
    obtain ⟨f31, hf31, hE⟩ := bd hE
    refine s_stI hx hb hK hW hS hf31 dX12_readPair_215 (fun H locs hW hS => ?_)
    refine lv_iconst (v := (1 : Int32)) hx hb dX12_readPair_216 (by decide) ?_
    obtain ⟨c32, hE⟩ := ck hE
    obtain ⟨rfl, rfl⟩ := so2 hE
    exact s_zret hx hb hr c32 hlocks hW hS dX12_readPair_217
  have hC140 : ∀ (v0 : Option Nat) (v1 : Int32) (v2 : Int32) (v3 : Int32) (v4 : Int32) (v5 : Int32) (v6 : Int32) (fa : Hp) (H : Heap) (locs : List Loc) (ls : Array Slot), m_X12_readPair_B140 F v0 v1 v2 v3 v4 v5 v6 fa = some (r, f') → Wd G fa n H → va_S (WA G) s.heap H locs → lv_has ls 8 [(0, rr G v0), (1, .int v1), (2, .int v2), (3, .int v3), (4, .int v4), (5, .int v5), (6, .int v6)] → W p l e (headSpec (wsO yX12_readPair cX12_readPair 8 (some .boolean)) { frames := 3, cells := 0, slots := 0, locals := 67 }).room s m [rr G u0, .int u1, .int u2, .int u3].toArray below meth c H locs 0 0 (MQ below (Qcn G (some (.int r)) f' n) [rr G u0, .int u1, .int u2, .int u3].toArray s 0 0 (WA G)) (F0 m 140 ls []) := by
    intro v0 v1 v2 v3 v4 v5 v6 fa H locs ls hE hW hS hl
    refine s_aload_n hx hb dX12_readPair_140 rfl (lv_at hl 0 rfl) ?_
    obtain ⟨c14, hE⟩ := ck hE
    obtain ⟨f15, hf15, hE⟩ := bd hE
    refine s_callV (As := []) (rest := []) CF hK hW hS (S_X12_go l G F hf15) c14 rfl gv_X12_158 hd_X12_go ⟨Nat.le_of_ble_eq_true rfl, Nat.le_of_ble_eq_true rfl⟩ rfl hl.1 rfl (Nat.le_of_ble_eq_true rfl) dX12_readPair_141 ⟨Nat.le_refl _, Nat.le_refl _⟩ (fun H locs hW hS => ?_)
    refine s_aload_n hx hb dX12_readPair_144 rfl (lv_at hl 0 rfl) ?_
    obtain ⟨x16, hx16, hE⟩ := bd hE
    refine s_gR hx hb hT u_X12 hown hK hW hx16 rfl (by decide) fl_X12_16 rfl dX12_readPair_145 ?_
    refine lv_iload_n hx hb dX12_readPair_148 rfl (lv_at hl 2 rfl) ?_
    refine lv_iload_n hx hb dX12_readPair_149 rfl (lv_at hl 3 rfl) ?_
    refine lv_iload hx hb dX12_readPair_150 (lv_at hl 4 rfl) ?_
    refine lv_imul hx hb dX12_readPair_152 ?_
    refine lv_iadd hx hb dX12_readPair_153 ?_
    refine lv_iload hx hb dX12_readPair_154 (lv_at hl 5 rfl) ?_
    obtain ⟨f17, hf17, hE⟩ := bd hE
    refine s_stI hx hb hK hW hS hf17 dX12_readPair_156 (fun H locs hW hS => ?_)
    refine s_aload_n hx hb dX12_readPair_157 rfl (lv_at hl 0 rfl) ?_
    obtain ⟨x18, hx18, hE⟩ := bd hE
    refine s_gR hx hb hT u_X12 hown hK hW hx18 rfl (by decide) fl_X12_16 rfl dX12_readPair_158 ?_
    refine lv_iload_n hx hb dX12_readPair_161 rfl (lv_at hl 2 rfl) ?_
    refine lv_iload_n hx hb dX12_readPair_162 rfl (lv_at hl 3 rfl) ?_
    refine lv_iload hx hb dX12_readPair_163 (lv_at hl 4 rfl) ?_
    refine lv_imul hx hb dX12_readPair_165 ?_
    refine lv_iadd hx hb dX12_readPair_166 ?_
    refine lv_iconst (v := (1 : Int32)) hx hb dX12_readPair_167 (by decide) ?_
    refine lv_iadd hx hb dX12_readPair_168 ?_
    refine lv_iload hx hb dX12_readPair_169 (lv_at hl 6 rfl) ?_
    obtain ⟨f19, hf19, hE⟩ := bd hE
    refine s_stI hx hb hK hW hS hf19 dX12_readPair_171 (fun H locs hW hS => ?_)
    refine lv_iload_n hx hb dX12_readPair_172 rfl (lv_at hl 3 rfl) ?_
    refine lv_iconst (v := (3 : Int32)) hx hb dX12_readPair_173 (by decide) ?_
    refine lv_icmp_ne (tgt := 206) hx hb dX12_readPair_174 (by decide) (fun q20 => ?_) (fun q20 => ?_)
    · replace hE := ite_f q20 hE
      exact hC206 _ _ _ _ _ _ hE hW hS (lv_sub hl [0, 1] rfl)
    · replace hE := ite_t q20 hE
      refine s_aload_n hx hb dX12_readPair_177 rfl (lv_at hl 0 rfl) ?_
      refine lv_iconst (v := (1 : Int32)) hx hb dX12_readPair_178 (by decide) ?_
      refine lv_bipush (v := (99 : Int32)) hx hb dX12_readPair_179 (by decide) ?_
      obtain ⟨c21, hE⟩ := ck hE
      obtain ⟨x22, f23, hx22, hE⟩ := bd2_of hE
      refine s_callV (As := [.int (1 : Int32), .int (99 : Int32)]) (rest := []) CF hK hW hS (S_X12_readNumber l G F hx22) c21 rfl gv_X12_205 hd_X12_readNumber ⟨Nat.le_of_ble_eq_true rfl, Nat.le_of_ble_eq_true rfl⟩ rfl hl.1 rfl (Nat.le_of_ble_eq_true rfl) dX12_readPair_181 ⟨Nat.le_refl _, Nat.le_refl _⟩ (fun H locs hW hS => ?_)
      refine lv_if_ne (tgt := 189) hx hb dX12_readPair_184 (by decide) (fun q24 => ?_) (fun q24 => ?_)
      · replace hE := ite_f q24 hE
        refine s_aload_n hx hb dX12_readPair_189 rfl (lv_at hl 0 rfl) ?_
        obtain ⟨x25, hx25, hE⟩ := bd hE
        refine s_gR hx hb hT u_X12 hown hK hW hx25 rfl (by decide) fl_X12_16 rfl dX12_readPair_190 ?_
        refine lv_iload_n hx hb dX12_readPair_193 rfl (lv_at hl 2 rfl) ?_
        refine lv_iload_n hx hb dX12_readPair_194 rfl (lv_at hl 3 rfl) ?_
        refine lv_iload hx hb dX12_readPair_195 (lv_at hl 4 rfl) ?_
        refine lv_imul hx hb dX12_readPair_197 ?_
        refine lv_iadd hx hb dX12_readPair_198 ?_
        refine lv_iconst (v := (2 : Int32)) hx hb dX12_readPair_199 (by decide) ?_
        refine lv_iadd hx hb dX12_readPair_200 ?_
        refine s_aload_n hx hb dX12_readPair_201 rfl (lv_at hl 0 rfl) ?_
        obtain ⟨x26, hx26, hE⟩ := bd hE
        refine s_gI hx hb hT u_X12 hown hK hW hx26 rfl (by decide) fl_X12_155 rfl dX12_readPair_202 ?_
        obtain ⟨f27, hf27, hE⟩ := bd hE
        refine s_stI hx hb hK hW hS hf27 dX12_readPair_205 (fun H locs hW hS => ?_)
        exact hC206 _ _ _ _ _ _ hE hW hS (lv_sub hl [0, 1] rfl)
      · replace hE := ite_t q24 hE
        refine lv_iconst (v := (0 : Int32)) hx hb dX12_readPair_187 (by decide) ?_
        obtain ⟨c28, hE⟩ := ck hE
        obtain ⟨rfl, rfl⟩ := so2 hE
        exact s_zret hx hb hr c28 hlocks hW hS dX12_readPair_188
  have hC87 : ∀ (k87 : Nat), ∀ (v0 : Option Nat) (v1 : Int32) (v2 : Int32) (v3 : Int32) (v4 : Int32) (v5 : Int32) (v6 : Int32) (v7 : Int32) (fa : Hp) (H : Heap) (locs : List Loc) (ls : Array Slot), m_X12_readPair_L87 F k87 v0 v1 v2 v3 v4 v5 v6 v7 fa = some (r, f') → Wd G fa n H → va_S (WA G) s.heap H locs → lv_has ls 8 [(0, rr G v0), (1, .int v1), (2, .int v2), (3, .int v3), (4, .int v4), (5, .int v5), (6, .int v6), (7, .int v7)] → W p l e (headSpec (wsO yX12_readPair cX12_readPair 8 (some .boolean)) { frames := 3, cells := 0, slots := 0, locals := 67 }).room s m [rr G u0, .int u1, .int u2, .int u3].toArray below meth c H locs 0 0 (MQ below (Qcn G (some (.int r)) f' n) [rr G u0, .int u1, .int u2, .int u3].toArray s 0 0 (WA G)) (F0 m 87 ls []) := by
    intro k87
    induction k87 with
    | zero => intro v0 v1 v2 v3 v4 v5 v6 v7 fa H locs ls hE _ _ _; cases (show (none : Option ((Int32) × Hp)) = some (r, f') from hE)
    | succ k87 ih87 =>
      intro v0 v1 v2 v3 v4 v5 v6 v7 fa H locs ls hE hW hS hl
      replace hE : m_X12_readPair_b87 F (m_X12_readPair_L87 F k87) v0 v1 v2 v3 v4 v5 v6 v7 fa = some (r, f') := hE
      refine lv_iload hx hb dX12_readPair_87 (lv_at hl 7 rfl) ?_
      refine lv_iload hx hb dX12_readPair_89 (lv_at hl 4 rfl) ?_
      refine lv_icmp_ge (tgt := 140) hx hb dX12_readPair_91 (by decide) (fun q1 => ?_) (fun q1 => ?_)
      · replace hE := ite_t q1 hE
        exact hC140 _ _ _ _ _ _ _ _ _ _ _ hE hW hS (lv_sub hl [0, 1, 2, 3, 4, 5, 6] rfl)
      · replace hE := ite_f q1 hE
        refine s_aload_n hx hb dX12_readPair_94 rfl (lv_at hl 0 rfl) ?_
        obtain ⟨x2, hx2, hE⟩ := bd hE
        refine s_gR hx hb hT u_X12 hown hK hW hx2 rfl (by decide) fl_X12_16 rfl dX12_readPair_95 ?_
        refine lv_iload_n hx hb dX12_readPair_98 rfl (lv_at hl 2 rfl) ?_
        refine lv_iload_n hx hb dX12_readPair_99 rfl (lv_at hl 3 rfl) ?_
        refine lv_iload hx hb dX12_readPair_100 (lv_at hl 7 rfl) ?_
        refine lv_imul hx hb dX12_readPair_102 ?_
        refine lv_iadd hx hb dX12_readPair_103 ?_
        obtain ⟨x3, hx3, hE⟩ := bd hE
        refine s_ldI hx hb hK hW hS hx3 dX12_readPair_104 ?_
        refine lv_iload hx hb dX12_readPair_105 (lv_at hl 5 rfl) ?_
        refine lv_icmp_ne (tgt := 134) hx hb dX12_readPair_107 (by decide) (fun q4 => ?_) (fun q4 => ?_)
        · replace hE := ite_f q4 hE
          obtain ⟨y5, ey5⟩ : ∃ y : Int32, y = v7 + (1 : Int32) := ⟨_, rfl⟩
          replace hE := nm_o ey5 hE
          refine lv_iinc (k := 7) (v := y5) (lv' := [(7, .int y5), (0, rr G v0), (1, .int v1), (2, .int v2), (3, .int v3), (4, .int v4), (5, .int v5), (6, .int v6)]) hx hb dX12_readPair_134 hl rfl (by rw [ey5]; rfl) (by decide) rfl (fun ls hl => ?_)
          refine lv_goto (tgt := 87) hx hb dX12_readPair_137 (by decide) ?_
          exact ih87 _ _ _ _ _ _ _ _ _ _ _ _ hE hW hS (lv_sub hl [1, 2, 3, 4, 5, 6, 7, 0] rfl)
        · replace hE := ite_t q4 hE
          refine s_aload_n hx hb dX12_readPair_110 rfl (lv_at hl 0 rfl) ?_
          obtain ⟨x6, hx6, hE⟩ := bd hE
          refine s_gR hx hb hT u_X12 hown hK hW hx6 rfl (by decide) fl_X12_16 rfl dX12_readPair_111 ?_
          refine lv_iload_n hx hb dX12_readPair_114 rfl (lv_at hl 2 rfl) ?_
          refine lv_iload_n hx hb dX12_readPair_115 rfl (lv_at hl 3 rfl) ?_
          refine lv_iload hx hb dX12_readPair_116 (lv_at hl 7 rfl) ?_
          refine lv_imul hx hb dX12_readPair_118 ?_
          refine lv_iadd hx hb dX12_readPair_119 ?_
          refine lv_iconst (v := (1 : Int32)) hx hb dX12_readPair_120 (by decide) ?_
          refine lv_iadd hx hb dX12_readPair_121 ?_
          obtain ⟨x7, hx7, hE⟩ := bd hE
          refine s_ldI hx hb hK hW hS hx7 dX12_readPair_122 ?_
          refine lv_iload hx hb dX12_readPair_123 (lv_at hl 6 rfl) ?_
          refine lv_icmp_ne (tgt := 134) hx hb dX12_readPair_125 (by decide) (fun q8 => ?_) (fun q8 => ?_)
          · replace hE := ite_f q8 hE
            obtain ⟨y9, ey9⟩ : ∃ y : Int32, y = v7 + (1 : Int32) := ⟨_, rfl⟩
            replace hE := nm_o ey9 hE
            refine lv_iinc (k := 7) (v := y9) (lv' := [(7, .int y9), (0, rr G v0), (1, .int v1), (2, .int v2), (3, .int v3), (4, .int v4), (5, .int v5), (6, .int v6)]) hx hb dX12_readPair_134 hl rfl (by rw [ey9]; rfl) (by decide) rfl (fun ls hl => ?_)
            refine lv_goto (tgt := 87) hx hb dX12_readPair_137 (by decide) ?_
            exact ih87 _ _ _ _ _ _ _ _ _ _ _ _ hE hW hS (lv_sub hl [1, 2, 3, 4, 5, 6, 7, 0] rfl)
          · replace hE := ite_t q8 hE
            refine s_aload_n hx hb dX12_readPair_128 rfl (lv_at hl 0 rfl) ?_
            refine lv_iconst (v := (3 : Int32)) hx hb dX12_readPair_129 (by decide) ?_
            obtain ⟨c10, hE⟩ := ck hE
            obtain ⟨x11, f12, hx11, hE⟩ := bd2_of hE
            refine s_callV (As := [.int (3 : Int32)]) (rest := []) CF hK hW hS (S_X12_bad l G F hx11) c10 rfl gv_X12_148 hd_X12_bad ⟨Nat.le_of_ble_eq_true rfl, Nat.le_of_ble_eq_true rfl⟩ rfl hl.1 rfl (Nat.le_of_ble_eq_true rfl) dX12_readPair_130 ⟨Nat.le_refl _, Nat.le_refl _⟩ (fun H locs hW hS => ?_)
            obtain ⟨c13, hE⟩ := ck hE
            obtain ⟨rfl, rfl⟩ := so2 hE
            exact s_zret hx hb hr c13 hlocks hW hS dX12_readPair_133
  refine s_aload_n hx hb dX12_readPair_0 rfl (lv_at hl 0 rfl) ?_
  obtain ⟨x33, hx33, hE⟩ := bd hE
  refine s_gR hx hb hT u_X12 hown hK hW hx33 rfl (by decide) fl_X12_16 rfl dX12_readPair_1 ?_
  refine lv_iload_n hx hb dX12_readPair_4 rfl (lv_at hl 1 rfl) ?_
  obtain ⟨x34, hx34, hE⟩ := bd hE
  refine s_ldI hx hb hK hW hS hx34 dX12_readPair_5 ?_
  refine lv_istore (lv' := [(4, .int x34), (0, rr G u0), (1, .int u1), (2, .int u2), (3, .int u3)]) hx hb dX12_readPair_6 hl (by decide) rfl (fun ls hl => ?_)
  refine lv_iload hx hb dX12_readPair_8 (lv_at hl 0 rfl) ?_
  refine lv_bipush (v := (12 : Int32)) hx hb dX12_readPair_10 (by decide) ?_
  refine lv_icmp_ne (tgt := 21) hx hb dX12_readPair_12 (by decide) (fun q35 => ?_) (fun q35 => ?_)
  · replace hE := ite_f q35 hE
    refine s_aload_n hx hb dX12_readPair_21 rfl (lv_at hl 1 rfl) ?_
    obtain ⟨c36, hE⟩ := ck hE
    obtain ⟨f37, hf37, hE⟩ := bd hE
    refine s_callV (As := []) (rest := []) CF hK hW hS (S_X12_go l G F hf37) c36 rfl gv_X12_158 hd_X12_go ⟨Nat.le_of_ble_eq_true rfl, Nat.le_of_ble_eq_true rfl⟩ rfl hl.1 rfl (Nat.le_of_ble_eq_true rfl) dX12_readPair_22 ⟨Nat.le_refl _, Nat.le_refl _⟩ (fun H locs hW hS => ?_)
    refine s_aload_n hx hb dX12_readPair_25 rfl (lv_at hl 1 rfl) ?_
    refine s_aload_n hx hb dX12_readPair_26 rfl (lv_at hl 1 rfl) ?_
    obtain ⟨x38, hx38, hE⟩ := bd hE
    refine s_gR hx hb hT u_X12 hown hK hW hx38 rfl (by decide) fl_X12_16 rfl dX12_readPair_27 ?_
    refine lv_iconst (v := (0 : Int32)) hx hb dX12_readPair_30 (by decide) ?_
    obtain ⟨x39, hx39, hE⟩ := bd hE
    refine s_ldI hx hb hK hW hS hx39 dX12_readPair_31 ?_
    obtain ⟨c40, hE⟩ := ck hE
    obtain ⟨x41, f42, hx41, hE⟩ := bd2_of hE
    refine s_callV (As := [.int x39]) (rest := []) CF hK hW hS (S_X12_readLetter l G F hx41) c40 rfl gv_X12_211 hd_X12_readLetter ⟨Nat.le_of_ble_eq_true rfl, Nat.le_of_ble_eq_true rfl⟩ rfl hl.1 rfl (Nat.le_of_ble_eq_true rfl) dX12_readPair_32 ⟨Nat.le_refl _, Nat.le_refl _⟩ (fun H locs hW hS => ?_)
    refine lv_if_ne (tgt := 40) hx hb dX12_readPair_35 (by decide) (fun q43 => ?_) (fun q43 => ?_)
    · replace hE := ite_f q43 hE
      refine s_aload_n hx hb dX12_readPair_40 rfl (lv_at hl 1 rfl) ?_
      obtain ⟨x44, hx44, hE⟩ := bd hE
      refine s_gI hx hb hT u_X12 hown hK hW hx44 rfl (by decide) fl_X12_155 rfl dX12_readPair_41 ?_
      refine lv_istore (lv' := [(5, .int x44), (4, .int x34), (0, rr G u0), (1, .int u1), (2, .int u2), (3, .int u3)]) hx hb dX12_readPair_44 hl (by decide) rfl (fun ls hl => ?_)
      refine s_aload_n hx hb dX12_readPair_46 rfl (lv_at hl 2 rfl) ?_
      obtain ⟨c45, hE⟩ := ck hE
      obtain ⟨f46, hf46, hE⟩ := bd hE
      refine s_callV (As := []) (rest := []) CF hK hW hS (S_X12_go l G F hf46) c45 rfl gv_X12_158 hd_X12_go ⟨Nat.le_of_ble_eq_true rfl, Nat.le_of_ble_eq_true rfl⟩ rfl hl.1 rfl (Nat.le_of_ble_eq_true rfl) dX12_readPair_47 ⟨Nat.le_refl _, Nat.le_refl _⟩ (fun H locs hW hS => ?_)
      refine s_aload_n hx hb dX12_readPair_50 rfl (lv_at hl 2 rfl) ?_
      refine s_aload_n hx hb dX12_readPair_51 rfl (lv_at hl 2 rfl) ?_
      obtain ⟨x47, hx47, hE⟩ := bd hE
      refine s_gR hx hb hT u_X12 hown hK hW hx47 rfl (by decide) fl_X12_16 rfl dX12_readPair_52 ?_
      refine lv_iconst (v := (0 : Int32)) hx hb dX12_readPair_55 (by decide) ?_
      obtain ⟨x48, hx48, hE⟩ := bd hE
      refine s_ldI hx hb hK hW hS hx48 dX12_readPair_56 ?_
      obtain ⟨c49, hE⟩ := ck hE
      obtain ⟨x50, f51, hx50, hE⟩ := bd2_of hE
      refine s_callV (As := [.int x48]) (rest := []) CF hK hW hS (S_X12_readLetter l G F hx50) c49 rfl gv_X12_211 hd_X12_readLetter ⟨Nat.le_of_ble_eq_true rfl, Nat.le_of_ble_eq_true rfl⟩ rfl hl.1 rfl (Nat.le_of_ble_eq_true rfl) dX12_readPair_57 ⟨Nat.le_refl _, Nat.le_refl _⟩ (fun H locs hW hS => ?_)
      refine lv_if_ne (tgt := 65) hx hb dX12_readPair_60 (by decide) (fun q52 => ?_) (fun q52 => ?_)
      · replace hE := ite_f q52 hE
        refine s_aload_n hx hb dX12_readPair_65 rfl (lv_at hl 2 rfl) ?_
        obtain ⟨x53, hx53, hE⟩ := bd hE
        refine s_gI hx hb hT u_X12 hown hK hW hx53 rfl (by decide) fl_X12_155 rfl dX12_readPair_66 ?_
        refine lv_istore (lv' := [(6, .int x53), (5, .int x44), (4, .int x34), (0, rr G u0), (1, .int u1), (2, .int u2), (3, .int u3)]) hx hb dX12_readPair_69 hl (by decide) rfl (fun ls hl => ?_)
        refine lv_iload hx hb dX12_readPair_71 (lv_at hl 1 rfl) ?_
        refine lv_iload hx hb dX12_readPair_73 (lv_at hl 0 rfl) ?_
        refine lv_icmp_ne (tgt := 84) hx hb dX12_readPair_75 (by decide) (fun q54 => ?_) (fun q54 => ?_)
        · replace hE := ite_f q54 hE
          refine lv_iconst (v := (0 : Int32)) hx hb dX12_readPair_84 (by decide) ?_
          refine lv_istore (lv' := [(7, .int (0 : Int32)), (6, .int x53), (5, .int x44), (4, .int x34), (0, rr G u0), (1, .int u1), (2, .int u2), (3, .int u3)]) hx hb dX12_readPair_85 hl (by decide) rfl (fun ls hl => ?_)
          exact hC87 F _ _ _ _ _ _ _ _ _ _ _ _ hE hW hS (lv_sub hl [4, 5, 6, 7, 3, 2, 1, 0] rfl)
        · replace hE := ite_t q54 hE
          refine s_aload_n hx hb dX12_readPair_78 rfl (lv_at hl 3 rfl) ?_
          refine lv_iconst (v := (3 : Int32)) hx hb dX12_readPair_79 (by decide) ?_
          obtain ⟨c55, hE⟩ := ck hE
          obtain ⟨x56, f57, hx56, hE⟩ := bd2_of hE
          refine s_callV (As := [.int (3 : Int32)]) (rest := []) CF hK hW hS (S_X12_bad l G F hx56) c55 rfl gv_X12_148 hd_X12_bad ⟨Nat.le_of_ble_eq_true rfl, Nat.le_of_ble_eq_true rfl⟩ rfl hl.1 rfl (Nat.le_of_ble_eq_true rfl) dX12_readPair_80 ⟨Nat.le_refl _, Nat.le_refl _⟩ (fun H locs hW hS => ?_)
          obtain ⟨c58, hE⟩ := ck hE
          obtain ⟨rfl, rfl⟩ := so2 hE
          exact s_zret hx hb hr c58 hlocks hW hS dX12_readPair_83
      · replace hE := ite_t q52 hE
        refine lv_iconst (v := (0 : Int32)) hx hb dX12_readPair_63 (by decide) ?_
        obtain ⟨c59, hE⟩ := ck hE
        obtain ⟨rfl, rfl⟩ := so2 hE
        exact s_zret hx hb hr c59 hlocks hW hS dX12_readPair_64
    · replace hE := ite_t q43 hE
      refine lv_iconst (v := (0 : Int32)) hx hb dX12_readPair_38 (by decide) ?_
      obtain ⟨c60, hE⟩ := ck hE
      obtain ⟨rfl, rfl⟩ := so2 hE
      exact s_zret hx hb hr c60 hlocks hW hS dX12_readPair_39
  · replace hE := ite_t q35 hE
    refine s_aload_n hx hb dX12_readPair_15 rfl (lv_at hl 1 rfl) ?_
    refine lv_iconst (v := (4 : Int32)) hx hb dX12_readPair_16 (by decide) ?_
    obtain ⟨c61, hE⟩ := ck hE
    obtain ⟨x62, f63, hx62, hE⟩ := bd2_of hE
    refine s_callV (As := [.int (4 : Int32)]) (rest := []) CF hK hW hS (S_X12_bad l G F hx62) c61 rfl gv_X12_148 hd_X12_bad ⟨Nat.le_of_ble_eq_true rfl, Nat.le_of_ble_eq_true rfl⟩ rfl hl.1 rfl (Nat.le_of_ble_eq_true rfl) dX12_readPair_17 ⟨Nat.le_refl _, Nat.le_refl _⟩ (fun H locs hW hS => ?_)
    obtain ⟨c64, hE⟩ := ck hE
    obtain ⟨rfl, rfl⟩ := so2 hE
    exact s_zret hx hb hr c64 hlocks hW hS dX12_readPair_20
set_option maxHeartbeats 4000000 in
set_option maxRecDepth 100000 in
theorem S_X12_isSign (l : Launch) (G : GG) (F : Nat) {u0 : Option Nat} {u1 : Int32} {f : Hp} {r : Int32} {n : Nat} (hE : m_X12_isSign F u0 u1 f = some r) : Ctr l G yX12_isSign cX12_isSign 2 (some .boolean) 0 0 [rr G u0, .int u1] f n (some (.int r)) f n 0 0 := by
  refine Met.ofW (cc := cX12_isSign) (maxL := 2) (ret := (some .boolean)) (by decide) rfl ?_
  intro p e s m args below meth c s₁ B hml hv
  obtain ⟨rfl, hK, hW⟩ := hv
  have hx := B.exec
  have hb := B.bytes
  have hr := B.returns
  have hts := atoms_spec (ws := wsO yX12_isSign cX12_isSign 2 (some .boolean)) B.pre
  have hT : ∀ w ∈ TB, w.before [rr G u0, .int u1].toArray s = true := fun w hw => hts w (List.mem_cons_of_mem _ hw)
  have hown : s.vm.findClass RX12 = some m.cls := findClass_of_methodNamed B.named
  have hlocks := B.notSynchronized
  have CF : CallFix p m c cX12_isSign 2 s [rr G u0, .int u1].toArray TB RX12 := ⟨hx, hb, hml, hown, hT⟩
  have hS : va_S (WA G) s.heap s.heap [] := va_S.rf
  have hl : lv_has (lg_sl ([rr G u0, .int u1]) ++ List.replicate (2 - (lg_sl ([rr G u0, .int u1])).length) Slot.unset).toArray 2 [(0, rr G u0), (1, .int u1)] := by cases u0 <;> exact lv_entry _ (Nat.le_of_ble_eq_true rfl)
  rw [lg_entry_eq]
  generalize (lg_sl ([rr G u0, .int u1]) ++ List.replicate (2 - (lg_sl ([rr G u0, .int u1])).length) Slot.unset).toArray = ls at hl ⊢
  refine s_aload_n hx hb dX12_isSign_0 rfl (lv_at hl 0 rfl) ?_
  obtain ⟨x1, hx1, hE⟩ := bd hE
  refine s_gI hx hb hT u_X12 hown hK hW hx1 rfl (by decide) fl_X12_104 rfl dX12_isSign_1 ?_
  refine lv_iconst (v := (4 : Int32)) hx hb dX12_isSign_4 (by decide) ?_
  refine lv_icmp_ne (tgt := 20) hx hb dX12_isSign_5 (by decide) (fun q2 => ?_) (fun q2 => ?_)
  · replace hE := ite_f q2 hE
    refine lv_iconst (v := (0 : Int32)) hx hb dX12_isSign_20 (by decide) ?_
    obtain ⟨c3, hE⟩ := ck hE
    obtain rfl := so1 hE
    exact s_zret hx hb hr c3 hlocks hW hS dX12_isSign_21
  · replace hE := ite_t q2 hE
    refine s_aload_n hx hb dX12_isSign_8 rfl (lv_at hl 0 rfl) ?_
    obtain ⟨x4, hx4, hE⟩ := bd hE
    refine s_gI hx hb hT u_X12 hown hK hW hx4 rfl (by decide) fl_X12_114 rfl dX12_isSign_9 ?_
    refine lv_iload_n hx hb dX12_isSign_12 rfl (lv_at hl 1 rfl) ?_
    refine lv_icmp_ne (tgt := 20) hx hb dX12_isSign_13 (by decide) (fun q5 => ?_) (fun q5 => ?_)
    · replace hE := ite_f q5 hE
      refine lv_iconst (v := (0 : Int32)) hx hb dX12_isSign_20 (by decide) ?_
      obtain ⟨c6, hE⟩ := ck hE
      obtain rfl := so1 hE
      exact s_zret hx hb hr c6 hlocks hW hS dX12_isSign_21
    · replace hE := ite_t q5 hE
      refine lv_iconst (v := (1 : Int32)) hx hb dX12_isSign_16 (by decide) ?_
      refine lv_goto (tgt := 21) hx hb dX12_isSign_17 (by decide) ?_
      obtain ⟨c7, hE⟩ := ck hE
      obtain rfl := so1 hE
      exact s_zret hx hb hr c7 hlocks hW hS dX12_isSign_21
set_option maxHeartbeats 4000000 in
set_option maxRecDepth 100000 in
theorem S_X12_readEnd (l : Launch) (G : GG) (F : Nat) {u0 : Option Nat} {f : Hp} {r : Int32} {f' : Hp} {n : Nat} (hE : m_X12_readEnd F u0 f = some (r, f')) : Ctr l G yX12_readEnd cX12_readEnd 1 (some .boolean) 2 45 [rr G u0] f n (some (.int r)) f' n 0 0 := by
  refine Met.ofW (cc := cX12_readEnd) (maxL := 1) (ret := (some .boolean)) (by decide) rfl ?_
  intro p e s m args below meth c s₁ B hml hv
  obtain ⟨rfl, hK, hW⟩ := hv
  have hx := B.exec
  have hb := B.bytes
  have hr := B.returns
  have hts := atoms_spec (ws := wsO yX12_readEnd cX12_readEnd 1 (some .boolean)) B.pre
  have hT : ∀ w ∈ TB, w.before [rr G u0].toArray s = true := fun w hw => hts w (List.mem_cons_of_mem _ hw)
  have hown : s.vm.findClass RX12 = some m.cls := findClass_of_methodNamed B.named
  have hlocks := B.notSynchronized
  have CF : CallFix p m c cX12_readEnd 1 s [rr G u0].toArray TB RX12 := ⟨hx, hb, hml, hown, hT⟩
  have hS : va_S (WA G) s.heap s.heap [] := va_S.rf
  have hl : lv_has (lg_sl ([rr G u0]) ++ List.replicate (1 - (lg_sl ([rr G u0])).length) Slot.unset).toArray 1 [(0, rr G u0)] := by cases u0 <;> exact lv_entry _ (Nat.le_of_ble_eq_true rfl)
  rw [lg_entry_eq]
  generalize (lg_sl ([rr G u0]) ++ List.replicate (1 - (lg_sl ([rr G u0])).length) Slot.unset).toArray = ls at hl ⊢
  refine s_aload_n hx hb dX12_readEnd_0 rfl (lv_at hl 0 rfl) ?_
  refine lv_bipush (v := (59 : Int32)) hx hb dX12_readEnd_1 (by decide) ?_
  obtain ⟨c1, hE⟩ := ck hE
  obtain ⟨x2, hx2, hE⟩ := bd hE
  refine s_callV (As := [.int (59 : Int32)]) (rest := []) CF hK hW hS (S_X12_isSign l G F hx2) c1 rfl gv_X12_161 hd_X12_isSign ⟨Nat.le_of_ble_eq_true rfl, Nat.le_of_ble_eq_true rfl⟩ rfl hl.1 rfl (Nat.le_of_ble_eq_true rfl) dX12_readEnd_3 ⟨Nat.le_refl _, Nat.le_refl _⟩ (fun H locs hW hS => ?_)
  refine lv_if_ne (tgt := 15) hx hb dX12_readEnd_6 (by decide) (fun q3 => ?_) (fun q3 => ?_)
  · replace hE := ite_f q3 hE
    refine s_aload_n hx hb dX12_readEnd_15 rfl (lv_at hl 0 rfl) ?_
    obtain ⟨c4, hE⟩ := ck hE
    obtain ⟨f5, hf5, hE⟩ := bd hE
    refine s_callV (As := []) (rest := []) CF hK hW hS (S_X12_go l G F hf5) c4 rfl gv_X12_158 hd_X12_go ⟨Nat.le_of_ble_eq_true rfl, Nat.le_of_ble_eq_true rfl⟩ rfl hl.1 rfl (Nat.le_of_ble_eq_true rfl) dX12_readEnd_16 ⟨Nat.le_refl _, Nat.le_refl _⟩ (fun H locs hW hS => ?_)
    refine lv_iconst (v := (1 : Int32)) hx hb dX12_readEnd_19 (by decide) ?_
    obtain ⟨c6, hE⟩ := ck hE
    obtain ⟨rfl, rfl⟩ := so2 hE
    exact s_zret hx hb hr c6 hlocks hW hS dX12_readEnd_20
  · replace hE := ite_t q3 hE
    refine s_aload_n hx hb dX12_readEnd_9 rfl (lv_at hl 0 rfl) ?_
    refine lv_iconst (v := (1 : Int32)) hx hb dX12_readEnd_10 (by decide) ?_
    obtain ⟨c7, hE⟩ := ck hE
    obtain ⟨x8, f9, hx8, hE⟩ := bd2_of hE
    refine s_callV (As := [.int (1 : Int32)]) (rest := []) CF hK hW hS (S_X12_bad l G F hx8) c7 rfl gv_X12_148 hd_X12_bad ⟨Nat.le_of_ble_eq_true rfl, Nat.le_of_ble_eq_true rfl⟩ rfl hl.1 rfl (Nat.le_of_ble_eq_true rfl) dX12_readEnd_11 ⟨Nat.le_refl _, Nat.le_refl _⟩ (fun H locs hW hS => ?_)
    obtain ⟨c10, hE⟩ := ck hE
    obtain ⟨rfl, rfl⟩ := so2 hE
    exact s_zret hx hb hr c10 hlocks hW hS dX12_readEnd_14
set_option maxHeartbeats 4000000 in
set_option maxRecDepth 100000 in
theorem S_X12_readLine (l : Launch) (G : GG) (F : Nat) {u0 : Option Nat} {f : Hp} {r : Int32} {f' : Hp} {n : Nat} (hE : m_X12_readLine F u0 f = some (r, f')) : Ctr l G yX12_readLine cX12_readLine 3 (some .boolean) 5 113 [rr G u0] f n (some (.int r)) f' n 0 0 := by
  refine Met.ofW (cc := cX12_readLine) (maxL := 3) (ret := (some .boolean)) (by decide) rfl ?_
  intro p e s m args below meth c s₁ B hml hv
  obtain ⟨rfl, hK, hW⟩ := hv
  have hx := B.exec
  have hb := B.bytes
  have hr := B.returns
  have hts := atoms_spec (ws := wsO yX12_readLine cX12_readLine 3 (some .boolean)) B.pre
  have hT : ∀ w ∈ TB, w.before [rr G u0].toArray s = true := fun w hw => hts w (List.mem_cons_of_mem _ hw)
  have hown : s.vm.findClass RX12 = some m.cls := findClass_of_methodNamed B.named
  have hlocks := B.notSynchronized
  have CF : CallFix p m c cX12_readLine 3 s [rr G u0].toArray TB RX12 := ⟨hx, hb, hml, hown, hT⟩
  have hS : va_S (WA G) s.heap s.heap [] := va_S.rf
  have hl : lv_has (lg_sl ([rr G u0]) ++ List.replicate (3 - (lg_sl ([rr G u0])).length) Slot.unset).toArray 3 [(0, rr G u0)] := by cases u0 <;> exact lv_entry _ (Nat.le_of_ble_eq_true rfl)
  rw [lg_entry_eq]
  generalize (lg_sl ([rr G u0]) ++ List.replicate (3 - (lg_sl ([rr G u0])).length) Slot.unset).toArray = ls at hl ⊢
  have hC115 : ∀ (v0 : Option Nat) (v2 : Int32) (fa : Hp) (H : Heap) (locs : List Loc) (ls : Array Slot), m_X12_readLine_B115 F v0 v2 fa = some (r, f') → Wd G fa n H → va_S (WA G) s.heap H locs → lv_has ls 3 [(0, rr G v0), (2, .int v2)] → W p l e (headSpec (wsO yX12_readLine cX12_readLine 3 (some .boolean)) { frames := 5, cells := 0, slots := 0, locals := 113 }).room s m [rr G u0].toArray below meth c H locs 0 0 (MQ below (Qcn G (some (.int r)) f' n) [rr G u0].toArray s 0 0 (WA G)) (F0 m 115 ls []) := by
    intro v0 v2 fa H locs ls hE hW hS hl
    refine lv_iload_n hx hb dX12_readLine_115 rfl (lv_at hl 1 rfl) ?_
    refine lv_if_eq (tgt := 130) hx hb dX12_readLine_116 (by decide) (fun q36 => ?_) (fun q36 => ?_)
    · replace hE := ite_t q36 hE
      refine lv_iconst (v := (0 : Int32)) hx hb dX12_readLine_130 (by decide) ?_
      obtain ⟨c37, hE⟩ := ck hE
      obtain ⟨rfl, rfl⟩ := so2 hE
      exact s_zret hx hb hr c37 hlocks hW hS dX12_readLine_131
    · replace hE := ite_f q36 hE
      refine s_aload_n hx hb dX12_readLine_119 rfl (lv_at hl 0 rfl) ?_
      obtain ⟨c38, hE⟩ := ck hE
      obtain ⟨x39, f40, hx39, hE⟩ := bd2_of hE
      refine s_callV (As := []) (rest := []) CF hK hW hS (S_X12_readEnd l G F hx39) c38 rfl gv_X12_232 hd_X12_readEnd ⟨Nat.le_of_ble_eq_true rfl, Nat.le_of_ble_eq_true rfl⟩ rfl hl.1 rfl (Nat.le_of_ble_eq_true rfl) dX12_readLine_120 ⟨Nat.le_refl _, Nat.le_refl _⟩ (fun H locs hW hS => ?_)
      refine lv_if_eq (tgt := 130) hx hb dX12_readLine_123 (by decide) (fun q41 => ?_) (fun q41 => ?_)
      · replace hE := ite_t q41 hE
        refine lv_iconst (v := (0 : Int32)) hx hb dX12_readLine_130 (by decide) ?_
        obtain ⟨c42, hE⟩ := ck hE
        obtain ⟨rfl, rfl⟩ := so2 hE
        exact s_zret hx hb hr c42 hlocks hW hS dX12_readLine_131
      · replace hE := ite_f q41 hE
        refine lv_iconst (v := (1 : Int32)) hx hb dX12_readLine_126 (by decide) ?_
        refine lv_goto (tgt := 131) hx hb dX12_readLine_127 (by decide) ?_
        obtain ⟨c43, hE⟩ := ck hE
        obtain ⟨rfl, rfl⟩ := so2 hE
        exact s_zret hx hb hr c43 hlocks hW hS dX12_readLine_131
  have hC104 : ∀ (v0 : Option Nat) (v1 : Int32) (s0 : Int32) (fa : Hp) (H : Heap) (locs : List Loc) (ls : Array Slot), m_X12_readLine_B104 F v0 v1 s0 fa = some (r, f') → Wd G fa n H → va_S (WA G) s.heap H locs → lv_has ls 3 [(0, rr G v0), (1, .int v1)] → W p l e (headSpec (wsO yX12_readLine cX12_readLine 3 (some .boolean)) { frames := 5, cells := 0, slots := 0, locals := 113 }).room s m [rr G u0].toArray below meth c H locs 0 0 (MQ below (Qcn G (some (.int r)) f' n) [rr G u0].toArray s 0 0 (WA G)) (F0 m 104 ls [.int s0]) := by
    intro v0 v1 s0 fa H locs ls hE hW hS hl
    refine lv_istore_n (i := 2) (lv' := [(2, .int s0), (0, rr G v0), (1, .int v1)]) hx hb dX12_readLine_104 rfl hl (by decide) rfl (fun ls hl => ?_)
    refine lv_iload_n hx hb dX12_readLine_105 rfl (lv_at hl 2 rfl) ?_
    refine lv_iconst (v := (2 : Int32)) hx hb dX12_readLine_106 (by decide) ?_
    refine lv_icmp_eq (tgt := 115) hx hb dX12_readLine_107 (by decide) (fun q34 => ?_) (fun q34 => ?_)
    · replace hE := ite_t q34 hE
      exact hC115 _ _ _ _ _ _ hE hW hS (lv_sub hl [1, 0] rfl)
    · replace hE := ite_f q34 hE
      refine s_aload_n hx hb dX12_readLine_110 rfl (lv_at hl 1 rfl) ?_
      refine lv_iconst (v := (1 : Int32)) hx hb dX12_readLine_111 (by decide) ?_
      obtain ⟨f35, hf35, hE⟩ := bd hE
      refine s_putI hx hb hT u_X12 tyX12 tyX12_ok nmX12 hown hK hW hS hf35 rfl (by decide) fl_X12_214 rfl (Or.inl rfl) rfl dX12_readLine_112 (fun H locs hW hS => ?_)
      exact hC115 _ _ _ _ _ _ hE hW hS (lv_sub hl [1, 0] rfl)
  have hC21 : ∀ (v0 : Option Nat) (v1 : Int32) (fa : Hp) (H : Heap) (locs : List Loc) (ls : Array Slot), m_X12_readLine_B21 F v0 v1 fa = some (r, f') → Wd G fa n H → va_S (WA G) s.heap H locs → lv_has ls 3 [(0, rr G v0), (1, .int v1)] → W p l e (headSpec (wsO yX12_readLine cX12_readLine 3 (some .boolean)) { frames := 5, cells := 0, slots := 0, locals := 113 }).room s m [rr G u0].toArray below meth c H locs 0 0 (MQ below (Qcn G (some (.int r)) f' n) [rr G u0].toArray s 0 0 (WA G)) (F0 m 21 ls []) := by
    intro v0 v1 fa H locs ls hE hW hS hl
    refine lv_iload_n hx hb dX12_readLine_21 rfl (lv_at hl 1 rfl) ?_
    refine lv_iconst (v := (5 : Int32)) hx hb dX12_readLine_22 (by decide) ?_
    refine lv_icmp_le (tgt := 32) hx hb dX12_readLine_23 (by decide) (fun q6 => ?_) (fun q6 => ?_)
    · replace hE := ite_t q6 hE
      refine lv_iload_n hx hb dX12_readLine_32 rfl (lv_at hl 1 rfl) ?_
      refine lv_if_ne (tgt := 43) hx hb dX12_readLine_33 (by decide) (fun q7 => ?_) (fun q7 => ?_)
      · replace hE := ite_f q7 hE
        refine lv_iload_n hx hb dX12_readLine_43 rfl (lv_at hl 1 rfl) ?_
        refine lv_iconst (v := (1 : Int32)) hx hb dX12_readLine_44 (by decide) ?_
        refine lv_icmp_ne (tgt := 55) hx hb dX12_readLine_45 (by decide) (fun q8 => ?_) (fun q8 => ?_)
        · replace hE := ite_f q8 hE
          refine lv_iload_n hx hb dX12_readLine_55 rfl (lv_at hl 1 rfl) ?_
          refine lv_iconst (v := (2 : Int32)) hx hb dX12_readLine_56 (by decide) ?_
          refine lv_icmp_ne (tgt := 67) hx hb dX12_readLine_57 (by decide) (fun q9 => ?_) (fun q9 => ?_)
          · replace hE := ite_f q9 hE
            refine lv_iload_n hx hb dX12_readLine_67 rfl (lv_at hl 1 rfl) ?_
            refine lv_iconst (v := (3 : Int32)) hx hb dX12_readLine_68 (by decide) ?_
            refine lv_icmp_ne (tgt := 79) hx hb dX12_readLine_69 (by decide) (fun q10 => ?_) (fun q10 => ?_)
            · replace hE := ite_f q10 hE
              refine lv_iload_n hx hb dX12_readLine_79 rfl (lv_at hl 1 rfl) ?_
              refine lv_iconst (v := (4 : Int32)) hx hb dX12_readLine_80 (by decide) ?_
              refine lv_icmp_ne (tgt := 95) hx hb dX12_readLine_81 (by decide) (fun q11 => ?_) (fun q11 => ?_)
              · replace hE := ite_f q11 hE
                refine s_aload_n hx hb dX12_readLine_95 rfl (lv_at hl 0 rfl) ?_
                refine lv_iconst (v := (4 : Int32)) hx hb dX12_readLine_96 (by decide) ?_
                refine lv_sipush (v := (134 : Int32)) hx hb dX12_readLine_97 (by decide) ?_
                refine lv_iconst (v := (3 : Int32)) hx hb dX12_readLine_100 (by decide) ?_
                obtain ⟨c12, hE⟩ := ck hE
                obtain ⟨x13, f14, hx13, hE⟩ := bd2_of hE
                refine s_callV (As := [.int (4 : Int32), .int (134 : Int32), .int (3 : Int32)]) (rest := []) CF hK hW hS (S_X12_readPair l G F hx13) c12 rfl gv_X12_229 hd_X12_readPair ⟨Nat.le_of_ble_eq_true rfl, Nat.le_of_ble_eq_true rfl⟩ rfl hl.1 rfl (Nat.le_of_ble_eq_true rfl) dX12_readLine_101 ⟨Nat.le_refl _, Nat.le_refl _⟩ (fun H locs hW hS => ?_)
                exact hC104 _ _ _ _ _ _ _ hE hW hS (lv_sub hl [0, 1] rfl)
              · replace hE := ite_t q11 hE
                refine s_aload_n hx hb dX12_readLine_84 rfl (lv_at hl 0 rfl) ?_
                refine lv_iconst (v := (3 : Int32)) hx hb dX12_readLine_85 (by decide) ?_
                refine lv_bipush (v := (110 : Int32)) hx hb dX12_readLine_86 (by decide) ?_
                refine lv_iconst (v := (2 : Int32)) hx hb dX12_readLine_88 (by decide) ?_
                obtain ⟨c15, hE⟩ := ck hE
                obtain ⟨x16, f17, hx16, hE⟩ := bd2_of hE
                refine s_callV (As := [.int (3 : Int32), .int (110 : Int32), .int (2 : Int32)]) (rest := []) CF hK hW hS (S_X12_readPair l G F hx16) c15 rfl gv_X12_229 hd_X12_readPair ⟨Nat.le_of_ble_eq_true rfl, Nat.le_of_ble_eq_true rfl⟩ rfl hl.1 rfl (Nat.le_of_ble_eq_true rfl) dX12_readLine_89 ⟨Nat.le_refl _, Nat.le_refl _⟩ (fun H locs hW hS => ?_)
                refine lv_goto (tgt := 104) hx hb dX12_readLine_92 (by decide) ?_
                exact hC104 _ _ _ _ _ _ _ hE hW hS (lv_sub hl [0, 1] rfl)
            · replace hE := ite_t q10 hE
              refine s_aload_n hx hb dX12_readLine_72 rfl (lv_at hl 0 rfl) ?_
              obtain ⟨c18, hE⟩ := ck hE
              obtain ⟨x19, f20, hx19, hE⟩ := bd2_of hE
              refine s_callV (As := []) (rest := []) CF hK hW hS (S_X12_readLikely l G F hx19) c18 rfl gv_X12_226 hd_X12_readLikely ⟨Nat.le_of_ble_eq_true rfl, Nat.le_of_ble_eq_true rfl⟩ rfl hl.1 rfl (Nat.le_of_ble_eq_true rfl) dX12_readLine_73 ⟨Nat.le_refl _, Nat.le_refl _⟩ (fun H locs hW hS => ?_)
              refine lv_goto (tgt := 104) hx hb dX12_readLine_76 (by decide) ?_
              exact hC104 _ _ _ _ _ _ _ hE hW hS (lv_sub hl [0, 1] rfl)
          · replace hE := ite_t q9 hE
            refine s_aload_n hx hb dX12_readLine_60 rfl (lv_at hl 0 rfl) ?_
            obtain ⟨c21, hE⟩ := ck hE
            obtain ⟨x22, f23, hx22, hE⟩ := bd2_of hE
            refine s_callV (As := []) (rest := []) CF hK hW hS (S_X12_readDesk l G F hx22) c21 rfl gv_X12_223 hd_X12_readDesk ⟨Nat.le_of_ble_eq_true rfl, Nat.le_of_ble_eq_true rfl⟩ rfl hl.1 rfl (Nat.le_of_ble_eq_true rfl) dX12_readLine_61 ⟨Nat.le_refl _, Nat.le_refl _⟩ (fun H locs hW hS => ?_)
            refine lv_goto (tgt := 104) hx hb dX12_readLine_64 (by decide) ?_
            exact hC104 _ _ _ _ _ _ _ hE hW hS (lv_sub hl [0, 1] rfl)
        · replace hE := ite_t q8 hE
          refine s_aload_n hx hb dX12_readLine_48 rfl (lv_at hl 0 rfl) ?_
          obtain ⟨c24, hE⟩ := ck hE
          obtain ⟨x25, f26, hx25, hE⟩ := bd2_of hE
          refine s_callV (As := []) (rest := []) CF hK hW hS (S_X12_readCopy l G F hx25) c24 rfl gv_X12_220 hd_X12_readCopy ⟨Nat.le_of_ble_eq_true rfl, Nat.le_of_ble_eq_true rfl⟩ rfl hl.1 rfl (Nat.le_of_ble_eq_true rfl) dX12_readLine_49 ⟨Nat.le_refl _, Nat.le_refl _⟩ (fun H locs hW hS => ?_)
          refine lv_goto (tgt := 104) hx hb dX12_readLine_52 (by decide) ?_
          exact hC104 _ _ _ _ _ _ _ hE hW hS (lv_sub hl [0, 1] rfl)
      · replace hE := ite_t q7 hE
        refine s_aload_n hx hb dX12_readLine_36 rfl (lv_at hl 0 rfl) ?_
        obtain ⟨c27, hE⟩ := ck hE
        obtain ⟨x28, f29, hx28, hE⟩ := bd2_of hE
        refine s_callV (As := []) (rest := []) CF hK hW hS (S_X12_readLines l G F hx28) c27 rfl gv_X12_217 hd_X12_readLines ⟨Nat.le_of_ble_eq_true rfl, Nat.le_of_ble_eq_true rfl⟩ rfl hl.1 rfl (Nat.le_of_ble_eq_true rfl) dX12_readLine_37 ⟨Nat.le_refl _, Nat.le_refl _⟩ (fun H locs hW hS => ?_)
        refine lv_goto (tgt := 104) hx hb dX12_readLine_40 (by decide) ?_
        exact hC104 _ _ _ _ _ _ _ hE hW hS (lv_sub hl [0, 1] rfl)
    · replace hE := ite_f q6 hE
      refine s_aload_n hx hb dX12_readLine_26 rfl (lv_at hl 0 rfl) ?_
      refine lv_iconst (v := (1 : Int32)) hx hb dX12_readLine_27 (by decide) ?_
      obtain ⟨c30, hE⟩ := ck hE
      obtain ⟨x31, f32, hx31, hE⟩ := bd2_of hE
      refine s_callV (As := [.int (1 : Int32)]) (rest := []) CF hK hW hS (S_X12_bad l G F hx31) c30 rfl gv_X12_148 hd_X12_bad ⟨Nat.le_of_ble_eq_true rfl, Nat.le_of_ble_eq_true rfl⟩ rfl hl.1 rfl (Nat.le_of_ble_eq_true rfl) dX12_readLine_28 ⟨Nat.le_refl _, Nat.le_refl _⟩ (fun H locs hW hS => ?_)
      obtain ⟨c33, hE⟩ := ck hE
      obtain ⟨rfl, rfl⟩ := so2 hE
      exact s_zret hx hb hr c33 hlocks hW hS dX12_readLine_31
  have hC2 : ∀ (k2 : Nat), ∀ (v0 : Option Nat) (v1 : Int32) (fa : Hp) (H : Heap) (locs : List Loc) (ls : Array Slot), m_X12_readLine_L2 F k2 v0 v1 fa = some (r, f') → Wd G fa n H → va_S (WA G) s.heap H locs → lv_has ls 3 [(0, rr G v0), (1, .int v1)] → W p l e (headSpec (wsO yX12_readLine cX12_readLine 3 (some .boolean)) { frames := 5, cells := 0, slots := 0, locals := 113 }).room s m [rr G u0].toArray below meth c H locs 0 0 (MQ below (Qcn G (some (.int r)) f' n) [rr G u0].toArray s 0 0 (WA G)) (F0 m 2 ls []) := by
    intro k2
    induction k2 with
    | zero => intro v0 v1 fa H locs ls hE _ _ _; cases (show (none : Option ((Int32) × Hp)) = some (r, f') from hE)
    | succ k2 ih2 =>
      intro v0 v1 fa H locs ls hE hW hS hl
      replace hE : m_X12_readLine_b2 F (m_X12_readLine_L2 F k2) v0 v1 fa = some (r, f') := hE
      refine lv_iload_n hx hb dX12_readLine_2 rfl (lv_at hl 1 rfl) ?_
      refine lv_iconst (v := (5 : Int32)) hx hb dX12_readLine_3 (by decide) ?_
      refine lv_icmp_gt (tgt := 21) hx hb dX12_readLine_4 (by decide) (fun q1 => ?_) (fun q1 => ?_)
      · replace hE := ite_t q1 hE
        exact hC21 _ _ _ _ _ _ hE hW hS (lv_sub hl [0, 1] rfl)
      · replace hE := ite_f q1 hE
        refine s_aload_n hx hb dX12_readLine_7 rfl (lv_at hl 0 rfl) ?_
        refine lv_iload_n hx hb dX12_readLine_8 rfl (lv_at hl 1 rfl) ?_
        obtain ⟨c2, hE⟩ := ck hE
        obtain ⟨x3, hx3, hE⟩ := bd hE
        refine s_callV (As := [.int v1]) (rest := []) CF hK hW hS (S_X12_isWord l G F hx3) c2 rfl gv_X12_202 hd_X12_isWord ⟨Nat.le_of_ble_eq_true rfl, Nat.le_of_ble_eq_true rfl⟩ rfl hl.1 rfl (Nat.le_of_ble_eq_true rfl) dX12_readLine_9 ⟨Nat.le_refl _, Nat.le_refl _⟩ (fun H locs hW hS => ?_)
        refine lv_if_ne (tgt := 21) hx hb dX12_readLine_12 (by decide) (fun q4 => ?_) (fun q4 => ?_)
        · replace hE := ite_f q4 hE
          exact hC21 _ _ _ _ _ _ hE hW hS (lv_sub hl [0, 1] rfl)
        · replace hE := ite_t q4 hE
          obtain ⟨y5, ey5⟩ : ∃ y : Int32, y = v1 + (1 : Int32) := ⟨_, rfl⟩
          replace hE := nm_o ey5 hE
          refine lv_iinc (k := 1) (v := y5) (lv' := [(1, .int y5), (0, rr G v0)]) hx hb dX12_readLine_15 hl rfl (by rw [ey5]; rfl) (by decide) (by simp [cat_rr]) (fun ls hl => ?_)
          refine lv_goto (tgt := 2) hx hb dX12_readLine_18 (by decide) ?_
          exact ih2 _ _ _ _ _ _ hE hW hS (lv_sub hl [1, 0] rfl)
  refine lv_iconst (v := (0 : Int32)) hx hb dX12_readLine_0 (by decide) ?_
  refine lv_istore_n (i := 1) (lv' := [(1, .int (0 : Int32)), (0, rr G u0)]) hx hb dX12_readLine_1 rfl hl (by decide) (by simp [cat_rr]) (fun ls hl => ?_)
  exact hC2 F _ _ _ _ _ _ hE hW hS (lv_sub hl [1, 0] rfl)
set_option maxHeartbeats 4000000 in
set_option maxRecDepth 100000 in
theorem S_X12_house (l : Launch) (G : GG) (F : Nat) {u0 : Option Nat} {f : Hp} {r : Int32} {f' : Hp} {n : Nat} (hE : m_X12_house F u0 f = some (r, f')) : Ctr l G yX12_house cX12_house 3 (some .int) 6 135 [rr G u0] f n (some (.int r)) f' n 0 0 := by
  refine Met.ofW (cc := cX12_house) (maxL := 3) (ret := (some .int)) (by decide) rfl ?_
  intro p e s m args below meth c s₁ B hml hv
  obtain ⟨rfl, hK, hW⟩ := hv
  have hx := B.exec
  have hb := B.bytes
  have hr := B.returns
  have hts := atoms_spec (ws := wsO yX12_house cX12_house 3 (some .int)) B.pre
  have hT : ∀ w ∈ TB, w.before [rr G u0].toArray s = true := fun w hw => hts w (List.mem_cons_of_mem _ hw)
  have hown : s.vm.findClass RX12 = some m.cls := findClass_of_methodNamed B.named
  have hlocks := B.notSynchronized
  have CF : CallFix p m c cX12_house 3 s [rr G u0].toArray TB RX12 := ⟨hx, hb, hml, hown, hT⟩
  have hS : va_S (WA G) s.heap s.heap [] := va_S.rf
  have hl : lv_has (lg_sl ([rr G u0]) ++ List.replicate (3 - (lg_sl ([rr G u0])).length) Slot.unset).toArray 3 [(0, rr G u0)] := by cases u0 <;> exact lv_entry _ (Nat.le_of_ble_eq_true rfl)
  rw [lg_entry_eq]
  generalize (lg_sl ([rr G u0]) ++ List.replicate (3 - (lg_sl ([rr G u0])).length) Slot.unset).toArray = ls at hl ⊢
  have hC82 : ∀ (k82 : Nat), ∀ (v0 : Option Nat) (v1 : Int32) (v2 : Int32) (fa : Hp) (H : Heap) (locs : List Loc) (ls : Array Slot), m_X12_house_L82 F k82 v0 v1 v2 fa = some (r, f') → Wd G fa n H → va_S (WA G) s.heap H locs → lv_has ls 3 [(0, rr G v0), (1, .int v1), (2, .int v2)] → W p l e (headSpec (wsO yX12_house cX12_house 3 (some .int)) { frames := 6, cells := 0, slots := 0, locals := 135 }).room s m [rr G u0].toArray below meth c H locs 0 0 (MQ below (Qcn G (some (.int r)) f' n) [rr G u0].toArray s 0 0 (WA G)) (F0 m 82 ls []) := by
    intro k82
    induction k82 with
    | zero => intro v0 v1 v2 fa H locs ls hE _ _ _; cases (show (none : Option ((Int32) × Hp)) = some (r, f') from hE)
    | succ k82 ih82 =>
      intro v0 v1 v2 fa H locs ls hE hW hS hl
      replace hE : m_X12_house_b82 F (m_X12_house_L82 F k82) v0 v1 v2 fa = some (r, f') := hE
      refine lv_iload_n hx hb dX12_house_82 rfl (lv_at hl 2 rfl) ?_
      refine lv_bipush (v := (16 : Int32)) hx hb dX12_house_83 (by decide) ?_
      refine lv_icmp_ge (tgt := 106) hx hb dX12_house_85 (by decide) (fun q15 => ?_) (fun q15 => ?_)
      · replace hE := ite_t q15 hE
        refine s_aload_n hx hb dX12_house_106 rfl (lv_at hl 0 rfl) ?_
        obtain ⟨x16, hx16, hE⟩ := bd hE
        refine s_gR hx hb hT u_X12 hown hK hW hx16 rfl (by decide) fl_X12_13 rfl dX12_house_107 ?_
        refine lv_sipush (v := (170 : Int32)) hx hb dX12_house_110 (by decide) ?_
        refine lv_iconst (v := (0 : Int32)) hx hb dX12_house_113 (by decide) ?_
        obtain ⟨f17, hf17, hE⟩ := bd hE
        refine s_stI hx hb hK hW hS hf17 dX12_house_114 (fun H locs hW hS => ?_)
        refine lv_iload_n hx hb dX12_house_115 rfl (lv_at hl 1 rfl) ?_
        obtain ⟨rfl, rfl⟩ := so2 hE
        exact s_iret hx hb hr hlocks hW hS dX12_house_116
      · replace hE := ite_f q15 hE
        refine s_aload_n hx hb dX12_house_88 rfl (lv_at hl 0 rfl) ?_
        obtain ⟨x18, hx18, hE⟩ := bd hE
        refine s_gR hx hb hT u_X12 hown hK hW hx18 rfl (by decide) fl_X12_22 rfl dX12_house_89 ?_
        refine lv_iload_n hx hb dX12_house_92 rfl (lv_at hl 2 rfl) ?_
        refine s_aload_n hx hb dX12_house_93 rfl (lv_at hl 0 rfl) ?_
        obtain ⟨x19, hx19, hE⟩ := bd hE
        refine s_gR hx hb hT u_X12 hown hK hW hx19 rfl (by decide) fl_X12_26 rfl dX12_house_94 ?_
        refine lv_iload_n hx hb dX12_house_97 rfl (lv_at hl 2 rfl) ?_
        obtain ⟨x20, hx20, hE⟩ := bd hE
        refine s_ldJ hx hb hK hW hS hx20 dX12_house_98 ?_
        obtain ⟨f21, hf21, hE⟩ := bd hE
        refine s_stJ hx hb hK hW hS hf21 dX12_house_99 (fun H locs hW hS => ?_)
        obtain ⟨y22, ey22⟩ : ∃ y : Int32, y = v2 + (1 : Int32) := ⟨_, rfl⟩
        replace hE := nm_o ey22 hE
        refine lv_iinc (k := 2) (v := y22) (lv' := [(2, .int y22), (0, rr G v0), (1, .int v1)]) hx hb dX12_house_100 hl rfl (by rw [ey22]; rfl) (by decide) rfl (fun ls hl => ?_)
        refine lv_goto (tgt := 82) hx hb dX12_house_103 (by decide) ?_
        exact ih82 _ _ _ _ _ _ _ hE hW hS (lv_sub hl [1, 2, 0] rfl)
  have hC55 : ∀ (k55 : Nat), ∀ (v0 : Option Nat) (v1 : Int32) (v2 : Int32) (fa : Hp) (H : Heap) (locs : List Loc) (ls : Array Slot), m_X12_house_L55 F k55 v0 v1 v2 fa = some (r, f') → Wd G fa n H → va_S (WA G) s.heap H locs → lv_has ls 3 [(0, rr G v0), (1, .int v1), (2, .int v2)] → W p l e (headSpec (wsO yX12_house cX12_house 3 (some .int)) { frames := 6, cells := 0, slots := 0, locals := 135 }).room s m [rr G u0].toArray below meth c H locs 0 0 (MQ below (Qcn G (some (.int r)) f' n) [rr G u0].toArray s 0 0 (WA G)) (F0 m 55 ls []) := by
    intro k55
    induction k55 with
    | zero => intro v0 v1 v2 fa H locs ls hE _ _ _; cases (show (none : Option ((Int32) × Hp)) = some (r, f') from hE)
    | succ k55 ih55 =>
      intro v0 v1 v2 fa H locs ls hE hW hS hl
      replace hE : m_X12_house_b55 F (m_X12_house_L55 F k55) v0 v1 v2 fa = some (r, f') := hE
      refine lv_iload_n hx hb dX12_house_55 rfl (lv_at hl 2 rfl) ?_
      refine lv_sipush (v := (170 : Int32)) hx hb dX12_house_56 (by decide) ?_
      refine lv_icmp_ge (tgt := 80) hx hb dX12_house_59 (by decide) (fun q9 => ?_) (fun q9 => ?_)
      · replace hE := ite_t q9 hE
        refine lv_iconst (v := (0 : Int32)) hx hb dX12_house_80 (by decide) ?_
        refine lv_istore_n (i := 2) (lv' := [(2, .int (0 : Int32)), (0, rr G v0), (1, .int v1)]) hx hb dX12_house_81 rfl hl (by decide) rfl (fun ls hl => ?_)
        exact hC82 F _ _ _ _ _ _ _ hE hW hS (lv_sub hl [1, 2, 0] rfl)
      · replace hE := ite_f q9 hE
        refine s_aload_n hx hb dX12_house_62 rfl (lv_at hl 0 rfl) ?_
        obtain ⟨x10, hx10, hE⟩ := bd hE
        refine s_gR hx hb hT u_X12 hown hK hW hx10 rfl (by decide) fl_X12_13 rfl dX12_house_63 ?_
        refine lv_iload_n hx hb dX12_house_66 rfl (lv_at hl 2 rfl) ?_
        refine s_aload_n hx hb dX12_house_67 rfl (lv_at hl 0 rfl) ?_
        obtain ⟨x11, hx11, hE⟩ := bd hE
        refine s_gR hx hb hT u_X12 hown hK hW hx11 rfl (by decide) fl_X12_16 rfl dX12_house_68 ?_
        refine lv_iload_n hx hb dX12_house_71 rfl (lv_at hl 2 rfl) ?_
        obtain ⟨x12, hx12, hE⟩ := bd hE
        refine s_ldI hx hb hK hW hS hx12 dX12_house_72 ?_
        obtain ⟨f13, hf13, hE⟩ := bd hE
        refine s_stI hx hb hK hW hS hf13 dX12_house_73 (fun H locs hW hS => ?_)
        obtain ⟨y14, ey14⟩ : ∃ y : Int32, y = v2 + (1 : Int32) := ⟨_, rfl⟩
        replace hE := nm_o ey14 hE
        refine lv_iinc (k := 2) (v := y14) (lv' := [(2, .int y14), (0, rr G v0), (1, .int v1)]) hx hb dX12_house_74 hl rfl (by rw [ey14]; rfl) (by decide) rfl (fun ls hl => ?_)
        refine lv_goto (tgt := 55) hx hb dX12_house_77 (by decide) ?_
        exact ih55 _ _ _ _ _ _ _ hE hW hS (lv_sub hl [1, 2, 0] rfl)
  have hC26 : ∀ (k26 : Nat), ∀ (v0 : Option Nat) (v1 : Int32) (fa : Hp) (H : Heap) (locs : List Loc) (ls : Array Slot), m_X12_house_L26 F k26 v0 v1 fa = some (r, f') → Wd G fa n H → va_S (WA G) s.heap H locs → lv_has ls 3 [(0, rr G v0), (1, .int v1)] → W p l e (headSpec (wsO yX12_house cX12_house 3 (some .int)) { frames := 6, cells := 0, slots := 0, locals := 135 }).room s m [rr G u0].toArray below meth c H locs 0 0 (MQ below (Qcn G (some (.int r)) f' n) [rr G u0].toArray s 0 0 (WA G)) (F0 m 26 ls []) := by
    intro k26
    induction k26 with
    | zero => intro v0 v1 fa H locs ls hE _ _ _; cases (show (none : Option ((Int32) × Hp)) = some (r, f') from hE)
    | succ k26 ih26 =>
      intro v0 v1 fa H locs ls hE hW hS hl
      replace hE : m_X12_house_b26 F (m_X12_house_L26 F k26) v0 v1 fa = some (r, f') := hE
      refine s_aload_n hx hb dX12_house_26 rfl (lv_at hl 0 rfl) ?_
      obtain ⟨x1, hx1, hE⟩ := bd hE
      refine s_gI hx hb hT u_X12 hown hK hW hx1 rfl (by decide) fl_X12_104 rfl dX12_house_27 ?_
      refine lv_if_eq (tgt := 53) hx hb dX12_house_30 (by decide) (fun q2 => ?_) (fun q2 => ?_)
      · replace hE := ite_t q2 hE
        refine lv_iconst (v := (0 : Int32)) hx hb dX12_house_53 (by decide) ?_
        refine lv_istore_n (i := 2) (lv' := [(2, .int (0 : Int32)), (0, rr G v0), (1, .int v1)]) hx hb dX12_house_54 rfl hl (by decide) rfl (fun ls hl => ?_)
        exact hC55 F _ _ _ _ _ _ _ hE hW hS (lv_sub hl [1, 2, 0] rfl)
      · replace hE := ite_f q2 hE
        refine s_aload_n hx hb dX12_house_33 rfl (lv_at hl 0 rfl) ?_
        obtain ⟨c3, hE⟩ := ck hE
        obtain ⟨x4, f5, hx4, hE⟩ := bd2_of hE
        refine s_callV (As := []) (rest := []) CF hK hW hS (S_X12_readLine l G F hx4) c3 rfl gv_X12_238 hd_X12_readLine ⟨Nat.le_of_ble_eq_true rfl, Nat.le_of_ble_eq_true rfl⟩ rfl hl.1 rfl (Nat.le_of_ble_eq_true rfl) dX12_house_34 ⟨Nat.le_refl _, Nat.le_refl _⟩ (fun H locs hW hS => ?_)
        refine lv_if_ne (tgt := 47) hx hb dX12_house_37 (by decide) (fun q6 => ?_) (fun q6 => ?_)
        · replace hE := ite_f q6 hE
          obtain ⟨y7, ey7⟩ : ∃ y : Int32, y = v1 + (1 : Int32) := ⟨_, rfl⟩
          replace hE := nm_o ey7 hE
          refine lv_iinc (k := 1) (v := y7) (lv' := [(1, .int y7), (0, rr G v0)]) hx hb dX12_house_47 hl rfl (by rw [ey7]; rfl) (by decide) (by simp [cat_rr]) (fun ls hl => ?_)
          refine lv_goto (tgt := 26) hx hb dX12_house_50 (by decide) ?_
          exact ih26 _ _ _ _ _ _ hE hW hS (lv_sub hl [1, 0] rfl)
        · replace hE := ite_t q6 hE
          refine lv_iconst (v := (-1 : Int32)) hx hb dX12_house_40 (by decide) ?_
          refine s_aload_n hx hb dX12_house_41 rfl (lv_at hl 0 rfl) ?_
          obtain ⟨x8, hx8, hE⟩ := bd hE
          refine s_gI hx hb hT u_X12 hown hK hW hx8 rfl (by decide) fl_X12_145 rfl dX12_house_42 ?_
          refine lv_isub hx hb dX12_house_45 ?_
          obtain ⟨rfl, rfl⟩ := so2 hE
          exact s_iret hx hb hr hlocks hW hS dX12_house_46
  refine s_aload_n hx hb dX12_house_0 rfl (lv_at hl 0 rfl) ?_
  refine lv_sipush (v := (700 : Int32)) hx hb dX12_house_1 (by decide) ?_
  obtain ⟨c23, hE⟩ := ck hE
  obtain ⟨f24, hf24, hE⟩ := bd hE
  refine s_callV (As := [.int (700 : Int32)]) (rest := []) CF hK hW hS (S_X12_begin l G F hf24) c23 rfl gv_X12_235 hd_X12_begin ⟨Nat.le_of_ble_eq_true rfl, Nat.le_of_ble_eq_true rfl⟩ rfl hl.1 rfl (Nat.le_of_ble_eq_true rfl) dX12_house_4 ⟨Nat.le_refl _, Nat.le_refl _⟩ (fun H locs hW hS => ?_)
  refine s_aload_n hx hb dX12_house_7 rfl (lv_at hl 0 rfl) ?_
  obtain ⟨x25, hx25, hE⟩ := bd hE
  refine s_gR hx hb hT u_X12 hown hK hW hx25 rfl (by decide) fl_X12_16 rfl dX12_house_8 ?_
  obtain ⟨f26, hf26, hE⟩ := bd hE
  refine s_callS (As := [rr G x25]) (rest := []) CF hK hW hS (S_X12_standard l G F hf26) gs_X12_175 hd_X12_standard.2 ⟨Nat.le_of_ble_eq_true rfl, Nat.le_of_ble_eq_true rfl⟩ rfl hl.1 rfl (Nat.le_of_ble_eq_true rfl) dX12_house_11 ⟨Nat.le_refl _, Nat.le_refl _⟩ (fun H locs hW hS => ?_)
  refine s_aload_n hx hb dX12_house_14 rfl (lv_at hl 0 rfl) ?_
  refine lv_iconst (v := (0 : Int32)) hx hb dX12_house_15 (by decide) ?_
  obtain ⟨f27, hf27, hE⟩ := bd hE
  refine s_putI hx hb hT u_X12 tyX12 tyX12_ok nmX12 hown hK hW hS hf27 rfl (by decide) fl_X12_214 rfl (Or.inl rfl) rfl dX12_house_16 (fun H locs hW hS => ?_)
  refine s_aload_n hx hb dX12_house_19 rfl (lv_at hl 0 rfl) ?_
  refine lv_iconst (v := (0 : Int32)) hx hb dX12_house_20 (by decide) ?_
  obtain ⟨f28, hf28, hE⟩ := bd hE
  refine s_putI hx hb hT u_X12 tyX12 tyX12_ok nmX12 hown hK hW hS hf28 rfl (by decide) fl_X12_208 rfl (Or.inl rfl) rfl dX12_house_21 (fun H locs hW hS => ?_)
  refine lv_iconst (v := (0 : Int32)) hx hb dX12_house_24 (by decide) ?_
  refine lv_istore_n (i := 1) (lv' := [(1, .int (0 : Int32)), (0, rr G u0)]) hx hb dX12_house_25 rfl hl (by decide) (by simp [cat_rr]) (fun ls hl => ?_)
  exact hC26 F _ _ _ _ _ _ hE hW hS (lv_sub hl [1, 0] rfl)
set_option maxHeartbeats 4000000 in
set_option maxRecDepth 100000 in
theorem S_X12_image (l : Launch) (G : GG) (F : Nat) {u0 : Option Nat} {u1 : Int32} {f : Hp} {r : Int32} {f' : Hp} {n : Nat} (hE : m_X12_image F u0 u1 f = some (r, f')) : Ctr l G yX12_image cX12_image 3 (some .boolean) 2 41 [rr G u0, .int u1] f n (some (.int r)) f' n 0 0 := by
  refine Met.ofW (cc := cX12_image) (maxL := 3) (ret := (some .boolean)) (by decide) rfl ?_
  intro p e s m args below meth c s₁ B hml hv
  obtain ⟨rfl, hK, hW⟩ := hv
  have hx := B.exec
  have hb := B.bytes
  have hr := B.returns
  have hts := atoms_spec (ws := wsO yX12_image cX12_image 3 (some .boolean)) B.pre
  have hT : ∀ w ∈ TB, w.before [rr G u0, .int u1].toArray s = true := fun w hw => hts w (List.mem_cons_of_mem _ hw)
  have hown : s.vm.findClass RX12 = some m.cls := findClass_of_methodNamed B.named
  have hlocks := B.notSynchronized
  have CF : CallFix p m c cX12_image 3 s [rr G u0, .int u1].toArray TB RX12 := ⟨hx, hb, hml, hown, hT⟩
  have hS : va_S (WA G) s.heap s.heap [] := va_S.rf
  have hl : lv_has (lg_sl ([rr G u0, .int u1]) ++ List.replicate (3 - (lg_sl ([rr G u0, .int u1])).length) Slot.unset).toArray 3 [(0, rr G u0), (1, .int u1)] := by cases u0 <;> exact lv_entry _ (Nat.le_of_ble_eq_true rfl)
  rw [lg_entry_eq]
  generalize (lg_sl ([rr G u0, .int u1]) ++ List.replicate (3 - (lg_sl ([rr G u0, .int u1])).length) Slot.unset).toArray = ls at hl ⊢
  have hC55 : ∀ (k55 : Nat), ∀ (v0 : Option Nat) (v1 : Int32) (v2 : Int32) (fa : Hp) (H : Heap) (locs : List Loc) (ls : Array Slot), m_X12_image_L55 F k55 v0 v1 v2 fa = some (r, f') → Wd G fa n H → va_S (WA G) s.heap H locs → lv_has ls 3 [(0, rr G v0), (1, .int v1), (2, .int v2)] → W p l e (headSpec (wsO yX12_image cX12_image 3 (some .boolean)) { frames := 2, cells := 0, slots := 0, locals := 41 }).room s m [rr G u0, .int u1].toArray below meth c H locs 0 0 (MQ below (Qcn G (some (.int r)) f' n) [rr G u0, .int u1].toArray s 0 0 (WA G)) (F0 m 55 ls []) := by
    intro k55
    induction k55 with
    | zero => intro v0 v1 v2 fa H locs ls hE _ _ _; cases (show (none : Option ((Int32) × Hp)) = some (r, f') from hE)
    | succ k55 ih55 =>
      intro v0 v1 v2 fa H locs ls hE hW hS hl
      replace hE : m_X12_image_b55 F (m_X12_image_L55 F k55) v0 v1 v2 fa = some (r, f') := hE
      refine lv_iload_n hx hb dX12_image_55 rfl (lv_at hl 2 rfl) ?_
      refine lv_bipush (v := (16 : Int32)) hx hb dX12_image_56 (by decide) ?_
      refine lv_icmp_ge (tgt := 84) hx hb dX12_image_58 (by decide) (fun q7 => ?_) (fun q7 => ?_)
      · replace hE := ite_t q7 hE
        refine s_aload_n hx hb dX12_image_84 rfl (lv_at hl 0 rfl) ?_
        obtain ⟨x8, hx8, hE⟩ := bd hE
        refine s_gR hx hb hT u_X12 hown hK hW hx8 rfl (by decide) fl_X12_32 rfl dX12_image_85 ?_
        refine lv_iload_n hx hb dX12_image_88 rfl (lv_at hl 1 rfl) ?_
        refine lv_iconst (v := (1 : Int32)) hx hb dX12_image_89 (by decide) ?_
        obtain ⟨f9, hf9, hE⟩ := bd hE
        refine s_stZ hx hb hK hW hS hf9 dX12_image_90 (fun H locs hW hS => ?_)
        refine lv_iconst (v := (1 : Int32)) hx hb dX12_image_91 (by decide) ?_
        obtain ⟨c10, hE⟩ := ck hE
        obtain ⟨rfl, rfl⟩ := so2 hE
        exact s_zret hx hb hr c10 hlocks hW hS dX12_image_92
      · replace hE := ite_f q7 hE
        refine s_aload_n hx hb dX12_image_61 rfl (lv_at hl 0 rfl) ?_
        obtain ⟨x11, hx11, hE⟩ := bd hE
        refine s_gR hx hb hT u_X12 hown hK hW hx11 rfl (by decide) fl_X12_29 rfl dX12_image_62 ?_
        refine lv_bipush (v := (16 : Int32)) hx hb dX12_image_65 (by decide) ?_
        refine lv_iload_n hx hb dX12_image_67 rfl (lv_at hl 1 rfl) ?_
        refine lv_imul hx hb dX12_image_68 ?_
        refine lv_iload_n hx hb dX12_image_69 rfl (lv_at hl 2 rfl) ?_
        refine lv_iadd hx hb dX12_image_70 ?_
        refine s_aload_n hx hb dX12_image_71 rfl (lv_at hl 0 rfl) ?_
        obtain ⟨x12, hx12, hE⟩ := bd hE
        refine s_gR hx hb hT u_X12 hown hK hW hx12 rfl (by decide) fl_X12_22 rfl dX12_image_72 ?_
        refine lv_iload_n hx hb dX12_image_75 rfl (lv_at hl 2 rfl) ?_
        obtain ⟨x13, hx13, hE⟩ := bd hE
        refine s_ldJ hx hb hK hW hS hx13 dX12_image_76 ?_
        obtain ⟨f14, hf14, hE⟩ := bd hE
        refine s_stJ hx hb hK hW hS hf14 dX12_image_77 (fun H locs hW hS => ?_)
        obtain ⟨y15, ey15⟩ : ∃ y : Int32, y = v2 + (1 : Int32) := ⟨_, rfl⟩
        replace hE := nm_o ey15 hE
        refine lv_iinc (k := 2) (v := y15) (lv' := [(2, .int y15), (0, rr G v0), (1, .int v1)]) hx hb dX12_image_78 hl rfl (by rw [ey15]; rfl) (by decide) rfl (fun ls hl => ?_)
        refine lv_goto (tgt := 55) hx hb dX12_image_81 (by decide) ?_
        exact ih55 _ _ _ _ _ _ _ hE hW hS (lv_sub hl [1, 2, 0] rfl)
  have hC22 : ∀ (k22 : Nat), ∀ (v0 : Option Nat) (v1 : Int32) (v2 : Int32) (fa : Hp) (H : Heap) (locs : List Loc) (ls : Array Slot), m_X12_image_L22 F k22 v0 v1 v2 fa = some (r, f') → Wd G fa n H → va_S (WA G) s.heap H locs → lv_has ls 3 [(0, rr G v0), (1, .int v1), (2, .int v2)] → W p l e (headSpec (wsO yX12_image cX12_image 3 (some .boolean)) { frames := 2, cells := 0, slots := 0, locals := 41 }).room s m [rr G u0, .int u1].toArray below meth c H locs 0 0 (MQ below (Qcn G (some (.int r)) f' n) [rr G u0, .int u1].toArray s 0 0 (WA G)) (F0 m 22 ls []) := by
    intro k22
    induction k22 with
    | zero => intro v0 v1 v2 fa H locs ls hE _ _ _; cases (show (none : Option ((Int32) × Hp)) = some (r, f') from hE)
    | succ k22 ih22 =>
      intro v0 v1 v2 fa H locs ls hE hW hS hl
      replace hE : m_X12_image_b22 F (m_X12_image_L22 F k22) v0 v1 v2 fa = some (r, f') := hE
      refine lv_iload_n hx hb dX12_image_22 rfl (lv_at hl 2 rfl) ?_
      refine lv_sipush (v := (412 : Int32)) hx hb dX12_image_23 (by decide) ?_
      refine lv_icmp_ge (tgt := 53) hx hb dX12_image_26 (by decide) (fun q1 => ?_) (fun q1 => ?_)
      · replace hE := ite_t q1 hE
        refine lv_iconst (v := (0 : Int32)) hx hb dX12_image_53 (by decide) ?_
        refine lv_istore_n (i := 2) (lv' := [(2, .int (0 : Int32)), (0, rr G v0), (1, .int v1)]) hx hb dX12_image_54 rfl hl (by decide) rfl (fun ls hl => ?_)
        exact hC55 F _ _ _ _ _ _ _ hE hW hS (lv_sub hl [1, 2, 0] rfl)
      · replace hE := ite_f q1 hE
        refine s_aload_n hx hb dX12_image_29 rfl (lv_at hl 0 rfl) ?_
        obtain ⟨x2, hx2, hE⟩ := bd hE
        refine s_gR hx hb hT u_X12 hown hK hW hx2 rfl (by decide) fl_X12_19 rfl dX12_image_30 ?_
        refine lv_sipush (v := (412 : Int32)) hx hb dX12_image_33 (by decide) ?_
        refine lv_iload_n hx hb dX12_image_36 rfl (lv_at hl 1 rfl) ?_
        refine lv_imul hx hb dX12_image_37 ?_
        refine lv_iload_n hx hb dX12_image_38 rfl (lv_at hl 2 rfl) ?_
        refine lv_iadd hx hb dX12_image_39 ?_
        refine s_aload_n hx hb dX12_image_40 rfl (lv_at hl 0 rfl) ?_
        obtain ⟨x3, hx3, hE⟩ := bd hE
        refine s_gR hx hb hT u_X12 hown hK hW hx3 rfl (by decide) fl_X12_13 rfl dX12_image_41 ?_
        refine lv_iload_n hx hb dX12_image_44 rfl (lv_at hl 2 rfl) ?_
        obtain ⟨x4, hx4, hE⟩ := bd hE
        refine s_ldI hx hb hK hW hS hx4 dX12_image_45 ?_
        obtain ⟨f5, hf5, hE⟩ := bd hE
        refine s_stI hx hb hK hW hS hf5 dX12_image_46 (fun H locs hW hS => ?_)
        obtain ⟨y6, ey6⟩ : ∃ y : Int32, y = v2 + (1 : Int32) := ⟨_, rfl⟩
        replace hE := nm_o ey6 hE
        refine lv_iinc (k := 2) (v := y6) (lv' := [(2, .int y6), (0, rr G v0), (1, .int v1)]) hx hb dX12_image_47 hl rfl (by rw [ey6]; rfl) (by decide) rfl (fun ls hl => ?_)
        refine lv_goto (tgt := 22) hx hb dX12_image_50 (by decide) ?_
        exact ih22 _ _ _ _ _ _ _ hE hW hS (lv_sub hl [1, 2, 0] rfl)
  refine s_aload_n hx hb dX12_image_0 rfl (lv_at hl 0 rfl) ?_
  refine lv_iconst (v := (0 : Int32)) hx hb dX12_image_1 (by decide) ?_
  obtain ⟨f16, hf16, hE⟩ := bd hE
  refine s_putI hx hb hT u_X12 tyX12 tyX12_ok nmX12 hown hK hW hS hf16 rfl (by decide) fl_X12_81 rfl (Or.inl rfl) rfl dX12_image_2 (fun H locs hW hS => ?_)
  refine s_aload_n hx hb dX12_image_5 rfl (lv_at hl 0 rfl) ?_
  obtain ⟨c17, hE⟩ := ck hE
  obtain ⟨f18, hf18, hE⟩ := bd hE
  refine s_callV (As := []) (rest := []) CF hK hW hS (S_X12_lay l G F hf18) c17 rfl gv_X12_164 hd_X12_lay ⟨Nat.le_of_ble_eq_true rfl, Nat.le_of_ble_eq_true rfl⟩ rfl hl.1 rfl (Nat.le_of_ble_eq_true rfl) dX12_image_6 ⟨Nat.le_refl _, Nat.le_refl _⟩ (fun H locs hW hS => ?_)
  refine lv_iload_n hx hb dX12_image_9 rfl (lv_at hl 1 rfl) ?_
  refine lv_iconst (v := (0 : Int32)) hx hb dX12_image_10 (by decide) ?_
  refine lv_iconst (v := (1 : Int32)) hx hb dX12_image_11 (by decide) ?_
  obtain ⟨x19, hx19, hE⟩ := bd hE
  refine s_callS (As := [.int u1, .int (0 : Int32), .int (1 : Int32)]) (rest := []) CF hK hW hS (S_X12_isIn l G F hx19) gs_X12_151 hd_X12_isIn.2 ⟨Nat.le_of_ble_eq_true rfl, Nat.le_of_ble_eq_true rfl⟩ rfl hl.1 rfl (Nat.le_of_ble_eq_true rfl) dX12_image_12 ⟨Nat.le_refl _, Nat.le_refl _⟩ (fun H locs hW hS => ?_)
  refine lv_if_ne (tgt := 20) hx hb dX12_image_15 (by decide) (fun q20 => ?_) (fun q20 => ?_)
  · replace hE := ite_f q20 hE
    refine lv_iconst (v := (0 : Int32)) hx hb dX12_image_20 (by decide) ?_
    refine lv_istore_n (i := 2) (lv' := [(2, .int (0 : Int32)), (0, rr G u0), (1, .int u1)]) hx hb dX12_image_21 rfl hl (by decide) rfl (fun ls hl => ?_)
    exact hC22 F _ _ _ _ _ _ _ hE hW hS (lv_sub hl [1, 2, 0] rfl)
  · replace hE := ite_t q20 hE
    refine lv_iconst (v := (0 : Int32)) hx hb dX12_image_18 (by decide) ?_
    obtain ⟨c21, hE⟩ := ck hE
    obtain ⟨rfl, rfl⟩ := so2 hE
    exact s_zret hx hb hr c21 hlocks hW hS dX12_image_19
set_option maxHeartbeats 4000000 in
set_option maxRecDepth 100000 in
theorem S_X12_init (l : Launch) (G : GG) (F : Nat) {u0 : Option Nat} {f : Hp} {f' : Hp} {n n2 z z2 : Nat} (hE : m_X12_init F u0 f n z = some (f', n2, z2)) : Ctr l G yX12_init cX12_init 1 none 1 24 [rr G u0] f n none f' n2 (n2 - n) (z2 - z) := by
  refine Met.ofW (cc := cX12_init) (maxL := 1) (ret := none) (by decide) rfl ?_
  intro p e s m args below meth c s₁ B hml hv
  obtain ⟨rfl, hK, hW⟩ := hv
  have hx := B.exec
  have hb := B.bytes
  have hr := B.returns
  have hts := atoms_spec (ws := wsO yX12_init cX12_init 1 none) B.pre
  have hT : ∀ w ∈ TB, w.before [rr G u0].toArray s = true := fun w hw => hts w (List.mem_cons_of_mem _ hw)
  have hown : s.vm.findClass RX12 = some m.cls := findClass_of_methodNamed B.named
  have hlocks := B.notSynchronized
  have hin : meth.name = "<init>" := (name_of_methodNamed B.named B.method).1
  have CF : CallFix p m c cX12_init 1 s [rr G u0].toArray TB RX12 := ⟨hx, hb, hml, hown, hT⟩
  have hS : va_S (WA G) s.heap s.heap [] := va_S.rf
  have hl : lv_has (lg_sl ([rr G u0]) ++ List.replicate (1 - (lg_sl ([rr G u0])).length) Slot.unset).toArray 1 [(0, rr G u0)] := by cases u0 <;> exact lv_entry _ (Nat.le_of_ble_eq_true rfl)
  rw [lg_entry_eq]
  generalize (lg_sl ([rr G u0]) ++ List.replicate (1 - (lg_sl ([rr G u0])).length) Slot.unset).toArray = ls at hl ⊢
  refine W.cs (cells' := n - n) (slots' := z - z) (by omega) (by omega) ?_
  refine s_aload_n hx hb dX12_init_0 rfl (lv_at hl 0 rfl) ?_
  obtain ⟨c1, hE⟩ := ck hE
  refine s_obj hx hb hml hl.1 hown hT ob_X12_1 ob_im ob_cd c1 (Nat.le_of_ble_eq_true rfl) (Nat.le_of_ble_eq_true rfl) (Nat.le_of_ble_eq_true rfl) dX12_init_1 ?_
  refine s_aload_n hx hb dX12_init_4 rfl (lv_at hl 0 rfl) ?_
  refine lv_sipush (v := (740 : Int32)) hx hb dX12_init_5 (by decide) ?_
  obtain ⟨c2, hE⟩ := ck hE
  replace c2 := of_decide_eq_true c2
  obtain ⟨g3a, g3b, hE⟩ := grow_of hE
  replace g3a : n + 1 ≤ n2 := g3a
  replace g3b : z + Int32.toNatClampNeg (740 : Int32) ≤ z2 := g3b
  obtain ⟨f4, ef4⟩ : ∃ y : Hp, y = va_up f (n) (some (.inr (1, Int32.toNatClampNeg (740 : Int32), .inl fun _ => 0))) := ⟨_, rfl⟩
  replace hE := nm_o ef4 hE
  refine s_newA (t := 1) (x := .inl fun _ => 0) hx hb rfl (by decide) (hT _ ac_int) (fun h => h) hK hW hS (fun _ => rfl) c2.1 (Nat.le_trans (Nat.mul_le_mul_right _ c2.2) (by decide)) (show n - n + 1 ≤ n2 - n by omega) (show z - z + Int32.toNatClampNeg (740 : Int32) ≤ z2 - z by omega) dX12_init_8 (fun H hW hS => ?_)
  rw [← ef4] at hW
  refine W.cs (cells' := n + 1 - n) (slots' := z + Int32.toNatClampNeg (740 : Int32) - z) (by omega) (by omega) ?_
  obtain ⟨f5, hf5, hE⟩ := bd hE
  refine s_putR hx hb hT u_X12 tyX12 tyX12_ok nmX12 hown hK hW hS hf5 rfl (by decide) fl_X12_7 rfl (Or.inr ⟨rfl, hin, rfl⟩) rfl fit_a dX12_init_10 (fun H locs hW hS => ?_)
  refine s_aload_n hx hb dX12_init_13 rfl (lv_at hl 0 rfl) ?_
  refine lv_sipush (v := (412 : Int32)) hx hb dX12_init_14 (by decide) ?_
  obtain ⟨c6, hE⟩ := ck hE
  replace c6 := of_decide_eq_true c6
  obtain ⟨g7a, g7b, hE⟩ := grow_of hE
  replace g7a : n + 1 + 1 ≤ n2 := g7a
  replace g7b : z + Int32.toNatClampNeg (740 : Int32) + Int32.toNatClampNeg (412 : Int32) ≤ z2 := g7b
  obtain ⟨f8, ef8⟩ : ∃ y : Hp, y = va_up f5 (n + 1) (some (.inr (1, Int32.toNatClampNeg (412 : Int32), .inl fun _ => 0))) := ⟨_, rfl⟩
  replace hE := nm_o ef8 hE
  refine s_newA (t := 1) (x := .inl fun _ => 0) hx hb rfl (by decide) (hT _ ac_int) (fun h => h) hK hW hS (fun _ => rfl) c6.1 (Nat.le_trans (Nat.mul_le_mul_right _ c6.2) (by decide)) (show n + 1 - n + 1 ≤ n2 - n by omega) (show z + Int32.toNatClampNeg (740 : Int32) - z + Int32.toNatClampNeg (412 : Int32) ≤ z2 - z by omega) dX12_init_17 (fun H hW hS => ?_)
  rw [← ef8] at hW
  refine W.cs (cells' := n + 1 + 1 - n) (slots' := z + Int32.toNatClampNeg (740 : Int32) + Int32.toNatClampNeg (412 : Int32) - z) (by omega) (by omega) ?_
  obtain ⟨f9, hf9, hE⟩ := bd hE
  refine s_putR hx hb hT u_X12 tyX12 tyX12_ok nmX12 hown hK hW hS hf9 rfl (by decide) fl_X12_13 rfl (Or.inr ⟨rfl, hin, rfl⟩) rfl fit_a dX12_init_19 (fun H locs hW hS => ?_)
  refine s_aload_n hx hb dX12_init_22 rfl (lv_at hl 0 rfl) ?_
  refine lv_sipush (v := (170 : Int32)) hx hb dX12_init_23 (by decide) ?_
  obtain ⟨c10, hE⟩ := ck hE
  replace c10 := of_decide_eq_true c10
  obtain ⟨g11a, g11b, hE⟩ := grow_of hE
  replace g11a : n + 1 + 1 + 1 ≤ n2 := g11a
  replace g11b : z + Int32.toNatClampNeg (740 : Int32) + Int32.toNatClampNeg (412 : Int32) + Int32.toNatClampNeg (170 : Int32) ≤ z2 := g11b
  obtain ⟨f12, ef12⟩ : ∃ y : Hp, y = va_up f9 (n + 1 + 1) (some (.inr (1, Int32.toNatClampNeg (170 : Int32), .inl fun _ => 0))) := ⟨_, rfl⟩
  replace hE := nm_o ef12 hE
  refine s_newA (t := 1) (x := .inl fun _ => 0) hx hb rfl (by decide) (hT _ ac_int) (fun h => h) hK hW hS (fun _ => rfl) c10.1 (Nat.le_trans (Nat.mul_le_mul_right _ c10.2) (by decide)) (show n + 1 + 1 - n + 1 ≤ n2 - n by omega) (show z + Int32.toNatClampNeg (740 : Int32) + Int32.toNatClampNeg (412 : Int32) - z + Int32.toNatClampNeg (170 : Int32) ≤ z2 - z by omega) dX12_init_26 (fun H hW hS => ?_)
  rw [← ef12] at hW
  refine W.cs (cells' := n + 1 + 1 + 1 - n) (slots' := z + Int32.toNatClampNeg (740 : Int32) + Int32.toNatClampNeg (412 : Int32) + Int32.toNatClampNeg (170 : Int32) - z) (by omega) (by omega) ?_
  obtain ⟨f13, hf13, hE⟩ := bd hE
  refine s_putR hx hb hT u_X12 tyX12 tyX12_ok nmX12 hown hK hW hS hf13 rfl (by decide) fl_X12_16 rfl (Or.inr ⟨rfl, hin, rfl⟩) rfl fit_a dX12_init_28 (fun H locs hW hS => ?_)
  refine s_aload_n hx hb dX12_init_31 rfl (lv_at hl 0 rfl) ?_
  refine lv_sipush (v := (824 : Int32)) hx hb dX12_init_32 (by decide) ?_
  obtain ⟨c14, hE⟩ := ck hE
  replace c14 := of_decide_eq_true c14
  obtain ⟨g15a, g15b, hE⟩ := grow_of hE
  replace g15a : n + 1 + 1 + 1 + 1 ≤ n2 := g15a
  replace g15b : z + Int32.toNatClampNeg (740 : Int32) + Int32.toNatClampNeg (412 : Int32) + Int32.toNatClampNeg (170 : Int32) + Int32.toNatClampNeg (824 : Int32) ≤ z2 := g15b
  obtain ⟨f16, ef16⟩ : ∃ y : Hp, y = va_up f13 (n + 1 + 1 + 1) (some (.inr (1, Int32.toNatClampNeg (824 : Int32), .inl fun _ => 0))) := ⟨_, rfl⟩
  replace hE := nm_o ef16 hE
  refine s_newA (t := 1) (x := .inl fun _ => 0) hx hb rfl (by decide) (hT _ ac_int) (fun h => h) hK hW hS (fun _ => rfl) c14.1 (Nat.le_trans (Nat.mul_le_mul_right _ c14.2) (by decide)) (show n + 1 + 1 + 1 - n + 1 ≤ n2 - n by omega) (show z + Int32.toNatClampNeg (740 : Int32) + Int32.toNatClampNeg (412 : Int32) + Int32.toNatClampNeg (170 : Int32) - z + Int32.toNatClampNeg (824 : Int32) ≤ z2 - z by omega) dX12_init_35 (fun H hW hS => ?_)
  rw [← ef16] at hW
  refine W.cs (cells' := n + 1 + 1 + 1 + 1 - n) (slots' := z + Int32.toNatClampNeg (740 : Int32) + Int32.toNatClampNeg (412 : Int32) + Int32.toNatClampNeg (170 : Int32) + Int32.toNatClampNeg (824 : Int32) - z) (by omega) (by omega) ?_
  obtain ⟨f17, hf17, hE⟩ := bd hE
  refine s_putR hx hb hT u_X12 tyX12 tyX12_ok nmX12 hown hK hW hS hf17 rfl (by decide) fl_X12_19 rfl (Or.inr ⟨rfl, hin, rfl⟩) rfl fit_a dX12_init_37 (fun H locs hW hS => ?_)
  refine s_aload_n hx hb dX12_init_40 rfl (lv_at hl 0 rfl) ?_
  refine lv_bipush (v := (16 : Int32)) hx hb dX12_init_41 (by decide) ?_
  obtain ⟨c18, hE⟩ := ck hE
  replace c18 := of_decide_eq_true c18
  obtain ⟨g19a, g19b, hE⟩ := grow_of hE
  replace g19a : n + 1 + 1 + 1 + 1 + 1 ≤ n2 := g19a
  replace g19b : z + Int32.toNatClampNeg (740 : Int32) + Int32.toNatClampNeg (412 : Int32) + Int32.toNatClampNeg (170 : Int32) + Int32.toNatClampNeg (824 : Int32) + Int32.toNatClampNeg (16 : Int32) ≤ z2 := g19b
  obtain ⟨f20, ef20⟩ : ∃ y : Hp, y = va_up f17 (n + 1 + 1 + 1 + 1) (some (.inr (2, Int32.toNatClampNeg (16 : Int32), .inr (.inl fun _ => 0)))) := ⟨_, rfl⟩
  replace hE := nm_o ef20 hE
  refine s_newA (t := 2) (x := .inr (.inl fun _ => 0)) hx hb rfl (by decide) (hT _ ac_long) (fun h => h) hK hW hS (fun _ => rfl) c18.1 (Nat.le_trans (Nat.mul_le_mul_right _ c18.2) (by decide)) (show n + 1 + 1 + 1 + 1 - n + 1 ≤ n2 - n by omega) (show z + Int32.toNatClampNeg (740 : Int32) + Int32.toNatClampNeg (412 : Int32) + Int32.toNatClampNeg (170 : Int32) + Int32.toNatClampNeg (824 : Int32) - z + Int32.toNatClampNeg (16 : Int32) ≤ z2 - z by omega) dX12_init_43 (fun H hW hS => ?_)
  rw [← ef20] at hW
  refine W.cs (cells' := n + 1 + 1 + 1 + 1 + 1 - n) (slots' := z + Int32.toNatClampNeg (740 : Int32) + Int32.toNatClampNeg (412 : Int32) + Int32.toNatClampNeg (170 : Int32) + Int32.toNatClampNeg (824 : Int32) + Int32.toNatClampNeg (16 : Int32) - z) (by omega) (by omega) ?_
  obtain ⟨f21, hf21, hE⟩ := bd hE
  refine s_putR hx hb hT u_X12 tyX12 tyX12_ok nmX12 hown hK hW hS hf21 rfl (by decide) fl_X12_22 rfl (Or.inr ⟨rfl, hin, rfl⟩) rfl fit_a dX12_init_45 (fun H locs hW hS => ?_)
  refine s_aload_n hx hb dX12_init_48 rfl (lv_at hl 0 rfl) ?_
  refine lv_bipush (v := (16 : Int32)) hx hb dX12_init_49 (by decide) ?_
  obtain ⟨c22, hE⟩ := ck hE
  replace c22 := of_decide_eq_true c22
  obtain ⟨g23a, g23b, hE⟩ := grow_of hE
  replace g23a : n + 1 + 1 + 1 + 1 + 1 + 1 ≤ n2 := g23a
  replace g23b : z + Int32.toNatClampNeg (740 : Int32) + Int32.toNatClampNeg (412 : Int32) + Int32.toNatClampNeg (170 : Int32) + Int32.toNatClampNeg (824 : Int32) + Int32.toNatClampNeg (16 : Int32) + Int32.toNatClampNeg (16 : Int32) ≤ z2 := g23b
  obtain ⟨f24, ef24⟩ : ∃ y : Hp, y = va_up f21 (n + 1 + 1 + 1 + 1 + 1) (some (.inr (2, Int32.toNatClampNeg (16 : Int32), .inr (.inl fun _ => 0)))) := ⟨_, rfl⟩
  replace hE := nm_o ef24 hE
  refine s_newA (t := 2) (x := .inr (.inl fun _ => 0)) hx hb rfl (by decide) (hT _ ac_long) (fun h => h) hK hW hS (fun _ => rfl) c22.1 (Nat.le_trans (Nat.mul_le_mul_right _ c22.2) (by decide)) (show n + 1 + 1 + 1 + 1 + 1 - n + 1 ≤ n2 - n by omega) (show z + Int32.toNatClampNeg (740 : Int32) + Int32.toNatClampNeg (412 : Int32) + Int32.toNatClampNeg (170 : Int32) + Int32.toNatClampNeg (824 : Int32) + Int32.toNatClampNeg (16 : Int32) - z + Int32.toNatClampNeg (16 : Int32) ≤ z2 - z by omega) dX12_init_51 (fun H hW hS => ?_)
  rw [← ef24] at hW
  refine W.cs (cells' := n + 1 + 1 + 1 + 1 + 1 + 1 - n) (slots' := z + Int32.toNatClampNeg (740 : Int32) + Int32.toNatClampNeg (412 : Int32) + Int32.toNatClampNeg (170 : Int32) + Int32.toNatClampNeg (824 : Int32) + Int32.toNatClampNeg (16 : Int32) + Int32.toNatClampNeg (16 : Int32) - z) (by omega) (by omega) ?_
  obtain ⟨f25, hf25, hE⟩ := bd hE
  refine s_putR hx hb hT u_X12 tyX12 tyX12_ok nmX12 hown hK hW hS hf25 rfl (by decide) fl_X12_26 rfl (Or.inr ⟨rfl, hin, rfl⟩) rfl fit_a dX12_init_53 (fun H locs hW hS => ?_)
  refine s_aload_n hx hb dX12_init_56 rfl (lv_at hl 0 rfl) ?_
  refine lv_bipush (v := (32 : Int32)) hx hb dX12_init_57 (by decide) ?_
  obtain ⟨c26, hE⟩ := ck hE
  replace c26 := of_decide_eq_true c26
  obtain ⟨g27a, g27b, hE⟩ := grow_of hE
  replace g27a : n + 1 + 1 + 1 + 1 + 1 + 1 + 1 ≤ n2 := g27a
  replace g27b : z + Int32.toNatClampNeg (740 : Int32) + Int32.toNatClampNeg (412 : Int32) + Int32.toNatClampNeg (170 : Int32) + Int32.toNatClampNeg (824 : Int32) + Int32.toNatClampNeg (16 : Int32) + Int32.toNatClampNeg (16 : Int32) + Int32.toNatClampNeg (32 : Int32) ≤ z2 := g27b
  obtain ⟨f28, ef28⟩ : ∃ y : Hp, y = va_up f25 (n + 1 + 1 + 1 + 1 + 1 + 1) (some (.inr (2, Int32.toNatClampNeg (32 : Int32), .inr (.inl fun _ => 0)))) := ⟨_, rfl⟩
  replace hE := nm_o ef28 hE
  refine s_newA (t := 2) (x := .inr (.inl fun _ => 0)) hx hb rfl (by decide) (hT _ ac_long) (fun h => h) hK hW hS (fun _ => rfl) c26.1 (Nat.le_trans (Nat.mul_le_mul_right _ c26.2) (by decide)) (show n + 1 + 1 + 1 + 1 + 1 + 1 - n + 1 ≤ n2 - n by omega) (show z + Int32.toNatClampNeg (740 : Int32) + Int32.toNatClampNeg (412 : Int32) + Int32.toNatClampNeg (170 : Int32) + Int32.toNatClampNeg (824 : Int32) + Int32.toNatClampNeg (16 : Int32) + Int32.toNatClampNeg (16 : Int32) - z + Int32.toNatClampNeg (32 : Int32) ≤ z2 - z by omega) dX12_init_59 (fun H hW hS => ?_)
  rw [← ef28] at hW
  refine W.cs (cells' := n + 1 + 1 + 1 + 1 + 1 + 1 + 1 - n) (slots' := z + Int32.toNatClampNeg (740 : Int32) + Int32.toNatClampNeg (412 : Int32) + Int32.toNatClampNeg (170 : Int32) + Int32.toNatClampNeg (824 : Int32) + Int32.toNatClampNeg (16 : Int32) + Int32.toNatClampNeg (16 : Int32) + Int32.toNatClampNeg (32 : Int32) - z) (by omega) (by omega) ?_
  obtain ⟨f29, hf29, hE⟩ := bd hE
  refine s_putR hx hb hT u_X12 tyX12 tyX12_ok nmX12 hown hK hW hS hf29 rfl (by decide) fl_X12_29 rfl (Or.inr ⟨rfl, hin, rfl⟩) rfl fit_a dX12_init_61 (fun H locs hW hS => ?_)
  refine s_aload_n hx hb dX12_init_64 rfl (lv_at hl 0 rfl) ?_
  refine lv_iconst (v := (2 : Int32)) hx hb dX12_init_65 (by decide) ?_
  obtain ⟨c30, hE⟩ := ck hE
  replace c30 := of_decide_eq_true c30
  obtain ⟨g31a, g31b, hE⟩ := grow_of hE
  replace g31a : n + 1 + 1 + 1 + 1 + 1 + 1 + 1 + 1 ≤ n2 := g31a
  replace g31b : z + Int32.toNatClampNeg (740 : Int32) + Int32.toNatClampNeg (412 : Int32) + Int32.toNatClampNeg (170 : Int32) + Int32.toNatClampNeg (824 : Int32) + Int32.toNatClampNeg (16 : Int32) + Int32.toNatClampNeg (16 : Int32) + Int32.toNatClampNeg (32 : Int32) + Int32.toNatClampNeg (2 : Int32) ≤ z2 := g31b
  obtain ⟨f32, ef32⟩ : ∃ y : Hp, y = va_up f29 (n + 1 + 1 + 1 + 1 + 1 + 1 + 1) (some (.inr (3, Int32.toNatClampNeg (2 : Int32), .inl fun _ => 0))) := ⟨_, rfl⟩
  replace hE := nm_o ef32 hE
  refine s_newA (t := 3) (x := .inl fun _ => 0) hx hb rfl (by decide) (hT _ ac_boolean) (fun h => h) hK hW hS (fun _ => rfl) c30.1 (Nat.le_trans (Nat.mul_le_mul_right _ c30.2) (by decide)) (show n + 1 + 1 + 1 + 1 + 1 + 1 + 1 - n + 1 ≤ n2 - n by omega) (show z + Int32.toNatClampNeg (740 : Int32) + Int32.toNatClampNeg (412 : Int32) + Int32.toNatClampNeg (170 : Int32) + Int32.toNatClampNeg (824 : Int32) + Int32.toNatClampNeg (16 : Int32) + Int32.toNatClampNeg (16 : Int32) + Int32.toNatClampNeg (32 : Int32) - z + Int32.toNatClampNeg (2 : Int32) ≤ z2 - z by omega) dX12_init_66 (fun H hW hS => ?_)
  rw [← ef32] at hW
  refine W.cs (cells' := n + 1 + 1 + 1 + 1 + 1 + 1 + 1 + 1 - n) (slots' := z + Int32.toNatClampNeg (740 : Int32) + Int32.toNatClampNeg (412 : Int32) + Int32.toNatClampNeg (170 : Int32) + Int32.toNatClampNeg (824 : Int32) + Int32.toNatClampNeg (16 : Int32) + Int32.toNatClampNeg (16 : Int32) + Int32.toNatClampNeg (32 : Int32) + Int32.toNatClampNeg (2 : Int32) - z) (by omega) (by omega) ?_
  obtain ⟨f33, hf33, hE⟩ := bd hE
  refine s_putR hx hb hT u_X12 tyX12 tyX12_ok nmX12 hown hK hW hS hf33 rfl (by decide) fl_X12_32 rfl (Or.inr ⟨rfl, hin, rfl⟩) rfl fit_a dX12_init_68 (fun H locs hW hS => ?_)
  refine s_aload_n hx hb dX12_init_71 rfl (lv_at hl 0 rfl) ?_
  refine lv_bipush (v := (7 : Int32)) hx hb dX12_init_72 (by decide) ?_
  obtain ⟨c34, hE⟩ := ck hE
  replace c34 := of_decide_eq_true c34
  obtain ⟨g35a, g35b, hE⟩ := grow_of hE
  replace g35a : n + 1 + 1 + 1 + 1 + 1 + 1 + 1 + 1 + 1 ≤ n2 := g35a
  replace g35b : z + Int32.toNatClampNeg (740 : Int32) + Int32.toNatClampNeg (412 : Int32) + Int32.toNatClampNeg (170 : Int32) + Int32.toNatClampNeg (824 : Int32) + Int32.toNatClampNeg (16 : Int32) + Int32.toNatClampNeg (16 : Int32) + Int32.toNatClampNeg (32 : Int32) + Int32.toNatClampNeg (2 : Int32) + Int32.toNatClampNeg (7 : Int32) ≤ z2 := g35b
  obtain ⟨f36, ef36⟩ : ∃ y : Hp, y = va_up f33 (n + 1 + 1 + 1 + 1 + 1 + 1 + 1 + 1) (some (.inr (1, Int32.toNatClampNeg (7 : Int32), .inl fun _ => 0))) := ⟨_, rfl⟩
  replace hE := nm_o ef36 hE
  refine s_newA (t := 1) (x := .inl fun _ => 0) hx hb rfl (by decide) (hT _ ac_int) (fun h => h) hK hW hS (fun _ => rfl) c34.1 (Nat.le_trans (Nat.mul_le_mul_right _ c34.2) (by decide)) (show n + 1 + 1 + 1 + 1 + 1 + 1 + 1 + 1 - n + 1 ≤ n2 - n by omega) (show z + Int32.toNatClampNeg (740 : Int32) + Int32.toNatClampNeg (412 : Int32) + Int32.toNatClampNeg (170 : Int32) + Int32.toNatClampNeg (824 : Int32) + Int32.toNatClampNeg (16 : Int32) + Int32.toNatClampNeg (16 : Int32) + Int32.toNatClampNeg (32 : Int32) + Int32.toNatClampNeg (2 : Int32) - z + Int32.toNatClampNeg (7 : Int32) ≤ z2 - z by omega) dX12_init_74 (fun H hW hS => ?_)
  rw [← ef36] at hW
  refine W.cs (cells' := n + 1 + 1 + 1 + 1 + 1 + 1 + 1 + 1 + 1 - n) (slots' := z + Int32.toNatClampNeg (740 : Int32) + Int32.toNatClampNeg (412 : Int32) + Int32.toNatClampNeg (170 : Int32) + Int32.toNatClampNeg (824 : Int32) + Int32.toNatClampNeg (16 : Int32) + Int32.toNatClampNeg (16 : Int32) + Int32.toNatClampNeg (32 : Int32) + Int32.toNatClampNeg (2 : Int32) + Int32.toNatClampNeg (7 : Int32) - z) (by omega) (by omega) ?_
  obtain ⟨f37, hf37, hE⟩ := bd hE
  refine s_putR hx hb hT u_X12 tyX12 tyX12_ok nmX12 hown hK hW hS hf37 rfl (by decide) fl_X12_36 rfl (Or.inr ⟨rfl, hin, rfl⟩) rfl fit_a dX12_init_76 (fun H locs hW hS => ?_)
  refine s_aload_n hx hb dX12_init_79 rfl (lv_at hl 0 rfl) ?_
  refine lv_bipush (v := (7 : Int32)) hx hb dX12_init_80 (by decide) ?_
  obtain ⟨c38, hE⟩ := ck hE
  replace c38 := of_decide_eq_true c38
  obtain ⟨g39a, g39b, hE⟩ := grow_of hE
  replace g39a : n + 1 + 1 + 1 + 1 + 1 + 1 + 1 + 1 + 1 + 1 ≤ n2 := g39a
  replace g39b : z + Int32.toNatClampNeg (740 : Int32) + Int32.toNatClampNeg (412 : Int32) + Int32.toNatClampNeg (170 : Int32) + Int32.toNatClampNeg (824 : Int32) + Int32.toNatClampNeg (16 : Int32) + Int32.toNatClampNeg (16 : Int32) + Int32.toNatClampNeg (32 : Int32) + Int32.toNatClampNeg (2 : Int32) + Int32.toNatClampNeg (7 : Int32) + Int32.toNatClampNeg (7 : Int32) ≤ z2 := g39b
  obtain ⟨f40, ef40⟩ : ∃ y : Hp, y = va_up f37 (n + 1 + 1 + 1 + 1 + 1 + 1 + 1 + 1 + 1) (some (.inr (1, Int32.toNatClampNeg (7 : Int32), .inl fun _ => 0))) := ⟨_, rfl⟩
  replace hE := nm_o ef40 hE
  refine s_newA (t := 1) (x := .inl fun _ => 0) hx hb rfl (by decide) (hT _ ac_int) (fun h => h) hK hW hS (fun _ => rfl) c38.1 (Nat.le_trans (Nat.mul_le_mul_right _ c38.2) (by decide)) (show n + 1 + 1 + 1 + 1 + 1 + 1 + 1 + 1 + 1 - n + 1 ≤ n2 - n by omega) (show z + Int32.toNatClampNeg (740 : Int32) + Int32.toNatClampNeg (412 : Int32) + Int32.toNatClampNeg (170 : Int32) + Int32.toNatClampNeg (824 : Int32) + Int32.toNatClampNeg (16 : Int32) + Int32.toNatClampNeg (16 : Int32) + Int32.toNatClampNeg (32 : Int32) + Int32.toNatClampNeg (2 : Int32) + Int32.toNatClampNeg (7 : Int32) - z + Int32.toNatClampNeg (7 : Int32) ≤ z2 - z by omega) dX12_init_82 (fun H hW hS => ?_)
  rw [← ef40] at hW
  refine W.cs (cells' := n + 1 + 1 + 1 + 1 + 1 + 1 + 1 + 1 + 1 + 1 - n) (slots' := z + Int32.toNatClampNeg (740 : Int32) + Int32.toNatClampNeg (412 : Int32) + Int32.toNatClampNeg (170 : Int32) + Int32.toNatClampNeg (824 : Int32) + Int32.toNatClampNeg (16 : Int32) + Int32.toNatClampNeg (16 : Int32) + Int32.toNatClampNeg (32 : Int32) + Int32.toNatClampNeg (2 : Int32) + Int32.toNatClampNeg (7 : Int32) + Int32.toNatClampNeg (7 : Int32) - z) (by omega) (by omega) ?_
  obtain ⟨f41, hf41, hE⟩ := bd hE
  refine s_putR hx hb hT u_X12 tyX12 tyX12_ok nmX12 hown hK hW hS hf41 rfl (by decide) fl_X12_39 rfl (Or.inr ⟨rfl, hin, rfl⟩) rfl fit_a dX12_init_84 (fun H locs hW hS => ?_)
  refine s_aload_n hx hb dX12_init_87 rfl (lv_at hl 0 rfl) ?_
  refine lv_bipush (v := (7 : Int32)) hx hb dX12_init_88 (by decide) ?_
  obtain ⟨c42, hE⟩ := ck hE
  replace c42 := of_decide_eq_true c42
  obtain ⟨g43a, g43b, hE⟩ := grow_of hE
  replace g43a : n + 1 + 1 + 1 + 1 + 1 + 1 + 1 + 1 + 1 + 1 + 1 ≤ n2 := g43a
  replace g43b : z + Int32.toNatClampNeg (740 : Int32) + Int32.toNatClampNeg (412 : Int32) + Int32.toNatClampNeg (170 : Int32) + Int32.toNatClampNeg (824 : Int32) + Int32.toNatClampNeg (16 : Int32) + Int32.toNatClampNeg (16 : Int32) + Int32.toNatClampNeg (32 : Int32) + Int32.toNatClampNeg (2 : Int32) + Int32.toNatClampNeg (7 : Int32) + Int32.toNatClampNeg (7 : Int32) + Int32.toNatClampNeg (7 : Int32) ≤ z2 := g43b
  obtain ⟨f44, ef44⟩ : ∃ y : Hp, y = va_up f41 (n + 1 + 1 + 1 + 1 + 1 + 1 + 1 + 1 + 1 + 1) (some (.inr (1, Int32.toNatClampNeg (7 : Int32), .inl fun _ => 0))) := ⟨_, rfl⟩
  replace hE := nm_o ef44 hE
  refine s_newA (t := 1) (x := .inl fun _ => 0) hx hb rfl (by decide) (hT _ ac_int) (fun h => h) hK hW hS (fun _ => rfl) c42.1 (Nat.le_trans (Nat.mul_le_mul_right _ c42.2) (by decide)) (show n + 1 + 1 + 1 + 1 + 1 + 1 + 1 + 1 + 1 + 1 - n + 1 ≤ n2 - n by omega) (show z + Int32.toNatClampNeg (740 : Int32) + Int32.toNatClampNeg (412 : Int32) + Int32.toNatClampNeg (170 : Int32) + Int32.toNatClampNeg (824 : Int32) + Int32.toNatClampNeg (16 : Int32) + Int32.toNatClampNeg (16 : Int32) + Int32.toNatClampNeg (32 : Int32) + Int32.toNatClampNeg (2 : Int32) + Int32.toNatClampNeg (7 : Int32) + Int32.toNatClampNeg (7 : Int32) - z + Int32.toNatClampNeg (7 : Int32) ≤ z2 - z by omega) dX12_init_90 (fun H hW hS => ?_)
  rw [← ef44] at hW
  refine W.cs (cells' := n + 1 + 1 + 1 + 1 + 1 + 1 + 1 + 1 + 1 + 1 + 1 - n) (slots' := z + Int32.toNatClampNeg (740 : Int32) + Int32.toNatClampNeg (412 : Int32) + Int32.toNatClampNeg (170 : Int32) + Int32.toNatClampNeg (824 : Int32) + Int32.toNatClampNeg (16 : Int32) + Int32.toNatClampNeg (16 : Int32) + Int32.toNatClampNeg (32 : Int32) + Int32.toNatClampNeg (2 : Int32) + Int32.toNatClampNeg (7 : Int32) + Int32.toNatClampNeg (7 : Int32) + Int32.toNatClampNeg (7 : Int32) - z) (by omega) (by omega) ?_
  obtain ⟨f45, hf45, hE⟩ := bd hE
  refine s_putR hx hb hT u_X12 tyX12 tyX12_ok nmX12 hown hK hW hS hf45 rfl (by decide) fl_X12_42 rfl (Or.inr ⟨rfl, hin, rfl⟩) rfl fit_a dX12_init_92 (fun H locs hW hS => ?_)
  refine s_aload_n hx hb dX12_init_95 rfl (lv_at hl 0 rfl) ?_
  refine lv_bipush (v := (7 : Int32)) hx hb dX12_init_96 (by decide) ?_
  obtain ⟨c46, hE⟩ := ck hE
  replace c46 := of_decide_eq_true c46
  obtain ⟨g47a, g47b, hE⟩ := grow_of hE
  replace g47a : n + 1 + 1 + 1 + 1 + 1 + 1 + 1 + 1 + 1 + 1 + 1 + 1 ≤ n2 := g47a
  replace g47b : z + Int32.toNatClampNeg (740 : Int32) + Int32.toNatClampNeg (412 : Int32) + Int32.toNatClampNeg (170 : Int32) + Int32.toNatClampNeg (824 : Int32) + Int32.toNatClampNeg (16 : Int32) + Int32.toNatClampNeg (16 : Int32) + Int32.toNatClampNeg (32 : Int32) + Int32.toNatClampNeg (2 : Int32) + Int32.toNatClampNeg (7 : Int32) + Int32.toNatClampNeg (7 : Int32) + Int32.toNatClampNeg (7 : Int32) + Int32.toNatClampNeg (7 : Int32) ≤ z2 := g47b
  obtain ⟨f48, ef48⟩ : ∃ y : Hp, y = va_up f45 (n + 1 + 1 + 1 + 1 + 1 + 1 + 1 + 1 + 1 + 1 + 1) (some (.inr (1, Int32.toNatClampNeg (7 : Int32), .inl fun _ => 0))) := ⟨_, rfl⟩
  replace hE := nm_o ef48 hE
  refine s_newA (t := 1) (x := .inl fun _ => 0) hx hb rfl (by decide) (hT _ ac_int) (fun h => h) hK hW hS (fun _ => rfl) c46.1 (Nat.le_trans (Nat.mul_le_mul_right _ c46.2) (by decide)) (show n + 1 + 1 + 1 + 1 + 1 + 1 + 1 + 1 + 1 + 1 + 1 - n + 1 ≤ n2 - n by omega) (show z + Int32.toNatClampNeg (740 : Int32) + Int32.toNatClampNeg (412 : Int32) + Int32.toNatClampNeg (170 : Int32) + Int32.toNatClampNeg (824 : Int32) + Int32.toNatClampNeg (16 : Int32) + Int32.toNatClampNeg (16 : Int32) + Int32.toNatClampNeg (32 : Int32) + Int32.toNatClampNeg (2 : Int32) + Int32.toNatClampNeg (7 : Int32) + Int32.toNatClampNeg (7 : Int32) + Int32.toNatClampNeg (7 : Int32) - z + Int32.toNatClampNeg (7 : Int32) ≤ z2 - z by omega) dX12_init_98 (fun H hW hS => ?_)
  rw [← ef48] at hW
  refine W.cs (cells' := n + 1 + 1 + 1 + 1 + 1 + 1 + 1 + 1 + 1 + 1 + 1 + 1 - n) (slots' := z + Int32.toNatClampNeg (740 : Int32) + Int32.toNatClampNeg (412 : Int32) + Int32.toNatClampNeg (170 : Int32) + Int32.toNatClampNeg (824 : Int32) + Int32.toNatClampNeg (16 : Int32) + Int32.toNatClampNeg (16 : Int32) + Int32.toNatClampNeg (32 : Int32) + Int32.toNatClampNeg (2 : Int32) + Int32.toNatClampNeg (7 : Int32) + Int32.toNatClampNeg (7 : Int32) + Int32.toNatClampNeg (7 : Int32) + Int32.toNatClampNeg (7 : Int32) - z) (by omega) (by omega) ?_
  obtain ⟨f49, hf49, hE⟩ := bd hE
  refine s_putR hx hb hT u_X12 tyX12 tyX12_ok nmX12 hown hK hW hS hf49 rfl (by decide) fl_X12_45 rfl (Or.inr ⟨rfl, hin, rfl⟩) rfl fit_a dX12_init_100 (fun H locs hW hS => ?_)
  refine s_aload_n hx hb dX12_init_103 rfl (lv_at hl 0 rfl) ?_
  refine lv_bipush (v := (10 : Int32)) hx hb dX12_init_104 (by decide) ?_
  obtain ⟨c50, hE⟩ := ck hE
  replace c50 := of_decide_eq_true c50
  obtain ⟨g51a, g51b, hE⟩ := grow_of hE
  replace g51a : n + 1 + 1 + 1 + 1 + 1 + 1 + 1 + 1 + 1 + 1 + 1 + 1 + 1 ≤ n2 := g51a
  replace g51b : z + Int32.toNatClampNeg (740 : Int32) + Int32.toNatClampNeg (412 : Int32) + Int32.toNatClampNeg (170 : Int32) + Int32.toNatClampNeg (824 : Int32) + Int32.toNatClampNeg (16 : Int32) + Int32.toNatClampNeg (16 : Int32) + Int32.toNatClampNeg (32 : Int32) + Int32.toNatClampNeg (2 : Int32) + Int32.toNatClampNeg (7 : Int32) + Int32.toNatClampNeg (7 : Int32) + Int32.toNatClampNeg (7 : Int32) + Int32.toNatClampNeg (7 : Int32) + Int32.toNatClampNeg (10 : Int32) ≤ z2 := g51b
  obtain ⟨f52, ef52⟩ : ∃ y : Hp, y = va_up f49 (n + 1 + 1 + 1 + 1 + 1 + 1 + 1 + 1 + 1 + 1 + 1 + 1) (some (.inr (1, Int32.toNatClampNeg (10 : Int32), .inl fun _ => 0))) := ⟨_, rfl⟩
  replace hE := nm_o ef52 hE
  refine s_newA (t := 1) (x := .inl fun _ => 0) hx hb rfl (by decide) (hT _ ac_int) (fun h => h) hK hW hS (fun _ => rfl) c50.1 (Nat.le_trans (Nat.mul_le_mul_right _ c50.2) (by decide)) (show n + 1 + 1 + 1 + 1 + 1 + 1 + 1 + 1 + 1 + 1 + 1 + 1 - n + 1 ≤ n2 - n by omega) (show z + Int32.toNatClampNeg (740 : Int32) + Int32.toNatClampNeg (412 : Int32) + Int32.toNatClampNeg (170 : Int32) + Int32.toNatClampNeg (824 : Int32) + Int32.toNatClampNeg (16 : Int32) + Int32.toNatClampNeg (16 : Int32) + Int32.toNatClampNeg (32 : Int32) + Int32.toNatClampNeg (2 : Int32) + Int32.toNatClampNeg (7 : Int32) + Int32.toNatClampNeg (7 : Int32) + Int32.toNatClampNeg (7 : Int32) + Int32.toNatClampNeg (7 : Int32) - z + Int32.toNatClampNeg (10 : Int32) ≤ z2 - z by omega) dX12_init_106 (fun H hW hS => ?_)
  rw [← ef52] at hW
  refine W.cs (cells' := n + 1 + 1 + 1 + 1 + 1 + 1 + 1 + 1 + 1 + 1 + 1 + 1 + 1 - n) (slots' := z + Int32.toNatClampNeg (740 : Int32) + Int32.toNatClampNeg (412 : Int32) + Int32.toNatClampNeg (170 : Int32) + Int32.toNatClampNeg (824 : Int32) + Int32.toNatClampNeg (16 : Int32) + Int32.toNatClampNeg (16 : Int32) + Int32.toNatClampNeg (32 : Int32) + Int32.toNatClampNeg (2 : Int32) + Int32.toNatClampNeg (7 : Int32) + Int32.toNatClampNeg (7 : Int32) + Int32.toNatClampNeg (7 : Int32) + Int32.toNatClampNeg (7 : Int32) + Int32.toNatClampNeg (10 : Int32) - z) (by omega) (by omega) ?_
  obtain ⟨f53, hf53, hE⟩ := bd hE
  refine s_putR hx hb hT u_X12 tyX12 tyX12_ok nmX12 hown hK hW hS hf53 rfl (by decide) fl_X12_48 rfl (Or.inr ⟨rfl, hin, rfl⟩) rfl fit_a dX12_init_108 (fun H locs hW hS => ?_)
  refine s_aload_n hx hb dX12_init_111 rfl (lv_at hl 0 rfl) ?_
  refine lv_bipush (v := (10 : Int32)) hx hb dX12_init_112 (by decide) ?_
  obtain ⟨c54, hE⟩ := ck hE
  replace c54 := of_decide_eq_true c54
  obtain ⟨g55a, g55b, hE⟩ := grow_of hE
  replace g55a : n + 1 + 1 + 1 + 1 + 1 + 1 + 1 + 1 + 1 + 1 + 1 + 1 + 1 + 1 ≤ n2 := g55a
  replace g55b : z + Int32.toNatClampNeg (740 : Int32) + Int32.toNatClampNeg (412 : Int32) + Int32.toNatClampNeg (170 : Int32) + Int32.toNatClampNeg (824 : Int32) + Int32.toNatClampNeg (16 : Int32) + Int32.toNatClampNeg (16 : Int32) + Int32.toNatClampNeg (32 : Int32) + Int32.toNatClampNeg (2 : Int32) + Int32.toNatClampNeg (7 : Int32) + Int32.toNatClampNeg (7 : Int32) + Int32.toNatClampNeg (7 : Int32) + Int32.toNatClampNeg (7 : Int32) + Int32.toNatClampNeg (10 : Int32) + Int32.toNatClampNeg (10 : Int32) ≤ z2 := g55b
  obtain ⟨f56, ef56⟩ : ∃ y : Hp, y = va_up f53 (n + 1 + 1 + 1 + 1 + 1 + 1 + 1 + 1 + 1 + 1 + 1 + 1 + 1) (some (.inr (1, Int32.toNatClampNeg (10 : Int32), .inl fun _ => 0))) := ⟨_, rfl⟩
  replace hE := nm_o ef56 hE
  refine s_newA (t := 1) (x := .inl fun _ => 0) hx hb rfl (by decide) (hT _ ac_int) (fun h => h) hK hW hS (fun _ => rfl) c54.1 (Nat.le_trans (Nat.mul_le_mul_right _ c54.2) (by decide)) (show n + 1 + 1 + 1 + 1 + 1 + 1 + 1 + 1 + 1 + 1 + 1 + 1 + 1 - n + 1 ≤ n2 - n by omega) (show z + Int32.toNatClampNeg (740 : Int32) + Int32.toNatClampNeg (412 : Int32) + Int32.toNatClampNeg (170 : Int32) + Int32.toNatClampNeg (824 : Int32) + Int32.toNatClampNeg (16 : Int32) + Int32.toNatClampNeg (16 : Int32) + Int32.toNatClampNeg (32 : Int32) + Int32.toNatClampNeg (2 : Int32) + Int32.toNatClampNeg (7 : Int32) + Int32.toNatClampNeg (7 : Int32) + Int32.toNatClampNeg (7 : Int32) + Int32.toNatClampNeg (7 : Int32) + Int32.toNatClampNeg (10 : Int32) - z + Int32.toNatClampNeg (10 : Int32) ≤ z2 - z by omega) dX12_init_114 (fun H hW hS => ?_)
  rw [← ef56] at hW
  refine W.cs (cells' := n + 1 + 1 + 1 + 1 + 1 + 1 + 1 + 1 + 1 + 1 + 1 + 1 + 1 + 1 - n) (slots' := z + Int32.toNatClampNeg (740 : Int32) + Int32.toNatClampNeg (412 : Int32) + Int32.toNatClampNeg (170 : Int32) + Int32.toNatClampNeg (824 : Int32) + Int32.toNatClampNeg (16 : Int32) + Int32.toNatClampNeg (16 : Int32) + Int32.toNatClampNeg (32 : Int32) + Int32.toNatClampNeg (2 : Int32) + Int32.toNatClampNeg (7 : Int32) + Int32.toNatClampNeg (7 : Int32) + Int32.toNatClampNeg (7 : Int32) + Int32.toNatClampNeg (7 : Int32) + Int32.toNatClampNeg (10 : Int32) + Int32.toNatClampNeg (10 : Int32) - z) (by omega) (by omega) ?_
  obtain ⟨f57, hf57, hE⟩ := bd hE
  refine s_putR hx hb hT u_X12 tyX12 tyX12_ok nmX12 hown hK hW hS hf57 rfl (by decide) fl_X12_51 rfl (Or.inr ⟨rfl, hin, rfl⟩) rfl fit_a dX12_init_116 (fun H locs hW hS => ?_)
  refine s_aload_n hx hb dX12_init_119 rfl (lv_at hl 0 rfl) ?_
  refine lv_bipush (v := (100 : Int32)) hx hb dX12_init_120 (by decide) ?_
  obtain ⟨c58, hE⟩ := ck hE
  replace c58 := of_decide_eq_true c58
  obtain ⟨g59a, g59b, hE⟩ := grow_of hE
  replace g59a : n + 1 + 1 + 1 + 1 + 1 + 1 + 1 + 1 + 1 + 1 + 1 + 1 + 1 + 1 + 1 ≤ n2 := g59a
  replace g59b : z + Int32.toNatClampNeg (740 : Int32) + Int32.toNatClampNeg (412 : Int32) + Int32.toNatClampNeg (170 : Int32) + Int32.toNatClampNeg (824 : Int32) + Int32.toNatClampNeg (16 : Int32) + Int32.toNatClampNeg (16 : Int32) + Int32.toNatClampNeg (32 : Int32) + Int32.toNatClampNeg (2 : Int32) + Int32.toNatClampNeg (7 : Int32) + Int32.toNatClampNeg (7 : Int32) + Int32.toNatClampNeg (7 : Int32) + Int32.toNatClampNeg (7 : Int32) + Int32.toNatClampNeg (10 : Int32) + Int32.toNatClampNeg (10 : Int32) + Int32.toNatClampNeg (100 : Int32) ≤ z2 := g59b
  obtain ⟨f60, ef60⟩ : ∃ y : Hp, y = va_up f57 (n + 1 + 1 + 1 + 1 + 1 + 1 + 1 + 1 + 1 + 1 + 1 + 1 + 1 + 1) (some (.inr (1, Int32.toNatClampNeg (100 : Int32), .inl fun _ => 0))) := ⟨_, rfl⟩
  replace hE := nm_o ef60 hE
  refine s_newA (t := 1) (x := .inl fun _ => 0) hx hb rfl (by decide) (hT _ ac_int) (fun h => h) hK hW hS (fun _ => rfl) c58.1 (Nat.le_trans (Nat.mul_le_mul_right _ c58.2) (by decide)) (show n + 1 + 1 + 1 + 1 + 1 + 1 + 1 + 1 + 1 + 1 + 1 + 1 + 1 + 1 - n + 1 ≤ n2 - n by omega) (show z + Int32.toNatClampNeg (740 : Int32) + Int32.toNatClampNeg (412 : Int32) + Int32.toNatClampNeg (170 : Int32) + Int32.toNatClampNeg (824 : Int32) + Int32.toNatClampNeg (16 : Int32) + Int32.toNatClampNeg (16 : Int32) + Int32.toNatClampNeg (32 : Int32) + Int32.toNatClampNeg (2 : Int32) + Int32.toNatClampNeg (7 : Int32) + Int32.toNatClampNeg (7 : Int32) + Int32.toNatClampNeg (7 : Int32) + Int32.toNatClampNeg (7 : Int32) + Int32.toNatClampNeg (10 : Int32) + Int32.toNatClampNeg (10 : Int32) - z + Int32.toNatClampNeg (100 : Int32) ≤ z2 - z by omega) dX12_init_122 (fun H hW hS => ?_)
  rw [← ef60] at hW
  refine W.cs (cells' := n + 1 + 1 + 1 + 1 + 1 + 1 + 1 + 1 + 1 + 1 + 1 + 1 + 1 + 1 + 1 - n) (slots' := z + Int32.toNatClampNeg (740 : Int32) + Int32.toNatClampNeg (412 : Int32) + Int32.toNatClampNeg (170 : Int32) + Int32.toNatClampNeg (824 : Int32) + Int32.toNatClampNeg (16 : Int32) + Int32.toNatClampNeg (16 : Int32) + Int32.toNatClampNeg (32 : Int32) + Int32.toNatClampNeg (2 : Int32) + Int32.toNatClampNeg (7 : Int32) + Int32.toNatClampNeg (7 : Int32) + Int32.toNatClampNeg (7 : Int32) + Int32.toNatClampNeg (7 : Int32) + Int32.toNatClampNeg (10 : Int32) + Int32.toNatClampNeg (10 : Int32) + Int32.toNatClampNeg (100 : Int32) - z) (by omega) (by omega) ?_
  obtain ⟨f61, hf61, hE⟩ := bd hE
  refine s_putR hx hb hT u_X12 tyX12 tyX12_ok nmX12 hown hK hW hS hf61 rfl (by decide) fl_X12_54 rfl (Or.inr ⟨rfl, hin, rfl⟩) rfl fit_a dX12_init_124 (fun H locs hW hS => ?_)
  refine s_aload_n hx hb dX12_init_127 rfl (lv_at hl 0 rfl) ?_
  refine lv_bipush (v := (10 : Int32)) hx hb dX12_init_128 (by decide) ?_
  obtain ⟨c62, hE⟩ := ck hE
  replace c62 := of_decide_eq_true c62
  obtain ⟨g63a, g63b, hE⟩ := grow_of hE
  replace g63a : n + 1 + 1 + 1 + 1 + 1 + 1 + 1 + 1 + 1 + 1 + 1 + 1 + 1 + 1 + 1 + 1 ≤ n2 := g63a
  replace g63b : z + Int32.toNatClampNeg (740 : Int32) + Int32.toNatClampNeg (412 : Int32) + Int32.toNatClampNeg (170 : Int32) + Int32.toNatClampNeg (824 : Int32) + Int32.toNatClampNeg (16 : Int32) + Int32.toNatClampNeg (16 : Int32) + Int32.toNatClampNeg (32 : Int32) + Int32.toNatClampNeg (2 : Int32) + Int32.toNatClampNeg (7 : Int32) + Int32.toNatClampNeg (7 : Int32) + Int32.toNatClampNeg (7 : Int32) + Int32.toNatClampNeg (7 : Int32) + Int32.toNatClampNeg (10 : Int32) + Int32.toNatClampNeg (10 : Int32) + Int32.toNatClampNeg (100 : Int32) + Int32.toNatClampNeg (10 : Int32) ≤ z2 := g63b
  obtain ⟨f64, ef64⟩ : ∃ y : Hp, y = va_up f61 (n + 1 + 1 + 1 + 1 + 1 + 1 + 1 + 1 + 1 + 1 + 1 + 1 + 1 + 1 + 1) (some (.inr (1, Int32.toNatClampNeg (10 : Int32), .inl fun _ => 0))) := ⟨_, rfl⟩
  replace hE := nm_o ef64 hE
  refine s_newA (t := 1) (x := .inl fun _ => 0) hx hb rfl (by decide) (hT _ ac_int) (fun h => h) hK hW hS (fun _ => rfl) c62.1 (Nat.le_trans (Nat.mul_le_mul_right _ c62.2) (by decide)) (show n + 1 + 1 + 1 + 1 + 1 + 1 + 1 + 1 + 1 + 1 + 1 + 1 + 1 + 1 + 1 - n + 1 ≤ n2 - n by omega) (show z + Int32.toNatClampNeg (740 : Int32) + Int32.toNatClampNeg (412 : Int32) + Int32.toNatClampNeg (170 : Int32) + Int32.toNatClampNeg (824 : Int32) + Int32.toNatClampNeg (16 : Int32) + Int32.toNatClampNeg (16 : Int32) + Int32.toNatClampNeg (32 : Int32) + Int32.toNatClampNeg (2 : Int32) + Int32.toNatClampNeg (7 : Int32) + Int32.toNatClampNeg (7 : Int32) + Int32.toNatClampNeg (7 : Int32) + Int32.toNatClampNeg (7 : Int32) + Int32.toNatClampNeg (10 : Int32) + Int32.toNatClampNeg (10 : Int32) + Int32.toNatClampNeg (100 : Int32) - z + Int32.toNatClampNeg (10 : Int32) ≤ z2 - z by omega) dX12_init_130 (fun H hW hS => ?_)
  rw [← ef64] at hW
  refine W.cs (cells' := n + 1 + 1 + 1 + 1 + 1 + 1 + 1 + 1 + 1 + 1 + 1 + 1 + 1 + 1 + 1 + 1 - n) (slots' := z + Int32.toNatClampNeg (740 : Int32) + Int32.toNatClampNeg (412 : Int32) + Int32.toNatClampNeg (170 : Int32) + Int32.toNatClampNeg (824 : Int32) + Int32.toNatClampNeg (16 : Int32) + Int32.toNatClampNeg (16 : Int32) + Int32.toNatClampNeg (32 : Int32) + Int32.toNatClampNeg (2 : Int32) + Int32.toNatClampNeg (7 : Int32) + Int32.toNatClampNeg (7 : Int32) + Int32.toNatClampNeg (7 : Int32) + Int32.toNatClampNeg (7 : Int32) + Int32.toNatClampNeg (10 : Int32) + Int32.toNatClampNeg (10 : Int32) + Int32.toNatClampNeg (100 : Int32) + Int32.toNatClampNeg (10 : Int32) - z) (by omega) (by omega) ?_
  obtain ⟨f65, hf65, hE⟩ := bd hE
  refine s_putR hx hb hT u_X12 tyX12 tyX12_ok nmX12 hown hK hW hS hf65 rfl (by decide) fl_X12_57 rfl (Or.inr ⟨rfl, hin, rfl⟩) rfl fit_a dX12_init_132 (fun H locs hW hS => ?_)
  refine s_aload_n hx hb dX12_init_135 rfl (lv_at hl 0 rfl) ?_
  refine lv_bipush (v := (10 : Int32)) hx hb dX12_init_136 (by decide) ?_
  obtain ⟨c66, hE⟩ := ck hE
  replace c66 := of_decide_eq_true c66
  obtain ⟨g67a, g67b, hE⟩ := grow_of hE
  replace g67a : n + 1 + 1 + 1 + 1 + 1 + 1 + 1 + 1 + 1 + 1 + 1 + 1 + 1 + 1 + 1 + 1 + 1 ≤ n2 := g67a
  replace g67b : z + Int32.toNatClampNeg (740 : Int32) + Int32.toNatClampNeg (412 : Int32) + Int32.toNatClampNeg (170 : Int32) + Int32.toNatClampNeg (824 : Int32) + Int32.toNatClampNeg (16 : Int32) + Int32.toNatClampNeg (16 : Int32) + Int32.toNatClampNeg (32 : Int32) + Int32.toNatClampNeg (2 : Int32) + Int32.toNatClampNeg (7 : Int32) + Int32.toNatClampNeg (7 : Int32) + Int32.toNatClampNeg (7 : Int32) + Int32.toNatClampNeg (7 : Int32) + Int32.toNatClampNeg (10 : Int32) + Int32.toNatClampNeg (10 : Int32) + Int32.toNatClampNeg (100 : Int32) + Int32.toNatClampNeg (10 : Int32) + Int32.toNatClampNeg (10 : Int32) ≤ z2 := g67b
  obtain ⟨f68, ef68⟩ : ∃ y : Hp, y = va_up f65 (n + 1 + 1 + 1 + 1 + 1 + 1 + 1 + 1 + 1 + 1 + 1 + 1 + 1 + 1 + 1 + 1) (some (.inr (1, Int32.toNatClampNeg (10 : Int32), .inl fun _ => 0))) := ⟨_, rfl⟩
  replace hE := nm_o ef68 hE
  refine s_newA (t := 1) (x := .inl fun _ => 0) hx hb rfl (by decide) (hT _ ac_int) (fun h => h) hK hW hS (fun _ => rfl) c66.1 (Nat.le_trans (Nat.mul_le_mul_right _ c66.2) (by decide)) (show n + 1 + 1 + 1 + 1 + 1 + 1 + 1 + 1 + 1 + 1 + 1 + 1 + 1 + 1 + 1 + 1 - n + 1 ≤ n2 - n by omega) (show z + Int32.toNatClampNeg (740 : Int32) + Int32.toNatClampNeg (412 : Int32) + Int32.toNatClampNeg (170 : Int32) + Int32.toNatClampNeg (824 : Int32) + Int32.toNatClampNeg (16 : Int32) + Int32.toNatClampNeg (16 : Int32) + Int32.toNatClampNeg (32 : Int32) + Int32.toNatClampNeg (2 : Int32) + Int32.toNatClampNeg (7 : Int32) + Int32.toNatClampNeg (7 : Int32) + Int32.toNatClampNeg (7 : Int32) + Int32.toNatClampNeg (7 : Int32) + Int32.toNatClampNeg (10 : Int32) + Int32.toNatClampNeg (10 : Int32) + Int32.toNatClampNeg (100 : Int32) + Int32.toNatClampNeg (10 : Int32) - z + Int32.toNatClampNeg (10 : Int32) ≤ z2 - z by omega) dX12_init_138 (fun H hW hS => ?_)
  rw [← ef68] at hW
  refine W.cs (cells' := n + 1 + 1 + 1 + 1 + 1 + 1 + 1 + 1 + 1 + 1 + 1 + 1 + 1 + 1 + 1 + 1 + 1 - n) (slots' := z + Int32.toNatClampNeg (740 : Int32) + Int32.toNatClampNeg (412 : Int32) + Int32.toNatClampNeg (170 : Int32) + Int32.toNatClampNeg (824 : Int32) + Int32.toNatClampNeg (16 : Int32) + Int32.toNatClampNeg (16 : Int32) + Int32.toNatClampNeg (32 : Int32) + Int32.toNatClampNeg (2 : Int32) + Int32.toNatClampNeg (7 : Int32) + Int32.toNatClampNeg (7 : Int32) + Int32.toNatClampNeg (7 : Int32) + Int32.toNatClampNeg (7 : Int32) + Int32.toNatClampNeg (10 : Int32) + Int32.toNatClampNeg (10 : Int32) + Int32.toNatClampNeg (100 : Int32) + Int32.toNatClampNeg (10 : Int32) + Int32.toNatClampNeg (10 : Int32) - z) (by omega) (by omega) ?_
  obtain ⟨f69, hf69, hE⟩ := bd hE
  refine s_putR hx hb hT u_X12 tyX12 tyX12_ok nmX12 hown hK hW hS hf69 rfl (by decide) fl_X12_60 rfl (Or.inr ⟨rfl, hin, rfl⟩) rfl fit_a dX12_init_140 (fun H locs hW hS => ?_)
  refine s_aload_n hx hb dX12_init_143 rfl (lv_at hl 0 rfl) ?_
  refine lv_sipush (v := (5040 : Int32)) hx hb dX12_init_144 (by decide) ?_
  obtain ⟨c70, hE⟩ := ck hE
  replace c70 := of_decide_eq_true c70
  obtain ⟨g71a, g71b, hE⟩ := grow_of hE
  replace g71a : n + 1 + 1 + 1 + 1 + 1 + 1 + 1 + 1 + 1 + 1 + 1 + 1 + 1 + 1 + 1 + 1 + 1 + 1 ≤ n2 := g71a
  replace g71b : z + Int32.toNatClampNeg (740 : Int32) + Int32.toNatClampNeg (412 : Int32) + Int32.toNatClampNeg (170 : Int32) + Int32.toNatClampNeg (824 : Int32) + Int32.toNatClampNeg (16 : Int32) + Int32.toNatClampNeg (16 : Int32) + Int32.toNatClampNeg (32 : Int32) + Int32.toNatClampNeg (2 : Int32) + Int32.toNatClampNeg (7 : Int32) + Int32.toNatClampNeg (7 : Int32) + Int32.toNatClampNeg (7 : Int32) + Int32.toNatClampNeg (7 : Int32) + Int32.toNatClampNeg (10 : Int32) + Int32.toNatClampNeg (10 : Int32) + Int32.toNatClampNeg (100 : Int32) + Int32.toNatClampNeg (10 : Int32) + Int32.toNatClampNeg (10 : Int32) + Int32.toNatClampNeg (5040 : Int32) ≤ z2 := g71b
  obtain ⟨f72, ef72⟩ : ∃ y : Hp, y = va_up f69 (n + 1 + 1 + 1 + 1 + 1 + 1 + 1 + 1 + 1 + 1 + 1 + 1 + 1 + 1 + 1 + 1 + 1) (some (.inr (2, Int32.toNatClampNeg (5040 : Int32), .inr (.inl fun _ => 0)))) := ⟨_, rfl⟩
  replace hE := nm_o ef72 hE
  refine s_newA (t := 2) (x := .inr (.inl fun _ => 0)) hx hb rfl (by decide) (hT _ ac_long) (fun h => h) hK hW hS (fun _ => rfl) c70.1 (Nat.le_trans (Nat.mul_le_mul_right _ c70.2) (by decide)) (show n + 1 + 1 + 1 + 1 + 1 + 1 + 1 + 1 + 1 + 1 + 1 + 1 + 1 + 1 + 1 + 1 + 1 - n + 1 ≤ n2 - n by omega) (show z + Int32.toNatClampNeg (740 : Int32) + Int32.toNatClampNeg (412 : Int32) + Int32.toNatClampNeg (170 : Int32) + Int32.toNatClampNeg (824 : Int32) + Int32.toNatClampNeg (16 : Int32) + Int32.toNatClampNeg (16 : Int32) + Int32.toNatClampNeg (32 : Int32) + Int32.toNatClampNeg (2 : Int32) + Int32.toNatClampNeg (7 : Int32) + Int32.toNatClampNeg (7 : Int32) + Int32.toNatClampNeg (7 : Int32) + Int32.toNatClampNeg (7 : Int32) + Int32.toNatClampNeg (10 : Int32) + Int32.toNatClampNeg (10 : Int32) + Int32.toNatClampNeg (100 : Int32) + Int32.toNatClampNeg (10 : Int32) + Int32.toNatClampNeg (10 : Int32) - z + Int32.toNatClampNeg (5040 : Int32) ≤ z2 - z by omega) dX12_init_147 (fun H hW hS => ?_)
  rw [← ef72] at hW
  refine W.cs (cells' := n + 1 + 1 + 1 + 1 + 1 + 1 + 1 + 1 + 1 + 1 + 1 + 1 + 1 + 1 + 1 + 1 + 1 + 1 - n) (slots' := z + Int32.toNatClampNeg (740 : Int32) + Int32.toNatClampNeg (412 : Int32) + Int32.toNatClampNeg (170 : Int32) + Int32.toNatClampNeg (824 : Int32) + Int32.toNatClampNeg (16 : Int32) + Int32.toNatClampNeg (16 : Int32) + Int32.toNatClampNeg (32 : Int32) + Int32.toNatClampNeg (2 : Int32) + Int32.toNatClampNeg (7 : Int32) + Int32.toNatClampNeg (7 : Int32) + Int32.toNatClampNeg (7 : Int32) + Int32.toNatClampNeg (7 : Int32) + Int32.toNatClampNeg (10 : Int32) + Int32.toNatClampNeg (10 : Int32) + Int32.toNatClampNeg (100 : Int32) + Int32.toNatClampNeg (10 : Int32) + Int32.toNatClampNeg (10 : Int32) + Int32.toNatClampNeg (5040 : Int32) - z) (by omega) (by omega) ?_
  obtain ⟨f73, hf73, hE⟩ := bd hE
  refine s_putR hx hb hT u_X12 tyX12 tyX12_ok nmX12 hown hK hW hS hf73 rfl (by decide) fl_X12_63 rfl (Or.inr ⟨rfl, hin, rfl⟩) rfl fit_a dX12_init_149 (fun H locs hW hS => ?_)
  refine s_aload_n hx hb dX12_init_152 rfl (lv_at hl 0 rfl) ?_
  refine lv_sipush (v := (5040 : Int32)) hx hb dX12_init_153 (by decide) ?_
  obtain ⟨c74, hE⟩ := ck hE
  replace c74 := of_decide_eq_true c74
  obtain ⟨g75a, g75b, hE⟩ := grow_of hE
  replace g75a : n + 1 + 1 + 1 + 1 + 1 + 1 + 1 + 1 + 1 + 1 + 1 + 1 + 1 + 1 + 1 + 1 + 1 + 1 + 1 ≤ n2 := g75a
  replace g75b : z + Int32.toNatClampNeg (740 : Int32) + Int32.toNatClampNeg (412 : Int32) + Int32.toNatClampNeg (170 : Int32) + Int32.toNatClampNeg (824 : Int32) + Int32.toNatClampNeg (16 : Int32) + Int32.toNatClampNeg (16 : Int32) + Int32.toNatClampNeg (32 : Int32) + Int32.toNatClampNeg (2 : Int32) + Int32.toNatClampNeg (7 : Int32) + Int32.toNatClampNeg (7 : Int32) + Int32.toNatClampNeg (7 : Int32) + Int32.toNatClampNeg (7 : Int32) + Int32.toNatClampNeg (10 : Int32) + Int32.toNatClampNeg (10 : Int32) + Int32.toNatClampNeg (100 : Int32) + Int32.toNatClampNeg (10 : Int32) + Int32.toNatClampNeg (10 : Int32) + Int32.toNatClampNeg (5040 : Int32) + Int32.toNatClampNeg (5040 : Int32) ≤ z2 := g75b
  obtain ⟨f76, ef76⟩ : ∃ y : Hp, y = va_up f73 (n + 1 + 1 + 1 + 1 + 1 + 1 + 1 + 1 + 1 + 1 + 1 + 1 + 1 + 1 + 1 + 1 + 1 + 1) (some (.inr (2, Int32.toNatClampNeg (5040 : Int32), .inr (.inl fun _ => 0)))) := ⟨_, rfl⟩
  replace hE := nm_o ef76 hE
  refine s_newA (t := 2) (x := .inr (.inl fun _ => 0)) hx hb rfl (by decide) (hT _ ac_long) (fun h => h) hK hW hS (fun _ => rfl) c74.1 (Nat.le_trans (Nat.mul_le_mul_right _ c74.2) (by decide)) (show n + 1 + 1 + 1 + 1 + 1 + 1 + 1 + 1 + 1 + 1 + 1 + 1 + 1 + 1 + 1 + 1 + 1 + 1 - n + 1 ≤ n2 - n by omega) (show z + Int32.toNatClampNeg (740 : Int32) + Int32.toNatClampNeg (412 : Int32) + Int32.toNatClampNeg (170 : Int32) + Int32.toNatClampNeg (824 : Int32) + Int32.toNatClampNeg (16 : Int32) + Int32.toNatClampNeg (16 : Int32) + Int32.toNatClampNeg (32 : Int32) + Int32.toNatClampNeg (2 : Int32) + Int32.toNatClampNeg (7 : Int32) + Int32.toNatClampNeg (7 : Int32) + Int32.toNatClampNeg (7 : Int32) + Int32.toNatClampNeg (7 : Int32) + Int32.toNatClampNeg (10 : Int32) + Int32.toNatClampNeg (10 : Int32) + Int32.toNatClampNeg (100 : Int32) + Int32.toNatClampNeg (10 : Int32) + Int32.toNatClampNeg (10 : Int32) + Int32.toNatClampNeg (5040 : Int32) - z + Int32.toNatClampNeg (5040 : Int32) ≤ z2 - z by omega) dX12_init_156 (fun H hW hS => ?_)
  rw [← ef76] at hW
  refine W.cs (cells' := n + 1 + 1 + 1 + 1 + 1 + 1 + 1 + 1 + 1 + 1 + 1 + 1 + 1 + 1 + 1 + 1 + 1 + 1 + 1 - n) (slots' := z + Int32.toNatClampNeg (740 : Int32) + Int32.toNatClampNeg (412 : Int32) + Int32.toNatClampNeg (170 : Int32) + Int32.toNatClampNeg (824 : Int32) + Int32.toNatClampNeg (16 : Int32) + Int32.toNatClampNeg (16 : Int32) + Int32.toNatClampNeg (32 : Int32) + Int32.toNatClampNeg (2 : Int32) + Int32.toNatClampNeg (7 : Int32) + Int32.toNatClampNeg (7 : Int32) + Int32.toNatClampNeg (7 : Int32) + Int32.toNatClampNeg (7 : Int32) + Int32.toNatClampNeg (10 : Int32) + Int32.toNatClampNeg (10 : Int32) + Int32.toNatClampNeg (100 : Int32) + Int32.toNatClampNeg (10 : Int32) + Int32.toNatClampNeg (10 : Int32) + Int32.toNatClampNeg (5040 : Int32) + Int32.toNatClampNeg (5040 : Int32) - z) (by omega) (by omega) ?_
  obtain ⟨f77, hf77, hE⟩ := bd hE
  refine s_putR hx hb hT u_X12 tyX12 tyX12_ok nmX12 hown hK hW hS hf77 rfl (by decide) fl_X12_66 rfl (Or.inr ⟨rfl, hin, rfl⟩) rfl fit_a dX12_init_158 (fun H locs hW hS => ?_)
  refine s_aload_n hx hb dX12_init_161 rfl (lv_at hl 0 rfl) ?_
  refine lv_sipush (v := (5040 : Int32)) hx hb dX12_init_162 (by decide) ?_
  obtain ⟨c78, hE⟩ := ck hE
  replace c78 := of_decide_eq_true c78
  obtain ⟨g79a, g79b, hE⟩ := grow_of hE
  replace g79a : n + 1 + 1 + 1 + 1 + 1 + 1 + 1 + 1 + 1 + 1 + 1 + 1 + 1 + 1 + 1 + 1 + 1 + 1 + 1 + 1 ≤ n2 := g79a
  replace g79b : z + Int32.toNatClampNeg (740 : Int32) + Int32.toNatClampNeg (412 : Int32) + Int32.toNatClampNeg (170 : Int32) + Int32.toNatClampNeg (824 : Int32) + Int32.toNatClampNeg (16 : Int32) + Int32.toNatClampNeg (16 : Int32) + Int32.toNatClampNeg (32 : Int32) + Int32.toNatClampNeg (2 : Int32) + Int32.toNatClampNeg (7 : Int32) + Int32.toNatClampNeg (7 : Int32) + Int32.toNatClampNeg (7 : Int32) + Int32.toNatClampNeg (7 : Int32) + Int32.toNatClampNeg (10 : Int32) + Int32.toNatClampNeg (10 : Int32) + Int32.toNatClampNeg (100 : Int32) + Int32.toNatClampNeg (10 : Int32) + Int32.toNatClampNeg (10 : Int32) + Int32.toNatClampNeg (5040 : Int32) + Int32.toNatClampNeg (5040 : Int32) + Int32.toNatClampNeg (5040 : Int32) ≤ z2 := g79b
  obtain ⟨f80, ef80⟩ : ∃ y : Hp, y = va_up f77 (n + 1 + 1 + 1 + 1 + 1 + 1 + 1 + 1 + 1 + 1 + 1 + 1 + 1 + 1 + 1 + 1 + 1 + 1 + 1) (some (.inr (2, Int32.toNatClampNeg (5040 : Int32), .inr (.inl fun _ => 0)))) := ⟨_, rfl⟩
  replace hE := nm_o ef80 hE
  refine s_newA (t := 2) (x := .inr (.inl fun _ => 0)) hx hb rfl (by decide) (hT _ ac_long) (fun h => h) hK hW hS (fun _ => rfl) c78.1 (Nat.le_trans (Nat.mul_le_mul_right _ c78.2) (by decide)) (show n + 1 + 1 + 1 + 1 + 1 + 1 + 1 + 1 + 1 + 1 + 1 + 1 + 1 + 1 + 1 + 1 + 1 + 1 + 1 - n + 1 ≤ n2 - n by omega) (show z + Int32.toNatClampNeg (740 : Int32) + Int32.toNatClampNeg (412 : Int32) + Int32.toNatClampNeg (170 : Int32) + Int32.toNatClampNeg (824 : Int32) + Int32.toNatClampNeg (16 : Int32) + Int32.toNatClampNeg (16 : Int32) + Int32.toNatClampNeg (32 : Int32) + Int32.toNatClampNeg (2 : Int32) + Int32.toNatClampNeg (7 : Int32) + Int32.toNatClampNeg (7 : Int32) + Int32.toNatClampNeg (7 : Int32) + Int32.toNatClampNeg (7 : Int32) + Int32.toNatClampNeg (10 : Int32) + Int32.toNatClampNeg (10 : Int32) + Int32.toNatClampNeg (100 : Int32) + Int32.toNatClampNeg (10 : Int32) + Int32.toNatClampNeg (10 : Int32) + Int32.toNatClampNeg (5040 : Int32) + Int32.toNatClampNeg (5040 : Int32) - z + Int32.toNatClampNeg (5040 : Int32) ≤ z2 - z by omega) dX12_init_165 (fun H hW hS => ?_)
  rw [← ef80] at hW
  refine W.cs (cells' := n + 1 + 1 + 1 + 1 + 1 + 1 + 1 + 1 + 1 + 1 + 1 + 1 + 1 + 1 + 1 + 1 + 1 + 1 + 1 + 1 - n) (slots' := z + Int32.toNatClampNeg (740 : Int32) + Int32.toNatClampNeg (412 : Int32) + Int32.toNatClampNeg (170 : Int32) + Int32.toNatClampNeg (824 : Int32) + Int32.toNatClampNeg (16 : Int32) + Int32.toNatClampNeg (16 : Int32) + Int32.toNatClampNeg (32 : Int32) + Int32.toNatClampNeg (2 : Int32) + Int32.toNatClampNeg (7 : Int32) + Int32.toNatClampNeg (7 : Int32) + Int32.toNatClampNeg (7 : Int32) + Int32.toNatClampNeg (7 : Int32) + Int32.toNatClampNeg (10 : Int32) + Int32.toNatClampNeg (10 : Int32) + Int32.toNatClampNeg (100 : Int32) + Int32.toNatClampNeg (10 : Int32) + Int32.toNatClampNeg (10 : Int32) + Int32.toNatClampNeg (5040 : Int32) + Int32.toNatClampNeg (5040 : Int32) + Int32.toNatClampNeg (5040 : Int32) - z) (by omega) (by omega) ?_
  obtain ⟨f81, hf81, hE⟩ := bd hE
  refine s_putR hx hb hT u_X12 tyX12 tyX12_ok nmX12 hown hK hW hS hf81 rfl (by decide) fl_X12_69 rfl (Or.inr ⟨rfl, hin, rfl⟩) rfl fit_a dX12_init_167 (fun H locs hW hS => ?_)
  refine s_aload_n hx hb dX12_init_170 rfl (lv_at hl 0 rfl) ?_
  refine lv_sipush (v := (30240 : Int32)) hx hb dX12_init_171 (by decide) ?_
  obtain ⟨c82, hE⟩ := ck hE
  replace c82 := of_decide_eq_true c82
  obtain ⟨g83a, g83b, hE⟩ := grow_of hE
  replace g83a : n + 1 + 1 + 1 + 1 + 1 + 1 + 1 + 1 + 1 + 1 + 1 + 1 + 1 + 1 + 1 + 1 + 1 + 1 + 1 + 1 + 1 ≤ n2 := g83a
  replace g83b : z + Int32.toNatClampNeg (740 : Int32) + Int32.toNatClampNeg (412 : Int32) + Int32.toNatClampNeg (170 : Int32) + Int32.toNatClampNeg (824 : Int32) + Int32.toNatClampNeg (16 : Int32) + Int32.toNatClampNeg (16 : Int32) + Int32.toNatClampNeg (32 : Int32) + Int32.toNatClampNeg (2 : Int32) + Int32.toNatClampNeg (7 : Int32) + Int32.toNatClampNeg (7 : Int32) + Int32.toNatClampNeg (7 : Int32) + Int32.toNatClampNeg (7 : Int32) + Int32.toNatClampNeg (10 : Int32) + Int32.toNatClampNeg (10 : Int32) + Int32.toNatClampNeg (100 : Int32) + Int32.toNatClampNeg (10 : Int32) + Int32.toNatClampNeg (10 : Int32) + Int32.toNatClampNeg (5040 : Int32) + Int32.toNatClampNeg (5040 : Int32) + Int32.toNatClampNeg (5040 : Int32) + Int32.toNatClampNeg (30240 : Int32) ≤ z2 := g83b
  obtain ⟨f84, ef84⟩ : ∃ y : Hp, y = va_up f81 (n + 1 + 1 + 1 + 1 + 1 + 1 + 1 + 1 + 1 + 1 + 1 + 1 + 1 + 1 + 1 + 1 + 1 + 1 + 1 + 1) (some (.inr (1, Int32.toNatClampNeg (30240 : Int32), .inl fun _ => 0))) := ⟨_, rfl⟩
  replace hE := nm_o ef84 hE
  refine s_newA (t := 1) (x := .inl fun _ => 0) hx hb rfl (by decide) (hT _ ac_int) (fun h => h) hK hW hS (fun _ => rfl) c82.1 (Nat.le_trans (Nat.mul_le_mul_right _ c82.2) (by decide)) (show n + 1 + 1 + 1 + 1 + 1 + 1 + 1 + 1 + 1 + 1 + 1 + 1 + 1 + 1 + 1 + 1 + 1 + 1 + 1 + 1 - n + 1 ≤ n2 - n by omega) (show z + Int32.toNatClampNeg (740 : Int32) + Int32.toNatClampNeg (412 : Int32) + Int32.toNatClampNeg (170 : Int32) + Int32.toNatClampNeg (824 : Int32) + Int32.toNatClampNeg (16 : Int32) + Int32.toNatClampNeg (16 : Int32) + Int32.toNatClampNeg (32 : Int32) + Int32.toNatClampNeg (2 : Int32) + Int32.toNatClampNeg (7 : Int32) + Int32.toNatClampNeg (7 : Int32) + Int32.toNatClampNeg (7 : Int32) + Int32.toNatClampNeg (7 : Int32) + Int32.toNatClampNeg (10 : Int32) + Int32.toNatClampNeg (10 : Int32) + Int32.toNatClampNeg (100 : Int32) + Int32.toNatClampNeg (10 : Int32) + Int32.toNatClampNeg (10 : Int32) + Int32.toNatClampNeg (5040 : Int32) + Int32.toNatClampNeg (5040 : Int32) + Int32.toNatClampNeg (5040 : Int32) - z + Int32.toNatClampNeg (30240 : Int32) ≤ z2 - z by omega) dX12_init_174 (fun H hW hS => ?_)
  rw [← ef84] at hW
  refine W.cs (cells' := n + 1 + 1 + 1 + 1 + 1 + 1 + 1 + 1 + 1 + 1 + 1 + 1 + 1 + 1 + 1 + 1 + 1 + 1 + 1 + 1 + 1 - n) (slots' := z + Int32.toNatClampNeg (740 : Int32) + Int32.toNatClampNeg (412 : Int32) + Int32.toNatClampNeg (170 : Int32) + Int32.toNatClampNeg (824 : Int32) + Int32.toNatClampNeg (16 : Int32) + Int32.toNatClampNeg (16 : Int32) + Int32.toNatClampNeg (32 : Int32) + Int32.toNatClampNeg (2 : Int32) + Int32.toNatClampNeg (7 : Int32) + Int32.toNatClampNeg (7 : Int32) + Int32.toNatClampNeg (7 : Int32) + Int32.toNatClampNeg (7 : Int32) + Int32.toNatClampNeg (10 : Int32) + Int32.toNatClampNeg (10 : Int32) + Int32.toNatClampNeg (100 : Int32) + Int32.toNatClampNeg (10 : Int32) + Int32.toNatClampNeg (10 : Int32) + Int32.toNatClampNeg (5040 : Int32) + Int32.toNatClampNeg (5040 : Int32) + Int32.toNatClampNeg (5040 : Int32) + Int32.toNatClampNeg (30240 : Int32) - z) (by omega) (by omega) ?_
  obtain ⟨f85, hf85, hE⟩ := bd hE
  refine s_putR hx hb hT u_X12 tyX12 tyX12_ok nmX12 hown hK hW hS hf85 rfl (by decide) fl_X12_72 rfl (Or.inr ⟨rfl, hin, rfl⟩) rfl fit_a dX12_init_176 (fun H locs hW hS => ?_)
  refine s_aload_n hx hb dX12_init_179 rfl (lv_at hl 0 rfl) ?_
  refine lv_bipush (v := (7 : Int32)) hx hb dX12_init_180 (by decide) ?_
  obtain ⟨c86, hE⟩ := ck hE
  replace c86 := of_decide_eq_true c86
  obtain ⟨g87a, g87b, hE⟩ := grow_of hE
  replace g87a : n + 1 + 1 + 1 + 1 + 1 + 1 + 1 + 1 + 1 + 1 + 1 + 1 + 1 + 1 + 1 + 1 + 1 + 1 + 1 + 1 + 1 + 1 ≤ n2 := g87a
  replace g87b : z + Int32.toNatClampNeg (740 : Int32) + Int32.toNatClampNeg (412 : Int32) + Int32.toNatClampNeg (170 : Int32) + Int32.toNatClampNeg (824 : Int32) + Int32.toNatClampNeg (16 : Int32) + Int32.toNatClampNeg (16 : Int32) + Int32.toNatClampNeg (32 : Int32) + Int32.toNatClampNeg (2 : Int32) + Int32.toNatClampNeg (7 : Int32) + Int32.toNatClampNeg (7 : Int32) + Int32.toNatClampNeg (7 : Int32) + Int32.toNatClampNeg (7 : Int32) + Int32.toNatClampNeg (10 : Int32) + Int32.toNatClampNeg (10 : Int32) + Int32.toNatClampNeg (100 : Int32) + Int32.toNatClampNeg (10 : Int32) + Int32.toNatClampNeg (10 : Int32) + Int32.toNatClampNeg (5040 : Int32) + Int32.toNatClampNeg (5040 : Int32) + Int32.toNatClampNeg (5040 : Int32) + Int32.toNatClampNeg (30240 : Int32) + Int32.toNatClampNeg (7 : Int32) ≤ z2 := g87b
  obtain ⟨f88, ef88⟩ : ∃ y : Hp, y = va_up f85 (n + 1 + 1 + 1 + 1 + 1 + 1 + 1 + 1 + 1 + 1 + 1 + 1 + 1 + 1 + 1 + 1 + 1 + 1 + 1 + 1 + 1) (some (.inr (1, Int32.toNatClampNeg (7 : Int32), .inl fun _ => 0))) := ⟨_, rfl⟩
  replace hE := nm_o ef88 hE
  refine s_newA (t := 1) (x := .inl fun _ => 0) hx hb rfl (by decide) (hT _ ac_int) (fun h => h) hK hW hS (fun _ => rfl) c86.1 (Nat.le_trans (Nat.mul_le_mul_right _ c86.2) (by decide)) (show n + 1 + 1 + 1 + 1 + 1 + 1 + 1 + 1 + 1 + 1 + 1 + 1 + 1 + 1 + 1 + 1 + 1 + 1 + 1 + 1 + 1 - n + 1 ≤ n2 - n by omega) (show z + Int32.toNatClampNeg (740 : Int32) + Int32.toNatClampNeg (412 : Int32) + Int32.toNatClampNeg (170 : Int32) + Int32.toNatClampNeg (824 : Int32) + Int32.toNatClampNeg (16 : Int32) + Int32.toNatClampNeg (16 : Int32) + Int32.toNatClampNeg (32 : Int32) + Int32.toNatClampNeg (2 : Int32) + Int32.toNatClampNeg (7 : Int32) + Int32.toNatClampNeg (7 : Int32) + Int32.toNatClampNeg (7 : Int32) + Int32.toNatClampNeg (7 : Int32) + Int32.toNatClampNeg (10 : Int32) + Int32.toNatClampNeg (10 : Int32) + Int32.toNatClampNeg (100 : Int32) + Int32.toNatClampNeg (10 : Int32) + Int32.toNatClampNeg (10 : Int32) + Int32.toNatClampNeg (5040 : Int32) + Int32.toNatClampNeg (5040 : Int32) + Int32.toNatClampNeg (5040 : Int32) + Int32.toNatClampNeg (30240 : Int32) - z + Int32.toNatClampNeg (7 : Int32) ≤ z2 - z by omega) dX12_init_182 (fun H hW hS => ?_)
  rw [← ef88] at hW
  refine W.cs (cells' := n + 1 + 1 + 1 + 1 + 1 + 1 + 1 + 1 + 1 + 1 + 1 + 1 + 1 + 1 + 1 + 1 + 1 + 1 + 1 + 1 + 1 + 1 - n) (slots' := z + Int32.toNatClampNeg (740 : Int32) + Int32.toNatClampNeg (412 : Int32) + Int32.toNatClampNeg (170 : Int32) + Int32.toNatClampNeg (824 : Int32) + Int32.toNatClampNeg (16 : Int32) + Int32.toNatClampNeg (16 : Int32) + Int32.toNatClampNeg (32 : Int32) + Int32.toNatClampNeg (2 : Int32) + Int32.toNatClampNeg (7 : Int32) + Int32.toNatClampNeg (7 : Int32) + Int32.toNatClampNeg (7 : Int32) + Int32.toNatClampNeg (7 : Int32) + Int32.toNatClampNeg (10 : Int32) + Int32.toNatClampNeg (10 : Int32) + Int32.toNatClampNeg (100 : Int32) + Int32.toNatClampNeg (10 : Int32) + Int32.toNatClampNeg (10 : Int32) + Int32.toNatClampNeg (5040 : Int32) + Int32.toNatClampNeg (5040 : Int32) + Int32.toNatClampNeg (5040 : Int32) + Int32.toNatClampNeg (30240 : Int32) + Int32.toNatClampNeg (7 : Int32) - z) (by omega) (by omega) ?_
  obtain ⟨f89, hf89, hE⟩ := bd hE
  refine s_putR hx hb hT u_X12 tyX12 tyX12_ok nmX12 hown hK hW hS hf89 rfl (by decide) fl_X12_75 rfl (Or.inr ⟨rfl, hin, rfl⟩) rfl fit_a dX12_init_184 (fun H locs hW hS => ?_)
  refine s_aload_n hx hb dX12_init_187 rfl (lv_at hl 0 rfl) ?_
  refine lv_sipush (v := (240 : Int32)) hx hb dX12_init_188 (by decide) ?_
  obtain ⟨c90, hE⟩ := ck hE
  replace c90 := of_decide_eq_true c90
  obtain ⟨g91a, g91b, hE⟩ := grow_of hE
  replace g91a : n + 1 + 1 + 1 + 1 + 1 + 1 + 1 + 1 + 1 + 1 + 1 + 1 + 1 + 1 + 1 + 1 + 1 + 1 + 1 + 1 + 1 + 1 + 1 ≤ n2 := g91a
  replace g91b : z + Int32.toNatClampNeg (740 : Int32) + Int32.toNatClampNeg (412 : Int32) + Int32.toNatClampNeg (170 : Int32) + Int32.toNatClampNeg (824 : Int32) + Int32.toNatClampNeg (16 : Int32) + Int32.toNatClampNeg (16 : Int32) + Int32.toNatClampNeg (32 : Int32) + Int32.toNatClampNeg (2 : Int32) + Int32.toNatClampNeg (7 : Int32) + Int32.toNatClampNeg (7 : Int32) + Int32.toNatClampNeg (7 : Int32) + Int32.toNatClampNeg (7 : Int32) + Int32.toNatClampNeg (10 : Int32) + Int32.toNatClampNeg (10 : Int32) + Int32.toNatClampNeg (100 : Int32) + Int32.toNatClampNeg (10 : Int32) + Int32.toNatClampNeg (10 : Int32) + Int32.toNatClampNeg (5040 : Int32) + Int32.toNatClampNeg (5040 : Int32) + Int32.toNatClampNeg (5040 : Int32) + Int32.toNatClampNeg (30240 : Int32) + Int32.toNatClampNeg (7 : Int32) + Int32.toNatClampNeg (240 : Int32) ≤ z2 := g91b
  obtain ⟨f92, ef92⟩ : ∃ y : Hp, y = va_up f89 (n + 1 + 1 + 1 + 1 + 1 + 1 + 1 + 1 + 1 + 1 + 1 + 1 + 1 + 1 + 1 + 1 + 1 + 1 + 1 + 1 + 1 + 1) (some (.inr (1, Int32.toNatClampNeg (240 : Int32), .inl fun _ => 0))) := ⟨_, rfl⟩
  replace hE := nm_o ef92 hE
  refine s_newA (t := 1) (x := .inl fun _ => 0) hx hb rfl (by decide) (hT _ ac_int) (fun h => h) hK hW hS (fun _ => rfl) c90.1 (Nat.le_trans (Nat.mul_le_mul_right _ c90.2) (by decide)) (show n + 1 + 1 + 1 + 1 + 1 + 1 + 1 + 1 + 1 + 1 + 1 + 1 + 1 + 1 + 1 + 1 + 1 + 1 + 1 + 1 + 1 + 1 - n + 1 ≤ n2 - n by omega) (show z + Int32.toNatClampNeg (740 : Int32) + Int32.toNatClampNeg (412 : Int32) + Int32.toNatClampNeg (170 : Int32) + Int32.toNatClampNeg (824 : Int32) + Int32.toNatClampNeg (16 : Int32) + Int32.toNatClampNeg (16 : Int32) + Int32.toNatClampNeg (32 : Int32) + Int32.toNatClampNeg (2 : Int32) + Int32.toNatClampNeg (7 : Int32) + Int32.toNatClampNeg (7 : Int32) + Int32.toNatClampNeg (7 : Int32) + Int32.toNatClampNeg (7 : Int32) + Int32.toNatClampNeg (10 : Int32) + Int32.toNatClampNeg (10 : Int32) + Int32.toNatClampNeg (100 : Int32) + Int32.toNatClampNeg (10 : Int32) + Int32.toNatClampNeg (10 : Int32) + Int32.toNatClampNeg (5040 : Int32) + Int32.toNatClampNeg (5040 : Int32) + Int32.toNatClampNeg (5040 : Int32) + Int32.toNatClampNeg (30240 : Int32) + Int32.toNatClampNeg (7 : Int32) - z + Int32.toNatClampNeg (240 : Int32) ≤ z2 - z by omega) dX12_init_191 (fun H hW hS => ?_)
  rw [← ef92] at hW
  refine W.cs (cells' := n + 1 + 1 + 1 + 1 + 1 + 1 + 1 + 1 + 1 + 1 + 1 + 1 + 1 + 1 + 1 + 1 + 1 + 1 + 1 + 1 + 1 + 1 + 1 - n) (slots' := z + Int32.toNatClampNeg (740 : Int32) + Int32.toNatClampNeg (412 : Int32) + Int32.toNatClampNeg (170 : Int32) + Int32.toNatClampNeg (824 : Int32) + Int32.toNatClampNeg (16 : Int32) + Int32.toNatClampNeg (16 : Int32) + Int32.toNatClampNeg (32 : Int32) + Int32.toNatClampNeg (2 : Int32) + Int32.toNatClampNeg (7 : Int32) + Int32.toNatClampNeg (7 : Int32) + Int32.toNatClampNeg (7 : Int32) + Int32.toNatClampNeg (7 : Int32) + Int32.toNatClampNeg (10 : Int32) + Int32.toNatClampNeg (10 : Int32) + Int32.toNatClampNeg (100 : Int32) + Int32.toNatClampNeg (10 : Int32) + Int32.toNatClampNeg (10 : Int32) + Int32.toNatClampNeg (5040 : Int32) + Int32.toNatClampNeg (5040 : Int32) + Int32.toNatClampNeg (5040 : Int32) + Int32.toNatClampNeg (30240 : Int32) + Int32.toNatClampNeg (7 : Int32) + Int32.toNatClampNeg (240 : Int32) - z) (by omega) (by omega) ?_
  obtain ⟨f93, hf93, hE⟩ := bd hE
  refine s_putR hx hb hT u_X12 tyX12 tyX12_ok nmX12 hown hK hW hS hf93 rfl (by decide) fl_X12_78 rfl (Or.inr ⟨rfl, hin, rfl⟩) rfl fit_a dX12_init_193 (fun H locs hW hS => ?_)
  obtain ⟨rfl, rfl, rfl⟩ := so3 hE
  exact s_vret hx hb hr hlocks hW hS dX12_init_196
set_option maxHeartbeats 4000000 in
set_option maxRecDepth 100000 in
theorem S_X12_valueOf (l : Launch) (G : GG) (F : Nat) {u0 : Option Nat} {u1 : Int32} {u2 : Int32} {u3 : Int32} {f : Hp} {r : Int32} {f' : Hp} {n : Nat} (hE : m_X12_valueOf F u0 u1 u2 u3 f = some (r, f')) : Ctr l G yX12_valueOf cX12_valueOf 4 (some .int) 3 67 [rr G u0, .int u1, .int u2, .int u3] f n (some (.int r)) f' n 0 0 := by
  refine Met.ofW (cc := cX12_valueOf) (maxL := 4) (ret := (some .int)) (by decide) rfl ?_
  intro p e s m args below meth c s₁ B hml hv
  obtain ⟨rfl, hK, hW⟩ := hv
  have hx := B.exec
  have hb := B.bytes
  have hr := B.returns
  have hts := atoms_spec (ws := wsO yX12_valueOf cX12_valueOf 4 (some .int)) B.pre
  have hT : ∀ w ∈ TB, w.before [rr G u0, .int u1, .int u2, .int u3].toArray s = true := fun w hw => hts w (List.mem_cons_of_mem _ hw)
  have hown : s.vm.findClass RX12 = some m.cls := findClass_of_methodNamed B.named
  have hlocks := B.notSynchronized
  have CF : CallFix p m c cX12_valueOf 4 s [rr G u0, .int u1, .int u2, .int u3].toArray TB RX12 := ⟨hx, hb, hml, hown, hT⟩
  have hS : va_S (WA G) s.heap s.heap [] := va_S.rf
  have hl : lv_has (lg_sl ([rr G u0, .int u1, .int u2, .int u3]) ++ List.replicate (4 - (lg_sl ([rr G u0, .int u1, .int u2, .int u3])).length) Slot.unset).toArray 4 [(0, rr G u0), (1, .int u1), (2, .int u2), (3, .int u3)] := by cases u0 <;> exact lv_entry _ (Nat.le_of_ble_eq_true rfl)
  rw [lg_entry_eq]
  generalize (lg_sl ([rr G u0, .int u1, .int u2, .int u3]) ++ List.replicate (4 - (lg_sl ([rr G u0, .int u1, .int u2, .int u3])).length) Slot.unset).toArray = ls at hl ⊢
  refine s_aload_n hx hb dX12_valueOf_0 rfl (lv_at hl 0 rfl) ?_
  refine lv_iload_n hx hb dX12_valueOf_1 rfl (lv_at hl 3 rfl) ?_
  refine lv_iload_n hx hb dX12_valueOf_2 rfl (lv_at hl 2 rfl) ?_
  obtain ⟨c1, hE⟩ := ck hE
  obtain ⟨f2, hf2, hE⟩ := bd hE
  refine s_callV (As := [.int u3, .int u2]) (rest := []) CF hK hW hS (S_X12_layCopies l G F hf2) c1 rfl gv_X12_269 hd_X12_layCopies ⟨Nat.le_of_ble_eq_true rfl, Nat.le_of_ble_eq_true rfl⟩ rfl hl.1 rfl (Nat.le_of_ble_eq_true rfl) dX12_valueOf_3 ⟨Nat.le_refl _, Nat.le_refl _⟩ (fun H locs hW hS => ?_)
  refine lv_iload_n hx hb dX12_valueOf_6 rfl (lv_at hl 1 rfl) ?_
  refine lv_bipush (v := (8 : Int32)) hx hb dX12_valueOf_7 (by decide) ?_
  refine lv_icmp_ne (tgt := 19) hx hb dX12_valueOf_9 (by decide) (fun q3 => ?_) (fun q3 => ?_)
  · replace hE := ite_f q3 hE
    refine lv_iload_n hx hb dX12_valueOf_19 rfl (lv_at hl 1 rfl) ?_
    refine lv_bipush (v := (9 : Int32)) hx hb dX12_valueOf_20 (by decide) ?_
    refine lv_icmp_ne (tgt := 32) hx hb dX12_valueOf_22 (by decide) (fun q4 => ?_) (fun q4 => ?_)
    · replace hE := ite_f q4 hE
      refine lv_iload_n hx hb dX12_valueOf_32 rfl (lv_at hl 1 rfl) ?_
      refine lv_bipush (v := (10 : Int32)) hx hb dX12_valueOf_33 (by decide) ?_
      refine lv_icmp_ne (tgt := 49) hx hb dX12_valueOf_35 (by decide) (fun q5 => ?_) (fun q5 => ?_)
      · replace hE := ite_f q5 hE
        refine s_aload_n hx hb dX12_valueOf_49 rfl (lv_at hl 0 rfl) ?_
        refine lv_iload_n hx hb dX12_valueOf_50 rfl (lv_at hl 3 rfl) ?_
        obtain ⟨c6, hE⟩ := ck hE
        obtain ⟨x7, hx7, hE⟩ := bd hE
        refine s_callV (As := [.int u3]) (rest := []) CF hK hW hS (S_X12_sizeOf l G F hx7) c6 rfl gv_X12_182 hd_X12_sizeOf ⟨Nat.le_of_ble_eq_true rfl, Nat.le_of_ble_eq_true rfl⟩ rfl hl.1 rfl (Nat.le_of_ble_eq_true rfl) dX12_valueOf_51 ⟨Nat.le_refl _, Nat.le_refl _⟩ (fun H locs hW hS => ?_)
        obtain ⟨rfl, rfl⟩ := so2 hE
        exact s_iret hx hb hr hlocks hW hS dX12_valueOf_54
      · replace hE := ite_t q5 hE
        refine s_aload_n hx hb dX12_valueOf_38 rfl (lv_at hl 0 rfl) ?_
        refine s_aload_n hx hb dX12_valueOf_39 rfl (lv_at hl 0 rfl) ?_
        obtain ⟨x8, hx8, hE⟩ := bd hE
        refine s_gR hx hb hT u_X12 hown hK hW hx8 rfl (by decide) fl_X12_42 rfl dX12_valueOf_40 ?_
        obtain ⟨c9, hE⟩ := ck hE
        obtain ⟨x10, hx10, hE⟩ := bd hE
        refine s_callV (As := [rr G x8]) (rest := []) CF hK hW hS (S_X12_songOf l G F hx10) c9 rfl gv_X12_342 hd_X12_songOf ⟨Nat.le_of_ble_eq_true rfl, Nat.le_of_ble_eq_true rfl⟩ rfl hl.1 rfl (Nat.le_of_ble_eq_true rfl) dX12_valueOf_43 ⟨Nat.le_refl _, Nat.le_refl _⟩ (fun H locs hW hS => ?_)
        refine lv_goto (tgt := 54) hx hb dX12_valueOf_46 (by decide) ?_
        obtain ⟨rfl, rfl⟩ := so2 hE
        exact s_iret hx hb hr hlocks hW hS dX12_valueOf_54
    · replace hE := ite_t q4 hE
      refine s_aload_n hx hb dX12_valueOf_25 rfl (lv_at hl 0 rfl) ?_
      obtain ⟨c11, hE⟩ := ck hE
      obtain ⟨x12, hx12, hE⟩ := bd hE
      refine s_callV (As := []) (rest := []) CF hK hW hS (S_X12_steps l G F hx12) c11 rfl gv_X12_259 hd_X12_steps ⟨Nat.le_of_ble_eq_true rfl, Nat.le_of_ble_eq_true rfl⟩ rfl hl.1 rfl (Nat.le_of_ble_eq_true rfl) dX12_valueOf_26 ⟨Nat.le_refl _, Nat.le_refl _⟩ (fun H locs hW hS => ?_)
      refine lv_goto (tgt := 54) hx hb dX12_valueOf_29 (by decide) ?_
      obtain ⟨rfl, rfl⟩ := so2 hE
      exact s_iret hx hb hr hlocks hW hS dX12_valueOf_54
  · replace hE := ite_t q3 hE
    refine s_aload_n hx hb dX12_valueOf_12 rfl (lv_at hl 0 rfl) ?_
    obtain ⟨c13, hE⟩ := ck hE
    obtain ⟨x14, hx14, hE⟩ := bd hE
    refine s_callV (As := []) (rest := []) CF hK hW hS (S_X12_far l G F hx14) c13 rfl gv_X12_273 hd_X12_far ⟨Nat.le_of_ble_eq_true rfl, Nat.le_of_ble_eq_true rfl⟩ rfl hl.1 rfl (Nat.le_of_ble_eq_true rfl) dX12_valueOf_13 ⟨Nat.le_refl _, Nat.le_refl _⟩ (fun H locs hW hS => ?_)
    refine lv_goto (tgt := 54) hx hb dX12_valueOf_16 (by decide) ?_
    obtain ⟨rfl, rfl⟩ := so2 hE
    exact s_iret hx hb hr hlocks hW hS dX12_valueOf_54
set_option maxHeartbeats 4000000 in
set_option maxRecDepth 100000 in
theorem S_X12_isPlain (l : Launch) (G : GG) (F : Nat) {u0 : Option Nat} {u1 : Int32} {u2 : Int32} {f : Hp} {r : Int32} {f' : Hp} {n : Nat} (hE : m_X12_isPlain F u0 u1 u2 f = some (r, f')) : Ctr l G yX12_isPlain cX12_isPlain 6 (some .boolean) 4 90 [rr G u0, .int u1, .int u2] f n (some (.int r)) f' n 0 0 := by
  refine Met.ofW (cc := cX12_isPlain) (maxL := 6) (ret := (some .boolean)) (by decide) rfl ?_
  intro p e s m args below meth c s₁ B hml hv
  obtain ⟨rfl, hK, hW⟩ := hv
  have hx := B.exec
  have hb := B.bytes
  have hr := B.returns
  have hts := atoms_spec (ws := wsO yX12_isPlain cX12_isPlain 6 (some .boolean)) B.pre
  have hT : ∀ w ∈ TB, w.before [rr G u0, .int u1, .int u2].toArray s = true := fun w hw => hts w (List.mem_cons_of_mem _ hw)
  have hown : s.vm.findClass RX12 = some m.cls := findClass_of_methodNamed B.named
  have hlocks := B.notSynchronized
  have CF : CallFix p m c cX12_isPlain 6 s [rr G u0, .int u1, .int u2].toArray TB RX12 := ⟨hx, hb, hml, hown, hT⟩
  have hS : va_S (WA G) s.heap s.heap [] := va_S.rf
  have hl : lv_has (lg_sl ([rr G u0, .int u1, .int u2]) ++ List.replicate (6 - (lg_sl ([rr G u0, .int u1, .int u2])).length) Slot.unset).toArray 6 [(0, rr G u0), (1, .int u1), (2, .int u2)] := by cases u0 <;> exact lv_entry _ (Nat.le_of_ble_eq_true rfl)
  rw [lg_entry_eq]
  generalize (lg_sl ([rr G u0, .int u1, .int u2]) ++ List.replicate (6 - (lg_sl ([rr G u0, .int u1, .int u2])).length) Slot.unset).toArray = ls at hl ⊢
  refine s_aload_n hx hb dX12_isPlain_0 rfl (lv_at hl 0 rfl) ?_
  obtain ⟨x1, hx1, hE⟩ := bd hE
  refine s_gR hx hb hT u_X12 hown hK hW hx1 rfl (by decide) fl_X12_13 rfl dX12_isPlain_1 ?_
  refine lv_iload_n hx hb dX12_isPlain_4 rfl (lv_at hl 1 rfl) ?_
  refine lv_iconst (v := (1 : Int32)) hx hb dX12_isPlain_5 (by decide) ?_
  refine lv_iadd hx hb dX12_isPlain_6 ?_
  obtain ⟨x2, hx2, hE⟩ := bd hE
  refine s_ldI hx hb hK hW hS hx2 dX12_isPlain_7 ?_
  refine lv_istore_n (i := 3) (lv' := [(3, .int x2), (0, rr G u0), (1, .int u1), (2, .int u2)]) hx hb dX12_isPlain_8 rfl hl (by decide) rfl (fun ls hl => ?_)
  refine s_aload_n hx hb dX12_isPlain_9 rfl (lv_at hl 1 rfl) ?_
  obtain ⟨x3, hx3, hE⟩ := bd hE
  refine s_gR hx hb hT u_X12 hown hK hW hx3 rfl (by decide) fl_X12_13 rfl dX12_isPlain_10 ?_
  refine lv_iload_n hx hb dX12_isPlain_13 rfl (lv_at hl 2 rfl) ?_
  refine lv_iconst (v := (2 : Int32)) hx hb dX12_isPlain_14 (by decide) ?_
  refine lv_iadd hx hb dX12_isPlain_15 ?_
  obtain ⟨x4, hx4, hE⟩ := bd hE
  refine s_ldI hx hb hK hW hS hx4 dX12_isPlain_16 ?_
  refine lv_istore (lv' := [(4, .int x4), (3, .int x2), (0, rr G u0), (1, .int u1), (2, .int u2)]) hx hb dX12_isPlain_17 hl (by decide) rfl (fun ls hl => ?_)
  refine s_aload_n hx hb dX12_isPlain_19 rfl (lv_at hl 2 rfl) ?_
  refine lv_iload_n hx hb dX12_isPlain_20 rfl (lv_at hl 4 rfl) ?_
  refine s_aload_n hx hb dX12_isPlain_21 rfl (lv_at hl 2 rfl) ?_
  obtain ⟨x5, hx5, hE⟩ := bd hE
  refine s_gR hx hb hT u_X12 hown hK hW hx5 rfl (by decide) fl_X12_42 rfl dX12_isPlain_22 ?_
  obtain ⟨c6, hE⟩ := ck hE
  obtain ⟨f7, hf7, hE⟩ := bd hE
  refine s_callV (As := [.int u2, rr G x5]) (rest := []) CF hK hW hS (S_X12_layCopy l G F hf7) c6 rfl gv_X12_265 hd_X12_layCopy ⟨Nat.le_of_ble_eq_true rfl, Nat.le_of_ble_eq_true rfl⟩ rfl hl.1 rfl (Nat.le_of_ble_eq_true rfl) dX12_isPlain_25 ⟨Nat.le_refl _, Nat.le_refl _⟩ (fun H locs hW hS => ?_)
  refine s_aload_n hx hb dX12_isPlain_28 rfl (lv_at hl 2 rfl) ?_
  obtain ⟨x8, hx8, hE⟩ := bd hE
  refine s_gR hx hb hT u_X12 hown hK hW hx8 rfl (by decide) fl_X12_13 rfl dX12_isPlain_29 ?_
  refine lv_iload_n hx hb dX12_isPlain_32 rfl (lv_at hl 3 rfl) ?_
  obtain ⟨x9, hx9, hE⟩ := bd hE
  refine s_ldI hx hb hK hW hS hx9 dX12_isPlain_33 ?_
  by_cases w10 : x9 = (4 : Int32)
  · replace hE := ite_t w10 hE
    have hi : (x9).toInt = 4 := by rw [w10]; rfl
    refine lv_tableIn (off := 30) (tgt := 64) hx hb dX12_isPlain_34 (by rw [hi]; decide) (by rw [hi]; decide) (by rw [hi]; rfl) (by decide) ?_
    refine s_aload_n hx hb dX12_isPlain_64 rfl (lv_at hl 2 rfl) ?_
    refine lv_iload_n hx hb dX12_isPlain_65 rfl (lv_at hl 4 rfl) ?_
    obtain ⟨c11, hE⟩ := ck hE
    obtain ⟨x12, hx12, hE⟩ := bd hE
    refine s_callV (As := [.int u2]) (rest := []) CF hK hW hS (S_X12_isWhole l G F hx12) c11 rfl gv_X12_279 hd_X12_isWhole ⟨Nat.le_of_ble_eq_true rfl, Nat.le_of_ble_eq_true rfl⟩ rfl hl.1 rfl (Nat.le_of_ble_eq_true rfl) dX12_isPlain_66 ⟨Nat.le_refl _, Nat.le_refl _⟩ (fun H locs hW hS => ?_)
    obtain ⟨c13, hE⟩ := ck hE
    obtain ⟨rfl, rfl⟩ := so2 hE
    exact s_zret hx hb hr c13 hlocks hW hS dX12_isPlain_69
  · replace hE := ite_f w10 hE
    by_cases w14 : x9 = (5 : Int32)
    · replace hE := ite_t w14 hE
      have hi : (x9).toInt = 5 := by rw [w14]; rfl
      refine lv_tableIn (off := 36) (tgt := 70) hx hb dX12_isPlain_34 (by rw [hi]; decide) (by rw [hi]; decide) (by rw [hi]; rfl) (by decide) ?_
      refine s_aload_n hx hb dX12_isPlain_70 rfl (lv_at hl 2 rfl) ?_
      refine s_aload_n hx hb dX12_isPlain_71 rfl (lv_at hl 2 rfl) ?_
      obtain ⟨x15, hx15, hE⟩ := bd hE
      refine s_gR hx hb hT u_X12 hown hK hW hx15 rfl (by decide) fl_X12_42 rfl dX12_isPlain_72 ?_
      obtain ⟨c16, hE⟩ := ck hE
      obtain ⟨x17, hx17, hE⟩ := bd hE
      refine s_callV (As := [rr G x15]) (rest := []) CF hK hW hS (S_X12_hasSense l G F hx17) c16 rfl gv_X12_338 hd_X12_hasSense ⟨Nat.le_of_ble_eq_true rfl, Nat.le_of_ble_eq_true rfl⟩ rfl hl.1 rfl (Nat.le_of_ble_eq_true rfl) dX12_isPlain_75 ⟨Nat.le_refl _, Nat.le_refl _⟩ (fun H locs hW hS => ?_)
      obtain ⟨c18, hE⟩ := ck hE
      obtain ⟨rfl, rfl⟩ := so2 hE
      exact s_zret hx hb hr c18 hlocks hW hS dX12_isPlain_78
    · replace hE := ite_f w14 hE
      by_cases w19 : x9 = (6 : Int32)
      · replace hE := ite_t w19 hE
        have hi : (x9).toInt = 6 := by rw [w19]; rfl
        refine lv_tableIn (off := 45) (tgt := 79) hx hb dX12_isPlain_34 (by rw [hi]; decide) (by rw [hi]; decide) (by rw [hi]; rfl) (by decide) ?_
        refine s_aload_n hx hb dX12_isPlain_79 rfl (lv_at hl 2 rfl) ?_
        obtain ⟨x20, hx20, hE⟩ := bd hE
        refine s_gR hx hb hT u_X12 hown hK hW hx20 rfl (by decide) fl_X12_42 rfl dX12_isPlain_80 ?_
        refine lv_iload_n hx hb dX12_isPlain_83 rfl (lv_at hl 1 rfl) ?_
        obtain ⟨x21, hx21, hE⟩ := bd hE
        refine s_ldI hx hb hK hW hS hx21 dX12_isPlain_84 ?_
        refine lv_iconst (v := (-1 : Int32)) hx hb dX12_isPlain_85 (by decide) ?_
        refine lv_icmp_eq (tgt := 93) hx hb dX12_isPlain_86 (by decide) (fun q22 => ?_) (fun q22 => ?_)
        · replace hE := ite_t q22 hE
          refine lv_iconst (v := (0 : Int32)) hx hb dX12_isPlain_93 (by decide) ?_
          obtain ⟨c23, hE⟩ := ck hE
          obtain ⟨rfl, rfl⟩ := so2 hE
          exact s_zret hx hb hr c23 hlocks hW hS dX12_isPlain_94
        · replace hE := ite_f q22 hE
          refine lv_iconst (v := (1 : Int32)) hx hb dX12_isPlain_89 (by decide) ?_
          refine lv_goto (tgt := 94) hx hb dX12_isPlain_90 (by decide) ?_
          obtain ⟨c24, hE⟩ := ck hE
          obtain ⟨rfl, rfl⟩ := so2 hE
          exact s_zret hx hb hr c24 hlocks hW hS dX12_isPlain_94
      · replace hE := ite_f w19 hE
        by_cases w25 : x9 = (7 : Int32)
        · replace hE := ite_t w25 hE
          have hi : (x9).toInt = 7 := by rw [w25]; rfl
          refine lv_tableIn (off := 61) (tgt := 95) hx hb dX12_isPlain_34 (by rw [hi]; decide) (by rw [hi]; decide) (by rw [hi]; rfl) (by decide) ?_
          refine s_aload_n hx hb dX12_isPlain_95 rfl (lv_at hl 2 rfl) ?_
          obtain ⟨x26, hx26, hE⟩ := bd hE
          refine s_gR hx hb hT u_X12 hown hK hW hx26 rfl (by decide) fl_X12_42 rfl dX12_isPlain_96 ?_
          refine lv_iload_n hx hb dX12_isPlain_99 rfl (lv_at hl 1 rfl) ?_
          obtain ⟨x27, hx27, hE⟩ := bd hE
          refine s_ldI hx hb hK hW hS hx27 dX12_isPlain_100 ?_
          refine lv_iconst (v := (-1 : Int32)) hx hb dX12_isPlain_101 (by decide) ?_
          refine lv_icmp_eq (tgt := 136) hx hb dX12_isPlain_102 (by decide) (fun q28 => ?_) (fun q28 => ?_)
          · replace hE := ite_t q28 hE
            refine lv_iconst (v := (0 : Int32)) hx hb dX12_isPlain_136 (by decide) ?_
            obtain ⟨c29, hE⟩ := ck hE
            obtain ⟨rfl, rfl⟩ := so2 hE
            exact s_zret hx hb hr c29 hlocks hW hS dX12_isPlain_137
          · replace hE := ite_f q28 hE
            refine s_aload_n hx hb dX12_isPlain_105 rfl (lv_at hl 2 rfl) ?_
            obtain ⟨x30, hx30, hE⟩ := bd hE
            refine s_gR hx hb hT u_X12 hown hK hW hx30 rfl (by decide) fl_X12_42 rfl dX12_isPlain_106 ?_
            refine lv_iload hx hb dX12_isPlain_109 (lv_at hl 0 rfl) ?_
            obtain ⟨x31, hx31, hE⟩ := bd hE
            refine s_ldI hx hb hK hW hS hx31 dX12_isPlain_111 ?_
            refine lv_iconst (v := (-1 : Int32)) hx hb dX12_isPlain_112 (by decide) ?_
            refine lv_icmp_eq (tgt := 136) hx hb dX12_isPlain_113 (by decide) (fun q32 => ?_) (fun q32 => ?_)
            · replace hE := ite_t q32 hE
              refine lv_iconst (v := (0 : Int32)) hx hb dX12_isPlain_136 (by decide) ?_
              obtain ⟨c33, hE⟩ := ck hE
              obtain ⟨rfl, rfl⟩ := so2 hE
              exact s_zret hx hb hr c33 hlocks hW hS dX12_isPlain_137
            · replace hE := ite_f q32 hE
              refine s_aload_n hx hb dX12_isPlain_116 rfl (lv_at hl 2 rfl) ?_
              obtain ⟨x34, hx34, hE⟩ := bd hE
              refine s_gR hx hb hT u_X12 hown hK hW hx34 rfl (by decide) fl_X12_42 rfl dX12_isPlain_117 ?_
              refine lv_iload_n hx hb dX12_isPlain_120 rfl (lv_at hl 1 rfl) ?_
              obtain ⟨x35, hx35, hE⟩ := bd hE
              refine s_ldI hx hb hK hW hS hx35 dX12_isPlain_121 ?_
              refine s_aload_n hx hb dX12_isPlain_122 rfl (lv_at hl 2 rfl) ?_
              obtain ⟨x36, hx36, hE⟩ := bd hE
              refine s_gR hx hb hT u_X12 hown hK hW hx36 rfl (by decide) fl_X12_42 rfl dX12_isPlain_123 ?_
              refine lv_iload hx hb dX12_isPlain_126 (lv_at hl 0 rfl) ?_
              obtain ⟨x37, hx37, hE⟩ := bd hE
              refine s_ldI hx hb hK hW hS hx37 dX12_isPlain_128 ?_
              refine lv_icmp_ge (tgt := 136) hx hb dX12_isPlain_129 (by decide) (fun q38 => ?_) (fun q38 => ?_)
              · replace hE := ite_t q38 hE
                refine lv_iconst (v := (0 : Int32)) hx hb dX12_isPlain_136 (by decide) ?_
                obtain ⟨c39, hE⟩ := ck hE
                obtain ⟨rfl, rfl⟩ := so2 hE
                exact s_zret hx hb hr c39 hlocks hW hS dX12_isPlain_137
              · replace hE := ite_f q38 hE
                refine lv_iconst (v := (1 : Int32)) hx hb dX12_isPlain_132 (by decide) ?_
                refine lv_goto (tgt := 137) hx hb dX12_isPlain_133 (by decide) ?_
                obtain ⟨c40, hE⟩ := ck hE
                obtain ⟨rfl, rfl⟩ := so2 hE
                exact s_zret hx hb hr c40 hlocks hW hS dX12_isPlain_137
        · replace hE := ite_f w25 hE
          replace w10 := lv_neT w10 (a := 4) rfl
          replace w14 := lv_neT w14 (a := 5) rfl
          replace w19 := lv_neT w19 (a := 6) rfl
          replace w25 := lv_neT w25 (a := 7) rfl
          refine lv_tableOut (tgt := 138) hx hb dX12_isPlain_34 (by omega) (by decide) ?_
          refine s_aload_n hx hb dX12_isPlain_138 rfl (lv_at hl 2 rfl) ?_
          refine s_aload_n hx hb dX12_isPlain_139 rfl (lv_at hl 2 rfl) ?_
          obtain ⟨x41, hx41, hE⟩ := bd hE
          refine s_gR hx hb hT u_X12 hown hK hW hx41 rfl (by decide) fl_X12_13 rfl dX12_isPlain_140 ?_
          refine lv_iload_n hx hb dX12_isPlain_143 rfl (lv_at hl 3 rfl) ?_
          obtain ⟨x42, hx42, hE⟩ := bd hE
          refine s_ldI hx hb hK hW hS hx42 dX12_isPlain_144 ?_
          refine lv_iload_n hx hb dX12_isPlain_145 rfl (lv_at hl 1 rfl) ?_
          refine lv_iload_n hx hb dX12_isPlain_146 rfl (lv_at hl 4 rfl) ?_
          obtain ⟨c43, hE⟩ := ck hE
          obtain ⟨x44, f45, hx44, hE⟩ := bd2_of hE
          refine s_callV (As := [.int x42, .int x2, .int u2]) (rest := []) CF hK hW hS (S_X12_valueOf l G F hx44) c43 rfl gv_X12_392 hd_X12_valueOf ⟨Nat.le_of_ble_eq_true rfl, Nat.le_of_ble_eq_true rfl⟩ rfl hl.1 rfl (Nat.le_of_ble_eq_true rfl) dX12_isPlain_147 ⟨Nat.le_refl _, Nat.le_refl _⟩ (fun H locs hW hS => ?_)
          refine lv_istore (lv' := [(5, .int x44), (4, .int x4), (3, .int x2), (0, rr G u0), (1, .int u1), (2, .int u2)]) hx hb dX12_isPlain_150 hl (by decide) rfl (fun ls hl => ?_)
          refine s_aload_n hx hb dX12_isPlain_152 rfl (lv_at hl 3 rfl) ?_
          obtain ⟨x46, hx46, hE⟩ := bd hE
          refine s_gR hx hb hT u_X12 hown hK hW hx46 rfl (by decide) fl_X12_13 rfl dX12_isPlain_153 ?_
          refine lv_iload_n hx hb dX12_isPlain_156 rfl (lv_at hl 4 rfl) ?_
          refine lv_iconst (v := (3 : Int32)) hx hb dX12_isPlain_157 (by decide) ?_
          refine lv_iadd hx hb dX12_isPlain_158 ?_
          obtain ⟨x47, hx47, hE⟩ := bd hE
          refine s_ldI hx hb hK hW hS hx47 dX12_isPlain_159 ?_
          refine lv_bipush (v := (60 : Int32)) hx hb dX12_isPlain_160 (by decide) ?_
          refine lv_icmp_ne (tgt := 180) hx hb dX12_isPlain_162 (by decide) (fun q48 => ?_) (fun q48 => ?_)
          · replace hE := ite_f q48 hE
            refine s_aload_n hx hb dX12_isPlain_180 rfl (lv_at hl 3 rfl) ?_
            obtain ⟨x49, hx49, hE⟩ := bd hE
            refine s_gR hx hb hT u_X12 hown hK hW hx49 rfl (by decide) fl_X12_13 rfl dX12_isPlain_181 ?_
            refine lv_iload_n hx hb dX12_isPlain_184 rfl (lv_at hl 4 rfl) ?_
            refine lv_iconst (v := (3 : Int32)) hx hb dX12_isPlain_185 (by decide) ?_
            refine lv_iadd hx hb dX12_isPlain_186 ?_
            obtain ⟨x50, hx50, hE⟩ := bd hE
            refine s_ldI hx hb hK hW hS hx50 dX12_isPlain_187 ?_
            refine lv_bipush (v := (61 : Int32)) hx hb dX12_isPlain_188 (by decide) ?_
            refine lv_icmp_ne (tgt := 208) hx hb dX12_isPlain_190 (by decide) (fun q51 => ?_) (fun q51 => ?_)
            · replace hE := ite_f q51 hE
              refine lv_iload hx hb dX12_isPlain_208 (lv_at hl 0 rfl) ?_
              refine lv_iload hx hb dX12_isPlain_210 (lv_at hl 1 rfl) ?_
              refine lv_icmp_le (tgt := 219) hx hb dX12_isPlain_212 (by decide) (fun q52 => ?_) (fun q52 => ?_)
              · replace hE := ite_t q52 hE
                refine lv_iconst (v := (0 : Int32)) hx hb dX12_isPlain_219 (by decide) ?_
                obtain ⟨c53, hE⟩ := ck hE
                obtain ⟨rfl, rfl⟩ := so2 hE
                exact s_zret hx hb hr c53 hlocks hW hS dX12_isPlain_220
              · replace hE := ite_f q52 hE
                refine lv_iconst (v := (1 : Int32)) hx hb dX12_isPlain_215 (by decide) ?_
                refine lv_goto (tgt := 220) hx hb dX12_isPlain_216 (by decide) ?_
                obtain ⟨c54, hE⟩ := ck hE
                obtain ⟨rfl, rfl⟩ := so2 hE
                exact s_zret hx hb hr c54 hlocks hW hS dX12_isPlain_220
            · replace hE := ite_t q51 hE
              refine lv_iload hx hb dX12_isPlain_193 (lv_at hl 0 rfl) ?_
              refine lv_iload hx hb dX12_isPlain_195 (lv_at hl 1 rfl) ?_
              refine lv_icmp_ne (tgt := 204) hx hb dX12_isPlain_197 (by decide) (fun q55 => ?_) (fun q55 => ?_)
              · replace hE := ite_f q55 hE
                refine lv_iconst (v := (0 : Int32)) hx hb dX12_isPlain_204 (by decide) ?_
                refine lv_goto (tgt := 220) hx hb dX12_isPlain_205 (by decide) ?_
                obtain ⟨c56, hE⟩ := ck hE
                obtain ⟨rfl, rfl⟩ := so2 hE
                exact s_zret hx hb hr c56 hlocks hW hS dX12_isPlain_220
              · replace hE := ite_t q55 hE
                refine lv_iconst (v := (1 : Int32)) hx hb dX12_isPlain_200 (by decide) ?_
                refine lv_goto (tgt := 220) hx hb dX12_isPlain_201 (by decide) ?_
                obtain ⟨c57, hE⟩ := ck hE
                obtain ⟨rfl, rfl⟩ := so2 hE
                exact s_zret hx hb hr c57 hlocks hW hS dX12_isPlain_220
          · replace hE := ite_t q48 hE
            refine lv_iload hx hb dX12_isPlain_165 (lv_at hl 0 rfl) ?_
            refine lv_iload hx hb dX12_isPlain_167 (lv_at hl 1 rfl) ?_
            refine lv_icmp_ge (tgt := 176) hx hb dX12_isPlain_169 (by decide) (fun q58 => ?_) (fun q58 => ?_)
            · replace hE := ite_t q58 hE
              refine lv_iconst (v := (0 : Int32)) hx hb dX12_isPlain_176 (by decide) ?_
              refine lv_goto (tgt := 220) hx hb dX12_isPlain_177 (by decide) ?_
              obtain ⟨c59, hE⟩ := ck hE
              obtain ⟨rfl, rfl⟩ := so2 hE
              exact s_zret hx hb hr c59 hlocks hW hS dX12_isPlain_220
            · replace hE := ite_f q58 hE
              refine lv_iconst (v := (1 : Int32)) hx hb dX12_isPlain_172 (by decide) ?_
              refine lv_goto (tgt := 220) hx hb dX12_isPlain_173 (by decide) ?_
              obtain ⟨c60, hE⟩ := ck hE
              obtain ⟨rfl, rfl⟩ := so2 hE
              exact s_zret hx hb hr c60 hlocks hW hS dX12_isPlain_220
set_option maxHeartbeats 4000000 in
set_option maxRecDepth 100000 in
theorem SG_2 (l : Launch) (G : GG) (F : Nat) : ∀ (d : Nat), (∀ (u0 : Option Nat) (u1 : Int32) (u2 : Int32) (f : Hp) (r : Int32) (f' : Hp) (n : Nat), mg_2 F d 0 u0 u1 u2 f = some (r, f') → Ctr l G yX12_isSo cX12_isSo 6 (some .boolean) (5 + d * 1) (115 + d * 25) [rr G u0, .int u1, .int u2] f n (some (.int r)) f' n 0 0) := by
  intro d
  induction d with
  | zero =>
    · intro u0 u1 u2 f r f' n hE; cases (show (none : Option (Int32 × Hp)) = some (r, f') from hE)
  | succ d ihd =>
    have ihg0 := ihd
    · intro u0 u1 u2 f r f' n hE
      replace hE : b_X12_isSo F (mg_2 F d) u0 u1 u2 f = some (r, f') := hE
      refine Met.ofW (cc := cX12_isSo) (maxL := 6) (ret := (some .boolean)) (by decide) rfl ?_
      intro p e s m args below meth c s₁ B hml hv
      obtain ⟨rfl, hK, hW⟩ := hv
      have hx := B.exec
      have hb := B.bytes
      have hr := B.returns
      have hts := atoms_spec (ws := wsO yX12_isSo cX12_isSo 6 (some .boolean)) B.pre
      have hT : ∀ w ∈ TB, w.before [rr G u0, .int u1, .int u2].toArray s = true := fun w hw => hts w (List.mem_cons_of_mem _ hw)
      have hown : s.vm.findClass RX12 = some m.cls := findClass_of_methodNamed B.named
      have hlocks := B.notSynchronized
      have CF : CallFix p m c cX12_isSo 6 s [rr G u0, .int u1, .int u2].toArray TB RX12 := ⟨hx, hb, hml, hown, hT⟩
      have hS : va_S (WA G) s.heap s.heap [] := va_S.rf
      have hl : lv_has (lg_sl ([rr G u0, .int u1, .int u2]) ++ List.replicate (6 - (lg_sl ([rr G u0, .int u1, .int u2])).length) Slot.unset).toArray 6 [(0, rr G u0), (1, .int u1), (2, .int u2)] := by cases u0 <;> exact lv_entry _ (Nat.le_of_ble_eq_true rfl)
      rw [lg_entry_eq]
      generalize (lg_sl ([rr G u0, .int u1, .int u2]) ++ List.replicate (6 - (lg_sl ([rr G u0, .int u1, .int u2])).length) Slot.unset).toArray = ls at hl ⊢
      refine lv_sipush (v := (172 : Int32)) hx hb dX12_isSo_0 (by decide) ?_
      refine lv_iconst (v := (4 : Int32)) hx hb dX12_isSo_3 (by decide) ?_
      refine lv_iload_n hx hb dX12_isSo_4 rfl (lv_at hl 1 rfl) ?_
      refine lv_imul hx hb dX12_isSo_5 ?_
      refine lv_iadd hx hb dX12_isSo_6 ?_
      refine lv_topi (fun y1 ey1 => ?_)
      replace hE := nm_o ey1 hE
      refine lv_istore_n (i := 3) (lv' := [(3, .int y1), (0, rr G u0), (1, .int u1), (2, .int u2)]) hx hb dX12_isSo_7 rfl hl (by decide) rfl (fun ls hl => ?_)
      refine s_aload_n hx hb dX12_isSo_8 rfl (lv_at hl 1 rfl) ?_
      obtain ⟨x2, hx2, hE⟩ := bd hE
      refine s_gR hx hb hT u_X12 hown hK hW hx2 rfl (by decide) fl_X12_13 rfl dX12_isSo_9 ?_
      refine lv_iload_n hx hb dX12_isSo_12 rfl (lv_at hl 0 rfl) ?_
      refine lv_iconst (v := (1 : Int32)) hx hb dX12_isSo_13 (by decide) ?_
      refine lv_iadd hx hb dX12_isSo_14 ?_
      obtain ⟨x3, hx3, hE⟩ := bd hE
      refine s_ldI hx hb hK hW hS hx3 dX12_isSo_15 ?_
      refine lv_istore (lv' := [(4, .int x3), (3, .int y1), (0, rr G u0), (1, .int u1), (2, .int u2)]) hx hb dX12_isSo_16 hl (by decide) rfl (fun ls hl => ?_)
      refine s_aload_n hx hb dX12_isSo_18 rfl (lv_at hl 2 rfl) ?_
      obtain ⟨x4, hx4, hE⟩ := bd hE
      refine s_gR hx hb hT u_X12 hown hK hW hx4 rfl (by decide) fl_X12_13 rfl dX12_isSo_19 ?_
      refine lv_iload_n hx hb dX12_isSo_22 rfl (lv_at hl 1 rfl) ?_
      refine lv_iconst (v := (2 : Int32)) hx hb dX12_isSo_23 (by decide) ?_
      refine lv_iadd hx hb dX12_isSo_24 ?_
      obtain ⟨x5, hx5, hE⟩ := bd hE
      refine s_ldI hx hb hK hW hS hx5 dX12_isSo_25 ?_
      refine lv_istore (lv' := [(5, .int x5), (4, .int x3), (3, .int y1), (0, rr G u0), (1, .int u1), (2, .int u2)]) hx hb dX12_isSo_26 hl (by decide) rfl (fun ls hl => ?_)
      refine s_aload_n hx hb dX12_isSo_28 rfl (lv_at hl 3 rfl) ?_
      obtain ⟨x6, hx6, hE⟩ := bd hE
      refine s_gR hx hb hT u_X12 hown hK hW hx6 rfl (by decide) fl_X12_13 rfl dX12_isSo_29 ?_
      refine lv_iload_n hx hb dX12_isSo_32 rfl (lv_at hl 2 rfl) ?_
      obtain ⟨x7, hx7, hE⟩ := bd hE
      refine s_ldI hx hb hK hW hS hx7 dX12_isSo_33 ?_
      by_cases w8 : x7 = (1 : Int32)
      · replace hE := ite_t w8 hE
        have hi : (x7).toInt = 1 := by rw [w8]; rfl
        refine lv_tableIn (off := 26) (tgt := 60) hx hb dX12_isSo_34 (by rw [hi]; decide) (by rw [hi]; decide) (by rw [hi]; rfl) (by decide) ?_
        refine s_aload_n hx hb dX12_isSo_60 rfl (lv_at hl 3 rfl) ?_
        refine lv_iload hx hb dX12_isSo_61 (lv_at hl 1 rfl) ?_
        refine lv_iload_n hx hb dX12_isSo_63 rfl (lv_at hl 5 rfl) ?_
        obtain ⟨c9, hE⟩ := ck hE
        obtain ⟨x10, f11, hx10, hE⟩ := bd2_of hE
        refine s_callV (As := [.int x3, .int u2]) (rest := []) CF hK hW hS (ihg0 _ _ _ _ _ _ _ hx10) c9 rfl gv_X12_386 hd_X12_isSo ⟨show (5 + d * 1) + 1 ≤ 5 + (d + 1) * 1 by omega, show 8 + (6 + 11) + (115 + d * 25) ≤ 115 + (d + 1) * 25 by omega⟩ rfl hl.1 rfl (Nat.le_of_ble_eq_true rfl) dX12_isSo_64 ⟨Nat.le_refl _, Nat.le_refl _⟩ (fun H locs hW hS => ?_)
        refine lv_if_ne (tgt := 74) hx hb dX12_isSo_67 (by decide) (fun q12 => ?_) (fun q12 => ?_)
        · replace hE := ite_f q12 hE
          refine lv_iconst (v := (0 : Int32)) hx hb dX12_isSo_74 (by decide) ?_
          obtain ⟨c13, hE⟩ := ck hE
          obtain ⟨rfl, rfl⟩ := so2 hE
          exact s_zret hx hb hr c13 hlocks hW hS dX12_isSo_75
        · replace hE := ite_t q12 hE
          refine lv_iconst (v := (1 : Int32)) hx hb dX12_isSo_70 (by decide) ?_
          refine lv_goto (tgt := 75) hx hb dX12_isSo_71 (by decide) ?_
          obtain ⟨c14, hE⟩ := ck hE
          obtain ⟨rfl, rfl⟩ := so2 hE
          exact s_zret hx hb hr c14 hlocks hW hS dX12_isSo_75
      · replace hE := ite_f w8 hE
        by_cases w15 : x7 = (2 : Int32)
        · replace hE := ite_t w15 hE
          have hi : (x7).toInt = 2 := by rw [w15]; rfl
          refine lv_tableIn (off := 42) (tgt := 76) hx hb dX12_isSo_34 (by rw [hi]; decide) (by rw [hi]; decide) (by rw [hi]; rfl) (by decide) ?_
          refine s_aload_n hx hb dX12_isSo_76 rfl (lv_at hl 3 rfl) ?_
          refine lv_iload hx hb dX12_isSo_77 (lv_at hl 1 rfl) ?_
          refine lv_iload_n hx hb dX12_isSo_79 rfl (lv_at hl 5 rfl) ?_
          obtain ⟨c16, hE⟩ := ck hE
          obtain ⟨x17, f18, hx17, hE⟩ := bd2_of hE
          refine s_callV (As := [.int x3, .int u2]) (rest := []) CF hK hW hS (ihg0 _ _ _ _ _ _ _ hx17) c16 rfl gv_X12_386 hd_X12_isSo ⟨show (5 + d * 1) + 1 ≤ 5 + (d + 1) * 1 by omega, show 8 + (6 + 11) + (115 + d * 25) ≤ 115 + (d + 1) * 25 by omega⟩ rfl hl.1 rfl (Nat.le_of_ble_eq_true rfl) dX12_isSo_80 ⟨Nat.le_refl _, Nat.le_refl _⟩ (fun H locs hW hS => ?_)
          refine lv_if_eq (tgt := 100) hx hb dX12_isSo_83 (by decide) (fun q19 => ?_) (fun q19 => ?_)
          · replace hE := ite_t q19 hE
            refine lv_iconst (v := (0 : Int32)) hx hb dX12_isSo_100 (by decide) ?_
            obtain ⟨c20, hE⟩ := ck hE
            obtain ⟨rfl, rfl⟩ := so2 hE
            exact s_zret hx hb hr c20 hlocks hW hS dX12_isSo_101
          · replace hE := ite_f q19 hE
            refine s_aload_n hx hb dX12_isSo_86 rfl (lv_at hl 3 rfl) ?_
            refine lv_iload hx hb dX12_isSo_87 (lv_at hl 0 rfl) ?_
            refine lv_iload_n hx hb dX12_isSo_89 rfl (lv_at hl 5 rfl) ?_
            obtain ⟨c21, hE⟩ := ck hE
            obtain ⟨x22, f23, hx22, hE⟩ := bd2_of hE
            refine s_callV (As := [.int x5, .int u2]) (rest := []) CF hK hW hS (ihg0 _ _ _ _ _ _ _ hx22) c21 rfl gv_X12_386 hd_X12_isSo ⟨show (5 + d * 1) + 1 ≤ 5 + (d + 1) * 1 by omega, show 8 + (6 + 11) + (115 + d * 25) ≤ 115 + (d + 1) * 25 by omega⟩ rfl hl.1 rfl (Nat.le_of_ble_eq_true rfl) dX12_isSo_90 ⟨Nat.le_refl _, Nat.le_refl _⟩ (fun H locs hW hS => ?_)
            refine lv_if_eq (tgt := 100) hx hb dX12_isSo_93 (by decide) (fun q24 => ?_) (fun q24 => ?_)
            · replace hE := ite_t q24 hE
              refine lv_iconst (v := (0 : Int32)) hx hb dX12_isSo_100 (by decide) ?_
              obtain ⟨c25, hE⟩ := ck hE
              obtain ⟨rfl, rfl⟩ := so2 hE
              exact s_zret hx hb hr c25 hlocks hW hS dX12_isSo_101
            · replace hE := ite_f q24 hE
              refine lv_iconst (v := (1 : Int32)) hx hb dX12_isSo_96 (by decide) ?_
              refine lv_goto (tgt := 101) hx hb dX12_isSo_97 (by decide) ?_
              obtain ⟨c26, hE⟩ := ck hE
              obtain ⟨rfl, rfl⟩ := so2 hE
              exact s_zret hx hb hr c26 hlocks hW hS dX12_isSo_101
        · replace hE := ite_f w15 hE
          by_cases w27 : x7 = (3 : Int32)
          · replace hE := ite_t w27 hE
            have hi : (x7).toInt = 3 := by rw [w27]; rfl
            refine lv_tableIn (off := 68) (tgt := 102) hx hb dX12_isSo_34 (by rw [hi]; decide) (by rw [hi]; decide) (by rw [hi]; rfl) (by decide) ?_
            refine s_aload_n hx hb dX12_isSo_102 rfl (lv_at hl 3 rfl) ?_
            refine lv_iload hx hb dX12_isSo_103 (lv_at hl 1 rfl) ?_
            refine lv_iload_n hx hb dX12_isSo_105 rfl (lv_at hl 5 rfl) ?_
            obtain ⟨c28, hE⟩ := ck hE
            obtain ⟨x29, f30, hx29, hE⟩ := bd2_of hE
            refine s_callV (As := [.int x3, .int u2]) (rest := []) CF hK hW hS (ihg0 _ _ _ _ _ _ _ hx29) c28 rfl gv_X12_386 hd_X12_isSo ⟨show (5 + d * 1) + 1 ≤ 5 + (d + 1) * 1 by omega, show 8 + (6 + 11) + (115 + d * 25) ≤ 115 + (d + 1) * 25 by omega⟩ rfl hl.1 rfl (Nat.le_of_ble_eq_true rfl) dX12_isSo_106 ⟨Nat.le_refl _, Nat.le_refl _⟩ (fun H locs hW hS => ?_)
            refine lv_if_ne (tgt := 122) hx hb dX12_isSo_109 (by decide) (fun q31 => ?_) (fun q31 => ?_)
            · replace hE := ite_f q31 hE
              refine lv_iconst (v := (1 : Int32)) hx hb dX12_isSo_122 (by decide) ?_
              refine lv_goto (tgt := 127) hx hb dX12_isSo_123 (by decide) ?_
              obtain ⟨c32, hE⟩ := ck hE
              obtain ⟨rfl, rfl⟩ := so2 hE
              exact s_zret hx hb hr c32 hlocks hW hS dX12_isSo_127
            · replace hE := ite_t q31 hE
              refine s_aload_n hx hb dX12_isSo_112 rfl (lv_at hl 3 rfl) ?_
              refine lv_iload hx hb dX12_isSo_113 (lv_at hl 0 rfl) ?_
              refine lv_iload_n hx hb dX12_isSo_115 rfl (lv_at hl 5 rfl) ?_
              obtain ⟨c33, hE⟩ := ck hE
              obtain ⟨x34, f35, hx34, hE⟩ := bd2_of hE
              refine s_callV (As := [.int x5, .int u2]) (rest := []) CF hK hW hS (ihg0 _ _ _ _ _ _ _ hx34) c33 rfl gv_X12_386 hd_X12_isSo ⟨show (5 + d * 1) + 1 ≤ 5 + (d + 1) * 1 by omega, show 8 + (6 + 11) + (115 + d * 25) ≤ 115 + (d + 1) * 25 by omega⟩ rfl hl.1 rfl (Nat.le_of_ble_eq_true rfl) dX12_isSo_116 ⟨Nat.le_refl _, Nat.le_refl _⟩ (fun H locs hW hS => ?_)
              refine lv_if_eq (tgt := 126) hx hb dX12_isSo_119 (by decide) (fun q36 => ?_) (fun q36 => ?_)
              · replace hE := ite_t q36 hE
                refine lv_iconst (v := (0 : Int32)) hx hb dX12_isSo_126 (by decide) ?_
                obtain ⟨c37, hE⟩ := ck hE
                obtain ⟨rfl, rfl⟩ := so2 hE
                exact s_zret hx hb hr c37 hlocks hW hS dX12_isSo_127
              · replace hE := ite_f q36 hE
                refine lv_iconst (v := (1 : Int32)) hx hb dX12_isSo_122 (by decide) ?_
                refine lv_goto (tgt := 127) hx hb dX12_isSo_123 (by decide) ?_
                obtain ⟨c38, hE⟩ := ck hE
                obtain ⟨rfl, rfl⟩ := so2 hE
                exact s_zret hx hb hr c38 hlocks hW hS dX12_isSo_127
          · replace hE := ite_f w27 hE
            replace w8 := lv_neT w8 (a := 1) rfl
            replace w15 := lv_neT w15 (a := 2) rfl
            replace w27 := lv_neT w27 (a := 3) rfl
            refine lv_tableOut (tgt := 128) hx hb dX12_isSo_34 (by omega) (by decide) ?_
            refine s_aload_n hx hb dX12_isSo_128 rfl (lv_at hl 3 rfl) ?_
            refine lv_iload_n hx hb dX12_isSo_129 rfl (lv_at hl 2 rfl) ?_
            refine lv_iload_n hx hb dX12_isSo_130 rfl (lv_at hl 5 rfl) ?_
            obtain ⟨c39, hE⟩ := ck hE
            obtain ⟨x40, f41, hx40, hE⟩ := bd2_of hE
            refine s_callV (As := [.int y1, .int u2]) (rest := []) CF hK hW hS (S_X12_isPlain l G F hx40) c39 rfl gv_X12_389 hd_X12_isPlain ⟨show 5 ≤ 5 + (d + 1) * 1 by omega, show 115 ≤ 115 + (d + 1) * 25 by omega⟩ rfl hl.1 rfl (Nat.le_of_ble_eq_true rfl) dX12_isSo_131 ⟨Nat.le_refl _, Nat.le_refl _⟩ (fun H locs hW hS => ?_)
            obtain ⟨c42, hE⟩ := ck hE
            obtain ⟨rfl, rfl⟩ := so2 hE
            exact s_zret hx hb hr c42 hlocks hW hS dX12_isSo_134
theorem S_X12_isSo (l : Launch) (G : GG) (F d : Nat) {u0 : Option Nat} {u1 : Int32} {u2 : Int32} {f : Hp} {r : Int32} {f' : Hp} {n : Nat} (hE : m_X12_isSo F d u0 u1 u2 f = some (r, f')) : Ctr l G yX12_isSo cX12_isSo 6 (some .boolean) (5 + d * 1) (115 + d * 25) [rr G u0, .int u1, .int u2] f n (some (.int r)) f' n 0 0 := (SG_2 l G F d) _ _ _ _ _ _ _ hE
set_option maxHeartbeats 4000000 in
set_option maxRecDepth 100000 in
theorem S_X12_join (l : Launch) (G : GG) (F : Nat) {u0 : Option Nat} {u1 : Int32} {u2 : Int32} {u3 : Int32} {f : Hp} {r : Int32} {f' : Hp} {n : Nat} (hE : m_X12_join F u0 u1 u2 u3 f = some (r, f')) : Ctr l G yX12_join cX12_join 8 (some .int) 4 92 [rr G u0, .int u1, .int u2, .int u3] f n (some (.int r)) f' n 0 0 := by
  refine Met.ofW (cc := cX12_join) (maxL := 8) (ret := (some .int)) (by decide) rfl ?_
  intro p e s m args below meth c s₁ B hml hv
  obtain ⟨rfl, hK, hW⟩ := hv
  have hx := B.exec
  have hb := B.bytes
  have hr := B.returns
  have hts := atoms_spec (ws := wsO yX12_join cX12_join 8 (some .int)) B.pre
  have hT : ∀ w ∈ TB, w.before [rr G u0, .int u1, .int u2, .int u3].toArray s = true := fun w hw => hts w (List.mem_cons_of_mem _ hw)
  have hown : s.vm.findClass RX12 = some m.cls := findClass_of_methodNamed B.named
  have hlocks := B.notSynchronized
  have CF : CallFix p m c cX12_join 8 s [rr G u0, .int u1, .int u2, .int u3].toArray TB RX12 := ⟨hx, hb, hml, hown, hT⟩
  have hS : va_S (WA G) s.heap s.heap [] := va_S.rf
  have hl : lv_has (lg_sl ([rr G u0, .int u1, .int u2, .int u3]) ++ List.replicate (8 - (lg_sl ([rr G u0, .int u1, .int u2, .int u3])).length) Slot.unset).toArray 8 [(0, rr G u0), (1, .int u1), (2, .int u2), (3, .int u3)] := by cases u0 <;> exact lv_entry _ (Nat.le_of_ble_eq_true rfl)
  rw [lg_entry_eq]
  generalize (lg_sl ([rr G u0, .int u1, .int u2, .int u3]) ++ List.replicate (8 - (lg_sl ([rr G u0, .int u1, .int u2, .int u3])).length) Slot.unset).toArray = ls at hl ⊢
  have hC127 : ∀ (v3 : Int32) (v4 : Int32) (v5 : Int32) (fa : Hp) (H : Heap) (locs : List Loc) (ls : Array Slot), m_X12_join_B127 F v3 v4 v5 fa = some (r, f') → Wd G fa n H → va_S (WA G) s.heap H locs → lv_has ls 8 [(3, .int v3), (4, .int v4), (5, .int v5)] → W p l e (headSpec (wsO yX12_join cX12_join 8 (some .int)) { frames := 4, cells := 0, slots := 0, locals := 92 }).room s m [rr G u0, .int u1, .int u2, .int u3].toArray below meth c H locs 0 0 (MQ below (Qcn G (some (.int r)) f' n) [rr G u0, .int u1, .int u2, .int u3].toArray s 0 0 (WA G)) (F0 m 127 ls []) := by
    intro v3 v4 v5 fa H locs ls hE hW hS hl
    refine lv_iload_n hx hb dX12_join_127 rfl (lv_at hl 0 rfl) ?_
    refine lv_if_ne (tgt := 136) hx hb dX12_join_128 (by decide) (fun q23 => ?_) (fun q23 => ?_)
    · replace hE := ite_f q23 hE
      refine lv_iload hx hb dX12_join_136 (lv_at hl 2 rfl) ?_
      obtain ⟨rfl, rfl⟩ := so2 hE
      exact s_iret hx hb hr hlocks hW hS dX12_join_138
    · replace hE := ite_t q23 hE
      refine lv_iload hx hb dX12_join_131 (lv_at hl 1 rfl) ?_
      refine lv_goto (tgt := 138) hx hb dX12_join_133 (by decide) ?_
      obtain ⟨rfl, rfl⟩ := so2 hE
      exact s_iret hx hb hr hlocks hW hS dX12_join_138
  have hC45 : ∀ (k45 : Nat), ∀ (v0 : Option Nat) (v1 : Int32) (v2 : Int32) (v3 : Int32) (v4 : Int32) (v5 : Int32) (v6 : Int32) (fa : Hp) (H : Heap) (locs : List Loc) (ls : Array Slot), m_X12_join_L45 F k45 v0 v1 v2 v3 v4 v5 v6 fa = some (r, f') → Wd G fa n H → va_S (WA G) s.heap H locs → lv_has ls 8 [(0, rr G v0), (1, .int v1), (2, .int v2), (3, .int v3), (4, .int v4), (5, .int v5), (6, .int v6)] → W p l e (headSpec (wsO yX12_join cX12_join 8 (some .int)) { frames := 4, cells := 0, slots := 0, locals := 92 }).room s m [rr G u0, .int u1, .int u2, .int u3].toArray below meth c H locs 0 0 (MQ below (Qcn G (some (.int r)) f' n) [rr G u0, .int u1, .int u2, .int u3].toArray s 0 0 (WA G)) (F0 m 45 ls []) := by
    intro k45
    induction k45 with
    | zero => intro v0 v1 v2 v3 v4 v5 v6 fa H locs ls hE _ _ _; cases (show (none : Option ((Int32) × Hp)) = some (r, f') from hE)
    | succ k45 ih45 =>
      intro v0 v1 v2 v3 v4 v5 v6 fa H locs ls hE hW hS hl
      replace hE : m_X12_join_b45 F (m_X12_join_L45 F k45) v0 v1 v2 v3 v4 v5 v6 fa = some (r, f') := hE
      refine lv_iload hx hb dX12_join_45 (lv_at hl 6 rfl) ?_
      refine s_aload_n hx hb dX12_join_47 rfl (lv_at hl 0 rfl) ?_
      obtain ⟨c1, hE⟩ := ck hE
      obtain ⟨x2, hx2, hE⟩ := bd hE
      refine s_callV (As := []) (rest := [.int v6]) CF hK hW hS (S_X12_orders l G F hx2) c1 rfl gv_X12_251 hd_X12_orders ⟨Nat.le_of_ble_eq_true rfl, Nat.le_of_ble_eq_true rfl⟩ rfl hl.1 rfl (Nat.le_of_ble_eq_true rfl) dX12_join_48 ⟨Nat.le_refl _, Nat.le_refl _⟩ (fun H locs hW hS => ?_)
      refine lv_icmp_ge (tgt := 127) hx hb dX12_join_51 (by decide) (fun q3 => ?_) (fun q3 => ?_)
      · replace hE := ite_t q3 hE
        exact hC127 _ _ _ _ _ _ _ hE hW hS (lv_sub hl [3, 4, 5] rfl)
      · replace hE := ite_f q3 hE
        refine s_aload_n hx hb dX12_join_54 rfl (lv_at hl 0 rfl) ?_
        refine lv_iload hx hb dX12_join_55 (lv_at hl 6 rfl) ?_
        refine s_aload_n hx hb dX12_join_57 rfl (lv_at hl 0 rfl) ?_
        obtain ⟨x4, hx4, hE⟩ := bd hE
        refine s_gR hx hb hT u_X12 hown hK hW hx4 rfl (by decide) fl_X12_42 rfl dX12_join_58 ?_
        obtain ⟨c5, hE⟩ := ck hE
        obtain ⟨f6, hf6, hE⟩ := bd hE
        refine s_callV (As := [.int v6, rr G x4]) (rest := []) CF hK hW hS (S_X12_layOrder l G F hf6) c5 rfl gv_X12_292 hd_X12_layOrder ⟨Nat.le_of_ble_eq_true rfl, Nat.le_of_ble_eq_true rfl⟩ rfl hl.1 rfl (Nat.le_of_ble_eq_true rfl) dX12_join_61 ⟨Nat.le_refl _, Nat.le_refl _⟩ (fun H locs hW hS => ?_)
        refine s_aload_n hx hb dX12_join_64 rfl (lv_at hl 0 rfl) ?_
        refine lv_iload_n hx hb dX12_join_65 rfl (lv_at hl 1 rfl) ?_
        refine s_aload_n hx hb dX12_join_66 rfl (lv_at hl 0 rfl) ?_
        obtain ⟨x7, hx7, hE⟩ := bd hE
        refine s_gR hx hb hT u_X12 hown hK hW hx7 rfl (by decide) fl_X12_45 rfl dX12_join_67 ?_
        obtain ⟨c8, hE⟩ := ck hE
        obtain ⟨f9, hf9, hE⟩ := bd hE
        refine s_callV (As := [.int v1, rr G x7]) (rest := []) CF hK hW hS (S_X12_layCopy l G F hf9) c8 rfl gv_X12_265 hd_X12_layCopy ⟨Nat.le_of_ble_eq_true rfl, Nat.le_of_ble_eq_true rfl⟩ rfl hl.1 rfl (Nat.le_of_ble_eq_true rfl) dX12_join_70 ⟨Nat.le_refl _, Nat.le_refl _⟩ (fun H locs hW hS => ?_)
        refine s_aload_n hx hb dX12_join_73 rfl (lv_at hl 0 rfl) ?_
        obtain ⟨c10, hE⟩ := ck hE
        obtain ⟨x11, hx11, hE⟩ := bd hE
        refine s_callV (As := []) (rest := []) CF hK hW hS (S_X12_steps l G F hx11) c10 rfl gv_X12_259 hd_X12_steps ⟨Nat.le_of_ble_eq_true rfl, Nat.le_of_ble_eq_true rfl⟩ rfl hl.1 rfl (Nat.le_of_ble_eq_true rfl) dX12_join_74 ⟨Nat.le_refl _, Nat.le_refl _⟩ (fun H locs hW hS => ?_)
        refine lv_istore (lv' := [(7, .int x11), (0, rr G v0), (1, .int v1), (2, .int v2), (3, .int v3), (4, .int v4), (5, .int v5), (6, .int v6)]) hx hb dX12_join_77 hl (by decide) rfl (fun ls hl => ?_)
        refine s_aload_n hx hb dX12_join_79 rfl (lv_at hl 1 rfl) ?_
        refine lv_iload_n hx hb dX12_join_80 rfl (lv_at hl 3 rfl) ?_
        refine s_aload_n hx hb dX12_join_81 rfl (lv_at hl 1 rfl) ?_
        obtain ⟨x12, hx12, hE⟩ := bd hE
        refine s_gR hx hb hT u_X12 hown hK hW hx12 rfl (by decide) fl_X12_45 rfl dX12_join_82 ?_
        obtain ⟨c13, hE⟩ := ck hE
        obtain ⟨f14, hf14, hE⟩ := bd hE
        refine s_callV (As := [.int v2, rr G x12]) (rest := []) CF hK hW hS (S_X12_layCopy l G F hf14) c13 rfl gv_X12_265 hd_X12_layCopy ⟨Nat.le_of_ble_eq_true rfl, Nat.le_of_ble_eq_true rfl⟩ rfl hl.1 rfl (Nat.le_of_ble_eq_true rfl) dX12_join_85 ⟨Nat.le_refl _, Nat.le_refl _⟩ (fun H locs hW hS => ?_)
        refine lv_iload hx hb dX12_join_88 (lv_at hl 0 rfl) ?_
        refine s_aload_n hx hb dX12_join_90 rfl (lv_at hl 1 rfl) ?_
        obtain ⟨c15, hE⟩ := ck hE
        obtain ⟨x16, hx16, hE⟩ := bd hE
        refine s_callV (As := []) (rest := [.int x11]) CF hK hW hS (S_X12_steps l G F hx16) c15 rfl gv_X12_259 hd_X12_steps ⟨Nat.le_of_ble_eq_true rfl, Nat.le_of_ble_eq_true rfl⟩ rfl hl.1 rfl (Nat.le_of_ble_eq_true rfl) dX12_join_91 ⟨Nat.le_refl _, Nat.le_refl _⟩ (fun H locs hW hS => ?_)
        refine lv_iadd hx hb dX12_join_94 ?_
        refine lv_topi (fun y17 ey17 => ?_)
        replace hE := nm_o ey17 hE
        refine lv_istore (lv' := [(7, .int y17), (0, rr G v0), (1, .int v1), (2, .int v2), (3, .int v3), (4, .int v4), (5, .int v5), (6, .int v6)]) hx hb dX12_join_95 hl (by decide) rfl (fun ls hl => ?_)
        refine lv_iload hx hb dX12_join_97 (lv_at hl 5 rfl) ?_
        refine lv_iconst (v := (-1 : Int32)) hx hb dX12_join_99 (by decide) ?_
        refine lv_icmp_eq (tgt := 113) hx hb dX12_join_100 (by decide) (fun q18 => ?_) (fun q18 => ?_)
        · replace hE := ite_t q18 hE
          refine lv_iload hx hb dX12_join_113 (lv_at hl 7 rfl) ?_
          refine lv_istore (lv' := [(4, .int v6), (7, .int y17), (0, rr G v0), (1, .int v1), (2, .int v2), (3, .int v3), (5, .int v5), (6, .int v6)]) hx hb dX12_join_115 hl (by decide) rfl (fun ls hl => ?_)
          refine lv_iload hx hb dX12_join_117 (lv_at hl 1 rfl) ?_
          refine lv_istore (lv' := [(5, .int y17), (4, .int v6), (7, .int y17), (0, rr G v0), (1, .int v1), (2, .int v2), (3, .int v3), (6, .int v6)]) hx hb dX12_join_119 hl (by decide) rfl (fun ls hl => ?_)
          obtain ⟨y19, ey19⟩ : ∃ y : Int32, y = v6 + (1 : Int32) := ⟨_, rfl⟩
          replace hE := nm_o ey19 hE
          refine lv_iinc (k := 7) (v := y19) (lv' := [(6, .int y19), (5, .int y17), (4, .int v6), (7, .int y17), (0, rr G v0), (1, .int v1), (2, .int v2), (3, .int v3)]) hx hb dX12_join_121 hl rfl (by rw [ey19]; rfl) (by decide) rfl (fun ls hl => ?_)
          refine lv_goto (tgt := 45) hx hb dX12_join_124 (by decide) ?_
          exact ih45 _ _ _ _ _ _ _ _ _ _ _ hE hW hS (lv_sub hl [4, 5, 6, 7, 2, 1, 0] rfl)
        · replace hE := ite_f q18 hE
          refine lv_iload hx hb dX12_join_103 (lv_at hl 0 rfl) ?_
          refine lv_iload hx hb dX12_join_105 (lv_at hl 6 rfl) ?_
          refine lv_icmp_lt (tgt := 113) hx hb dX12_join_107 (by decide) (fun q20 => ?_) (fun q20 => ?_)
          · replace hE := ite_t q20 hE
            refine lv_iload hx hb dX12_join_113 (lv_at hl 7 rfl) ?_
            refine lv_istore (lv' := [(4, .int v6), (7, .int y17), (0, rr G v0), (1, .int v1), (2, .int v2), (3, .int v3), (5, .int v5), (6, .int v6)]) hx hb dX12_join_115 hl (by decide) rfl (fun ls hl => ?_)
            refine lv_iload hx hb dX12_join_117 (lv_at hl 1 rfl) ?_
            refine lv_istore (lv' := [(5, .int y17), (4, .int v6), (7, .int y17), (0, rr G v0), (1, .int v1), (2, .int v2), (3, .int v3), (6, .int v6)]) hx hb dX12_join_119 hl (by decide) rfl (fun ls hl => ?_)
            obtain ⟨y21, ey21⟩ : ∃ y : Int32, y = v6 + (1 : Int32) := ⟨_, rfl⟩
            replace hE := nm_o ey21 hE
            refine lv_iinc (k := 7) (v := y21) (lv' := [(6, .int y21), (5, .int y17), (4, .int v6), (7, .int y17), (0, rr G v0), (1, .int v1), (2, .int v2), (3, .int v3)]) hx hb dX12_join_121 hl rfl (by rw [ey21]; rfl) (by decide) rfl (fun ls hl => ?_)
            refine lv_goto (tgt := 45) hx hb dX12_join_124 (by decide) ?_
            exact ih45 _ _ _ _ _ _ _ _ _ _ _ hE hW hS (lv_sub hl [4, 5, 6, 7, 2, 1, 0] rfl)
          · replace hE := ite_f q20 hE
            refine lv_goto (tgt := 121) hx hb dX12_join_110 (by decide) ?_
            obtain ⟨y22, ey22⟩ : ∃ y : Int32, y = v6 + (1 : Int32) := ⟨_, rfl⟩
            replace hE := nm_o ey22 hE
            refine lv_iinc (k := 7) (v := y22) (lv' := [(6, .int y22), (7, .int y17), (0, rr G v0), (1, .int v1), (2, .int v2), (3, .int v3), (4, .int v4), (5, .int v5)]) hx hb dX12_join_121 hl rfl (by rw [ey22]; rfl) (by decide) rfl (fun ls hl => ?_)
            refine lv_goto (tgt := 45) hx hb dX12_join_124 (by decide) ?_
            exact ih45 _ _ _ _ _ _ _ _ _ _ _ hE hW hS (lv_sub hl [2, 3, 4, 5, 6, 7, 0] rfl)
  refine s_aload_n hx hb dX12_join_0 rfl (lv_at hl 0 rfl) ?_
  refine lv_iconst (v := (0 : Int32)) hx hb dX12_join_1 (by decide) ?_
  obtain ⟨f24, hf24, hE⟩ := bd hE
  refine s_putI hx hb hT u_X12 tyX12 tyX12_ok nmX12 hown hK hW hS hf24 rfl (by decide) fl_X12_81 rfl (Or.inl rfl) rfl dX12_join_2 (fun H locs hW hS => ?_)
  refine s_aload_n hx hb dX12_join_5 rfl (lv_at hl 0 rfl) ?_
  obtain ⟨c25, hE⟩ := ck hE
  obtain ⟨f26, hf26, hE⟩ := bd hE
  refine s_callV (As := []) (rest := []) CF hK hW hS (S_X12_lay l G F hf26) c25 rfl gv_X12_164 hd_X12_lay ⟨Nat.le_of_ble_eq_true rfl, Nat.le_of_ble_eq_true rfl⟩ rfl hl.1 rfl (Nat.le_of_ble_eq_true rfl) dX12_join_6 ⟨Nat.le_refl _, Nat.le_refl _⟩ (fun H locs hW hS => ?_)
  refine s_aload_n hx hb dX12_join_9 rfl (lv_at hl 0 rfl) ?_
  refine lv_iload_n hx hb dX12_join_10 rfl (lv_at hl 1 rfl) ?_
  obtain ⟨c27, hE⟩ := ck hE
  obtain ⟨x28, hx28, hE⟩ := bd hE
  refine s_callV (As := [.int u1]) (rest := []) CF hK hW hS (S_X12_isCopy l G F hx28) c27 rfl gv_X12_241 hd_X12_isCopy ⟨Nat.le_of_ble_eq_true rfl, Nat.le_of_ble_eq_true rfl⟩ rfl hl.1 rfl (Nat.le_of_ble_eq_true rfl) dX12_join_11 ⟨Nat.le_refl _, Nat.le_refl _⟩ (fun H locs hW hS => ?_)
  refine lv_if_eq (tgt := 34) hx hb dX12_join_14 (by decide) (fun q29 => ?_) (fun q29 => ?_)
  · replace hE := ite_t q29 hE
    refine lv_iconst (v := (-1 : Int32)) hx hb dX12_join_34 (by decide) ?_
    obtain ⟨rfl, rfl⟩ := so2 hE
    exact s_iret hx hb hr hlocks hW hS dX12_join_35
  · replace hE := ite_f q29 hE
    refine s_aload_n hx hb dX12_join_17 rfl (lv_at hl 0 rfl) ?_
    refine lv_iload_n hx hb dX12_join_18 rfl (lv_at hl 2 rfl) ?_
    obtain ⟨c30, hE⟩ := ck hE
    obtain ⟨x31, hx31, hE⟩ := bd hE
    refine s_callV (As := [.int u2]) (rest := []) CF hK hW hS (S_X12_isCopy l G F hx31) c30 rfl gv_X12_241 hd_X12_isCopy ⟨Nat.le_of_ble_eq_true rfl, Nat.le_of_ble_eq_true rfl⟩ rfl hl.1 rfl (Nat.le_of_ble_eq_true rfl) dX12_join_19 ⟨Nat.le_refl _, Nat.le_refl _⟩ (fun H locs hW hS => ?_)
    refine lv_if_eq (tgt := 34) hx hb dX12_join_22 (by decide) (fun q32 => ?_) (fun q32 => ?_)
    · replace hE := ite_t q32 hE
      refine lv_iconst (v := (-1 : Int32)) hx hb dX12_join_34 (by decide) ?_
      obtain ⟨rfl, rfl⟩ := so2 hE
      exact s_iret hx hb hr hlocks hW hS dX12_join_35
    · replace hE := ite_f q32 hE
      refine lv_iload_n hx hb dX12_join_25 rfl (lv_at hl 3 rfl) ?_
      refine lv_iconst (v := (0 : Int32)) hx hb dX12_join_26 (by decide) ?_
      refine lv_iconst (v := (1 : Int32)) hx hb dX12_join_27 (by decide) ?_
      obtain ⟨x33, hx33, hE⟩ := bd hE
      refine s_callS (As := [.int u3, .int (0 : Int32), .int (1 : Int32)]) (rest := []) CF hK hW hS (S_X12_isIn l G F hx33) gs_X12_151 hd_X12_isIn.2 ⟨Nat.le_of_ble_eq_true rfl, Nat.le_of_ble_eq_true rfl⟩ rfl hl.1 rfl (Nat.le_of_ble_eq_true rfl) dX12_join_28 ⟨Nat.le_refl _, Nat.le_refl _⟩ (fun H locs hW hS => ?_)
      refine lv_if_ne (tgt := 36) hx hb dX12_join_31 (by decide) (fun q34 => ?_) (fun q34 => ?_)
      · replace hE := ite_f q34 hE
        refine lv_iconst (v := (-1 : Int32)) hx hb dX12_join_36 (by decide) ?_
        refine lv_istore (lv' := [(4, .int (-1 : Int32)), (0, rr G u0), (1, .int u1), (2, .int u2), (3, .int u3)]) hx hb dX12_join_37 hl (by decide) rfl (fun ls hl => ?_)
        refine lv_iconst (v := (0 : Int32)) hx hb dX12_join_39 (by decide) ?_
        refine lv_istore (lv' := [(5, .int (0 : Int32)), (4, .int (-1 : Int32)), (0, rr G u0), (1, .int u1), (2, .int u2), (3, .int u3)]) hx hb dX12_join_40 hl (by decide) rfl (fun ls hl => ?_)
        refine lv_iconst (v := (0 : Int32)) hx hb dX12_join_42 (by decide) ?_
        refine lv_istore (lv' := [(6, .int (0 : Int32)), (5, .int (0 : Int32)), (4, .int (-1 : Int32)), (0, rr G u0), (1, .int u1), (2, .int u2), (3, .int u3)]) hx hb dX12_join_43 hl (by decide) rfl (fun ls hl => ?_)
        exact hC45 F _ _ _ _ _ _ _ _ _ _ _ hE hW hS (lv_sub hl [3, 4, 5, 6, 2, 1, 0] rfl)
      · replace hE := ite_t q34 hE
        refine lv_iconst (v := (-1 : Int32)) hx hb dX12_join_34 (by decide) ?_
        obtain ⟨rfl, rfl⟩ := so2 hE
        exact s_iret hx hb hr hlocks hW hS dX12_join_35
set_option maxHeartbeats 4000000 in
set_option maxRecDepth 100000 in
theorem S_X12_joins (l : Launch) (G : GG) (F : Nat) {u0 : Option Nat} {u1 : Int32} {f : Hp} {r : Int32} {f' : Hp} {n : Nat} (hE : m_X12_joins F u0 u1 f = some (r, f')) : Ctr l G yX12_joins cX12_joins 9 (some .int) 1 21 [rr G u0, .int u1] f n (some (.int r)) f' n 0 0 := by
  refine Met.ofW (cc := cX12_joins) (maxL := 9) (ret := (some .int)) (by decide) rfl ?_
  intro p e s m args below meth c s₁ B hml hv
  obtain ⟨rfl, hK, hW⟩ := hv
  have hx := B.exec
  have hb := B.bytes
  have hr := B.returns
  have hts := atoms_spec (ws := wsO yX12_joins cX12_joins 9 (some .int)) B.pre
  have hT : ∀ w ∈ TB, w.before [rr G u0, .int u1].toArray s = true := fun w hw => hts w (List.mem_cons_of_mem _ hw)
  have hown : s.vm.findClass RX12 = some m.cls := findClass_of_methodNamed B.named
  have hlocks := B.notSynchronized
  have CF : CallFix p m c cX12_joins 9 s [rr G u0, .int u1].toArray TB RX12 := ⟨hx, hb, hml, hown, hT⟩
  have hS : va_S (WA G) s.heap s.heap [] := va_S.rf
  have hl : lv_has (lg_sl ([rr G u0, .int u1]) ++ List.replicate (9 - (lg_sl ([rr G u0, .int u1])).length) Slot.unset).toArray 9 [(0, rr G u0), (1, .int u1)] := by cases u0 <;> exact lv_entry _ (Nat.le_of_ble_eq_true rfl)
  rw [lg_entry_eq]
  generalize (lg_sl ([rr G u0, .int u1]) ++ List.replicate (9 - (lg_sl ([rr G u0, .int u1])).length) Slot.unset).toArray = ls at hl ⊢
  have hC21 : ∀ (k21 : Nat), ∀ (v0 : Option Nat) (v1 : Int32) (v2 : Int32) (v3 : Int32) (v4 : Int32) (fa : Hp) (H : Heap) (locs : List Loc) (ls : Array Slot), m_X12_joins_L21 F k21 v0 v1 v2 v3 v4 fa = some (r, f') → Wd G fa n H → va_S (WA G) s.heap H locs → lv_has ls 9 [(0, rr G v0), (1, .int v1), (2, .int v2), (3, .int v3), (4, .int v4)] → W p l e (headSpec (wsO yX12_joins cX12_joins 9 (some .int)) { frames := 1, cells := 0, slots := 0, locals := 21 }).room s m [rr G u0, .int u1].toArray below meth c H locs 0 0 (MQ below (Qcn G (some (.int r)) f' n) [rr G u0, .int u1].toArray s 0 0 (WA G)) (F0 m 21 ls []) := by
    intro k21
    induction k21 with
    | zero => intro v0 v1 v2 v3 v4 fa H locs ls hE _ _ _; cases (show (none : Option ((Int32) × Hp)) = some (r, f') from hE)
    | succ k21 ih21 =>
      have hC132 : ∀ (v0 : Option Nat) (v1 : Int32) (v2 : Int32) (v3 : Int32) (v4 : Int32) (v5 : Int32) (v6 : Int32) (fa : Hp) (H : Heap) (locs : List Loc) (ls : Array Slot), m_X12_joins_B132 F (m_X12_joins_L21 F k21) v0 v1 v2 v3 v4 v5 v6 fa = some (r, f') → Wd G fa n H → va_S (WA G) s.heap H locs → lv_has ls 9 [(0, rr G v0), (1, .int v1), (2, .int v2), (3, .int v3), (4, .int v4), (5, .int v5), (6, .int v6)] → W p l e (headSpec (wsO yX12_joins cX12_joins 9 (some .int)) { frames := 1, cells := 0, slots := 0, locals := 21 }).room s m [rr G u0, .int u1].toArray below meth c H locs 0 0 (MQ below (Qcn G (some (.int r)) f' n) [rr G u0, .int u1].toArray s 0 0 (WA G)) (F0 m 132 ls []) := by
        intro v0 v1 v2 v3 v4 v5 v6 fa H locs ls hE hW hS hl
        refine lv_iload_n hx hb dX12_joins_132 rfl (lv_at hl 3 rfl) ?_
        refine s_aload_n hx hb dX12_joins_133 rfl (lv_at hl 0 rfl) ?_
        obtain ⟨x20, hx20, hE⟩ := bd hE
        refine s_gR hx hb hT u_X12 hown hK hW hx20 rfl (by decide) fl_X12_54 rfl dX12_joins_134 ?_
        refine lv_bipush (v := (10 : Int32)) hx hb dX12_joins_137 (by decide) ?_
        refine lv_iload hx hb dX12_joins_139 (lv_at hl 5 rfl) ?_
        refine lv_imul hx hb dX12_joins_141 ?_
        refine lv_iload hx hb dX12_joins_142 (lv_at hl 6 rfl) ?_
        refine lv_iadd hx hb dX12_joins_144 ?_
        obtain ⟨x21, hx21, hE⟩ := bd hE
        refine s_ldI hx hb hK hW hS hx21 dX12_joins_145 ?_
        refine lv_iadd hx hb dX12_joins_146 ?_
        refine lv_topi (fun y22 ey22 => ?_)
        replace hE := nm_o ey22 hE
        refine lv_istore_n (i := 3) (lv' := [(3, .int y22), (0, rr G v0), (1, .int v1), (2, .int v2), (4, .int v4), (5, .int v5), (6, .int v6)]) hx hb dX12_joins_147 rfl hl (by decide) rfl (fun ls hl => ?_)
        refine s_aload_n hx hb dX12_joins_148 rfl (lv_at hl 1 rfl) ?_
        obtain ⟨x23, hx23, hE⟩ := bd hE
        refine s_gR hx hb hT u_X12 hown hK hW hx23 rfl (by decide) fl_X12_51 rfl dX12_joins_149 ?_
        refine lv_iload hx hb dX12_joins_152 (lv_at hl 5 rfl) ?_
        refine lv_iload hx hb dX12_joins_154 (lv_at hl 6 rfl) ?_
        obtain ⟨f24, hf24, hE⟩ := bd hE
        refine s_stI hx hb hK hW hS hf24 dX12_joins_156 (fun H locs hW hS => ?_)
        refine s_aload_n hx hb dX12_joins_157 rfl (lv_at hl 1 rfl) ?_
        obtain ⟨x25, hx25, hE⟩ := bd hE
        refine s_gR hx hb hT u_X12 hown hK hW hx25 rfl (by decide) fl_X12_57 rfl dX12_joins_158 ?_
        refine lv_iload hx hb dX12_joins_161 (lv_at hl 4 rfl) ?_
        refine lv_iload hx hb dX12_joins_163 (lv_at hl 5 rfl) ?_
        obtain ⟨f26, hf26, hE⟩ := bd hE
        refine s_stI hx hb hK hW hS hf26 dX12_joins_165 (fun H locs hW hS => ?_)
        refine lv_iload_n hx hb dX12_joins_166 rfl (lv_at hl 3 rfl) ?_
        refine lv_iconst (v := (1 : Int32)) hx hb dX12_joins_167 (by decide) ?_
        refine lv_iload hx hb dX12_joins_168 (lv_at hl 5 rfl) ?_
        refine lv_ishl hx hb dX12_joins_170 ?_
        refine lv_ior hx hb dX12_joins_171 ?_
        refine lv_topi (fun y27 ey27 => ?_)
        replace hE := nm_o ey27 hE
        refine lv_istore_n (i := 2) (lv' := [(2, .int y27), (3, .int y22), (0, rr G v0), (1, .int v1), (4, .int v4), (5, .int v5), (6, .int v6)]) hx hb dX12_joins_172 rfl hl (by decide) rfl (fun ls hl => ?_)
        obtain ⟨y28, ey28⟩ : ∃ y : Int32, y = v4 + (1 : Int32) := ⟨_, rfl⟩
        replace hE := nm_o ey28 hE
        refine lv_iinc (k := 4) (v := y28) (lv' := [(4, .int y28), (2, .int y27), (3, .int y22), (0, rr G v0), (1, .int v1), (5, .int v5), (6, .int v6)]) hx hb dX12_joins_173 hl rfl (by rw [ey28]; rfl) (by decide) rfl (fun ls hl => ?_)
        refine lv_goto (tgt := 21) hx hb dX12_joins_176 (by decide) ?_
        exact ih21 _ _ _ _ _ _ _ _ _ hE hW hS (lv_sub hl [3, 4, 1, 2, 0] rfl)
      have hC36 : ∀ (k36 : Nat), ∀ (v0 : Option Nat) (v1 : Int32) (v2 : Int32) (v3 : Int32) (v4 : Int32) (v5 : Int32) (v6 : Int32) (v7 : Int32) (fa : Hp) (H : Heap) (locs : List Loc) (ls : Array Slot), m_X12_joins_L36 F (m_X12_joins_L21 F k21) k36 v0 v1 v2 v3 v4 v5 v6 v7 fa = some (r, f') → Wd G fa n H → va_S (WA G) s.heap H locs → lv_has ls 9 [(0, rr G v0), (1, .int v1), (2, .int v2), (3, .int v3), (4, .int v4), (5, .int v5), (6, .int v6), (7, .int v7)] → W p l e (headSpec (wsO yX12_joins cX12_joins 9 (some .int)) { frames := 1, cells := 0, slots := 0, locals := 21 }).room s m [rr G u0, .int u1].toArray below meth c H locs 0 0 (MQ below (Qcn G (some (.int r)) f' n) [rr G u0, .int u1].toArray s 0 0 (WA G)) (F0 m 36 ls []) := by
        intro k36
        induction k36 with
        | zero => intro v0 v1 v2 v3 v4 v5 v6 v7 fa H locs ls hE _ _ _; cases (show (none : Option ((Int32) × Hp)) = some (r, f') from hE)
        | succ k36 ih36 =>
          have hC57 : ∀ (k57 : Nat), ∀ (v0 : Option Nat) (v1 : Int32) (v2 : Int32) (v3 : Int32) (v4 : Int32) (v5 : Int32) (v6 : Int32) (v7 : Int32) (v8 : Int32) (fa : Hp) (H : Heap) (locs : List Loc) (ls : Array Slot), m_X12_joins_L57 F (m_X12_joins_L21 F k21) (m_X12_joins_L36 F (m_X12_joins_L21 F k21) k36) k57 v0 v1 v2 v3 v4 v5 v6 v7 v8 fa = some (r, f') → Wd G fa n H → va_S (WA G) s.heap H locs → lv_has ls 9 [(0, rr G v0), (1, .int v1), (2, .int v2), (3, .int v3), (4, .int v4), (5, .int v5), (6, .int v6), (7, .int v7), (8, .int v8)] → W p l e (headSpec (wsO yX12_joins cX12_joins 9 (some .int)) { frames := 1, cells := 0, slots := 0, locals := 21 }).room s m [rr G u0, .int u1].toArray below meth c H locs 0 0 (MQ below (Qcn G (some (.int r)) f' n) [rr G u0, .int u1].toArray s 0 0 (WA G)) (F0 m 57 ls []) := by
            intro k57
            induction k57 with
            | zero => intro v0 v1 v2 v3 v4 v5 v6 v7 v8 fa H locs ls hE _ _ _; cases (show (none : Option ((Int32) × Hp)) = some (r, f') from hE)
            | succ k57 ih57 =>
              have hC107 : ∀ (v0 : Option Nat) (v1 : Int32) (v2 : Int32) (v3 : Int32) (v4 : Int32) (v7 : Int32) (v8 : Int32) (fa : Hp) (H : Heap) (locs : List Loc) (ls : Array Slot), m_X12_joins_B107 F (m_X12_joins_L21 F k21) (m_X12_joins_L36 F (m_X12_joins_L21 F k21) k36) (m_X12_joins_L57 F (m_X12_joins_L21 F k21) (m_X12_joins_L36 F (m_X12_joins_L21 F k21) k36) k57) v0 v1 v2 v3 v4 v7 v8 fa = some (r, f') → Wd G fa n H → va_S (WA G) s.heap H locs → lv_has ls 9 [(0, rr G v0), (1, .int v1), (2, .int v2), (3, .int v3), (4, .int v4), (7, .int v7), (8, .int v8)] → W p l e (headSpec (wsO yX12_joins cX12_joins 9 (some .int)) { frames := 1, cells := 0, slots := 0, locals := 21 }).room s m [rr G u0, .int u1].toArray below meth c H locs 0 0 (MQ below (Qcn G (some (.int r)) f' n) [rr G u0, .int u1].toArray s 0 0 (WA G)) (F0 m 107 ls []) := by
                intro v0 v1 v2 v3 v4 v7 v8 fa H locs ls hE hW hS hl
                refine lv_iload hx hb dX12_joins_107 (lv_at hl 5 rfl) ?_
                refine lv_istore (lv' := [(5, .int v7), (0, rr G v0), (1, .int v1), (2, .int v2), (3, .int v3), (4, .int v4), (7, .int v7), (8, .int v8)]) hx hb dX12_joins_109 hl (by decide) rfl (fun ls hl => ?_)
                refine s_aload_n hx hb dX12_joins_111 rfl (lv_at hl 1 rfl) ?_
                obtain ⟨x17, hx17, hE⟩ := bd hE
                refine s_gR hx hb hT u_X12 hown hK hW hx17 rfl (by decide) fl_X12_57 rfl dX12_joins_112 ?_
                refine lv_iload hx hb dX12_joins_115 (lv_at hl 7 rfl) ?_
                obtain ⟨x18, hx18, hE⟩ := bd hE
                refine s_ldI hx hb hK hW hS hx18 dX12_joins_117 ?_
                refine lv_istore (lv' := [(6, .int x18), (5, .int v7), (0, rr G v0), (1, .int v1), (2, .int v2), (3, .int v3), (4, .int v4), (7, .int v7), (8, .int v8)]) hx hb dX12_joins_118 hl (by decide) rfl (fun ls hl => ?_)
                obtain ⟨y19, ey19⟩ : ∃ y : Int32, y = v8 + (1 : Int32) := ⟨_, rfl⟩
                replace hE := nm_o ey19 hE
                refine lv_iinc (k := 8) (v := y19) (lv' := [(8, .int y19), (6, .int x18), (5, .int v7), (0, rr G v0), (1, .int v1), (2, .int v2), (3, .int v3), (4, .int v4), (7, .int v7)]) hx hb dX12_joins_120 hl rfl (by rw [ey19]; rfl) (by decide) rfl (fun ls hl => ?_)
                refine lv_goto (tgt := 57) hx hb dX12_joins_123 (by decide) ?_
                exact ih57 _ _ _ _ _ _ _ _ _ _ _ _ _ hE hW hS (lv_sub hl [3, 4, 5, 6, 7, 2, 1, 8, 0] rfl)
              intro v0 v1 v2 v3 v4 v5 v6 v7 v8 fa H locs ls hE hW hS hl
              replace hE : m_X12_joins_b57 F (m_X12_joins_L21 F k21) (m_X12_joins_L36 F (m_X12_joins_L21 F k21) k36) (m_X12_joins_L57 F (m_X12_joins_L21 F k21) (m_X12_joins_L36 F (m_X12_joins_L21 F k21) k36) k57) v0 v1 v2 v3 v4 v5 v6 v7 v8 fa = some (r, f') := hE
              refine lv_iload hx hb dX12_joins_57 (lv_at hl 8 rfl) ?_
              refine lv_iload hx hb dX12_joins_59 (lv_at hl 4 rfl) ?_
              refine lv_icmp_ge (tgt := 126) hx hb dX12_joins_61 (by decide) (fun q6 => ?_) (fun q6 => ?_)
              · replace hE := ite_t q6 hE
                obtain ⟨y7, ey7⟩ : ∃ y : Int32, y = v7 + (1 : Int32) := ⟨_, rfl⟩
                replace hE := nm_o ey7 hE
                refine lv_iinc (k := 7) (v := y7) (lv' := [(7, .int y7), (0, rr G v0), (1, .int v1), (2, .int v2), (3, .int v3), (4, .int v4), (5, .int v5), (6, .int v6), (8, .int v8)]) hx hb dX12_joins_126 hl rfl (by rw [ey7]; rfl) (by decide) rfl (fun ls hl => ?_)
                refine lv_goto (tgt := 36) hx hb dX12_joins_129 (by decide) ?_
                exact ih36 _ _ _ _ _ _ _ _ _ _ _ _ hE hW hS (lv_sub hl [1, 2, 3, 4, 5, 6, 7, 0] rfl)
              · replace hE := ite_f q6 hE
                refine lv_iload hx hb dX12_joins_64 (lv_at hl 5 rfl) ?_
                refine lv_iconst (v := (-1 : Int32)) hx hb dX12_joins_66 (by decide) ?_
                refine lv_icmp_eq (tgt := 107) hx hb dX12_joins_67 (by decide) (fun q8 => ?_) (fun q8 => ?_)
                · replace hE := ite_t q8 hE
                  exact hC107 _ _ _ _ _ _ _ _ _ _ _ hE hW hS (lv_sub hl [0, 1, 2, 3, 4, 7, 8] rfl)
                · replace hE := ite_f q8 hE
                  refine s_aload_n hx hb dX12_joins_70 rfl (lv_at hl 0 rfl) ?_
                  obtain ⟨x9, hx9, hE⟩ := bd hE
                  refine s_gR hx hb hT u_X12 hown hK hW hx9 rfl (by decide) fl_X12_54 rfl dX12_joins_71 ?_
                  refine lv_bipush (v := (10 : Int32)) hx hb dX12_joins_74 (by decide) ?_
                  refine lv_iload hx hb dX12_joins_76 (lv_at hl 7 rfl) ?_
                  refine lv_imul hx hb dX12_joins_78 ?_
                  refine s_aload_n hx hb dX12_joins_79 rfl (lv_at hl 0 rfl) ?_
                  obtain ⟨x10, hx10, hE⟩ := bd hE
                  refine s_gR hx hb hT u_X12 hown hK hW hx10 rfl (by decide) fl_X12_57 rfl dX12_joins_80 ?_
                  refine lv_iload hx hb dX12_joins_83 (lv_at hl 8 rfl) ?_
                  obtain ⟨x11, hx11, hE⟩ := bd hE
                  refine s_ldI hx hb hK hW hS hx11 dX12_joins_85 ?_
                  refine lv_iadd hx hb dX12_joins_86 ?_
                  obtain ⟨x12, hx12, hE⟩ := bd hE
                  refine s_ldI hx hb hK hW hS hx12 dX12_joins_87 ?_
                  refine s_aload_n hx hb dX12_joins_88 rfl (lv_at hl 0 rfl) ?_
                  obtain ⟨x13, hx13, hE⟩ := bd hE
                  refine s_gR hx hb hT u_X12 hown hK hW hx13 rfl (by decide) fl_X12_54 rfl dX12_joins_89 ?_
                  refine lv_bipush (v := (10 : Int32)) hx hb dX12_joins_92 (by decide) ?_
                  refine lv_iload hx hb dX12_joins_94 (lv_at hl 5 rfl) ?_
                  refine lv_imul hx hb dX12_joins_96 ?_
                  refine lv_iload hx hb dX12_joins_97 (lv_at hl 6 rfl) ?_
                  refine lv_iadd hx hb dX12_joins_99 ?_
                  obtain ⟨x14, hx14, hE⟩ := bd hE
                  refine s_ldI hx hb hK hW hS hx14 dX12_joins_100 ?_
                  refine lv_icmp_lt (tgt := 107) hx hb dX12_joins_101 (by decide) (fun q15 => ?_) (fun q15 => ?_)
                  · replace hE := ite_t q15 hE
                    exact hC107 _ _ _ _ _ _ _ _ _ _ _ hE hW hS (lv_sub hl [0, 1, 2, 3, 4, 7, 8] rfl)
                  · replace hE := ite_f q15 hE
                    refine lv_goto (tgt := 120) hx hb dX12_joins_104 (by decide) ?_
                    obtain ⟨y16, ey16⟩ : ∃ y : Int32, y = v8 + (1 : Int32) := ⟨_, rfl⟩
                    replace hE := nm_o ey16 hE
                    refine lv_iinc (k := 8) (v := y16) (lv' := [(8, .int y16), (0, rr G v0), (1, .int v1), (2, .int v2), (3, .int v3), (4, .int v4), (5, .int v5), (6, .int v6), (7, .int v7)]) hx hb dX12_joins_120 hl rfl (by rw [ey16]; rfl) (by decide) rfl (fun ls hl => ?_)
                    refine lv_goto (tgt := 57) hx hb dX12_joins_123 (by decide) ?_
                    exact ih57 _ _ _ _ _ _ _ _ _ _ _ _ _ hE hW hS (lv_sub hl [1, 2, 3, 4, 5, 6, 7, 8, 0] rfl)
          intro v0 v1 v2 v3 v4 v5 v6 v7 fa H locs ls hE hW hS hl
          replace hE : m_X12_joins_b36 F (m_X12_joins_L21 F k21) (m_X12_joins_L36 F (m_X12_joins_L21 F k21) k36) v0 v1 v2 v3 v4 v5 v6 v7 fa = some (r, f') := hE
          refine lv_iload hx hb dX12_joins_36 (lv_at hl 7 rfl) ?_
          refine lv_iload_n hx hb dX12_joins_38 rfl (lv_at hl 1 rfl) ?_
          refine lv_icmp_ge (tgt := 132) hx hb dX12_joins_39 (by decide) (fun q2 => ?_) (fun q2 => ?_)
          · replace hE := ite_t q2 hE
            exact hC132 _ _ _ _ _ _ _ _ _ _ _ hE hW hS (lv_sub hl [0, 1, 2, 3, 4, 5, 6] rfl)
          · replace hE := ite_f q2 hE
            refine lv_iload_n hx hb dX12_joins_42 rfl (lv_at hl 2 rfl) ?_
            refine lv_iload hx hb dX12_joins_43 (lv_at hl 7 rfl) ?_
            obtain ⟨x3, hx3, hE⟩ := bd hE
            refine s_callS (As := [.int v2, .int v7]) (rest := []) CF hK hW hS (S_X12_has l G F hx3) gs_X12_198 hd_X12_has.2 ⟨Nat.le_of_ble_eq_true rfl, Nat.le_of_ble_eq_true rfl⟩ rfl hl.1 rfl (Nat.le_of_ble_eq_true rfl) dX12_joins_45 ⟨Nat.le_refl _, Nat.le_refl _⟩ (fun H locs hW hS => ?_)
            refine lv_if_eq (tgt := 54) hx hb dX12_joins_48 (by decide) (fun q4 => ?_) (fun q4 => ?_)
            · replace hE := ite_t q4 hE
              refine lv_iconst (v := (0 : Int32)) hx hb dX12_joins_54 (by decide) ?_
              refine lv_istore (lv' := [(8, .int (0 : Int32)), (0, rr G v0), (1, .int v1), (2, .int v2), (3, .int v3), (4, .int v4), (5, .int v5), (6, .int v6), (7, .int v7)]) hx hb dX12_joins_55 hl (by decide) rfl (fun ls hl => ?_)
              exact hC57 F _ _ _ _ _ _ _ _ _ _ _ _ _ hE hW hS (lv_sub hl [1, 2, 3, 4, 5, 6, 7, 8, 0] rfl)
            · replace hE := ite_f q4 hE
              refine lv_goto (tgt := 126) hx hb dX12_joins_51 (by decide) ?_
              obtain ⟨y5, ey5⟩ : ∃ y : Int32, y = v7 + (1 : Int32) := ⟨_, rfl⟩
              replace hE := nm_o ey5 hE
              refine lv_iinc (k := 7) (v := y5) (lv' := [(7, .int y5), (0, rr G v0), (1, .int v1), (2, .int v2), (3, .int v3), (4, .int v4), (5, .int v5), (6, .int v6)]) hx hb dX12_joins_126 hl rfl (by rw [ey5]; rfl) (by decide) rfl (fun ls hl => ?_)
              refine lv_goto (tgt := 36) hx hb dX12_joins_129 (by decide) ?_
              exact ih36 _ _ _ _ _ _ _ _ _ _ _ _ hE hW hS (lv_sub hl [1, 2, 3, 4, 5, 6, 7, 0] rfl)
      intro v0 v1 v2 v3 v4 fa H locs ls hE hW hS hl
      replace hE : m_X12_joins_b21 F (m_X12_joins_L21 F k21) v0 v1 v2 v3 v4 fa = some (r, f') := hE
      refine lv_iload hx hb dX12_joins_21 (lv_at hl 4 rfl) ?_
      refine lv_iload_n hx hb dX12_joins_23 rfl (lv_at hl 1 rfl) ?_
      refine lv_icmp_ge (tgt := 179) hx hb dX12_joins_24 (by decide) (fun q1 => ?_) (fun q1 => ?_)
      · replace hE := ite_t q1 hE
        refine lv_iload_n hx hb dX12_joins_179 rfl (lv_at hl 3 rfl) ?_
        obtain ⟨rfl, rfl⟩ := so2 hE
        exact s_iret hx hb hr hlocks hW hS dX12_joins_180
      · replace hE := ite_f q1 hE
        refine lv_iconst (v := (-1 : Int32)) hx hb dX12_joins_27 (by decide) ?_
        refine lv_istore (lv' := [(5, .int (-1 : Int32)), (0, rr G v0), (1, .int v1), (2, .int v2), (3, .int v3), (4, .int v4)]) hx hb dX12_joins_28 hl (by decide) rfl (fun ls hl => ?_)
        refine lv_iconst (v := (-1 : Int32)) hx hb dX12_joins_30 (by decide) ?_
        refine lv_istore (lv' := [(6, .int (-1 : Int32)), (5, .int (-1 : Int32)), (0, rr G v0), (1, .int v1), (2, .int v2), (3, .int v3), (4, .int v4)]) hx hb dX12_joins_31 hl (by decide) rfl (fun ls hl => ?_)
        refine lv_iconst (v := (1 : Int32)) hx hb dX12_joins_33 (by decide) ?_
        refine lv_istore (lv' := [(7, .int (1 : Int32)), (6, .int (-1 : Int32)), (5, .int (-1 : Int32)), (0, rr G v0), (1, .int v1), (2, .int v2), (3, .int v3), (4, .int v4)]) hx hb dX12_joins_34 hl (by decide) rfl (fun ls hl => ?_)
        exact hC36 F _ _ _ _ _ _ _ _ _ _ _ _ hE hW hS (lv_sub hl [3, 4, 5, 6, 7, 2, 1, 0] rfl)
  refine lv_iconst (v := (1 : Int32)) hx hb dX12_joins_0 (by decide) ?_
  refine lv_istore_n (i := 2) (lv' := [(2, .int (1 : Int32)), (0, rr G u0), (1, .int u1)]) hx hb dX12_joins_1 rfl hl (by decide) rfl (fun ls hl => ?_)
  refine lv_iconst (v := (0 : Int32)) hx hb dX12_joins_2 (by decide) ?_
  refine lv_istore_n (i := 3) (lv' := [(3, .int (0 : Int32)), (2, .int (1 : Int32)), (0, rr G u0), (1, .int u1)]) hx hb dX12_joins_3 rfl hl (by decide) rfl (fun ls hl => ?_)
  refine s_aload_n hx hb dX12_joins_4 rfl (lv_at hl 2 rfl) ?_
  obtain ⟨x29, hx29, hE⟩ := bd hE
  refine s_gR hx hb hT u_X12 hown hK hW hx29 rfl (by decide) fl_X12_57 rfl dX12_joins_5 ?_
  refine lv_iconst (v := (0 : Int32)) hx hb dX12_joins_8 (by decide) ?_
  refine lv_iconst (v := (0 : Int32)) hx hb dX12_joins_9 (by decide) ?_
  obtain ⟨f30, hf30, hE⟩ := bd hE
  refine s_stI hx hb hK hW hS hf30 dX12_joins_10 (fun H locs hW hS => ?_)
  refine s_aload_n hx hb dX12_joins_11 rfl (lv_at hl 2 rfl) ?_
  obtain ⟨x31, hx31, hE⟩ := bd hE
  refine s_gR hx hb hT u_X12 hown hK hW hx31 rfl (by decide) fl_X12_51 rfl dX12_joins_12 ?_
  refine lv_iconst (v := (0 : Int32)) hx hb dX12_joins_15 (by decide) ?_
  refine lv_iconst (v := (-1 : Int32)) hx hb dX12_joins_16 (by decide) ?_
  obtain ⟨f32, hf32, hE⟩ := bd hE
  refine s_stI hx hb hK hW hS hf32 dX12_joins_17 (fun H locs hW hS => ?_)
  refine lv_iconst (v := (1 : Int32)) hx hb dX12_joins_18 (by decide) ?_
  refine lv_istore (lv' := [(4, .int (1 : Int32)), (3, .int (0 : Int32)), (2, .int (1 : Int32)), (0, rr G u0), (1, .int u1)]) hx hb dX12_joins_19 hl (by decide) rfl (fun ls hl => ?_)
  exact hC21 F _ _ _ _ _ _ _ _ _ hE hW hS (lv_sub hl [3, 4, 2, 1, 0] rfl)
set_option maxHeartbeats 4000000 in
set_option maxRecDepth 100000 in
theorem S_X12_mayMake (l : Launch) (G : GG) (F : Nat) {u0 : Option Nat} {u1 : Int32} {u2 : Int32} {u3 : Int32} {f : Hp} {r : Int32} {f' : Hp} {n : Nat} (hE : m_X12_mayMake F u0 u1 u2 u3 f = some (r, f')) : Ctr l G yX12_mayMake cX12_mayMake 5 (some .boolean) 3 67 [rr G u0, .int u1, .int u2, .int u3] f n (some (.int r)) f' n 0 0 := by
  refine Met.ofW (cc := cX12_mayMake) (maxL := 5) (ret := (some .boolean)) (by decide) rfl ?_
  intro p e s m args below meth c s₁ B hml hv
  obtain ⟨rfl, hK, hW⟩ := hv
  have hx := B.exec
  have hb := B.bytes
  have hr := B.returns
  have hts := atoms_spec (ws := wsO yX12_mayMake cX12_mayMake 5 (some .boolean)) B.pre
  have hT : ∀ w ∈ TB, w.before [rr G u0, .int u1, .int u2, .int u3].toArray s = true := fun w hw => hts w (List.mem_cons_of_mem _ hw)
  have hown : s.vm.findClass RX12 = some m.cls := findClass_of_methodNamed B.named
  have hlocks := B.notSynchronized
  have CF : CallFix p m c cX12_mayMake 5 s [rr G u0, .int u1, .int u2, .int u3].toArray TB RX12 := ⟨hx, hb, hml, hown, hT⟩
  have hS : va_S (WA G) s.heap s.heap [] := va_S.rf
  have hl : lv_has (lg_sl ([rr G u0, .int u1, .int u2, .int u3]) ++ List.replicate (5 - (lg_sl ([rr G u0, .int u1, .int u2, .int u3])).length) Slot.unset).toArray 5 [(0, rr G u0), (1, .int u1), (2, .int u2), (3, .int u3)] := by cases u0 <;> exact lv_entry _ (Nat.le_of_ble_eq_true rfl)
  rw [lg_entry_eq]
  generalize (lg_sl ([rr G u0, .int u1, .int u2, .int u3]) ++ List.replicate (5 - (lg_sl ([rr G u0, .int u1, .int u2, .int u3])).length) Slot.unset).toArray = ls at hl ⊢
  refine s_aload_n hx hb dX12_mayMake_0 rfl (lv_at hl 0 rfl) ?_
  refine lv_iload_n hx hb dX12_mayMake_1 rfl (lv_at hl 1 rfl) ?_
  refine lv_iload_n hx hb dX12_mayMake_2 rfl (lv_at hl 2 rfl) ?_
  obtain ⟨c1, hE⟩ := ck hE
  obtain ⟨f2, hf2, hE⟩ := bd hE
  refine s_callV (As := [.int u1, .int u2]) (rest := []) CF hK hW hS (S_X12_layCopies l G F hf2) c1 rfl gv_X12_269 hd_X12_layCopies ⟨Nat.le_of_ble_eq_true rfl, Nat.le_of_ble_eq_true rfl⟩ rfl hl.1 rfl (Nat.le_of_ble_eq_true rfl) dX12_mayMake_3 ⟨Nat.le_refl _, Nat.le_refl _⟩ (fun H locs hW hS => ?_)
  refine s_aload_n hx hb dX12_mayMake_6 rfl (lv_at hl 0 rfl) ?_
  obtain ⟨x3, hx3, hE⟩ := bd hE
  refine s_gR hx hb hT u_X12 hown hK hW hx3 rfl (by decide) fl_X12_13 rfl dX12_mayMake_7 ?_
  refine lv_bipush (v := (90 : Int32)) hx hb dX12_mayMake_10 (by decide) ?_
  refine lv_iconst (v := (2 : Int32)) hx hb dX12_mayMake_12 (by decide) ?_
  refine lv_iload_n hx hb dX12_mayMake_13 rfl (lv_at hl 3 rfl) ?_
  refine lv_imul hx hb dX12_mayMake_14 ?_
  refine lv_iadd hx hb dX12_mayMake_15 ?_
  obtain ⟨x4, hx4, hE⟩ := bd hE
  refine s_ldI hx hb hK hW hS hx4 dX12_mayMake_16 ?_
  refine lv_istore (lv' := [(4, .int x4), (0, rr G u0), (1, .int u1), (2, .int u2), (3, .int u3)]) hx hb dX12_mayMake_17 hl (by decide) rfl (fun ls hl => ?_)
  refine lv_iload hx hb dX12_mayMake_19 (lv_at hl 0 rfl) ?_
  refine lv_iconst (v := (2 : Int32)) hx hb dX12_mayMake_21 (by decide) ?_
  refine lv_icmp_eq (tgt := 74) hx hb dX12_mayMake_22 (by decide) (fun q5 => ?_) (fun q5 => ?_)
  · replace hE := ite_t q5 hE
    refine s_aload_n hx hb dX12_mayMake_74 rfl (lv_at hl 1 rfl) ?_
    refine lv_iload_n hx hb dX12_mayMake_75 rfl (lv_at hl 3 rfl) ?_
    obtain ⟨c6, hE⟩ := ck hE
    obtain ⟨x7, hx7, hE⟩ := bd hE
    refine s_callV (As := [.int u2]) (rest := []) CF hK hW hS (S_X12_sizeOf l G F hx7) c6 rfl gv_X12_182 hd_X12_sizeOf ⟨Nat.le_of_ble_eq_true rfl, Nat.le_of_ble_eq_true rfl⟩ rfl hl.1 rfl (Nat.le_of_ble_eq_true rfl) dX12_mayMake_76 ⟨Nat.le_refl _, Nat.le_refl _⟩ (fun H locs hW hS => ?_)
    refine s_aload_n hx hb dX12_mayMake_79 rfl (lv_at hl 1 rfl) ?_
    refine lv_iload_n hx hb dX12_mayMake_80 rfl (lv_at hl 2 rfl) ?_
    obtain ⟨c8, hE⟩ := ck hE
    obtain ⟨x9, hx9, hE⟩ := bd hE
    refine s_callV (As := [.int u1]) (rest := [.int x7]) CF hK hW hS (S_X12_sizeOf l G F hx9) c8 rfl gv_X12_182 hd_X12_sizeOf ⟨Nat.le_of_ble_eq_true rfl, Nat.le_of_ble_eq_true rfl⟩ rfl hl.1 rfl (Nat.le_of_ble_eq_true rfl) dX12_mayMake_81 ⟨Nat.le_refl _, Nat.le_refl _⟩ (fun H locs hW hS => ?_)
    refine lv_iconst (v := (1 : Int32)) hx hb dX12_mayMake_84 (by decide) ?_
    refine lv_isub hx hb dX12_mayMake_85 ?_
    refine lv_icmp_ne (tgt := 108) hx hb dX12_mayMake_86 (by decide) (fun q10 => ?_) (fun q10 => ?_)
    · replace hE := ite_f q10 hE
      refine lv_iconst (v := (0 : Int32)) hx hb dX12_mayMake_108 (by decide) ?_
      obtain ⟨c11, hE⟩ := ck hE
      obtain ⟨rfl, rfl⟩ := so2 hE
      exact s_zret hx hb hr c11 hlocks hW hS dX12_mayMake_109
    · replace hE := ite_t q10 hE
      refine s_aload_n hx hb dX12_mayMake_89 rfl (lv_at hl 1 rfl) ?_
      obtain ⟨c12, hE⟩ := ck hE
      obtain ⟨x13, hx13, hE⟩ := bd hE
      refine s_callV (As := []) (rest := []) CF hK hW hS (S_X12_fallen l G F hx13) c12 rfl gv_X12_262 hd_X12_fallen ⟨Nat.le_of_ble_eq_true rfl, Nat.le_of_ble_eq_true rfl⟩ rfl hl.1 rfl (Nat.le_of_ble_eq_true rfl) dX12_mayMake_90 ⟨Nat.le_refl _, Nat.le_refl _⟩ (fun H locs hW hS => ?_)
      refine lv_iconst (v := (1 : Int32)) hx hb dX12_mayMake_93 (by decide) ?_
      refine lv_icmp_ne (tgt := 108) hx hb dX12_mayMake_94 (by decide) (fun q14 => ?_) (fun q14 => ?_)
      · replace hE := ite_f q14 hE
        refine lv_iconst (v := (0 : Int32)) hx hb dX12_mayMake_108 (by decide) ?_
        obtain ⟨c15, hE⟩ := ck hE
        obtain ⟨rfl, rfl⟩ := so2 hE
        exact s_zret hx hb hr c15 hlocks hW hS dX12_mayMake_109
      · replace hE := ite_t q14 hE
        refine s_aload_n hx hb dX12_mayMake_97 rfl (lv_at hl 1 rfl) ?_
        obtain ⟨c16, hE⟩ := ck hE
        obtain ⟨x17, hx17, hE⟩ := bd hE
        refine s_callV (As := []) (rest := []) CF hK hW hS (S_X12_steps l G F hx17) c16 rfl gv_X12_259 hd_X12_steps ⟨Nat.le_of_ble_eq_true rfl, Nat.le_of_ble_eq_true rfl⟩ rfl hl.1 rfl (Nat.le_of_ble_eq_true rfl) dX12_mayMake_98 ⟨Nat.le_refl _, Nat.le_refl _⟩ (fun H locs hW hS => ?_)
        refine lv_if_ne (tgt := 108) hx hb dX12_mayMake_101 (by decide) (fun q18 => ?_) (fun q18 => ?_)
        · replace hE := ite_f q18 hE
          refine lv_iconst (v := (0 : Int32)) hx hb dX12_mayMake_108 (by decide) ?_
          obtain ⟨c19, hE⟩ := ck hE
          obtain ⟨rfl, rfl⟩ := so2 hE
          exact s_zret hx hb hr c19 hlocks hW hS dX12_mayMake_109
        · replace hE := ite_t q18 hE
          refine lv_iconst (v := (1 : Int32)) hx hb dX12_mayMake_104 (by decide) ?_
          refine lv_goto (tgt := 109) hx hb dX12_mayMake_105 (by decide) ?_
          obtain ⟨c20, hE⟩ := ck hE
          obtain ⟨rfl, rfl⟩ := so2 hE
          exact s_zret hx hb hr c20 hlocks hW hS dX12_mayMake_109
  · replace hE := ite_f q5 hE
    refine s_aload_n hx hb dX12_mayMake_25 rfl (lv_at hl 1 rfl) ?_
    obtain ⟨c21, hE⟩ := ck hE
    obtain ⟨x22, hx22, hE⟩ := bd hE
    refine s_callV (As := []) (rest := []) CF hK hW hS (S_X12_fallen l G F hx22) c21 rfl gv_X12_262 hd_X12_fallen ⟨Nat.le_of_ble_eq_true rfl, Nat.le_of_ble_eq_true rfl⟩ rfl hl.1 rfl (Nat.le_of_ble_eq_true rfl) dX12_mayMake_26 ⟨Nat.le_refl _, Nat.le_refl _⟩ (fun H locs hW hS => ?_)
    refine lv_if_ne (tgt := 72) hx hb dX12_mayMake_29 (by decide) (fun q23 => ?_) (fun q23 => ?_)
    · replace hE := ite_f q23 hE
      refine lv_iconst (v := (0 : Int32)) hx hb dX12_mayMake_72 (by decide) ?_
      obtain ⟨c24, hE⟩ := ck hE
      obtain ⟨rfl, rfl⟩ := so2 hE
      exact s_zret hx hb hr c24 hlocks hW hS dX12_mayMake_73
    · replace hE := ite_t q23 hE
      refine lv_iload hx hb dX12_mayMake_32 (lv_at hl 0 rfl) ?_
      refine lv_if_ne (tgt := 48) hx hb dX12_mayMake_34 (by decide) (fun q25 => ?_) (fun q25 => ?_)
      · replace hE := ite_f q25 hE
        refine s_aload_n hx hb dX12_mayMake_48 rfl (lv_at hl 1 rfl) ?_
        obtain ⟨c26, hE⟩ := ck hE
        obtain ⟨x27, hx27, hE⟩ := bd hE
        refine s_callV (As := []) (rest := []) CF hK hW hS (S_X12_steps l G F hx27) c26 rfl gv_X12_259 hd_X12_steps ⟨Nat.le_of_ble_eq_true rfl, Nat.le_of_ble_eq_true rfl⟩ rfl hl.1 rfl (Nat.le_of_ble_eq_true rfl) dX12_mayMake_49 ⟨Nat.le_refl _, Nat.le_refl _⟩ (fun H locs hW hS => ?_)
        refine s_aload_n hx hb dX12_mayMake_52 rfl (lv_at hl 1 rfl) ?_
        obtain ⟨x28, hx28, hE⟩ := bd hE
        refine s_gR hx hb hT u_X12 hown hK hW hx28 rfl (by decide) fl_X12_13 rfl dX12_mayMake_53 ?_
        refine lv_bipush (v := (90 : Int32)) hx hb dX12_mayMake_56 (by decide) ?_
        refine lv_iconst (v := (2 : Int32)) hx hb dX12_mayMake_58 (by decide) ?_
        refine lv_iload_n hx hb dX12_mayMake_59 rfl (lv_at hl 4 rfl) ?_
        refine lv_imul hx hb dX12_mayMake_60 ?_
        refine lv_iadd hx hb dX12_mayMake_61 ?_
        refine lv_iconst (v := (1 : Int32)) hx hb dX12_mayMake_62 (by decide) ?_
        refine lv_iadd hx hb dX12_mayMake_63 ?_
        obtain ⟨x29, hx29, hE⟩ := bd hE
        refine s_ldI hx hb hK hW hS hx29 dX12_mayMake_64 ?_
        refine lv_icmp_gt (tgt := 72) hx hb dX12_mayMake_65 (by decide) (fun q30 => ?_) (fun q30 => ?_)
        · replace hE := ite_t q30 hE
          refine lv_iconst (v := (0 : Int32)) hx hb dX12_mayMake_72 (by decide) ?_
          obtain ⟨c31, hE⟩ := ck hE
          obtain ⟨rfl, rfl⟩ := so2 hE
          exact s_zret hx hb hr c31 hlocks hW hS dX12_mayMake_73
        · replace hE := ite_f q30 hE
          refine lv_iconst (v := (1 : Int32)) hx hb dX12_mayMake_68 (by decide) ?_
          refine lv_goto (tgt := 73) hx hb dX12_mayMake_69 (by decide) ?_
          obtain ⟨c32, hE⟩ := ck hE
          obtain ⟨rfl, rfl⟩ := so2 hE
          exact s_zret hx hb hr c32 hlocks hW hS dX12_mayMake_73
      · replace hE := ite_t q25 hE
        refine s_aload_n hx hb dX12_mayMake_37 rfl (lv_at hl 1 rfl) ?_
        obtain ⟨c33, hE⟩ := ck hE
        obtain ⟨x34, hx34, hE⟩ := bd hE
        refine s_callV (As := []) (rest := []) CF hK hW hS (S_X12_steps l G F hx34) c33 rfl gv_X12_259 hd_X12_steps ⟨Nat.le_of_ble_eq_true rfl, Nat.le_of_ble_eq_true rfl⟩ rfl hl.1 rfl (Nat.le_of_ble_eq_true rfl) dX12_mayMake_38 ⟨Nat.le_refl _, Nat.le_refl _⟩ (fun H locs hW hS => ?_)
        refine lv_iconst (v := (1 : Int32)) hx hb dX12_mayMake_41 (by decide) ?_
        refine lv_icmp_ne (tgt := 72) hx hb dX12_mayMake_42 (by decide) (fun q35 => ?_) (fun q35 => ?_)
        · replace hE := ite_f q35 hE
          refine lv_iconst (v := (0 : Int32)) hx hb dX12_mayMake_72 (by decide) ?_
          obtain ⟨c36, hE⟩ := ck hE
          obtain ⟨rfl, rfl⟩ := so2 hE
          exact s_zret hx hb hr c36 hlocks hW hS dX12_mayMake_73
        · replace hE := ite_t q35 hE
          refine lv_goto (tgt := 68) hx hb dX12_mayMake_45 (by decide) ?_
          refine lv_iconst (v := (1 : Int32)) hx hb dX12_mayMake_68 (by decide) ?_
          refine lv_goto (tgt := 73) hx hb dX12_mayMake_69 (by decide) ?_
          obtain ⟨c37, hE⟩ := ck hE
          obtain ⟨rfl, rfl⟩ := so2 hE
          exact s_zret hx hb hr c37 hlocks hW hS dX12_mayMake_73
set_option maxHeartbeats 4000000 in
set_option maxRecDepth 100000 in
theorem S_X12_judge (l : Launch) (G : GG) (F : Nat) {u0 : Option Nat} {u1 : Int32} {f : Hp} {r : Int32} {f' : Hp} {n : Nat} (hE : m_X12_judge F u0 u1 f = some (r, f')) : Ctr l G yX12_judge cX12_judge 4 (some .int) 4 91 [rr G u0, .int u1] f n (some (.int r)) f' n 0 0 := by
  refine Met.ofW (cc := cX12_judge) (maxL := 4) (ret := (some .int)) (by decide) rfl ?_
  intro p e s m args below meth c s₁ B hml hv
  obtain ⟨rfl, hK, hW⟩ := hv
  have hx := B.exec
  have hb := B.bytes
  have hr := B.returns
  have hts := atoms_spec (ws := wsO yX12_judge cX12_judge 4 (some .int)) B.pre
  have hT : ∀ w ∈ TB, w.before [rr G u0, .int u1].toArray s = true := fun w hw => hts w (List.mem_cons_of_mem _ hw)
  have hown : s.vm.findClass RX12 = some m.cls := findClass_of_methodNamed B.named
  have hlocks := B.notSynchronized
  have CF : CallFix p m c cX12_judge 4 s [rr G u0, .int u1].toArray TB RX12 := ⟨hx, hb, hml, hown, hT⟩
  have hS : va_S (WA G) s.heap s.heap [] := va_S.rf
  have hl : lv_has (lg_sl ([rr G u0, .int u1]) ++ List.replicate (4 - (lg_sl ([rr G u0, .int u1])).length) Slot.unset).toArray 4 [(0, rr G u0), (1, .int u1)] := by cases u0 <;> exact lv_entry _ (Nat.le_of_ble_eq_true rfl)
  rw [lg_entry_eq]
  generalize (lg_sl ([rr G u0, .int u1]) ++ List.replicate (4 - (lg_sl ([rr G u0, .int u1])).length) Slot.unset).toArray = ls at hl ⊢
  have hC59 : ∀ (k59 : Nat), ∀ (v0 : Option Nat) (v1 : Int32) (v2 : Int32) (v3 : Int32) (fa : Hp) (H : Heap) (locs : List Loc) (ls : Array Slot), m_X12_judge_L59 F k59 v0 v1 v2 v3 fa = some (r, f') → Wd G fa n H → va_S (WA G) s.heap H locs → lv_has ls 4 [(0, rr G v0), (1, .int v1), (2, .int v2), (3, .int v3)] → W p l e (headSpec (wsO yX12_judge cX12_judge 4 (some .int)) { frames := 4, cells := 0, slots := 0, locals := 91 }).room s m [rr G u0, .int u1].toArray below meth c H locs 0 0 (MQ below (Qcn G (some (.int r)) f' n) [rr G u0, .int u1].toArray s 0 0 (WA G)) (F0 m 59 ls []) := by
    intro k59
    induction k59 with
    | zero => intro v0 v1 v2 v3 fa H locs ls hE _ _ _; cases (show (none : Option ((Int32) × Hp)) = some (r, f') from hE)
    | succ k59 ih59 =>
      intro v0 v1 v2 v3 fa H locs ls hE hW hS hl
      replace hE : m_X12_judge_b59 F (m_X12_judge_L59 F k59) v0 v1 v2 v3 fa = some (r, f') := hE
      refine lv_iload_n hx hb dX12_judge_59 rfl (lv_at hl 3 rfl) ?_
      refine lv_iload_n hx hb dX12_judge_60 rfl (lv_at hl 2 rfl) ?_
      refine lv_icmp_ge (tgt := 94) hx hb dX12_judge_61 (by decide) (fun q8 => ?_) (fun q8 => ?_)
      · replace hE := ite_t q8 hE
        refine lv_iconst (v := (0 : Int32)) hx hb dX12_judge_94 (by decide) ?_
        obtain ⟨rfl, rfl⟩ := so2 hE
        exact s_iret hx hb hr hlocks hW hS dX12_judge_95
      · replace hE := ite_f q8 hE
        refine s_aload_n hx hb dX12_judge_64 rfl (lv_at hl 0 rfl) ?_
        refine s_aload_n hx hb dX12_judge_65 rfl (lv_at hl 0 rfl) ?_
        obtain ⟨x9, hx9, hE⟩ := bd hE
        refine s_gR hx hb hT u_X12 hown hK hW hx9 rfl (by decide) fl_X12_7 rfl dX12_judge_66 ?_
        refine lv_iload_n hx hb dX12_judge_69 rfl (lv_at hl 3 rfl) ?_
        refine lv_iconst (v := (1 : Int32)) hx hb dX12_judge_70 (by decide) ?_
        refine lv_isub hx hb dX12_judge_71 ?_
        obtain ⟨x10, hx10, hE⟩ := bd hE
        refine s_ldI hx hb hK hW hS hx10 dX12_judge_72 ?_
        refine s_aload_n hx hb dX12_judge_73 rfl (lv_at hl 0 rfl) ?_
        obtain ⟨x11, hx11, hE⟩ := bd hE
        refine s_gR hx hb hT u_X12 hown hK hW hx11 rfl (by decide) fl_X12_7 rfl dX12_judge_74 ?_
        refine lv_iload_n hx hb dX12_judge_77 rfl (lv_at hl 3 rfl) ?_
        obtain ⟨x12, hx12, hE⟩ := bd hE
        refine s_ldI hx hb hK hW hS hx12 dX12_judge_78 ?_
        refine lv_iload_n hx hb dX12_judge_79 rfl (lv_at hl 1 rfl) ?_
        obtain ⟨c13, hE⟩ := ck hE
        obtain ⟨x14, f15, hx14, hE⟩ := bd2_of hE
        refine s_callV (As := [.int x10, .int x12, .int v1]) (rest := []) CF hK hW hS (S_X12_mayMake l G F hx14) c13 rfl gv_X12_276 hd_X12_mayMake ⟨Nat.le_of_ble_eq_true rfl, Nat.le_of_ble_eq_true rfl⟩ rfl hl.1 rfl (Nat.le_of_ble_eq_true rfl) dX12_judge_80 ⟨Nat.le_refl _, Nat.le_refl _⟩ (fun H locs hW hS => ?_)
        refine lv_if_ne (tgt := 88) hx hb dX12_judge_83 (by decide) (fun q16 => ?_) (fun q16 => ?_)
        · replace hE := ite_f q16 hE
          obtain ⟨y17, ey17⟩ : ∃ y : Int32, y = v3 + (1 : Int32) := ⟨_, rfl⟩
          replace hE := nm_o ey17 hE
          refine lv_iinc (k := 3) (v := y17) (lv' := [(3, .int y17), (0, rr G v0), (1, .int v1), (2, .int v2)]) hx hb dX12_judge_88 hl rfl (by rw [ey17]; rfl) (by decide) rfl (fun ls hl => ?_)
          refine lv_goto (tgt := 59) hx hb dX12_judge_91 (by decide) ?_
          exact ih59 _ _ _ _ _ _ _ _ hE hW hS (lv_sub hl [1, 2, 3, 0] rfl)
        · replace hE := ite_t q16 hE
          refine lv_iload_n hx hb dX12_judge_86 rfl (lv_at hl 3 rfl) ?_
          obtain ⟨rfl, rfl⟩ := so2 hE
          exact s_iret hx hb hr hlocks hW hS dX12_judge_87
  have hC31 : ∀ (k31 : Nat), ∀ (v0 : Option Nat) (v1 : Int32) (v2 : Int32) (v3 : Int32) (fa : Hp) (H : Heap) (locs : List Loc) (ls : Array Slot), m_X12_judge_L31 F k31 v0 v1 v2 v3 fa = some (r, f') → Wd G fa n H → va_S (WA G) s.heap H locs → lv_has ls 4 [(0, rr G v0), (1, .int v1), (2, .int v2), (3, .int v3)] → W p l e (headSpec (wsO yX12_judge cX12_judge 4 (some .int)) { frames := 4, cells := 0, slots := 0, locals := 91 }).room s m [rr G u0, .int u1].toArray below meth c H locs 0 0 (MQ below (Qcn G (some (.int r)) f' n) [rr G u0, .int u1].toArray s 0 0 (WA G)) (F0 m 31 ls []) := by
    intro k31
    induction k31 with
    | zero => intro v0 v1 v2 v3 fa H locs ls hE _ _ _; cases (show (none : Option ((Int32) × Hp)) = some (r, f') from hE)
    | succ k31 ih31 =>
      intro v0 v1 v2 v3 fa H locs ls hE hW hS hl
      replace hE : m_X12_judge_b31 F (m_X12_judge_L31 F k31) v0 v1 v2 v3 fa = some (r, f') := hE
      refine lv_iload_n hx hb dX12_judge_31 rfl (lv_at hl 3 rfl) ?_
      refine lv_iload_n hx hb dX12_judge_32 rfl (lv_at hl 2 rfl) ?_
      refine lv_icmp_ge (tgt := 57) hx hb dX12_judge_33 (by decide) (fun q1 => ?_) (fun q1 => ?_)
      · replace hE := ite_t q1 hE
        refine lv_iconst (v := (1 : Int32)) hx hb dX12_judge_57 (by decide) ?_
        refine lv_istore_n (i := 3) (lv' := [(3, .int (1 : Int32)), (0, rr G v0), (1, .int v1), (2, .int v2)]) hx hb dX12_judge_58 rfl hl (by decide) rfl (fun ls hl => ?_)
        exact hC59 F _ _ _ _ _ _ _ _ hE hW hS (lv_sub hl [1, 2, 3, 0] rfl)
      · replace hE := ite_f q1 hE
        refine s_aload_n hx hb dX12_judge_36 rfl (lv_at hl 0 rfl) ?_
        refine s_aload_n hx hb dX12_judge_37 rfl (lv_at hl 0 rfl) ?_
        obtain ⟨x2, hx2, hE⟩ := bd hE
        refine s_gR hx hb hT u_X12 hown hK hW hx2 rfl (by decide) fl_X12_7 rfl dX12_judge_38 ?_
        refine lv_iload_n hx hb dX12_judge_41 rfl (lv_at hl 3 rfl) ?_
        obtain ⟨x3, hx3, hE⟩ := bd hE
        refine s_ldI hx hb hK hW hS hx3 dX12_judge_42 ?_
        obtain ⟨c4, hE⟩ := ck hE
        obtain ⟨x5, hx5, hE⟩ := bd hE
        refine s_callV (As := [.int x3]) (rest := []) CF hK hW hS (S_X12_isCopy l G F hx5) c4 rfl gv_X12_241 hd_X12_isCopy ⟨Nat.le_of_ble_eq_true rfl, Nat.le_of_ble_eq_true rfl⟩ rfl hl.1 rfl (Nat.le_of_ble_eq_true rfl) dX12_judge_43 ⟨Nat.le_refl _, Nat.le_refl _⟩ (fun H locs hW hS => ?_)
        refine lv_if_ne (tgt := 51) hx hb dX12_judge_46 (by decide) (fun q6 => ?_) (fun q6 => ?_)
        · replace hE := ite_f q6 hE
          obtain ⟨y7, ey7⟩ : ∃ y : Int32, y = v3 + (1 : Int32) := ⟨_, rfl⟩
          replace hE := nm_o ey7 hE
          refine lv_iinc (k := 3) (v := y7) (lv' := [(3, .int y7), (0, rr G v0), (1, .int v1), (2, .int v2)]) hx hb dX12_judge_51 hl rfl (by rw [ey7]; rfl) (by decide) rfl (fun ls hl => ?_)
          refine lv_goto (tgt := 31) hx hb dX12_judge_54 (by decide) ?_
          exact ih31 _ _ _ _ _ _ _ _ hE hW hS (lv_sub hl [1, 2, 3, 0] rfl)
        · replace hE := ite_t q6 hE
          refine lv_iconst (v := (-1 : Int32)) hx hb dX12_judge_49 (by decide) ?_
          obtain ⟨rfl, rfl⟩ := so2 hE
          exact s_iret hx hb hr hlocks hW hS dX12_judge_50
  refine s_aload_n hx hb dX12_judge_0 rfl (lv_at hl 0 rfl) ?_
  refine lv_iconst (v := (0 : Int32)) hx hb dX12_judge_1 (by decide) ?_
  obtain ⟨f18, hf18, hE⟩ := bd hE
  refine s_putI hx hb hT u_X12 tyX12 tyX12_ok nmX12 hown hK hW hS hf18 rfl (by decide) fl_X12_81 rfl (Or.inl rfl) rfl dX12_judge_2 (fun H locs hW hS => ?_)
  refine s_aload_n hx hb dX12_judge_5 rfl (lv_at hl 0 rfl) ?_
  obtain ⟨c19, hE⟩ := ck hE
  obtain ⟨f20, hf20, hE⟩ := bd hE
  refine s_callV (As := []) (rest := []) CF hK hW hS (S_X12_lay l G F hf20) c19 rfl gv_X12_164 hd_X12_lay ⟨Nat.le_of_ble_eq_true rfl, Nat.le_of_ble_eq_true rfl⟩ rfl hl.1 rfl (Nat.le_of_ble_eq_true rfl) dX12_judge_6 ⟨Nat.le_refl _, Nat.le_refl _⟩ (fun H locs hW hS => ?_)
  refine s_aload_n hx hb dX12_judge_9 rfl (lv_at hl 0 rfl) ?_
  obtain ⟨c21, hE⟩ := ck hE
  obtain ⟨x22, f23, hx22, hE⟩ := bd2_of hE
  refine s_callV (As := []) (rest := []) CF hK hW hS (S_X12_take l G F hx22) c21 rfl gv_X12_167 hd_X12_take ⟨Nat.le_of_ble_eq_true rfl, Nat.le_of_ble_eq_true rfl⟩ rfl hl.1 rfl (Nat.le_of_ble_eq_true rfl) dX12_judge_10 ⟨Nat.le_refl _, Nat.le_refl _⟩ (fun H locs hW hS => ?_)
  refine lv_istore_n (i := 2) (lv' := [(2, .int x22), (0, rr G u0), (1, .int u1)]) hx hb dX12_judge_13 rfl hl (by decide) rfl (fun ls hl => ?_)
  refine lv_iload_n hx hb dX12_judge_14 rfl (lv_at hl 0 rfl) ?_
  refine lv_iconst (v := (2 : Int32)) hx hb dX12_judge_15 (by decide) ?_
  refine lv_icmp_lt (tgt := 27) hx hb dX12_judge_16 (by decide) (fun q24 => ?_) (fun q24 => ?_)
  · replace hE := ite_t q24 hE
    refine lv_iconst (v := (-1 : Int32)) hx hb dX12_judge_27 (by decide) ?_
    obtain ⟨rfl, rfl⟩ := so2 hE
    exact s_iret hx hb hr hlocks hW hS dX12_judge_28
  · replace hE := ite_f q24 hE
    refine s_aload_n hx hb dX12_judge_19 rfl (lv_at hl 1 rfl) ?_
    refine lv_iload_n hx hb dX12_judge_20 rfl (lv_at hl 2 rfl) ?_
    obtain ⟨c25, hE⟩ := ck hE
    obtain ⟨x26, hx26, hE⟩ := bd hE
    refine s_callV (As := [.int u1]) (rest := []) CF hK hW hS (S_X12_isDesk l G F hx26) c25 rfl gv_X12_285 hd_X12_isDesk ⟨Nat.le_of_ble_eq_true rfl, Nat.le_of_ble_eq_true rfl⟩ rfl hl.1 rfl (Nat.le_of_ble_eq_true rfl) dX12_judge_21 ⟨Nat.le_refl _, Nat.le_refl _⟩ (fun H locs hW hS => ?_)
    refine lv_if_ne (tgt := 29) hx hb dX12_judge_24 (by decide) (fun q27 => ?_) (fun q27 => ?_)
    · replace hE := ite_f q27 hE
      refine lv_iconst (v := (0 : Int32)) hx hb dX12_judge_29 (by decide) ?_
      refine lv_istore_n (i := 3) (lv' := [(3, .int (0 : Int32)), (2, .int x22), (0, rr G u0), (1, .int u1)]) hx hb dX12_judge_30 rfl hl (by decide) rfl (fun ls hl => ?_)
      exact hC31 F _ _ _ _ _ _ _ _ hE hW hS (lv_sub hl [2, 3, 1, 0] rfl)
    · replace hE := ite_t q27 hE
      refine lv_iconst (v := (-1 : Int32)) hx hb dX12_judge_27 (by decide) ?_
      obtain ⟨rfl, rfl⟩ := so2 hE
      exact s_iret hx hb hr hlocks hW hS dX12_judge_28
set_option maxHeartbeats 4000000 in
set_option maxRecDepth 100000 in
theorem S_X12_just (l : Launch) (G : GG) (F : Nat) {u0 : Option Nat} {u1 : Int32} {u2 : Int32} {u3 : Int32} {u4 : Int32} {f : Hp} {r : Int32} {f' : Hp} {n : Nat} (hE : m_X12_just F u0 u1 u2 u3 u4 f = some (r, f')) : Ctr l G yX12_just cX12_just 8 (some .int) 4 93 [rr G u0, .int u1, .int u2, .int u3, .int u4] f n (some (.int r)) f' n 0 0 := by
  refine Met.ofW (cc := cX12_just) (maxL := 8) (ret := (some .int)) (by decide) rfl ?_
  intro p e s m args below meth c s₁ B hml hv
  obtain ⟨rfl, hK, hW⟩ := hv
  have hx := B.exec
  have hb := B.bytes
  have hr := B.returns
  have hts := atoms_spec (ws := wsO yX12_just cX12_just 8 (some .int)) B.pre
  have hT : ∀ w ∈ TB, w.before [rr G u0, .int u1, .int u2, .int u3, .int u4].toArray s = true := fun w hw => hts w (List.mem_cons_of_mem _ hw)
  have hown : s.vm.findClass RX12 = some m.cls := findClass_of_methodNamed B.named
  have hlocks := B.notSynchronized
  have CF : CallFix p m c cX12_just 8 s [rr G u0, .int u1, .int u2, .int u3, .int u4].toArray TB RX12 := ⟨hx, hb, hml, hown, hT⟩
  have hS : va_S (WA G) s.heap s.heap [] := va_S.rf
  have hl : lv_has (lg_sl ([rr G u0, .int u1, .int u2, .int u3, .int u4]) ++ List.replicate (8 - (lg_sl ([rr G u0, .int u1, .int u2, .int u3, .int u4])).length) Slot.unset).toArray 8 [(0, rr G u0), (1, .int u1), (2, .int u2), (3, .int u3), (4, .int u4)] := by cases u0 <;> exact lv_entry _ (Nat.le_of_ble_eq_true rfl)
  rw [lg_entry_eq]
  generalize (lg_sl ([rr G u0, .int u1, .int u2, .int u3, .int u4]) ++ List.replicate (8 - (lg_sl ([rr G u0, .int u1, .int u2, .int u3, .int u4])).length) Slot.unset).toArray = ls at hl ⊢
  have hC121 : ∀ (s0 : Int32) (fa : Hp) (H : Heap) (locs : List Loc) (ls : Array Slot), m_X12_just_B121 F s0 fa = some (r, f') → Wd G fa n H → va_S (WA G) s.heap H locs → lv_has ls 8 [] → W p l e (headSpec (wsO yX12_just cX12_just 8 (some .int)) { frames := 4, cells := 0, slots := 0, locals := 93 }).room s m [rr G u0, .int u1, .int u2, .int u3, .int u4].toArray below meth c H locs 0 0 (MQ below (Qcn G (some (.int r)) f' n) [rr G u0, .int u1, .int u2, .int u3, .int u4].toArray s 0 0 (WA G)) (F0 m 121 ls [.int s0]) := by
    intro s0 fa H locs ls hE hW hS hl
    refine lv_istore (lv' := [(7, .int s0)]) hx hb dX12_just_121 hl (by decide) rfl (fun ls hl => ?_)
    refine lv_iload hx hb dX12_just_123 (lv_at hl 0 rfl) ?_
    refine lv_if_eq (tgt := 132) hx hb dX12_just_125 (by decide) (fun q1 => ?_) (fun q1 => ?_)
    · replace hE := ite_t q1 hE
      refine lv_iconst (v := (0 : Int32)) hx hb dX12_just_132 (by decide) ?_
      obtain ⟨rfl, rfl⟩ := so2 hE
      exact s_iret hx hb hr hlocks hW hS dX12_just_133
    · replace hE := ite_f q1 hE
      refine lv_iconst (v := (1 : Int32)) hx hb dX12_just_128 (by decide) ?_
      refine lv_goto (tgt := 133) hx hb dX12_just_129 (by decide) ?_
      obtain ⟨rfl, rfl⟩ := so2 hE
      exact s_iret hx hb hr hlocks hW hS dX12_just_133
  have hC81 : ∀ (fa : Hp) (H : Heap) (locs : List Loc) (ls : Array Slot), m_X12_just_B81 F  fa = some (r, f') → Wd G fa n H → va_S (WA G) s.heap H locs → lv_has ls 8 [] → W p l e (headSpec (wsO yX12_just cX12_just 8 (some .int)) { frames := 4, cells := 0, slots := 0, locals := 93 }).room s m [rr G u0, .int u1, .int u2, .int u3, .int u4].toArray below meth c H locs 0 0 (MQ below (Qcn G (some (.int r)) f' n) [rr G u0, .int u1, .int u2, .int u3, .int u4].toArray s 0 0 (WA G)) (F0 m 81 ls []) := by
    intro  fa H locs ls hE hW hS hl
    refine lv_iconst (v := (0 : Int32)) hx hb dX12_just_81 (by decide) ?_
    refine lv_goto (tgt := 121) hx hb dX12_just_82 (by decide) ?_
    exact hC121 _ _ _ _ _ hE hW hS (lv_sub hl [] rfl)
  have hC120 : ∀ (fa : Hp) (H : Heap) (locs : List Loc) (ls : Array Slot), m_X12_just_B120 F  fa = some (r, f') → Wd G fa n H → va_S (WA G) s.heap H locs → lv_has ls 8 [] → W p l e (headSpec (wsO yX12_just cX12_just 8 (some .int)) { frames := 4, cells := 0, slots := 0, locals := 93 }).room s m [rr G u0, .int u1, .int u2, .int u3, .int u4].toArray below meth c H locs 0 0 (MQ below (Qcn G (some (.int r)) f' n) [rr G u0, .int u1, .int u2, .int u3, .int u4].toArray s 0 0 (WA G)) (F0 m 120 ls []) := by
    intro  fa H locs ls hE hW hS hl
    refine lv_iconst (v := (0 : Int32)) hx hb dX12_just_120 (by decide) ?_
    exact hC121 _ _ _ _ _ hE hW hS (lv_sub hl [] rfl)
  refine s_aload_n hx hb dX12_just_0 rfl (lv_at hl 0 rfl) ?_
  refine lv_iconst (v := (0 : Int32)) hx hb dX12_just_1 (by decide) ?_
  obtain ⟨f2, hf2, hE⟩ := bd hE
  refine s_putI hx hb hT u_X12 tyX12 tyX12_ok nmX12 hown hK hW hS hf2 rfl (by decide) fl_X12_81 rfl (Or.inl rfl) rfl dX12_just_2 (fun H locs hW hS => ?_)
  refine s_aload_n hx hb dX12_just_5 rfl (lv_at hl 0 rfl) ?_
  obtain ⟨c3, hE⟩ := ck hE
  obtain ⟨f4, hf4, hE⟩ := bd hE
  refine s_callV (As := []) (rest := []) CF hK hW hS (S_X12_lay l G F hf4) c3 rfl gv_X12_164 hd_X12_lay ⟨Nat.le_of_ble_eq_true rfl, Nat.le_of_ble_eq_true rfl⟩ rfl hl.1 rfl (Nat.le_of_ble_eq_true rfl) dX12_just_6 ⟨Nat.le_refl _, Nat.le_refl _⟩ (fun H locs hW hS => ?_)
  refine s_aload_n hx hb dX12_just_9 rfl (lv_at hl 0 rfl) ?_
  refine lv_iload_n hx hb dX12_just_10 rfl (lv_at hl 1 rfl) ?_
  refine lv_iload_n hx hb dX12_just_11 rfl (lv_at hl 2 rfl) ?_
  obtain ⟨c5, hE⟩ := ck hE
  obtain ⟨x6, hx6, hE⟩ := bd hE
  refine s_callV (As := [.int u1, .int u2]) (rest := []) CF hK hW hS (S_X12_areWhole l G F hx6) c5 rfl gv_X12_282 hd_X12_areWhole ⟨Nat.le_of_ble_eq_true rfl, Nat.le_of_ble_eq_true rfl⟩ rfl hl.1 rfl (Nat.le_of_ble_eq_true rfl) dX12_just_12 ⟨Nat.le_refl _, Nat.le_refl _⟩ (fun H locs hW hS => ?_)
  refine lv_if_eq (tgt := 31) hx hb dX12_just_15 (by decide) (fun q7 => ?_) (fun q7 => ?_)
  · replace hE := ite_t q7 hE
    refine lv_iconst (v := (-1 : Int32)) hx hb dX12_just_31 (by decide) ?_
    obtain ⟨rfl, rfl⟩ := so2 hE
    exact s_iret hx hb hr hlocks hW hS dX12_just_32
  · replace hE := ite_f q7 hE
    refine s_aload_n hx hb dX12_just_18 rfl (lv_at hl 0 rfl) ?_
    refine lv_iload_n hx hb dX12_just_19 rfl (lv_at hl 3 rfl) ?_
    obtain ⟨c8, hE⟩ := ck hE
    obtain ⟨x9, hx9, hE⟩ := bd hE
    refine s_callV (As := [.int u3]) (rest := []) CF hK hW hS (S_X12_isDesk l G F hx9) c8 rfl gv_X12_285 hd_X12_isDesk ⟨Nat.le_of_ble_eq_true rfl, Nat.le_of_ble_eq_true rfl⟩ rfl hl.1 rfl (Nat.le_of_ble_eq_true rfl) dX12_just_20 ⟨Nat.le_refl _, Nat.le_refl _⟩ (fun H locs hW hS => ?_)
    refine lv_if_eq (tgt := 31) hx hb dX12_just_23 (by decide) (fun q10 => ?_) (fun q10 => ?_)
    · replace hE := ite_t q10 hE
      refine lv_iconst (v := (-1 : Int32)) hx hb dX12_just_31 (by decide) ?_
      obtain ⟨rfl, rfl⟩ := so2 hE
      exact s_iret hx hb hr hlocks hW hS dX12_just_32
    · replace hE := ite_f q10 hE
      refine lv_iload hx hb dX12_just_26 (lv_at hl 4 rfl) ?_
      refine lv_if_ge (tgt := 33) hx hb dX12_just_28 (by decide) (fun q11 => ?_) (fun q11 => ?_)
      · replace hE := ite_t q11 hE
        refine s_aload_n hx hb dX12_just_33 rfl (lv_at hl 0 rfl) ?_
        refine lv_iload_n hx hb dX12_just_34 rfl (lv_at hl 1 rfl) ?_
        refine lv_iload_n hx hb dX12_just_35 rfl (lv_at hl 2 rfl) ?_
        refine lv_iload_n hx hb dX12_just_36 rfl (lv_at hl 3 rfl) ?_
        obtain ⟨c12, hE⟩ := ck hE
        obtain ⟨x13, f14, hx13, hE⟩ := bd2_of hE
        refine s_callV (As := [.int u1, .int u2, .int u3]) (rest := []) CF hK hW hS (S_X12_fewestOf l G F hx13) c12 rfl gv_X12_288 hd_X12_fewestOf ⟨Nat.le_of_ble_eq_true rfl, Nat.le_of_ble_eq_true rfl⟩ rfl hl.1 rfl (Nat.le_of_ble_eq_true rfl) dX12_just_37 ⟨Nat.le_refl _, Nat.le_refl _⟩ (fun H locs hW hS => ?_)
        refine lv_istore (lv' := [(5, .int x13), (0, rr G u0), (1, .int u1), (2, .int u2), (3, .int u3), (4, .int u4)]) hx hb dX12_just_40 hl (by decide) rfl (fun ls hl => ?_)
        refine s_aload_n hx hb dX12_just_42 rfl (lv_at hl 1 rfl) ?_
        obtain ⟨x15, hx15, hE⟩ := bd hE
        refine s_gR hx hb hT u_X12 hown hK hW hx15 rfl (by decide) fl_X12_13 rfl dX12_just_43 ?_
        refine lv_bipush (v := (90 : Int32)) hx hb dX12_just_46 (by decide) ?_
        refine lv_iconst (v := (2 : Int32)) hx hb dX12_just_48 (by decide) ?_
        refine lv_iload_n hx hb dX12_just_49 rfl (lv_at hl 4 rfl) ?_
        refine lv_imul hx hb dX12_just_50 ?_
        refine lv_iadd hx hb dX12_just_51 ?_
        obtain ⟨x16, hx16, hE⟩ := bd hE
        refine s_ldI hx hb hK hW hS hx16 dX12_just_52 ?_
        refine lv_istore (lv' := [(6, .int x16), (5, .int x13), (0, rr G u0), (1, .int u1), (2, .int u2), (3, .int u3), (4, .int u4)]) hx hb dX12_just_53 hl (by decide) rfl (fun ls hl => ?_)
        refine lv_iload hx hb dX12_just_55 (lv_at hl 0 rfl) ?_
        refine lv_if_ne (tgt := 85) hx hb dX12_just_57 (by decide) (fun q17 => ?_) (fun q17 => ?_)
        · replace hE := ite_f q17 hE
          refine lv_iload hx hb dX12_just_85 (lv_at hl 0 rfl) ?_
          refine lv_iconst (v := (1 : Int32)) hx hb dX12_just_87 (by decide) ?_
          refine lv_icmp_ne (tgt := 106) hx hb dX12_just_88 (by decide) (fun q18 => ?_) (fun q18 => ?_)
          · replace hE := ite_f q18 hE
            refine lv_iload hx hb dX12_just_106 (lv_at hl 6 rfl) ?_
            refine lv_if_ne (tgt := 120) hx hb dX12_just_108 (by decide) (fun q19 => ?_) (fun q19 => ?_)
            · replace hE := ite_f q19 hE
              exact hC120 _ _ _ _ hE hW hS (lv_sub hl [] rfl)
            · replace hE := ite_t q19 hE
              refine lv_iload hx hb dX12_just_111 (lv_at hl 1 rfl) ?_
              refine lv_if_ne (tgt := 120) hx hb dX12_just_113 (by decide) (fun q20 => ?_) (fun q20 => ?_)
              · replace hE := ite_f q20 hE
                exact hC120 _ _ _ _ hE hW hS (lv_sub hl [] rfl)
              · replace hE := ite_t q20 hE
                refine lv_iconst (v := (1 : Int32)) hx hb dX12_just_116 (by decide) ?_
                refine lv_goto (tgt := 121) hx hb dX12_just_117 (by decide) ?_
                exact hC121 _ _ _ _ _ hE hW hS (lv_sub hl [] rfl)
          · replace hE := ite_t q18 hE
            refine lv_iload hx hb dX12_just_91 (lv_at hl 6 rfl) ?_
            refine lv_iload hx hb dX12_just_93 (lv_at hl 1 rfl) ?_
            refine lv_icmp_lt (tgt := 102) hx hb dX12_just_95 (by decide) (fun q21 => ?_) (fun q21 => ?_)
            · replace hE := ite_t q21 hE
              refine lv_iconst (v := (0 : Int32)) hx hb dX12_just_102 (by decide) ?_
              refine lv_goto (tgt := 121) hx hb dX12_just_103 (by decide) ?_
              exact hC121 _ _ _ _ _ hE hW hS (lv_sub hl [] rfl)
            · replace hE := ite_f q21 hE
              refine lv_iconst (v := (1 : Int32)) hx hb dX12_just_98 (by decide) ?_
              refine lv_goto (tgt := 121) hx hb dX12_just_99 (by decide) ?_
              exact hC121 _ _ _ _ _ hE hW hS (lv_sub hl [] rfl)
        · replace hE := ite_t q17 hE
          refine lv_iload hx hb dX12_just_60 (lv_at hl 6 rfl) ?_
          refine lv_iload hx hb dX12_just_62 (lv_at hl 1 rfl) ?_
          refine lv_icmp_lt (tgt := 81) hx hb dX12_just_64 (by decide) (fun q22 => ?_) (fun q22 => ?_)
          · replace hE := ite_t q22 hE
            exact hC81 _ _ _ _ hE hW hS (lv_sub hl [] rfl)
          · replace hE := ite_f q22 hE
            refine lv_iload hx hb dX12_just_67 (lv_at hl 6 rfl) ?_
            refine lv_iload hx hb dX12_just_69 (lv_at hl 1 rfl) ?_
            refine lv_isub hx hb dX12_just_71 ?_
            refine lv_iconst (v := (2 : Int32)) hx hb dX12_just_72 (by decide) ?_
            obtain ⟨c23, hE⟩ := ck hE
            refine lv_irem hx hb dX12_just_73 (of_decide_eq_true c23) ?_
            refine lv_if_ne (tgt := 81) hx hb dX12_just_74 (by decide) (fun q24 => ?_) (fun q24 => ?_)
            · replace hE := ite_f q24 hE
              exact hC81 _ _ _ _ hE hW hS (lv_sub hl [] rfl)
            · replace hE := ite_t q24 hE
              refine lv_iconst (v := (1 : Int32)) hx hb dX12_just_77 (by decide) ?_
              refine lv_goto (tgt := 121) hx hb dX12_just_78 (by decide) ?_
              exact hC121 _ _ _ _ _ hE hW hS (lv_sub hl [] rfl)
      · replace hE := ite_f q11 hE
        refine lv_iconst (v := (-1 : Int32)) hx hb dX12_just_31 (by decide) ?_
        obtain ⟨rfl, rfl⟩ := so2 hE
        exact s_iret hx hb hr hlocks hW hS dX12_just_32
set_option maxHeartbeats 4000000 in
set_option maxRecDepth 100000 in
theorem S_X12_layApart (l : Launch) (G : GG) (F : Nat) {u0 : Option Nat} {f : Hp} {f' : Hp} {n : Nat} (hE : m_X12_layApart F u0 f = some f') : Ctr l G yX12_layApart cX12_layApart 3 none 3 67 [rr G u0] f n none f' n 0 0 := by
  refine Met.ofW (cc := cX12_layApart) (maxL := 3) (ret := none) (by decide) rfl ?_
  intro p e s m args below meth c s₁ B hml hv
  obtain ⟨rfl, hK, hW⟩ := hv
  have hx := B.exec
  have hb := B.bytes
  have hr := B.returns
  have hts := atoms_spec (ws := wsO yX12_layApart cX12_layApart 3 none) B.pre
  have hT : ∀ w ∈ TB, w.before [rr G u0].toArray s = true := fun w hw => hts w (List.mem_cons_of_mem _ hw)
  have hown : s.vm.findClass RX12 = some m.cls := findClass_of_methodNamed B.named
  have hlocks := B.notSynchronized
  have CF : CallFix p m c cX12_layApart 3 s [rr G u0].toArray TB RX12 := ⟨hx, hb, hml, hown, hT⟩
  have hS : va_S (WA G) s.heap s.heap [] := va_S.rf
  have hl : lv_has (lg_sl ([rr G u0]) ++ List.replicate (3 - (lg_sl ([rr G u0])).length) Slot.unset).toArray 3 [(0, rr G u0)] := by cases u0 <;> exact lv_entry _ (Nat.le_of_ble_eq_true rfl)
  rw [lg_entry_eq]
  generalize (lg_sl ([rr G u0]) ++ List.replicate (3 - (lg_sl ([rr G u0])).length) Slot.unset).toArray = ls at hl ⊢
  have hC2 : ∀ (k2 : Nat), ∀ (v0 : Option Nat) (v1 : Int32) (fa : Hp) (H : Heap) (locs : List Loc) (ls : Array Slot), m_X12_layApart_L2 F k2 v0 v1 fa = some f' → Wd G fa n H → va_S (WA G) s.heap H locs → lv_has ls 3 [(0, rr G v0), (1, .int v1)] → W p l e (headSpec (wsO yX12_layApart cX12_layApart 3 none) { frames := 3, cells := 0, slots := 0, locals := 67 }).room s m [rr G u0].toArray below meth c H locs 0 0 (MQ below (Qcn G none f' n) [rr G u0].toArray s 0 0 (WA G)) (F0 m 2 ls []) := by
    intro k2
    induction k2 with
    | zero => intro v0 v1 fa H locs ls hE _ _ _; cases (show (none : Option Hp) = some f' from hE)
    | succ k2 ih2 =>
      have hC12 : ∀ (k12 : Nat), ∀ (v0 : Option Nat) (v1 : Int32) (v2 : Int32) (fa : Hp) (H : Heap) (locs : List Loc) (ls : Array Slot), m_X12_layApart_L12 F (m_X12_layApart_L2 F k2) k12 v0 v1 v2 fa = some f' → Wd G fa n H → va_S (WA G) s.heap H locs → lv_has ls 3 [(0, rr G v0), (1, .int v1), (2, .int v2)] → W p l e (headSpec (wsO yX12_layApart cX12_layApart 3 none) { frames := 3, cells := 0, slots := 0, locals := 67 }).room s m [rr G u0].toArray below meth c H locs 0 0 (MQ below (Qcn G none f' n) [rr G u0].toArray s 0 0 (WA G)) (F0 m 12 ls []) := by
        intro k12
        induction k12 with
        | zero => intro v0 v1 v2 fa H locs ls hE _ _ _; cases (show (none : Option Hp) = some f' from hE)
        | succ k12 ih12 =>
          intro v0 v1 v2 fa H locs ls hE hW hS hl
          replace hE : m_X12_layApart_b12 F (m_X12_layApart_L2 F k2) (m_X12_layApart_L12 F (m_X12_layApart_L2 F k2) k12) v0 v1 v2 fa = some f' := hE
          refine lv_iload_n hx hb dX12_layApart_12 rfl (lv_at hl 2 rfl) ?_
          refine s_aload_n hx hb dX12_layApart_13 rfl (lv_at hl 0 rfl) ?_
          obtain ⟨x3, hx3, hE⟩ := bd hE
          refine s_gI hx hb hT u_X12 hown hK hW hx3 rfl (by decide) fl_X12_298 rfl dX12_layApart_14 ?_
          refine lv_icmp_ge (tgt := 57) hx hb dX12_layApart_17 (by decide) (fun q4 => ?_) (fun q4 => ?_)
          · replace hE := ite_t q4 hE
            obtain ⟨y5, ey5⟩ : ∃ y : Int32, y = v1 + (1 : Int32) := ⟨_, rfl⟩
            replace hE := nm_o ey5 hE
            refine lv_iinc (k := 1) (v := y5) (lv' := [(1, .int y5), (0, rr G v0), (2, .int v2)]) hx hb dX12_layApart_57 hl rfl (by rw [ey5]; rfl) (by decide) (by simp [cat_rr]) (fun ls hl => ?_)
            refine lv_goto (tgt := 2) hx hb dX12_layApart_60 (by decide) ?_
            exact ih2 _ _ _ _ _ _ hE hW hS (lv_sub hl [1, 0] rfl)
          · replace hE := ite_f q4 hE
            refine s_aload_n hx hb dX12_layApart_20 rfl (lv_at hl 0 rfl) ?_
            refine s_aload_n hx hb dX12_layApart_21 rfl (lv_at hl 0 rfl) ?_
            obtain ⟨x6, hx6, hE⟩ := bd hE
            refine s_gR hx hb hT u_X12 hown hK hW hx6 rfl (by decide) fl_X12_48 rfl dX12_layApart_22 ?_
            refine lv_iload_n hx hb dX12_layApart_25 rfl (lv_at hl 1 rfl) ?_
            obtain ⟨x7, hx7, hE⟩ := bd hE
            refine s_ldI hx hb hK hW hS hx7 dX12_layApart_26 ?_
            refine s_aload_n hx hb dX12_layApart_27 rfl (lv_at hl 0 rfl) ?_
            obtain ⟨x8, hx8, hE⟩ := bd hE
            refine s_gR hx hb hT u_X12 hown hK hW hx8 rfl (by decide) fl_X12_48 rfl dX12_layApart_28 ?_
            refine lv_iload_n hx hb dX12_layApart_31 rfl (lv_at hl 2 rfl) ?_
            obtain ⟨x9, hx9, hE⟩ := bd hE
            refine s_ldI hx hb hK hW hS hx9 dX12_layApart_32 ?_
            obtain ⟨c10, hE⟩ := ck hE
            obtain ⟨f11, hf11, hE⟩ := bd hE
            refine s_callV (As := [.int x7, .int x9]) (rest := []) CF hK hW hS (S_X12_layCopies l G F hf11) c10 rfl gv_X12_269 hd_X12_layCopies ⟨Nat.le_of_ble_eq_true rfl, Nat.le_of_ble_eq_true rfl⟩ rfl hl.1 rfl (Nat.le_of_ble_eq_true rfl) dX12_layApart_33 ⟨Nat.le_refl _, Nat.le_refl _⟩ (fun H locs hW hS => ?_)
            refine s_aload_n hx hb dX12_layApart_36 rfl (lv_at hl 0 rfl) ?_
            obtain ⟨x12, hx12, hE⟩ := bd hE
            refine s_gR hx hb hT u_X12 hown hK hW hx12 rfl (by decide) fl_X12_54 rfl dX12_layApart_37 ?_
            refine lv_bipush (v := (10 : Int32)) hx hb dX12_layApart_40 (by decide) ?_
            refine lv_iload_n hx hb dX12_layApart_42 rfl (lv_at hl 1 rfl) ?_
            refine lv_imul hx hb dX12_layApart_43 ?_
            refine lv_iload_n hx hb dX12_layApart_44 rfl (lv_at hl 2 rfl) ?_
            refine lv_iadd hx hb dX12_layApart_45 ?_
            refine s_aload_n hx hb dX12_layApart_46 rfl (lv_at hl 0 rfl) ?_
            obtain ⟨c13, hE⟩ := ck hE
            obtain ⟨x14, hx14, hE⟩ := bd hE
            refine s_callV (As := []) (rest := [.int (((10 : Int32) * v1) + v2), rr G x12]) CF hK hW hS (S_X12_far l G F hx14) c13 rfl gv_X12_273 hd_X12_far ⟨Nat.le_of_ble_eq_true rfl, Nat.le_of_ble_eq_true rfl⟩ rfl hl.1 rfl (Nat.le_of_ble_eq_true rfl) dX12_layApart_47 ⟨Nat.le_refl _, Nat.le_refl _⟩ (fun H locs hW hS => ?_)
            obtain ⟨f15, hf15, hE⟩ := bd hE
            refine s_stI hx hb hK hW hS hf15 dX12_layApart_50 (fun H locs hW hS => ?_)
            obtain ⟨y16, ey16⟩ : ∃ y : Int32, y = v2 + (1 : Int32) := ⟨_, rfl⟩
            replace hE := nm_o ey16 hE
            refine lv_iinc (k := 2) (v := y16) (lv' := [(2, .int y16), (0, rr G v0), (1, .int v1)]) hx hb dX12_layApart_51 hl rfl (by rw [ey16]; rfl) (by decide) rfl (fun ls hl => ?_)
            refine lv_goto (tgt := 12) hx hb dX12_layApart_54 (by decide) ?_
            exact ih12 _ _ _ _ _ _ _ hE hW hS (lv_sub hl [1, 2, 0] rfl)
      intro v0 v1 fa H locs ls hE hW hS hl
      replace hE : m_X12_layApart_b2 F (m_X12_layApart_L2 F k2) v0 v1 fa = some f' := hE
      refine lv_iload_n hx hb dX12_layApart_2 rfl (lv_at hl 1 rfl) ?_
      refine s_aload_n hx hb dX12_layApart_3 rfl (lv_at hl 0 rfl) ?_
      obtain ⟨x1, hx1, hE⟩ := bd hE
      refine s_gI hx hb hT u_X12 hown hK hW hx1 rfl (by decide) fl_X12_298 rfl dX12_layApart_4 ?_
      refine lv_icmp_ge (tgt := 63) hx hb dX12_layApart_7 (by decide) (fun q2 => ?_) (fun q2 => ?_)
      · replace hE := ite_t q2 hE
        obtain rfl := so1 hE
        exact s_vret hx hb hr hlocks hW hS dX12_layApart_63
      · replace hE := ite_f q2 hE
        refine lv_iconst (v := (0 : Int32)) hx hb dX12_layApart_10 (by decide) ?_
        refine lv_istore_n (i := 2) (lv' := [(2, .int (0 : Int32)), (0, rr G v0), (1, .int v1)]) hx hb dX12_layApart_11 rfl hl (by decide) rfl (fun ls hl => ?_)
        exact hC12 F _ _ _ _ _ _ _ hE hW hS (lv_sub hl [1, 2, 0] rfl)
  refine lv_iconst (v := (0 : Int32)) hx hb dX12_layApart_0 (by decide) ?_
  refine lv_istore_n (i := 1) (lv' := [(1, .int (0 : Int32)), (0, rr G u0)]) hx hb dX12_layApart_1 rfl hl (by decide) (by simp [cat_rr]) (fun ls hl => ?_)
  exact hC2 F _ _ _ _ _ _ hE hW hS (lv_sub hl [1, 0] rfl)
set_option maxHeartbeats 4000000 in
set_option maxRecDepth 100000 in
theorem S_X12_lays (l : Launch) (G : GG) (F : Nat) {u0 : Option Nat} {u1 : Int32} {u2 : Int32} {u3 : Int32} {u4 : Int32} {f : Hp} {r : Int32} {f' : Hp} {n : Nat} (hE : m_X12_lays F u0 u1 u2 u3 u4 f = some (r, f')) : Ctr l G yX12_lays cX12_lays 6 (some .int) 0 0 [rr G u0, .int u1, .int u2, .int u3, .int u4] f n (some (.int r)) f' n 0 0 := by
  refine Met.ofW (cc := cX12_lays) (maxL := 6) (ret := (some .int)) (by decide) rfl ?_
  intro p e s m args below meth c s₁ B hml hv
  obtain ⟨rfl, hK, hW⟩ := hv
  have hx := B.exec
  have hb := B.bytes
  have hr := B.returns
  have hts := atoms_spec (ws := wsO yX12_lays cX12_lays 6 (some .int)) B.pre
  have hT : ∀ w ∈ TB, w.before [rr G u0, .int u1, .int u2, .int u3, .int u4].toArray s = true := fun w hw => hts w (List.mem_cons_of_mem _ hw)
  have hown : s.vm.findClass RX12 = some m.cls := findClass_of_methodNamed B.named
  have hlocks := B.notSynchronized
  have CF : CallFix p m c cX12_lays 6 s [rr G u0, .int u1, .int u2, .int u3, .int u4].toArray TB RX12 := ⟨hx, hb, hml, hown, hT⟩
  have hS : va_S (WA G) s.heap s.heap [] := va_S.rf
  have hl : lv_has (lg_sl ([rr G u0, .int u1, .int u2, .int u3, .int u4]) ++ List.replicate (6 - (lg_sl ([rr G u0, .int u1, .int u2, .int u3, .int u4])).length) Slot.unset).toArray 6 [(0, rr G u0), (1, .int u1), (2, .int u2), (3, .int u3), (4, .int u4)] := by cases u0 <;> exact lv_entry _ (Nat.le_of_ble_eq_true rfl)
  rw [lg_entry_eq]
  generalize (lg_sl ([rr G u0, .int u1, .int u2, .int u3, .int u4]) ++ List.replicate (6 - (lg_sl ([rr G u0, .int u1, .int u2, .int u3, .int u4])).length) Slot.unset).toArray = ls at hl ⊢
  refine lv_iconst (v := (4 : Int32)) hx hb dX12_lays_0 (by decide) ?_
  refine s_aload_n hx hb dX12_lays_1 rfl (lv_at hl 0 rfl) ?_
  obtain ⟨x1, hx1, hE⟩ := bd hE
  refine s_gI hx hb hT u_X12 hown hK hW hx1 rfl (by decide) fl_X12_349 rfl dX12_lays_2 ?_
  refine lv_imul hx hb dX12_lays_5 ?_
  refine lv_topi (fun y2 ey2 => ?_)
  replace hE := nm_o ey2 hE
  refine lv_istore (lv' := [(5, .int y2), (0, rr G u0), (1, .int u1), (2, .int u2), (3, .int u3), (4, .int u4)]) hx hb dX12_lays_6 hl (by decide) rfl (fun ls hl => ?_)
  refine s_aload_n hx hb dX12_lays_8 rfl (lv_at hl 1 rfl) ?_
  obtain ⟨x3, hx3, hE⟩ := bd hE
  refine s_gR hx hb hT u_X12 hown hK hW hx3 rfl (by decide) fl_X12_78 rfl dX12_lays_9 ?_
  refine lv_iload hx hb dX12_lays_12 (lv_at hl 0 rfl) ?_
  refine lv_iload_n hx hb dX12_lays_14 rfl (lv_at hl 2 rfl) ?_
  obtain ⟨f4, hf4, hE⟩ := bd hE
  refine s_stI hx hb hK hW hS hf4 dX12_lays_15 (fun H locs hW hS => ?_)
  refine s_aload_n hx hb dX12_lays_16 rfl (lv_at hl 1 rfl) ?_
  obtain ⟨x5, hx5, hE⟩ := bd hE
  refine s_gR hx hb hT u_X12 hown hK hW hx5 rfl (by decide) fl_X12_78 rfl dX12_lays_17 ?_
  refine lv_iload hx hb dX12_lays_20 (lv_at hl 0 rfl) ?_
  refine lv_iconst (v := (1 : Int32)) hx hb dX12_lays_22 (by decide) ?_
  refine lv_iadd hx hb dX12_lays_23 ?_
  refine lv_iload_n hx hb dX12_lays_24 rfl (lv_at hl 3 rfl) ?_
  obtain ⟨f6, hf6, hE⟩ := bd hE
  refine s_stI hx hb hK hW hS hf6 dX12_lays_25 (fun H locs hW hS => ?_)
  refine s_aload_n hx hb dX12_lays_26 rfl (lv_at hl 1 rfl) ?_
  obtain ⟨x7, hx7, hE⟩ := bd hE
  refine s_gR hx hb hT u_X12 hown hK hW hx7 rfl (by decide) fl_X12_78 rfl dX12_lays_27 ?_
  refine lv_iload hx hb dX12_lays_30 (lv_at hl 0 rfl) ?_
  refine lv_iconst (v := (2 : Int32)) hx hb dX12_lays_32 (by decide) ?_
  refine lv_iadd hx hb dX12_lays_33 ?_
  refine lv_iload_n hx hb dX12_lays_34 rfl (lv_at hl 4 rfl) ?_
  obtain ⟨f8, hf8, hE⟩ := bd hE
  refine s_stI hx hb hK hW hS hf8 dX12_lays_35 (fun H locs hW hS => ?_)
  refine s_aload_n hx hb dX12_lays_36 rfl (lv_at hl 1 rfl) ?_
  obtain ⟨x9, hx9, hE⟩ := bd hE
  refine s_gR hx hb hT u_X12 hown hK hW hx9 rfl (by decide) fl_X12_78 rfl dX12_lays_37 ?_
  refine lv_iload hx hb dX12_lays_40 (lv_at hl 0 rfl) ?_
  refine lv_iconst (v := (3 : Int32)) hx hb dX12_lays_42 (by decide) ?_
  refine lv_iadd hx hb dX12_lays_43 ?_
  refine lv_iload hx hb dX12_lays_44 (lv_at hl 5 rfl) ?_
  obtain ⟨f10, hf10, hE⟩ := bd hE
  refine s_stI hx hb hK hW hS hf10 dX12_lays_46 (fun H locs hW hS => ?_)
  refine s_aload_n hx hb dX12_lays_47 rfl (lv_at hl 1 rfl) ?_
  refine lv_dup hx hb dX12_lays_48 (cat_rr G _) ?_
  obtain ⟨x11, hx11, hE⟩ := bd hE
  refine s_gI hx hb hT u_X12 hown hK hW hx11 rfl (by decide) fl_X12_349 rfl dX12_lays_49 ?_
  refine lv_iconst (v := (1 : Int32)) hx hb dX12_lays_52 (by decide) ?_
  refine lv_iadd hx hb dX12_lays_53 ?_
  obtain ⟨f12, hf12, hE⟩ := bd hE
  refine s_putI hx hb hT u_X12 tyX12 tyX12_ok nmX12 hown hK hW hS hf12 rfl (by decide) fl_X12_349 rfl (Or.inl rfl) rfl dX12_lays_54 (fun H locs hW hS => ?_)
  refine s_aload_n hx hb dX12_lays_57 rfl (lv_at hl 1 rfl) ?_
  obtain ⟨x13, hx13, hE⟩ := bd hE
  refine s_gI hx hb hT u_X12 hown hK hW hx13 rfl (by decide) fl_X12_349 rfl dX12_lays_58 ?_
  refine lv_iconst (v := (1 : Int32)) hx hb dX12_lays_61 (by decide) ?_
  refine lv_isub hx hb dX12_lays_62 ?_
  obtain ⟨rfl, rfl⟩ := so2 hE
  exact s_iret hx hb hr hlocks hW hS dX12_lays_63
set_option maxHeartbeats 4000000 in
set_option maxRecDepth 100000 in
theorem S_X12_orderOf (l : Launch) (G : GG) (F : Nat) {u0 : Option Nat} {u1 : Int32} {f : Hp} {r : Int32} {f' : Hp} {n : Nat} (hE : m_X12_orderOf F u0 u1 f = some (r, f')) : Ctr l G yX12_orderOf cX12_orderOf 3 (some .int) 2 44 [rr G u0, .int u1] f n (some (.int r)) f' n 0 0 := by
  refine Met.ofW (cc := cX12_orderOf) (maxL := 3) (ret := (some .int)) (by decide) rfl ?_
  intro p e s m args below meth c s₁ B hml hv
  obtain ⟨rfl, hK, hW⟩ := hv
  have hx := B.exec
  have hb := B.bytes
  have hr := B.returns
  have hts := atoms_spec (ws := wsO yX12_orderOf cX12_orderOf 3 (some .int)) B.pre
  have hT : ∀ w ∈ TB, w.before [rr G u0, .int u1].toArray s = true := fun w hw => hts w (List.mem_cons_of_mem _ hw)
  have hown : s.vm.findClass RX12 = some m.cls := findClass_of_methodNamed B.named
  have hlocks := B.notSynchronized
  have CF : CallFix p m c cX12_orderOf 3 s [rr G u0, .int u1].toArray TB RX12 := ⟨hx, hb, hml, hown, hT⟩
  have hS : va_S (WA G) s.heap s.heap [] := va_S.rf
  have hl : lv_has (lg_sl ([rr G u0, .int u1]) ++ List.replicate (3 - (lg_sl ([rr G u0, .int u1])).length) Slot.unset).toArray 3 [(0, rr G u0), (1, .int u1)] := by cases u0 <;> exact lv_entry _ (Nat.le_of_ble_eq_true rfl)
  rw [lg_entry_eq]
  generalize (lg_sl ([rr G u0, .int u1]) ++ List.replicate (3 - (lg_sl ([rr G u0, .int u1])).length) Slot.unset).toArray = ls at hl ⊢
  have hC2 : ∀ (k2 : Nat), ∀ (v0 : Option Nat) (v1 : Int32) (v2 : Int32) (fa : Hp) (H : Heap) (locs : List Loc) (ls : Array Slot), m_X12_orderOf_L2 F k2 v0 v1 v2 fa = some (r, f') → Wd G fa n H → va_S (WA G) s.heap H locs → lv_has ls 3 [(0, rr G v0), (1, .int v1), (2, .int v2)] → W p l e (headSpec (wsO yX12_orderOf cX12_orderOf 3 (some .int)) { frames := 2, cells := 0, slots := 0, locals := 44 }).room s m [rr G u0, .int u1].toArray below meth c H locs 0 0 (MQ below (Qcn G (some (.int r)) f' n) [rr G u0, .int u1].toArray s 0 0 (WA G)) (F0 m 2 ls []) := by
    intro k2
    induction k2 with
    | zero => intro v0 v1 v2 fa H locs ls hE _ _ _; cases (show (none : Option ((Int32) × Hp)) = some (r, f') from hE)
    | succ k2 ih2 =>
      intro v0 v1 v2 fa H locs ls hE hW hS hl
      replace hE : m_X12_orderOf_b2 F (m_X12_orderOf_L2 F k2) v0 v1 v2 fa = some (r, f') := hE
      refine lv_iload_n hx hb dX12_orderOf_2 rfl (lv_at hl 2 rfl) ?_
      refine s_aload_n hx hb dX12_orderOf_3 rfl (lv_at hl 0 rfl) ?_
      obtain ⟨c1, hE⟩ := ck hE
      obtain ⟨x2, hx2, hE⟩ := bd hE
      refine s_callV (As := []) (rest := [.int v2]) CF hK hW hS (S_X12_lines l G F hx2) c1 rfl gv_X12_185 hd_X12_lines ⟨Nat.le_of_ble_eq_true rfl, Nat.le_of_ble_eq_true rfl⟩ rfl hl.1 rfl (Nat.le_of_ble_eq_true rfl) dX12_orderOf_4 ⟨Nat.le_refl _, Nat.le_refl _⟩ (fun H locs hW hS => ?_)
      refine lv_icmp_ge (tgt := 28) hx hb dX12_orderOf_7 (by decide) (fun q3 => ?_) (fun q3 => ?_)
      · replace hE := ite_t q3 hE
        refine s_aload_n hx hb dX12_orderOf_28 rfl (lv_at hl 0 rfl) ?_
        obtain ⟨c4, hE⟩ := ck hE
        obtain ⟨x5, hx5, hE⟩ := bd hE
        refine s_callV (As := []) (rest := []) CF hK hW hS (S_X12_numberOf l G F hx5) c4 rfl gv_X12_313 hd_X12_numberOf ⟨Nat.le_of_ble_eq_true rfl, Nat.le_of_ble_eq_true rfl⟩ rfl hl.1 rfl (Nat.le_of_ble_eq_true rfl) dX12_orderOf_29 ⟨Nat.le_refl _, Nat.le_refl _⟩ (fun H locs hW hS => ?_)
        obtain ⟨rfl, rfl⟩ := so2 hE
        exact s_iret hx hb hr hlocks hW hS dX12_orderOf_32
      · replace hE := ite_f q3 hE
        refine s_aload_n hx hb dX12_orderOf_10 rfl (lv_at hl 0 rfl) ?_
        obtain ⟨x6, hx6, hE⟩ := bd hE
        refine s_gR hx hb hT u_X12 hown hK hW hx6 rfl (by decide) fl_X12_36 rfl dX12_orderOf_11 ?_
        refine lv_iload_n hx hb dX12_orderOf_14 rfl (lv_at hl 2 rfl) ?_
        refine s_aload_n hx hb dX12_orderOf_15 rfl (lv_at hl 0 rfl) ?_
        refine lv_iload_n hx hb dX12_orderOf_16 rfl (lv_at hl 1 rfl) ?_
        refine lv_iload_n hx hb dX12_orderOf_17 rfl (lv_at hl 2 rfl) ?_
        obtain ⟨c7, hE⟩ := ck hE
        obtain ⟨x8, hx8, hE⟩ := bd hE
        refine s_callV (As := [.int v1, .int v2]) (rest := [.int v2, rr G x6]) CF hK hW hS (S_X12_lineOf l G F hx8) c7 rfl gv_X12_247 hd_X12_lineOf ⟨Nat.le_of_ble_eq_true rfl, Nat.le_of_ble_eq_true rfl⟩ rfl hl.1 rfl (Nat.le_of_ble_eq_true rfl) dX12_orderOf_18 ⟨Nat.le_refl _, Nat.le_refl _⟩ (fun H locs hW hS => ?_)
        obtain ⟨f9, hf9, hE⟩ := bd hE
        refine s_stI hx hb hK hW hS hf9 dX12_orderOf_21 (fun H locs hW hS => ?_)
        obtain ⟨y10, ey10⟩ : ∃ y : Int32, y = v2 + (1 : Int32) := ⟨_, rfl⟩
        replace hE := nm_o ey10 hE
        refine lv_iinc (k := 2) (v := y10) (lv' := [(2, .int y10), (0, rr G v0), (1, .int v1)]) hx hb dX12_orderOf_22 hl rfl (by rw [ey10]; rfl) (by decide) rfl (fun ls hl => ?_)
        refine lv_goto (tgt := 2) hx hb dX12_orderOf_25 (by decide) ?_
        exact ih2 _ _ _ _ _ _ _ hE hW hS (lv_sub hl [1, 2, 0] rfl)
  refine lv_iconst (v := (0 : Int32)) hx hb dX12_orderOf_0 (by decide) ?_
  refine lv_istore_n (i := 2) (lv' := [(2, .int (0 : Int32)), (0, rr G u0), (1, .int u1)]) hx hb dX12_orderOf_1 rfl hl (by decide) rfl (fun ls hl => ?_)
  exact hC2 F _ _ _ _ _ _ _ hE hW hS (lv_sub hl [1, 2, 0] rfl)
set_option maxHeartbeats 4000000 in
set_option maxRecDepth 100000 in
theorem S_X12_likeliest (l : Launch) (G : GG) (F : Nat) {u0 : Option Nat} {u1 : Int32} {u2 : Int32} {u3 : Int32} {u4 : Int32} {f : Hp} {r : Int32} {f' : Hp} {n : Nat} (hE : m_X12_likeliest F u0 u1 u2 u3 u4 f = some (r, f')) : Ctr l G yX12_likeliest cX12_likeliest 11 (some .int) 5 119 [rr G u0, .int u1, .int u2, .int u3, .int u4] f n (some (.int r)) f' n 0 0 := by
  refine Met.ofW (cc := cX12_likeliest) (maxL := 11) (ret := (some .int)) (by decide) rfl ?_
  intro p e s m args below meth c s₁ B hml hv
  obtain ⟨rfl, hK, hW⟩ := hv
  have hx := B.exec
  have hb := B.bytes
  have hr := B.returns
  have hts := atoms_spec (ws := wsO yX12_likeliest cX12_likeliest 11 (some .int)) B.pre
  have hT : ∀ w ∈ TB, w.before [rr G u0, .int u1, .int u2, .int u3, .int u4].toArray s = true := fun w hw => hts w (List.mem_cons_of_mem _ hw)
  have hown : s.vm.findClass RX12 = some m.cls := findClass_of_methodNamed B.named
  have hlocks := B.notSynchronized
  have CF : CallFix p m c cX12_likeliest 11 s [rr G u0, .int u1, .int u2, .int u3, .int u4].toArray TB RX12 := ⟨hx, hb, hml, hown, hT⟩
  have hS : va_S (WA G) s.heap s.heap [] := va_S.rf
  have hl : lv_has (lg_sl ([rr G u0, .int u1, .int u2, .int u3, .int u4]) ++ List.replicate (11 - (lg_sl ([rr G u0, .int u1, .int u2, .int u3, .int u4])).length) Slot.unset).toArray 11 [(0, rr G u0), (1, .int u1), (2, .int u2), (3, .int u3), (4, .int u4)] := by cases u0 <;> exact lv_entry _ (Nat.le_of_ble_eq_true rfl)
  rw [lg_entry_eq]
  generalize (lg_sl ([rr G u0, .int u1, .int u2, .int u3, .int u4]) ++ List.replicate (11 - (lg_sl ([rr G u0, .int u1, .int u2, .int u3, .int u4])).length) Slot.unset).toArray = ls at hl ⊢
  have hC155 : ∀ (v0 : Option Nat) (v5 : Int32) (v6 : Int64) (fa : Hp) (H : Heap) (locs : List Loc) (ls : Array Slot), m_X12_likeliest_B155 F v0 v5 v6 fa = some (r, f') → Wd G fa n H → va_S (WA G) s.heap H locs → lv_has ls 11 [(0, rr G v0), (5, .int v5), (6, .long v6)] → W p l e (headSpec (wsO yX12_likeliest cX12_likeliest 11 (some .int)) { frames := 5, cells := 0, slots := 0, locals := 119 }).room s m [rr G u0, .int u1, .int u2, .int u3, .int u4].toArray below meth c H locs 0 0 (MQ below (Qcn G (some (.int r)) f' n) [rr G u0, .int u1, .int u2, .int u3, .int u4].toArray s 0 0 (WA G)) (F0 m 155 ls []) := by
    intro v0 v5 v6 fa H locs ls hE hW hS hl
    refine lv_iload hx hb dX12_likeliest_155 (lv_at hl 1 rfl) ?_
    refine lv_iconst (v := (-1 : Int32)) hx hb dX12_likeliest_157 (by decide) ?_
    refine lv_icmp_eq (tgt := 167) hx hb dX12_likeliest_158 (by decide) (fun q25 => ?_) (fun q25 => ?_)
    · replace hE := ite_t q25 hE
      refine lv_iload hx hb dX12_likeliest_167 (lv_at hl 1 rfl) ?_
      obtain ⟨rfl, rfl⟩ := so2 hE
      exact s_iret hx hb hr hlocks hW hS dX12_likeliest_169
    · replace hE := ite_f q25 hE
      refine s_aload_n hx hb dX12_likeliest_161 rfl (lv_at hl 0 rfl) ?_
      refine lv_lload hx hb dX12_likeliest_162 (lv_at hl 2 rfl) ?_
      obtain ⟨f26, hf26, hE⟩ := bd hE
      refine s_putJ hx hb hT u_X12 tyX12 tyX12_ok nmX12 hown hK hW hS hf26 rfl (by decide) fl_X12_328 rfl (Or.inl rfl) rfl dX12_likeliest_164 (fun H locs hW hS => ?_)
      refine lv_iload hx hb dX12_likeliest_167 (lv_at hl 1 rfl) ?_
      obtain ⟨rfl, rfl⟩ := so2 hE
      exact s_iret hx hb hr hlocks hW hS dX12_likeliest_169
  have hC104 : ∀ (k104 : Nat), ∀ (v0 : Option Nat) (v5 : Int32) (v6 : Int64) (v8 : Int32) (fa : Hp) (H : Heap) (locs : List Loc) (ls : Array Slot), m_X12_likeliest_L104 F k104 v0 v5 v6 v8 fa = some (r, f') → Wd G fa n H → va_S (WA G) s.heap H locs → lv_has ls 11 [(0, rr G v0), (5, .int v5), (6, .long v6), (8, .int v8)] → W p l e (headSpec (wsO yX12_likeliest cX12_likeliest 11 (some .int)) { frames := 5, cells := 0, slots := 0, locals := 119 }).room s m [rr G u0, .int u1, .int u2, .int u3, .int u4].toArray below meth c H locs 0 0 (MQ below (Qcn G (some (.int r)) f' n) [rr G u0, .int u1, .int u2, .int u3, .int u4].toArray s 0 0 (WA G)) (F0 m 104 ls []) := by
    intro k104
    induction k104 with
    | zero => intro v0 v5 v6 v8 fa H locs ls hE _ _ _; cases (show (none : Option ((Int32) × Hp)) = some (r, f') from hE)
    | succ k104 ih104 =>
      intro v0 v5 v6 v8 fa H locs ls hE hW hS hl
      replace hE : m_X12_likeliest_b104 F (m_X12_likeliest_L104 F k104) v0 v5 v6 v8 fa = some (r, f') := hE
      refine lv_iload hx hb dX12_likeliest_104 (lv_at hl 3 rfl) ?_
      refine s_aload_n hx hb dX12_likeliest_106 rfl (lv_at hl 0 rfl) ?_
      obtain ⟨c14, hE⟩ := ck hE
      obtain ⟨x15, hx15, hE⟩ := bd hE
      refine s_callV (As := []) (rest := [.int v8]) CF hK hW hS (S_X12_orders l G F hx15) c14 rfl gv_X12_251 hd_X12_orders ⟨Nat.le_of_ble_eq_true rfl, Nat.le_of_ble_eq_true rfl⟩ rfl hl.1 rfl (Nat.le_of_ble_eq_true rfl) dX12_likeliest_107 ⟨Nat.le_refl _, Nat.le_refl _⟩ (fun H locs hW hS => ?_)
      refine lv_icmp_ge (tgt := 155) hx hb dX12_likeliest_110 (by decide) (fun q16 => ?_) (fun q16 => ?_)
      · replace hE := ite_t q16 hE
        exact hC155 _ _ _ _ _ _ _ hE hW hS (lv_sub hl [0, 1, 2] rfl)
      · replace hE := ite_f q16 hE
        refine s_aload_n hx hb dX12_likeliest_113 rfl (lv_at hl 0 rfl) ?_
        obtain ⟨x17, hx17, hE⟩ := bd hE
        refine s_gR hx hb hT u_X12 hown hK hW hx17 rfl (by decide) fl_X12_69 rfl dX12_likeliest_114 ?_
        refine lv_iload hx hb dX12_likeliest_117 (lv_at hl 3 rfl) ?_
        obtain ⟨x18, hx18, hE⟩ := bd hE
        refine s_ldJ hx hb hK hW hS hx18 dX12_likeliest_119 ?_
        refine s_aload_n hx hb dX12_likeliest_120 rfl (lv_at hl 0 rfl) ?_
        obtain ⟨x19, hx19, hE⟩ := bd hE
        refine s_gR hx hb hT u_X12 hown hK hW hx19 rfl (by decide) fl_X12_63 rfl dX12_likeliest_121 ?_
        refine lv_iload hx hb dX12_likeliest_124 (lv_at hl 3 rfl) ?_
        obtain ⟨x20, hx20, hE⟩ := bd hE
        refine s_ldJ hx hb hK hW hS hx20 dX12_likeliest_126 ?_
        refine lv_lmul hx hb dX12_likeliest_127 ?_
        refine lv_topl (fun y21 ey21 => ?_)
        replace hE := nm_o ey21 hE
        refine lv_lstore (lv' := [(9, .long y21), (0, rr G v0), (5, .int v5), (6, .long v6), (8, .int v8)]) hx hb dX12_likeliest_128 hl (by decide) rfl (fun ls hl => ?_)
        refine lv_lload hx hb dX12_likeliest_130 (lv_at hl 0 rfl) ?_
        refine lv_lload hx hb dX12_likeliest_132 (lv_at hl 3 rfl) ?_
        refine W.lcmp hx hb dX12_likeliest_134 ?_
        refine lv_if_gt (tgt := 141) hx hb dX12_likeliest_135 (by decide) (fun q22 => ?_) (fun q22 => ?_)
        · replace hE := ite_t q22 hE
          refine lv_lload hx hb dX12_likeliest_141 (lv_at hl 0 rfl) ?_
          refine lv_lstore (lv' := [(6, .long y21), (9, .long y21), (0, rr G v0), (5, .int v5), (8, .int v8)]) hx hb dX12_likeliest_143 hl (by decide) rfl (fun ls hl => ?_)
          refine lv_iload hx hb dX12_likeliest_145 (lv_at hl 4 rfl) ?_
          refine lv_istore (lv' := [(5, .int v8), (6, .long y21), (9, .long y21), (0, rr G v0), (8, .int v8)]) hx hb dX12_likeliest_147 hl (by decide) rfl (fun ls hl => ?_)
          obtain ⟨y23, ey23⟩ : ∃ y : Int32, y = v8 + (1 : Int32) := ⟨_, rfl⟩
          replace hE := nm_o ey23 hE
          refine lv_iinc (k := 4) (v := y23) (lv' := [(8, .int y23), (5, .int v8), (6, .long y21), (9, .long y21), (0, rr G v0)]) hx hb dX12_likeliest_149 hl rfl (by rw [ey23]; rfl) (by decide) rfl (fun ls hl => ?_)
          refine lv_goto (tgt := 104) hx hb dX12_likeliest_152 (by decide) ?_
          exact ih104 _ _ _ _ _ _ _ _ hE hW hS (lv_sub hl [4, 1, 2, 0] rfl)
        · replace hE := ite_f q22 hE
          refine lv_goto (tgt := 149) hx hb dX12_likeliest_138 (by decide) ?_
          obtain ⟨y24, ey24⟩ : ∃ y : Int32, y = v8 + (1 : Int32) := ⟨_, rfl⟩
          replace hE := nm_o ey24 hE
          refine lv_iinc (k := 4) (v := y24) (lv' := [(8, .int y24), (9, .long y21), (0, rr G v0), (5, .int v5), (6, .long v6)]) hx hb dX12_likeliest_149 hl rfl (by rw [ey24]; rfl) (by decide) rfl (fun ls hl => ?_)
          refine lv_goto (tgt := 104) hx hb dX12_likeliest_152 (by decide) ?_
          exact ih104 _ _ _ _ _ _ _ _ hE hW hS (lv_sub hl [2, 3, 4, 0] rfl)
  have hC83 : ∀ (v0 : Option Nat) (v3 : Int32) (v4 : Int32) (fa : Hp) (H : Heap) (locs : List Loc) (ls : Array Slot), m_X12_likeliest_B83 F v0 v3 v4 fa = some (r, f') → Wd G fa n H → va_S (WA G) s.heap H locs → lv_has ls 11 [(0, rr G v0), (3, .int v3), (4, .int v4)] → W p l e (headSpec (wsO yX12_likeliest cX12_likeliest 11 (some .int)) { frames := 5, cells := 0, slots := 0, locals := 119 }).room s m [rr G u0, .int u1, .int u2, .int u3, .int u4].toArray below meth c H locs 0 0 (MQ below (Qcn G (some (.int r)) f' n) [rr G u0, .int u1, .int u2, .int u3, .int u4].toArray s 0 0 (WA G)) (F0 m 83 ls []) := by
    intro v0 v3 v4 fa H locs ls hE hW hS hl
    refine s_aload_n hx hb dX12_likeliest_83 rfl (lv_at hl 0 rfl) ?_
    refine s_aload_n hx hb dX12_likeliest_84 rfl (lv_at hl 0 rfl) ?_
    refine lv_iload_n hx hb dX12_likeliest_85 rfl (lv_at hl 1 rfl) ?_
    obtain ⟨c9, hE⟩ := ck hE
    obtain ⟨x10, f11, hx10, hE⟩ := bd2_of hE
    refine s_callV (As := [.int v3]) (rest := [rr G v0]) CF hK hW hS (S_X12_orderOf l G F hx10) c9 rfl gv_X12_325 hd_X12_orderOf ⟨Nat.le_of_ble_eq_true rfl, Nat.le_of_ble_eq_true rfl⟩ rfl hl.1 rfl (Nat.le_of_ble_eq_true rfl) dX12_likeliest_86 ⟨Nat.le_refl _, Nat.le_refl _⟩ (fun H locs hW hS => ?_)
    refine lv_iload hx hb dX12_likeliest_89 (lv_at hl 2 rfl) ?_
    refine lv_iconst (v := (0 : Int32)) hx hb dX12_likeliest_91 (by decide) ?_
    obtain ⟨c12, hE⟩ := ck hE
    obtain ⟨f13, hf13, hE⟩ := bd hE
    refine s_callV (As := [.int x10, .int v4, .int (0 : Int32)]) (rest := []) CF hK hW hS (S_X12_layWays l G F hf13) c12 rfl gv_X12_321 hd_X12_layWays ⟨Nat.le_of_ble_eq_true rfl, Nat.le_of_ble_eq_true rfl⟩ rfl hl.1 rfl (Nat.le_of_ble_eq_true rfl) dX12_likeliest_92 ⟨Nat.le_refl _, Nat.le_refl _⟩ (fun H locs hW hS => ?_)
    refine lv_iconst (v := (-1 : Int32)) hx hb dX12_likeliest_95 (by decide) ?_
    refine lv_istore (lv' := [(5, .int (-1 : Int32)), (0, rr G v0), (3, .int v3), (4, .int v4)]) hx hb dX12_likeliest_96 hl (by decide) rfl (fun ls hl => ?_)
    refine lv_lconst (v := (0 : Int64)) hx hb dX12_likeliest_98 (by decide) ?_
    refine lv_lstore (lv' := [(6, .long (0 : Int64)), (5, .int (-1 : Int32)), (0, rr G v0), (3, .int v3), (4, .int v4)]) hx hb dX12_likeliest_99 hl (by decide) rfl (fun ls hl => ?_)
    refine lv_iconst (v := (0 : Int32)) hx hb dX12_likeliest_101 (by decide) ?_
    refine lv_istore (lv' := [(8, .int (0 : Int32)), (6, .long (0 : Int64)), (5, .int (-1 : Int32)), (0, rr G v0), (3, .int v3), (4, .int v4)]) hx hb dX12_likeliest_102 hl (by decide) rfl (fun ls hl => ?_)
    exact hC104 F _ _ _ _ _ _ _ _ hE hW hS (lv_sub hl [3, 2, 1, 0] rfl)
  have hC54 : ∀ (k54 : Nat), ∀ (v0 : Option Nat) (v3 : Int32) (v4 : Int32) (v5 : Int32) (fa : Hp) (H : Heap) (locs : List Loc) (ls : Array Slot), m_X12_likeliest_L54 F k54 v0 v3 v4 v5 fa = some (r, f') → Wd G fa n H → va_S (WA G) s.heap H locs → lv_has ls 11 [(0, rr G v0), (3, .int v3), (4, .int v4), (5, .int v5)] → W p l e (headSpec (wsO yX12_likeliest cX12_likeliest 11 (some .int)) { frames := 5, cells := 0, slots := 0, locals := 119 }).room s m [rr G u0, .int u1, .int u2, .int u3, .int u4].toArray below meth c H locs 0 0 (MQ below (Qcn G (some (.int r)) f' n) [rr G u0, .int u1, .int u2, .int u3, .int u4].toArray s 0 0 (WA G)) (F0 m 54 ls []) := by
    intro k54
    induction k54 with
    | zero => intro v0 v3 v4 v5 fa H locs ls hE _ _ _; cases (show (none : Option ((Int32) × Hp)) = some (r, f') from hE)
    | succ k54 ih54 =>
      intro v0 v3 v4 v5 fa H locs ls hE hW hS hl
      replace hE : m_X12_likeliest_b54 F (m_X12_likeliest_L54 F k54) v0 v3 v4 v5 fa = some (r, f') := hE
      refine lv_iload hx hb dX12_likeliest_54 (lv_at hl 3 rfl) ?_
      refine s_aload_n hx hb dX12_likeliest_56 rfl (lv_at hl 0 rfl) ?_
      obtain ⟨c1, hE⟩ := ck hE
      obtain ⟨x2, hx2, hE⟩ := bd hE
      refine s_callV (As := []) (rest := [.int v5]) CF hK hW hS (S_X12_orders l G F hx2) c1 rfl gv_X12_251 hd_X12_orders ⟨Nat.le_of_ble_eq_true rfl, Nat.le_of_ble_eq_true rfl⟩ rfl hl.1 rfl (Nat.le_of_ble_eq_true rfl) dX12_likeliest_57 ⟨Nat.le_refl _, Nat.le_refl _⟩ (fun H locs hW hS => ?_)
      refine lv_icmp_ge (tgt := 83) hx hb dX12_likeliest_60 (by decide) (fun q3 => ?_) (fun q3 => ?_)
      · replace hE := ite_t q3 hE
        exact hC83 _ _ _ _ _ _ _ hE hW hS (lv_sub hl [0, 1, 2] rfl)
      · replace hE := ite_f q3 hE
        refine s_aload_n hx hb dX12_likeliest_63 rfl (lv_at hl 0 rfl) ?_
        obtain ⟨x4, hx4, hE⟩ := bd hE
        refine s_gR hx hb hT u_X12 hown hK hW hx4 rfl (by decide) fl_X12_69 rfl dX12_likeliest_64 ?_
        refine lv_iload hx hb dX12_likeliest_67 (lv_at hl 3 rfl) ?_
        refine s_aload_n hx hb dX12_likeliest_69 rfl (lv_at hl 0 rfl) ?_
        obtain ⟨x5, hx5, hE⟩ := bd hE
        refine s_gR hx hb hT u_X12 hown hK hW hx5 rfl (by decide) fl_X12_63 rfl dX12_likeliest_70 ?_
        refine lv_iload hx hb dX12_likeliest_73 (lv_at hl 3 rfl) ?_
        obtain ⟨x6, hx6, hE⟩ := bd hE
        refine s_ldJ hx hb hK hW hS hx6 dX12_likeliest_75 ?_
        obtain ⟨f7, hf7, hE⟩ := bd hE
        refine s_stJ hx hb hK hW hS hf7 dX12_likeliest_76 (fun H locs hW hS => ?_)
        obtain ⟨y8, ey8⟩ : ∃ y : Int32, y = v5 + (1 : Int32) := ⟨_, rfl⟩
        replace hE := nm_o ey8 hE
        refine lv_iinc (k := 3) (v := y8) (lv' := [(5, .int y8), (0, rr G v0), (3, .int v3), (4, .int v4)]) hx hb dX12_likeliest_77 hl rfl (by rw [ey8]; rfl) (by decide) rfl (fun ls hl => ?_)
        refine lv_goto (tgt := 54) hx hb dX12_likeliest_80 (by decide) ?_
        exact ih54 _ _ _ _ _ _ _ _ hE hW hS (lv_sub hl [1, 2, 3, 0] rfl)
  refine s_aload_n hx hb dX12_likeliest_0 rfl (lv_at hl 0 rfl) ?_
  refine lv_iconst (v := (0 : Int32)) hx hb dX12_likeliest_1 (by decide) ?_
  obtain ⟨f27, hf27, hE⟩ := bd hE
  refine s_putI hx hb hT u_X12 tyX12 tyX12_ok nmX12 hown hK hW hS hf27 rfl (by decide) fl_X12_81 rfl (Or.inl rfl) rfl dX12_likeliest_2 (fun H locs hW hS => ?_)
  refine s_aload_n hx hb dX12_likeliest_5 rfl (lv_at hl 0 rfl) ?_
  obtain ⟨c28, hE⟩ := ck hE
  obtain ⟨f29, hf29, hE⟩ := bd hE
  refine s_callV (As := []) (rest := []) CF hK hW hS (S_X12_lay l G F hf29) c28 rfl gv_X12_164 hd_X12_lay ⟨Nat.le_of_ble_eq_true rfl, Nat.le_of_ble_eq_true rfl⟩ rfl hl.1 rfl (Nat.le_of_ble_eq_true rfl) dX12_likeliest_6 ⟨Nat.le_refl _, Nat.le_refl _⟩ (fun H locs hW hS => ?_)
  refine s_aload_n hx hb dX12_likeliest_9 rfl (lv_at hl 0 rfl) ?_
  refine lv_iload_n hx hb dX12_likeliest_10 rfl (lv_at hl 1 rfl) ?_
  refine lv_iload_n hx hb dX12_likeliest_11 rfl (lv_at hl 3 rfl) ?_
  obtain ⟨c30, hE⟩ := ck hE
  obtain ⟨x31, hx31, hE⟩ := bd hE
  refine s_callV (As := [.int u1, .int u3]) (rest := []) CF hK hW hS (S_X12_areWhole l G F hx31) c30 rfl gv_X12_282 hd_X12_areWhole ⟨Nat.le_of_ble_eq_true rfl, Nat.le_of_ble_eq_true rfl⟩ rfl hl.1 rfl (Nat.le_of_ble_eq_true rfl) dX12_likeliest_12 ⟨Nat.le_refl _, Nat.le_refl _⟩ (fun H locs hW hS => ?_)
  refine lv_if_eq (tgt := 37) hx hb dX12_likeliest_15 (by decide) (fun q32 => ?_) (fun q32 => ?_)
  · replace hE := ite_t q32 hE
    refine lv_bipush (v := (-2 : Int32)) hx hb dX12_likeliest_37 (by decide) ?_
    obtain ⟨rfl, rfl⟩ := so2 hE
    exact s_iret hx hb hr hlocks hW hS dX12_likeliest_39
  · replace hE := ite_f q32 hE
    refine lv_iload_n hx hb dX12_likeliest_18 rfl (lv_at hl 2 rfl) ?_
    refine lv_iconst (v := (0 : Int32)) hx hb dX12_likeliest_19 (by decide) ?_
    refine lv_iconst (v := (5 : Int32)) hx hb dX12_likeliest_20 (by decide) ?_
    obtain ⟨x33, hx33, hE⟩ := bd hE
    refine s_callS (As := [.int u2, .int (0 : Int32), .int (5 : Int32)]) (rest := []) CF hK hW hS (S_X12_isIn l G F hx33) gs_X12_151 hd_X12_isIn.2 ⟨Nat.le_of_ble_eq_true rfl, Nat.le_of_ble_eq_true rfl⟩ rfl hl.1 rfl (Nat.le_of_ble_eq_true rfl) dX12_likeliest_21 ⟨Nat.le_refl _, Nat.le_refl _⟩ (fun H locs hW hS => ?_)
    refine lv_if_eq (tgt := 37) hx hb dX12_likeliest_24 (by decide) (fun q34 => ?_) (fun q34 => ?_)
    · replace hE := ite_t q34 hE
      refine lv_bipush (v := (-2 : Int32)) hx hb dX12_likeliest_37 (by decide) ?_
      obtain ⟨rfl, rfl⟩ := so2 hE
      exact s_iret hx hb hr hlocks hW hS dX12_likeliest_39
    · replace hE := ite_f q34 hE
      refine lv_iload hx hb dX12_likeliest_27 (lv_at hl 4 rfl) ?_
      refine lv_iconst (v := (0 : Int32)) hx hb dX12_likeliest_29 (by decide) ?_
      refine lv_iconst (v := (5 : Int32)) hx hb dX12_likeliest_30 (by decide) ?_
      obtain ⟨x35, hx35, hE⟩ := bd hE
      refine s_callS (As := [.int u4, .int (0 : Int32), .int (5 : Int32)]) (rest := []) CF hK hW hS (S_X12_isIn l G F hx35) gs_X12_151 hd_X12_isIn.2 ⟨Nat.le_of_ble_eq_true rfl, Nat.le_of_ble_eq_true rfl⟩ rfl hl.1 rfl (Nat.le_of_ble_eq_true rfl) dX12_likeliest_31 ⟨Nat.le_refl _, Nat.le_refl _⟩ (fun H locs hW hS => ?_)
      refine lv_if_ne (tgt := 40) hx hb dX12_likeliest_34 (by decide) (fun q36 => ?_) (fun q36 => ?_)
      · replace hE := ite_f q36 hE
        refine s_aload_n hx hb dX12_likeliest_40 rfl (lv_at hl 0 rfl) ?_
        refine s_aload_n hx hb dX12_likeliest_41 rfl (lv_at hl 0 rfl) ?_
        refine lv_iload_n hx hb dX12_likeliest_42 rfl (lv_at hl 1 rfl) ?_
        obtain ⟨c37, hE⟩ := ck hE
        obtain ⟨x38, f39, hx38, hE⟩ := bd2_of hE
        refine s_callV (As := [.int u1]) (rest := [rr G u0]) CF hK hW hS (S_X12_orderOf l G F hx38) c37 rfl gv_X12_325 hd_X12_orderOf ⟨Nat.le_of_ble_eq_true rfl, Nat.le_of_ble_eq_true rfl⟩ rfl hl.1 rfl (Nat.le_of_ble_eq_true rfl) dX12_likeliest_43 ⟨Nat.le_refl _, Nat.le_refl _⟩ (fun H locs hW hS => ?_)
        refine lv_iload_n hx hb dX12_likeliest_46 rfl (lv_at hl 2 rfl) ?_
        refine lv_iconst (v := (0 : Int32)) hx hb dX12_likeliest_47 (by decide) ?_
        obtain ⟨c40, hE⟩ := ck hE
        obtain ⟨f41, hf41, hE⟩ := bd hE
        refine s_callV (As := [.int x38, .int u2, .int (0 : Int32)]) (rest := []) CF hK hW hS (S_X12_layWays l G F hf41) c40 rfl gv_X12_321 hd_X12_layWays ⟨Nat.le_of_ble_eq_true rfl, Nat.le_of_ble_eq_true rfl⟩ rfl hl.1 rfl (Nat.le_of_ble_eq_true rfl) dX12_likeliest_48 ⟨Nat.le_refl _, Nat.le_refl _⟩ (fun H locs hW hS => ?_)
        refine lv_iconst (v := (0 : Int32)) hx hb dX12_likeliest_51 (by decide) ?_
        refine lv_istore (lv' := [(5, .int (0 : Int32)), (0, rr G u0), (1, .int u1), (2, .int u2), (3, .int u3), (4, .int u4)]) hx hb dX12_likeliest_52 hl (by decide) rfl (fun ls hl => ?_)
        exact hC54 F _ _ _ _ _ _ _ _ hE hW hS (lv_sub hl [1, 4, 5, 0] rfl)
      · replace hE := ite_t q36 hE
        refine lv_bipush (v := (-2 : Int32)) hx hb dX12_likeliest_37 (by decide) ?_
        obtain ⟨rfl, rfl⟩ := so2 hE
        exact s_iret hx hb hr hlocks hW hS dX12_likeliest_39
