set_option maxHeartbeats 4000000 in
set_option maxRecDepth 100000 in
theorem S_X12_likely (l : Launch) (G : GG) (F : Nat) {u0 : Option Nat} {f : Hp} {r : Int64} {f' : Hp} {n : Nat} (hE : m_X12_likely F u0 f = some (r, f')) : Ctr l G yX12_likely cX12_likely 1 (some .long) 0 0 [rr G u0] f n (some (.long r)) f' n 0 0 := by
  refine Met.ofW (cc := cX12_likely) (maxL := 1) (ret := (some .long)) (by decide) rfl ?_
  intro p e s m args below meth c s₁ B hml hv
  obtain ⟨rfl, hK, hW⟩ := hv
  have hx := B.exec
  have hb := B.bytes
  have hr := B.returns
  have hts := atoms_spec (ws := wsO yX12_likely cX12_likely 1 (some .long)) B.pre
  have hT : ∀ w ∈ TB, w.before [rr G u0].toArray s = true := fun w hw => hts w (List.mem_cons_of_mem _ hw)
  have hown : s.vm.findClass RX12 = some m.cls := findClass_of_methodNamed B.named
  have hlocks := B.notSynchronized
  have CF : CallFix p m c cX12_likely 1 s [rr G u0].toArray TB RX12 := ⟨hx, hb, hml, hown, hT⟩
  have hS : va_S (WA G) s.heap s.heap [] := va_S.rf
  have hl : lv_has (lg_sl ([rr G u0]) ++ List.replicate (1 - (lg_sl ([rr G u0])).length) Slot.unset).toArray 1 [(0, rr G u0)] := by cases u0 <;> exact lv_entry _ (Nat.le_of_ble_eq_true rfl)
  rw [lg_entry_eq]
  generalize (lg_sl ([rr G u0]) ++ List.replicate (1 - (lg_sl ([rr G u0])).length) Slot.unset).toArray = ls at hl ⊢
  refine s_aload_n hx hb dX12_likely_0 rfl (lv_at hl 0 rfl) ?_
  refine lv_iconst (v := (0 : Int32)) hx hb dX12_likely_1 (by decide) ?_
  obtain ⟨f1, hf1, hE⟩ := bd hE
  refine s_putI hx hb hT u_X12 tyX12 tyX12_ok nmX12 hown hK hW hS hf1 rfl (by decide) fl_X12_81 rfl (Or.inl rfl) rfl dX12_likely_2 (fun H locs hW hS => ?_)
  refine s_aload_n hx hb dX12_likely_5 rfl (lv_at hl 0 rfl) ?_
  obtain ⟨x2, hx2, hE⟩ := bd hE
  refine s_gJ hx hb hT u_X12 hown hK hW hx2 rfl (by decide) fl_X12_328 rfl dX12_likely_6 ?_
  obtain ⟨rfl, rfl⟩ := so2 hE
  exact s_lret hx hb hr hlocks hW hS dX12_likely_9
set_option maxHeartbeats 4000000 in
set_option maxRecDepth 100000 in
theorem S_X12_refuse (l : Launch) (G : GG) (F : Nat) {u0 : Option Nat} {f : Hp} {r : Int32} {f' : Hp} {n : Nat} (hE : m_X12_refuse F u0 f = some (r, f')) : Ctr l G yX12_refuse cX12_refuse 1 (some .int) 0 0 [rr G u0] f n (some (.int r)) f' n 0 0 := by
  refine Met.ofW (cc := cX12_refuse) (maxL := 1) (ret := (some .int)) (by decide) rfl ?_
  intro p e s m args below meth c s₁ B hml hv
  obtain ⟨rfl, hK, hW⟩ := hv
  have hx := B.exec
  have hb := B.bytes
  have hr := B.returns
  have hts := atoms_spec (ws := wsO yX12_refuse cX12_refuse 1 (some .int)) B.pre
  have hT : ∀ w ∈ TB, w.before [rr G u0].toArray s = true := fun w hw => hts w (List.mem_cons_of_mem _ hw)
  have hown : s.vm.findClass RX12 = some m.cls := findClass_of_methodNamed B.named
  have hlocks := B.notSynchronized
  have CF : CallFix p m c cX12_refuse 1 s [rr G u0].toArray TB RX12 := ⟨hx, hb, hml, hown, hT⟩
  have hS : va_S (WA G) s.heap s.heap [] := va_S.rf
  have hl : lv_has (lg_sl ([rr G u0]) ++ List.replicate (1 - (lg_sl ([rr G u0])).length) Slot.unset).toArray 1 [(0, rr G u0)] := by cases u0 <;> exact lv_entry _ (Nat.le_of_ble_eq_true rfl)
  rw [lg_entry_eq]
  generalize (lg_sl ([rr G u0]) ++ List.replicate (1 - (lg_sl ([rr G u0])).length) Slot.unset).toArray = ls at hl ⊢
  refine s_aload_n hx hb dX12_refuse_0 rfl (lv_at hl 0 rfl) ?_
  refine lv_iconst (v := (1 : Int32)) hx hb dX12_refuse_1 (by decide) ?_
  obtain ⟨f1, hf1, hE⟩ := bd hE
  refine s_putI hx hb hT u_X12 tyX12 tyX12_ok nmX12 hown hK hW hS hf1 rfl (by decide) fl_X12_81 rfl (Or.inl rfl) rfl dX12_refuse_2 (fun H locs hW hS => ?_)
  refine lv_iconst (v := (0 : Int32)) hx hb dX12_refuse_5 (by decide) ?_
  obtain ⟨rfl, rfl⟩ := so2 hE
  exact s_iret hx hb hr hlocks hW hS dX12_refuse_6
set_option maxHeartbeats 4000000 in
set_option maxRecDepth 100000 in
theorem S_X12_line (l : Launch) (G : GG) (F : Nat) {u0 : Option Nat} {u1 : Int32} {u2 : Int32} {f : Hp} {r : Int32} {f' : Hp} {n : Nat} (hE : m_X12_line F u0 u1 u2 f = some (r, f')) : Ctr l G yX12_line cX12_line 3 (some .int) 2 41 [rr G u0, .int u1, .int u2] f n (some (.int r)) f' n 0 0 := by
  refine Met.ofW (cc := cX12_line) (maxL := 3) (ret := (some .int)) (by decide) rfl ?_
  intro p e s m args below meth c s₁ B hml hv
  obtain ⟨rfl, hK, hW⟩ := hv
  have hx := B.exec
  have hb := B.bytes
  have hr := B.returns
  have hts := atoms_spec (ws := wsO yX12_line cX12_line 3 (some .int)) B.pre
  have hT : ∀ w ∈ TB, w.before [rr G u0, .int u1, .int u2].toArray s = true := fun w hw => hts w (List.mem_cons_of_mem _ hw)
  have hown : s.vm.findClass RX12 = some m.cls := findClass_of_methodNamed B.named
  have hlocks := B.notSynchronized
  have CF : CallFix p m c cX12_line 3 s [rr G u0, .int u1, .int u2].toArray TB RX12 := ⟨hx, hb, hml, hown, hT⟩
  have hS : va_S (WA G) s.heap s.heap [] := va_S.rf
  have hl : lv_has (lg_sl ([rr G u0, .int u1, .int u2]) ++ List.replicate (3 - (lg_sl ([rr G u0, .int u1, .int u2])).length) Slot.unset).toArray 3 [(0, rr G u0), (1, .int u1), (2, .int u2)] := by cases u0 <;> exact lv_entry _ (Nat.le_of_ble_eq_true rfl)
  rw [lg_entry_eq]
  generalize (lg_sl ([rr G u0, .int u1, .int u2]) ++ List.replicate (3 - (lg_sl ([rr G u0, .int u1, .int u2])).length) Slot.unset).toArray = ls at hl ⊢
  refine s_aload_n hx hb dX12_line_0 rfl (lv_at hl 0 rfl) ?_
  obtain ⟨c1, hE⟩ := ck hE
  obtain ⟨f2, hf2, hE⟩ := bd hE
  refine s_callV (As := []) (rest := []) CF hK hW hS (S_X12_lay l G F hf2) c1 rfl gv_X12_164 hd_X12_lay ⟨Nat.le_of_ble_eq_true rfl, Nat.le_of_ble_eq_true rfl⟩ rfl hl.1 rfl (Nat.le_of_ble_eq_true rfl) dX12_line_1 ⟨Nat.le_refl _, Nat.le_refl _⟩ (fun H locs hW hS => ?_)
  refine s_aload_n hx hb dX12_line_4 rfl (lv_at hl 0 rfl) ?_
  refine lv_iload_n hx hb dX12_line_5 rfl (lv_at hl 1 rfl) ?_
  obtain ⟨c3, hE⟩ := ck hE
  obtain ⟨x4, hx4, hE⟩ := bd hE
  refine s_callV (As := [.int u1]) (rest := []) CF hK hW hS (S_X12_isCopy l G F hx4) c3 rfl gv_X12_241 hd_X12_isCopy ⟨Nat.le_of_ble_eq_true rfl, Nat.le_of_ble_eq_true rfl⟩ rfl hl.1 rfl (Nat.le_of_ble_eq_true rfl) dX12_line_6 ⟨Nat.le_refl _, Nat.le_refl _⟩ (fun H locs hW hS => ?_)
  refine lv_if_eq (tgt := 25) hx hb dX12_line_9 (by decide) (fun q5 => ?_) (fun q5 => ?_)
  · replace hE := ite_t q5 hE
    refine s_aload_n hx hb dX12_line_25 rfl (lv_at hl 0 rfl) ?_
    obtain ⟨c6, hE⟩ := ck hE
    obtain ⟨x7, f8, hx7, hE⟩ := bd2_of hE
    refine s_callV (As := []) (rest := []) CF hK hW hS (S_X12_refuse l G F hx7) c6 rfl gv_X12_244 hd_X12_refuse ⟨Nat.le_of_ble_eq_true rfl, Nat.le_of_ble_eq_true rfl⟩ rfl hl.1 rfl (Nat.le_of_ble_eq_true rfl) dX12_line_26 ⟨Nat.le_refl _, Nat.le_refl _⟩ (fun H locs hW hS => ?_)
    obtain ⟨rfl, rfl⟩ := so2 hE
    exact s_iret hx hb hr hlocks hW hS dX12_line_29
  · replace hE := ite_f q5 hE
    refine lv_iload_n hx hb dX12_line_12 rfl (lv_at hl 2 rfl) ?_
    refine lv_if_lt (tgt := 25) hx hb dX12_line_13 (by decide) (fun q9 => ?_) (fun q9 => ?_)
    · replace hE := ite_t q9 hE
      refine s_aload_n hx hb dX12_line_25 rfl (lv_at hl 0 rfl) ?_
      obtain ⟨c10, hE⟩ := ck hE
      obtain ⟨x11, f12, hx11, hE⟩ := bd2_of hE
      refine s_callV (As := []) (rest := []) CF hK hW hS (S_X12_refuse l G F hx11) c10 rfl gv_X12_244 hd_X12_refuse ⟨Nat.le_of_ble_eq_true rfl, Nat.le_of_ble_eq_true rfl⟩ rfl hl.1 rfl (Nat.le_of_ble_eq_true rfl) dX12_line_26 ⟨Nat.le_refl _, Nat.le_refl _⟩ (fun H locs hW hS => ?_)
      obtain ⟨rfl, rfl⟩ := so2 hE
      exact s_iret hx hb hr hlocks hW hS dX12_line_29
    · replace hE := ite_f q9 hE
      refine lv_iload_n hx hb dX12_line_16 rfl (lv_at hl 2 rfl) ?_
      refine s_aload_n hx hb dX12_line_17 rfl (lv_at hl 0 rfl) ?_
      refine lv_iload_n hx hb dX12_line_18 rfl (lv_at hl 1 rfl) ?_
      obtain ⟨c13, hE⟩ := ck hE
      obtain ⟨x14, hx14, hE⟩ := bd hE
      refine s_callV (As := [.int u1]) (rest := [.int u2]) CF hK hW hS (S_X12_sizeOf l G F hx14) c13 rfl gv_X12_182 hd_X12_sizeOf ⟨Nat.le_of_ble_eq_true rfl, Nat.le_of_ble_eq_true rfl⟩ rfl hl.1 rfl (Nat.le_of_ble_eq_true rfl) dX12_line_19 ⟨Nat.le_refl _, Nat.le_refl _⟩ (fun H locs hW hS => ?_)
      refine lv_icmp_lt (tgt := 30) hx hb dX12_line_22 (by decide) (fun q15 => ?_) (fun q15 => ?_)
      · replace hE := ite_t q15 hE
        refine s_aload_n hx hb dX12_line_30 rfl (lv_at hl 0 rfl) ?_
        refine lv_iconst (v := (0 : Int32)) hx hb dX12_line_31 (by decide) ?_
        obtain ⟨f16, hf16, hE⟩ := bd hE
        refine s_putI hx hb hT u_X12 tyX12 tyX12_ok nmX12 hown hK hW hS hf16 rfl (by decide) fl_X12_81 rfl (Or.inl rfl) rfl dX12_line_32 (fun H locs hW hS => ?_)
        refine s_aload_n hx hb dX12_line_35 rfl (lv_at hl 0 rfl) ?_
        refine lv_iload_n hx hb dX12_line_36 rfl (lv_at hl 1 rfl) ?_
        refine lv_iload_n hx hb dX12_line_37 rfl (lv_at hl 2 rfl) ?_
        obtain ⟨c17, hE⟩ := ck hE
        obtain ⟨x18, hx18, hE⟩ := bd hE
        refine s_callV (As := [.int u1, .int u2]) (rest := []) CF hK hW hS (S_X12_lineOf l G F hx18) c17 rfl gv_X12_247 hd_X12_lineOf ⟨Nat.le_of_ble_eq_true rfl, Nat.le_of_ble_eq_true rfl⟩ rfl hl.1 rfl (Nat.le_of_ble_eq_true rfl) dX12_line_38 ⟨Nat.le_refl _, Nat.le_refl _⟩ (fun H locs hW hS => ?_)
        obtain ⟨rfl, rfl⟩ := so2 hE
        exact s_iret hx hb hr hlocks hW hS dX12_line_41
      · replace hE := ite_f q15 hE
        refine s_aload_n hx hb dX12_line_25 rfl (lv_at hl 0 rfl) ?_
        obtain ⟨c19, hE⟩ := ck hE
        obtain ⟨x20, f21, hx20, hE⟩ := bd2_of hE
        refine s_callV (As := []) (rest := []) CF hK hW hS (S_X12_refuse l G F hx20) c19 rfl gv_X12_244 hd_X12_refuse ⟨Nat.le_of_ble_eq_true rfl, Nat.le_of_ble_eq_true rfl⟩ rfl hl.1 rfl (Nat.le_of_ble_eq_true rfl) dX12_line_26 ⟨Nat.le_refl _, Nat.le_refl _⟩ (fun H locs hW hS => ?_)
        obtain ⟨rfl, rfl⟩ := so2 hE
        exact s_iret hx hb hr hlocks hW hS dX12_line_29
set_option maxHeartbeats 4000000 in
set_option maxRecDepth 100000 in
theorem S_X12_made (l : Launch) (G : GG) (F : Nat) {u0 : Option Nat} {u1 : Int32} {u2 : Int32} {f : Hp} {r : Int32} {f' : Hp} {n : Nat} (hE : m_X12_made F u0 u1 u2 f = some (r, f')) : Ctr l G yX12_made cX12_made 5 (some .int) 4 91 [rr G u0, .int u1, .int u2] f n (some (.int r)) f' n 0 0 := by
  refine Met.ofW (cc := cX12_made) (maxL := 5) (ret := (some .int)) (by decide) rfl ?_
  intro p e s m args below meth c s₁ B hml hv
  obtain ⟨rfl, hK, hW⟩ := hv
  have hx := B.exec
  have hb := B.bytes
  have hr := B.returns
  have hts := atoms_spec (ws := wsO yX12_made cX12_made 5 (some .int)) B.pre
  have hT : ∀ w ∈ TB, w.before [rr G u0, .int u1, .int u2].toArray s = true := fun w hw => hts w (List.mem_cons_of_mem _ hw)
  have hown : s.vm.findClass RX12 = some m.cls := findClass_of_methodNamed B.named
  have hlocks := B.notSynchronized
  have CF : CallFix p m c cX12_made 5 s [rr G u0, .int u1, .int u2].toArray TB RX12 := ⟨hx, hb, hml, hown, hT⟩
  have hS : va_S (WA G) s.heap s.heap [] := va_S.rf
  have hl : lv_has (lg_sl ([rr G u0, .int u1, .int u2]) ++ List.replicate (5 - (lg_sl ([rr G u0, .int u1, .int u2])).length) Slot.unset).toArray 5 [(0, rr G u0), (1, .int u1), (2, .int u2)] := by cases u0 <;> exact lv_entry _ (Nat.le_of_ble_eq_true rfl)
  rw [lg_entry_eq]
  generalize (lg_sl ([rr G u0, .int u1, .int u2]) ++ List.replicate (5 - (lg_sl ([rr G u0, .int u1, .int u2])).length) Slot.unset).toArray = ls at hl ⊢
  have hC32 : ∀ (k32 : Nat), ∀ (v0 : Option Nat) (v1 : Int32) (v2 : Int32) (v3 : Int32) (v4 : Int32) (fa : Hp) (H : Heap) (locs : List Loc) (ls : Array Slot), m_X12_made_L32 F k32 v0 v1 v2 v3 v4 fa = some (r, f') → Wd G fa n H → va_S (WA G) s.heap H locs → lv_has ls 5 [(0, rr G v0), (1, .int v1), (2, .int v2), (3, .int v3), (4, .int v4)] → W p l e (headSpec (wsO yX12_made cX12_made 5 (some .int)) { frames := 4, cells := 0, slots := 0, locals := 91 }).room s m [rr G u0, .int u1, .int u2].toArray below meth c H locs 0 0 (MQ below (Qcn G (some (.int r)) f' n) [rr G u0, .int u1, .int u2].toArray s 0 0 (WA G)) (F0 m 32 ls []) := by
    intro k32
    induction k32 with
    | zero => intro v0 v1 v2 v3 v4 fa H locs ls hE _ _ _; cases (show (none : Option ((Int32) × Hp)) = some (r, f') from hE)
    | succ k32 ih32 =>
      intro v0 v1 v2 v3 v4 fa H locs ls hE hW hS hl
      replace hE : m_X12_made_b32 F (m_X12_made_L32 F k32) v0 v1 v2 v3 v4 fa = some (r, f') := hE
      refine lv_iload hx hb dX12_made_32 (lv_at hl 4 rfl) ?_
      refine s_aload_n hx hb dX12_made_34 rfl (lv_at hl 0 rfl) ?_
      obtain ⟨x1, hx1, hE⟩ := bd hE
      refine s_gR hx hb hT u_X12 hown hK hW hx1 rfl (by decide) fl_X12_13 rfl dX12_made_35 ?_
      refine lv_iconst (v := (2 : Int32)) hx hb dX12_made_38 (by decide) ?_
      obtain ⟨x2, hx2, hE⟩ := bd hE
      refine s_ldI hx hb hK hW hS hx2 dX12_made_39 ?_
      refine lv_icmp_ge (tgt := 67) hx hb dX12_made_40 (by decide) (fun q3 => ?_) (fun q3 => ?_)
      · replace hE := ite_t q3 hE
        refine lv_iload_n hx hb dX12_made_67 rfl (lv_at hl 3 rfl) ?_
        obtain ⟨rfl, rfl⟩ := so2 hE
        exact s_iret hx hb hr hlocks hW hS dX12_made_68
      · replace hE := ite_f q3 hE
        refine s_aload_n hx hb dX12_made_43 rfl (lv_at hl 0 rfl) ?_
        refine lv_iload_n hx hb dX12_made_44 rfl (lv_at hl 1 rfl) ?_
        refine lv_iload_n hx hb dX12_made_45 rfl (lv_at hl 2 rfl) ?_
        refine lv_iload hx hb dX12_made_46 (lv_at hl 4 rfl) ?_
        obtain ⟨c4, hE⟩ := ck hE
        obtain ⟨x5, f6, hx5, hE⟩ := bd2_of hE
        refine s_callV (As := [.int v1, .int v2, .int v4]) (rest := []) CF hK hW hS (S_X12_mayMake l G F hx5) c4 rfl gv_X12_276 hd_X12_mayMake ⟨Nat.le_of_ble_eq_true rfl, Nat.le_of_ble_eq_true rfl⟩ rfl hl.1 rfl (Nat.le_of_ble_eq_true rfl) dX12_made_48 ⟨Nat.le_refl _, Nat.le_refl _⟩ (fun H locs hW hS => ?_)
        refine lv_if_eq (tgt := 61) hx hb dX12_made_51 (by decide) (fun q7 => ?_) (fun q7 => ?_)
        · replace hE := ite_t q7 hE
          obtain ⟨y8, ey8⟩ : ∃ y : Int32, y = v4 + (1 : Int32) := ⟨_, rfl⟩
          replace hE := nm_o ey8 hE
          refine lv_iinc (k := 4) (v := y8) (lv' := [(4, .int y8), (0, rr G v0), (1, .int v1), (2, .int v2), (3, .int v3)]) hx hb dX12_made_61 hl rfl (by rw [ey8]; rfl) (by decide) rfl (fun ls hl => ?_)
          refine lv_goto (tgt := 32) hx hb dX12_made_64 (by decide) ?_
          exact ih32 _ _ _ _ _ _ _ _ _ hE hW hS (lv_sub hl [1, 2, 3, 4, 0] rfl)
        · replace hE := ite_f q7 hE
          refine lv_iload_n hx hb dX12_made_54 rfl (lv_at hl 3 rfl) ?_
          refine lv_iconst (v := (1 : Int32)) hx hb dX12_made_55 (by decide) ?_
          refine lv_iload hx hb dX12_made_56 (lv_at hl 4 rfl) ?_
          refine lv_ishl hx hb dX12_made_58 ?_
          refine lv_ior hx hb dX12_made_59 ?_
          refine lv_topi (fun y9 ey9 => ?_)
          replace hE := nm_o ey9 hE
          refine lv_istore_n (i := 3) (lv' := [(3, .int y9), (0, rr G v0), (1, .int v1), (2, .int v2), (4, .int v4)]) hx hb dX12_made_60 rfl hl (by decide) rfl (fun ls hl => ?_)
          obtain ⟨y10, ey10⟩ : ∃ y : Int32, y = v4 + (1 : Int32) := ⟨_, rfl⟩
          replace hE := nm_o ey10 hE
          refine lv_iinc (k := 4) (v := y10) (lv' := [(4, .int y10), (3, .int y9), (0, rr G v0), (1, .int v1), (2, .int v2)]) hx hb dX12_made_61 hl rfl (by rw [ey10]; rfl) (by decide) rfl (fun ls hl => ?_)
          refine lv_goto (tgt := 32) hx hb dX12_made_64 (by decide) ?_
          exact ih32 _ _ _ _ _ _ _ _ _ hE hW hS (lv_sub hl [2, 3, 4, 1, 0] rfl)
  refine s_aload_n hx hb dX12_made_0 rfl (lv_at hl 0 rfl) ?_
  refine lv_iconst (v := (0 : Int32)) hx hb dX12_made_1 (by decide) ?_
  obtain ⟨f11, hf11, hE⟩ := bd hE
  refine s_putI hx hb hT u_X12 tyX12 tyX12_ok nmX12 hown hK hW hS hf11 rfl (by decide) fl_X12_81 rfl (Or.inl rfl) rfl dX12_made_2 (fun H locs hW hS => ?_)
  refine s_aload_n hx hb dX12_made_5 rfl (lv_at hl 0 rfl) ?_
  obtain ⟨c12, hE⟩ := ck hE
  obtain ⟨f13, hf13, hE⟩ := bd hE
  refine s_callV (As := []) (rest := []) CF hK hW hS (S_X12_lay l G F hf13) c12 rfl gv_X12_164 hd_X12_lay ⟨Nat.le_of_ble_eq_true rfl, Nat.le_of_ble_eq_true rfl⟩ rfl hl.1 rfl (Nat.le_of_ble_eq_true rfl) dX12_made_6 ⟨Nat.le_refl _, Nat.le_refl _⟩ (fun H locs hW hS => ?_)
  refine s_aload_n hx hb dX12_made_9 rfl (lv_at hl 0 rfl) ?_
  refine lv_iload_n hx hb dX12_made_10 rfl (lv_at hl 1 rfl) ?_
  obtain ⟨c14, hE⟩ := ck hE
  obtain ⟨x15, hx15, hE⟩ := bd hE
  refine s_callV (As := [.int u1]) (rest := []) CF hK hW hS (S_X12_isCopy l G F hx15) c14 rfl gv_X12_241 hd_X12_isCopy ⟨Nat.le_of_ble_eq_true rfl, Nat.le_of_ble_eq_true rfl⟩ rfl hl.1 rfl (Nat.le_of_ble_eq_true rfl) dX12_made_11 ⟨Nat.le_refl _, Nat.le_refl _⟩ (fun H locs hW hS => ?_)
  refine lv_if_eq (tgt := 25) hx hb dX12_made_14 (by decide) (fun q16 => ?_) (fun q16 => ?_)
  · replace hE := ite_t q16 hE
    refine lv_iconst (v := (-1 : Int32)) hx hb dX12_made_25 (by decide) ?_
    obtain ⟨rfl, rfl⟩ := so2 hE
    exact s_iret hx hb hr hlocks hW hS dX12_made_26
  · replace hE := ite_f q16 hE
    refine s_aload_n hx hb dX12_made_17 rfl (lv_at hl 0 rfl) ?_
    refine lv_iload_n hx hb dX12_made_18 rfl (lv_at hl 2 rfl) ?_
    obtain ⟨c17, hE⟩ := ck hE
    obtain ⟨x18, hx18, hE⟩ := bd hE
    refine s_callV (As := [.int u2]) (rest := []) CF hK hW hS (S_X12_isCopy l G F hx18) c17 rfl gv_X12_241 hd_X12_isCopy ⟨Nat.le_of_ble_eq_true rfl, Nat.le_of_ble_eq_true rfl⟩ rfl hl.1 rfl (Nat.le_of_ble_eq_true rfl) dX12_made_19 ⟨Nat.le_refl _, Nat.le_refl _⟩ (fun H locs hW hS => ?_)
    refine lv_if_ne (tgt := 27) hx hb dX12_made_22 (by decide) (fun q19 => ?_) (fun q19 => ?_)
    · replace hE := ite_f q19 hE
      refine lv_iconst (v := (0 : Int32)) hx hb dX12_made_27 (by decide) ?_
      refine lv_istore_n (i := 3) (lv' := [(3, .int (0 : Int32)), (0, rr G u0), (1, .int u1), (2, .int u2)]) hx hb dX12_made_28 rfl hl (by decide) rfl (fun ls hl => ?_)
      refine lv_iconst (v := (0 : Int32)) hx hb dX12_made_29 (by decide) ?_
      refine lv_istore (lv' := [(4, .int (0 : Int32)), (3, .int (0 : Int32)), (0, rr G u0), (1, .int u1), (2, .int u2)]) hx hb dX12_made_30 hl (by decide) rfl (fun ls hl => ?_)
      exact hC32 F _ _ _ _ _ _ _ _ _ hE hW hS (lv_sub hl [2, 3, 4, 1, 0] rfl)
    · replace hE := ite_t q19 hE
      refine lv_iconst (v := (-1 : Int32)) hx hb dX12_made_25 (by decide) ?_
      obtain ⟨rfl, rfl⟩ := so2 hE
      exact s_iret hx hb hr hlocks hW hS dX12_made_26
set_option maxHeartbeats 4000000 in
set_option maxRecDepth 100000 in
theorem S_X12_marks (l : Launch) (G : GG) (F : Nat) {u0 : Option Nat} {u1 : Int32} {f : Hp} {r : Int32} {f' : Hp} {n : Nat} (hE : m_X12_marks F u0 u1 f = some (r, f')) : Ctr l G yX12_marks cX12_marks 4 (some .int) 5 116 [rr G u0, .int u1] f n (some (.int r)) f' n 0 0 := by
  refine Met.ofW (cc := cX12_marks) (maxL := 4) (ret := (some .int)) (by decide) rfl ?_
  intro p e s m args below meth c s₁ B hml hv
  obtain ⟨rfl, hK, hW⟩ := hv
  have hx := B.exec
  have hb := B.bytes
  have hr := B.returns
  have hts := atoms_spec (ws := wsO yX12_marks cX12_marks 4 (some .int)) B.pre
  have hT : ∀ w ∈ TB, w.before [rr G u0, .int u1].toArray s = true := fun w hw => hts w (List.mem_cons_of_mem _ hw)
  have hown : s.vm.findClass RX12 = some m.cls := findClass_of_methodNamed B.named
  have hlocks := B.notSynchronized
  have CF : CallFix p m c cX12_marks 4 s [rr G u0, .int u1].toArray TB RX12 := ⟨hx, hb, hml, hown, hT⟩
  have hS : va_S (WA G) s.heap s.heap [] := va_S.rf
  have hl : lv_has (lg_sl ([rr G u0, .int u1]) ++ List.replicate (4 - (lg_sl ([rr G u0, .int u1])).length) Slot.unset).toArray 4 [(0, rr G u0), (1, .int u1)] := by cases u0 <;> exact lv_entry _ (Nat.le_of_ble_eq_true rfl)
  rw [lg_entry_eq]
  generalize (lg_sl ([rr G u0, .int u1]) ++ List.replicate (4 - (lg_sl ([rr G u0, .int u1])).length) Slot.unset).toArray = ls at hl ⊢
  have hC23 : ∀ (k23 : Nat), ∀ (v0 : Option Nat) (v1 : Int32) (v2 : Int32) (fa : Hp) (H : Heap) (locs : List Loc) (ls : Array Slot), m_X12_marks_L23 F k23 v0 v1 v2 fa = some (r, f') → Wd G fa n H → va_S (WA G) s.heap H locs → lv_has ls 4 [(0, rr G v0), (1, .int v1), (2, .int v2)] → W p l e (headSpec (wsO yX12_marks cX12_marks 4 (some .int)) { frames := 5, cells := 0, slots := 0, locals := 116 }).room s m [rr G u0, .int u1].toArray below meth c H locs 0 0 (MQ below (Qcn G (some (.int r)) f' n) [rr G u0, .int u1].toArray s 0 0 (WA G)) (F0 m 23 ls []) := by
    intro k23
    induction k23 with
    | zero => intro v0 v1 v2 fa H locs ls hE _ _ _; cases (show (none : Option ((Int32) × Hp)) = some (r, f') from hE)
    | succ k23 ih23 =>
      have hC56 : ∀ (v0 : Option Nat) (v1 : Int32) (v2 : Int32) (fa : Hp) (H : Heap) (locs : List Loc) (ls : Array Slot), m_X12_marks_B56 F (m_X12_marks_L23 F k23) v0 v1 v2 fa = some (r, f') → Wd G fa n H → va_S (WA G) s.heap H locs → lv_has ls 4 [(0, rr G v0), (1, .int v1), (2, .int v2)] → W p l e (headSpec (wsO yX12_marks cX12_marks 4 (some .int)) { frames := 5, cells := 0, slots := 0, locals := 116 }).room s m [rr G u0, .int u1].toArray below meth c H locs 0 0 (MQ below (Qcn G (some (.int r)) f' n) [rr G u0, .int u1].toArray s 0 0 (WA G)) (F0 m 56 ls []) := by
        intro v0 v1 v2 fa H locs ls hE hW hS hl
        refine s_aload_n hx hb dX12_marks_56 rfl (lv_at hl 0 rfl) ?_
        obtain ⟨c13, hE⟩ := ck hE
        obtain ⟨x14, f15, hx14, hE⟩ := bd2_of hE
        refine s_callV (As := []) (rest := []) CF hK hW hS (S_X12_nearestLike l G F hx14) c13 rfl gv_X12_335 hd_X12_nearestLike ⟨Nat.le_of_ble_eq_true rfl, Nat.le_of_ble_eq_true rfl⟩ rfl hl.1 rfl (Nat.le_of_ble_eq_true rfl) dX12_marks_57 ⟨Nat.le_refl _, Nat.le_refl _⟩ (fun H locs hW hS => ?_)
        refine lv_iconst (v := (2 : Int32)) hx hb dX12_marks_60 (by decide) ?_
        refine lv_iload_n hx hb dX12_marks_61 rfl (lv_at hl 1 rfl) ?_
        refine lv_imul hx hb dX12_marks_62 ?_
        refine lv_icmp_le (tgt := 68) hx hb dX12_marks_63 (by decide) (fun q16 => ?_) (fun q16 => ?_)
        · replace hE := ite_t q16 hE
          obtain ⟨y17, ey17⟩ : ∃ y : Int32, y = v2 + (1 : Int32) := ⟨_, rfl⟩
          replace hE := nm_o ey17 hE
          refine lv_iinc (k := 2) (v := y17) (lv' := [(2, .int y17), (0, rr G v0), (1, .int v1)]) hx hb dX12_marks_68 hl rfl (by rw [ey17]; rfl) (by decide) rfl (fun ls hl => ?_)
          refine lv_goto (tgt := 23) hx hb dX12_marks_71 (by decide) ?_
          exact ih23 _ _ _ _ _ _ _ hE hW hS (lv_sub hl [1, 2, 0] rfl)
        · replace hE := ite_f q16 hE
          refine lv_iload_n hx hb dX12_marks_66 rfl (lv_at hl 2 rfl) ?_
          obtain ⟨rfl, rfl⟩ := so2 hE
          exact s_iret hx hb hr hlocks hW hS dX12_marks_67
      have hC33 : ∀ (k33 : Nat), ∀ (v0 : Option Nat) (v1 : Int32) (v2 : Int32) (v3 : Int32) (fa : Hp) (H : Heap) (locs : List Loc) (ls : Array Slot), m_X12_marks_L33 F (m_X12_marks_L23 F k23) k33 v0 v1 v2 v3 fa = some (r, f') → Wd G fa n H → va_S (WA G) s.heap H locs → lv_has ls 4 [(0, rr G v0), (1, .int v1), (2, .int v2), (3, .int v3)] → W p l e (headSpec (wsO yX12_marks cX12_marks 4 (some .int)) { frames := 5, cells := 0, slots := 0, locals := 116 }).room s m [rr G u0, .int u1].toArray below meth c H locs 0 0 (MQ below (Qcn G (some (.int r)) f' n) [rr G u0, .int u1].toArray s 0 0 (WA G)) (F0 m 33 ls []) := by
        intro k33
        induction k33 with
        | zero => intro v0 v1 v2 v3 fa H locs ls hE _ _ _; cases (show (none : Option ((Int32) × Hp)) = some (r, f') from hE)
        | succ k33 ih33 =>
          intro v0 v1 v2 v3 fa H locs ls hE hW hS hl
          replace hE : m_X12_marks_b33 F (m_X12_marks_L23 F k23) (m_X12_marks_L33 F (m_X12_marks_L23 F k23) k33) v0 v1 v2 v3 fa = some (r, f') := hE
          refine lv_iload_n hx hb dX12_marks_33 rfl (lv_at hl 3 rfl) ?_
          refine s_aload_n hx hb dX12_marks_34 rfl (lv_at hl 0 rfl) ?_
          obtain ⟨c6, hE⟩ := ck hE
          obtain ⟨x7, hx7, hE⟩ := bd hE
          refine s_callV (As := []) (rest := [.int v3]) CF hK hW hS (S_X12_lines l G F hx7) c6 rfl gv_X12_185 hd_X12_lines ⟨Nat.le_of_ble_eq_true rfl, Nat.le_of_ble_eq_true rfl⟩ rfl hl.1 rfl (Nat.le_of_ble_eq_true rfl) dX12_marks_35 ⟨Nat.le_refl _, Nat.le_refl _⟩ (fun H locs hW hS => ?_)
          refine lv_icmp_ge (tgt := 56) hx hb dX12_marks_38 (by decide) (fun q8 => ?_) (fun q8 => ?_)
          · replace hE := ite_t q8 hE
            exact hC56 _ _ _ _ _ _ _ hE hW hS (lv_sub hl [0, 1, 2] rfl)
          · replace hE := ite_f q8 hE
            refine s_aload_n hx hb dX12_marks_41 rfl (lv_at hl 0 rfl) ?_
            obtain ⟨x9, hx9, hE⟩ := bd hE
            refine s_gR hx hb hT u_X12 hown hK hW hx9 rfl (by decide) fl_X12_75 rfl dX12_marks_42 ?_
            refine lv_iload_n hx hb dX12_marks_45 rfl (lv_at hl 3 rfl) ?_
            refine lv_iload_n hx hb dX12_marks_46 rfl (lv_at hl 3 rfl) ?_
            refine lv_iload_n hx hb dX12_marks_47 rfl (lv_at hl 2 rfl) ?_
            obtain ⟨c10, hE⟩ := ck hE
            refine lv_irem hx hb dX12_marks_48 (of_decide_eq_true c10) ?_
            obtain ⟨f11, hf11, hE⟩ := bd hE
            refine s_stI hx hb hK hW hS hf11 dX12_marks_49 (fun H locs hW hS => ?_)
            obtain ⟨y12, ey12⟩ : ∃ y : Int32, y = v3 + (1 : Int32) := ⟨_, rfl⟩
            replace hE := nm_o ey12 hE
            refine lv_iinc (k := 3) (v := y12) (lv' := [(3, .int y12), (0, rr G v0), (1, .int v1), (2, .int v2)]) hx hb dX12_marks_50 hl rfl (by rw [ey12]; rfl) (by decide) rfl (fun ls hl => ?_)
            refine lv_goto (tgt := 33) hx hb dX12_marks_53 (by decide) ?_
            exact ih33 _ _ _ _ _ _ _ _ hE hW hS (lv_sub hl [1, 2, 3, 0] rfl)
      intro v0 v1 v2 fa H locs ls hE hW hS hl
      replace hE : m_X12_marks_b23 F (m_X12_marks_L23 F k23) v0 v1 v2 fa = some (r, f') := hE
      refine lv_iload_n hx hb dX12_marks_23 rfl (lv_at hl 2 rfl) ?_
      refine s_aload_n hx hb dX12_marks_24 rfl (lv_at hl 0 rfl) ?_
      obtain ⟨c1, hE⟩ := ck hE
      obtain ⟨x2, hx2, hE⟩ := bd hE
      refine s_callV (As := []) (rest := [.int v2]) CF hK hW hS (S_X12_lines l G F hx2) c1 rfl gv_X12_185 hd_X12_lines ⟨Nat.le_of_ble_eq_true rfl, Nat.le_of_ble_eq_true rfl⟩ rfl hl.1 rfl (Nat.le_of_ble_eq_true rfl) dX12_marks_25 ⟨Nat.le_refl _, Nat.le_refl _⟩ (fun H locs hW hS => ?_)
      refine lv_icmp_ge (tgt := 74) hx hb dX12_marks_28 (by decide) (fun q3 => ?_) (fun q3 => ?_)
      · replace hE := ite_t q3 hE
        refine s_aload_n hx hb dX12_marks_74 rfl (lv_at hl 0 rfl) ?_
        obtain ⟨c4, hE⟩ := ck hE
        obtain ⟨x5, hx5, hE⟩ := bd hE
        refine s_callV (As := []) (rest := []) CF hK hW hS (S_X12_lines l G F hx5) c4 rfl gv_X12_185 hd_X12_lines ⟨Nat.le_of_ble_eq_true rfl, Nat.le_of_ble_eq_true rfl⟩ rfl hl.1 rfl (Nat.le_of_ble_eq_true rfl) dX12_marks_75 ⟨Nat.le_refl _, Nat.le_refl _⟩ (fun H locs hW hS => ?_)
        obtain ⟨rfl, rfl⟩ := so2 hE
        exact s_iret hx hb hr hlocks hW hS dX12_marks_78
      · replace hE := ite_f q3 hE
        refine lv_iconst (v := (0 : Int32)) hx hb dX12_marks_31 (by decide) ?_
        refine lv_istore_n (i := 3) (lv' := [(3, .int (0 : Int32)), (0, rr G v0), (1, .int v1), (2, .int v2)]) hx hb dX12_marks_32 rfl hl (by decide) rfl (fun ls hl => ?_)
        exact hC33 F _ _ _ _ _ _ _ _ hE hW hS (lv_sub hl [1, 2, 3, 0] rfl)
  refine s_aload_n hx hb dX12_marks_0 rfl (lv_at hl 0 rfl) ?_
  refine lv_iconst (v := (0 : Int32)) hx hb dX12_marks_1 (by decide) ?_
  obtain ⟨f18, hf18, hE⟩ := bd hE
  refine s_putI hx hb hT u_X12 tyX12 tyX12_ok nmX12 hown hK hW hS hf18 rfl (by decide) fl_X12_81 rfl (Or.inl rfl) rfl dX12_marks_2 (fun H locs hW hS => ?_)
  refine s_aload_n hx hb dX12_marks_5 rfl (lv_at hl 0 rfl) ?_
  obtain ⟨c19, hE⟩ := ck hE
  obtain ⟨f20, hf20, hE⟩ := bd hE
  refine s_callV (As := []) (rest := []) CF hK hW hS (S_X12_lay l G F hf20) c19 rfl gv_X12_164 hd_X12_lay ⟨Nat.le_of_ble_eq_true rfl, Nat.le_of_ble_eq_true rfl⟩ rfl hl.1 rfl (Nat.le_of_ble_eq_true rfl) dX12_marks_6 ⟨Nat.le_refl _, Nat.le_refl _⟩ (fun H locs hW hS => ?_)
  refine lv_iload_n hx hb dX12_marks_9 rfl (lv_at hl 1 rfl) ?_
  refine lv_iconst (v := (0 : Int32)) hx hb dX12_marks_10 (by decide) ?_
  refine lv_bipush (v := (9 : Int32)) hx hb dX12_marks_11 (by decide) ?_
  obtain ⟨x21, hx21, hE⟩ := bd hE
  refine s_callS (As := [.int u1, .int (0 : Int32), .int (9 : Int32)]) (rest := []) CF hK hW hS (S_X12_isIn l G F hx21) gs_X12_151 hd_X12_isIn.2 ⟨Nat.le_of_ble_eq_true rfl, Nat.le_of_ble_eq_true rfl⟩ rfl hl.1 rfl (Nat.le_of_ble_eq_true rfl) dX12_marks_13 ⟨Nat.le_refl _, Nat.le_refl _⟩ (fun H locs hW hS => ?_)
  refine lv_if_ne (tgt := 21) hx hb dX12_marks_16 (by decide) (fun q22 => ?_) (fun q22 => ?_)
  · replace hE := ite_f q22 hE
    refine lv_iconst (v := (1 : Int32)) hx hb dX12_marks_21 (by decide) ?_
    refine lv_istore_n (i := 2) (lv' := [(2, .int (1 : Int32)), (0, rr G u0), (1, .int u1)]) hx hb dX12_marks_22 rfl hl (by decide) rfl (fun ls hl => ?_)
    exact hC23 F _ _ _ _ _ _ _ hE hW hS (lv_sub hl [1, 2, 0] rfl)
  · replace hE := ite_t q22 hE
    refine lv_iconst (v := (-1 : Int32)) hx hb dX12_marks_19 (by decide) ?_
    obtain ⟨rfl, rfl⟩ := so2 hE
    exact s_iret hx hb hr hlocks hW hS dX12_marks_20
set_option maxHeartbeats 4000000 in
set_option maxRecDepth 100000 in
theorem S_X12_mended (l : Launch) (G : GG) (F : Nat) {u0 : Option Nat} {u1 : Int32} {u2 : Int32} {f : Hp} {r : Int32} {f' : Hp} {n : Nat} (hE : m_X12_mended F u0 u1 u2 f = some (r, f')) : Ctr l G yX12_mended cX12_mended 7 (some .int) 4 92 [rr G u0, .int u1, .int u2] f n (some (.int r)) f' n 0 0 := by
  refine Met.ofW (cc := cX12_mended) (maxL := 7) (ret := (some .int)) (by decide) rfl ?_
  intro p e s m args below meth c s₁ B hml hv
  obtain ⟨rfl, hK, hW⟩ := hv
  have hx := B.exec
  have hb := B.bytes
  have hr := B.returns
  have hts := atoms_spec (ws := wsO yX12_mended cX12_mended 7 (some .int)) B.pre
  have hT : ∀ w ∈ TB, w.before [rr G u0, .int u1, .int u2].toArray s = true := fun w hw => hts w (List.mem_cons_of_mem _ hw)
  have hown : s.vm.findClass RX12 = some m.cls := findClass_of_methodNamed B.named
  have hlocks := B.notSynchronized
  have CF : CallFix p m c cX12_mended 7 s [rr G u0, .int u1, .int u2].toArray TB RX12 := ⟨hx, hb, hml, hown, hT⟩
  have hS : va_S (WA G) s.heap s.heap [] := va_S.rf
  have hl : lv_has (lg_sl ([rr G u0, .int u1, .int u2]) ++ List.replicate (7 - (lg_sl ([rr G u0, .int u1, .int u2])).length) Slot.unset).toArray 7 [(0, rr G u0), (1, .int u1), (2, .int u2)] := by cases u0 <;> exact lv_entry _ (Nat.le_of_ble_eq_true rfl)
  rw [lg_entry_eq]
  generalize (lg_sl ([rr G u0, .int u1, .int u2]) ++ List.replicate (7 - (lg_sl ([rr G u0, .int u1, .int u2])).length) Slot.unset).toArray = ls at hl ⊢
  have hC112 : ∀ (v2 : Int32) (v3 : Int32) (v4 : Int32) (fa : Hp) (H : Heap) (locs : List Loc) (ls : Array Slot), m_X12_mended_B112 F v2 v3 v4 fa = some (r, f') → Wd G fa n H → va_S (WA G) s.heap H locs → lv_has ls 7 [(2, .int v2), (3, .int v3), (4, .int v4)] → W p l e (headSpec (wsO yX12_mended cX12_mended 7 (some .int)) { frames := 4, cells := 0, slots := 0, locals := 92 }).room s m [rr G u0, .int u1, .int u2].toArray below meth c H locs 0 0 (MQ below (Qcn G (some (.int r)) f' n) [rr G u0, .int u1, .int u2].toArray s 0 0 (WA G)) (F0 m 112 ls []) := by
    intro v2 v3 v4 fa H locs ls hE hW hS hl
    refine lv_iload_n hx hb dX12_mended_112 rfl (lv_at hl 1 rfl) ?_
    refine lv_iconst (v := (-1 : Int32)) hx hb dX12_mended_113 (by decide) ?_
    refine lv_icmp_ne (tgt := 121) hx hb dX12_mended_114 (by decide) (fun q19 => ?_) (fun q19 => ?_)
    · replace hE := ite_f q19 hE
      refine lv_iload_n hx hb dX12_mended_121 rfl (lv_at hl 0 rfl) ?_
      refine lv_if_ne (tgt := 129) hx hb dX12_mended_122 (by decide) (fun q20 => ?_) (fun q20 => ?_)
      · replace hE := ite_f q20 hE
        refine lv_iload hx hb dX12_mended_129 (lv_at hl 2 rfl) ?_
        obtain ⟨rfl, rfl⟩ := so2 hE
        exact s_iret hx hb hr hlocks hW hS dX12_mended_131
      · replace hE := ite_t q20 hE
        refine lv_iload_n hx hb dX12_mended_125 rfl (lv_at hl 1 rfl) ?_
        refine lv_goto (tgt := 131) hx hb dX12_mended_126 (by decide) ?_
        obtain ⟨rfl, rfl⟩ := so2 hE
        exact s_iret hx hb hr hlocks hW hS dX12_mended_131
    · replace hE := ite_t q19 hE
      refine lv_iconst (v := (-1 : Int32)) hx hb dX12_mended_117 (by decide) ?_
      refine lv_goto (tgt := 131) hx hb dX12_mended_118 (by decide) ?_
      obtain ⟨rfl, rfl⟩ := so2 hE
      exact s_iret hx hb hr hlocks hW hS dX12_mended_131
  have hC45 : ∀ (k45 : Nat), ∀ (v0 : Option Nat) (v2 : Int32) (v3 : Int32) (v4 : Int32) (v5 : Int32) (fa : Hp) (H : Heap) (locs : List Loc) (ls : Array Slot), m_X12_mended_L45 F k45 v0 v2 v3 v4 v5 fa = some (r, f') → Wd G fa n H → va_S (WA G) s.heap H locs → lv_has ls 7 [(0, rr G v0), (2, .int v2), (3, .int v3), (4, .int v4), (5, .int v5)] → W p l e (headSpec (wsO yX12_mended cX12_mended 7 (some .int)) { frames := 4, cells := 0, slots := 0, locals := 92 }).room s m [rr G u0, .int u1, .int u2].toArray below meth c H locs 0 0 (MQ below (Qcn G (some (.int r)) f' n) [rr G u0, .int u1, .int u2].toArray s 0 0 (WA G)) (F0 m 45 ls []) := by
    intro k45
    induction k45 with
    | zero => intro v0 v2 v3 v4 v5 fa H locs ls hE _ _ _; cases (show (none : Option ((Int32) × Hp)) = some (r, f') from hE)
    | succ k45 ih45 =>
      intro v0 v2 v3 v4 v5 fa H locs ls hE hW hS hl
      replace hE : m_X12_mended_b45 F (m_X12_mended_L45 F k45) v0 v2 v3 v4 v5 fa = some (r, f') := hE
      refine lv_iload hx hb dX12_mended_45 (lv_at hl 4 rfl) ?_
      refine s_aload_n hx hb dX12_mended_47 rfl (lv_at hl 0 rfl) ?_
      obtain ⟨c1, hE⟩ := ck hE
      obtain ⟨x2, hx2, hE⟩ := bd hE
      refine s_callV (As := []) (rest := [.int v5]) CF hK hW hS (S_X12_orders l G F hx2) c1 rfl gv_X12_251 hd_X12_orders ⟨Nat.le_of_ble_eq_true rfl, Nat.le_of_ble_eq_true rfl⟩ rfl hl.1 rfl (Nat.le_of_ble_eq_true rfl) dX12_mended_48 ⟨Nat.le_refl _, Nat.le_refl _⟩ (fun H locs hW hS => ?_)
      refine lv_icmp_ge (tgt := 112) hx hb dX12_mended_51 (by decide) (fun q3 => ?_) (fun q3 => ?_)
      · replace hE := ite_t q3 hE
        exact hC112 _ _ _ _ _ _ _ hE hW hS (lv_sub hl [1, 2, 3] rfl)
      · replace hE := ite_f q3 hE
        refine s_aload_n hx hb dX12_mended_54 rfl (lv_at hl 0 rfl) ?_
        refine lv_iload hx hb dX12_mended_55 (lv_at hl 4 rfl) ?_
        refine s_aload_n hx hb dX12_mended_57 rfl (lv_at hl 0 rfl) ?_
        obtain ⟨x4, hx4, hE⟩ := bd hE
        refine s_gR hx hb hT u_X12 hown hK hW hx4 rfl (by decide) fl_X12_42 rfl dX12_mended_58 ?_
        obtain ⟨c5, hE⟩ := ck hE
        obtain ⟨f6, hf6, hE⟩ := bd hE
        refine s_callV (As := [.int v5, rr G x4]) (rest := []) CF hK hW hS (S_X12_layOrder l G F hf6) c5 rfl gv_X12_292 hd_X12_layOrder ⟨Nat.le_of_ble_eq_true rfl, Nat.le_of_ble_eq_true rfl⟩ rfl hl.1 rfl (Nat.le_of_ble_eq_true rfl) dX12_mended_61 ⟨Nat.le_refl _, Nat.le_refl _⟩ (fun H locs hW hS => ?_)
        refine s_aload_n hx hb dX12_mended_64 rfl (lv_at hl 0 rfl) ?_
        refine s_aload_n hx hb dX12_mended_65 rfl (lv_at hl 0 rfl) ?_
        obtain ⟨x7, hx7, hE⟩ := bd hE
        refine s_gR hx hb hT u_X12 hown hK hW hx7 rfl (by decide) fl_X12_42 rfl dX12_mended_66 ?_
        obtain ⟨c8, hE⟩ := ck hE
        obtain ⟨x9, hx9, hE⟩ := bd hE
        refine s_callV (As := [rr G x7]) (rest := []) CF hK hW hS (S_X12_hasSense l G F hx9) c8 rfl gv_X12_338 hd_X12_hasSense ⟨Nat.le_of_ble_eq_true rfl, Nat.le_of_ble_eq_true rfl⟩ rfl hl.1 rfl (Nat.le_of_ble_eq_true rfl) dX12_mended_69 ⟨Nat.le_refl _, Nat.le_refl _⟩ (fun H locs hW hS => ?_)
        refine lv_if_ne (tgt := 78) hx hb dX12_mended_72 (by decide) (fun q10 => ?_) (fun q10 => ?_)
        · replace hE := ite_f q10 hE
          refine s_aload_n hx hb dX12_mended_78 rfl (lv_at hl 0 rfl) ?_
          obtain ⟨c11, hE⟩ := ck hE
          obtain ⟨x12, hx12, hE⟩ := bd hE
          refine s_callV (As := []) (rest := []) CF hK hW hS (S_X12_far l G F hx12) c11 rfl gv_X12_273 hd_X12_far ⟨Nat.le_of_ble_eq_true rfl, Nat.le_of_ble_eq_true rfl⟩ rfl hl.1 rfl (Nat.le_of_ble_eq_true rfl) dX12_mended_79 ⟨Nat.le_refl _, Nat.le_refl _⟩ (fun H locs hW hS => ?_)
          refine lv_istore (lv' := [(6, .int x12), (0, rr G v0), (2, .int v2), (3, .int v3), (4, .int v4), (5, .int v5)]) hx hb dX12_mended_82 hl (by decide) rfl (fun ls hl => ?_)
          refine lv_iload_n hx hb dX12_mended_84 rfl (lv_at hl 3 rfl) ?_
          refine lv_iconst (v := (-1 : Int32)) hx hb dX12_mended_85 (by decide) ?_
          refine lv_icmp_eq (tgt := 99) hx hb dX12_mended_86 (by decide) (fun q13 => ?_) (fun q13 => ?_)
          · replace hE := ite_t q13 hE
            refine lv_iload hx hb dX12_mended_99 (lv_at hl 5 rfl) ?_
            refine lv_istore_n (i := 3) (lv' := [(3, .int v5), (6, .int x12), (0, rr G v0), (2, .int v2), (4, .int v4), (5, .int v5)]) hx hb dX12_mended_101 rfl hl (by decide) rfl (fun ls hl => ?_)
            refine lv_iload hx hb dX12_mended_102 (lv_at hl 1 rfl) ?_
            refine lv_istore (lv' := [(4, .int x12), (3, .int v5), (6, .int x12), (0, rr G v0), (2, .int v2), (5, .int v5)]) hx hb dX12_mended_104 hl (by decide) rfl (fun ls hl => ?_)
            obtain ⟨y14, ey14⟩ : ∃ y : Int32, y = v5 + (1 : Int32) := ⟨_, rfl⟩
            replace hE := nm_o ey14 hE
            refine lv_iinc (k := 5) (v := y14) (lv' := [(5, .int y14), (4, .int x12), (3, .int v5), (6, .int x12), (0, rr G v0), (2, .int v2)]) hx hb dX12_mended_106 hl rfl (by rw [ey14]; rfl) (by decide) rfl (fun ls hl => ?_)
            refine lv_goto (tgt := 45) hx hb dX12_mended_109 (by decide) ?_
            exact ih45 _ _ _ _ _ _ _ _ _ hE hW hS (lv_sub hl [4, 5, 2, 1, 0] rfl)
          · replace hE := ite_f q13 hE
            refine lv_iload hx hb dX12_mended_89 (lv_at hl 0 rfl) ?_
            refine lv_iload hx hb dX12_mended_91 (lv_at hl 4 rfl) ?_
            refine lv_icmp_lt (tgt := 99) hx hb dX12_mended_93 (by decide) (fun q15 => ?_) (fun q15 => ?_)
            · replace hE := ite_t q15 hE
              refine lv_iload hx hb dX12_mended_99 (lv_at hl 5 rfl) ?_
              refine lv_istore_n (i := 3) (lv' := [(3, .int v5), (6, .int x12), (0, rr G v0), (2, .int v2), (4, .int v4), (5, .int v5)]) hx hb dX12_mended_101 rfl hl (by decide) rfl (fun ls hl => ?_)
              refine lv_iload hx hb dX12_mended_102 (lv_at hl 1 rfl) ?_
              refine lv_istore (lv' := [(4, .int x12), (3, .int v5), (6, .int x12), (0, rr G v0), (2, .int v2), (5, .int v5)]) hx hb dX12_mended_104 hl (by decide) rfl (fun ls hl => ?_)
              obtain ⟨y16, ey16⟩ : ∃ y : Int32, y = v5 + (1 : Int32) := ⟨_, rfl⟩
              replace hE := nm_o ey16 hE
              refine lv_iinc (k := 5) (v := y16) (lv' := [(5, .int y16), (4, .int x12), (3, .int v5), (6, .int x12), (0, rr G v0), (2, .int v2)]) hx hb dX12_mended_106 hl rfl (by rw [ey16]; rfl) (by decide) rfl (fun ls hl => ?_)
              refine lv_goto (tgt := 45) hx hb dX12_mended_109 (by decide) ?_
              exact ih45 _ _ _ _ _ _ _ _ _ hE hW hS (lv_sub hl [4, 5, 2, 1, 0] rfl)
            · replace hE := ite_f q15 hE
              refine lv_goto (tgt := 106) hx hb dX12_mended_96 (by decide) ?_
              obtain ⟨y17, ey17⟩ : ∃ y : Int32, y = v5 + (1 : Int32) := ⟨_, rfl⟩
              replace hE := nm_o ey17 hE
              refine lv_iinc (k := 5) (v := y17) (lv' := [(5, .int y17), (6, .int x12), (0, rr G v0), (2, .int v2), (3, .int v3), (4, .int v4)]) hx hb dX12_mended_106 hl rfl (by rw [ey17]; rfl) (by decide) rfl (fun ls hl => ?_)
              refine lv_goto (tgt := 45) hx hb dX12_mended_109 (by decide) ?_
              exact ih45 _ _ _ _ _ _ _ _ _ hE hW hS (lv_sub hl [2, 3, 4, 5, 0] rfl)
        · replace hE := ite_t q10 hE
          refine lv_goto (tgt := 106) hx hb dX12_mended_75 (by decide) ?_
          obtain ⟨y18, ey18⟩ : ∃ y : Int32, y = v5 + (1 : Int32) := ⟨_, rfl⟩
          replace hE := nm_o ey18 hE
          refine lv_iinc (k := 4) (v := y18) (lv' := [(5, .int y18), (0, rr G v0), (2, .int v2), (3, .int v3), (4, .int v4)]) hx hb dX12_mended_106 hl rfl (by rw [ey18]; rfl) (by decide) rfl (fun ls hl => ?_)
          refine lv_goto (tgt := 45) hx hb dX12_mended_109 (by decide) ?_
          exact ih45 _ _ _ _ _ _ _ _ _ hE hW hS (lv_sub hl [1, 2, 3, 4, 0] rfl)
  refine s_aload_n hx hb dX12_mended_0 rfl (lv_at hl 0 rfl) ?_
  refine lv_iconst (v := (0 : Int32)) hx hb dX12_mended_1 (by decide) ?_
  obtain ⟨f21, hf21, hE⟩ := bd hE
  refine s_putI hx hb hT u_X12 tyX12 tyX12_ok nmX12 hown hK hW hS hf21 rfl (by decide) fl_X12_81 rfl (Or.inl rfl) rfl dX12_mended_2 (fun H locs hW hS => ?_)
  refine s_aload_n hx hb dX12_mended_5 rfl (lv_at hl 0 rfl) ?_
  obtain ⟨c22, hE⟩ := ck hE
  obtain ⟨f23, hf23, hE⟩ := bd hE
  refine s_callV (As := []) (rest := []) CF hK hW hS (S_X12_lay l G F hf23) c22 rfl gv_X12_164 hd_X12_lay ⟨Nat.le_of_ble_eq_true rfl, Nat.le_of_ble_eq_true rfl⟩ rfl hl.1 rfl (Nat.le_of_ble_eq_true rfl) dX12_mended_6 ⟨Nat.le_refl _, Nat.le_refl _⟩ (fun H locs hW hS => ?_)
  refine s_aload_n hx hb dX12_mended_9 rfl (lv_at hl 0 rfl) ?_
  refine lv_iload_n hx hb dX12_mended_10 rfl (lv_at hl 1 rfl) ?_
  obtain ⟨c24, hE⟩ := ck hE
  obtain ⟨x25, hx25, hE⟩ := bd hE
  refine s_callV (As := [.int u1]) (rest := []) CF hK hW hS (S_X12_isCopy l G F hx25) c24 rfl gv_X12_241 hd_X12_isCopy ⟨Nat.le_of_ble_eq_true rfl, Nat.le_of_ble_eq_true rfl⟩ rfl hl.1 rfl (Nat.le_of_ble_eq_true rfl) dX12_mended_11 ⟨Nat.le_refl _, Nat.le_refl _⟩ (fun H locs hW hS => ?_)
  refine lv_if_eq (tgt := 26) hx hb dX12_mended_14 (by decide) (fun q26 => ?_) (fun q26 => ?_)
  · replace hE := ite_t q26 hE
    refine lv_iconst (v := (-1 : Int32)) hx hb dX12_mended_26 (by decide) ?_
    obtain ⟨rfl, rfl⟩ := so2 hE
    exact s_iret hx hb hr hlocks hW hS dX12_mended_27
  · replace hE := ite_f q26 hE
    refine lv_iload_n hx hb dX12_mended_17 rfl (lv_at hl 2 rfl) ?_
    refine lv_iconst (v := (0 : Int32)) hx hb dX12_mended_18 (by decide) ?_
    refine lv_iconst (v := (1 : Int32)) hx hb dX12_mended_19 (by decide) ?_
    obtain ⟨x27, hx27, hE⟩ := bd hE
    refine s_callS (As := [.int u2, .int (0 : Int32), .int (1 : Int32)]) (rest := []) CF hK hW hS (S_X12_isIn l G F hx27) gs_X12_151 hd_X12_isIn.2 ⟨Nat.le_of_ble_eq_true rfl, Nat.le_of_ble_eq_true rfl⟩ rfl hl.1 rfl (Nat.le_of_ble_eq_true rfl) dX12_mended_20 ⟨Nat.le_refl _, Nat.le_refl _⟩ (fun H locs hW hS => ?_)
    refine lv_if_ne (tgt := 28) hx hb dX12_mended_23 (by decide) (fun q28 => ?_) (fun q28 => ?_)
    · replace hE := ite_f q28 hE
      refine s_aload_n hx hb dX12_mended_28 rfl (lv_at hl 0 rfl) ?_
      refine lv_iload_n hx hb dX12_mended_29 rfl (lv_at hl 1 rfl) ?_
      refine s_aload_n hx hb dX12_mended_30 rfl (lv_at hl 0 rfl) ?_
      obtain ⟨x29, hx29, hE⟩ := bd hE
      refine s_gR hx hb hT u_X12 hown hK hW hx29 rfl (by decide) fl_X12_45 rfl dX12_mended_31 ?_
      obtain ⟨c30, hE⟩ := ck hE
      obtain ⟨f31, hf31, hE⟩ := bd hE
      refine s_callV (As := [.int u1, rr G x29]) (rest := []) CF hK hW hS (S_X12_layCopy l G F hf31) c30 rfl gv_X12_265 hd_X12_layCopy ⟨Nat.le_of_ble_eq_true rfl, Nat.le_of_ble_eq_true rfl⟩ rfl hl.1 rfl (Nat.le_of_ble_eq_true rfl) dX12_mended_34 ⟨Nat.le_refl _, Nat.le_refl _⟩ (fun H locs hW hS => ?_)
      refine lv_iconst (v := (-1 : Int32)) hx hb dX12_mended_37 (by decide) ?_
      refine lv_istore_n (i := 3) (lv' := [(3, .int (-1 : Int32)), (0, rr G u0), (1, .int u1), (2, .int u2)]) hx hb dX12_mended_38 rfl hl (by decide) rfl (fun ls hl => ?_)
      refine lv_iconst (v := (0 : Int32)) hx hb dX12_mended_39 (by decide) ?_
      refine lv_istore (lv' := [(4, .int (0 : Int32)), (3, .int (-1 : Int32)), (0, rr G u0), (1, .int u1), (2, .int u2)]) hx hb dX12_mended_40 hl (by decide) rfl (fun ls hl => ?_)
      refine lv_iconst (v := (0 : Int32)) hx hb dX12_mended_42 (by decide) ?_
      refine lv_istore (lv' := [(5, .int (0 : Int32)), (4, .int (0 : Int32)), (3, .int (-1 : Int32)), (0, rr G u0), (1, .int u1), (2, .int u2)]) hx hb dX12_mended_43 hl (by decide) rfl (fun ls hl => ?_)
      exact hC45 F _ _ _ _ _ _ _ _ _ hE hW hS (lv_sub hl [3, 5, 2, 1, 0] rfl)
    · replace hE := ite_t q28 hE
      refine lv_iconst (v := (-1 : Int32)) hx hb dX12_mended_26 (by decide) ?_
      obtain ⟨rfl, rfl⟩ := so2 hE
      exact s_iret hx hb hr hlocks hW hS dX12_mended_27
set_option maxHeartbeats 4000000 in
set_option maxRecDepth 100000 in
theorem S_X12_missing (l : Launch) (G : GG) (F : Nat) {u0 : Option Nat} {u1 : Int32} {f : Hp} {r : Int32} {f' : Hp} {n : Nat} (hE : m_X12_missing F u0 u1 f = some (r, f')) : Ctr l G yX12_missing cX12_missing 6 (some .int) 4 92 [rr G u0, .int u1] f n (some (.int r)) f' n 0 0 := by
  refine Met.ofW (cc := cX12_missing) (maxL := 6) (ret := (some .int)) (by decide) rfl ?_
  intro p e s m args below meth c s₁ B hml hv
  obtain ⟨rfl, hK, hW⟩ := hv
  have hx := B.exec
  have hb := B.bytes
  have hr := B.returns
  have hts := atoms_spec (ws := wsO yX12_missing cX12_missing 6 (some .int)) B.pre
  have hT : ∀ w ∈ TB, w.before [rr G u0, .int u1].toArray s = true := fun w hw => hts w (List.mem_cons_of_mem _ hw)
  have hown : s.vm.findClass RX12 = some m.cls := findClass_of_methodNamed B.named
  have hlocks := B.notSynchronized
  have CF : CallFix p m c cX12_missing 6 s [rr G u0, .int u1].toArray TB RX12 := ⟨hx, hb, hml, hown, hT⟩
  have hS : va_S (WA G) s.heap s.heap [] := va_S.rf
  have hl : lv_has (lg_sl ([rr G u0, .int u1]) ++ List.replicate (6 - (lg_sl ([rr G u0, .int u1])).length) Slot.unset).toArray 6 [(0, rr G u0), (1, .int u1)] := by cases u0 <;> exact lv_entry _ (Nat.le_of_ble_eq_true rfl)
  rw [lg_entry_eq]
  generalize (lg_sl ([rr G u0, .int u1]) ++ List.replicate (6 - (lg_sl ([rr G u0, .int u1])).length) Slot.unset).toArray = ls at hl ⊢
  have hC210 : ∀ (v1 : Int32) (v2 : Int32) (v3 : Int32) (fa : Hp) (H : Heap) (locs : List Loc) (ls : Array Slot), m_X12_missing_B210 F v1 v2 v3 fa = some (r, f') → Wd G fa n H → va_S (WA G) s.heap H locs → lv_has ls 6 [(1, .int v1), (2, .int v2), (3, .int v3)] → W p l e (headSpec (wsO yX12_missing cX12_missing 6 (some .int)) { frames := 4, cells := 0, slots := 0, locals := 92 }).room s m [rr G u0, .int u1].toArray below meth c H locs 0 0 (MQ below (Qcn G (some (.int r)) f' n) [rr G u0, .int u1].toArray s 0 0 (WA G)) (F0 m 210 ls []) := by
    intro v1 v2 v3 fa H locs ls hE hW hS hl
    refine lv_iload_n hx hb dX12_missing_210 rfl (lv_at hl 2 rfl) ?_
    refine lv_iconst (v := (-1 : Int32)) hx hb dX12_missing_211 (by decide) ?_
    refine lv_icmp_ne (tgt := 219) hx hb dX12_missing_212 (by decide) (fun q47 => ?_) (fun q47 => ?_)
    · replace hE := ite_f q47 hE
      refine lv_iload_n hx hb dX12_missing_219 rfl (lv_at hl 0 rfl) ?_
      refine lv_if_ne (tgt := 227) hx hb dX12_missing_220 (by decide) (fun q48 => ?_) (fun q48 => ?_)
      · replace hE := ite_f q48 hE
        refine lv_iload_n hx hb dX12_missing_227 rfl (lv_at hl 1 rfl) ?_
        obtain ⟨rfl, rfl⟩ := so2 hE
        exact s_iret hx hb hr hlocks hW hS dX12_missing_228
      · replace hE := ite_t q48 hE
        refine lv_iload_n hx hb dX12_missing_223 rfl (lv_at hl 2 rfl) ?_
        refine lv_goto (tgt := 228) hx hb dX12_missing_224 (by decide) ?_
        obtain ⟨rfl, rfl⟩ := so2 hE
        exact s_iret hx hb hr hlocks hW hS dX12_missing_228
    · replace hE := ite_t q47 hE
      refine lv_iconst (v := (-1 : Int32)) hx hb dX12_missing_215 (by decide) ?_
      refine lv_goto (tgt := 228) hx hb dX12_missing_216 (by decide) ?_
      obtain ⟨rfl, rfl⟩ := so2 hE
      exact s_iret hx hb hr hlocks hW hS dX12_missing_228
  have hC76 : ∀ (k76 : Nat), ∀ (v0 : Option Nat) (v1 : Int32) (v2 : Int32) (v3 : Int32) (v4 : Int32) (fa : Hp) (H : Heap) (locs : List Loc) (ls : Array Slot), m_X12_missing_L76 F k76 v0 v1 v2 v3 v4 fa = some (r, f') → Wd G fa n H → va_S (WA G) s.heap H locs → lv_has ls 6 [(0, rr G v0), (1, .int v1), (2, .int v2), (3, .int v3), (4, .int v4)] → W p l e (headSpec (wsO yX12_missing cX12_missing 6 (some .int)) { frames := 4, cells := 0, slots := 0, locals := 92 }).room s m [rr G u0, .int u1].toArray below meth c H locs 0 0 (MQ below (Qcn G (some (.int r)) f' n) [rr G u0, .int u1].toArray s 0 0 (WA G)) (F0 m 76 ls []) := by
    intro k76
    induction k76 with
    | zero => intro v0 v1 v2 v3 v4 fa H locs ls hE _ _ _; cases (show (none : Option ((Int32) × Hp)) = some (r, f') from hE)
    | succ k76 ih76 =>
      have hC177 : ∀ (v0 : Option Nat) (v1 : Int32) (v2 : Int32) (v3 : Int32) (v4 : Int32) (fa : Hp) (H : Heap) (locs : List Loc) (ls : Array Slot), m_X12_missing_B177 F (m_X12_missing_L76 F k76) v0 v1 v2 v3 v4 fa = some (r, f') → Wd G fa n H → va_S (WA G) s.heap H locs → lv_has ls 6 [(0, rr G v0), (1, .int v1), (2, .int v2), (3, .int v3), (4, .int v4)] → W p l e (headSpec (wsO yX12_missing cX12_missing 6 (some .int)) { frames := 4, cells := 0, slots := 0, locals := 92 }).room s m [rr G u0, .int u1].toArray below meth c H locs 0 0 (MQ below (Qcn G (some (.int r)) f' n) [rr G u0, .int u1].toArray s 0 0 (WA G)) (F0 m 177 ls []) := by
        intro v0 v1 v2 v3 v4 fa H locs ls hE hW hS hl
        refine s_aload_n hx hb dX12_missing_177 rfl (lv_at hl 0 rfl) ?_
        refine s_aload_n hx hb dX12_missing_178 rfl (lv_at hl 0 rfl) ?_
        obtain ⟨x40, hx40, hE⟩ := bd hE
        refine s_gI hx hb hT u_X12 hown hK hW hx40 rfl (by decide) fl_X12_298 rfl dX12_missing_179 ?_
        refine lv_iconst (v := (1 : Int32)) hx hb dX12_missing_182 (by decide) ?_
        refine lv_iadd hx hb dX12_missing_183 ?_
        obtain ⟨c41, hE⟩ := ck hE
        obtain ⟨x42, f43, hx42, hE⟩ := bd2_of hE
        refine s_callV (As := [.int (x40 + (1 : Int32))]) (rest := []) CF hK hW hS (S_X12_joins l G F hx42) c41 rfl gv_X12_304 hd_X12_joins ⟨Nat.le_of_ble_eq_true rfl, Nat.le_of_ble_eq_true rfl⟩ rfl hl.1 rfl (Nat.le_of_ble_eq_true rfl) dX12_missing_184 ⟨Nat.le_refl _, Nat.le_refl _⟩ (fun H locs hW hS => ?_)
        refine lv_istore (lv' := [(5, .int x42), (0, rr G v0), (1, .int v1), (2, .int v2), (3, .int v3), (4, .int v4)]) hx hb dX12_missing_187 hl (by decide) rfl (fun ls hl => ?_)
        refine lv_iload hx hb dX12_missing_189 (lv_at hl 0 rfl) ?_
        refine lv_iload_n hx hb dX12_missing_191 rfl (lv_at hl 3 rfl) ?_
        refine lv_icmp_lt (tgt := 198) hx hb dX12_missing_192 (by decide) (fun q44 => ?_) (fun q44 => ?_)
        · replace hE := ite_t q44 hE
          refine lv_iload hx hb dX12_missing_198 (lv_at hl 0 rfl) ?_
          refine lv_istore_n (i := 2) (lv' := [(2, .int x42), (5, .int x42), (0, rr G v0), (1, .int v1), (3, .int v3), (4, .int v4)]) hx hb dX12_missing_200 rfl hl (by decide) rfl (fun ls hl => ?_)
          refine lv_iload hx hb dX12_missing_201 (lv_at hl 5 rfl) ?_
          refine lv_istore_n (i := 3) (lv' := [(3, .int v4), (2, .int x42), (5, .int x42), (0, rr G v0), (1, .int v1), (4, .int v4)]) hx hb dX12_missing_203 rfl hl (by decide) rfl (fun ls hl => ?_)
          obtain ⟨y45, ey45⟩ : ∃ y : Int32, y = v4 + (1 : Int32) := ⟨_, rfl⟩
          replace hE := nm_o ey45 hE
          refine lv_iinc (k := 5) (v := y45) (lv' := [(4, .int y45), (3, .int v4), (2, .int x42), (5, .int x42), (0, rr G v0), (1, .int v1)]) hx hb dX12_missing_204 hl rfl (by rw [ey45]; rfl) (by decide) rfl (fun ls hl => ?_)
          refine lv_goto (tgt := 76) hx hb dX12_missing_207 (by decide) ?_
          exact ih76 _ _ _ _ _ _ _ _ _ hE hW hS (lv_sub hl [4, 5, 2, 1, 0] rfl)
        · replace hE := ite_f q44 hE
          refine lv_goto (tgt := 204) hx hb dX12_missing_195 (by decide) ?_
          obtain ⟨y46, ey46⟩ : ∃ y : Int32, y = v4 + (1 : Int32) := ⟨_, rfl⟩
          replace hE := nm_o ey46 hE
          refine lv_iinc (k := 5) (v := y46) (lv' := [(4, .int y46), (5, .int x42), (0, rr G v0), (1, .int v1), (2, .int v2), (3, .int v3)]) hx hb dX12_missing_204 hl rfl (by rw [ey46]; rfl) (by decide) rfl (fun ls hl => ?_)
          refine lv_goto (tgt := 76) hx hb dX12_missing_207 (by decide) ?_
          exact ih76 _ _ _ _ _ _ _ _ _ hE hW hS (lv_sub hl [2, 3, 4, 5, 0] rfl)
      have hC98 : ∀ (k98 : Nat), ∀ (v0 : Option Nat) (v1 : Int32) (v2 : Int32) (v3 : Int32) (v4 : Int32) (v5 : Int32) (fa : Hp) (H : Heap) (locs : List Loc) (ls : Array Slot), m_X12_missing_L98 F (m_X12_missing_L76 F k76) k98 v0 v1 v2 v3 v4 v5 fa = some (r, f') → Wd G fa n H → va_S (WA G) s.heap H locs → lv_has ls 6 [(0, rr G v0), (1, .int v1), (2, .int v2), (3, .int v3), (4, .int v4), (5, .int v5)] → W p l e (headSpec (wsO yX12_missing cX12_missing 6 (some .int)) { frames := 4, cells := 0, slots := 0, locals := 92 }).room s m [rr G u0, .int u1].toArray below meth c H locs 0 0 (MQ below (Qcn G (some (.int r)) f' n) [rr G u0, .int u1].toArray s 0 0 (WA G)) (F0 m 98 ls []) := by
        intro k98
        induction k98 with
        | zero => intro v0 v1 v2 v3 v4 v5 fa H locs ls hE _ _ _; cases (show (none : Option ((Int32) × Hp)) = some (r, f') from hE)
        | succ k98 ih98 =>
          intro v0 v1 v2 v3 v4 v5 fa H locs ls hE hW hS hl
          replace hE : m_X12_missing_b98 F (m_X12_missing_L76 F k76) (m_X12_missing_L98 F (m_X12_missing_L76 F k76) k98) v0 v1 v2 v3 v4 v5 fa = some (r, f') := hE
          refine lv_iload hx hb dX12_missing_98 (lv_at hl 5 rfl) ?_
          refine s_aload_n hx hb dX12_missing_100 rfl (lv_at hl 0 rfl) ?_
          obtain ⟨x21, hx21, hE⟩ := bd hE
          refine s_gI hx hb hT u_X12 hown hK hW hx21 rfl (by decide) fl_X12_298 rfl dX12_missing_101 ?_
          refine lv_icmp_ge (tgt := 177) hx hb dX12_missing_104 (by decide) (fun q22 => ?_) (fun q22 => ?_)
          · replace hE := ite_t q22 hE
            exact hC177 _ _ _ _ _ _ _ _ _ hE hW hS (lv_sub hl [0, 1, 2, 3, 4] rfl)
          · replace hE := ite_f q22 hE
            refine s_aload_n hx hb dX12_missing_107 rfl (lv_at hl 0 rfl) ?_
            refine s_aload_n hx hb dX12_missing_108 rfl (lv_at hl 0 rfl) ?_
            obtain ⟨x23, hx23, hE⟩ := bd hE
            refine s_gR hx hb hT u_X12 hown hK hW hx23 rfl (by decide) fl_X12_48 rfl dX12_missing_109 ?_
            refine lv_iload hx hb dX12_missing_112 (lv_at hl 5 rfl) ?_
            obtain ⟨x24, hx24, hE⟩ := bd hE
            refine s_ldI hx hb hK hW hS hx24 dX12_missing_114 ?_
            refine s_aload_n hx hb dX12_missing_115 rfl (lv_at hl 0 rfl) ?_
            obtain ⟨x25, hx25, hE⟩ := bd hE
            refine s_gR hx hb hT u_X12 hown hK hW hx25 rfl (by decide) fl_X12_45 rfl dX12_missing_116 ?_
            obtain ⟨c26, hE⟩ := ck hE
            obtain ⟨f27, hf27, hE⟩ := bd hE
            refine s_callV (As := [.int x24, rr G x25]) (rest := []) CF hK hW hS (S_X12_layCopy l G F hf27) c26 rfl gv_X12_265 hd_X12_layCopy ⟨Nat.le_of_ble_eq_true rfl, Nat.le_of_ble_eq_true rfl⟩ rfl hl.1 rfl (Nat.le_of_ble_eq_true rfl) dX12_missing_119 ⟨Nat.le_refl _, Nat.le_refl _⟩ (fun H locs hW hS => ?_)
            refine s_aload_n hx hb dX12_missing_122 rfl (lv_at hl 0 rfl) ?_
            obtain ⟨x28, hx28, hE⟩ := bd hE
            refine s_gR hx hb hT u_X12 hown hK hW hx28 rfl (by decide) fl_X12_54 rfl dX12_missing_123 ?_
            refine lv_bipush (v := (10 : Int32)) hx hb dX12_missing_126 (by decide) ?_
            refine lv_iload hx hb dX12_missing_128 (lv_at hl 5 rfl) ?_
            refine lv_imul hx hb dX12_missing_130 ?_
            refine s_aload_n hx hb dX12_missing_131 rfl (lv_at hl 0 rfl) ?_
            obtain ⟨x29, hx29, hE⟩ := bd hE
            refine s_gI hx hb hT u_X12 hown hK hW hx29 rfl (by decide) fl_X12_298 rfl dX12_missing_132 ?_
            refine lv_iadd hx hb dX12_missing_135 ?_
            refine s_aload_n hx hb dX12_missing_136 rfl (lv_at hl 0 rfl) ?_
            obtain ⟨c30, hE⟩ := ck hE
            obtain ⟨x31, hx31, hE⟩ := bd hE
            refine s_callV (As := []) (rest := [.int (((10 : Int32) * v5) + x29), rr G x28]) CF hK hW hS (S_X12_far l G F hx31) c30 rfl gv_X12_273 hd_X12_far ⟨Nat.le_of_ble_eq_true rfl, Nat.le_of_ble_eq_true rfl⟩ rfl hl.1 rfl (Nat.le_of_ble_eq_true rfl) dX12_missing_137 ⟨Nat.le_refl _, Nat.le_refl _⟩ (fun H locs hW hS => ?_)
            obtain ⟨f32, hf32, hE⟩ := bd hE
            refine s_stI hx hb hK hW hS hf32 dX12_missing_140 (fun H locs hW hS => ?_)
            refine s_aload_n hx hb dX12_missing_141 rfl (lv_at hl 0 rfl) ?_
            obtain ⟨x33, hx33, hE⟩ := bd hE
            refine s_gR hx hb hT u_X12 hown hK hW hx33 rfl (by decide) fl_X12_54 rfl dX12_missing_142 ?_
            refine lv_bipush (v := (10 : Int32)) hx hb dX12_missing_145 (by decide) ?_
            refine s_aload_n hx hb dX12_missing_147 rfl (lv_at hl 0 rfl) ?_
            obtain ⟨x34, hx34, hE⟩ := bd hE
            refine s_gI hx hb hT u_X12 hown hK hW hx34 rfl (by decide) fl_X12_298 rfl dX12_missing_148 ?_
            refine lv_imul hx hb dX12_missing_151 ?_
            refine lv_iload hx hb dX12_missing_152 (lv_at hl 5 rfl) ?_
            refine lv_iadd hx hb dX12_missing_154 ?_
            refine s_aload_n hx hb dX12_missing_155 rfl (lv_at hl 0 rfl) ?_
            obtain ⟨x35, hx35, hE⟩ := bd hE
            refine s_gR hx hb hT u_X12 hown hK hW hx35 rfl (by decide) fl_X12_54 rfl dX12_missing_156 ?_
            refine lv_bipush (v := (10 : Int32)) hx hb dX12_missing_159 (by decide) ?_
            refine lv_iload hx hb dX12_missing_161 (lv_at hl 5 rfl) ?_
            refine lv_imul hx hb dX12_missing_163 ?_
            refine s_aload_n hx hb dX12_missing_164 rfl (lv_at hl 0 rfl) ?_
            obtain ⟨x36, hx36, hE⟩ := bd hE
            refine s_gI hx hb hT u_X12 hown hK hW hx36 rfl (by decide) fl_X12_298 rfl dX12_missing_165 ?_
            refine lv_iadd hx hb dX12_missing_168 ?_
            obtain ⟨x37, hx37, hE⟩ := bd hE
            refine s_ldI hx hb hK hW hS hx37 dX12_missing_169 ?_
            obtain ⟨f38, hf38, hE⟩ := bd hE
            refine s_stI hx hb hK hW hS hf38 dX12_missing_170 (fun H locs hW hS => ?_)
            obtain ⟨y39, ey39⟩ : ∃ y : Int32, y = v5 + (1 : Int32) := ⟨_, rfl⟩
            replace hE := nm_o ey39 hE
            refine lv_iinc (k := 5) (v := y39) (lv' := [(5, .int y39), (0, rr G v0), (1, .int v1), (2, .int v2), (3, .int v3), (4, .int v4)]) hx hb dX12_missing_171 hl rfl (by rw [ey39]; rfl) (by decide) rfl (fun ls hl => ?_)
            refine lv_goto (tgt := 98) hx hb dX12_missing_174 (by decide) ?_
            exact ih98 _ _ _ _ _ _ _ _ _ _ hE hW hS (lv_sub hl [1, 2, 3, 4, 5, 0] rfl)
      intro v0 v1 v2 v3 v4 fa H locs ls hE hW hS hl
      replace hE : m_X12_missing_b76 F (m_X12_missing_L76 F k76) v0 v1 v2 v3 v4 fa = some (r, f') := hE
      refine lv_iload hx hb dX12_missing_76 (lv_at hl 4 rfl) ?_
      refine s_aload_n hx hb dX12_missing_78 rfl (lv_at hl 0 rfl) ?_
      obtain ⟨c15, hE⟩ := ck hE
      obtain ⟨x16, hx16, hE⟩ := bd hE
      refine s_callV (As := []) (rest := [.int v4]) CF hK hW hS (S_X12_orders l G F hx16) c15 rfl gv_X12_251 hd_X12_orders ⟨Nat.le_of_ble_eq_true rfl, Nat.le_of_ble_eq_true rfl⟩ rfl hl.1 rfl (Nat.le_of_ble_eq_true rfl) dX12_missing_79 ⟨Nat.le_refl _, Nat.le_refl _⟩ (fun H locs hW hS => ?_)
      refine lv_icmp_ge (tgt := 210) hx hb dX12_missing_82 (by decide) (fun q17 => ?_) (fun q17 => ?_)
      · replace hE := ite_t q17 hE
        exact hC210 _ _ _ _ _ _ _ hE hW hS (lv_sub hl [1, 2, 3] rfl)
      · replace hE := ite_f q17 hE
        refine s_aload_n hx hb dX12_missing_85 rfl (lv_at hl 0 rfl) ?_
        refine lv_iload hx hb dX12_missing_86 (lv_at hl 4 rfl) ?_
        refine s_aload_n hx hb dX12_missing_88 rfl (lv_at hl 0 rfl) ?_
        obtain ⟨x18, hx18, hE⟩ := bd hE
        refine s_gR hx hb hT u_X12 hown hK hW hx18 rfl (by decide) fl_X12_42 rfl dX12_missing_89 ?_
        obtain ⟨c19, hE⟩ := ck hE
        obtain ⟨f20, hf20, hE⟩ := bd hE
        refine s_callV (As := [.int v4, rr G x18]) (rest := []) CF hK hW hS (S_X12_layOrder l G F hf20) c19 rfl gv_X12_292 hd_X12_layOrder ⟨Nat.le_of_ble_eq_true rfl, Nat.le_of_ble_eq_true rfl⟩ rfl hl.1 rfl (Nat.le_of_ble_eq_true rfl) dX12_missing_92 ⟨Nat.le_refl _, Nat.le_refl _⟩ (fun H locs hW hS => ?_)
        refine lv_iconst (v := (0 : Int32)) hx hb dX12_missing_95 (by decide) ?_
        refine lv_istore (lv' := [(5, .int (0 : Int32)), (0, rr G v0), (1, .int v1), (2, .int v2), (3, .int v3), (4, .int v4)]) hx hb dX12_missing_96 hl (by decide) rfl (fun ls hl => ?_)
        exact hC98 F _ _ _ _ _ _ _ _ _ _ hE hW hS (lv_sub hl [1, 2, 3, 4, 5, 0] rfl)
  have hC58 : ∀ (v0 : Option Nat) (v1 : Int32) (fa : Hp) (H : Heap) (locs : List Loc) (ls : Array Slot), m_X12_missing_B58 F v0 v1 fa = some (r, f') → Wd G fa n H → va_S (WA G) s.heap H locs → lv_has ls 6 [(0, rr G v0), (1, .int v1)] → W p l e (headSpec (wsO yX12_missing cX12_missing 6 (some .int)) { frames := 4, cells := 0, slots := 0, locals := 92 }).room s m [rr G u0, .int u1].toArray below meth c H locs 0 0 (MQ below (Qcn G (some (.int r)) f' n) [rr G u0, .int u1].toArray s 0 0 (WA G)) (F0 m 58 ls []) := by
    intro v0 v1 fa H locs ls hE hW hS hl
    refine s_aload_n hx hb dX12_missing_58 rfl (lv_at hl 0 rfl) ?_
    obtain ⟨c9, hE⟩ := ck hE
    obtain ⟨f10, hf10, hE⟩ := bd hE
    refine s_callV (As := []) (rest := []) CF hK hW hS (S_X12_layApart l G F hf10) c9 rfl gv_X12_301 hd_X12_layApart ⟨Nat.le_of_ble_eq_true rfl, Nat.le_of_ble_eq_true rfl⟩ rfl hl.1 rfl (Nat.le_of_ble_eq_true rfl) dX12_missing_59 ⟨Nat.le_refl _, Nat.le_refl _⟩ (fun H locs hW hS => ?_)
    refine s_aload_n hx hb dX12_missing_62 rfl (lv_at hl 0 rfl) ?_
    refine s_aload_n hx hb dX12_missing_63 rfl (lv_at hl 0 rfl) ?_
    obtain ⟨x11, hx11, hE⟩ := bd hE
    refine s_gI hx hb hT u_X12 hown hK hW hx11 rfl (by decide) fl_X12_298 rfl dX12_missing_64 ?_
    obtain ⟨c12, hE⟩ := ck hE
    obtain ⟨x13, f14, hx13, hE⟩ := bd2_of hE
    refine s_callV (As := [.int x11]) (rest := []) CF hK hW hS (S_X12_joins l G F hx13) c12 rfl gv_X12_304 hd_X12_joins ⟨Nat.le_of_ble_eq_true rfl, Nat.le_of_ble_eq_true rfl⟩ rfl hl.1 rfl (Nat.le_of_ble_eq_true rfl) dX12_missing_67 ⟨Nat.le_refl _, Nat.le_refl _⟩ (fun H locs hW hS => ?_)
    refine lv_istore_n (i := 2) (lv' := [(2, .int x13), (0, rr G v0), (1, .int v1)]) hx hb dX12_missing_70 rfl hl (by decide) rfl (fun ls hl => ?_)
    refine lv_iconst (v := (-1 : Int32)) hx hb dX12_missing_71 (by decide) ?_
    refine lv_istore_n (i := 3) (lv' := [(3, .int (-1 : Int32)), (2, .int x13), (0, rr G v0), (1, .int v1)]) hx hb dX12_missing_72 rfl hl (by decide) rfl (fun ls hl => ?_)
    refine lv_iconst (v := (0 : Int32)) hx hb dX12_missing_73 (by decide) ?_
    refine lv_istore (lv' := [(4, .int (0 : Int32)), (3, .int (-1 : Int32)), (2, .int x13), (0, rr G v0), (1, .int v1)]) hx hb dX12_missing_74 hl (by decide) rfl (fun ls hl => ?_)
    exact hC76 F _ _ _ _ _ _ _ _ _ hE hW hS (lv_sub hl [3, 4, 2, 1, 0] rfl)
  have hC29 : ∀ (k29 : Nat), ∀ (v0 : Option Nat) (v1 : Int32) (v2 : Int32) (fa : Hp) (H : Heap) (locs : List Loc) (ls : Array Slot), m_X12_missing_L29 F k29 v0 v1 v2 fa = some (r, f') → Wd G fa n H → va_S (WA G) s.heap H locs → lv_has ls 6 [(0, rr G v0), (1, .int v1), (2, .int v2)] → W p l e (headSpec (wsO yX12_missing cX12_missing 6 (some .int)) { frames := 4, cells := 0, slots := 0, locals := 92 }).room s m [rr G u0, .int u1].toArray below meth c H locs 0 0 (MQ below (Qcn G (some (.int r)) f' n) [rr G u0, .int u1].toArray s 0 0 (WA G)) (F0 m 29 ls []) := by
    intro k29
    induction k29 with
    | zero => intro v0 v1 v2 fa H locs ls hE _ _ _; cases (show (none : Option ((Int32) × Hp)) = some (r, f') from hE)
    | succ k29 ih29 =>
      intro v0 v1 v2 fa H locs ls hE hW hS hl
      replace hE : m_X12_missing_b29 F (m_X12_missing_L29 F k29) v0 v1 v2 fa = some (r, f') := hE
      refine lv_iload_n hx hb dX12_missing_29 rfl (lv_at hl 2 rfl) ?_
      refine s_aload_n hx hb dX12_missing_30 rfl (lv_at hl 0 rfl) ?_
      obtain ⟨x1, hx1, hE⟩ := bd hE
      refine s_gI hx hb hT u_X12 hown hK hW hx1 rfl (by decide) fl_X12_298 rfl dX12_missing_31 ?_
      refine lv_icmp_ge (tgt := 58) hx hb dX12_missing_34 (by decide) (fun q2 => ?_) (fun q2 => ?_)
      · replace hE := ite_t q2 hE
        exact hC58 _ _ _ _ _ _ hE hW hS (lv_sub hl [0, 1] rfl)
      · replace hE := ite_f q2 hE
        refine s_aload_n hx hb dX12_missing_37 rfl (lv_at hl 0 rfl) ?_
        refine s_aload_n hx hb dX12_missing_38 rfl (lv_at hl 0 rfl) ?_
        obtain ⟨x3, hx3, hE⟩ := bd hE
        refine s_gR hx hb hT u_X12 hown hK hW hx3 rfl (by decide) fl_X12_48 rfl dX12_missing_39 ?_
        refine lv_iload_n hx hb dX12_missing_42 rfl (lv_at hl 2 rfl) ?_
        obtain ⟨x4, hx4, hE⟩ := bd hE
        refine s_ldI hx hb hK hW hS hx4 dX12_missing_43 ?_
        obtain ⟨c5, hE⟩ := ck hE
        obtain ⟨x6, hx6, hE⟩ := bd hE
        refine s_callV (As := [.int x4]) (rest := []) CF hK hW hS (S_X12_isCopy l G F hx6) c5 rfl gv_X12_241 hd_X12_isCopy ⟨Nat.le_of_ble_eq_true rfl, Nat.le_of_ble_eq_true rfl⟩ rfl hl.1 rfl (Nat.le_of_ble_eq_true rfl) dX12_missing_44 ⟨Nat.le_refl _, Nat.le_refl _⟩ (fun H locs hW hS => ?_)
        refine lv_if_ne (tgt := 52) hx hb dX12_missing_47 (by decide) (fun q7 => ?_) (fun q7 => ?_)
        · replace hE := ite_f q7 hE
          obtain ⟨y8, ey8⟩ : ∃ y : Int32, y = v2 + (1 : Int32) := ⟨_, rfl⟩
          replace hE := nm_o ey8 hE
          refine lv_iinc (k := 2) (v := y8) (lv' := [(2, .int y8), (0, rr G v0), (1, .int v1)]) hx hb dX12_missing_52 hl rfl (by rw [ey8]; rfl) (by decide) rfl (fun ls hl => ?_)
          refine lv_goto (tgt := 29) hx hb dX12_missing_55 (by decide) ?_
          exact ih29 _ _ _ _ _ _ _ hE hW hS (lv_sub hl [1, 2, 0] rfl)
        · replace hE := ite_t q7 hE
          refine lv_iconst (v := (-1 : Int32)) hx hb dX12_missing_50 (by decide) ?_
          obtain ⟨rfl, rfl⟩ := so2 hE
          exact s_iret hx hb hr hlocks hW hS dX12_missing_51
  refine s_aload_n hx hb dX12_missing_0 rfl (lv_at hl 0 rfl) ?_
  refine lv_iconst (v := (0 : Int32)) hx hb dX12_missing_1 (by decide) ?_
  obtain ⟨f49, hf49, hE⟩ := bd hE
  refine s_putI hx hb hT u_X12 tyX12 tyX12_ok nmX12 hown hK hW hS hf49 rfl (by decide) fl_X12_81 rfl (Or.inl rfl) rfl dX12_missing_2 (fun H locs hW hS => ?_)
  refine s_aload_n hx hb dX12_missing_5 rfl (lv_at hl 0 rfl) ?_
  obtain ⟨c50, hE⟩ := ck hE
  obtain ⟨f51, hf51, hE⟩ := bd hE
  refine s_callV (As := []) (rest := []) CF hK hW hS (S_X12_lay l G F hf51) c50 rfl gv_X12_164 hd_X12_lay ⟨Nat.le_of_ble_eq_true rfl, Nat.le_of_ble_eq_true rfl⟩ rfl hl.1 rfl (Nat.le_of_ble_eq_true rfl) dX12_missing_6 ⟨Nat.le_refl _, Nat.le_refl _⟩ (fun H locs hW hS => ?_)
  refine s_aload_n hx hb dX12_missing_9 rfl (lv_at hl 0 rfl) ?_
  obtain ⟨x52, hx52, hE⟩ := bd hE
  refine s_gI hx hb hT u_X12 hown hK hW hx52 rfl (by decide) fl_X12_298 rfl dX12_missing_10 ?_
  refine lv_if_eq (tgt := 25) hx hb dX12_missing_13 (by decide) (fun q53 => ?_) (fun q53 => ?_)
  · replace hE := ite_t q53 hE
    refine lv_iconst (v := (-1 : Int32)) hx hb dX12_missing_25 (by decide) ?_
    obtain ⟨rfl, rfl⟩ := so2 hE
    exact s_iret hx hb hr hlocks hW hS dX12_missing_26
  · replace hE := ite_f q53 hE
    refine lv_iload_n hx hb dX12_missing_16 rfl (lv_at hl 1 rfl) ?_
    refine lv_iconst (v := (0 : Int32)) hx hb dX12_missing_17 (by decide) ?_
    refine lv_iconst (v := (1 : Int32)) hx hb dX12_missing_18 (by decide) ?_
    obtain ⟨x54, hx54, hE⟩ := bd hE
    refine s_callS (As := [.int u1, .int (0 : Int32), .int (1 : Int32)]) (rest := []) CF hK hW hS (S_X12_isIn l G F hx54) gs_X12_151 hd_X12_isIn.2 ⟨Nat.le_of_ble_eq_true rfl, Nat.le_of_ble_eq_true rfl⟩ rfl hl.1 rfl (Nat.le_of_ble_eq_true rfl) dX12_missing_19 ⟨Nat.le_refl _, Nat.le_refl _⟩ (fun H locs hW hS => ?_)
    refine lv_if_ne (tgt := 27) hx hb dX12_missing_22 (by decide) (fun q55 => ?_) (fun q55 => ?_)
    · replace hE := ite_f q55 hE
      refine lv_iconst (v := (0 : Int32)) hx hb dX12_missing_27 (by decide) ?_
      refine lv_istore_n (i := 2) (lv' := [(2, .int (0 : Int32)), (0, rr G u0), (1, .int u1)]) hx hb dX12_missing_28 rfl hl (by decide) rfl (fun ls hl => ?_)
      exact hC29 F _ _ _ _ _ _ _ hE hW hS (lv_sub hl [1, 2, 0] rfl)
    · replace hE := ite_t q55 hE
      refine lv_iconst (v := (-1 : Int32)) hx hb dX12_missing_25 (by decide) ?_
      obtain ⟨rfl, rfl⟩ := so2 hE
      exact s_iret hx hb hr hlocks hW hS dX12_missing_26
set_option maxHeartbeats 4000000 in
set_option maxRecDepth 100000 in
theorem S_X12_nearest (l : Launch) (G : GG) (F : Nat) {u0 : Option Nat} {u1 : Int32} {u2 : Int32} {f : Hp} {r : Int32} {f' : Hp} {n : Nat} (hE : m_X12_nearest F u0 u1 u2 f = some (r, f')) : Ctr l G yX12_nearest cX12_nearest 7 (some .int) 5 118 [rr G u0, .int u1, .int u2] f n (some (.int r)) f' n 0 0 := by
  refine Met.ofW (cc := cX12_nearest) (maxL := 7) (ret := (some .int)) (by decide) rfl ?_
  intro p e s m args below meth c s₁ B hml hv
  obtain ⟨rfl, hK, hW⟩ := hv
  have hx := B.exec
  have hb := B.bytes
  have hr := B.returns
  have hts := atoms_spec (ws := wsO yX12_nearest cX12_nearest 7 (some .int)) B.pre
  have hT : ∀ w ∈ TB, w.before [rr G u0, .int u1, .int u2].toArray s = true := fun w hw => hts w (List.mem_cons_of_mem _ hw)
  have hown : s.vm.findClass RX12 = some m.cls := findClass_of_methodNamed B.named
  have hlocks := B.notSynchronized
  have CF : CallFix p m c cX12_nearest 7 s [rr G u0, .int u1, .int u2].toArray TB RX12 := ⟨hx, hb, hml, hown, hT⟩
  have hS : va_S (WA G) s.heap s.heap [] := va_S.rf
  have hl : lv_has (lg_sl ([rr G u0, .int u1, .int u2]) ++ List.replicate (7 - (lg_sl ([rr G u0, .int u1, .int u2])).length) Slot.unset).toArray 7 [(0, rr G u0), (1, .int u1), (2, .int u2)] := by cases u0 <;> exact lv_entry _ (Nat.le_of_ble_eq_true rfl)
  rw [lg_entry_eq]
  generalize (lg_sl ([rr G u0, .int u1, .int u2]) ++ List.replicate (7 - (lg_sl ([rr G u0, .int u1, .int u2])).length) Slot.unset).toArray = ls at hl ⊢
  have hC116 : ∀ (k116 : Nat), ∀ (v0 : Option Nat) (v1 : Int32) (v2 : Int32) (v3 : Int32) (v5 : Int32) (v6 : Int32) (fa : Hp) (H : Heap) (locs : List Loc) (ls : Array Slot), m_X12_nearest_L116 F k116 v0 v1 v2 v3 v5 v6 fa = some (r, f') → Wd G fa n H → va_S (WA G) s.heap H locs → lv_has ls 7 [(0, rr G v0), (1, .int v1), (2, .int v2), (3, .int v3), (5, .int v5), (6, .int v6)] → W p l e (headSpec (wsO yX12_nearest cX12_nearest 7 (some .int)) { frames := 5, cells := 0, slots := 0, locals := 118 }).room s m [rr G u0, .int u1, .int u2].toArray below meth c H locs 0 0 (MQ below (Qcn G (some (.int r)) f' n) [rr G u0, .int u1, .int u2].toArray s 0 0 (WA G)) (F0 m 116 ls []) := by
    intro k116
    induction k116 with
    | zero => intro v0 v1 v2 v3 v5 v6 fa H locs ls hE _ _ _; cases (show (none : Option ((Int32) × Hp)) = some (r, f') from hE)
    | succ k116 ih116 =>
      intro v0 v1 v2 v3 v5 v6 fa H locs ls hE hW hS hl
      replace hE : m_X12_nearest_b116 F (m_X12_nearest_L116 F k116) v0 v1 v2 v3 v5 v6 fa = some (r, f') := hE
      refine lv_iload hx hb dX12_nearest_116 (lv_at hl 5 rfl) ?_
      refine s_aload_n hx hb dX12_nearest_118 rfl (lv_at hl 0 rfl) ?_
      obtain ⟨c17, hE⟩ := ck hE
      obtain ⟨x18, hx18, hE⟩ := bd hE
      refine s_callV (As := []) (rest := [.int v6]) CF hK hW hS (S_X12_orders l G F hx18) c17 rfl gv_X12_251 hd_X12_orders ⟨Nat.le_of_ble_eq_true rfl, Nat.le_of_ble_eq_true rfl⟩ rfl hl.1 rfl (Nat.le_of_ble_eq_true rfl) dX12_nearest_119 ⟨Nat.le_refl _, Nat.le_refl _⟩ (fun H locs hW hS => ?_)
      refine lv_icmp_ge (tgt := 157) hx hb dX12_nearest_122 (by decide) (fun q19 => ?_) (fun q19 => ?_)
      · replace hE := ite_t q19 hE
        refine lv_iconst (v := (-1 : Int32)) hx hb dX12_nearest_157 (by decide) ?_
        obtain ⟨rfl, rfl⟩ := so2 hE
        exact s_iret hx hb hr hlocks hW hS dX12_nearest_158
      · replace hE := ite_f q19 hE
        refine s_aload_n hx hb dX12_nearest_125 rfl (lv_at hl 0 rfl) ?_
        refine lv_iload hx hb dX12_nearest_126 (lv_at hl 5 rfl) ?_
        refine lv_iload_n hx hb dX12_nearest_128 rfl (lv_at hl 1 rfl) ?_
        obtain ⟨c20, hE⟩ := ck hE
        obtain ⟨x21, f22, hx21, hE⟩ := bd2_of hE
        refine s_callV (As := [.int v6, .int v1]) (rest := []) CF hK hW hS (S_X12_farOf l G F hx21) c20 rfl gv_X12_295 hd_X12_farOf ⟨Nat.le_of_ble_eq_true rfl, Nat.le_of_ble_eq_true rfl⟩ rfl hl.1 rfl (Nat.le_of_ble_eq_true rfl) dX12_nearest_129 ⟨Nat.le_refl _, Nat.le_refl _⟩ (fun H locs hW hS => ?_)
        refine lv_iload_n hx hb dX12_nearest_132 rfl (lv_at hl 3 rfl) ?_
        refine lv_icmp_eq (tgt := 139) hx hb dX12_nearest_133 (by decide) (fun q23 => ?_) (fun q23 => ?_)
        · replace hE := ite_t q23 hE
          refine lv_iload hx hb dX12_nearest_139 (lv_at hl 4 rfl) ?_
          refine lv_iload_n hx hb dX12_nearest_141 rfl (lv_at hl 2 rfl) ?_
          refine lv_icmp_ne (tgt := 148) hx hb dX12_nearest_142 (by decide) (fun q24 => ?_) (fun q24 => ?_)
          · replace hE := ite_f q24 hE
            obtain ⟨y25, ey25⟩ : ∃ y : Int32, y = v5 + (1 : Int32) := ⟨_, rfl⟩
            replace hE := nm_o ey25 hE
            refine lv_iinc (k := 4) (v := y25) (lv' := [(5, .int y25), (0, rr G v0), (1, .int v1), (2, .int v2), (3, .int v3), (6, .int v6)]) hx hb dX12_nearest_148 hl rfl (by rw [ey25]; rfl) (by decide) rfl (fun ls hl => ?_)
            obtain ⟨y26, ey26⟩ : ∃ y : Int32, y = v6 + (1 : Int32) := ⟨_, rfl⟩
            replace hE := nm_o ey26 hE
            refine lv_iinc (k := 5) (v := y26) (lv' := [(6, .int y26), (5, .int y25), (0, rr G v0), (1, .int v1), (2, .int v2), (3, .int v3)]) hx hb dX12_nearest_151 hl rfl (by rw [ey26]; rfl) (by decide) rfl (fun ls hl => ?_)
            refine lv_goto (tgt := 116) hx hb dX12_nearest_154 (by decide) ?_
            exact ih116 _ _ _ _ _ _ _ _ _ _ hE hW hS (lv_sub hl [2, 3, 4, 5, 1, 0] rfl)
          · replace hE := ite_t q24 hE
            refine lv_iload hx hb dX12_nearest_145 (lv_at hl 5 rfl) ?_
            obtain ⟨rfl, rfl⟩ := so2 hE
            exact s_iret hx hb hr hlocks hW hS dX12_nearest_147
        · replace hE := ite_f q23 hE
          refine lv_goto (tgt := 151) hx hb dX12_nearest_136 (by decide) ?_
          obtain ⟨y27, ey27⟩ : ∃ y : Int32, y = v6 + (1 : Int32) := ⟨_, rfl⟩
          replace hE := nm_o ey27 hE
          refine lv_iinc (k := 5) (v := y27) (lv' := [(6, .int y27), (0, rr G v0), (1, .int v1), (2, .int v2), (3, .int v3), (5, .int v5)]) hx hb dX12_nearest_151 hl rfl (by rw [ey27]; rfl) (by decide) rfl (fun ls hl => ?_)
          refine lv_goto (tgt := 116) hx hb dX12_nearest_154 (by decide) ?_
          exact ih116 _ _ _ _ _ _ _ _ _ _ hE hW hS (lv_sub hl [1, 2, 3, 4, 5, 0] rfl)
  have hC94 : ∀ (v0 : Option Nat) (v1 : Int32) (v2 : Int32) (v3 : Int32) (v4 : Int32) (fa : Hp) (H : Heap) (locs : List Loc) (ls : Array Slot), m_X12_nearest_B94 F v0 v1 v2 v3 v4 fa = some (r, f') → Wd G fa n H → va_S (WA G) s.heap H locs → lv_has ls 7 [(0, rr G v0), (1, .int v1), (2, .int v2), (3, .int v3), (4, .int v4)] → W p l e (headSpec (wsO yX12_nearest cX12_nearest 7 (some .int)) { frames := 5, cells := 0, slots := 0, locals := 118 }).room s m [rr G u0, .int u1, .int u2].toArray below meth c H locs 0 0 (MQ below (Qcn G (some (.int r)) f' n) [rr G u0, .int u1, .int u2].toArray s 0 0 (WA G)) (F0 m 94 ls []) := by
    intro v0 v1 v2 v3 v4 fa H locs ls hE hW hS hl
    refine lv_iload_n hx hb dX12_nearest_94 rfl (lv_at hl 2 rfl) ?_
    refine lv_bipush (v := (-2 : Int32)) hx hb dX12_nearest_95 (by decide) ?_
    refine lv_icmp_ne (tgt := 102) hx hb dX12_nearest_97 (by decide) (fun q15 => ?_) (fun q15 => ?_)
    · replace hE := ite_f q15 hE
      refine lv_iload_n hx hb dX12_nearest_102 rfl (lv_at hl 2 rfl) ?_
      refine lv_iconst (v := (-1 : Int32)) hx hb dX12_nearest_103 (by decide) ?_
      refine lv_icmp_ne (tgt := 110) hx hb dX12_nearest_104 (by decide) (fun q16 => ?_) (fun q16 => ?_)
      · replace hE := ite_f q16 hE
        refine lv_iconst (v := (0 : Int32)) hx hb dX12_nearest_110 (by decide) ?_
        refine lv_istore (lv' := [(5, .int (0 : Int32)), (0, rr G v0), (1, .int v1), (2, .int v2), (3, .int v3), (4, .int v4)]) hx hb dX12_nearest_111 hl (by decide) rfl (fun ls hl => ?_)
        refine lv_iconst (v := (0 : Int32)) hx hb dX12_nearest_113 (by decide) ?_
        refine lv_istore (lv' := [(6, .int (0 : Int32)), (5, .int (0 : Int32)), (0, rr G v0), (1, .int v1), (2, .int v2), (3, .int v3), (4, .int v4)]) hx hb dX12_nearest_114 hl (by decide) rfl (fun ls hl => ?_)
        exact hC116 F _ _ _ _ _ _ _ _ _ _ hE hW hS (lv_sub hl [2, 3, 4, 5, 1, 0] rfl)
      · replace hE := ite_t q16 hE
        refine lv_iload hx hb dX12_nearest_107 (lv_at hl 4 rfl) ?_
        obtain ⟨rfl, rfl⟩ := so2 hE
        exact s_iret hx hb hr hlocks hW hS dX12_nearest_109
    · replace hE := ite_t q15 hE
      refine lv_iload_n hx hb dX12_nearest_100 rfl (lv_at hl 3 rfl) ?_
      obtain ⟨rfl, rfl⟩ := so2 hE
      exact s_iret hx hb hr hlocks hW hS dX12_nearest_101
  have hC41 : ∀ (k41 : Nat), ∀ (v0 : Option Nat) (v1 : Int32) (v2 : Int32) (v3 : Int32) (v4 : Int32) (v5 : Int32) (fa : Hp) (H : Heap) (locs : List Loc) (ls : Array Slot), m_X12_nearest_L41 F k41 v0 v1 v2 v3 v4 v5 fa = some (r, f') → Wd G fa n H → va_S (WA G) s.heap H locs → lv_has ls 7 [(0, rr G v0), (1, .int v1), (2, .int v2), (3, .int v3), (4, .int v4), (5, .int v5)] → W p l e (headSpec (wsO yX12_nearest cX12_nearest 7 (some .int)) { frames := 5, cells := 0, slots := 0, locals := 118 }).room s m [rr G u0, .int u1, .int u2].toArray below meth c H locs 0 0 (MQ below (Qcn G (some (.int r)) f' n) [rr G u0, .int u1, .int u2].toArray s 0 0 (WA G)) (F0 m 41 ls []) := by
    intro k41
    induction k41 with
    | zero => intro v0 v1 v2 v3 v4 v5 fa H locs ls hE _ _ _; cases (show (none : Option ((Int32) × Hp)) = some (r, f') from hE)
    | succ k41 ih41 =>
      have hC73 : ∀ (v0 : Option Nat) (v1 : Int32) (v2 : Int32) (v3 : Int32) (v4 : Int32) (v5 : Int32) (v6 : Int32) (fa : Hp) (H : Heap) (locs : List Loc) (ls : Array Slot), m_X12_nearest_B73 F (m_X12_nearest_L41 F k41) v0 v1 v2 v3 v4 v5 v6 fa = some (r, f') → Wd G fa n H → va_S (WA G) s.heap H locs → lv_has ls 7 [(0, rr G v0), (1, .int v1), (2, .int v2), (3, .int v3), (4, .int v4), (5, .int v5), (6, .int v6)] → W p l e (headSpec (wsO yX12_nearest cX12_nearest 7 (some .int)) { frames := 5, cells := 0, slots := 0, locals := 118 }).room s m [rr G u0, .int u1, .int u2].toArray below meth c H locs 0 0 (MQ below (Qcn G (some (.int r)) f' n) [rr G u0, .int u1, .int u2].toArray s 0 0 (WA G)) (F0 m 73 ls []) := by
        intro v0 v1 v2 v3 v4 v5 v6 fa H locs ls hE hW hS hl
        refine lv_iload hx hb dX12_nearest_73 (lv_at hl 6 rfl) ?_
        refine lv_iload_n hx hb dX12_nearest_75 rfl (lv_at hl 3 rfl) ?_
        refine lv_icmp_eq (tgt := 82) hx hb dX12_nearest_76 (by decide) (fun q10 => ?_) (fun q10 => ?_)
        · replace hE := ite_t q10 hE
          refine lv_iload hx hb dX12_nearest_82 (lv_at hl 6 rfl) ?_
          refine lv_istore_n (i := 3) (lv' := [(3, .int v6), (0, rr G v0), (1, .int v1), (2, .int v2), (4, .int v4), (5, .int v5), (6, .int v6)]) hx hb dX12_nearest_84 rfl hl (by decide) rfl (fun ls hl => ?_)
          obtain ⟨y11, ey11⟩ : ∃ y : Int32, y = v4 + (1 : Int32) := ⟨_, rfl⟩
          replace hE := nm_o ey11 hE
          refine lv_iinc (k := 4) (v := y11) (lv' := [(4, .int y11), (3, .int v6), (0, rr G v0), (1, .int v1), (2, .int v2), (5, .int v5), (6, .int v6)]) hx hb dX12_nearest_85 hl rfl (by rw [ey11]; rfl) (by decide) rfl (fun ls hl => ?_)
          obtain ⟨y12, ey12⟩ : ∃ y : Int32, y = v5 + (1 : Int32) := ⟨_, rfl⟩
          replace hE := nm_o ey12 hE
          refine lv_iinc (k := 5) (v := y12) (lv' := [(5, .int y12), (4, .int y11), (3, .int v6), (0, rr G v0), (1, .int v1), (2, .int v2), (6, .int v6)]) hx hb dX12_nearest_88 hl rfl (by rw [ey12]; rfl) (by decide) rfl (fun ls hl => ?_)
          refine lv_goto (tgt := 41) hx hb dX12_nearest_91 (by decide) ?_
          exact ih41 _ _ _ _ _ _ _ _ _ _ hE hW hS (lv_sub hl [3, 4, 5, 2, 1, 0] rfl)
        · replace hE := ite_f q10 hE
          refine lv_iconst (v := (0 : Int32)) hx hb dX12_nearest_79 (by decide) ?_
          refine lv_istore (lv' := [(4, .int (0 : Int32)), (0, rr G v0), (1, .int v1), (2, .int v2), (3, .int v3), (5, .int v5), (6, .int v6)]) hx hb dX12_nearest_80 hl (by decide) rfl (fun ls hl => ?_)
          refine lv_iload hx hb dX12_nearest_82 (lv_at hl 6 rfl) ?_
          refine lv_istore_n (i := 3) (lv' := [(3, .int v6), (4, .int (0 : Int32)), (0, rr G v0), (1, .int v1), (2, .int v2), (5, .int v5), (6, .int v6)]) hx hb dX12_nearest_84 rfl hl (by decide) rfl (fun ls hl => ?_)
          obtain ⟨y13, ey13⟩ : ∃ y : Int32, y = (0 : Int32) + (1 : Int32) := ⟨_, rfl⟩
          replace hE := nm_o ey13 hE
          refine lv_iinc (k := 1) (v := y13) (lv' := [(4, .int y13), (3, .int v6), (0, rr G v0), (1, .int v1), (2, .int v2), (5, .int v5), (6, .int v6)]) hx hb dX12_nearest_85 hl rfl (by rw [ey13]; rfl) (by decide) rfl (fun ls hl => ?_)
          obtain ⟨y14, ey14⟩ : ∃ y : Int32, y = v5 + (1 : Int32) := ⟨_, rfl⟩
          replace hE := nm_o ey14 hE
          refine lv_iinc (k := 5) (v := y14) (lv' := [(5, .int y14), (4, .int y13), (3, .int v6), (0, rr G v0), (1, .int v1), (2, .int v2), (6, .int v6)]) hx hb dX12_nearest_88 hl rfl (by rw [ey14]; rfl) (by decide) rfl (fun ls hl => ?_)
          refine lv_goto (tgt := 41) hx hb dX12_nearest_91 (by decide) ?_
          exact ih41 _ _ _ _ _ _ _ _ _ _ hE hW hS (lv_sub hl [3, 4, 5, 2, 1, 0] rfl)
      intro v0 v1 v2 v3 v4 v5 fa H locs ls hE hW hS hl
      replace hE : m_X12_nearest_b41 F (m_X12_nearest_L41 F k41) v0 v1 v2 v3 v4 v5 fa = some (r, f') := hE
      refine lv_iload hx hb dX12_nearest_41 (lv_at hl 5 rfl) ?_
      refine s_aload_n hx hb dX12_nearest_43 rfl (lv_at hl 0 rfl) ?_
      obtain ⟨c1, hE⟩ := ck hE
      obtain ⟨x2, hx2, hE⟩ := bd hE
      refine s_callV (As := []) (rest := [.int v5]) CF hK hW hS (S_X12_orders l G F hx2) c1 rfl gv_X12_251 hd_X12_orders ⟨Nat.le_of_ble_eq_true rfl, Nat.le_of_ble_eq_true rfl⟩ rfl hl.1 rfl (Nat.le_of_ble_eq_true rfl) dX12_nearest_44 ⟨Nat.le_refl _, Nat.le_refl _⟩ (fun H locs hW hS => ?_)
      refine lv_icmp_ge (tgt := 94) hx hb dX12_nearest_47 (by decide) (fun q3 => ?_) (fun q3 => ?_)
      · replace hE := ite_t q3 hE
        exact hC94 _ _ _ _ _ _ _ _ _ hE hW hS (lv_sub hl [0, 1, 2, 3, 4] rfl)
      · replace hE := ite_f q3 hE
        refine s_aload_n hx hb dX12_nearest_50 rfl (lv_at hl 0 rfl) ?_
        refine lv_iload hx hb dX12_nearest_51 (lv_at hl 5 rfl) ?_
        refine lv_iload_n hx hb dX12_nearest_53 rfl (lv_at hl 1 rfl) ?_
        obtain ⟨c4, hE⟩ := ck hE
        obtain ⟨x5, f6, hx5, hE⟩ := bd2_of hE
        refine s_callV (As := [.int v5, .int v1]) (rest := []) CF hK hW hS (S_X12_farOf l G F hx5) c4 rfl gv_X12_295 hd_X12_farOf ⟨Nat.le_of_ble_eq_true rfl, Nat.le_of_ble_eq_true rfl⟩ rfl hl.1 rfl (Nat.le_of_ble_eq_true rfl) dX12_nearest_54 ⟨Nat.le_refl _, Nat.le_refl _⟩ (fun H locs hW hS => ?_)
        refine lv_istore (lv' := [(6, .int x5), (0, rr G v0), (1, .int v1), (2, .int v2), (3, .int v3), (4, .int v4), (5, .int v5)]) hx hb dX12_nearest_57 hl (by decide) rfl (fun ls hl => ?_)
        refine lv_iload_n hx hb dX12_nearest_59 rfl (lv_at hl 4 rfl) ?_
        refine lv_iconst (v := (-1 : Int32)) hx hb dX12_nearest_60 (by decide) ?_
        refine lv_icmp_eq (tgt := 73) hx hb dX12_nearest_61 (by decide) (fun q7 => ?_) (fun q7 => ?_)
        · replace hE := ite_t q7 hE
          exact hC73 _ _ _ _ _ _ _ _ _ _ _ hE hW hS (lv_sub hl [1, 2, 3, 4, 5, 6, 0] rfl)
        · replace hE := ite_f q7 hE
          refine lv_iload hx hb dX12_nearest_64 (lv_at hl 0 rfl) ?_
          refine lv_iload_n hx hb dX12_nearest_66 rfl (lv_at hl 4 rfl) ?_
          refine lv_icmp_le (tgt := 73) hx hb dX12_nearest_67 (by decide) (fun q8 => ?_) (fun q8 => ?_)
          · replace hE := ite_t q8 hE
            exact hC73 _ _ _ _ _ _ _ _ _ _ _ hE hW hS (lv_sub hl [1, 2, 3, 4, 5, 6, 0] rfl)
          · replace hE := ite_f q8 hE
            refine lv_goto (tgt := 88) hx hb dX12_nearest_70 (by decide) ?_
            obtain ⟨y9, ey9⟩ : ∃ y : Int32, y = v5 + (1 : Int32) := ⟨_, rfl⟩
            replace hE := nm_o ey9 hE
            refine lv_iinc (k := 6) (v := y9) (lv' := [(5, .int y9), (6, .int x5), (0, rr G v0), (1, .int v1), (2, .int v2), (3, .int v3), (4, .int v4)]) hx hb dX12_nearest_88 hl rfl (by rw [ey9]; rfl) (by decide) rfl (fun ls hl => ?_)
            refine lv_goto (tgt := 41) hx hb dX12_nearest_91 (by decide) ?_
            exact ih41 _ _ _ _ _ _ _ _ _ _ hE hW hS (lv_sub hl [2, 3, 4, 5, 6, 0] rfl)
  refine s_aload_n hx hb dX12_nearest_0 rfl (lv_at hl 0 rfl) ?_
  refine lv_iconst (v := (0 : Int32)) hx hb dX12_nearest_1 (by decide) ?_
  obtain ⟨f28, hf28, hE⟩ := bd hE
  refine s_putI hx hb hT u_X12 tyX12 tyX12_ok nmX12 hown hK hW hS hf28 rfl (by decide) fl_X12_81 rfl (Or.inl rfl) rfl dX12_nearest_2 (fun H locs hW hS => ?_)
  refine s_aload_n hx hb dX12_nearest_5 rfl (lv_at hl 0 rfl) ?_
  obtain ⟨c29, hE⟩ := ck hE
  obtain ⟨f30, hf30, hE⟩ := bd hE
  refine s_callV (As := []) (rest := []) CF hK hW hS (S_X12_lay l G F hf30) c29 rfl gv_X12_164 hd_X12_lay ⟨Nat.le_of_ble_eq_true rfl, Nat.le_of_ble_eq_true rfl⟩ rfl hl.1 rfl (Nat.le_of_ble_eq_true rfl) dX12_nearest_6 ⟨Nat.le_refl _, Nat.le_refl _⟩ (fun H locs hW hS => ?_)
  refine lv_iload_n hx hb dX12_nearest_9 rfl (lv_at hl 1 rfl) ?_
  refine lv_iconst (v := (0 : Int32)) hx hb dX12_nearest_10 (by decide) ?_
  refine lv_iconst (v := (1 : Int32)) hx hb dX12_nearest_11 (by decide) ?_
  obtain ⟨x31, hx31, hE⟩ := bd hE
  refine s_callS (As := [.int u1, .int (0 : Int32), .int (1 : Int32)]) (rest := []) CF hK hW hS (S_X12_isIn l G F hx31) gs_X12_151 hd_X12_isIn.2 ⟨Nat.le_of_ble_eq_true rfl, Nat.le_of_ble_eq_true rfl⟩ rfl hl.1 rfl (Nat.le_of_ble_eq_true rfl) dX12_nearest_12 ⟨Nat.le_refl _, Nat.le_refl _⟩ (fun H locs hW hS => ?_)
  refine lv_if_eq (tgt := 31) hx hb dX12_nearest_15 (by decide) (fun q32 => ?_) (fun q32 => ?_)
  · replace hE := ite_t q32 hE
    refine lv_iconst (v := (-1 : Int32)) hx hb dX12_nearest_31 (by decide) ?_
    obtain ⟨rfl, rfl⟩ := so2 hE
    exact s_iret hx hb hr hlocks hW hS dX12_nearest_32
  · replace hE := ite_f q32 hE
    refine s_aload_n hx hb dX12_nearest_18 rfl (lv_at hl 0 rfl) ?_
    obtain ⟨c33, hE⟩ := ck hE
    obtain ⟨x34, hx34, hE⟩ := bd hE
    refine s_callV (As := []) (rest := []) CF hK hW hS (S_X12_copies l G F hx34) c33 rfl gv_X12_179 hd_X12_copies ⟨Nat.le_of_ble_eq_true rfl, Nat.le_of_ble_eq_true rfl⟩ rfl hl.1 rfl (Nat.le_of_ble_eq_true rfl) dX12_nearest_19 ⟨Nat.le_refl _, Nat.le_refl _⟩ (fun H locs hW hS => ?_)
    refine lv_if_eq (tgt := 31) hx hb dX12_nearest_22 (by decide) (fun q35 => ?_) (fun q35 => ?_)
    · replace hE := ite_t q35 hE
      refine lv_iconst (v := (-1 : Int32)) hx hb dX12_nearest_31 (by decide) ?_
      obtain ⟨rfl, rfl⟩ := so2 hE
      exact s_iret hx hb hr hlocks hW hS dX12_nearest_32
    · replace hE := ite_f q35 hE
      refine lv_iload_n hx hb dX12_nearest_25 rfl (lv_at hl 2 rfl) ?_
      refine lv_bipush (v := (-2 : Int32)) hx hb dX12_nearest_26 (by decide) ?_
      refine lv_icmp_ge (tgt := 33) hx hb dX12_nearest_28 (by decide) (fun q36 => ?_) (fun q36 => ?_)
      · replace hE := ite_t q36 hE
        refine lv_iconst (v := (-1 : Int32)) hx hb dX12_nearest_33 (by decide) ?_
        refine lv_istore_n (i := 3) (lv' := [(3, .int (-1 : Int32)), (0, rr G u0), (1, .int u1), (2, .int u2)]) hx hb dX12_nearest_34 rfl hl (by decide) rfl (fun ls hl => ?_)
        refine lv_iconst (v := (0 : Int32)) hx hb dX12_nearest_35 (by decide) ?_
        refine lv_istore (lv' := [(4, .int (0 : Int32)), (3, .int (-1 : Int32)), (0, rr G u0), (1, .int u1), (2, .int u2)]) hx hb dX12_nearest_36 hl (by decide) rfl (fun ls hl => ?_)
        refine lv_iconst (v := (0 : Int32)) hx hb dX12_nearest_38 (by decide) ?_
        refine lv_istore (lv' := [(5, .int (0 : Int32)), (4, .int (0 : Int32)), (3, .int (-1 : Int32)), (0, rr G u0), (1, .int u1), (2, .int u2)]) hx hb dX12_nearest_39 hl (by decide) rfl (fun ls hl => ?_)
        exact hC41 F _ _ _ _ _ _ _ _ _ _ hE hW hS (lv_sub hl [3, 4, 5, 2, 1, 0] rfl)
      · replace hE := ite_f q36 hE
        refine lv_iconst (v := (-1 : Int32)) hx hb dX12_nearest_31 (by decide) ?_
        obtain ⟨rfl, rfl⟩ := so2 hE
        exact s_iret hx hb hr hlocks hW hS dX12_nearest_32
set_option maxHeartbeats 4000000 in
set_option maxRecDepth 100000 in
theorem S_X12_order (l : Launch) (G : GG) (F : Nat) {u0 : Option Nat} {u1 : Int32} {u2 : Int32} {f : Hp} {r : Int32} {f' : Hp} {n : Nat} (hE : m_X12_order F u0 u1 u2 f = some (r, f')) : Ctr l G yX12_order cX12_order 3 (some .int) 3 69 [rr G u0, .int u1, .int u2] f n (some (.int r)) f' n 0 0 := by
  refine Met.ofW (cc := cX12_order) (maxL := 3) (ret := (some .int)) (by decide) rfl ?_
  intro p e s m args below meth c s₁ B hml hv
  obtain ⟨rfl, hK, hW⟩ := hv
  have hx := B.exec
  have hb := B.bytes
  have hr := B.returns
  have hts := atoms_spec (ws := wsO yX12_order cX12_order 3 (some .int)) B.pre
  have hT : ∀ w ∈ TB, w.before [rr G u0, .int u1, .int u2].toArray s = true := fun w hw => hts w (List.mem_cons_of_mem _ hw)
  have hown : s.vm.findClass RX12 = some m.cls := findClass_of_methodNamed B.named
  have hlocks := B.notSynchronized
  have CF : CallFix p m c cX12_order 3 s [rr G u0, .int u1, .int u2].toArray TB RX12 := ⟨hx, hb, hml, hown, hT⟩
  have hS : va_S (WA G) s.heap s.heap [] := va_S.rf
  have hl : lv_has (lg_sl ([rr G u0, .int u1, .int u2]) ++ List.replicate (3 - (lg_sl ([rr G u0, .int u1, .int u2])).length) Slot.unset).toArray 3 [(0, rr G u0), (1, .int u1), (2, .int u2)] := by cases u0 <;> exact lv_entry _ (Nat.le_of_ble_eq_true rfl)
  rw [lg_entry_eq]
  generalize (lg_sl ([rr G u0, .int u1, .int u2]) ++ List.replicate (3 - (lg_sl ([rr G u0, .int u1, .int u2])).length) Slot.unset).toArray = ls at hl ⊢
  refine s_aload_n hx hb dX12_order_0 rfl (lv_at hl 0 rfl) ?_
  refine lv_iconst (v := (0 : Int32)) hx hb dX12_order_1 (by decide) ?_
  obtain ⟨f1, hf1, hE⟩ := bd hE
  refine s_putI hx hb hT u_X12 tyX12 tyX12_ok nmX12 hown hK hW hS hf1 rfl (by decide) fl_X12_81 rfl (Or.inl rfl) rfl dX12_order_2 (fun H locs hW hS => ?_)
  refine s_aload_n hx hb dX12_order_5 rfl (lv_at hl 0 rfl) ?_
  obtain ⟨c2, hE⟩ := ck hE
  obtain ⟨f3, hf3, hE⟩ := bd hE
  refine s_callV (As := []) (rest := []) CF hK hW hS (S_X12_lay l G F hf3) c2 rfl gv_X12_164 hd_X12_lay ⟨Nat.le_of_ble_eq_true rfl, Nat.le_of_ble_eq_true rfl⟩ rfl hl.1 rfl (Nat.le_of_ble_eq_true rfl) dX12_order_6 ⟨Nat.le_refl _, Nat.le_refl _⟩ (fun H locs hW hS => ?_)
  refine s_aload_n hx hb dX12_order_9 rfl (lv_at hl 0 rfl) ?_
  refine lv_iload_n hx hb dX12_order_10 rfl (lv_at hl 1 rfl) ?_
  obtain ⟨c4, hE⟩ := ck hE
  obtain ⟨x5, hx5, hE⟩ := bd hE
  refine s_callV (As := [.int u1]) (rest := []) CF hK hW hS (S_X12_isOrder l G F hx5) c4 rfl gv_X12_254 hd_X12_isOrder ⟨Nat.le_of_ble_eq_true rfl, Nat.le_of_ble_eq_true rfl⟩ rfl hl.1 rfl (Nat.le_of_ble_eq_true rfl) dX12_order_11 ⟨Nat.le_refl _, Nat.le_refl _⟩ (fun H locs hW hS => ?_)
  refine lv_if_eq (tgt := 29) hx hb dX12_order_14 (by decide) (fun q6 => ?_) (fun q6 => ?_)
  · replace hE := ite_t q6 hE
    refine lv_iconst (v := (-1 : Int32)) hx hb dX12_order_29 (by decide) ?_
    obtain ⟨rfl, rfl⟩ := so2 hE
    exact s_iret hx hb hr hlocks hW hS dX12_order_30
  · replace hE := ite_f q6 hE
    refine lv_iload_n hx hb dX12_order_17 rfl (lv_at hl 2 rfl) ?_
    refine lv_if_lt (tgt := 29) hx hb dX12_order_18 (by decide) (fun q7 => ?_) (fun q7 => ?_)
    · replace hE := ite_t q7 hE
      refine lv_iconst (v := (-1 : Int32)) hx hb dX12_order_29 (by decide) ?_
      obtain ⟨rfl, rfl⟩ := so2 hE
      exact s_iret hx hb hr hlocks hW hS dX12_order_30
    · replace hE := ite_f q7 hE
      refine lv_iload_n hx hb dX12_order_21 rfl (lv_at hl 2 rfl) ?_
      refine s_aload_n hx hb dX12_order_22 rfl (lv_at hl 0 rfl) ?_
      obtain ⟨c8, hE⟩ := ck hE
      obtain ⟨x9, hx9, hE⟩ := bd hE
      refine s_callV (As := []) (rest := [.int u2]) CF hK hW hS (S_X12_lines l G F hx9) c8 rfl gv_X12_185 hd_X12_lines ⟨Nat.le_of_ble_eq_true rfl, Nat.le_of_ble_eq_true rfl⟩ rfl hl.1 rfl (Nat.le_of_ble_eq_true rfl) dX12_order_23 ⟨Nat.le_refl _, Nat.le_refl _⟩ (fun H locs hW hS => ?_)
      refine lv_icmp_lt (tgt := 31) hx hb dX12_order_26 (by decide) (fun q10 => ?_) (fun q10 => ?_)
      · replace hE := ite_t q10 hE
        refine s_aload_n hx hb dX12_order_31 rfl (lv_at hl 0 rfl) ?_
        refine lv_iload_n hx hb dX12_order_32 rfl (lv_at hl 1 rfl) ?_
        obtain ⟨c11, hE⟩ := ck hE
        obtain ⟨f12, hf12, hE⟩ := bd hE
        refine s_callV (As := [.int u1]) (rest := []) CF hK hW hS (S_X12_lay_ l G F hf12) c11 rfl gv_X12_257 hd_X12_lay_ ⟨Nat.le_of_ble_eq_true rfl, Nat.le_of_ble_eq_true rfl⟩ rfl hl.1 rfl (Nat.le_of_ble_eq_true rfl) dX12_order_33 ⟨Nat.le_refl _, Nat.le_refl _⟩ (fun H locs hW hS => ?_)
        refine s_aload_n hx hb dX12_order_36 rfl (lv_at hl 0 rfl) ?_
        obtain ⟨x13, hx13, hE⟩ := bd hE
        refine s_gR hx hb hT u_X12 hown hK hW hx13 rfl (by decide) fl_X12_36 rfl dX12_order_37 ?_
        refine lv_iload_n hx hb dX12_order_40 rfl (lv_at hl 2 rfl) ?_
        obtain ⟨x14, hx14, hE⟩ := bd hE
        refine s_ldI hx hb hK hW hS hx14 dX12_order_41 ?_
        obtain ⟨rfl, rfl⟩ := so2 hE
        exact s_iret hx hb hr hlocks hW hS dX12_order_42
      · replace hE := ite_f q10 hE
        refine lv_iconst (v := (-1 : Int32)) hx hb dX12_order_29 (by decide) ?_
        obtain ⟨rfl, rfl⟩ := so2 hE
        exact s_iret hx hb hr hlocks hW hS dX12_order_30
set_option maxHeartbeats 4000000 in
set_option maxRecDepth 100000 in
theorem S_X12_reaches (l : Launch) (G : GG) (F : Nat) {u0 : Option Nat} {u1 : Int32} {u2 : Int32} {u3 : Int32} {f : Hp} {r : Int32} {f' : Hp} {n : Nat} (hE : m_X12_reaches F u0 u1 u2 u3 f = some (r, f')) : Ctr l G yX12_reaches cX12_reaches 5 (some .int) 2 45 [rr G u0, .int u1, .int u2, .int u3] f n (some (.int r)) f' n 0 0 := by
  refine Met.ofW (cc := cX12_reaches) (maxL := 5) (ret := (some .int)) (by decide) rfl ?_
  intro p e s m args below meth c s₁ B hml hv
  obtain ⟨rfl, hK, hW⟩ := hv
  have hx := B.exec
  have hb := B.bytes
  have hr := B.returns
  have hts := atoms_spec (ws := wsO yX12_reaches cX12_reaches 5 (some .int)) B.pre
  have hT : ∀ w ∈ TB, w.before [rr G u0, .int u1, .int u2, .int u3].toArray s = true := fun w hw => hts w (List.mem_cons_of_mem _ hw)
  have hown : s.vm.findClass RX12 = some m.cls := findClass_of_methodNamed B.named
  have hlocks := B.notSynchronized
  have CF : CallFix p m c cX12_reaches 5 s [rr G u0, .int u1, .int u2, .int u3].toArray TB RX12 := ⟨hx, hb, hml, hown, hT⟩
  have hS : va_S (WA G) s.heap s.heap [] := va_S.rf
  have hl : lv_has (lg_sl ([rr G u0, .int u1, .int u2, .int u3]) ++ List.replicate (5 - (lg_sl ([rr G u0, .int u1, .int u2, .int u3])).length) Slot.unset).toArray 5 [(0, rr G u0), (1, .int u1), (2, .int u2), (3, .int u3)] := by cases u0 <;> exact lv_entry _ (Nat.le_of_ble_eq_true rfl)
  rw [lg_entry_eq]
  generalize (lg_sl ([rr G u0, .int u1, .int u2, .int u3]) ++ List.replicate (5 - (lg_sl ([rr G u0, .int u1, .int u2, .int u3])).length) Slot.unset).toArray = ls at hl ⊢
  have hC12 : ∀ (k12 : Nat), ∀ (v0 : Option Nat) (v1 : Int32) (v2 : Int32) (v4 : Int32) (fa : Hp) (H : Heap) (locs : List Loc) (ls : Array Slot), m_X12_reaches_L12 F k12 v0 v1 v2 v4 fa = some (r, f') → Wd G fa n H → va_S (WA G) s.heap H locs → lv_has ls 5 [(0, rr G v0), (1, .int v1), (2, .int v2), (4, .int v4)] → W p l e (headSpec (wsO yX12_reaches cX12_reaches 5 (some .int)) { frames := 2, cells := 0, slots := 0, locals := 45 }).room s m [rr G u0, .int u1, .int u2, .int u3].toArray below meth c H locs 0 0 (MQ below (Qcn G (some (.int r)) f' n) [rr G u0, .int u1, .int u2, .int u3].toArray s 0 0 (WA G)) (F0 m 12 ls []) := by
    intro k12
    induction k12 with
    | zero => intro v0 v1 v2 v4 fa H locs ls hE _ _ _; cases (show (none : Option ((Int32) × Hp)) = some (r, f') from hE)
    | succ k12 ih12 =>
      intro v0 v1 v2 v4 fa H locs ls hE hW hS hl
      replace hE : m_X12_reaches_b12 F (m_X12_reaches_L12 F k12) v0 v1 v2 v4 fa = some (r, f') := hE
      refine lv_iload hx hb dX12_reaches_12 (lv_at hl 3 rfl) ?_
      refine s_aload_n hx hb dX12_reaches_14 rfl (lv_at hl 0 rfl) ?_
      refine lv_iload_n hx hb dX12_reaches_15 rfl (lv_at hl 1 rfl) ?_
      obtain ⟨c1, hE⟩ := ck hE
      obtain ⟨x2, hx2, hE⟩ := bd hE
      refine s_callV (As := [.int v1]) (rest := [.int v4]) CF hK hW hS (S_X12_sizeOf l G F hx2) c1 rfl gv_X12_182 hd_X12_sizeOf ⟨Nat.le_of_ble_eq_true rfl, Nat.le_of_ble_eq_true rfl⟩ rfl hl.1 rfl (Nat.le_of_ble_eq_true rfl) dX12_reaches_16 ⟨Nat.le_refl _, Nat.le_refl _⟩ (fun H locs hW hS => ?_)
      refine lv_icmp_ge (tgt := 79) hx hb dX12_reaches_19 (by decide) (fun q3 => ?_) (fun q3 => ?_)
      · replace hE := ite_t q3 hE
        refine lv_iload hx hb dX12_reaches_79 (lv_at hl 3 rfl) ?_
        obtain ⟨rfl, rfl⟩ := so2 hE
        exact s_iret hx hb hr hlocks hW hS dX12_reaches_81
      · replace hE := ite_f q3 hE
        refine s_aload_n hx hb dX12_reaches_22 rfl (lv_at hl 0 rfl) ?_
        obtain ⟨x4, hx4, hE⟩ := bd hE
        refine s_gR hx hb hT u_X12 hown hK hW hx4 rfl (by decide) fl_X12_42 rfl dX12_reaches_23 ?_
        refine s_aload_n hx hb dX12_reaches_26 rfl (lv_at hl 0 rfl) ?_
        refine lv_iload_n hx hb dX12_reaches_27 rfl (lv_at hl 1 rfl) ?_
        refine lv_iload hx hb dX12_reaches_28 (lv_at hl 3 rfl) ?_
        obtain ⟨c5, hE⟩ := ck hE
        obtain ⟨x6, hx6, hE⟩ := bd hE
        refine s_callV (As := [.int v1, .int v4]) (rest := [rr G x4]) CF hK hW hS (S_X12_lineOf l G F hx6) c5 rfl gv_X12_247 hd_X12_lineOf ⟨Nat.le_of_ble_eq_true rfl, Nat.le_of_ble_eq_true rfl⟩ rfl hl.1 rfl (Nat.le_of_ble_eq_true rfl) dX12_reaches_30 ⟨Nat.le_refl _, Nat.le_refl _⟩ (fun H locs hW hS => ?_)
        obtain ⟨x7, hx7, hE⟩ := bd hE
        refine s_ldI hx hb hK hW hS hx7 dX12_reaches_33 ?_
        refine lv_iconst (v := (-1 : Int32)) hx hb dX12_reaches_34 (by decide) ?_
        refine lv_icmp_eq (tgt := 79) hx hb dX12_reaches_35 (by decide) (fun q8 => ?_) (fun q8 => ?_)
        · replace hE := ite_t q8 hE
          refine lv_iload hx hb dX12_reaches_79 (lv_at hl 3 rfl) ?_
          obtain ⟨rfl, rfl⟩ := so2 hE
          exact s_iret hx hb hr hlocks hW hS dX12_reaches_81
        · replace hE := ite_f q8 hE
          refine lv_iload hx hb dX12_reaches_38 (lv_at hl 3 rfl) ?_
          refine lv_iload_n hx hb dX12_reaches_40 rfl (lv_at hl 2 rfl) ?_
          refine lv_icmp_eq (tgt := 73) hx hb dX12_reaches_41 (by decide) (fun q9 => ?_) (fun q9 => ?_)
          · replace hE := ite_t q9 hE
            obtain ⟨y10, ey10⟩ : ∃ y : Int32, y = v4 + (1 : Int32) := ⟨_, rfl⟩
            replace hE := nm_o ey10 hE
            refine lv_iinc (k := 3) (v := y10) (lv' := [(4, .int y10), (0, rr G v0), (1, .int v1), (2, .int v2)]) hx hb dX12_reaches_73 hl rfl (by rw [ey10]; rfl) (by decide) rfl (fun ls hl => ?_)
            refine lv_goto (tgt := 12) hx hb dX12_reaches_76 (by decide) ?_
            exact ih12 _ _ _ _ _ _ _ _ hE hW hS (lv_sub hl [1, 2, 3, 0] rfl)
          · replace hE := ite_f q9 hE
            refine s_aload_n hx hb dX12_reaches_44 rfl (lv_at hl 0 rfl) ?_
            obtain ⟨x11, hx11, hE⟩ := bd hE
            refine s_gR hx hb hT u_X12 hown hK hW hx11 rfl (by decide) fl_X12_42 rfl dX12_reaches_45 ?_
            refine s_aload_n hx hb dX12_reaches_48 rfl (lv_at hl 0 rfl) ?_
            refine lv_iload_n hx hb dX12_reaches_49 rfl (lv_at hl 1 rfl) ?_
            refine lv_iload hx hb dX12_reaches_50 (lv_at hl 3 rfl) ?_
            obtain ⟨c12, hE⟩ := ck hE
            obtain ⟨x13, hx13, hE⟩ := bd hE
            refine s_callV (As := [.int v1, .int v4]) (rest := [rr G x11]) CF hK hW hS (S_X12_lineOf l G F hx13) c12 rfl gv_X12_247 hd_X12_lineOf ⟨Nat.le_of_ble_eq_true rfl, Nat.le_of_ble_eq_true rfl⟩ rfl hl.1 rfl (Nat.le_of_ble_eq_true rfl) dX12_reaches_52 ⟨Nat.le_refl _, Nat.le_refl _⟩ (fun H locs hW hS => ?_)
            obtain ⟨x14, hx14, hE⟩ := bd hE
            refine s_ldI hx hb hK hW hS hx14 dX12_reaches_55 ?_
            refine s_aload_n hx hb dX12_reaches_56 rfl (lv_at hl 0 rfl) ?_
            obtain ⟨x15, hx15, hE⟩ := bd hE
            refine s_gR hx hb hT u_X12 hown hK hW hx15 rfl (by decide) fl_X12_42 rfl dX12_reaches_57 ?_
            refine s_aload_n hx hb dX12_reaches_60 rfl (lv_at hl 0 rfl) ?_
            refine lv_iload_n hx hb dX12_reaches_61 rfl (lv_at hl 1 rfl) ?_
            refine lv_iload hx hb dX12_reaches_62 (lv_at hl 3 rfl) ?_
            refine lv_iconst (v := (1 : Int32)) hx hb dX12_reaches_64 (by decide) ?_
            refine lv_isub hx hb dX12_reaches_65 ?_
            obtain ⟨c16, hE⟩ := ck hE
            obtain ⟨x17, hx17, hE⟩ := bd hE
            refine s_callV (As := [.int v1, .int (v4 - (1 : Int32))]) (rest := [rr G x15, .int x14]) CF hK hW hS (S_X12_lineOf l G F hx17) c16 rfl gv_X12_247 hd_X12_lineOf ⟨Nat.le_of_ble_eq_true rfl, Nat.le_of_ble_eq_true rfl⟩ rfl hl.1 rfl (Nat.le_of_ble_eq_true rfl) dX12_reaches_66 ⟨Nat.le_refl _, Nat.le_refl _⟩ (fun H locs hW hS => ?_)
            obtain ⟨x18, hx18, hE⟩ := bd hE
            refine s_ldI hx hb hK hW hS hx18 dX12_reaches_69 ?_
            refine lv_icmp_le (tgt := 79) hx hb dX12_reaches_70 (by decide) (fun q19 => ?_) (fun q19 => ?_)
            · replace hE := ite_t q19 hE
              refine lv_iload hx hb dX12_reaches_79 (lv_at hl 3 rfl) ?_
              obtain ⟨rfl, rfl⟩ := so2 hE
              exact s_iret hx hb hr hlocks hW hS dX12_reaches_81
            · replace hE := ite_f q19 hE
              obtain ⟨y20, ey20⟩ : ∃ y : Int32, y = v4 + (1 : Int32) := ⟨_, rfl⟩
              replace hE := nm_o ey20 hE
              refine lv_iinc (k := 3) (v := y20) (lv' := [(4, .int y20), (0, rr G v0), (1, .int v1), (2, .int v2)]) hx hb dX12_reaches_73 hl rfl (by rw [ey20]; rfl) (by decide) rfl (fun ls hl => ?_)
              refine lv_goto (tgt := 12) hx hb dX12_reaches_76 (by decide) ?_
              exact ih12 _ _ _ _ _ _ _ _ hE hW hS (lv_sub hl [1, 2, 3, 0] rfl)
  refine s_aload_n hx hb dX12_reaches_0 rfl (lv_at hl 0 rfl) ?_
  refine lv_iload_n hx hb dX12_reaches_1 rfl (lv_at hl 3 rfl) ?_
  refine s_aload_n hx hb dX12_reaches_2 rfl (lv_at hl 0 rfl) ?_
  obtain ⟨x21, hx21, hE⟩ := bd hE
  refine s_gR hx hb hT u_X12 hown hK hW hx21 rfl (by decide) fl_X12_42 rfl dX12_reaches_3 ?_
  obtain ⟨c22, hE⟩ := ck hE
  obtain ⟨f23, hf23, hE⟩ := bd hE
  refine s_callV (As := [.int u3, rr G x21]) (rest := []) CF hK hW hS (S_X12_layCopy l G F hf23) c22 rfl gv_X12_265 hd_X12_layCopy ⟨Nat.le_of_ble_eq_true rfl, Nat.le_of_ble_eq_true rfl⟩ rfl hl.1 rfl (Nat.le_of_ble_eq_true rfl) dX12_reaches_6 ⟨Nat.le_refl _, Nat.le_refl _⟩ (fun H locs hW hS => ?_)
  refine lv_iload_n hx hb dX12_reaches_9 rfl (lv_at hl 2 rfl) ?_
  refine lv_istore (lv' := [(4, .int u2), (0, rr G u0), (1, .int u1), (2, .int u2), (3, .int u3)]) hx hb dX12_reaches_10 hl (by decide) rfl (fun ls hl => ?_)
  exact hC12 F _ _ _ _ _ _ _ _ hE hW hS (lv_sub hl [1, 2, 3, 0] rfl)
set_option maxHeartbeats 4000000 in
set_option maxRecDepth 100000 in
theorem S_X12_readLetters (l : Launch) (G : GG) (F : Nat) {u0 : Option Nat} {u1 : Int32} {f : Hp} {r : Int32} {f' : Hp} {n : Nat} (hE : m_X12_readLetters F u0 u1 f = some (r, f')) : Ctr l G yX12_readLetters cX12_readLetters 3 (some .boolean) 2 45 [rr G u0, .int u1] f n (some (.int r)) f' n 0 0 := by
  refine Met.ofW (cc := cX12_readLetters) (maxL := 3) (ret := (some .boolean)) (by decide) rfl ?_
  intro p e s m args below meth c s₁ B hml hv
  obtain ⟨rfl, hK, hW⟩ := hv
  have hx := B.exec
  have hb := B.bytes
  have hr := B.returns
  have hts := atoms_spec (ws := wsO yX12_readLetters cX12_readLetters 3 (some .boolean)) B.pre
  have hT : ∀ w ∈ TB, w.before [rr G u0, .int u1].toArray s = true := fun w hw => hts w (List.mem_cons_of_mem _ hw)
  have hown : s.vm.findClass RX12 = some m.cls := findClass_of_methodNamed B.named
  have hlocks := B.notSynchronized
  have CF : CallFix p m c cX12_readLetters 3 s [rr G u0, .int u1].toArray TB RX12 := ⟨hx, hb, hml, hown, hT⟩
  have hS : va_S (WA G) s.heap s.heap [] := va_S.rf
  have hl : lv_has (lg_sl ([rr G u0, .int u1]) ++ List.replicate (3 - (lg_sl ([rr G u0, .int u1])).length) Slot.unset).toArray 3 [(0, rr G u0), (1, .int u1)] := by cases u0 <;> exact lv_entry _ (Nat.le_of_ble_eq_true rfl)
  rw [lg_entry_eq]
  generalize (lg_sl ([rr G u0, .int u1]) ++ List.replicate (3 - (lg_sl ([rr G u0, .int u1])).length) Slot.unset).toArray = ls at hl ⊢
  have hC60 : ∀ (v0 : Option Nat) (v2 : Int32) (s0 : Option Nat) (s1 : Option Nat) (s2 : Int32) (fa : Hp) (H : Heap) (locs : List Loc) (ls : Array Slot), m_X12_readLetters_B60 F v0 v2 s0 s1 s2 fa = some (r, f') → Wd G fa n H → va_S (WA G) s.heap H locs → lv_has ls 3 [(0, rr G v0), (2, .int v2)] → W p l e (headSpec (wsO yX12_readLetters cX12_readLetters 3 (some .boolean)) { frames := 2, cells := 0, slots := 0, locals := 45 }).room s m [rr G u0, .int u1].toArray below meth c H locs 0 0 (MQ below (Qcn G (some (.int r)) f' n) [rr G u0, .int u1].toArray s 0 0 (WA G)) (F0 m 60 ls [.int s2, rr G s1, rr G s0]) := by
    intro v0 v2 s0 s1 s2 fa H locs ls hE hW hS hl
    refine lv_iload_n hx hb dX12_readLetters_60 rfl (lv_at hl 1 rfl) ?_
    refine s_aload_n hx hb dX12_readLetters_61 rfl (lv_at hl 0 rfl) ?_
    obtain ⟨x2, hx2, hE⟩ := bd hE
    refine s_gI hx hb hT u_X12 hown hK hW hx2 rfl (by decide) fl_X12_155 rfl dX12_readLetters_62 ?_
    refine lv_iconst (v := (0 : Int32)) hx hb dX12_readLetters_65 (by decide) ?_
    obtain ⟨c3, hE⟩ := ck hE
    obtain ⟨x4, f5, hx4, hE⟩ := bd2_of hE
    refine s_callV (As := [.int s2, .int v2, .int x2, .int (0 : Int32)]) (rest := [rr G s0]) CF hK hW hS (S_X12_lays l G F hx4) c3 rfl gv_X12_358 hd_X12_lays ⟨Nat.le_of_ble_eq_true rfl, Nat.le_of_ble_eq_true rfl⟩ rfl hl.1 rfl (Nat.le_of_ble_eq_true rfl) dX12_readLetters_66 ⟨Nat.le_refl _, Nat.le_refl _⟩ (fun H locs hW hS => ?_)
    obtain ⟨f6, hf6, hE⟩ := bd hE
    refine s_putI hx hb hT u_X12 tyX12 tyX12_ok nmX12 hown hK hW hS hf6 rfl (by decide) fl_X12_355 rfl (Or.inl rfl) rfl dX12_readLetters_69 (fun H locs hW hS => ?_)
    refine lv_iconst (v := (1 : Int32)) hx hb dX12_readLetters_72 (by decide) ?_
    obtain ⟨c7, hE⟩ := ck hE
    obtain ⟨rfl, rfl⟩ := so2 hE
    exact s_zret hx hb hr c7 hlocks hW hS dX12_readLetters_73
  have hC45 : ∀ (v0 : Option Nat) (v1 : Int32) (v2 : Int32) (fa : Hp) (H : Heap) (locs : List Loc) (ls : Array Slot), m_X12_readLetters_B45 F v0 v1 v2 fa = some (r, f') → Wd G fa n H → va_S (WA G) s.heap H locs → lv_has ls 3 [(0, rr G v0), (1, .int v1), (2, .int v2)] → W p l e (headSpec (wsO yX12_readLetters cX12_readLetters 3 (some .boolean)) { frames := 2, cells := 0, slots := 0, locals := 45 }).room s m [rr G u0, .int u1].toArray below meth c H locs 0 0 (MQ below (Qcn G (some (.int r)) f' n) [rr G u0, .int u1].toArray s 0 0 (WA G)) (F0 m 45 ls []) := by
    intro v0 v1 v2 fa H locs ls hE hW hS hl
    refine s_aload_n hx hb dX12_readLetters_45 rfl (lv_at hl 0 rfl) ?_
    refine s_aload_n hx hb dX12_readLetters_46 rfl (lv_at hl 0 rfl) ?_
    refine lv_iload_n hx hb dX12_readLetters_47 rfl (lv_at hl 1 rfl) ?_
    refine lv_bipush (v := (14 : Int32)) hx hb dX12_readLetters_48 (by decide) ?_
    refine lv_icmp_ne (tgt := 58) hx hb dX12_readLetters_50 (by decide) (fun q1 => ?_) (fun q1 => ?_)
    · replace hE := ite_f q1 hE
      refine lv_bipush (v := (7 : Int32)) hx hb dX12_readLetters_58 (by decide) ?_
      exact hC60 _ _ _ _ _ _ _ _ _ hE hW hS (lv_sub hl [0, 2] rfl)
    · replace hE := ite_t q1 hE
      refine lv_bipush (v := (6 : Int32)) hx hb dX12_readLetters_53 (by decide) ?_
      refine lv_goto (tgt := 60) hx hb dX12_readLetters_55 (by decide) ?_
      exact hC60 _ _ _ _ _ _ _ _ _ hE hW hS (lv_sub hl [0, 2] rfl)
  refine s_aload_n hx hb dX12_readLetters_0 rfl (lv_at hl 0 rfl) ?_
  refine s_aload_n hx hb dX12_readLetters_1 rfl (lv_at hl 0 rfl) ?_
  obtain ⟨c8, hE⟩ := ck hE
  obtain ⟨x9, hx9, hE⟩ := bd hE
  refine s_callV (As := []) (rest := [rr G u0]) CF hK hW hS (S_X12_lines l G F hx9) c8 rfl gv_X12_185 hd_X12_lines ⟨Nat.le_of_ble_eq_true rfl, Nat.le_of_ble_eq_true rfl⟩ rfl hl.1 rfl (Nat.le_of_ble_eq_true rfl) dX12_readLetters_2 ⟨Nat.le_refl _, Nat.le_refl _⟩ (fun H locs hW hS => ?_)
  obtain ⟨c10, hE⟩ := ck hE
  obtain ⟨x11, f12, hx11, hE⟩ := bd2_of hE
  refine s_callV (As := [.int x9]) (rest := []) CF hK hW hS (S_X12_readLetter l G F hx11) c10 rfl gv_X12_211 hd_X12_readLetter ⟨Nat.le_of_ble_eq_true rfl, Nat.le_of_ble_eq_true rfl⟩ rfl hl.1 rfl (Nat.le_of_ble_eq_true rfl) dX12_readLetters_5 ⟨Nat.le_refl _, Nat.le_refl _⟩ (fun H locs hW hS => ?_)
  refine lv_if_ne (tgt := 13) hx hb dX12_readLetters_8 (by decide) (fun q13 => ?_) (fun q13 => ?_)
  · replace hE := ite_f q13 hE
    refine s_aload_n hx hb dX12_readLetters_13 rfl (lv_at hl 0 rfl) ?_
    obtain ⟨x14, hx14, hE⟩ := bd hE
    refine s_gI hx hb hT u_X12 hown hK hW hx14 rfl (by decide) fl_X12_155 rfl dX12_readLetters_14 ?_
    refine lv_istore_n (i := 2) (lv' := [(2, .int x14), (0, rr G u0), (1, .int u1)]) hx hb dX12_readLetters_17 rfl hl (by decide) rfl (fun ls hl => ?_)
    refine s_aload_n hx hb dX12_readLetters_18 rfl (lv_at hl 1 rfl) ?_
    obtain ⟨c15, hE⟩ := ck hE
    obtain ⟨f16, hf16, hE⟩ := bd hE
    refine s_callV (As := []) (rest := []) CF hK hW hS (S_X12_go l G F hf16) c15 rfl gv_X12_158 hd_X12_go ⟨Nat.le_of_ble_eq_true rfl, Nat.le_of_ble_eq_true rfl⟩ rfl hl.1 rfl (Nat.le_of_ble_eq_true rfl) dX12_readLetters_19 ⟨Nat.le_refl _, Nat.le_refl _⟩ (fun H locs hW hS => ?_)
    refine lv_iload_n hx hb dX12_readLetters_22 rfl (lv_at hl 2 rfl) ?_
    refine lv_bipush (v := (15 : Int32)) hx hb dX12_readLetters_23 (by decide) ?_
    refine lv_icmp_ne (tgt := 45) hx hb dX12_readLetters_25 (by decide) (fun q17 => ?_) (fun q17 => ?_)
    · replace hE := ite_f q17 hE
      exact hC45 _ _ _ _ _ _ _ hE hW hS (lv_sub hl [1, 2, 0] rfl)
    · replace hE := ite_t q17 hE
      refine s_aload_n hx hb dX12_readLetters_28 rfl (lv_at hl 1 rfl) ?_
      refine s_aload_n hx hb dX12_readLetters_29 rfl (lv_at hl 1 rfl) ?_
      obtain ⟨c18, hE⟩ := ck hE
      obtain ⟨x19, hx19, hE⟩ := bd hE
      refine s_callV (As := []) (rest := [rr G u0]) CF hK hW hS (S_X12_lines l G F hx19) c18 rfl gv_X12_185 hd_X12_lines ⟨Nat.le_of_ble_eq_true rfl, Nat.le_of_ble_eq_true rfl⟩ rfl hl.1 rfl (Nat.le_of_ble_eq_true rfl) dX12_readLetters_30 ⟨Nat.le_refl _, Nat.le_refl _⟩ (fun H locs hW hS => ?_)
      obtain ⟨c20, hE⟩ := ck hE
      obtain ⟨x21, f22, hx21, hE⟩ := bd2_of hE
      refine s_callV (As := [.int x19]) (rest := []) CF hK hW hS (S_X12_readLetter l G F hx21) c20 rfl gv_X12_211 hd_X12_readLetter ⟨Nat.le_of_ble_eq_true rfl, Nat.le_of_ble_eq_true rfl⟩ rfl hl.1 rfl (Nat.le_of_ble_eq_true rfl) dX12_readLetters_33 ⟨Nat.le_refl _, Nat.le_refl _⟩ (fun H locs hW hS => ?_)
      refine lv_if_ne (tgt := 41) hx hb dX12_readLetters_36 (by decide) (fun q23 => ?_) (fun q23 => ?_)
      · replace hE := ite_f q23 hE
        refine s_aload_n hx hb dX12_readLetters_41 rfl (lv_at hl 1 rfl) ?_
        obtain ⟨c24, hE⟩ := ck hE
        obtain ⟨f25, hf25, hE⟩ := bd hE
        refine s_callV (As := []) (rest := []) CF hK hW hS (S_X12_go l G F hf25) c24 rfl gv_X12_158 hd_X12_go ⟨Nat.le_of_ble_eq_true rfl, Nat.le_of_ble_eq_true rfl⟩ rfl hl.1 rfl (Nat.le_of_ble_eq_true rfl) dX12_readLetters_42 ⟨Nat.le_refl _, Nat.le_refl _⟩ (fun H locs hW hS => ?_)
        exact hC45 _ _ _ _ _ _ _ hE hW hS (lv_sub hl [1, 2, 0] rfl)
      · replace hE := ite_t q23 hE
        refine lv_iconst (v := (0 : Int32)) hx hb dX12_readLetters_39 (by decide) ?_
        obtain ⟨c26, hE⟩ := ck hE
        obtain ⟨rfl, rfl⟩ := so2 hE
        exact s_zret hx hb hr c26 hlocks hW hS dX12_readLetters_40
  · replace hE := ite_t q13 hE
    refine lv_iconst (v := (0 : Int32)) hx hb dX12_readLetters_11 (by decide) ?_
    obtain ⟨c27, hE⟩ := ck hE
    obtain ⟨rfl, rfl⟩ := so2 hE
    exact s_zret hx hb hr c27 hlocks hW hS dX12_readLetters_12
set_option maxHeartbeats 4000000 in
set_option maxRecDepth 100000 in
theorem S_X12_readCompare (l : Launch) (G : GG) (F : Nat) {u0 : Option Nat} {u1 : Int32} {f : Hp} {r : Int32} {f' : Hp} {n : Nat} (hE : m_X12_readCompare F u0 u1 f = some (r, f')) : Ctr l G yX12_readCompare cX12_readCompare 4 (some .boolean) 3 67 [rr G u0, .int u1] f n (some (.int r)) f' n 0 0 := by
  refine Met.ofW (cc := cX12_readCompare) (maxL := 4) (ret := (some .boolean)) (by decide) rfl ?_
  intro p e s m args below meth c s₁ B hml hv
  obtain ⟨rfl, hK, hW⟩ := hv
  have hx := B.exec
  have hb := B.bytes
  have hr := B.returns
  have hts := atoms_spec (ws := wsO yX12_readCompare cX12_readCompare 4 (some .boolean)) B.pre
  have hT : ∀ w ∈ TB, w.before [rr G u0, .int u1].toArray s = true := fun w hw => hts w (List.mem_cons_of_mem _ hw)
  have hown : s.vm.findClass RX12 = some m.cls := findClass_of_methodNamed B.named
  have hlocks := B.notSynchronized
  have CF : CallFix p m c cX12_readCompare 4 s [rr G u0, .int u1].toArray TB RX12 := ⟨hx, hb, hml, hown, hT⟩
  have hS : va_S (WA G) s.heap s.heap [] := va_S.rf
  have hl : lv_has (lg_sl ([rr G u0, .int u1]) ++ List.replicate (4 - (lg_sl ([rr G u0, .int u1])).length) Slot.unset).toArray 4 [(0, rr G u0), (1, .int u1)] := by cases u0 <;> exact lv_entry _ (Nat.le_of_ble_eq_true rfl)
  rw [lg_entry_eq]
  generalize (lg_sl ([rr G u0, .int u1]) ++ List.replicate (4 - (lg_sl ([rr G u0, .int u1])).length) Slot.unset).toArray = ls at hl ⊢
  have hC100 : ∀ (v0 : Option Nat) (v1 : Int32) (v2 : Int32) (fa : Hp) (H : Heap) (locs : List Loc) (ls : Array Slot), m_X12_readCompare_B100 F v0 v1 v2 fa = some (r, f') → Wd G fa n H → va_S (WA G) s.heap H locs → lv_has ls 4 [(0, rr G v0), (1, .int v1), (2, .int v2)] → W p l e (headSpec (wsO yX12_readCompare cX12_readCompare 4 (some .boolean)) { frames := 3, cells := 0, slots := 0, locals := 67 }).room s m [rr G u0, .int u1].toArray below meth c H locs 0 0 (MQ below (Qcn G (some (.int r)) f' n) [rr G u0, .int u1].toArray s 0 0 (WA G)) (F0 m 100 ls []) := by
    intro v0 v1 v2 fa H locs ls hE hW hS hl
    refine s_aload_n hx hb dX12_readCompare_100 rfl (lv_at hl 0 rfl) ?_
    obtain ⟨x31, hx31, hE⟩ := bd hE
    refine s_gI hx hb hT u_X12 hown hK hW hx31 rfl (by decide) fl_X12_114 rfl dX12_readCompare_101 ?_
    refine lv_istore_n (i := 3) (lv' := [(3, .int x31), (0, rr G v0), (1, .int v1), (2, .int v2)]) hx hb dX12_readCompare_104 rfl hl (by decide) rfl (fun ls hl => ?_)
    refine s_aload_n hx hb dX12_readCompare_105 rfl (lv_at hl 1 rfl) ?_
    obtain ⟨c32, hE⟩ := ck hE
    obtain ⟨f33, hf33, hE⟩ := bd hE
    refine s_callV (As := []) (rest := []) CF hK hW hS (S_X12_go l G F hf33) c32 rfl gv_X12_158 hd_X12_go ⟨Nat.le_of_ble_eq_true rfl, Nat.le_of_ble_eq_true rfl⟩ rfl hl.1 rfl (Nat.le_of_ble_eq_true rfl) dX12_readCompare_106 ⟨Nat.le_refl _, Nat.le_refl _⟩ (fun H locs hW hS => ?_)
    refine s_aload_n hx hb dX12_readCompare_109 rfl (lv_at hl 1 rfl) ?_
    refine lv_iconst (v := (0 : Int32)) hx hb dX12_readCompare_110 (by decide) ?_
    refine lv_bipush (v := (99 : Int32)) hx hb dX12_readCompare_111 (by decide) ?_
    obtain ⟨c34, hE⟩ := ck hE
    obtain ⟨x35, f36, hx35, hE⟩ := bd2_of hE
    refine s_callV (As := [.int (0 : Int32), .int (99 : Int32)]) (rest := []) CF hK hW hS (S_X12_readNumber l G F hx35) c34 rfl gv_X12_205 hd_X12_readNumber ⟨Nat.le_of_ble_eq_true rfl, Nat.le_of_ble_eq_true rfl⟩ rfl hl.1 rfl (Nat.le_of_ble_eq_true rfl) dX12_readCompare_113 ⟨Nat.le_refl _, Nat.le_refl _⟩ (fun H locs hW hS => ?_)
    refine lv_if_ne (tgt := 121) hx hb dX12_readCompare_116 (by decide) (fun q37 => ?_) (fun q37 => ?_)
    · replace hE := ite_f q37 hE
      refine s_aload_n hx hb dX12_readCompare_121 rfl (lv_at hl 1 rfl) ?_
      refine s_aload_n hx hb dX12_readCompare_122 rfl (lv_at hl 1 rfl) ?_
      refine lv_iload_n hx hb dX12_readCompare_123 rfl (lv_at hl 2 rfl) ?_
      refine lv_bipush (v := (16 : Int32)) hx hb dX12_readCompare_124 (by decide) ?_
      refine lv_isub hx hb dX12_readCompare_126 ?_
      refine lv_bipush (v := (8 : Int32)) hx hb dX12_readCompare_127 (by decide) ?_
      refine lv_iadd hx hb dX12_readCompare_129 ?_
      refine lv_iload_n hx hb dX12_readCompare_130 rfl (lv_at hl 3 rfl) ?_
      refine s_aload_n hx hb dX12_readCompare_131 rfl (lv_at hl 1 rfl) ?_
      obtain ⟨x38, hx38, hE⟩ := bd hE
      refine s_gI hx hb hT u_X12 hown hK hW hx38 rfl (by decide) fl_X12_155 rfl dX12_readCompare_132 ?_
      refine lv_iload_n hx hb dX12_readCompare_135 rfl (lv_at hl 0 rfl) ?_
      obtain ⟨c39, hE⟩ := ck hE
      obtain ⟨x40, f41, hx40, hE⟩ := bd2_of hE
      refine s_callV (As := [.int ((v1 - (16 : Int32)) + (8 : Int32)), .int v2, .int x38, .int x31]) (rest := [rr G v0]) CF hK hW hS (S_X12_lays l G F hx40) c39 rfl gv_X12_358 hd_X12_lays ⟨Nat.le_of_ble_eq_true rfl, Nat.le_of_ble_eq_true rfl⟩ rfl hl.1 rfl (Nat.le_of_ble_eq_true rfl) dX12_readCompare_136 ⟨Nat.le_refl _, Nat.le_refl _⟩ (fun H locs hW hS => ?_)
      obtain ⟨f42, hf42, hE⟩ := bd hE
      refine s_putI hx hb hT u_X12 tyX12 tyX12_ok nmX12 hown hK hW hS hf42 rfl (by decide) fl_X12_355 rfl (Or.inl rfl) rfl dX12_readCompare_139 (fun H locs hW hS => ?_)
      refine lv_iconst (v := (1 : Int32)) hx hb dX12_readCompare_142 (by decide) ?_
      obtain ⟨c43, hE⟩ := ck hE
      obtain ⟨rfl, rfl⟩ := so2 hE
      exact s_zret hx hb hr c43 hlocks hW hS dX12_readCompare_143
    · replace hE := ite_t q37 hE
      refine lv_iconst (v := (0 : Int32)) hx hb dX12_readCompare_119 (by decide) ?_
      obtain ⟨c44, hE⟩ := ck hE
      obtain ⟨rfl, rfl⟩ := so2 hE
      exact s_zret hx hb hr c44 hlocks hW hS dX12_readCompare_120
  have hC67 : ∀ (v0 : Option Nat) (v1 : Int32) (v2 : Int32) (fa : Hp) (H : Heap) (locs : List Loc) (ls : Array Slot), m_X12_readCompare_B67 F v0 v1 v2 fa = some (r, f') → Wd G fa n H → va_S (WA G) s.heap H locs → lv_has ls 4 [(0, rr G v0), (1, .int v1), (2, .int v2)] → W p l e (headSpec (wsO yX12_readCompare cX12_readCompare 4 (some .boolean)) { frames := 3, cells := 0, slots := 0, locals := 67 }).room s m [rr G u0, .int u1].toArray below meth c H locs 0 0 (MQ below (Qcn G (some (.int r)) f' n) [rr G u0, .int u1].toArray s 0 0 (WA G)) (F0 m 67 ls []) := by
    intro v0 v1 v2 fa H locs ls hE hW hS hl
    refine s_aload_n hx hb dX12_readCompare_67 rfl (lv_at hl 0 rfl) ?_
    refine lv_bipush (v := (60 : Int32)) hx hb dX12_readCompare_68 (by decide) ?_
    obtain ⟨c18, hE⟩ := ck hE
    obtain ⟨x19, hx19, hE⟩ := bd hE
    refine s_callV (As := [.int (60 : Int32)]) (rest := []) CF hK hW hS (S_X12_isSign l G F hx19) c18 rfl gv_X12_161 hd_X12_isSign ⟨Nat.le_of_ble_eq_true rfl, Nat.le_of_ble_eq_true rfl⟩ rfl hl.1 rfl (Nat.le_of_ble_eq_true rfl) dX12_readCompare_70 ⟨Nat.le_refl _, Nat.le_refl _⟩ (fun H locs hW hS => ?_)
    refine lv_if_ne (tgt := 100) hx hb dX12_readCompare_73 (by decide) (fun q20 => ?_) (fun q20 => ?_)
    · replace hE := ite_f q20 hE
      exact hC100 _ _ _ _ _ _ _ hE hW hS (lv_sub hl [0, 1, 2] rfl)
    · replace hE := ite_t q20 hE
      refine s_aload_n hx hb dX12_readCompare_76 rfl (lv_at hl 0 rfl) ?_
      refine lv_bipush (v := (61 : Int32)) hx hb dX12_readCompare_77 (by decide) ?_
      obtain ⟨c21, hE⟩ := ck hE
      obtain ⟨x22, hx22, hE⟩ := bd hE
      refine s_callV (As := [.int (61 : Int32)]) (rest := []) CF hK hW hS (S_X12_isSign l G F hx22) c21 rfl gv_X12_161 hd_X12_isSign ⟨Nat.le_of_ble_eq_true rfl, Nat.le_of_ble_eq_true rfl⟩ rfl hl.1 rfl (Nat.le_of_ble_eq_true rfl) dX12_readCompare_79 ⟨Nat.le_refl _, Nat.le_refl _⟩ (fun H locs hW hS => ?_)
      refine lv_if_ne (tgt := 100) hx hb dX12_readCompare_82 (by decide) (fun q23 => ?_) (fun q23 => ?_)
      · replace hE := ite_f q23 hE
        exact hC100 _ _ _ _ _ _ _ hE hW hS (lv_sub hl [0, 1, 2] rfl)
      · replace hE := ite_t q23 hE
        refine s_aload_n hx hb dX12_readCompare_85 rfl (lv_at hl 0 rfl) ?_
        refine lv_bipush (v := (62 : Int32)) hx hb dX12_readCompare_86 (by decide) ?_
        obtain ⟨c24, hE⟩ := ck hE
        obtain ⟨x25, hx25, hE⟩ := bd hE
        refine s_callV (As := [.int (62 : Int32)]) (rest := []) CF hK hW hS (S_X12_isSign l G F hx25) c24 rfl gv_X12_161 hd_X12_isSign ⟨Nat.le_of_ble_eq_true rfl, Nat.le_of_ble_eq_true rfl⟩ rfl hl.1 rfl (Nat.le_of_ble_eq_true rfl) dX12_readCompare_88 ⟨Nat.le_refl _, Nat.le_refl _⟩ (fun H locs hW hS => ?_)
        refine lv_if_ne (tgt := 100) hx hb dX12_readCompare_91 (by decide) (fun q26 => ?_) (fun q26 => ?_)
        · replace hE := ite_f q26 hE
          exact hC100 _ _ _ _ _ _ _ hE hW hS (lv_sub hl [0, 1, 2] rfl)
        · replace hE := ite_t q26 hE
          refine s_aload_n hx hb dX12_readCompare_94 rfl (lv_at hl 0 rfl) ?_
          refine lv_iconst (v := (1 : Int32)) hx hb dX12_readCompare_95 (by decide) ?_
          obtain ⟨c27, hE⟩ := ck hE
          obtain ⟨x28, f29, hx28, hE⟩ := bd2_of hE
          refine s_callV (As := [.int (1 : Int32)]) (rest := []) CF hK hW hS (S_X12_bad l G F hx28) c27 rfl gv_X12_148 hd_X12_bad ⟨Nat.le_of_ble_eq_true rfl, Nat.le_of_ble_eq_true rfl⟩ rfl hl.1 rfl (Nat.le_of_ble_eq_true rfl) dX12_readCompare_96 ⟨Nat.le_refl _, Nat.le_refl _⟩ (fun H locs hW hS => ?_)
          obtain ⟨c30, hE⟩ := ck hE
          obtain ⟨rfl, rfl⟩ := so2 hE
          exact s_zret hx hb hr c30 hlocks hW hS dX12_readCompare_99
  have hC49 : ∀ (v0 : Option Nat) (v1 : Int32) (v2 : Int32) (fa : Hp) (H : Heap) (locs : List Loc) (ls : Array Slot), m_X12_readCompare_B49 F v0 v1 v2 fa = some (r, f') → Wd G fa n H → va_S (WA G) s.heap H locs → lv_has ls 4 [(0, rr G v0), (1, .int v1), (2, .int v2)] → W p l e (headSpec (wsO yX12_readCompare cX12_readCompare 4 (some .boolean)) { frames := 3, cells := 0, slots := 0, locals := 67 }).room s m [rr G u0, .int u1].toArray below meth c H locs 0 0 (MQ below (Qcn G (some (.int r)) f' n) [rr G u0, .int u1].toArray s 0 0 (WA G)) (F0 m 49 ls []) := by
    intro v0 v1 v2 fa H locs ls hE hW hS hl
    refine lv_iload_n hx hb dX12_readCompare_49 rfl (lv_at hl 2 rfl) ?_
    refine s_aload_n hx hb dX12_readCompare_50 rfl (lv_at hl 0 rfl) ?_
    obtain ⟨c9, hE⟩ := ck hE
    obtain ⟨x10, hx10, hE⟩ := bd hE
    refine s_callV (As := []) (rest := [.int v2]) CF hK hW hS (S_X12_copies l G F hx10) c9 rfl gv_X12_179 hd_X12_copies ⟨Nat.le_of_ble_eq_true rfl, Nat.le_of_ble_eq_true rfl⟩ rfl hl.1 rfl (Nat.le_of_ble_eq_true rfl) dX12_readCompare_51 ⟨Nat.le_refl _, Nat.le_refl _⟩ (fun H locs hW hS => ?_)
    refine lv_icmp_ne (tgt := 63) hx hb dX12_readCompare_54 (by decide) (fun q11 => ?_) (fun q11 => ?_)
    · replace hE := ite_f q11 hE
      refine s_aload_n hx hb dX12_readCompare_63 rfl (lv_at hl 0 rfl) ?_
      obtain ⟨c12, hE⟩ := ck hE
      obtain ⟨f13, hf13, hE⟩ := bd hE
      refine s_callV (As := []) (rest := []) CF hK hW hS (S_X12_go l G F hf13) c12 rfl gv_X12_158 hd_X12_go ⟨Nat.le_of_ble_eq_true rfl, Nat.le_of_ble_eq_true rfl⟩ rfl hl.1 rfl (Nat.le_of_ble_eq_true rfl) dX12_readCompare_64 ⟨Nat.le_refl _, Nat.le_refl _⟩ (fun H locs hW hS => ?_)
      exact hC67 _ _ _ _ _ _ _ hE hW hS (lv_sub hl [0, 1, 2] rfl)
    · replace hE := ite_t q11 hE
      refine s_aload_n hx hb dX12_readCompare_57 rfl (lv_at hl 0 rfl) ?_
      refine lv_iconst (v := (3 : Int32)) hx hb dX12_readCompare_58 (by decide) ?_
      obtain ⟨c14, hE⟩ := ck hE
      obtain ⟨x15, f16, hx15, hE⟩ := bd2_of hE
      refine s_callV (As := [.int (3 : Int32)]) (rest := []) CF hK hW hS (S_X12_bad l G F hx15) c14 rfl gv_X12_148 hd_X12_bad ⟨Nat.le_of_ble_eq_true rfl, Nat.le_of_ble_eq_true rfl⟩ rfl hl.1 rfl (Nat.le_of_ble_eq_true rfl) dX12_readCompare_59 ⟨Nat.le_refl _, Nat.le_refl _⟩ (fun H locs hW hS => ?_)
      obtain ⟨c17, hE⟩ := ck hE
      obtain ⟨rfl, rfl⟩ := so2 hE
      exact s_zret hx hb hr c17 hlocks hW hS dX12_readCompare_62
  have hC21 : ∀ (k21 : Nat), ∀ (v0 : Option Nat) (v1 : Int32) (v2 : Int32) (fa : Hp) (H : Heap) (locs : List Loc) (ls : Array Slot), m_X12_readCompare_L21 F k21 v0 v1 v2 fa = some (r, f') → Wd G fa n H → va_S (WA G) s.heap H locs → lv_has ls 4 [(0, rr G v0), (1, .int v1), (2, .int v2)] → W p l e (headSpec (wsO yX12_readCompare cX12_readCompare 4 (some .boolean)) { frames := 3, cells := 0, slots := 0, locals := 67 }).room s m [rr G u0, .int u1].toArray below meth c H locs 0 0 (MQ below (Qcn G (some (.int r)) f' n) [rr G u0, .int u1].toArray s 0 0 (WA G)) (F0 m 21 ls []) := by
    intro k21
    induction k21 with
    | zero => intro v0 v1 v2 fa H locs ls hE _ _ _; cases (show (none : Option ((Int32) × Hp)) = some (r, f') from hE)
    | succ k21 ih21 =>
      intro v0 v1 v2 fa H locs ls hE hW hS hl
      replace hE : m_X12_readCompare_b21 F (m_X12_readCompare_L21 F k21) v0 v1 v2 fa = some (r, f') := hE
      refine lv_iload_n hx hb dX12_readCompare_21 rfl (lv_at hl 2 rfl) ?_
      refine s_aload_n hx hb dX12_readCompare_22 rfl (lv_at hl 0 rfl) ?_
      obtain ⟨c1, hE⟩ := ck hE
      obtain ⟨x2, hx2, hE⟩ := bd hE
      refine s_callV (As := []) (rest := [.int v2]) CF hK hW hS (S_X12_copies l G F hx2) c1 rfl gv_X12_179 hd_X12_copies ⟨Nat.le_of_ble_eq_true rfl, Nat.le_of_ble_eq_true rfl⟩ rfl hl.1 rfl (Nat.le_of_ble_eq_true rfl) dX12_readCompare_23 ⟨Nat.le_refl _, Nat.le_refl _⟩ (fun H locs hW hS => ?_)
      refine lv_icmp_ge (tgt := 49) hx hb dX12_readCompare_26 (by decide) (fun q3 => ?_) (fun q3 => ?_)
      · replace hE := ite_t q3 hE
        exact hC49 _ _ _ _ _ _ _ hE hW hS (lv_sub hl [0, 1, 2] rfl)
      · replace hE := ite_f q3 hE
        refine s_aload_n hx hb dX12_readCompare_29 rfl (lv_at hl 0 rfl) ?_
        obtain ⟨x4, hx4, hE⟩ := bd hE
        refine s_gR hx hb hT u_X12 hown hK hW hx4 rfl (by decide) fl_X12_22 rfl dX12_readCompare_30 ?_
        refine lv_iload_n hx hb dX12_readCompare_33 rfl (lv_at hl 2 rfl) ?_
        obtain ⟨x5, hx5, hE⟩ := bd hE
        refine s_ldJ hx hb hK hW hS hx5 dX12_readCompare_34 ?_
        refine s_aload_n hx hb dX12_readCompare_35 rfl (lv_at hl 0 rfl) ?_
        obtain ⟨x6, hx6, hE⟩ := bd hE
        refine s_gJ hx hb hT u_X12 hown hK hW hx6 rfl (by decide) fl_X12_117 rfl dX12_readCompare_36 ?_
        refine W.lcmp hx hb dX12_readCompare_39 ?_
        refine lv_if_eq (tgt := 49) hx hb dX12_readCompare_40 (by decide) (fun q7 => ?_) (fun q7 => ?_)
        · replace hE := ite_t q7 hE
          exact hC49 _ _ _ _ _ _ _ hE hW hS (lv_sub hl [0, 1, 2] rfl)
        · replace hE := ite_f q7 hE
          obtain ⟨y8, ey8⟩ : ∃ y : Int32, y = v2 + (1 : Int32) := ⟨_, rfl⟩
          replace hE := nm_o ey8 hE
          refine lv_iinc (k := 2) (v := y8) (lv' := [(2, .int y8), (0, rr G v0), (1, .int v1)]) hx hb dX12_readCompare_43 hl rfl (by rw [ey8]; rfl) (by decide) rfl (fun ls hl => ?_)
          refine lv_goto (tgt := 21) hx hb dX12_readCompare_46 (by decide) ?_
          exact ih21 _ _ _ _ _ _ _ hE hW hS (lv_sub hl [1, 2, 0] rfl)
  refine lv_iconst (v := (0 : Int32)) hx hb dX12_readCompare_0 (by decide) ?_
  refine lv_istore_n (i := 2) (lv' := [(2, .int (0 : Int32)), (0, rr G u0), (1, .int u1)]) hx hb dX12_readCompare_1 rfl hl (by decide) rfl (fun ls hl => ?_)
  refine lv_iload_n hx hb dX12_readCompare_2 rfl (lv_at hl 2 rfl) ?_
  refine lv_bipush (v := (18 : Int32)) hx hb dX12_readCompare_3 (by decide) ?_
  refine lv_icmp_ge (tgt := 67) hx hb dX12_readCompare_5 (by decide) (fun q45 => ?_) (fun q45 => ?_)
  · replace hE := ite_t q45 hE
    exact hC67 _ _ _ _ _ _ _ hE hW hS (lv_sub hl [1, 2, 0] rfl)
  · replace hE := ite_f q45 hE
    refine s_aload_n hx hb dX12_readCompare_8 rfl (lv_at hl 1 rfl) ?_
    obtain ⟨c46, hE⟩ := ck hE
    obtain ⟨x47, hx47, hE⟩ := bd hE
    refine s_callV (As := []) (rest := []) CF hK hW hS (S_X12_isName l G F hx47) c46 rfl gv_X12_188 hd_X12_isName ⟨Nat.le_of_ble_eq_true rfl, Nat.le_of_ble_eq_true rfl⟩ rfl hl.1 rfl (Nat.le_of_ble_eq_true rfl) dX12_readCompare_9 ⟨Nat.le_refl _, Nat.le_refl _⟩ (fun H locs hW hS => ?_)
    refine lv_if_ne (tgt := 21) hx hb dX12_readCompare_12 (by decide) (fun q48 => ?_) (fun q48 => ?_)
    · replace hE := ite_f q48 hE
      exact hC21 F _ _ _ _ _ _ _ hE hW hS (lv_sub hl [1, 2, 0] rfl)
    · replace hE := ite_t q48 hE
      refine s_aload_n hx hb dX12_readCompare_15 rfl (lv_at hl 1 rfl) ?_
      refine lv_iconst (v := (1 : Int32)) hx hb dX12_readCompare_16 (by decide) ?_
      obtain ⟨c49, hE⟩ := ck hE
      obtain ⟨x50, f51, hx50, hE⟩ := bd2_of hE
      refine s_callV (As := [.int (1 : Int32)]) (rest := []) CF hK hW hS (S_X12_bad l G F hx50) c49 rfl gv_X12_148 hd_X12_bad ⟨Nat.le_of_ble_eq_true rfl, Nat.le_of_ble_eq_true rfl⟩ rfl hl.1 rfl (Nat.le_of_ble_eq_true rfl) dX12_readCompare_17 ⟨Nat.le_refl _, Nat.le_refl _⟩ (fun H locs hW hS => ?_)
      obtain ⟨c52, hE⟩ := ck hE
      obtain ⟨rfl, rfl⟩ := so2 hE
      exact s_zret hx hb hr c52 hlocks hW hS dX12_readCompare_20
set_option maxHeartbeats 4000000 in
set_option maxRecDepth 100000 in
theorem SG_1 (l : Launch) (G : GG) (F : Nat) : ∀ (d : Nat), (∀ (u0 : Option Nat) (f : Hp) (r : Int32) (f' : Hp) (n : Nat), mg_1 F d 0 u0 0 0 f = some (r, f') → Ctr l G yX12_readOr cX12_readOr 2 (some .boolean) (4 + d * 1) (90 + d * 23) [rr G u0] f n (some (.int r)) f' n 0 0) ∧ (∀ (u0 : Option Nat) (f : Hp) (r : Int32) (f' : Hp) (n : Nat), mg_1 F d 1 u0 0 0 f = some (r, f') → Ctr l G yX12_readAnd cX12_readAnd 2 (some .boolean) (4 + d * 1) (90 + d * 23) [rr G u0] f n (some (.int r)) f' n 0 0) ∧ (∀ (u0 : Option Nat) (f : Hp) (r : Int32) (f' : Hp) (n : Nat), mg_1 F d 2 u0 0 0 f = some (r, f') → Ctr l G yX12_readOne cX12_readOne 4 (some .boolean) (4 + d * 1) (90 + d * 23) [rr G u0] f n (some (.int r)) f' n 0 0) ∧ (∀ (u0 : Option Nat) (f : Hp) (r : Int32) (f' : Hp) (n : Nat), mg_1 F d 3 u0 0 0 f = some (r, f') → Ctr l G yX12_readNot cX12_readNot 1 (some .boolean) (4 + d * 1) (90 + d * 23) [rr G u0] f n (some (.int r)) f' n 0 0) ∧ (∀ (u0 : Option Nat) (f : Hp) (r : Int32) (f' : Hp) (n : Nat), mg_1 F d 4 u0 0 0 f = some (r, f') → Ctr l G yX12_readBracket cX12_readBracket 1 (some .boolean) (4 + d * 1) (90 + d * 23) [rr G u0] f n (some (.int r)) f' n 0 0) := by
  intro d
  induction d with
  | zero =>
    refine ⟨?_, ?_, ?_, ?_, ?_⟩
    · intro u0 f r f' n hE; cases (show (none : Option (Int32 × Hp)) = some (r, f') from hE)
    · intro u0 f r f' n hE; cases (show (none : Option (Int32 × Hp)) = some (r, f') from hE)
    · intro u0 f r f' n hE; cases (show (none : Option (Int32 × Hp)) = some (r, f') from hE)
    · intro u0 f r f' n hE; cases (show (none : Option (Int32 × Hp)) = some (r, f') from hE)
    · intro u0 f r f' n hE; cases (show (none : Option (Int32 × Hp)) = some (r, f') from hE)
  | succ d ihd =>
    have ihg0 := ihd
    refine ⟨?_, ?_, ?_, ?_, ?_⟩
    · intro u0 f r f' n hE
      replace hE : b_X12_readOr F (mg_1 F d) u0 f = some (r, f') := hE
      refine Met.ofW (cc := cX12_readOr) (maxL := 2) (ret := (some .boolean)) (by decide) rfl ?_
      intro p e s m args below meth c s₁ B hml hv
      obtain ⟨rfl, hK, hW⟩ := hv
      have hx := B.exec
      have hb := B.bytes
      have hr := B.returns
      have hts := atoms_spec (ws := wsO yX12_readOr cX12_readOr 2 (some .boolean)) B.pre
      have hT : ∀ w ∈ TB, w.before [rr G u0].toArray s = true := fun w hw => hts w (List.mem_cons_of_mem _ hw)
      have hown : s.vm.findClass RX12 = some m.cls := findClass_of_methodNamed B.named
      have hlocks := B.notSynchronized
      have CF : CallFix p m c cX12_readOr 2 s [rr G u0].toArray TB RX12 := ⟨hx, hb, hml, hown, hT⟩
      have hS : va_S (WA G) s.heap s.heap [] := va_S.rf
      have hl : lv_has (lg_sl ([rr G u0]) ++ List.replicate (2 - (lg_sl ([rr G u0])).length) Slot.unset).toArray 2 [(0, rr G u0)] := by cases u0 <;> exact lv_entry _ (Nat.le_of_ble_eq_true rfl)
      rw [lg_entry_eq]
      generalize (lg_sl ([rr G u0]) ++ List.replicate (2 - (lg_sl ([rr G u0])).length) Slot.unset).toArray = ls at hl ⊢
      have hC14 : ∀ (k14 : Nat), ∀ (v0 : Option Nat) (v1 : Int32) (fa : Hp) (H : Heap) (locs : List Loc) (ls : Array Slot), m_X12_readOr_L14 F (mg_1 F d) k14 v0 v1 fa = some (r, f') → Wd G fa n H → va_S (WA G) s.heap H locs → lv_has ls 2 [(0, rr G v0), (1, .int v1)] → W p l e (headSpec (wsO yX12_readOr cX12_readOr 2 (some .boolean)) { frames := (4 + (d + 1) * 1), cells := 0, slots := 0, locals := (90 + (d + 1) * 23) }).room s m [rr G u0].toArray below meth c H locs 0 0 (MQ below (Qcn G (some (.int r)) f' n) [rr G u0].toArray s 0 0 (WA G)) (F0 m 14 ls []) := by
        intro k14
        induction k14 with
        | zero => intro v0 v1 fa H locs ls hE _ _ _; cases (show (none : Option ((Int32) × Hp)) = some (r, f') from hE)
        | succ k14 ih14 =>
          intro v0 v1 fa H locs ls hE hW hS hl
          replace hE : m_X12_readOr_b14 F (mg_1 F d) (m_X12_readOr_L14 F (mg_1 F d) k14) v0 v1 fa = some (r, f') := hE
          refine s_aload_n hx hb dX12_readOr_14 rfl (lv_at hl 0 rfl) ?_
          refine lv_bipush (v := (9 : Int32)) hx hb dX12_readOr_15 (by decide) ?_
          obtain ⟨c1, hE⟩ := ck hE
          obtain ⟨x2, hx2, hE⟩ := bd hE
          refine s_callV (As := [.int (9 : Int32)]) (rest := []) CF hK hW hS (S_X12_isWord l G F hx2) c1 rfl gv_X12_202 hd_X12_isWord ⟨show 3 ≤ 4 + (d + 1) * 1 by omega, show 67 ≤ 90 + (d + 1) * 23 by omega⟩ rfl hl.1 rfl (Nat.le_of_ble_eq_true rfl) dX12_readOr_17 ⟨Nat.le_refl _, Nat.le_refl _⟩ (fun H locs hW hS => ?_)
          refine lv_if_eq (tgt := 51) hx hb dX12_readOr_20 (by decide) (fun q3 => ?_) (fun q3 => ?_)
          · replace hE := ite_t q3 hE
            refine s_aload_n hx hb dX12_readOr_51 rfl (lv_at hl 0 rfl) ?_
            refine lv_iload_n hx hb dX12_readOr_52 rfl (lv_at hl 1 rfl) ?_
            obtain ⟨f4, hf4, hE⟩ := bd hE
            refine s_putI hx hb hT u_X12 tyX12 tyX12_ok nmX12 hown hK hW hS hf4 rfl (by decide) fl_X12_355 rfl (Or.inl rfl) rfl dX12_readOr_53 (fun H locs hW hS => ?_)
            refine lv_iconst (v := (1 : Int32)) hx hb dX12_readOr_56 (by decide) ?_
            obtain ⟨c5, hE⟩ := ck hE
            obtain ⟨rfl, rfl⟩ := so2 hE
            exact s_zret hx hb hr c5 hlocks hW hS dX12_readOr_57
          · replace hE := ite_f q3 hE
            refine s_aload_n hx hb dX12_readOr_23 rfl (lv_at hl 0 rfl) ?_
            obtain ⟨c6, hE⟩ := ck hE
            obtain ⟨f7, hf7, hE⟩ := bd hE
            refine s_callV (As := []) (rest := []) CF hK hW hS (S_X12_go l G F hf7) c6 rfl gv_X12_158 hd_X12_go ⟨show 2 ≤ 4 + (d + 1) * 1 by omega, show 45 ≤ 90 + (d + 1) * 23 by omega⟩ rfl hl.1 rfl (Nat.le_of_ble_eq_true rfl) dX12_readOr_24 ⟨Nat.le_refl _, Nat.le_refl _⟩ (fun H locs hW hS => ?_)
            refine s_aload_n hx hb dX12_readOr_27 rfl (lv_at hl 0 rfl) ?_
            obtain ⟨c8, hE⟩ := ck hE
            obtain ⟨x9, f10, hx9, hE⟩ := bd2_of hE
            refine s_callV (As := []) (rest := []) CF hK hW hS (ihg0.2.1 _ _ _ _ _ hx9) c8 rfl gv_X12_352 hd_X12_readAnd ⟨show (4 + d * 1) + 1 ≤ 4 + (d + 1) * 1 by omega, show 8 + (2 + 11) + (90 + d * 23) ≤ 90 + (d + 1) * 23 by omega⟩ rfl hl.1 rfl (Nat.le_of_ble_eq_true rfl) dX12_readOr_28 ⟨Nat.le_refl _, Nat.le_refl _⟩ (fun H locs hW hS => ?_)
            refine lv_if_ne (tgt := 36) hx hb dX12_readOr_31 (by decide) (fun q11 => ?_) (fun q11 => ?_)
            · replace hE := ite_f q11 hE
              refine s_aload_n hx hb dX12_readOr_36 rfl (lv_at hl 0 rfl) ?_
              refine lv_iconst (v := (3 : Int32)) hx hb dX12_readOr_37 (by decide) ?_
              refine lv_iload_n hx hb dX12_readOr_38 rfl (lv_at hl 1 rfl) ?_
              refine s_aload_n hx hb dX12_readOr_39 rfl (lv_at hl 0 rfl) ?_
              obtain ⟨x12, hx12, hE⟩ := bd hE
              refine s_gI hx hb hT u_X12 hown hK hW hx12 rfl (by decide) fl_X12_355 rfl dX12_readOr_40 ?_
              refine lv_iconst (v := (0 : Int32)) hx hb dX12_readOr_43 (by decide) ?_
              obtain ⟨c13, hE⟩ := ck hE
              obtain ⟨x14, f15, hx14, hE⟩ := bd2_of hE
              refine s_callV (As := [.int (3 : Int32), .int v1, .int x12, .int (0 : Int32)]) (rest := []) CF hK hW hS (S_X12_lays l G F hx14) c13 rfl gv_X12_358 hd_X12_lays ⟨show 1 ≤ 4 + (d + 1) * 1 by omega, show 25 ≤ 90 + (d + 1) * 23 by omega⟩ rfl hl.1 rfl (Nat.le_of_ble_eq_true rfl) dX12_readOr_44 ⟨Nat.le_refl _, Nat.le_refl _⟩ (fun H locs hW hS => ?_)
              refine lv_istore_n (i := 1) (lv' := [(1, .int x14), (0, rr G v0)]) hx hb dX12_readOr_47 rfl hl (by decide) (by simp [cat_rr]) (fun ls hl => ?_)
              refine lv_goto (tgt := 14) hx hb dX12_readOr_48 (by decide) ?_
              exact ih14 _ _ _ _ _ _ hE hW hS (lv_sub hl [1, 0] rfl)
            · replace hE := ite_t q11 hE
              refine lv_iconst (v := (0 : Int32)) hx hb dX12_readOr_34 (by decide) ?_
              obtain ⟨c16, hE⟩ := ck hE
              obtain ⟨rfl, rfl⟩ := so2 hE
              exact s_zret hx hb hr c16 hlocks hW hS dX12_readOr_35
      refine s_aload_n hx hb dX12_readOr_0 rfl (lv_at hl 0 rfl) ?_
      obtain ⟨c17, hE⟩ := ck hE
      obtain ⟨x18, f19, hx18, hE⟩ := bd2_of hE
      refine s_callV (As := []) (rest := []) CF hK hW hS (ihg0.2.1 _ _ _ _ _ hx18) c17 rfl gv_X12_352 hd_X12_readAnd ⟨show (4 + d * 1) + 1 ≤ 4 + (d + 1) * 1 by omega, show 8 + (2 + 11) + (90 + d * 23) ≤ 90 + (d + 1) * 23 by omega⟩ rfl hl.1 rfl (Nat.le_of_ble_eq_true rfl) dX12_readOr_1 ⟨Nat.le_refl _, Nat.le_refl _⟩ (fun H locs hW hS => ?_)
      refine lv_if_ne (tgt := 9) hx hb dX12_readOr_4 (by decide) (fun q20 => ?_) (fun q20 => ?_)
      · replace hE := ite_f q20 hE
        refine s_aload_n hx hb dX12_readOr_9 rfl (lv_at hl 0 rfl) ?_
        obtain ⟨x21, hx21, hE⟩ := bd hE
        refine s_gI hx hb hT u_X12 hown hK hW hx21 rfl (by decide) fl_X12_355 rfl dX12_readOr_10 ?_
        refine lv_istore_n (i := 1) (lv' := [(1, .int x21), (0, rr G u0)]) hx hb dX12_readOr_13 rfl hl (by decide) (by simp [cat_rr]) (fun ls hl => ?_)
        exact hC14 F _ _ _ _ _ _ hE hW hS (lv_sub hl [1, 0] rfl)
      · replace hE := ite_t q20 hE
        refine lv_iconst (v := (0 : Int32)) hx hb dX12_readOr_7 (by decide) ?_
        obtain ⟨c22, hE⟩ := ck hE
        obtain ⟨rfl, rfl⟩ := so2 hE
        exact s_zret hx hb hr c22 hlocks hW hS dX12_readOr_8
    · intro u0 f r f' n hE
      replace hE : b_X12_readAnd F (mg_1 F d) u0 f = some (r, f') := hE
      refine Met.ofW (cc := cX12_readAnd) (maxL := 2) (ret := (some .boolean)) (by decide) rfl ?_
      intro p e s m args below meth c s₁ B hml hv
      obtain ⟨rfl, hK, hW⟩ := hv
      have hx := B.exec
      have hb := B.bytes
      have hr := B.returns
      have hts := atoms_spec (ws := wsO yX12_readAnd cX12_readAnd 2 (some .boolean)) B.pre
      have hT : ∀ w ∈ TB, w.before [rr G u0].toArray s = true := fun w hw => hts w (List.mem_cons_of_mem _ hw)
      have hown : s.vm.findClass RX12 = some m.cls := findClass_of_methodNamed B.named
      have hlocks := B.notSynchronized
      have CF : CallFix p m c cX12_readAnd 2 s [rr G u0].toArray TB RX12 := ⟨hx, hb, hml, hown, hT⟩
      have hS : va_S (WA G) s.heap s.heap [] := va_S.rf
      have hl : lv_has (lg_sl ([rr G u0]) ++ List.replicate (2 - (lg_sl ([rr G u0])).length) Slot.unset).toArray 2 [(0, rr G u0)] := by cases u0 <;> exact lv_entry _ (Nat.le_of_ble_eq_true rfl)
      rw [lg_entry_eq]
      generalize (lg_sl ([rr G u0]) ++ List.replicate (2 - (lg_sl ([rr G u0])).length) Slot.unset).toArray = ls at hl ⊢
      have hC14 : ∀ (k14 : Nat), ∀ (v0 : Option Nat) (v1 : Int32) (fa : Hp) (H : Heap) (locs : List Loc) (ls : Array Slot), m_X12_readAnd_L14 F (mg_1 F d) k14 v0 v1 fa = some (r, f') → Wd G fa n H → va_S (WA G) s.heap H locs → lv_has ls 2 [(0, rr G v0), (1, .int v1)] → W p l e (headSpec (wsO yX12_readAnd cX12_readAnd 2 (some .boolean)) { frames := (4 + (d + 1) * 1), cells := 0, slots := 0, locals := (90 + (d + 1) * 23) }).room s m [rr G u0].toArray below meth c H locs 0 0 (MQ below (Qcn G (some (.int r)) f' n) [rr G u0].toArray s 0 0 (WA G)) (F0 m 14 ls []) := by
        intro k14
        induction k14 with
        | zero => intro v0 v1 fa H locs ls hE _ _ _; cases (show (none : Option ((Int32) × Hp)) = some (r, f') from hE)
        | succ k14 ih14 =>
          intro v0 v1 fa H locs ls hE hW hS hl
          replace hE : m_X12_readAnd_b14 F (mg_1 F d) (m_X12_readAnd_L14 F (mg_1 F d) k14) v0 v1 fa = some (r, f') := hE
          refine s_aload_n hx hb dX12_readAnd_14 rfl (lv_at hl 0 rfl) ?_
          refine lv_bipush (v := (10 : Int32)) hx hb dX12_readAnd_15 (by decide) ?_
          obtain ⟨c1, hE⟩ := ck hE
          obtain ⟨x2, hx2, hE⟩ := bd hE
          refine s_callV (As := [.int (10 : Int32)]) (rest := []) CF hK hW hS (S_X12_isWord l G F hx2) c1 rfl gv_X12_202 hd_X12_isWord ⟨show 3 ≤ 4 + (d + 1) * 1 by omega, show 67 ≤ 90 + (d + 1) * 23 by omega⟩ rfl hl.1 rfl (Nat.le_of_ble_eq_true rfl) dX12_readAnd_17 ⟨Nat.le_refl _, Nat.le_refl _⟩ (fun H locs hW hS => ?_)
          refine lv_if_eq (tgt := 51) hx hb dX12_readAnd_20 (by decide) (fun q3 => ?_) (fun q3 => ?_)
          · replace hE := ite_t q3 hE
            refine s_aload_n hx hb dX12_readAnd_51 rfl (lv_at hl 0 rfl) ?_
            refine lv_iload_n hx hb dX12_readAnd_52 rfl (lv_at hl 1 rfl) ?_
            obtain ⟨f4, hf4, hE⟩ := bd hE
            refine s_putI hx hb hT u_X12 tyX12 tyX12_ok nmX12 hown hK hW hS hf4 rfl (by decide) fl_X12_355 rfl (Or.inl rfl) rfl dX12_readAnd_53 (fun H locs hW hS => ?_)
            refine lv_iconst (v := (1 : Int32)) hx hb dX12_readAnd_56 (by decide) ?_
            obtain ⟨c5, hE⟩ := ck hE
            obtain ⟨rfl, rfl⟩ := so2 hE
            exact s_zret hx hb hr c5 hlocks hW hS dX12_readAnd_57
          · replace hE := ite_f q3 hE
            refine s_aload_n hx hb dX12_readAnd_23 rfl (lv_at hl 0 rfl) ?_
            obtain ⟨c6, hE⟩ := ck hE
            obtain ⟨f7, hf7, hE⟩ := bd hE
            refine s_callV (As := []) (rest := []) CF hK hW hS (S_X12_go l G F hf7) c6 rfl gv_X12_158 hd_X12_go ⟨show 2 ≤ 4 + (d + 1) * 1 by omega, show 45 ≤ 90 + (d + 1) * 23 by omega⟩ rfl hl.1 rfl (Nat.le_of_ble_eq_true rfl) dX12_readAnd_24 ⟨Nat.le_refl _, Nat.le_refl _⟩ (fun H locs hW hS => ?_)
            refine s_aload_n hx hb dX12_readAnd_27 rfl (lv_at hl 0 rfl) ?_
            obtain ⟨c8, hE⟩ := ck hE
            obtain ⟨x9, f10, hx9, hE⟩ := bd2_of hE
            refine s_callV (As := []) (rest := []) CF hK hW hS (ihg0.2.2.1 _ _ _ _ _ hx9) c8 rfl gv_X12_362 hd_X12_readOne ⟨show (4 + d * 1) + 1 ≤ 4 + (d + 1) * 1 by omega, show 8 + (4 + 11) + (90 + d * 23) ≤ 90 + (d + 1) * 23 by omega⟩ rfl hl.1 rfl (Nat.le_of_ble_eq_true rfl) dX12_readAnd_28 ⟨Nat.le_refl _, Nat.le_refl _⟩ (fun H locs hW hS => ?_)
            refine lv_if_ne (tgt := 36) hx hb dX12_readAnd_31 (by decide) (fun q11 => ?_) (fun q11 => ?_)
            · replace hE := ite_f q11 hE
              refine s_aload_n hx hb dX12_readAnd_36 rfl (lv_at hl 0 rfl) ?_
              refine lv_iconst (v := (2 : Int32)) hx hb dX12_readAnd_37 (by decide) ?_
              refine lv_iload_n hx hb dX12_readAnd_38 rfl (lv_at hl 1 rfl) ?_
              refine s_aload_n hx hb dX12_readAnd_39 rfl (lv_at hl 0 rfl) ?_
              obtain ⟨x12, hx12, hE⟩ := bd hE
              refine s_gI hx hb hT u_X12 hown hK hW hx12 rfl (by decide) fl_X12_355 rfl dX12_readAnd_40 ?_
              refine lv_iconst (v := (0 : Int32)) hx hb dX12_readAnd_43 (by decide) ?_
              obtain ⟨c13, hE⟩ := ck hE
              obtain ⟨x14, f15, hx14, hE⟩ := bd2_of hE
              refine s_callV (As := [.int (2 : Int32), .int v1, .int x12, .int (0 : Int32)]) (rest := []) CF hK hW hS (S_X12_lays l G F hx14) c13 rfl gv_X12_358 hd_X12_lays ⟨show 1 ≤ 4 + (d + 1) * 1 by omega, show 25 ≤ 90 + (d + 1) * 23 by omega⟩ rfl hl.1 rfl (Nat.le_of_ble_eq_true rfl) dX12_readAnd_44 ⟨Nat.le_refl _, Nat.le_refl _⟩ (fun H locs hW hS => ?_)
              refine lv_istore_n (i := 1) (lv' := [(1, .int x14), (0, rr G v0)]) hx hb dX12_readAnd_47 rfl hl (by decide) (by simp [cat_rr]) (fun ls hl => ?_)
              refine lv_goto (tgt := 14) hx hb dX12_readAnd_48 (by decide) ?_
              exact ih14 _ _ _ _ _ _ hE hW hS (lv_sub hl [1, 0] rfl)
            · replace hE := ite_t q11 hE
              refine lv_iconst (v := (0 : Int32)) hx hb dX12_readAnd_34 (by decide) ?_
              obtain ⟨c16, hE⟩ := ck hE
              obtain ⟨rfl, rfl⟩ := so2 hE
              exact s_zret hx hb hr c16 hlocks hW hS dX12_readAnd_35
      refine s_aload_n hx hb dX12_readAnd_0 rfl (lv_at hl 0 rfl) ?_
      obtain ⟨c17, hE⟩ := ck hE
      obtain ⟨x18, f19, hx18, hE⟩ := bd2_of hE
      refine s_callV (As := []) (rest := []) CF hK hW hS (ihg0.2.2.1 _ _ _ _ _ hx18) c17 rfl gv_X12_362 hd_X12_readOne ⟨show (4 + d * 1) + 1 ≤ 4 + (d + 1) * 1 by omega, show 8 + (4 + 11) + (90 + d * 23) ≤ 90 + (d + 1) * 23 by omega⟩ rfl hl.1 rfl (Nat.le_of_ble_eq_true rfl) dX12_readAnd_1 ⟨Nat.le_refl _, Nat.le_refl _⟩ (fun H locs hW hS => ?_)
      refine lv_if_ne (tgt := 9) hx hb dX12_readAnd_4 (by decide) (fun q20 => ?_) (fun q20 => ?_)
      · replace hE := ite_f q20 hE
        refine s_aload_n hx hb dX12_readAnd_9 rfl (lv_at hl 0 rfl) ?_
        obtain ⟨x21, hx21, hE⟩ := bd hE
        refine s_gI hx hb hT u_X12 hown hK hW hx21 rfl (by decide) fl_X12_355 rfl dX12_readAnd_10 ?_
        refine lv_istore_n (i := 1) (lv' := [(1, .int x21), (0, rr G u0)]) hx hb dX12_readAnd_13 rfl hl (by decide) (by simp [cat_rr]) (fun ls hl => ?_)
        exact hC14 F _ _ _ _ _ _ hE hW hS (lv_sub hl [1, 0] rfl)
      · replace hE := ite_t q20 hE
        refine lv_iconst (v := (0 : Int32)) hx hb dX12_readAnd_7 (by decide) ?_
        obtain ⟨c22, hE⟩ := ck hE
        obtain ⟨rfl, rfl⟩ := so2 hE
        exact s_zret hx hb hr c22 hlocks hW hS dX12_readAnd_8
    · intro u0 f r f' n hE
      replace hE : b_X12_readOne F (mg_1 F d) u0 f = some (r, f') := hE
      refine Met.ofW (cc := cX12_readOne) (maxL := 4) (ret := (some .boolean)) (by decide) rfl ?_
      intro p e s m args below meth c s₁ B hml hv
      obtain ⟨rfl, hK, hW⟩ := hv
      have hx := B.exec
      have hb := B.bytes
      have hr := B.returns
      have hts := atoms_spec (ws := wsO yX12_readOne cX12_readOne 4 (some .boolean)) B.pre
      have hT : ∀ w ∈ TB, w.before [rr G u0].toArray s = true := fun w hw => hts w (List.mem_cons_of_mem _ hw)
      have hown : s.vm.findClass RX12 = some m.cls := findClass_of_methodNamed B.named
      have hlocks := B.notSynchronized
      have CF : CallFix p m c cX12_readOne 4 s [rr G u0].toArray TB RX12 := ⟨hx, hb, hml, hown, hT⟩
      have hS : va_S (WA G) s.heap s.heap [] := va_S.rf
      have hl : lv_has (lg_sl ([rr G u0]) ++ List.replicate (4 - (lg_sl ([rr G u0])).length) Slot.unset).toArray 4 [(0, rr G u0)] := by cases u0 <;> exact lv_entry _ (Nat.le_of_ble_eq_true rfl)
      rw [lg_entry_eq]
      generalize (lg_sl ([rr G u0]) ++ List.replicate (4 - (lg_sl ([rr G u0])).length) Slot.unset).toArray = ls at hl ⊢
      have hC173 : ∀ (v0 : Option Nat) (v3 : Int32) (fa : Hp) (H : Heap) (locs : List Loc) (ls : Array Slot), m_X12_readOne_B173 F (mg_1 F d) v0 v3 fa = some (r, f') → Wd G fa n H → va_S (WA G) s.heap H locs → lv_has ls 4 [(0, rr G v0), (3, .int v3)] → W p l e (headSpec (wsO yX12_readOne cX12_readOne 4 (some .boolean)) { frames := (4 + (d + 1) * 1), cells := 0, slots := 0, locals := (90 + (d + 1) * 23) }).room s m [rr G u0].toArray below meth c H locs 0 0 (MQ below (Qcn G (some (.int r)) f' n) [rr G u0].toArray s 0 0 (WA G)) (F0 m 173 ls []) := by
        intro v0 v3 fa H locs ls hE hW hS hl
        refine s_aload_n hx hb dX12_readOne_173 rfl (lv_at hl 0 rfl) ?_
        refine lv_dup hx hb dX12_readOne_174 (cat_rr G _) ?_
        obtain ⟨x51, hx51, hE⟩ := bd hE
        refine s_gI hx hb hT u_X12 hown hK hW hx51 rfl (by decide) fl_X12_368 rfl dX12_readOne_175 ?_
        refine lv_iconst (v := (1 : Int32)) hx hb dX12_readOne_178 (by decide) ?_
        refine lv_isub hx hb dX12_readOne_179 ?_
        obtain ⟨f52, hf52, hE⟩ := bd hE
        refine s_putI hx hb hT u_X12 tyX12 tyX12_ok nmX12 hown hK hW hS hf52 rfl (by decide) fl_X12_368 rfl (Or.inl rfl) rfl dX12_readOne_180 (fun H locs hW hS => ?_)
        refine lv_iload_n hx hb dX12_readOne_183 rfl (lv_at hl 1 rfl) ?_
        obtain ⟨c53, hE⟩ := ck hE
        obtain ⟨rfl, rfl⟩ := so2 hE
        exact s_zret hx hb hr c53 hlocks hW hS dX12_readOne_184
      have hC141 : ∀ (v0 : Option Nat) (v3 : Int32) (s0 : Option Nat) (s1 : Option Nat) (s2 : Int32) (fa : Hp) (H : Heap) (locs : List Loc) (ls : Array Slot), m_X12_readOne_B141 F (mg_1 F d) v0 v3 s0 s1 s2 fa = some (r, f') → Wd G fa n H → va_S (WA G) s.heap H locs → lv_has ls 4 [(0, rr G v0), (3, .int v3)] → W p l e (headSpec (wsO yX12_readOne cX12_readOne 4 (some .boolean)) { frames := (4 + (d + 1) * 1), cells := 0, slots := 0, locals := (90 + (d + 1) * 23) }).room s m [rr G u0].toArray below meth c H locs 0 0 (MQ below (Qcn G (some (.int r)) f' n) [rr G u0].toArray s 0 0 (WA G)) (F0 m 141 ls [.int s2, rr G s1, rr G s0]) := by
        intro v0 v3 s0 s1 s2 fa H locs ls hE hW hS hl
        refine lv_iconst (v := (0 : Int32)) hx hb dX12_readOne_141 (by decide) ?_
        refine lv_iconst (v := (0 : Int32)) hx hb dX12_readOne_142 (by decide) ?_
        refine lv_iconst (v := (0 : Int32)) hx hb dX12_readOne_143 (by decide) ?_
        obtain ⟨c47, hE⟩ := ck hE
        obtain ⟨x48, f49, hx48, hE⟩ := bd2_of hE
        refine s_callV (As := [.int s2, .int (0 : Int32), .int (0 : Int32), .int (0 : Int32)]) (rest := [rr G s0]) CF hK hW hS (S_X12_lays l G F hx48) c47 rfl gv_X12_358 hd_X12_lays ⟨show 1 ≤ 4 + (d + 1) * 1 by omega, show 25 ≤ 90 + (d + 1) * 23 by omega⟩ rfl hl.1 rfl (Nat.le_of_ble_eq_true rfl) dX12_readOne_144 ⟨Nat.le_refl _, Nat.le_refl _⟩ (fun H locs hW hS => ?_)
        obtain ⟨f50, hf50, hE⟩ := bd hE
        refine s_putI hx hb hT u_X12 tyX12 tyX12_ok nmX12 hown hK hW hS hf50 rfl (by decide) fl_X12_355 rfl (Or.inl rfl) rfl dX12_readOne_147 (fun H locs hW hS => ?_)
        refine lv_goto (tgt := 173) hx hb dX12_readOne_150 (by decide) ?_
        exact hC173 _ _ _ _ _ _ hE hW hS (lv_sub hl [0, 1] rfl)
      have hC172 : ∀ (v0 : Option Nat) (s0 : Int32) (fa : Hp) (H : Heap) (locs : List Loc) (ls : Array Slot), m_X12_readOne_B172 F (mg_1 F d) v0 s0 fa = some (r, f') → Wd G fa n H → va_S (WA G) s.heap H locs → lv_has ls 4 [(0, rr G v0)] → W p l e (headSpec (wsO yX12_readOne cX12_readOne 4 (some .boolean)) { frames := (4 + (d + 1) * 1), cells := 0, slots := 0, locals := (90 + (d + 1) * 23) }).room s m [rr G u0].toArray below meth c H locs 0 0 (MQ below (Qcn G (some (.int r)) f' n) [rr G u0].toArray s 0 0 (WA G)) (F0 m 172 ls [.int s0]) := by
        intro v0 s0 fa H locs ls hE hW hS hl
        refine lv_istore_n (i := 3) (lv' := [(3, .int s0), (0, rr G v0)]) hx hb dX12_readOne_172 rfl hl (by decide) rfl (fun ls hl => ?_)
        exact hC173 _ _ _ _ _ _ hE hW hS (lv_sub hl [1, 0] rfl)
      have hC46 : ∀ (v0 : Option Nat) (v1 : Int32) (v2 : Int32) (fa : Hp) (H : Heap) (locs : List Loc) (ls : Array Slot), m_X12_readOne_B46 F (mg_1 F d) v0 v1 v2 fa = some (r, f') → Wd G fa n H → va_S (WA G) s.heap H locs → lv_has ls 4 [(0, rr G v0), (1, .int v1), (2, .int v2)] → W p l e (headSpec (wsO yX12_readOne cX12_readOne 4 (some .boolean)) { frames := (4 + (d + 1) * 1), cells := 0, slots := 0, locals := (90 + (d + 1) * 23) }).room s m [rr G u0].toArray below meth c H locs 0 0 (MQ below (Qcn G (some (.int r)) f' n) [rr G u0].toArray s 0 0 (WA G)) (F0 m 46 ls []) := by
        intro v0 v1 v2 fa H locs ls hE hW hS hl
        refine s_aload_n hx hb dX12_readOne_46 rfl (lv_at hl 0 rfl) ?_
        obtain ⟨x12, hx12, hE⟩ := bd hE
        refine s_gI hx hb hT u_X12 hown hK hW hx12 rfl (by decide) fl_X12_365 rfl dX12_readOne_47 ?_
        refine lv_bipush (v := (20 : Int32)) hx hb dX12_readOne_50 (by decide) ?_
        refine lv_icmp_eq (tgt := 64) hx hb dX12_readOne_52 (by decide) (fun q13 => ?_) (fun q13 => ?_)
        · replace hE := ite_t q13 hE
          refine s_aload_n hx hb dX12_readOne_64 rfl (lv_at hl 0 rfl) ?_
          refine lv_iconst (v := (4 : Int32)) hx hb dX12_readOne_65 (by decide) ?_
          obtain ⟨c14, hE⟩ := ck hE
          obtain ⟨x15, f16, hx15, hE⟩ := bd2_of hE
          refine s_callV (As := [.int (4 : Int32)]) (rest := []) CF hK hW hS (S_X12_bad l G F hx15) c14 rfl gv_X12_148 hd_X12_bad ⟨show 1 ≤ 4 + (d + 1) * 1 by omega, show 21 ≤ 90 + (d + 1) * 23 by omega⟩ rfl hl.1 rfl (Nat.le_of_ble_eq_true rfl) dX12_readOne_66 ⟨Nat.le_refl _, Nat.le_refl _⟩ (fun H locs hW hS => ?_)
          obtain ⟨c17, hE⟩ := ck hE
          obtain ⟨rfl, rfl⟩ := so2 hE
          exact s_zret hx hb hr c17 hlocks hW hS dX12_readOne_69
        · replace hE := ite_f q13 hE
          refine s_aload_n hx hb dX12_readOne_55 rfl (lv_at hl 0 rfl) ?_
          obtain ⟨x18, hx18, hE⟩ := bd hE
          refine s_gI hx hb hT u_X12 hown hK hW hx18 rfl (by decide) fl_X12_368 rfl dX12_readOne_56 ?_
          refine lv_bipush (v := (8 : Int32)) hx hb dX12_readOne_59 (by decide) ?_
          refine lv_icmp_ne (tgt := 70) hx hb dX12_readOne_61 (by decide) (fun q19 => ?_) (fun q19 => ?_)
          · replace hE := ite_f q19 hE
            refine s_aload_n hx hb dX12_readOne_70 rfl (lv_at hl 0 rfl) ?_
            refine lv_dup hx hb dX12_readOne_71 (cat_rr G _) ?_
            obtain ⟨x20, hx20, hE⟩ := bd hE
            refine s_gI hx hb hT u_X12 hown hK hW hx20 rfl (by decide) fl_X12_365 rfl dX12_readOne_72 ?_
            refine lv_iconst (v := (1 : Int32)) hx hb dX12_readOne_75 (by decide) ?_
            refine lv_iadd hx hb dX12_readOne_76 ?_
            obtain ⟨f21, hf21, hE⟩ := bd hE
            refine s_putI hx hb hT u_X12 tyX12 tyX12_ok nmX12 hown hK hW hS hf21 rfl (by decide) fl_X12_365 rfl (Or.inl rfl) rfl dX12_readOne_77 (fun H locs hW hS => ?_)
            refine s_aload_n hx hb dX12_readOne_80 rfl (lv_at hl 0 rfl) ?_
            refine lv_dup hx hb dX12_readOne_81 (cat_rr G _) ?_
            obtain ⟨x22, hx22, hE⟩ := bd hE
            refine s_gI hx hb hT u_X12 hown hK hW hx22 rfl (by decide) fl_X12_368 rfl dX12_readOne_82 ?_
            refine lv_iconst (v := (1 : Int32)) hx hb dX12_readOne_85 (by decide) ?_
            refine lv_iadd hx hb dX12_readOne_86 ?_
            obtain ⟨f23, hf23, hE⟩ := bd hE
            refine s_putI hx hb hT u_X12 tyX12 tyX12_ok nmX12 hown hK hW hS hf23 rfl (by decide) fl_X12_368 rfl (Or.inl rfl) rfl dX12_readOne_87 (fun H locs hW hS => ?_)
            refine s_aload_n hx hb dX12_readOne_90 rfl (lv_at hl 0 rfl) ?_
            obtain ⟨c24, hE⟩ := ck hE
            obtain ⟨f25, hf25, hE⟩ := bd hE
            refine s_callV (As := []) (rest := []) CF hK hW hS (S_X12_go l G F hf25) c24 rfl gv_X12_158 hd_X12_go ⟨show 2 ≤ 4 + (d + 1) * 1 by omega, show 45 ≤ 90 + (d + 1) * 23 by omega⟩ rfl hl.1 rfl (Nat.le_of_ble_eq_true rfl) dX12_readOne_91 ⟨Nat.le_refl _, Nat.le_refl _⟩ (fun H locs hW hS => ?_)
            refine lv_iconst (v := (1 : Int32)) hx hb dX12_readOne_94 (by decide) ?_
            refine lv_istore_n (i := 3) (lv' := [(3, .int (1 : Int32)), (0, rr G v0), (1, .int v1), (2, .int v2)]) hx hb dX12_readOne_95 rfl hl (by decide) rfl (fun ls hl => ?_)
            refine lv_iload_n hx hb dX12_readOne_96 rfl (lv_at hl 2 rfl) ?_
            refine lv_if_eq (tgt := 108) hx hb dX12_readOne_97 (by decide) (fun q26 => ?_) (fun q26 => ?_)
            · replace hE := ite_t q26 hE
              refine lv_iload_n hx hb dX12_readOne_108 rfl (lv_at hl 3 rfl) ?_
              refine lv_bipush (v := (11 : Int32)) hx hb dX12_readOne_109 (by decide) ?_
              refine lv_icmp_ne (tgt := 122) hx hb dX12_readOne_111 (by decide) (fun q27 => ?_) (fun q27 => ?_)
              · replace hE := ite_f q27 hE
                refine lv_iload_n hx hb dX12_readOne_122 rfl (lv_at hl 3 rfl) ?_
                refine lv_bipush (v := (13 : Int32)) hx hb dX12_readOne_123 (by decide) ?_
                refine lv_icmp_gt (tgt := 153) hx hb dX12_readOne_125 (by decide) (fun q28 => ?_) (fun q28 => ?_)
                · replace hE := ite_t q28 hE
                  refine lv_iload_n hx hb dX12_readOne_153 rfl (lv_at hl 3 rfl) ?_
                  refine lv_bipush (v := (15 : Int32)) hx hb dX12_readOne_154 (by decide) ?_
                  refine lv_icmp_gt (tgt := 167) hx hb dX12_readOne_156 (by decide) (fun q29 => ?_) (fun q29 => ?_)
                  · replace hE := ite_t q29 hE
                    refine s_aload_n hx hb dX12_readOne_167 rfl (lv_at hl 1 rfl) ?_
                    refine lv_iload_n hx hb dX12_readOne_168 rfl (lv_at hl 3 rfl) ?_
                    obtain ⟨c30, hE⟩ := ck hE
                    obtain ⟨x31, f32, hx31, hE⟩ := bd2_of hE
                    refine s_callV (As := [.int v2]) (rest := []) CF hK hW hS (S_X12_readCompare l G F hx31) c30 rfl gv_X12_380 hd_X12_readCompare ⟨show 4 ≤ 4 + (d + 1) * 1 by omega, show 90 ≤ 90 + (d + 1) * 23 by omega⟩ rfl hl.1 rfl (Nat.le_of_ble_eq_true rfl) dX12_readOne_169 ⟨Nat.le_refl _, Nat.le_refl _⟩ (fun H locs hW hS => ?_)
                    exact hC172 _ _ _ _ _ _ hE hW hS (lv_sub hl [1] rfl)
                  · replace hE := ite_f q29 hE
                    refine s_aload_n hx hb dX12_readOne_159 rfl (lv_at hl 1 rfl) ?_
                    refine lv_iload_n hx hb dX12_readOne_160 rfl (lv_at hl 3 rfl) ?_
                    obtain ⟨c33, hE⟩ := ck hE
                    obtain ⟨x34, f35, hx34, hE⟩ := bd2_of hE
                    refine s_callV (As := [.int v2]) (rest := []) CF hK hW hS (S_X12_readLetters l G F hx34) c33 rfl gv_X12_377 hd_X12_readLetters ⟨show 3 ≤ 4 + (d + 1) * 1 by omega, show 67 ≤ 90 + (d + 1) * 23 by omega⟩ rfl hl.1 rfl (Nat.le_of_ble_eq_true rfl) dX12_readOne_161 ⟨Nat.le_refl _, Nat.le_refl _⟩ (fun H locs hW hS => ?_)
                    refine lv_goto (tgt := 172) hx hb dX12_readOne_164 (by decide) ?_
                    exact hC172 _ _ _ _ _ _ hE hW hS (lv_sub hl [1] rfl)
                · replace hE := ite_f q28 hE
                  refine s_aload_n hx hb dX12_readOne_128 rfl (lv_at hl 1 rfl) ?_
                  refine s_aload_n hx hb dX12_readOne_129 rfl (lv_at hl 1 rfl) ?_
                  refine lv_iload_n hx hb dX12_readOne_130 rfl (lv_at hl 3 rfl) ?_
                  refine lv_bipush (v := (12 : Int32)) hx hb dX12_readOne_131 (by decide) ?_
                  refine lv_icmp_ne (tgt := 140) hx hb dX12_readOne_133 (by decide) (fun q36 => ?_) (fun q36 => ?_)
                  · replace hE := ite_f q36 hE
                    refine lv_iconst (v := (5 : Int32)) hx hb dX12_readOne_140 (by decide) ?_
                    exact hC141 _ _ _ _ _ _ _ _ _ hE hW hS (lv_sub hl [1, 0] rfl)
                  · replace hE := ite_t q36 hE
                    refine lv_iconst (v := (4 : Int32)) hx hb dX12_readOne_136 (by decide) ?_
                    refine lv_goto (tgt := 141) hx hb dX12_readOne_137 (by decide) ?_
                    exact hC141 _ _ _ _ _ _ _ _ _ hE hW hS (lv_sub hl [1, 0] rfl)
              · replace hE := ite_t q27 hE
                refine s_aload_n hx hb dX12_readOne_114 rfl (lv_at hl 1 rfl) ?_
                obtain ⟨c37, hE⟩ := ck hE
                obtain ⟨x38, f39, hx38, hE⟩ := bd2_of hE
                refine s_callV (As := []) (rest := []) CF hK hW hS (ihg0.2.2.2.1 _ _ _ _ _ hx38) c37 rfl gv_X12_374 hd_X12_readNot ⟨show (4 + d * 1) + 1 ≤ 4 + (d + 1) * 1 by omega, show 8 + (1 + 11) + (90 + d * 23) ≤ 90 + (d + 1) * 23 by omega⟩ rfl hl.1 rfl (Nat.le_of_ble_eq_true rfl) dX12_readOne_115 ⟨Nat.le_refl _, Nat.le_refl _⟩ (fun H locs hW hS => ?_)
                refine lv_istore_n (i := 3) (lv' := [(3, .int x38), (0, rr G v0), (1, .int v1), (2, .int v2)]) hx hb dX12_readOne_118 rfl hl (by decide) rfl (fun ls hl => ?_)
                refine lv_goto (tgt := 173) hx hb dX12_readOne_119 (by decide) ?_
                exact hC173 _ _ _ _ _ _ hE hW hS (lv_sub hl [1, 0] rfl)
            · replace hE := ite_f q26 hE
              refine s_aload_n hx hb dX12_readOne_100 rfl (lv_at hl 1 rfl) ?_
              obtain ⟨c40, hE⟩ := ck hE
              obtain ⟨x41, f42, hx41, hE⟩ := bd2_of hE
              refine s_callV (As := []) (rest := []) CF hK hW hS (ihg0.2.2.2.2 _ _ _ _ _ hx41) c40 rfl gv_X12_371 hd_X12_readBracket ⟨show (4 + d * 1) + 1 ≤ 4 + (d + 1) * 1 by omega, show 8 + (1 + 11) + (90 + d * 23) ≤ 90 + (d + 1) * 23 by omega⟩ rfl hl.1 rfl (Nat.le_of_ble_eq_true rfl) dX12_readOne_101 ⟨Nat.le_refl _, Nat.le_refl _⟩ (fun H locs hW hS => ?_)
              refine lv_istore_n (i := 3) (lv' := [(3, .int x41), (0, rr G v0), (1, .int v1), (2, .int v2)]) hx hb dX12_readOne_104 rfl hl (by decide) rfl (fun ls hl => ?_)
              refine lv_goto (tgt := 173) hx hb dX12_readOne_105 (by decide) ?_
              exact hC173 _ _ _ _ _ _ hE hW hS (lv_sub hl [1, 0] rfl)
          · replace hE := ite_t q19 hE
            refine s_aload_n hx hb dX12_readOne_64 rfl (lv_at hl 0 rfl) ?_
            refine lv_iconst (v := (4 : Int32)) hx hb dX12_readOne_65 (by decide) ?_
            obtain ⟨c43, hE⟩ := ck hE
            obtain ⟨x44, f45, hx44, hE⟩ := bd2_of hE
            refine s_callV (As := [.int (4 : Int32)]) (rest := []) CF hK hW hS (S_X12_bad l G F hx44) c43 rfl gv_X12_148 hd_X12_bad ⟨show 1 ≤ 4 + (d + 1) * 1 by omega, show 21 ≤ 90 + (d + 1) * 23 by omega⟩ rfl hl.1 rfl (Nat.le_of_ble_eq_true rfl) dX12_readOne_66 ⟨Nat.le_refl _, Nat.le_refl _⟩ (fun H locs hW hS => ?_)
            obtain ⟨c46, hE⟩ := ck hE
            obtain ⟨rfl, rfl⟩ := so2 hE
            exact s_zret hx hb hr c46 hlocks hW hS dX12_readOne_69
      have hC30 : ∀ (v0 : Option Nat) (v1 : Int32) (v2 : Int32) (fa : Hp) (H : Heap) (locs : List Loc) (ls : Array Slot), m_X12_readOne_B30 F (mg_1 F d) v0 v1 v2 fa = some (r, f') → Wd G fa n H → va_S (WA G) s.heap H locs → lv_has ls 4 [(0, rr G v0), (1, .int v1), (2, .int v2)] → W p l e (headSpec (wsO yX12_readOne cX12_readOne 4 (some .boolean)) { frames := (4 + (d + 1) * 1), cells := 0, slots := 0, locals := (90 + (d + 1) * 23) }).room s m [rr G u0].toArray below meth c H locs 0 0 (MQ below (Qcn G (some (.int r)) f' n) [rr G u0].toArray s 0 0 (WA G)) (F0 m 30 ls []) := by
        intro v0 v1 v2 fa H locs ls hE hW hS hl
        refine lv_iload_n hx hb dX12_readOne_30 rfl (lv_at hl 1 rfl) ?_
        refine lv_if_ne (tgt := 46) hx hb dX12_readOne_31 (by decide) (fun q6 => ?_) (fun q6 => ?_)
        · replace hE := ite_f q6 hE
          exact hC46 _ _ _ _ _ _ _ hE hW hS (lv_sub hl [0, 1, 2] rfl)
        · replace hE := ite_t q6 hE
          refine lv_iload_n hx hb dX12_readOne_34 rfl (lv_at hl 2 rfl) ?_
          refine lv_bipush (v := (19 : Int32)) hx hb dX12_readOne_35 (by decide) ?_
          refine lv_icmp_le (tgt := 46) hx hb dX12_readOne_37 (by decide) (fun q7 => ?_) (fun q7 => ?_)
          · replace hE := ite_t q7 hE
            exact hC46 _ _ _ _ _ _ _ hE hW hS (lv_sub hl [0, 1, 2] rfl)
          · replace hE := ite_f q7 hE
            refine s_aload_n hx hb dX12_readOne_40 rfl (lv_at hl 0 rfl) ?_
            refine lv_iconst (v := (1 : Int32)) hx hb dX12_readOne_41 (by decide) ?_
            obtain ⟨c8, hE⟩ := ck hE
            obtain ⟨x9, f10, hx9, hE⟩ := bd2_of hE
            refine s_callV (As := [.int (1 : Int32)]) (rest := []) CF hK hW hS (S_X12_bad l G F hx9) c8 rfl gv_X12_148 hd_X12_bad ⟨show 1 ≤ 4 + (d + 1) * 1 by omega, show 21 ≤ 90 + (d + 1) * 23 by omega⟩ rfl hl.1 rfl (Nat.le_of_ble_eq_true rfl) dX12_readOne_42 ⟨Nat.le_refl _, Nat.le_refl _⟩ (fun H locs hW hS => ?_)
            obtain ⟨c11, hE⟩ := ck hE
            obtain ⟨rfl, rfl⟩ := so2 hE
            exact s_zret hx hb hr c11 hlocks hW hS dX12_readOne_45
      have hC10 : ∀ (k10 : Nat), ∀ (v0 : Option Nat) (v1 : Int32) (v2 : Int32) (fa : Hp) (H : Heap) (locs : List Loc) (ls : Array Slot), m_X12_readOne_L10 F (mg_1 F d) k10 v0 v1 v2 fa = some (r, f') → Wd G fa n H → va_S (WA G) s.heap H locs → lv_has ls 4 [(0, rr G v0), (1, .int v1), (2, .int v2)] → W p l e (headSpec (wsO yX12_readOne cX12_readOne 4 (some .boolean)) { frames := (4 + (d + 1) * 1), cells := 0, slots := 0, locals := (90 + (d + 1) * 23) }).room s m [rr G u0].toArray below meth c H locs 0 0 (MQ below (Qcn G (some (.int r)) f' n) [rr G u0].toArray s 0 0 (WA G)) (F0 m 10 ls []) := by
        intro k10
        induction k10 with
        | zero => intro v0 v1 v2 fa H locs ls hE _ _ _; cases (show (none : Option ((Int32) × Hp)) = some (r, f') from hE)
        | succ k10 ih10 =>
          intro v0 v1 v2 fa H locs ls hE hW hS hl
          replace hE : m_X12_readOne_b10 F (mg_1 F d) (m_X12_readOne_L10 F (mg_1 F d) k10) v0 v1 v2 fa = some (r, f') := hE
          refine lv_iload_n hx hb dX12_readOne_10 rfl (lv_at hl 2 rfl) ?_
          refine lv_bipush (v := (19 : Int32)) hx hb dX12_readOne_11 (by decide) ?_
          refine lv_icmp_gt (tgt := 30) hx hb dX12_readOne_13 (by decide) (fun q1 => ?_) (fun q1 => ?_)
          · replace hE := ite_t q1 hE
            exact hC30 _ _ _ _ _ _ _ hE hW hS (lv_sub hl [0, 1, 2] rfl)
          · replace hE := ite_f q1 hE
            refine s_aload_n hx hb dX12_readOne_16 rfl (lv_at hl 0 rfl) ?_
            refine lv_iload_n hx hb dX12_readOne_17 rfl (lv_at hl 2 rfl) ?_
            obtain ⟨c2, hE⟩ := ck hE
            obtain ⟨x3, hx3, hE⟩ := bd hE
            refine s_callV (As := [.int v2]) (rest := []) CF hK hW hS (S_X12_isWord l G F hx3) c2 rfl gv_X12_202 hd_X12_isWord ⟨show 3 ≤ 4 + (d + 1) * 1 by omega, show 67 ≤ 90 + (d + 1) * 23 by omega⟩ rfl hl.1 rfl (Nat.le_of_ble_eq_true rfl) dX12_readOne_18 ⟨Nat.le_refl _, Nat.le_refl _⟩ (fun H locs hW hS => ?_)
            refine lv_if_ne (tgt := 30) hx hb dX12_readOne_21 (by decide) (fun q4 => ?_) (fun q4 => ?_)
            · replace hE := ite_f q4 hE
              exact hC30 _ _ _ _ _ _ _ hE hW hS (lv_sub hl [0, 1, 2] rfl)
            · replace hE := ite_t q4 hE
              obtain ⟨y5, ey5⟩ : ∃ y : Int32, y = v2 + (1 : Int32) := ⟨_, rfl⟩
              replace hE := nm_o ey5 hE
              refine lv_iinc (k := 2) (v := y5) (lv' := [(2, .int y5), (0, rr G v0), (1, .int v1)]) hx hb dX12_readOne_24 hl rfl (by rw [ey5]; rfl) (by decide) rfl (fun ls hl => ?_)
              refine lv_goto (tgt := 10) hx hb dX12_readOne_27 (by decide) ?_
              exact ih10 _ _ _ _ _ _ _ hE hW hS (lv_sub hl [1, 2, 0] rfl)
      refine s_aload_n hx hb dX12_readOne_0 rfl (lv_at hl 0 rfl) ?_
      refine lv_bipush (v := (40 : Int32)) hx hb dX12_readOne_1 (by decide) ?_
      obtain ⟨c54, hE⟩ := ck hE
      obtain ⟨x55, hx55, hE⟩ := bd hE
      refine s_callV (As := [.int (40 : Int32)]) (rest := []) CF hK hW hS (S_X12_isSign l G F hx55) c54 rfl gv_X12_161 hd_X12_isSign ⟨show 1 ≤ 4 + (d + 1) * 1 by omega, show 21 ≤ 90 + (d + 1) * 23 by omega⟩ rfl hl.1 rfl (Nat.le_of_ble_eq_true rfl) dX12_readOne_3 ⟨Nat.le_refl _, Nat.le_refl _⟩ (fun H locs hW hS => ?_)
      refine lv_istore_n (i := 1) (lv' := [(1, .int x55), (0, rr G u0)]) hx hb dX12_readOne_6 rfl hl (by decide) (by simp [cat_rr]) (fun ls hl => ?_)
      refine lv_bipush (v := (11 : Int32)) hx hb dX12_readOne_7 (by decide) ?_
      refine lv_istore_n (i := 2) (lv' := [(2, .int (11 : Int32)), (1, .int x55), (0, rr G u0)]) hx hb dX12_readOne_9 rfl hl (by decide) rfl (fun ls hl => ?_)
      exact hC10 F _ _ _ _ _ _ _ hE hW hS (lv_sub hl [2, 1, 0] rfl)
    · intro u0 f r f' n hE
      replace hE : b_X12_readNot F (mg_1 F d) u0 f = some (r, f') := hE
      refine Met.ofW (cc := cX12_readNot) (maxL := 1) (ret := (some .boolean)) (by decide) rfl ?_
      intro p e s m args below meth c s₁ B hml hv
      obtain ⟨rfl, hK, hW⟩ := hv
      have hx := B.exec
      have hb := B.bytes
      have hr := B.returns
      have hts := atoms_spec (ws := wsO yX12_readNot cX12_readNot 1 (some .boolean)) B.pre
      have hT : ∀ w ∈ TB, w.before [rr G u0].toArray s = true := fun w hw => hts w (List.mem_cons_of_mem _ hw)
      have hown : s.vm.findClass RX12 = some m.cls := findClass_of_methodNamed B.named
      have hlocks := B.notSynchronized
      have CF : CallFix p m c cX12_readNot 1 s [rr G u0].toArray TB RX12 := ⟨hx, hb, hml, hown, hT⟩
      have hS : va_S (WA G) s.heap s.heap [] := va_S.rf
      have hl : lv_has (lg_sl ([rr G u0]) ++ List.replicate (1 - (lg_sl ([rr G u0])).length) Slot.unset).toArray 1 [(0, rr G u0)] := by cases u0 <;> exact lv_entry _ (Nat.le_of_ble_eq_true rfl)
      rw [lg_entry_eq]
      generalize (lg_sl ([rr G u0]) ++ List.replicate (1 - (lg_sl ([rr G u0])).length) Slot.unset).toArray = ls at hl ⊢
      refine s_aload_n hx hb dX12_readNot_0 rfl (lv_at hl 0 rfl) ?_
      obtain ⟨c1, hE⟩ := ck hE
      obtain ⟨x2, f3, hx2, hE⟩ := bd2_of hE
      refine s_callV (As := []) (rest := []) CF hK hW hS (ihg0.2.2.1 _ _ _ _ _ hx2) c1 rfl gv_X12_362 hd_X12_readOne ⟨show (4 + d * 1) + 1 ≤ 4 + (d + 1) * 1 by omega, show 8 + (4 + 11) + (90 + d * 23) ≤ 90 + (d + 1) * 23 by omega⟩ rfl hl.1 rfl (Nat.le_of_ble_eq_true rfl) dX12_readNot_1 ⟨Nat.le_refl _, Nat.le_refl _⟩ (fun H locs hW hS => ?_)
      refine lv_if_ne (tgt := 9) hx hb dX12_readNot_4 (by decide) (fun q4 => ?_) (fun q4 => ?_)
      · replace hE := ite_f q4 hE
        refine s_aload_n hx hb dX12_readNot_9 rfl (lv_at hl 0 rfl) ?_
        refine s_aload_n hx hb dX12_readNot_10 rfl (lv_at hl 0 rfl) ?_
        refine lv_iconst (v := (1 : Int32)) hx hb dX12_readNot_11 (by decide) ?_
        refine s_aload_n hx hb dX12_readNot_12 rfl (lv_at hl 0 rfl) ?_
        obtain ⟨x5, hx5, hE⟩ := bd hE
        refine s_gI hx hb hT u_X12 hown hK hW hx5 rfl (by decide) fl_X12_355 rfl dX12_readNot_13 ?_
        refine lv_iconst (v := (0 : Int32)) hx hb dX12_readNot_16 (by decide) ?_
        refine lv_iconst (v := (0 : Int32)) hx hb dX12_readNot_17 (by decide) ?_
        obtain ⟨c6, hE⟩ := ck hE
        obtain ⟨x7, f8, hx7, hE⟩ := bd2_of hE
        refine s_callV (As := [.int (1 : Int32), .int x5, .int (0 : Int32), .int (0 : Int32)]) (rest := [rr G u0]) CF hK hW hS (S_X12_lays l G F hx7) c6 rfl gv_X12_358 hd_X12_lays ⟨show 1 ≤ 4 + (d + 1) * 1 by omega, show 25 ≤ 90 + (d + 1) * 23 by omega⟩ rfl hl.1 rfl (Nat.le_of_ble_eq_true rfl) dX12_readNot_18 ⟨Nat.le_refl _, Nat.le_refl _⟩ (fun H locs hW hS => ?_)
        obtain ⟨f9, hf9, hE⟩ := bd hE
        refine s_putI hx hb hT u_X12 tyX12 tyX12_ok nmX12 hown hK hW hS hf9 rfl (by decide) fl_X12_355 rfl (Or.inl rfl) rfl dX12_readNot_21 (fun H locs hW hS => ?_)
        refine lv_iconst (v := (1 : Int32)) hx hb dX12_readNot_24 (by decide) ?_
        obtain ⟨c10, hE⟩ := ck hE
        obtain ⟨rfl, rfl⟩ := so2 hE
        exact s_zret hx hb hr c10 hlocks hW hS dX12_readNot_25
      · replace hE := ite_t q4 hE
        refine lv_iconst (v := (0 : Int32)) hx hb dX12_readNot_7 (by decide) ?_
        obtain ⟨c11, hE⟩ := ck hE
        obtain ⟨rfl, rfl⟩ := so2 hE
        exact s_zret hx hb hr c11 hlocks hW hS dX12_readNot_8
    · intro u0 f r f' n hE
      replace hE : b_X12_readBracket F (mg_1 F d) u0 f = some (r, f') := hE
      refine Met.ofW (cc := cX12_readBracket) (maxL := 1) (ret := (some .boolean)) (by decide) rfl ?_
      intro p e s m args below meth c s₁ B hml hv
      obtain ⟨rfl, hK, hW⟩ := hv
      have hx := B.exec
      have hb := B.bytes
      have hr := B.returns
      have hts := atoms_spec (ws := wsO yX12_readBracket cX12_readBracket 1 (some .boolean)) B.pre
      have hT : ∀ w ∈ TB, w.before [rr G u0].toArray s = true := fun w hw => hts w (List.mem_cons_of_mem _ hw)
      have hown : s.vm.findClass RX12 = some m.cls := findClass_of_methodNamed B.named
      have hlocks := B.notSynchronized
      have CF : CallFix p m c cX12_readBracket 1 s [rr G u0].toArray TB RX12 := ⟨hx, hb, hml, hown, hT⟩
      have hS : va_S (WA G) s.heap s.heap [] := va_S.rf
      have hl : lv_has (lg_sl ([rr G u0]) ++ List.replicate (1 - (lg_sl ([rr G u0])).length) Slot.unset).toArray 1 [(0, rr G u0)] := by cases u0 <;> exact lv_entry _ (Nat.le_of_ble_eq_true rfl)
      rw [lg_entry_eq]
      generalize (lg_sl ([rr G u0]) ++ List.replicate (1 - (lg_sl ([rr G u0])).length) Slot.unset).toArray = ls at hl ⊢
      refine s_aload_n hx hb dX12_readBracket_0 rfl (lv_at hl 0 rfl) ?_
      obtain ⟨c1, hE⟩ := ck hE
      obtain ⟨x2, f3, hx2, hE⟩ := bd2_of hE
      refine s_callV (As := []) (rest := []) CF hK hW hS (ihg0.1 _ _ _ _ _ hx2) c1 rfl gv_X12_383 hd_X12_readOr ⟨show (4 + d * 1) + 1 ≤ 4 + (d + 1) * 1 by omega, show 8 + (2 + 11) + (90 + d * 23) ≤ 90 + (d + 1) * 23 by omega⟩ rfl hl.1 rfl (Nat.le_of_ble_eq_true rfl) dX12_readBracket_1 ⟨Nat.le_refl _, Nat.le_refl _⟩ (fun H locs hW hS => ?_)
      refine lv_if_ne (tgt := 9) hx hb dX12_readBracket_4 (by decide) (fun q4 => ?_) (fun q4 => ?_)
      · replace hE := ite_f q4 hE
        refine s_aload_n hx hb dX12_readBracket_9 rfl (lv_at hl 0 rfl) ?_
        refine lv_bipush (v := (41 : Int32)) hx hb dX12_readBracket_10 (by decide) ?_
        obtain ⟨c5, hE⟩ := ck hE
        obtain ⟨x6, hx6, hE⟩ := bd hE
        refine s_callV (As := [.int (41 : Int32)]) (rest := []) CF hK hW hS (S_X12_isSign l G F hx6) c5 rfl gv_X12_161 hd_X12_isSign ⟨show 1 ≤ 4 + (d + 1) * 1 by omega, show 21 ≤ 90 + (d + 1) * 23 by omega⟩ rfl hl.1 rfl (Nat.le_of_ble_eq_true rfl) dX12_readBracket_12 ⟨Nat.le_refl _, Nat.le_refl _⟩ (fun H locs hW hS => ?_)
        refine lv_if_ne (tgt := 24) hx hb dX12_readBracket_15 (by decide) (fun q7 => ?_) (fun q7 => ?_)
        · replace hE := ite_f q7 hE
          refine s_aload_n hx hb dX12_readBracket_24 rfl (lv_at hl 0 rfl) ?_
          obtain ⟨c8, hE⟩ := ck hE
          obtain ⟨f9, hf9, hE⟩ := bd hE
          refine s_callV (As := []) (rest := []) CF hK hW hS (S_X12_go l G F hf9) c8 rfl gv_X12_158 hd_X12_go ⟨show 2 ≤ 4 + (d + 1) * 1 by omega, show 45 ≤ 90 + (d + 1) * 23 by omega⟩ rfl hl.1 rfl (Nat.le_of_ble_eq_true rfl) dX12_readBracket_25 ⟨Nat.le_refl _, Nat.le_refl _⟩ (fun H locs hW hS => ?_)
          refine lv_iconst (v := (1 : Int32)) hx hb dX12_readBracket_28 (by decide) ?_
          obtain ⟨c10, hE⟩ := ck hE
          obtain ⟨rfl, rfl⟩ := so2 hE
          exact s_zret hx hb hr c10 hlocks hW hS dX12_readBracket_29
        · replace hE := ite_t q7 hE
          refine s_aload_n hx hb dX12_readBracket_18 rfl (lv_at hl 0 rfl) ?_
          refine lv_iconst (v := (1 : Int32)) hx hb dX12_readBracket_19 (by decide) ?_
          obtain ⟨c11, hE⟩ := ck hE
          obtain ⟨x12, f13, hx12, hE⟩ := bd2_of hE
          refine s_callV (As := [.int (1 : Int32)]) (rest := []) CF hK hW hS (S_X12_bad l G F hx12) c11 rfl gv_X12_148 hd_X12_bad ⟨show 1 ≤ 4 + (d + 1) * 1 by omega, show 21 ≤ 90 + (d + 1) * 23 by omega⟩ rfl hl.1 rfl (Nat.le_of_ble_eq_true rfl) dX12_readBracket_20 ⟨Nat.le_refl _, Nat.le_refl _⟩ (fun H locs hW hS => ?_)
          obtain ⟨c14, hE⟩ := ck hE
          obtain ⟨rfl, rfl⟩ := so2 hE
          exact s_zret hx hb hr c14 hlocks hW hS dX12_readBracket_23
      · replace hE := ite_t q4 hE
        refine lv_iconst (v := (0 : Int32)) hx hb dX12_readBracket_7 (by decide) ?_
        obtain ⟨c15, hE⟩ := ck hE
        obtain ⟨rfl, rfl⟩ := so2 hE
        exact s_zret hx hb hr c15 hlocks hW hS dX12_readBracket_8
theorem S_X12_readOr (l : Launch) (G : GG) (F d : Nat) {u0 : Option Nat} {f : Hp} {r : Int32} {f' : Hp} {n : Nat} (hE : m_X12_readOr F d u0 f = some (r, f')) : Ctr l G yX12_readOr cX12_readOr 2 (some .boolean) (4 + d * 1) (90 + d * 23) [rr G u0] f n (some (.int r)) f' n 0 0 := (SG_1 l G F d).1 _ _ _ _ _ hE
theorem S_X12_readAnd (l : Launch) (G : GG) (F d : Nat) {u0 : Option Nat} {f : Hp} {r : Int32} {f' : Hp} {n : Nat} (hE : m_X12_readAnd F d u0 f = some (r, f')) : Ctr l G yX12_readAnd cX12_readAnd 2 (some .boolean) (4 + d * 1) (90 + d * 23) [rr G u0] f n (some (.int r)) f' n 0 0 := (SG_1 l G F d).2.1 _ _ _ _ _ hE
theorem S_X12_readOne (l : Launch) (G : GG) (F d : Nat) {u0 : Option Nat} {f : Hp} {r : Int32} {f' : Hp} {n : Nat} (hE : m_X12_readOne F d u0 f = some (r, f')) : Ctr l G yX12_readOne cX12_readOne 4 (some .boolean) (4 + d * 1) (90 + d * 23) [rr G u0] f n (some (.int r)) f' n 0 0 := (SG_1 l G F d).2.2.1 _ _ _ _ _ hE
theorem S_X12_readNot (l : Launch) (G : GG) (F d : Nat) {u0 : Option Nat} {f : Hp} {r : Int32} {f' : Hp} {n : Nat} (hE : m_X12_readNot F d u0 f = some (r, f')) : Ctr l G yX12_readNot cX12_readNot 1 (some .boolean) (4 + d * 1) (90 + d * 23) [rr G u0] f n (some (.int r)) f' n 0 0 := (SG_1 l G F d).2.2.2.1 _ _ _ _ _ hE
theorem S_X12_readBracket (l : Launch) (G : GG) (F d : Nat) {u0 : Option Nat} {f : Hp} {r : Int32} {f' : Hp} {n : Nat} (hE : m_X12_readBracket F d u0 f = some (r, f')) : Ctr l G yX12_readBracket cX12_readBracket 1 (some .boolean) (4 + d * 1) (90 + d * 23) [rr G u0] f n (some (.int r)) f' n 0 0 := (SG_1 l G F d).2.2.2.2 _ _ _ _ _ hE
set_option maxHeartbeats 4000000 in
set_option maxRecDepth 100000 in
theorem S_X12_restore (l : Launch) (G : GG) (F : Nat) {u0 : Option Nat} {u1 : Int32} {f : Hp} {r : Int32} {f' : Hp} {n : Nat} (hE : m_X12_restore F u0 u1 f = some (r, f')) : Ctr l G yX12_restore cX12_restore 3 (some .boolean) 2 41 [rr G u0, .int u1] f n (some (.int r)) f' n 0 0 := by
  refine Met.ofW (cc := cX12_restore) (maxL := 3) (ret := (some .boolean)) (by decide) rfl ?_
  intro p e s m args below meth c s₁ B hml hv
  obtain ⟨rfl, hK, hW⟩ := hv
  have hx := B.exec
  have hb := B.bytes
  have hr := B.returns
  have hts := atoms_spec (ws := wsO yX12_restore cX12_restore 3 (some .boolean)) B.pre
  have hT : ∀ w ∈ TB, w.before [rr G u0, .int u1].toArray s = true := fun w hw => hts w (List.mem_cons_of_mem _ hw)
  have hown : s.vm.findClass RX12 = some m.cls := findClass_of_methodNamed B.named
  have hlocks := B.notSynchronized
  have CF : CallFix p m c cX12_restore 3 s [rr G u0, .int u1].toArray TB RX12 := ⟨hx, hb, hml, hown, hT⟩
  have hS : va_S (WA G) s.heap s.heap [] := va_S.rf
  have hl : lv_has (lg_sl ([rr G u0, .int u1]) ++ List.replicate (3 - (lg_sl ([rr G u0, .int u1])).length) Slot.unset).toArray 3 [(0, rr G u0), (1, .int u1)] := by cases u0 <;> exact lv_entry _ (Nat.le_of_ble_eq_true rfl)
  rw [lg_entry_eq]
  generalize (lg_sl ([rr G u0, .int u1]) ++ List.replicate (3 - (lg_sl ([rr G u0, .int u1])).length) Slot.unset).toArray = ls at hl ⊢
  have hC64 : ∀ (k64 : Nat), ∀ (v0 : Option Nat) (v1 : Int32) (v2 : Int32) (fa : Hp) (H : Heap) (locs : List Loc) (ls : Array Slot), m_X12_restore_L64 F k64 v0 v1 v2 fa = some (r, f') → Wd G fa n H → va_S (WA G) s.heap H locs → lv_has ls 3 [(0, rr G v0), (1, .int v1), (2, .int v2)] → W p l e (headSpec (wsO yX12_restore cX12_restore 3 (some .boolean)) { frames := 2, cells := 0, slots := 0, locals := 41 }).room s m [rr G u0, .int u1].toArray below meth c H locs 0 0 (MQ below (Qcn G (some (.int r)) f' n) [rr G u0, .int u1].toArray s 0 0 (WA G)) (F0 m 64 ls []) := by
    intro k64
    induction k64 with
    | zero => intro v0 v1 v2 fa H locs ls hE _ _ _; cases (show (none : Option ((Int32) × Hp)) = some (r, f') from hE)
    | succ k64 ih64 =>
      intro v0 v1 v2 fa H locs ls hE hW hS hl
      replace hE : m_X12_restore_b64 F (m_X12_restore_L64 F k64) v0 v1 v2 fa = some (r, f') := hE
      refine lv_iload_n hx hb dX12_restore_64 rfl (lv_at hl 2 rfl) ?_
      refine lv_bipush (v := (16 : Int32)) hx hb dX12_restore_65 (by decide) ?_
      refine lv_icmp_ge (tgt := 93) hx hb dX12_restore_67 (by decide) (fun q7 => ?_) (fun q7 => ?_)
      · replace hE := ite_t q7 hE
        refine lv_iconst (v := (1 : Int32)) hx hb dX12_restore_93 (by decide) ?_
        obtain ⟨c8, hE⟩ := ck hE
        obtain ⟨rfl, rfl⟩ := so2 hE
        exact s_zret hx hb hr c8 hlocks hW hS dX12_restore_94
      · replace hE := ite_f q7 hE
        refine s_aload_n hx hb dX12_restore_70 rfl (lv_at hl 0 rfl) ?_
        obtain ⟨x9, hx9, hE⟩ := bd hE
        refine s_gR hx hb hT u_X12 hown hK hW hx9 rfl (by decide) fl_X12_22 rfl dX12_restore_71 ?_
        refine lv_iload_n hx hb dX12_restore_74 rfl (lv_at hl 2 rfl) ?_
        refine s_aload_n hx hb dX12_restore_75 rfl (lv_at hl 0 rfl) ?_
        obtain ⟨x10, hx10, hE⟩ := bd hE
        refine s_gR hx hb hT u_X12 hown hK hW hx10 rfl (by decide) fl_X12_29 rfl dX12_restore_76 ?_
        refine lv_bipush (v := (16 : Int32)) hx hb dX12_restore_79 (by decide) ?_
        refine lv_iload_n hx hb dX12_restore_81 rfl (lv_at hl 1 rfl) ?_
        refine lv_imul hx hb dX12_restore_82 ?_
        refine lv_iload_n hx hb dX12_restore_83 rfl (lv_at hl 2 rfl) ?_
        refine lv_iadd hx hb dX12_restore_84 ?_
        obtain ⟨x11, hx11, hE⟩ := bd hE
        refine s_ldJ hx hb hK hW hS hx11 dX12_restore_85 ?_
        obtain ⟨f12, hf12, hE⟩ := bd hE
        refine s_stJ hx hb hK hW hS hf12 dX12_restore_86 (fun H locs hW hS => ?_)
        obtain ⟨y13, ey13⟩ : ∃ y : Int32, y = v2 + (1 : Int32) := ⟨_, rfl⟩
        replace hE := nm_o ey13 hE
        refine lv_iinc (k := 2) (v := y13) (lv' := [(2, .int y13), (0, rr G v0), (1, .int v1)]) hx hb dX12_restore_87 hl rfl (by rw [ey13]; rfl) (by decide) rfl (fun ls hl => ?_)
        refine lv_goto (tgt := 64) hx hb dX12_restore_90 (by decide) ?_
        exact ih64 _ _ _ _ _ _ _ hE hW hS (lv_sub hl [1, 2, 0] rfl)
  have hC31 : ∀ (k31 : Nat), ∀ (v0 : Option Nat) (v1 : Int32) (v2 : Int32) (fa : Hp) (H : Heap) (locs : List Loc) (ls : Array Slot), m_X12_restore_L31 F k31 v0 v1 v2 fa = some (r, f') → Wd G fa n H → va_S (WA G) s.heap H locs → lv_has ls 3 [(0, rr G v0), (1, .int v1), (2, .int v2)] → W p l e (headSpec (wsO yX12_restore cX12_restore 3 (some .boolean)) { frames := 2, cells := 0, slots := 0, locals := 41 }).room s m [rr G u0, .int u1].toArray below meth c H locs 0 0 (MQ below (Qcn G (some (.int r)) f' n) [rr G u0, .int u1].toArray s 0 0 (WA G)) (F0 m 31 ls []) := by
    intro k31
    induction k31 with
    | zero => intro v0 v1 v2 fa H locs ls hE _ _ _; cases (show (none : Option ((Int32) × Hp)) = some (r, f') from hE)
    | succ k31 ih31 =>
      intro v0 v1 v2 fa H locs ls hE hW hS hl
      replace hE : m_X12_restore_b31 F (m_X12_restore_L31 F k31) v0 v1 v2 fa = some (r, f') := hE
      refine lv_iload_n hx hb dX12_restore_31 rfl (lv_at hl 2 rfl) ?_
      refine lv_sipush (v := (412 : Int32)) hx hb dX12_restore_32 (by decide) ?_
      refine lv_icmp_ge (tgt := 62) hx hb dX12_restore_35 (by decide) (fun q1 => ?_) (fun q1 => ?_)
      · replace hE := ite_t q1 hE
        refine lv_iconst (v := (0 : Int32)) hx hb dX12_restore_62 (by decide) ?_
        refine lv_istore_n (i := 2) (lv' := [(2, .int (0 : Int32)), (0, rr G v0), (1, .int v1)]) hx hb dX12_restore_63 rfl hl (by decide) rfl (fun ls hl => ?_)
        exact hC64 F _ _ _ _ _ _ _ hE hW hS (lv_sub hl [1, 2, 0] rfl)
      · replace hE := ite_f q1 hE
        refine s_aload_n hx hb dX12_restore_38 rfl (lv_at hl 0 rfl) ?_
        obtain ⟨x2, hx2, hE⟩ := bd hE
        refine s_gR hx hb hT u_X12 hown hK hW hx2 rfl (by decide) fl_X12_13 rfl dX12_restore_39 ?_
        refine lv_iload_n hx hb dX12_restore_42 rfl (lv_at hl 2 rfl) ?_
        refine s_aload_n hx hb dX12_restore_43 rfl (lv_at hl 0 rfl) ?_
        obtain ⟨x3, hx3, hE⟩ := bd hE
        refine s_gR hx hb hT u_X12 hown hK hW hx3 rfl (by decide) fl_X12_19 rfl dX12_restore_44 ?_
        refine lv_sipush (v := (412 : Int32)) hx hb dX12_restore_47 (by decide) ?_
        refine lv_iload_n hx hb dX12_restore_50 rfl (lv_at hl 1 rfl) ?_
        refine lv_imul hx hb dX12_restore_51 ?_
        refine lv_iload_n hx hb dX12_restore_52 rfl (lv_at hl 2 rfl) ?_
        refine lv_iadd hx hb dX12_restore_53 ?_
        obtain ⟨x4, hx4, hE⟩ := bd hE
        refine s_ldI hx hb hK hW hS hx4 dX12_restore_54 ?_
        obtain ⟨f5, hf5, hE⟩ := bd hE
        refine s_stI hx hb hK hW hS hf5 dX12_restore_55 (fun H locs hW hS => ?_)
        obtain ⟨y6, ey6⟩ : ∃ y : Int32, y = v2 + (1 : Int32) := ⟨_, rfl⟩
        replace hE := nm_o ey6 hE
        refine lv_iinc (k := 2) (v := y6) (lv' := [(2, .int y6), (0, rr G v0), (1, .int v1)]) hx hb dX12_restore_56 hl rfl (by rw [ey6]; rfl) (by decide) rfl (fun ls hl => ?_)
        refine lv_goto (tgt := 31) hx hb dX12_restore_59 (by decide) ?_
        exact ih31 _ _ _ _ _ _ _ hE hW hS (lv_sub hl [1, 2, 0] rfl)
  refine s_aload_n hx hb dX12_restore_0 rfl (lv_at hl 0 rfl) ?_
  refine lv_iconst (v := (0 : Int32)) hx hb dX12_restore_1 (by decide) ?_
  obtain ⟨f14, hf14, hE⟩ := bd hE
  refine s_putI hx hb hT u_X12 tyX12 tyX12_ok nmX12 hown hK hW hS hf14 rfl (by decide) fl_X12_81 rfl (Or.inl rfl) rfl dX12_restore_2 (fun H locs hW hS => ?_)
  refine s_aload_n hx hb dX12_restore_5 rfl (lv_at hl 0 rfl) ?_
  obtain ⟨c15, hE⟩ := ck hE
  obtain ⟨f16, hf16, hE⟩ := bd hE
  refine s_callV (As := []) (rest := []) CF hK hW hS (S_X12_lay l G F hf16) c15 rfl gv_X12_164 hd_X12_lay ⟨Nat.le_of_ble_eq_true rfl, Nat.le_of_ble_eq_true rfl⟩ rfl hl.1 rfl (Nat.le_of_ble_eq_true rfl) dX12_restore_6 ⟨Nat.le_refl _, Nat.le_refl _⟩ (fun H locs hW hS => ?_)
  refine lv_iload_n hx hb dX12_restore_9 rfl (lv_at hl 1 rfl) ?_
  refine lv_iconst (v := (0 : Int32)) hx hb dX12_restore_10 (by decide) ?_
  refine lv_iconst (v := (1 : Int32)) hx hb dX12_restore_11 (by decide) ?_
  obtain ⟨x17, hx17, hE⟩ := bd hE
  refine s_callS (As := [.int u1, .int (0 : Int32), .int (1 : Int32)]) (rest := []) CF hK hW hS (S_X12_isIn l G F hx17) gs_X12_151 hd_X12_isIn.2 ⟨Nat.le_of_ble_eq_true rfl, Nat.le_of_ble_eq_true rfl⟩ rfl hl.1 rfl (Nat.le_of_ble_eq_true rfl) dX12_restore_12 ⟨Nat.le_refl _, Nat.le_refl _⟩ (fun H locs hW hS => ?_)
  refine lv_if_eq (tgt := 27) hx hb dX12_restore_15 (by decide) (fun q18 => ?_) (fun q18 => ?_)
  · replace hE := ite_t q18 hE
    refine lv_iconst (v := (0 : Int32)) hx hb dX12_restore_27 (by decide) ?_
    obtain ⟨c19, hE⟩ := ck hE
    obtain ⟨rfl, rfl⟩ := so2 hE
    exact s_zret hx hb hr c19 hlocks hW hS dX12_restore_28
  · replace hE := ite_f q18 hE
    refine s_aload_n hx hb dX12_restore_18 rfl (lv_at hl 0 rfl) ?_
    obtain ⟨x20, hx20, hE⟩ := bd hE
    refine s_gR hx hb hT u_X12 hown hK hW hx20 rfl (by decide) fl_X12_32 rfl dX12_restore_19 ?_
    refine lv_iload_n hx hb dX12_restore_22 rfl (lv_at hl 1 rfl) ?_
    obtain ⟨x21, hx21, hE⟩ := bd hE
    refine s_ldZ hx hb hK hW hS hx21 dX12_restore_23 ?_
    refine lv_if_ne (tgt := 29) hx hb dX12_restore_24 (by decide) (fun q22 => ?_) (fun q22 => ?_)
    · replace hE := ite_f q22 hE
      refine lv_iconst (v := (0 : Int32)) hx hb dX12_restore_29 (by decide) ?_
      refine lv_istore_n (i := 2) (lv' := [(2, .int (0 : Int32)), (0, rr G u0), (1, .int u1)]) hx hb dX12_restore_30 rfl hl (by decide) rfl (fun ls hl => ?_)
      exact hC31 F _ _ _ _ _ _ _ hE hW hS (lv_sub hl [1, 2, 0] rfl)
    · replace hE := ite_t q22 hE
      refine lv_iconst (v := (0 : Int32)) hx hb dX12_restore_27 (by decide) ?_
      obtain ⟨c23, hE⟩ := ck hE
      obtain ⟨rfl, rfl⟩ := so2 hE
      exact s_zret hx hb hr c23 hlocks hW hS dX12_restore_28
set_option maxHeartbeats 4000000 in
set_option maxRecDepth 100000 in
theorem S_X12_said (l : Launch) (G : GG) (F : Nat) {u0 : Option Nat} {f : Hp} {r : Int32} {f' : Hp} {n : Nat} (hE : m_X12_said F u0 f = some (r, f')) : Ctr l G yX12_said cX12_said 3 (some .int) 66 1640 [rr G u0] f n (some (.int r)) f' n 0 0 := by
  refine Met.ofW (cc := cX12_said) (maxL := 3) (ret := (some .int)) (by decide) rfl ?_
  intro p e s m args below meth c s₁ B hml hv
  obtain ⟨rfl, hK, hW⟩ := hv
  have hx := B.exec
  have hb := B.bytes
  have hr := B.returns
  have hts := atoms_spec (ws := wsO yX12_said cX12_said 3 (some .int)) B.pre
  have hT : ∀ w ∈ TB, w.before [rr G u0].toArray s = true := fun w hw => hts w (List.mem_cons_of_mem _ hw)
  have hown : s.vm.findClass RX12 = some m.cls := findClass_of_methodNamed B.named
  have hlocks := B.notSynchronized
  have CF : CallFix p m c cX12_said 3 s [rr G u0].toArray TB RX12 := ⟨hx, hb, hml, hown, hT⟩
  have hS : va_S (WA G) s.heap s.heap [] := va_S.rf
  have hl : lv_has (lg_sl ([rr G u0]) ++ List.replicate (3 - (lg_sl ([rr G u0])).length) Slot.unset).toArray 3 [(0, rr G u0)] := by cases u0 <;> exact lv_entry _ (Nat.le_of_ble_eq_true rfl)
  rw [lg_entry_eq]
  generalize (lg_sl ([rr G u0]) ++ List.replicate (3 - (lg_sl ([rr G u0])).length) Slot.unset).toArray = ls at hl ⊢
  have hC26 : ∀ (k26 : Nat), ∀ (v0 : Option Nat) (v1 : Int32) (v2 : Int32) (fa : Hp) (H : Heap) (locs : List Loc) (ls : Array Slot), m_X12_said_L26 F k26 v0 v1 v2 fa = some (r, f') → Wd G fa n H → va_S (WA G) s.heap H locs → lv_has ls 3 [(0, rr G v0), (1, .int v1), (2, .int v2)] → W p l e (headSpec (wsO yX12_said cX12_said 3 (some .int)) { frames := 66, cells := 0, slots := 0, locals := 1640 }).room s m [rr G u0].toArray below meth c H locs 0 0 (MQ below (Qcn G (some (.int r)) f' n) [rr G u0].toArray s 0 0 (WA G)) (F0 m 26 ls []) := by
    intro k26
    induction k26 with
    | zero => intro v0 v1 v2 fa H locs ls hE _ _ _; cases (show (none : Option ((Int32) × Hp)) = some (r, f') from hE)
    | succ k26 ih26 =>
      intro v0 v1 v2 fa H locs ls hE hW hS hl
      replace hE : m_X12_said_b26 F (m_X12_said_L26 F k26) v0 v1 v2 fa = some (r, f') := hE
      refine lv_iload_n hx hb dX12_said_26 rfl (lv_at hl 2 rfl) ?_
      refine s_aload_n hx hb dX12_said_27 rfl (lv_at hl 0 rfl) ?_
      obtain ⟨c1, hE⟩ := ck hE
      obtain ⟨x2, hx2, hE⟩ := bd hE
      refine s_callV (As := []) (rest := [.int v2]) CF hK hW hS (S_X12_copies l G F hx2) c1 rfl gv_X12_179 hd_X12_copies ⟨Nat.le_of_ble_eq_true rfl, Nat.le_of_ble_eq_true rfl⟩ rfl hl.1 rfl (Nat.le_of_ble_eq_true rfl) dX12_said_28 ⟨Nat.le_refl _, Nat.le_refl _⟩ (fun H locs hW hS => ?_)
      refine lv_icmp_ge (tgt := 62) hx hb dX12_said_31 (by decide) (fun q3 => ?_) (fun q3 => ?_)
      · replace hE := ite_t q3 hE
        refine lv_iload_n hx hb dX12_said_62 rfl (lv_at hl 1 rfl) ?_
        obtain ⟨rfl, rfl⟩ := so2 hE
        exact s_iret hx hb hr hlocks hW hS dX12_said_63
      · replace hE := ite_f q3 hE
        refine s_aload_n hx hb dX12_said_34 rfl (lv_at hl 0 rfl) ?_
        refine s_aload_n hx hb dX12_said_35 rfl (lv_at hl 0 rfl) ?_
        obtain ⟨x4, hx4, hE⟩ := bd hE
        refine s_gR hx hb hT u_X12 hown hK hW hx4 rfl (by decide) fl_X12_13 rfl dX12_said_36 ?_
        refine lv_sipush (v := (171 : Int32)) hx hb dX12_said_39 (by decide) ?_
        obtain ⟨x5, hx5, hE⟩ := bd hE
        refine s_ldI hx hb hK hW hS hx5 dX12_said_42 ?_
        refine lv_iload_n hx hb dX12_said_43 rfl (lv_at hl 2 rfl) ?_
        obtain ⟨c6, hE⟩ := ck hE
        obtain ⟨x7, f8, hx7, hE⟩ := bd2_of hE
        refine s_callV (As := [.int x5, .int v2]) (rest := []) CF hK hW hS (S_X12_isSo l G F 60 hx7) c6 rfl gv_X12_386 hd_X12_isSo ⟨Nat.le_of_ble_eq_true rfl, Nat.le_of_ble_eq_true rfl⟩ rfl hl.1 rfl (Nat.le_of_ble_eq_true rfl) dX12_said_44 ⟨Nat.le_refl _, Nat.le_refl _⟩ (fun H locs hW hS => ?_)
        refine lv_if_eq (tgt := 56) hx hb dX12_said_47 (by decide) (fun q9 => ?_) (fun q9 => ?_)
        · replace hE := ite_t q9 hE
          obtain ⟨y10, ey10⟩ : ∃ y : Int32, y = v2 + (1 : Int32) := ⟨_, rfl⟩
          replace hE := nm_o ey10 hE
          refine lv_iinc (k := 2) (v := y10) (lv' := [(2, .int y10), (0, rr G v0), (1, .int v1)]) hx hb dX12_said_56 hl rfl (by rw [ey10]; rfl) (by decide) rfl (fun ls hl => ?_)
          refine lv_goto (tgt := 26) hx hb dX12_said_59 (by decide) ?_
          exact ih26 _ _ _ _ _ _ _ hE hW hS (lv_sub hl [1, 2, 0] rfl)
        · replace hE := ite_f q9 hE
          refine lv_iload_n hx hb dX12_said_50 rfl (lv_at hl 1 rfl) ?_
          refine lv_iconst (v := (1 : Int32)) hx hb dX12_said_51 (by decide) ?_
          refine lv_iload_n hx hb dX12_said_52 rfl (lv_at hl 2 rfl) ?_
          refine lv_ishl hx hb dX12_said_53 ?_
          refine lv_ior hx hb dX12_said_54 ?_
          refine lv_topi (fun y11 ey11 => ?_)
          replace hE := nm_o ey11 hE
          refine lv_istore_n (i := 1) (lv' := [(1, .int y11), (0, rr G v0), (2, .int v2)]) hx hb dX12_said_55 rfl hl (by decide) (by simp [cat_rr]) (fun ls hl => ?_)
          obtain ⟨y12, ey12⟩ : ∃ y : Int32, y = v2 + (1 : Int32) := ⟨_, rfl⟩
          replace hE := nm_o ey12 hE
          refine lv_iinc (k := 2) (v := y12) (lv' := [(2, .int y12), (1, .int y11), (0, rr G v0)]) hx hb dX12_said_56 hl rfl (by rw [ey12]; rfl) (by decide) rfl (fun ls hl => ?_)
          refine lv_goto (tgt := 26) hx hb dX12_said_59 (by decide) ?_
          exact ih26 _ _ _ _ _ _ _ hE hW hS (lv_sub hl [2, 1, 0] rfl)
  refine s_aload_n hx hb dX12_said_0 rfl (lv_at hl 0 rfl) ?_
  refine lv_iconst (v := (0 : Int32)) hx hb dX12_said_1 (by decide) ?_
  obtain ⟨f13, hf13, hE⟩ := bd hE
  refine s_putI hx hb hT u_X12 tyX12 tyX12_ok nmX12 hown hK hW hS hf13 rfl (by decide) fl_X12_81 rfl (Or.inl rfl) rfl dX12_said_2 (fun H locs hW hS => ?_)
  refine s_aload_n hx hb dX12_said_5 rfl (lv_at hl 0 rfl) ?_
  obtain ⟨c14, hE⟩ := ck hE
  obtain ⟨f15, hf15, hE⟩ := bd hE
  refine s_callV (As := []) (rest := []) CF hK hW hS (S_X12_lay l G F hf15) c14 rfl gv_X12_164 hd_X12_lay ⟨Nat.le_of_ble_eq_true rfl, Nat.le_of_ble_eq_true rfl⟩ rfl hl.1 rfl (Nat.le_of_ble_eq_true rfl) dX12_said_6 ⟨Nat.le_refl _, Nat.le_refl _⟩ (fun H locs hW hS => ?_)
  refine s_aload_n hx hb dX12_said_9 rfl (lv_at hl 0 rfl) ?_
  obtain ⟨x16, hx16, hE⟩ := bd hE
  refine s_gR hx hb hT u_X12 hown hK hW hx16 rfl (by decide) fl_X12_13 rfl dX12_said_10 ?_
  refine lv_sipush (v := (170 : Int32)) hx hb dX12_said_13 (by decide) ?_
  obtain ⟨x17, hx17, hE⟩ := bd hE
  refine s_ldI hx hb hK hW hS hx17 dX12_said_16 ?_
  refine lv_if_ne (tgt := 22) hx hb dX12_said_17 (by decide) (fun q18 => ?_) (fun q18 => ?_)
  · replace hE := ite_f q18 hE
    refine lv_iconst (v := (0 : Int32)) hx hb dX12_said_22 (by decide) ?_
    refine lv_istore_n (i := 1) (lv' := [(1, .int (0 : Int32)), (0, rr G u0)]) hx hb dX12_said_23 rfl hl (by decide) (by simp [cat_rr]) (fun ls hl => ?_)
    refine lv_iconst (v := (0 : Int32)) hx hb dX12_said_24 (by decide) ?_
    refine lv_istore_n (i := 2) (lv' := [(2, .int (0 : Int32)), (1, .int (0 : Int32)), (0, rr G u0)]) hx hb dX12_said_25 rfl hl (by decide) rfl (fun ls hl => ?_)
    exact hC26 F _ _ _ _ _ _ _ hE hW hS (lv_sub hl [2, 1, 0] rfl)
  · replace hE := ite_t q18 hE
    refine lv_iconst (v := (-1 : Int32)) hx hb dX12_said_20 (by decide) ?_
    obtain ⟨rfl, rfl⟩ := so2 hE
    exact s_iret hx hb hr hlocks hW hS dX12_said_21
set_option maxHeartbeats 4000000 in
set_option maxRecDepth 100000 in
theorem S_X12_sense (l : Launch) (G : GG) (F : Nat) {u0 : Option Nat} {u1 : Int32} {f : Hp} {r : Int32} {f' : Hp} {n : Nat} (hE : m_X12_sense F u0 u1 f = some (r, f')) : Ctr l G yX12_sense cX12_sense 4 (some .int) 4 92 [rr G u0, .int u1] f n (some (.int r)) f' n 0 0 := by
  refine Met.ofW (cc := cX12_sense) (maxL := 4) (ret := (some .int)) (by decide) rfl ?_
  intro p e s m args below meth c s₁ B hml hv
  obtain ⟨rfl, hK, hW⟩ := hv
  have hx := B.exec
  have hb := B.bytes
  have hr := B.returns
  have hts := atoms_spec (ws := wsO yX12_sense cX12_sense 4 (some .int)) B.pre
  have hT : ∀ w ∈ TB, w.before [rr G u0, .int u1].toArray s = true := fun w hw => hts w (List.mem_cons_of_mem _ hw)
  have hown : s.vm.findClass RX12 = some m.cls := findClass_of_methodNamed B.named
  have hlocks := B.notSynchronized
  have CF : CallFix p m c cX12_sense 4 s [rr G u0, .int u1].toArray TB RX12 := ⟨hx, hb, hml, hown, hT⟩
  have hS : va_S (WA G) s.heap s.heap [] := va_S.rf
  have hl : lv_has (lg_sl ([rr G u0, .int u1]) ++ List.replicate (4 - (lg_sl ([rr G u0, .int u1])).length) Slot.unset).toArray 4 [(0, rr G u0), (1, .int u1)] := by cases u0 <;> exact lv_entry _ (Nat.le_of_ble_eq_true rfl)
  rw [lg_entry_eq]
  generalize (lg_sl ([rr G u0, .int u1]) ++ List.replicate (4 - (lg_sl ([rr G u0, .int u1])).length) Slot.unset).toArray = ls at hl ⊢
  have hC67 : ∀ (v1 : Int32) (v2 : Int32) (fa : Hp) (H : Heap) (locs : List Loc) (ls : Array Slot), m_X12_sense_B67 F v1 v2 fa = some (r, f') → Wd G fa n H → va_S (WA G) s.heap H locs → lv_has ls 4 [(1, .int v1), (2, .int v2)] → W p l e (headSpec (wsO yX12_sense cX12_sense 4 (some .int)) { frames := 4, cells := 0, slots := 0, locals := 92 }).room s m [rr G u0, .int u1].toArray below meth c H locs 0 0 (MQ below (Qcn G (some (.int r)) f' n) [rr G u0, .int u1].toArray s 0 0 (WA G)) (F0 m 67 ls []) := by
    intro v1 v2 fa H locs ls hE hW hS hl
    refine lv_iload_n hx hb dX12_sense_67 rfl (lv_at hl 0 rfl) ?_
    refine lv_iconst (v := (-1 : Int32)) hx hb dX12_sense_68 (by decide) ?_
    refine lv_icmp_ne (tgt := 76) hx hb dX12_sense_69 (by decide) (fun q15 => ?_) (fun q15 => ?_)
    · replace hE := ite_f q15 hE
      refine lv_iconst (v := (-1 : Int32)) hx hb dX12_sense_76 (by decide) ?_
      obtain ⟨rfl, rfl⟩ := so2 hE
      exact s_iret hx hb hr hlocks hW hS dX12_sense_77
    · replace hE := ite_t q15 hE
      refine lv_iload_n hx hb dX12_sense_72 rfl (lv_at hl 1 rfl) ?_
      refine lv_goto (tgt := 77) hx hb dX12_sense_73 (by decide) ?_
      obtain ⟨rfl, rfl⟩ := so2 hE
      exact s_iret hx hb hr hlocks hW hS dX12_sense_77
  have hC20 : ∀ (k20 : Nat), ∀ (v0 : Option Nat) (v1 : Int32) (v2 : Int32) (v3 : Int32) (fa : Hp) (H : Heap) (locs : List Loc) (ls : Array Slot), m_X12_sense_L20 F k20 v0 v1 v2 v3 fa = some (r, f') → Wd G fa n H → va_S (WA G) s.heap H locs → lv_has ls 4 [(0, rr G v0), (1, .int v1), (2, .int v2), (3, .int v3)] → W p l e (headSpec (wsO yX12_sense cX12_sense 4 (some .int)) { frames := 4, cells := 0, slots := 0, locals := 92 }).room s m [rr G u0, .int u1].toArray below meth c H locs 0 0 (MQ below (Qcn G (some (.int r)) f' n) [rr G u0, .int u1].toArray s 0 0 (WA G)) (F0 m 20 ls []) := by
    intro k20
    induction k20 with
    | zero => intro v0 v1 v2 v3 fa H locs ls hE _ _ _; cases (show (none : Option ((Int32) × Hp)) = some (r, f') from hE)
    | succ k20 ih20 =>
      intro v0 v1 v2 v3 fa H locs ls hE hW hS hl
      replace hE : m_X12_sense_b20 F (m_X12_sense_L20 F k20) v0 v1 v2 v3 fa = some (r, f') := hE
      refine lv_iload_n hx hb dX12_sense_20 rfl (lv_at hl 3 rfl) ?_
      refine s_aload_n hx hb dX12_sense_21 rfl (lv_at hl 0 rfl) ?_
      obtain ⟨c1, hE⟩ := ck hE
      obtain ⟨x2, hx2, hE⟩ := bd hE
      refine s_callV (As := []) (rest := [.int v3]) CF hK hW hS (S_X12_orders l G F hx2) c1 rfl gv_X12_251 hd_X12_orders ⟨Nat.le_of_ble_eq_true rfl, Nat.le_of_ble_eq_true rfl⟩ rfl hl.1 rfl (Nat.le_of_ble_eq_true rfl) dX12_sense_22 ⟨Nat.le_refl _, Nat.le_refl _⟩ (fun H locs hW hS => ?_)
      refine lv_icmp_ge (tgt := 67) hx hb dX12_sense_25 (by decide) (fun q3 => ?_) (fun q3 => ?_)
      · replace hE := ite_t q3 hE
        exact hC67 _ _ _ _ _ _ hE hW hS (lv_sub hl [1, 2] rfl)
      · replace hE := ite_f q3 hE
        refine s_aload_n hx hb dX12_sense_28 rfl (lv_at hl 0 rfl) ?_
        refine lv_iload_n hx hb dX12_sense_29 rfl (lv_at hl 3 rfl) ?_
        refine s_aload_n hx hb dX12_sense_30 rfl (lv_at hl 0 rfl) ?_
        obtain ⟨x4, hx4, hE⟩ := bd hE
        refine s_gR hx hb hT u_X12 hown hK hW hx4 rfl (by decide) fl_X12_42 rfl dX12_sense_31 ?_
        obtain ⟨c5, hE⟩ := ck hE
        obtain ⟨f6, hf6, hE⟩ := bd hE
        refine s_callV (As := [.int v3, rr G x4]) (rest := []) CF hK hW hS (S_X12_layOrder l G F hf6) c5 rfl gv_X12_292 hd_X12_layOrder ⟨Nat.le_of_ble_eq_true rfl, Nat.le_of_ble_eq_true rfl⟩ rfl hl.1 rfl (Nat.le_of_ble_eq_true rfl) dX12_sense_34 ⟨Nat.le_refl _, Nat.le_refl _⟩ (fun H locs hW hS => ?_)
        refine s_aload_n hx hb dX12_sense_37 rfl (lv_at hl 0 rfl) ?_
        refine s_aload_n hx hb dX12_sense_38 rfl (lv_at hl 0 rfl) ?_
        obtain ⟨x7, hx7, hE⟩ := bd hE
        refine s_gR hx hb hT u_X12 hown hK hW hx7 rfl (by decide) fl_X12_42 rfl dX12_sense_39 ?_
        obtain ⟨c8, hE⟩ := ck hE
        obtain ⟨x9, hx9, hE⟩ := bd hE
        refine s_callV (As := [rr G x7]) (rest := []) CF hK hW hS (S_X12_hasSense l G F hx9) c8 rfl gv_X12_338 hd_X12_hasSense ⟨Nat.le_of_ble_eq_true rfl, Nat.le_of_ble_eq_true rfl⟩ rfl hl.1 rfl (Nat.le_of_ble_eq_true rfl) dX12_sense_42 ⟨Nat.le_refl _, Nat.le_refl _⟩ (fun H locs hW hS => ?_)
        refine lv_if_ne (tgt := 51) hx hb dX12_sense_45 (by decide) (fun q10 => ?_) (fun q10 => ?_)
        · replace hE := ite_f q10 hE
          refine lv_iload_n hx hb dX12_sense_51 rfl (lv_at hl 2 rfl) ?_
          refine lv_iload_n hx hb dX12_sense_52 rfl (lv_at hl 1 rfl) ?_
          refine lv_icmp_ne (tgt := 58) hx hb dX12_sense_53 (by decide) (fun q11 => ?_) (fun q11 => ?_)
          · replace hE := ite_f q11 hE
            obtain ⟨y12, ey12⟩ : ∃ y : Int32, y = v2 + (1 : Int32) := ⟨_, rfl⟩
            replace hE := nm_o ey12 hE
            refine lv_iinc (k := 2) (v := y12) (lv' := [(2, .int y12), (0, rr G v0), (1, .int v1), (3, .int v3)]) hx hb dX12_sense_58 hl rfl (by rw [ey12]; rfl) (by decide) rfl (fun ls hl => ?_)
            obtain ⟨y13, ey13⟩ : ∃ y : Int32, y = v3 + (1 : Int32) := ⟨_, rfl⟩
            replace hE := nm_o ey13 hE
            refine lv_iinc (k := 3) (v := y13) (lv' := [(3, .int y13), (2, .int y12), (0, rr G v0), (1, .int v1)]) hx hb dX12_sense_61 hl rfl (by rw [ey13]; rfl) (by decide) rfl (fun ls hl => ?_)
            refine lv_goto (tgt := 20) hx hb dX12_sense_64 (by decide) ?_
            exact ih20 _ _ _ _ _ _ _ _ hE hW hS (lv_sub hl [2, 3, 1, 0] rfl)
          · replace hE := ite_t q11 hE
            refine lv_iload_n hx hb dX12_sense_56 rfl (lv_at hl 3 rfl) ?_
            obtain ⟨rfl, rfl⟩ := so2 hE
            exact s_iret hx hb hr hlocks hW hS dX12_sense_57
        · replace hE := ite_t q10 hE
          refine lv_goto (tgt := 61) hx hb dX12_sense_48 (by decide) ?_
          obtain ⟨y14, ey14⟩ : ∃ y : Int32, y = v3 + (1 : Int32) := ⟨_, rfl⟩
          replace hE := nm_o ey14 hE
          refine lv_iinc (k := 3) (v := y14) (lv' := [(3, .int y14), (0, rr G v0), (1, .int v1), (2, .int v2)]) hx hb dX12_sense_61 hl rfl (by rw [ey14]; rfl) (by decide) rfl (fun ls hl => ?_)
          refine lv_goto (tgt := 20) hx hb dX12_sense_64 (by decide) ?_
          exact ih20 _ _ _ _ _ _ _ _ hE hW hS (lv_sub hl [1, 2, 3, 0] rfl)
  refine s_aload_n hx hb dX12_sense_0 rfl (lv_at hl 0 rfl) ?_
  refine lv_iconst (v := (0 : Int32)) hx hb dX12_sense_1 (by decide) ?_
  obtain ⟨f16, hf16, hE⟩ := bd hE
  refine s_putI hx hb hT u_X12 tyX12 tyX12_ok nmX12 hown hK hW hS hf16 rfl (by decide) fl_X12_81 rfl (Or.inl rfl) rfl dX12_sense_2 (fun H locs hW hS => ?_)
  refine s_aload_n hx hb dX12_sense_5 rfl (lv_at hl 0 rfl) ?_
  obtain ⟨c17, hE⟩ := ck hE
  obtain ⟨f18, hf18, hE⟩ := bd hE
  refine s_callV (As := []) (rest := []) CF hK hW hS (S_X12_lay l G F hf18) c17 rfl gv_X12_164 hd_X12_lay ⟨Nat.le_of_ble_eq_true rfl, Nat.le_of_ble_eq_true rfl⟩ rfl hl.1 rfl (Nat.le_of_ble_eq_true rfl) dX12_sense_6 ⟨Nat.le_refl _, Nat.le_refl _⟩ (fun H locs hW hS => ?_)
  refine lv_iload_n hx hb dX12_sense_9 rfl (lv_at hl 1 rfl) ?_
  refine lv_iconst (v := (-1 : Int32)) hx hb dX12_sense_10 (by decide) ?_
  refine lv_icmp_ge (tgt := 16) hx hb dX12_sense_11 (by decide) (fun q19 => ?_) (fun q19 => ?_)
  · replace hE := ite_t q19 hE
    refine lv_iconst (v := (0 : Int32)) hx hb dX12_sense_16 (by decide) ?_
    refine lv_istore_n (i := 2) (lv' := [(2, .int (0 : Int32)), (0, rr G u0), (1, .int u1)]) hx hb dX12_sense_17 rfl hl (by decide) rfl (fun ls hl => ?_)
    refine lv_iconst (v := (0 : Int32)) hx hb dX12_sense_18 (by decide) ?_
    refine lv_istore_n (i := 3) (lv' := [(3, .int (0 : Int32)), (2, .int (0 : Int32)), (0, rr G u0), (1, .int u1)]) hx hb dX12_sense_19 rfl hl (by decide) rfl (fun ls hl => ?_)
    exact hC20 F _ _ _ _ _ _ _ _ hE hW hS (lv_sub hl [2, 3, 1, 0] rfl)
  · replace hE := ite_f q19 hE
    refine lv_iconst (v := (-1 : Int32)) hx hb dX12_sense_14 (by decide) ?_
    obtain ⟨rfl, rfl⟩ := so2 hE
    exact s_iret hx hb hr hlocks hW hS dX12_sense_15
set_option maxHeartbeats 4000000 in
set_option maxRecDepth 100000 in
theorem S_X12_sentence (l : Launch) (G : GG) (F : Nat) {u0 : Option Nat} {f : Hp} {r : Int32} {f' : Hp} {n : Nat} (hE : m_X12_sentence F u0 f = some (r, f')) : Ctr l G yX12_sentence cX12_sentence 2 (some .int) 65 1491 [rr G u0] f n (some (.int r)) f' n 0 0 := by
  refine Met.ofW (cc := cX12_sentence) (maxL := 2) (ret := (some .int)) (by decide) rfl ?_
  intro p e s m args below meth c s₁ B hml hv
  obtain ⟨rfl, hK, hW⟩ := hv
  have hx := B.exec
  have hb := B.bytes
  have hr := B.returns
  have hts := atoms_spec (ws := wsO yX12_sentence cX12_sentence 2 (some .int)) B.pre
  have hT : ∀ w ∈ TB, w.before [rr G u0].toArray s = true := fun w hw => hts w (List.mem_cons_of_mem _ hw)
  have hown : s.vm.findClass RX12 = some m.cls := findClass_of_methodNamed B.named
  have hlocks := B.notSynchronized
  have CF : CallFix p m c cX12_sentence 2 s [rr G u0].toArray TB RX12 := ⟨hx, hb, hml, hown, hT⟩
  have hS : va_S (WA G) s.heap s.heap [] := va_S.rf
  have hl : lv_has (lg_sl ([rr G u0]) ++ List.replicate (2 - (lg_sl ([rr G u0])).length) Slot.unset).toArray 2 [(0, rr G u0)] := by cases u0 <;> exact lv_entry _ (Nat.le_of_ble_eq_true rfl)
  rw [lg_entry_eq]
  generalize (lg_sl ([rr G u0]) ++ List.replicate (2 - (lg_sl ([rr G u0])).length) Slot.unset).toArray = ls at hl ⊢
  have hC79 : ∀ (k79 : Nat), ∀ (v0 : Option Nat) (v1 : Int32) (fa : Hp) (H : Heap) (locs : List Loc) (ls : Array Slot), m_X12_sentence_L79 F k79 v0 v1 fa = some (r, f') → Wd G fa n H → va_S (WA G) s.heap H locs → lv_has ls 2 [(0, rr G v0), (1, .int v1)] → W p l e (headSpec (wsO yX12_sentence cX12_sentence 2 (some .int)) { frames := 65, cells := 0, slots := 0, locals := 1491 }).room s m [rr G u0].toArray below meth c H locs 0 0 (MQ below (Qcn G (some (.int r)) f' n) [rr G u0].toArray s 0 0 (WA G)) (F0 m 79 ls []) := by
    intro k79
    induction k79 with
    | zero => intro v0 v1 fa H locs ls hE _ _ _; cases (show (none : Option ((Int32) × Hp)) = some (r, f') from hE)
    | succ k79 ih79 =>
      intro v0 v1 fa H locs ls hE hW hS hl
      replace hE : m_X12_sentence_b79 F (m_X12_sentence_L79 F k79) v0 v1 fa = some (r, f') := hE
      refine lv_iload_n hx hb dX12_sentence_79 rfl (lv_at hl 1 rfl) ?_
      refine lv_sipush (v := (240 : Int32)) hx hb dX12_sentence_80 (by decide) ?_
      refine lv_icmp_ge (tgt := 108) hx hb dX12_sentence_83 (by decide) (fun q1 => ?_) (fun q1 => ?_)
      · replace hE := ite_t q1 hE
        refine s_aload_n hx hb dX12_sentence_108 rfl (lv_at hl 0 rfl) ?_
        obtain ⟨x2, hx2, hE⟩ := bd hE
        refine s_gI hx hb hT u_X12 hown hK hW hx2 rfl (by decide) fl_X12_365 rfl dX12_sentence_109 ?_
        obtain ⟨rfl, rfl⟩ := so2 hE
        exact s_iret hx hb hr hlocks hW hS dX12_sentence_112
      · replace hE := ite_f q1 hE
        refine s_aload_n hx hb dX12_sentence_86 rfl (lv_at hl 0 rfl) ?_
        obtain ⟨x3, hx3, hE⟩ := bd hE
        refine s_gR hx hb hT u_X12 hown hK hW hx3 rfl (by decide) fl_X12_13 rfl dX12_sentence_87 ?_
        refine lv_sipush (v := (172 : Int32)) hx hb dX12_sentence_90 (by decide) ?_
        refine lv_iload_n hx hb dX12_sentence_93 rfl (lv_at hl 1 rfl) ?_
        refine lv_iadd hx hb dX12_sentence_94 ?_
        refine s_aload_n hx hb dX12_sentence_95 rfl (lv_at hl 0 rfl) ?_
        obtain ⟨x4, hx4, hE⟩ := bd hE
        refine s_gR hx hb hT u_X12 hown hK hW hx4 rfl (by decide) fl_X12_78 rfl dX12_sentence_96 ?_
        refine lv_iload_n hx hb dX12_sentence_99 rfl (lv_at hl 1 rfl) ?_
        obtain ⟨x5, hx5, hE⟩ := bd hE
        refine s_ldI hx hb hK hW hS hx5 dX12_sentence_100 ?_
        obtain ⟨f6, hf6, hE⟩ := bd hE
        refine s_stI hx hb hK hW hS hf6 dX12_sentence_101 (fun H locs hW hS => ?_)
        obtain ⟨y7, ey7⟩ : ∃ y : Int32, y = v1 + (1 : Int32) := ⟨_, rfl⟩
        replace hE := nm_o ey7 hE
        refine lv_iinc (k := 1) (v := y7) (lv' := [(1, .int y7), (0, rr G v0)]) hx hb dX12_sentence_102 hl rfl (by rw [ey7]; rfl) (by decide) (by simp [cat_rr]) (fun ls hl => ?_)
        refine lv_goto (tgt := 79) hx hb dX12_sentence_105 (by decide) ?_
        exact ih79 _ _ _ _ _ _ hE hW hS (lv_sub hl [1, 0] rfl)
  refine s_aload_n hx hb dX12_sentence_0 rfl (lv_at hl 0 rfl) ?_
  refine lv_sipush (v := (200 : Int32)) hx hb dX12_sentence_1 (by decide) ?_
  obtain ⟨c8, hE⟩ := ck hE
  obtain ⟨f9, hf9, hE⟩ := bd hE
  refine s_callV (As := [.int (200 : Int32)]) (rest := []) CF hK hW hS (S_X12_begin l G F hf9) c8 rfl gv_X12_235 hd_X12_begin ⟨Nat.le_of_ble_eq_true rfl, Nat.le_of_ble_eq_true rfl⟩ rfl hl.1 rfl (Nat.le_of_ble_eq_true rfl) dX12_sentence_4 ⟨Nat.le_refl _, Nat.le_refl _⟩ (fun H locs hW hS => ?_)
  refine s_aload_n hx hb dX12_sentence_7 rfl (lv_at hl 0 rfl) ?_
  refine lv_iconst (v := (0 : Int32)) hx hb dX12_sentence_8 (by decide) ?_
  obtain ⟨f10, hf10, hE⟩ := bd hE
  refine s_putI hx hb hT u_X12 tyX12 tyX12_ok nmX12 hown hK hW hS hf10 rfl (by decide) fl_X12_349 rfl (Or.inl rfl) rfl dX12_sentence_9 (fun H locs hW hS => ?_)
  refine s_aload_n hx hb dX12_sentence_12 rfl (lv_at hl 0 rfl) ?_
  refine lv_iconst (v := (0 : Int32)) hx hb dX12_sentence_13 (by decide) ?_
  obtain ⟨f11, hf11, hE⟩ := bd hE
  refine s_putI hx hb hT u_X12 tyX12 tyX12_ok nmX12 hown hK hW hS hf11 rfl (by decide) fl_X12_365 rfl (Or.inl rfl) rfl dX12_sentence_14 (fun H locs hW hS => ?_)
  refine s_aload_n hx hb dX12_sentence_17 rfl (lv_at hl 0 rfl) ?_
  refine lv_iconst (v := (0 : Int32)) hx hb dX12_sentence_18 (by decide) ?_
  obtain ⟨f12, hf12, hE⟩ := bd hE
  refine s_putI hx hb hT u_X12 tyX12 tyX12_ok nmX12 hown hK hW hS hf12 rfl (by decide) fl_X12_368 rfl (Or.inl rfl) rfl dX12_sentence_19 (fun H locs hW hS => ?_)
  refine s_aload_n hx hb dX12_sentence_22 rfl (lv_at hl 0 rfl) ?_
  obtain ⟨c13, hE⟩ := ck hE
  obtain ⟨x14, f15, hx14, hE⟩ := bd2_of hE
  refine s_callV (As := []) (rest := []) CF hK hW hS (S_X12_readOr l G F 60 hx14) c13 rfl gv_X12_383 hd_X12_readOr ⟨Nat.le_of_ble_eq_true rfl, Nat.le_of_ble_eq_true rfl⟩ rfl hl.1 rfl (Nat.le_of_ble_eq_true rfl) dX12_sentence_23 ⟨Nat.le_refl _, Nat.le_refl _⟩ (fun H locs hW hS => ?_)
  refine lv_if_ne (tgt := 36) hx hb dX12_sentence_26 (by decide) (fun q16 => ?_) (fun q16 => ?_)
  · replace hE := ite_f q16 hE
    refine s_aload_n hx hb dX12_sentence_36 rfl (lv_at hl 0 rfl) ?_
    obtain ⟨x17, hx17, hE⟩ := bd hE
    refine s_gI hx hb hT u_X12 hown hK hW hx17 rfl (by decide) fl_X12_104 rfl dX12_sentence_37 ?_
    refine lv_if_eq (tgt := 56) hx hb dX12_sentence_40 (by decide) (fun q18 => ?_) (fun q18 => ?_)
    · replace hE := ite_t q18 hE
      refine s_aload_n hx hb dX12_sentence_56 rfl (lv_at hl 0 rfl) ?_
      obtain ⟨x19, hx19, hE⟩ := bd hE
      refine s_gR hx hb hT u_X12 hown hK hW hx19 rfl (by decide) fl_X12_13 rfl dX12_sentence_57 ?_
      refine lv_sipush (v := (170 : Int32)) hx hb dX12_sentence_60 (by decide) ?_
      refine lv_iconst (v := (1 : Int32)) hx hb dX12_sentence_63 (by decide) ?_
      obtain ⟨f20, hf20, hE⟩ := bd hE
      refine s_stI hx hb hK hW hS hf20 dX12_sentence_64 (fun H locs hW hS => ?_)
      refine s_aload_n hx hb dX12_sentence_65 rfl (lv_at hl 0 rfl) ?_
      obtain ⟨x21, hx21, hE⟩ := bd hE
      refine s_gR hx hb hT u_X12 hown hK hW hx21 rfl (by decide) fl_X12_13 rfl dX12_sentence_66 ?_
      refine lv_sipush (v := (171 : Int32)) hx hb dX12_sentence_69 (by decide) ?_
      refine s_aload_n hx hb dX12_sentence_72 rfl (lv_at hl 0 rfl) ?_
      obtain ⟨x22, hx22, hE⟩ := bd hE
      refine s_gI hx hb hT u_X12 hown hK hW hx22 rfl (by decide) fl_X12_355 rfl dX12_sentence_73 ?_
      obtain ⟨f23, hf23, hE⟩ := bd hE
      refine s_stI hx hb hK hW hS hf23 dX12_sentence_76 (fun H locs hW hS => ?_)
      refine lv_iconst (v := (0 : Int32)) hx hb dX12_sentence_77 (by decide) ?_
      refine lv_istore_n (i := 1) (lv' := [(1, .int (0 : Int32)), (0, rr G u0)]) hx hb dX12_sentence_78 rfl hl (by decide) (by simp [cat_rr]) (fun ls hl => ?_)
      exact hC79 F _ _ _ _ _ _ hE hW hS (lv_sub hl [1, 0] rfl)
    · replace hE := ite_f q18 hE
      refine s_aload_n hx hb dX12_sentence_43 rfl (lv_at hl 0 rfl) ?_
      refine lv_iconst (v := (1 : Int32)) hx hb dX12_sentence_44 (by decide) ?_
      obtain ⟨c24, hE⟩ := ck hE
      obtain ⟨x25, f26, hx25, hE⟩ := bd2_of hE
      refine s_callV (As := [.int (1 : Int32)]) (rest := []) CF hK hW hS (S_X12_bad l G F hx25) c24 rfl gv_X12_148 hd_X12_bad ⟨Nat.le_of_ble_eq_true rfl, Nat.le_of_ble_eq_true rfl⟩ rfl hl.1 rfl (Nat.le_of_ble_eq_true rfl) dX12_sentence_45 ⟨Nat.le_refl _, Nat.le_refl _⟩ (fun H locs hW hS => ?_)
      refine lv_pop hx hb dX12_sentence_48 rfl ?_
      refine lv_iconst (v := (-1 : Int32)) hx hb dX12_sentence_49 (by decide) ?_
      refine s_aload_n hx hb dX12_sentence_50 rfl (lv_at hl 0 rfl) ?_
      obtain ⟨x27, hx27, hE⟩ := bd hE
      refine s_gI hx hb hT u_X12 hown hK hW hx27 rfl (by decide) fl_X12_145 rfl dX12_sentence_51 ?_
      refine lv_isub hx hb dX12_sentence_54 ?_
      obtain ⟨rfl, rfl⟩ := so2 hE
      exact s_iret hx hb hr hlocks hW hS dX12_sentence_55
  · replace hE := ite_t q16 hE
    refine lv_iconst (v := (-1 : Int32)) hx hb dX12_sentence_29 (by decide) ?_
    refine s_aload_n hx hb dX12_sentence_30 rfl (lv_at hl 0 rfl) ?_
    obtain ⟨x28, hx28, hE⟩ := bd hE
    refine s_gI hx hb hT u_X12 hown hK hW hx28 rfl (by decide) fl_X12_145 rfl dX12_sentence_31 ?_
    refine lv_isub hx hb dX12_sentence_34 ?_
    obtain ⟨rfl, rfl⟩ := so2 hE
    exact s_iret hx hb hr hlocks hW hS dX12_sentence_35
set_option maxHeartbeats 4000000 in
set_option maxRecDepth 100000 in
theorem S_X12_size (l : Launch) (G : GG) (F : Nat) {u0 : Option Nat} {u1 : Int32} {f : Hp} {r : Int32} {f' : Hp} {n : Nat} (hE : m_X12_size F u0 u1 f = some (r, f')) : Ctr l G yX12_size cX12_size 2 (some .int) 2 41 [rr G u0, .int u1] f n (some (.int r)) f' n 0 0 := by
  refine Met.ofW (cc := cX12_size) (maxL := 2) (ret := (some .int)) (by decide) rfl ?_
  intro p e s m args below meth c s₁ B hml hv
  obtain ⟨rfl, hK, hW⟩ := hv
  have hx := B.exec
  have hb := B.bytes
  have hr := B.returns
  have hts := atoms_spec (ws := wsO yX12_size cX12_size 2 (some .int)) B.pre
  have hT : ∀ w ∈ TB, w.before [rr G u0, .int u1].toArray s = true := fun w hw => hts w (List.mem_cons_of_mem _ hw)
  have hown : s.vm.findClass RX12 = some m.cls := findClass_of_methodNamed B.named
  have hlocks := B.notSynchronized
  have CF : CallFix p m c cX12_size 2 s [rr G u0, .int u1].toArray TB RX12 := ⟨hx, hb, hml, hown, hT⟩
  have hS : va_S (WA G) s.heap s.heap [] := va_S.rf
  have hl : lv_has (lg_sl ([rr G u0, .int u1]) ++ List.replicate (2 - (lg_sl ([rr G u0, .int u1])).length) Slot.unset).toArray 2 [(0, rr G u0), (1, .int u1)] := by cases u0 <;> exact lv_entry _ (Nat.le_of_ble_eq_true rfl)
  rw [lg_entry_eq]
  generalize (lg_sl ([rr G u0, .int u1]) ++ List.replicate (2 - (lg_sl ([rr G u0, .int u1])).length) Slot.unset).toArray = ls at hl ⊢
  refine s_aload_n hx hb dX12_size_0 rfl (lv_at hl 0 rfl) ?_
  refine lv_iconst (v := (0 : Int32)) hx hb dX12_size_1 (by decide) ?_
  obtain ⟨f1, hf1, hE⟩ := bd hE
  refine s_putI hx hb hT u_X12 tyX12 tyX12_ok nmX12 hown hK hW hS hf1 rfl (by decide) fl_X12_81 rfl (Or.inl rfl) rfl dX12_size_2 (fun H locs hW hS => ?_)
  refine s_aload_n hx hb dX12_size_5 rfl (lv_at hl 0 rfl) ?_
  obtain ⟨c2, hE⟩ := ck hE
  obtain ⟨f3, hf3, hE⟩ := bd hE
  refine s_callV (As := []) (rest := []) CF hK hW hS (S_X12_lay l G F hf3) c2 rfl gv_X12_164 hd_X12_lay ⟨Nat.le_of_ble_eq_true rfl, Nat.le_of_ble_eq_true rfl⟩ rfl hl.1 rfl (Nat.le_of_ble_eq_true rfl) dX12_size_6 ⟨Nat.le_refl _, Nat.le_refl _⟩ (fun H locs hW hS => ?_)
  refine s_aload_n hx hb dX12_size_9 rfl (lv_at hl 0 rfl) ?_
  refine lv_iload_n hx hb dX12_size_10 rfl (lv_at hl 1 rfl) ?_
  obtain ⟨c4, hE⟩ := ck hE
  obtain ⟨x5, hx5, hE⟩ := bd hE
  refine s_callV (As := [.int u1]) (rest := []) CF hK hW hS (S_X12_isCopy l G F hx5) c4 rfl gv_X12_241 hd_X12_isCopy ⟨Nat.le_of_ble_eq_true rfl, Nat.le_of_ble_eq_true rfl⟩ rfl hl.1 rfl (Nat.le_of_ble_eq_true rfl) dX12_size_11 ⟨Nat.le_refl _, Nat.le_refl _⟩ (fun H locs hW hS => ?_)
  refine lv_if_eq (tgt := 25) hx hb dX12_size_14 (by decide) (fun q6 => ?_) (fun q6 => ?_)
  · replace hE := ite_t q6 hE
    refine lv_iconst (v := (-1 : Int32)) hx hb dX12_size_25 (by decide) ?_
    obtain ⟨rfl, rfl⟩ := so2 hE
    exact s_iret hx hb hr hlocks hW hS dX12_size_26
  · replace hE := ite_f q6 hE
    refine s_aload_n hx hb dX12_size_17 rfl (lv_at hl 0 rfl) ?_
    refine lv_iload_n hx hb dX12_size_18 rfl (lv_at hl 1 rfl) ?_
    obtain ⟨c7, hE⟩ := ck hE
    obtain ⟨x8, hx8, hE⟩ := bd hE
    refine s_callV (As := [.int u1]) (rest := []) CF hK hW hS (S_X12_sizeOf l G F hx8) c7 rfl gv_X12_182 hd_X12_sizeOf ⟨Nat.le_of_ble_eq_true rfl, Nat.le_of_ble_eq_true rfl⟩ rfl hl.1 rfl (Nat.le_of_ble_eq_true rfl) dX12_size_19 ⟨Nat.le_refl _, Nat.le_refl _⟩ (fun H locs hW hS => ?_)
    refine lv_goto (tgt := 26) hx hb dX12_size_22 (by decide) ?_
    obtain ⟨rfl, rfl⟩ := so2 hE
    exact s_iret hx hb hr hlocks hW hS dX12_size_26
set_option maxHeartbeats 4000000 in
set_option maxRecDepth 100000 in
theorem S_X12_song (l : Launch) (G : GG) (F : Nat) {u0 : Option Nat} {u1 : Int32} {f : Hp} {r : Int32} {f' : Hp} {n : Nat} (hE : m_X12_song F u0 u1 f = some (r, f')) : Ctr l G yX12_song cX12_song 2 (some .int) 4 92 [rr G u0, .int u1] f n (some (.int r)) f' n 0 0 := by
  refine Met.ofW (cc := cX12_song) (maxL := 2) (ret := (some .int)) (by decide) rfl ?_
  intro p e s m args below meth c s₁ B hml hv
  obtain ⟨rfl, hK, hW⟩ := hv
  have hx := B.exec
  have hb := B.bytes
  have hr := B.returns
  have hts := atoms_spec (ws := wsO yX12_song cX12_song 2 (some .int)) B.pre
  have hT : ∀ w ∈ TB, w.before [rr G u0, .int u1].toArray s = true := fun w hw => hts w (List.mem_cons_of_mem _ hw)
  have hown : s.vm.findClass RX12 = some m.cls := findClass_of_methodNamed B.named
  have hlocks := B.notSynchronized
  have CF : CallFix p m c cX12_song 2 s [rr G u0, .int u1].toArray TB RX12 := ⟨hx, hb, hml, hown, hT⟩
  have hS : va_S (WA G) s.heap s.heap [] := va_S.rf
  have hl : lv_has (lg_sl ([rr G u0, .int u1]) ++ List.replicate (2 - (lg_sl ([rr G u0, .int u1])).length) Slot.unset).toArray 2 [(0, rr G u0), (1, .int u1)] := by cases u0 <;> exact lv_entry _ (Nat.le_of_ble_eq_true rfl)
  rw [lg_entry_eq]
  generalize (lg_sl ([rr G u0, .int u1]) ++ List.replicate (2 - (lg_sl ([rr G u0, .int u1])).length) Slot.unset).toArray = ls at hl ⊢
  refine s_aload_n hx hb dX12_song_0 rfl (lv_at hl 0 rfl) ?_
  refine lv_iconst (v := (0 : Int32)) hx hb dX12_song_1 (by decide) ?_
  obtain ⟨f1, hf1, hE⟩ := bd hE
  refine s_putI hx hb hT u_X12 tyX12 tyX12_ok nmX12 hown hK hW hS hf1 rfl (by decide) fl_X12_81 rfl (Or.inl rfl) rfl dX12_song_2 (fun H locs hW hS => ?_)
  refine s_aload_n hx hb dX12_song_5 rfl (lv_at hl 0 rfl) ?_
  obtain ⟨c2, hE⟩ := ck hE
  obtain ⟨f3, hf3, hE⟩ := bd hE
  refine s_callV (As := []) (rest := []) CF hK hW hS (S_X12_lay l G F hf3) c2 rfl gv_X12_164 hd_X12_lay ⟨Nat.le_of_ble_eq_true rfl, Nat.le_of_ble_eq_true rfl⟩ rfl hl.1 rfl (Nat.le_of_ble_eq_true rfl) dX12_song_6 ⟨Nat.le_refl _, Nat.le_refl _⟩ (fun H locs hW hS => ?_)
  refine s_aload_n hx hb dX12_song_9 rfl (lv_at hl 0 rfl) ?_
  refine lv_iload_n hx hb dX12_song_10 rfl (lv_at hl 1 rfl) ?_
  obtain ⟨c4, hE⟩ := ck hE
  obtain ⟨x5, hx5, hE⟩ := bd hE
  refine s_callV (As := [.int u1]) (rest := []) CF hK hW hS (S_X12_isOrder l G F hx5) c4 rfl gv_X12_254 hd_X12_isOrder ⟨Nat.le_of_ble_eq_true rfl, Nat.le_of_ble_eq_true rfl⟩ rfl hl.1 rfl (Nat.le_of_ble_eq_true rfl) dX12_song_11 ⟨Nat.le_refl _, Nat.le_refl _⟩ (fun H locs hW hS => ?_)
  refine lv_if_ne (tgt := 19) hx hb dX12_song_14 (by decide) (fun q6 => ?_) (fun q6 => ?_)
  · replace hE := ite_f q6 hE
    refine s_aload_n hx hb dX12_song_19 rfl (lv_at hl 0 rfl) ?_
    refine lv_iload_n hx hb dX12_song_20 rfl (lv_at hl 1 rfl) ?_
    refine s_aload_n hx hb dX12_song_21 rfl (lv_at hl 0 rfl) ?_
    obtain ⟨x7, hx7, hE⟩ := bd hE
    refine s_gR hx hb hT u_X12 hown hK hW hx7 rfl (by decide) fl_X12_42 rfl dX12_song_22 ?_
    obtain ⟨c8, hE⟩ := ck hE
    obtain ⟨f9, hf9, hE⟩ := bd hE
    refine s_callV (As := [.int u1, rr G x7]) (rest := []) CF hK hW hS (S_X12_layOrder l G F hf9) c8 rfl gv_X12_292 hd_X12_layOrder ⟨Nat.le_of_ble_eq_true rfl, Nat.le_of_ble_eq_true rfl⟩ rfl hl.1 rfl (Nat.le_of_ble_eq_true rfl) dX12_song_25 ⟨Nat.le_refl _, Nat.le_refl _⟩ (fun H locs hW hS => ?_)
    refine s_aload_n hx hb dX12_song_28 rfl (lv_at hl 0 rfl) ?_
    refine s_aload_n hx hb dX12_song_29 rfl (lv_at hl 0 rfl) ?_
    obtain ⟨x10, hx10, hE⟩ := bd hE
    refine s_gR hx hb hT u_X12 hown hK hW hx10 rfl (by decide) fl_X12_42 rfl dX12_song_30 ?_
    obtain ⟨c11, hE⟩ := ck hE
    obtain ⟨x12, hx12, hE⟩ := bd hE
    refine s_callV (As := [rr G x10]) (rest := []) CF hK hW hS (S_X12_songOf l G F hx12) c11 rfl gv_X12_342 hd_X12_songOf ⟨Nat.le_of_ble_eq_true rfl, Nat.le_of_ble_eq_true rfl⟩ rfl hl.1 rfl (Nat.le_of_ble_eq_true rfl) dX12_song_33 ⟨Nat.le_refl _, Nat.le_refl _⟩ (fun H locs hW hS => ?_)
    obtain ⟨rfl, rfl⟩ := so2 hE
    exact s_iret hx hb hr hlocks hW hS dX12_song_36
  · replace hE := ite_t q6 hE
    refine lv_iconst (v := (-1 : Int32)) hx hb dX12_song_17 (by decide) ?_
    obtain ⟨rfl, rfl⟩ := so2 hE
    exact s_iret hx hb hr hlocks hW hS dX12_song_18
set_option maxHeartbeats 4000000 in
set_option maxRecDepth 100000 in
theorem S_X12_thrown (l : Launch) (G : GG) (F : Nat) {u0 : Option Nat} {f : Hp} {r : Int32} {n : Nat} (hE : m_X12_thrown F u0 f = some r) : Ctr l G yX12_thrown cX12_thrown 1 (some .int) 0 0 [rr G u0] f n (some (.int r)) f n 0 0 := by
  refine Met.ofW (cc := cX12_thrown) (maxL := 1) (ret := (some .int)) (by decide) rfl ?_
  intro p e s m args below meth c s₁ B hml hv
  obtain ⟨rfl, hK, hW⟩ := hv
  have hx := B.exec
  have hb := B.bytes
  have hr := B.returns
  have hts := atoms_spec (ws := wsO yX12_thrown cX12_thrown 1 (some .int)) B.pre
  have hT : ∀ w ∈ TB, w.before [rr G u0].toArray s = true := fun w hw => hts w (List.mem_cons_of_mem _ hw)
  have hown : s.vm.findClass RX12 = some m.cls := findClass_of_methodNamed B.named
  have hlocks := B.notSynchronized
  have CF : CallFix p m c cX12_thrown 1 s [rr G u0].toArray TB RX12 := ⟨hx, hb, hml, hown, hT⟩
  have hS : va_S (WA G) s.heap s.heap [] := va_S.rf
  have hl : lv_has (lg_sl ([rr G u0]) ++ List.replicate (1 - (lg_sl ([rr G u0])).length) Slot.unset).toArray 1 [(0, rr G u0)] := by cases u0 <;> exact lv_entry _ (Nat.le_of_ble_eq_true rfl)
  rw [lg_entry_eq]
  generalize (lg_sl ([rr G u0]) ++ List.replicate (1 - (lg_sl ([rr G u0])).length) Slot.unset).toArray = ls at hl ⊢
  refine s_aload_n hx hb dX12_thrown_0 rfl (lv_at hl 0 rfl) ?_
  obtain ⟨x1, hx1, hE⟩ := bd hE
  refine s_gI hx hb hT u_X12 hown hK hW hx1 rfl (by decide) fl_X12_81 rfl dX12_thrown_1 ?_
  obtain rfl := so1 hE
  exact s_iret hx hb hr hlocks hW hS dX12_thrown_4
set_option maxHeartbeats 4000000 in
set_option maxRecDepth 100000 in
theorem S_X12_tree (l : Launch) (G : GG) (F : Nat) {u0 : Option Nat} {f : Hp} {r : Int32} {f' : Hp} {n : Nat} (hE : m_X12_tree F u0 f = some (r, f')) : Ctr l G yX12_tree cX12_tree 5 (some .int) 4 89 [rr G u0] f n (some (.int r)) f' n 0 0 := by
  refine Met.ofW (cc := cX12_tree) (maxL := 5) (ret := (some .int)) (by decide) rfl ?_
  intro p e s m args below meth c s₁ B hml hv
  obtain ⟨rfl, hK, hW⟩ := hv
  have hx := B.exec
  have hb := B.bytes
  have hr := B.returns
  have hts := atoms_spec (ws := wsO yX12_tree cX12_tree 5 (some .int)) B.pre
  have hT : ∀ w ∈ TB, w.before [rr G u0].toArray s = true := fun w hw => hts w (List.mem_cons_of_mem _ hw)
  have hown : s.vm.findClass RX12 = some m.cls := findClass_of_methodNamed B.named
  have hlocks := B.notSynchronized
  have CF : CallFix p m c cX12_tree 5 s [rr G u0].toArray TB RX12 := ⟨hx, hb, hml, hown, hT⟩
  have hS : va_S (WA G) s.heap s.heap [] := va_S.rf
  have hl : lv_has (lg_sl ([rr G u0]) ++ List.replicate (5 - (lg_sl ([rr G u0])).length) Slot.unset).toArray 5 [(0, rr G u0)] := by cases u0 <;> exact lv_entry _ (Nat.le_of_ble_eq_true rfl)
  rw [lg_entry_eq]
  generalize (lg_sl ([rr G u0]) ++ List.replicate (5 - (lg_sl ([rr G u0])).length) Slot.unset).toArray = ls at hl ⊢
  have hC128 : ∀ (k128 : Nat), ∀ (v0 : Option Nat) (v1 : Int32) (v3 : Int32) (v4 : Int32) (fa : Hp) (H : Heap) (locs : List Loc) (ls : Array Slot), m_X12_tree_L128 F k128 v0 v1 v3 v4 fa = some (r, f') → Wd G fa n H → va_S (WA G) s.heap H locs → lv_has ls 5 [(0, rr G v0), (1, .int v1), (3, .int v3), (4, .int v4)] → W p l e (headSpec (wsO yX12_tree cX12_tree 5 (some .int)) { frames := 4, cells := 0, slots := 0, locals := 89 }).room s m [rr G u0].toArray below meth c H locs 0 0 (MQ below (Qcn G (some (.int r)) f' n) [rr G u0].toArray s 0 0 (WA G)) (F0 m 128 ls []) := by
    intro k128
    induction k128 with
    | zero => intro v0 v1 v3 v4 fa H locs ls hE _ _ _; cases (show (none : Option ((Int32) × Hp)) = some (r, f') from hE)
    | succ k128 ih128 =>
      intro v0 v1 v3 v4 fa H locs ls hE hW hS hl
      replace hE : m_X12_tree_b128 F (m_X12_tree_L128 F k128) v0 v1 v3 v4 fa = some (r, f') := hE
      refine lv_iload hx hb dX12_tree_128 (lv_at hl 3 rfl) ?_
      refine lv_iload_n hx hb dX12_tree_130 rfl (lv_at hl 1 rfl) ?_
      refine lv_icmp_ge (tgt := 174) hx hb dX12_tree_131 (by decide) (fun q28 => ?_) (fun q28 => ?_)
      · replace hE := ite_t q28 hE
        refine lv_iload_n hx hb dX12_tree_174 rfl (lv_at hl 2 rfl) ?_
        obtain ⟨rfl, rfl⟩ := so2 hE
        exact s_iret hx hb hr hlocks hW hS dX12_tree_175
      · replace hE := ite_f q28 hE
        refine s_aload_n hx hb dX12_tree_134 rfl (lv_at hl 0 rfl) ?_
        obtain ⟨x29, hx29, hE⟩ := bd hE
        refine s_gR hx hb hT u_X12 hown hK hW hx29 rfl (by decide) fl_X12_60 rfl dX12_tree_135 ?_
        refine lv_iload hx hb dX12_tree_138 (lv_at hl 3 rfl) ?_
        refine s_aload_n hx hb dX12_tree_140 rfl (lv_at hl 0 rfl) ?_
        obtain ⟨x30, hx30, hE⟩ := bd hE
        refine s_gR hx hb hT u_X12 hown hK hW hx30 rfl (by decide) fl_X12_51 rfl dX12_tree_141 ?_
        refine lv_iload hx hb dX12_tree_144 (lv_at hl 3 rfl) ?_
        obtain ⟨x31, hx31, hE⟩ := bd hE
        refine s_ldI hx hb hK hW hS hx31 dX12_tree_146 ?_
        refine lv_iconst (v := (-1 : Int32)) hx hb dX12_tree_147 (by decide) ?_
        refine lv_icmp_ne (tgt := 155) hx hb dX12_tree_148 (by decide) (fun q32 => ?_) (fun q32 => ?_)
        · replace hE := ite_f q32 hE
          refine s_aload_n hx hb dX12_tree_155 rfl (lv_at hl 0 rfl) ?_
          obtain ⟨x33, hx33, hE⟩ := bd hE
          refine s_gR hx hb hT u_X12 hown hK hW hx33 rfl (by decide) fl_X12_48 rfl dX12_tree_156 ?_
          refine s_aload_n hx hb dX12_tree_159 rfl (lv_at hl 0 rfl) ?_
          obtain ⟨x34, hx34, hE⟩ := bd hE
          refine s_gR hx hb hT u_X12 hown hK hW hx34 rfl (by decide) fl_X12_51 rfl dX12_tree_160 ?_
          refine lv_iload hx hb dX12_tree_163 (lv_at hl 3 rfl) ?_
          obtain ⟨x35, hx35, hE⟩ := bd hE
          refine s_ldI hx hb hK hW hS hx35 dX12_tree_165 ?_
          obtain ⟨x36, hx36, hE⟩ := bd hE
          refine s_ldI hx hb hK hW hS hx36 dX12_tree_166 ?_
          obtain ⟨f37, hf37, hE⟩ := bd hE
          refine s_stI hx hb hK hW hS hf37 dX12_tree_167 (fun H locs hW hS => ?_)
          obtain ⟨y38, ey38⟩ : ∃ y : Int32, y = v4 + (1 : Int32) := ⟨_, rfl⟩
          replace hE := nm_o ey38 hE
          refine lv_iinc (k := 3) (v := y38) (lv' := [(4, .int y38), (0, rr G v0), (1, .int v1), (3, .int v3)]) hx hb dX12_tree_168 hl rfl (by rw [ey38]; rfl) (by decide) rfl (fun ls hl => ?_)
          refine lv_goto (tgt := 128) hx hb dX12_tree_171 (by decide) ?_
          exact ih128 _ _ _ _ _ _ _ _ hE hW hS (lv_sub hl [1, 2, 3, 0] rfl)
        · replace hE := ite_t q32 hE
          refine lv_iconst (v := (-1 : Int32)) hx hb dX12_tree_151 (by decide) ?_
          refine lv_goto (tgt := 167) hx hb dX12_tree_152 (by decide) ?_
          obtain ⟨f39, hf39, hE⟩ := bd hE
          refine s_stI hx hb hK hW hS hf39 dX12_tree_167 (fun H locs hW hS => ?_)
          obtain ⟨y40, ey40⟩ : ∃ y : Int32, y = v4 + (1 : Int32) := ⟨_, rfl⟩
          replace hE := nm_o ey40 hE
          refine lv_iinc (k := 3) (v := y40) (lv' := [(4, .int y40), (0, rr G v0), (1, .int v1), (3, .int v3)]) hx hb dX12_tree_168 hl rfl (by rw [ey40]; rfl) (by decide) rfl (fun ls hl => ?_)
          refine lv_goto (tgt := 128) hx hb dX12_tree_171 (by decide) ?_
          exact ih128 _ _ _ _ _ _ _ _ hE hW hS (lv_sub hl [1, 2, 3, 0] rfl)
  have hC110 : ∀ (v0 : Option Nat) (v1 : Int32) (fa : Hp) (H : Heap) (locs : List Loc) (ls : Array Slot), m_X12_tree_B110 F v0 v1 fa = some (r, f') → Wd G fa n H → va_S (WA G) s.heap H locs → lv_has ls 5 [(0, rr G v0), (1, .int v1)] → W p l e (headSpec (wsO yX12_tree cX12_tree 5 (some .int)) { frames := 4, cells := 0, slots := 0, locals := 89 }).room s m [rr G u0].toArray below meth c H locs 0 0 (MQ below (Qcn G (some (.int r)) f' n) [rr G u0].toArray s 0 0 (WA G)) (F0 m 110 ls []) := by
    intro v0 v1 fa H locs ls hE hW hS hl
    refine s_aload_n hx hb dX12_tree_110 rfl (lv_at hl 0 rfl) ?_
    obtain ⟨c22, hE⟩ := ck hE
    obtain ⟨f23, hf23, hE⟩ := bd hE
    refine s_callV (As := []) (rest := []) CF hK hW hS (S_X12_layApart l G F hf23) c22 rfl gv_X12_301 hd_X12_layApart ⟨Nat.le_of_ble_eq_true rfl, Nat.le_of_ble_eq_true rfl⟩ rfl hl.1 rfl (Nat.le_of_ble_eq_true rfl) dX12_tree_111 ⟨Nat.le_refl _, Nat.le_refl _⟩ (fun H locs hW hS => ?_)
    refine s_aload_n hx hb dX12_tree_114 rfl (lv_at hl 0 rfl) ?_
    refine lv_iload_n hx hb dX12_tree_115 rfl (lv_at hl 1 rfl) ?_
    obtain ⟨c24, hE⟩ := ck hE
    obtain ⟨x25, f26, hx25, hE⟩ := bd2_of hE
    refine s_callV (As := [.int v1]) (rest := []) CF hK hW hS (S_X12_joins l G F hx25) c24 rfl gv_X12_304 hd_X12_joins ⟨Nat.le_of_ble_eq_true rfl, Nat.le_of_ble_eq_true rfl⟩ rfl hl.1 rfl (Nat.le_of_ble_eq_true rfl) dX12_tree_116 ⟨Nat.le_refl _, Nat.le_refl _⟩ (fun H locs hW hS => ?_)
    refine lv_istore_n (i := 3) (lv' := [(3, .int x25), (0, rr G v0), (1, .int v1)]) hx hb dX12_tree_119 rfl hl (by decide) rfl (fun ls hl => ?_)
    refine s_aload_n hx hb dX12_tree_120 rfl (lv_at hl 1 rfl) ?_
    refine lv_iload_n hx hb dX12_tree_121 rfl (lv_at hl 2 rfl) ?_
    obtain ⟨f27, hf27, hE⟩ := bd hE
    refine s_putI hx hb hT u_X12 tyX12 tyX12_ok nmX12 hown hK hW hS hf27 rfl (by decide) fl_X12_307 rfl (Or.inl rfl) rfl dX12_tree_122 (fun H locs hW hS => ?_)
    refine lv_iconst (v := (0 : Int32)) hx hb dX12_tree_125 (by decide) ?_
    refine lv_istore (lv' := [(4, .int (0 : Int32)), (3, .int x25), (0, rr G v0), (1, .int v1)]) hx hb dX12_tree_126 hl (by decide) rfl (fun ls hl => ?_)
    exact hC128 F _ _ _ _ _ _ _ _ hE hW hS (lv_sub hl [2, 3, 1, 0] rfl)
  have hC87 : ∀ (k87 : Nat), ∀ (v0 : Option Nat) (v1 : Int32) (v3 : Int32) (fa : Hp) (H : Heap) (locs : List Loc) (ls : Array Slot), m_X12_tree_L87 F k87 v0 v1 v3 fa = some (r, f') → Wd G fa n H → va_S (WA G) s.heap H locs → lv_has ls 5 [(0, rr G v0), (1, .int v1), (3, .int v3)] → W p l e (headSpec (wsO yX12_tree cX12_tree 5 (some .int)) { frames := 4, cells := 0, slots := 0, locals := 89 }).room s m [rr G u0].toArray below meth c H locs 0 0 (MQ below (Qcn G (some (.int r)) f' n) [rr G u0].toArray s 0 0 (WA G)) (F0 m 87 ls []) := by
    intro k87
    induction k87 with
    | zero => intro v0 v1 v3 fa H locs ls hE _ _ _; cases (show (none : Option ((Int32) × Hp)) = some (r, f') from hE)
    | succ k87 ih87 =>
      intro v0 v1 v3 fa H locs ls hE hW hS hl
      replace hE : m_X12_tree_b87 F (m_X12_tree_L87 F k87) v0 v1 v3 fa = some (r, f') := hE
      refine lv_iload_n hx hb dX12_tree_87 rfl (lv_at hl 2 rfl) ?_
      refine lv_iload_n hx hb dX12_tree_88 rfl (lv_at hl 1 rfl) ?_
      refine lv_icmp_ge (tgt := 110) hx hb dX12_tree_89 (by decide) (fun q16 => ?_) (fun q16 => ?_)
      · replace hE := ite_t q16 hE
        exact hC110 _ _ _ _ _ _ hE hW hS (lv_sub hl [0, 1] rfl)
      · replace hE := ite_f q16 hE
        refine s_aload_n hx hb dX12_tree_92 rfl (lv_at hl 0 rfl) ?_
        obtain ⟨x17, hx17, hE⟩ := bd hE
        refine s_gR hx hb hT u_X12 hown hK hW hx17 rfl (by decide) fl_X12_48 rfl dX12_tree_93 ?_
        refine lv_iload_n hx hb dX12_tree_96 rfl (lv_at hl 2 rfl) ?_
        refine s_aload_n hx hb dX12_tree_97 rfl (lv_at hl 0 rfl) ?_
        obtain ⟨x18, hx18, hE⟩ := bd hE
        refine s_gR hx hb hT u_X12 hown hK hW hx18 rfl (by decide) fl_X12_7 rfl dX12_tree_98 ?_
        refine lv_iload_n hx hb dX12_tree_101 rfl (lv_at hl 2 rfl) ?_
        obtain ⟨x19, hx19, hE⟩ := bd hE
        refine s_ldI hx hb hK hW hS hx19 dX12_tree_102 ?_
        obtain ⟨f20, hf20, hE⟩ := bd hE
        refine s_stI hx hb hK hW hS hf20 dX12_tree_103 (fun H locs hW hS => ?_)
        obtain ⟨y21, ey21⟩ : ∃ y : Int32, y = v3 + (1 : Int32) := ⟨_, rfl⟩
        replace hE := nm_o ey21 hE
        refine lv_iinc (k := 2) (v := y21) (lv' := [(3, .int y21), (0, rr G v0), (1, .int v1)]) hx hb dX12_tree_104 hl rfl (by rw [ey21]; rfl) (by decide) rfl (fun ls hl => ?_)
        refine lv_goto (tgt := 87) hx hb dX12_tree_107 (by decide) ?_
        exact ih87 _ _ _ _ _ _ _ hE hW hS (lv_sub hl [1, 2, 0] rfl)
  have hC30 : ∀ (k30 : Nat), ∀ (v0 : Option Nat) (v1 : Int32) (v2 : Int32) (v3 : Int32) (fa : Hp) (H : Heap) (locs : List Loc) (ls : Array Slot), m_X12_tree_L30 F k30 v0 v1 v2 v3 fa = some (r, f') → Wd G fa n H → va_S (WA G) s.heap H locs → lv_has ls 5 [(0, rr G v0), (1, .int v1), (2, .int v2), (3, .int v3)] → W p l e (headSpec (wsO yX12_tree cX12_tree 5 (some .int)) { frames := 4, cells := 0, slots := 0, locals := 89 }).room s m [rr G u0].toArray below meth c H locs 0 0 (MQ below (Qcn G (some (.int r)) f' n) [rr G u0].toArray s 0 0 (WA G)) (F0 m 30 ls []) := by
    intro k30
    induction k30 with
    | zero => intro v0 v1 v2 v3 fa H locs ls hE _ _ _; cases (show (none : Option ((Int32) × Hp)) = some (r, f') from hE)
    | succ k30 ih30 =>
      intro v0 v1 v2 v3 fa H locs ls hE hW hS hl
      replace hE : m_X12_tree_b30 F (m_X12_tree_L30 F k30) v0 v1 v2 v3 fa = some (r, f') := hE
      refine lv_iload_n hx hb dX12_tree_30 rfl (lv_at hl 3 rfl) ?_
      refine lv_iload_n hx hb dX12_tree_31 rfl (lv_at hl 1 rfl) ?_
      refine lv_icmp_ge (tgt := 80) hx hb dX12_tree_32 (by decide) (fun q1 => ?_) (fun q1 => ?_)
      · replace hE := ite_t q1 hE
        refine s_aload_n hx hb dX12_tree_80 rfl (lv_at hl 0 rfl) ?_
        refine lv_iload_n hx hb dX12_tree_81 rfl (lv_at hl 1 rfl) ?_
        obtain ⟨f2, hf2, hE⟩ := bd hE
        refine s_putI hx hb hT u_X12 tyX12 tyX12_ok nmX12 hown hK hW hS hf2 rfl (by decide) fl_X12_298 rfl (Or.inl rfl) rfl dX12_tree_82 (fun H locs hW hS => ?_)
        refine lv_iconst (v := (0 : Int32)) hx hb dX12_tree_85 (by decide) ?_
        refine lv_istore_n (i := 3) (lv' := [(3, .int (0 : Int32)), (0, rr G v0), (1, .int v1), (2, .int v2)]) hx hb dX12_tree_86 rfl hl (by decide) rfl (fun ls hl => ?_)
        exact hC87 F _ _ _ _ _ _ _ hE hW hS (lv_sub hl [1, 2, 0] rfl)
      · replace hE := ite_f q1 hE
        refine s_aload_n hx hb dX12_tree_35 rfl (lv_at hl 0 rfl) ?_
        refine s_aload_n hx hb dX12_tree_36 rfl (lv_at hl 0 rfl) ?_
        obtain ⟨x3, hx3, hE⟩ := bd hE
        refine s_gR hx hb hT u_X12 hown hK hW hx3 rfl (by decide) fl_X12_7 rfl dX12_tree_37 ?_
        refine lv_iload_n hx hb dX12_tree_40 rfl (lv_at hl 3 rfl) ?_
        obtain ⟨x4, hx4, hE⟩ := bd hE
        refine s_ldI hx hb hK hW hS hx4 dX12_tree_41 ?_
        obtain ⟨c5, hE⟩ := ck hE
        obtain ⟨x6, hx6, hE⟩ := bd hE
        refine s_callV (As := [.int x4]) (rest := []) CF hK hW hS (S_X12_isCopy l G F hx6) c5 rfl gv_X12_241 hd_X12_isCopy ⟨Nat.le_of_ble_eq_true rfl, Nat.le_of_ble_eq_true rfl⟩ rfl hl.1 rfl (Nat.le_of_ble_eq_true rfl) dX12_tree_42 ⟨Nat.le_refl _, Nat.le_refl _⟩ (fun H locs hW hS => ?_)
        refine lv_if_eq (tgt := 61) hx hb dX12_tree_45 (by decide) (fun q7 => ?_) (fun q7 => ?_)
        · replace hE := ite_t q7 hE
          refine lv_iconst (v := (-1 : Int32)) hx hb dX12_tree_61 (by decide) ?_
          obtain ⟨rfl, rfl⟩ := so2 hE
          exact s_iret hx hb hr hlocks hW hS dX12_tree_62
        · replace hE := ite_f q7 hE
          refine lv_iload_n hx hb dX12_tree_48 rfl (lv_at hl 2 rfl) ?_
          refine s_aload_n hx hb dX12_tree_49 rfl (lv_at hl 0 rfl) ?_
          obtain ⟨x8, hx8, hE⟩ := bd hE
          refine s_gR hx hb hT u_X12 hown hK hW hx8 rfl (by decide) fl_X12_7 rfl dX12_tree_50 ?_
          refine lv_iload_n hx hb dX12_tree_53 rfl (lv_at hl 3 rfl) ?_
          obtain ⟨x9, hx9, hE⟩ := bd hE
          refine s_ldI hx hb hK hW hS hx9 dX12_tree_54 ?_
          obtain ⟨x10, hx10, hE⟩ := bd hE
          refine s_callS (As := [.int v2, .int x9]) (rest := []) CF hK hW hS (S_X12_has l G F hx10) gs_X12_198 hd_X12_has.2 ⟨Nat.le_of_ble_eq_true rfl, Nat.le_of_ble_eq_true rfl⟩ rfl hl.1 rfl (Nat.le_of_ble_eq_true rfl) dX12_tree_55 ⟨Nat.le_refl _, Nat.le_refl _⟩ (fun H locs hW hS => ?_)
          refine lv_if_eq (tgt := 63) hx hb dX12_tree_58 (by decide) (fun q11 => ?_) (fun q11 => ?_)
          · replace hE := ite_t q11 hE
            refine lv_iload_n hx hb dX12_tree_63 rfl (lv_at hl 2 rfl) ?_
            refine lv_iconst (v := (1 : Int32)) hx hb dX12_tree_64 (by decide) ?_
            refine s_aload_n hx hb dX12_tree_65 rfl (lv_at hl 0 rfl) ?_
            obtain ⟨x12, hx12, hE⟩ := bd hE
            refine s_gR hx hb hT u_X12 hown hK hW hx12 rfl (by decide) fl_X12_7 rfl dX12_tree_66 ?_
            refine lv_iload_n hx hb dX12_tree_69 rfl (lv_at hl 3 rfl) ?_
            obtain ⟨x13, hx13, hE⟩ := bd hE
            refine s_ldI hx hb hK hW hS hx13 dX12_tree_70 ?_
            refine lv_ishl hx hb dX12_tree_71 ?_
            refine lv_ior hx hb dX12_tree_72 ?_
            refine lv_topi (fun y14 ey14 => ?_)
            replace hE := nm_o ey14 hE
            refine lv_istore_n (i := 2) (lv' := [(2, .int y14), (0, rr G v0), (1, .int v1), (3, .int v3)]) hx hb dX12_tree_73 rfl hl (by decide) rfl (fun ls hl => ?_)
            obtain ⟨y15, ey15⟩ : ∃ y : Int32, y = v3 + (1 : Int32) := ⟨_, rfl⟩
            replace hE := nm_o ey15 hE
            refine lv_iinc (k := 3) (v := y15) (lv' := [(3, .int y15), (2, .int y14), (0, rr G v0), (1, .int v1)]) hx hb dX12_tree_74 hl rfl (by rw [ey15]; rfl) (by decide) rfl (fun ls hl => ?_)
            refine lv_goto (tgt := 30) hx hb dX12_tree_77 (by decide) ?_
            exact ih30 _ _ _ _ _ _ _ _ hE hW hS (lv_sub hl [2, 3, 1, 0] rfl)
          · replace hE := ite_f q11 hE
            refine lv_iconst (v := (-1 : Int32)) hx hb dX12_tree_61 (by decide) ?_
            obtain ⟨rfl, rfl⟩ := so2 hE
            exact s_iret hx hb hr hlocks hW hS dX12_tree_62
  refine s_aload_n hx hb dX12_tree_0 rfl (lv_at hl 0 rfl) ?_
  refine lv_iconst (v := (0 : Int32)) hx hb dX12_tree_1 (by decide) ?_
  obtain ⟨f41, hf41, hE⟩ := bd hE
  refine s_putI hx hb hT u_X12 tyX12 tyX12_ok nmX12 hown hK hW hS hf41 rfl (by decide) fl_X12_81 rfl (Or.inl rfl) rfl dX12_tree_2 (fun H locs hW hS => ?_)
  refine s_aload_n hx hb dX12_tree_5 rfl (lv_at hl 0 rfl) ?_
  obtain ⟨c42, hE⟩ := ck hE
  obtain ⟨f43, hf43, hE⟩ := bd hE
  refine s_callV (As := []) (rest := []) CF hK hW hS (S_X12_lay l G F hf43) c42 rfl gv_X12_164 hd_X12_lay ⟨Nat.le_of_ble_eq_true rfl, Nat.le_of_ble_eq_true rfl⟩ rfl hl.1 rfl (Nat.le_of_ble_eq_true rfl) dX12_tree_6 ⟨Nat.le_refl _, Nat.le_refl _⟩ (fun H locs hW hS => ?_)
  refine s_aload_n hx hb dX12_tree_9 rfl (lv_at hl 0 rfl) ?_
  obtain ⟨c44, hE⟩ := ck hE
  obtain ⟨x45, f46, hx45, hE⟩ := bd2_of hE
  refine s_callV (As := []) (rest := []) CF hK hW hS (S_X12_take l G F hx45) c44 rfl gv_X12_167 hd_X12_take ⟨Nat.le_of_ble_eq_true rfl, Nat.le_of_ble_eq_true rfl⟩ rfl hl.1 rfl (Nat.le_of_ble_eq_true rfl) dX12_tree_10 ⟨Nat.le_refl _, Nat.le_refl _⟩ (fun H locs hW hS => ?_)
  refine lv_istore_n (i := 1) (lv' := [(1, .int x45), (0, rr G u0)]) hx hb dX12_tree_13 rfl hl (by decide) (by simp [cat_rr]) (fun ls hl => ?_)
  refine lv_iload_n hx hb dX12_tree_14 rfl (lv_at hl 0 rfl) ?_
  refine lv_iconst (v := (1 : Int32)) hx hb dX12_tree_15 (by decide) ?_
  refine lv_bipush (v := (9 : Int32)) hx hb dX12_tree_16 (by decide) ?_
  obtain ⟨x47, hx47, hE⟩ := bd hE
  refine s_callS (As := [.int x45, .int (1 : Int32), .int (9 : Int32)]) (rest := []) CF hK hW hS (S_X12_isIn l G F hx47) gs_X12_151 hd_X12_isIn.2 ⟨Nat.le_of_ble_eq_true rfl, Nat.le_of_ble_eq_true rfl⟩ rfl hl.1 rfl (Nat.le_of_ble_eq_true rfl) dX12_tree_18 ⟨Nat.le_refl _, Nat.le_refl _⟩ (fun H locs hW hS => ?_)
  refine lv_if_ne (tgt := 26) hx hb dX12_tree_21 (by decide) (fun q48 => ?_) (fun q48 => ?_)
  · replace hE := ite_f q48 hE
    refine lv_iconst (v := (0 : Int32)) hx hb dX12_tree_26 (by decide) ?_
    refine lv_istore_n (i := 2) (lv' := [(2, .int (0 : Int32)), (1, .int x45), (0, rr G u0)]) hx hb dX12_tree_27 rfl hl (by decide) rfl (fun ls hl => ?_)
    refine lv_iconst (v := (0 : Int32)) hx hb dX12_tree_28 (by decide) ?_
    refine lv_istore_n (i := 3) (lv' := [(3, .int (0 : Int32)), (2, .int (0 : Int32)), (1, .int x45), (0, rr G u0)]) hx hb dX12_tree_29 rfl hl (by decide) rfl (fun ls hl => ?_)
    exact hC30 F _ _ _ _ _ _ _ _ hE hW hS (lv_sub hl [3, 2, 1, 0] rfl)
  · replace hE := ite_t q48 hE
    refine lv_iconst (v := (-1 : Int32)) hx hb dX12_tree_24 (by decide) ?_
    obtain ⟨rfl, rfl⟩ := so2 hE
    exact s_iret hx hb hr hlocks hW hS dX12_tree_25
set_option maxHeartbeats 4000000 in
set_option maxRecDepth 100000 in
theorem S_X12_ways (l : Launch) (G : GG) (F : Nat) {u0 : Option Nat} {u1 : Int32} {u2 : Int32} {u3 : Int32} {f : Hp} {r : Int64} {f' : Hp} {n : Nat} (hE : m_X12_ways F u0 u1 u2 u3 f = some (r, f')) : Ctr l G yX12_ways cX12_ways 4 (some .long) 5 119 [rr G u0, .int u1, .int u2, .int u3] f n (some (.long r)) f' n 0 0 := by
  refine Met.ofW (cc := cX12_ways) (maxL := 4) (ret := (some .long)) (by decide) rfl ?_
  intro p e s m args below meth c s₁ B hml hv
  obtain ⟨rfl, hK, hW⟩ := hv
  have hx := B.exec
  have hb := B.bytes
  have hr := B.returns
  have hts := atoms_spec (ws := wsO yX12_ways cX12_ways 4 (some .long)) B.pre
  have hT : ∀ w ∈ TB, w.before [rr G u0, .int u1, .int u2, .int u3].toArray s = true := fun w hw => hts w (List.mem_cons_of_mem _ hw)
  have hown : s.vm.findClass RX12 = some m.cls := findClass_of_methodNamed B.named
  have hlocks := B.notSynchronized
  have CF : CallFix p m c cX12_ways 4 s [rr G u0, .int u1, .int u2, .int u3].toArray TB RX12 := ⟨hx, hb, hml, hown, hT⟩
  have hS : va_S (WA G) s.heap s.heap [] := va_S.rf
  have hl : lv_has (lg_sl ([rr G u0, .int u1, .int u2, .int u3]) ++ List.replicate (4 - (lg_sl ([rr G u0, .int u1, .int u2, .int u3])).length) Slot.unset).toArray 4 [(0, rr G u0), (1, .int u1), (2, .int u2), (3, .int u3)] := by cases u0 <;> exact lv_entry _ (Nat.le_of_ble_eq_true rfl)
  rw [lg_entry_eq]
  generalize (lg_sl ([rr G u0, .int u1, .int u2, .int u3]) ++ List.replicate (4 - (lg_sl ([rr G u0, .int u1, .int u2, .int u3])).length) Slot.unset).toArray = ls at hl ⊢
  refine s_aload_n hx hb dX12_ways_0 rfl (lv_at hl 0 rfl) ?_
  refine lv_iconst (v := (0 : Int32)) hx hb dX12_ways_1 (by decide) ?_
  obtain ⟨f1, hf1, hE⟩ := bd hE
  refine s_putI hx hb hT u_X12 tyX12 tyX12_ok nmX12 hown hK hW hS hf1 rfl (by decide) fl_X12_81 rfl (Or.inl rfl) rfl dX12_ways_2 (fun H locs hW hS => ?_)
  refine s_aload_n hx hb dX12_ways_5 rfl (lv_at hl 0 rfl) ?_
  obtain ⟨c2, hE⟩ := ck hE
  obtain ⟨f3, hf3, hE⟩ := bd hE
  refine s_callV (As := []) (rest := []) CF hK hW hS (S_X12_lay l G F hf3) c2 rfl gv_X12_164 hd_X12_lay ⟨Nat.le_of_ble_eq_true rfl, Nat.le_of_ble_eq_true rfl⟩ rfl hl.1 rfl (Nat.le_of_ble_eq_true rfl) dX12_ways_6 ⟨Nat.le_refl _, Nat.le_refl _⟩ (fun H locs hW hS => ?_)
  refine s_aload_n hx hb dX12_ways_9 rfl (lv_at hl 0 rfl) ?_
  refine lv_iload_n hx hb dX12_ways_10 rfl (lv_at hl 1 rfl) ?_
  obtain ⟨c4, hE⟩ := ck hE
  obtain ⟨x5, hx5, hE⟩ := bd hE
  refine s_callV (As := [.int u1]) (rest := []) CF hK hW hS (S_X12_isOrder l G F hx5) c4 rfl gv_X12_254 hd_X12_isOrder ⟨Nat.le_of_ble_eq_true rfl, Nat.le_of_ble_eq_true rfl⟩ rfl hl.1 rfl (Nat.le_of_ble_eq_true rfl) dX12_ways_11 ⟨Nat.le_refl _, Nat.le_refl _⟩ (fun H locs hW hS => ?_)
  refine lv_if_eq (tgt := 35) hx hb dX12_ways_14 (by decide) (fun q6 => ?_) (fun q6 => ?_)
  · replace hE := ite_t q6 hE
    refine lv_ldc2 (v := (-1 : Int64)) hx hb hown (hT _ kc_X12_319) dX12_ways_35 ?_
    obtain ⟨rfl, rfl⟩ := so2 hE
    exact s_lret hx hb hr hlocks hW hS dX12_ways_38
  · replace hE := ite_f q6 hE
    refine s_aload_n hx hb dX12_ways_17 rfl (lv_at hl 0 rfl) ?_
    refine lv_iload_n hx hb dX12_ways_18 rfl (lv_at hl 2 rfl) ?_
    obtain ⟨c7, hE⟩ := ck hE
    obtain ⟨x8, hx8, hE⟩ := bd hE
    refine s_callV (As := [.int u2]) (rest := []) CF hK hW hS (S_X12_isOrder l G F hx8) c7 rfl gv_X12_254 hd_X12_isOrder ⟨Nat.le_of_ble_eq_true rfl, Nat.le_of_ble_eq_true rfl⟩ rfl hl.1 rfl (Nat.le_of_ble_eq_true rfl) dX12_ways_19 ⟨Nat.le_refl _, Nat.le_refl _⟩ (fun H locs hW hS => ?_)
    refine lv_if_eq (tgt := 35) hx hb dX12_ways_22 (by decide) (fun q9 => ?_) (fun q9 => ?_)
    · replace hE := ite_t q9 hE
      refine lv_ldc2 (v := (-1 : Int64)) hx hb hown (hT _ kc_X12_319) dX12_ways_35 ?_
      obtain ⟨rfl, rfl⟩ := so2 hE
      exact s_lret hx hb hr hlocks hW hS dX12_ways_38
    · replace hE := ite_f q9 hE
      refine lv_iload_n hx hb dX12_ways_25 rfl (lv_at hl 3 rfl) ?_
      refine lv_iconst (v := (0 : Int32)) hx hb dX12_ways_26 (by decide) ?_
      refine lv_bipush (v := (10 : Int32)) hx hb dX12_ways_27 (by decide) ?_
      obtain ⟨x10, hx10, hE⟩ := bd hE
      refine s_callS (As := [.int u3, .int (0 : Int32), .int (10 : Int32)]) (rest := []) CF hK hW hS (S_X12_isIn l G F hx10) gs_X12_151 hd_X12_isIn.2 ⟨Nat.le_of_ble_eq_true rfl, Nat.le_of_ble_eq_true rfl⟩ rfl hl.1 rfl (Nat.le_of_ble_eq_true rfl) dX12_ways_29 ⟨Nat.le_refl _, Nat.le_refl _⟩ (fun H locs hW hS => ?_)
      refine lv_if_ne (tgt := 39) hx hb dX12_ways_32 (by decide) (fun q11 => ?_) (fun q11 => ?_)
      · replace hE := ite_f q11 hE
        refine s_aload_n hx hb dX12_ways_39 rfl (lv_at hl 0 rfl) ?_
        refine lv_iload_n hx hb dX12_ways_40 rfl (lv_at hl 1 rfl) ?_
        refine lv_iload_n hx hb dX12_ways_41 rfl (lv_at hl 3 rfl) ?_
        refine lv_iconst (v := (0 : Int32)) hx hb dX12_ways_42 (by decide) ?_
        obtain ⟨c12, hE⟩ := ck hE
        obtain ⟨f13, hf13, hE⟩ := bd hE
        refine s_callV (As := [.int u1, .int u3, .int (0 : Int32)]) (rest := []) CF hK hW hS (S_X12_layWays l G F hf13) c12 rfl gv_X12_321 hd_X12_layWays ⟨Nat.le_of_ble_eq_true rfl, Nat.le_of_ble_eq_true rfl⟩ rfl hl.1 rfl (Nat.le_of_ble_eq_true rfl) dX12_ways_43 ⟨Nat.le_refl _, Nat.le_refl _⟩ (fun H locs hW hS => ?_)
        refine s_aload_n hx hb dX12_ways_46 rfl (lv_at hl 0 rfl) ?_
        obtain ⟨x14, hx14, hE⟩ := bd hE
        refine s_gR hx hb hT u_X12 hown hK hW hx14 rfl (by decide) fl_X12_63 rfl dX12_ways_47 ?_
        refine lv_iload_n hx hb dX12_ways_50 rfl (lv_at hl 2 rfl) ?_
        obtain ⟨x15, hx15, hE⟩ := bd hE
        refine s_ldJ hx hb hK hW hS hx15 dX12_ways_51 ?_
        obtain ⟨rfl, rfl⟩ := so2 hE
        exact s_lret hx hb hr hlocks hW hS dX12_ways_52
      · replace hE := ite_t q11 hE
        refine lv_ldc2 (v := (-1 : Int64)) hx hb hown (hT _ kc_X12_319) dX12_ways_35 ?_
        obtain ⟨rfl, rfl⟩ := so2 hE
        exact s_lret hx hb hr hlocks hW hS dX12_ways_38
set_option maxHeartbeats 4000000 in
set_option maxRecDepth 100000 in
theorem S_X12_woven (l : Launch) (G : GG) (F : Nat) {u0 : Option Nat} {u1 : Int32} {u2 : Int32} {u3 : Int32} {f : Hp} {r : Int32} {f' : Hp} {n : Nat} (hE : m_X12_woven F u0 u1 u2 u3 f = some (r, f')) : Ctr l G yX12_woven cX12_woven 9 (some .int) 3 69 [rr G u0, .int u1, .int u2, .int u3] f n (some (.int r)) f' n 0 0 := by
  refine Met.ofW (cc := cX12_woven) (maxL := 9) (ret := (some .int)) (by decide) rfl ?_
  intro p e s m args below meth c s₁ B hml hv
  obtain ⟨rfl, hK, hW⟩ := hv
  have hx := B.exec
  have hb := B.bytes
  have hr := B.returns
  have hts := atoms_spec (ws := wsO yX12_woven cX12_woven 9 (some .int)) B.pre
  have hT : ∀ w ∈ TB, w.before [rr G u0, .int u1, .int u2, .int u3].toArray s = true := fun w hw => hts w (List.mem_cons_of_mem _ hw)
  have hown : s.vm.findClass RX12 = some m.cls := findClass_of_methodNamed B.named
  have hlocks := B.notSynchronized
  have CF : CallFix p m c cX12_woven 9 s [rr G u0, .int u1, .int u2, .int u3].toArray TB RX12 := ⟨hx, hb, hml, hown, hT⟩
  have hS : va_S (WA G) s.heap s.heap [] := va_S.rf
  have hl : lv_has (lg_sl ([rr G u0, .int u1, .int u2, .int u3]) ++ List.replicate (9 - (lg_sl ([rr G u0, .int u1, .int u2, .int u3])).length) Slot.unset).toArray 9 [(0, rr G u0), (1, .int u1), (2, .int u2), (3, .int u3)] := by cases u0 <;> exact lv_entry _ (Nat.le_of_ble_eq_true rfl)
  rw [lg_entry_eq]
  generalize (lg_sl ([rr G u0, .int u1, .int u2, .int u3]) ++ List.replicate (9 - (lg_sl ([rr G u0, .int u1, .int u2, .int u3])).length) Slot.unset).toArray = ls at hl ⊢
  have hC42 : ∀ (k42 : Nat), ∀ (v0 : Option Nat) (v1 : Int32) (v2 : Int32) (v3 : Int32) (v4 : Int32) (v5 : Int32) (fa : Hp) (H : Heap) (locs : List Loc) (ls : Array Slot), m_X12_woven_L42 F k42 v0 v1 v2 v3 v4 v5 fa = some (r, f') → Wd G fa n H → va_S (WA G) s.heap H locs → lv_has ls 9 [(0, rr G v0), (1, .int v1), (2, .int v2), (3, .int v3), (4, .int v4), (5, .int v5)] → W p l e (headSpec (wsO yX12_woven cX12_woven 9 (some .int)) { frames := 3, cells := 0, slots := 0, locals := 69 }).room s m [rr G u0, .int u1, .int u2, .int u3].toArray below meth c H locs 0 0 (MQ below (Qcn G (some (.int r)) f' n) [rr G u0, .int u1, .int u2, .int u3].toArray s 0 0 (WA G)) (F0 m 42 ls []) := by
    intro k42
    induction k42 with
    | zero => intro v0 v1 v2 v3 v4 v5 fa H locs ls hE _ _ _; cases (show (none : Option ((Int32) × Hp)) = some (r, f') from hE)
    | succ k42 ih42 =>
      have hC86 : ∀ (v0 : Option Nat) (v1 : Int32) (v2 : Int32) (v3 : Int32) (v4 : Int32) (v5 : Int32) (s0 : Int32) (fa : Hp) (H : Heap) (locs : List Loc) (ls : Array Slot), m_X12_woven_B86 F (m_X12_woven_L42 F k42) v0 v1 v2 v3 v4 v5 s0 fa = some (r, f') → Wd G fa n H → va_S (WA G) s.heap H locs → lv_has ls 9 [(0, rr G v0), (1, .int v1), (2, .int v2), (3, .int v3), (4, .int v4), (5, .int v5)] → W p l e (headSpec (wsO yX12_woven cX12_woven 9 (some .int)) { frames := 3, cells := 0, slots := 0, locals := 69 }).room s m [rr G u0, .int u1, .int u2, .int u3].toArray below meth c H locs 0 0 (MQ below (Qcn G (some (.int r)) f' n) [rr G u0, .int u1, .int u2, .int u3].toArray s 0 0 (WA G)) (F0 m 86 ls [.int s0]) := by
        intro v0 v1 v2 v3 v4 v5 s0 fa H locs ls hE hW hS hl
        refine lv_istore (lv' := [(8, .int s0), (0, rr G v0), (1, .int v1), (2, .int v2), (3, .int v3), (4, .int v4), (5, .int v5)]) hx hb dX12_woven_86 hl (by decide) rfl (fun ls hl => ?_)
        refine lv_iload hx hb dX12_woven_88 (lv_at hl 0 rfl) ?_
        refine lv_iload hx hb dX12_woven_90 (lv_at hl 5 rfl) ?_
        refine lv_icmp_ne (tgt := 97) hx hb dX12_woven_92 (by decide) (fun q11 => ?_) (fun q11 => ?_)
        · replace hE := ite_f q11 hE
          refine lv_iload hx hb dX12_woven_97 (lv_at hl 0 rfl) ?_
          refine lv_istore (lv' := [(4, .int s0), (8, .int s0), (0, rr G v0), (1, .int v1), (2, .int v2), (3, .int v3), (5, .int v5)]) hx hb dX12_woven_99 hl (by decide) rfl (fun ls hl => ?_)
          obtain ⟨y12, ey12⟩ : ∃ y : Int32, y = v5 + (1 : Int32) := ⟨_, rfl⟩
          replace hE := nm_o ey12 hE
          refine lv_iinc (k := 6) (v := y12) (lv' := [(5, .int y12), (4, .int s0), (8, .int s0), (0, rr G v0), (1, .int v1), (2, .int v2), (3, .int v3)]) hx hb dX12_woven_101 hl rfl (by rw [ey12]; rfl) (by decide) rfl (fun ls hl => ?_)
          refine lv_goto (tgt := 42) hx hb dX12_woven_104 (by decide) ?_
          exact ih42 _ _ _ _ _ _ _ _ _ _ hE hW hS (lv_sub hl [3, 4, 5, 6, 1, 0] rfl)
        · replace hE := ite_t q11 hE
          refine lv_iconst (v := (-1 : Int32)) hx hb dX12_woven_95 (by decide) ?_
          obtain ⟨rfl, rfl⟩ := so2 hE
          exact s_iret hx hb hr hlocks hW hS dX12_woven_96
      intro v0 v1 v2 v3 v4 v5 fa H locs ls hE hW hS hl
      replace hE : m_X12_woven_b42 F (m_X12_woven_L42 F k42) v0 v1 v2 v3 v4 v5 fa = some (r, f') := hE
      refine lv_iload hx hb dX12_woven_42 (lv_at hl 4 rfl) ?_
      refine s_aload_n hx hb dX12_woven_44 rfl (lv_at hl 0 rfl) ?_
      refine lv_iload_n hx hb dX12_woven_45 rfl (lv_at hl 3 rfl) ?_
      obtain ⟨c1, hE⟩ := ck hE
      obtain ⟨x2, hx2, hE⟩ := bd hE
      refine s_callV (As := [.int v3]) (rest := [.int v4]) CF hK hW hS (S_X12_sizeOf l G F hx2) c1 rfl gv_X12_182 hd_X12_sizeOf ⟨Nat.le_of_ble_eq_true rfl, Nat.le_of_ble_eq_true rfl⟩ rfl hl.1 rfl (Nat.le_of_ble_eq_true rfl) dX12_woven_46 ⟨Nat.le_refl _, Nat.le_refl _⟩ (fun H locs hW hS => ?_)
      refine lv_icmp_ge (tgt := 107) hx hb dX12_woven_49 (by decide) (fun q3 => ?_) (fun q3 => ?_)
      · replace hE := ite_t q3 hE
        refine lv_iload hx hb dX12_woven_107 (lv_at hl 5 rfl) ?_
        obtain ⟨rfl, rfl⟩ := so2 hE
        exact s_iret hx hb hr hlocks hW hS dX12_woven_109
      · replace hE := ite_f q3 hE
        refine s_aload_n hx hb dX12_woven_52 rfl (lv_at hl 0 rfl) ?_
        refine lv_iload_n hx hb dX12_woven_53 rfl (lv_at hl 3 rfl) ?_
        refine lv_iload hx hb dX12_woven_54 (lv_at hl 4 rfl) ?_
        refine lv_iload_n hx hb dX12_woven_56 rfl (lv_at hl 1 rfl) ?_
        obtain ⟨c4, hE⟩ := ck hE
        obtain ⟨x5, f6, hx5, hE⟩ := bd2_of hE
        refine s_callV (As := [.int v3, .int v4, .int v1]) (rest := []) CF hK hW hS (S_X12_reaches l G F hx5) c4 rfl gv_X12_346 hd_X12_reaches ⟨Nat.le_of_ble_eq_true rfl, Nat.le_of_ble_eq_true rfl⟩ rfl hl.1 rfl (Nat.le_of_ble_eq_true rfl) dX12_woven_57 ⟨Nat.le_refl _, Nat.le_refl _⟩ (fun H locs hW hS => ?_)
        refine lv_istore (lv' := [(6, .int x5), (0, rr G v0), (1, .int v1), (2, .int v2), (3, .int v3), (4, .int v4), (5, .int v5)]) hx hb dX12_woven_60 hl (by decide) rfl (fun ls hl => ?_)
        refine s_aload_n hx hb dX12_woven_62 rfl (lv_at hl 1 rfl) ?_
        refine lv_iload_n hx hb dX12_woven_63 rfl (lv_at hl 4 rfl) ?_
        refine lv_iload hx hb dX12_woven_64 (lv_at hl 5 rfl) ?_
        refine lv_iload_n hx hb dX12_woven_66 rfl (lv_at hl 3 rfl) ?_
        obtain ⟨c7, hE⟩ := ck hE
        obtain ⟨x8, f9, hx8, hE⟩ := bd2_of hE
        refine s_callV (As := [.int v3, .int v4, .int v2]) (rest := []) CF hK hW hS (S_X12_reaches l G F hx8) c7 rfl gv_X12_346 hd_X12_reaches ⟨Nat.le_of_ble_eq_true rfl, Nat.le_of_ble_eq_true rfl⟩ rfl hl.1 rfl (Nat.le_of_ble_eq_true rfl) dX12_woven_67 ⟨Nat.le_refl _, Nat.le_refl _⟩ (fun H locs hW hS => ?_)
        refine lv_istore (lv' := [(7, .int x8), (6, .int x5), (0, rr G v0), (1, .int v1), (2, .int v2), (3, .int v3), (4, .int v4), (5, .int v5)]) hx hb dX12_woven_70 hl (by decide) rfl (fun ls hl => ?_)
        refine lv_iload hx hb dX12_woven_72 (lv_at hl 1 rfl) ?_
        refine lv_iload hx hb dX12_woven_74 (lv_at hl 0 rfl) ?_
        refine lv_icmp_le (tgt := 84) hx hb dX12_woven_76 (by decide) (fun q10 => ?_) (fun q10 => ?_)
        · replace hE := ite_t q10 hE
          refine lv_iload hx hb dX12_woven_84 (lv_at hl 0 rfl) ?_
          exact hC86 _ _ _ _ _ _ _ _ _ _ _ hE hW hS (lv_sub hl [2, 3, 4, 5, 6, 7] rfl)
        · replace hE := ite_f q10 hE
          refine lv_iload hx hb dX12_woven_79 (lv_at hl 1 rfl) ?_
          refine lv_goto (tgt := 86) hx hb dX12_woven_81 (by decide) ?_
          exact hC86 _ _ _ _ _ _ _ _ _ _ _ hE hW hS (lv_sub hl [2, 3, 4, 5, 6, 7] rfl)
  refine s_aload_n hx hb dX12_woven_0 rfl (lv_at hl 0 rfl) ?_
  refine lv_iconst (v := (0 : Int32)) hx hb dX12_woven_1 (by decide) ?_
  obtain ⟨f13, hf13, hE⟩ := bd hE
  refine s_putI hx hb hT u_X12 tyX12 tyX12_ok nmX12 hown hK hW hS hf13 rfl (by decide) fl_X12_81 rfl (Or.inl rfl) rfl dX12_woven_2 (fun H locs hW hS => ?_)
  refine s_aload_n hx hb dX12_woven_5 rfl (lv_at hl 0 rfl) ?_
  obtain ⟨c14, hE⟩ := ck hE
  obtain ⟨f15, hf15, hE⟩ := bd hE
  refine s_callV (As := []) (rest := []) CF hK hW hS (S_X12_lay l G F hf15) c14 rfl gv_X12_164 hd_X12_lay ⟨Nat.le_of_ble_eq_true rfl, Nat.le_of_ble_eq_true rfl⟩ rfl hl.1 rfl (Nat.le_of_ble_eq_true rfl) dX12_woven_6 ⟨Nat.le_refl _, Nat.le_refl _⟩ (fun H locs hW hS => ?_)
  refine s_aload_n hx hb dX12_woven_9 rfl (lv_at hl 0 rfl) ?_
  refine lv_iload_n hx hb dX12_woven_10 rfl (lv_at hl 1 rfl) ?_
  obtain ⟨c16, hE⟩ := ck hE
  obtain ⟨x17, hx17, hE⟩ := bd hE
  refine s_callV (As := [.int u1]) (rest := []) CF hK hW hS (S_X12_isCopy l G F hx17) c16 rfl gv_X12_241 hd_X12_isCopy ⟨Nat.le_of_ble_eq_true rfl, Nat.le_of_ble_eq_true rfl⟩ rfl hl.1 rfl (Nat.le_of_ble_eq_true rfl) dX12_woven_11 ⟨Nat.le_refl _, Nat.le_refl _⟩ (fun H locs hW hS => ?_)
  refine lv_if_eq (tgt := 33) hx hb dX12_woven_14 (by decide) (fun q18 => ?_) (fun q18 => ?_)
  · replace hE := ite_t q18 hE
    refine lv_bipush (v := (-2 : Int32)) hx hb dX12_woven_33 (by decide) ?_
    obtain ⟨rfl, rfl⟩ := so2 hE
    exact s_iret hx hb hr hlocks hW hS dX12_woven_35
  · replace hE := ite_f q18 hE
    refine s_aload_n hx hb dX12_woven_17 rfl (lv_at hl 0 rfl) ?_
    refine lv_iload_n hx hb dX12_woven_18 rfl (lv_at hl 2 rfl) ?_
    obtain ⟨c19, hE⟩ := ck hE
    obtain ⟨x20, hx20, hE⟩ := bd hE
    refine s_callV (As := [.int u2]) (rest := []) CF hK hW hS (S_X12_isCopy l G F hx20) c19 rfl gv_X12_241 hd_X12_isCopy ⟨Nat.le_of_ble_eq_true rfl, Nat.le_of_ble_eq_true rfl⟩ rfl hl.1 rfl (Nat.le_of_ble_eq_true rfl) dX12_woven_19 ⟨Nat.le_refl _, Nat.le_refl _⟩ (fun H locs hW hS => ?_)
    refine lv_if_eq (tgt := 33) hx hb dX12_woven_22 (by decide) (fun q21 => ?_) (fun q21 => ?_)
    · replace hE := ite_t q21 hE
      refine lv_bipush (v := (-2 : Int32)) hx hb dX12_woven_33 (by decide) ?_
      obtain ⟨rfl, rfl⟩ := so2 hE
      exact s_iret hx hb hr hlocks hW hS dX12_woven_35
    · replace hE := ite_f q21 hE
      refine s_aload_n hx hb dX12_woven_25 rfl (lv_at hl 0 rfl) ?_
      refine lv_iload_n hx hb dX12_woven_26 rfl (lv_at hl 3 rfl) ?_
      obtain ⟨c22, hE⟩ := ck hE
      obtain ⟨x23, hx23, hE⟩ := bd hE
      refine s_callV (As := [.int u3]) (rest := []) CF hK hW hS (S_X12_isCopy l G F hx23) c22 rfl gv_X12_241 hd_X12_isCopy ⟨Nat.le_of_ble_eq_true rfl, Nat.le_of_ble_eq_true rfl⟩ rfl hl.1 rfl (Nat.le_of_ble_eq_true rfl) dX12_woven_27 ⟨Nat.le_refl _, Nat.le_refl _⟩ (fun H locs hW hS => ?_)
      refine lv_if_ne (tgt := 36) hx hb dX12_woven_30 (by decide) (fun q24 => ?_) (fun q24 => ?_)
      · replace hE := ite_f q24 hE
        refine lv_iconst (v := (0 : Int32)) hx hb dX12_woven_36 (by decide) ?_
        refine lv_istore (lv' := [(4, .int (0 : Int32)), (0, rr G u0), (1, .int u1), (2, .int u2), (3, .int u3)]) hx hb dX12_woven_37 hl (by decide) rfl (fun ls hl => ?_)
        refine lv_iconst (v := (0 : Int32)) hx hb dX12_woven_39 (by decide) ?_
        refine lv_istore (lv' := [(5, .int (0 : Int32)), (4, .int (0 : Int32)), (0, rr G u0), (1, .int u1), (2, .int u2), (3, .int u3)]) hx hb dX12_woven_40 hl (by decide) rfl (fun ls hl => ?_)
        exact hC42 F _ _ _ _ _ _ _ _ _ _ hE hW hS (lv_sub hl [2, 3, 4, 5, 1, 0] rfl)
      · replace hE := ite_t q24 hE
        refine lv_bipush (v := (-2 : Int32)) hx hb dX12_woven_33 (by decide) ?_
        obtain ⟨rfl, rfl⟩ := so2 hE
        exact s_iret hx hb hr hlocks hW hS dX12_woven_35
