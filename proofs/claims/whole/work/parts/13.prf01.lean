set_option maxHeartbeats 4000000 in
set_option maxRecDepth 100000 in
theorem S_X9_readSign (l : Launch) (G : GG) (F : Nat) {u0 : Option Nat} {f : Hp} {f' : Hp} {n : Nat} (hE : m_X9_readSign F u0 f = some f') : Ctr l G yX9_readSign cX9_readSign 3 none 0 0 [rr G u0] f n none f' n 0 0 := by
  refine Met.ofW (cc := cX9_readSign) (maxL := 3) (ret := none) (by decide) rfl ?_
  intro p e s m args below meth c s₁ B hml hv
  obtain ⟨rfl, hK, hW⟩ := hv
  have hx := B.exec
  have hb := B.bytes
  have hr := B.returns
  have hts := atoms_spec (ws := wsO yX9_readSign cX9_readSign 3 none) B.pre
  have hT : ∀ w ∈ TB, w.before [rr G u0].toArray s = true := fun w hw => hts w (List.mem_cons_of_mem _ hw)
  have hown : s.vm.findClass RX9 = some m.cls := findClass_of_methodNamed B.named
  have hlocks := B.notSynchronized
  have CF : CallFix p m c cX9_readSign 3 s [rr G u0].toArray TB RX9 := ⟨hx, hb, hml, hown, hT⟩
  have hS : va_S (WA G) s.heap s.heap [] := va_S.rf
  have hl : lv_has (lg_sl ([rr G u0]) ++ List.replicate (3 - (lg_sl ([rr G u0])).length) Slot.unset).toArray 3 [(0, rr G u0)] := by cases u0 <;> exact lv_entry _ (Nat.le_of_ble_eq_true rfl)
  rw [lg_entry_eq]
  generalize (lg_sl ([rr G u0]) ++ List.replicate (3 - (lg_sl ([rr G u0])).length) Slot.unset).toArray = ls at hl ⊢
  have hC75 : ∀ (v0 : Option Nat) (s0 : Option Nat) (s1 : Int32) (fa : Hp) (H : Heap) (locs : List Loc) (ls : Array Slot), m_X9_readSign_B75 F v0 s0 s1 fa = some f' → Wd G fa n H → va_S (WA G) s.heap H locs → lv_has ls 3 [(0, rr G v0)] → W p l e (headSpec (wsO yX9_readSign cX9_readSign 3 none) { frames := 0, cells := 0, slots := 0, locals := 0 }).room s m [rr G u0].toArray below meth c H locs 0 0 (MQ below (Qcn G none f' n) [rr G u0].toArray s 0 0 (WA G)) (F0 m 75 ls [.int s1, rr G s0]) := by
    intro v0 s0 s1 fa H locs ls hE hW hS hl
    obtain ⟨f4, hf4, hE⟩ := bd hE
    refine s_putI hx hb hT u_X9 tyX9 tyX9_ok nmX9 hown hK hW hS hf4 rfl (by decide) fl_X9_53 rfl (Or.inl rfl) rfl dX9_readSign_75 (fun H locs hW hS => ?_)
    refine s_aload_n hx hb dX9_readSign_78 rfl (lv_at hl 0 rfl) ?_
    refine s_aload_n hx hb dX9_readSign_79 rfl (lv_at hl 0 rfl) ?_
    obtain ⟨x5, hx5, hE⟩ := bd hE
    refine s_gI hx hb hT u_X9 hown hK hW hx5 rfl (by decide) fl_X9_63 rfl dX9_readSign_80 ?_
    refine lv_iconst (v := (1 : Int32)) hx hb dX9_readSign_83 (by decide) ?_
    refine lv_iadd hx hb dX9_readSign_84 ?_
    obtain ⟨f6, hf6, hE⟩ := bd hE
    refine s_putI hx hb hT u_X9 tyX9 tyX9_ok nmX9 hown hK hW hS hf6 rfl (by decide) fl_X9_37 rfl (Or.inl rfl) rfl dX9_readSign_85 (fun H locs hW hS => ?_)
    obtain rfl := so1 hE
    exact s_vret hx hb hr hlocks hW hS dX9_readSign_88
  have hC62 : ∀ (v0 : Option Nat) (v1 : Int32) (v2 : Int32) (s0 : Option Nat) (s1 : Int32) (fa : Hp) (H : Heap) (locs : List Loc) (ls : Array Slot), m_X9_readSign_B62 F v0 v1 v2 s0 s1 fa = some f' → Wd G fa n H → va_S (WA G) s.heap H locs → lv_has ls 3 [(0, rr G v0), (1, .int v1), (2, .int v2)] → W p l e (headSpec (wsO yX9_readSign cX9_readSign 3 none) { frames := 0, cells := 0, slots := 0, locals := 0 }).room s m [rr G u0].toArray below meth c H locs 0 0 (MQ below (Qcn G none f' n) [rr G u0].toArray s 0 0 (WA G)) (F0 m 62 ls [.int s1, rr G s0]) := by
    intro v0 v1 v2 s0 s1 fa H locs ls hE hW hS hl
    obtain ⟨f2, hf2, hE⟩ := bd hE
    refine s_putI hx hb hT u_X9 tyX9 tyX9_ok nmX9 hown hK hW hS hf2 rfl (by decide) fl_X9_66 rfl (Or.inl rfl) rfl dX9_readSign_62 (fun H locs hW hS => ?_)
    refine s_aload_n hx hb dX9_readSign_65 rfl (lv_at hl 0 rfl) ?_
    refine lv_iload_n hx hb dX9_readSign_66 rfl (lv_at hl 2 rfl) ?_
    refine lv_if_eq (tgt := 74) hx hb dX9_readSign_67 (by decide) (fun q3 => ?_) (fun q3 => ?_)
    · replace hE := ite_t q3 hE
      refine lv_iconst (v := (0 : Int32)) hx hb dX9_readSign_74 (by decide) ?_
      exact hC75 _ _ _ _ _ _ _ hE hW hS (lv_sub hl [0] rfl)
    · replace hE := ite_f q3 hE
      refine lv_iload_n hx hb dX9_readSign_70 rfl (lv_at hl 1 rfl) ?_
      refine lv_goto (tgt := 75) hx hb dX9_readSign_71 (by decide) ?_
      exact hC75 _ _ _ _ _ _ _ hE hW hS (lv_sub hl [0] rfl)
  have hC51 : ∀ (v0 : Option Nat) (v1 : Int32) (s0 : Int32) (fa : Hp) (H : Heap) (locs : List Loc) (ls : Array Slot), m_X9_readSign_B51 F v0 v1 s0 fa = some f' → Wd G fa n H → va_S (WA G) s.heap H locs → lv_has ls 3 [(0, rr G v0), (1, .int v1)] → W p l e (headSpec (wsO yX9_readSign cX9_readSign 3 none) { frames := 0, cells := 0, slots := 0, locals := 0 }).room s m [rr G u0].toArray below meth c H locs 0 0 (MQ below (Qcn G none f' n) [rr G u0].toArray s 0 0 (WA G)) (F0 m 51 ls [.int s0]) := by
    intro v0 v1 s0 fa H locs ls hE hW hS hl
    refine lv_istore_n (i := 2) (lv' := [(2, .int s0), (0, rr G v0), (1, .int v1)]) hx hb dX9_readSign_51 rfl hl (by decide) rfl (fun ls hl => ?_)
    refine s_aload_n hx hb dX9_readSign_52 rfl (lv_at hl 1 rfl) ?_
    refine lv_iload_n hx hb dX9_readSign_53 rfl (lv_at hl 0 rfl) ?_
    refine lv_if_eq (tgt := 61) hx hb dX9_readSign_54 (by decide) (fun q1 => ?_) (fun q1 => ?_)
    · replace hE := ite_t q1 hE
      refine lv_iconst (v := (1 : Int32)) hx hb dX9_readSign_61 (by decide) ?_
      exact hC62 _ _ _ _ _ _ _ _ _ hE hW hS (lv_sub hl [1, 2, 0] rfl)
    · replace hE := ite_f q1 hE
      refine lv_iconst (v := (4 : Int32)) hx hb dX9_readSign_57 (by decide) ?_
      refine lv_goto (tgt := 62) hx hb dX9_readSign_58 (by decide) ?_
      exact hC62 _ _ _ _ _ _ _ _ _ hE hW hS (lv_sub hl [1, 2, 0] rfl)
  have hC46 : ∀ (v0 : Option Nat) (v1 : Int32) (fa : Hp) (H : Heap) (locs : List Loc) (ls : Array Slot), m_X9_readSign_B46 F v0 v1 fa = some f' → Wd G fa n H → va_S (WA G) s.heap H locs → lv_has ls 3 [(0, rr G v0), (1, .int v1)] → W p l e (headSpec (wsO yX9_readSign cX9_readSign 3 none) { frames := 0, cells := 0, slots := 0, locals := 0 }).room s m [rr G u0].toArray below meth c H locs 0 0 (MQ below (Qcn G none f' n) [rr G u0].toArray s 0 0 (WA G)) (F0 m 46 ls []) := by
    intro v0 v1 fa H locs ls hE hW hS hl
    refine lv_iconst (v := (1 : Int32)) hx hb dX9_readSign_46 (by decide) ?_
    refine lv_goto (tgt := 51) hx hb dX9_readSign_47 (by decide) ?_
    exact hC51 _ _ _ _ _ _ _ hE hW hS (lv_sub hl [0, 1] rfl)
  refine s_aload_n hx hb dX9_readSign_0 rfl (lv_at hl 0 rfl) ?_
  obtain ⟨x7, hx7, hE⟩ := bd hE
  refine s_gR hx hb hT u_X9 hown hK hW hx7 rfl (by decide) fl_X9_20 rfl dX9_readSign_1 ?_
  refine s_aload_n hx hb dX9_readSign_4 rfl (lv_at hl 0 rfl) ?_
  obtain ⟨x8, hx8, hE⟩ := bd hE
  refine s_gI hx hb hT u_X9 hown hK hW hx8 rfl (by decide) fl_X9_63 rfl dX9_readSign_5 ?_
  obtain ⟨x9, hx9, hE⟩ := bd hE
  refine s_ldB hx hb hK hW hS hx9 dX9_readSign_8 ?_
  refine lv_istore_n (i := 1) (lv' := [(1, .int x9), (0, rr G u0)]) hx hb dX9_readSign_9 rfl hl (by decide) (by simp [cat_rr]) (fun ls hl => ?_)
  refine lv_iload_n hx hb dX9_readSign_10 rfl (lv_at hl 0 rfl) ?_
  refine lv_bipush (v := (59 : Int32)) hx hb dX9_readSign_11 (by decide) ?_
  refine lv_icmp_eq (tgt := 46) hx hb dX9_readSign_13 (by decide) (fun q10 => ?_) (fun q10 => ?_)
  · replace hE := ite_t q10 hE
    exact hC46 _ _ _ _ _ _ hE hW hS (lv_sub hl [1, 0] rfl)
  · replace hE := ite_f q10 hE
    refine lv_iload_n hx hb dX9_readSign_16 rfl (lv_at hl 0 rfl) ?_
    refine lv_bipush (v := (60 : Int32)) hx hb dX9_readSign_17 (by decide) ?_
    refine lv_icmp_eq (tgt := 46) hx hb dX9_readSign_19 (by decide) (fun q11 => ?_) (fun q11 => ?_)
    · replace hE := ite_t q11 hE
      exact hC46 _ _ _ _ _ _ hE hW hS (lv_sub hl [1, 0] rfl)
    · replace hE := ite_f q11 hE
      refine lv_iload_n hx hb dX9_readSign_22 rfl (lv_at hl 0 rfl) ?_
      refine lv_bipush (v := (61 : Int32)) hx hb dX9_readSign_23 (by decide) ?_
      refine lv_icmp_eq (tgt := 46) hx hb dX9_readSign_25 (by decide) (fun q12 => ?_) (fun q12 => ?_)
      · replace hE := ite_t q12 hE
        exact hC46 _ _ _ _ _ _ hE hW hS (lv_sub hl [1, 0] rfl)
      · replace hE := ite_f q12 hE
        refine lv_iload_n hx hb dX9_readSign_28 rfl (lv_at hl 0 rfl) ?_
        refine lv_bipush (v := (62 : Int32)) hx hb dX9_readSign_29 (by decide) ?_
        refine lv_icmp_eq (tgt := 46) hx hb dX9_readSign_31 (by decide) (fun q13 => ?_) (fun q13 => ?_)
        · replace hE := ite_t q13 hE
          exact hC46 _ _ _ _ _ _ hE hW hS (lv_sub hl [1, 0] rfl)
        · replace hE := ite_f q13 hE
          refine lv_iload_n hx hb dX9_readSign_34 rfl (lv_at hl 0 rfl) ?_
          refine lv_bipush (v := (40 : Int32)) hx hb dX9_readSign_35 (by decide) ?_
          refine lv_icmp_eq (tgt := 46) hx hb dX9_readSign_37 (by decide) (fun q14 => ?_) (fun q14 => ?_)
          · replace hE := ite_t q14 hE
            exact hC46 _ _ _ _ _ _ hE hW hS (lv_sub hl [1, 0] rfl)
          · replace hE := ite_f q14 hE
            refine lv_iload_n hx hb dX9_readSign_40 rfl (lv_at hl 0 rfl) ?_
            refine lv_bipush (v := (41 : Int32)) hx hb dX9_readSign_41 (by decide) ?_
            refine lv_icmp_ne (tgt := 50) hx hb dX9_readSign_43 (by decide) (fun q15 => ?_) (fun q15 => ?_)
            · replace hE := ite_f q15 hE
              refine lv_iconst (v := (0 : Int32)) hx hb dX9_readSign_50 (by decide) ?_
              exact hC51 _ _ _ _ _ _ _ hE hW hS (lv_sub hl [1, 0] rfl)
            · replace hE := ite_t q15 hE
              exact hC46 _ _ _ _ _ _ hE hW hS (lv_sub hl [1, 0] rfl)
set_option maxHeartbeats 4000000 in
set_option maxRecDepth 100000 in
theorem S_X9_advance (l : Launch) (G : GG) (F : Nat) {u0 : Option Nat} {f : Hp} {f' : Hp} {n : Nat} (hE : m_X9_advance F u0 f = some f') : Ctr l G yX9_advance cX9_advance 3 none 2 48 [rr G u0] f n none f' n 0 0 := by
  refine Met.ofW (cc := cX9_advance) (maxL := 3) (ret := none) (by decide) rfl ?_
  intro p e s m args below meth c s₁ B hml hv
  obtain ⟨rfl, hK, hW⟩ := hv
  have hx := B.exec
  have hb := B.bytes
  have hr := B.returns
  have hts := atoms_spec (ws := wsO yX9_advance cX9_advance 3 none) B.pre
  have hT : ∀ w ∈ TB, w.before [rr G u0].toArray s = true := fun w hw => hts w (List.mem_cons_of_mem _ hw)
  have hown : s.vm.findClass RX9 = some m.cls := findClass_of_methodNamed B.named
  have hlocks := B.notSynchronized
  have CF : CallFix p m c cX9_advance 3 s [rr G u0].toArray TB RX9 := ⟨hx, hb, hml, hown, hT⟩
  have hS : va_S (WA G) s.heap s.heap [] := va_S.rf
  have hl : lv_has (lg_sl ([rr G u0]) ++ List.replicate (3 - (lg_sl ([rr G u0])).length) Slot.unset).toArray 3 [(0, rr G u0)] := by cases u0 <;> exact lv_entry _ (Nat.le_of_ble_eq_true rfl)
  rw [lg_entry_eq]
  generalize (lg_sl ([rr G u0]) ++ List.replicate (3 - (lg_sl ([rr G u0])).length) Slot.unset).toArray = ls at hl ⊢
  have hC40 : ∀ (v0 : Option Nat) (v1 : Int32) (v2 : Int32) (fa : Hp) (H : Heap) (locs : List Loc) (ls : Array Slot), m_X9_advance_B40 F v0 v1 v2 fa = some f' → Wd G fa n H → va_S (WA G) s.heap H locs → lv_has ls 3 [(0, rr G v0), (1, .int v1), (2, .int v2)] → W p l e (headSpec (wsO yX9_advance cX9_advance 3 none) { frames := 2, cells := 0, slots := 0, locals := 48 }).room s m [rr G u0].toArray below meth c H locs 0 0 (MQ below (Qcn G none f' n) [rr G u0].toArray s 0 0 (WA G)) (F0 m 40 ls []) := by
    intro v0 v1 v2 fa H locs ls hE hW hS hl
    refine s_aload_n hx hb dX9_advance_40 rfl (lv_at hl 0 rfl) ?_
    refine s_getEn hx hb hT hK hS hown 0 (by decide) fl_X9_9 dX9_advance_41 ?_
    obtain ⟨f7, hf7, hE⟩ := bd hE
    refine s_putR hx hb hT u_X9 tyX9 tyX9_ok nmX9 hown hK hW hS hf7 rfl (by decide) fl_X9_15 rfl (Or.inl rfl) rfl fit_o dX9_advance_44 (fun H locs hW hS => ?_)
    refine s_aload_n hx hb dX9_advance_47 rfl (lv_at hl 0 rfl) ?_
    refine lv_iconst (v := (0 : Int32)) hx hb dX9_advance_48 (by decide) ?_
    obtain ⟨f8, hf8, hE⟩ := bd hE
    refine s_putI hx hb hT u_X9 tyX9 tyX9_ok nmX9 hown hK hW hS hf8 rfl (by decide) fl_X9_53 rfl (Or.inl rfl) rfl dX9_advance_49 (fun H locs hW hS => ?_)
    refine s_aload_n hx hb dX9_advance_52 rfl (lv_at hl 0 rfl) ?_
    refine lv_lconst (v := (0 : Int64)) hx hb dX9_advance_53 (by decide) ?_
    obtain ⟨f9, hf9, hE⟩ := bd hE
    refine s_putJ hx hb hT u_X9 tyX9 tyX9_ok nmX9 hown hK hW hS hf9 rfl (by decide) fl_X9_56 rfl (Or.inl rfl) rfl dX9_advance_54 (fun H locs hW hS => ?_)
    refine s_aload_n hx hb dX9_advance_57 rfl (lv_at hl 0 rfl) ?_
    refine lv_iconst (v := (0 : Int32)) hx hb dX9_advance_58 (by decide) ?_
    obtain ⟨f10, hf10, hE⟩ := bd hE
    refine s_putI hx hb hT u_X9 tyX9 tyX9_ok nmX9 hown hK hW hS hf10 rfl (by decide) fl_X9_60 rfl (Or.inl rfl) rfl dX9_advance_59 (fun H locs hW hS => ?_)
    refine lv_iload_n hx hb dX9_advance_62 rfl (lv_at hl 2 rfl) ?_
    refine lv_iload_n hx hb dX9_advance_63 rfl (lv_at hl 1 rfl) ?_
    refine lv_icmp_lt (tgt := 98) hx hb dX9_advance_64 (by decide) (fun q11 => ?_) (fun q11 => ?_)
    · replace hE := ite_t q11 hE
      refine s_aload_n hx hb dX9_advance_98 rfl (lv_at hl 0 rfl) ?_
      refine lv_iload_n hx hb dX9_advance_99 rfl (lv_at hl 2 rfl) ?_
      obtain ⟨f12, hf12, hE⟩ := bd hE
      refine s_putI hx hb hT u_X9 tyX9 tyX9_ok nmX9 hown hK hW hS hf12 rfl (by decide) fl_X9_63 rfl (Or.inl rfl) rfl dX9_advance_100 (fun H locs hW hS => ?_)
      refine s_aload_n hx hb dX9_advance_103 rfl (lv_at hl 0 rfl) ?_
      obtain ⟨x13, hx13, hE⟩ := bd hE
      refine s_gR hx hb hT u_X9 hown hK hW hx13 rfl (by decide) fl_X9_20 rfl dX9_advance_104 ?_
      refine lv_iload_n hx hb dX9_advance_107 rfl (lv_at hl 2 rfl) ?_
      obtain ⟨x14, hx14, hE⟩ := bd hE
      refine s_ldB hx hb hK hW hS hx14 dX9_advance_108 ?_
      obtain ⟨x15, hx15, hE⟩ := bd hE
      refine s_callS (As := [.int x14]) (rest := []) CF hK hW hS (S_X9_isLetter l G F hx15) gs_X9_69 hd_X9_isLetter.2 ⟨Nat.le_of_ble_eq_true rfl, Nat.le_of_ble_eq_true rfl⟩ rfl hl.1 rfl (Nat.le_of_ble_eq_true rfl) dX9_advance_109 ⟨Nat.le_refl _, Nat.le_refl _⟩ (fun H locs hW hS => ?_)
      refine lv_if_ne (tgt := 127) hx hb dX9_advance_112 (by decide) (fun q16 => ?_) (fun q16 => ?_)
      · replace hE := ite_f q16 hE
        refine s_aload_n hx hb dX9_advance_127 rfl (lv_at hl 0 rfl) ?_
        obtain ⟨c17, hE⟩ := ck hE
        obtain ⟨f18, hf18, hE⟩ := bd hE
        refine s_callV (As := []) (rest := []) CF hK hW hS (S_X9_readRun l G F hf18) c17 rfl gv_X9_75 hd_X9_readRun ⟨Nat.le_of_ble_eq_true rfl, Nat.le_of_ble_eq_true rfl⟩ rfl hl.1 rfl (Nat.le_of_ble_eq_true rfl) dX9_advance_128 ⟨Nat.le_refl _, Nat.le_refl _⟩ (fun H locs hW hS => ?_)
        refine lv_goto (tgt := 138) hx hb dX9_advance_131 (by decide) ?_
        obtain rfl := so1 hE
        exact s_vret hx hb hr hlocks hW hS dX9_advance_138
      · replace hE := ite_t q16 hE
        refine s_aload_n hx hb dX9_advance_115 rfl (lv_at hl 0 rfl) ?_
        obtain ⟨x19, hx19, hE⟩ := bd hE
        refine s_gR hx hb hT u_X9 hown hK hW hx19 rfl (by decide) fl_X9_20 rfl dX9_advance_116 ?_
        refine lv_iload_n hx hb dX9_advance_119 rfl (lv_at hl 2 rfl) ?_
        obtain ⟨x20, hx20, hE⟩ := bd hE
        refine s_ldB hx hb hK hW hS hx20 dX9_advance_120 ?_
        obtain ⟨x21, hx21, hE⟩ := bd hE
        refine s_callS (As := [.int x20]) (rest := []) CF hK hW hS (S_X9_isDigit l G F hx21) gs_X9_72 hd_X9_isDigit.2 ⟨Nat.le_of_ble_eq_true rfl, Nat.le_of_ble_eq_true rfl⟩ rfl hl.1 rfl (Nat.le_of_ble_eq_true rfl) dX9_advance_121 ⟨Nat.le_refl _, Nat.le_refl _⟩ (fun H locs hW hS => ?_)
        refine lv_if_eq (tgt := 134) hx hb dX9_advance_124 (by decide) (fun q22 => ?_) (fun q22 => ?_)
        · replace hE := ite_t q22 hE
          refine s_aload_n hx hb dX9_advance_134 rfl (lv_at hl 0 rfl) ?_
          obtain ⟨c23, hE⟩ := ck hE
          obtain ⟨f24, hf24, hE⟩ := bd hE
          refine s_callV (As := []) (rest := []) CF hK hW hS (S_X9_readSign l G F hf24) c23 rfl gv_X9_78 hd_X9_readSign ⟨Nat.le_of_ble_eq_true rfl, Nat.le_of_ble_eq_true rfl⟩ rfl hl.1 rfl (Nat.le_of_ble_eq_true rfl) dX9_advance_135 ⟨Nat.le_refl _, Nat.le_refl _⟩ (fun H locs hW hS => ?_)
          obtain rfl := so1 hE
          exact s_vret hx hb hr hlocks hW hS dX9_advance_138
        · replace hE := ite_f q22 hE
          refine s_aload_n hx hb dX9_advance_127 rfl (lv_at hl 0 rfl) ?_
          obtain ⟨c25, hE⟩ := ck hE
          obtain ⟨f26, hf26, hE⟩ := bd hE
          refine s_callV (As := []) (rest := []) CF hK hW hS (S_X9_readRun l G F hf26) c25 rfl gv_X9_75 hd_X9_readRun ⟨Nat.le_of_ble_eq_true rfl, Nat.le_of_ble_eq_true rfl⟩ rfl hl.1 rfl (Nat.le_of_ble_eq_true rfl) dX9_advance_128 ⟨Nat.le_refl _, Nat.le_refl _⟩ (fun H locs hW hS => ?_)
          refine lv_goto (tgt := 138) hx hb dX9_advance_131 (by decide) ?_
          obtain rfl := so1 hE
          exact s_vret hx hb hr hlocks hW hS dX9_advance_138
    · replace hE := ite_f q11 hE
      refine s_aload_n hx hb dX9_advance_67 rfl (lv_at hl 0 rfl) ?_
      refine lv_iload_n hx hb dX9_advance_68 rfl (lv_at hl 1 rfl) ?_
      obtain ⟨f27, hf27, hE⟩ := bd hE
      refine s_putI hx hb hT u_X9 tyX9 tyX9_ok nmX9 hown hK hW hS hf27 rfl (by decide) fl_X9_63 rfl (Or.inl rfl) rfl dX9_advance_69 (fun H locs hW hS => ?_)
      refine s_aload_n hx hb dX9_advance_72 rfl (lv_at hl 0 rfl) ?_
      refine lv_iload_n hx hb dX9_advance_73 rfl (lv_at hl 1 rfl) ?_
      obtain ⟨f28, hf28, hE⟩ := bd hE
      refine s_putI hx hb hT u_X9 tyX9 tyX9_ok nmX9 hown hK hW hS hf28 rfl (by decide) fl_X9_37 rfl (Or.inl rfl) rfl dX9_advance_74 (fun H locs hW hS => ?_)
      refine s_aload_n hx hb dX9_advance_77 rfl (lv_at hl 0 rfl) ?_
      refine s_aload_n hx hb dX9_advance_78 rfl (lv_at hl 0 rfl) ?_
      obtain ⟨x29, hx29, hE⟩ := bd hE
      refine s_gI hx hb hT u_X9 hown hK hW hx29 rfl (by decide) fl_X9_30 rfl dX9_advance_79 ?_
      refine s_aload_n hx hb dX9_advance_82 rfl (lv_at hl 0 rfl) ?_
      obtain ⟨x30, hx30, hE⟩ := bd hE
      refine s_gI hx hb hT u_X9 hown hK hW hx30 rfl (by decide) fl_X9_34 rfl dX9_advance_83 ?_
      refine lv_icmp_le (tgt := 93) hx hb dX9_advance_86 (by decide) (fun q31 => ?_) (fun q31 => ?_)
      · replace hE := ite_t q31 hE
        refine lv_iconst (v := (0 : Int32)) hx hb dX9_advance_93 (by decide) ?_
        obtain ⟨f32, hf32, hE⟩ := bd hE
        refine s_putI hx hb hT u_X9 tyX9 tyX9_ok nmX9 hown hK hW hS hf32 rfl (by decide) fl_X9_66 rfl (Or.inl rfl) rfl dX9_advance_94 (fun H locs hW hS => ?_)
        obtain rfl := so1 hE
        exact s_vret hx hb hr hlocks hW hS dX9_advance_97
      · replace hE := ite_f q31 hE
        refine lv_iconst (v := (1 : Int32)) hx hb dX9_advance_89 (by decide) ?_
        refine lv_goto (tgt := 94) hx hb dX9_advance_90 (by decide) ?_
        obtain ⟨f33, hf33, hE⟩ := bd hE
        refine s_putI hx hb hT u_X9 tyX9 tyX9_ok nmX9 hown hK hW hS hf33 rfl (by decide) fl_X9_66 rfl (Or.inl rfl) rfl dX9_advance_94 (fun H locs hW hS => ?_)
        obtain rfl := so1 hE
        exact s_vret hx hb hr hlocks hW hS dX9_advance_97
  have hC17 : ∀ (k17 : Nat), ∀ (v0 : Option Nat) (v1 : Int32) (v2 : Int32) (fa : Hp) (H : Heap) (locs : List Loc) (ls : Array Slot), m_X9_advance_L17 F k17 v0 v1 v2 fa = some f' → Wd G fa n H → va_S (WA G) s.heap H locs → lv_has ls 3 [(0, rr G v0), (1, .int v1), (2, .int v2)] → W p l e (headSpec (wsO yX9_advance cX9_advance 3 none) { frames := 2, cells := 0, slots := 0, locals := 48 }).room s m [rr G u0].toArray below meth c H locs 0 0 (MQ below (Qcn G none f' n) [rr G u0].toArray s 0 0 (WA G)) (F0 m 17 ls []) := by
    intro k17
    induction k17 with
    | zero => intro v0 v1 v2 fa H locs ls hE _ _ _; cases (show (none : Option Hp) = some f' from hE)
    | succ k17 ih17 =>
      intro v0 v1 v2 fa H locs ls hE hW hS hl
      replace hE : m_X9_advance_b17 F (m_X9_advance_L17 F k17) v0 v1 v2 fa = some f' := hE
      refine lv_iload_n hx hb dX9_advance_17 rfl (lv_at hl 2 rfl) ?_
      refine lv_iload_n hx hb dX9_advance_18 rfl (lv_at hl 1 rfl) ?_
      refine lv_icmp_ge (tgt := 40) hx hb dX9_advance_19 (by decide) (fun q1 => ?_) (fun q1 => ?_)
      · replace hE := ite_t q1 hE
        exact hC40 _ _ _ _ _ _ _ hE hW hS (lv_sub hl [0, 1, 2] rfl)
      · replace hE := ite_f q1 hE
        refine s_aload_n hx hb dX9_advance_22 rfl (lv_at hl 0 rfl) ?_
        obtain ⟨x2, hx2, hE⟩ := bd hE
        refine s_gR hx hb hT u_X9 hown hK hW hx2 rfl (by decide) fl_X9_20 rfl dX9_advance_23 ?_
        refine lv_iload_n hx hb dX9_advance_26 rfl (lv_at hl 2 rfl) ?_
        obtain ⟨x3, hx3, hE⟩ := bd hE
        refine s_ldB hx hb hK hW hS hx3 dX9_advance_27 ?_
        obtain ⟨x4, hx4, hE⟩ := bd hE
        refine s_callS (As := [.int x3]) (rest := []) CF hK hW hS (S_X9_isBlank l G F hx4) gs_X9_49 hd_X9_isBlank.2 ⟨Nat.le_of_ble_eq_true rfl, Nat.le_of_ble_eq_true rfl⟩ rfl hl.1 rfl (Nat.le_of_ble_eq_true rfl) dX9_advance_28 ⟨Nat.le_refl _, Nat.le_refl _⟩ (fun H locs hW hS => ?_)
        refine lv_if_eq (tgt := 40) hx hb dX9_advance_31 (by decide) (fun q5 => ?_) (fun q5 => ?_)
        · replace hE := ite_t q5 hE
          exact hC40 _ _ _ _ _ _ _ hE hW hS (lv_sub hl [0, 1, 2] rfl)
        · replace hE := ite_f q5 hE
          obtain ⟨y6, ey6⟩ : ∃ y : Int32, y = v2 + (1 : Int32) := ⟨_, rfl⟩
          replace hE := nm_o ey6 hE
          refine lv_iinc (k := 2) (v := y6) (lv' := [(2, .int y6), (0, rr G v0), (1, .int v1)]) hx hb dX9_advance_34 hl rfl (by rw [ey6]; rfl) (by decide) rfl (fun ls hl => ?_)
          refine lv_goto (tgt := 17) hx hb dX9_advance_37 (by decide) ?_
          exact ih17 _ _ _ _ _ _ _ hE hW hS (lv_sub hl [1, 2, 0] rfl)
  refine s_aload_n hx hb dX9_advance_0 rfl (lv_at hl 0 rfl) ?_
  obtain ⟨x34, hx34, hE⟩ := bd hE
  refine s_gI hx hb hT u_X9 hown hK hW hx34 rfl (by decide) fl_X9_30 rfl dX9_advance_1 ?_
  refine s_aload_n hx hb dX9_advance_4 rfl (lv_at hl 0 rfl) ?_
  obtain ⟨x35, hx35, hE⟩ := bd hE
  refine s_gI hx hb hT u_X9 hown hK hW hx35 rfl (by decide) fl_X9_34 rfl dX9_advance_5 ?_
  refine s_min hx hb (by rw [hml]; exact hl.1.symm) hT hown mx_X9_24 (Nat.le_of_ble_eq_true rfl) (Nat.le_of_ble_eq_true rfl) (Nat.le_of_ble_eq_true rfl) (Nat.le_refl _) (Nat.le_refl _) dX9_advance_8 ?_
  refine lv_topi (fun y36 ey36 => ?_)
  replace hE := nm_o ey36 hE
  refine lv_istore_n (i := 1) (lv' := [(1, .int y36), (0, rr G u0)]) hx hb dX9_advance_11 rfl hl (by decide) (by simp [cat_rr]) (fun ls hl => ?_)
  refine s_aload_n hx hb dX9_advance_12 rfl (lv_at hl 1 rfl) ?_
  obtain ⟨x37, hx37, hE⟩ := bd hE
  refine s_gI hx hb hT u_X9 hown hK hW hx37 rfl (by decide) fl_X9_37 rfl dX9_advance_13 ?_
  refine lv_istore_n (i := 2) (lv' := [(2, .int x37), (1, .int y36), (0, rr G u0)]) hx hb dX9_advance_16 rfl hl (by decide) rfl (fun ls hl => ?_)
  exact hC17 F _ _ _ _ _ _ _ hE hW hS (lv_sub hl [2, 1, 0] rfl)
set_option maxHeartbeats 4000000 in
set_option maxRecDepth 100000 in
theorem S_X9_open (l : Launch) (G : GG) (F : Nat) {u0 : Option Nat} {u1 : Int32} {u2 : Int32} {f : Hp} {f' : Hp} {n : Nat} (hE : m_X9_open F u0 u1 u2 f = some f') : Ctr l G yX9_open cX9_open 3 none 3 70 [rr G u0, .int u1, .int u2] f n none f' n 0 0 := by
  refine Met.ofW (cc := cX9_open) (maxL := 3) (ret := none) (by decide) rfl ?_
  intro p e s m args below meth c s₁ B hml hv
  obtain ⟨rfl, hK, hW⟩ := hv
  have hx := B.exec
  have hb := B.bytes
  have hr := B.returns
  have hts := atoms_spec (ws := wsO yX9_open cX9_open 3 none) B.pre
  have hT : ∀ w ∈ TB, w.before [rr G u0, .int u1, .int u2].toArray s = true := fun w hw => hts w (List.mem_cons_of_mem _ hw)
  have hown : s.vm.findClass RX9 = some m.cls := findClass_of_methodNamed B.named
  have hlocks := B.notSynchronized
  have CF : CallFix p m c cX9_open 3 s [rr G u0, .int u1, .int u2].toArray TB RX9 := ⟨hx, hb, hml, hown, hT⟩
  have hS : va_S (WA G) s.heap s.heap [] := va_S.rf
  have hl : lv_has (lg_sl ([rr G u0, .int u1, .int u2]) ++ List.replicate (3 - (lg_sl ([rr G u0, .int u1, .int u2])).length) Slot.unset).toArray 3 [(0, rr G u0), (1, .int u1), (2, .int u2)] := by cases u0 <;> exact lv_entry _ (Nat.le_of_ble_eq_true rfl)
  rw [lg_entry_eq]
  generalize (lg_sl ([rr G u0, .int u1, .int u2]) ++ List.replicate (3 - (lg_sl ([rr G u0, .int u1, .int u2])).length) Slot.unset).toArray = ls at hl ⊢
  refine s_aload_n hx hb dX9_open_0 rfl (lv_at hl 0 rfl) ?_
  refine lv_iload_n hx hb dX9_open_1 rfl (lv_at hl 1 rfl) ?_
  refine s_aload_n hx hb dX9_open_2 rfl (lv_at hl 0 rfl) ?_
  obtain ⟨x1, hx1, hE⟩ := bd hE
  refine s_gR hx hb hT u_X9 hown hK hW hx1 rfl (by decide) fl_X9_20 rfl dX9_open_3 ?_
  obtain ⟨x2, hx2, hE⟩ := bd hE
  refine s_alen hx hb hK hW hS hx2 dX9_open_6 ?_
  refine s_min hx hb (by rw [hml]; exact hl.1.symm) hT hown mx_X9_24 (Nat.le_of_ble_eq_true rfl) (Nat.le_of_ble_eq_true rfl) (Nat.le_of_ble_eq_true rfl) (Nat.le_refl _) (Nat.le_refl _) dX9_open_7 ?_
  obtain ⟨f3, hf3, hE⟩ := bd hE
  refine s_putI hx hb hT u_X9 tyX9 tyX9_ok nmX9 hown hK hW hS hf3 rfl (by decide) fl_X9_30 rfl (Or.inl rfl) rfl dX9_open_10 (fun H locs hW hS => ?_)
  refine s_aload_n hx hb dX9_open_13 rfl (lv_at hl 0 rfl) ?_
  refine lv_iload_n hx hb dX9_open_14 rfl (lv_at hl 2 rfl) ?_
  obtain ⟨f4, hf4, hE⟩ := bd hE
  refine s_putI hx hb hT u_X9 tyX9 tyX9_ok nmX9 hown hK hW hS hf4 rfl (by decide) fl_X9_34 rfl (Or.inl rfl) rfl dX9_open_15 (fun H locs hW hS => ?_)
  refine s_aload_n hx hb dX9_open_18 rfl (lv_at hl 0 rfl) ?_
  refine lv_iconst (v := (0 : Int32)) hx hb dX9_open_19 (by decide) ?_
  obtain ⟨f5, hf5, hE⟩ := bd hE
  refine s_putI hx hb hT u_X9 tyX9 tyX9_ok nmX9 hown hK hW hS hf5 rfl (by decide) fl_X9_37 rfl (Or.inl rfl) rfl dX9_open_20 (fun H locs hW hS => ?_)
  refine s_aload_n hx hb dX9_open_23 rfl (lv_at hl 0 rfl) ?_
  refine lv_iconst (v := (0 : Int32)) hx hb dX9_open_24 (by decide) ?_
  obtain ⟨f6, hf6, hE⟩ := bd hE
  refine s_putI hx hb hT u_X9 tyX9 tyX9_ok nmX9 hown hK hW hS hf6 rfl (by decide) fl_X9_40 rfl (Or.inl rfl) rfl dX9_open_25 (fun H locs hW hS => ?_)
  refine s_aload_n hx hb dX9_open_28 rfl (lv_at hl 0 rfl) ?_
  refine lv_iconst (v := (0 : Int32)) hx hb dX9_open_29 (by decide) ?_
  obtain ⟨f7, hf7, hE⟩ := bd hE
  refine s_putI hx hb hT u_X9 tyX9 tyX9_ok nmX9 hown hK hW hS hf7 rfl (by decide) fl_X9_43 rfl (Or.inl rfl) rfl dX9_open_30 (fun H locs hW hS => ?_)
  refine s_aload_n hx hb dX9_open_33 rfl (lv_at hl 0 rfl) ?_
  obtain ⟨c8, hE⟩ := ck hE
  obtain ⟨f9, hf9, hE⟩ := bd hE
  refine s_callV (As := []) (rest := []) CF hK hW hS (S_X9_advance l G F hf9) c8 rfl gv_X9_46 hd_X9_advance ⟨Nat.le_of_ble_eq_true rfl, Nat.le_of_ble_eq_true rfl⟩ rfl hl.1 rfl (Nat.le_of_ble_eq_true rfl) dX9_open_34 ⟨Nat.le_refl _, Nat.le_refl _⟩ (fun H locs hW hS => ?_)
  obtain rfl := so1 hE
  exact s_vret hx hb hr hlocks hW hS dX9_open_37
set_option maxHeartbeats 4000000 in
set_option maxRecDepth 100000 in
theorem S_J7_fill_53178 (l : Launch) (G : GG) (F : Nat) {u0 : Option Nat} {u1 : Int32} {f : Hp} {f' : Hp} {n : Nat} (hE : m_J7_fill_53178 F u0 u1 f = some f') : Ctr l G yJ7_fill_53178 cJ7_fill_53178 4 none 0 0 [rr G u0, .int u1] f n none f' n 0 0 := by
  refine Met.ofW (cc := cJ7_fill_53178) (maxL := 4) (ret := none) (by decide) rfl ?_
  intro p e s m args below meth c s₁ B hml hv
  obtain ⟨rfl, hK, hW⟩ := hv
  have hx := B.exec
  have hb := B.bytes
  have hr := B.returns
  have hts := atoms_spec (ws := wsO yJ7_fill_53178 cJ7_fill_53178 4 none) B.pre
  have hT : ∀ w ∈ TB, w.before [rr G u0, .int u1].toArray s = true := fun w hw => hts w (List.mem_cons_of_mem _ hw)
  have hown : s.vm.findClass RJ7 = some m.cls := findClass_of_methodNamed B.named
  have hlocks := B.notSynchronized
  have CF : CallFix p m c cJ7_fill_53178 4 s [rr G u0, .int u1].toArray TB RJ7 := ⟨hx, hb, hml, hown, hT⟩
  have hS : va_S (WA G) s.heap s.heap [] := va_S.rf
  have hl : lv_has (lg_sl ([rr G u0, .int u1]) ++ List.replicate (4 - (lg_sl ([rr G u0, .int u1])).length) Slot.unset).toArray 4 [(0, rr G u0), (1, .int u1)] := by cases u0 <;> exact lv_entry _ (Nat.le_of_ble_eq_true rfl)
  rw [lg_entry_eq]
  generalize (lg_sl ([rr G u0, .int u1]) ++ List.replicate (4 - (lg_sl ([rr G u0, .int u1])).length) Slot.unset).toArray = ls at hl ⊢
  have hC5 : ∀ (k5 : Nat), ∀ (v0 : Option Nat) (v1 : Int32) (v2 : Int32) (v3 : Int32) (fa : Hp) (H : Heap) (locs : List Loc) (ls : Array Slot), m_J7_fill_53178_L5 F k5 v0 v1 v2 v3 fa = some f' → Wd G fa n H → va_S (WA G) s.heap H locs → lv_has ls 4 [(0, rr G v0), (1, .int v1), (2, .int v2), (3, .int v3)] → W p l e (headSpec (wsO yJ7_fill_53178 cJ7_fill_53178 4 none) { frames := 0, cells := 0, slots := 0, locals := 0 }).room s m [rr G u0, .int u1].toArray below meth c H locs 0 0 (MQ below (Qcn G none f' n) [rr G u0, .int u1].toArray s 0 0 (WA G)) (F0 m 5 ls []) := by
    intro k5
    induction k5 with
    | zero => intro v0 v1 v2 v3 fa H locs ls hE _ _ _; cases (show (none : Option Hp) = some f' from hE)
    | succ k5 ih5 =>
      intro v0 v1 v2 v3 fa H locs ls hE hW hS hl
      replace hE : m_J7_fill_53178_b5 F (m_J7_fill_53178_L5 F k5) v0 v1 v2 v3 fa = some f' := hE
      refine lv_iload_n hx hb dJ7_fill_53178_5 rfl (lv_at hl 2 rfl) ?_
      refine lv_iload_n hx hb dJ7_fill_53178_6 rfl (lv_at hl 3 rfl) ?_
      refine lv_icmp_ge (tgt := 20) hx hb dJ7_fill_53178_7 (by decide) (fun q1 => ?_) (fun q1 => ?_)
      · replace hE := ite_t q1 hE
        obtain rfl := so1 hE
        exact s_vret hx hb hr hlocks hW hS dJ7_fill_53178_20
      · replace hE := ite_f q1 hE
        refine s_aload_n hx hb dJ7_fill_53178_10 rfl (lv_at hl 0 rfl) ?_
        refine lv_iload_n hx hb dJ7_fill_53178_11 rfl (lv_at hl 2 rfl) ?_
        refine lv_iload_n hx hb dJ7_fill_53178_12 rfl (lv_at hl 1 rfl) ?_
        obtain ⟨f2, hf2, hE⟩ := bd hE
        refine s_stI hx hb hK hW hS hf2 dJ7_fill_53178_13 (fun H locs hW hS => ?_)
        obtain ⟨y3, ey3⟩ : ∃ y : Int32, y = v2 + (1 : Int32) := ⟨_, rfl⟩
        replace hE := nm_o ey3 hE
        refine lv_iinc (k := 2) (v := y3) (lv' := [(2, .int y3), (0, rr G v0), (1, .int v1), (3, .int v3)]) hx hb dJ7_fill_53178_14 hl rfl (by rw [ey3]; rfl) (by decide) rfl (fun ls hl => ?_)
        refine lv_goto (tgt := 5) hx hb dJ7_fill_53178_17 (by decide) ?_
        exact ih5 _ _ _ _ _ _ _ _ hE hW hS (lv_sub hl [1, 2, 0, 3] rfl)
  refine lv_iconst (v := (0 : Int32)) hx hb dJ7_fill_53178_0 (by decide) ?_
  refine lv_istore_n (i := 2) (lv' := [(2, .int (0 : Int32)), (0, rr G u0), (1, .int u1)]) hx hb dJ7_fill_53178_1 rfl hl (by decide) rfl (fun ls hl => ?_)
  refine s_aload_n hx hb dJ7_fill_53178_2 rfl (lv_at hl 1 rfl) ?_
  obtain ⟨x4, hx4, hE⟩ := bd hE
  refine s_alen hx hb hK hW hS hx4 dJ7_fill_53178_3 ?_
  refine lv_istore_n (i := 3) (lv' := [(3, .int x4), (2, .int (0 : Int32)), (0, rr G u0), (1, .int u1)]) hx hb dJ7_fill_53178_4 rfl hl (by decide) rfl (fun ls hl => ?_)
  exact hC5 F _ _ _ _ _ _ _ _ hE hW hS (lv_sub hl [2, 3, 1, 0] rfl)
set_option maxHeartbeats 4000000 in
set_option maxRecDepth 100000 in
theorem S_X7_clear (l : Launch) (G : GG) (F : Nat) {u0 : Option Nat} {f : Hp} {f' : Hp} {n : Nat} (hE : m_X7_clear F u0 f = some f') : Ctr l G yX7_clear cX7_clear 1 none 0 0 [rr G u0] f n none f' n 0 0 := by
  refine Met.ofW (cc := cX7_clear) (maxL := 1) (ret := none) (by decide) rfl ?_
  intro p e s m args below meth c s₁ B hml hv
  obtain ⟨rfl, hK, hW⟩ := hv
  have hx := B.exec
  have hb := B.bytes
  have hr := B.returns
  have hts := atoms_spec (ws := wsO yX7_clear cX7_clear 1 none) B.pre
  have hT : ∀ w ∈ TB, w.before [rr G u0].toArray s = true := fun w hw => hts w (List.mem_cons_of_mem _ hw)
  have hown : s.vm.findClass RX7 = some m.cls := findClass_of_methodNamed B.named
  have hlocks := B.notSynchronized
  have CF : CallFix p m c cX7_clear 1 s [rr G u0].toArray TB RX7 := ⟨hx, hb, hml, hown, hT⟩
  have hS : va_S (WA G) s.heap s.heap [] := va_S.rf
  have hl : lv_has (lg_sl ([rr G u0]) ++ List.replicate (1 - (lg_sl ([rr G u0])).length) Slot.unset).toArray 1 [(0, rr G u0)] := by cases u0 <;> exact lv_entry _ (Nat.le_of_ble_eq_true rfl)
  rw [lg_entry_eq]
  generalize (lg_sl ([rr G u0]) ++ List.replicate (1 - (lg_sl ([rr G u0])).length) Slot.unset).toArray = ls at hl ⊢
  refine s_aload_n hx hb dX7_clear_0 rfl (lv_at hl 0 rfl) ?_
  refine lv_iconst (v := (0 : Int32)) hx hb dX7_clear_1 (by decide) ?_
  obtain ⟨f1, hf1, hE⟩ := bd hE
  refine s_putI hx hb hT u_X7 tyX7 tyX7_ok nmX7 hown hK hW hS hf1 rfl (by decide) fl_X7_34 rfl (Or.inl rfl) rfl dX7_clear_2 (fun H locs hW hS => ?_)
  obtain rfl := so1 hE
  exact s_vret hx hb hr hlocks hW hS dX7_clear_5
set_option maxHeartbeats 4000000 in
set_option maxRecDepth 100000 in
theorem S_X4_clear (l : Launch) (G : GG) (F : Nat) {u0 : Option Nat} {f : Hp} {f' : Hp} {n : Nat} (hE : m_X4_clear F u0 f = some f') : Ctr l G yX4_clear cX4_clear 1 none 1 23 [rr G u0] f n none f' n 0 0 := by
  refine Met.ofW (cc := cX4_clear) (maxL := 1) (ret := none) (by decide) rfl ?_
  intro p e s m args below meth c s₁ B hml hv
  obtain ⟨rfl, hK, hW⟩ := hv
  have hx := B.exec
  have hb := B.bytes
  have hr := B.returns
  have hts := atoms_spec (ws := wsO yX4_clear cX4_clear 1 none) B.pre
  have hT : ∀ w ∈ TB, w.before [rr G u0].toArray s = true := fun w hw => hts w (List.mem_cons_of_mem _ hw)
  have hown : s.vm.findClass RX4 = some m.cls := findClass_of_methodNamed B.named
  have hlocks := B.notSynchronized
  have CF : CallFix p m c cX4_clear 1 s [rr G u0].toArray TB RX4 := ⟨hx, hb, hml, hown, hT⟩
  have hS : va_S (WA G) s.heap s.heap [] := va_S.rf
  have hl : lv_has (lg_sl ([rr G u0]) ++ List.replicate (1 - (lg_sl ([rr G u0])).length) Slot.unset).toArray 1 [(0, rr G u0)] := by cases u0 <;> exact lv_entry _ (Nat.le_of_ble_eq_true rfl)
  rw [lg_entry_eq]
  generalize (lg_sl ([rr G u0]) ++ List.replicate (1 - (lg_sl ([rr G u0])).length) Slot.unset).toArray = ls at hl ⊢
  refine s_aload_n hx hb dX4_clear_0 rfl (lv_at hl 0 rfl) ?_
  refine lv_iconst (v := (4 : Int32)) hx hb dX4_clear_1 (by decide) ?_
  obtain ⟨f1, hf1, hE⟩ := bd hE
  refine s_putI hx hb hT u_X4 tyX4 tyX4_ok nmX4 hown hK hW hS hf1 rfl (by decide) fl_X4_9 rfl (Or.inl rfl) rfl dX4_clear_2 (fun H locs hW hS => ?_)
  refine s_aload_n hx hb dX4_clear_5 rfl (lv_at hl 0 rfl) ?_
  refine lv_iconst (v := (0 : Int32)) hx hb dX4_clear_6 (by decide) ?_
  obtain ⟨f2, hf2, hE⟩ := bd hE
  refine s_putI hx hb hT u_X4 tyX4 tyX4_ok nmX4 hown hK hW hS hf2 rfl (by decide) fl_X4_55 rfl (Or.inl rfl) rfl dX4_clear_7 (fun H locs hW hS => ?_)
  refine s_aload_n hx hb dX4_clear_10 rfl (lv_at hl 0 rfl) ?_
  refine lv_iconst (v := (0 : Int32)) hx hb dX4_clear_11 (by decide) ?_
  obtain ⟨f3, hf3, hE⟩ := bd hE
  refine s_putI hx hb hT u_X4 tyX4 tyX4_ok nmX4 hown hK hW hS hf3 rfl (by decide) fl_X4_58 rfl (Or.inl rfl) rfl dX4_clear_12 (fun H locs hW hS => ?_)
  refine s_aload_n hx hb dX4_clear_15 rfl (lv_at hl 0 rfl) ?_
  obtain ⟨x4, hx4, hE⟩ := bd hE
  refine s_gR hx hb hT u_X4 hown hK hW hx4 rfl (by decide) fl_X4_27 rfl dX4_clear_16 ?_
  refine lv_iconst (v := (1 : Int32)) hx hb dX4_clear_19 (by decide) ?_
  obtain ⟨f5, hf5, hE⟩ := bd hE
  refine s_callS (As := [rr G x4, .int (1 : Int32)]) (rest := []) CF hK hW hS (S_J7_fill_53178 l G F hf5) gs_X4_49 hd_J7_fill_53178.2 ⟨Nat.le_of_ble_eq_true rfl, Nat.le_of_ble_eq_true rfl⟩ rfl hl.1 rfl (Nat.le_of_ble_eq_true rfl) dX4_clear_20 ⟨Nat.le_refl _, Nat.le_refl _⟩ (fun H locs hW hS => ?_)
  refine s_aload_n hx hb dX4_clear_23 rfl (lv_at hl 0 rfl) ?_
  refine lv_iconst (v := (0 : Int32)) hx hb dX4_clear_24 (by decide) ?_
  obtain ⟨f6, hf6, hE⟩ := bd hE
  refine s_putI hx hb hT u_X4 tyX4 tyX4_ok nmX4 hown hK hW hS hf6 rfl (by decide) fl_X4_61 rfl (Or.inl rfl) rfl dX4_clear_25 (fun H locs hW hS => ?_)
  refine s_aload_n hx hb dX4_clear_28 rfl (lv_at hl 0 rfl) ?_
  refine lv_iconst (v := (0 : Int32)) hx hb dX4_clear_29 (by decide) ?_
  obtain ⟨f7, hf7, hE⟩ := bd hE
  refine s_putI hx hb hT u_X4 tyX4 tyX4_ok nmX4 hown hK hW hS hf7 rfl (by decide) fl_X4_64 rfl (Or.inl rfl) rfl dX4_clear_30 (fun H locs hW hS => ?_)
  refine s_aload_n hx hb dX4_clear_33 rfl (lv_at hl 0 rfl) ?_
  obtain ⟨x8, hx8, hE⟩ := bd hE
  refine s_gR hx hb hT u_X4 hown hK hW hx8 rfl (by decide) fl_X4_37 rfl dX4_clear_34 ?_
  refine lv_iconst (v := (0 : Int32)) hx hb dX4_clear_37 (by decide) ?_
  obtain ⟨f9, hf9, hE⟩ := bd hE
  refine s_callS (As := [rr G x8, .int (0 : Int32)]) (rest := []) CF hK hW hS (S_J7_fill_53178 l G F hf9) gs_X4_49 hd_J7_fill_53178.2 ⟨Nat.le_of_ble_eq_true rfl, Nat.le_of_ble_eq_true rfl⟩ rfl hl.1 rfl (Nat.le_of_ble_eq_true rfl) dX4_clear_38 ⟨Nat.le_refl _, Nat.le_refl _⟩ (fun H locs hW hS => ?_)
  refine s_aload_n hx hb dX4_clear_41 rfl (lv_at hl 0 rfl) ?_
  obtain ⟨x10, hx10, hE⟩ := bd hE
  refine s_gR hx hb hT u_X4 hown hK hW hx10 rfl (by decide) fl_X4_43 rfl dX4_clear_42 ?_
  obtain ⟨c11, hE⟩ := ck hE
  obtain ⟨f12, hf12, hE⟩ := bd hE
  refine s_callV (As := []) (rest := []) CF hK hW hS (S_X7_clear l G F hf12) c11 rfl gv_X4_67 hd_X7_clear ⟨Nat.le_of_ble_eq_true rfl, Nat.le_of_ble_eq_true rfl⟩ rfl hl.1 rfl (Nat.le_of_ble_eq_true rfl) dX4_clear_45 ⟨Nat.le_refl _, Nat.le_refl _⟩ (fun H locs hW hS => ?_)
  obtain rfl := so1 hE
  exact s_vret hx hb hr hlocks hW hS dX4_clear_48
set_option maxHeartbeats 4000000 in
set_option maxRecDepth 100000 in
theorem S_X9_fail (l : Launch) (G : GG) (F : Nat) {u0 : Option Nat} {u1 : Int32} {f : Hp} {r : Int32} {f' : Hp} {n : Nat} (hE : m_X9_fail F u0 u1 f = some (r, f')) : Ctr l G yX9_fail cX9_fail 2 (some .boolean) 0 0 [rr G u0, .int u1] f n (some (.int r)) f' n 0 0 := by
  refine Met.ofW (cc := cX9_fail) (maxL := 2) (ret := (some .boolean)) (by decide) rfl ?_
  intro p e s m args below meth c s₁ B hml hv
  obtain ⟨rfl, hK, hW⟩ := hv
  have hx := B.exec
  have hb := B.bytes
  have hr := B.returns
  have hts := atoms_spec (ws := wsO yX9_fail cX9_fail 2 (some .boolean)) B.pre
  have hT : ∀ w ∈ TB, w.before [rr G u0, .int u1].toArray s = true := fun w hw => hts w (List.mem_cons_of_mem _ hw)
  have hown : s.vm.findClass RX9 = some m.cls := findClass_of_methodNamed B.named
  have hlocks := B.notSynchronized
  have CF : CallFix p m c cX9_fail 2 s [rr G u0, .int u1].toArray TB RX9 := ⟨hx, hb, hml, hown, hT⟩
  have hS : va_S (WA G) s.heap s.heap [] := va_S.rf
  have hl : lv_has (lg_sl ([rr G u0, .int u1]) ++ List.replicate (2 - (lg_sl ([rr G u0, .int u1])).length) Slot.unset).toArray 2 [(0, rr G u0), (1, .int u1)] := by cases u0 <;> exact lv_entry _ (Nat.le_of_ble_eq_true rfl)
  rw [lg_entry_eq]
  generalize (lg_sl ([rr G u0, .int u1]) ++ List.replicate (2 - (lg_sl ([rr G u0, .int u1])).length) Slot.unset).toArray = ls at hl ⊢
  refine s_aload_n hx hb dX9_fail_0 rfl (lv_at hl 0 rfl) ?_
  obtain ⟨x1, hx1, hE⟩ := bd hE
  refine s_gI hx hb hT u_X9 hown hK hW hx1 rfl (by decide) fl_X9_40 rfl dX9_fail_1 ?_
  refine lv_if_ne (tgt := 20) hx hb dX9_fail_4 (by decide) (fun q2 => ?_) (fun q2 => ?_)
  · replace hE := ite_f q2 hE
    refine lv_iconst (v := (0 : Int32)) hx hb dX9_fail_20 (by decide) ?_
    obtain ⟨c3, hE⟩ := ck hE
    obtain ⟨rfl, rfl⟩ := so2 hE
    exact s_zret hx hb hr c3 hlocks hW hS dX9_fail_21
  · replace hE := ite_t q2 hE
    refine s_aload_n hx hb dX9_fail_7 rfl (lv_at hl 0 rfl) ?_
    refine lv_iload_n hx hb dX9_fail_8 rfl (lv_at hl 1 rfl) ?_
    obtain ⟨f4, hf4, hE⟩ := bd hE
    refine s_putI hx hb hT u_X9 tyX9 tyX9_ok nmX9 hown hK hW hS hf4 rfl (by decide) fl_X9_40 rfl (Or.inl rfl) rfl dX9_fail_9 (fun H locs hW hS => ?_)
    refine s_aload_n hx hb dX9_fail_12 rfl (lv_at hl 0 rfl) ?_
    refine s_aload_n hx hb dX9_fail_13 rfl (lv_at hl 0 rfl) ?_
    obtain ⟨x5, hx5, hE⟩ := bd hE
    refine s_gI hx hb hT u_X9 hown hK hW hx5 rfl (by decide) fl_X9_63 rfl dX9_fail_14 ?_
    obtain ⟨f6, hf6, hE⟩ := bd hE
    refine s_putI hx hb hT u_X9 tyX9 tyX9_ok nmX9 hown hK hW hS hf6 rfl (by decide) fl_X9_43 rfl (Or.inl rfl) rfl dX9_fail_17 (fun H locs hW hS => ?_)
    refine lv_iconst (v := (0 : Int32)) hx hb dX9_fail_20 (by decide) ?_
    obtain ⟨c7, hE⟩ := ck hE
    obtain ⟨rfl, rfl⟩ := so2 hE
    exact s_zret hx hb hr c7 hlocks hW hS dX9_fail_21
set_option maxHeartbeats 4000000 in
set_option maxRecDepth 100000 in
theorem S_X9_numberHere (l : Launch) (G : GG) (F : Nat) {u0 : Option Nat} {u1 : Int32} {u2 : Int32} {f : Hp} {r : Int32} {f' : Hp} {n : Nat} (hE : m_X9_numberHere F u0 u1 u2 f = some (r, f')) : Ctr l G yX9_numberHere cX9_numberHere 3 (some .int) 1 21 [rr G u0, .int u1, .int u2] f n (some (.int r)) f' n 0 0 := by
  refine Met.ofW (cc := cX9_numberHere) (maxL := 3) (ret := (some .int)) (by decide) rfl ?_
  intro p e s m args below meth c s₁ B hml hv
  obtain ⟨rfl, hK, hW⟩ := hv
  have hx := B.exec
  have hb := B.bytes
  have hr := B.returns
  have hts := atoms_spec (ws := wsO yX9_numberHere cX9_numberHere 3 (some .int)) B.pre
  have hT : ∀ w ∈ TB, w.before [rr G u0, .int u1, .int u2].toArray s = true := fun w hw => hts w (List.mem_cons_of_mem _ hw)
  have hown : s.vm.findClass RX9 = some m.cls := findClass_of_methodNamed B.named
  have hlocks := B.notSynchronized
  have CF : CallFix p m c cX9_numberHere 3 s [rr G u0, .int u1, .int u2].toArray TB RX9 := ⟨hx, hb, hml, hown, hT⟩
  have hS : va_S (WA G) s.heap s.heap [] := va_S.rf
  have hl : lv_has (lg_sl ([rr G u0, .int u1, .int u2]) ++ List.replicate (3 - (lg_sl ([rr G u0, .int u1, .int u2])).length) Slot.unset).toArray 3 [(0, rr G u0), (1, .int u1), (2, .int u2)] := by cases u0 <;> exact lv_entry _ (Nat.le_of_ble_eq_true rfl)
  rw [lg_entry_eq]
  generalize (lg_sl ([rr G u0, .int u1, .int u2]) ++ List.replicate (3 - (lg_sl ([rr G u0, .int u1, .int u2])).length) Slot.unset).toArray = ls at hl ⊢
  refine s_aload_n hx hb dX9_numberHere_0 rfl (lv_at hl 0 rfl) ?_
  obtain ⟨x1, hx1, hE⟩ := bd hE
  refine s_gI hx hb hT u_X9 hown hK hW hx1 rfl (by decide) fl_X9_66 rfl dX9_numberHere_1 ?_
  refine lv_iconst (v := (3 : Int32)) hx hb dX9_numberHere_4 (by decide) ?_
  refine lv_icmp_eq (tgt := 16) hx hb dX9_numberHere_5 (by decide) (fun q2 => ?_) (fun q2 => ?_)
  · replace hE := ite_t q2 hE
    refine s_aload_n hx hb dX9_numberHere_16 rfl (lv_at hl 0 rfl) ?_
    obtain ⟨x3, hx3, hE⟩ := bd hE
    refine s_gI hx hb hT u_X9 hown hK hW hx3 rfl (by decide) fl_X9_60 rfl dX9_numberHere_17 ?_
    refine lv_iload_n hx hb dX9_numberHere_20 rfl (lv_at hl 1 rfl) ?_
    refine lv_icmp_lt (tgt := 32) hx hb dX9_numberHere_21 (by decide) (fun q4 => ?_) (fun q4 => ?_)
    · replace hE := ite_t q4 hE
      refine s_aload_n hx hb dX9_numberHere_32 rfl (lv_at hl 0 rfl) ?_
      refine lv_iconst (v := (2 : Int32)) hx hb dX9_numberHere_33 (by decide) ?_
      obtain ⟨c5, hE⟩ := ck hE
      obtain ⟨x6, f7, hx6, hE⟩ := bd2_of hE
      refine s_callV (As := [.int (2 : Int32)]) (rest := []) CF hK hW hS (S_X9_fail l G F hx6) c5 rfl gv_X9_81 hd_X9_fail ⟨Nat.le_of_ble_eq_true rfl, Nat.le_of_ble_eq_true rfl⟩ rfl hl.1 rfl (Nat.le_of_ble_eq_true rfl) dX9_numberHere_34 ⟨Nat.le_refl _, Nat.le_refl _⟩ (fun H locs hW hS => ?_)
      refine lv_pop hx hb dX9_numberHere_37 rfl ?_
      refine lv_iconst (v := (-1 : Int32)) hx hb dX9_numberHere_38 (by decide) ?_
      obtain ⟨rfl, rfl⟩ := so2 hE
      exact s_iret hx hb hr hlocks hW hS dX9_numberHere_39
    · replace hE := ite_f q4 hE
      refine s_aload_n hx hb dX9_numberHere_24 rfl (lv_at hl 0 rfl) ?_
      obtain ⟨x8, hx8, hE⟩ := bd hE
      refine s_gI hx hb hT u_X9 hown hK hW hx8 rfl (by decide) fl_X9_60 rfl dX9_numberHere_25 ?_
      refine lv_iload_n hx hb dX9_numberHere_28 rfl (lv_at hl 2 rfl) ?_
      refine lv_icmp_le (tgt := 40) hx hb dX9_numberHere_29 (by decide) (fun q9 => ?_) (fun q9 => ?_)
      · replace hE := ite_t q9 hE
        refine s_aload_n hx hb dX9_numberHere_40 rfl (lv_at hl 0 rfl) ?_
        obtain ⟨x10, hx10, hE⟩ := bd hE
        refine s_gI hx hb hT u_X9 hown hK hW hx10 rfl (by decide) fl_X9_60 rfl dX9_numberHere_41 ?_
        obtain ⟨rfl, rfl⟩ := so2 hE
        exact s_iret hx hb hr hlocks hW hS dX9_numberHere_44
      · replace hE := ite_f q9 hE
        refine s_aload_n hx hb dX9_numberHere_32 rfl (lv_at hl 0 rfl) ?_
        refine lv_iconst (v := (2 : Int32)) hx hb dX9_numberHere_33 (by decide) ?_
        obtain ⟨c11, hE⟩ := ck hE
        obtain ⟨x12, f13, hx12, hE⟩ := bd2_of hE
        refine s_callV (As := [.int (2 : Int32)]) (rest := []) CF hK hW hS (S_X9_fail l G F hx12) c11 rfl gv_X9_81 hd_X9_fail ⟨Nat.le_of_ble_eq_true rfl, Nat.le_of_ble_eq_true rfl⟩ rfl hl.1 rfl (Nat.le_of_ble_eq_true rfl) dX9_numberHere_34 ⟨Nat.le_refl _, Nat.le_refl _⟩ (fun H locs hW hS => ?_)
        refine lv_pop hx hb dX9_numberHere_37 rfl ?_
        refine lv_iconst (v := (-1 : Int32)) hx hb dX9_numberHere_38 (by decide) ?_
        obtain ⟨rfl, rfl⟩ := so2 hE
        exact s_iret hx hb hr hlocks hW hS dX9_numberHere_39
  · replace hE := ite_f q2 hE
    refine s_aload_n hx hb dX9_numberHere_8 rfl (lv_at hl 0 rfl) ?_
    refine lv_iconst (v := (1 : Int32)) hx hb dX9_numberHere_9 (by decide) ?_
    obtain ⟨c14, hE⟩ := ck hE
    obtain ⟨x15, f16, hx15, hE⟩ := bd2_of hE
    refine s_callV (As := [.int (1 : Int32)]) (rest := []) CF hK hW hS (S_X9_fail l G F hx15) c14 rfl gv_X9_81 hd_X9_fail ⟨Nat.le_of_ble_eq_true rfl, Nat.le_of_ble_eq_true rfl⟩ rfl hl.1 rfl (Nat.le_of_ble_eq_true rfl) dX9_numberHere_10 ⟨Nat.le_refl _, Nat.le_refl _⟩ (fun H locs hW hS => ?_)
    refine lv_pop hx hb dX9_numberHere_13 rfl ?_
    refine lv_iconst (v := (-1 : Int32)) hx hb dX9_numberHere_14 (by decide) ?_
    obtain ⟨rfl, rfl⟩ := so2 hE
    exact s_iret hx hb hr hlocks hW hS dX9_numberHere_15
set_option maxHeartbeats 4000000 in
set_option maxRecDepth 100000 in
theorem S_X5_readLines (l : Launch) (G : GG) (F : Nat) {u0 : Option Nat} {f : Hp} {r : Int32} {f' : Hp} {n : Nat} (hE : m_X5_readLines F u0 f = some (r, f')) : Ctr l G yX5_readLines cX5_readLines 2 (some .boolean) 3 70 [rr G u0] f n (some (.int r)) f' n 0 0 := by
  refine Met.ofW (cc := cX5_readLines) (maxL := 2) (ret := (some .boolean)) (by decide) rfl ?_
  intro p e s m args below meth c s₁ B hml hv
  obtain ⟨rfl, hK, hW⟩ := hv
  have hx := B.exec
  have hb := B.bytes
  have hr := B.returns
  have hts := atoms_spec (ws := wsO yX5_readLines cX5_readLines 2 (some .boolean)) B.pre
  have hT : ∀ w ∈ TB, w.before [rr G u0].toArray s = true := fun w hw => hts w (List.mem_cons_of_mem _ hw)
  have hown : s.vm.findClass RX5 = some m.cls := findClass_of_methodNamed B.named
  have hlocks := B.notSynchronized
  have CF : CallFix p m c cX5_readLines 2 s [rr G u0].toArray TB RX5 := ⟨hx, hb, hml, hown, hT⟩
  have hS : va_S (WA G) s.heap s.heap [] := va_S.rf
  have hl : lv_has (lg_sl ([rr G u0]) ++ List.replicate (2 - (lg_sl ([rr G u0])).length) Slot.unset).toArray 2 [(0, rr G u0)] := by cases u0 <;> exact lv_entry _ (Nat.le_of_ble_eq_true rfl)
  rw [lg_entry_eq]
  generalize (lg_sl ([rr G u0]) ++ List.replicate (2 - (lg_sl ([rr G u0])).length) Slot.unset).toArray = ls at hl ⊢
  refine s_aload_n hx hb dX5_readLines_0 rfl (lv_at hl 0 rfl) ?_
  obtain ⟨x1, hx1, hE⟩ := bd hE
  refine s_gI hx hb hT u_X5 hown hK hW hx1 rfl (by decide) fl_X5_24 rfl dX5_readLines_1 ?_
  refine lv_if_eq (tgt := 16) hx hb dX5_readLines_4 (by decide) (fun q2 => ?_) (fun q2 => ?_)
  · replace hE := ite_t q2 hE
    refine s_aload_n hx hb dX5_readLines_16 rfl (lv_at hl 0 rfl) ?_
    refine lv_iconst (v := (1 : Int32)) hx hb dX5_readLines_17 (by decide) ?_
    obtain ⟨f3, hf3, hE⟩ := bd hE
    refine s_putZ hx hb hT u_X5 tyX5 tyX5_ok nmX5 hown hK hW hS hf3 rfl (by decide) fl_X5_24 rfl (Or.inl rfl) rfl dX5_readLines_18 (fun H locs hW hS => ?_)
    refine s_aload_n hx hb dX5_readLines_21 rfl (lv_at hl 0 rfl) ?_
    obtain ⟨x4, hx4, hE⟩ := bd hE
    refine s_gR hx hb hT u_X5 hown hK hW hx4 rfl (by decide) fl_X5_9 rfl dX5_readLines_22 ?_
    obtain ⟨c5, hE⟩ := ck hE
    obtain ⟨f6, hf6, hE⟩ := bd hE
    refine s_callV (As := []) (rest := []) CF hK hW hS (S_X9_advance l G F hf6) c5 rfl gv_X5_82 hd_X9_advance ⟨Nat.le_of_ble_eq_true rfl, Nat.le_of_ble_eq_true rfl⟩ rfl hl.1 rfl (Nat.le_of_ble_eq_true rfl) dX5_readLines_25 ⟨Nat.le_refl _, Nat.le_refl _⟩ (fun H locs hW hS => ?_)
    refine s_aload_n hx hb dX5_readLines_28 rfl (lv_at hl 0 rfl) ?_
    obtain ⟨x7, hx7, hE⟩ := bd hE
    refine s_gR hx hb hT u_X5 hown hK hW hx7 rfl (by decide) fl_X5_9 rfl dX5_readLines_29 ?_
    refine lv_iconst (v := (2 : Int32)) hx hb dX5_readLines_32 (by decide) ?_
    refine lv_bipush (v := (7 : Int32)) hx hb dX5_readLines_33 (by decide) ?_
    obtain ⟨c8, hE⟩ := ck hE
    obtain ⟨x9, f10, hx9, hE⟩ := bd2_of hE
    refine s_callV (As := [.int (2 : Int32), .int (7 : Int32)]) (rest := []) CF hK hW hS (S_X9_numberHere l G F hx9) c8 rfl gv_X5_85 hd_X9_numberHere ⟨Nat.le_of_ble_eq_true rfl, Nat.le_of_ble_eq_true rfl⟩ rfl hl.1 rfl (Nat.le_of_ble_eq_true rfl) dX5_readLines_35 ⟨Nat.le_refl _, Nat.le_refl _⟩ (fun H locs hW hS => ?_)
    refine lv_istore_n (i := 1) (lv' := [(1, .int x9), (0, rr G u0)]) hx hb dX5_readLines_38 rfl hl (by decide) (by simp [cat_rr]) (fun ls hl => ?_)
    refine lv_iload_n hx hb dX5_readLines_39 rfl (lv_at hl 0 rfl) ?_
    refine lv_iconst (v := (-1 : Int32)) hx hb dX5_readLines_40 (by decide) ?_
    refine lv_icmp_ne (tgt := 46) hx hb dX5_readLines_41 (by decide) (fun q11 => ?_) (fun q11 => ?_)
    · replace hE := ite_f q11 hE
      refine s_aload_n hx hb dX5_readLines_46 rfl (lv_at hl 1 rfl) ?_
      obtain ⟨x12, hx12, hE⟩ := bd hE
      refine s_gR hx hb hT u_X5 hown hK hW hx12 rfl (by decide) fl_X5_15 rfl dX5_readLines_47 ?_
      refine lv_iload_n hx hb dX5_readLines_50 rfl (lv_at hl 0 rfl) ?_
      obtain ⟨f13, hf13, hE⟩ := bd hE
      refine s_putI hx hb hT u_X4 tyX4 tyX4_ok nmX4 hown hK hW hS hf13 rfl (by decide) fl_X5_89 rfl (Or.inl rfl) rfl dX5_readLines_51 (fun H locs hW hS => ?_)
      refine s_aload_n hx hb dX5_readLines_54 rfl (lv_at hl 1 rfl) ?_
      obtain ⟨x14, hx14, hE⟩ := bd hE
      refine s_gR hx hb hT u_X5 hown hK hW hx14 rfl (by decide) fl_X5_9 rfl dX5_readLines_55 ?_
      obtain ⟨c15, hE⟩ := ck hE
      obtain ⟨f16, hf16, hE⟩ := bd hE
      refine s_callV (As := []) (rest := []) CF hK hW hS (S_X9_advance l G F hf16) c15 rfl gv_X5_82 hd_X9_advance ⟨Nat.le_of_ble_eq_true rfl, Nat.le_of_ble_eq_true rfl⟩ rfl hl.1 rfl (Nat.le_of_ble_eq_true rfl) dX5_readLines_58 ⟨Nat.le_refl _, Nat.le_refl _⟩ (fun H locs hW hS => ?_)
      refine lv_iconst (v := (1 : Int32)) hx hb dX5_readLines_61 (by decide) ?_
      obtain ⟨c17, hE⟩ := ck hE
      obtain ⟨rfl, rfl⟩ := so2 hE
      exact s_zret hx hb hr c17 hlocks hW hS dX5_readLines_62
    · replace hE := ite_t q11 hE
      refine lv_iconst (v := (0 : Int32)) hx hb dX5_readLines_44 (by decide) ?_
      obtain ⟨c18, hE⟩ := ck hE
      obtain ⟨rfl, rfl⟩ := so2 hE
      exact s_zret hx hb hr c18 hlocks hW hS dX5_readLines_45
  · replace hE := ite_f q2 hE
    refine s_aload_n hx hb dX5_readLines_7 rfl (lv_at hl 0 rfl) ?_
    obtain ⟨x19, hx19, hE⟩ := bd hE
    refine s_gR hx hb hT u_X5 hown hK hW hx19 rfl (by decide) fl_X5_9 rfl dX5_readLines_8 ?_
    refine lv_iconst (v := (3 : Int32)) hx hb dX5_readLines_11 (by decide) ?_
    obtain ⟨c20, hE⟩ := ck hE
    obtain ⟨x21, f22, hx21, hE⟩ := bd2_of hE
    refine s_callV (As := [.int (3 : Int32)]) (rest := []) CF hK hW hS (S_X9_fail l G F hx21) c20 rfl gv_X5_79 hd_X9_fail ⟨Nat.le_of_ble_eq_true rfl, Nat.le_of_ble_eq_true rfl⟩ rfl hl.1 rfl (Nat.le_of_ble_eq_true rfl) dX5_readLines_12 ⟨Nat.le_refl _, Nat.le_refl _⟩ (fun H locs hW hS => ?_)
    obtain ⟨c23, hE⟩ := ck hE
    obtain ⟨rfl, rfl⟩ := so2 hE
    exact s_zret hx hb hr c23 hlocks hW hS dX5_readLines_15
set_option maxHeartbeats 4000000 in
set_option maxRecDepth 100000 in
theorem S_X9_isName (l : Launch) (G : GG) (F : Nat) {u0 : Option Nat} {f : Hp} {r : Int32} {n : Nat} (hE : m_X9_isName F u0 f = some r) : Ctr l G yX9_isName cX9_isName 1 (some .boolean) 0 0 [rr G u0] f n (some (.int r)) f n 0 0 := by
  refine Met.ofW (cc := cX9_isName) (maxL := 1) (ret := (some .boolean)) (by decide) rfl ?_
  intro p e s m args below meth c s₁ B hml hv
  obtain ⟨rfl, hK, hW⟩ := hv
  have hx := B.exec
  have hb := B.bytes
  have hr := B.returns
  have hts := atoms_spec (ws := wsO yX9_isName cX9_isName 1 (some .boolean)) B.pre
  have hT : ∀ w ∈ TB, w.before [rr G u0].toArray s = true := fun w hw => hts w (List.mem_cons_of_mem _ hw)
  have hown : s.vm.findClass RX9 = some m.cls := findClass_of_methodNamed B.named
  have hlocks := B.notSynchronized
  have CF : CallFix p m c cX9_isName 1 s [rr G u0].toArray TB RX9 := ⟨hx, hb, hml, hown, hT⟩
  have hS : va_S (WA G) s.heap s.heap [] := va_S.rf
  have hl : lv_has (lg_sl ([rr G u0]) ++ List.replicate (1 - (lg_sl ([rr G u0])).length) Slot.unset).toArray 1 [(0, rr G u0)] := by cases u0 <;> exact lv_entry _ (Nat.le_of_ble_eq_true rfl)
  rw [lg_entry_eq]
  generalize (lg_sl ([rr G u0]) ++ List.replicate (1 - (lg_sl ([rr G u0])).length) Slot.unset).toArray = ls at hl ⊢
  refine s_aload_n hx hb dX9_isName_0 rfl (lv_at hl 0 rfl) ?_
  obtain ⟨x1, hx1, hE⟩ := bd hE
  refine s_gI hx hb hT u_X9 hown hK hW hx1 rfl (by decide) fl_X9_66 rfl dX9_isName_1 ?_
  refine lv_iconst (v := (2 : Int32)) hx hb dX9_isName_4 (by decide) ?_
  refine lv_icmp_ne (tgt := 22) hx hb dX9_isName_5 (by decide) (fun q2 => ?_) (fun q2 => ?_)
  · replace hE := ite_f q2 hE
    refine lv_iconst (v := (0 : Int32)) hx hb dX9_isName_22 (by decide) ?_
    obtain ⟨c3, hE⟩ := ck hE
    obtain rfl := so1 hE
    exact s_zret hx hb hr c3 hlocks hW hS dX9_isName_23
  · replace hE := ite_t q2 hE
    refine s_aload_n hx hb dX9_isName_8 rfl (lv_at hl 0 rfl) ?_
    obtain ⟨x4, hx4, hE⟩ := bd hE
    refine s_gR hx hb hT u_X9 hown hK hW hx4 rfl (by decide) fl_X9_15 rfl dX9_isName_9 ?_
    refine s_getEn hx hb hT hK hS hown 0 (by decide) fl_X9_9 dX9_isName_12 ?_
    obtain ⟨c5, hE⟩ := ck hE
    refine s_acmp_ne (tgt := 22) hx hb hK (and_l c5) (and_r c5) dX9_isName_15 (by decide) (fun q6 => ?_) (fun q6 => ?_)
    · replace hE := ite_f q6 hE
      refine lv_iconst (v := (0 : Int32)) hx hb dX9_isName_22 (by decide) ?_
      obtain ⟨c7, hE⟩ := ck hE
      obtain rfl := so1 hE
      exact s_zret hx hb hr c7 hlocks hW hS dX9_isName_23
    · replace hE := ite_t q6 hE
      refine lv_iconst (v := (1 : Int32)) hx hb dX9_isName_18 (by decide) ?_
      refine lv_goto (tgt := 23) hx hb dX9_isName_19 (by decide) ?_
      obtain ⟨c8, hE⟩ := ck hE
      obtain rfl := so1 hE
      exact s_zret hx hb hr c8 hlocks hW hS dX9_isName_23
set_option maxHeartbeats 4000000 in
set_option maxRecDepth 100000 in
theorem S_X4_copyNamed (l : Launch) (G : GG) (F : Nat) {u0 : Option Nat} {u1 : Int64} {f : Hp} {r : Int32} {n : Nat} (hE : m_X4_copyNamed F u0 u1 f = some r) : Ctr l G yX4_copyNamed cX4_copyNamed 4 (some .int) 0 0 [rr G u0, .long u1] f n (some (.int r)) f n 0 0 := by
  refine Met.ofW (cc := cX4_copyNamed) (maxL := 4) (ret := (some .int)) (by decide) rfl ?_
  intro p e s m args below meth c s₁ B hml hv
  obtain ⟨rfl, hK, hW⟩ := hv
  have hx := B.exec
  have hb := B.bytes
  have hr := B.returns
  have hts := atoms_spec (ws := wsO yX4_copyNamed cX4_copyNamed 4 (some .int)) B.pre
  have hT : ∀ w ∈ TB, w.before [rr G u0, .long u1].toArray s = true := fun w hw => hts w (List.mem_cons_of_mem _ hw)
  have hown : s.vm.findClass RX4 = some m.cls := findClass_of_methodNamed B.named
  have hlocks := B.notSynchronized
  have CF : CallFix p m c cX4_copyNamed 4 s [rr G u0, .long u1].toArray TB RX4 := ⟨hx, hb, hml, hown, hT⟩
  have hS : va_S (WA G) s.heap s.heap [] := va_S.rf
  have hl : lv_has (lg_sl ([rr G u0, .long u1]) ++ List.replicate (4 - (lg_sl ([rr G u0, .long u1])).length) Slot.unset).toArray 4 [(0, rr G u0), (1, .long u1)] := by cases u0 <;> exact lv_entry _ (Nat.le_of_ble_eq_true rfl)
  rw [lg_entry_eq]
  generalize (lg_sl ([rr G u0, .long u1]) ++ List.replicate (4 - (lg_sl ([rr G u0, .long u1])).length) Slot.unset).toArray = ls at hl ⊢
  have hC2 : ∀ (k2 : Nat), ∀ (v0 : Option Nat) (v1 : Int64) (v3 : Int32) (H : Heap) (locs : List Loc) (ls : Array Slot), m_X4_copyNamed_L2 F k2 v0 v1 v3 f = some r → Wd G f n H → va_S (WA G) s.heap H locs → lv_has ls 4 [(0, rr G v0), (1, .long v1), (3, .int v3)] → W p l e (headSpec (wsO yX4_copyNamed cX4_copyNamed 4 (some .int)) { frames := 0, cells := 0, slots := 0, locals := 0 }).room s m [rr G u0, .long u1].toArray below meth c H locs 0 0 (MQ below (Qcn G (some (.int r)) f n) [rr G u0, .long u1].toArray s 0 0 (WA G)) (F0 m 2 ls []) := by
    intro k2
    induction k2 with
    | zero => intro v0 v1 v3 H locs ls hE _ _ _; cases (show (none : Option Int32) = some r from hE)
    | succ k2 ih2 =>
      intro v0 v1 v3 H locs ls hE hW hS hl
      replace hE : m_X4_copyNamed_b2 F (m_X4_copyNamed_L2 F k2) v0 v1 v3 f = some r := hE
      refine lv_iload_n hx hb dX4_copyNamed_2 rfl (lv_at hl 2 rfl) ?_
      refine s_aload_n hx hb dX4_copyNamed_3 rfl (lv_at hl 0 rfl) ?_
      obtain ⟨x1, hx1, hE⟩ := bd hE
      refine s_gI hx hb hT u_X4 hown hK hW hx1 rfl (by decide) fl_X4_55 rfl dX4_copyNamed_4 ?_
      refine lv_icmp_ge (tgt := 38) hx hb dX4_copyNamed_7 (by decide) (fun q2 => ?_) (fun q2 => ?_)
      · replace hE := ite_t q2 hE
        refine lv_iconst (v := (-1 : Int32)) hx hb dX4_copyNamed_38 (by decide) ?_
        obtain rfl := so1 hE
        exact s_iret hx hb hr hlocks hW hS dX4_copyNamed_39
      · replace hE := ite_f q2 hE
        refine lv_iload_n hx hb dX4_copyNamed_10 rfl (lv_at hl 2 rfl) ?_
        refine lv_bipush (v := (10 : Int32)) hx hb dX4_copyNamed_11 (by decide) ?_
        refine lv_icmp_ge (tgt := 38) hx hb dX4_copyNamed_13 (by decide) (fun q3 => ?_) (fun q3 => ?_)
        · replace hE := ite_t q3 hE
          refine lv_iconst (v := (-1 : Int32)) hx hb dX4_copyNamed_38 (by decide) ?_
          obtain rfl := so1 hE
          exact s_iret hx hb hr hlocks hW hS dX4_copyNamed_39
        · replace hE := ite_f q3 hE
          refine s_aload_n hx hb dX4_copyNamed_16 rfl (lv_at hl 0 rfl) ?_
          obtain ⟨x4, hx4, hE⟩ := bd hE
          refine s_gR hx hb hT u_X4 hown hK hW hx4 rfl (by decide) fl_X4_17 rfl dX4_copyNamed_17 ?_
          refine lv_iload_n hx hb dX4_copyNamed_20 rfl (lv_at hl 2 rfl) ?_
          obtain ⟨x5, hx5, hE⟩ := bd hE
          refine s_ldR hx hb hK hW hS hx5 (by decide) rfl dX4_copyNamed_21 ?_
          obtain ⟨x6, hx6, hE⟩ := bd hE
          refine s_gJ hx hb hT u_X1 hown hK hW hx6 rfl (by decide) fl_X4_94 rfl dX4_copyNamed_22 ?_
          refine lv_lload_n hx hb dX4_copyNamed_25 rfl (lv_at hl 1 rfl) ?_
          refine W.lcmp hx hb dX4_copyNamed_26 ?_
          refine lv_if_ne (tgt := 32) hx hb dX4_copyNamed_27 (by decide) (fun q7 => ?_) (fun q7 => ?_)
          · replace hE := ite_f q7 hE
            obtain ⟨y8, ey8⟩ : ∃ y : Int32, y = v3 + (1 : Int32) := ⟨_, rfl⟩
            replace hE := nm_o ey8 hE
            refine lv_iinc (k := 2) (v := y8) (lv' := [(3, .int y8), (0, rr G v0), (1, .long v1)]) hx hb dX4_copyNamed_32 hl rfl (by rw [ey8]; rfl) (by decide) rfl (fun ls hl => ?_)
            refine lv_goto (tgt := 2) hx hb dX4_copyNamed_35 (by decide) ?_
            exact ih2 _ _ _ _ _ _ hE hW hS (lv_sub hl [1, 2, 0] rfl)
          · replace hE := ite_t q7 hE
            refine lv_iload_n hx hb dX4_copyNamed_30 rfl (lv_at hl 2 rfl) ?_
            obtain rfl := so1 hE
            exact s_iret hx hb hr hlocks hW hS dX4_copyNamed_31
  refine lv_iconst (v := (0 : Int32)) hx hb dX4_copyNamed_0 (by decide) ?_
  refine lv_istore_n (i := 3) (lv' := [(3, .int (0 : Int32)), (0, rr G u0), (1, .long u1)]) hx hb dX4_copyNamed_1 rfl hl (by decide) rfl (fun ls hl => ?_)
  exact hC2 F _ _ _ _ _ _ hE hW hS (lv_sub hl [1, 2, 0] rfl)
set_option maxHeartbeats 4000000 in
set_option maxRecDepth 100000 in
theorem S_X4_isNamed (l : Launch) (G : GG) (F : Nat) {u0 : Option Nat} {u1 : Int64} {f : Hp} {r : Int32} {n : Nat} (hE : m_X4_isNamed F u0 u1 f = some r) : Ctr l G yX4_isNamed cX4_isNamed 4 (some .boolean) 1 23 [rr G u0, .long u1] f n (some (.int r)) f n 0 0 := by
  refine Met.ofW (cc := cX4_isNamed) (maxL := 4) (ret := (some .boolean)) (by decide) rfl ?_
  intro p e s m args below meth c s₁ B hml hv
  obtain ⟨rfl, hK, hW⟩ := hv
  have hx := B.exec
  have hb := B.bytes
  have hr := B.returns
  have hts := atoms_spec (ws := wsO yX4_isNamed cX4_isNamed 4 (some .boolean)) B.pre
  have hT : ∀ w ∈ TB, w.before [rr G u0, .long u1].toArray s = true := fun w hw => hts w (List.mem_cons_of_mem _ hw)
  have hown : s.vm.findClass RX4 = some m.cls := findClass_of_methodNamed B.named
  have hlocks := B.notSynchronized
  have CF : CallFix p m c cX4_isNamed 4 s [rr G u0, .long u1].toArray TB RX4 := ⟨hx, hb, hml, hown, hT⟩
  have hS : va_S (WA G) s.heap s.heap [] := va_S.rf
  have hl : lv_has (lg_sl ([rr G u0, .long u1]) ++ List.replicate (4 - (lg_sl ([rr G u0, .long u1])).length) Slot.unset).toArray 4 [(0, rr G u0), (1, .long u1)] := by cases u0 <;> exact lv_entry _ (Nat.le_of_ble_eq_true rfl)
  rw [lg_entry_eq]
  generalize (lg_sl ([rr G u0, .long u1]) ++ List.replicate (4 - (lg_sl ([rr G u0, .long u1])).length) Slot.unset).toArray = ls at hl ⊢
  have hC38 : ∀ (v0 : Option Nat) (v1 : Int64) (H : Heap) (locs : List Loc) (ls : Array Slot), m_X4_isNamed_B38 F v0 v1 f = some r → Wd G f n H → va_S (WA G) s.heap H locs → lv_has ls 4 [(0, rr G v0), (1, .long v1)] → W p l e (headSpec (wsO yX4_isNamed cX4_isNamed 4 (some .boolean)) { frames := 1, cells := 0, slots := 0, locals := 23 }).room s m [rr G u0, .long u1].toArray below meth c H locs 0 0 (MQ below (Qcn G (some (.int r)) f n) [rr G u0, .long u1].toArray s 0 0 (WA G)) (F0 m 38 ls []) := by
    intro v0 v1 H locs ls hE hW hS hl
    refine s_aload_n hx hb dX4_isNamed_38 rfl (lv_at hl 0 rfl) ?_
    refine lv_lload_n hx hb dX4_isNamed_39 rfl (lv_at hl 1 rfl) ?_
    obtain ⟨c10, hE⟩ := ck hE
    obtain ⟨x11, hx11, hE⟩ := bd hE
    refine s_callV (As := [.long v1]) (rest := []) CF hK hW hS (S_X4_copyNamed l G F hx11) c10 rfl gv_X4_99 hd_X4_copyNamed ⟨Nat.le_of_ble_eq_true rfl, Nat.le_of_ble_eq_true rfl⟩ rfl hl.1 rfl (Nat.le_of_ble_eq_true rfl) dX4_isNamed_40 ⟨Nat.le_refl _, Nat.le_refl _⟩ (fun H locs hW hS => ?_)
    refine lv_iconst (v := (-1 : Int32)) hx hb dX4_isNamed_43 (by decide) ?_
    refine lv_icmp_eq (tgt := 51) hx hb dX4_isNamed_44 (by decide) (fun q12 => ?_) (fun q12 => ?_)
    · replace hE := ite_t q12 hE
      refine lv_iconst (v := (0 : Int32)) hx hb dX4_isNamed_51 (by decide) ?_
      obtain ⟨c13, hE⟩ := ck hE
      obtain rfl := so1 hE
      exact s_zret hx hb hr c13 hlocks hW hS dX4_isNamed_52
    · replace hE := ite_f q12 hE
      refine lv_iconst (v := (1 : Int32)) hx hb dX4_isNamed_47 (by decide) ?_
      refine lv_goto (tgt := 52) hx hb dX4_isNamed_48 (by decide) ?_
      obtain ⟨c14, hE⟩ := ck hE
      obtain rfl := so1 hE
      exact s_zret hx hb hr c14 hlocks hW hS dX4_isNamed_52
  have hC2 : ∀ (k2 : Nat), ∀ (v0 : Option Nat) (v1 : Int64) (v3 : Int32) (H : Heap) (locs : List Loc) (ls : Array Slot), m_X4_isNamed_L2 F k2 v0 v1 v3 f = some r → Wd G f n H → va_S (WA G) s.heap H locs → lv_has ls 4 [(0, rr G v0), (1, .long v1), (3, .int v3)] → W p l e (headSpec (wsO yX4_isNamed cX4_isNamed 4 (some .boolean)) { frames := 1, cells := 0, slots := 0, locals := 23 }).room s m [rr G u0, .long u1].toArray below meth c H locs 0 0 (MQ below (Qcn G (some (.int r)) f n) [rr G u0, .long u1].toArray s 0 0 (WA G)) (F0 m 2 ls []) := by
    intro k2
    induction k2 with
    | zero => intro v0 v1 v3 H locs ls hE _ _ _; cases (show (none : Option Int32) = some r from hE)
    | succ k2 ih2 =>
      intro v0 v1 v3 H locs ls hE hW hS hl
      replace hE : m_X4_isNamed_b2 F (m_X4_isNamed_L2 F k2) v0 v1 v3 f = some r := hE
      refine lv_iload_n hx hb dX4_isNamed_2 rfl (lv_at hl 2 rfl) ?_
      refine s_aload_n hx hb dX4_isNamed_3 rfl (lv_at hl 0 rfl) ?_
      obtain ⟨x1, hx1, hE⟩ := bd hE
      refine s_gI hx hb hT u_X4 hown hK hW hx1 rfl (by decide) fl_X4_58 rfl dX4_isNamed_4 ?_
      refine lv_icmp_ge (tgt := 38) hx hb dX4_isNamed_7 (by decide) (fun q2 => ?_) (fun q2 => ?_)
      · replace hE := ite_t q2 hE
        exact hC38 _ _ _ _ _ hE hW hS (lv_sub hl [0, 1] rfl)
      · replace hE := ite_f q2 hE
        refine lv_iload_n hx hb dX4_isNamed_10 rfl (lv_at hl 2 rfl) ?_
        refine lv_bipush (v := (6 : Int32)) hx hb dX4_isNamed_11 (by decide) ?_
        refine lv_icmp_ge (tgt := 38) hx hb dX4_isNamed_13 (by decide) (fun q3 => ?_) (fun q3 => ?_)
        · replace hE := ite_t q3 hE
          exact hC38 _ _ _ _ _ hE hW hS (lv_sub hl [0, 1] rfl)
        · replace hE := ite_f q3 hE
          refine s_aload_n hx hb dX4_isNamed_16 rfl (lv_at hl 0 rfl) ?_
          obtain ⟨x4, hx4, hE⟩ := bd hE
          refine s_gR hx hb hT u_X4 hown hK hW hx4 rfl (by decide) fl_X4_23 rfl dX4_isNamed_17 ?_
          refine lv_iload_n hx hb dX4_isNamed_20 rfl (lv_at hl 2 rfl) ?_
          obtain ⟨x5, hx5, hE⟩ := bd hE
          refine s_ldR hx hb hK hW hS hx5 (by decide) rfl dX4_isNamed_21 ?_
          obtain ⟨x6, hx6, hE⟩ := bd hE
          refine s_gJ hx hb hT u_X2 hown hK hW hx6 rfl (by decide) fl_X4_98 rfl dX4_isNamed_22 ?_
          refine lv_lload_n hx hb dX4_isNamed_25 rfl (lv_at hl 1 rfl) ?_
          refine W.lcmp hx hb dX4_isNamed_26 ?_
          refine lv_if_ne (tgt := 32) hx hb dX4_isNamed_27 (by decide) (fun q7 => ?_) (fun q7 => ?_)
          · replace hE := ite_f q7 hE
            obtain ⟨y8, ey8⟩ : ∃ y : Int32, y = v3 + (1 : Int32) := ⟨_, rfl⟩
            replace hE := nm_o ey8 hE
            refine lv_iinc (k := 2) (v := y8) (lv' := [(3, .int y8), (0, rr G v0), (1, .long v1)]) hx hb dX4_isNamed_32 hl rfl (by rw [ey8]; rfl) (by decide) rfl (fun ls hl => ?_)
            refine lv_goto (tgt := 2) hx hb dX4_isNamed_35 (by decide) ?_
            exact ih2 _ _ _ _ _ _ hE hW hS (lv_sub hl [1, 2, 0] rfl)
          · replace hE := ite_t q7 hE
            refine lv_iconst (v := (1 : Int32)) hx hb dX4_isNamed_30 (by decide) ?_
            obtain ⟨c9, hE⟩ := ck hE
            obtain rfl := so1 hE
            exact s_zret hx hb hr c9 hlocks hW hS dX4_isNamed_31
  refine lv_iconst (v := (0 : Int32)) hx hb dX4_isNamed_0 (by decide) ?_
  refine lv_istore_n (i := 3) (lv' := [(3, .int (0 : Int32)), (0, rr G u0), (1, .long u1)]) hx hb dX4_isNamed_1 rfl hl (by decide) rfl (fun ls hl => ?_)
  exact hC2 F _ _ _ _ _ _ hE hW hS (lv_sub hl [1, 2, 0] rfl)
set_option maxHeartbeats 4000000 in
set_option maxRecDepth 100000 in
theorem S_X5_isFreshName (l : Launch) (G : GG) (F : Nat) {u0 : Option Nat} {f : Hp} {r : Int32} {f' : Hp} {n : Nat} (hE : m_X5_isFreshName F u0 f = some (r, f')) : Ctr l G yX5_isFreshName cX5_isFreshName 1 (some .boolean) 2 46 [rr G u0] f n (some (.int r)) f' n 0 0 := by
  refine Met.ofW (cc := cX5_isFreshName) (maxL := 1) (ret := (some .boolean)) (by decide) rfl ?_
  intro p e s m args below meth c s₁ B hml hv
  obtain ⟨rfl, hK, hW⟩ := hv
  have hx := B.exec
  have hb := B.bytes
  have hr := B.returns
  have hts := atoms_spec (ws := wsO yX5_isFreshName cX5_isFreshName 1 (some .boolean)) B.pre
  have hT : ∀ w ∈ TB, w.before [rr G u0].toArray s = true := fun w hw => hts w (List.mem_cons_of_mem _ hw)
  have hown : s.vm.findClass RX5 = some m.cls := findClass_of_methodNamed B.named
  have hlocks := B.notSynchronized
  have CF : CallFix p m c cX5_isFreshName 1 s [rr G u0].toArray TB RX5 := ⟨hx, hb, hml, hown, hT⟩
  have hS : va_S (WA G) s.heap s.heap [] := va_S.rf
  have hl : lv_has (lg_sl ([rr G u0]) ++ List.replicate (1 - (lg_sl ([rr G u0])).length) Slot.unset).toArray 1 [(0, rr G u0)] := by cases u0 <;> exact lv_entry _ (Nat.le_of_ble_eq_true rfl)
  rw [lg_entry_eq]
  generalize (lg_sl ([rr G u0]) ++ List.replicate (1 - (lg_sl ([rr G u0])).length) Slot.unset).toArray = ls at hl ⊢
  refine s_aload_n hx hb dX5_isFreshName_0 rfl (lv_at hl 0 rfl) ?_
  obtain ⟨x1, hx1, hE⟩ := bd hE
  refine s_gR hx hb hT u_X5 hown hK hW hx1 rfl (by decide) fl_X5_9 rfl dX5_isFreshName_1 ?_
  obtain ⟨c2, hE⟩ := ck hE
  obtain ⟨x3, hx3, hE⟩ := bd hE
  refine s_callV (As := []) (rest := []) CF hK hW hS (S_X9_isName l G F hx3) c2 rfl gv_X5_140 hd_X9_isName ⟨Nat.le_of_ble_eq_true rfl, Nat.le_of_ble_eq_true rfl⟩ rfl hl.1 rfl (Nat.le_of_ble_eq_true rfl) dX5_isFreshName_4 ⟨Nat.le_refl _, Nat.le_refl _⟩ (fun H locs hW hS => ?_)
  refine lv_if_ne (tgt := 19) hx hb dX5_isFreshName_7 (by decide) (fun q4 => ?_) (fun q4 => ?_)
  · replace hE := ite_f q4 hE
    refine s_aload_n hx hb dX5_isFreshName_19 rfl (lv_at hl 0 rfl) ?_
    obtain ⟨x5, hx5, hE⟩ := bd hE
    refine s_gR hx hb hT u_X5 hown hK hW hx5 rfl (by decide) fl_X5_15 rfl dX5_isFreshName_20 ?_
    refine s_aload_n hx hb dX5_isFreshName_23 rfl (lv_at hl 0 rfl) ?_
    obtain ⟨x6, hx6, hE⟩ := bd hE
    refine s_gR hx hb hT u_X5 hown hK hW hx6 rfl (by decide) fl_X5_9 rfl dX5_isFreshName_24 ?_
    obtain ⟨x7, hx7, hE⟩ := bd hE
    refine s_gJ hx hb hT u_X9 hown hK hW hx7 rfl (by decide) fl_X5_99 rfl dX5_isFreshName_27 ?_
    obtain ⟨c8, hE⟩ := ck hE
    obtain ⟨x9, hx9, hE⟩ := bd hE
    refine s_callV (As := [.long x7]) (rest := []) CF hK hW hS (S_X4_isNamed l G F hx9) c8 rfl gv_X5_143 hd_X4_isNamed ⟨Nat.le_of_ble_eq_true rfl, Nat.le_of_ble_eq_true rfl⟩ rfl hl.1 rfl (Nat.le_of_ble_eq_true rfl) dX5_isFreshName_30 ⟨Nat.le_refl _, Nat.le_refl _⟩ (fun H locs hW hS => ?_)
    refine lv_if_eq (tgt := 45) hx hb dX5_isFreshName_33 (by decide) (fun q10 => ?_) (fun q10 => ?_)
    · replace hE := ite_t q10 hE
      refine lv_iconst (v := (1 : Int32)) hx hb dX5_isFreshName_45 (by decide) ?_
      obtain ⟨c11, hE⟩ := ck hE
      obtain ⟨rfl, rfl⟩ := so2 hE
      exact s_zret hx hb hr c11 hlocks hW hS dX5_isFreshName_46
    · replace hE := ite_f q10 hE
      refine s_aload_n hx hb dX5_isFreshName_36 rfl (lv_at hl 0 rfl) ?_
      obtain ⟨x12, hx12, hE⟩ := bd hE
      refine s_gR hx hb hT u_X5 hown hK hW hx12 rfl (by decide) fl_X5_9 rfl dX5_isFreshName_37 ?_
      refine lv_iconst (v := (3 : Int32)) hx hb dX5_isFreshName_40 (by decide) ?_
      obtain ⟨c13, hE⟩ := ck hE
      obtain ⟨x14, f15, hx14, hE⟩ := bd2_of hE
      refine s_callV (As := [.int (3 : Int32)]) (rest := []) CF hK hW hS (S_X9_fail l G F hx14) c13 rfl gv_X5_79 hd_X9_fail ⟨Nat.le_of_ble_eq_true rfl, Nat.le_of_ble_eq_true rfl⟩ rfl hl.1 rfl (Nat.le_of_ble_eq_true rfl) dX5_isFreshName_41 ⟨Nat.le_refl _, Nat.le_refl _⟩ (fun H locs hW hS => ?_)
      obtain ⟨c16, hE⟩ := ck hE
      obtain ⟨rfl, rfl⟩ := so2 hE
      exact s_zret hx hb hr c16 hlocks hW hS dX5_isFreshName_44
  · replace hE := ite_t q4 hE
    refine s_aload_n hx hb dX5_isFreshName_10 rfl (lv_at hl 0 rfl) ?_
    obtain ⟨x17, hx17, hE⟩ := bd hE
    refine s_gR hx hb hT u_X5 hown hK hW hx17 rfl (by decide) fl_X5_9 rfl dX5_isFreshName_11 ?_
    refine lv_iconst (v := (1 : Int32)) hx hb dX5_isFreshName_14 (by decide) ?_
    obtain ⟨c18, hE⟩ := ck hE
    obtain ⟨x19, f20, hx19, hE⟩ := bd2_of hE
    refine s_callV (As := [.int (1 : Int32)]) (rest := []) CF hK hW hS (S_X9_fail l G F hx19) c18 rfl gv_X5_79 hd_X9_fail ⟨Nat.le_of_ble_eq_true rfl, Nat.le_of_ble_eq_true rfl⟩ rfl hl.1 rfl (Nat.le_of_ble_eq_true rfl) dX5_isFreshName_15 ⟨Nat.le_refl _, Nat.le_refl _⟩ (fun H locs hW hS => ?_)
    obtain ⟨c21, hE⟩ := ck hE
    obtain ⟨rfl, rfl⟩ := so2 hE
    exact s_zret hx hb hr c21 hlocks hW hS dX5_isFreshName_18
set_option maxHeartbeats 4000000 in
set_option maxRecDepth 100000 in
theorem S_X5_spell (l : Launch) (G : GG) (F : Nat) {u0 : Option Nat} {u1 : Option Nat} {f : Hp} {r : Int32} {f' : Hp} {n : Nat} (hE : m_X5_spell F u0 u1 f = some (r, f')) : Ctr l G yX5_spell cX5_spell 4 (some .boolean) 3 70 [rr G u0, rr G u1] f n (some (.int r)) f' n 0 0 := by
  refine Met.ofW (cc := cX5_spell) (maxL := 4) (ret := (some .boolean)) (by decide) rfl ?_
  intro p e s m args below meth c s₁ B hml hv
  obtain ⟨rfl, hK, hW⟩ := hv
  have hx := B.exec
  have hb := B.bytes
  have hr := B.returns
  have hts := atoms_spec (ws := wsO yX5_spell cX5_spell 4 (some .boolean)) B.pre
  have hT : ∀ w ∈ TB, w.before [rr G u0, rr G u1].toArray s = true := fun w hw => hts w (List.mem_cons_of_mem _ hw)
  have hown : s.vm.findClass RX5 = some m.cls := findClass_of_methodNamed B.named
  have hlocks := B.notSynchronized
  have CF : CallFix p m c cX5_spell 4 s [rr G u0, rr G u1].toArray TB RX5 := ⟨hx, hb, hml, hown, hT⟩
  have hS : va_S (WA G) s.heap s.heap [] := va_S.rf
  have hl : lv_has (lg_sl ([rr G u0, rr G u1]) ++ List.replicate (4 - (lg_sl ([rr G u0, rr G u1])).length) Slot.unset).toArray 4 [(0, rr G u0), (1, rr G u1)] := by cases u0 <;> cases u1 <;> exact lv_entry _ (Nat.le_of_ble_eq_true rfl)
  rw [lg_entry_eq]
  generalize (lg_sl ([rr G u0, rr G u1]) ++ List.replicate (4 - (lg_sl ([rr G u0, rr G u1])).length) Slot.unset).toArray = ls at hl ⊢
  have hC3 : ∀ (k3 : Nat), ∀ (v0 : Option Nat) (v1 : Option Nat) (v2 : Int32) (fa : Hp) (H : Heap) (locs : List Loc) (ls : Array Slot), m_X5_spell_L3 F k3 v0 v1 v2 fa = some (r, f') → Wd G fa n H → va_S (WA G) s.heap H locs → lv_has ls 4 [(0, rr G v0), (1, rr G v1), (2, .int v2)] → W p l e (headSpec (wsO yX5_spell cX5_spell 4 (some .boolean)) { frames := 3, cells := 0, slots := 0, locals := 70 }).room s m [rr G u0, rr G u1].toArray below meth c H locs 0 0 (MQ below (Qcn G (some (.int r)) f' n) [rr G u0, rr G u1].toArray s 0 0 (WA G)) (F0 m 3 ls []) := by
    intro k3
    induction k3 with
    | zero => intro v0 v1 v2 fa H locs ls hE _ _ _; cases (show (none : Option ((Int32) × Hp)) = some (r, f') from hE)
    | succ k3 ih3 =>
      intro v0 v1 v2 fa H locs ls hE hW hS hl
      replace hE : m_X5_spell_b3 F (m_X5_spell_L3 F k3) v0 v1 v2 fa = some (r, f') := hE
      refine lv_iload_n hx hb dX5_spell_3 rfl (lv_at hl 2 rfl) ?_
      refine lv_if_lt (tgt := 62) hx hb dX5_spell_4 (by decide) (fun q1 => ?_) (fun q1 => ?_)
      · replace hE := ite_t q1 hE
        refine lv_iconst (v := (1 : Int32)) hx hb dX5_spell_62 (by decide) ?_
        obtain ⟨c2, hE⟩ := ck hE
        obtain ⟨rfl, rfl⟩ := so2 hE
        exact s_zret hx hb hr c2 hlocks hW hS dX5_spell_63
      · replace hE := ite_f q1 hE
        refine s_aload_n hx hb dX5_spell_7 rfl (lv_at hl 0 rfl) ?_
        obtain ⟨x3, hx3, hE⟩ := bd hE
        refine s_gR hx hb hT u_X5 hown hK hW hx3 rfl (by decide) fl_X5_9 rfl dX5_spell_8 ?_
        obtain ⟨x4, hx4, hE⟩ := bd hE
        refine s_gJ hx hb hT u_X9 hown hK hW hx4 rfl (by decide) fl_X5_99 rfl dX5_spell_11 ?_
        refine lv_iload_n hx hb dX5_spell_14 rfl (lv_at hl 2 rfl) ?_
        refine lv_lushr (v := (lus x4 v2)) hx hb dX5_spell_15 rfl ?_
        refine lv_ldc2 (v := (31 : Int64)) hx hb hown (hT _ kc_X5_115) dX5_spell_16 ?_
        refine lv_land hx hb dX5_spell_19 ?_
        refine lv_l2i (v := (Int64.toInt32 ((lus x4 v2) &&& (31 : Int64)))) hx hb dX5_spell_20 rfl ?_
        refine lv_topi (fun y5 ey5 => ?_)
        replace hE := nm_o ey5 hE
        refine lv_istore_n (i := 3) (lv' := [(3, .int y5), (0, rr G v0), (1, rr G v1), (2, .int v2)]) hx hb dX5_spell_21 rfl hl (by decide) rfl (fun ls hl => ?_)
        refine lv_iload_n hx hb dX5_spell_22 rfl (lv_at hl 0 rfl) ?_
        refine lv_if_le (tgt := 56) hx hb dX5_spell_23 (by decide) (fun q6 => ?_) (fun q6 => ?_)
        · replace hE := ite_t q6 hE
          obtain ⟨y7, ey7⟩ : ∃ y : Int32, y = v2 + (-5 : Int32) := ⟨_, rfl⟩
          replace hE := nm_o ey7 hE
          refine lv_iinc (k := 3) (v := y7) (lv' := [(2, .int y7), (3, .int y5), (0, rr G v0), (1, rr G v1)]) hx hb dX5_spell_56 hl rfl (by rw [ey7]; rfl) (by decide) (by simp [cat_rr]) (fun ls hl => ?_)
          refine lv_goto (tgt := 3) hx hb dX5_spell_59 (by decide) ?_
          exact ih3 _ _ _ _ _ _ _ hE hW hS (lv_sub hl [2, 3, 0] rfl)
        · replace hE := ite_f q6 hE
          refine lv_iload_n hx hb dX5_spell_26 rfl (lv_at hl 0 rfl) ?_
          refine s_aload_n hx hb dX5_spell_27 rfl (lv_at hl 1 rfl) ?_
          obtain ⟨x8, hx8, hE⟩ := bd hE
          refine s_gR hx hb hT u_X5 hown hK hW hx8 rfl (by decide) fl_X5_15 rfl dX5_spell_28 ?_
          obtain ⟨x9, hx9, hE⟩ := bd hE
          refine s_gI hx hb hT u_X4 hown hK hW hx9 rfl (by decide) fl_X5_89 rfl dX5_spell_31 ?_
          refine lv_icmp_gt (tgt := 47) hx hb dX5_spell_34 (by decide) (fun q10 => ?_) (fun q10 => ?_)
          · replace hE := ite_t q10 hE
            refine lv_iconst (v := (0 : Int32)) hx hb dX5_spell_47 (by decide) ?_
            obtain ⟨c11, hE⟩ := ck hE
            obtain ⟨rfl, rfl⟩ := so2 hE
            exact s_zret hx hb hr c11 hlocks hW hS dX5_spell_48
          · replace hE := ite_f q10 hE
            refine s_aload_n hx hb dX5_spell_37 rfl (lv_at hl 2 rfl) ?_
            refine lv_iload_n hx hb dX5_spell_38 rfl (lv_at hl 0 rfl) ?_
            refine lv_iconst (v := (1 : Int32)) hx hb dX5_spell_39 (by decide) ?_
            refine lv_isub hx hb dX5_spell_40 ?_
            obtain ⟨c12, hE⟩ := ck hE
            obtain ⟨x13, hx13, hE⟩ := bd hE
            refine s_callV (As := [.int (y5 - (1 : Int32))]) (rest := []) CF hK hW hS (S_X1_hasLine l G F hx13) c12 rfl gv_X5_117 hd_X1_hasLine ⟨Nat.le_of_ble_eq_true rfl, Nat.le_of_ble_eq_true rfl⟩ rfl hl.1 rfl (Nat.le_of_ble_eq_true rfl) dX5_spell_41 ⟨Nat.le_refl _, Nat.le_refl _⟩ (fun H locs hW hS => ?_)
            refine lv_if_eq (tgt := 49) hx hb dX5_spell_44 (by decide) (fun q14 => ?_) (fun q14 => ?_)
            · replace hE := ite_t q14 hE
              refine s_aload_n hx hb dX5_spell_49 rfl (lv_at hl 2 rfl) ?_
              refine lv_iload_n hx hb dX5_spell_50 rfl (lv_at hl 0 rfl) ?_
              refine lv_iconst (v := (1 : Int32)) hx hb dX5_spell_51 (by decide) ?_
              refine lv_isub hx hb dX5_spell_52 ?_
              obtain ⟨c15, hE⟩ := ck hE
              obtain ⟨f16, hf16, hE⟩ := bd hE
              refine s_callV (As := [.int (y5 - (1 : Int32))]) (rest := []) CF hK hW hS (S_X1_append l G F hf16) c15 rfl gv_X5_120 hd_X1_append ⟨Nat.le_of_ble_eq_true rfl, Nat.le_of_ble_eq_true rfl⟩ rfl hl.1 rfl (Nat.le_of_ble_eq_true rfl) dX5_spell_53 ⟨Nat.le_refl _, Nat.le_refl _⟩ (fun H locs hW hS => ?_)
              obtain ⟨y17, ey17⟩ : ∃ y : Int32, y = v2 + (-5 : Int32) := ⟨_, rfl⟩
              replace hE := nm_o ey17 hE
              refine lv_iinc (k := 3) (v := y17) (lv' := [(2, .int y17), (3, .int y5), (0, rr G v0), (1, rr G v1)]) hx hb dX5_spell_56 hl rfl (by rw [ey17]; rfl) (by decide) (by simp [cat_rr]) (fun ls hl => ?_)
              refine lv_goto (tgt := 3) hx hb dX5_spell_59 (by decide) ?_
              exact ih3 _ _ _ _ _ _ _ hE hW hS (lv_sub hl [2, 3, 0] rfl)
            · replace hE := ite_f q14 hE
              refine lv_iconst (v := (0 : Int32)) hx hb dX5_spell_47 (by decide) ?_
              obtain ⟨c18, hE⟩ := ck hE
              obtain ⟨rfl, rfl⟩ := so2 hE
              exact s_zret hx hb hr c18 hlocks hW hS dX5_spell_48
  refine lv_bipush (v := (30 : Int32)) hx hb dX5_spell_0 (by decide) ?_
  refine lv_istore_n (i := 2) (lv' := [(2, .int (30 : Int32)), (0, rr G u0), (1, rr G u1)]) hx hb dX5_spell_2 rfl hl (by decide) (by simp [cat_rr]) (fun ls hl => ?_)
  exact hC3 F _ _ _ _ _ _ _ hE hW hS (lv_sub hl [1, 2, 0] rfl)
set_option maxHeartbeats 4000000 in
set_option maxRecDepth 100000 in
theorem S_X5_readCopy (l : Launch) (G : GG) (F : Nat) {u0 : Option Nat} {f : Hp} {r : Int32} {f' : Hp} {n : Nat} (hE : m_X5_readCopy F u0 f = some (r, f')) : Ctr l G yX5_readCopy cX5_readCopy 2 (some .boolean) 4 93 [rr G u0] f n (some (.int r)) f' n 0 0 := by
  refine Met.ofW (cc := cX5_readCopy) (maxL := 2) (ret := (some .boolean)) (by decide) rfl ?_
  intro p e s m args below meth c s₁ B hml hv
  obtain ⟨rfl, hK, hW⟩ := hv
  have hx := B.exec
  have hb := B.bytes
  have hr := B.returns
  have hts := atoms_spec (ws := wsO yX5_readCopy cX5_readCopy 2 (some .boolean)) B.pre
  have hT : ∀ w ∈ TB, w.before [rr G u0].toArray s = true := fun w hw => hts w (List.mem_cons_of_mem _ hw)
  have hown : s.vm.findClass RX5 = some m.cls := findClass_of_methodNamed B.named
  have hlocks := B.notSynchronized
  have CF : CallFix p m c cX5_readCopy 2 s [rr G u0].toArray TB RX5 := ⟨hx, hb, hml, hown, hT⟩
  have hS : va_S (WA G) s.heap s.heap [] := va_S.rf
  have hl : lv_has (lg_sl ([rr G u0]) ++ List.replicate (2 - (lg_sl ([rr G u0])).length) Slot.unset).toArray 2 [(0, rr G u0)] := by cases u0 <;> exact lv_entry _ (Nat.le_of_ble_eq_true rfl)
  rw [lg_entry_eq]
  generalize (lg_sl ([rr G u0]) ++ List.replicate (2 - (lg_sl ([rr G u0])).length) Slot.unset).toArray = ls at hl ⊢
  refine s_aload_n hx hb dX5_readCopy_0 rfl (lv_at hl 0 rfl) ?_
  obtain ⟨x1, hx1, hE⟩ := bd hE
  refine s_gR hx hb hT u_X5 hown hK hW hx1 rfl (by decide) fl_X5_15 rfl dX5_readCopy_1 ?_
  obtain ⟨c2, hE⟩ := ck hE
  obtain ⟨x3, f4, hx3, hE⟩ := bd2_of hE
  refine s_callV (As := []) (rest := []) CF hK hW hS (S_X4_nextCopy l G F hx3) c2 rfl gv_X5_92 hd_X4_nextCopy ⟨Nat.le_of_ble_eq_true rfl, Nat.le_of_ble_eq_true rfl⟩ rfl hl.1 rfl (Nat.le_of_ble_eq_true rfl) dX5_readCopy_4 ⟨Nat.le_refl _, Nat.le_refl _⟩ (fun H locs hW hS => ?_)
  refine s_astore_n (i := 1) (lv' := [(1, rr G x3), (0, rr G u0)]) hx hb dX5_readCopy_7 rfl hl (by decide) (by simp [cat_rr]) (fun ls hl => ?_)
  refine s_aload_n hx hb dX5_readCopy_8 rfl (lv_at hl 0 rfl) ?_
  refine s_ifnonnull (tgt := 21) hx hb dX5_readCopy_9 (by decide) (fun q5 => ?_) (fun q5 => ?_)
  · replace hE := ite_f q5 hE
    refine s_aload_n hx hb dX5_readCopy_21 rfl (lv_at hl 1 rfl) ?_
    obtain ⟨x6, hx6, hE⟩ := bd hE
    refine s_gR hx hb hT u_X5 hown hK hW hx6 rfl (by decide) fl_X5_9 rfl dX5_readCopy_22 ?_
    obtain ⟨c7, hE⟩ := ck hE
    obtain ⟨f8, hf8, hE⟩ := bd hE
    refine s_callV (As := []) (rest := []) CF hK hW hS (S_X9_advance l G F hf8) c7 rfl gv_X5_82 hd_X9_advance ⟨Nat.le_of_ble_eq_true rfl, Nat.le_of_ble_eq_true rfl⟩ rfl hl.1 rfl (Nat.le_of_ble_eq_true rfl) dX5_readCopy_25 ⟨Nat.le_refl _, Nat.le_refl _⟩ (fun H locs hW hS => ?_)
    refine s_aload_n hx hb dX5_readCopy_28 rfl (lv_at hl 1 rfl) ?_
    obtain ⟨c9, hE⟩ := ck hE
    obtain ⟨x10, f11, hx10, hE⟩ := bd2_of hE
    refine s_callV (As := []) (rest := []) CF hK hW hS (S_X5_isFreshName l G F hx10) c9 rfl gv_X5_96 hd_X5_isFreshName ⟨Nat.le_of_ble_eq_true rfl, Nat.le_of_ble_eq_true rfl⟩ rfl hl.1 rfl (Nat.le_of_ble_eq_true rfl) dX5_readCopy_29 ⟨Nat.le_refl _, Nat.le_refl _⟩ (fun H locs hW hS => ?_)
    refine lv_if_ne (tgt := 37) hx hb dX5_readCopy_32 (by decide) (fun q12 => ?_) (fun q12 => ?_)
    · replace hE := ite_f q12 hE
      refine s_aload_n hx hb dX5_readCopy_37 rfl (lv_at hl 0 rfl) ?_
      refine s_aload_n hx hb dX5_readCopy_38 rfl (lv_at hl 1 rfl) ?_
      obtain ⟨x13, hx13, hE⟩ := bd hE
      refine s_gR hx hb hT u_X5 hown hK hW hx13 rfl (by decide) fl_X5_9 rfl dX5_readCopy_39 ?_
      obtain ⟨x14, hx14, hE⟩ := bd hE
      refine s_gJ hx hb hT u_X9 hown hK hW hx14 rfl (by decide) fl_X5_99 rfl dX5_readCopy_42 ?_
      obtain ⟨f15, hf15, hE⟩ := bd hE
      refine s_putJ hx hb hT u_X1 tyX1 tyX1_ok nmX1 hown hK hW hS hf15 rfl (by decide) fl_X5_103 rfl (Or.inl rfl) rfl dX5_readCopy_45 (fun H locs hW hS => ?_)
      refine s_aload_n hx hb dX5_readCopy_48 rfl (lv_at hl 1 rfl) ?_
      obtain ⟨x16, hx16, hE⟩ := bd hE
      refine s_gR hx hb hT u_X5 hown hK hW hx16 rfl (by decide) fl_X5_9 rfl dX5_readCopy_49 ?_
      obtain ⟨c17, hE⟩ := ck hE
      obtain ⟨f18, hf18, hE⟩ := bd hE
      refine s_callV (As := []) (rest := []) CF hK hW hS (S_X9_advance l G F hf18) c17 rfl gv_X5_82 hd_X9_advance ⟨Nat.le_of_ble_eq_true rfl, Nat.le_of_ble_eq_true rfl⟩ rfl hl.1 rfl (Nat.le_of_ble_eq_true rfl) dX5_readCopy_52 ⟨Nat.le_refl _, Nat.le_refl _⟩ (fun H locs hW hS => ?_)
      refine s_aload_n hx hb dX5_readCopy_55 rfl (lv_at hl 1 rfl) ?_
      obtain ⟨x19, hx19, hE⟩ := bd hE
      refine s_gR hx hb hT u_X5 hown hK hW hx19 rfl (by decide) fl_X5_9 rfl dX5_readCopy_56 ?_
      obtain ⟨x20, hx20, hE⟩ := bd hE
      refine s_gI hx hb hT u_X9 hown hK hW hx20 rfl (by decide) fl_X5_32 rfl dX5_readCopy_59 ?_
      refine lv_iconst (v := (2 : Int32)) hx hb dX5_readCopy_62 (by decide) ?_
      refine lv_icmp_eq (tgt := 75) hx hb dX5_readCopy_63 (by decide) (fun q21 => ?_) (fun q21 => ?_)
      · replace hE := ite_t q21 hE
        refine s_aload_n hx hb dX5_readCopy_75 rfl (lv_at hl 1 rfl) ?_
        refine s_aload_n hx hb dX5_readCopy_76 rfl (lv_at hl 0 rfl) ?_
        obtain ⟨c22, hE⟩ := ck hE
        obtain ⟨x23, f24, hx23, hE⟩ := bd2_of hE
        refine s_callV (As := [rr G x3]) (rest := []) CF hK hW hS (S_X5_spell l G F hx23) c22 rfl gv_X5_108 hd_X5_spell ⟨Nat.le_of_ble_eq_true rfl, Nat.le_of_ble_eq_true rfl⟩ rfl hl.1 rfl (Nat.le_of_ble_eq_true rfl) dX5_readCopy_77 ⟨Nat.le_refl _, Nat.le_refl _⟩ (fun H locs hW hS => ?_)
        refine lv_if_ne (tgt := 92) hx hb dX5_readCopy_80 (by decide) (fun q25 => ?_) (fun q25 => ?_)
        · replace hE := ite_f q25 hE
          refine s_aload_n hx hb dX5_readCopy_92 rfl (lv_at hl 1 rfl) ?_
          obtain ⟨x26, hx26, hE⟩ := bd hE
          refine s_gR hx hb hT u_X5 hown hK hW hx26 rfl (by decide) fl_X5_15 rfl dX5_readCopy_93 ?_
          refine lv_dup hx hb dX5_readCopy_96 (cat_rr G _) ?_
          obtain ⟨x27, hx27, hE⟩ := bd hE
          refine s_gI hx hb hT u_X4 hown hK hW hx27 rfl (by decide) fl_X5_112 rfl dX5_readCopy_97 ?_
          refine lv_iconst (v := (1 : Int32)) hx hb dX5_readCopy_100 (by decide) ?_
          refine lv_iadd hx hb dX5_readCopy_101 ?_
          obtain ⟨f28, hf28, hE⟩ := bd hE
          refine s_putI hx hb hT u_X4 tyX4 tyX4_ok nmX4 hown hK hW hS hf28 rfl (by decide) fl_X5_112 rfl (Or.inl rfl) rfl dX5_readCopy_102 (fun H locs hW hS => ?_)
          refine s_aload_n hx hb dX5_readCopy_105 rfl (lv_at hl 1 rfl) ?_
          obtain ⟨x29, hx29, hE⟩ := bd hE
          refine s_gR hx hb hT u_X5 hown hK hW hx29 rfl (by decide) fl_X5_9 rfl dX5_readCopy_106 ?_
          obtain ⟨c30, hE⟩ := ck hE
          obtain ⟨f31, hf31, hE⟩ := bd hE
          refine s_callV (As := []) (rest := []) CF hK hW hS (S_X9_advance l G F hf31) c30 rfl gv_X5_82 hd_X9_advance ⟨Nat.le_of_ble_eq_true rfl, Nat.le_of_ble_eq_true rfl⟩ rfl hl.1 rfl (Nat.le_of_ble_eq_true rfl) dX5_readCopy_109 ⟨Nat.le_refl _, Nat.le_refl _⟩ (fun H locs hW hS => ?_)
          refine lv_iconst (v := (1 : Int32)) hx hb dX5_readCopy_112 (by decide) ?_
          obtain ⟨c32, hE⟩ := ck hE
          obtain ⟨rfl, rfl⟩ := so2 hE
          exact s_zret hx hb hr c32 hlocks hW hS dX5_readCopy_113
        · replace hE := ite_t q25 hE
          refine s_aload_n hx hb dX5_readCopy_83 rfl (lv_at hl 1 rfl) ?_
          obtain ⟨x33, hx33, hE⟩ := bd hE
          refine s_gR hx hb hT u_X5 hown hK hW hx33 rfl (by decide) fl_X5_9 rfl dX5_readCopy_84 ?_
          refine lv_iconst (v := (2 : Int32)) hx hb dX5_readCopy_87 (by decide) ?_
          obtain ⟨c34, hE⟩ := ck hE
          obtain ⟨x35, f36, hx35, hE⟩ := bd2_of hE
          refine s_callV (As := [.int (2 : Int32)]) (rest := []) CF hK hW hS (S_X9_fail l G F hx35) c34 rfl gv_X5_79 hd_X9_fail ⟨Nat.le_of_ble_eq_true rfl, Nat.le_of_ble_eq_true rfl⟩ rfl hl.1 rfl (Nat.le_of_ble_eq_true rfl) dX5_readCopy_88 ⟨Nat.le_refl _, Nat.le_refl _⟩ (fun H locs hW hS => ?_)
          obtain ⟨c37, hE⟩ := ck hE
          obtain ⟨rfl, rfl⟩ := so2 hE
          exact s_zret hx hb hr c37 hlocks hW hS dX5_readCopy_91
      · replace hE := ite_f q21 hE
        refine s_aload_n hx hb dX5_readCopy_66 rfl (lv_at hl 1 rfl) ?_
        obtain ⟨x38, hx38, hE⟩ := bd hE
        refine s_gR hx hb hT u_X5 hown hK hW hx38 rfl (by decide) fl_X5_9 rfl dX5_readCopy_67 ?_
        refine lv_iconst (v := (1 : Int32)) hx hb dX5_readCopy_70 (by decide) ?_
        obtain ⟨c39, hE⟩ := ck hE
        obtain ⟨x40, f41, hx40, hE⟩ := bd2_of hE
        refine s_callV (As := [.int (1 : Int32)]) (rest := []) CF hK hW hS (S_X9_fail l G F hx40) c39 rfl gv_X5_79 hd_X9_fail ⟨Nat.le_of_ble_eq_true rfl, Nat.le_of_ble_eq_true rfl⟩ rfl hl.1 rfl (Nat.le_of_ble_eq_true rfl) dX5_readCopy_71 ⟨Nat.le_refl _, Nat.le_refl _⟩ (fun H locs hW hS => ?_)
        obtain ⟨c42, hE⟩ := ck hE
        obtain ⟨rfl, rfl⟩ := so2 hE
        exact s_zret hx hb hr c42 hlocks hW hS dX5_readCopy_74
    · replace hE := ite_t q12 hE
      refine lv_iconst (v := (0 : Int32)) hx hb dX5_readCopy_35 (by decide) ?_
      obtain ⟨c43, hE⟩ := ck hE
      obtain ⟨rfl, rfl⟩ := so2 hE
      exact s_zret hx hb hr c43 hlocks hW hS dX5_readCopy_36
  · replace hE := ite_t q5 hE
    refine s_aload_n hx hb dX5_readCopy_12 rfl (lv_at hl 1 rfl) ?_
    obtain ⟨x44, hx44, hE⟩ := bd hE
    refine s_gR hx hb hT u_X5 hown hK hW hx44 rfl (by decide) fl_X5_9 rfl dX5_readCopy_13 ?_
    refine lv_iconst (v := (4 : Int32)) hx hb dX5_readCopy_16 (by decide) ?_
    obtain ⟨c45, hE⟩ := ck hE
    obtain ⟨x46, f47, hx46, hE⟩ := bd2_of hE
    refine s_callV (As := [.int (4 : Int32)]) (rest := []) CF hK hW hS (S_X9_fail l G F hx46) c45 rfl gv_X5_79 hd_X9_fail ⟨Nat.le_of_ble_eq_true rfl, Nat.le_of_ble_eq_true rfl⟩ rfl hl.1 rfl (Nat.le_of_ble_eq_true rfl) dX5_readCopy_17 ⟨Nat.le_refl _, Nat.le_refl _⟩ (fun H locs hW hS => ?_)
    obtain ⟨c48, hE⟩ := ck hE
    obtain ⟨rfl, rfl⟩ := so2 hE
    exact s_zret hx hb hr c48 hlocks hW hS dX5_readCopy_20
set_option maxHeartbeats 4000000 in
set_option maxRecDepth 100000 in
theorem S_X4_nextDesk (l : Launch) (G : GG) (F : Nat) {u0 : Option Nat} {f : Hp} {r : Option Nat} {n : Nat} (hE : m_X4_nextDesk F u0 f = some r) : Ctr l G yX4_nextDesk cX4_nextDesk 1 (some (.object "CopyOrders$Desk")) 0 0 [rr G u0] f n (some (rr G r)) f n 0 0 := by
  refine Met.ofW (cc := cX4_nextDesk) (maxL := 1) (ret := (some (.object "CopyOrders$Desk"))) (by decide) rfl ?_
  intro p e s m args below meth c s₁ B hml hv
  obtain ⟨rfl, hK, hW⟩ := hv
  have hx := B.exec
  have hb := B.bytes
  have hr := B.returns
  have hts := atoms_spec (ws := wsO yX4_nextDesk cX4_nextDesk 1 (some (.object "CopyOrders$Desk"))) B.pre
  have hT : ∀ w ∈ TB, w.before [rr G u0].toArray s = true := fun w hw => hts w (List.mem_cons_of_mem _ hw)
  have hown : s.vm.findClass RX4 = some m.cls := findClass_of_methodNamed B.named
  have hlocks := B.notSynchronized
  have CF : CallFix p m c cX4_nextDesk 1 s [rr G u0].toArray TB RX4 := ⟨hx, hb, hml, hown, hT⟩
  have hS : va_S (WA G) s.heap s.heap [] := va_S.rf
  have hl : lv_has (lg_sl ([rr G u0]) ++ List.replicate (1 - (lg_sl ([rr G u0])).length) Slot.unset).toArray 1 [(0, rr G u0)] := by cases u0 <;> exact lv_entry _ (Nat.le_of_ble_eq_true rfl)
  rw [lg_entry_eq]
  generalize (lg_sl ([rr G u0]) ++ List.replicate (1 - (lg_sl ([rr G u0])).length) Slot.unset).toArray = ls at hl ⊢
  refine s_aload_n hx hb dX4_nextDesk_0 rfl (lv_at hl 0 rfl) ?_
  obtain ⟨x1, hx1, hE⟩ := bd hE
  refine s_gI hx hb hT u_X4 hown hK hW hx1 rfl (by decide) fl_X4_58 rfl dX4_nextDesk_1 ?_
  refine lv_bipush (v := (6 : Int32)) hx hb dX4_nextDesk_4 (by decide) ?_
  refine lv_icmp_ge (tgt := 21) hx hb dX4_nextDesk_6 (by decide) (fun q2 => ?_) (fun q2 => ?_)
  · replace hE := ite_t q2 hE
    refine s_null (G := G) hx hb dX4_nextDesk_21 ?_
    obtain rfl := so1 hE
    exact s_aret hx hb hr (Or.inl ⟨_, rfl⟩) hlocks hW hS dX4_nextDesk_22
  · replace hE := ite_f q2 hE
    refine s_aload_n hx hb dX4_nextDesk_9 rfl (lv_at hl 0 rfl) ?_
    obtain ⟨x3, hx3, hE⟩ := bd hE
    refine s_gR hx hb hT u_X4 hown hK hW hx3 rfl (by decide) fl_X4_23 rfl dX4_nextDesk_10 ?_
    refine s_aload_n hx hb dX4_nextDesk_13 rfl (lv_at hl 0 rfl) ?_
    obtain ⟨x4, hx4, hE⟩ := bd hE
    refine s_gI hx hb hT u_X4 hown hK hW hx4 rfl (by decide) fl_X4_58 rfl dX4_nextDesk_14 ?_
    obtain ⟨x5, hx5, hE⟩ := bd hE
    refine s_ldR hx hb hK hW hS hx5 (by decide) rfl dX4_nextDesk_17 ?_
    refine lv_goto (tgt := 22) hx hb dX4_nextDesk_18 (by decide) ?_
    obtain rfl := so1 hE
    exact s_aret hx hb hr (Or.inl ⟨_, rfl⟩) hlocks hW hS dX4_nextDesk_22
set_option maxHeartbeats 4000000 in
set_option maxRecDepth 100000 in
theorem S_X5_readDesk (l : Launch) (G : GG) (F : Nat) {u0 : Option Nat} {f : Hp} {r : Int32} {f' : Hp} {n : Nat} (hE : m_X5_readDesk F u0 f = some (r, f')) : Ctr l G yX5_readDesk cX5_readDesk 2 (some .boolean) 3 70 [rr G u0] f n (some (.int r)) f' n 0 0 := by
  refine Met.ofW (cc := cX5_readDesk) (maxL := 2) (ret := (some .boolean)) (by decide) rfl ?_
  intro p e s m args below meth c s₁ B hml hv
  obtain ⟨rfl, hK, hW⟩ := hv
  have hx := B.exec
  have hb := B.bytes
  have hr := B.returns
  have hts := atoms_spec (ws := wsO yX5_readDesk cX5_readDesk 2 (some .boolean)) B.pre
  have hT : ∀ w ∈ TB, w.before [rr G u0].toArray s = true := fun w hw => hts w (List.mem_cons_of_mem _ hw)
  have hown : s.vm.findClass RX5 = some m.cls := findClass_of_methodNamed B.named
  have hlocks := B.notSynchronized
  have CF : CallFix p m c cX5_readDesk 2 s [rr G u0].toArray TB RX5 := ⟨hx, hb, hml, hown, hT⟩
  have hS : va_S (WA G) s.heap s.heap [] := va_S.rf
  have hl : lv_has (lg_sl ([rr G u0]) ++ List.replicate (2 - (lg_sl ([rr G u0])).length) Slot.unset).toArray 2 [(0, rr G u0)] := by cases u0 <;> exact lv_entry _ (Nat.le_of_ble_eq_true rfl)
  rw [lg_entry_eq]
  generalize (lg_sl ([rr G u0]) ++ List.replicate (2 - (lg_sl ([rr G u0])).length) Slot.unset).toArray = ls at hl ⊢
  have hC159 : ∀ (v0 : Option Nat) (fa : Hp) (H : Heap) (locs : List Loc) (ls : Array Slot), m_X5_readDesk_B159 F v0 fa = some (r, f') → Wd G fa n H → va_S (WA G) s.heap H locs → lv_has ls 2 [(0, rr G v0)] → W p l e (headSpec (wsO yX5_readDesk cX5_readDesk 2 (some .boolean)) { frames := 3, cells := 0, slots := 0, locals := 70 }).room s m [rr G u0].toArray below meth c H locs 0 0 (MQ below (Qcn G (some (.int r)) f' n) [rr G u0].toArray s 0 0 (WA G)) (F0 m 159 ls []) := by
    intro v0 fa H locs ls hE hW hS hl
    refine s_aload_n hx hb dX5_readDesk_159 rfl (lv_at hl 0 rfl) ?_
    obtain ⟨x1, hx1, hE⟩ := bd hE
    refine s_gR hx hb hT u_X5 hown hK hW hx1 rfl (by decide) fl_X5_15 rfl dX5_readDesk_160 ?_
    refine lv_dup hx hb dX5_readDesk_163 (cat_rr G _) ?_
    obtain ⟨x2, hx2, hE⟩ := bd hE
    refine s_gI hx hb hT u_X4 hown hK hW hx2 rfl (by decide) fl_X5_137 rfl dX5_readDesk_164 ?_
    refine lv_iconst (v := (1 : Int32)) hx hb dX5_readDesk_167 (by decide) ?_
    refine lv_iadd hx hb dX5_readDesk_168 ?_
    obtain ⟨f3, hf3, hE⟩ := bd hE
    refine s_putI hx hb hT u_X4 tyX4 tyX4_ok nmX4 hown hK hW hS hf3 rfl (by decide) fl_X5_137 rfl (Or.inl rfl) rfl dX5_readDesk_169 (fun H locs hW hS => ?_)
    refine s_aload_n hx hb dX5_readDesk_172 rfl (lv_at hl 0 rfl) ?_
    obtain ⟨x4, hx4, hE⟩ := bd hE
    refine s_gR hx hb hT u_X5 hown hK hW hx4 rfl (by decide) fl_X5_9 rfl dX5_readDesk_173 ?_
    obtain ⟨c5, hE⟩ := ck hE
    obtain ⟨f6, hf6, hE⟩ := bd hE
    refine s_callV (As := []) (rest := []) CF hK hW hS (S_X9_advance l G F hf6) c5 rfl gv_X5_82 hd_X9_advance ⟨Nat.le_of_ble_eq_true rfl, Nat.le_of_ble_eq_true rfl⟩ rfl hl.1 rfl (Nat.le_of_ble_eq_true rfl) dX5_readDesk_176 ⟨Nat.le_refl _, Nat.le_refl _⟩ (fun H locs hW hS => ?_)
    refine lv_iconst (v := (1 : Int32)) hx hb dX5_readDesk_179 (by decide) ?_
    obtain ⟨c7, hE⟩ := ck hE
    obtain ⟨rfl, rfl⟩ := so2 hE
    exact s_zret hx hb hr c7 hlocks hW hS dX5_readDesk_180
  refine s_aload_n hx hb dX5_readDesk_0 rfl (lv_at hl 0 rfl) ?_
  obtain ⟨x8, hx8, hE⟩ := bd hE
  refine s_gR hx hb hT u_X5 hown hK hW hx8 rfl (by decide) fl_X5_15 rfl dX5_readDesk_1 ?_
  obtain ⟨c9, hE⟩ := ck hE
  obtain ⟨x10, hx10, hE⟩ := bd hE
  refine s_callV (As := []) (rest := []) CF hK hW hS (S_X4_nextDesk l G F hx10) c9 rfl gv_X5_124 hd_X4_nextDesk ⟨Nat.le_of_ble_eq_true rfl, Nat.le_of_ble_eq_true rfl⟩ rfl hl.1 rfl (Nat.le_of_ble_eq_true rfl) dX5_readDesk_4 ⟨Nat.le_refl _, Nat.le_refl _⟩ (fun H locs hW hS => ?_)
  refine s_astore_n (i := 1) (lv' := [(1, rr G x10), (0, rr G u0)]) hx hb dX5_readDesk_7 rfl hl (by decide) (by simp [cat_rr]) (fun ls hl => ?_)
  refine s_aload_n hx hb dX5_readDesk_8 rfl (lv_at hl 0 rfl) ?_
  refine s_ifnonnull (tgt := 21) hx hb dX5_readDesk_9 (by decide) (fun q11 => ?_) (fun q11 => ?_)
  · replace hE := ite_f q11 hE
    refine s_aload_n hx hb dX5_readDesk_21 rfl (lv_at hl 1 rfl) ?_
    obtain ⟨x12, hx12, hE⟩ := bd hE
    refine s_gR hx hb hT u_X5 hown hK hW hx12 rfl (by decide) fl_X5_9 rfl dX5_readDesk_22 ?_
    obtain ⟨c13, hE⟩ := ck hE
    obtain ⟨f14, hf14, hE⟩ := bd hE
    refine s_callV (As := []) (rest := []) CF hK hW hS (S_X9_advance l G F hf14) c13 rfl gv_X5_82 hd_X9_advance ⟨Nat.le_of_ble_eq_true rfl, Nat.le_of_ble_eq_true rfl⟩ rfl hl.1 rfl (Nat.le_of_ble_eq_true rfl) dX5_readDesk_25 ⟨Nat.le_refl _, Nat.le_refl _⟩ (fun H locs hW hS => ?_)
    refine s_aload_n hx hb dX5_readDesk_28 rfl (lv_at hl 1 rfl) ?_
    obtain ⟨c15, hE⟩ := ck hE
    obtain ⟨x16, f17, hx16, hE⟩ := bd2_of hE
    refine s_callV (As := []) (rest := []) CF hK hW hS (S_X5_isFreshName l G F hx16) c15 rfl gv_X5_96 hd_X5_isFreshName ⟨Nat.le_of_ble_eq_true rfl, Nat.le_of_ble_eq_true rfl⟩ rfl hl.1 rfl (Nat.le_of_ble_eq_true rfl) dX5_readDesk_29 ⟨Nat.le_refl _, Nat.le_refl _⟩ (fun H locs hW hS => ?_)
    refine lv_if_ne (tgt := 37) hx hb dX5_readDesk_32 (by decide) (fun q18 => ?_) (fun q18 => ?_)
    · replace hE := ite_f q18 hE
      refine s_aload_n hx hb dX5_readDesk_37 rfl (lv_at hl 0 rfl) ?_
      refine s_aload_n hx hb dX5_readDesk_38 rfl (lv_at hl 1 rfl) ?_
      obtain ⟨x19, hx19, hE⟩ := bd hE
      refine s_gR hx hb hT u_X5 hown hK hW hx19 rfl (by decide) fl_X5_9 rfl dX5_readDesk_39 ?_
      obtain ⟨x20, hx20, hE⟩ := bd hE
      refine s_gJ hx hb hT u_X9 hown hK hW hx20 rfl (by decide) fl_X5_99 rfl dX5_readDesk_42 ?_
      obtain ⟨f21, hf21, hE⟩ := bd hE
      refine s_putJ hx hb hT u_X2 tyX2 tyX2_ok nmX2 hown hK hW hS hf21 rfl (by decide) fl_X5_128 rfl (Or.inl rfl) rfl dX5_readDesk_45 (fun H locs hW hS => ?_)
      refine s_aload_n hx hb dX5_readDesk_48 rfl (lv_at hl 1 rfl) ?_
      obtain ⟨x22, hx22, hE⟩ := bd hE
      refine s_gR hx hb hT u_X5 hown hK hW hx22 rfl (by decide) fl_X5_9 rfl dX5_readDesk_49 ?_
      obtain ⟨c23, hE⟩ := ck hE
      obtain ⟨f24, hf24, hE⟩ := bd hE
      refine s_callV (As := []) (rest := []) CF hK hW hS (S_X9_advance l G F hf24) c23 rfl gv_X5_82 hd_X9_advance ⟨Nat.le_of_ble_eq_true rfl, Nat.le_of_ble_eq_true rfl⟩ rfl hl.1 rfl (Nat.le_of_ble_eq_true rfl) dX5_readDesk_52 ⟨Nat.le_refl _, Nat.le_refl _⟩ (fun H locs hW hS => ?_)
      refine s_aload_n hx hb dX5_readDesk_55 rfl (lv_at hl 0 rfl) ?_
      refine s_aload_n hx hb dX5_readDesk_56 rfl (lv_at hl 1 rfl) ?_
      obtain ⟨x25, hx25, hE⟩ := bd hE
      refine s_gR hx hb hT u_X5 hown hK hW hx25 rfl (by decide) fl_X5_9 rfl dX5_readDesk_57 ?_
      obtain ⟨x26, hx26, hE⟩ := bd hE
      refine s_gR hx hb hT u_X9 hown hK hW hx26 rfl (by decide) fl_X5_51 rfl dX5_readDesk_60 ?_
      obtain ⟨f27, hf27, hE⟩ := bd hE
      refine s_putR hx hb hT u_X2 tyX2 tyX2_ok nmX2 hown hK hW hS hf27 rfl (by decide) fl_X5_131 rfl (Or.inl rfl) rfl fit_o dX5_readDesk_63 (fun H locs hW hS => ?_)
      refine s_getSt hx hb hT hK hS hown 33 (by decide) (z33 hK) fl_X5_45 dX5_readDesk_66 ?_
      refine s_aload_n hx hb dX5_readDesk_69 rfl (lv_at hl 1 rfl) ?_
      obtain ⟨x28, hx28, hE⟩ := bd hE
      refine s_gR hx hb hT u_X5 hown hK hW hx28 rfl (by decide) fl_X5_9 rfl dX5_readDesk_70 ?_
      obtain ⟨x29, hx29, hE⟩ := bd hE
      refine s_gR hx hb hT u_X9 hown hK hW hx29 rfl (by decide) fl_X5_51 rfl dX5_readDesk_73 ?_
      obtain ⟨i30, hi30, hE⟩ := bd hE
      refine s_ord (l := l) CF hK hW hS hi30 or_X5_55 ⟨Nat.le_of_ble_eq_true rfl, Nat.le_of_ble_eq_true rfl⟩ hl.1 (Nat.le_of_ble_eq_true rfl) dX5_readDesk_76 ⟨Nat.le_refl _, Nat.le_refl _⟩ (fun H locs hW hS => ?_)
      obtain ⟨x31, hx31, hE⟩ := bd hE
      refine s_ldI hx hb hK hW hS hx31 dX5_readDesk_79 ?_
      by_cases w32 : x31 = (1 : Int32)
      · replace hE := ite_t w32 hE
        have hi : (x31).toInt = 1 := by rw [w32]; rfl
        refine lv_lookup (off := 36) (tgt := 116) hx hb dX5_readDesk_80 (by decide) (by rw [hi]; rfl) (by decide) ?_
        refine lv_goto (tgt := 159) hx hb dX5_readDesk_116 (by decide) ?_
        exact hC159 _ _ _ _ _ hE hW hS (lv_sub hl [1] rfl)
      · replace hE := ite_f w32 hE
        by_cases w33 : x31 = (2 : Int32)
        · replace hE := ite_t w33 hE
          have hi : (x31).toInt = 2 := by rw [w33]; rfl
          refine lv_lookup (off := 39) (tgt := 119) hx hb dX5_readDesk_80 (by decide) (by rw [hi]; rfl) (by decide) ?_
          refine s_aload_n hx hb dX5_readDesk_119 rfl (lv_at hl 1 rfl) ?_
          obtain ⟨x34, hx34, hE⟩ := bd hE
          refine s_gR hx hb hT u_X5 hown hK hW hx34 rfl (by decide) fl_X5_9 rfl dX5_readDesk_120 ?_
          obtain ⟨c35, hE⟩ := ck hE
          obtain ⟨f36, hf36, hE⟩ := bd hE
          refine s_callV (As := []) (rest := []) CF hK hW hS (S_X9_advance l G F hf36) c35 rfl gv_X5_82 hd_X9_advance ⟨Nat.le_of_ble_eq_true rfl, Nat.le_of_ble_eq_true rfl⟩ rfl hl.1 rfl (Nat.le_of_ble_eq_true rfl) dX5_readDesk_123 ⟨Nat.le_refl _, Nat.le_refl _⟩ (fun H locs hW hS => ?_)
          refine s_aload_n hx hb dX5_readDesk_126 rfl (lv_at hl 0 rfl) ?_
          refine s_aload_n hx hb dX5_readDesk_127 rfl (lv_at hl 1 rfl) ?_
          obtain ⟨x37, hx37, hE⟩ := bd hE
          refine s_gR hx hb hT u_X5 hown hK hW hx37 rfl (by decide) fl_X5_9 rfl dX5_readDesk_128 ?_
          refine lv_iconst (v := (1 : Int32)) hx hb dX5_readDesk_131 (by decide) ?_
          refine lv_bipush (v := (9 : Int32)) hx hb dX5_readDesk_132 (by decide) ?_
          obtain ⟨c38, hE⟩ := ck hE
          obtain ⟨x39, f40, hx39, hE⟩ := bd2_of hE
          refine s_callV (As := [.int (1 : Int32), .int (9 : Int32)]) (rest := [rr G x10]) CF hK hW hS (S_X9_numberHere l G F hx39) c38 rfl gv_X5_85 hd_X9_numberHere ⟨Nat.le_of_ble_eq_true rfl, Nat.le_of_ble_eq_true rfl⟩ rfl hl.1 rfl (Nat.le_of_ble_eq_true rfl) dX5_readDesk_134 ⟨Nat.le_refl _, Nat.le_refl _⟩ (fun H locs hW hS => ?_)
          obtain ⟨f41, hf41, hE⟩ := bd hE
          refine s_putI hx hb hT u_X2 tyX2 tyX2_ok nmX2 hown hK hW hS hf41 rfl (by decide) fl_X5_134 rfl (Or.inl rfl) rfl dX5_readDesk_137 (fun H locs hW hS => ?_)
          refine s_aload_n hx hb dX5_readDesk_140 rfl (lv_at hl 0 rfl) ?_
          obtain ⟨x42, hx42, hE⟩ := bd hE
          refine s_gI hx hb hT u_X2 hown hK hW hx42 rfl (by decide) fl_X5_134 rfl dX5_readDesk_141 ?_
          refine lv_iconst (v := (-1 : Int32)) hx hb dX5_readDesk_144 (by decide) ?_
          refine lv_icmp_ne (tgt := 159) hx hb dX5_readDesk_145 (by decide) (fun q43 => ?_) (fun q43 => ?_)
          · replace hE := ite_f q43 hE
            exact hC159 _ _ _ _ _ hE hW hS (lv_sub hl [1] rfl)
          · replace hE := ite_t q43 hE
            refine lv_iconst (v := (0 : Int32)) hx hb dX5_readDesk_148 (by decide) ?_
            obtain ⟨c44, hE⟩ := ck hE
            obtain ⟨rfl, rfl⟩ := so2 hE
            exact s_zret hx hb hr c44 hlocks hW hS dX5_readDesk_149
        · replace hE := ite_f w33 hE
          by_cases w45 : x31 = (9 : Int32)
          · replace hE := ite_t w45 hE
            have hi : (x31).toInt = 9 := by rw [w45]; rfl
            refine lv_lookup (off := 36) (tgt := 116) hx hb dX5_readDesk_80 (by decide) (by rw [hi]; rfl) (by decide) ?_
            refine lv_goto (tgt := 159) hx hb dX5_readDesk_116 (by decide) ?_
            exact hC159 _ _ _ _ _ hE hW hS (lv_sub hl [1] rfl)
          · replace hE := ite_f w45 hE
            refine lv_lookup (off := 70) (tgt := 150) hx hb dX5_readDesk_80 (by decide) ((lv_osw w32 (a := 1) rfl).trans ((lv_osw w33 (a := 2) rfl).trans ((lv_osw w45 (a := 9) rfl).trans rfl))) (by decide) ?_
            refine s_aload_n hx hb dX5_readDesk_150 rfl (lv_at hl 1 rfl) ?_
            obtain ⟨x46, hx46, hE⟩ := bd hE
            refine s_gR hx hb hT u_X5 hown hK hW hx46 rfl (by decide) fl_X5_9 rfl dX5_readDesk_151 ?_
            refine lv_iconst (v := (1 : Int32)) hx hb dX5_readDesk_154 (by decide) ?_
            obtain ⟨c47, hE⟩ := ck hE
            obtain ⟨x48, f49, hx48, hE⟩ := bd2_of hE
            refine s_callV (As := [.int (1 : Int32)]) (rest := []) CF hK hW hS (S_X9_fail l G F hx48) c47 rfl gv_X5_79 hd_X9_fail ⟨Nat.le_of_ble_eq_true rfl, Nat.le_of_ble_eq_true rfl⟩ rfl hl.1 rfl (Nat.le_of_ble_eq_true rfl) dX5_readDesk_155 ⟨Nat.le_refl _, Nat.le_refl _⟩ (fun H locs hW hS => ?_)
            obtain ⟨c50, hE⟩ := ck hE
            obtain ⟨rfl, rfl⟩ := so2 hE
            exact s_zret hx hb hr c50 hlocks hW hS dX5_readDesk_158
    · replace hE := ite_t q18 hE
      refine lv_iconst (v := (0 : Int32)) hx hb dX5_readDesk_35 (by decide) ?_
      obtain ⟨c51, hE⟩ := ck hE
      obtain ⟨rfl, rfl⟩ := so2 hE
      exact s_zret hx hb hr c51 hlocks hW hS dX5_readDesk_36
  · replace hE := ite_t q11 hE
    refine s_aload_n hx hb dX5_readDesk_12 rfl (lv_at hl 1 rfl) ?_
    obtain ⟨x52, hx52, hE⟩ := bd hE
    refine s_gR hx hb hT u_X5 hown hK hW hx52 rfl (by decide) fl_X5_9 rfl dX5_readDesk_13 ?_
    refine lv_iconst (v := (4 : Int32)) hx hb dX5_readDesk_16 (by decide) ?_
    obtain ⟨c53, hE⟩ := ck hE
    obtain ⟨x54, f55, hx54, hE⟩ := bd2_of hE
    refine s_callV (As := [.int (4 : Int32)]) (rest := []) CF hK hW hS (S_X9_fail l G F hx54) c53 rfl gv_X5_79 hd_X9_fail ⟨Nat.le_of_ble_eq_true rfl, Nat.le_of_ble_eq_true rfl⟩ rfl hl.1 rfl (Nat.le_of_ble_eq_true rfl) dX5_readDesk_17 ⟨Nat.le_refl _, Nat.le_refl _⟩ (fun H locs hW hS => ?_)
    obtain ⟨c56, hE⟩ := ck hE
    obtain ⟨rfl, rfl⟩ := so2 hE
    exact s_zret hx hb hr c56 hlocks hW hS dX5_readDesk_20
set_option maxHeartbeats 4000000 in
set_option maxRecDepth 100000 in
theorem S_X5_readLikely (l : Launch) (G : GG) (F : Nat) {u0 : Option Nat} {f : Hp} {r : Int32} {f' : Hp} {n : Nat} (hE : m_X5_readLikely F u0 f = some (r, f')) : Ctr l G yX5_readLikely cX5_readLikely 3 (some .boolean) 3 70 [rr G u0] f n (some (.int r)) f' n 0 0 := by
  refine Met.ofW (cc := cX5_readLikely) (maxL := 3) (ret := (some .boolean)) (by decide) rfl ?_
  intro p e s m args below meth c s₁ B hml hv
  obtain ⟨rfl, hK, hW⟩ := hv
  have hx := B.exec
  have hb := B.bytes
  have hr := B.returns
  have hts := atoms_spec (ws := wsO yX5_readLikely cX5_readLikely 3 (some .boolean)) B.pre
  have hT : ∀ w ∈ TB, w.before [rr G u0].toArray s = true := fun w hw => hts w (List.mem_cons_of_mem _ hw)
  have hown : s.vm.findClass RX5 = some m.cls := findClass_of_methodNamed B.named
  have hlocks := B.notSynchronized
  have CF : CallFix p m c cX5_readLikely 3 s [rr G u0].toArray TB RX5 := ⟨hx, hb, hml, hown, hT⟩
  have hS : va_S (WA G) s.heap s.heap [] := va_S.rf
  have hl : lv_has (lg_sl ([rr G u0]) ++ List.replicate (3 - (lg_sl ([rr G u0])).length) Slot.unset).toArray 3 [(0, rr G u0)] := by cases u0 <;> exact lv_entry _ (Nat.le_of_ble_eq_true rfl)
  rw [lg_entry_eq]
  generalize (lg_sl ([rr G u0]) ++ List.replicate (3 - (lg_sl ([rr G u0])).length) Slot.unset).toArray = ls at hl ⊢
  refine s_aload_n hx hb dX5_readLikely_0 rfl (lv_at hl 0 rfl) ?_
  obtain ⟨x1, hx1, hE⟩ := bd hE
  refine s_gR hx hb hT u_X5 hown hK hW hx1 rfl (by decide) fl_X5_9 rfl dX5_readLikely_1 ?_
  obtain ⟨c2, hE⟩ := ck hE
  obtain ⟨f3, hf3, hE⟩ := bd hE
  refine s_callV (As := []) (rest := []) CF hK hW hS (S_X9_advance l G F hf3) c2 rfl gv_X5_82 hd_X9_advance ⟨Nat.le_of_ble_eq_true rfl, Nat.le_of_ble_eq_true rfl⟩ rfl hl.1 rfl (Nat.le_of_ble_eq_true rfl) dX5_readLikely_4 ⟨Nat.le_refl _, Nat.le_refl _⟩ (fun H locs hW hS => ?_)
  refine s_aload_n hx hb dX5_readLikely_7 rfl (lv_at hl 0 rfl) ?_
  obtain ⟨x4, hx4, hE⟩ := bd hE
  refine s_gR hx hb hT u_X5 hown hK hW hx4 rfl (by decide) fl_X5_9 rfl dX5_readLikely_8 ?_
  refine lv_iconst (v := (1 : Int32)) hx hb dX5_readLikely_11 (by decide) ?_
  refine s_aload_n hx hb dX5_readLikely_12 rfl (lv_at hl 0 rfl) ?_
  obtain ⟨x5, hx5, hE⟩ := bd hE
  refine s_gR hx hb hT u_X5 hown hK hW hx5 rfl (by decide) fl_X5_15 rfl dX5_readLikely_13 ?_
  obtain ⟨x6, hx6, hE⟩ := bd hE
  refine s_gI hx hb hT u_X4 hown hK hW hx6 rfl (by decide) fl_X5_89 rfl dX5_readLikely_16 ?_
  refine lv_iconst (v := (1 : Int32)) hx hb dX5_readLikely_19 (by decide) ?_
  refine lv_isub hx hb dX5_readLikely_20 ?_
  obtain ⟨c7, hE⟩ := ck hE
  obtain ⟨x8, f9, hx8, hE⟩ := bd2_of hE
  refine s_callV (As := [.int (1 : Int32), .int (x6 - (1 : Int32))]) (rest := []) CF hK hW hS (S_X9_numberHere l G F hx8) c7 rfl gv_X5_85 hd_X9_numberHere ⟨Nat.le_of_ble_eq_true rfl, Nat.le_of_ble_eq_true rfl⟩ rfl hl.1 rfl (Nat.le_of_ble_eq_true rfl) dX5_readLikely_21 ⟨Nat.le_refl _, Nat.le_refl _⟩ (fun H locs hW hS => ?_)
  refine lv_istore_n (i := 1) (lv' := [(1, .int x8), (0, rr G u0)]) hx hb dX5_readLikely_24 rfl hl (by decide) (by simp [cat_rr]) (fun ls hl => ?_)
  refine lv_iload_n hx hb dX5_readLikely_25 rfl (lv_at hl 0 rfl) ?_
  refine lv_iconst (v := (-1 : Int32)) hx hb dX5_readLikely_26 (by decide) ?_
  refine lv_icmp_ne (tgt := 32) hx hb dX5_readLikely_27 (by decide) (fun q10 => ?_) (fun q10 => ?_)
  · replace hE := ite_f q10 hE
    refine s_aload_n hx hb dX5_readLikely_32 rfl (lv_at hl 1 rfl) ?_
    obtain ⟨x11, hx11, hE⟩ := bd hE
    refine s_gI hx hb hT u_X5 hown hK hW hx11 rfl (by decide) fl_X5_28 rfl dX5_readLikely_33 ?_
    refine lv_iload_n hx hb dX5_readLikely_36 rfl (lv_at hl 0 rfl) ?_
    refine lv_iushr (v := (ius x11 x8)) hx hb dX5_readLikely_37 rfl ?_
    refine lv_iconst (v := (1 : Int32)) hx hb dX5_readLikely_38 (by decide) ?_
    refine lv_iand hx hb dX5_readLikely_39 ?_
    refine lv_if_eq (tgt := 52) hx hb dX5_readLikely_40 (by decide) (fun q12 => ?_) (fun q12 => ?_)
    · replace hE := ite_t q12 hE
      refine s_aload_n hx hb dX5_readLikely_52 rfl (lv_at hl 1 rfl) ?_
      obtain ⟨x13, hx13, hE⟩ := bd hE
      refine s_gR hx hb hT u_X5 hown hK hW hx13 rfl (by decide) fl_X5_9 rfl dX5_readLikely_53 ?_
      obtain ⟨c14, hE⟩ := ck hE
      obtain ⟨f15, hf15, hE⟩ := bd hE
      refine s_callV (As := []) (rest := []) CF hK hW hS (S_X9_advance l G F hf15) c14 rfl gv_X5_82 hd_X9_advance ⟨Nat.le_of_ble_eq_true rfl, Nat.le_of_ble_eq_true rfl⟩ rfl hl.1 rfl (Nat.le_of_ble_eq_true rfl) dX5_readLikely_56 ⟨Nat.le_refl _, Nat.le_refl _⟩ (fun H locs hW hS => ?_)
      refine s_aload_n hx hb dX5_readLikely_59 rfl (lv_at hl 1 rfl) ?_
      obtain ⟨x16, hx16, hE⟩ := bd hE
      refine s_gR hx hb hT u_X5 hown hK hW hx16 rfl (by decide) fl_X5_9 rfl dX5_readLikely_60 ?_
      refine lv_iconst (v := (0 : Int32)) hx hb dX5_readLikely_63 (by decide) ?_
      refine lv_bipush (v := (9 : Int32)) hx hb dX5_readLikely_64 (by decide) ?_
      obtain ⟨c17, hE⟩ := ck hE
      obtain ⟨x18, f19, hx18, hE⟩ := bd2_of hE
      refine s_callV (As := [.int (0 : Int32), .int (9 : Int32)]) (rest := []) CF hK hW hS (S_X9_numberHere l G F hx18) c17 rfl gv_X5_85 hd_X9_numberHere ⟨Nat.le_of_ble_eq_true rfl, Nat.le_of_ble_eq_true rfl⟩ rfl hl.1 rfl (Nat.le_of_ble_eq_true rfl) dX5_readLikely_66 ⟨Nat.le_refl _, Nat.le_refl _⟩ (fun H locs hW hS => ?_)
      refine lv_istore_n (i := 2) (lv' := [(2, .int x18), (1, .int x8), (0, rr G u0)]) hx hb dX5_readLikely_69 rfl hl (by decide) rfl (fun ls hl => ?_)
      refine lv_iload_n hx hb dX5_readLikely_70 rfl (lv_at hl 0 rfl) ?_
      refine lv_iconst (v := (-1 : Int32)) hx hb dX5_readLikely_71 (by decide) ?_
      refine lv_icmp_ne (tgt := 77) hx hb dX5_readLikely_72 (by decide) (fun q20 => ?_) (fun q20 => ?_)
      · replace hE := ite_f q20 hE
        refine s_aload_n hx hb dX5_readLikely_77 rfl (lv_at hl 2 rfl) ?_
        refine lv_dup hx hb dX5_readLikely_78 (cat_rr G _) ?_
        obtain ⟨x21, hx21, hE⟩ := bd hE
        refine s_gI hx hb hT u_X5 hown hK hW hx21 rfl (by decide) fl_X5_28 rfl dX5_readLikely_79 ?_
        refine lv_iconst (v := (1 : Int32)) hx hb dX5_readLikely_82 (by decide) ?_
        refine lv_iload_n hx hb dX5_readLikely_83 rfl (lv_at hl 1 rfl) ?_
        refine lv_ishl hx hb dX5_readLikely_84 ?_
        refine lv_ior hx hb dX5_readLikely_85 ?_
        obtain ⟨f22, hf22, hE⟩ := bd hE
        refine s_putI hx hb hT u_X5 tyX5 tyX5_ok nmX5 hown hK hW hS hf22 rfl (by decide) fl_X5_28 rfl (Or.inl rfl) rfl dX5_readLikely_86 (fun H locs hW hS => ?_)
        refine lv_iload_n hx hb dX5_readLikely_89 rfl (lv_at hl 1 rfl) ?_
        refine s_aload_n hx hb dX5_readLikely_90 rfl (lv_at hl 2 rfl) ?_
        obtain ⟨x23, hx23, hE⟩ := bd hE
        refine s_gR hx hb hT u_X5 hown hK hW hx23 rfl (by decide) fl_X5_15 rfl dX5_readLikely_91 ?_
        obtain ⟨x24, hx24, hE⟩ := bd hE
        refine s_gR hx hb hT u_X4 hown hK hW hx24 rfl (by decide) fl_X5_147 rfl dX5_readLikely_94 ?_
        obtain ⟨x25, hx25, hE⟩ := bd hE
        refine s_alen hx hb hK hW hS hx25 dX5_readLikely_97 ?_
        refine lv_icmp_gt (tgt := 113) hx hb dX5_readLikely_98 (by decide) (fun q26 => ?_) (fun q26 => ?_)
        · replace hE := ite_t q26 hE
          refine s_aload_n hx hb dX5_readLikely_113 rfl (lv_at hl 2 rfl) ?_
          obtain ⟨x27, hx27, hE⟩ := bd hE
          refine s_gR hx hb hT u_X5 hown hK hW hx27 rfl (by decide) fl_X5_9 rfl dX5_readLikely_114 ?_
          obtain ⟨c28, hE⟩ := ck hE
          obtain ⟨f29, hf29, hE⟩ := bd hE
          refine s_callV (As := []) (rest := []) CF hK hW hS (S_X9_advance l G F hf29) c28 rfl gv_X5_82 hd_X9_advance ⟨Nat.le_of_ble_eq_true rfl, Nat.le_of_ble_eq_true rfl⟩ rfl hl.1 rfl (Nat.le_of_ble_eq_true rfl) dX5_readLikely_117 ⟨Nat.le_refl _, Nat.le_refl _⟩ (fun H locs hW hS => ?_)
          refine lv_iconst (v := (1 : Int32)) hx hb dX5_readLikely_120 (by decide) ?_
          obtain ⟨c30, hE⟩ := ck hE
          obtain ⟨rfl, rfl⟩ := so2 hE
          exact s_zret hx hb hr c30 hlocks hW hS dX5_readLikely_121
        · replace hE := ite_f q26 hE
          refine s_aload_n hx hb dX5_readLikely_101 rfl (lv_at hl 2 rfl) ?_
          obtain ⟨x31, hx31, hE⟩ := bd hE
          refine s_gR hx hb hT u_X5 hown hK hW hx31 rfl (by decide) fl_X5_15 rfl dX5_readLikely_102 ?_
          obtain ⟨x32, hx32, hE⟩ := bd hE
          refine s_gR hx hb hT u_X4 hown hK hW hx32 rfl (by decide) fl_X5_147 rfl dX5_readLikely_105 ?_
          refine lv_iload_n hx hb dX5_readLikely_108 rfl (lv_at hl 1 rfl) ?_
          refine lv_iconst (v := (1 : Int32)) hx hb dX5_readLikely_109 (by decide) ?_
          refine lv_isub hx hb dX5_readLikely_110 ?_
          refine lv_iload_n hx hb dX5_readLikely_111 rfl (lv_at hl 0 rfl) ?_
          obtain ⟨f33, hf33, hE⟩ := bd hE
          refine s_stI hx hb hK hW hS hf33 dX5_readLikely_112 (fun H locs hW hS => ?_)
          refine s_aload_n hx hb dX5_readLikely_113 rfl (lv_at hl 2 rfl) ?_
          obtain ⟨x34, hx34, hE⟩ := bd hE
          refine s_gR hx hb hT u_X5 hown hK hW hx34 rfl (by decide) fl_X5_9 rfl dX5_readLikely_114 ?_
          obtain ⟨c35, hE⟩ := ck hE
          obtain ⟨f36, hf36, hE⟩ := bd hE
          refine s_callV (As := []) (rest := []) CF hK hW hS (S_X9_advance l G F hf36) c35 rfl gv_X5_82 hd_X9_advance ⟨Nat.le_of_ble_eq_true rfl, Nat.le_of_ble_eq_true rfl⟩ rfl hl.1 rfl (Nat.le_of_ble_eq_true rfl) dX5_readLikely_117 ⟨Nat.le_refl _, Nat.le_refl _⟩ (fun H locs hW hS => ?_)
          refine lv_iconst (v := (1 : Int32)) hx hb dX5_readLikely_120 (by decide) ?_
          obtain ⟨c37, hE⟩ := ck hE
          obtain ⟨rfl, rfl⟩ := so2 hE
          exact s_zret hx hb hr c37 hlocks hW hS dX5_readLikely_121
      · replace hE := ite_t q20 hE
        refine lv_iconst (v := (0 : Int32)) hx hb dX5_readLikely_75 (by decide) ?_
        obtain ⟨c38, hE⟩ := ck hE
        obtain ⟨rfl, rfl⟩ := so2 hE
        exact s_zret hx hb hr c38 hlocks hW hS dX5_readLikely_76
    · replace hE := ite_f q12 hE
      refine s_aload_n hx hb dX5_readLikely_43 rfl (lv_at hl 1 rfl) ?_
      obtain ⟨x39, hx39, hE⟩ := bd hE
      refine s_gR hx hb hT u_X5 hown hK hW hx39 rfl (by decide) fl_X5_9 rfl dX5_readLikely_44 ?_
      refine lv_iconst (v := (3 : Int32)) hx hb dX5_readLikely_47 (by decide) ?_
      obtain ⟨c40, hE⟩ := ck hE
      obtain ⟨x41, f42, hx41, hE⟩ := bd2_of hE
      refine s_callV (As := [.int (3 : Int32)]) (rest := []) CF hK hW hS (S_X9_fail l G F hx41) c40 rfl gv_X5_79 hd_X9_fail ⟨Nat.le_of_ble_eq_true rfl, Nat.le_of_ble_eq_true rfl⟩ rfl hl.1 rfl (Nat.le_of_ble_eq_true rfl) dX5_readLikely_48 ⟨Nat.le_refl _, Nat.le_refl _⟩ (fun H locs hW hS => ?_)
      obtain ⟨c43, hE⟩ := ck hE
      obtain ⟨rfl, rfl⟩ := so2 hE
      exact s_zret hx hb hr c43 hlocks hW hS dX5_readLikely_51
  · replace hE := ite_t q10 hE
    refine lv_iconst (v := (0 : Int32)) hx hb dX5_readLikely_30 (by decide) ?_
    obtain ⟨c44, hE⟩ := ck hE
    obtain ⟨rfl, rfl⟩ := so2 hE
    exact s_zret hx hb hr c44 hlocks hW hS dX5_readLikely_31
set_option maxHeartbeats 4000000 in
set_option maxRecDepth 100000 in
theorem S_X9_letterHere (l : Launch) (G : GG) (F : Nat) {u0 : Option Nat} {u1 : Int32} {f : Hp} {r : Int32} {f' : Hp} {n : Nat} (hE : m_X9_letterHere F u0 u1 f = some (r, f')) : Ctr l G yX9_letterHere cX9_letterHere 2 (some .int) 1 21 [rr G u0, .int u1] f n (some (.int r)) f' n 0 0 := by
  refine Met.ofW (cc := cX9_letterHere) (maxL := 2) (ret := (some .int)) (by decide) rfl ?_
  intro p e s m args below meth c s₁ B hml hv
  obtain ⟨rfl, hK, hW⟩ := hv
  have hx := B.exec
  have hb := B.bytes
  have hr := B.returns
  have hts := atoms_spec (ws := wsO yX9_letterHere cX9_letterHere 2 (some .int)) B.pre
  have hT : ∀ w ∈ TB, w.before [rr G u0, .int u1].toArray s = true := fun w hw => hts w (List.mem_cons_of_mem _ hw)
  have hown : s.vm.findClass RX9 = some m.cls := findClass_of_methodNamed B.named
  have hlocks := B.notSynchronized
  have CF : CallFix p m c cX9_letterHere 2 s [rr G u0, .int u1].toArray TB RX9 := ⟨hx, hb, hml, hown, hT⟩
  have hS : va_S (WA G) s.heap s.heap [] := va_S.rf
  have hl : lv_has (lg_sl ([rr G u0, .int u1]) ++ List.replicate (2 - (lg_sl ([rr G u0, .int u1])).length) Slot.unset).toArray 2 [(0, rr G u0), (1, .int u1)] := by cases u0 <;> exact lv_entry _ (Nat.le_of_ble_eq_true rfl)
  rw [lg_entry_eq]
  generalize (lg_sl ([rr G u0, .int u1]) ++ List.replicate (2 - (lg_sl ([rr G u0, .int u1])).length) Slot.unset).toArray = ls at hl ⊢
  refine s_aload_n hx hb dX9_letterHere_0 rfl (lv_at hl 0 rfl) ?_
  obtain ⟨x1, hx1, hE⟩ := bd hE
  refine s_gI hx hb hT u_X9 hown hK hW hx1 rfl (by decide) fl_X9_66 rfl dX9_letterHere_1 ?_
  refine lv_iconst (v := (2 : Int32)) hx hb dX9_letterHere_4 (by decide) ?_
  refine lv_icmp_eq (tgt := 16) hx hb dX9_letterHere_5 (by decide) (fun q2 => ?_) (fun q2 => ?_)
  · replace hE := ite_t q2 hE
    refine s_aload_n hx hb dX9_letterHere_16 rfl (lv_at hl 0 rfl) ?_
    obtain ⟨x3, hx3, hE⟩ := bd hE
    refine s_gJ hx hb hT u_X9 hown hK hW hx3 rfl (by decide) fl_X9_56 rfl dX9_letterHere_17 ?_
    refine lv_iload_n hx hb dX9_letterHere_20 rfl (lv_at hl 1 rfl) ?_
    refine lv_i2l (v := (Int32.toInt64 u1)) hx hb dX9_letterHere_21 rfl ?_
    refine W.lcmp hx hb dX9_letterHere_22 ?_
    refine lv_if_le (tgt := 34) hx hb dX9_letterHere_23 (by decide) (fun q4 => ?_) (fun q4 => ?_)
    · replace hE := ite_t q4 hE
      refine s_aload_n hx hb dX9_letterHere_34 rfl (lv_at hl 0 rfl) ?_
      obtain ⟨x5, hx5, hE⟩ := bd hE
      refine s_gJ hx hb hT u_X9 hown hK hW hx5 rfl (by decide) fl_X9_56 rfl dX9_letterHere_35 ?_
      refine lv_l2i (v := (Int64.toInt32 x5)) hx hb dX9_letterHere_38 rfl ?_
      refine lv_iconst (v := (1 : Int32)) hx hb dX9_letterHere_39 (by decide) ?_
      refine lv_isub hx hb dX9_letterHere_40 ?_
      obtain ⟨rfl, rfl⟩ := so2 hE
      exact s_iret hx hb hr hlocks hW hS dX9_letterHere_41
    · replace hE := ite_f q4 hE
      refine s_aload_n hx hb dX9_letterHere_26 rfl (lv_at hl 0 rfl) ?_
      refine lv_iconst (v := (2 : Int32)) hx hb dX9_letterHere_27 (by decide) ?_
      obtain ⟨c6, hE⟩ := ck hE
      obtain ⟨x7, f8, hx7, hE⟩ := bd2_of hE
      refine s_callV (As := [.int (2 : Int32)]) (rest := []) CF hK hW hS (S_X9_fail l G F hx7) c6 rfl gv_X9_81 hd_X9_fail ⟨Nat.le_of_ble_eq_true rfl, Nat.le_of_ble_eq_true rfl⟩ rfl hl.1 rfl (Nat.le_of_ble_eq_true rfl) dX9_letterHere_28 ⟨Nat.le_refl _, Nat.le_refl _⟩ (fun H locs hW hS => ?_)
      refine lv_pop hx hb dX9_letterHere_31 rfl ?_
      refine lv_iconst (v := (-1 : Int32)) hx hb dX9_letterHere_32 (by decide) ?_
      obtain ⟨rfl, rfl⟩ := so2 hE
      exact s_iret hx hb hr hlocks hW hS dX9_letterHere_33
  · replace hE := ite_f q2 hE
    refine s_aload_n hx hb dX9_letterHere_8 rfl (lv_at hl 0 rfl) ?_
    refine lv_iconst (v := (1 : Int32)) hx hb dX9_letterHere_9 (by decide) ?_
    obtain ⟨c9, hE⟩ := ck hE
    obtain ⟨x10, f11, hx10, hE⟩ := bd2_of hE
    refine s_callV (As := [.int (1 : Int32)]) (rest := []) CF hK hW hS (S_X9_fail l G F hx10) c9 rfl gv_X9_81 hd_X9_fail ⟨Nat.le_of_ble_eq_true rfl, Nat.le_of_ble_eq_true rfl⟩ rfl hl.1 rfl (Nat.le_of_ble_eq_true rfl) dX9_letterHere_10 ⟨Nat.le_refl _, Nat.le_refl _⟩ (fun H locs hW hS => ?_)
    refine lv_pop hx hb dX9_letterHere_13 rfl ?_
    refine lv_iconst (v := (-1 : Int32)) hx hb dX9_letterHere_14 (by decide) ?_
    obtain ⟨rfl, rfl⟩ := so2 hE
    exact s_iret hx hb hr hlocks hW hS dX9_letterHere_15
set_option maxHeartbeats 4000000 in
set_option maxRecDepth 100000 in
theorem S_X5_readPair (l : Launch) (G : GG) (F : Nat) {u0 : Option Nat} {f : Hp} {r : Int32} {f' : Hp} {n : Nat} (hE : m_X5_readPair F u0 f = some (r, f')) : Ctr l G yX5_readPair cX5_readPair 1 (some .boolean) 3 70 [rr G u0] f n (some (.int r)) f' n 0 0 := by
  refine Met.ofW (cc := cX5_readPair) (maxL := 1) (ret := (some .boolean)) (by decide) rfl ?_
  intro p e s m args below meth c s₁ B hml hv
  obtain ⟨rfl, hK, hW⟩ := hv
  have hx := B.exec
  have hb := B.bytes
  have hr := B.returns
  have hts := atoms_spec (ws := wsO yX5_readPair cX5_readPair 1 (some .boolean)) B.pre
  have hT : ∀ w ∈ TB, w.before [rr G u0].toArray s = true := fun w hw => hts w (List.mem_cons_of_mem _ hw)
  have hown : s.vm.findClass RX5 = some m.cls := findClass_of_methodNamed B.named
  have hlocks := B.notSynchronized
  have CF : CallFix p m c cX5_readPair 1 s [rr G u0].toArray TB RX5 := ⟨hx, hb, hml, hown, hT⟩
  have hS : va_S (WA G) s.heap s.heap [] := va_S.rf
  have hl : lv_has (lg_sl ([rr G u0]) ++ List.replicate (1 - (lg_sl ([rr G u0])).length) Slot.unset).toArray 1 [(0, rr G u0)] := by cases u0 <;> exact lv_entry _ (Nat.le_of_ble_eq_true rfl)
  rw [lg_entry_eq]
  generalize (lg_sl ([rr G u0]) ++ List.replicate (1 - (lg_sl ([rr G u0])).length) Slot.unset).toArray = ls at hl ⊢
  refine s_aload_n hx hb dX5_readPair_0 rfl (lv_at hl 0 rfl) ?_
  refine s_aload_n hx hb dX5_readPair_1 rfl (lv_at hl 0 rfl) ?_
  obtain ⟨x1, hx1, hE⟩ := bd hE
  refine s_gR hx hb hT u_X5 hown hK hW hx1 rfl (by decide) fl_X5_9 rfl dX5_readPair_2 ?_
  refine s_aload_n hx hb dX5_readPair_5 rfl (lv_at hl 0 rfl) ?_
  obtain ⟨x2, hx2, hE⟩ := bd hE
  refine s_gR hx hb hT u_X5 hown hK hW hx2 rfl (by decide) fl_X5_15 rfl dX5_readPair_6 ?_
  obtain ⟨x3, hx3, hE⟩ := bd hE
  refine s_gI hx hb hT u_X4 hown hK hW hx3 rfl (by decide) fl_X5_89 rfl dX5_readPair_9 ?_
  obtain ⟨c4, hE⟩ := ck hE
  obtain ⟨x5, f6, hx5, hE⟩ := bd2_of hE
  refine s_callV (As := [.int x3]) (rest := [rr G u0]) CF hK hW hS (S_X9_letterHere l G F hx5) c4 rfl gv_X5_180 hd_X9_letterHere ⟨Nat.le_of_ble_eq_true rfl, Nat.le_of_ble_eq_true rfl⟩ rfl hl.1 rfl (Nat.le_of_ble_eq_true rfl) dX5_readPair_12 ⟨Nat.le_refl _, Nat.le_refl _⟩ (fun H locs hW hS => ?_)
  obtain ⟨f7, hf7, hE⟩ := bd hE
  refine s_putI hx hb hT u_X5 tyX5 tyX5_ok nmX5 hown hK hW hS hf7 rfl (by decide) fl_X5_156 rfl (Or.inl rfl) rfl dX5_readPair_15 (fun H locs hW hS => ?_)
  refine s_aload_n hx hb dX5_readPair_18 rfl (lv_at hl 0 rfl) ?_
  obtain ⟨x8, hx8, hE⟩ := bd hE
  refine s_gI hx hb hT u_X5 hown hK hW hx8 rfl (by decide) fl_X5_156 rfl dX5_readPair_19 ?_
  refine lv_iconst (v := (-1 : Int32)) hx hb dX5_readPair_22 (by decide) ?_
  refine lv_icmp_ne (tgt := 28) hx hb dX5_readPair_23 (by decide) (fun q9 => ?_) (fun q9 => ?_)
  · replace hE := ite_f q9 hE
    refine s_aload_n hx hb dX5_readPair_28 rfl (lv_at hl 0 rfl) ?_
    obtain ⟨x10, hx10, hE⟩ := bd hE
    refine s_gR hx hb hT u_X5 hown hK hW hx10 rfl (by decide) fl_X5_9 rfl dX5_readPair_29 ?_
    obtain ⟨c11, hE⟩ := ck hE
    obtain ⟨f12, hf12, hE⟩ := bd hE
    refine s_callV (As := []) (rest := []) CF hK hW hS (S_X9_advance l G F hf12) c11 rfl gv_X5_82 hd_X9_advance ⟨Nat.le_of_ble_eq_true rfl, Nat.le_of_ble_eq_true rfl⟩ rfl hl.1 rfl (Nat.le_of_ble_eq_true rfl) dX5_readPair_32 ⟨Nat.le_refl _, Nat.le_refl _⟩ (fun H locs hW hS => ?_)
    refine s_aload_n hx hb dX5_readPair_35 rfl (lv_at hl 0 rfl) ?_
    refine s_aload_n hx hb dX5_readPair_36 rfl (lv_at hl 0 rfl) ?_
    obtain ⟨x13, hx13, hE⟩ := bd hE
    refine s_gR hx hb hT u_X5 hown hK hW hx13 rfl (by decide) fl_X5_9 rfl dX5_readPair_37 ?_
    refine s_aload_n hx hb dX5_readPair_40 rfl (lv_at hl 0 rfl) ?_
    obtain ⟨x14, hx14, hE⟩ := bd hE
    refine s_gR hx hb hT u_X5 hown hK hW hx14 rfl (by decide) fl_X5_15 rfl dX5_readPair_41 ?_
    obtain ⟨x15, hx15, hE⟩ := bd hE
    refine s_gI hx hb hT u_X4 hown hK hW hx15 rfl (by decide) fl_X5_89 rfl dX5_readPair_44 ?_
    obtain ⟨c16, hE⟩ := ck hE
    obtain ⟨x17, f18, hx17, hE⟩ := bd2_of hE
    refine s_callV (As := [.int x15]) (rest := [rr G u0]) CF hK hW hS (S_X9_letterHere l G F hx17) c16 rfl gv_X5_180 hd_X9_letterHere ⟨Nat.le_of_ble_eq_true rfl, Nat.le_of_ble_eq_true rfl⟩ rfl hl.1 rfl (Nat.le_of_ble_eq_true rfl) dX5_readPair_47 ⟨Nat.le_refl _, Nat.le_refl _⟩ (fun H locs hW hS => ?_)
    obtain ⟨f19, hf19, hE⟩ := bd hE
    refine s_putI hx hb hT u_X5 tyX5 tyX5_ok nmX5 hown hK hW hS hf19 rfl (by decide) fl_X5_159 rfl (Or.inl rfl) rfl dX5_readPair_50 (fun H locs hW hS => ?_)
    refine s_aload_n hx hb dX5_readPair_53 rfl (lv_at hl 0 rfl) ?_
    obtain ⟨x20, hx20, hE⟩ := bd hE
    refine s_gI hx hb hT u_X5 hown hK hW hx20 rfl (by decide) fl_X5_159 rfl dX5_readPair_54 ?_
    refine lv_iconst (v := (-1 : Int32)) hx hb dX5_readPair_57 (by decide) ?_
    refine lv_icmp_ne (tgt := 63) hx hb dX5_readPair_58 (by decide) (fun q21 => ?_) (fun q21 => ?_)
    · replace hE := ite_f q21 hE
      refine s_aload_n hx hb dX5_readPair_63 rfl (lv_at hl 0 rfl) ?_
      obtain ⟨x22, hx22, hE⟩ := bd hE
      refine s_gI hx hb hT u_X5 hown hK hW hx22 rfl (by decide) fl_X5_156 rfl dX5_readPair_64 ?_
      refine s_aload_n hx hb dX5_readPair_67 rfl (lv_at hl 0 rfl) ?_
      obtain ⟨x23, hx23, hE⟩ := bd hE
      refine s_gI hx hb hT u_X5 hown hK hW hx23 rfl (by decide) fl_X5_159 rfl dX5_readPair_68 ?_
      refine lv_icmp_ne (tgt := 85) hx hb dX5_readPair_71 (by decide) (fun q24 => ?_) (fun q24 => ?_)
      · replace hE := ite_f q24 hE
        refine lv_iconst (v := (1 : Int32)) hx hb dX5_readPair_85 (by decide) ?_
        refine lv_goto (tgt := 90) hx hb dX5_readPair_86 (by decide) ?_
        obtain ⟨c25, hE⟩ := ck hE
        obtain ⟨rfl, rfl⟩ := so2 hE
        exact s_zret hx hb hr c25 hlocks hW hS dX5_readPair_90
      · replace hE := ite_t q24 hE
        refine s_aload_n hx hb dX5_readPair_74 rfl (lv_at hl 0 rfl) ?_
        obtain ⟨x26, hx26, hE⟩ := bd hE
        refine s_gR hx hb hT u_X5 hown hK hW hx26 rfl (by decide) fl_X5_9 rfl dX5_readPair_75 ?_
        refine lv_iconst (v := (3 : Int32)) hx hb dX5_readPair_78 (by decide) ?_
        obtain ⟨c27, hE⟩ := ck hE
        obtain ⟨x28, f29, hx28, hE⟩ := bd2_of hE
        refine s_callV (As := [.int (3 : Int32)]) (rest := []) CF hK hW hS (S_X9_fail l G F hx28) c27 rfl gv_X5_79 hd_X9_fail ⟨Nat.le_of_ble_eq_true rfl, Nat.le_of_ble_eq_true rfl⟩ rfl hl.1 rfl (Nat.le_of_ble_eq_true rfl) dX5_readPair_79 ⟨Nat.le_refl _, Nat.le_refl _⟩ (fun H locs hW hS => ?_)
        refine lv_if_eq (tgt := 89) hx hb dX5_readPair_82 (by decide) (fun q30 => ?_) (fun q30 => ?_)
        · replace hE := ite_t q30 hE
          refine lv_iconst (v := (0 : Int32)) hx hb dX5_readPair_89 (by decide) ?_
          obtain ⟨c31, hE⟩ := ck hE
          obtain ⟨rfl, rfl⟩ := so2 hE
          exact s_zret hx hb hr c31 hlocks hW hS dX5_readPair_90
        · replace hE := ite_f q30 hE
          refine lv_iconst (v := (1 : Int32)) hx hb dX5_readPair_85 (by decide) ?_
          refine lv_goto (tgt := 90) hx hb dX5_readPair_86 (by decide) ?_
          obtain ⟨c32, hE⟩ := ck hE
          obtain ⟨rfl, rfl⟩ := so2 hE
          exact s_zret hx hb hr c32 hlocks hW hS dX5_readPair_90
    · replace hE := ite_t q21 hE
      refine lv_iconst (v := (0 : Int32)) hx hb dX5_readPair_61 (by decide) ?_
      obtain ⟨c33, hE⟩ := ck hE
      obtain ⟨rfl, rfl⟩ := so2 hE
      exact s_zret hx hb hr c33 hlocks hW hS dX5_readPair_62
  · replace hE := ite_t q9 hE
    refine lv_iconst (v := (0 : Int32)) hx hb dX5_readPair_26 (by decide) ?_
    obtain ⟨c34, hE⟩ := ck hE
    obtain ⟨rfl, rfl⟩ := so2 hE
    exact s_zret hx hb hr c34 hlocks hW hS dX5_readPair_27
set_option maxHeartbeats 4000000 in
set_option maxRecDepth 100000 in
theorem S_X4_hasSense (l : Launch) (G : GG) (F : Nat) {u0 : Option Nat} {u1 : Int32} {u2 : Int32} {f : Hp} {r : Int32} {n : Nat} (hE : m_X4_hasSense F u0 u1 u2 f = some r) : Ctr l G yX4_hasSense cX4_hasSense 4 (some .boolean) 0 0 [rr G u0, .int u1, .int u2] f n (some (.int r)) f n 0 0 := by
  refine Met.ofW (cc := cX4_hasSense) (maxL := 4) (ret := (some .boolean)) (by decide) rfl ?_
  intro p e s m args below meth c s₁ B hml hv
  obtain ⟨rfl, hK, hW⟩ := hv
  have hx := B.exec
  have hb := B.bytes
  have hr := B.returns
  have hts := atoms_spec (ws := wsO yX4_hasSense cX4_hasSense 4 (some .boolean)) B.pre
  have hT : ∀ w ∈ TB, w.before [rr G u0, .int u1, .int u2].toArray s = true := fun w hw => hts w (List.mem_cons_of_mem _ hw)
  have hown : s.vm.findClass RX4 = some m.cls := findClass_of_methodNamed B.named
  have hlocks := B.notSynchronized
  have CF : CallFix p m c cX4_hasSense 4 s [rr G u0, .int u1, .int u2].toArray TB RX4 := ⟨hx, hb, hml, hown, hT⟩
  have hS : va_S (WA G) s.heap s.heap [] := va_S.rf
  have hl : lv_has (lg_sl ([rr G u0, .int u1, .int u2]) ++ List.replicate (4 - (lg_sl ([rr G u0, .int u1, .int u2])).length) Slot.unset).toArray 4 [(0, rr G u0), (1, .int u1), (2, .int u2)] := by cases u0 <;> exact lv_entry _ (Nat.le_of_ble_eq_true rfl)
  rw [lg_entry_eq]
  generalize (lg_sl ([rr G u0, .int u1, .int u2]) ++ List.replicate (4 - (lg_sl ([rr G u0, .int u1, .int u2])).length) Slot.unset).toArray = ls at hl ⊢
  have hC2 : ∀ (k2 : Nat), ∀ (v0 : Option Nat) (v1 : Int32) (v2 : Int32) (v3 : Int32) (H : Heap) (locs : List Loc) (ls : Array Slot), m_X4_hasSense_L2 F k2 v0 v1 v2 v3 f = some r → Wd G f n H → va_S (WA G) s.heap H locs → lv_has ls 4 [(0, rr G v0), (1, .int v1), (2, .int v2), (3, .int v3)] → W p l e (headSpec (wsO yX4_hasSense cX4_hasSense 4 (some .boolean)) { frames := 0, cells := 0, slots := 0, locals := 0 }).room s m [rr G u0, .int u1, .int u2].toArray below meth c H locs 0 0 (MQ below (Qcn G (some (.int r)) f n) [rr G u0, .int u1, .int u2].toArray s 0 0 (WA G)) (F0 m 2 ls []) := by
    intro k2
    induction k2 with
    | zero => intro v0 v1 v2 v3 H locs ls hE _ _ _; cases (show (none : Option Int32) = some r from hE)
    | succ k2 ih2 =>
      intro v0 v1 v2 v3 H locs ls hE hW hS hl
      replace hE : m_X4_hasSense_b2 F (m_X4_hasSense_L2 F k2) v0 v1 v2 v3 f = some r := hE
      refine lv_iload_n hx hb dX4_hasSense_2 rfl (lv_at hl 3 rfl) ?_
      refine s_aload_n hx hb dX4_hasSense_3 rfl (lv_at hl 0 rfl) ?_
      obtain ⟨x1, hx1, hE⟩ := bd hE
      refine s_gI hx hb hT u_X4 hown hK hW hx1 rfl (by decide) fl_X4_61 rfl dX4_hasSense_4 ?_
      refine lv_icmp_ge (tgt := 44) hx hb dX4_hasSense_7 (by decide) (fun q2 => ?_) (fun q2 => ?_)
      · replace hE := ite_t q2 hE
        refine lv_iconst (v := (0 : Int32)) hx hb dX4_hasSense_44 (by decide) ?_
        obtain ⟨c3, hE⟩ := ck hE
        obtain rfl := so1 hE
        exact s_zret hx hb hr c3 hlocks hW hS dX4_hasSense_45
      · replace hE := ite_f q2 hE
        refine lv_iload_n hx hb dX4_hasSense_10 rfl (lv_at hl 3 rfl) ?_
        refine lv_bipush (v := (12 : Int32)) hx hb dX4_hasSense_11 (by decide) ?_
        refine lv_icmp_ge (tgt := 44) hx hb dX4_hasSense_13 (by decide) (fun q4 => ?_) (fun q4 => ?_)
        · replace hE := ite_t q4 hE
          refine lv_iconst (v := (0 : Int32)) hx hb dX4_hasSense_44 (by decide) ?_
          obtain ⟨c5, hE⟩ := ck hE
          obtain rfl := so1 hE
          exact s_zret hx hb hr c5 hlocks hW hS dX4_hasSense_45
        · replace hE := ite_f q4 hE
          refine s_aload_n hx hb dX4_hasSense_16 rfl (lv_at hl 0 rfl) ?_
          obtain ⟨x6, hx6, hE⟩ := bd hE
          refine s_gR hx hb hT u_X4 hown hK hW hx6 rfl (by decide) fl_X4_31 rfl dX4_hasSense_17 ?_
          refine lv_iload_n hx hb dX4_hasSense_20 rfl (lv_at hl 3 rfl) ?_
          obtain ⟨x7, hx7, hE⟩ := bd hE
          refine s_ldI hx hb hK hW hS hx7 dX4_hasSense_21 ?_
          refine lv_iload_n hx hb dX4_hasSense_22 rfl (lv_at hl 1 rfl) ?_
          refine lv_icmp_ne (tgt := 38) hx hb dX4_hasSense_23 (by decide) (fun q8 => ?_) (fun q8 => ?_)
          · replace hE := ite_f q8 hE
            obtain ⟨y9, ey9⟩ : ∃ y : Int32, y = v3 + (1 : Int32) := ⟨_, rfl⟩
            replace hE := nm_o ey9 hE
            refine lv_iinc (k := 3) (v := y9) (lv' := [(3, .int y9), (0, rr G v0), (1, .int v1), (2, .int v2)]) hx hb dX4_hasSense_38 hl rfl (by rw [ey9]; rfl) (by decide) rfl (fun ls hl => ?_)
            refine lv_goto (tgt := 2) hx hb dX4_hasSense_41 (by decide) ?_
            exact ih2 _ _ _ _ _ _ _ hE hW hS (lv_sub hl [1, 2, 3, 0] rfl)
          · replace hE := ite_t q8 hE
            refine s_aload_n hx hb dX4_hasSense_26 rfl (lv_at hl 0 rfl) ?_
            obtain ⟨x10, hx10, hE⟩ := bd hE
            refine s_gR hx hb hT u_X4 hown hK hW hx10 rfl (by decide) fl_X4_34 rfl dX4_hasSense_27 ?_
            refine lv_iload_n hx hb dX4_hasSense_30 rfl (lv_at hl 3 rfl) ?_
            obtain ⟨x11, hx11, hE⟩ := bd hE
            refine s_ldI hx hb hK hW hS hx11 dX4_hasSense_31 ?_
            refine lv_iload_n hx hb dX4_hasSense_32 rfl (lv_at hl 2 rfl) ?_
            refine lv_icmp_ne (tgt := 38) hx hb dX4_hasSense_33 (by decide) (fun q12 => ?_) (fun q12 => ?_)
            · replace hE := ite_f q12 hE
              obtain ⟨y13, ey13⟩ : ∃ y : Int32, y = v3 + (1 : Int32) := ⟨_, rfl⟩
              replace hE := nm_o ey13 hE
              refine lv_iinc (k := 3) (v := y13) (lv' := [(3, .int y13), (0, rr G v0), (1, .int v1), (2, .int v2)]) hx hb dX4_hasSense_38 hl rfl (by rw [ey13]; rfl) (by decide) rfl (fun ls hl => ?_)
              refine lv_goto (tgt := 2) hx hb dX4_hasSense_41 (by decide) ?_
              exact ih2 _ _ _ _ _ _ _ hE hW hS (lv_sub hl [1, 2, 3, 0] rfl)
            · replace hE := ite_t q12 hE
              refine lv_iconst (v := (1 : Int32)) hx hb dX4_hasSense_36 (by decide) ?_
              obtain ⟨c14, hE⟩ := ck hE
              obtain rfl := so1 hE
              exact s_zret hx hb hr c14 hlocks hW hS dX4_hasSense_37
  refine lv_iconst (v := (0 : Int32)) hx hb dX4_hasSense_0 (by decide) ?_
  refine lv_istore_n (i := 3) (lv' := [(3, .int (0 : Int32)), (0, rr G u0), (1, .int u1), (2, .int u2)]) hx hb dX4_hasSense_1 rfl hl (by decide) rfl (fun ls hl => ?_)
  exact hC2 F _ _ _ _ _ _ _ hE hW hS (lv_sub hl [1, 2, 3, 0] rfl)
set_option maxHeartbeats 4000000 in
set_option maxRecDepth 100000 in
theorem S_X4_putSense (l : Launch) (G : GG) (F : Nat) {u0 : Option Nat} {u1 : Int32} {u2 : Int32} {f : Hp} {f' : Hp} {n : Nat} (hE : m_X4_putSense F u0 u1 u2 f = some f') : Ctr l G yX4_putSense cX4_putSense 3 none 0 0 [rr G u0, .int u1, .int u2] f n none f' n 0 0 := by
  refine Met.ofW (cc := cX4_putSense) (maxL := 3) (ret := none) (by decide) rfl ?_
  intro p e s m args below meth c s₁ B hml hv
  obtain ⟨rfl, hK, hW⟩ := hv
  have hx := B.exec
  have hb := B.bytes
  have hr := B.returns
  have hts := atoms_spec (ws := wsO yX4_putSense cX4_putSense 3 none) B.pre
  have hT : ∀ w ∈ TB, w.before [rr G u0, .int u1, .int u2].toArray s = true := fun w hw => hts w (List.mem_cons_of_mem _ hw)
  have hown : s.vm.findClass RX4 = some m.cls := findClass_of_methodNamed B.named
  have hlocks := B.notSynchronized
  have CF : CallFix p m c cX4_putSense 3 s [rr G u0, .int u1, .int u2].toArray TB RX4 := ⟨hx, hb, hml, hown, hT⟩
  have hS : va_S (WA G) s.heap s.heap [] := va_S.rf
  have hl : lv_has (lg_sl ([rr G u0, .int u1, .int u2]) ++ List.replicate (3 - (lg_sl ([rr G u0, .int u1, .int u2])).length) Slot.unset).toArray 3 [(0, rr G u0), (1, .int u1), (2, .int u2)] := by cases u0 <;> exact lv_entry _ (Nat.le_of_ble_eq_true rfl)
  rw [lg_entry_eq]
  generalize (lg_sl ([rr G u0, .int u1, .int u2]) ++ List.replicate (3 - (lg_sl ([rr G u0, .int u1, .int u2])).length) Slot.unset).toArray = ls at hl ⊢
  refine s_aload_n hx hb dX4_putSense_0 rfl (lv_at hl 0 rfl) ?_
  obtain ⟨x1, hx1, hE⟩ := bd hE
  refine s_gI hx hb hT u_X4 hown hK hW hx1 rfl (by decide) fl_X4_61 rfl dX4_putSense_1 ?_
  refine lv_bipush (v := (12 : Int32)) hx hb dX4_putSense_4 (by decide) ?_
  refine lv_icmp_ge (tgt := 39) hx hb dX4_putSense_6 (by decide) (fun q2 => ?_) (fun q2 => ?_)
  · replace hE := ite_t q2 hE
    obtain rfl := so1 hE
    exact s_vret hx hb hr hlocks hW hS dX4_putSense_39
  · replace hE := ite_f q2 hE
    refine s_aload_n hx hb dX4_putSense_9 rfl (lv_at hl 0 rfl) ?_
    obtain ⟨x3, hx3, hE⟩ := bd hE
    refine s_gR hx hb hT u_X4 hown hK hW hx3 rfl (by decide) fl_X4_31 rfl dX4_putSense_10 ?_
    refine s_aload_n hx hb dX4_putSense_13 rfl (lv_at hl 0 rfl) ?_
    obtain ⟨x4, hx4, hE⟩ := bd hE
    refine s_gI hx hb hT u_X4 hown hK hW hx4 rfl (by decide) fl_X4_61 rfl dX4_putSense_14 ?_
    refine lv_iload_n hx hb dX4_putSense_17 rfl (lv_at hl 1 rfl) ?_
    obtain ⟨f5, hf5, hE⟩ := bd hE
    refine s_stI hx hb hK hW hS hf5 dX4_putSense_18 (fun H locs hW hS => ?_)
    refine s_aload_n hx hb dX4_putSense_19 rfl (lv_at hl 0 rfl) ?_
    obtain ⟨x6, hx6, hE⟩ := bd hE
    refine s_gR hx hb hT u_X4 hown hK hW hx6 rfl (by decide) fl_X4_34 rfl dX4_putSense_20 ?_
    refine s_aload_n hx hb dX4_putSense_23 rfl (lv_at hl 0 rfl) ?_
    obtain ⟨x7, hx7, hE⟩ := bd hE
    refine s_gI hx hb hT u_X4 hown hK hW hx7 rfl (by decide) fl_X4_61 rfl dX4_putSense_24 ?_
    refine lv_iload_n hx hb dX4_putSense_27 rfl (lv_at hl 2 rfl) ?_
    obtain ⟨f8, hf8, hE⟩ := bd hE
    refine s_stI hx hb hK hW hS hf8 dX4_putSense_28 (fun H locs hW hS => ?_)
    refine s_aload_n hx hb dX4_putSense_29 rfl (lv_at hl 0 rfl) ?_
    refine lv_dup hx hb dX4_putSense_30 (cat_rr G _) ?_
    obtain ⟨x9, hx9, hE⟩ := bd hE
    refine s_gI hx hb hT u_X4 hown hK hW hx9 rfl (by decide) fl_X4_61 rfl dX4_putSense_31 ?_
    refine lv_iconst (v := (1 : Int32)) hx hb dX4_putSense_34 (by decide) ?_
    refine lv_iadd hx hb dX4_putSense_35 ?_
    obtain ⟨f10, hf10, hE⟩ := bd hE
    refine s_putI hx hb hT u_X4 tyX4 tyX4_ok nmX4 hown hK hW hS hf10 rfl (by decide) fl_X4_61 rfl (Or.inl rfl) rfl dX4_putSense_36 (fun H locs hW hS => ?_)
    obtain rfl := so1 hE
    exact s_vret hx hb hr hlocks hW hS dX4_putSense_39
set_option maxHeartbeats 4000000 in
set_option maxRecDepth 100000 in
theorem S_X5_readSense (l : Launch) (G : GG) (F : Nat) {u0 : Option Nat} {f : Hp} {r : Int32} {f' : Hp} {n : Nat} (hE : m_X5_readSense F u0 f = some (r, f')) : Ctr l G yX5_readSense cX5_readSense 1 (some .boolean) 4 90 [rr G u0] f n (some (.int r)) f' n 0 0 := by
  refine Met.ofW (cc := cX5_readSense) (maxL := 1) (ret := (some .boolean)) (by decide) rfl ?_
  intro p e s m args below meth c s₁ B hml hv
  obtain ⟨rfl, hK, hW⟩ := hv
  have hx := B.exec
  have hb := B.bytes
  have hr := B.returns
  have hts := atoms_spec (ws := wsO yX5_readSense cX5_readSense 1 (some .boolean)) B.pre
  have hT : ∀ w ∈ TB, w.before [rr G u0].toArray s = true := fun w hw => hts w (List.mem_cons_of_mem _ hw)
  have hown : s.vm.findClass RX5 = some m.cls := findClass_of_methodNamed B.named
  have hlocks := B.notSynchronized
  have CF : CallFix p m c cX5_readSense 1 s [rr G u0].toArray TB RX5 := ⟨hx, hb, hml, hown, hT⟩
  have hS : va_S (WA G) s.heap s.heap [] := va_S.rf
  have hl : lv_has (lg_sl ([rr G u0]) ++ List.replicate (1 - (lg_sl ([rr G u0])).length) Slot.unset).toArray 1 [(0, rr G u0)] := by cases u0 <;> exact lv_entry _ (Nat.le_of_ble_eq_true rfl)
  rw [lg_entry_eq]
  generalize (lg_sl ([rr G u0]) ++ List.replicate (1 - (lg_sl ([rr G u0])).length) Slot.unset).toArray = ls at hl ⊢
  refine s_aload_n hx hb dX5_readSense_0 rfl (lv_at hl 0 rfl) ?_
  obtain ⟨x1, hx1, hE⟩ := bd hE
  refine s_gR hx hb hT u_X5 hown hK hW hx1 rfl (by decide) fl_X5_15 rfl dX5_readSense_1 ?_
  obtain ⟨x2, hx2, hE⟩ := bd hE
  refine s_gI hx hb hT u_X4 hown hK hW hx2 rfl (by decide) fl_X5_150 rfl dX5_readSense_4 ?_
  refine lv_bipush (v := (12 : Int32)) hx hb dX5_readSense_7 (by decide) ?_
  refine lv_icmp_lt (tgt := 21) hx hb dX5_readSense_9 (by decide) (fun q3 => ?_) (fun q3 => ?_)
  · replace hE := ite_t q3 hE
    refine s_aload_n hx hb dX5_readSense_21 rfl (lv_at hl 0 rfl) ?_
    obtain ⟨x4, hx4, hE⟩ := bd hE
    refine s_gR hx hb hT u_X5 hown hK hW hx4 rfl (by decide) fl_X5_9 rfl dX5_readSense_22 ?_
    obtain ⟨c5, hE⟩ := ck hE
    obtain ⟨f6, hf6, hE⟩ := bd hE
    refine s_callV (As := []) (rest := []) CF hK hW hS (S_X9_advance l G F hf6) c5 rfl gv_X5_82 hd_X9_advance ⟨Nat.le_of_ble_eq_true rfl, Nat.le_of_ble_eq_true rfl⟩ rfl hl.1 rfl (Nat.le_of_ble_eq_true rfl) dX5_readSense_25 ⟨Nat.le_refl _, Nat.le_refl _⟩ (fun H locs hW hS => ?_)
    refine s_aload_n hx hb dX5_readSense_28 rfl (lv_at hl 0 rfl) ?_
    obtain ⟨c7, hE⟩ := ck hE
    obtain ⟨x8, f9, hx8, hE⟩ := bd2_of hE
    refine s_callV (As := []) (rest := []) CF hK hW hS (S_X5_readPair l G F hx8) c7 rfl gv_X5_153 hd_X5_readPair ⟨Nat.le_of_ble_eq_true rfl, Nat.le_of_ble_eq_true rfl⟩ rfl hl.1 rfl (Nat.le_of_ble_eq_true rfl) dX5_readSense_29 ⟨Nat.le_refl _, Nat.le_refl _⟩ (fun H locs hW hS => ?_)
    refine lv_if_ne (tgt := 37) hx hb dX5_readSense_32 (by decide) (fun q10 => ?_) (fun q10 => ?_)
    · replace hE := ite_f q10 hE
      refine s_aload_n hx hb dX5_readSense_37 rfl (lv_at hl 0 rfl) ?_
      obtain ⟨x11, hx11, hE⟩ := bd hE
      refine s_gR hx hb hT u_X5 hown hK hW hx11 rfl (by decide) fl_X5_15 rfl dX5_readSense_38 ?_
      refine s_aload_n hx hb dX5_readSense_41 rfl (lv_at hl 0 rfl) ?_
      obtain ⟨x12, hx12, hE⟩ := bd hE
      refine s_gI hx hb hT u_X5 hown hK hW hx12 rfl (by decide) fl_X5_156 rfl dX5_readSense_42 ?_
      refine s_aload_n hx hb dX5_readSense_45 rfl (lv_at hl 0 rfl) ?_
      obtain ⟨x13, hx13, hE⟩ := bd hE
      refine s_gI hx hb hT u_X5 hown hK hW hx13 rfl (by decide) fl_X5_159 rfl dX5_readSense_46 ?_
      obtain ⟨c14, hE⟩ := ck hE
      obtain ⟨x15, hx15, hE⟩ := bd hE
      refine s_callV (As := [.int x12, .int x13]) (rest := []) CF hK hW hS (S_X4_hasSense l G F hx15) c14 rfl gv_X5_162 hd_X4_hasSense ⟨Nat.le_of_ble_eq_true rfl, Nat.le_of_ble_eq_true rfl⟩ rfl hl.1 rfl (Nat.le_of_ble_eq_true rfl) dX5_readSense_49 ⟨Nat.le_refl _, Nat.le_refl _⟩ (fun H locs hW hS => ?_)
      refine lv_if_eq (tgt := 64) hx hb dX5_readSense_52 (by decide) (fun q16 => ?_) (fun q16 => ?_)
      · replace hE := ite_t q16 hE
        refine s_aload_n hx hb dX5_readSense_64 rfl (lv_at hl 0 rfl) ?_
        obtain ⟨x17, hx17, hE⟩ := bd hE
        refine s_gR hx hb hT u_X5 hown hK hW hx17 rfl (by decide) fl_X5_15 rfl dX5_readSense_65 ?_
        refine s_aload_n hx hb dX5_readSense_68 rfl (lv_at hl 0 rfl) ?_
        obtain ⟨x18, hx18, hE⟩ := bd hE
        refine s_gI hx hb hT u_X5 hown hK hW hx18 rfl (by decide) fl_X5_156 rfl dX5_readSense_69 ?_
        refine s_aload_n hx hb dX5_readSense_72 rfl (lv_at hl 0 rfl) ?_
        obtain ⟨x19, hx19, hE⟩ := bd hE
        refine s_gI hx hb hT u_X5 hown hK hW hx19 rfl (by decide) fl_X5_159 rfl dX5_readSense_73 ?_
        obtain ⟨c20, hE⟩ := ck hE
        obtain ⟨f21, hf21, hE⟩ := bd hE
        refine s_callV (As := [.int x18, .int x19]) (rest := []) CF hK hW hS (S_X4_putSense l G F hf21) c20 rfl gv_X5_166 hd_X4_putSense ⟨Nat.le_of_ble_eq_true rfl, Nat.le_of_ble_eq_true rfl⟩ rfl hl.1 rfl (Nat.le_of_ble_eq_true rfl) dX5_readSense_76 ⟨Nat.le_refl _, Nat.le_refl _⟩ (fun H locs hW hS => ?_)
        refine s_aload_n hx hb dX5_readSense_79 rfl (lv_at hl 0 rfl) ?_
        obtain ⟨x22, hx22, hE⟩ := bd hE
        refine s_gR hx hb hT u_X5 hown hK hW hx22 rfl (by decide) fl_X5_9 rfl dX5_readSense_80 ?_
        obtain ⟨c23, hE⟩ := ck hE
        obtain ⟨f24, hf24, hE⟩ := bd hE
        refine s_callV (As := []) (rest := []) CF hK hW hS (S_X9_advance l G F hf24) c23 rfl gv_X5_82 hd_X9_advance ⟨Nat.le_of_ble_eq_true rfl, Nat.le_of_ble_eq_true rfl⟩ rfl hl.1 rfl (Nat.le_of_ble_eq_true rfl) dX5_readSense_83 ⟨Nat.le_refl _, Nat.le_refl _⟩ (fun H locs hW hS => ?_)
        refine lv_iconst (v := (1 : Int32)) hx hb dX5_readSense_86 (by decide) ?_
        obtain ⟨c25, hE⟩ := ck hE
        obtain ⟨rfl, rfl⟩ := so2 hE
        exact s_zret hx hb hr c25 hlocks hW hS dX5_readSense_87
      · replace hE := ite_f q16 hE
        refine s_aload_n hx hb dX5_readSense_55 rfl (lv_at hl 0 rfl) ?_
        obtain ⟨x26, hx26, hE⟩ := bd hE
        refine s_gR hx hb hT u_X5 hown hK hW hx26 rfl (by decide) fl_X5_9 rfl dX5_readSense_56 ?_
        refine lv_iconst (v := (3 : Int32)) hx hb dX5_readSense_59 (by decide) ?_
        obtain ⟨c27, hE⟩ := ck hE
        obtain ⟨x28, f29, hx28, hE⟩ := bd2_of hE
        refine s_callV (As := [.int (3 : Int32)]) (rest := []) CF hK hW hS (S_X9_fail l G F hx28) c27 rfl gv_X5_79 hd_X9_fail ⟨Nat.le_of_ble_eq_true rfl, Nat.le_of_ble_eq_true rfl⟩ rfl hl.1 rfl (Nat.le_of_ble_eq_true rfl) dX5_readSense_60 ⟨Nat.le_refl _, Nat.le_refl _⟩ (fun H locs hW hS => ?_)
        obtain ⟨c30, hE⟩ := ck hE
        obtain ⟨rfl, rfl⟩ := so2 hE
        exact s_zret hx hb hr c30 hlocks hW hS dX5_readSense_63
    · replace hE := ite_t q10 hE
      refine lv_iconst (v := (0 : Int32)) hx hb dX5_readSense_35 (by decide) ?_
      obtain ⟨c31, hE⟩ := ck hE
      obtain ⟨rfl, rfl⟩ := so2 hE
      exact s_zret hx hb hr c31 hlocks hW hS dX5_readSense_36
  · replace hE := ite_f q3 hE
    refine s_aload_n hx hb dX5_readSense_12 rfl (lv_at hl 0 rfl) ?_
    obtain ⟨x32, hx32, hE⟩ := bd hE
    refine s_gR hx hb hT u_X5 hown hK hW hx32 rfl (by decide) fl_X5_9 rfl dX5_readSense_13 ?_
    refine lv_iconst (v := (4 : Int32)) hx hb dX5_readSense_16 (by decide) ?_
    obtain ⟨c33, hE⟩ := ck hE
    obtain ⟨x34, f35, hx34, hE⟩ := bd2_of hE
    refine s_callV (As := [.int (4 : Int32)]) (rest := []) CF hK hW hS (S_X9_fail l G F hx34) c33 rfl gv_X5_79 hd_X9_fail ⟨Nat.le_of_ble_eq_true rfl, Nat.le_of_ble_eq_true rfl⟩ rfl hl.1 rfl (Nat.le_of_ble_eq_true rfl) dX5_readSense_17 ⟨Nat.le_refl _, Nat.le_refl _⟩ (fun H locs hW hS => ?_)
    obtain ⟨c36, hE⟩ := ck hE
    obtain ⟨rfl, rfl⟩ := so2 hE
    exact s_zret hx hb hr c36 hlocks hW hS dX5_readSense_20
set_option maxHeartbeats 4000000 in
set_option maxRecDepth 100000 in
theorem S_X4_putRhyme (l : Launch) (G : GG) (F : Nat) {u0 : Option Nat} {u1 : Int32} {u2 : Int32} {u3 : Int32} {f : Hp} {f' : Hp} {n : Nat} (hE : m_X4_putRhyme F u0 u1 u2 u3 f = some f') : Ctr l G yX4_putRhyme cX4_putRhyme 5 none 0 0 [rr G u0, .int u1, .int u2, .int u3] f n none f' n 0 0 := by
  refine Met.ofW (cc := cX4_putRhyme) (maxL := 5) (ret := none) (by decide) rfl ?_
  intro p e s m args below meth c s₁ B hml hv
  obtain ⟨rfl, hK, hW⟩ := hv
  have hx := B.exec
  have hb := B.bytes
  have hr := B.returns
  have hts := atoms_spec (ws := wsO yX4_putRhyme cX4_putRhyme 5 none) B.pre
  have hT : ∀ w ∈ TB, w.before [rr G u0, .int u1, .int u2, .int u3].toArray s = true := fun w hw => hts w (List.mem_cons_of_mem _ hw)
  have hown : s.vm.findClass RX4 = some m.cls := findClass_of_methodNamed B.named
  have hlocks := B.notSynchronized
  have CF : CallFix p m c cX4_putRhyme 5 s [rr G u0, .int u1, .int u2, .int u3].toArray TB RX4 := ⟨hx, hb, hml, hown, hT⟩
  have hS : va_S (WA G) s.heap s.heap [] := va_S.rf
  have hl : lv_has (lg_sl ([rr G u0, .int u1, .int u2, .int u3]) ++ List.replicate (5 - (lg_sl ([rr G u0, .int u1, .int u2, .int u3])).length) Slot.unset).toArray 5 [(0, rr G u0), (1, .int u1), (2, .int u2), (3, .int u3)] := by cases u0 <;> exact lv_entry _ (Nat.le_of_ble_eq_true rfl)
  rw [lg_entry_eq]
  generalize (lg_sl ([rr G u0, .int u1, .int u2, .int u3]) ++ List.replicate (5 - (lg_sl ([rr G u0, .int u1, .int u2, .int u3])).length) Slot.unset).toArray = ls at hl ⊢
  refine lv_iload_n hx hb dX4_putRhyme_0 rfl (lv_at hl 1 rfl) ?_
  refine lv_bipush (v := (7 : Int32)) hx hb dX4_putRhyme_1 (by decide) ?_
  refine lv_imul hx hb dX4_putRhyme_3 ?_
  refine lv_iload_n hx hb dX4_putRhyme_4 rfl (lv_at hl 2 rfl) ?_
  refine lv_iadd hx hb dX4_putRhyme_5 ?_
  refine lv_topi (fun y1 ey1 => ?_)
  replace hE := nm_o ey1 hE
  refine lv_istore (lv' := [(4, .int y1), (0, rr G u0), (1, .int u1), (2, .int u2), (3, .int u3)]) hx hb dX4_putRhyme_6 hl (by decide) rfl (fun ls hl => ?_)
  refine lv_iload hx hb dX4_putRhyme_8 (lv_at hl 0 rfl) ?_
  refine lv_if_lt (tgt := 41) hx hb dX4_putRhyme_10 (by decide) (fun q2 => ?_) (fun q2 => ?_)
  · replace hE := ite_t q2 hE
    obtain rfl := so1 hE
    exact s_vret hx hb hr hlocks hW hS dX4_putRhyme_41
  · replace hE := ite_f q2 hE
    refine lv_iload hx hb dX4_putRhyme_13 (lv_at hl 0 rfl) ?_
    refine s_aload_n hx hb dX4_putRhyme_15 rfl (lv_at hl 1 rfl) ?_
    obtain ⟨x3, hx3, hE⟩ := bd hE
    refine s_gR hx hb hT u_X4 hown hK hW hx3 rfl (by decide) fl_X4_37 rfl dX4_putRhyme_16 ?_
    obtain ⟨x4, hx4, hE⟩ := bd hE
    refine s_alen hx hb hK hW hS hx4 dX4_putRhyme_19 ?_
    refine lv_icmp_ge (tgt := 41) hx hb dX4_putRhyme_20 (by decide) (fun q5 => ?_) (fun q5 => ?_)
    · replace hE := ite_t q5 hE
      obtain rfl := so1 hE
      exact s_vret hx hb hr hlocks hW hS dX4_putRhyme_41
    · replace hE := ite_f q5 hE
      refine s_aload_n hx hb dX4_putRhyme_23 rfl (lv_at hl 1 rfl) ?_
      obtain ⟨x6, hx6, hE⟩ := bd hE
      refine s_gR hx hb hT u_X4 hown hK hW hx6 rfl (by decide) fl_X4_37 rfl dX4_putRhyme_24 ?_
      refine lv_iload hx hb dX4_putRhyme_27 (lv_at hl 0 rfl) ?_
      refine lv_iload_n hx hb dX4_putRhyme_29 rfl (lv_at hl 4 rfl) ?_
      obtain ⟨f7, hf7, hE⟩ := bd hE
      refine s_stI hx hb hK hW hS hf7 dX4_putRhyme_30 (fun H locs hW hS => ?_)
      refine s_aload_n hx hb dX4_putRhyme_31 rfl (lv_at hl 1 rfl) ?_
      refine lv_dup hx hb dX4_putRhyme_32 (cat_rr G _) ?_
      obtain ⟨x8, hx8, hE⟩ := bd hE
      refine s_gI hx hb hT u_X4 hown hK hW hx8 rfl (by decide) fl_X4_64 rfl dX4_putRhyme_33 ?_
      refine lv_iconst (v := (1 : Int32)) hx hb dX4_putRhyme_36 (by decide) ?_
      refine lv_iadd hx hb dX4_putRhyme_37 ?_
      obtain ⟨f9, hf9, hE⟩ := bd hE
      refine s_putI hx hb hT u_X4 tyX4 tyX4_ok nmX4 hown hK hW hS hf9 rfl (by decide) fl_X4_64 rfl (Or.inl rfl) rfl dX4_putRhyme_38 (fun H locs hW hS => ?_)
      obtain rfl := so1 hE
      exact s_vret hx hb hr hlocks hW hS dX4_putRhyme_41
set_option maxHeartbeats 4000000 in
set_option maxRecDepth 100000 in
theorem S_X5_readRhyme (l : Launch) (G : GG) (F : Nat) {u0 : Option Nat} {f : Hp} {r : Int32} {f' : Hp} {n : Nat} (hE : m_X5_readRhyme F u0 f = some (r, f')) : Ctr l G yX5_readRhyme cX5_readRhyme 2 (some .boolean) 4 90 [rr G u0] f n (some (.int r)) f' n 0 0 := by
  refine Met.ofW (cc := cX5_readRhyme) (maxL := 2) (ret := (some .boolean)) (by decide) rfl ?_
  intro p e s m args below meth c s₁ B hml hv
  obtain ⟨rfl, hK, hW⟩ := hv
  have hx := B.exec
  have hb := B.bytes
  have hr := B.returns
  have hts := atoms_spec (ws := wsO yX5_readRhyme cX5_readRhyme 2 (some .boolean)) B.pre
  have hT : ∀ w ∈ TB, w.before [rr G u0].toArray s = true := fun w hw => hts w (List.mem_cons_of_mem _ hw)
  have hown : s.vm.findClass RX5 = some m.cls := findClass_of_methodNamed B.named
  have hlocks := B.notSynchronized
  have CF : CallFix p m c cX5_readRhyme 2 s [rr G u0].toArray TB RX5 := ⟨hx, hb, hml, hown, hT⟩
  have hS : va_S (WA G) s.heap s.heap [] := va_S.rf
  have hl : lv_has (lg_sl ([rr G u0]) ++ List.replicate (2 - (lg_sl ([rr G u0])).length) Slot.unset).toArray 2 [(0, rr G u0)] := by cases u0 <;> exact lv_entry _ (Nat.le_of_ble_eq_true rfl)
  rw [lg_entry_eq]
  generalize (lg_sl ([rr G u0]) ++ List.replicate (2 - (lg_sl ([rr G u0])).length) Slot.unset).toArray = ls at hl ⊢
  refine s_aload_n hx hb dX5_readRhyme_0 rfl (lv_at hl 0 rfl) ?_
  obtain ⟨x1, hx1, hE⟩ := bd hE
  refine s_gR hx hb hT u_X5 hown hK hW hx1 rfl (by decide) fl_X5_15 rfl dX5_readRhyme_1 ?_
  obtain ⟨x2, hx2, hE⟩ := bd hE
  refine s_gI hx hb hT u_X4 hown hK hW hx2 rfl (by decide) fl_X5_170 rfl dX5_readRhyme_4 ?_
  refine lv_bipush (v := (12 : Int32)) hx hb dX5_readRhyme_7 (by decide) ?_
  refine lv_icmp_lt (tgt := 21) hx hb dX5_readRhyme_9 (by decide) (fun q3 => ?_) (fun q3 => ?_)
  · replace hE := ite_t q3 hE
    refine s_aload_n hx hb dX5_readRhyme_21 rfl (lv_at hl 0 rfl) ?_
    obtain ⟨x4, hx4, hE⟩ := bd hE
    refine s_gR hx hb hT u_X5 hown hK hW hx4 rfl (by decide) fl_X5_9 rfl dX5_readRhyme_22 ?_
    obtain ⟨c5, hE⟩ := ck hE
    obtain ⟨f6, hf6, hE⟩ := bd hE
    refine s_callV (As := []) (rest := []) CF hK hW hS (S_X9_advance l G F hf6) c5 rfl gv_X5_82 hd_X9_advance ⟨Nat.le_of_ble_eq_true rfl, Nat.le_of_ble_eq_true rfl⟩ rfl hl.1 rfl (Nat.le_of_ble_eq_true rfl) dX5_readRhyme_25 ⟨Nat.le_refl _, Nat.le_refl _⟩ (fun H locs hW hS => ?_)
    refine s_aload_n hx hb dX5_readRhyme_28 rfl (lv_at hl 0 rfl) ?_
    obtain ⟨c7, hE⟩ := ck hE
    obtain ⟨x8, f9, hx8, hE⟩ := bd2_of hE
    refine s_callV (As := []) (rest := []) CF hK hW hS (S_X5_readPair l G F hx8) c7 rfl gv_X5_153 hd_X5_readPair ⟨Nat.le_of_ble_eq_true rfl, Nat.le_of_ble_eq_true rfl⟩ rfl hl.1 rfl (Nat.le_of_ble_eq_true rfl) dX5_readRhyme_29 ⟨Nat.le_refl _, Nat.le_refl _⟩ (fun H locs hW hS => ?_)
    refine lv_if_ne (tgt := 37) hx hb dX5_readRhyme_32 (by decide) (fun q10 => ?_) (fun q10 => ?_)
    · replace hE := ite_f q10 hE
      refine s_aload_n hx hb dX5_readRhyme_37 rfl (lv_at hl 0 rfl) ?_
      obtain ⟨x11, hx11, hE⟩ := bd hE
      refine s_gR hx hb hT u_X5 hown hK hW hx11 rfl (by decide) fl_X5_15 rfl dX5_readRhyme_38 ?_
      refine s_aload_n hx hb dX5_readRhyme_41 rfl (lv_at hl 0 rfl) ?_
      obtain ⟨x12, hx12, hE⟩ := bd hE
      refine s_gI hx hb hT u_X5 hown hK hW hx12 rfl (by decide) fl_X5_156 rfl dX5_readRhyme_42 ?_
      refine s_aload_n hx hb dX5_readRhyme_45 rfl (lv_at hl 0 rfl) ?_
      obtain ⟨x13, hx13, hE⟩ := bd hE
      refine s_gI hx hb hT u_X5 hown hK hW hx13 rfl (by decide) fl_X5_159 rfl dX5_readRhyme_46 ?_
      obtain ⟨c14, hE⟩ := ck hE
      obtain ⟨x15, hx15, hE⟩ := bd hE
      refine s_callV (As := [.int x12, .int x13]) (rest := []) CF hK hW hS (S_X4_gainOf l G F hx15) c14 rfl gv_X5_173 hd_X4_gainOf ⟨Nat.le_of_ble_eq_true rfl, Nat.le_of_ble_eq_true rfl⟩ rfl hl.1 rfl (Nat.le_of_ble_eq_true rfl) dX5_readRhyme_49 ⟨Nat.le_refl _, Nat.le_refl _⟩ (fun H locs hW hS => ?_)
      refine lv_if_eq (tgt := 64) hx hb dX5_readRhyme_52 (by decide) (fun q16 => ?_) (fun q16 => ?_)
      · replace hE := ite_t q16 hE
        refine s_aload_n hx hb dX5_readRhyme_64 rfl (lv_at hl 0 rfl) ?_
        obtain ⟨x17, hx17, hE⟩ := bd hE
        refine s_gR hx hb hT u_X5 hown hK hW hx17 rfl (by decide) fl_X5_9 rfl dX5_readRhyme_65 ?_
        obtain ⟨c18, hE⟩ := ck hE
        obtain ⟨f19, hf19, hE⟩ := bd hE
        refine s_callV (As := []) (rest := []) CF hK hW hS (S_X9_advance l G F hf19) c18 rfl gv_X5_82 hd_X9_advance ⟨Nat.le_of_ble_eq_true rfl, Nat.le_of_ble_eq_true rfl⟩ rfl hl.1 rfl (Nat.le_of_ble_eq_true rfl) dX5_readRhyme_68 ⟨Nat.le_refl _, Nat.le_refl _⟩ (fun H locs hW hS => ?_)
        refine s_aload_n hx hb dX5_readRhyme_71 rfl (lv_at hl 0 rfl) ?_
        obtain ⟨x20, hx20, hE⟩ := bd hE
        refine s_gR hx hb hT u_X5 hown hK hW hx20 rfl (by decide) fl_X5_9 rfl dX5_readRhyme_72 ?_
        refine lv_iconst (v := (1 : Int32)) hx hb dX5_readRhyme_75 (by decide) ?_
        refine lv_bipush (v := (99 : Int32)) hx hb dX5_readRhyme_76 (by decide) ?_
        obtain ⟨c21, hE⟩ := ck hE
        obtain ⟨x22, f23, hx22, hE⟩ := bd2_of hE
        refine s_callV (As := [.int (1 : Int32), .int (99 : Int32)]) (rest := []) CF hK hW hS (S_X9_numberHere l G F hx22) c21 rfl gv_X5_85 hd_X9_numberHere ⟨Nat.le_of_ble_eq_true rfl, Nat.le_of_ble_eq_true rfl⟩ rfl hl.1 rfl (Nat.le_of_ble_eq_true rfl) dX5_readRhyme_78 ⟨Nat.le_refl _, Nat.le_refl _⟩ (fun H locs hW hS => ?_)
        refine lv_istore_n (i := 1) (lv' := [(1, .int x22), (0, rr G u0)]) hx hb dX5_readRhyme_81 rfl hl (by decide) (by simp [cat_rr]) (fun ls hl => ?_)
        refine lv_iload_n hx hb dX5_readRhyme_82 rfl (lv_at hl 0 rfl) ?_
        refine lv_iconst (v := (-1 : Int32)) hx hb dX5_readRhyme_83 (by decide) ?_
        refine lv_icmp_ne (tgt := 89) hx hb dX5_readRhyme_84 (by decide) (fun q24 => ?_) (fun q24 => ?_)
        · replace hE := ite_f q24 hE
          refine s_aload_n hx hb dX5_readRhyme_89 rfl (lv_at hl 1 rfl) ?_
          obtain ⟨x25, hx25, hE⟩ := bd hE
          refine s_gR hx hb hT u_X5 hown hK hW hx25 rfl (by decide) fl_X5_15 rfl dX5_readRhyme_90 ?_
          refine s_aload_n hx hb dX5_readRhyme_93 rfl (lv_at hl 1 rfl) ?_
          obtain ⟨x26, hx26, hE⟩ := bd hE
          refine s_gI hx hb hT u_X5 hown hK hW hx26 rfl (by decide) fl_X5_156 rfl dX5_readRhyme_94 ?_
          refine s_aload_n hx hb dX5_readRhyme_97 rfl (lv_at hl 1 rfl) ?_
          obtain ⟨x27, hx27, hE⟩ := bd hE
          refine s_gI hx hb hT u_X5 hown hK hW hx27 rfl (by decide) fl_X5_159 rfl dX5_readRhyme_98 ?_
          refine lv_iload_n hx hb dX5_readRhyme_101 rfl (lv_at hl 0 rfl) ?_
          obtain ⟨c28, hE⟩ := ck hE
          obtain ⟨f29, hf29, hE⟩ := bd hE
          refine s_callV (As := [.int x26, .int x27, .int x22]) (rest := []) CF hK hW hS (S_X4_putRhyme l G F hf29) c28 rfl gv_X5_176 hd_X4_putRhyme ⟨Nat.le_of_ble_eq_true rfl, Nat.le_of_ble_eq_true rfl⟩ rfl hl.1 rfl (Nat.le_of_ble_eq_true rfl) dX5_readRhyme_102 ⟨Nat.le_refl _, Nat.le_refl _⟩ (fun H locs hW hS => ?_)
          refine s_aload_n hx hb dX5_readRhyme_105 rfl (lv_at hl 1 rfl) ?_
          obtain ⟨x30, hx30, hE⟩ := bd hE
          refine s_gR hx hb hT u_X5 hown hK hW hx30 rfl (by decide) fl_X5_9 rfl dX5_readRhyme_106 ?_
          obtain ⟨c31, hE⟩ := ck hE
          obtain ⟨f32, hf32, hE⟩ := bd hE
          refine s_callV (As := []) (rest := []) CF hK hW hS (S_X9_advance l G F hf32) c31 rfl gv_X5_82 hd_X9_advance ⟨Nat.le_of_ble_eq_true rfl, Nat.le_of_ble_eq_true rfl⟩ rfl hl.1 rfl (Nat.le_of_ble_eq_true rfl) dX5_readRhyme_109 ⟨Nat.le_refl _, Nat.le_refl _⟩ (fun H locs hW hS => ?_)
          refine lv_iconst (v := (1 : Int32)) hx hb dX5_readRhyme_112 (by decide) ?_
          obtain ⟨c33, hE⟩ := ck hE
          obtain ⟨rfl, rfl⟩ := so2 hE
          exact s_zret hx hb hr c33 hlocks hW hS dX5_readRhyme_113
        · replace hE := ite_t q24 hE
          refine lv_iconst (v := (0 : Int32)) hx hb dX5_readRhyme_87 (by decide) ?_
          obtain ⟨c34, hE⟩ := ck hE
          obtain ⟨rfl, rfl⟩ := so2 hE
          exact s_zret hx hb hr c34 hlocks hW hS dX5_readRhyme_88
      · replace hE := ite_f q16 hE
        refine s_aload_n hx hb dX5_readRhyme_55 rfl (lv_at hl 0 rfl) ?_
        obtain ⟨x35, hx35, hE⟩ := bd hE
        refine s_gR hx hb hT u_X5 hown hK hW hx35 rfl (by decide) fl_X5_9 rfl dX5_readRhyme_56 ?_
        refine lv_iconst (v := (3 : Int32)) hx hb dX5_readRhyme_59 (by decide) ?_
        obtain ⟨c36, hE⟩ := ck hE
        obtain ⟨x37, f38, hx37, hE⟩ := bd2_of hE
        refine s_callV (As := [.int (3 : Int32)]) (rest := []) CF hK hW hS (S_X9_fail l G F hx37) c36 rfl gv_X5_79 hd_X9_fail ⟨Nat.le_of_ble_eq_true rfl, Nat.le_of_ble_eq_true rfl⟩ rfl hl.1 rfl (Nat.le_of_ble_eq_true rfl) dX5_readRhyme_60 ⟨Nat.le_refl _, Nat.le_refl _⟩ (fun H locs hW hS => ?_)
        obtain ⟨c39, hE⟩ := ck hE
        obtain ⟨rfl, rfl⟩ := so2 hE
        exact s_zret hx hb hr c39 hlocks hW hS dX5_readRhyme_63
    · replace hE := ite_t q10 hE
      refine lv_iconst (v := (0 : Int32)) hx hb dX5_readRhyme_35 (by decide) ?_
      obtain ⟨c40, hE⟩ := ck hE
      obtain ⟨rfl, rfl⟩ := so2 hE
      exact s_zret hx hb hr c40 hlocks hW hS dX5_readRhyme_36
  · replace hE := ite_f q3 hE
    refine s_aload_n hx hb dX5_readRhyme_12 rfl (lv_at hl 0 rfl) ?_
    obtain ⟨x41, hx41, hE⟩ := bd hE
    refine s_gR hx hb hT u_X5 hown hK hW hx41 rfl (by decide) fl_X5_9 rfl dX5_readRhyme_13 ?_
    refine lv_iconst (v := (4 : Int32)) hx hb dX5_readRhyme_16 (by decide) ?_
    obtain ⟨c42, hE⟩ := ck hE
    obtain ⟨x43, f44, hx43, hE⟩ := bd2_of hE
    refine s_callV (As := [.int (4 : Int32)]) (rest := []) CF hK hW hS (S_X9_fail l G F hx43) c42 rfl gv_X5_79 hd_X9_fail ⟨Nat.le_of_ble_eq_true rfl, Nat.le_of_ble_eq_true rfl⟩ rfl hl.1 rfl (Nat.le_of_ble_eq_true rfl) dX5_readRhyme_17 ⟨Nat.le_refl _, Nat.le_refl _⟩ (fun H locs hW hS => ?_)
    obtain ⟨c45, hE⟩ := ck hE
    obtain ⟨rfl, rfl⟩ := so2 hE
    exact s_zret hx hb hr c45 hlocks hW hS dX5_readRhyme_20
set_option maxHeartbeats 4000000 in
set_option maxRecDepth 100000 in
theorem S_X5_readLine (l : Launch) (G : GG) (F : Nat) {u0 : Option Nat} {f : Hp} {r : Int32} {f' : Hp} {n : Nat} (hE : m_X5_readLine F u0 f = some (r, f')) : Ctr l G yX5_readLine cX5_readLine 1 (some .boolean) 5 114 [rr G u0] f n (some (.int r)) f' n 0 0 := by
  refine Met.ofW (cc := cX5_readLine) (maxL := 1) (ret := (some .boolean)) (by decide) rfl ?_
  intro p e s m args below meth c s₁ B hml hv
  obtain ⟨rfl, hK, hW⟩ := hv
  have hx := B.exec
  have hb := B.bytes
  have hr := B.returns
  have hts := atoms_spec (ws := wsO yX5_readLine cX5_readLine 1 (some .boolean)) B.pre
  have hT : ∀ w ∈ TB, w.before [rr G u0].toArray s = true := fun w hw => hts w (List.mem_cons_of_mem _ hw)
  have hown : s.vm.findClass RX5 = some m.cls := findClass_of_methodNamed B.named
  have hlocks := B.notSynchronized
  have CF : CallFix p m c cX5_readLine 1 s [rr G u0].toArray TB RX5 := ⟨hx, hb, hml, hown, hT⟩
  have hS : va_S (WA G) s.heap s.heap [] := va_S.rf
  have hl : lv_has (lg_sl ([rr G u0]) ++ List.replicate (1 - (lg_sl ([rr G u0])).length) Slot.unset).toArray 1 [(0, rr G u0)] := by cases u0 <;> exact lv_entry _ (Nat.le_of_ble_eq_true rfl)
  rw [lg_entry_eq]
  generalize (lg_sl ([rr G u0]) ++ List.replicate (1 - (lg_sl ([rr G u0])).length) Slot.unset).toArray = ls at hl ⊢
  refine s_getSt hx hb hT hK hS hown 33 (by decide) (z33 hK) fl_X5_45 dX5_readLine_0 ?_
  refine s_aload_n hx hb dX5_readLine_3 rfl (lv_at hl 0 rfl) ?_
  obtain ⟨x1, hx1, hE⟩ := bd hE
  refine s_gR hx hb hT u_X5 hown hK hW hx1 rfl (by decide) fl_X5_9 rfl dX5_readLine_4 ?_
  obtain ⟨x2, hx2, hE⟩ := bd hE
  refine s_gR hx hb hT u_X9 hown hK hW hx2 rfl (by decide) fl_X5_51 rfl dX5_readLine_7 ?_
  obtain ⟨i3, hi3, hE⟩ := bd hE
  refine s_ord (l := l) CF hK hW hS hi3 or_X5_55 ⟨Nat.le_of_ble_eq_true rfl, Nat.le_of_ble_eq_true rfl⟩ hl.1 (Nat.le_of_ble_eq_true rfl) dX5_readLine_10 ⟨Nat.le_refl _, Nat.le_refl _⟩ (fun H locs hW hS => ?_)
  obtain ⟨x4, hx4, hE⟩ := bd hE
  refine s_ldI hx hb hK hW hS hx4 dX5_readLine_13 ?_
  by_cases w5 : x4 = (3 : Int32)
  · replace hE := ite_t w5 hE
    have hi : (x4).toInt = 3 := by rw [w5]; rfl
    refine lv_tableIn (off := 38) (tgt := 52) hx hb dX5_readLine_14 (by rw [hi]; decide) (by rw [hi]; decide) (by rw [hi]; rfl) (by decide) ?_
    refine s_aload_n hx hb dX5_readLine_52 rfl (lv_at hl 0 rfl) ?_
    obtain ⟨c6, hE⟩ := ck hE
    obtain ⟨x7, f8, hx7, hE⟩ := bd2_of hE
    refine s_callV (As := []) (rest := []) CF hK hW hS (S_X5_readLines l G F hx7) c6 rfl gv_X5_61 hd_X5_readLines ⟨Nat.le_of_ble_eq_true rfl, Nat.le_of_ble_eq_true rfl⟩ rfl hl.1 rfl (Nat.le_of_ble_eq_true rfl) dX5_readLine_53 ⟨Nat.le_refl _, Nat.le_refl _⟩ (fun H locs hW hS => ?_)
    obtain ⟨c9, hE⟩ := ck hE
    obtain ⟨rfl, rfl⟩ := so2 hE
    exact s_zret hx hb hr c9 hlocks hW hS dX5_readLine_56
  · replace hE := ite_f w5 hE
    by_cases w10 : x4 = (4 : Int32)
    · replace hE := ite_t w10 hE
      have hi : (x4).toInt = 4 := by rw [w10]; rfl
      refine lv_tableIn (off := 43) (tgt := 57) hx hb dX5_readLine_14 (by rw [hi]; decide) (by rw [hi]; decide) (by rw [hi]; rfl) (by decide) ?_
      refine s_aload_n hx hb dX5_readLine_57 rfl (lv_at hl 0 rfl) ?_
      refine lv_iconst (v := (1 : Int32)) hx hb dX5_readLine_58 (by decide) ?_
      obtain ⟨f11, hf11, hE⟩ := bd hE
      refine s_putZ hx hb hT u_X5 tyX5 tyX5_ok nmX5 hown hK hW hS hf11 rfl (by decide) fl_X5_24 rfl (Or.inl rfl) rfl dX5_readLine_59 (fun H locs hW hS => ?_)
      refine s_aload_n hx hb dX5_readLine_62 rfl (lv_at hl 0 rfl) ?_
      obtain ⟨c12, hE⟩ := ck hE
      obtain ⟨x13, f14, hx13, hE⟩ := bd2_of hE
      refine s_callV (As := []) (rest := []) CF hK hW hS (S_X5_readCopy l G F hx13) c12 rfl gv_X5_64 hd_X5_readCopy ⟨Nat.le_of_ble_eq_true rfl, Nat.le_of_ble_eq_true rfl⟩ rfl hl.1 rfl (Nat.le_of_ble_eq_true rfl) dX5_readLine_63 ⟨Nat.le_refl _, Nat.le_refl _⟩ (fun H locs hW hS => ?_)
      obtain ⟨c15, hE⟩ := ck hE
      obtain ⟨rfl, rfl⟩ := so2 hE
      exact s_zret hx hb hr c15 hlocks hW hS dX5_readLine_66
    · replace hE := ite_f w10 hE
      by_cases w16 : x4 = (5 : Int32)
      · replace hE := ite_t w16 hE
        have hi : (x4).toInt = 5 := by rw [w16]; rfl
        refine lv_tableIn (off := 53) (tgt := 67) hx hb dX5_readLine_14 (by rw [hi]; decide) (by rw [hi]; decide) (by rw [hi]; rfl) (by decide) ?_
        refine s_aload_n hx hb dX5_readLine_67 rfl (lv_at hl 0 rfl) ?_
        obtain ⟨c17, hE⟩ := ck hE
        obtain ⟨x18, f19, hx18, hE⟩ := bd2_of hE
        refine s_callV (As := []) (rest := []) CF hK hW hS (S_X5_readDesk l G F hx18) c17 rfl gv_X5_67 hd_X5_readDesk ⟨Nat.le_of_ble_eq_true rfl, Nat.le_of_ble_eq_true rfl⟩ rfl hl.1 rfl (Nat.le_of_ble_eq_true rfl) dX5_readLine_68 ⟨Nat.le_refl _, Nat.le_refl _⟩ (fun H locs hW hS => ?_)
        obtain ⟨c20, hE⟩ := ck hE
        obtain ⟨rfl, rfl⟩ := so2 hE
        exact s_zret hx hb hr c20 hlocks hW hS dX5_readLine_71
      · replace hE := ite_f w16 hE
        by_cases w21 : x4 = (6 : Int32)
        · replace hE := ite_t w21 hE
          have hi : (x4).toInt = 6 := by rw [w21]; rfl
          refine lv_tableIn (off := 58) (tgt := 72) hx hb dX5_readLine_14 (by rw [hi]; decide) (by rw [hi]; decide) (by rw [hi]; rfl) (by decide) ?_
          refine s_aload_n hx hb dX5_readLine_72 rfl (lv_at hl 0 rfl) ?_
          refine lv_iconst (v := (1 : Int32)) hx hb dX5_readLine_73 (by decide) ?_
          obtain ⟨f22, hf22, hE⟩ := bd hE
          refine s_putZ hx hb hT u_X5 tyX5 tyX5_ok nmX5 hown hK hW hS hf22 rfl (by decide) fl_X5_24 rfl (Or.inl rfl) rfl dX5_readLine_74 (fun H locs hW hS => ?_)
          refine s_aload_n hx hb dX5_readLine_77 rfl (lv_at hl 0 rfl) ?_
          obtain ⟨c23, hE⟩ := ck hE
          obtain ⟨x24, f25, hx24, hE⟩ := bd2_of hE
          refine s_callV (As := []) (rest := []) CF hK hW hS (S_X5_readLikely l G F hx24) c23 rfl gv_X5_70 hd_X5_readLikely ⟨Nat.le_of_ble_eq_true rfl, Nat.le_of_ble_eq_true rfl⟩ rfl hl.1 rfl (Nat.le_of_ble_eq_true rfl) dX5_readLine_78 ⟨Nat.le_refl _, Nat.le_refl _⟩ (fun H locs hW hS => ?_)
          obtain ⟨c26, hE⟩ := ck hE
          obtain ⟨rfl, rfl⟩ := so2 hE
          exact s_zret hx hb hr c26 hlocks hW hS dX5_readLine_81
        · replace hE := ite_f w21 hE
          by_cases w27 : x4 = (7 : Int32)
          · replace hE := ite_t w27 hE
            have hi : (x4).toInt = 7 := by rw [w27]; rfl
            refine lv_tableIn (off := 68) (tgt := 82) hx hb dX5_readLine_14 (by rw [hi]; decide) (by rw [hi]; decide) (by rw [hi]; rfl) (by decide) ?_
            refine s_aload_n hx hb dX5_readLine_82 rfl (lv_at hl 0 rfl) ?_
            refine lv_iconst (v := (1 : Int32)) hx hb dX5_readLine_83 (by decide) ?_
            obtain ⟨f28, hf28, hE⟩ := bd hE
            refine s_putZ hx hb hT u_X5 tyX5 tyX5_ok nmX5 hown hK hW hS hf28 rfl (by decide) fl_X5_24 rfl (Or.inl rfl) rfl dX5_readLine_84 (fun H locs hW hS => ?_)
            refine s_aload_n hx hb dX5_readLine_87 rfl (lv_at hl 0 rfl) ?_
            obtain ⟨c29, hE⟩ := ck hE
            obtain ⟨x30, f31, hx30, hE⟩ := bd2_of hE
            refine s_callV (As := []) (rest := []) CF hK hW hS (S_X5_readSense l G F hx30) c29 rfl gv_X5_73 hd_X5_readSense ⟨Nat.le_of_ble_eq_true rfl, Nat.le_of_ble_eq_true rfl⟩ rfl hl.1 rfl (Nat.le_of_ble_eq_true rfl) dX5_readLine_88 ⟨Nat.le_refl _, Nat.le_refl _⟩ (fun H locs hW hS => ?_)
            obtain ⟨c32, hE⟩ := ck hE
            obtain ⟨rfl, rfl⟩ := so2 hE
            exact s_zret hx hb hr c32 hlocks hW hS dX5_readLine_91
          · replace hE := ite_f w27 hE
            by_cases w33 : x4 = (8 : Int32)
            · replace hE := ite_t w33 hE
              have hi : (x4).toInt = 8 := by rw [w33]; rfl
              refine lv_tableIn (off := 78) (tgt := 92) hx hb dX5_readLine_14 (by rw [hi]; decide) (by rw [hi]; decide) (by rw [hi]; rfl) (by decide) ?_
              refine s_aload_n hx hb dX5_readLine_92 rfl (lv_at hl 0 rfl) ?_
              refine lv_iconst (v := (1 : Int32)) hx hb dX5_readLine_93 (by decide) ?_
              obtain ⟨f34, hf34, hE⟩ := bd hE
              refine s_putZ hx hb hT u_X5 tyX5 tyX5_ok nmX5 hown hK hW hS hf34 rfl (by decide) fl_X5_24 rfl (Or.inl rfl) rfl dX5_readLine_94 (fun H locs hW hS => ?_)
              refine s_aload_n hx hb dX5_readLine_97 rfl (lv_at hl 0 rfl) ?_
              obtain ⟨c35, hE⟩ := ck hE
              obtain ⟨x36, f37, hx36, hE⟩ := bd2_of hE
              refine s_callV (As := []) (rest := []) CF hK hW hS (S_X5_readRhyme l G F hx36) c35 rfl gv_X5_76 hd_X5_readRhyme ⟨Nat.le_of_ble_eq_true rfl, Nat.le_of_ble_eq_true rfl⟩ rfl hl.1 rfl (Nat.le_of_ble_eq_true rfl) dX5_readLine_98 ⟨Nat.le_refl _, Nat.le_refl _⟩ (fun H locs hW hS => ?_)
              obtain ⟨c38, hE⟩ := ck hE
              obtain ⟨rfl, rfl⟩ := so2 hE
              exact s_zret hx hb hr c38 hlocks hW hS dX5_readLine_101
            · replace hE := ite_f w33 hE
              replace w5 := lv_neT w5 (a := 3) rfl
              replace w10 := lv_neT w10 (a := 4) rfl
              replace w16 := lv_neT w16 (a := 5) rfl
              replace w21 := lv_neT w21 (a := 6) rfl
              replace w27 := lv_neT w27 (a := 7) rfl
              replace w33 := lv_neT w33 (a := 8) rfl
              refine lv_tableOut (tgt := 102) hx hb dX5_readLine_14 (by omega) (by decide) ?_
              refine s_aload_n hx hb dX5_readLine_102 rfl (lv_at hl 0 rfl) ?_
              obtain ⟨x39, hx39, hE⟩ := bd hE
              refine s_gR hx hb hT u_X5 hown hK hW hx39 rfl (by decide) fl_X5_9 rfl dX5_readLine_103 ?_
              refine lv_iconst (v := (1 : Int32)) hx hb dX5_readLine_106 (by decide) ?_
              obtain ⟨c40, hE⟩ := ck hE
              obtain ⟨x41, f42, hx41, hE⟩ := bd2_of hE
              refine s_callV (As := [.int (1 : Int32)]) (rest := []) CF hK hW hS (S_X9_fail l G F hx41) c40 rfl gv_X5_79 hd_X9_fail ⟨Nat.le_of_ble_eq_true rfl, Nat.le_of_ble_eq_true rfl⟩ rfl hl.1 rfl (Nat.le_of_ble_eq_true rfl) dX5_readLine_107 ⟨Nat.le_refl _, Nat.le_refl _⟩ (fun H locs hW hS => ?_)
              obtain ⟨c43, hE⟩ := ck hE
              obtain ⟨rfl, rfl⟩ := so2 hE
              exact s_zret hx hb hr c43 hlocks hW hS dX5_readLine_110
set_option maxHeartbeats 4000000 in
set_option maxRecDepth 100000 in
theorem S_X9_passSign (l : Launch) (G : GG) (F : Nat) {u0 : Option Nat} {u1 : Int32} {f : Hp} {r : Int32} {f' : Hp} {n : Nat} (hE : m_X9_passSign F u0 u1 f = some (r, f')) : Ctr l G yX9_passSign cX9_passSign 2 (some .boolean) 3 70 [rr G u0, .int u1] f n (some (.int r)) f' n 0 0 := by
  refine Met.ofW (cc := cX9_passSign) (maxL := 2) (ret := (some .boolean)) (by decide) rfl ?_
  intro p e s m args below meth c s₁ B hml hv
  obtain ⟨rfl, hK, hW⟩ := hv
  have hx := B.exec
  have hb := B.bytes
  have hr := B.returns
  have hts := atoms_spec (ws := wsO yX9_passSign cX9_passSign 2 (some .boolean)) B.pre
  have hT : ∀ w ∈ TB, w.before [rr G u0, .int u1].toArray s = true := fun w hw => hts w (List.mem_cons_of_mem _ hw)
  have hown : s.vm.findClass RX9 = some m.cls := findClass_of_methodNamed B.named
  have hlocks := B.notSynchronized
  have CF : CallFix p m c cX9_passSign 2 s [rr G u0, .int u1].toArray TB RX9 := ⟨hx, hb, hml, hown, hT⟩
  have hS : va_S (WA G) s.heap s.heap [] := va_S.rf
  have hl : lv_has (lg_sl ([rr G u0, .int u1]) ++ List.replicate (2 - (lg_sl ([rr G u0, .int u1])).length) Slot.unset).toArray 2 [(0, rr G u0), (1, .int u1)] := by cases u0 <;> exact lv_entry _ (Nat.le_of_ble_eq_true rfl)
  rw [lg_entry_eq]
  generalize (lg_sl ([rr G u0, .int u1]) ++ List.replicate (2 - (lg_sl ([rr G u0, .int u1])).length) Slot.unset).toArray = ls at hl ⊢
  refine s_aload_n hx hb dX9_passSign_0 rfl (lv_at hl 0 rfl) ?_
  obtain ⟨x1, hx1, hE⟩ := bd hE
  refine s_gI hx hb hT u_X9 hown hK hW hx1 rfl (by decide) fl_X9_53 rfl dX9_passSign_1 ?_
  refine lv_iload_n hx hb dX9_passSign_4 rfl (lv_at hl 1 rfl) ?_
  refine lv_icmp_eq (tgt := 14) hx hb dX9_passSign_5 (by decide) (fun q2 => ?_) (fun q2 => ?_)
  · replace hE := ite_t q2 hE
    refine s_aload_n hx hb dX9_passSign_14 rfl (lv_at hl 0 rfl) ?_
    obtain ⟨c3, hE⟩ := ck hE
    obtain ⟨f4, hf4, hE⟩ := bd hE
    refine s_callV (As := []) (rest := []) CF hK hW hS (S_X9_advance l G F hf4) c3 rfl gv_X9_46 hd_X9_advance ⟨Nat.le_of_ble_eq_true rfl, Nat.le_of_ble_eq_true rfl⟩ rfl hl.1 rfl (Nat.le_of_ble_eq_true rfl) dX9_passSign_15 ⟨Nat.le_refl _, Nat.le_refl _⟩ (fun H locs hW hS => ?_)
    refine lv_iconst (v := (1 : Int32)) hx hb dX9_passSign_18 (by decide) ?_
    obtain ⟨c5, hE⟩ := ck hE
    obtain ⟨rfl, rfl⟩ := so2 hE
    exact s_zret hx hb hr c5 hlocks hW hS dX9_passSign_19
  · replace hE := ite_f q2 hE
    refine s_aload_n hx hb dX9_passSign_8 rfl (lv_at hl 0 rfl) ?_
    refine lv_iconst (v := (1 : Int32)) hx hb dX9_passSign_9 (by decide) ?_
    obtain ⟨c6, hE⟩ := ck hE
    obtain ⟨x7, f8, hx7, hE⟩ := bd2_of hE
    refine s_callV (As := [.int (1 : Int32)]) (rest := []) CF hK hW hS (S_X9_fail l G F hx7) c6 rfl gv_X9_81 hd_X9_fail ⟨Nat.le_of_ble_eq_true rfl, Nat.le_of_ble_eq_true rfl⟩ rfl hl.1 rfl (Nat.le_of_ble_eq_true rfl) dX9_passSign_10 ⟨Nat.le_refl _, Nat.le_refl _⟩ (fun H locs hW hS => ?_)
    obtain ⟨c9, hE⟩ := ck hE
    obtain ⟨rfl, rfl⟩ := so2 hE
    exact s_zret hx hb hr c9 hlocks hW hS dX9_passSign_13
set_option maxHeartbeats 4000000 in
set_option maxRecDepth 100000 in
theorem S_X5_read (l : Launch) (G : GG) (F : Nat) {u0 : Option Nat} {u1 : Option Nat} {f : Hp} {r : Int32} {f' : Hp} {n : Nat} (hE : m_X5_read F u0 u1 f = some (r, f')) : Ctr l G yX5_read cX5_read 3 (some .int) 6 134 [rr G u0, rr G u1] f n (some (.int r)) f' n 0 0 := by
  refine Met.ofW (cc := cX5_read) (maxL := 3) (ret := (some .int)) (by decide) rfl ?_
  intro p e s m args below meth c s₁ B hml hv
  obtain ⟨rfl, hK, hW⟩ := hv
  have hx := B.exec
  have hb := B.bytes
  have hr := B.returns
  have hts := atoms_spec (ws := wsO yX5_read cX5_read 3 (some .int)) B.pre
  have hT : ∀ w ∈ TB, w.before [rr G u0, rr G u1].toArray s = true := fun w hw => hts w (List.mem_cons_of_mem _ hw)
  have hown : s.vm.findClass RX5 = some m.cls := findClass_of_methodNamed B.named
  have hlocks := B.notSynchronized
  have CF : CallFix p m c cX5_read 3 s [rr G u0, rr G u1].toArray TB RX5 := ⟨hx, hb, hml, hown, hT⟩
  have hS : va_S (WA G) s.heap s.heap [] := va_S.rf
  have hl : lv_has (lg_sl ([rr G u0, rr G u1]) ++ List.replicate (3 - (lg_sl ([rr G u0, rr G u1])).length) Slot.unset).toArray 3 [(0, rr G u0), (1, rr G u1)] := by cases u0 <;> cases u1 <;> exact lv_entry _ (Nat.le_of_ble_eq_true rfl)
  rw [lg_entry_eq]
  generalize (lg_sl ([rr G u0, rr G u1]) ++ List.replicate (3 - (lg_sl ([rr G u0, rr G u1])).length) Slot.unset).toArray = ls at hl ⊢
  have hC24 : ∀ (k24 : Nat), ∀ (v0 : Option Nat) (v2 : Int32) (fa : Hp) (H : Heap) (locs : List Loc) (ls : Array Slot), m_X5_read_L24 F k24 v0 v2 fa = some (r, f') → Wd G fa n H → va_S (WA G) s.heap H locs → lv_has ls 3 [(0, rr G v0), (2, .int v2)] → W p l e (headSpec (wsO yX5_read cX5_read 3 (some .int)) { frames := 6, cells := 0, slots := 0, locals := 134 }).room s m [rr G u0, rr G u1].toArray below meth c H locs 0 0 (MQ below (Qcn G (some (.int r)) f' n) [rr G u0, rr G u1].toArray s 0 0 (WA G)) (F0 m 24 ls []) := by
    intro k24
    induction k24 with
    | zero => intro v0 v2 fa H locs ls hE _ _ _; cases (show (none : Option ((Int32) × Hp)) = some (r, f') from hE)
    | succ k24 ih24 =>
      intro v0 v2 fa H locs ls hE hW hS hl
      replace hE : m_X5_read_b24 F (m_X5_read_L24 F k24) v0 v2 fa = some (r, f') := hE
      refine lv_iload_n hx hb dX5_read_24 rfl (lv_at hl 1 rfl) ?_
      refine lv_sipush (v := (740 : Int32)) hx hb dX5_read_25 (by decide) ?_
      refine lv_icmp_gt (tgt := 70) hx hb dX5_read_28 (by decide) (fun q1 => ?_) (fun q1 => ?_)
      · replace hE := ite_t q1 hE
        refine lv_iconst (v := (-1 : Int32)) hx hb dX5_read_70 (by decide) ?_
        obtain ⟨rfl, rfl⟩ := so2 hE
        exact s_iret hx hb hr hlocks hW hS dX5_read_71
      · replace hE := ite_f q1 hE
        refine s_aload_n hx hb dX5_read_31 rfl (lv_at hl 0 rfl) ?_
        obtain ⟨x2, hx2, hE⟩ := bd hE
        refine s_gR hx hb hT u_X5 hown hK hW hx2 rfl (by decide) fl_X5_9 rfl dX5_read_32 ?_
        obtain ⟨x3, hx3, hE⟩ := bd hE
        refine s_gI hx hb hT u_X9 hown hK hW hx3 rfl (by decide) fl_X5_32 rfl dX5_read_35 ?_
        refine lv_if_ne (tgt := 43) hx hb dX5_read_38 (by decide) (fun q4 => ?_) (fun q4 => ?_)
        · replace hE := ite_f q4 hE
          refine s_aload_n hx hb dX5_read_43 rfl (lv_at hl 0 rfl) ?_
          obtain ⟨c5, hE⟩ := ck hE
          obtain ⟨x6, f7, hx6, hE⟩ := bd2_of hE
          refine s_callV (As := []) (rest := []) CF hK hW hS (S_X5_readLine l G F hx6) c5 rfl gv_X5_37 hd_X5_readLine ⟨Nat.le_of_ble_eq_true rfl, Nat.le_of_ble_eq_true rfl⟩ rfl hl.1 rfl (Nat.le_of_ble_eq_true rfl) dX5_read_44 ⟨Nat.le_refl _, Nat.le_refl _⟩ (fun H locs hW hS => ?_)
          refine lv_if_eq (tgt := 62) hx hb dX5_read_47 (by decide) (fun q8 => ?_) (fun q8 => ?_)
          · replace hE := ite_t q8 hE
            refine lv_iconst (v := (-1 : Int32)) hx hb dX5_read_62 (by decide) ?_
            obtain ⟨rfl, rfl⟩ := so2 hE
            exact s_iret hx hb hr hlocks hW hS dX5_read_63
          · replace hE := ite_f q8 hE
            refine s_aload_n hx hb dX5_read_50 rfl (lv_at hl 0 rfl) ?_
            obtain ⟨x9, hx9, hE⟩ := bd hE
            refine s_gR hx hb hT u_X5 hown hK hW hx9 rfl (by decide) fl_X5_9 rfl dX5_read_51 ?_
            refine lv_bipush (v := (59 : Int32)) hx hb dX5_read_54 (by decide) ?_
            obtain ⟨c10, hE⟩ := ck hE
            obtain ⟨x11, f12, hx11, hE⟩ := bd2_of hE
            refine s_callV (As := [.int (59 : Int32)]) (rest := []) CF hK hW hS (S_X9_passSign l G F hx11) c10 rfl gv_X5_41 hd_X9_passSign ⟨Nat.le_of_ble_eq_true rfl, Nat.le_of_ble_eq_true rfl⟩ rfl hl.1 rfl (Nat.le_of_ble_eq_true rfl) dX5_read_56 ⟨Nat.le_refl _, Nat.le_refl _⟩ (fun H locs hW hS => ?_)
            refine lv_if_ne (tgt := 64) hx hb dX5_read_59 (by decide) (fun q13 => ?_) (fun q13 => ?_)
            · replace hE := ite_f q13 hE
              obtain ⟨y14, ey14⟩ : ∃ y : Int32, y = v2 + (1 : Int32) := ⟨_, rfl⟩
              replace hE := nm_o ey14 hE
              refine lv_iinc (k := 1) (v := y14) (lv' := [(2, .int y14), (0, rr G v0)]) hx hb dX5_read_64 hl rfl (by rw [ey14]; rfl) (by decide) rfl (fun ls hl => ?_)
              refine lv_goto (tgt := 24) hx hb dX5_read_67 (by decide) ?_
              exact ih24 _ _ _ _ _ _ hE hW hS (lv_sub hl [1, 0] rfl)
            · replace hE := ite_t q13 hE
              refine lv_iconst (v := (-1 : Int32)) hx hb dX5_read_62 (by decide) ?_
              obtain ⟨rfl, rfl⟩ := so2 hE
              exact s_iret hx hb hr hlocks hW hS dX5_read_63
        · replace hE := ite_t q4 hE
          refine lv_iload_n hx hb dX5_read_41 rfl (lv_at hl 1 rfl) ?_
          obtain ⟨rfl, rfl⟩ := so2 hE
          exact s_iret hx hb hr hlocks hW hS dX5_read_42
  refine s_aload_n hx hb dX5_read_0 rfl (lv_at hl 0 rfl) ?_
  refine s_aload_n hx hb dX5_read_1 rfl (lv_at hl 1 rfl) ?_
  obtain ⟨f15, hf15, hE⟩ := bd hE
  refine s_putR hx hb hT u_X5 tyX5 tyX5_ok nmX5 hown hK hW hS hf15 rfl (by decide) fl_X5_15 rfl (Or.inl rfl) rfl fit_o dX5_read_2 (fun H locs hW hS => ?_)
  refine s_aload_n hx hb dX5_read_5 rfl (lv_at hl 0 rfl) ?_
  obtain ⟨x16, hx16, hE⟩ := bd hE
  refine s_gR hx hb hT u_X5 hown hK hW hx16 rfl (by decide) fl_X5_15 rfl dX5_read_6 ?_
  obtain ⟨c17, hE⟩ := ck hE
  obtain ⟨f18, hf18, hE⟩ := bd hE
  refine s_callV (As := []) (rest := []) CF hK hW hS (S_X4_clear l G F hf18) c17 rfl gv_X5_19 hd_X4_clear ⟨Nat.le_of_ble_eq_true rfl, Nat.le_of_ble_eq_true rfl⟩ rfl hl.1 rfl (Nat.le_of_ble_eq_true rfl) dX5_read_9 ⟨Nat.le_refl _, Nat.le_refl _⟩ (fun H locs hW hS => ?_)
  refine s_aload_n hx hb dX5_read_12 rfl (lv_at hl 0 rfl) ?_
  refine lv_iconst (v := (0 : Int32)) hx hb dX5_read_13 (by decide) ?_
  obtain ⟨f19, hf19, hE⟩ := bd hE
  refine s_putZ hx hb hT u_X5 tyX5 tyX5_ok nmX5 hown hK hW hS hf19 rfl (by decide) fl_X5_24 rfl (Or.inl rfl) rfl dX5_read_14 (fun H locs hW hS => ?_)
  refine s_aload_n hx hb dX5_read_17 rfl (lv_at hl 0 rfl) ?_
  refine lv_iconst (v := (0 : Int32)) hx hb dX5_read_18 (by decide) ?_
  obtain ⟨f20, hf20, hE⟩ := bd hE
  refine s_putI hx hb hT u_X5 tyX5 tyX5_ok nmX5 hown hK hW hS hf20 rfl (by decide) fl_X5_28 rfl (Or.inl rfl) rfl dX5_read_19 (fun H locs hW hS => ?_)
  refine lv_iconst (v := (0 : Int32)) hx hb dX5_read_22 (by decide) ?_
  refine lv_istore_n (i := 2) (lv' := [(2, .int (0 : Int32)), (0, rr G u0), (1, rr G u1)]) hx hb dX5_read_23 rfl hl (by decide) (by simp [cat_rr]) (fun ls hl => ?_)
  exact hC24 F _ _ _ _ _ _ hE hW hS (lv_sub hl [1, 0] rfl)
set_option maxHeartbeats 4000000 in
set_option maxRecDepth 100000 in
theorem S_X11_house (l : Launch) (G : GG) (F : Nat) {u0 : Option Nat} {f : Hp} {r : Int32} {f' : Hp} {n : Nat} (hE : m_X11_house F u0 f = some (r, f')) : Ctr l G yX11_house cX11_house 3 (some .int) 7 156 [rr G u0] f n (some (.int r)) f' n 0 0 := by
  refine Met.ofW (cc := cX11_house) (maxL := 3) (ret := (some .int)) (by decide) rfl ?_
  intro p e s m args below meth c s₁ B hml hv
  obtain ⟨rfl, hK, hW⟩ := hv
  have hx := B.exec
  have hb := B.bytes
  have hr := B.returns
  have hts := atoms_spec (ws := wsO yX11_house cX11_house 3 (some .int)) B.pre
  have hT : ∀ w ∈ TB, w.before [rr G u0].toArray s = true := fun w hw => hts w (List.mem_cons_of_mem _ hw)
  have hown : s.vm.findClass RX11 = some m.cls := findClass_of_methodNamed B.named
  have hlocks := B.notSynchronized
  have CF : CallFix p m c cX11_house 3 s [rr G u0].toArray TB RX11 := ⟨hx, hb, hml, hown, hT⟩
  have hS : va_S (WA G) s.heap s.heap [] := va_S.rf
  have hl : lv_has (lg_sl ([rr G u0]) ++ List.replicate (3 - (lg_sl ([rr G u0])).length) Slot.unset).toArray 3 [(0, rr G u0)] := by cases u0 <;> exact lv_entry _ (Nat.le_of_ble_eq_true rfl)
  rw [lg_entry_eq]
  generalize (lg_sl ([rr G u0]) ++ List.replicate (3 - (lg_sl ([rr G u0])).length) Slot.unset).toArray = ls at hl ⊢
  refine s_aload_n hx hb dX11_house_0 rfl (lv_at hl 0 rfl) ?_
  obtain ⟨x1, hx1, hE⟩ := bd hE
  refine s_gR hx hb hT u_X11 hown hK hW hx1 rfl (by decide) fl_X11_45 rfl dX11_house_1 ?_
  refine s_aload_n hx hb dX11_house_4 rfl (lv_at hl 0 rfl) ?_
  obtain ⟨c2, hE⟩ := ck hE
  obtain ⟨x3, f4, hx3, hE⟩ := bd2_of hE
  refine s_callV (As := []) (rest := [rr G x1]) CF hK hW hS (S_X11_takeTape l G F hx3) c2 rfl gv_X11_84 hd_X11_takeTape ⟨Nat.le_of_ble_eq_true rfl, Nat.le_of_ble_eq_true rfl⟩ rfl hl.1 rfl (Nat.le_of_ble_eq_true rfl) dX11_house_5 ⟨Nat.le_refl _, Nat.le_refl _⟩ (fun H locs hW hS => ?_)
  refine lv_sipush (v := (700 : Int32)) hx hb dX11_house_8 (by decide) ?_
  obtain ⟨c5, hE⟩ := ck hE
  obtain ⟨f6, hf6, hE⟩ := bd hE
  refine s_callV (As := [.int x3, .int (700 : Int32)]) (rest := []) CF hK hW hS (S_X9_open l G F hf6) c5 rfl gv_X11_88 hd_X9_open ⟨Nat.le_of_ble_eq_true rfl, Nat.le_of_ble_eq_true rfl⟩ rfl hl.1 rfl (Nat.le_of_ble_eq_true rfl) dX11_house_11 ⟨Nat.le_refl _, Nat.le_refl _⟩ (fun H locs hW hS => ?_)
  refine s_aload_n hx hb dX11_house_14 rfl (lv_at hl 0 rfl) ?_
  obtain ⟨x7, hx7, hE⟩ := bd hE
  refine s_gR hx hb hT u_X11 hown hK hW hx7 rfl (by decide) fl_X11_54 rfl dX11_house_15 ?_
  refine s_aload_n hx hb dX11_house_18 rfl (lv_at hl 0 rfl) ?_
  obtain ⟨x8, hx8, hE⟩ := bd hE
  refine s_gR hx hb hT u_X11 hown hK hW hx8 rfl (by decide) fl_X11_20 rfl dX11_house_19 ?_
  obtain ⟨c9, hE⟩ := ck hE
  obtain ⟨x10, f11, hx10, hE⟩ := bd2_of hE
  refine s_callV (As := [rr G x8]) (rest := []) CF hK hW hS (S_X5_read l G F hx10) c9 rfl gv_X11_92 hd_X5_read ⟨Nat.le_of_ble_eq_true rfl, Nat.le_of_ble_eq_true rfl⟩ rfl hl.1 rfl (Nat.le_of_ble_eq_true rfl) dX11_house_22 ⟨Nat.le_refl _, Nat.le_refl _⟩ (fun H locs hW hS => ?_)
  refine lv_istore_n (i := 1) (lv' := [(1, .int x10), (0, rr G u0)]) hx hb dX11_house_25 rfl hl (by decide) (by simp [cat_rr]) (fun ls hl => ?_)
  refine s_aload_n hx hb dX11_house_26 rfl (lv_at hl 1 rfl) ?_
  refine s_aload_n hx hb dX11_house_27 rfl (lv_at hl 1 rfl) ?_
  obtain ⟨x12, hx12, hE⟩ := bd hE
  refine s_gR hx hb hT u_X11 hown hK hW hx12 rfl (by decide) fl_X11_45 rfl dX11_house_28 ?_
  obtain ⟨x13, hx13, hE⟩ := bd hE
  refine s_gI hx hb hT u_X9 hown hK hW hx13 rfl (by decide) fl_X11_96 rfl dX11_house_31 ?_
  obtain ⟨f14, hf14, hE⟩ := bd hE
  refine s_putI hx hb hT u_X11 tyX11 tyX11_ok nmX11 hown hK hW hS hf14 rfl (by decide) fl_X11_99 rfl (Or.inl rfl) rfl dX11_house_34 (fun H locs hW hS => ?_)
  refine s_aload_n hx hb dX11_house_37 rfl (lv_at hl 1 rfl) ?_
  obtain ⟨x15, hx15, hE⟩ := bd hE
  refine s_gI hx hb hT u_X11 hown hK hW hx15 rfl (by decide) fl_X11_99 rfl dX11_house_38 ?_
  refine lv_if_eq (tgt := 54) hx hb dX11_house_41 (by decide) (fun q16 => ?_) (fun q16 => ?_)
  · replace hE := ite_t q16 hE
    refine s_aload_n hx hb dX11_house_54 rfl (lv_at hl 1 rfl) ?_
    obtain ⟨x17, hx17, hE⟩ := bd hE
    refine s_gR hx hb hT u_X11 hown hK hW hx17 rfl (by decide) fl_X11_16 rfl dX11_house_55 ?_
    refine s_astore_n (i := 2) (lv' := [(2, rr G x17), (1, .int x10), (0, rr G u0)]) hx hb dX11_house_58 rfl hl (by decide) rfl (fun ls hl => ?_)
    refine s_aload_n hx hb dX11_house_59 rfl (lv_at hl 2 rfl) ?_
    refine s_aload_n hx hb dX11_house_60 rfl (lv_at hl 2 rfl) ?_
    obtain ⟨x18, hx18, hE⟩ := bd hE
    refine s_gR hx hb hT u_X11 hown hK hW hx18 rfl (by decide) fl_X11_20 rfl dX11_house_61 ?_
    obtain ⟨f19, hf19, hE⟩ := bd hE
    refine s_putR hx hb hT u_X11 tyX11 tyX11_ok nmX11 hown hK hW hS hf19 rfl (by decide) fl_X11_16 rfl (Or.inl rfl) rfl fit_o dX11_house_64 (fun H locs hW hS => ?_)
    refine s_aload_n hx hb dX11_house_67 rfl (lv_at hl 2 rfl) ?_
    refine s_aload_n hx hb dX11_house_68 rfl (lv_at hl 0 rfl) ?_
    obtain ⟨f20, hf20, hE⟩ := bd hE
    refine s_putR hx hb hT u_X11 tyX11 tyX11_ok nmX11 hown hK hW hS hf20 rfl (by decide) fl_X11_20 rfl (Or.inl rfl) rfl fit_o dX11_house_69 (fun H locs hW hS => ?_)
    refine lv_iload_n hx hb dX11_house_72 rfl (lv_at hl 1 rfl) ?_
    obtain ⟨rfl, rfl⟩ := so2 hE
    exact s_iret hx hb hr hlocks hW hS dX11_house_73
  · replace hE := ite_f q16 hE
    refine lv_iconst (v := (-1 : Int32)) hx hb dX11_house_44 (by decide) ?_
    refine s_aload_n hx hb dX11_house_45 rfl (lv_at hl 1 rfl) ?_
    obtain ⟨x21, hx21, hE⟩ := bd hE
    refine s_gR hx hb hT u_X11 hown hK hW hx21 rfl (by decide) fl_X11_45 rfl dX11_house_46 ?_
    obtain ⟨x22, hx22, hE⟩ := bd hE
    refine s_gI hx hb hT u_X9 hown hK hW hx22 rfl (by decide) fl_X11_102 rfl dX11_house_49 ?_
    refine lv_isub hx hb dX11_house_52 ?_
    obtain ⟨rfl, rfl⟩ := so2 hE
    exact s_iret hx hb hr hlocks hW hS dX11_house_53
set_option maxHeartbeats 4000000 in
set_option maxRecDepth 100000 in
theorem S_X7_init (l : Launch) (G : GG) (F : Nat) {u0 : Option Nat} {f : Hp} {f' : Hp} {n n2 z z2 : Nat} (hE : m_X7_init F u0 f n z = some (f', n2, z2)) : Ctr l G yX7_init cX7_init 2 none 1 24 [rr G u0] f n none f' n2 (n2 - n) (z2 - z) := by
  refine Met.ofW (cc := cX7_init) (maxL := 2) (ret := none) (by decide) rfl ?_
  intro p e s m args below meth c s₁ B hml hv
  obtain ⟨rfl, hK, hW⟩ := hv
  have hx := B.exec
  have hb := B.bytes
  have hr := B.returns
  have hts := atoms_spec (ws := wsO yX7_init cX7_init 2 none) B.pre
  have hT : ∀ w ∈ TB, w.before [rr G u0].toArray s = true := fun w hw => hts w (List.mem_cons_of_mem _ hw)
  have hown : s.vm.findClass RX7 = some m.cls := findClass_of_methodNamed B.named
  have hlocks := B.notSynchronized
  have hin : meth.name = "<init>" := (name_of_methodNamed B.named B.method).1
  have CF : CallFix p m c cX7_init 2 s [rr G u0].toArray TB RX7 := ⟨hx, hb, hml, hown, hT⟩
  have hS : va_S (WA G) s.heap s.heap [] := va_S.rf
  have hl : lv_has (lg_sl ([rr G u0]) ++ List.replicate (2 - (lg_sl ([rr G u0])).length) Slot.unset).toArray 2 [(0, rr G u0)] := by cases u0 <;> exact lv_entry _ (Nat.le_of_ble_eq_true rfl)
  rw [lg_entry_eq]
  generalize (lg_sl ([rr G u0]) ++ List.replicate (2 - (lg_sl ([rr G u0])).length) Slot.unset).toArray = ls at hl ⊢
  have hC47 : ∀ (k47 : Nat), ∀ (v0 : Option Nat) (v1 : Int32) (fa : Hp) (na za : Nat) (H : Heap) (locs : List Loc) (ls : Array Slot), n ≤ na → z ≤ za → m_X7_init_L47 F k47 v0 v1 fa na za = some (f', n2, z2) → Wd G fa na H → va_S (WA G) s.heap H locs → lv_has ls 2 [(0, rr G v0), (1, .int v1)] → W p l e (headSpec (wsO yX7_init cX7_init 2 none) { frames := 1, cells := (n2 - n), slots := (z2 - z), locals := 24 }).room s m [rr G u0].toArray below meth c H locs (na - n) (za - z) (MQ below (Qcn G none f' n2) [rr G u0].toArray s (n2 - n) (z2 - z) (WA G)) (F0 m 47 ls []) := by
    intro k47
    induction k47 with
    | zero => intro v0 v1 fa na za H locs ls hna hza hE _ _ _; cases (show (none : Option (Hp × Nat × Nat)) = some (f', n2, z2) from hE)
    | succ k47 ih47 =>
      intro v0 v1 fa na za H locs ls hna hza hE hW hS hl
      replace hE : m_X7_init_b47 F (m_X7_init_L47 F k47) v0 v1 fa na za = some (f', n2, z2) := hE
      refine lv_iload_n hx hb dX7_init_47 rfl (lv_at hl 1 rfl) ?_
      refine lv_bipush (v := (40 : Int32)) hx hb dX7_init_48 (by decide) ?_
      refine lv_icmp_ge (tgt := 68) hx hb dX7_init_50 (by decide) (fun q1 => ?_) (fun q1 => ?_)
      · replace hE := ite_t q1 hE
        obtain ⟨rfl, rfl, rfl⟩ := so3 hE
        exact s_vret hx hb hr hlocks hW hS dX7_init_68
      · replace hE := ite_f q1 hE
        refine s_aload_n hx hb dX7_init_53 rfl (lv_at hl 0 rfl) ?_
        obtain ⟨x2, hx2, hE⟩ := bd hE
        refine s_gR hx hb hT u_X7 hown hK hW hx2 rfl (by decide) fl_X7_13 rfl dX7_init_54 ?_
        refine lv_iload_n hx hb dX7_init_57 rfl (lv_at hl 1 rfl) ?_
        refine s_getEn hx hb hT hK hS hown 0 (by decide) fl_X7_30 dX7_init_58 ?_
        obtain ⟨f3, hf3, hE⟩ := bd hE
        refine s_stR hx hb hK hW hS (by decide) rfl hf3 dX7_init_61 (fun H locs hW hS => ?_)
        obtain ⟨y4, ey4⟩ : ∃ y : Int32, y = v1 + (1 : Int32) := ⟨_, rfl⟩
        replace hE := nm_o ey4 hE
        refine lv_iinc (k := 1) (v := y4) (lv' := [(1, .int y4), (0, rr G v0)]) hx hb dX7_init_62 hl rfl (by rw [ey4]; rfl) (by decide) (by simp [cat_rr]) (fun ls hl => ?_)
        refine lv_goto (tgt := 47) hx hb dX7_init_65 (by decide) ?_
        exact ih47 _ _ _ _ _ _ _ _ (by omega) (by omega) hE hW hS (lv_sub hl [1, 0] rfl)
  refine W.cs (cells' := n - n) (slots' := z - z) (by omega) (by omega) ?_
  refine s_aload_n hx hb dX7_init_0 rfl (lv_at hl 0 rfl) ?_
  obtain ⟨c5, hE⟩ := ck hE
  refine s_obj hx hb hml hl.1 hown hT ob_X7_3 ob_im ob_cd c5 (Nat.le_of_ble_eq_true rfl) (Nat.le_of_ble_eq_true rfl) (Nat.le_of_ble_eq_true rfl) dX7_init_1 ?_
  refine s_aload_n hx hb dX7_init_4 rfl (lv_at hl 0 rfl) ?_
  refine lv_bipush (v := (40 : Int32)) hx hb dX7_init_5 (by decide) ?_
  obtain ⟨c6, hE⟩ := ck hE
  replace c6 := of_decide_eq_true c6
  obtain ⟨g7a, g7b, hE⟩ := grow_of hE
  replace g7a : n + 1 ≤ n2 := g7a
  replace g7b : z + Int32.toNatClampNeg (40 : Int32) ≤ z2 := g7b
  obtain ⟨f8, ef8⟩ : ∃ y : Hp, y = va_up f (n) (some (.inr (8, Int32.toNatClampNeg (40 : Int32), .inr (.inr (.inr (.inr fun _ => none)))))) := ⟨_, rfl⟩
  replace hE := nm_o ef8 hE
  refine s_newQ (t := 8) hx hb hT hown rfl (by decide) cl_X7_11 (by decide) hK hW hS c6.1 (Nat.le_trans (Nat.mul_le_mul_right _ c6.2) (by decide)) (show n - n + 1 ≤ n2 - n by omega) (show z - z + Int32.toNatClampNeg (40 : Int32) ≤ z2 - z by omega) dX7_init_7 (fun H hW hS => ?_)
  rw [← ef8] at hW
  refine W.cs (cells' := n + 1 - n) (slots' := z + Int32.toNatClampNeg (40 : Int32) - z) (by omega) (by omega) ?_
  obtain ⟨f9, hf9, hE⟩ := bd hE
  refine s_putR hx hb hT u_X7 tyX7 tyX7_ok nmX7 hown hK hW hS hf9 rfl (by decide) fl_X7_13 rfl (Or.inr ⟨rfl, hin, rfl⟩) rfl fit_a dX7_init_10 (fun H locs hW hS => ?_)
  refine s_aload_n hx hb dX7_init_13 rfl (lv_at hl 0 rfl) ?_
  refine lv_bipush (v := (40 : Int32)) hx hb dX7_init_14 (by decide) ?_
  obtain ⟨c10, hE⟩ := ck hE
  replace c10 := of_decide_eq_true c10
  obtain ⟨g11a, g11b, hE⟩ := grow_of hE
  replace g11a : n + 1 + 1 ≤ n2 := g11a
  replace g11b : z + Int32.toNatClampNeg (40 : Int32) + Int32.toNatClampNeg (40 : Int32) ≤ z2 := g11b
  obtain ⟨f12, ef12⟩ : ∃ y : Hp, y = va_up f9 (n + 1) (some (.inr (1, Int32.toNatClampNeg (40 : Int32), .inl fun _ => 0))) := ⟨_, rfl⟩
  replace hE := nm_o ef12 hE
  refine s_newA (t := 1) (x := .inl fun _ => 0) hx hb rfl (by decide) (hT _ ac_int) (fun h => h) hK hW hS (fun _ => rfl) c10.1 (Nat.le_trans (Nat.mul_le_mul_right _ c10.2) (by decide)) (show n + 1 - n + 1 ≤ n2 - n by omega) (show z + Int32.toNatClampNeg (40 : Int32) - z + Int32.toNatClampNeg (40 : Int32) ≤ z2 - z by omega) dX7_init_16 (fun H hW hS => ?_)
  rw [← ef12] at hW
  refine W.cs (cells' := n + 1 + 1 - n) (slots' := z + Int32.toNatClampNeg (40 : Int32) + Int32.toNatClampNeg (40 : Int32) - z) (by omega) (by omega) ?_
  obtain ⟨f13, hf13, hE⟩ := bd hE
  refine s_putR hx hb hT u_X7 tyX7 tyX7_ok nmX7 hown hK hW hS hf13 rfl (by decide) fl_X7_17 rfl (Or.inr ⟨rfl, hin, rfl⟩) rfl fit_a dX7_init_18 (fun H locs hW hS => ?_)
  refine s_aload_n hx hb dX7_init_21 rfl (lv_at hl 0 rfl) ?_
  refine lv_bipush (v := (40 : Int32)) hx hb dX7_init_22 (by decide) ?_
  obtain ⟨c14, hE⟩ := ck hE
  replace c14 := of_decide_eq_true c14
  obtain ⟨g15a, g15b, hE⟩ := grow_of hE
  replace g15a : n + 1 + 1 + 1 ≤ n2 := g15a
  replace g15b : z + Int32.toNatClampNeg (40 : Int32) + Int32.toNatClampNeg (40 : Int32) + Int32.toNatClampNeg (40 : Int32) ≤ z2 := g15b
  obtain ⟨f16, ef16⟩ : ∃ y : Hp, y = va_up f13 (n + 1 + 1) (some (.inr (1, Int32.toNatClampNeg (40 : Int32), .inl fun _ => 0))) := ⟨_, rfl⟩
  replace hE := nm_o ef16 hE
  refine s_newA (t := 1) (x := .inl fun _ => 0) hx hb rfl (by decide) (hT _ ac_int) (fun h => h) hK hW hS (fun _ => rfl) c14.1 (Nat.le_trans (Nat.mul_le_mul_right _ c14.2) (by decide)) (show n + 1 + 1 - n + 1 ≤ n2 - n by omega) (show z + Int32.toNatClampNeg (40 : Int32) + Int32.toNatClampNeg (40 : Int32) - z + Int32.toNatClampNeg (40 : Int32) ≤ z2 - z by omega) dX7_init_24 (fun H hW hS => ?_)
  rw [← ef16] at hW
  refine W.cs (cells' := n + 1 + 1 + 1 - n) (slots' := z + Int32.toNatClampNeg (40 : Int32) + Int32.toNatClampNeg (40 : Int32) + Int32.toNatClampNeg (40 : Int32) - z) (by omega) (by omega) ?_
  obtain ⟨f17, hf17, hE⟩ := bd hE
  refine s_putR hx hb hT u_X7 tyX7 tyX7_ok nmX7 hown hK hW hS hf17 rfl (by decide) fl_X7_21 rfl (Or.inr ⟨rfl, hin, rfl⟩) rfl fit_a dX7_init_26 (fun H locs hW hS => ?_)
  refine s_aload_n hx hb dX7_init_29 rfl (lv_at hl 0 rfl) ?_
  refine lv_bipush (v := (40 : Int32)) hx hb dX7_init_30 (by decide) ?_
  obtain ⟨c18, hE⟩ := ck hE
  replace c18 := of_decide_eq_true c18
  obtain ⟨g19a, g19b, hE⟩ := grow_of hE
  replace g19a : n + 1 + 1 + 1 + 1 ≤ n2 := g19a
  replace g19b : z + Int32.toNatClampNeg (40 : Int32) + Int32.toNatClampNeg (40 : Int32) + Int32.toNatClampNeg (40 : Int32) + Int32.toNatClampNeg (40 : Int32) ≤ z2 := g19b
  obtain ⟨f20, ef20⟩ : ∃ y : Hp, y = va_up f17 (n + 1 + 1 + 1) (some (.inr (1, Int32.toNatClampNeg (40 : Int32), .inl fun _ => 0))) := ⟨_, rfl⟩
  replace hE := nm_o ef20 hE
  refine s_newA (t := 1) (x := .inl fun _ => 0) hx hb rfl (by decide) (hT _ ac_int) (fun h => h) hK hW hS (fun _ => rfl) c18.1 (Nat.le_trans (Nat.mul_le_mul_right _ c18.2) (by decide)) (show n + 1 + 1 + 1 - n + 1 ≤ n2 - n by omega) (show z + Int32.toNatClampNeg (40 : Int32) + Int32.toNatClampNeg (40 : Int32) + Int32.toNatClampNeg (40 : Int32) - z + Int32.toNatClampNeg (40 : Int32) ≤ z2 - z by omega) dX7_init_32 (fun H hW hS => ?_)
  rw [← ef20] at hW
  refine W.cs (cells' := n + 1 + 1 + 1 + 1 - n) (slots' := z + Int32.toNatClampNeg (40 : Int32) + Int32.toNatClampNeg (40 : Int32) + Int32.toNatClampNeg (40 : Int32) + Int32.toNatClampNeg (40 : Int32) - z) (by omega) (by omega) ?_
  obtain ⟨f21, hf21, hE⟩ := bd hE
  refine s_putR hx hb hT u_X7 tyX7 tyX7_ok nmX7 hown hK hW hS hf21 rfl (by decide) fl_X7_24 rfl (Or.inr ⟨rfl, hin, rfl⟩) rfl fit_a dX7_init_34 (fun H locs hW hS => ?_)
  refine s_aload_n hx hb dX7_init_37 rfl (lv_at hl 0 rfl) ?_
  refine lv_bipush (v := (40 : Int32)) hx hb dX7_init_38 (by decide) ?_
  obtain ⟨c22, hE⟩ := ck hE
  replace c22 := of_decide_eq_true c22
  obtain ⟨g23a, g23b, hE⟩ := grow_of hE
  replace g23a : n + 1 + 1 + 1 + 1 + 1 ≤ n2 := g23a
  replace g23b : z + Int32.toNatClampNeg (40 : Int32) + Int32.toNatClampNeg (40 : Int32) + Int32.toNatClampNeg (40 : Int32) + Int32.toNatClampNeg (40 : Int32) + Int32.toNatClampNeg (40 : Int32) ≤ z2 := g23b
  obtain ⟨f24, ef24⟩ : ∃ y : Hp, y = va_up f21 (n + 1 + 1 + 1 + 1) (some (.inr (1, Int32.toNatClampNeg (40 : Int32), .inl fun _ => 0))) := ⟨_, rfl⟩
  replace hE := nm_o ef24 hE
  refine s_newA (t := 1) (x := .inl fun _ => 0) hx hb rfl (by decide) (hT _ ac_int) (fun h => h) hK hW hS (fun _ => rfl) c22.1 (Nat.le_trans (Nat.mul_le_mul_right _ c22.2) (by decide)) (show n + 1 + 1 + 1 + 1 - n + 1 ≤ n2 - n by omega) (show z + Int32.toNatClampNeg (40 : Int32) + Int32.toNatClampNeg (40 : Int32) + Int32.toNatClampNeg (40 : Int32) + Int32.toNatClampNeg (40 : Int32) - z + Int32.toNatClampNeg (40 : Int32) ≤ z2 - z by omega) dX7_init_40 (fun H hW hS => ?_)
  rw [← ef24] at hW
  refine W.cs (cells' := n + 1 + 1 + 1 + 1 + 1 - n) (slots' := z + Int32.toNatClampNeg (40 : Int32) + Int32.toNatClampNeg (40 : Int32) + Int32.toNatClampNeg (40 : Int32) + Int32.toNatClampNeg (40 : Int32) + Int32.toNatClampNeg (40 : Int32) - z) (by omega) (by omega) ?_
  obtain ⟨f25, hf25, hE⟩ := bd hE
  refine s_putR hx hb hT u_X7 tyX7 tyX7_ok nmX7 hown hK hW hS hf25 rfl (by decide) fl_X7_27 rfl (Or.inr ⟨rfl, hin, rfl⟩) rfl fit_a dX7_init_42 (fun H locs hW hS => ?_)
  refine lv_iconst (v := (0 : Int32)) hx hb dX7_init_45 (by decide) ?_
  refine lv_istore_n (i := 1) (lv' := [(1, .int (0 : Int32)), (0, rr G u0)]) hx hb dX7_init_46 rfl hl (by decide) (by simp [cat_rr]) (fun ls hl => ?_)
  exact hC47 F _ _ _ _ _ _ _ _ (by omega) (by omega) hE hW hS (lv_sub hl [1, 0] rfl)
set_option maxHeartbeats 4000000 in
set_option maxRecDepth 100000 in
theorem S_X2_init (l : Launch) (G : GG) (F : Nat) {u0 : Option Nat} {f : Hp} {f' : Hp} {n : Nat} (hE : m_X2_init F u0 f = some f') : Ctr l G yX2_init cX2_init 1 none 1 24 [rr G u0] f n none f' n 0 0 := by
  refine Met.ofW (cc := cX2_init) (maxL := 1) (ret := none) (by decide) rfl ?_
  intro p e s m args below meth c s₁ B hml hv
  obtain ⟨rfl, hK, hW⟩ := hv
  have hx := B.exec
  have hb := B.bytes
  have hr := B.returns
  have hts := atoms_spec (ws := wsO yX2_init cX2_init 1 none) B.pre
  have hT : ∀ w ∈ TB, w.before [rr G u0].toArray s = true := fun w hw => hts w (List.mem_cons_of_mem _ hw)
  have hown : s.vm.findClass RX2 = some m.cls := findClass_of_methodNamed B.named
  have hlocks := B.notSynchronized
  have hin : meth.name = "<init>" := (name_of_methodNamed B.named B.method).1
  have CF : CallFix p m c cX2_init 1 s [rr G u0].toArray TB RX2 := ⟨hx, hb, hml, hown, hT⟩
  have hS : va_S (WA G) s.heap s.heap [] := va_S.rf
  have hl : lv_has (lg_sl ([rr G u0]) ++ List.replicate (1 - (lg_sl ([rr G u0])).length) Slot.unset).toArray 1 [(0, rr G u0)] := by cases u0 <;> exact lv_entry _ (Nat.le_of_ble_eq_true rfl)
  rw [lg_entry_eq]
  generalize (lg_sl ([rr G u0]) ++ List.replicate (1 - (lg_sl ([rr G u0])).length) Slot.unset).toArray = ls at hl ⊢
  refine s_aload_n hx hb dX2_init_0 rfl (lv_at hl 0 rfl) ?_
  obtain ⟨c1, hE⟩ := ck hE
  refine s_obj hx hb hml hl.1 hown hT ob_X2_3 ob_im ob_cd c1 (Nat.le_of_ble_eq_true rfl) (Nat.le_of_ble_eq_true rfl) (Nat.le_of_ble_eq_true rfl) dX2_init_1 ?_
  refine s_aload_n hx hb dX2_init_4 rfl (lv_at hl 0 rfl) ?_
  refine s_getEn hx hb hT hK hS hown 4 (by decide) fl_X2_9 dX2_init_5 ?_
  obtain ⟨f2, hf2, hE⟩ := bd hE
  refine s_putR hx hb hT u_X2 tyX2 tyX2_ok nmX2 hown hK hW hS hf2 rfl (by decide) fl_X2_15 rfl (Or.inl rfl) rfl fit_o dX2_init_8 (fun H locs hW hS => ?_)
  refine s_aload_n hx hb dX2_init_11 rfl (lv_at hl 0 rfl) ?_
  refine lv_iconst (v := (1 : Int32)) hx hb dX2_init_12 (by decide) ?_
  obtain ⟨f3, hf3, hE⟩ := bd hE
  refine s_putI hx hb hT u_X2 tyX2 tyX2_ok nmX2 hown hK hW hS hf3 rfl (by decide) fl_X2_20 rfl (Or.inl rfl) rfl dX2_init_13 (fun H locs hW hS => ?_)
  obtain rfl := so1 hE
  exact s_vret hx hb hr hlocks hW hS dX2_init_16
set_option maxHeartbeats 4000000 in
set_option maxRecDepth 100000 in
theorem S_X4_init (l : Launch) (G : GG) (F : Nat) {u0 : Option Nat} {f : Hp} {f' : Hp} {n n2 z z2 : Nat} (hE : m_X4_init F u0 f n z = some (f', n2, z2)) : Ctr l G yX4_init cX4_init 2 none 2 45 [rr G u0] f n none f' n2 (n2 - n) (z2 - z) := by
  refine Met.ofW (cc := cX4_init) (maxL := 2) (ret := none) (by decide) rfl ?_
  intro p e s m args below meth c s₁ B hml hv
  obtain ⟨rfl, hK, hW⟩ := hv
  have hx := B.exec
  have hb := B.bytes
  have hr := B.returns
  have hts := atoms_spec (ws := wsO yX4_init cX4_init 2 none) B.pre
  have hT : ∀ w ∈ TB, w.before [rr G u0].toArray s = true := fun w hw => hts w (List.mem_cons_of_mem _ hw)
  have hown : s.vm.findClass RX4 = some m.cls := findClass_of_methodNamed B.named
  have hlocks := B.notSynchronized
  have hin : meth.name = "<init>" := (name_of_methodNamed B.named B.method).1
  have CF : CallFix p m c cX4_init 2 s [rr G u0].toArray TB RX4 := ⟨hx, hb, hml, hown, hT⟩
  have hS : va_S (WA G) s.heap s.heap [] := va_S.rf
  have hl : lv_has (lg_sl ([rr G u0]) ++ List.replicate (2 - (lg_sl ([rr G u0])).length) Slot.unset).toArray 2 [(0, rr G u0)] := by cases u0 <;> exact lv_entry _ (Nat.le_of_ble_eq_true rfl)
  rw [lg_entry_eq]
  generalize (lg_sl ([rr G u0]) ++ List.replicate (2 - (lg_sl ([rr G u0])).length) Slot.unset).toArray = ls at hl ⊢
  have hC99 : ∀ (k99 : Nat), ∀ (v0 : Option Nat) (v1 : Int32) (fa : Hp) (na za : Nat) (H : Heap) (locs : List Loc) (ls : Array Slot), n ≤ na → z ≤ za → m_X4_init_L99 F k99 v0 v1 fa na za = some (f', n2, z2) → Wd G fa na H → va_S (WA G) s.heap H locs → lv_has ls 2 [(0, rr G v0), (1, .int v1)] → W p l e (headSpec (wsO yX4_init cX4_init 2 none) { frames := 2, cells := (n2 - n), slots := (z2 - z), locals := 45 }).room s m [rr G u0].toArray below meth c H locs (na - n) (za - z) (MQ below (Qcn G none f' n2) [rr G u0].toArray s (n2 - n) (z2 - z) (WA G)) (F0 m 99 ls []) := by
    intro k99
    induction k99 with
    | zero => intro v0 v1 fa na za H locs ls hna hza hE _ _ _; cases (show (none : Option (Hp × Nat × Nat)) = some (f', n2, z2) from hE)
    | succ k99 ih99 =>
      intro v0 v1 fa na za H locs ls hna hza hE hW hS hl
      replace hE : m_X4_init_b99 F (m_X4_init_L99 F k99) v0 v1 fa na za = some (f', n2, z2) := hE
      refine lv_iload_n hx hb dX4_init_99 rfl (lv_at hl 1 rfl) ?_
      refine lv_bipush (v := (6 : Int32)) hx hb dX4_init_100 (by decide) ?_
      refine lv_icmp_ge (tgt := 124) hx hb dX4_init_102 (by decide) (fun q9 => ?_) (fun q9 => ?_)
      · replace hE := ite_t q9 hE
        refine s_aload_n hx hb dX4_init_124 rfl (lv_at hl 0 rfl) ?_
        obtain ⟨x10, hx10, hE⟩ := bd hE
        refine s_gR hx hb hT u_X4 hown hK hW hx10 rfl (by decide) fl_X4_27 rfl dX4_init_125 ?_
        refine lv_iconst (v := (1 : Int32)) hx hb dX4_init_128 (by decide) ?_
        obtain ⟨g11a, g11b, hE⟩ := grow_of hE
        replace g11a : na ≤ n2 := g11a
        replace g11b : za ≤ z2 := g11b
        obtain ⟨f12, hf12, hE⟩ := bd hE
        refine s_callS (As := [rr G x10, .int (1 : Int32)]) (rest := []) CF hK hW hS (S_J7_fill_53178 l G F hf12) gs_X4_49 hd_J7_fill_53178.2 ⟨Nat.le_of_ble_eq_true rfl, Nat.le_of_ble_eq_true rfl⟩ rfl hl.1 rfl (Nat.le_of_ble_eq_true rfl) dX4_init_129 ⟨show na - n + 0 ≤ n2 - n by omega, show za - z + 0 ≤ z2 - z by omega⟩ (fun H locs hW hS => ?_)
        obtain ⟨rfl, rfl, rfl⟩ := so3 hE
        exact s_vret hx hb hr hlocks hW hS dX4_init_132
      · replace hE := ite_f q9 hE
        refine s_aload_n hx hb dX4_init_105 rfl (lv_at hl 0 rfl) ?_
        obtain ⟨x13, hx13, hE⟩ := bd hE
        refine s_gR hx hb hT u_X4 hown hK hW hx13 rfl (by decide) fl_X4_23 rfl dX4_init_106 ?_
        refine lv_iload_n hx hb dX4_init_109 rfl (lv_at hl 1 rfl) ?_
        obtain ⟨g14a, g14b, hE⟩ := grow_of hE
        replace g14a : na + 1 ≤ n2 := g14a
        replace g14b : za + 3 ≤ z2 := g14b
        obtain ⟨f15, ef15⟩ : ∃ y : Hp, y = va_up fa (na) (some (.inl (1, [.null, .int 0, .long 0]))) := ⟨_, rfl⟩
        replace hE := nm_o ef15 hE
        refine s_new (ci := 1) (fs := [.null, .int 0, .long 0]) hx hb hT u_X2 tyX2 tyX2_ok hown cl_X4_21 ist_X2 ini_CopyOrders_Desk hK hW hS rfl (fun j hj => by match j, hj with | 0, _ => rfl | 1, _ => rfl | 2, _ => rfl) rfl (show na - n + 1 ≤ n2 - n by omega) (show za - z + 3 ≤ z2 - z by omega) dX4_init_110 (fun H hW hS => ?_)
        rw [← ef15] at hW
        refine W.cs (cells' := na + 1 - n) (slots' := za + 3 - z) (by omega) (by omega) ?_
        refine lv_dup hx hb dX4_init_113 (cat_rr G _) ?_
        obtain ⟨g16a, g16b, hE⟩ := grow_of hE
        replace g16a : na + 1 ≤ n2 := g16a
        replace g16b : za + 3 ≤ z2 := g16b
        obtain ⟨f17, hf17, hE⟩ := bd hE
        refine s_callIN (As := []) (rest := [rr G (some (na)), .int v1, rr G x13]) CF hK hW hS (S_X2_init l G F hf17) go_X2_init nm_X4_48 ini_CopyOrders_Desk im_X2_init rfl hd_X2_init.2 ⟨Nat.le_of_ble_eq_true rfl, Nat.le_of_ble_eq_true rfl⟩ rfl hl.1 rfl (Nat.le_of_ble_eq_true rfl) dX4_init_114 ⟨show na + 1 - n + 0 ≤ n2 - n by omega, show za + 3 - z + 0 ≤ z2 - z by omega⟩ (fun H locs hW hS => ?_)
        obtain ⟨f18, hf18, hE⟩ := bd hE
        refine s_stR hx hb hK hW hS (by decide) rfl hf18 dX4_init_117 (fun H locs hW hS => ?_)
        obtain ⟨y19, ey19⟩ : ∃ y : Int32, y = v1 + (1 : Int32) := ⟨_, rfl⟩
        replace hE := nm_o ey19 hE
        refine lv_iinc (k := 1) (v := y19) (lv' := [(1, .int y19), (0, rr G v0)]) hx hb dX4_init_118 hl rfl (by rw [ey19]; rfl) (by decide) (by simp [cat_rr]) (fun ls hl => ?_)
        refine lv_goto (tgt := 99) hx hb dX4_init_121 (by decide) ?_
        exact ih99 _ _ _ _ _ _ _ _ (by omega) (by omega) hE hW hS (lv_sub hl [1, 0] rfl)
  have hC72 : ∀ (k72 : Nat), ∀ (v0 : Option Nat) (v1 : Int32) (fa : Hp) (na za : Nat) (H : Heap) (locs : List Loc) (ls : Array Slot), n ≤ na → z ≤ za → m_X4_init_L72 F k72 v0 v1 fa na za = some (f', n2, z2) → Wd G fa na H → va_S (WA G) s.heap H locs → lv_has ls 2 [(0, rr G v0), (1, .int v1)] → W p l e (headSpec (wsO yX4_init cX4_init 2 none) { frames := 2, cells := (n2 - n), slots := (z2 - z), locals := 45 }).room s m [rr G u0].toArray below meth c H locs (na - n) (za - z) (MQ below (Qcn G none f' n2) [rr G u0].toArray s (n2 - n) (z2 - z) (WA G)) (F0 m 72 ls []) := by
    intro k72
    induction k72 with
    | zero => intro v0 v1 fa na za H locs ls hna hza hE _ _ _; cases (show (none : Option (Hp × Nat × Nat)) = some (f', n2, z2) from hE)
    | succ k72 ih72 =>
      intro v0 v1 fa na za H locs ls hna hza hE hW hS hl
      replace hE : m_X4_init_b72 F (m_X4_init_L72 F k72) v0 v1 fa na za = some (f', n2, z2) := hE
      refine lv_iload_n hx hb dX4_init_72 rfl (lv_at hl 1 rfl) ?_
      refine lv_bipush (v := (10 : Int32)) hx hb dX4_init_73 (by decide) ?_
      refine lv_icmp_ge (tgt := 97) hx hb dX4_init_75 (by decide) (fun q1 => ?_) (fun q1 => ?_)
      · replace hE := ite_t q1 hE
        refine lv_iconst (v := (0 : Int32)) hx hb dX4_init_97 (by decide) ?_
        refine lv_istore_n (i := 1) (lv' := [(1, .int (0 : Int32)), (0, rr G v0)]) hx hb dX4_init_98 rfl hl (by decide) (by simp [cat_rr]) (fun ls hl => ?_)
        exact hC99 F _ _ _ _ _ _ _ _ (by omega) (by omega) hE hW hS (lv_sub hl [1, 0] rfl)
      · replace hE := ite_f q1 hE
        refine s_aload_n hx hb dX4_init_78 rfl (lv_at hl 0 rfl) ?_
        obtain ⟨x2, hx2, hE⟩ := bd hE
        refine s_gR hx hb hT u_X4 hown hK hW hx2 rfl (by decide) fl_X4_17 rfl dX4_init_79 ?_
        refine lv_iload_n hx hb dX4_init_82 rfl (lv_at hl 1 rfl) ?_
        obtain ⟨g3a, g3b, hE⟩ := grow_of hE
        replace g3a : na + 1 ≤ n2 := g3a
        replace g3b : za + 6 ≤ z2 := g3b
        obtain ⟨f4, ef4⟩ : ∃ y : Hp, y = va_up fa (na) (some (.inl (0, [.long 0, .int 0, .int 0, .int 0, .int 0, .int 0]))) := ⟨_, rfl⟩
        replace hE := nm_o ef4 hE
        refine s_new (ci := 0) (fs := [.long 0, .int 0, .int 0, .int 0, .int 0, .int 0]) hx hb hT u_X1 tyX1 tyX1_ok hown cl_X4_15 ist_X1 ini_CopyOrders_Copy hK hW hS rfl (fun j hj => by match j, hj with | 0, _ => rfl | 1, _ => rfl | 2, _ => rfl | 3, _ => rfl | 4, _ => rfl | 5, _ => rfl) rfl (show na - n + 1 ≤ n2 - n by omega) (show za - z + 6 ≤ z2 - z by omega) dX4_init_83 (fun H hW hS => ?_)
        rw [← ef4] at hW
        refine W.cs (cells' := na + 1 - n) (slots' := za + 6 - z) (by omega) (by omega) ?_
        refine lv_dup hx hb dX4_init_86 (cat_rr G _) ?_
        obtain ⟨g5a, g5b, hE⟩ := grow_of hE
        replace g5a : na + 1 ≤ n2 := g5a
        replace g5b : za + 6 ≤ z2 := g5b
        obtain ⟨f6, hf6, hE⟩ := bd hE
        refine s_callIN (As := []) (rest := [rr G (some (na)), .int v1, rr G x2]) CF hK hW hS (S_X1_init l G F hf6) go_X1_init nm_X4_47 ini_CopyOrders_Copy im_X1_init rfl hd_X1_init.2 ⟨Nat.le_of_ble_eq_true rfl, Nat.le_of_ble_eq_true rfl⟩ rfl hl.1 rfl (Nat.le_of_ble_eq_true rfl) dX4_init_87 ⟨show na + 1 - n + 0 ≤ n2 - n by omega, show za + 6 - z + 0 ≤ z2 - z by omega⟩ (fun H locs hW hS => ?_)
        obtain ⟨f7, hf7, hE⟩ := bd hE
        refine s_stR hx hb hK hW hS (by decide) rfl hf7 dX4_init_90 (fun H locs hW hS => ?_)
        obtain ⟨y8, ey8⟩ : ∃ y : Int32, y = v1 + (1 : Int32) := ⟨_, rfl⟩
        replace hE := nm_o ey8 hE
        refine lv_iinc (k := 1) (v := y8) (lv' := [(1, .int y8), (0, rr G v0)]) hx hb dX4_init_91 hl rfl (by rw [ey8]; rfl) (by decide) (by simp [cat_rr]) (fun ls hl => ?_)
        refine lv_goto (tgt := 72) hx hb dX4_init_94 (by decide) ?_
        exact ih72 _ _ _ _ _ _ _ _ (by omega) (by omega) hE hW hS (lv_sub hl [1, 0] rfl)
  refine W.cs (cells' := n - n) (slots' := z - z) (by omega) (by omega) ?_
  refine s_aload_n hx hb dX4_init_0 rfl (lv_at hl 0 rfl) ?_
  obtain ⟨c20, hE⟩ := ck hE
  refine s_obj hx hb hml hl.1 hown hT ob_X4_3 ob_im ob_cd c20 (Nat.le_of_ble_eq_true rfl) (Nat.le_of_ble_eq_true rfl) (Nat.le_of_ble_eq_true rfl) dX4_init_1 ?_
  refine s_aload_n hx hb dX4_init_4 rfl (lv_at hl 0 rfl) ?_
  refine lv_iconst (v := (4 : Int32)) hx hb dX4_init_5 (by decide) ?_
  obtain ⟨f21, hf21, hE⟩ := bd hE
  refine s_putI hx hb hT u_X4 tyX4 tyX4_ok nmX4 hown hK hW hS hf21 rfl (by decide) fl_X4_9 rfl (Or.inl rfl) rfl dX4_init_6 (fun H locs hW hS => ?_)
  refine s_aload_n hx hb dX4_init_9 rfl (lv_at hl 0 rfl) ?_
  refine lv_bipush (v := (10 : Int32)) hx hb dX4_init_10 (by decide) ?_
  obtain ⟨c22, hE⟩ := ck hE
  replace c22 := of_decide_eq_true c22
  obtain ⟨g23a, g23b, hE⟩ := grow_of hE
  replace g23a : n + 1 ≤ n2 := g23a
  replace g23b : z + Int32.toNatClampNeg (10 : Int32) ≤ z2 := g23b
  obtain ⟨f24, ef24⟩ : ∃ y : Hp, y = va_up f21 (n) (some (.inr (4, Int32.toNatClampNeg (10 : Int32), .inr (.inr (.inr (.inr fun _ => none)))))) := ⟨_, rfl⟩
  replace hE := nm_o ef24 hE
  refine s_newQ (t := 4) hx hb hT hown rfl (by decide) cl_X4_15 (by decide) hK hW hS c22.1 (Nat.le_trans (Nat.mul_le_mul_right _ c22.2) (by decide)) (show n - n + 1 ≤ n2 - n by omega) (show z - z + Int32.toNatClampNeg (10 : Int32) ≤ z2 - z by omega) dX4_init_12 (fun H hW hS => ?_)
  rw [← ef24] at hW
  refine W.cs (cells' := n + 1 - n) (slots' := z + Int32.toNatClampNeg (10 : Int32) - z) (by omega) (by omega) ?_
  obtain ⟨f25, hf25, hE⟩ := bd hE
  refine s_putR hx hb hT u_X4 tyX4 tyX4_ok nmX4 hown hK hW hS hf25 rfl (by decide) fl_X4_17 rfl (Or.inr ⟨rfl, hin, rfl⟩) rfl fit_a dX4_init_15 (fun H locs hW hS => ?_)
  refine s_aload_n hx hb dX4_init_18 rfl (lv_at hl 0 rfl) ?_
  refine lv_bipush (v := (6 : Int32)) hx hb dX4_init_19 (by decide) ?_
  obtain ⟨c26, hE⟩ := ck hE
  replace c26 := of_decide_eq_true c26
  obtain ⟨g27a, g27b, hE⟩ := grow_of hE
  replace g27a : n + 1 + 1 ≤ n2 := g27a
  replace g27b : z + Int32.toNatClampNeg (10 : Int32) + Int32.toNatClampNeg (6 : Int32) ≤ z2 := g27b
  obtain ⟨f28, ef28⟩ : ∃ y : Hp, y = va_up f25 (n + 1) (some (.inr (5, Int32.toNatClampNeg (6 : Int32), .inr (.inr (.inr (.inr fun _ => none)))))) := ⟨_, rfl⟩
  replace hE := nm_o ef28 hE
  refine s_newQ (t := 5) hx hb hT hown rfl (by decide) cl_X4_21 (by decide) hK hW hS c26.1 (Nat.le_trans (Nat.mul_le_mul_right _ c26.2) (by decide)) (show n + 1 - n + 1 ≤ n2 - n by omega) (show z + Int32.toNatClampNeg (10 : Int32) - z + Int32.toNatClampNeg (6 : Int32) ≤ z2 - z by omega) dX4_init_21 (fun H hW hS => ?_)
  rw [← ef28] at hW
  refine W.cs (cells' := n + 1 + 1 - n) (slots' := z + Int32.toNatClampNeg (10 : Int32) + Int32.toNatClampNeg (6 : Int32) - z) (by omega) (by omega) ?_
  obtain ⟨f29, hf29, hE⟩ := bd hE
  refine s_putR hx hb hT u_X4 tyX4 tyX4_ok nmX4 hown hK hW hS hf29 rfl (by decide) fl_X4_23 rfl (Or.inr ⟨rfl, hin, rfl⟩) rfl fit_a dX4_init_24 (fun H locs hW hS => ?_)
  refine s_aload_n hx hb dX4_init_27 rfl (lv_at hl 0 rfl) ?_
  refine lv_bipush (v := (6 : Int32)) hx hb dX4_init_28 (by decide) ?_
  obtain ⟨c30, hE⟩ := ck hE
  replace c30 := of_decide_eq_true c30
  obtain ⟨g31a, g31b, hE⟩ := grow_of hE
  replace g31a : n + 1 + 1 + 1 ≤ n2 := g31a
  replace g31b : z + Int32.toNatClampNeg (10 : Int32) + Int32.toNatClampNeg (6 : Int32) + Int32.toNatClampNeg (6 : Int32) ≤ z2 := g31b
  obtain ⟨f32, ef32⟩ : ∃ y : Hp, y = va_up f29 (n + 1 + 1) (some (.inr (1, Int32.toNatClampNeg (6 : Int32), .inl fun _ => 0))) := ⟨_, rfl⟩
  replace hE := nm_o ef32 hE
  refine s_newA (t := 1) (x := .inl fun _ => 0) hx hb rfl (by decide) (hT _ ac_int) (fun h => h) hK hW hS (fun _ => rfl) c30.1 (Nat.le_trans (Nat.mul_le_mul_right _ c30.2) (by decide)) (show n + 1 + 1 - n + 1 ≤ n2 - n by omega) (show z + Int32.toNatClampNeg (10 : Int32) + Int32.toNatClampNeg (6 : Int32) - z + Int32.toNatClampNeg (6 : Int32) ≤ z2 - z by omega) dX4_init_30 (fun H hW hS => ?_)
  rw [← ef32] at hW
  refine W.cs (cells' := n + 1 + 1 + 1 - n) (slots' := z + Int32.toNatClampNeg (10 : Int32) + Int32.toNatClampNeg (6 : Int32) + Int32.toNatClampNeg (6 : Int32) - z) (by omega) (by omega) ?_
  obtain ⟨f33, hf33, hE⟩ := bd hE
  refine s_putR hx hb hT u_X4 tyX4 tyX4_ok nmX4 hown hK hW hS hf33 rfl (by decide) fl_X4_27 rfl (Or.inr ⟨rfl, hin, rfl⟩) rfl fit_a dX4_init_32 (fun H locs hW hS => ?_)
  refine s_aload_n hx hb dX4_init_35 rfl (lv_at hl 0 rfl) ?_
  refine lv_bipush (v := (12 : Int32)) hx hb dX4_init_36 (by decide) ?_
  obtain ⟨c34, hE⟩ := ck hE
  replace c34 := of_decide_eq_true c34
  obtain ⟨g35a, g35b, hE⟩ := grow_of hE
  replace g35a : n + 1 + 1 + 1 + 1 ≤ n2 := g35a
  replace g35b : z + Int32.toNatClampNeg (10 : Int32) + Int32.toNatClampNeg (6 : Int32) + Int32.toNatClampNeg (6 : Int32) + Int32.toNatClampNeg (12 : Int32) ≤ z2 := g35b
  obtain ⟨f36, ef36⟩ : ∃ y : Hp, y = va_up f33 (n + 1 + 1 + 1) (some (.inr (1, Int32.toNatClampNeg (12 : Int32), .inl fun _ => 0))) := ⟨_, rfl⟩
  replace hE := nm_o ef36 hE
  refine s_newA (t := 1) (x := .inl fun _ => 0) hx hb rfl (by decide) (hT _ ac_int) (fun h => h) hK hW hS (fun _ => rfl) c34.1 (Nat.le_trans (Nat.mul_le_mul_right _ c34.2) (by decide)) (show n + 1 + 1 + 1 - n + 1 ≤ n2 - n by omega) (show z + Int32.toNatClampNeg (10 : Int32) + Int32.toNatClampNeg (6 : Int32) + Int32.toNatClampNeg (6 : Int32) - z + Int32.toNatClampNeg (12 : Int32) ≤ z2 - z by omega) dX4_init_38 (fun H hW hS => ?_)
  rw [← ef36] at hW
  refine W.cs (cells' := n + 1 + 1 + 1 + 1 - n) (slots' := z + Int32.toNatClampNeg (10 : Int32) + Int32.toNatClampNeg (6 : Int32) + Int32.toNatClampNeg (6 : Int32) + Int32.toNatClampNeg (12 : Int32) - z) (by omega) (by omega) ?_
  obtain ⟨f37, hf37, hE⟩ := bd hE
  refine s_putR hx hb hT u_X4 tyX4 tyX4_ok nmX4 hown hK hW hS hf37 rfl (by decide) fl_X4_31 rfl (Or.inr ⟨rfl, hin, rfl⟩) rfl fit_a dX4_init_40 (fun H locs hW hS => ?_)
  refine s_aload_n hx hb dX4_init_43 rfl (lv_at hl 0 rfl) ?_
  refine lv_bipush (v := (12 : Int32)) hx hb dX4_init_44 (by decide) ?_
  obtain ⟨c38, hE⟩ := ck hE
  replace c38 := of_decide_eq_true c38
  obtain ⟨g39a, g39b, hE⟩ := grow_of hE
  replace g39a : n + 1 + 1 + 1 + 1 + 1 ≤ n2 := g39a
  replace g39b : z + Int32.toNatClampNeg (10 : Int32) + Int32.toNatClampNeg (6 : Int32) + Int32.toNatClampNeg (6 : Int32) + Int32.toNatClampNeg (12 : Int32) + Int32.toNatClampNeg (12 : Int32) ≤ z2 := g39b
  obtain ⟨f40, ef40⟩ : ∃ y : Hp, y = va_up f37 (n + 1 + 1 + 1 + 1) (some (.inr (1, Int32.toNatClampNeg (12 : Int32), .inl fun _ => 0))) := ⟨_, rfl⟩
  replace hE := nm_o ef40 hE
  refine s_newA (t := 1) (x := .inl fun _ => 0) hx hb rfl (by decide) (hT _ ac_int) (fun h => h) hK hW hS (fun _ => rfl) c38.1 (Nat.le_trans (Nat.mul_le_mul_right _ c38.2) (by decide)) (show n + 1 + 1 + 1 + 1 - n + 1 ≤ n2 - n by omega) (show z + Int32.toNatClampNeg (10 : Int32) + Int32.toNatClampNeg (6 : Int32) + Int32.toNatClampNeg (6 : Int32) + Int32.toNatClampNeg (12 : Int32) - z + Int32.toNatClampNeg (12 : Int32) ≤ z2 - z by omega) dX4_init_46 (fun H hW hS => ?_)
  rw [← ef40] at hW
  refine W.cs (cells' := n + 1 + 1 + 1 + 1 + 1 - n) (slots' := z + Int32.toNatClampNeg (10 : Int32) + Int32.toNatClampNeg (6 : Int32) + Int32.toNatClampNeg (6 : Int32) + Int32.toNatClampNeg (12 : Int32) + Int32.toNatClampNeg (12 : Int32) - z) (by omega) (by omega) ?_
  obtain ⟨f41, hf41, hE⟩ := bd hE
  refine s_putR hx hb hT u_X4 tyX4 tyX4_ok nmX4 hown hK hW hS hf41 rfl (by decide) fl_X4_34 rfl (Or.inr ⟨rfl, hin, rfl⟩) rfl fit_a dX4_init_48 (fun H locs hW hS => ?_)
  refine s_aload_n hx hb dX4_init_51 rfl (lv_at hl 0 rfl) ?_
  refine lv_bipush (v := (49 : Int32)) hx hb dX4_init_52 (by decide) ?_
  obtain ⟨c42, hE⟩ := ck hE
  replace c42 := of_decide_eq_true c42
  obtain ⟨g43a, g43b, hE⟩ := grow_of hE
  replace g43a : n + 1 + 1 + 1 + 1 + 1 + 1 ≤ n2 := g43a
  replace g43b : z + Int32.toNatClampNeg (10 : Int32) + Int32.toNatClampNeg (6 : Int32) + Int32.toNatClampNeg (6 : Int32) + Int32.toNatClampNeg (12 : Int32) + Int32.toNatClampNeg (12 : Int32) + Int32.toNatClampNeg (49 : Int32) ≤ z2 := g43b
  obtain ⟨f44, ef44⟩ : ∃ y : Hp, y = va_up f41 (n + 1 + 1 + 1 + 1 + 1) (some (.inr (1, Int32.toNatClampNeg (49 : Int32), .inl fun _ => 0))) := ⟨_, rfl⟩
  replace hE := nm_o ef44 hE
  refine s_newA (t := 1) (x := .inl fun _ => 0) hx hb rfl (by decide) (hT _ ac_int) (fun h => h) hK hW hS (fun _ => rfl) c42.1 (Nat.le_trans (Nat.mul_le_mul_right _ c42.2) (by decide)) (show n + 1 + 1 + 1 + 1 + 1 - n + 1 ≤ n2 - n by omega) (show z + Int32.toNatClampNeg (10 : Int32) + Int32.toNatClampNeg (6 : Int32) + Int32.toNatClampNeg (6 : Int32) + Int32.toNatClampNeg (12 : Int32) + Int32.toNatClampNeg (12 : Int32) - z + Int32.toNatClampNeg (49 : Int32) ≤ z2 - z by omega) dX4_init_54 (fun H hW hS => ?_)
  rw [← ef44] at hW
  refine W.cs (cells' := n + 1 + 1 + 1 + 1 + 1 + 1 - n) (slots' := z + Int32.toNatClampNeg (10 : Int32) + Int32.toNatClampNeg (6 : Int32) + Int32.toNatClampNeg (6 : Int32) + Int32.toNatClampNeg (12 : Int32) + Int32.toNatClampNeg (12 : Int32) + Int32.toNatClampNeg (49 : Int32) - z) (by omega) (by omega) ?_
  obtain ⟨f45, hf45, hE⟩ := bd hE
  refine s_putR hx hb hT u_X4 tyX4 tyX4_ok nmX4 hown hK hW hS hf45 rfl (by decide) fl_X4_37 rfl (Or.inr ⟨rfl, hin, rfl⟩) rfl fit_a dX4_init_56 (fun H locs hW hS => ?_)
  refine s_aload_n hx hb dX4_init_59 rfl (lv_at hl 0 rfl) ?_
  obtain ⟨g46a, g46b, hE⟩ := grow_of hE
  replace g46a : n + 1 + 1 + 1 + 1 + 1 + 1 + 1 ≤ n2 := g46a
  replace g46b : z + Int32.toNatClampNeg (10 : Int32) + Int32.toNatClampNeg (6 : Int32) + Int32.toNatClampNeg (6 : Int32) + Int32.toNatClampNeg (12 : Int32) + Int32.toNatClampNeg (12 : Int32) + Int32.toNatClampNeg (49 : Int32) + 6 ≤ z2 := g46b
  obtain ⟨f47, ef47⟩ : ∃ y : Hp, y = va_up f45 (n + 1 + 1 + 1 + 1 + 1 + 1) (some (.inl (6, [.int 0, .null, .null, .null, .null, .null]))) := ⟨_, rfl⟩
  replace hE := nm_o ef47 hE
  refine s_new (ci := 6) (fs := [.int 0, .null, .null, .null, .null, .null]) hx hb hT u_X7 tyX7 tyX7_ok hown cl_X4_40 ist_X7 ini_CopyOrders_Sentence hK hW hS rfl (fun j hj => by match j, hj with | 0, _ => rfl | 1, _ => rfl | 2, _ => rfl | 3, _ => rfl | 4, _ => rfl | 5, _ => rfl) rfl (show n + 1 + 1 + 1 + 1 + 1 + 1 - n + 1 ≤ n2 - n by omega) (show z + Int32.toNatClampNeg (10 : Int32) + Int32.toNatClampNeg (6 : Int32) + Int32.toNatClampNeg (6 : Int32) + Int32.toNatClampNeg (12 : Int32) + Int32.toNatClampNeg (12 : Int32) + Int32.toNatClampNeg (49 : Int32) - z + 6 ≤ z2 - z by omega) dX4_init_60 (fun H hW hS => ?_)
  rw [← ef47] at hW
  refine W.cs (cells' := n + 1 + 1 + 1 + 1 + 1 + 1 + 1 - n) (slots' := z + Int32.toNatClampNeg (10 : Int32) + Int32.toNatClampNeg (6 : Int32) + Int32.toNatClampNeg (6 : Int32) + Int32.toNatClampNeg (12 : Int32) + Int32.toNatClampNeg (12 : Int32) + Int32.toNatClampNeg (49 : Int32) + 6 - z) (by omega) (by omega) ?_
  refine lv_dup hx hb dX4_init_63 (cat_rr G _) ?_
  obtain ⟨f50, nq48, zq49, hf50, hE⟩ := bd3_of hE
  obtain ⟨c51, hE⟩ := ck hE
  replace c51 := of_decide_eq_true c51
  obtain ⟨g52a, g52b, hE⟩ := grow_of hE
  replace g52a : nq48 ≤ n2 := g52a
  replace g52b : zq49 ≤ z2 := g52b
  refine s_callI (As := []) (rest := [rr G (some (n + 1 + 1 + 1 + 1 + 1 + 1)), rr G u0]) CF hK hW hS (S_X7_init l G F hf50) go_X7_init ini_CopyOrders_Sentence ml_X4_42 im_X7_init rfl hd_X7_init.2 ⟨Nat.le_of_ble_eq_true rfl, Nat.le_of_ble_eq_true rfl⟩ rfl hl.1 rfl (Nat.le_of_ble_eq_true rfl) dX4_init_64 ⟨show n + 1 + 1 + 1 + 1 + 1 + 1 + 1 - n + (nq48 - (n + 1 + 1 + 1 + 1 + 1 + 1 + 1)) ≤ n2 - n by omega, show z + Int32.toNatClampNeg (10 : Int32) + Int32.toNatClampNeg (6 : Int32) + Int32.toNatClampNeg (6 : Int32) + Int32.toNatClampNeg (12 : Int32) + Int32.toNatClampNeg (12 : Int32) + Int32.toNatClampNeg (49 : Int32) + 6 - z + (zq49 - (z + Int32.toNatClampNeg (10 : Int32) + Int32.toNatClampNeg (6 : Int32) + Int32.toNatClampNeg (6 : Int32) + Int32.toNatClampNeg (12 : Int32) + Int32.toNatClampNeg (12 : Int32) + Int32.toNatClampNeg (49 : Int32) + 6)) ≤ z2 - z by omega⟩ (fun H locs hW hS => ?_)
  refine W.cs (cells' := nq48 - n) (slots' := zq49 - z) (by omega) (by omega) ?_
  obtain ⟨f53, hf53, hE⟩ := bd hE
  refine s_putR hx hb hT u_X4 tyX4 tyX4_ok nmX4 hown hK hW hS hf53 rfl (by decide) fl_X4_43 rfl (Or.inl rfl) rfl fit_o dX4_init_67 (fun H locs hW hS => ?_)
  refine lv_iconst (v := (0 : Int32)) hx hb dX4_init_70 (by decide) ?_
  refine lv_istore_n (i := 1) (lv' := [(1, .int (0 : Int32)), (0, rr G u0)]) hx hb dX4_init_71 rfl hl (by decide) (by simp [cat_rr]) (fun ls hl => ?_)
  exact hC72 F _ _ _ _ _ _ _ _ (by omega) (by omega) hE hW hS (lv_sub hl [1, 0] rfl)
set_option maxHeartbeats 4000000 in
set_option maxRecDepth 100000 in
theorem S_X1_become (l : Launch) (G : GG) (F : Nat) {u0 : Option Nat} {u1 : Option Nat} {f : Hp} {f' : Hp} {n : Nat} (hE : m_X1_become F u0 u1 f = some f') : Ctr l G yX1_become cX1_become 2 none 0 0 [rr G u0, rr G u1] f n none f' n 0 0 := by
  refine Met.ofW (cc := cX1_become) (maxL := 2) (ret := none) (by decide) rfl ?_
  intro p e s m args below meth c s₁ B hml hv
  obtain ⟨rfl, hK, hW⟩ := hv
  have hx := B.exec
  have hb := B.bytes
  have hr := B.returns
  have hts := atoms_spec (ws := wsO yX1_become cX1_become 2 none) B.pre
  have hT : ∀ w ∈ TB, w.before [rr G u0, rr G u1].toArray s = true := fun w hw => hts w (List.mem_cons_of_mem _ hw)
  have hown : s.vm.findClass RX1 = some m.cls := findClass_of_methodNamed B.named
  have hlocks := B.notSynchronized
  have CF : CallFix p m c cX1_become 2 s [rr G u0, rr G u1].toArray TB RX1 := ⟨hx, hb, hml, hown, hT⟩
  have hS : va_S (WA G) s.heap s.heap [] := va_S.rf
  have hl : lv_has (lg_sl ([rr G u0, rr G u1]) ++ List.replicate (2 - (lg_sl ([rr G u0, rr G u1])).length) Slot.unset).toArray 2 [(0, rr G u0), (1, rr G u1)] := by cases u0 <;> cases u1 <;> exact lv_entry _ (Nat.le_of_ble_eq_true rfl)
  rw [lg_entry_eq]
  generalize (lg_sl ([rr G u0, rr G u1]) ++ List.replicate (2 - (lg_sl ([rr G u0, rr G u1])).length) Slot.unset).toArray = ls at hl ⊢
  refine s_aload_n hx hb dX1_become_0 rfl (lv_at hl 0 rfl) ?_
  refine s_aload_n hx hb dX1_become_1 rfl (lv_at hl 1 rfl) ?_
  obtain ⟨x1, hx1, hE⟩ := bd hE
  refine s_gJ hx hb hT u_X1 hown hK hW hx1 rfl (by decide) fl_X1_9 rfl dX1_become_2 ?_
  obtain ⟨f2, hf2, hE⟩ := bd hE
  refine s_putJ hx hb hT u_X1 tyX1 tyX1_ok nmX1 hown hK hW hS hf2 rfl (by decide) fl_X1_9 rfl (Or.inl rfl) rfl dX1_become_5 (fun H locs hW hS => ?_)
  refine s_aload_n hx hb dX1_become_8 rfl (lv_at hl 0 rfl) ?_
  refine s_aload_n hx hb dX1_become_9 rfl (lv_at hl 1 rfl) ?_
  obtain ⟨x3, hx3, hE⟩ := bd hE
  refine s_gI hx hb hT u_X1 hown hK hW hx3 rfl (by decide) fl_X1_15 rfl dX1_become_10 ?_
  obtain ⟨f4, hf4, hE⟩ := bd hE
  refine s_putI hx hb hT u_X1 tyX1 tyX1_ok nmX1 hown hK hW hS hf4 rfl (by decide) fl_X1_15 rfl (Or.inl rfl) rfl dX1_become_13 (fun H locs hW hS => ?_)
  refine s_aload_n hx hb dX1_become_16 rfl (lv_at hl 0 rfl) ?_
  refine s_aload_n hx hb dX1_become_17 rfl (lv_at hl 1 rfl) ?_
  obtain ⟨x5, hx5, hE⟩ := bd hE
  refine s_gI hx hb hT u_X1 hown hK hW hx5 rfl (by decide) fl_X1_19 rfl dX1_become_18 ?_
  obtain ⟨f6, hf6, hE⟩ := bd hE
  refine s_putI hx hb hT u_X1 tyX1 tyX1_ok nmX1 hown hK hW hS hf6 rfl (by decide) fl_X1_19 rfl (Or.inl rfl) rfl dX1_become_21 (fun H locs hW hS => ?_)
  refine s_aload_n hx hb dX1_become_24 rfl (lv_at hl 0 rfl) ?_
  refine s_aload_n hx hb dX1_become_25 rfl (lv_at hl 1 rfl) ?_
  obtain ⟨x7, hx7, hE⟩ := bd hE
  refine s_gI hx hb hT u_X1 hown hK hW hx7 rfl (by decide) fl_X1_22 rfl dX1_become_26 ?_
  obtain ⟨f8, hf8, hE⟩ := bd hE
  refine s_putI hx hb hT u_X1 tyX1 tyX1_ok nmX1 hown hK hW hS hf8 rfl (by decide) fl_X1_22 rfl (Or.inl rfl) rfl dX1_become_29 (fun H locs hW hS => ?_)
  refine s_aload_n hx hb dX1_become_32 rfl (lv_at hl 0 rfl) ?_
  refine s_aload_n hx hb dX1_become_33 rfl (lv_at hl 1 rfl) ?_
  obtain ⟨x9, hx9, hE⟩ := bd hE
  refine s_gI hx hb hT u_X1 hown hK hW hx9 rfl (by decide) fl_X1_25 rfl dX1_become_34 ?_
  obtain ⟨f10, hf10, hE⟩ := bd hE
  refine s_putI hx hb hT u_X1 tyX1 tyX1_ok nmX1 hown hK hW hS hf10 rfl (by decide) fl_X1_25 rfl (Or.inl rfl) rfl dX1_become_37 (fun H locs hW hS => ?_)
  refine s_aload_n hx hb dX1_become_40 rfl (lv_at hl 0 rfl) ?_
  refine s_aload_n hx hb dX1_become_41 rfl (lv_at hl 1 rfl) ?_
  obtain ⟨x11, hx11, hE⟩ := bd hE
  refine s_gI hx hb hT u_X1 hown hK hW hx11 rfl (by decide) fl_X1_28 rfl dX1_become_42 ?_
  obtain ⟨f12, hf12, hE⟩ := bd hE
  refine s_putI hx hb hT u_X1 tyX1 tyX1_ok nmX1 hown hK hW hS hf12 rfl (by decide) fl_X1_28 rfl (Or.inl rfl) rfl dX1_become_45 (fun H locs hW hS => ?_)
  obtain rfl := so1 hE
  exact s_vret hx hb hr hlocks hW hS dX1_become_48
set_option maxHeartbeats 4000000 in
set_option maxRecDepth 100000 in
theorem S_X2_become (l : Launch) (G : GG) (F : Nat) {u0 : Option Nat} {u1 : Option Nat} {f : Hp} {f' : Hp} {n : Nat} (hE : m_X2_become F u0 u1 f = some f') : Ctr l G yX2_become cX2_become 2 none 0 0 [rr G u0, rr G u1] f n none f' n 0 0 := by
  refine Met.ofW (cc := cX2_become) (maxL := 2) (ret := none) (by decide) rfl ?_
  intro p e s m args below meth c s₁ B hml hv
  obtain ⟨rfl, hK, hW⟩ := hv
  have hx := B.exec
  have hb := B.bytes
  have hr := B.returns
  have hts := atoms_spec (ws := wsO yX2_become cX2_become 2 none) B.pre
  have hT : ∀ w ∈ TB, w.before [rr G u0, rr G u1].toArray s = true := fun w hw => hts w (List.mem_cons_of_mem _ hw)
  have hown : s.vm.findClass RX2 = some m.cls := findClass_of_methodNamed B.named
  have hlocks := B.notSynchronized
  have CF : CallFix p m c cX2_become 2 s [rr G u0, rr G u1].toArray TB RX2 := ⟨hx, hb, hml, hown, hT⟩
  have hS : va_S (WA G) s.heap s.heap [] := va_S.rf
  have hl : lv_has (lg_sl ([rr G u0, rr G u1]) ++ List.replicate (2 - (lg_sl ([rr G u0, rr G u1])).length) Slot.unset).toArray 2 [(0, rr G u0), (1, rr G u1)] := by cases u0 <;> cases u1 <;> exact lv_entry _ (Nat.le_of_ble_eq_true rfl)
  rw [lg_entry_eq]
  generalize (lg_sl ([rr G u0, rr G u1]) ++ List.replicate (2 - (lg_sl ([rr G u0, rr G u1])).length) Slot.unset).toArray = ls at hl ⊢
  refine s_aload_n hx hb dX2_become_0 rfl (lv_at hl 0 rfl) ?_
  refine s_aload_n hx hb dX2_become_1 rfl (lv_at hl 1 rfl) ?_
  obtain ⟨x1, hx1, hE⟩ := bd hE
  refine s_gR hx hb hT u_X2 hown hK hW hx1 rfl (by decide) fl_X2_15 rfl dX2_become_2 ?_
  obtain ⟨f2, hf2, hE⟩ := bd hE
  refine s_putR hx hb hT u_X2 tyX2 tyX2_ok nmX2 hown hK hW hS hf2 rfl (by decide) fl_X2_15 rfl (Or.inl rfl) rfl fit_o dX2_become_5 (fun H locs hW hS => ?_)
  refine s_aload_n hx hb dX2_become_8 rfl (lv_at hl 0 rfl) ?_
  refine s_aload_n hx hb dX2_become_9 rfl (lv_at hl 1 rfl) ?_
  obtain ⟨x3, hx3, hE⟩ := bd hE
  refine s_gI hx hb hT u_X2 hown hK hW hx3 rfl (by decide) fl_X2_20 rfl dX2_become_10 ?_
  obtain ⟨f4, hf4, hE⟩ := bd hE
  refine s_putI hx hb hT u_X2 tyX2 tyX2_ok nmX2 hown hK hW hS hf4 rfl (by decide) fl_X2_20 rfl (Or.inl rfl) rfl dX2_become_13 (fun H locs hW hS => ?_)
  refine s_aload_n hx hb dX2_become_16 rfl (lv_at hl 0 rfl) ?_
  refine s_aload_n hx hb dX2_become_17 rfl (lv_at hl 1 rfl) ?_
  obtain ⟨x5, hx5, hE⟩ := bd hE
  refine s_gJ hx hb hT u_X2 hown hK hW hx5 rfl (by decide) fl_X2_24 rfl dX2_become_18 ?_
  obtain ⟨f6, hf6, hE⟩ := bd hE
  refine s_putJ hx hb hT u_X2 tyX2 tyX2_ok nmX2 hown hK hW hS hf6 rfl (by decide) fl_X2_24 rfl (Or.inl rfl) rfl dX2_become_21 (fun H locs hW hS => ?_)
  obtain rfl := so1 hE
  exact s_vret hx hb hr hlocks hW hS dX2_become_24
set_option maxHeartbeats 4000000 in
set_option maxRecDepth 100000 in
theorem S_X7_become (l : Launch) (G : GG) (F : Nat) {u0 : Option Nat} {u1 : Option Nat} {f : Hp} {f' : Hp} {n : Nat} (hE : m_X7_become F u0 u1 f = some f') : Ctr l G yX7_become cX7_become 3 none 0 0 [rr G u0, rr G u1] f n none f' n 0 0 := by
  refine Met.ofW (cc := cX7_become) (maxL := 3) (ret := none) (by decide) rfl ?_
  intro p e s m args below meth c s₁ B hml hv
  obtain ⟨rfl, hK, hW⟩ := hv
  have hx := B.exec
  have hb := B.bytes
  have hr := B.returns
  have hts := atoms_spec (ws := wsO yX7_become cX7_become 3 none) B.pre
  have hT : ∀ w ∈ TB, w.before [rr G u0, rr G u1].toArray s = true := fun w hw => hts w (List.mem_cons_of_mem _ hw)
  have hown : s.vm.findClass RX7 = some m.cls := findClass_of_methodNamed B.named
  have hlocks := B.notSynchronized
  have CF : CallFix p m c cX7_become 3 s [rr G u0, rr G u1].toArray TB RX7 := ⟨hx, hb, hml, hown, hT⟩
  have hS : va_S (WA G) s.heap s.heap [] := va_S.rf
  have hl : lv_has (lg_sl ([rr G u0, rr G u1]) ++ List.replicate (3 - (lg_sl ([rr G u0, rr G u1])).length) Slot.unset).toArray 3 [(0, rr G u0), (1, rr G u1)] := by cases u0 <;> cases u1 <;> exact lv_entry _ (Nat.le_of_ble_eq_true rfl)
  rw [lg_entry_eq]
  generalize (lg_sl ([rr G u0, rr G u1]) ++ List.replicate (3 - (lg_sl ([rr G u0, rr G u1])).length) Slot.unset).toArray = ls at hl ⊢
  have hC10 : ∀ (k10 : Nat), ∀ (v0 : Option Nat) (v1 : Option Nat) (v2 : Int32) (fa : Hp) (H : Heap) (locs : List Loc) (ls : Array Slot), m_X7_become_L10 F k10 v0 v1 v2 fa = some f' → Wd G fa n H → va_S (WA G) s.heap H locs → lv_has ls 3 [(0, rr G v0), (1, rr G v1), (2, .int v2)] → W p l e (headSpec (wsO yX7_become cX7_become 3 none) { frames := 0, cells := 0, slots := 0, locals := 0 }).room s m [rr G u0, rr G u1].toArray below meth c H locs 0 0 (MQ below (Qcn G none f' n) [rr G u0, rr G u1].toArray s 0 0 (WA G)) (F0 m 10 ls []) := by
    intro k10
    induction k10 with
    | zero => intro v0 v1 v2 fa H locs ls hE _ _ _; cases (show (none : Option Hp) = some f' from hE)
    | succ k10 ih10 =>
      intro v0 v1 v2 fa H locs ls hE hW hS hl
      replace hE : m_X7_become_b10 F (m_X7_become_L10 F k10) v0 v1 v2 fa = some f' := hE
      refine lv_iload_n hx hb dX7_become_10 rfl (lv_at hl 2 rfl) ?_
      refine lv_bipush (v := (40 : Int32)) hx hb dX7_become_11 (by decide) ?_
      refine lv_icmp_ge (tgt := 82) hx hb dX7_become_13 (by decide) (fun q1 => ?_) (fun q1 => ?_)
      · replace hE := ite_t q1 hE
        obtain rfl := so1 hE
        exact s_vret hx hb hr hlocks hW hS dX7_become_82
      · replace hE := ite_f q1 hE
        refine s_aload_n hx hb dX7_become_16 rfl (lv_at hl 0 rfl) ?_
        obtain ⟨x2, hx2, hE⟩ := bd hE
        refine s_gR hx hb hT u_X7 hown hK hW hx2 rfl (by decide) fl_X7_13 rfl dX7_become_17 ?_
        refine lv_iload_n hx hb dX7_become_20 rfl (lv_at hl 2 rfl) ?_
        refine s_aload_n hx hb dX7_become_21 rfl (lv_at hl 1 rfl) ?_
        obtain ⟨x3, hx3, hE⟩ := bd hE
        refine s_gR hx hb hT u_X7 hown hK hW hx3 rfl (by decide) fl_X7_13 rfl dX7_become_22 ?_
        refine lv_iload_n hx hb dX7_become_25 rfl (lv_at hl 2 rfl) ?_
        obtain ⟨x4, hx4, hE⟩ := bd hE
        refine s_ldR hx hb hK hW hS hx4 (by decide) rfl dX7_become_26 ?_
        obtain ⟨f5, hf5, hE⟩ := bd hE
        refine s_stR hx hb hK hW hS (by decide) rfl hf5 dX7_become_27 (fun H locs hW hS => ?_)
        refine s_aload_n hx hb dX7_become_28 rfl (lv_at hl 0 rfl) ?_
        obtain ⟨x6, hx6, hE⟩ := bd hE
        refine s_gR hx hb hT u_X7 hown hK hW hx6 rfl (by decide) fl_X7_17 rfl dX7_become_29 ?_
        refine lv_iload_n hx hb dX7_become_32 rfl (lv_at hl 2 rfl) ?_
        refine s_aload_n hx hb dX7_become_33 rfl (lv_at hl 1 rfl) ?_
        obtain ⟨x7, hx7, hE⟩ := bd hE
        refine s_gR hx hb hT u_X7 hown hK hW hx7 rfl (by decide) fl_X7_17 rfl dX7_become_34 ?_
        refine lv_iload_n hx hb dX7_become_37 rfl (lv_at hl 2 rfl) ?_
        obtain ⟨x8, hx8, hE⟩ := bd hE
        refine s_ldI hx hb hK hW hS hx8 dX7_become_38 ?_
        obtain ⟨f9, hf9, hE⟩ := bd hE
        refine s_stI hx hb hK hW hS hf9 dX7_become_39 (fun H locs hW hS => ?_)
        refine s_aload_n hx hb dX7_become_40 rfl (lv_at hl 0 rfl) ?_
        obtain ⟨x10, hx10, hE⟩ := bd hE
        refine s_gR hx hb hT u_X7 hown hK hW hx10 rfl (by decide) fl_X7_21 rfl dX7_become_41 ?_
        refine lv_iload_n hx hb dX7_become_44 rfl (lv_at hl 2 rfl) ?_
        refine s_aload_n hx hb dX7_become_45 rfl (lv_at hl 1 rfl) ?_
        obtain ⟨x11, hx11, hE⟩ := bd hE
        refine s_gR hx hb hT u_X7 hown hK hW hx11 rfl (by decide) fl_X7_21 rfl dX7_become_46 ?_
        refine lv_iload_n hx hb dX7_become_49 rfl (lv_at hl 2 rfl) ?_
        obtain ⟨x12, hx12, hE⟩ := bd hE
        refine s_ldI hx hb hK hW hS hx12 dX7_become_50 ?_
        obtain ⟨f13, hf13, hE⟩ := bd hE
        refine s_stI hx hb hK hW hS hf13 dX7_become_51 (fun H locs hW hS => ?_)
        refine s_aload_n hx hb dX7_become_52 rfl (lv_at hl 0 rfl) ?_
        obtain ⟨x14, hx14, hE⟩ := bd hE
        refine s_gR hx hb hT u_X7 hown hK hW hx14 rfl (by decide) fl_X7_24 rfl dX7_become_53 ?_
        refine lv_iload_n hx hb dX7_become_56 rfl (lv_at hl 2 rfl) ?_
        refine s_aload_n hx hb dX7_become_57 rfl (lv_at hl 1 rfl) ?_
        obtain ⟨x15, hx15, hE⟩ := bd hE
        refine s_gR hx hb hT u_X7 hown hK hW hx15 rfl (by decide) fl_X7_24 rfl dX7_become_58 ?_
        refine lv_iload_n hx hb dX7_become_61 rfl (lv_at hl 2 rfl) ?_
        obtain ⟨x16, hx16, hE⟩ := bd hE
        refine s_ldI hx hb hK hW hS hx16 dX7_become_62 ?_
        obtain ⟨f17, hf17, hE⟩ := bd hE
        refine s_stI hx hb hK hW hS hf17 dX7_become_63 (fun H locs hW hS => ?_)
        refine s_aload_n hx hb dX7_become_64 rfl (lv_at hl 0 rfl) ?_
        obtain ⟨x18, hx18, hE⟩ := bd hE
        refine s_gR hx hb hT u_X7 hown hK hW hx18 rfl (by decide) fl_X7_27 rfl dX7_become_65 ?_
        refine lv_iload_n hx hb dX7_become_68 rfl (lv_at hl 2 rfl) ?_
        refine s_aload_n hx hb dX7_become_69 rfl (lv_at hl 1 rfl) ?_
        obtain ⟨x19, hx19, hE⟩ := bd hE
        refine s_gR hx hb hT u_X7 hown hK hW hx19 rfl (by decide) fl_X7_27 rfl dX7_become_70 ?_
        refine lv_iload_n hx hb dX7_become_73 rfl (lv_at hl 2 rfl) ?_
        obtain ⟨x20, hx20, hE⟩ := bd hE
        refine s_ldI hx hb hK hW hS hx20 dX7_become_74 ?_
        obtain ⟨f21, hf21, hE⟩ := bd hE
        refine s_stI hx hb hK hW hS hf21 dX7_become_75 (fun H locs hW hS => ?_)
        obtain ⟨y22, ey22⟩ : ∃ y : Int32, y = v2 + (1 : Int32) := ⟨_, rfl⟩
        replace hE := nm_o ey22 hE
        refine lv_iinc (k := 2) (v := y22) (lv' := [(2, .int y22), (0, rr G v0), (1, rr G v1)]) hx hb dX7_become_76 hl rfl (by rw [ey22]; rfl) (by decide) (by simp [cat_rr]) (fun ls hl => ?_)
        refine lv_goto (tgt := 10) hx hb dX7_become_79 (by decide) ?_
        exact ih10 _ _ _ _ _ _ _ hE hW hS (lv_sub hl [1, 2, 0] rfl)
  refine s_aload_n hx hb dX7_become_0 rfl (lv_at hl 0 rfl) ?_
  refine s_aload_n hx hb dX7_become_1 rfl (lv_at hl 1 rfl) ?_
  obtain ⟨x23, hx23, hE⟩ := bd hE
  refine s_gI hx hb hT u_X7 hown hK hW hx23 rfl (by decide) fl_X7_34 rfl dX7_become_2 ?_
  obtain ⟨f24, hf24, hE⟩ := bd hE
  refine s_putI hx hb hT u_X7 tyX7 tyX7_ok nmX7 hown hK hW hS hf24 rfl (by decide) fl_X7_34 rfl (Or.inl rfl) rfl dX7_become_5 (fun H locs hW hS => ?_)
  refine lv_iconst (v := (0 : Int32)) hx hb dX7_become_8 (by decide) ?_
  refine lv_istore_n (i := 2) (lv' := [(2, .int (0 : Int32)), (0, rr G u0), (1, rr G u1)]) hx hb dX7_become_9 rfl hl (by decide) (by simp [cat_rr]) (fun ls hl => ?_)
  exact hC10 F _ _ _ _ _ _ _ hE hW hS (lv_sub hl [1, 2, 0] rfl)
set_option maxHeartbeats 4000000 in
set_option maxRecDepth 100000 in
theorem S_X4_become (l : Launch) (G : GG) (F : Nat) {u0 : Option Nat} {u1 : Option Nat} {f : Hp} {f' : Hp} {n : Nat} (hE : m_X4_become F u0 u1 f = some f') : Ctr l G yX4_become cX4_become 3 none 1 60 [rr G u0, rr G u1] f n none f' n 0 0 := by
  refine Met.ofW (cc := cX4_become) (maxL := 3) (ret := none) (by decide) rfl ?_
  intro p e s m args below meth c s₁ B hml hv
  obtain ⟨rfl, hK, hW⟩ := hv
  have hx := B.exec
  have hb := B.bytes
  have hr := B.returns
  have hts := atoms_spec (ws := wsO yX4_become cX4_become 3 none) B.pre
  have hT : ∀ w ∈ TB, w.before [rr G u0, rr G u1].toArray s = true := fun w hw => hts w (List.mem_cons_of_mem _ hw)
  have hown : s.vm.findClass RX4 = some m.cls := findClass_of_methodNamed B.named
  have hlocks := B.notSynchronized
  have CF : CallFix p m c cX4_become 3 s [rr G u0, rr G u1].toArray TB RX4 := ⟨hx, hb, hml, hown, hT⟩
  have hS : va_S (WA G) s.heap s.heap [] := va_S.rf
  have hl : lv_has (lg_sl ([rr G u0, rr G u1]) ++ List.replicate (3 - (lg_sl ([rr G u0, rr G u1])).length) Slot.unset).toArray 3 [(0, rr G u0), (1, rr G u1)] := by cases u0 <;> cases u1 <;> exact lv_entry _ (Nat.le_of_ble_eq_true rfl)
  rw [lg_entry_eq]
  generalize (lg_sl ([rr G u0, rr G u1]) ++ List.replicate (3 - (lg_sl ([rr G u0, rr G u1])).length) Slot.unset).toArray = ls at hl ⊢
  have hC82 : ∀ (v0 : Option Nat) (v1 : Option Nat) (fa : Hp) (H : Heap) (locs : List Loc) (ls : Array Slot), m_X4_become_B82 F v0 v1 fa = some f' → Wd G fa n H → va_S (WA G) s.heap H locs → lv_has ls 3 [(0, rr G v0), (1, rr G v1)] → W p l e (headSpec (wsO yX4_become cX4_become 3 none) { frames := 1, cells := 0, slots := 0, locals := 60 }).room s m [rr G u0, rr G u1].toArray below meth c H locs 0 0 (MQ below (Qcn G none f' n) [rr G u0, rr G u1].toArray s 0 0 (WA G)) (F0 m 82 ls []) := by
    intro v0 v1 fa H locs ls hE hW hS hl
    refine s_aload_n hx hb dX4_become_82 rfl (lv_at hl 1 rfl) ?_
    obtain ⟨x19, hx19, hE⟩ := bd hE
    refine s_gR hx hb hT u_X4 hown hK hW hx19 rfl (by decide) fl_X4_27 rfl dX4_become_83 ?_
    refine lv_iconst (v := (0 : Int32)) hx hb dX4_become_86 (by decide) ?_
    refine s_aload_n hx hb dX4_become_87 rfl (lv_at hl 0 rfl) ?_
    obtain ⟨x20, hx20, hE⟩ := bd hE
    refine s_gR hx hb hT u_X4 hown hK hW hx20 rfl (by decide) fl_X4_27 rfl dX4_become_88 ?_
    refine lv_iconst (v := (0 : Int32)) hx hb dX4_become_91 (by decide) ?_
    refine s_aload_n hx hb dX4_become_92 rfl (lv_at hl 0 rfl) ?_
    obtain ⟨x21, hx21, hE⟩ := bd hE
    refine s_gR hx hb hT u_X4 hown hK hW hx21 rfl (by decide) fl_X4_27 rfl dX4_become_93 ?_
    obtain ⟨x22, hx22, hE⟩ := bd hE
    refine s_alen hx hb hK hW hS hx22 dX4_become_96 ?_
    obtain ⟨f23, hf23, hE⟩ := bd hE
    refine s_copyI (own := RX4) hx hb (by rw [hml]; exact hl.1.symm) hT hown cp_X4_77 hK hW hS hf23 (Nat.le_of_ble_eq_true rfl) (Nat.le_of_ble_eq_true rfl) dX4_become_97 (fun H locs hW hS => ?_)
    refine s_aload_n hx hb dX4_become_100 rfl (lv_at hl 0 rfl) ?_
    refine s_aload_n hx hb dX4_become_101 rfl (lv_at hl 1 rfl) ?_
    obtain ⟨x24, hx24, hE⟩ := bd hE
    refine s_gI hx hb hT u_X4 hown hK hW hx24 rfl (by decide) fl_X4_61 rfl dX4_become_102 ?_
    obtain ⟨f25, hf25, hE⟩ := bd hE
    refine s_putI hx hb hT u_X4 tyX4 tyX4_ok nmX4 hown hK hW hS hf25 rfl (by decide) fl_X4_61 rfl (Or.inl rfl) rfl dX4_become_105 (fun H locs hW hS => ?_)
    refine s_aload_n hx hb dX4_become_108 rfl (lv_at hl 1 rfl) ?_
    obtain ⟨x26, hx26, hE⟩ := bd hE
    refine s_gR hx hb hT u_X4 hown hK hW hx26 rfl (by decide) fl_X4_31 rfl dX4_become_109 ?_
    refine lv_iconst (v := (0 : Int32)) hx hb dX4_become_112 (by decide) ?_
    refine s_aload_n hx hb dX4_become_113 rfl (lv_at hl 0 rfl) ?_
    obtain ⟨x27, hx27, hE⟩ := bd hE
    refine s_gR hx hb hT u_X4 hown hK hW hx27 rfl (by decide) fl_X4_31 rfl dX4_become_114 ?_
    refine lv_iconst (v := (0 : Int32)) hx hb dX4_become_117 (by decide) ?_
    refine lv_bipush (v := (12 : Int32)) hx hb dX4_become_118 (by decide) ?_
    obtain ⟨f28, hf28, hE⟩ := bd hE
    refine s_copyI (own := RX4) hx hb (by rw [hml]; exact hl.1.symm) hT hown cp_X4_77 hK hW hS hf28 (Nat.le_of_ble_eq_true rfl) (Nat.le_of_ble_eq_true rfl) dX4_become_120 (fun H locs hW hS => ?_)
    refine s_aload_n hx hb dX4_become_123 rfl (lv_at hl 1 rfl) ?_
    obtain ⟨x29, hx29, hE⟩ := bd hE
    refine s_gR hx hb hT u_X4 hown hK hW hx29 rfl (by decide) fl_X4_34 rfl dX4_become_124 ?_
    refine lv_iconst (v := (0 : Int32)) hx hb dX4_become_127 (by decide) ?_
    refine s_aload_n hx hb dX4_become_128 rfl (lv_at hl 0 rfl) ?_
    obtain ⟨x30, hx30, hE⟩ := bd hE
    refine s_gR hx hb hT u_X4 hown hK hW hx30 rfl (by decide) fl_X4_34 rfl dX4_become_129 ?_
    refine lv_iconst (v := (0 : Int32)) hx hb dX4_become_132 (by decide) ?_
    refine lv_bipush (v := (12 : Int32)) hx hb dX4_become_133 (by decide) ?_
    obtain ⟨f31, hf31, hE⟩ := bd hE
    refine s_copyI (own := RX4) hx hb (by rw [hml]; exact hl.1.symm) hT hown cp_X4_77 hK hW hS hf31 (Nat.le_of_ble_eq_true rfl) (Nat.le_of_ble_eq_true rfl) dX4_become_135 (fun H locs hW hS => ?_)
    refine s_aload_n hx hb dX4_become_138 rfl (lv_at hl 0 rfl) ?_
    refine s_aload_n hx hb dX4_become_139 rfl (lv_at hl 1 rfl) ?_
    obtain ⟨x32, hx32, hE⟩ := bd hE
    refine s_gI hx hb hT u_X4 hown hK hW hx32 rfl (by decide) fl_X4_64 rfl dX4_become_140 ?_
    obtain ⟨f33, hf33, hE⟩ := bd hE
    refine s_putI hx hb hT u_X4 tyX4 tyX4_ok nmX4 hown hK hW hS hf33 rfl (by decide) fl_X4_64 rfl (Or.inl rfl) rfl dX4_become_143 (fun H locs hW hS => ?_)
    refine s_aload_n hx hb dX4_become_146 rfl (lv_at hl 1 rfl) ?_
    obtain ⟨x34, hx34, hE⟩ := bd hE
    refine s_gR hx hb hT u_X4 hown hK hW hx34 rfl (by decide) fl_X4_37 rfl dX4_become_147 ?_
    refine lv_iconst (v := (0 : Int32)) hx hb dX4_become_150 (by decide) ?_
    refine s_aload_n hx hb dX4_become_151 rfl (lv_at hl 0 rfl) ?_
    obtain ⟨x35, hx35, hE⟩ := bd hE
    refine s_gR hx hb hT u_X4 hown hK hW hx35 rfl (by decide) fl_X4_37 rfl dX4_become_152 ?_
    refine lv_iconst (v := (0 : Int32)) hx hb dX4_become_155 (by decide) ?_
    refine s_aload_n hx hb dX4_become_156 rfl (lv_at hl 0 rfl) ?_
    obtain ⟨x36, hx36, hE⟩ := bd hE
    refine s_gR hx hb hT u_X4 hown hK hW hx36 rfl (by decide) fl_X4_37 rfl dX4_become_157 ?_
    obtain ⟨x37, hx37, hE⟩ := bd hE
    refine s_alen hx hb hK hW hS hx37 dX4_become_160 ?_
    obtain ⟨f38, hf38, hE⟩ := bd hE
    refine s_copyI (own := RX4) hx hb (by rw [hml]; exact hl.1.symm) hT hown cp_X4_77 hK hW hS hf38 (Nat.le_of_ble_eq_true rfl) (Nat.le_of_ble_eq_true rfl) dX4_become_161 (fun H locs hW hS => ?_)
    refine s_aload_n hx hb dX4_become_164 rfl (lv_at hl 0 rfl) ?_
    obtain ⟨x39, hx39, hE⟩ := bd hE
    refine s_gR hx hb hT u_X4 hown hK hW hx39 rfl (by decide) fl_X4_43 rfl dX4_become_165 ?_
    refine s_aload_n hx hb dX4_become_168 rfl (lv_at hl 1 rfl) ?_
    obtain ⟨x40, hx40, hE⟩ := bd hE
    refine s_gR hx hb hT u_X4 hown hK hW hx40 rfl (by decide) fl_X4_43 rfl dX4_become_169 ?_
    obtain ⟨c41, hE⟩ := ck hE
    obtain ⟨f42, hf42, hE⟩ := bd hE
    refine s_callV (As := [rr G x40]) (rest := []) CF hK hW hS (S_X7_become l G F hf42) c41 rfl gv_X4_83 hd_X7_become ⟨Nat.le_of_ble_eq_true rfl, Nat.le_of_ble_eq_true rfl⟩ rfl hl.1 rfl (Nat.le_of_ble_eq_true rfl) dX4_become_172 ⟨Nat.le_refl _, Nat.le_refl _⟩ (fun H locs hW hS => ?_)
    obtain rfl := so1 hE
    exact s_vret hx hb hr hlocks hW hS dX4_become_175
  have hC55 : ∀ (k55 : Nat), ∀ (v0 : Option Nat) (v1 : Option Nat) (v2 : Int32) (fa : Hp) (H : Heap) (locs : List Loc) (ls : Array Slot), m_X4_become_L55 F k55 v0 v1 v2 fa = some f' → Wd G fa n H → va_S (WA G) s.heap H locs → lv_has ls 3 [(0, rr G v0), (1, rr G v1), (2, .int v2)] → W p l e (headSpec (wsO yX4_become cX4_become 3 none) { frames := 1, cells := 0, slots := 0, locals := 60 }).room s m [rr G u0, rr G u1].toArray below meth c H locs 0 0 (MQ below (Qcn G none f' n) [rr G u0, rr G u1].toArray s 0 0 (WA G)) (F0 m 55 ls []) := by
    intro k55
    induction k55 with
    | zero => intro v0 v1 v2 fa H locs ls hE _ _ _; cases (show (none : Option Hp) = some f' from hE)
    | succ k55 ih55 =>
      intro v0 v1 v2 fa H locs ls hE hW hS hl
      replace hE : m_X4_become_b55 F (m_X4_become_L55 F k55) v0 v1 v2 fa = some f' := hE
      refine lv_iload_n hx hb dX4_become_55 rfl (lv_at hl 2 rfl) ?_
      refine lv_bipush (v := (6 : Int32)) hx hb dX4_become_56 (by decide) ?_
      refine lv_icmp_ge (tgt := 82) hx hb dX4_become_58 (by decide) (fun q11 => ?_) (fun q11 => ?_)
      · replace hE := ite_t q11 hE
        exact hC82 _ _ _ _ _ _ hE hW hS (lv_sub hl [0, 1] rfl)
      · replace hE := ite_f q11 hE
        refine s_aload_n hx hb dX4_become_61 rfl (lv_at hl 0 rfl) ?_
        obtain ⟨x12, hx12, hE⟩ := bd hE
        refine s_gR hx hb hT u_X4 hown hK hW hx12 rfl (by decide) fl_X4_23 rfl dX4_become_62 ?_
        refine lv_iload_n hx hb dX4_become_65 rfl (lv_at hl 2 rfl) ?_
        obtain ⟨x13, hx13, hE⟩ := bd hE
        refine s_ldR hx hb hK hW hS hx13 (by decide) rfl dX4_become_66 ?_
        refine s_aload_n hx hb dX4_become_67 rfl (lv_at hl 1 rfl) ?_
        obtain ⟨x14, hx14, hE⟩ := bd hE
        refine s_gR hx hb hT u_X4 hown hK hW hx14 rfl (by decide) fl_X4_23 rfl dX4_become_68 ?_
        refine lv_iload_n hx hb dX4_become_71 rfl (lv_at hl 2 rfl) ?_
        obtain ⟨x15, hx15, hE⟩ := bd hE
        refine s_ldR hx hb hK hW hS hx15 (by decide) rfl dX4_become_72 ?_
        obtain ⟨c16, hE⟩ := ck hE
        obtain ⟨f17, hf17, hE⟩ := bd hE
        refine s_callV (As := [rr G x15]) (rest := []) CF hK hW hS (S_X2_become l G F hf17) c16 rfl gv_X4_74 hd_X2_become ⟨Nat.le_of_ble_eq_true rfl, Nat.le_of_ble_eq_true rfl⟩ rfl hl.1 rfl (Nat.le_of_ble_eq_true rfl) dX4_become_73 ⟨Nat.le_refl _, Nat.le_refl _⟩ (fun H locs hW hS => ?_)
        obtain ⟨y18, ey18⟩ : ∃ y : Int32, y = v2 + (1 : Int32) := ⟨_, rfl⟩
        replace hE := nm_o ey18 hE
        refine lv_iinc (k := 2) (v := y18) (lv' := [(2, .int y18), (0, rr G v0), (1, rr G v1)]) hx hb dX4_become_76 hl rfl (by rw [ey18]; rfl) (by decide) (by simp [cat_rr]) (fun ls hl => ?_)
        refine lv_goto (tgt := 55) hx hb dX4_become_79 (by decide) ?_
        exact ih55 _ _ _ _ _ _ _ hE hW hS (lv_sub hl [1, 2, 0] rfl)
  have hC18 : ∀ (k18 : Nat), ∀ (v0 : Option Nat) (v1 : Option Nat) (v2 : Int32) (fa : Hp) (H : Heap) (locs : List Loc) (ls : Array Slot), m_X4_become_L18 F k18 v0 v1 v2 fa = some f' → Wd G fa n H → va_S (WA G) s.heap H locs → lv_has ls 3 [(0, rr G v0), (1, rr G v1), (2, .int v2)] → W p l e (headSpec (wsO yX4_become cX4_become 3 none) { frames := 1, cells := 0, slots := 0, locals := 60 }).room s m [rr G u0, rr G u1].toArray below meth c H locs 0 0 (MQ below (Qcn G none f' n) [rr G u0, rr G u1].toArray s 0 0 (WA G)) (F0 m 18 ls []) := by
    intro k18
    induction k18 with
    | zero => intro v0 v1 v2 fa H locs ls hE _ _ _; cases (show (none : Option Hp) = some f' from hE)
    | succ k18 ih18 =>
      intro v0 v1 v2 fa H locs ls hE hW hS hl
      replace hE : m_X4_become_b18 F (m_X4_become_L18 F k18) v0 v1 v2 fa = some f' := hE
      refine lv_iload_n hx hb dX4_become_18 rfl (lv_at hl 2 rfl) ?_
      refine lv_bipush (v := (10 : Int32)) hx hb dX4_become_19 (by decide) ?_
      refine lv_icmp_ge (tgt := 45) hx hb dX4_become_21 (by decide) (fun q1 => ?_) (fun q1 => ?_)
      · replace hE := ite_t q1 hE
        refine s_aload_n hx hb dX4_become_45 rfl (lv_at hl 0 rfl) ?_
        refine s_aload_n hx hb dX4_become_46 rfl (lv_at hl 1 rfl) ?_
        obtain ⟨x2, hx2, hE⟩ := bd hE
        refine s_gI hx hb hT u_X4 hown hK hW hx2 rfl (by decide) fl_X4_58 rfl dX4_become_47 ?_
        obtain ⟨f3, hf3, hE⟩ := bd hE
        refine s_putI hx hb hT u_X4 tyX4 tyX4_ok nmX4 hown hK hW hS hf3 rfl (by decide) fl_X4_58 rfl (Or.inl rfl) rfl dX4_become_50 (fun H locs hW hS => ?_)
        refine lv_iconst (v := (0 : Int32)) hx hb dX4_become_53 (by decide) ?_
        refine lv_istore_n (i := 2) (lv' := [(2, .int (0 : Int32)), (0, rr G v0), (1, rr G v1)]) hx hb dX4_become_54 rfl hl (by decide) (by simp [cat_rr]) (fun ls hl => ?_)
        exact hC55 F _ _ _ _ _ _ _ hE hW hS (lv_sub hl [1, 2, 0] rfl)
      · replace hE := ite_f q1 hE
        refine s_aload_n hx hb dX4_become_24 rfl (lv_at hl 0 rfl) ?_
        obtain ⟨x4, hx4, hE⟩ := bd hE
        refine s_gR hx hb hT u_X4 hown hK hW hx4 rfl (by decide) fl_X4_17 rfl dX4_become_25 ?_
        refine lv_iload_n hx hb dX4_become_28 rfl (lv_at hl 2 rfl) ?_
        obtain ⟨x5, hx5, hE⟩ := bd hE
        refine s_ldR hx hb hK hW hS hx5 (by decide) rfl dX4_become_29 ?_
        refine s_aload_n hx hb dX4_become_30 rfl (lv_at hl 1 rfl) ?_
        obtain ⟨x6, hx6, hE⟩ := bd hE
        refine s_gR hx hb hT u_X4 hown hK hW hx6 rfl (by decide) fl_X4_17 rfl dX4_become_31 ?_
        refine lv_iload_n hx hb dX4_become_34 rfl (lv_at hl 2 rfl) ?_
        obtain ⟨x7, hx7, hE⟩ := bd hE
        refine s_ldR hx hb hK hW hS hx7 (by decide) rfl dX4_become_35 ?_
        obtain ⟨c8, hE⟩ := ck hE
        obtain ⟨f9, hf9, hE⟩ := bd hE
        refine s_callV (As := [rr G x7]) (rest := []) CF hK hW hS (S_X1_become l G F hf9) c8 rfl gv_X4_70 hd_X1_become ⟨Nat.le_of_ble_eq_true rfl, Nat.le_of_ble_eq_true rfl⟩ rfl hl.1 rfl (Nat.le_of_ble_eq_true rfl) dX4_become_36 ⟨Nat.le_refl _, Nat.le_refl _⟩ (fun H locs hW hS => ?_)
        obtain ⟨y10, ey10⟩ : ∃ y : Int32, y = v2 + (1 : Int32) := ⟨_, rfl⟩
        replace hE := nm_o ey10 hE
        refine lv_iinc (k := 2) (v := y10) (lv' := [(2, .int y10), (0, rr G v0), (1, rr G v1)]) hx hb dX4_become_39 hl rfl (by rw [ey10]; rfl) (by decide) (by simp [cat_rr]) (fun ls hl => ?_)
        refine lv_goto (tgt := 18) hx hb dX4_become_42 (by decide) ?_
        exact ih18 _ _ _ _ _ _ _ hE hW hS (lv_sub hl [1, 2, 0] rfl)
  refine s_aload_n hx hb dX4_become_0 rfl (lv_at hl 0 rfl) ?_
  refine s_aload_n hx hb dX4_become_1 rfl (lv_at hl 1 rfl) ?_
  obtain ⟨x43, hx43, hE⟩ := bd hE
  refine s_gI hx hb hT u_X4 hown hK hW hx43 rfl (by decide) fl_X4_9 rfl dX4_become_2 ?_
  obtain ⟨f44, hf44, hE⟩ := bd hE
  refine s_putI hx hb hT u_X4 tyX4 tyX4_ok nmX4 hown hK hW hS hf44 rfl (by decide) fl_X4_9 rfl (Or.inl rfl) rfl dX4_become_5 (fun H locs hW hS => ?_)
  refine s_aload_n hx hb dX4_become_8 rfl (lv_at hl 0 rfl) ?_
  refine s_aload_n hx hb dX4_become_9 rfl (lv_at hl 1 rfl) ?_
  obtain ⟨x45, hx45, hE⟩ := bd hE
  refine s_gI hx hb hT u_X4 hown hK hW hx45 rfl (by decide) fl_X4_55 rfl dX4_become_10 ?_
  obtain ⟨f46, hf46, hE⟩ := bd hE
  refine s_putI hx hb hT u_X4 tyX4 tyX4_ok nmX4 hown hK hW hS hf46 rfl (by decide) fl_X4_55 rfl (Or.inl rfl) rfl dX4_become_13 (fun H locs hW hS => ?_)
  refine lv_iconst (v := (0 : Int32)) hx hb dX4_become_16 (by decide) ?_
  refine lv_istore_n (i := 2) (lv' := [(2, .int (0 : Int32)), (0, rr G u0), (1, rr G u1)]) hx hb dX4_become_17 rfl hl (by decide) (by simp [cat_rr]) (fun ls hl => ?_)
  exact hC18 F _ _ _ _ _ _ _ hE hW hS (lv_sub hl [1, 2, 0] rfl)
set_option maxHeartbeats 4000000 in
set_option maxRecDepth 100000 in
theorem S_X11_image (l : Launch) (G : GG) (F : Nat) {u0 : Option Nat} {u1 : Int32} {f : Hp} {r : Int32} {f' : Hp} {n n2 z z2 : Nat} (hE : m_X11_image F u0 u1 f n z = some (r, f', n2, z2)) : Ctr l G yX11_image cX11_image 2 (some .boolean) 3 82 [rr G u0, .int u1] f n (some (.int r)) f' n2 (n2 - n) (z2 - z) := by
  refine Met.ofW (cc := cX11_image) (maxL := 2) (ret := (some .boolean)) (by decide) rfl ?_
  intro p e s m args below meth c s₁ B hml hv
  obtain ⟨rfl, hK, hW⟩ := hv
  have hx := B.exec
  have hb := B.bytes
  have hr := B.returns
  have hts := atoms_spec (ws := wsO yX11_image cX11_image 2 (some .boolean)) B.pre
  have hT : ∀ w ∈ TB, w.before [rr G u0, .int u1].toArray s = true := fun w hw => hts w (List.mem_cons_of_mem _ hw)
  have hown : s.vm.findClass RX11 = some m.cls := findClass_of_methodNamed B.named
  have hlocks := B.notSynchronized
  have CF : CallFix p m c cX11_image 2 s [rr G u0, .int u1].toArray TB RX11 := ⟨hx, hb, hml, hown, hT⟩
  have hS : va_S (WA G) s.heap s.heap [] := va_S.rf
  have hl : lv_has (lg_sl ([rr G u0, .int u1]) ++ List.replicate (2 - (lg_sl ([rr G u0, .int u1])).length) Slot.unset).toArray 2 [(0, rr G u0), (1, .int u1)] := by cases u0 <;> exact lv_entry _ (Nat.le_of_ble_eq_true rfl)
  rw [lg_entry_eq]
  generalize (lg_sl ([rr G u0, .int u1]) ++ List.replicate (2 - (lg_sl ([rr G u0, .int u1])).length) Slot.unset).toArray = ls at hl ⊢
  have hC33 : ∀ (v0 : Option Nat) (v1 : Int32) (fa : Hp) (na za : Nat) (H : Heap) (locs : List Loc) (ls : Array Slot), n ≤ na → z ≤ za → m_X11_image_B33 F v0 v1 fa na za = some (r, f', n2, z2) → Wd G fa na H → va_S (WA G) s.heap H locs → lv_has ls 2 [(0, rr G v0), (1, .int v1)] → W p l e (headSpec (wsO yX11_image cX11_image 2 (some .boolean)) { frames := 3, cells := (n2 - n), slots := (z2 - z), locals := 82 }).room s m [rr G u0, .int u1].toArray below meth c H locs (na - n) (za - z) (MQ below (Qcn G (some (.int r)) f' n2) [rr G u0, .int u1].toArray s (n2 - n) (z2 - z) (WA G)) (F0 m 33 ls []) := by
    intro v0 v1 fa na za H locs ls hna hza hE hW hS hl
    refine s_aload_n hx hb dX11_image_33 rfl (lv_at hl 0 rfl) ?_
    obtain ⟨x1, hx1, hE⟩ := bd hE
    refine s_gR hx hb hT u_X11 hown hK hW hx1 rfl (by decide) fl_X11_30 rfl dX11_image_34 ?_
    refine lv_iload_n hx hb dX11_image_37 rfl (lv_at hl 1 rfl) ?_
    obtain ⟨x2, hx2, hE⟩ := bd hE
    refine s_ldR hx hb hK hW hS hx2 (by decide) rfl dX11_image_38 ?_
    refine s_aload_n hx hb dX11_image_39 rfl (lv_at hl 0 rfl) ?_
    obtain ⟨x3, hx3, hE⟩ := bd hE
    refine s_gR hx hb hT u_X11 hown hK hW hx3 rfl (by decide) fl_X11_16 rfl dX11_image_40 ?_
    obtain ⟨c4, hE⟩ := ck hE
    obtain ⟨g5a, g5b, hE⟩ := grow_of hE
    replace g5a : na ≤ n2 := g5a
    replace g5b : za ≤ z2 := g5b
    obtain ⟨f6, hf6, hE⟩ := bd hE
    refine s_callV (As := [rr G x3]) (rest := []) CF hK hW hS (S_X4_become l G F hf6) c4 rfl gv_X11_333 hd_X4_become ⟨Nat.le_of_ble_eq_true rfl, Nat.le_of_ble_eq_true rfl⟩ rfl hl.1 rfl (Nat.le_of_ble_eq_true rfl) dX11_image_43 ⟨show na - n + 0 ≤ n2 - n by omega, show za - z + 0 ≤ z2 - z by omega⟩ (fun H locs hW hS => ?_)
    refine lv_iconst (v := (1 : Int32)) hx hb dX11_image_46 (by decide) ?_
    obtain ⟨c7, hE⟩ := ck hE
    obtain ⟨rfl, rfl, rfl, rfl⟩ := so4 hE
    exact s_zret hx hb hr c7 hlocks hW hS dX11_image_47
  refine W.cs (cells' := n - n) (slots' := z - z) (by omega) (by omega) ?_
  refine lv_iload_n hx hb dX11_image_0 rfl (lv_at hl 1 rfl) ?_
  refine lv_if_lt (tgt := 9) hx hb dX11_image_1 (by decide) (fun q8 => ?_) (fun q8 => ?_)
  · replace hE := ite_t q8 hE
    refine lv_iconst (v := (0 : Int32)) hx hb dX11_image_9 (by decide) ?_
    obtain ⟨c9, hE⟩ := ck hE
    obtain ⟨rfl, rfl, rfl, rfl⟩ := so4 hE
    exact s_zret hx hb hr c9 hlocks hW hS dX11_image_10
  · replace hE := ite_f q8 hE
    refine lv_iload_n hx hb dX11_image_4 rfl (lv_at hl 1 rfl) ?_
    refine lv_iconst (v := (2 : Int32)) hx hb dX11_image_5 (by decide) ?_
    refine lv_icmp_lt (tgt := 11) hx hb dX11_image_6 (by decide) (fun q10 => ?_) (fun q10 => ?_)
    · replace hE := ite_t q10 hE
      refine s_aload_n hx hb dX11_image_11 rfl (lv_at hl 0 rfl) ?_
      obtain ⟨x11, hx11, hE⟩ := bd hE
      refine s_gR hx hb hT u_X11 hown hK hW hx11 rfl (by decide) fl_X11_30 rfl dX11_image_12 ?_
      refine lv_iload_n hx hb dX11_image_15 rfl (lv_at hl 1 rfl) ?_
      obtain ⟨x12, hx12, hE⟩ := bd hE
      refine s_ldR hx hb hK hW hS hx12 (by decide) rfl dX11_image_16 ?_
      refine s_ifnonnull (tgt := 33) hx hb dX11_image_17 (by decide) (fun q13 => ?_) (fun q13 => ?_)
      · replace hE := ite_f q13 hE
        exact hC33 _ _ _ _ _ _ _ _ (by omega) (by omega) hE hW hS (lv_sub hl [0, 1] rfl)
      · replace hE := ite_t q13 hE
        refine s_aload_n hx hb dX11_image_20 rfl (lv_at hl 0 rfl) ?_
        obtain ⟨x14, hx14, hE⟩ := bd hE
        refine s_gR hx hb hT u_X11 hown hK hW hx14 rfl (by decide) fl_X11_30 rfl dX11_image_21 ?_
        refine lv_iload_n hx hb dX11_image_24 rfl (lv_at hl 1 rfl) ?_
        obtain ⟨g15a, g15b, hE⟩ := grow_of hE
        replace g15a : n + 1 ≤ n2 := g15a
        replace g15b : z + 12 ≤ z2 := g15b
        obtain ⟨f16, ef16⟩ : ∃ y : Hp, y = va_up f (n) (some (.inl (3, [.int 0, .int 0, .null, .int 0, .null, .null, .int 0, .null, .null, .int 0, .null, .null]))) := ⟨_, rfl⟩
        replace hE := nm_o ef16 hE
        refine s_new (ci := 3) (fs := [.int 0, .int 0, .null, .int 0, .null, .null, .int 0, .null, .null, .int 0, .null, .null]) hx hb hT u_X4 tyX4 tyX4_ok hown cl_X11_13 ist_X4 ini_CopyOrders_House hK hW hS rfl (fun j hj => by match j, hj with | 0, _ => rfl | 1, _ => rfl | 2, _ => rfl | 3, _ => rfl | 4, _ => rfl | 5, _ => rfl | 6, _ => rfl | 7, _ => rfl | 8, _ => rfl | 9, _ => rfl | 10, _ => rfl | 11, _ => rfl) rfl (show n - n + 1 ≤ n2 - n by omega) (show z - z + 12 ≤ z2 - z by omega) dX11_image_25 (fun H hW hS => ?_)
        rw [← ef16] at hW
        refine W.cs (cells' := n + 1 - n) (slots' := z + 12 - z) (by omega) (by omega) ?_
        refine lv_dup hx hb dX11_image_28 (cat_rr G _) ?_
        obtain ⟨f19, nq17, zq18, hf19, hE⟩ := bd3_of hE
        obtain ⟨c20, hE⟩ := ck hE
        replace c20 := of_decide_eq_true c20
        obtain ⟨g21a, g21b, hE⟩ := grow_of hE
        replace g21a : nq17 ≤ n2 := g21a
        replace g21b : zq18 ≤ z2 := g21b
        refine s_callI (As := []) (rest := [rr G (some (n)), .int u1, rr G x14]) CF hK hW hS (S_X4_init l G F hf19) go_X4_init ini_CopyOrders_House ml_X11_15 im_X4_init rfl hd_X4_init.2 ⟨Nat.le_of_ble_eq_true rfl, Nat.le_of_ble_eq_true rfl⟩ rfl hl.1 rfl (Nat.le_of_ble_eq_true rfl) dX11_image_29 ⟨show n + 1 - n + (nq17 - (n + 1)) ≤ n2 - n by omega, show z + 12 - z + (zq18 - (z + 12)) ≤ z2 - z by omega⟩ (fun H locs hW hS => ?_)
        refine W.cs (cells' := nq17 - n) (slots' := zq18 - z) (by omega) (by omega) ?_
        obtain ⟨f22, hf22, hE⟩ := bd hE
        refine s_stR hx hb hK hW hS (by decide) rfl hf22 dX11_image_32 (fun H locs hW hS => ?_)
        exact hC33 _ _ _ _ _ _ _ _ (by omega) (by omega) hE hW hS (lv_sub hl [0, 1] rfl)
    · replace hE := ite_f q10 hE
      refine lv_iconst (v := (0 : Int32)) hx hb dX11_image_9 (by decide) ?_
      obtain ⟨c23, hE⟩ := ck hE
      obtain ⟨rfl, rfl, rfl, rfl⟩ := so4 hE
      exact s_zret hx hb hr c23 hlocks hW hS dX11_image_10
set_option maxHeartbeats 4000000 in
set_option maxRecDepth 100000 in
theorem S_X9_init (l : Launch) (G : GG) (F : Nat) {u0 : Option Nat} {u1 : Option Nat} {f : Hp} {f' : Hp} {n : Nat} (hE : m_X9_init F u0 u1 f = some f') : Ctr l G yX9_init cX9_init 2 none 1 24 [rr G u0, rr G u1] f n none f' n 0 0 := by
  refine Met.ofW (cc := cX9_init) (maxL := 2) (ret := none) (by decide) rfl ?_
  intro p e s m args below meth c s₁ B hml hv
  obtain ⟨rfl, hK, hW⟩ := hv
  have hx := B.exec
  have hb := B.bytes
  have hr := B.returns
  have hts := atoms_spec (ws := wsO yX9_init cX9_init 2 none) B.pre
  have hT : ∀ w ∈ TB, w.before [rr G u0, rr G u1].toArray s = true := fun w hw => hts w (List.mem_cons_of_mem _ hw)
  have hown : s.vm.findClass RX9 = some m.cls := findClass_of_methodNamed B.named
  have hlocks := B.notSynchronized
  have hin : meth.name = "<init>" := (name_of_methodNamed B.named B.method).1
  have CF : CallFix p m c cX9_init 2 s [rr G u0, rr G u1].toArray TB RX9 := ⟨hx, hb, hml, hown, hT⟩
  have hS : va_S (WA G) s.heap s.heap [] := va_S.rf
  have hl : lv_has (lg_sl ([rr G u0, rr G u1]) ++ List.replicate (2 - (lg_sl ([rr G u0, rr G u1])).length) Slot.unset).toArray 2 [(0, rr G u0), (1, rr G u1)] := by cases u0 <;> cases u1 <;> exact lv_entry _ (Nat.le_of_ble_eq_true rfl)
  rw [lg_entry_eq]
  generalize (lg_sl ([rr G u0, rr G u1]) ++ List.replicate (2 - (lg_sl ([rr G u0, rr G u1])).length) Slot.unset).toArray = ls at hl ⊢
  refine s_aload_n hx hb dX9_init_0 rfl (lv_at hl 0 rfl) ?_
  obtain ⟨c1, hE⟩ := ck hE
  refine s_obj hx hb hml hl.1 hown hT ob_X9_3 ob_im ob_cd c1 (Nat.le_of_ble_eq_true rfl) (Nat.le_of_ble_eq_true rfl) (Nat.le_of_ble_eq_true rfl) dX9_init_1 ?_
  refine s_aload_n hx hb dX9_init_4 rfl (lv_at hl 0 rfl) ?_
  refine s_getEn hx hb hT hK hS hown 0 (by decide) fl_X9_9 dX9_init_5 ?_
  obtain ⟨f2, hf2, hE⟩ := bd hE
  refine s_putR hx hb hT u_X9 tyX9 tyX9_ok nmX9 hown hK hW hS hf2 rfl (by decide) fl_X9_15 rfl (Or.inl rfl) rfl fit_o dX9_init_8 (fun H locs hW hS => ?_)
  refine s_aload_n hx hb dX9_init_11 rfl (lv_at hl 0 rfl) ?_
  refine s_aload_n hx hb dX9_init_12 rfl (lv_at hl 1 rfl) ?_
  obtain ⟨f3, hf3, hE⟩ := bd hE
  refine s_putR hx hb hT u_X9 tyX9 tyX9_ok nmX9 hown hK hW hS hf3 rfl (by decide) fl_X9_20 rfl (Or.inr ⟨rfl, hin, rfl⟩) rfl fit_a dX9_init_13 (fun H locs hW hS => ?_)
  obtain rfl := so1 hE
  exact s_vret hx hb hr hlocks hW hS dX9_init_16
set_option maxHeartbeats 4000000 in
set_option maxRecDepth 100000 in
theorem S_X5_init (l : Launch) (G : GG) (F : Nat) {u0 : Option Nat} {u1 : Option Nat} {f : Hp} {f' : Hp} {n : Nat} (hE : m_X5_init F u0 u1 f = some f') : Ctr l G yX5_init cX5_init 2 none 1 24 [rr G u0, rr G u1] f n none f' n 0 0 := by
  refine Met.ofW (cc := cX5_init) (maxL := 2) (ret := none) (by decide) rfl ?_
  intro p e s m args below meth c s₁ B hml hv
  obtain ⟨rfl, hK, hW⟩ := hv
  have hx := B.exec
  have hb := B.bytes
  have hr := B.returns
  have hts := atoms_spec (ws := wsO yX5_init cX5_init 2 none) B.pre
  have hT : ∀ w ∈ TB, w.before [rr G u0, rr G u1].toArray s = true := fun w hw => hts w (List.mem_cons_of_mem _ hw)
  have hown : s.vm.findClass RX5 = some m.cls := findClass_of_methodNamed B.named
  have hlocks := B.notSynchronized
  have hin : meth.name = "<init>" := (name_of_methodNamed B.named B.method).1
  have CF : CallFix p m c cX5_init 2 s [rr G u0, rr G u1].toArray TB RX5 := ⟨hx, hb, hml, hown, hT⟩
  have hS : va_S (WA G) s.heap s.heap [] := va_S.rf
  have hl : lv_has (lg_sl ([rr G u0, rr G u1]) ++ List.replicate (2 - (lg_sl ([rr G u0, rr G u1])).length) Slot.unset).toArray 2 [(0, rr G u0), (1, rr G u1)] := by cases u0 <;> cases u1 <;> exact lv_entry _ (Nat.le_of_ble_eq_true rfl)
  rw [lg_entry_eq]
  generalize (lg_sl ([rr G u0, rr G u1]) ++ List.replicate (2 - (lg_sl ([rr G u0, rr G u1])).length) Slot.unset).toArray = ls at hl ⊢
  refine s_aload_n hx hb dX5_init_0 rfl (lv_at hl 0 rfl) ?_
  obtain ⟨c1, hE⟩ := ck hE
  refine s_obj hx hb hml hl.1 hown hT ob_X5_3 ob_im ob_cd c1 (Nat.le_of_ble_eq_true rfl) (Nat.le_of_ble_eq_true rfl) (Nat.le_of_ble_eq_true rfl) dX5_init_1 ?_
  refine s_aload_n hx hb dX5_init_4 rfl (lv_at hl 0 rfl) ?_
  refine s_aload_n hx hb dX5_init_5 rfl (lv_at hl 1 rfl) ?_
  obtain ⟨f2, hf2, hE⟩ := bd hE
  refine s_putR hx hb hT u_X5 tyX5 tyX5_ok nmX5 hown hK hW hS hf2 rfl (by decide) fl_X5_9 rfl (Or.inr ⟨rfl, hin, rfl⟩) rfl fit_o dX5_init_6 (fun H locs hW hS => ?_)
  obtain rfl := so1 hE
  exact s_vret hx hb hr hlocks hW hS dX5_init_9
set_option maxHeartbeats 4000000 in
set_option maxRecDepth 100000 in
theorem S_X8_init (l : Launch) (G : GG) (F : Nat) {u0 : Option Nat} {u1 : Option Nat} {f : Hp} {f' : Hp} {n : Nat} (hE : m_X8_init F u0 u1 f = some f') : Ctr l G yX8_init cX8_init 2 none 1 24 [rr G u0, rr G u1] f n none f' n 0 0 := by
  refine Met.ofW (cc := cX8_init) (maxL := 2) (ret := none) (by decide) rfl ?_
  intro p e s m args below meth c s₁ B hml hv
  obtain ⟨rfl, hK, hW⟩ := hv
  have hx := B.exec
  have hb := B.bytes
  have hr := B.returns
  have hts := atoms_spec (ws := wsO yX8_init cX8_init 2 none) B.pre
  have hT : ∀ w ∈ TB, w.before [rr G u0, rr G u1].toArray s = true := fun w hw => hts w (List.mem_cons_of_mem _ hw)
  have hown : s.vm.findClass RX8 = some m.cls := findClass_of_methodNamed B.named
  have hlocks := B.notSynchronized
  have hin : meth.name = "<init>" := (name_of_methodNamed B.named B.method).1
  have CF : CallFix p m c cX8_init 2 s [rr G u0, rr G u1].toArray TB RX8 := ⟨hx, hb, hml, hown, hT⟩
  have hS : va_S (WA G) s.heap s.heap [] := va_S.rf
  have hl : lv_has (lg_sl ([rr G u0, rr G u1]) ++ List.replicate (2 - (lg_sl ([rr G u0, rr G u1])).length) Slot.unset).toArray 2 [(0, rr G u0), (1, rr G u1)] := by cases u0 <;> cases u1 <;> exact lv_entry _ (Nat.le_of_ble_eq_true rfl)
  rw [lg_entry_eq]
  generalize (lg_sl ([rr G u0, rr G u1]) ++ List.replicate (2 - (lg_sl ([rr G u0, rr G u1])).length) Slot.unset).toArray = ls at hl ⊢
  refine s_aload_n hx hb dX8_init_0 rfl (lv_at hl 0 rfl) ?_
  obtain ⟨c1, hE⟩ := ck hE
  refine s_obj hx hb hml hl.1 hown hT ob_X8_3 ob_im ob_cd c1 (Nat.le_of_ble_eq_true rfl) (Nat.le_of_ble_eq_true rfl) (Nat.le_of_ble_eq_true rfl) dX8_init_1 ?_
  refine s_aload_n hx hb dX8_init_4 rfl (lv_at hl 0 rfl) ?_
  refine s_aload_n hx hb dX8_init_5 rfl (lv_at hl 1 rfl) ?_
  obtain ⟨f2, hf2, hE⟩ := bd hE
  refine s_putR hx hb hT u_X8 tyX8 tyX8_ok nmX8 hown hK hW hS hf2 rfl (by decide) fl_X8_9 rfl (Or.inr ⟨rfl, hin, rfl⟩) rfl fit_o dX8_init_6 (fun H locs hW hS => ?_)
  obtain rfl := so1 hE
  exact s_vret hx hb hr hlocks hW hS dX8_init_9
set_option maxHeartbeats 4000000 in
set_option maxRecDepth 100000 in
theorem S_X3_init (l : Launch) (G : GG) (F : Nat) {u0 : Option Nat} {f : Hp} {f' : Hp} {n n2 z z2 : Nat} (hE : m_X3_init F u0 f n z = some (f', n2, z2)) : Ctr l G yX3_init cX3_init 1 none 1 24 [rr G u0] f n none f' n2 (n2 - n) (z2 - z) := by
  refine Met.ofW (cc := cX3_init) (maxL := 1) (ret := none) (by decide) rfl ?_
  intro p e s m args below meth c s₁ B hml hv
  obtain ⟨rfl, hK, hW⟩ := hv
  have hx := B.exec
  have hb := B.bytes
  have hr := B.returns
  have hts := atoms_spec (ws := wsO yX3_init cX3_init 1 none) B.pre
  have hT : ∀ w ∈ TB, w.before [rr G u0].toArray s = true := fun w hw => hts w (List.mem_cons_of_mem _ hw)
  have hown : s.vm.findClass RX3 = some m.cls := findClass_of_methodNamed B.named
  have hlocks := B.notSynchronized
  have hin : meth.name = "<init>" := (name_of_methodNamed B.named B.method).1
  have CF : CallFix p m c cX3_init 1 s [rr G u0].toArray TB RX3 := ⟨hx, hb, hml, hown, hT⟩
  have hS : va_S (WA G) s.heap s.heap [] := va_S.rf
  have hl : lv_has (lg_sl ([rr G u0]) ++ List.replicate (1 - (lg_sl ([rr G u0])).length) Slot.unset).toArray 1 [(0, rr G u0)] := by cases u0 <;> exact lv_entry _ (Nat.le_of_ble_eq_true rfl)
  rw [lg_entry_eq]
  generalize (lg_sl ([rr G u0]) ++ List.replicate (1 - (lg_sl ([rr G u0])).length) Slot.unset).toArray = ls at hl ⊢
  refine W.cs (cells' := n - n) (slots' := z - z) (by omega) (by omega) ?_
  refine s_aload_n hx hb dX3_init_0 rfl (lv_at hl 0 rfl) ?_
  obtain ⟨c1, hE⟩ := ck hE
  refine s_obj hx hb hml hl.1 hown hT ob_X3_3 ob_im ob_cd c1 (Nat.le_of_ble_eq_true rfl) (Nat.le_of_ble_eq_true rfl) (Nat.le_of_ble_eq_true rfl) dX3_init_1 ?_
  refine s_aload_n hx hb dX3_init_4 rfl (lv_at hl 0 rfl) ?_
  refine lv_bipush (v := (10 : Int32)) hx hb dX3_init_5 (by decide) ?_
  obtain ⟨c2, hE⟩ := ck hE
  replace c2 := of_decide_eq_true c2
  obtain ⟨g3a, g3b, hE⟩ := grow_of hE
  replace g3a : n + 1 ≤ n2 := g3a
  replace g3b : z + Int32.toNatClampNeg (10 : Int32) ≤ z2 := g3b
  obtain ⟨f4, ef4⟩ : ∃ y : Hp, y = va_up f (n) (some (.inr (1, Int32.toNatClampNeg (10 : Int32), .inl fun _ => 0))) := ⟨_, rfl⟩
  replace hE := nm_o ef4 hE
  refine s_newA (t := 1) (x := .inl fun _ => 0) hx hb rfl (by decide) (hT _ ac_int) (fun h => h) hK hW hS (fun _ => rfl) c2.1 (Nat.le_trans (Nat.mul_le_mul_right _ c2.2) (by decide)) (show n - n + 1 ≤ n2 - n by omega) (show z - z + Int32.toNatClampNeg (10 : Int32) ≤ z2 - z by omega) dX3_init_7 (fun H hW hS => ?_)
  rw [← ef4] at hW
  refine W.cs (cells' := n + 1 - n) (slots' := z + Int32.toNatClampNeg (10 : Int32) - z) (by omega) (by omega) ?_
  obtain ⟨f5, hf5, hE⟩ := bd hE
  refine s_putR hx hb hT u_X3 tyX3 tyX3_ok nmX3 hown hK hW hS hf5 rfl (by decide) fl_X3_11 rfl (Or.inr ⟨rfl, hin, rfl⟩) rfl fit_a dX3_init_9 (fun H locs hW hS => ?_)
  refine s_aload_n hx hb dX3_init_12 rfl (lv_at hl 0 rfl) ?_
  refine lv_bipush (v := (10 : Int32)) hx hb dX3_init_13 (by decide) ?_
  obtain ⟨c6, hE⟩ := ck hE
  replace c6 := of_decide_eq_true c6
  obtain ⟨g7a, g7b, hE⟩ := grow_of hE
  replace g7a : n + 1 + 1 ≤ n2 := g7a
  replace g7b : z + Int32.toNatClampNeg (10 : Int32) + Int32.toNatClampNeg (10 : Int32) ≤ z2 := g7b
  obtain ⟨f8, ef8⟩ : ∃ y : Hp, y = va_up f5 (n + 1) (some (.inr (1, Int32.toNatClampNeg (10 : Int32), .inl fun _ => 0))) := ⟨_, rfl⟩
  replace hE := nm_o ef8 hE
  refine s_newA (t := 1) (x := .inl fun _ => 0) hx hb rfl (by decide) (hT _ ac_int) (fun h => h) hK hW hS (fun _ => rfl) c6.1 (Nat.le_trans (Nat.mul_le_mul_right _ c6.2) (by decide)) (show n + 1 - n + 1 ≤ n2 - n by omega) (show z + Int32.toNatClampNeg (10 : Int32) - z + Int32.toNatClampNeg (10 : Int32) ≤ z2 - z by omega) dX3_init_15 (fun H hW hS => ?_)
  rw [← ef8] at hW
  refine W.cs (cells' := n + 1 + 1 - n) (slots' := z + Int32.toNatClampNeg (10 : Int32) + Int32.toNatClampNeg (10 : Int32) - z) (by omega) (by omega) ?_
  obtain ⟨f9, hf9, hE⟩ := bd hE
  refine s_putR hx hb hT u_X3 tyX3 tyX3_ok nmX3 hown hK hW hS hf9 rfl (by decide) fl_X3_15 rfl (Or.inr ⟨rfl, hin, rfl⟩) rfl fit_a dX3_init_17 (fun H locs hW hS => ?_)
  refine s_aload_n hx hb dX3_init_20 rfl (lv_at hl 0 rfl) ?_
  refine lv_bipush (v := (100 : Int32)) hx hb dX3_init_21 (by decide) ?_
  obtain ⟨c10, hE⟩ := ck hE
  replace c10 := of_decide_eq_true c10
  obtain ⟨g11a, g11b, hE⟩ := grow_of hE
  replace g11a : n + 1 + 1 + 1 ≤ n2 := g11a
  replace g11b : z + Int32.toNatClampNeg (10 : Int32) + Int32.toNatClampNeg (10 : Int32) + Int32.toNatClampNeg (100 : Int32) ≤ z2 := g11b
  obtain ⟨f12, ef12⟩ : ∃ y : Hp, y = va_up f9 (n + 1 + 1) (some (.inr (1, Int32.toNatClampNeg (100 : Int32), .inl fun _ => 0))) := ⟨_, rfl⟩
  replace hE := nm_o ef12 hE
  refine s_newA (t := 1) (x := .inl fun _ => 0) hx hb rfl (by decide) (hT _ ac_int) (fun h => h) hK hW hS (fun _ => rfl) c10.1 (Nat.le_trans (Nat.mul_le_mul_right _ c10.2) (by decide)) (show n + 1 + 1 - n + 1 ≤ n2 - n by omega) (show z + Int32.toNatClampNeg (10 : Int32) + Int32.toNatClampNeg (10 : Int32) - z + Int32.toNatClampNeg (100 : Int32) ≤ z2 - z by omega) dX3_init_23 (fun H hW hS => ?_)
  rw [← ef12] at hW
  refine W.cs (cells' := n + 1 + 1 + 1 - n) (slots' := z + Int32.toNatClampNeg (10 : Int32) + Int32.toNatClampNeg (10 : Int32) + Int32.toNatClampNeg (100 : Int32) - z) (by omega) (by omega) ?_
  obtain ⟨f13, hf13, hE⟩ := bd hE
  refine s_putR hx hb hT u_X3 tyX3 tyX3_ok nmX3 hown hK hW hS hf13 rfl (by decide) fl_X3_18 rfl (Or.inr ⟨rfl, hin, rfl⟩) rfl fit_a dX3_init_25 (fun H locs hW hS => ?_)
  refine s_aload_n hx hb dX3_init_28 rfl (lv_at hl 0 rfl) ?_
  refine lv_bipush (v := (10 : Int32)) hx hb dX3_init_29 (by decide) ?_
  obtain ⟨c14, hE⟩ := ck hE
  replace c14 := of_decide_eq_true c14
  obtain ⟨g15a, g15b, hE⟩ := grow_of hE
  replace g15a : n + 1 + 1 + 1 + 1 ≤ n2 := g15a
  replace g15b : z + Int32.toNatClampNeg (10 : Int32) + Int32.toNatClampNeg (10 : Int32) + Int32.toNatClampNeg (100 : Int32) + Int32.toNatClampNeg (10 : Int32) ≤ z2 := g15b
  obtain ⟨f16, ef16⟩ : ∃ y : Hp, y = va_up f13 (n + 1 + 1 + 1) (some (.inr (1, Int32.toNatClampNeg (10 : Int32), .inl fun _ => 0))) := ⟨_, rfl⟩
  replace hE := nm_o ef16 hE
  refine s_newA (t := 1) (x := .inl fun _ => 0) hx hb rfl (by decide) (hT _ ac_int) (fun h => h) hK hW hS (fun _ => rfl) c14.1 (Nat.le_trans (Nat.mul_le_mul_right _ c14.2) (by decide)) (show n + 1 + 1 + 1 - n + 1 ≤ n2 - n by omega) (show z + Int32.toNatClampNeg (10 : Int32) + Int32.toNatClampNeg (10 : Int32) + Int32.toNatClampNeg (100 : Int32) - z + Int32.toNatClampNeg (10 : Int32) ≤ z2 - z by omega) dX3_init_31 (fun H hW hS => ?_)
  rw [← ef16] at hW
  refine W.cs (cells' := n + 1 + 1 + 1 + 1 - n) (slots' := z + Int32.toNatClampNeg (10 : Int32) + Int32.toNatClampNeg (10 : Int32) + Int32.toNatClampNeg (100 : Int32) + Int32.toNatClampNeg (10 : Int32) - z) (by omega) (by omega) ?_
  obtain ⟨f17, hf17, hE⟩ := bd hE
  refine s_putR hx hb hT u_X3 tyX3 tyX3_ok nmX3 hown hK hW hS hf17 rfl (by decide) fl_X3_21 rfl (Or.inr ⟨rfl, hin, rfl⟩) rfl fit_a dX3_init_33 (fun H locs hW hS => ?_)
  refine s_aload_n hx hb dX3_init_36 rfl (lv_at hl 0 rfl) ?_
  refine lv_bipush (v := (10 : Int32)) hx hb dX3_init_37 (by decide) ?_
  obtain ⟨c18, hE⟩ := ck hE
  replace c18 := of_decide_eq_true c18
  obtain ⟨g19a, g19b, hE⟩ := grow_of hE
  replace g19a : n + 1 + 1 + 1 + 1 + 1 ≤ n2 := g19a
  replace g19b : z + Int32.toNatClampNeg (10 : Int32) + Int32.toNatClampNeg (10 : Int32) + Int32.toNatClampNeg (100 : Int32) + Int32.toNatClampNeg (10 : Int32) + Int32.toNatClampNeg (10 : Int32) ≤ z2 := g19b
  obtain ⟨f20, ef20⟩ : ∃ y : Hp, y = va_up f17 (n + 1 + 1 + 1 + 1) (some (.inr (1, Int32.toNatClampNeg (10 : Int32), .inl fun _ => 0))) := ⟨_, rfl⟩
  replace hE := nm_o ef20 hE
  refine s_newA (t := 1) (x := .inl fun _ => 0) hx hb rfl (by decide) (hT _ ac_int) (fun h => h) hK hW hS (fun _ => rfl) c18.1 (Nat.le_trans (Nat.mul_le_mul_right _ c18.2) (by decide)) (show n + 1 + 1 + 1 + 1 - n + 1 ≤ n2 - n by omega) (show z + Int32.toNatClampNeg (10 : Int32) + Int32.toNatClampNeg (10 : Int32) + Int32.toNatClampNeg (100 : Int32) + Int32.toNatClampNeg (10 : Int32) - z + Int32.toNatClampNeg (10 : Int32) ≤ z2 - z by omega) dX3_init_39 (fun H hW hS => ?_)
  rw [← ef20] at hW
  refine W.cs (cells' := n + 1 + 1 + 1 + 1 + 1 - n) (slots' := z + Int32.toNatClampNeg (10 : Int32) + Int32.toNatClampNeg (10 : Int32) + Int32.toNatClampNeg (100 : Int32) + Int32.toNatClampNeg (10 : Int32) + Int32.toNatClampNeg (10 : Int32) - z) (by omega) (by omega) ?_
  obtain ⟨f21, hf21, hE⟩ := bd hE
  refine s_putR hx hb hT u_X3 tyX3 tyX3_ok nmX3 hown hK hW hS hf21 rfl (by decide) fl_X3_24 rfl (Or.inr ⟨rfl, hin, rfl⟩) rfl fit_a dX3_init_41 (fun H locs hW hS => ?_)
  refine s_aload_n hx hb dX3_init_44 rfl (lv_at hl 0 rfl) ?_
  refine lv_bipush (v := (10 : Int32)) hx hb dX3_init_45 (by decide) ?_
  obtain ⟨c22, hE⟩ := ck hE
  replace c22 := of_decide_eq_true c22
  obtain ⟨g23a, g23b, hE⟩ := grow_of hE
  replace g23a : n + 1 + 1 + 1 + 1 + 1 + 1 ≤ n2 := g23a
  replace g23b : z + Int32.toNatClampNeg (10 : Int32) + Int32.toNatClampNeg (10 : Int32) + Int32.toNatClampNeg (100 : Int32) + Int32.toNatClampNeg (10 : Int32) + Int32.toNatClampNeg (10 : Int32) + Int32.toNatClampNeg (10 : Int32) ≤ z2 := g23b
  obtain ⟨f24, ef24⟩ : ∃ y : Hp, y = va_up f21 (n + 1 + 1 + 1 + 1 + 1) (some (.inr (3, Int32.toNatClampNeg (10 : Int32), .inl fun _ => 0))) := ⟨_, rfl⟩
  replace hE := nm_o ef24 hE
  refine s_newA (t := 3) (x := .inl fun _ => 0) hx hb rfl (by decide) (hT _ ac_boolean) (fun h => h) hK hW hS (fun _ => rfl) c22.1 (Nat.le_trans (Nat.mul_le_mul_right _ c22.2) (by decide)) (show n + 1 + 1 + 1 + 1 + 1 - n + 1 ≤ n2 - n by omega) (show z + Int32.toNatClampNeg (10 : Int32) + Int32.toNatClampNeg (10 : Int32) + Int32.toNatClampNeg (100 : Int32) + Int32.toNatClampNeg (10 : Int32) + Int32.toNatClampNeg (10 : Int32) - z + Int32.toNatClampNeg (10 : Int32) ≤ z2 - z by omega) dX3_init_47 (fun H hW hS => ?_)
  rw [← ef24] at hW
  refine W.cs (cells' := n + 1 + 1 + 1 + 1 + 1 + 1 - n) (slots' := z + Int32.toNatClampNeg (10 : Int32) + Int32.toNatClampNeg (10 : Int32) + Int32.toNatClampNeg (100 : Int32) + Int32.toNatClampNeg (10 : Int32) + Int32.toNatClampNeg (10 : Int32) + Int32.toNatClampNeg (10 : Int32) - z) (by omega) (by omega) ?_
  obtain ⟨f25, hf25, hE⟩ := bd hE
  refine s_putR hx hb hT u_X3 tyX3 tyX3_ok nmX3 hown hK hW hS hf25 rfl (by decide) fl_X3_27 rfl (Or.inr ⟨rfl, hin, rfl⟩) rfl fit_a dX3_init_49 (fun H locs hW hS => ?_)
  obtain ⟨rfl, rfl, rfl⟩ := so3 hE
  exact s_vret hx hb hr hlocks hW hS dX3_init_52
set_option maxHeartbeats 4000000 in
set_option maxRecDepth 100000 in
theorem S_X11_init (l : Launch) (G : GG) (F : Nat) {u0 : Option Nat} {f : Hp} {f' : Hp} {n n2 z z2 : Nat} (hE : m_X11_init F u0 f n z = some (f', n2, z2)) : Ctr l G yX11_init cX11_init 1 none 3 66 [rr G u0] f n none f' n2 (n2 - n) (z2 - z) := by
  refine Met.ofW (cc := cX11_init) (maxL := 1) (ret := none) (by decide) rfl ?_
  intro p e s m args below meth c s₁ B hml hv
  obtain ⟨rfl, hK, hW⟩ := hv
  have hx := B.exec
  have hb := B.bytes
  have hr := B.returns
  have hts := atoms_spec (ws := wsO yX11_init cX11_init 1 none) B.pre
  have hT : ∀ w ∈ TB, w.before [rr G u0].toArray s = true := fun w hw => hts w (List.mem_cons_of_mem _ hw)
  have hown : s.vm.findClass RX11 = some m.cls := findClass_of_methodNamed B.named
  have hlocks := B.notSynchronized
  have hin : meth.name = "<init>" := (name_of_methodNamed B.named B.method).1
  have CF : CallFix p m c cX11_init 1 s [rr G u0].toArray TB RX11 := ⟨hx, hb, hml, hown, hT⟩
  have hS : va_S (WA G) s.heap s.heap [] := va_S.rf
  have hl : lv_has (lg_sl ([rr G u0]) ++ List.replicate (1 - (lg_sl ([rr G u0])).length) Slot.unset).toArray 1 [(0, rr G u0)] := by cases u0 <;> exact lv_entry _ (Nat.le_of_ble_eq_true rfl)
  rw [lg_entry_eq]
  generalize (lg_sl ([rr G u0]) ++ List.replicate (1 - (lg_sl ([rr G u0])).length) Slot.unset).toArray = ls at hl ⊢
  refine W.cs (cells' := n - n) (slots' := z - z) (by omega) (by omega) ?_
  refine s_aload_n hx hb dX11_init_0 rfl (lv_at hl 0 rfl) ?_
  obtain ⟨c1, hE⟩ := ck hE
  refine s_obj hx hb hml hl.1 hown hT ob_X11_1 ob_im ob_cd c1 (Nat.le_of_ble_eq_true rfl) (Nat.le_of_ble_eq_true rfl) (Nat.le_of_ble_eq_true rfl) dX11_init_1 ?_
  refine s_aload_n hx hb dX11_init_4 rfl (lv_at hl 0 rfl) ?_
  refine lv_sipush (v := (740 : Int32)) hx hb dX11_init_5 (by decide) ?_
  obtain ⟨c2, hE⟩ := ck hE
  replace c2 := of_decide_eq_true c2
  obtain ⟨g3a, g3b, hE⟩ := grow_of hE
  replace g3a : n + 1 ≤ n2 := g3a
  replace g3b : z + Int32.toNatClampNeg (740 : Int32) ≤ z2 := g3b
  obtain ⟨f4, ef4⟩ : ∃ y : Hp, y = va_up f (n) (some (.inr (0, Int32.toNatClampNeg (740 : Int32), .inl fun _ => 0))) := ⟨_, rfl⟩
  replace hE := nm_o ef4 hE
  refine s_newA (t := 0) (x := .inl fun _ => 0) hx hb rfl (by decide) (hT _ ac_byte) (fun h => h) hK hW hS (fun _ => rfl) c2.1 (Nat.le_trans (Nat.mul_le_mul_right _ c2.2) (by decide)) (show n - n + 1 ≤ n2 - n by omega) (show z - z + Int32.toNatClampNeg (740 : Int32) ≤ z2 - z by omega) dX11_init_8 (fun H hW hS => ?_)
  rw [← ef4] at hW
  refine W.cs (cells' := n + 1 - n) (slots' := z + Int32.toNatClampNeg (740 : Int32) - z) (by omega) (by omega) ?_
  obtain ⟨f5, hf5, hE⟩ := bd hE
  refine s_putR hx hb hT u_X11 tyX11 tyX11_ok nmX11 hown hK hW hS hf5 rfl (by decide) fl_X11_9 rfl (Or.inr ⟨rfl, hin, rfl⟩) rfl fit_a dX11_init_10 (fun H locs hW hS => ?_)
  refine s_aload_n hx hb dX11_init_13 rfl (lv_at hl 0 rfl) ?_
  obtain ⟨g6a, g6b, hE⟩ := grow_of hE
  replace g6a : n + 1 + 1 ≤ n2 := g6a
  replace g6b : z + Int32.toNatClampNeg (740 : Int32) + 12 ≤ z2 := g6b
  obtain ⟨f7, ef7⟩ : ∃ y : Hp, y = va_up f5 (n + 1) (some (.inl (3, [.int 0, .int 0, .null, .int 0, .null, .null, .int 0, .null, .null, .int 0, .null, .null]))) := ⟨_, rfl⟩
  replace hE := nm_o ef7 hE
  refine s_new (ci := 3) (fs := [.int 0, .int 0, .null, .int 0, .null, .null, .int 0, .null, .null, .int 0, .null, .null]) hx hb hT u_X4 tyX4 tyX4_ok hown cl_X11_13 ist_X4 ini_CopyOrders_House hK hW hS rfl (fun j hj => by match j, hj with | 0, _ => rfl | 1, _ => rfl | 2, _ => rfl | 3, _ => rfl | 4, _ => rfl | 5, _ => rfl | 6, _ => rfl | 7, _ => rfl | 8, _ => rfl | 9, _ => rfl | 10, _ => rfl | 11, _ => rfl) rfl (show n + 1 - n + 1 ≤ n2 - n by omega) (show z + Int32.toNatClampNeg (740 : Int32) - z + 12 ≤ z2 - z by omega) dX11_init_14 (fun H hW hS => ?_)
  rw [← ef7] at hW
  refine W.cs (cells' := n + 1 + 1 - n) (slots' := z + Int32.toNatClampNeg (740 : Int32) + 12 - z) (by omega) (by omega) ?_
  refine lv_dup hx hb dX11_init_17 (cat_rr G _) ?_
  obtain ⟨f10, nq8, zq9, hf10, hE⟩ := bd3_of hE
  obtain ⟨c11, hE⟩ := ck hE
  replace c11 := of_decide_eq_true c11
  obtain ⟨g12a, g12b, hE⟩ := grow_of hE
  replace g12a : nq8 ≤ n2 := g12a
  replace g12b : zq9 ≤ z2 := g12b
  refine s_callI (As := []) (rest := [rr G (some (n + 1)), rr G u0]) CF hK hW hS (S_X4_init l G F hf10) go_X4_init ini_CopyOrders_House ml_X11_15 im_X4_init rfl hd_X4_init.2 ⟨Nat.le_of_ble_eq_true rfl, Nat.le_of_ble_eq_true rfl⟩ rfl hl.1 rfl (Nat.le_of_ble_eq_true rfl) dX11_init_18 ⟨show n + 1 + 1 - n + (nq8 - (n + 1 + 1)) ≤ n2 - n by omega, show z + Int32.toNatClampNeg (740 : Int32) + 12 - z + (zq9 - (z + Int32.toNatClampNeg (740 : Int32) + 12)) ≤ z2 - z by omega⟩ (fun H locs hW hS => ?_)
  refine W.cs (cells' := nq8 - n) (slots' := zq9 - z) (by omega) (by omega) ?_
  obtain ⟨f13, hf13, hE⟩ := bd hE
  refine s_putR hx hb hT u_X11 tyX11 tyX11_ok nmX11 hown hK hW hS hf13 rfl (by decide) fl_X11_16 rfl (Or.inl rfl) rfl fit_o dX11_init_21 (fun H locs hW hS => ?_)
  refine s_aload_n hx hb dX11_init_24 rfl (lv_at hl 0 rfl) ?_
  obtain ⟨g14a, g14b, hE⟩ := grow_of hE
  replace g14a : nq8 + 1 ≤ n2 := g14a
  replace g14b : zq9 + 12 ≤ z2 := g14b
  obtain ⟨f15, ef15⟩ : ∃ y : Hp, y = va_up f13 (nq8) (some (.inl (3, [.int 0, .int 0, .null, .int 0, .null, .null, .int 0, .null, .null, .int 0, .null, .null]))) := ⟨_, rfl⟩
  replace hE := nm_o ef15 hE
  refine s_new (ci := 3) (fs := [.int 0, .int 0, .null, .int 0, .null, .null, .int 0, .null, .null, .int 0, .null, .null]) hx hb hT u_X4 tyX4 tyX4_ok hown cl_X11_13 ist_X4 ini_CopyOrders_House hK hW hS rfl (fun j hj => by match j, hj with | 0, _ => rfl | 1, _ => rfl | 2, _ => rfl | 3, _ => rfl | 4, _ => rfl | 5, _ => rfl | 6, _ => rfl | 7, _ => rfl | 8, _ => rfl | 9, _ => rfl | 10, _ => rfl | 11, _ => rfl) rfl (show nq8 - n + 1 ≤ n2 - n by omega) (show zq9 - z + 12 ≤ z2 - z by omega) dX11_init_25 (fun H hW hS => ?_)
  rw [← ef15] at hW
  refine W.cs (cells' := nq8 + 1 - n) (slots' := zq9 + 12 - z) (by omega) (by omega) ?_
  refine lv_dup hx hb dX11_init_28 (cat_rr G _) ?_
  obtain ⟨f18, nq16, zq17, hf18, hE⟩ := bd3_of hE
  obtain ⟨c19, hE⟩ := ck hE
  replace c19 := of_decide_eq_true c19
  obtain ⟨g20a, g20b, hE⟩ := grow_of hE
  replace g20a : nq16 ≤ n2 := g20a
  replace g20b : zq17 ≤ z2 := g20b
  refine s_callI (As := []) (rest := [rr G (some (nq8)), rr G u0]) CF hK hW hS (S_X4_init l G F hf18) go_X4_init ini_CopyOrders_House ml_X11_15 im_X4_init rfl hd_X4_init.2 ⟨Nat.le_of_ble_eq_true rfl, Nat.le_of_ble_eq_true rfl⟩ rfl hl.1 rfl (Nat.le_of_ble_eq_true rfl) dX11_init_29 ⟨show nq8 + 1 - n + (nq16 - (nq8 + 1)) ≤ n2 - n by omega, show zq9 + 12 - z + (zq17 - (zq9 + 12)) ≤ z2 - z by omega⟩ (fun H locs hW hS => ?_)
  refine W.cs (cells' := nq16 - n) (slots' := zq17 - z) (by omega) (by omega) ?_
  obtain ⟨f21, hf21, hE⟩ := bd hE
  refine s_putR hx hb hT u_X11 tyX11 tyX11_ok nmX11 hown hK hW hS hf21 rfl (by decide) fl_X11_20 rfl (Or.inl rfl) rfl fit_o dX11_init_32 (fun H locs hW hS => ?_)
  refine s_aload_n hx hb dX11_init_35 rfl (lv_at hl 0 rfl) ?_
  obtain ⟨g22a, g22b, hE⟩ := grow_of hE
  replace g22a : nq16 + 1 ≤ n2 := g22a
  replace g22b : zq17 + 6 ≤ z2 := g22b
  obtain ⟨f23, ef23⟩ : ∃ y : Hp, y = va_up f21 (nq16) (some (.inl (6, [.int 0, .null, .null, .null, .null, .null]))) := ⟨_, rfl⟩
  replace hE := nm_o ef23 hE
  refine s_new (ci := 6) (fs := [.int 0, .null, .null, .null, .null, .null]) hx hb hT u_X7 tyX7 tyX7_ok hown cl_X11_23 ist_X7 ini_CopyOrders_Sentence hK hW hS rfl (fun j hj => by match j, hj with | 0, _ => rfl | 1, _ => rfl | 2, _ => rfl | 3, _ => rfl | 4, _ => rfl | 5, _ => rfl) rfl (show nq16 - n + 1 ≤ n2 - n by omega) (show zq17 - z + 6 ≤ z2 - z by omega) dX11_init_36 (fun H hW hS => ?_)
  rw [← ef23] at hW
  refine W.cs (cells' := nq16 + 1 - n) (slots' := zq17 + 6 - z) (by omega) (by omega) ?_
  refine lv_dup hx hb dX11_init_39 (cat_rr G _) ?_
  obtain ⟨f26, nq24, zq25, hf26, hE⟩ := bd3_of hE
  obtain ⟨c27, hE⟩ := ck hE
  replace c27 := of_decide_eq_true c27
  obtain ⟨g28a, g28b, hE⟩ := grow_of hE
  replace g28a : nq24 ≤ n2 := g28a
  replace g28b : zq25 ≤ z2 := g28b
  refine s_callI (As := []) (rest := [rr G (some (nq16)), rr G u0]) CF hK hW hS (S_X7_init l G F hf26) go_X7_init ini_CopyOrders_Sentence ml_X11_25 im_X7_init rfl hd_X7_init.2 ⟨Nat.le_of_ble_eq_true rfl, Nat.le_of_ble_eq_true rfl⟩ rfl hl.1 rfl (Nat.le_of_ble_eq_true rfl) dX11_init_40 ⟨show nq16 + 1 - n + (nq24 - (nq16 + 1)) ≤ n2 - n by omega, show zq17 + 6 - z + (zq25 - (zq17 + 6)) ≤ z2 - z by omega⟩ (fun H locs hW hS => ?_)
  refine W.cs (cells' := nq24 - n) (slots' := zq25 - z) (by omega) (by omega) ?_
  obtain ⟨f29, hf29, hE⟩ := bd hE
  refine s_putR hx hb hT u_X11 tyX11 tyX11_ok nmX11 hown hK hW hS hf29 rfl (by decide) fl_X11_26 rfl (Or.inl rfl) rfl fit_o dX11_init_43 (fun H locs hW hS => ?_)
  refine s_aload_n hx hb dX11_init_46 rfl (lv_at hl 0 rfl) ?_
  refine lv_iconst (v := (2 : Int32)) hx hb dX11_init_47 (by decide) ?_
  obtain ⟨c30, hE⟩ := ck hE
  replace c30 := of_decide_eq_true c30
  obtain ⟨g31a, g31b, hE⟩ := grow_of hE
  replace g31a : nq24 + 1 ≤ n2 := g31a
  replace g31b : zq25 + Int32.toNatClampNeg (2 : Int32) ≤ z2 := g31b
  obtain ⟨f32, ef32⟩ : ∃ y : Hp, y = va_up f29 (nq24) (some (.inr (6, Int32.toNatClampNeg (2 : Int32), .inr (.inr (.inr (.inr fun _ => none)))))) := ⟨_, rfl⟩
  replace hE := nm_o ef32 hE
  refine s_newQ (t := 6) hx hb hT hown rfl (by decide) cl_X11_13 (by decide) hK hW hS c30.1 (Nat.le_trans (Nat.mul_le_mul_right _ c30.2) (by decide)) (show nq24 - n + 1 ≤ n2 - n by omega) (show zq25 - z + Int32.toNatClampNeg (2 : Int32) ≤ z2 - z by omega) dX11_init_48 (fun H hW hS => ?_)
  rw [← ef32] at hW
  refine W.cs (cells' := nq24 + 1 - n) (slots' := zq25 + Int32.toNatClampNeg (2 : Int32) - z) (by omega) (by omega) ?_
  obtain ⟨f33, hf33, hE⟩ := bd hE
  refine s_putR hx hb hT u_X11 tyX11 tyX11_ok nmX11 hown hK hW hS hf33 rfl (by decide) fl_X11_30 rfl (Or.inr ⟨rfl, hin, rfl⟩) rfl fit_a dX11_init_51 (fun H locs hW hS => ?_)
  refine s_aload_n hx hb dX11_init_54 rfl (lv_at hl 0 rfl) ?_
  refine lv_bipush (v := (8 : Int32)) hx hb dX11_init_55 (by decide) ?_
  obtain ⟨c34, hE⟩ := ck hE
  replace c34 := of_decide_eq_true c34
  obtain ⟨g35a, g35b, hE⟩ := grow_of hE
  replace g35a : nq24 + 1 + 1 ≤ n2 := g35a
  replace g35b : zq25 + Int32.toNatClampNeg (2 : Int32) + Int32.toNatClampNeg (8 : Int32) ≤ z2 := g35b
  obtain ⟨f36, ef36⟩ : ∃ y : Hp, y = va_up f33 (nq24 + 1) (some (.inr (7, Int32.toNatClampNeg (8 : Int32), .inr (.inr (.inr (.inr fun _ => none)))))) := ⟨_, rfl⟩
  replace hE := nm_o ef36 hE
  refine s_newQ (t := 7) hx hb hT hown rfl (by decide) cl_X11_34 (by decide) hK hW hS c34.1 (Nat.le_trans (Nat.mul_le_mul_right _ c34.2) (by decide)) (show nq24 + 1 - n + 1 ≤ n2 - n by omega) (show zq25 + Int32.toNatClampNeg (2 : Int32) - z + Int32.toNatClampNeg (8 : Int32) ≤ z2 - z by omega) dX11_init_57 (fun H hW hS => ?_)
  rw [← ef36] at hW
  refine W.cs (cells' := nq24 + 1 + 1 - n) (slots' := zq25 + Int32.toNatClampNeg (2 : Int32) + Int32.toNatClampNeg (8 : Int32) - z) (by omega) (by omega) ?_
  obtain ⟨f37, hf37, hE⟩ := bd hE
  refine s_putR hx hb hT u_X11 tyX11 tyX11_ok nmX11 hown hK hW hS hf37 rfl (by decide) fl_X11_36 rfl (Or.inr ⟨rfl, hin, rfl⟩) rfl fit_a dX11_init_60 (fun H locs hW hS => ?_)
  refine s_aload_n hx hb dX11_init_63 rfl (lv_at hl 0 rfl) ?_
  obtain ⟨g38a, g38b, hE⟩ := grow_of hE
  replace g38a : nq24 + 1 + 1 + 1 ≤ n2 := g38a
  replace g38b : zq25 + Int32.toNatClampNeg (2 : Int32) + Int32.toNatClampNeg (8 : Int32) + 12 ≤ z2 := g38b
  obtain ⟨f39, ef39⟩ : ∃ y : Hp, y = va_up f37 (nq24 + 1 + 1) (some (.inl (8, [.null, .int 0, .int 0, .int 0, .int 0, .int 0, .long 0, .null, .int 0, .int 0, .int 0, .int 0]))) := ⟨_, rfl⟩
  replace hE := nm_o ef39 hE
  refine s_new (ci := 8) (fs := [.null, .int 0, .int 0, .int 0, .int 0, .int 0, .long 0, .null, .int 0, .int 0, .int 0, .int 0]) hx hb hT u_X9 tyX9 tyX9_ok hown cl_X11_40 ist_X9 ini_CopyOrders_Tokens hK hW hS rfl (fun j hj => by match j, hj with | 0, _ => rfl | 1, _ => rfl | 2, _ => rfl | 3, _ => rfl | 4, _ => rfl | 5, _ => rfl | 6, _ => rfl | 7, _ => rfl | 8, _ => rfl | 9, _ => rfl | 10, _ => rfl | 11, _ => rfl) rfl (show nq24 + 1 + 1 - n + 1 ≤ n2 - n by omega) (show zq25 + Int32.toNatClampNeg (2 : Int32) + Int32.toNatClampNeg (8 : Int32) - z + 12 ≤ z2 - z by omega) dX11_init_64 (fun H hW hS => ?_)
  rw [← ef39] at hW
  refine W.cs (cells' := nq24 + 1 + 1 + 1 - n) (slots' := zq25 + Int32.toNatClampNeg (2 : Int32) + Int32.toNatClampNeg (8 : Int32) + 12 - z) (by omega) (by omega) ?_
  refine lv_dup hx hb dX11_init_67 (cat_rr G _) ?_
  refine s_aload_n hx hb dX11_init_68 rfl (lv_at hl 0 rfl) ?_
  obtain ⟨x40, hx40, hE⟩ := bd hE
  refine s_gR hx hb hT u_X11 hown hK hW hx40 rfl (by decide) fl_X11_9 rfl dX11_init_69 ?_
  obtain ⟨g41a, g41b, hE⟩ := grow_of hE
  replace g41a : nq24 + 1 + 1 + 1 ≤ n2 := g41a
  replace g41b : zq25 + Int32.toNatClampNeg (2 : Int32) + Int32.toNatClampNeg (8 : Int32) + 12 ≤ z2 := g41b
  obtain ⟨f42, hf42, hE⟩ := bd hE
  refine s_callI (As := [rr G x40]) (rest := [rr G (some (nq24 + 1 + 1)), rr G u0]) CF hK hW hS (S_X9_init l G F hf42) go_X9_init ini_CopyOrders_Tokens ml_X11_42 im_X9_init rfl hd_X9_init.2 ⟨Nat.le_of_ble_eq_true rfl, Nat.le_of_ble_eq_true rfl⟩ rfl hl.1 rfl (Nat.le_of_ble_eq_true rfl) dX11_init_72 ⟨show nq24 + 1 + 1 + 1 - n + 0 ≤ n2 - n by omega, show zq25 + Int32.toNatClampNeg (2 : Int32) + Int32.toNatClampNeg (8 : Int32) + 12 - z + 0 ≤ z2 - z by omega⟩ (fun H locs hW hS => ?_)
  obtain ⟨f43, hf43, hE⟩ := bd hE
  refine s_putR hx hb hT u_X11 tyX11 tyX11_ok nmX11 hown hK hW hS hf43 rfl (by decide) fl_X11_45 rfl (Or.inr ⟨rfl, hin, rfl⟩) rfl fit_o dX11_init_75 (fun H locs hW hS => ?_)
  refine s_aload_n hx hb dX11_init_78 rfl (lv_at hl 0 rfl) ?_
  obtain ⟨g44a, g44b, hE⟩ := grow_of hE
  replace g44a : nq24 + 1 + 1 + 1 + 1 ≤ n2 := g44a
  replace g44b : zq25 + Int32.toNatClampNeg (2 : Int32) + Int32.toNatClampNeg (8 : Int32) + 12 + 6 ≤ z2 := g44b
  obtain ⟨f45, ef45⟩ : ∃ y : Hp, y = va_up f43 (nq24 + 1 + 1 + 1) (some (.inl (4, [.null, .null, .int 0, .int 0, .int 0, .int 0]))) := ⟨_, rfl⟩
  replace hE := nm_o ef45 hE
  refine s_new (ci := 4) (fs := [.null, .null, .int 0, .int 0, .int 0, .int 0]) hx hb hT u_X5 tyX5 tyX5_ok hown cl_X11_49 ist_X5 ini_CopyOrders_HouseReader hK hW hS rfl (fun j hj => by match j, hj with | 0, _ => rfl | 1, _ => rfl | 2, _ => rfl | 3, _ => rfl | 4, _ => rfl | 5, _ => rfl) rfl (show nq24 + 1 + 1 + 1 - n + 1 ≤ n2 - n by omega) (show zq25 + Int32.toNatClampNeg (2 : Int32) + Int32.toNatClampNeg (8 : Int32) + 12 - z + 6 ≤ z2 - z by omega) dX11_init_79 (fun H hW hS => ?_)
  rw [← ef45] at hW
  refine W.cs (cells' := nq24 + 1 + 1 + 1 + 1 - n) (slots' := zq25 + Int32.toNatClampNeg (2 : Int32) + Int32.toNatClampNeg (8 : Int32) + 12 + 6 - z) (by omega) (by omega) ?_
  refine lv_dup hx hb dX11_init_82 (cat_rr G _) ?_
  refine s_aload_n hx hb dX11_init_83 rfl (lv_at hl 0 rfl) ?_
  obtain ⟨x46, hx46, hE⟩ := bd hE
  refine s_gR hx hb hT u_X11 hown hK hW hx46 rfl (by decide) fl_X11_45 rfl dX11_init_84 ?_
  obtain ⟨g47a, g47b, hE⟩ := grow_of hE
  replace g47a : nq24 + 1 + 1 + 1 + 1 ≤ n2 := g47a
  replace g47b : zq25 + Int32.toNatClampNeg (2 : Int32) + Int32.toNatClampNeg (8 : Int32) + 12 + 6 ≤ z2 := g47b
  obtain ⟨f48, hf48, hE⟩ := bd hE
  refine s_callI (As := [rr G x46]) (rest := [rr G (some (nq24 + 1 + 1 + 1)), rr G u0]) CF hK hW hS (S_X5_init l G F hf48) go_X5_init ini_CopyOrders_HouseReader ml_X11_51 im_X5_init rfl hd_X5_init.2 ⟨Nat.le_of_ble_eq_true rfl, Nat.le_of_ble_eq_true rfl⟩ rfl hl.1 rfl (Nat.le_of_ble_eq_true rfl) dX11_init_87 ⟨show nq24 + 1 + 1 + 1 + 1 - n + 0 ≤ n2 - n by omega, show zq25 + Int32.toNatClampNeg (2 : Int32) + Int32.toNatClampNeg (8 : Int32) + 12 + 6 - z + 0 ≤ z2 - z by omega⟩ (fun H locs hW hS => ?_)
  obtain ⟨f49, hf49, hE⟩ := bd hE
  refine s_putR hx hb hT u_X11 tyX11 tyX11_ok nmX11 hown hK hW hS hf49 rfl (by decide) fl_X11_54 rfl (Or.inr ⟨rfl, hin, rfl⟩) rfl fit_o dX11_init_90 (fun H locs hW hS => ?_)
  refine s_aload_n hx hb dX11_init_93 rfl (lv_at hl 0 rfl) ?_
  obtain ⟨g50a, g50b, hE⟩ := grow_of hE
  replace g50a : nq24 + 1 + 1 + 1 + 1 + 1 ≤ n2 := g50a
  replace g50b : zq25 + Int32.toNatClampNeg (2 : Int32) + Int32.toNatClampNeg (8 : Int32) + 12 + 6 + 4 ≤ z2 := g50b
  obtain ⟨f51, ef51⟩ : ∃ y : Hp, y = va_up f49 (nq24 + 1 + 1 + 1 + 1) (some (.inl (7, [.null, .null, .null, .int 0]))) := ⟨_, rfl⟩
  replace hE := nm_o ef51 hE
  refine s_new (ci := 7) (fs := [.null, .null, .null, .int 0]) hx hb hT u_X8 tyX8 tyX8_ok hown cl_X11_58 ist_X8 ini_CopyOrders_SentenceReader hK hW hS rfl (fun j hj => by match j, hj with | 0, _ => rfl | 1, _ => rfl | 2, _ => rfl | 3, _ => rfl) rfl (show nq24 + 1 + 1 + 1 + 1 - n + 1 ≤ n2 - n by omega) (show zq25 + Int32.toNatClampNeg (2 : Int32) + Int32.toNatClampNeg (8 : Int32) + 12 + 6 - z + 4 ≤ z2 - z by omega) dX11_init_94 (fun H hW hS => ?_)
  rw [← ef51] at hW
  refine W.cs (cells' := nq24 + 1 + 1 + 1 + 1 + 1 - n) (slots' := zq25 + Int32.toNatClampNeg (2 : Int32) + Int32.toNatClampNeg (8 : Int32) + 12 + 6 + 4 - z) (by omega) (by omega) ?_
  refine lv_dup hx hb dX11_init_97 (cat_rr G _) ?_
  refine s_aload_n hx hb dX11_init_98 rfl (lv_at hl 0 rfl) ?_
  obtain ⟨x52, hx52, hE⟩ := bd hE
  refine s_gR hx hb hT u_X11 hown hK hW hx52 rfl (by decide) fl_X11_45 rfl dX11_init_99 ?_
  obtain ⟨g53a, g53b, hE⟩ := grow_of hE
  replace g53a : nq24 + 1 + 1 + 1 + 1 + 1 ≤ n2 := g53a
  replace g53b : zq25 + Int32.toNatClampNeg (2 : Int32) + Int32.toNatClampNeg (8 : Int32) + 12 + 6 + 4 ≤ z2 := g53b
  obtain ⟨f54, hf54, hE⟩ := bd hE
  refine s_callI (As := [rr G x52]) (rest := [rr G (some (nq24 + 1 + 1 + 1 + 1)), rr G u0]) CF hK hW hS (S_X8_init l G F hf54) go_X8_init ini_CopyOrders_SentenceReader ml_X11_60 im_X8_init rfl hd_X8_init.2 ⟨Nat.le_of_ble_eq_true rfl, Nat.le_of_ble_eq_true rfl⟩ rfl hl.1 rfl (Nat.le_of_ble_eq_true rfl) dX11_init_102 ⟨show nq24 + 1 + 1 + 1 + 1 + 1 - n + 0 ≤ n2 - n by omega, show zq25 + Int32.toNatClampNeg (2 : Int32) + Int32.toNatClampNeg (8 : Int32) + 12 + 6 + 4 - z + 0 ≤ z2 - z by omega⟩ (fun H locs hW hS => ?_)
  obtain ⟨f55, hf55, hE⟩ := bd hE
  refine s_putR hx hb hT u_X11 tyX11 tyX11_ok nmX11 hown hK hW hS hf55 rfl (by decide) fl_X11_61 rfl (Or.inr ⟨rfl, hin, rfl⟩) rfl fit_o dX11_init_105 (fun H locs hW hS => ?_)
  refine s_aload_n hx hb dX11_init_108 rfl (lv_at hl 0 rfl) ?_
  obtain ⟨g56a, g56b, hE⟩ := grow_of hE
  replace g56a : nq24 + 1 + 1 + 1 + 1 + 1 + 1 ≤ n2 := g56a
  replace g56b : zq25 + Int32.toNatClampNeg (2 : Int32) + Int32.toNatClampNeg (8 : Int32) + 12 + 6 + 4 + 7 ≤ z2 := g56b
  obtain ⟨f57, ef57⟩ : ∃ y : Hp, y = va_up f55 (nq24 + 1 + 1 + 1 + 1 + 1) (some (.inl (2, [.int 0, .null, .null, .null, .null, .null, .null]))) := ⟨_, rfl⟩
  replace hE := nm_o ef57 hE
  refine s_new (ci := 2) (fs := [.int 0, .null, .null, .null, .null, .null, .null]) hx hb hT u_X3 tyX3 tyX3_ok hown cl_X11_65 ist_X3 ini_CopyOrders_Family hK hW hS rfl (fun j hj => by match j, hj with | 0, _ => rfl | 1, _ => rfl | 2, _ => rfl | 3, _ => rfl | 4, _ => rfl | 5, _ => rfl | 6, _ => rfl) rfl (show nq24 + 1 + 1 + 1 + 1 + 1 - n + 1 ≤ n2 - n by omega) (show zq25 + Int32.toNatClampNeg (2 : Int32) + Int32.toNatClampNeg (8 : Int32) + 12 + 6 + 4 - z + 7 ≤ z2 - z by omega) dX11_init_109 (fun H hW hS => ?_)
  rw [← ef57] at hW
  refine W.cs (cells' := nq24 + 1 + 1 + 1 + 1 + 1 + 1 - n) (slots' := zq25 + Int32.toNatClampNeg (2 : Int32) + Int32.toNatClampNeg (8 : Int32) + 12 + 6 + 4 + 7 - z) (by omega) (by omega) ?_
  refine lv_dup hx hb dX11_init_112 (cat_rr G _) ?_
  obtain ⟨f60, nq58, zq59, hf60, hE⟩ := bd3_of hE
  obtain ⟨c61, hE⟩ := ck hE
  replace c61 := of_decide_eq_true c61
  obtain ⟨g62a, g62b, hE⟩ := grow_of hE
  replace g62a : nq58 ≤ n2 := g62a
  replace g62b : zq59 ≤ z2 := g62b
  refine s_callIN (As := []) (rest := [rr G (some (nq24 + 1 + 1 + 1 + 1 + 1)), rr G u0]) CF hK hW hS (S_X3_init l G F hf60) go_X3_init nm_X11_67 ini_CopyOrders_Family im_X3_init rfl hd_X3_init.2 ⟨Nat.le_of_ble_eq_true rfl, Nat.le_of_ble_eq_true rfl⟩ rfl hl.1 rfl (Nat.le_of_ble_eq_true rfl) dX11_init_113 ⟨show nq24 + 1 + 1 + 1 + 1 + 1 + 1 - n + (nq58 - (nq24 + 1 + 1 + 1 + 1 + 1 + 1)) ≤ n2 - n by omega, show zq25 + Int32.toNatClampNeg (2 : Int32) + Int32.toNatClampNeg (8 : Int32) + 12 + 6 + 4 + 7 - z + (zq59 - (zq25 + Int32.toNatClampNeg (2 : Int32) + Int32.toNatClampNeg (8 : Int32) + 12 + 6 + 4 + 7)) ≤ z2 - z by omega⟩ (fun H locs hW hS => ?_)
  refine W.cs (cells' := nq58 - n) (slots' := zq59 - z) (by omega) (by omega) ?_
  obtain ⟨f63, hf63, hE⟩ := bd hE
  refine s_putR hx hb hT u_X11 tyX11 tyX11_ok nmX11 hown hK hW hS hf63 rfl (by decide) fl_X11_68 rfl (Or.inr ⟨rfl, hin, rfl⟩) rfl fit_o dX11_init_116 (fun H locs hW hS => ?_)
  refine s_aload_n hx hb dX11_init_119 rfl (lv_at hl 0 rfl) ?_
  refine lv_bipush (v := (7 : Int32)) hx hb dX11_init_120 (by decide) ?_
  obtain ⟨c64, hE⟩ := ck hE
  replace c64 := of_decide_eq_true c64
  obtain ⟨g65a, g65b, hE⟩ := grow_of hE
  replace g65a : nq58 + 1 ≤ n2 := g65a
  replace g65b : zq59 + Int32.toNatClampNeg (7 : Int32) ≤ z2 := g65b
  obtain ⟨f66, ef66⟩ : ∃ y : Hp, y = va_up f63 (nq58) (some (.inr (1, Int32.toNatClampNeg (7 : Int32), .inl fun _ => 0))) := ⟨_, rfl⟩
  replace hE := nm_o ef66 hE
  refine s_newA (t := 1) (x := .inl fun _ => 0) hx hb rfl (by decide) (hT _ ac_int) (fun h => h) hK hW hS (fun _ => rfl) c64.1 (Nat.le_trans (Nat.mul_le_mul_right _ c64.2) (by decide)) (show nq58 - n + 1 ≤ n2 - n by omega) (show zq59 - z + Int32.toNatClampNeg (7 : Int32) ≤ z2 - z by omega) dX11_init_122 (fun H hW hS => ?_)
  rw [← ef66] at hW
  refine W.cs (cells' := nq58 + 1 - n) (slots' := zq59 + Int32.toNatClampNeg (7 : Int32) - z) (by omega) (by omega) ?_
  obtain ⟨f67, hf67, hE⟩ := bd hE
  refine s_putR hx hb hT u_X11 tyX11 tyX11_ok nmX11 hown hK hW hS hf67 rfl (by decide) fl_X11_72 rfl (Or.inr ⟨rfl, hin, rfl⟩) rfl fit_a dX11_init_124 (fun H locs hW hS => ?_)
  obtain ⟨rfl, rfl, rfl⟩ := so3 hE
  exact s_vret hx hb hr hlocks hW hS dX11_init_127
set_option maxHeartbeats 4000000 in
set_option maxRecDepth 100000 in
theorem S_X11_join (l : Launch) (G : GG) (F : Nat) {u0 : Option Nat} {u1 : Int32} {u2 : Int32} {u3 : Int32} {f : Hp} {r : Int32} {f' : Hp} {n n2 z z2 : Nat} (hE : m_X11_join F u0 u1 u2 u3 f n z = some (r, f', n2, z2)) : Ctr l G yX11_join cX11_join 11 (some .int) 5 118 [rr G u0, .int u1, .int u2, .int u3] f n (some (.int r)) f' n2 (n2 - n) (z2 - z) := by
  refine Met.ofW (cc := cX11_join) (maxL := 11) (ret := (some .int)) (by decide) rfl ?_
  intro p e s m args below meth c s₁ B hml hv
  obtain ⟨rfl, hK, hW⟩ := hv
  have hx := B.exec
  have hb := B.bytes
  have hr := B.returns
  have hts := atoms_spec (ws := wsO yX11_join cX11_join 11 (some .int)) B.pre
  have hT : ∀ w ∈ TB, w.before [rr G u0, .int u1, .int u2, .int u3].toArray s = true := fun w hw => hts w (List.mem_cons_of_mem _ hw)
  have hown : s.vm.findClass RX11 = some m.cls := findClass_of_methodNamed B.named
  have hlocks := B.notSynchronized
  have CF : CallFix p m c cX11_join 11 s [rr G u0, .int u1, .int u2, .int u3].toArray TB RX11 := ⟨hx, hb, hml, hown, hT⟩
  have hS : va_S (WA G) s.heap s.heap [] := va_S.rf
  have hl : lv_has (lg_sl ([rr G u0, .int u1, .int u2, .int u3]) ++ List.replicate (11 - (lg_sl ([rr G u0, .int u1, .int u2, .int u3])).length) Slot.unset).toArray 11 [(0, rr G u0), (1, .int u1), (2, .int u2), (3, .int u3)] := by cases u0 <;> exact lv_entry _ (Nat.le_of_ble_eq_true rfl)
  rw [lg_entry_eq]
  generalize (lg_sl ([rr G u0, .int u1, .int u2, .int u3]) ++ List.replicate (11 - (lg_sl ([rr G u0, .int u1, .int u2, .int u3])).length) Slot.unset).toArray = ls at hl ⊢
  have hC110 : ∀ (v3 : Int32) (v7 : Int32) (v8 : Int32) (fa : Hp) (na za : Nat) (H : Heap) (locs : List Loc) (ls : Array Slot), n ≤ na → z ≤ za → m_X11_join_B110 F v3 v7 v8 fa na za = some (r, f', n2, z2) → Wd G fa na H → va_S (WA G) s.heap H locs → lv_has ls 11 [(3, .int v3), (7, .int v7), (8, .int v8)] → W p l e (headSpec (wsO yX11_join cX11_join 11 (some .int)) { frames := 5, cells := (n2 - n), slots := (z2 - z), locals := 118 }).room s m [rr G u0, .int u1, .int u2, .int u3].toArray below meth c H locs (na - n) (za - z) (MQ below (Qcn G (some (.int r)) f' n2) [rr G u0, .int u1, .int u2, .int u3].toArray s (n2 - n) (z2 - z) (WA G)) (F0 m 110 ls []) := by
    intro v3 v7 v8 fa na za H locs ls hna hza hE hW hS hl
    refine lv_iload_n hx hb dX11_join_110 rfl (lv_at hl 0 rfl) ?_
    refine lv_if_ne (tgt := 119) hx hb dX11_join_111 (by decide) (fun q13 => ?_) (fun q13 => ?_)
    · replace hE := ite_f q13 hE
      refine lv_iload hx hb dX11_join_119 (lv_at hl 1 rfl) ?_
      obtain ⟨rfl, rfl, rfl, rfl⟩ := so4 hE
      exact s_iret hx hb hr hlocks hW hS dX11_join_121
    · replace hE := ite_t q13 hE
      refine lv_iload hx hb dX11_join_114 (lv_at hl 2 rfl) ?_
      refine lv_goto (tgt := 121) hx hb dX11_join_116 (by decide) ?_
      obtain ⟨rfl, rfl, rfl, rfl⟩ := so4 hE
      exact s_iret hx hb hr hlocks hW hS dX11_join_121
  have hC58 : ∀ (k58 : Nat), ∀ (v3 : Int32) (v4 : Option Nat) (v5 : Option Nat) (v6 : Option Nat) (v7 : Int32) (v8 : Int32) (v9 : Int32) (fa : Hp) (na za : Nat) (H : Heap) (locs : List Loc) (ls : Array Slot), n ≤ na → z ≤ za → m_X11_join_L58 F k58 v3 v4 v5 v6 v7 v8 v9 fa na za = some (r, f', n2, z2) → Wd G fa na H → va_S (WA G) s.heap H locs → lv_has ls 11 [(3, .int v3), (4, rr G v4), (5, rr G v5), (6, rr G v6), (7, .int v7), (8, .int v8), (9, .int v9)] → W p l e (headSpec (wsO yX11_join cX11_join 11 (some .int)) { frames := 5, cells := (n2 - n), slots := (z2 - z), locals := 118 }).room s m [rr G u0, .int u1, .int u2, .int u3].toArray below meth c H locs (na - n) (za - z) (MQ below (Qcn G (some (.int r)) f' n2) [rr G u0, .int u1, .int u2, .int u3].toArray s (n2 - n) (z2 - z) (WA G)) (F0 m 58 ls []) := by
    intro k58
    induction k58 with
    | zero => intro v3 v4 v5 v6 v7 v8 v9 fa na za H locs ls hna hza hE _ _ _; cases (show (none : Option ((Int32) × Hp × Nat × Nat)) = some (r, f', n2, z2) from hE)
    | succ k58 ih58 =>
      intro v3 v4 v5 v6 v7 v8 v9 fa na za H locs ls hna hza hE hW hS hl
      replace hE : m_X11_join_b58 F (m_X11_join_L58 F k58) v3 v4 v5 v6 v7 v8 v9 fa na za = some (r, f', n2, z2) := hE
      refine lv_iload hx hb dX11_join_58 (lv_at hl 6 rfl) ?_
      refine s_aload hx hb dX11_join_60 (lv_at hl 3 rfl) ?_
      obtain ⟨x1, hx1, hE⟩ := bd hE
      refine s_gI hx hb hT u_X6 hown hK hW hx1 rfl (by decide) fl_X11_199 rfl dX11_join_62 ?_
      refine lv_icmp_ge (tgt := 110) hx hb dX11_join_65 (by decide) (fun q2 => ?_) (fun q2 => ?_)
      · replace hE := ite_t q2 hE
        exact hC110 _ _ _ _ _ _ _ _ _ (by omega) (by omega) hE hW hS (lv_sub hl [0, 4, 5] rfl)
      · replace hE := ite_f q2 hE
        refine s_aload hx hb dX11_join_68 (lv_at hl 3 rfl) ?_
        refine lv_iload hx hb dX11_join_70 (lv_at hl 6 rfl) ?_
        refine s_aload hx hb dX11_join_72 (lv_at hl 1 rfl) ?_
        obtain ⟨c3, hE⟩ := ck hE
        obtain ⟨g4a, g4b, hE⟩ := grow_of hE
        replace g4a : na ≤ n2 := g4a
        replace g4b : za ≤ z2 := g4b
        obtain ⟨x5, hx5, hE⟩ := bd hE
        refine s_callV (As := [.int v9, rr G v4]) (rest := []) CF hK hW hS (S_X6_stepsTo l G F hx5) c3 rfl gv_X11_309 hd_X6_stepsTo ⟨Nat.le_of_ble_eq_true rfl, Nat.le_of_ble_eq_true rfl⟩ rfl hl.1 rfl (Nat.le_of_ble_eq_true rfl) dX11_join_74 ⟨show na - n + 0 ≤ n2 - n by omega, show za - z + 0 ≤ z2 - z by omega⟩ (fun H locs hW hS => ?_)
        refine s_aload hx hb dX11_join_77 (lv_at hl 3 rfl) ?_
        refine lv_iload hx hb dX11_join_79 (lv_at hl 6 rfl) ?_
        refine s_aload hx hb dX11_join_81 (lv_at hl 2 rfl) ?_
        obtain ⟨c6, hE⟩ := ck hE
        obtain ⟨g7a, g7b, hE⟩ := grow_of hE
        replace g7a : na ≤ n2 := g7a
        replace g7b : za ≤ z2 := g7b
        obtain ⟨x8, hx8, hE⟩ := bd hE
        refine s_callV (As := [.int v9, rr G v5]) (rest := [.int x5]) CF hK hW hS (S_X6_stepsTo l G F hx8) c6 rfl gv_X11_309 hd_X6_stepsTo ⟨Nat.le_of_ble_eq_true rfl, Nat.le_of_ble_eq_true rfl⟩ rfl hl.1 rfl (Nat.le_of_ble_eq_true rfl) dX11_join_83 ⟨show na - n + 0 ≤ n2 - n by omega, show za - z + 0 ≤ z2 - z by omega⟩ (fun H locs hW hS => ?_)
        refine lv_iadd hx hb dX11_join_86 ?_
        refine lv_topi (fun y9 ey9 => ?_)
        replace hE := nm_o ey9 hE
        refine lv_istore (lv' := [(10, .int y9), (3, .int v3), (4, rr G v4), (5, rr G v5), (6, rr G v6), (7, .int v7), (8, .int v8), (9, .int v9)]) hx hb dX11_join_87 hl (by decide) rfl (fun ls hl => ?_)
        refine lv_iload hx hb dX11_join_89 (lv_at hl 0 rfl) ?_
        refine lv_iload hx hb dX11_join_91 (lv_at hl 5 rfl) ?_
        refine lv_icmp_ge (tgt := 104) hx hb dX11_join_93 (by decide) (fun q10 => ?_) (fun q10 => ?_)
        · replace hE := ite_t q10 hE
          obtain ⟨y11, ey11⟩ : ∃ y : Int32, y = v9 + (1 : Int32) := ⟨_, rfl⟩
          replace hE := nm_o ey11 hE
          refine lv_iinc (k := 7) (v := y11) (lv' := [(9, .int y11), (10, .int y9), (3, .int v3), (4, rr G v4), (5, rr G v5), (6, rr G v6), (7, .int v7), (8, .int v8)]) hx hb dX11_join_104 hl rfl (by rw [ey11]; rfl) (by decide) rfl (fun ls hl => ?_)
          refine lv_goto (tgt := 58) hx hb dX11_join_107 (by decide) ?_
          exact ih58 _ _ _ _ _ _ _ _ _ _ _ _ _ (by omega) (by omega) hE hW hS (lv_sub hl [2, 3, 4, 5, 6, 7, 0] rfl)
        · replace hE := ite_f q10 hE
          refine lv_iload hx hb dX11_join_96 (lv_at hl 0 rfl) ?_
          refine lv_istore (lv' := [(7, .int y9), (10, .int y9), (3, .int v3), (4, rr G v4), (5, rr G v5), (6, rr G v6), (8, .int v8), (9, .int v9)]) hx hb dX11_join_98 hl (by decide) (by simp [cat_rr]) (fun ls hl => ?_)
          refine lv_iload hx hb dX11_join_100 (lv_at hl 7 rfl) ?_
          refine lv_istore (lv' := [(8, .int v9), (7, .int y9), (10, .int y9), (3, .int v3), (4, rr G v4), (5, rr G v5), (6, rr G v6), (9, .int v9)]) hx hb dX11_join_102 hl (by decide) rfl (fun ls hl => ?_)
          obtain ⟨y12, ey12⟩ : ∃ y : Int32, y = v9 + (1 : Int32) := ⟨_, rfl⟩
          replace hE := nm_o ey12 hE
          refine lv_iinc (k := 7) (v := y12) (lv' := [(9, .int y12), (8, .int v9), (7, .int y9), (10, .int y9), (3, .int v3), (4, rr G v4), (5, rr G v5), (6, rr G v6)]) hx hb dX11_join_104 hl rfl (by rw [ey12]; rfl) (by decide) rfl (fun ls hl => ?_)
          refine lv_goto (tgt := 58) hx hb dX11_join_107 (by decide) ?_
          exact ih58 _ _ _ _ _ _ _ _ _ _ _ _ _ (by omega) (by omega) hE hW hS (lv_sub hl [4, 5, 6, 7, 2, 1, 0] rfl)
  refine W.cs (cells' := n - n) (slots' := z - z) (by omega) (by omega) ?_
  refine s_aload_n hx hb dX11_join_0 rfl (lv_at hl 0 rfl) ?_
  obtain ⟨x14, hx14, hE⟩ := bd hE
  refine s_gR hx hb hT u_X11 hown hK hW hx14 rfl (by decide) fl_X11_16 rfl dX11_join_1 ?_
  refine lv_iload_n hx hb dX11_join_4 rfl (lv_at hl 1 rfl) ?_
  obtain ⟨c15, hE⟩ := ck hE
  obtain ⟨g16a, g16b, hE⟩ := grow_of hE
  replace g16a : n ≤ n2 := g16a
  replace g16b : z ≤ z2 := g16b
  obtain ⟨x17, hx17, hE⟩ := bd hE
  refine s_callV (As := [.int u1]) (rest := []) CF hK hW hS (S_X4_copyAt l G F hx17) c15 rfl gv_X11_105 hd_X4_copyAt ⟨Nat.le_of_ble_eq_true rfl, Nat.le_of_ble_eq_true rfl⟩ rfl hl.1 rfl (Nat.le_of_ble_eq_true rfl) dX11_join_5 ⟨show n - n + 0 ≤ n2 - n by omega, show z - z + 0 ≤ z2 - z by omega⟩ (fun H locs hW hS => ?_)
  refine s_astore (lv' := [(4, rr G x17), (0, rr G u0), (1, .int u1), (2, .int u2), (3, .int u3)]) hx hb dX11_join_8 hl (by decide) rfl (fun ls hl => ?_)
  refine s_aload_n hx hb dX11_join_10 rfl (lv_at hl 1 rfl) ?_
  obtain ⟨x18, hx18, hE⟩ := bd hE
  refine s_gR hx hb hT u_X11 hown hK hW hx18 rfl (by decide) fl_X11_16 rfl dX11_join_11 ?_
  refine lv_iload_n hx hb dX11_join_14 rfl (lv_at hl 3 rfl) ?_
  obtain ⟨c19, hE⟩ := ck hE
  obtain ⟨g20a, g20b, hE⟩ := grow_of hE
  replace g20a : n ≤ n2 := g20a
  replace g20b : z ≤ z2 := g20b
  obtain ⟨x21, hx21, hE⟩ := bd hE
  refine s_callV (As := [.int u2]) (rest := []) CF hK hW hS (S_X4_copyAt l G F hx21) c19 rfl gv_X11_105 hd_X4_copyAt ⟨Nat.le_of_ble_eq_true rfl, Nat.le_of_ble_eq_true rfl⟩ rfl hl.1 rfl (Nat.le_of_ble_eq_true rfl) dX11_join_15 ⟨show n - n + 0 ≤ n2 - n by omega, show z - z + 0 ≤ z2 - z by omega⟩ (fun H locs hW hS => ?_)
  refine s_astore (lv' := [(5, rr G x21), (4, rr G x17), (0, rr G u0), (1, .int u1), (2, .int u2), (3, .int u3)]) hx hb dX11_join_18 hl (by decide) (by simp [cat_rr]) (fun ls hl => ?_)
  refine s_aload hx hb dX11_join_20 (lv_at hl 1 rfl) ?_
  refine s_ifnull (tgt := 39) hx hb dX11_join_22 (by decide) (fun q22 => ?_) (fun q22 => ?_)
  · replace hE := ite_t q22 hE
    refine lv_iconst (v := (-1 : Int32)) hx hb dX11_join_39 (by decide) ?_
    obtain ⟨rfl, rfl, rfl, rfl⟩ := so4 hE
    exact s_iret hx hb hr hlocks hW hS dX11_join_40
  · replace hE := ite_f q22 hE
    refine s_aload hx hb dX11_join_25 (lv_at hl 0 rfl) ?_
    refine s_ifnull (tgt := 39) hx hb dX11_join_27 (by decide) (fun q23 => ?_) (fun q23 => ?_)
    · replace hE := ite_t q23 hE
      refine lv_iconst (v := (-1 : Int32)) hx hb dX11_join_39 (by decide) ?_
      obtain ⟨rfl, rfl, rfl, rfl⟩ := so4 hE
      exact s_iret hx hb hr hlocks hW hS dX11_join_40
    · replace hE := ite_f q23 hE
      refine lv_iload_n hx hb dX11_join_30 rfl (lv_at hl 5 rfl) ?_
      refine lv_if_lt (tgt := 39) hx hb dX11_join_31 (by decide) (fun q24 => ?_) (fun q24 => ?_)
      · replace hE := ite_t q24 hE
        refine lv_iconst (v := (-1 : Int32)) hx hb dX11_join_39 (by decide) ?_
        obtain ⟨rfl, rfl, rfl, rfl⟩ := so4 hE
        exact s_iret hx hb hr hlocks hW hS dX11_join_40
      · replace hE := ite_f q24 hE
        refine lv_iload_n hx hb dX11_join_34 rfl (lv_at hl 5 rfl) ?_
        refine lv_iconst (v := (1 : Int32)) hx hb dX11_join_35 (by decide) ?_
        refine lv_icmp_le (tgt := 41) hx hb dX11_join_36 (by decide) (fun q25 => ?_) (fun q25 => ?_)
        · replace hE := ite_t q25 hE
          refine s_aload_n hx hb dX11_join_41 rfl (lv_at hl 2 rfl) ?_
          obtain ⟨c26, hE⟩ := ck hE
          obtain ⟨x30, f29, nq27, zq28, hf29, hE⟩ := bd4_of hE
          obtain ⟨c31, hE⟩ := ck hE
          replace c31 := of_decide_eq_true c31
          obtain ⟨g32a, g32b, hE⟩ := grow_of hE
          replace g32a : nq27 ≤ n2 := g32a
          replace g32b : zq28 ≤ z2 := g32b
          refine s_callV (As := []) (rest := []) CF hK hW hS (S_X11_orders l G F hf29) c26 rfl gv_X11_145 hd_X11_orders ⟨Nat.le_of_ble_eq_true rfl, Nat.le_of_ble_eq_true rfl⟩ rfl hl.1 rfl (Nat.le_of_ble_eq_true rfl) dX11_join_42 ⟨show n - n + (nq27 - (n)) ≤ n2 - n by omega, show z - z + (zq28 - (z)) ≤ z2 - z by omega⟩ (fun H locs hW hS => ?_)
          refine W.cs (cells' := nq27 - n) (slots' := zq28 - z) (by omega) (by omega) ?_
          refine s_astore (lv' := [(6, rr G x30), (5, rr G x21), (4, rr G x17), (0, rr G u0), (1, .int u1), (2, .int u2), (3, .int u3)]) hx hb dX11_join_45 hl (by decide) (by simp [cat_rr]) (fun ls hl => ?_)
          refine lv_ldcw (v := (1000000 : Int32)) hx hb hown (hT _ kc_X11_302) dX11_join_47 ?_
          refine lv_istore (lv' := [(7, .int (1000000 : Int32)), (6, rr G x30), (5, rr G x21), (4, rr G x17), (0, rr G u0), (1, .int u1), (2, .int u2), (3, .int u3)]) hx hb dX11_join_50 hl (by decide) (by simp [cat_rr]) (fun ls hl => ?_)
          refine lv_iconst (v := (-1 : Int32)) hx hb dX11_join_52 (by decide) ?_
          refine lv_istore (lv' := [(8, .int (-1 : Int32)), (7, .int (1000000 : Int32)), (6, rr G x30), (5, rr G x21), (4, rr G x17), (0, rr G u0), (1, .int u1), (2, .int u2), (3, .int u3)]) hx hb dX11_join_53 hl (by decide) rfl (fun ls hl => ?_)
          refine lv_iconst (v := (0 : Int32)) hx hb dX11_join_55 (by decide) ?_
          refine lv_istore (lv' := [(9, .int (0 : Int32)), (8, .int (-1 : Int32)), (7, .int (1000000 : Int32)), (6, rr G x30), (5, rr G x21), (4, rr G x17), (0, rr G u0), (1, .int u1), (2, .int u2), (3, .int u3)]) hx hb dX11_join_56 hl (by decide) rfl (fun ls hl => ?_)
          exact hC58 F _ _ _ _ _ _ _ _ _ _ _ _ _ (by omega) (by omega) hE hW hS (lv_sub hl [9, 5, 4, 3, 2, 1, 0] rfl)
        · replace hE := ite_f q25 hE
          refine lv_iconst (v := (-1 : Int32)) hx hb dX11_join_39 (by decide) ?_
          obtain ⟨rfl, rfl, rfl, rfl⟩ := so4 hE
          exact s_iret hx hb hr hlocks hW hS dX11_join_40
set_option maxHeartbeats 4000000 in
set_option maxRecDepth 100000 in
theorem S_X2_mayMake (l : Launch) (G : GG) (F : Nat) {u0 : Option Nat} {u1 : Option Nat} {u2 : Option Nat} {f : Hp} {r : Int32} {n : Nat} (hE : m_X2_mayMake F u0 u1 u2 f = some r) : Ctr l G yX2_mayMake cX2_mayMake 5 (some .boolean) 2 41 [rr G u0, rr G u1, rr G u2] f n (some (.int r)) f n 0 0 := by
  refine Met.ofW (cc := cX2_mayMake) (maxL := 5) (ret := (some .boolean)) (by decide) rfl ?_
  intro p e s m args below meth c s₁ B hml hv
  obtain ⟨rfl, hK, hW⟩ := hv
  have hx := B.exec
  have hb := B.bytes
  have hr := B.returns
  have hts := atoms_spec (ws := wsO yX2_mayMake cX2_mayMake 5 (some .boolean)) B.pre
  have hT : ∀ w ∈ TB, w.before [rr G u0, rr G u1, rr G u2].toArray s = true := fun w hw => hts w (List.mem_cons_of_mem _ hw)
  have hown : s.vm.findClass RX2 = some m.cls := findClass_of_methodNamed B.named
  have hlocks := B.notSynchronized
  have CF : CallFix p m c cX2_mayMake 5 s [rr G u0, rr G u1, rr G u2].toArray TB RX2 := ⟨hx, hb, hml, hown, hT⟩
  have hS : va_S (WA G) s.heap s.heap [] := va_S.rf
  have hl : lv_has (lg_sl ([rr G u0, rr G u1, rr G u2]) ++ List.replicate (5 - (lg_sl ([rr G u0, rr G u1, rr G u2])).length) Slot.unset).toArray 5 [(0, rr G u0), (1, rr G u1), (2, rr G u2)] := by cases u0 <;> cases u1 <;> cases u2 <;> exact lv_entry _ (Nat.le_of_ble_eq_true rfl)
  rw [lg_entry_eq]
  generalize (lg_sl ([rr G u0, rr G u1, rr G u2]) ++ List.replicate (5 - (lg_sl ([rr G u0, rr G u1, rr G u2])).length) Slot.unset).toArray = ls at hl ⊢
  have hC22 : ∀ (v0 : Option Nat) (v1 : Option Nat) (v2 : Option Nat) (v3 : Int32) (s0 : Int32) (H : Heap) (locs : List Loc) (ls : Array Slot), m_X2_mayMake_B22 F v0 v1 v2 v3 s0 f = some r → Wd G f n H → va_S (WA G) s.heap H locs → lv_has ls 5 [(0, rr G v0), (1, rr G v1), (2, rr G v2), (3, .int v3)] → W p l e (headSpec (wsO yX2_mayMake cX2_mayMake 5 (some .boolean)) { frames := 2, cells := 0, slots := 0, locals := 41 }).room s m [rr G u0, rr G u1, rr G u2].toArray below meth c H locs 0 0 (MQ below (Qcn G (some (.int r)) f n) [rr G u0, rr G u1, rr G u2].toArray s 0 0 (WA G)) (F0 m 22 ls [.int s0]) := by
    intro v0 v1 v2 v3 s0 H locs ls hE hW hS hl
    refine lv_istore (lv' := [(4, .int s0), (0, rr G v0), (1, rr G v1), (2, rr G v2), (3, .int v3)]) hx hb dX2_mayMake_22 hl (by decide) rfl (fun ls hl => ?_)
    refine s_getSt hx hb hT hK hS hown 33 (by decide) (z33 hK) fl_X2_37 dX2_mayMake_24 ?_
    refine s_aload_n hx hb dX2_mayMake_27 rfl (lv_at hl 1 rfl) ?_
    obtain ⟨x1, hx1, hE⟩ := bd hE
    refine s_gR hx hb hT u_X2 hown hK hW hx1 rfl (by decide) fl_X2_15 rfl dX2_mayMake_28 ?_
    obtain ⟨i2, hi2, hE⟩ := bd hE
    refine s_ord (l := l) CF hK hW hS hi2 or_X2_43 ⟨Nat.le_of_ble_eq_true rfl, Nat.le_of_ble_eq_true rfl⟩ hl.1 (Nat.le_of_ble_eq_true rfl) dX2_mayMake_31 ⟨Nat.le_refl _, Nat.le_refl _⟩ (fun H locs hW hS => ?_)
    obtain ⟨x3, hx3, hE⟩ := bd hE
    refine s_ldI hx hb hK hW hS hx3 dX2_mayMake_34 ?_
    by_cases w4 : x3 = (1 : Int32)
    · replace hE := ite_t w4 hE
      have hi : (x3).toInt = 1 := by rw [w4]; rfl
      refine lv_lookup (off := 25) (tgt := 60) hx hb dX2_mayMake_35 (by decide) (by rw [hi]; rfl) (by decide) ?_
      refine lv_iload hx hb dX2_mayMake_60 (lv_at hl 0 rfl) ?_
      refine lv_if_eq (tgt := 74) hx hb dX2_mayMake_62 (by decide) (fun q5 => ?_) (fun q5 => ?_)
      · replace hE := ite_t q5 hE
        refine lv_iconst (v := (0 : Int32)) hx hb dX2_mayMake_74 (by decide) ?_
        obtain ⟨c6, hE⟩ := ck hE
        obtain rfl := so1 hE
        exact s_zret hx hb hr c6 hlocks hW hS dX2_mayMake_75
      · replace hE := ite_f q5 hE
        refine lv_iload_n hx hb dX2_mayMake_65 rfl (lv_at hl 4 rfl) ?_
        refine lv_iconst (v := (1 : Int32)) hx hb dX2_mayMake_66 (by decide) ?_
        refine lv_icmp_ne (tgt := 74) hx hb dX2_mayMake_67 (by decide) (fun q7 => ?_) (fun q7 => ?_)
        · replace hE := ite_f q7 hE
          refine lv_iconst (v := (0 : Int32)) hx hb dX2_mayMake_74 (by decide) ?_
          obtain ⟨c8, hE⟩ := ck hE
          obtain rfl := so1 hE
          exact s_zret hx hb hr c8 hlocks hW hS dX2_mayMake_75
        · replace hE := ite_t q7 hE
          refine lv_iconst (v := (1 : Int32)) hx hb dX2_mayMake_70 (by decide) ?_
          refine lv_goto (tgt := 75) hx hb dX2_mayMake_71 (by decide) ?_
          obtain ⟨c9, hE⟩ := ck hE
          obtain rfl := so1 hE
          exact s_zret hx hb hr c9 hlocks hW hS dX2_mayMake_75
    · replace hE := ite_f w4 hE
      by_cases w10 : x3 = (2 : Int32)
      · replace hE := ite_t w10 hE
        have hi : (x3).toInt = 2 := by rw [w10]; rfl
        refine lv_lookup (off := 41) (tgt := 76) hx hb dX2_mayMake_35 (by decide) (by rw [hi]; rfl) (by decide) ?_
        refine lv_iload hx hb dX2_mayMake_76 (lv_at hl 0 rfl) ?_
        refine lv_if_eq (tgt := 93) hx hb dX2_mayMake_78 (by decide) (fun q11 => ?_) (fun q11 => ?_)
        · replace hE := ite_t q11 hE
          refine lv_iconst (v := (0 : Int32)) hx hb dX2_mayMake_93 (by decide) ?_
          obtain ⟨c12, hE⟩ := ck hE
          obtain rfl := so1 hE
          exact s_zret hx hb hr c12 hlocks hW hS dX2_mayMake_94
        · replace hE := ite_f q11 hE
          refine lv_iload_n hx hb dX2_mayMake_81 rfl (lv_at hl 4 rfl) ?_
          refine s_aload_n hx hb dX2_mayMake_82 rfl (lv_at hl 1 rfl) ?_
          obtain ⟨x13, hx13, hE⟩ := bd hE
          refine s_gI hx hb hT u_X2 hown hK hW hx13 rfl (by decide) fl_X2_20 rfl dX2_mayMake_83 ?_
          refine lv_icmp_gt (tgt := 93) hx hb dX2_mayMake_86 (by decide) (fun q14 => ?_) (fun q14 => ?_)
          · replace hE := ite_t q14 hE
            refine lv_iconst (v := (0 : Int32)) hx hb dX2_mayMake_93 (by decide) ?_
            obtain ⟨c15, hE⟩ := ck hE
            obtain rfl := so1 hE
            exact s_zret hx hb hr c15 hlocks hW hS dX2_mayMake_94
          · replace hE := ite_f q14 hE
            refine lv_iconst (v := (1 : Int32)) hx hb dX2_mayMake_89 (by decide) ?_
            refine lv_goto (tgt := 94) hx hb dX2_mayMake_90 (by decide) ?_
            obtain ⟨c16, hE⟩ := ck hE
            obtain rfl := so1 hE
            exact s_zret hx hb hr c16 hlocks hW hS dX2_mayMake_94
      · replace hE := ite_f w10 hE
        refine lv_lookup (off := 60) (tgt := 95) hx hb dX2_mayMake_35 (by decide) ((lv_osw w4 (a := 1) rfl).trans ((lv_osw w10 (a := 2) rfl).trans rfl)) (by decide) ?_
        refine lv_iload_n hx hb dX2_mayMake_95 rfl (lv_at hl 4 rfl) ?_
        refine lv_if_ne (tgt := 130) hx hb dX2_mayMake_96 (by decide) (fun q17 => ?_) (fun q17 => ?_)
        · replace hE := ite_f q17 hE
          refine lv_iconst (v := (0 : Int32)) hx hb dX2_mayMake_130 (by decide) ?_
          obtain ⟨c18, hE⟩ := ck hE
          obtain rfl := so1 hE
          exact s_zret hx hb hr c18 hlocks hW hS dX2_mayMake_131
        · replace hE := ite_t q17 hE
          refine s_aload_n hx hb dX2_mayMake_99 rfl (lv_at hl 3 rfl) ?_
          obtain ⟨x19, hx19, hE⟩ := bd hE
          refine s_gI hx hb hT u_X1 hown hK hW hx19 rfl (by decide) fl_X2_47 rfl dX2_mayMake_100 ?_
          refine s_aload_n hx hb dX2_mayMake_103 rfl (lv_at hl 2 rfl) ?_
          obtain ⟨x20, hx20, hE⟩ := bd hE
          refine s_gI hx hb hT u_X1 hown hK hW hx20 rfl (by decide) fl_X2_47 rfl dX2_mayMake_104 ?_
          refine lv_iconst (v := (1 : Int32)) hx hb dX2_mayMake_107 (by decide) ?_
          refine lv_isub hx hb dX2_mayMake_108 ?_
          refine lv_icmp_ne (tgt := 130) hx hb dX2_mayMake_109 (by decide) (fun q21 => ?_) (fun q21 => ?_)
          · replace hE := ite_f q21 hE
            refine lv_iconst (v := (0 : Int32)) hx hb dX2_mayMake_130 (by decide) ?_
            obtain ⟨c22, hE⟩ := ck hE
            obtain rfl := so1 hE
            exact s_zret hx hb hr c22 hlocks hW hS dX2_mayMake_131
          · replace hE := ite_t q21 hE
            refine s_aload_n hx hb dX2_mayMake_112 rfl (lv_at hl 3 rfl) ?_
            obtain ⟨x23, hx23, hE⟩ := bd hE
            refine s_gI hx hb hT u_X1 hown hK hW hx23 rfl (by decide) fl_X2_34 rfl dX2_mayMake_113 ?_
            refine s_aload_n hx hb dX2_mayMake_116 rfl (lv_at hl 2 rfl) ?_
            obtain ⟨x24, hx24, hE⟩ := bd hE
            refine s_gI hx hb hT u_X1 hown hK hW hx24 rfl (by decide) fl_X2_34 rfl dX2_mayMake_117 ?_
            refine lv_iconst (v := (-1 : Int32)) hx hb dX2_mayMake_120 (by decide) ?_
            refine lv_ixor hx hb dX2_mayMake_121 ?_
            refine lv_iand hx hb dX2_mayMake_122 ?_
            refine lv_if_ne (tgt := 130) hx hb dX2_mayMake_123 (by decide) (fun q25 => ?_) (fun q25 => ?_)
            · replace hE := ite_f q25 hE
              refine lv_iconst (v := (0 : Int32)) hx hb dX2_mayMake_130 (by decide) ?_
              obtain ⟨c26, hE⟩ := ck hE
              obtain rfl := so1 hE
              exact s_zret hx hb hr c26 hlocks hW hS dX2_mayMake_131
            · replace hE := ite_t q25 hE
              refine lv_iconst (v := (1 : Int32)) hx hb dX2_mayMake_126 (by decide) ?_
              refine lv_goto (tgt := 131) hx hb dX2_mayMake_127 (by decide) ?_
              obtain ⟨c27, hE⟩ := ck hE
              obtain rfl := so1 hE
              exact s_zret hx hb hr c27 hlocks hW hS dX2_mayMake_131
  refine s_aload_n hx hb dX2_mayMake_0 rfl (lv_at hl 1 rfl) ?_
  refine s_aload_n hx hb dX2_mayMake_1 rfl (lv_at hl 2 rfl) ?_
  obtain ⟨c28, hE⟩ := ck hE
  obtain ⟨x29, hx29, hE⟩ := bd hE
  refine s_callV (As := [rr G u2]) (rest := []) CF hK hW hS (S_X1_stepsTo l G F hx29) c28 rfl gv_X2_28 hd_X1_stepsTo ⟨Nat.le_of_ble_eq_true rfl, Nat.le_of_ble_eq_true rfl⟩ rfl hl.1 rfl (Nat.le_of_ble_eq_true rfl) dX2_mayMake_2 ⟨Nat.le_refl _, Nat.le_refl _⟩ (fun H locs hW hS => ?_)
  refine lv_istore_n (i := 3) (lv' := [(3, .int x29), (0, rr G u0), (1, rr G u1), (2, rr G u2)]) hx hb dX2_mayMake_5 rfl hl (by decide) (by simp [cat_rr]) (fun ls hl => ?_)
  refine s_aload_n hx hb dX2_mayMake_6 rfl (lv_at hl 2 rfl) ?_
  obtain ⟨x30, hx30, hE⟩ := bd hE
  refine s_gI hx hb hT u_X1 hown hK hW hx30 rfl (by decide) fl_X2_34 rfl dX2_mayMake_7 ?_
  refine s_aload_n hx hb dX2_mayMake_10 rfl (lv_at hl 3 rfl) ?_
  obtain ⟨x31, hx31, hE⟩ := bd hE
  refine s_gI hx hb hT u_X1 hown hK hW hx31 rfl (by decide) fl_X2_34 rfl dX2_mayMake_11 ?_
  refine lv_icmp_ne (tgt := 21) hx hb dX2_mayMake_14 (by decide) (fun q32 => ?_) (fun q32 => ?_)
  · replace hE := ite_f q32 hE
    refine lv_iconst (v := (0 : Int32)) hx hb dX2_mayMake_21 (by decide) ?_
    exact hC22 _ _ _ _ _ _ _ _ hE hW hS (lv_sub hl [1, 2, 3, 0] rfl)
  · replace hE := ite_t q32 hE
    refine lv_iconst (v := (1 : Int32)) hx hb dX2_mayMake_17 (by decide) ?_
    refine lv_goto (tgt := 22) hx hb dX2_mayMake_18 (by decide) ?_
    exact hC22 _ _ _ _ _ _ _ _ hE hW hS (lv_sub hl [1, 2, 3, 0] rfl)
set_option maxHeartbeats 4000000 in
set_option maxRecDepth 100000 in
theorem S_X11_judge (l : Launch) (G : GG) (F : Nat) {u0 : Option Nat} {u1 : Int32} {f : Hp} {r : Int32} {f' : Hp} {n : Nat} (hE : m_X11_judge F u0 u1 f = some (r, f')) : Ctr l G yX11_judge cX11_judge 7 (some .int) 3 65 [rr G u0, .int u1] f n (some (.int r)) f' n 0 0 := by
  refine Met.ofW (cc := cX11_judge) (maxL := 7) (ret := (some .int)) (by decide) rfl ?_
  intro p e s m args below meth c s₁ B hml hv
  obtain ⟨rfl, hK, hW⟩ := hv
  have hx := B.exec
  have hb := B.bytes
  have hr := B.returns
  have hts := atoms_spec (ws := wsO yX11_judge cX11_judge 7 (some .int)) B.pre
  have hT : ∀ w ∈ TB, w.before [rr G u0, .int u1].toArray s = true := fun w hw => hts w (List.mem_cons_of_mem _ hw)
  have hown : s.vm.findClass RX11 = some m.cls := findClass_of_methodNamed B.named
  have hlocks := B.notSynchronized
  have CF : CallFix p m c cX11_judge 7 s [rr G u0, .int u1].toArray TB RX11 := ⟨hx, hb, hml, hown, hT⟩
  have hS : va_S (WA G) s.heap s.heap [] := va_S.rf
  have hl : lv_has (lg_sl ([rr G u0, .int u1]) ++ List.replicate (7 - (lg_sl ([rr G u0, .int u1])).length) Slot.unset).toArray 7 [(0, rr G u0), (1, .int u1)] := by cases u0 <;> exact lv_entry _ (Nat.le_of_ble_eq_true rfl)
  rw [lg_entry_eq]
  generalize (lg_sl ([rr G u0, .int u1]) ++ List.replicate (7 - (lg_sl ([rr G u0, .int u1])).length) Slot.unset).toArray = ls at hl ⊢
  have hC36 : ∀ (k36 : Nat), ∀ (v0 : Option Nat) (v2 : Int32) (v3 : Option Nat) (v4 : Int32) (fa : Hp) (H : Heap) (locs : List Loc) (ls : Array Slot), m_X11_judge_L36 F k36 v0 v2 v3 v4 fa = some (r, f') → Wd G fa n H → va_S (WA G) s.heap H locs → lv_has ls 7 [(0, rr G v0), (2, .int v2), (3, rr G v3), (4, .int v4)] → W p l e (headSpec (wsO yX11_judge cX11_judge 7 (some .int)) { frames := 3, cells := 0, slots := 0, locals := 65 }).room s m [rr G u0, .int u1].toArray below meth c H locs 0 0 (MQ below (Qcn G (some (.int r)) f' n) [rr G u0, .int u1].toArray s 0 0 (WA G)) (F0 m 36 ls []) := by
    intro k36
    induction k36 with
    | zero => intro v0 v2 v3 v4 fa H locs ls hE _ _ _; cases (show (none : Option ((Int32) × Hp)) = some (r, f') from hE)
    | succ k36 ih36 =>
      intro v0 v2 v3 v4 fa H locs ls hE hW hS hl
      replace hE : m_X11_judge_b36 F (m_X11_judge_L36 F k36) v0 v2 v3 v4 fa = some (r, f') := hE
      refine lv_iload hx hb dX11_judge_36 (lv_at hl 3 rfl) ?_
      refine lv_iload_n hx hb dX11_judge_38 rfl (lv_at hl 1 rfl) ?_
      refine lv_icmp_ge (tgt := 104) hx hb dX11_judge_39 (by decide) (fun q1 => ?_) (fun q1 => ?_)
      · replace hE := ite_t q1 hE
        refine lv_iconst (v := (0 : Int32)) hx hb dX11_judge_104 (by decide) ?_
        obtain ⟨rfl, rfl⟩ := so2 hE
        exact s_iret hx hb hr hlocks hW hS dX11_judge_105
      · replace hE := ite_f q1 hE
        refine s_aload_n hx hb dX11_judge_42 rfl (lv_at hl 0 rfl) ?_
        obtain ⟨x2, hx2, hE⟩ := bd hE
        refine s_gR hx hb hT u_X11 hown hK hW hx2 rfl (by decide) fl_X11_16 rfl dX11_judge_43 ?_
        refine s_aload_n hx hb dX11_judge_46 rfl (lv_at hl 0 rfl) ?_
        refine lv_iload hx hb dX11_judge_47 (lv_at hl 3 rfl) ?_
        refine lv_iconst (v := (1 : Int32)) hx hb dX11_judge_49 (by decide) ?_
        refine lv_isub hx hb dX11_judge_50 ?_
        obtain ⟨c3, hE⟩ := ck hE
        obtain ⟨x4, hx4, hE⟩ := bd hE
        refine s_callV (As := [.int (v4 - (1 : Int32))]) (rest := [rr G x2]) CF hK hW hS (S_X11_byteAt l G F hx4) c3 rfl gv_X11_128 hd_X11_byteAt ⟨Nat.le_of_ble_eq_true rfl, Nat.le_of_ble_eq_true rfl⟩ rfl hl.1 rfl (Nat.le_of_ble_eq_true rfl) dX11_judge_51 ⟨Nat.le_refl _, Nat.le_refl _⟩ (fun H locs hW hS => ?_)
        obtain ⟨c5, hE⟩ := ck hE
        obtain ⟨x6, hx6, hE⟩ := bd hE
        refine s_callV (As := [.int x4]) (rest := []) CF hK hW hS (S_X4_copyAt l G F hx6) c5 rfl gv_X11_105 hd_X4_copyAt ⟨Nat.le_of_ble_eq_true rfl, Nat.le_of_ble_eq_true rfl⟩ rfl hl.1 rfl (Nat.le_of_ble_eq_true rfl) dX11_judge_54 ⟨Nat.le_refl _, Nat.le_refl _⟩ (fun H locs hW hS => ?_)
        refine s_astore (lv' := [(5, rr G x6), (0, rr G v0), (2, .int v2), (3, rr G v3), (4, .int v4)]) hx hb dX11_judge_57 hl (by decide) rfl (fun ls hl => ?_)
        refine s_aload_n hx hb dX11_judge_59 rfl (lv_at hl 1 rfl) ?_
        obtain ⟨x7, hx7, hE⟩ := bd hE
        refine s_gR hx hb hT u_X11 hown hK hW hx7 rfl (by decide) fl_X11_16 rfl dX11_judge_60 ?_
        refine s_aload_n hx hb dX11_judge_63 rfl (lv_at hl 1 rfl) ?_
        refine lv_iload hx hb dX11_judge_64 (lv_at hl 4 rfl) ?_
        obtain ⟨c8, hE⟩ := ck hE
        obtain ⟨x9, hx9, hE⟩ := bd hE
        refine s_callV (As := [.int v4]) (rest := [rr G x7]) CF hK hW hS (S_X11_byteAt l G F hx9) c8 rfl gv_X11_128 hd_X11_byteAt ⟨Nat.le_of_ble_eq_true rfl, Nat.le_of_ble_eq_true rfl⟩ rfl hl.1 rfl (Nat.le_of_ble_eq_true rfl) dX11_judge_66 ⟨Nat.le_refl _, Nat.le_refl _⟩ (fun H locs hW hS => ?_)
        obtain ⟨c10, hE⟩ := ck hE
        obtain ⟨x11, hx11, hE⟩ := bd hE
        refine s_callV (As := [.int x9]) (rest := []) CF hK hW hS (S_X4_copyAt l G F hx11) c10 rfl gv_X11_105 hd_X4_copyAt ⟨Nat.le_of_ble_eq_true rfl, Nat.le_of_ble_eq_true rfl⟩ rfl hl.1 rfl (Nat.le_of_ble_eq_true rfl) dX11_judge_69 ⟨Nat.le_refl _, Nat.le_refl _⟩ (fun H locs hW hS => ?_)
        refine s_astore (lv' := [(6, rr G x11), (5, rr G x6), (0, rr G v0), (2, .int v2), (3, rr G v3), (4, .int v4)]) hx hb dX11_judge_72 hl (by decide) (by simp [cat_rr]) (fun ls hl => ?_)
        refine s_aload hx hb dX11_judge_74 (lv_at hl 1 rfl) ?_
        refine s_ifnull (tgt := 95) hx hb dX11_judge_76 (by decide) (fun q12 => ?_) (fun q12 => ?_)
        · replace hE := ite_t q12 hE
          refine lv_iload hx hb dX11_judge_95 (lv_at hl 5 rfl) ?_
          obtain ⟨rfl, rfl⟩ := so2 hE
          exact s_iret hx hb hr hlocks hW hS dX11_judge_97
        · replace hE := ite_f q12 hE
          refine s_aload hx hb dX11_judge_79 (lv_at hl 0 rfl) ?_
          refine s_ifnull (tgt := 95) hx hb dX11_judge_81 (by decide) (fun q13 => ?_) (fun q13 => ?_)
          · replace hE := ite_t q13 hE
            refine lv_iload hx hb dX11_judge_95 (lv_at hl 5 rfl) ?_
            obtain ⟨rfl, rfl⟩ := so2 hE
            exact s_iret hx hb hr hlocks hW hS dX11_judge_97
          · replace hE := ite_f q13 hE
            refine s_aload_n hx hb dX11_judge_84 rfl (lv_at hl 4 rfl) ?_
            refine s_aload hx hb dX11_judge_85 (lv_at hl 1 rfl) ?_
            refine s_aload hx hb dX11_judge_87 (lv_at hl 0 rfl) ?_
            obtain ⟨c14, hE⟩ := ck hE
            obtain ⟨x15, hx15, hE⟩ := bd hE
            refine s_callV (As := [rr G x6, rr G x11]) (rest := []) CF hK hW hS (S_X2_mayMake l G F hx15) c14 rfl gv_X11_172 hd_X2_mayMake ⟨Nat.le_of_ble_eq_true rfl, Nat.le_of_ble_eq_true rfl⟩ rfl hl.1 rfl (Nat.le_of_ble_eq_true rfl) dX11_judge_89 ⟨Nat.le_refl _, Nat.le_refl _⟩ (fun H locs hW hS => ?_)
            refine lv_if_ne (tgt := 98) hx hb dX11_judge_92 (by decide) (fun q16 => ?_) (fun q16 => ?_)
            · replace hE := ite_f q16 hE
              obtain ⟨y17, ey17⟩ : ∃ y : Int32, y = v4 + (1 : Int32) := ⟨_, rfl⟩
              replace hE := nm_o ey17 hE
              refine lv_iinc (k := 5) (v := y17) (lv' := [(4, .int y17), (6, rr G x11), (5, rr G x6), (0, rr G v0), (2, .int v2), (3, rr G v3)]) hx hb dX11_judge_98 hl rfl (by rw [ey17]; rfl) (by decide) (by simp [cat_rr]) (fun ls hl => ?_)
              refine lv_goto (tgt := 36) hx hb dX11_judge_101 (by decide) ?_
              exact ih36 _ _ _ _ _ _ _ _ hE hW hS (lv_sub hl [3, 4, 5, 0] rfl)
            · replace hE := ite_t q16 hE
              refine lv_iload hx hb dX11_judge_95 (lv_at hl 5 rfl) ?_
              obtain ⟨rfl, rfl⟩ := so2 hE
              exact s_iret hx hb hr hlocks hW hS dX11_judge_97
  refine s_aload_n hx hb dX11_judge_0 rfl (lv_at hl 0 rfl) ?_
  obtain ⟨c18, hE⟩ := ck hE
  obtain ⟨x19, f20, hx19, hE⟩ := bd2_of hE
  refine s_callV (As := []) (rest := []) CF hK hW hS (S_X11_takeTape l G F hx19) c18 rfl gv_X11_84 hd_X11_takeTape ⟨Nat.le_of_ble_eq_true rfl, Nat.le_of_ble_eq_true rfl⟩ rfl hl.1 rfl (Nat.le_of_ble_eq_true rfl) dX11_judge_1 ⟨Nat.le_refl _, Nat.le_refl _⟩ (fun H locs hW hS => ?_)
  refine lv_istore_n (i := 2) (lv' := [(2, .int x19), (0, rr G u0), (1, .int u1)]) hx hb dX11_judge_4 rfl hl (by decide) rfl (fun ls hl => ?_)
  refine s_aload_n hx hb dX11_judge_5 rfl (lv_at hl 1 rfl) ?_
  obtain ⟨x21, hx21, hE⟩ := bd hE
  refine s_gR hx hb hT u_X11 hown hK hW hx21 rfl (by decide) fl_X11_16 rfl dX11_judge_6 ?_
  refine lv_iload_n hx hb dX11_judge_9 rfl (lv_at hl 2 rfl) ?_
  obtain ⟨c22, hE⟩ := ck hE
  obtain ⟨x23, hx23, hE⟩ := bd hE
  refine s_callV (As := [.int u1]) (rest := []) CF hK hW hS (S_X4_deskAt l G F hx23) c22 rfl gv_X11_181 hd_X4_deskAt ⟨Nat.le_of_ble_eq_true rfl, Nat.le_of_ble_eq_true rfl⟩ rfl hl.1 rfl (Nat.le_of_ble_eq_true rfl) dX11_judge_10 ⟨Nat.le_refl _, Nat.le_refl _⟩ (fun H locs hW hS => ?_)
  refine s_astore_n (i := 3) (lv' := [(3, rr G x23), (2, .int x19), (0, rr G u0), (1, .int u1)]) hx hb dX11_judge_13 rfl hl (by decide) rfl (fun ls hl => ?_)
  refine s_aload_n hx hb dX11_judge_14 rfl (lv_at hl 0 rfl) ?_
  refine s_ifnull (tgt := 31) hx hb dX11_judge_15 (by decide) (fun q24 => ?_) (fun q24 => ?_)
  · replace hE := ite_t q24 hE
    refine lv_iconst (v := (-1 : Int32)) hx hb dX11_judge_31 (by decide) ?_
    obtain ⟨rfl, rfl⟩ := so2 hE
    exact s_iret hx hb hr hlocks hW hS dX11_judge_32
  · replace hE := ite_f q24 hE
    refine lv_iload_n hx hb dX11_judge_18 rfl (lv_at hl 1 rfl) ?_
    refine lv_iconst (v := (2 : Int32)) hx hb dX11_judge_19 (by decide) ?_
    refine lv_icmp_lt (tgt := 31) hx hb dX11_judge_20 (by decide) (fun q25 => ?_) (fun q25 => ?_)
    · replace hE := ite_t q25 hE
      refine lv_iconst (v := (-1 : Int32)) hx hb dX11_judge_31 (by decide) ?_
      obtain ⟨rfl, rfl⟩ := so2 hE
      exact s_iret hx hb hr hlocks hW hS dX11_judge_32
    · replace hE := ite_f q25 hE
      refine s_aload_n hx hb dX11_judge_23 rfl (lv_at hl 2 rfl) ?_
      refine lv_iload_n hx hb dX11_judge_24 rfl (lv_at hl 1 rfl) ?_
      obtain ⟨c26, hE⟩ := ck hE
      obtain ⟨x27, hx27, hE⟩ := bd hE
      refine s_callV (As := [.int x19]) (rest := []) CF hK hW hS (S_X11_areCopies l G F hx27) c26 rfl gv_X11_192 hd_X11_areCopies ⟨Nat.le_of_ble_eq_true rfl, Nat.le_of_ble_eq_true rfl⟩ rfl hl.1 rfl (Nat.le_of_ble_eq_true rfl) dX11_judge_25 ⟨Nat.le_refl _, Nat.le_refl _⟩ (fun H locs hW hS => ?_)
      refine lv_if_ne (tgt := 33) hx hb dX11_judge_28 (by decide) (fun q28 => ?_) (fun q28 => ?_)
      · replace hE := ite_f q28 hE
        refine lv_iconst (v := (1 : Int32)) hx hb dX11_judge_33 (by decide) ?_
        refine lv_istore (lv' := [(4, .int (1 : Int32)), (3, rr G x23), (2, .int x19), (0, rr G u0), (1, .int u1)]) hx hb dX11_judge_34 hl (by decide) (by simp [cat_rr]) (fun ls hl => ?_)
        exact hC36 F _ _ _ _ _ _ _ _ hE hW hS (lv_sub hl [3, 2, 1, 0] rfl)
      · replace hE := ite_t q28 hE
        refine lv_iconst (v := (-1 : Int32)) hx hb dX11_judge_31 (by decide) ?_
        obtain ⟨rfl, rfl⟩ := so2 hE
        exact s_iret hx hb hr hlocks hW hS dX11_judge_32
set_option maxHeartbeats 4000000 in
set_option maxRecDepth 100000 in
theorem S_X2_mayTake (l : Launch) (G : GG) (F : Nat) {u0 : Option Nat} {u1 : Int32} {u2 : Int32} {f : Hp} {r : Int32} {n : Nat} (hE : m_X2_mayTake F u0 u1 u2 f = some r) : Ctr l G yX2_mayTake cX2_mayTake 3 (some .boolean) 2 45 [rr G u0, .int u1, .int u2] f n (some (.int r)) f n 0 0 := by
  refine Met.ofW (cc := cX2_mayTake) (maxL := 3) (ret := (some .boolean)) (by decide) rfl ?_
  intro p e s m args below meth c s₁ B hml hv
  obtain ⟨rfl, hK, hW⟩ := hv
  have hx := B.exec
  have hb := B.bytes
  have hr := B.returns
  have hts := atoms_spec (ws := wsO yX2_mayTake cX2_mayTake 3 (some .boolean)) B.pre
  have hT : ∀ w ∈ TB, w.before [rr G u0, .int u1, .int u2].toArray s = true := fun w hw => hts w (List.mem_cons_of_mem _ hw)
  have hown : s.vm.findClass RX2 = some m.cls := findClass_of_methodNamed B.named
  have hlocks := B.notSynchronized
  have CF : CallFix p m c cX2_mayTake 3 s [rr G u0, .int u1, .int u2].toArray TB RX2 := ⟨hx, hb, hml, hown, hT⟩
  have hS : va_S (WA G) s.heap s.heap [] := va_S.rf
  have hl : lv_has (lg_sl ([rr G u0, .int u1, .int u2]) ++ List.replicate (3 - (lg_sl ([rr G u0, .int u1, .int u2])).length) Slot.unset).toArray 3 [(0, rr G u0), (1, .int u1), (2, .int u2)] := by cases u0 <;> exact lv_entry _ (Nat.le_of_ble_eq_true rfl)
  rw [lg_entry_eq]
  generalize (lg_sl ([rr G u0, .int u1, .int u2]) ++ List.replicate (3 - (lg_sl ([rr G u0, .int u1, .int u2])).length) Slot.unset).toArray = ls at hl ⊢
  refine s_getSt hx hb hT hK hS hown 33 (by decide) (z33 hK) fl_X2_37 dX2_mayTake_0 ?_
  refine s_aload_n hx hb dX2_mayTake_3 rfl (lv_at hl 0 rfl) ?_
  obtain ⟨x1, hx1, hE⟩ := bd hE
  refine s_gR hx hb hT u_X2 hown hK hW hx1 rfl (by decide) fl_X2_15 rfl dX2_mayTake_4 ?_
  obtain ⟨i2, hi2, hE⟩ := bd hE
  refine s_ord (l := l) CF hK hW hS hi2 or_X2_43 ⟨Nat.le_of_ble_eq_true rfl, Nat.le_of_ble_eq_true rfl⟩ hl.1 (Nat.le_of_ble_eq_true rfl) dX2_mayTake_7 ⟨Nat.le_refl _, Nat.le_refl _⟩ (fun H locs hW hS => ?_)
  obtain ⟨x3, hx3, hE⟩ := bd hE
  refine s_ldI hx hb hK hW hS hx3 dX2_mayTake_10 ?_
  by_cases w4 : x3 = (1 : Int32)
  · replace hE := ite_t w4 hE
    have hi : (x3).toInt = 1 := by rw [w4]; rfl
    refine lv_lookup (off := 25) (tgt := 36) hx hb dX2_mayTake_11 (by decide) (by rw [hi]; rfl) (by decide) ?_
    refine lv_iload_n hx hb dX2_mayTake_36 rfl (lv_at hl 2 rfl) ?_
    refine lv_iload_n hx hb dX2_mayTake_37 rfl (lv_at hl 1 rfl) ?_
    refine lv_icmp_lt (tgt := 53) hx hb dX2_mayTake_38 (by decide) (fun q5 => ?_) (fun q5 => ?_)
    · replace hE := ite_t q5 hE
      refine lv_iconst (v := (0 : Int32)) hx hb dX2_mayTake_53 (by decide) ?_
      obtain ⟨c6, hE⟩ := ck hE
      obtain rfl := so1 hE
      exact s_zret hx hb hr c6 hlocks hW hS dX2_mayTake_54
    · replace hE := ite_f q5 hE
      refine lv_iload_n hx hb dX2_mayTake_41 rfl (lv_at hl 2 rfl) ?_
      refine lv_iload_n hx hb dX2_mayTake_42 rfl (lv_at hl 1 rfl) ?_
      refine lv_isub hx hb dX2_mayTake_43 ?_
      refine lv_iconst (v := (2 : Int32)) hx hb dX2_mayTake_44 (by decide) ?_
      obtain ⟨c7, hE⟩ := ck hE
      refine lv_irem hx hb dX2_mayTake_45 (of_decide_eq_true c7) ?_
      refine lv_if_ne (tgt := 53) hx hb dX2_mayTake_46 (by decide) (fun q8 => ?_) (fun q8 => ?_)
      · replace hE := ite_f q8 hE
        refine lv_iconst (v := (0 : Int32)) hx hb dX2_mayTake_53 (by decide) ?_
        obtain ⟨c9, hE⟩ := ck hE
        obtain rfl := so1 hE
        exact s_zret hx hb hr c9 hlocks hW hS dX2_mayTake_54
      · replace hE := ite_t q8 hE
        refine lv_iconst (v := (1 : Int32)) hx hb dX2_mayTake_49 (by decide) ?_
        refine lv_goto (tgt := 54) hx hb dX2_mayTake_50 (by decide) ?_
        obtain ⟨c10, hE⟩ := ck hE
        obtain rfl := so1 hE
        exact s_zret hx hb hr c10 hlocks hW hS dX2_mayTake_54
  · replace hE := ite_f w4 hE
    by_cases w11 : x3 = (2 : Int32)
    · replace hE := ite_t w11 hE
      have hi : (x3).toInt = 2 := by rw [w11]; rfl
      refine lv_lookup (off := 44) (tgt := 55) hx hb dX2_mayTake_11 (by decide) (by rw [hi]; rfl) (by decide) ?_
      refine lv_iload_n hx hb dX2_mayTake_55 rfl (lv_at hl 2 rfl) ?_
      refine s_aload_n hx hb dX2_mayTake_56 rfl (lv_at hl 0 rfl) ?_
      refine lv_iload_n hx hb dX2_mayTake_57 rfl (lv_at hl 1 rfl) ?_
      obtain ⟨c12, hE⟩ := ck hE
      obtain ⟨x13, hx13, hE⟩ := bd hE
      refine s_callV (As := [.int u1]) (rest := [.int u2]) CF hK hW hS (S_X2_fewestFor l G F hx13) c12 rfl gv_X2_50 hd_X2_fewestFor ⟨Nat.le_of_ble_eq_true rfl, Nat.le_of_ble_eq_true rfl⟩ rfl hl.1 rfl (Nat.le_of_ble_eq_true rfl) dX2_mayTake_58 ⟨Nat.le_refl _, Nat.le_refl _⟩ (fun H locs hW hS => ?_)
      refine lv_icmp_lt (tgt := 68) hx hb dX2_mayTake_61 (by decide) (fun q14 => ?_) (fun q14 => ?_)
      · replace hE := ite_t q14 hE
        refine lv_iconst (v := (0 : Int32)) hx hb dX2_mayTake_68 (by decide) ?_
        obtain ⟨c15, hE⟩ := ck hE
        obtain rfl := so1 hE
        exact s_zret hx hb hr c15 hlocks hW hS dX2_mayTake_69
      · replace hE := ite_f q14 hE
        refine lv_iconst (v := (1 : Int32)) hx hb dX2_mayTake_64 (by decide) ?_
        refine lv_goto (tgt := 69) hx hb dX2_mayTake_65 (by decide) ?_
        obtain ⟨c16, hE⟩ := ck hE
        obtain rfl := so1 hE
        exact s_zret hx hb hr c16 hlocks hW hS dX2_mayTake_69
    · replace hE := ite_f w11 hE
      refine lv_lookup (off := 59) (tgt := 70) hx hb dX2_mayTake_11 (by decide) ((lv_osw w4 (a := 1) rfl).trans ((lv_osw w11 (a := 2) rfl).trans rfl)) (by decide) ?_
      refine lv_iload_n hx hb dX2_mayTake_70 rfl (lv_at hl 2 rfl) ?_
      refine lv_if_ne (tgt := 82) hx hb dX2_mayTake_71 (by decide) (fun q17 => ?_) (fun q17 => ?_)
      · replace hE := ite_f q17 hE
        refine lv_iconst (v := (0 : Int32)) hx hb dX2_mayTake_82 (by decide) ?_
        obtain ⟨c18, hE⟩ := ck hE
        obtain rfl := so1 hE
        exact s_zret hx hb hr c18 hlocks hW hS dX2_mayTake_83
      · replace hE := ite_t q17 hE
        refine lv_iload_n hx hb dX2_mayTake_74 rfl (lv_at hl 1 rfl) ?_
        refine lv_if_ne (tgt := 82) hx hb dX2_mayTake_75 (by decide) (fun q19 => ?_) (fun q19 => ?_)
        · replace hE := ite_f q19 hE
          refine lv_iconst (v := (0 : Int32)) hx hb dX2_mayTake_82 (by decide) ?_
          obtain ⟨c20, hE⟩ := ck hE
          obtain rfl := so1 hE
          exact s_zret hx hb hr c20 hlocks hW hS dX2_mayTake_83
        · replace hE := ite_t q19 hE
          refine lv_iconst (v := (1 : Int32)) hx hb dX2_mayTake_78 (by decide) ?_
          refine lv_goto (tgt := 83) hx hb dX2_mayTake_79 (by decide) ?_
          obtain ⟨c21, hE⟩ := ck hE
          obtain rfl := so1 hE
          exact s_zret hx hb hr c21 hlocks hW hS dX2_mayTake_83
set_option maxHeartbeats 4000000 in
set_option maxRecDepth 100000 in
theorem S_X11_just (l : Launch) (G : GG) (F : Nat) {u0 : Option Nat} {u1 : Int32} {u2 : Int32} {u3 : Int32} {u4 : Int32} {f : Hp} {r : Int32} {n : Nat} (hE : m_X11_just F u0 u1 u2 u3 u4 f = some r) : Ctr l G yX11_just cX11_just 8 (some .int) 3 67 [rr G u0, .int u1, .int u2, .int u3, .int u4] f n (some (.int r)) f n 0 0 := by
  refine Met.ofW (cc := cX11_just) (maxL := 8) (ret := (some .int)) (by decide) rfl ?_
  intro p e s m args below meth c s₁ B hml hv
  obtain ⟨rfl, hK, hW⟩ := hv
  have hx := B.exec
  have hb := B.bytes
  have hr := B.returns
  have hts := atoms_spec (ws := wsO yX11_just cX11_just 8 (some .int)) B.pre
  have hT : ∀ w ∈ TB, w.before [rr G u0, .int u1, .int u2, .int u3, .int u4].toArray s = true := fun w hw => hts w (List.mem_cons_of_mem _ hw)
  have hown : s.vm.findClass RX11 = some m.cls := findClass_of_methodNamed B.named
  have hlocks := B.notSynchronized
  have CF : CallFix p m c cX11_just 8 s [rr G u0, .int u1, .int u2, .int u3, .int u4].toArray TB RX11 := ⟨hx, hb, hml, hown, hT⟩
  have hS : va_S (WA G) s.heap s.heap [] := va_S.rf
  have hl : lv_has (lg_sl ([rr G u0, .int u1, .int u2, .int u3, .int u4]) ++ List.replicate (8 - (lg_sl ([rr G u0, .int u1, .int u2, .int u3, .int u4])).length) Slot.unset).toArray 8 [(0, rr G u0), (1, .int u1), (2, .int u2), (3, .int u3), (4, .int u4)] := by cases u0 <;> exact lv_entry _ (Nat.le_of_ble_eq_true rfl)
  rw [lg_entry_eq]
  generalize (lg_sl ([rr G u0, .int u1, .int u2, .int u3, .int u4]) ++ List.replicate (8 - (lg_sl ([rr G u0, .int u1, .int u2, .int u3, .int u4])).length) Slot.unset).toArray = ls at hl ⊢
  refine s_aload_n hx hb dX11_just_0 rfl (lv_at hl 0 rfl) ?_
  obtain ⟨x1, hx1, hE⟩ := bd hE
  refine s_gR hx hb hT u_X11 hown hK hW hx1 rfl (by decide) fl_X11_16 rfl dX11_just_1 ?_
  refine lv_iload_n hx hb dX11_just_4 rfl (lv_at hl 1 rfl) ?_
  obtain ⟨c2, hE⟩ := ck hE
  obtain ⟨x3, hx3, hE⟩ := bd hE
  refine s_callV (As := [.int u1]) (rest := []) CF hK hW hS (S_X4_wholeAt l G F hx3) c2 rfl gv_X11_178 hd_X4_wholeAt ⟨Nat.le_of_ble_eq_true rfl, Nat.le_of_ble_eq_true rfl⟩ rfl hl.1 rfl (Nat.le_of_ble_eq_true rfl) dX11_just_5 ⟨Nat.le_refl _, Nat.le_refl _⟩ (fun H locs hW hS => ?_)
  refine s_astore (lv' := [(5, rr G x3), (0, rr G u0), (1, .int u1), (2, .int u2), (3, .int u3), (4, .int u4)]) hx hb dX11_just_8 hl (by decide) rfl (fun ls hl => ?_)
  refine s_aload_n hx hb dX11_just_10 rfl (lv_at hl 1 rfl) ?_
  obtain ⟨x4, hx4, hE⟩ := bd hE
  refine s_gR hx hb hT u_X11 hown hK hW hx4 rfl (by decide) fl_X11_16 rfl dX11_just_11 ?_
  refine lv_iload_n hx hb dX11_just_14 rfl (lv_at hl 3 rfl) ?_
  obtain ⟨c5, hE⟩ := ck hE
  obtain ⟨x6, hx6, hE⟩ := bd hE
  refine s_callV (As := [.int u2]) (rest := []) CF hK hW hS (S_X4_wholeAt l G F hx6) c5 rfl gv_X11_178 hd_X4_wholeAt ⟨Nat.le_of_ble_eq_true rfl, Nat.le_of_ble_eq_true rfl⟩ rfl hl.1 rfl (Nat.le_of_ble_eq_true rfl) dX11_just_15 ⟨Nat.le_refl _, Nat.le_refl _⟩ (fun H locs hW hS => ?_)
  refine s_astore (lv' := [(6, rr G x6), (5, rr G x3), (0, rr G u0), (1, .int u1), (2, .int u2), (3, .int u3), (4, .int u4)]) hx hb dX11_just_18 hl (by decide) (by simp [cat_rr]) (fun ls hl => ?_)
  refine s_aload_n hx hb dX11_just_20 rfl (lv_at hl 2 rfl) ?_
  obtain ⟨x7, hx7, hE⟩ := bd hE
  refine s_gR hx hb hT u_X11 hown hK hW hx7 rfl (by decide) fl_X11_16 rfl dX11_just_21 ?_
  refine lv_iload_n hx hb dX11_just_24 rfl (lv_at hl 5 rfl) ?_
  obtain ⟨c8, hE⟩ := ck hE
  obtain ⟨x9, hx9, hE⟩ := bd hE
  refine s_callV (As := [.int u3]) (rest := []) CF hK hW hS (S_X4_deskAt l G F hx9) c8 rfl gv_X11_181 hd_X4_deskAt ⟨Nat.le_of_ble_eq_true rfl, Nat.le_of_ble_eq_true rfl⟩ rfl hl.1 rfl (Nat.le_of_ble_eq_true rfl) dX11_just_25 ⟨Nat.le_refl _, Nat.le_refl _⟩ (fun H locs hW hS => ?_)
  refine s_astore (lv' := [(7, rr G x9), (6, rr G x6), (5, rr G x3), (0, rr G u0), (1, .int u1), (2, .int u2), (3, .int u3), (4, .int u4)]) hx hb dX11_just_28 hl (by decide) (by simp [cat_rr]) (fun ls hl => ?_)
  refine s_aload hx hb dX11_just_30 (lv_at hl 2 rfl) ?_
  refine s_ifnull (tgt := 50) hx hb dX11_just_32 (by decide) (fun q10 => ?_) (fun q10 => ?_)
  · replace hE := ite_t q10 hE
    refine lv_iconst (v := (-1 : Int32)) hx hb dX11_just_50 (by decide) ?_
    obtain rfl := so1 hE
    exact s_iret hx hb hr hlocks hW hS dX11_just_51
  · replace hE := ite_f q10 hE
    refine s_aload hx hb dX11_just_35 (lv_at hl 1 rfl) ?_
    refine s_ifnull (tgt := 50) hx hb dX11_just_37 (by decide) (fun q11 => ?_) (fun q11 => ?_)
    · replace hE := ite_t q11 hE
      refine lv_iconst (v := (-1 : Int32)) hx hb dX11_just_50 (by decide) ?_
      obtain rfl := so1 hE
      exact s_iret hx hb hr hlocks hW hS dX11_just_51
    · replace hE := ite_f q11 hE
      refine s_aload hx hb dX11_just_40 (lv_at hl 0 rfl) ?_
      refine s_ifnull (tgt := 50) hx hb dX11_just_42 (by decide) (fun q12 => ?_) (fun q12 => ?_)
      · replace hE := ite_t q12 hE
        refine lv_iconst (v := (-1 : Int32)) hx hb dX11_just_50 (by decide) ?_
        obtain rfl := so1 hE
        exact s_iret hx hb hr hlocks hW hS dX11_just_51
      · replace hE := ite_f q12 hE
        refine lv_iload hx hb dX11_just_45 (lv_at hl 7 rfl) ?_
        refine lv_if_ge (tgt := 52) hx hb dX11_just_47 (by decide) (fun q13 => ?_) (fun q13 => ?_)
        · replace hE := ite_t q13 hE
          refine s_aload hx hb dX11_just_52 (lv_at hl 0 rfl) ?_
          refine s_aload hx hb dX11_just_54 (lv_at hl 2 rfl) ?_
          refine s_aload hx hb dX11_just_56 (lv_at hl 1 rfl) ?_
          obtain ⟨c14, hE⟩ := ck hE
          obtain ⟨x15, hx15, hE⟩ := bd hE
          refine s_callV (As := [rr G x6]) (rest := [rr G x9]) CF hK hW hS (S_X1_stepsTo l G F hx15) c14 rfl gv_X11_155 hd_X1_stepsTo ⟨Nat.le_of_ble_eq_true rfl, Nat.le_of_ble_eq_true rfl⟩ rfl hl.1 rfl (Nat.le_of_ble_eq_true rfl) dX11_just_58 ⟨Nat.le_refl _, Nat.le_refl _⟩ (fun H locs hW hS => ?_)
          refine lv_iload hx hb dX11_just_61 (lv_at hl 7 rfl) ?_
          obtain ⟨c16, hE⟩ := ck hE
          obtain ⟨x17, hx17, hE⟩ := bd hE
          refine s_callV (As := [.int x15, .int u4]) (rest := []) CF hK hW hS (S_X2_mayTake l G F hx17) c16 rfl gv_X11_188 hd_X2_mayTake ⟨Nat.le_of_ble_eq_true rfl, Nat.le_of_ble_eq_true rfl⟩ rfl hl.1 rfl (Nat.le_of_ble_eq_true rfl) dX11_just_63 ⟨Nat.le_refl _, Nat.le_refl _⟩ (fun H locs hW hS => ?_)
          refine lv_if_eq (tgt := 73) hx hb dX11_just_66 (by decide) (fun q18 => ?_) (fun q18 => ?_)
          · replace hE := ite_t q18 hE
            refine lv_iconst (v := (0 : Int32)) hx hb dX11_just_73 (by decide) ?_
            obtain rfl := so1 hE
            exact s_iret hx hb hr hlocks hW hS dX11_just_74
          · replace hE := ite_f q18 hE
            refine lv_iconst (v := (1 : Int32)) hx hb dX11_just_69 (by decide) ?_
            refine lv_goto (tgt := 74) hx hb dX11_just_70 (by decide) ?_
            obtain rfl := so1 hE
            exact s_iret hx hb hr hlocks hW hS dX11_just_74
        · replace hE := ite_f q13 hE
          refine lv_iconst (v := (-1 : Int32)) hx hb dX11_just_50 (by decide) ?_
          obtain rfl := so1 hE
          exact s_iret hx hb hr hlocks hW hS dX11_just_51
set_option maxHeartbeats 4000000 in
set_option maxRecDepth 100000 in
theorem S_X6_numberOf (l : Launch) (G : GG) (F : Nat) {u0 : Option Nat} {u1 : Option Nat} {f : Hp} {r : Int32} {n : Nat} (hE : m_X6_numberOf F u0 u1 f = some r) : Ctr l G yX6_numberOf cX6_numberOf 4 (some .int) 2 44 [rr G u0, rr G u1] f n (some (.int r)) f n 0 0 := by
  refine Met.ofW (cc := cX6_numberOf) (maxL := 4) (ret := (some .int)) (by decide) rfl ?_
  intro p e s m args below meth c s₁ B hml hv
  obtain ⟨rfl, hK, hW⟩ := hv
  have hx := B.exec
  have hb := B.bytes
  have hr := B.returns
  have hts := atoms_spec (ws := wsO yX6_numberOf cX6_numberOf 4 (some .int)) B.pre
  have hT : ∀ w ∈ TB, w.before [rr G u0, rr G u1].toArray s = true := fun w hw => hts w (List.mem_cons_of_mem _ hw)
  have hown : s.vm.findClass RX6 = some m.cls := findClass_of_methodNamed B.named
  have hlocks := B.notSynchronized
  have CF : CallFix p m c cX6_numberOf 4 s [rr G u0, rr G u1].toArray TB RX6 := ⟨hx, hb, hml, hown, hT⟩
  have hS : va_S (WA G) s.heap s.heap [] := va_S.rf
  have hl : lv_has (lg_sl ([rr G u0, rr G u1]) ++ List.replicate (4 - (lg_sl ([rr G u0, rr G u1])).length) Slot.unset).toArray 4 [(0, rr G u0), (1, rr G u1)] := by cases u0 <;> cases u1 <;> exact lv_entry _ (Nat.le_of_ble_eq_true rfl)
  rw [lg_entry_eq]
  generalize (lg_sl ([rr G u0, rr G u1]) ++ List.replicate (4 - (lg_sl ([rr G u0, rr G u1])).length) Slot.unset).toArray = ls at hl ⊢
  have hC4 : ∀ (k4 : Nat), ∀ (v0 : Option Nat) (v1 : Option Nat) (v2 : Int32) (v3 : Int32) (H : Heap) (locs : List Loc) (ls : Array Slot), m_X6_numberOf_L4 F k4 v0 v1 v2 v3 f = some r → Wd G f n H → va_S (WA G) s.heap H locs → lv_has ls 4 [(0, rr G v0), (1, rr G v1), (2, .int v2), (3, .int v3)] → W p l e (headSpec (wsO yX6_numberOf cX6_numberOf 4 (some .int)) { frames := 2, cells := 0, slots := 0, locals := 44 }).room s m [rr G u0, rr G u1].toArray below meth c H locs 0 0 (MQ below (Qcn G (some (.int r)) f n) [rr G u0, rr G u1].toArray s 0 0 (WA G)) (F0 m 4 ls []) := by
    intro k4
    induction k4 with
    | zero => intro v0 v1 v2 v3 H locs ls hE _ _ _; cases (show (none : Option Int32) = some r from hE)
    | succ k4 ih4 =>
      intro v0 v1 v2 v3 H locs ls hE hW hS hl
      replace hE : m_X6_numberOf_b4 F (m_X6_numberOf_L4 F k4) v0 v1 v2 v3 f = some r := hE
      refine lv_iload_n hx hb dX6_numberOf_4 rfl (lv_at hl 3 rfl) ?_
      refine s_aload_n hx hb dX6_numberOf_5 rfl (lv_at hl 0 rfl) ?_
      obtain ⟨x1, hx1, hE⟩ := bd hE
      refine s_gI hx hb hT u_X6 hown hK hW hx1 rfl (by decide) fl_X6_18 rfl dX6_numberOf_6 ?_
      refine lv_icmp_ge (tgt := 38) hx hb dX6_numberOf_9 (by decide) (fun q2 => ?_) (fun q2 => ?_)
      · replace hE := ite_t q2 hE
        refine lv_iload_n hx hb dX6_numberOf_38 rfl (lv_at hl 2 rfl) ?_
        obtain rfl := so1 hE
        exact s_iret hx hb hr hlocks hW hS dX6_numberOf_39
      · replace hE := ite_f q2 hE
        refine lv_iload_n hx hb dX6_numberOf_12 rfl (lv_at hl 2 rfl) ?_
        refine s_aload_n hx hb dX6_numberOf_13 rfl (lv_at hl 1 rfl) ?_
        refine lv_iload_n hx hb dX6_numberOf_14 rfl (lv_at hl 3 rfl) ?_
        obtain ⟨x3, hx3, hE⟩ := bd hE
        refine s_callS (As := [rr G v1, .int v3]) (rest := [.int v2]) CF hK hW hS (S_X6_lowerBehind l G F hx3) gs_X6_91 hd_X6_lowerBehind.2 ⟨Nat.le_of_ble_eq_true rfl, Nat.le_of_ble_eq_true rfl⟩ rfl hl.1 rfl (Nat.le_of_ble_eq_true rfl) dX6_numberOf_15 ⟨Nat.le_refl _, Nat.le_refl _⟩ (fun H locs hW hS => ?_)
        refine s_aload_n hx hb dX6_numberOf_18 rfl (lv_at hl 0 rfl) ?_
        obtain ⟨x4, hx4, hE⟩ := bd hE
        refine s_gI hx hb hT u_X6 hown hK hW hx4 rfl (by decide) fl_X6_18 rfl dX6_numberOf_19 ?_
        refine lv_iconst (v := (1 : Int32)) hx hb dX6_numberOf_22 (by decide) ?_
        refine lv_isub hx hb dX6_numberOf_23 ?_
        refine lv_iload_n hx hb dX6_numberOf_24 rfl (lv_at hl 3 rfl) ?_
        refine lv_isub hx hb dX6_numberOf_25 ?_
        obtain ⟨x5, hx5, hE⟩ := bd hE
        refine s_callSN (As := [.int ((x4 - (1 : Int32)) - v3)]) (rest := [.int x3, .int v2]) CF hK hW hS (S_X11_factorial l G F hx5) go_X11_factorial nm_X6_24 ini_CopyOrders stt_X11_factorial hd_X11_factorial.2 ⟨Nat.le_of_ble_eq_true rfl, Nat.le_of_ble_eq_true rfl⟩ rfl hl.1 rfl (Nat.le_of_ble_eq_true rfl) dX6_numberOf_26 ⟨Nat.le_refl _, Nat.le_refl _⟩ (fun H locs hW hS => ?_)
        refine lv_imul hx hb dX6_numberOf_29 ?_
        refine lv_iadd hx hb dX6_numberOf_30 ?_
        refine lv_topi (fun y6 ey6 => ?_)
        replace hE := nm_o ey6 hE
        refine lv_istore_n (i := 2) (lv' := [(2, .int y6), (0, rr G v0), (1, rr G v1), (3, .int v3)]) hx hb dX6_numberOf_31 rfl hl (by decide) (by simp [cat_rr]) (fun ls hl => ?_)
        obtain ⟨y7, ey7⟩ : ∃ y : Int32, y = v3 + (1 : Int32) := ⟨_, rfl⟩
        replace hE := nm_o ey7 hE
        refine lv_iinc (k := 3) (v := y7) (lv' := [(3, .int y7), (2, .int y6), (0, rr G v0), (1, rr G v1)]) hx hb dX6_numberOf_32 hl rfl (by rw [ey7]; rfl) (by decide) rfl (fun ls hl => ?_)
        refine lv_goto (tgt := 4) hx hb dX6_numberOf_35 (by decide) ?_
        exact ih4 _ _ _ _ _ _ _ hE hW hS (lv_sub hl [2, 3, 1, 0] rfl)
  refine lv_iconst (v := (0 : Int32)) hx hb dX6_numberOf_0 (by decide) ?_
  refine lv_istore_n (i := 2) (lv' := [(2, .int (0 : Int32)), (0, rr G u0), (1, rr G u1)]) hx hb dX6_numberOf_1 rfl hl (by decide) (by simp [cat_rr]) (fun ls hl => ?_)
  refine lv_iconst (v := (0 : Int32)) hx hb dX6_numberOf_2 (by decide) ?_
  refine lv_istore_n (i := 3) (lv' := [(3, .int (0 : Int32)), (2, .int (0 : Int32)), (0, rr G u0), (1, rr G u1)]) hx hb dX6_numberOf_3 rfl hl (by decide) rfl (fun ls hl => ?_)
  exact hC4 F _ _ _ _ _ _ _ hE hW hS (lv_sub hl [2, 3, 1, 0] rfl)
set_option maxHeartbeats 4000000 in
set_option maxRecDepth 100000 in
theorem S_X6_keep (l : Launch) (G : GG) (F : Nat) {u0 : Option Nat} {f : Hp} {f' : Hp} {n : Nat} (hE : m_X6_keep F u0 f = some f') : Ctr l G yX6_keep cX6_keep 1 none 1 60 [rr G u0] f n none f' n 0 0 := by
  refine Met.ofW (cc := cX6_keep) (maxL := 1) (ret := none) (by decide) rfl ?_
  intro p e s m args below meth c s₁ B hml hv
  obtain ⟨rfl, hK, hW⟩ := hv
  have hx := B.exec
  have hb := B.bytes
  have hr := B.returns
  have hts := atoms_spec (ws := wsO yX6_keep cX6_keep 1 none) B.pre
  have hT : ∀ w ∈ TB, w.before [rr G u0].toArray s = true := fun w hw => hts w (List.mem_cons_of_mem _ hw)
  have hown : s.vm.findClass RX6 = some m.cls := findClass_of_methodNamed B.named
  have hlocks := B.notSynchronized
  have CF : CallFix p m c cX6_keep 1 s [rr G u0].toArray TB RX6 := ⟨hx, hb, hml, hown, hT⟩
  have hS : va_S (WA G) s.heap s.heap [] := va_S.rf
  have hl : lv_has (lg_sl ([rr G u0]) ++ List.replicate (1 - (lg_sl ([rr G u0])).length) Slot.unset).toArray 1 [(0, rr G u0)] := by cases u0 <;> exact lv_entry _ (Nat.le_of_ble_eq_true rfl)
  rw [lg_entry_eq]
  generalize (lg_sl ([rr G u0]) ++ List.replicate (1 - (lg_sl ([rr G u0])).length) Slot.unset).toArray = ls at hl ⊢
  refine s_aload_n hx hb dX6_keep_0 rfl (lv_at hl 0 rfl) ?_
  obtain ⟨x1, hx1, hE⟩ := bd hE
  refine s_gR hx hb hT u_X6 hown hK hW hx1 rfl (by decide) fl_X6_44 rfl dX6_keep_1 ?_
  refine lv_iconst (v := (0 : Int32)) hx hb dX6_keep_4 (by decide) ?_
  refine s_aload_n hx hb dX6_keep_5 rfl (lv_at hl 0 rfl) ?_
  obtain ⟨x2, hx2, hE⟩ := bd hE
  refine s_gR hx hb hT u_X6 hown hK hW hx2 rfl (by decide) fl_X6_51 rfl dX6_keep_6 ?_
  refine lv_iconst (v := (0 : Int32)) hx hb dX6_keep_9 (by decide) ?_
  refine s_aload_n hx hb dX6_keep_10 rfl (lv_at hl 0 rfl) ?_
  obtain ⟨x3, hx3, hE⟩ := bd hE
  refine s_gI hx hb hT u_X6 hown hK hW hx3 rfl (by decide) fl_X6_28 rfl dX6_keep_11 ?_
  obtain ⟨f4, hf4, hE⟩ := bd hE
  refine s_copyJ (own := RX6) hx hb (by rw [hml]; exact hl.1.symm) hT hown cp_X6_109 hK hW hS hf4 (Nat.le_of_ble_eq_true rfl) (Nat.le_of_ble_eq_true rfl) dX6_keep_14 (fun H locs hW hS => ?_)
  obtain rfl := so1 hE
  exact s_vret hx hb hr hlocks hW hS dX6_keep_17
