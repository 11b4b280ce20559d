set_option maxHeartbeats 4000000 in
set_option maxRecDepth 100000 in
theorem S_X11_woven (l : Launch) (G : GG) (F : Nat) {u0 : Option Nat} {u1 : Int32} {u2 : Int32} {u3 : Int32} {f : Hp} {r : Int32} {n : Nat} (hE : m_X11_woven F u0 u1 u2 u3 f = some r) : Ctr l G yX11_woven cX11_woven 11 (some .int) 3 68 [rr G u0, .int u1, .int u2, .int u3] f n (some (.int r)) f n 0 0 := by
  refine Met.ofW (cc := cX11_woven) (maxL := 11) (ret := (some .int)) (by decide) rfl ?_
  intro p e s m args below meth c s₁ B hml hv
  obtain ⟨rfl, hK, hW⟩ := hv
  have hx := B.exec
  have hb := B.bytes
  have hr := B.returns
  have hts := atoms_spec (ws := wsO yX11_woven cX11_woven 11 (some .int)) B.pre
  have hT : ∀ w ∈ TB, w.before [rr G u0, .int u1, .int u2, .int u3].toArray s = true := fun w hw => hts w (List.mem_cons_of_mem _ hw)
  have hown : s.vm.findClass RX11 = some m.cls := findClass_of_methodNamed B.named
  have hlocks := B.notSynchronized
  have CF : CallFix p m c cX11_woven 11 s [rr G u0, .int u1, .int u2, .int u3].toArray TB RX11 := ⟨hx, hb, hml, hown, hT⟩
  have hS : va_S (WA G) s.heap s.heap [] := va_S.rf
  have hl : lv_has (lg_sl ([rr G u0, .int u1, .int u2, .int u3]) ++ List.replicate (11 - (lg_sl ([rr G u0, .int u1, .int u2, .int u3])).length) Slot.unset).toArray 11 [(0, rr G u0), (1, .int u1), (2, .int u2), (3, .int u3)] := by cases u0 <;> exact lv_entry _ (Nat.le_of_ble_eq_true rfl)
  rw [lg_entry_eq]
  generalize (lg_sl ([rr G u0, .int u1, .int u2, .int u3]) ++ List.replicate (11 - (lg_sl ([rr G u0, .int u1, .int u2, .int u3])).length) Slot.unset).toArray = ls at hl ⊢
  have hC57 : ∀ (k57 : Nat), ∀ (v4 : Option Nat) (v5 : Option Nat) (v6 : Option Nat) (v7 : Int32) (v8 : Int32) (v9 : Int32) (H : Heap) (locs : List Loc) (ls : Array Slot), m_X11_woven_L57 F k57 v4 v5 v6 v7 v8 v9 f = some r → Wd G f n H → va_S (WA G) s.heap H locs → lv_has ls 11 [(4, rr G v4), (5, rr G v5), (6, rr G v6), (7, .int v7), (8, .int v8), (9, .int v9)] → W p l e (headSpec (wsO yX11_woven cX11_woven 11 (some .int)) { frames := 3, cells := 0, slots := 0, locals := 68 }).room s m [rr G u0, .int u1, .int u2, .int u3].toArray below meth c H locs 0 0 (MQ below (Qcn G (some (.int r)) f n) [rr G u0, .int u1, .int u2, .int u3].toArray s 0 0 (WA G)) (F0 m 57 ls []) := by
    intro k57
    induction k57 with
    | zero => intro v4 v5 v6 v7 v8 v9 H locs ls hE _ _ _; cases (show (none : Option Int32) = some r from hE)
    | succ k57 ih57 =>
      intro v4 v5 v6 v7 v8 v9 H locs ls hE hW hS hl
      replace hE : m_X11_woven_b57 F (m_X11_woven_L57 F k57) v4 v5 v6 v7 v8 v9 f = some r := hE
      refine lv_iload hx hb dX11_woven_57 (lv_at hl 5 rfl) ?_
      refine lv_bipush (v := (7 : Int32)) hx hb dX11_woven_59 (by decide) ?_
      refine lv_icmp_ge (tgt := 119) hx hb dX11_woven_61 (by decide) (fun q1 => ?_) (fun q1 => ?_)
      · replace hE := ite_t q1 hE
        refine lv_iload hx hb dX11_woven_119 (lv_at hl 3 rfl) ?_
        obtain rfl := so1 hE
        exact s_iret hx hb hr hlocks hW hS dX11_woven_121
      · replace hE := ite_f q1 hE
        refine lv_iload hx hb dX11_woven_64 (lv_at hl 4 rfl) ?_
        refine s_aload hx hb dX11_woven_66 (lv_at hl 2 rfl) ?_
        obtain ⟨x2, hx2, hE⟩ := bd hE
        refine s_gI hx hb hT u_X1 hown hK hW hx2 rfl (by decide) fl_X11_109 rfl dX11_woven_68 ?_
        refine lv_icmp_ge (tgt := 119) hx hb dX11_woven_71 (by decide) (fun q3 => ?_) (fun q3 => ?_)
        · replace hE := ite_t q3 hE
          refine lv_iload hx hb dX11_woven_119 (lv_at hl 3 rfl) ?_
          obtain rfl := so1 hE
          exact s_iret hx hb hr hlocks hW hS dX11_woven_121
        · replace hE := ite_f q3 hE
          refine s_aload hx hb dX11_woven_74 (lv_at hl 0 rfl) ?_
          refine s_aload hx hb dX11_woven_76 (lv_at hl 2 rfl) ?_
          refine lv_iload hx hb dX11_woven_78 (lv_at hl 4 rfl) ?_
          obtain ⟨c4, hE⟩ := ck hE
          obtain ⟨x5, hx5, hE⟩ := bd hE
          refine s_callV (As := [rr G v6, .int v8]) (rest := []) CF hK hW hS (S_X1_pieceEnd l G F hx5) c4 rfl gv_X11_311 hd_X1_pieceEnd ⟨Nat.le_of_ble_eq_true rfl, Nat.le_of_ble_eq_true rfl⟩ rfl hl.1 rfl (Nat.le_of_ble_eq_true rfl) dX11_woven_80 ⟨Nat.le_refl _, Nat.le_refl _⟩ (fun H locs hW hS => ?_)
          refine s_aload hx hb dX11_woven_83 (lv_at hl 1 rfl) ?_
          refine s_aload hx hb dX11_woven_85 (lv_at hl 2 rfl) ?_
          refine lv_iload hx hb dX11_woven_87 (lv_at hl 4 rfl) ?_
          obtain ⟨c6, hE⟩ := ck hE
          obtain ⟨x7, hx7, hE⟩ := bd hE
          refine s_callV (As := [rr G v6, .int v8]) (rest := [.int x5]) CF hK hW hS (S_X1_pieceEnd l G F hx7) c6 rfl gv_X11_311 hd_X1_pieceEnd ⟨Nat.le_of_ble_eq_true rfl, Nat.le_of_ble_eq_true rfl⟩ rfl hl.1 rfl (Nat.le_of_ble_eq_true rfl) dX11_woven_89 ⟨Nat.le_refl _, Nat.le_refl _⟩ (fun H locs hW hS => ?_)
          refine s_max hx hb (by rw [hml]; exact hl.1.symm) hT hown mx_X11_315 (Nat.le_of_ble_eq_true rfl) (Nat.le_of_ble_eq_true rfl) (Nat.le_of_ble_eq_true rfl) (Nat.le_refl _) (Nat.le_refl _) dX11_woven_92 ?_
          refine lv_topi (fun y8 ey8 => ?_)
          replace hE := nm_o ey8 hE
          refine lv_istore (lv' := [(10, .int y8), (4, rr G v4), (5, rr G v5), (6, rr G v6), (7, .int v7), (8, .int v8), (9, .int v9)]) hx hb dX11_woven_95 hl (by decide) rfl (fun ls hl => ?_)
          refine lv_iload hx hb dX11_woven_97 (lv_at hl 0 rfl) ?_
          refine lv_iload hx hb dX11_woven_99 (lv_at hl 5 rfl) ?_
          refine lv_icmp_gt (tgt := 106) hx hb dX11_woven_101 (by decide) (fun q9 => ?_) (fun q9 => ?_)
          · replace hE := ite_t q9 hE
            refine lv_iload hx hb dX11_woven_106 (lv_at hl 0 rfl) ?_
            refine lv_istore (lv' := [(8, .int y8), (10, .int y8), (4, rr G v4), (5, rr G v5), (6, rr G v6), (7, .int v7), (9, .int v9)]) hx hb dX11_woven_108 hl (by decide) rfl (fun ls hl => ?_)
            obtain ⟨y10, ey10⟩ : ∃ y : Int32, y = v7 + (1 : Int32) := ⟨_, rfl⟩
            replace hE := nm_o ey10 hE
            refine lv_iinc (k := 5) (v := y10) (lv' := [(7, .int y10), (8, .int y8), (10, .int y8), (4, rr G v4), (5, rr G v5), (6, rr G v6), (9, .int v9)]) hx hb dX11_woven_110 hl rfl (by rw [ey10]; rfl) (by decide) (by simp [cat_rr]) (fun ls hl => ?_)
            obtain ⟨y11, ey11⟩ : ∃ y : Int32, y = v9 + (1 : Int32) := ⟨_, rfl⟩
            replace hE := nm_o ey11 hE
            refine lv_iinc (k := 6) (v := y11) (lv' := [(9, .int y11), (7, .int y10), (8, .int y8), (10, .int y8), (4, rr G v4), (5, rr G v5), (6, rr G v6)]) hx hb dX11_woven_113 hl rfl (by rw [ey11]; rfl) (by decide) rfl (fun ls hl => ?_)
            refine lv_goto (tgt := 57) hx hb dX11_woven_116 (by decide) ?_
            exact ih57 _ _ _ _ _ _ _ _ _ hE hW hS (lv_sub hl [4, 5, 6, 1, 2, 0] rfl)
          · replace hE := ite_f q9 hE
            refine lv_iconst (v := (-1 : Int32)) hx hb dX11_woven_104 (by decide) ?_
            obtain rfl := so1 hE
            exact s_iret hx hb hr hlocks hW hS dX11_woven_105
  refine s_aload_n hx hb dX11_woven_0 rfl (lv_at hl 0 rfl) ?_
  obtain ⟨x12, hx12, hE⟩ := bd hE
  refine s_gR hx hb hT u_X11 hown hK hW hx12 rfl (by decide) fl_X11_16 rfl dX11_woven_1 ?_
  refine lv_iload_n hx hb dX11_woven_4 rfl (lv_at hl 1 rfl) ?_
  obtain ⟨c13, hE⟩ := ck hE
  obtain ⟨x14, hx14, hE⟩ := bd hE
  refine s_callV (As := [.int u1]) (rest := []) CF hK hW hS (S_X4_copyAt l G F hx14) c13 rfl gv_X11_105 hd_X4_copyAt ⟨Nat.le_of_ble_eq_true rfl, Nat.le_of_ble_eq_true rfl⟩ rfl hl.1 rfl (Nat.le_of_ble_eq_true rfl) dX11_woven_5 ⟨Nat.le_refl _, Nat.le_refl _⟩ (fun H locs hW hS => ?_)
  refine s_astore (lv' := [(4, rr G x14), (0, rr G u0), (1, .int u1), (2, .int u2), (3, .int u3)]) hx hb dX11_woven_8 hl (by decide) rfl (fun ls hl => ?_)
  refine s_aload_n hx hb dX11_woven_10 rfl (lv_at hl 1 rfl) ?_
  obtain ⟨x15, hx15, hE⟩ := bd hE
  refine s_gR hx hb hT u_X11 hown hK hW hx15 rfl (by decide) fl_X11_16 rfl dX11_woven_11 ?_
  refine lv_iload_n hx hb dX11_woven_14 rfl (lv_at hl 3 rfl) ?_
  obtain ⟨c16, hE⟩ := ck hE
  obtain ⟨x17, hx17, hE⟩ := bd hE
  refine s_callV (As := [.int u2]) (rest := []) CF hK hW hS (S_X4_copyAt l G F hx17) c16 rfl gv_X11_105 hd_X4_copyAt ⟨Nat.le_of_ble_eq_true rfl, Nat.le_of_ble_eq_true rfl⟩ rfl hl.1 rfl (Nat.le_of_ble_eq_true rfl) dX11_woven_15 ⟨Nat.le_refl _, Nat.le_refl _⟩ (fun H locs hW hS => ?_)
  refine s_astore (lv' := [(5, rr G x17), (4, rr G x14), (0, rr G u0), (1, .int u1), (2, .int u2), (3, .int u3)]) hx hb dX11_woven_18 hl (by decide) (by simp [cat_rr]) (fun ls hl => ?_)
  refine s_aload_n hx hb dX11_woven_20 rfl (lv_at hl 2 rfl) ?_
  obtain ⟨x18, hx18, hE⟩ := bd hE
  refine s_gR hx hb hT u_X11 hown hK hW hx18 rfl (by decide) fl_X11_16 rfl dX11_woven_21 ?_
  refine lv_iload_n hx hb dX11_woven_24 rfl (lv_at hl 5 rfl) ?_
  obtain ⟨c19, hE⟩ := ck hE
  obtain ⟨x20, hx20, hE⟩ := bd hE
  refine s_callV (As := [.int u3]) (rest := []) CF hK hW hS (S_X4_copyAt l G F hx20) c19 rfl gv_X11_105 hd_X4_copyAt ⟨Nat.le_of_ble_eq_true rfl, Nat.le_of_ble_eq_true rfl⟩ rfl hl.1 rfl (Nat.le_of_ble_eq_true rfl) dX11_woven_25 ⟨Nat.le_refl _, Nat.le_refl _⟩ (fun H locs hW hS => ?_)
  refine s_astore (lv' := [(6, rr G x20), (5, rr G x17), (4, rr G x14), (0, rr G u0), (1, .int u1), (2, .int u2), (3, .int u3)]) hx hb dX11_woven_28 hl (by decide) (by simp [cat_rr]) (fun ls hl => ?_)
  refine s_aload hx hb dX11_woven_30 (lv_at hl 2 rfl) ?_
  refine s_ifnull (tgt := 45) hx hb dX11_woven_32 (by decide) (fun q21 => ?_) (fun q21 => ?_)
  · replace hE := ite_t q21 hE
    refine lv_bipush (v := (-2 : Int32)) hx hb dX11_woven_45 (by decide) ?_
    obtain rfl := so1 hE
    exact s_iret hx hb hr hlocks hW hS dX11_woven_47
  · replace hE := ite_f q21 hE
    refine s_aload hx hb dX11_woven_35 (lv_at hl 1 rfl) ?_
    refine s_ifnull (tgt := 45) hx hb dX11_woven_37 (by decide) (fun q22 => ?_) (fun q22 => ?_)
    · replace hE := ite_t q22 hE
      refine lv_bipush (v := (-2 : Int32)) hx hb dX11_woven_45 (by decide) ?_
      obtain rfl := so1 hE
      exact s_iret hx hb hr hlocks hW hS dX11_woven_47
    · replace hE := ite_f q22 hE
      refine s_aload hx hb dX11_woven_40 (lv_at hl 0 rfl) ?_
      refine s_ifnonnull (tgt := 48) hx hb dX11_woven_42 (by decide) (fun q23 => ?_) (fun q23 => ?_)
      · replace hE := ite_f q23 hE
        refine lv_iconst (v := (0 : Int32)) hx hb dX11_woven_48 (by decide) ?_
        refine lv_istore (lv' := [(7, .int (0 : Int32)), (6, rr G x20), (5, rr G x17), (4, rr G x14), (0, rr G u0), (1, .int u1), (2, .int u2), (3, .int u3)]) hx hb dX11_woven_49 hl (by decide) (by simp [cat_rr]) (fun ls hl => ?_)
        refine lv_iconst (v := (0 : Int32)) hx hb dX11_woven_51 (by decide) ?_
        refine lv_istore (lv' := [(8, .int (0 : Int32)), (7, .int (0 : Int32)), (6, rr G x20), (5, rr G x17), (4, rr G x14), (0, rr G u0), (1, .int u1), (2, .int u2), (3, .int u3)]) hx hb dX11_woven_52 hl (by decide) rfl (fun ls hl => ?_)
        refine lv_iconst (v := (0 : Int32)) hx hb dX11_woven_54 (by decide) ?_
        refine lv_istore (lv' := [(9, .int (0 : Int32)), (8, .int (0 : Int32)), (7, .int (0 : Int32)), (6, rr G x20), (5, rr G x17), (4, rr G x14), (0, rr G u0), (1, .int u1), (2, .int u2), (3, .int u3)]) hx hb dX11_woven_55 hl (by decide) rfl (fun ls hl => ?_)
        exact hC57 F _ _ _ _ _ _ _ _ _ hE hW hS (lv_sub hl [5, 4, 3, 2, 1, 0] rfl)
      · replace hE := ite_t q23 hE
        refine lv_bipush (v := (-2 : Int32)) hx hb dX11_woven_45 (by decide) ?_
        obtain rfl := so1 hE
        exact s_iret hx hb hr hlocks hW hS dX11_woven_47
set_option maxHeartbeats 4000000 in
set_option maxRecDepth 100000 in
theorem S_X6_allWays (l : Launch) (G : GG) (F : Nat) {u0 : Option Nat} {f : Hp} {r : Int64} {n : Nat} (hE : m_X6_allWays F u0 f = some r) : Ctr l G yX6_allWays cX6_allWays 4 (some .long) 0 0 [rr G u0] f n (some (.long r)) f n 0 0 := by
  refine Met.ofW (cc := cX6_allWays) (maxL := 4) (ret := (some .long)) (by decide) rfl ?_
  intro p e s m args below meth c s₁ B hml hv
  obtain ⟨rfl, hK, hW⟩ := hv
  have hx := B.exec
  have hb := B.bytes
  have hr := B.returns
  have hts := atoms_spec (ws := wsO yX6_allWays cX6_allWays 4 (some .long)) B.pre
  have hT : ∀ w ∈ TB, w.before [rr G u0].toArray s = true := fun w hw => hts w (List.mem_cons_of_mem _ hw)
  have hown : s.vm.findClass RX6 = some m.cls := findClass_of_methodNamed B.named
  have hlocks := B.notSynchronized
  have CF : CallFix p m c cX6_allWays 4 s [rr G u0].toArray TB RX6 := ⟨hx, hb, hml, hown, hT⟩
  have hS : va_S (WA G) s.heap s.heap [] := va_S.rf
  have hl : lv_has (lg_sl ([rr G u0]) ++ List.replicate (4 - (lg_sl ([rr G u0])).length) Slot.unset).toArray 4 [(0, rr G u0)] := by cases u0 <;> exact lv_entry _ (Nat.le_of_ble_eq_true rfl)
  rw [lg_entry_eq]
  generalize (lg_sl ([rr G u0]) ++ List.replicate (4 - (lg_sl ([rr G u0])).length) Slot.unset).toArray = ls at hl ⊢
  have hC4 : ∀ (k4 : Nat), ∀ (v0 : Option Nat) (v1 : Int64) (v3 : Int32) (H : Heap) (locs : List Loc) (ls : Array Slot), m_X6_allWays_L4 F k4 v0 v1 v3 f = some r → Wd G f n H → va_S (WA G) s.heap H locs → lv_has ls 4 [(0, rr G v0), (1, .long v1), (3, .int v3)] → W p l e (headSpec (wsO yX6_allWays cX6_allWays 4 (some .long)) { frames := 0, cells := 0, slots := 0, locals := 0 }).room s m [rr G u0].toArray below meth c H locs 0 0 (MQ below (Qcn G (some (.long r)) f n) [rr G u0].toArray s 0 0 (WA G)) (F0 m 4 ls []) := by
    intro k4
    induction k4 with
    | zero => intro v0 v1 v3 H locs ls hE _ _ _; cases (show (none : Option Int64) = some r from hE)
    | succ k4 ih4 =>
      intro v0 v1 v3 H locs ls hE hW hS hl
      replace hE : m_X6_allWays_b4 F (m_X6_allWays_L4 F k4) v0 v1 v3 f = some r := hE
      refine lv_iload_n hx hb dX6_allWays_4 rfl (lv_at hl 2 rfl) ?_
      refine s_aload_n hx hb dX6_allWays_5 rfl (lv_at hl 0 rfl) ?_
      obtain ⟨x1, hx1, hE⟩ := bd hE
      refine s_gI hx hb hT u_X6 hown hK hW hx1 rfl (by decide) fl_X6_28 rfl dX6_allWays_6 ?_
      refine lv_icmp_ge (tgt := 27) hx hb dX6_allWays_9 (by decide) (fun q2 => ?_) (fun q2 => ?_)
      · replace hE := ite_t q2 hE
        refine lv_lload_n hx hb dX6_allWays_27 rfl (lv_at hl 1 rfl) ?_
        obtain rfl := so1 hE
        exact s_lret hx hb hr hlocks hW hS dX6_allWays_28
      · replace hE := ite_f q2 hE
        refine lv_lload_n hx hb dX6_allWays_12 rfl (lv_at hl 1 rfl) ?_
        refine s_aload_n hx hb dX6_allWays_13 rfl (lv_at hl 0 rfl) ?_
        obtain ⟨x3, hx3, hE⟩ := bd hE
        refine s_gR hx hb hT u_X6 hown hK hW hx3 rfl (by decide) fl_X6_44 rfl dX6_allWays_14 ?_
        refine lv_iload_n hx hb dX6_allWays_17 rfl (lv_at hl 2 rfl) ?_
        obtain ⟨x4, hx4, hE⟩ := bd hE
        refine s_ldJ hx hb hK hW hS hx4 dX6_allWays_18 ?_
        refine lv_ladd hx hb dX6_allWays_19 ?_
        refine lv_topl (fun y5 ey5 => ?_)
        replace hE := nm_o ey5 hE
        refine lv_lstore_n (i := 1) (lv' := [(1, .long y5), (0, rr G v0), (3, .int v3)]) hx hb dX6_allWays_20 rfl hl (by decide) (by simp [cat_rr]) (fun ls hl => ?_)
        obtain ⟨y6, ey6⟩ : ∃ y : Int32, y = v3 + (1 : Int32) := ⟨_, rfl⟩
        replace hE := nm_o ey6 hE
        refine lv_iinc (k := 2) (v := y6) (lv' := [(3, .int y6), (1, .long y5), (0, rr G v0)]) hx hb dX6_allWays_21 hl rfl (by rw [ey6]; rfl) (by decide) rfl (fun ls hl => ?_)
        refine lv_goto (tgt := 4) hx hb dX6_allWays_24 (by decide) ?_
        exact ih4 _ _ _ _ _ _ hE hW hS (lv_sub hl [2, 1, 0] rfl)
  refine lv_lconst (v := (0 : Int64)) hx hb dX6_allWays_0 (by decide) ?_
  refine lv_lstore_n (i := 1) (lv' := [(1, .long (0 : Int64)), (0, rr G u0)]) hx hb dX6_allWays_1 rfl hl (by decide) (by simp [cat_rr]) (fun ls hl => ?_)
  refine lv_iconst (v := (0 : Int32)) hx hb dX6_allWays_2 (by decide) ?_
  refine lv_istore_n (i := 3) (lv' := [(3, .int (0 : Int32)), (1, .long (0 : Int64)), (0, rr G u0)]) hx hb dX6_allWays_3 rfl hl (by decide) rfl (fun ls hl => ?_)
  exact hC4 F _ _ _ _ _ _ hE hW hS (lv_sub hl [2, 1, 0] rfl)
set_option maxHeartbeats 4000000 in
set_option maxRecDepth 100000 in
theorem S_X6_allWaysFar (l : Launch) (G : GG) (F : Nat) {u0 : Option Nat} {u1 : Int32} {f : Hp} {r : Int64} {n : Nat} (hE : m_X6_allWaysFar F u0 u1 f = some r) : Ctr l G yX6_allWaysFar cX6_allWaysFar 5 (some .long) 1 20 [rr G u0, .int u1] f n (some (.long r)) f n 0 0 := by
  refine Met.ofW (cc := cX6_allWaysFar) (maxL := 5) (ret := (some .long)) (by decide) rfl ?_
  intro p e s m args below meth c s₁ B hml hv
  obtain ⟨rfl, hK, hW⟩ := hv
  have hx := B.exec
  have hb := B.bytes
  have hr := B.returns
  have hts := atoms_spec (ws := wsO yX6_allWaysFar cX6_allWaysFar 5 (some .long)) B.pre
  have hT : ∀ w ∈ TB, w.before [rr G u0, .int u1].toArray s = true := fun w hw => hts w (List.mem_cons_of_mem _ hw)
  have hown : s.vm.findClass RX6 = some m.cls := findClass_of_methodNamed B.named
  have hlocks := B.notSynchronized
  have CF : CallFix p m c cX6_allWaysFar 5 s [rr G u0, .int u1].toArray TB RX6 := ⟨hx, hb, hml, hown, hT⟩
  have hS : va_S (WA G) s.heap s.heap [] := va_S.rf
  have hl : lv_has (lg_sl ([rr G u0, .int u1]) ++ List.replicate (5 - (lg_sl ([rr G u0, .int u1])).length) Slot.unset).toArray 5 [(0, rr G u0), (1, .int u1)] := by cases u0 <;> exact lv_entry _ (Nat.le_of_ble_eq_true rfl)
  rw [lg_entry_eq]
  generalize (lg_sl ([rr G u0, .int u1]) ++ List.replicate (5 - (lg_sl ([rr G u0, .int u1])).length) Slot.unset).toArray = ls at hl ⊢
  have hC5 : ∀ (k5 : Nat), ∀ (v0 : Option Nat) (v1 : Int32) (v2 : Int64) (v4 : Int32) (H : Heap) (locs : List Loc) (ls : Array Slot), m_X6_allWaysFar_L5 F k5 v0 v1 v2 v4 f = some r → Wd G f n H → va_S (WA G) s.heap H locs → lv_has ls 5 [(0, rr G v0), (1, .int v1), (2, .long v2), (4, .int v4)] → W p l e (headSpec (wsO yX6_allWaysFar cX6_allWaysFar 5 (some .long)) { frames := 1, cells := 0, slots := 0, locals := 20 }).room s m [rr G u0, .int u1].toArray below meth c H locs 0 0 (MQ below (Qcn G (some (.long r)) f n) [rr G u0, .int u1].toArray s 0 0 (WA G)) (F0 m 5 ls []) := by
    intro k5
    induction k5 with
    | zero => intro v0 v1 v2 v4 H locs ls hE _ _ _; cases (show (none : Option Int64) = some r from hE)
    | succ k5 ih5 =>
      intro v0 v1 v2 v4 H locs ls hE hW hS hl
      replace hE : m_X6_allWaysFar_b5 F (m_X6_allWaysFar_L5 F k5) v0 v1 v2 v4 f = some r := hE
      refine lv_iload hx hb dX6_allWaysFar_5 (lv_at hl 3 rfl) ?_
      refine s_aload_n hx hb dX6_allWaysFar_7 rfl (lv_at hl 0 rfl) ?_
      obtain ⟨x1, hx1, hE⟩ := bd hE
      refine s_gI hx hb hT u_X6 hown hK hW hx1 rfl (by decide) fl_X6_28 rfl dX6_allWaysFar_8 ?_
      refine lv_icmp_ge (tgt := 49) hx hb dX6_allWaysFar_11 (by decide) (fun q2 => ?_) (fun q2 => ?_)
      · replace hE := ite_t q2 hE
        refine lv_lload_n hx hb dX6_allWaysFar_49 rfl (lv_at hl 2 rfl) ?_
        obtain rfl := so1 hE
        exact s_lret hx hb hr hlocks hW hS dX6_allWaysFar_50
      · replace hE := ite_f q2 hE
        refine lv_lload_n hx hb dX6_allWaysFar_14 rfl (lv_at hl 2 rfl) ?_
        refine s_aload_n hx hb dX6_allWaysFar_15 rfl (lv_at hl 0 rfl) ?_
        obtain ⟨x3, hx3, hE⟩ := bd hE
        refine s_gR hx hb hT u_X6 hown hK hW hx3 rfl (by decide) fl_X6_44 rfl dX6_allWaysFar_16 ?_
        refine lv_iload hx hb dX6_allWaysFar_19 (lv_at hl 3 rfl) ?_
        obtain ⟨x4, hx4, hE⟩ := bd hE
        refine s_ldJ hx hb hK hW hS hx4 dX6_allWaysFar_21 ?_
        refine s_aload_n hx hb dX6_allWaysFar_22 rfl (lv_at hl 0 rfl) ?_
        obtain ⟨x5, hx5, hE⟩ := bd hE
        refine s_gR hx hb hT u_X6 hown hK hW hx5 rfl (by decide) fl_X6_38 rfl dX6_allWaysFar_23 ?_
        refine lv_iload hx hb dX6_allWaysFar_26 (lv_at hl 3 rfl) ?_
        obtain ⟨x6, hx6, hE⟩ := bd hE
        refine s_ldI hx hb hK hW hS hx6 dX6_allWaysFar_28 ?_
        refine s_aload_n hx hb dX6_allWaysFar_29 rfl (lv_at hl 0 rfl) ?_
        obtain ⟨x7, hx7, hE⟩ := bd hE
        refine s_gR hx hb hT u_X6 hown hK hW hx7 rfl (by decide) fl_X6_38 rfl dX6_allWaysFar_30 ?_
        refine lv_iload_n hx hb dX6_allWaysFar_33 rfl (lv_at hl 1 rfl) ?_
        obtain ⟨x8, hx8, hE⟩ := bd hE
        refine s_ldI hx hb hK hW hS hx8 dX6_allWaysFar_34 ?_
        refine lv_ixor hx hb dX6_allWaysFar_35 ?_
        obtain ⟨x9, hx9, hE⟩ := bd hE
        refine s_callS (As := [.int (x6 ^^^ x8)]) (rest := [.long x4, .long v2]) CF hK hW hS (S_J6_bitCount_0f7a4 l G F hx9) gs_X6_79 hd_J6_bitCount_0f7a4.2 ⟨Nat.le_of_ble_eq_true rfl, Nat.le_of_ble_eq_true rfl⟩ rfl hl.1 rfl (Nat.le_of_ble_eq_true rfl) dX6_allWaysFar_36 ⟨Nat.le_refl _, Nat.le_refl _⟩ (fun H locs hW hS => ?_)
        refine lv_i2l (v := (Int32.toInt64 x9)) hx hb dX6_allWaysFar_39 rfl ?_
        refine lv_lmul hx hb dX6_allWaysFar_40 ?_
        refine lv_ladd hx hb dX6_allWaysFar_41 ?_
        refine lv_topl (fun y10 ey10 => ?_)
        replace hE := nm_o ey10 hE
        refine lv_lstore_n (i := 2) (lv' := [(2, .long y10), (0, rr G v0), (1, .int v1), (4, .int v4)]) hx hb dX6_allWaysFar_42 rfl hl (by decide) rfl (fun ls hl => ?_)
        obtain ⟨y11, ey11⟩ : ∃ y : Int32, y = v4 + (1 : Int32) := ⟨_, rfl⟩
        replace hE := nm_o ey11 hE
        refine lv_iinc (k := 3) (v := y11) (lv' := [(4, .int y11), (2, .long y10), (0, rr G v0), (1, .int v1)]) hx hb dX6_allWaysFar_43 hl rfl (by rw [ey11]; rfl) (by decide) rfl (fun ls hl => ?_)
        refine lv_goto (tgt := 5) hx hb dX6_allWaysFar_46 (by decide) ?_
        exact ih5 _ _ _ _ _ _ _ hE hW hS (lv_sub hl [2, 3, 1, 0] rfl)
  refine lv_lconst (v := (0 : Int64)) hx hb dX6_allWaysFar_0 (by decide) ?_
  refine lv_lstore_n (i := 2) (lv' := [(2, .long (0 : Int64)), (0, rr G u0), (1, .int u1)]) hx hb dX6_allWaysFar_1 rfl hl (by decide) rfl (fun ls hl => ?_)
  refine lv_iconst (v := (0 : Int32)) hx hb dX6_allWaysFar_2 (by decide) ?_
  refine lv_istore (lv' := [(4, .int (0 : Int32)), (2, .long (0 : Int64)), (0, rr G u0), (1, .int u1)]) hx hb dX6_allWaysFar_3 hl (by decide) rfl (fun ls hl => ?_)
  exact hC5 F _ _ _ _ _ _ _ hE hW hS (lv_sub hl [2, 3, 1, 0] rfl)
set_option maxHeartbeats 4000000 in
set_option maxRecDepth 100000 in
theorem S_X12_standard (l : Launch) (G : GG) (F : Nat) {u0 : Option Nat} {f : Hp} {f' : Hp} {n : Nat} (hE : m_X12_standard F u0 f = some f') : Ctr l G yX12_standard cX12_standard 2 none 0 0 [rr G u0] f n none f' n 0 0 := by
  refine Met.ofW (cc := cX12_standard) (maxL := 2) (ret := none) (by decide) rfl ?_
  intro p e s m args below meth c s₁ B hml hv
  obtain ⟨rfl, hK, hW⟩ := hv
  have hx := B.exec
  have hb := B.bytes
  have hr := B.returns
  have hts := atoms_spec (ws := wsO yX12_standard cX12_standard 2 none) B.pre
  have hT : ∀ w ∈ TB, w.before [rr G u0].toArray s = true := fun w hw => hts w (List.mem_cons_of_mem _ hw)
  have hown : s.vm.findClass RX12 = some m.cls := findClass_of_methodNamed B.named
  have hlocks := B.notSynchronized
  have CF : CallFix p m c cX12_standard 2 s [rr G u0].toArray TB RX12 := ⟨hx, hb, hml, hown, hT⟩
  have hS : va_S (WA G) s.heap s.heap [] := va_S.rf
  have hl : lv_has (lg_sl ([rr G u0]) ++ List.replicate (2 - (lg_sl ([rr G u0])).length) Slot.unset).toArray 2 [(0, rr G u0)] := by cases u0 <;> exact lv_entry _ (Nat.le_of_ble_eq_true rfl)
  rw [lg_entry_eq]
  generalize (lg_sl ([rr G u0]) ++ List.replicate (2 - (lg_sl ([rr G u0])).length) Slot.unset).toArray = ls at hl ⊢
  have hC25 : ∀ (k25 : Nat), ∀ (v0 : Option Nat) (v1 : Int32) (fa : Hp) (H : Heap) (locs : List Loc) (ls : Array Slot), m_X12_standard_L25 F k25 v0 v1 fa = some f' → Wd G fa n H → va_S (WA G) s.heap H locs → lv_has ls 2 [(0, rr G v0), (1, .int v1)] → W p l e (headSpec (wsO yX12_standard cX12_standard 2 none) { frames := 0, cells := 0, slots := 0, locals := 0 }).room s m [rr G u0].toArray below meth c H locs 0 0 (MQ below (Qcn G none f' n) [rr G u0].toArray s 0 0 (WA G)) (F0 m 25 ls []) := by
    intro k25
    induction k25 with
    | zero => intro v0 v1 fa H locs ls hE _ _ _; cases (show (none : Option Hp) = some f' from hE)
    | succ k25 ih25 =>
      intro v0 v1 fa H locs ls hE hW hS hl
      replace hE : m_X12_standard_b25 F (m_X12_standard_L25 F k25) v0 v1 fa = some f' := hE
      refine lv_iload_n hx hb dX12_standard_25 rfl (lv_at hl 1 rfl) ?_
      refine lv_bipush (v := (7 : Int32)) hx hb dX12_standard_26 (by decide) ?_
      refine lv_icmp_ge (tgt := 44) hx hb dX12_standard_28 (by decide) (fun q5 => ?_) (fun q5 => ?_)
      · replace hE := ite_t q5 hE
        obtain rfl := so1 hE
        exact s_vret hx hb hr hlocks hW hS dX12_standard_44
      · replace hE := ite_f q5 hE
        refine s_aload_n hx hb dX12_standard_31 rfl (lv_at hl 0 rfl) ?_
        refine lv_bipush (v := (102 : Int32)) hx hb dX12_standard_32 (by decide) ?_
        refine lv_iload_n hx hb dX12_standard_34 rfl (lv_at hl 1 rfl) ?_
        refine lv_iadd hx hb dX12_standard_35 ?_
        refine lv_iconst (v := (1 : Int32)) hx hb dX12_standard_36 (by decide) ?_
        obtain ⟨f6, hf6, hE⟩ := bd hE
        refine s_stI hx hb hK hW hS hf6 dX12_standard_37 (fun H locs hW hS => ?_)
        obtain ⟨y7, ey7⟩ : ∃ y : Int32, y = v1 + (1 : Int32) := ⟨_, rfl⟩
        replace hE := nm_o ey7 hE
        refine lv_iinc (k := 1) (v := y7) (lv' := [(1, .int y7), (0, rr G v0)]) hx hb dX12_standard_38 hl rfl (by rw [ey7]; rfl) (by decide) (by simp [cat_rr]) (fun ls hl => ?_)
        refine lv_goto (tgt := 25) hx hb dX12_standard_41 (by decide) ?_
        exact ih25 _ _ _ _ _ _ hE hW hS (lv_sub hl [1, 0] rfl)
  have hC2 : ∀ (k2 : Nat), ∀ (v0 : Option Nat) (v1 : Int32) (fa : Hp) (H : Heap) (locs : List Loc) (ls : Array Slot), m_X12_standard_L2 F k2 v0 v1 fa = some f' → Wd G fa n H → va_S (WA G) s.heap H locs → lv_has ls 2 [(0, rr G v0), (1, .int v1)] → W p l e (headSpec (wsO yX12_standard cX12_standard 2 none) { frames := 0, cells := 0, slots := 0, locals := 0 }).room s m [rr G u0].toArray below meth c H locs 0 0 (MQ below (Qcn G none f' n) [rr G u0].toArray s 0 0 (WA G)) (F0 m 2 ls []) := by
    intro k2
    induction k2 with
    | zero => intro v0 v1 fa H locs ls hE _ _ _; cases (show (none : Option Hp) = some f' from hE)
    | succ k2 ih2 =>
      intro v0 v1 fa H locs ls hE hW hS hl
      replace hE : m_X12_standard_b2 F (m_X12_standard_L2 F k2) v0 v1 fa = some f' := hE
      refine lv_iload_n hx hb dX12_standard_2 rfl (lv_at hl 1 rfl) ?_
      refine lv_sipush (v := (170 : Int32)) hx hb dX12_standard_3 (by decide) ?_
      refine lv_icmp_ge (tgt := 19) hx hb dX12_standard_6 (by decide) (fun q1 => ?_) (fun q1 => ?_)
      · replace hE := ite_t q1 hE
        refine s_aload_n hx hb dX12_standard_19 rfl (lv_at hl 0 rfl) ?_
        refine lv_iconst (v := (0 : Int32)) hx hb dX12_standard_20 (by decide) ?_
        refine lv_iconst (v := (4 : Int32)) hx hb dX12_standard_21 (by decide) ?_
        obtain ⟨f2, hf2, hE⟩ := bd hE
        refine s_stI hx hb hK hW hS hf2 dX12_standard_22 (fun H locs hW hS => ?_)
        refine lv_iconst (v := (0 : Int32)) hx hb dX12_standard_23 (by decide) ?_
        refine lv_istore_n (i := 1) (lv' := [(1, .int (0 : Int32)), (0, rr G v0)]) hx hb dX12_standard_24 rfl hl (by decide) (by simp [cat_rr]) (fun ls hl => ?_)
        exact hC25 F _ _ _ _ _ _ hE hW hS (lv_sub hl [1, 0] rfl)
      · replace hE := ite_f q1 hE
        refine s_aload_n hx hb dX12_standard_9 rfl (lv_at hl 0 rfl) ?_
        refine lv_iload_n hx hb dX12_standard_10 rfl (lv_at hl 1 rfl) ?_
        refine lv_iconst (v := (0 : Int32)) hx hb dX12_standard_11 (by decide) ?_
        obtain ⟨f3, hf3, hE⟩ := bd hE
        refine s_stI hx hb hK hW hS hf3 dX12_standard_12 (fun H locs hW hS => ?_)
        obtain ⟨y4, ey4⟩ : ∃ y : Int32, y = v1 + (1 : Int32) := ⟨_, rfl⟩
        replace hE := nm_o ey4 hE
        refine lv_iinc (k := 1) (v := y4) (lv' := [(1, .int y4), (0, rr G v0)]) hx hb dX12_standard_13 hl rfl (by rw [ey4]; rfl) (by decide) (by simp [cat_rr]) (fun ls hl => ?_)
        refine lv_goto (tgt := 2) hx hb dX12_standard_16 (by decide) ?_
        exact ih2 _ _ _ _ _ _ hE hW hS (lv_sub hl [1, 0] rfl)
  refine lv_iconst (v := (0 : Int32)) hx hb dX12_standard_0 (by decide) ?_
  refine lv_istore_n (i := 1) (lv' := [(1, .int (0 : Int32)), (0, rr G u0)]) hx hb dX12_standard_1 rfl hl (by decide) (by simp [cat_rr]) (fun ls hl => ?_)
  exact hC2 F _ _ _ _ _ _ hE hW hS (lv_sub hl [1, 0] rfl)
set_option maxHeartbeats 4000000 in
set_option maxRecDepth 100000 in
theorem S_X12_lay (l : Launch) (G : GG) (F : Nat) {u0 : Option Nat} {f : Hp} {f' : Hp} {n : Nat} (hE : m_X12_lay F u0 f = some f') : Ctr l G yX12_lay cX12_lay 1 none 1 21 [rr G u0] f n none f' n 0 0 := by
  refine Met.ofW (cc := cX12_lay) (maxL := 1) (ret := none) (by decide) rfl ?_
  intro p e s m args below meth c s₁ B hml hv
  obtain ⟨rfl, hK, hW⟩ := hv
  have hx := B.exec
  have hb := B.bytes
  have hr := B.returns
  have hts := atoms_spec (ws := wsO yX12_lay cX12_lay 1 none) B.pre
  have hT : ∀ w ∈ TB, w.before [rr G u0].toArray s = true := fun w hw => hts w (List.mem_cons_of_mem _ hw)
  have hown : s.vm.findClass RX12 = some m.cls := findClass_of_methodNamed B.named
  have hlocks := B.notSynchronized
  have CF : CallFix p m c cX12_lay 1 s [rr G u0].toArray TB RX12 := ⟨hx, hb, hml, hown, hT⟩
  have hS : va_S (WA G) s.heap s.heap [] := va_S.rf
  have hl : lv_has (lg_sl ([rr G u0]) ++ List.replicate (1 - (lg_sl ([rr G u0])).length) Slot.unset).toArray 1 [(0, rr G u0)] := by cases u0 <;> exact lv_entry _ (Nat.le_of_ble_eq_true rfl)
  rw [lg_entry_eq]
  generalize (lg_sl ([rr G u0]) ++ List.replicate (1 - (lg_sl ([rr G u0])).length) Slot.unset).toArray = ls at hl ⊢
  refine s_aload_n hx hb dX12_lay_0 rfl (lv_at hl 0 rfl) ?_
  obtain ⟨x1, hx1, hE⟩ := bd hE
  refine s_gI hx hb hT u_X12 hown hK hW hx1 rfl (by decide) fl_X12_171 rfl dX12_lay_1 ?_
  refine lv_if_eq (tgt := 8) hx hb dX12_lay_4 (by decide) (fun q2 => ?_) (fun q2 => ?_)
  · replace hE := ite_t q2 hE
    refine s_aload_n hx hb dX12_lay_8 rfl (lv_at hl 0 rfl) ?_
    refine lv_iconst (v := (1 : Int32)) hx hb dX12_lay_9 (by decide) ?_
    obtain ⟨f3, hf3, hE⟩ := bd hE
    refine s_putZ hx hb hT u_X12 tyX12 tyX12_ok nmX12 hown hK hW hS hf3 rfl (by decide) fl_X12_171 rfl (Or.inl rfl) rfl dX12_lay_10 (fun H locs hW hS => ?_)
    refine s_aload_n hx hb dX12_lay_13 rfl (lv_at hl 0 rfl) ?_
    obtain ⟨x4, hx4, hE⟩ := bd hE
    refine s_gR hx hb hT u_X12 hown hK hW hx4 rfl (by decide) fl_X12_13 rfl dX12_lay_14 ?_
    obtain ⟨f5, hf5, hE⟩ := bd hE
    refine s_callS (As := [rr G x4]) (rest := []) CF hK hW hS (S_X12_standard l G F hf5) gs_X12_175 hd_X12_standard.2 ⟨Nat.le_of_ble_eq_true rfl, Nat.le_of_ble_eq_true rfl⟩ rfl hl.1 rfl (Nat.le_of_ble_eq_true rfl) dX12_lay_17 ⟨Nat.le_refl _, Nat.le_refl _⟩ (fun H locs hW hS => ?_)
    obtain rfl := so1 hE
    exact s_vret hx hb hr hlocks hW hS dX12_lay_20
  · replace hE := ite_f q2 hE
    obtain rfl := so1 hE
    exact s_vret hx hb hr hlocks hW hS dX12_lay_7
set_option maxHeartbeats 4000000 in
set_option maxRecDepth 100000 in
theorem S_X12_take (l : Launch) (G : GG) (F : Nat) {u0 : Option Nat} {f : Hp} {r : Int32} {f' : Hp} {n : Nat} (hE : m_X12_take F u0 f = some (r, f')) : Ctr l G yX12_take cX12_take 2 (some .int) 0 0 [rr G u0] f n (some (.int r)) f' n 0 0 := by
  refine Met.ofW (cc := cX12_take) (maxL := 2) (ret := (some .int)) (by decide) rfl ?_
  intro p e s m args below meth c s₁ B hml hv
  obtain ⟨rfl, hK, hW⟩ := hv
  have hx := B.exec
  have hb := B.bytes
  have hr := B.returns
  have hts := atoms_spec (ws := wsO yX12_take cX12_take 2 (some .int)) B.pre
  have hT : ∀ w ∈ TB, w.before [rr G u0].toArray s = true := fun w hw => hts w (List.mem_cons_of_mem _ hw)
  have hown : s.vm.findClass RX12 = some m.cls := findClass_of_methodNamed B.named
  have hlocks := B.notSynchronized
  have CF : CallFix p m c cX12_take 2 s [rr G u0].toArray TB RX12 := ⟨hx, hb, hml, hown, hT⟩
  have hS : va_S (WA G) s.heap s.heap [] := va_S.rf
  have hl : lv_has (lg_sl ([rr G u0]) ++ List.replicate (2 - (lg_sl ([rr G u0])).length) Slot.unset).toArray 2 [(0, rr G u0)] := by cases u0 <;> exact lv_entry _ (Nat.le_of_ble_eq_true rfl)
  rw [lg_entry_eq]
  generalize (lg_sl ([rr G u0]) ++ List.replicate (2 - (lg_sl ([rr G u0])).length) Slot.unset).toArray = ls at hl ⊢
  refine s_aload_n hx hb dX12_take_0 rfl (lv_at hl 0 rfl) ?_
  obtain ⟨x1, hx1, hE⟩ := bd hE
  refine s_gI hx hb hT u_X12 hown hK hW hx1 rfl (by decide) fl_X12_85 rfl dX12_take_1 ?_
  refine lv_istore_n (i := 1) (lv' := [(1, .int x1), (0, rr G u0)]) hx hb dX12_take_4 rfl hl (by decide) (by simp [cat_rr]) (fun ls hl => ?_)
  refine s_aload_n hx hb dX12_take_5 rfl (lv_at hl 1 rfl) ?_
  refine lv_iconst (v := (0 : Int32)) hx hb dX12_take_6 (by decide) ?_
  obtain ⟨f2, hf2, hE⟩ := bd hE
  refine s_putI hx hb hT u_X12 tyX12 tyX12_ok nmX12 hown hK hW hS hf2 rfl (by decide) fl_X12_85 rfl (Or.inl rfl) rfl dX12_take_7 (fun H locs hW hS => ?_)
  refine lv_iload_n hx hb dX12_take_10 rfl (lv_at hl 0 rfl) ?_
  obtain ⟨rfl, rfl⟩ := so2 hE
  exact s_iret hx hb hr hlocks hW hS dX12_take_11
set_option maxHeartbeats 4000000 in
set_option maxRecDepth 100000 in
theorem S_X12_lines (l : Launch) (G : GG) (F : Nat) {u0 : Option Nat} {f : Hp} {r : Int32} {n : Nat} (hE : m_X12_lines F u0 f = some r) : Ctr l G yX12_lines cX12_lines 1 (some .int) 0 0 [rr G u0] f n (some (.int r)) f n 0 0 := by
  refine Met.ofW (cc := cX12_lines) (maxL := 1) (ret := (some .int)) (by decide) rfl ?_
  intro p e s m args below meth c s₁ B hml hv
  obtain ⟨rfl, hK, hW⟩ := hv
  have hx := B.exec
  have hb := B.bytes
  have hr := B.returns
  have hts := atoms_spec (ws := wsO yX12_lines cX12_lines 1 (some .int)) B.pre
  have hT : ∀ w ∈ TB, w.before [rr G u0].toArray s = true := fun w hw => hts w (List.mem_cons_of_mem _ hw)
  have hown : s.vm.findClass RX12 = some m.cls := findClass_of_methodNamed B.named
  have hlocks := B.notSynchronized
  have CF : CallFix p m c cX12_lines 1 s [rr G u0].toArray TB RX12 := ⟨hx, hb, hml, hown, hT⟩
  have hS : va_S (WA G) s.heap s.heap [] := va_S.rf
  have hl : lv_has (lg_sl ([rr G u0]) ++ List.replicate (1 - (lg_sl ([rr G u0])).length) Slot.unset).toArray 1 [(0, rr G u0)] := by cases u0 <;> exact lv_entry _ (Nat.le_of_ble_eq_true rfl)
  rw [lg_entry_eq]
  generalize (lg_sl ([rr G u0]) ++ List.replicate (1 - (lg_sl ([rr G u0])).length) Slot.unset).toArray = ls at hl ⊢
  refine s_aload_n hx hb dX12_lines_0 rfl (lv_at hl 0 rfl) ?_
  obtain ⟨x1, hx1, hE⟩ := bd hE
  refine s_gR hx hb hT u_X12 hown hK hW hx1 rfl (by decide) fl_X12_13 rfl dX12_lines_1 ?_
  refine lv_iconst (v := (0 : Int32)) hx hb dX12_lines_4 (by decide) ?_
  obtain ⟨x2, hx2, hE⟩ := bd hE
  refine s_ldI hx hb hK hW hS hx2 dX12_lines_5 ?_
  obtain rfl := so1 hE
  exact s_iret hx hb hr hlocks hW hS dX12_lines_6
set_option maxHeartbeats 4000000 in
set_option maxRecDepth 100000 in
theorem S_X12_isIn (l : Launch) (G : GG) (F : Nat) {u0 : Int32} {u1 : Int32} {u2 : Int32} {f : Hp} {r : Int32} {n : Nat} (hE : m_X12_isIn F u0 u1 u2 f = some r) : Ctr l G yX12_isIn cX12_isIn 3 (some .boolean) 0 0 [.int u0, .int u1, .int u2] f n (some (.int r)) f n 0 0 := by
  refine Met.ofW (cc := cX12_isIn) (maxL := 3) (ret := (some .boolean)) (by decide) rfl ?_
  intro p e s m args below meth c s₁ B hml hv
  obtain ⟨rfl, hK, hW⟩ := hv
  have hx := B.exec
  have hb := B.bytes
  have hr := B.returns
  have hts := atoms_spec (ws := wsO yX12_isIn cX12_isIn 3 (some .boolean)) B.pre
  have hT : ∀ w ∈ TB, w.before [.int u0, .int u1, .int u2].toArray s = true := fun w hw => hts w (List.mem_cons_of_mem _ hw)
  have hown : s.vm.findClass RX12 = some m.cls := findClass_of_methodNamed B.named
  have hlocks := B.notSynchronized
  have CF : CallFix p m c cX12_isIn 3 s [.int u0, .int u1, .int u2].toArray TB RX12 := ⟨hx, hb, hml, hown, hT⟩
  have hS : va_S (WA G) s.heap s.heap [] := va_S.rf
  have hl : lv_has (lg_sl ([.int u0, .int u1, .int u2]) ++ List.replicate (3 - (lg_sl ([.int u0, .int u1, .int u2])).length) Slot.unset).toArray 3 [(0, .int u0), (1, .int u1), (2, .int u2)] := by exact lv_entry [.int u0, .int u1, .int u2] (Nat.le_of_ble_eq_true rfl)
  rw [lg_entry_eq]
  generalize (lg_sl ([.int u0, .int u1, .int u2]) ++ List.replicate (3 - (lg_sl ([.int u0, .int u1, .int u2])).length) Slot.unset).toArray = ls at hl ⊢
  refine lv_iload_n hx hb dX12_isIn_0 rfl (lv_at hl 0 rfl) ?_
  refine lv_iload_n hx hb dX12_isIn_1 rfl (lv_at hl 1 rfl) ?_
  refine lv_icmp_lt (tgt := 14) hx hb dX12_isIn_2 (by decide) (fun q1 => ?_) (fun q1 => ?_)
  · replace hE := ite_t q1 hE
    refine lv_iconst (v := (0 : Int32)) hx hb dX12_isIn_14 (by decide) ?_
    obtain ⟨c2, hE⟩ := ck hE
    obtain rfl := so1 hE
    exact s_zret hx hb hr c2 hlocks hW hS dX12_isIn_15
  · replace hE := ite_f q1 hE
    refine lv_iload_n hx hb dX12_isIn_5 rfl (lv_at hl 0 rfl) ?_
    refine lv_iload_n hx hb dX12_isIn_6 rfl (lv_at hl 2 rfl) ?_
    refine lv_icmp_gt (tgt := 14) hx hb dX12_isIn_7 (by decide) (fun q3 => ?_) (fun q3 => ?_)
    · replace hE := ite_t q3 hE
      refine lv_iconst (v := (0 : Int32)) hx hb dX12_isIn_14 (by decide) ?_
      obtain ⟨c4, hE⟩ := ck hE
      obtain rfl := so1 hE
      exact s_zret hx hb hr c4 hlocks hW hS dX12_isIn_15
    · replace hE := ite_f q3 hE
      refine lv_iconst (v := (1 : Int32)) hx hb dX12_isIn_10 (by decide) ?_
      refine lv_goto (tgt := 15) hx hb dX12_isIn_11 (by decide) ?_
      obtain ⟨c5, hE⟩ := ck hE
      obtain rfl := so1 hE
      exact s_zret hx hb hr c5 hlocks hW hS dX12_isIn_15
set_option maxHeartbeats 4000000 in
set_option maxRecDepth 100000 in
theorem S_X12_copies (l : Launch) (G : GG) (F : Nat) {u0 : Option Nat} {f : Hp} {r : Int32} {n : Nat} (hE : m_X12_copies F u0 f = some r) : Ctr l G yX12_copies cX12_copies 1 (some .int) 0 0 [rr G u0] f n (some (.int r)) f n 0 0 := by
  refine Met.ofW (cc := cX12_copies) (maxL := 1) (ret := (some .int)) (by decide) rfl ?_
  intro p e s m args below meth c s₁ B hml hv
  obtain ⟨rfl, hK, hW⟩ := hv
  have hx := B.exec
  have hb := B.bytes
  have hr := B.returns
  have hts := atoms_spec (ws := wsO yX12_copies cX12_copies 1 (some .int)) B.pre
  have hT : ∀ w ∈ TB, w.before [rr G u0].toArray s = true := fun w hw => hts w (List.mem_cons_of_mem _ hw)
  have hown : s.vm.findClass RX12 = some m.cls := findClass_of_methodNamed B.named
  have hlocks := B.notSynchronized
  have CF : CallFix p m c cX12_copies 1 s [rr G u0].toArray TB RX12 := ⟨hx, hb, hml, hown, hT⟩
  have hS : va_S (WA G) s.heap s.heap [] := va_S.rf
  have hl : lv_has (lg_sl ([rr G u0]) ++ List.replicate (1 - (lg_sl ([rr G u0])).length) Slot.unset).toArray 1 [(0, rr G u0)] := by cases u0 <;> exact lv_entry _ (Nat.le_of_ble_eq_true rfl)
  rw [lg_entry_eq]
  generalize (lg_sl ([rr G u0]) ++ List.replicate (1 - (lg_sl ([rr G u0])).length) Slot.unset).toArray = ls at hl ⊢
  refine s_aload_n hx hb dX12_copies_0 rfl (lv_at hl 0 rfl) ?_
  obtain ⟨x1, hx1, hE⟩ := bd hE
  refine s_gR hx hb hT u_X12 hown hK hW hx1 rfl (by decide) fl_X12_13 rfl dX12_copies_1 ?_
  refine lv_iconst (v := (1 : Int32)) hx hb dX12_copies_4 (by decide) ?_
  obtain ⟨x2, hx2, hE⟩ := bd hE
  refine s_ldI hx hb hK hW hS hx2 dX12_copies_5 ?_
  obtain rfl := so1 hE
  exact s_iret hx hb hr hlocks hW hS dX12_copies_6
set_option maxHeartbeats 4000000 in
set_option maxRecDepth 100000 in
theorem S_X12_has (l : Launch) (G : GG) (F : Nat) {u0 : Int32} {u1 : Int32} {f : Hp} {r : Int32} {n : Nat} (hE : m_X12_has F u0 u1 f = some r) : Ctr l G yX12_has cX12_has 2 (some .boolean) 0 0 [.int u0, .int u1] f n (some (.int r)) f n 0 0 := by
  refine Met.ofW (cc := cX12_has) (maxL := 2) (ret := (some .boolean)) (by decide) rfl ?_
  intro p e s m args below meth c s₁ B hml hv
  obtain ⟨rfl, hK, hW⟩ := hv
  have hx := B.exec
  have hb := B.bytes
  have hr := B.returns
  have hts := atoms_spec (ws := wsO yX12_has cX12_has 2 (some .boolean)) B.pre
  have hT : ∀ w ∈ TB, w.before [.int u0, .int u1].toArray s = true := fun w hw => hts w (List.mem_cons_of_mem _ hw)
  have hown : s.vm.findClass RX12 = some m.cls := findClass_of_methodNamed B.named
  have hlocks := B.notSynchronized
  have CF : CallFix p m c cX12_has 2 s [.int u0, .int u1].toArray TB RX12 := ⟨hx, hb, hml, hown, hT⟩
  have hS : va_S (WA G) s.heap s.heap [] := va_S.rf
  have hl : lv_has (lg_sl ([.int u0, .int u1]) ++ List.replicate (2 - (lg_sl ([.int u0, .int u1])).length) Slot.unset).toArray 2 [(0, .int u0), (1, .int u1)] := by exact lv_entry [.int u0, .int u1] (Nat.le_of_ble_eq_true rfl)
  rw [lg_entry_eq]
  generalize (lg_sl ([.int u0, .int u1]) ++ List.replicate (2 - (lg_sl ([.int u0, .int u1])).length) Slot.unset).toArray = ls at hl ⊢
  refine lv_iload_n hx hb dX12_has_0 rfl (lv_at hl 0 rfl) ?_
  refine lv_iload_n hx hb dX12_has_1 rfl (lv_at hl 1 rfl) ?_
  refine lv_ishr hx hb dX12_has_2 ?_
  refine lv_iconst (v := (1 : Int32)) hx hb dX12_has_3 (by decide) ?_
  refine lv_iand hx hb dX12_has_4 ?_
  refine lv_iconst (v := (1 : Int32)) hx hb dX12_has_5 (by decide) ?_
  refine lv_icmp_ne (tgt := 13) hx hb dX12_has_6 (by decide) (fun q1 => ?_) (fun q1 => ?_)
  · replace hE := ite_f q1 hE
    refine lv_iconst (v := (0 : Int32)) hx hb dX12_has_13 (by decide) ?_
    obtain ⟨c2, hE⟩ := ck hE
    obtain rfl := so1 hE
    exact s_zret hx hb hr c2 hlocks hW hS dX12_has_14
  · replace hE := ite_t q1 hE
    refine lv_iconst (v := (1 : Int32)) hx hb dX12_has_9 (by decide) ?_
    refine lv_goto (tgt := 14) hx hb dX12_has_10 (by decide) ?_
    obtain ⟨c3, hE⟩ := ck hE
    obtain rfl := so1 hE
    exact s_zret hx hb hr c3 hlocks hW hS dX12_has_14
set_option maxHeartbeats 4000000 in
set_option maxRecDepth 100000 in
theorem S_X12_add (l : Launch) (G : GG) (F : Nat) {u0 : Option Nat} {f : Hp} {r : Int32} {f' : Hp} {n : Nat} (hE : m_X12_add F u0 f = some (r, f')) : Ctr l G yX12_add cX12_add 5 (some .int) 2 41 [rr G u0] f n (some (.int r)) f' n 0 0 := by
  refine Met.ofW (cc := cX12_add) (maxL := 5) (ret := (some .int)) (by decide) rfl ?_
  intro p e s m args below meth c s₁ B hml hv
  obtain ⟨rfl, hK, hW⟩ := hv
  have hx := B.exec
  have hb := B.bytes
  have hr := B.returns
  have hts := atoms_spec (ws := wsO yX12_add cX12_add 5 (some .int)) B.pre
  have hT : ∀ w ∈ TB, w.before [rr G u0].toArray s = true := fun w hw => hts w (List.mem_cons_of_mem _ hw)
  have hown : s.vm.findClass RX12 = some m.cls := findClass_of_methodNamed B.named
  have hlocks := B.notSynchronized
  have CF : CallFix p m c cX12_add 5 s [rr G u0].toArray TB RX12 := ⟨hx, hb, hml, hown, hT⟩
  have hS : va_S (WA G) s.heap s.heap [] := va_S.rf
  have hl : lv_has (lg_sl ([rr G u0]) ++ List.replicate (5 - (lg_sl ([rr G u0])).length) Slot.unset).toArray 5 [(0, rr G u0)] := by cases u0 <;> exact lv_entry _ (Nat.le_of_ble_eq_true rfl)
  rw [lg_entry_eq]
  generalize (lg_sl ([rr G u0]) ++ List.replicate (5 - (lg_sl ([rr G u0])).length) Slot.unset).toArray = ls at hl ⊢
  have hC142 : ∀ (v0 : Option Nat) (fa : Hp) (H : Heap) (locs : List Loc) (ls : Array Slot), m_X12_add_B142 F v0 fa = some (r, f') → Wd G fa n H → va_S (WA G) s.heap H locs → lv_has ls 5 [(0, rr G v0)] → W p l e (headSpec (wsO yX12_add cX12_add 5 (some .int)) { frames := 2, cells := 0, slots := 0, locals := 41 }).room s m [rr G u0].toArray below meth c H locs 0 0 (MQ below (Qcn G (some (.int r)) f' n) [rr G u0].toArray s 0 0 (WA G)) (F0 m 142 ls []) := by
    intro v0 fa H locs ls hE hW hS hl
    refine s_aload_n hx hb dX12_add_142 rfl (lv_at hl 0 rfl) ?_
    obtain ⟨x26, hx26, hE⟩ := bd hE
    refine s_gR hx hb hT u_X12 hown hK hW hx26 rfl (by decide) fl_X12_22 rfl dX12_add_143 ?_
    refine s_aload_n hx hb dX12_add_146 rfl (lv_at hl 0 rfl) ?_
    obtain ⟨c27, hE⟩ := ck hE
    obtain ⟨x28, hx28, hE⟩ := bd hE
    refine s_callV (As := []) (rest := [rr G x26]) CF hK hW hS (S_X12_copies l G F hx28) c27 rfl gv_X12_179 hd_X12_copies ⟨Nat.le_of_ble_eq_true rfl, Nat.le_of_ble_eq_true rfl⟩ rfl hl.1 rfl (Nat.le_of_ble_eq_true rfl) dX12_add_147 ⟨Nat.le_refl _, Nat.le_refl _⟩ (fun H locs hW hS => ?_)
    refine lv_lconst (v := (0 : Int64)) hx hb dX12_add_150 (by decide) ?_
    obtain ⟨f29, hf29, hE⟩ := bd hE
    refine s_stJ hx hb hK hW hS hf29 dX12_add_151 (fun H locs hW hS => ?_)
    refine s_aload_n hx hb dX12_add_152 rfl (lv_at hl 0 rfl) ?_
    obtain ⟨x30, hx30, hE⟩ := bd hE
    refine s_gR hx hb hT u_X12 hown hK hW hx30 rfl (by decide) fl_X12_13 rfl dX12_add_153 ?_
    refine lv_iconst (v := (1 : Int32)) hx hb dX12_add_156 (by decide) ?_
    refine lv_dup2_11 hx hb dX12_add_157 rfl (cat_rr G _) ?_
    obtain ⟨x31, hx31, hE⟩ := bd hE
    refine s_ldI hx hb hK hW hS hx31 dX12_add_158 ?_
    refine lv_iconst (v := (1 : Int32)) hx hb dX12_add_159 (by decide) ?_
    refine lv_iadd hx hb dX12_add_160 ?_
    obtain ⟨f32, hf32, hE⟩ := bd hE
    refine s_stI hx hb hK hW hS hf32 dX12_add_161 (fun H locs hW hS => ?_)
    refine s_aload_n hx hb dX12_add_162 rfl (lv_at hl 0 rfl) ?_
    obtain ⟨c33, hE⟩ := ck hE
    obtain ⟨x34, hx34, hE⟩ := bd hE
    refine s_callV (As := []) (rest := []) CF hK hW hS (S_X12_copies l G F hx34) c33 rfl gv_X12_179 hd_X12_copies ⟨Nat.le_of_ble_eq_true rfl, Nat.le_of_ble_eq_true rfl⟩ rfl hl.1 rfl (Nat.le_of_ble_eq_true rfl) dX12_add_163 ⟨Nat.le_refl _, Nat.le_refl _⟩ (fun H locs hW hS => ?_)
    refine lv_iconst (v := (1 : Int32)) hx hb dX12_add_166 (by decide) ?_
    refine lv_isub hx hb dX12_add_167 ?_
    obtain ⟨rfl, rfl⟩ := so2 hE
    exact s_iret hx hb hr hlocks hW hS dX12_add_168
  have hC112 : ∀ (k112 : Nat), ∀ (v0 : Option Nat) (v1 : Int32) (v3 : Int32) (v4 : Int32) (fa : Hp) (H : Heap) (locs : List Loc) (ls : Array Slot), m_X12_add_L112 F k112 v0 v1 v3 v4 fa = some (r, f') → Wd G fa n H → va_S (WA G) s.heap H locs → lv_has ls 5 [(0, rr G v0), (1, .int v1), (3, .int v3), (4, .int v4)] → W p l e (headSpec (wsO yX12_add cX12_add 5 (some .int)) { frames := 2, cells := 0, slots := 0, locals := 41 }).room s m [rr G u0].toArray below meth c H locs 0 0 (MQ below (Qcn G (some (.int r)) f' n) [rr G u0].toArray s 0 0 (WA G)) (F0 m 112 ls []) := by
    intro k112
    induction k112 with
    | zero => intro v0 v1 v3 v4 fa H locs ls hE _ _ _; cases (show (none : Option ((Int32) × Hp)) = some (r, f') from hE)
    | succ k112 ih112 =>
      intro v0 v1 v3 v4 fa H locs ls hE hW hS hl
      replace hE : m_X12_add_b112 F (m_X12_add_L112 F k112) v0 v1 v3 v4 fa = some (r, f') := hE
      refine lv_iload hx hb dX12_add_112 (lv_at hl 3 rfl) ?_
      refine lv_iload_n hx hb dX12_add_114 rfl (lv_at hl 1 rfl) ?_
      refine lv_icmp_ge (tgt := 142) hx hb dX12_add_115 (by decide) (fun q20 => ?_) (fun q20 => ?_)
      · replace hE := ite_t q20 hE
        exact hC142 _ _ _ _ _ hE hW hS (lv_sub hl [0] rfl)
      · replace hE := ite_f q20 hE
        refine s_aload_n hx hb dX12_add_118 rfl (lv_at hl 0 rfl) ?_
        obtain ⟨x21, hx21, hE⟩ := bd hE
        refine s_gR hx hb hT u_X12 hown hK hW hx21 rfl (by decide) fl_X12_13 rfl dX12_add_119 ?_
        refine lv_iload_n hx hb dX12_add_122 rfl (lv_at hl 2 rfl) ?_
        refine lv_iconst (v := (1 : Int32)) hx hb dX12_add_123 (by decide) ?_
        refine lv_iadd hx hb dX12_add_124 ?_
        refine lv_iload hx hb dX12_add_125 (lv_at hl 3 rfl) ?_
        refine lv_iadd hx hb dX12_add_127 ?_
        refine s_aload_n hx hb dX12_add_128 rfl (lv_at hl 0 rfl) ?_
        obtain ⟨x22, hx22, hE⟩ := bd hE
        refine s_gR hx hb hT u_X12 hown hK hW hx22 rfl (by decide) fl_X12_7 rfl dX12_add_129 ?_
        refine lv_iload hx hb dX12_add_132 (lv_at hl 3 rfl) ?_
        obtain ⟨x23, hx23, hE⟩ := bd hE
        refine s_ldI hx hb hK hW hS hx23 dX12_add_134 ?_
        obtain ⟨f24, hf24, hE⟩ := bd hE
        refine s_stI hx hb hK hW hS hf24 dX12_add_135 (fun H locs hW hS => ?_)
        obtain ⟨y25, ey25⟩ : ∃ y : Int32, y = v4 + (1 : Int32) := ⟨_, rfl⟩
        replace hE := nm_o ey25 hE
        refine lv_iinc (k := 3) (v := y25) (lv' := [(4, .int y25), (0, rr G v0), (1, .int v1), (3, .int v3)]) hx hb dX12_add_136 hl rfl (by rw [ey25]; rfl) (by decide) rfl (fun ls hl => ?_)
        refine lv_goto (tgt := 112) hx hb dX12_add_139 (by decide) ?_
        exact ih112 _ _ _ _ _ _ _ _ hE hW hS (lv_sub hl [1, 2, 3, 0] rfl)
  have hC91 : ∀ (v0 : Option Nat) (v1 : Int32) (fa : Hp) (H : Heap) (locs : List Loc) (ls : Array Slot), m_X12_add_B91 F v0 v1 fa = some (r, f') → Wd G fa n H → va_S (WA G) s.heap H locs → lv_has ls 5 [(0, rr G v0), (1, .int v1)] → W p l e (headSpec (wsO yX12_add cX12_add 5 (some .int)) { frames := 2, cells := 0, slots := 0, locals := 41 }).room s m [rr G u0].toArray below meth c H locs 0 0 (MQ below (Qcn G (some (.int r)) f' n) [rr G u0].toArray s 0 0 (WA G)) (F0 m 91 ls []) := by
    intro v0 v1 fa H locs ls hE hW hS hl
    refine lv_bipush (v := (10 : Int32)) hx hb dX12_add_91 (by decide) ?_
    refine lv_bipush (v := (8 : Int32)) hx hb dX12_add_93 (by decide) ?_
    refine s_aload_n hx hb dX12_add_95 rfl (lv_at hl 0 rfl) ?_
    obtain ⟨c15, hE⟩ := ck hE
    obtain ⟨x16, hx16, hE⟩ := bd hE
    refine s_callV (As := []) (rest := [.int (8 : Int32), .int (10 : Int32)]) CF hK hW hS (S_X12_copies l G F hx16) c15 rfl gv_X12_179 hd_X12_copies ⟨Nat.le_of_ble_eq_true rfl, Nat.le_of_ble_eq_true rfl⟩ rfl hl.1 rfl (Nat.le_of_ble_eq_true rfl) dX12_add_96 ⟨Nat.le_refl _, Nat.le_refl _⟩ (fun H locs hW hS => ?_)
    refine lv_imul hx hb dX12_add_99 ?_
    refine lv_iadd hx hb dX12_add_100 ?_
    refine lv_topi (fun y17 ey17 => ?_)
    replace hE := nm_o ey17 hE
    refine lv_istore_n (i := 3) (lv' := [(3, .int y17), (0, rr G v0), (1, .int v1)]) hx hb dX12_add_101 rfl hl (by decide) rfl (fun ls hl => ?_)
    refine s_aload_n hx hb dX12_add_102 rfl (lv_at hl 1 rfl) ?_
    obtain ⟨x18, hx18, hE⟩ := bd hE
    refine s_gR hx hb hT u_X12 hown hK hW hx18 rfl (by decide) fl_X12_13 rfl dX12_add_103 ?_
    refine lv_iload_n hx hb dX12_add_106 rfl (lv_at hl 0 rfl) ?_
    refine lv_iload_n hx hb dX12_add_107 rfl (lv_at hl 2 rfl) ?_
    obtain ⟨f19, hf19, hE⟩ := bd hE
    refine s_stI hx hb hK hW hS hf19 dX12_add_108 (fun H locs hW hS => ?_)
    refine lv_iconst (v := (0 : Int32)) hx hb dX12_add_109 (by decide) ?_
    refine lv_istore (lv' := [(4, .int (0 : Int32)), (3, .int y17), (0, rr G v0), (1, .int v1)]) hx hb dX12_add_110 hl (by decide) rfl (fun ls hl => ?_)
    exact hC112 F _ _ _ _ _ _ _ _ hE hW hS (lv_sub hl [2, 3, 1, 0] rfl)
  have hC41 : ∀ (k41 : Nat), ∀ (v0 : Option Nat) (v1 : Int32) (v2 : Int32) (v3 : Int32) (fa : Hp) (H : Heap) (locs : List Loc) (ls : Array Slot), m_X12_add_L41 F k41 v0 v1 v2 v3 fa = some (r, f') → Wd G fa n H → va_S (WA G) s.heap H locs → lv_has ls 5 [(0, rr G v0), (1, .int v1), (2, .int v2), (3, .int v3)] → W p l e (headSpec (wsO yX12_add cX12_add 5 (some .int)) { frames := 2, cells := 0, slots := 0, locals := 41 }).room s m [rr G u0].toArray below meth c H locs 0 0 (MQ below (Qcn G (some (.int r)) f' n) [rr G u0].toArray s 0 0 (WA G)) (F0 m 41 ls []) := by
    intro k41
    induction k41 with
    | zero => intro v0 v1 v2 v3 fa H locs ls hE _ _ _; cases (show (none : Option ((Int32) × Hp)) = some (r, f') from hE)
    | succ k41 ih41 =>
      intro v0 v1 v2 v3 fa H locs ls hE hW hS hl
      replace hE : m_X12_add_b41 F (m_X12_add_L41 F k41) v0 v1 v2 v3 fa = some (r, f') := hE
      refine lv_iload_n hx hb dX12_add_41 rfl (lv_at hl 3 rfl) ?_
      refine lv_iload_n hx hb dX12_add_42 rfl (lv_at hl 1 rfl) ?_
      refine lv_icmp_ge (tgt := 91) hx hb dX12_add_43 (by decide) (fun q1 => ?_) (fun q1 => ?_)
      · replace hE := ite_t q1 hE
        exact hC91 _ _ _ _ _ _ hE hW hS (lv_sub hl [0, 1] rfl)
      · replace hE := ite_f q1 hE
        refine s_aload_n hx hb dX12_add_46 rfl (lv_at hl 0 rfl) ?_
        obtain ⟨x2, hx2, hE⟩ := bd hE
        refine s_gR hx hb hT u_X12 hown hK hW hx2 rfl (by decide) fl_X12_7 rfl dX12_add_47 ?_
        refine lv_iload_n hx hb dX12_add_50 rfl (lv_at hl 3 rfl) ?_
        obtain ⟨x3, hx3, hE⟩ := bd hE
        refine s_ldI hx hb hK hW hS hx3 dX12_add_51 ?_
        refine s_aload_n hx hb dX12_add_52 rfl (lv_at hl 0 rfl) ?_
        obtain ⟨c4, hE⟩ := ck hE
        obtain ⟨x5, hx5, hE⟩ := bd hE
        refine s_callV (As := []) (rest := [.int x3]) CF hK hW hS (S_X12_lines l G F hx5) c4 rfl gv_X12_185 hd_X12_lines ⟨Nat.le_of_ble_eq_true rfl, Nat.le_of_ble_eq_true rfl⟩ rfl hl.1 rfl (Nat.le_of_ble_eq_true rfl) dX12_add_53 ⟨Nat.le_refl _, Nat.le_refl _⟩ (fun H locs hW hS => ?_)
        refine lv_icmp_ge (tgt := 72) hx hb dX12_add_56 (by decide) (fun q6 => ?_) (fun q6 => ?_)
        · replace hE := ite_t q6 hE
          refine lv_iconst (v := (-1 : Int32)) hx hb dX12_add_72 (by decide) ?_
          obtain ⟨rfl, rfl⟩ := so2 hE
          exact s_iret hx hb hr hlocks hW hS dX12_add_73
        · replace hE := ite_f q6 hE
          refine lv_iload_n hx hb dX12_add_59 rfl (lv_at hl 2 rfl) ?_
          refine s_aload_n hx hb dX12_add_60 rfl (lv_at hl 0 rfl) ?_
          obtain ⟨x7, hx7, hE⟩ := bd hE
          refine s_gR hx hb hT u_X12 hown hK hW hx7 rfl (by decide) fl_X12_7 rfl dX12_add_61 ?_
          refine lv_iload_n hx hb dX12_add_64 rfl (lv_at hl 3 rfl) ?_
          obtain ⟨x8, hx8, hE⟩ := bd hE
          refine s_ldI hx hb hK hW hS hx8 dX12_add_65 ?_
          obtain ⟨x9, hx9, hE⟩ := bd hE
          refine s_callS (As := [.int v2, .int x8]) (rest := []) CF hK hW hS (S_X12_has l G F hx9) gs_X12_198 hd_X12_has.2 ⟨Nat.le_of_ble_eq_true rfl, Nat.le_of_ble_eq_true rfl⟩ rfl hl.1 rfl (Nat.le_of_ble_eq_true rfl) dX12_add_66 ⟨Nat.le_refl _, Nat.le_refl _⟩ (fun H locs hW hS => ?_)
          refine lv_if_eq (tgt := 74) hx hb dX12_add_69 (by decide) (fun q10 => ?_) (fun q10 => ?_)
          · replace hE := ite_t q10 hE
            refine lv_iload_n hx hb dX12_add_74 rfl (lv_at hl 2 rfl) ?_
            refine lv_iconst (v := (1 : Int32)) hx hb dX12_add_75 (by decide) ?_
            refine s_aload_n hx hb dX12_add_76 rfl (lv_at hl 0 rfl) ?_
            obtain ⟨x11, hx11, hE⟩ := bd hE
            refine s_gR hx hb hT u_X12 hown hK hW hx11 rfl (by decide) fl_X12_7 rfl dX12_add_77 ?_
            refine lv_iload_n hx hb dX12_add_80 rfl (lv_at hl 3 rfl) ?_
            obtain ⟨x12, hx12, hE⟩ := bd hE
            refine s_ldI hx hb hK hW hS hx12 dX12_add_81 ?_
            refine lv_ishl hx hb dX12_add_82 ?_
            refine lv_ior hx hb dX12_add_83 ?_
            refine lv_topi (fun y13 ey13 => ?_)
            replace hE := nm_o ey13 hE
            refine lv_istore_n (i := 2) (lv' := [(2, .int y13), (0, rr G v0), (1, .int v1), (3, .int v3)]) hx hb dX12_add_84 rfl hl (by decide) rfl (fun ls hl => ?_)
            obtain ⟨y14, ey14⟩ : ∃ y : Int32, y = v3 + (1 : Int32) := ⟨_, rfl⟩
            replace hE := nm_o ey14 hE
            refine lv_iinc (k := 3) (v := y14) (lv' := [(3, .int y14), (2, .int y13), (0, rr G v0), (1, .int v1)]) hx hb dX12_add_85 hl rfl (by rw [ey14]; rfl) (by decide) rfl (fun ls hl => ?_)
            refine lv_goto (tgt := 41) hx hb dX12_add_88 (by decide) ?_
            exact ih41 _ _ _ _ _ _ _ _ hE hW hS (lv_sub hl [2, 3, 1, 0] rfl)
          · replace hE := ite_f q10 hE
            refine lv_iconst (v := (-1 : Int32)) hx hb dX12_add_72 (by decide) ?_
            obtain ⟨rfl, rfl⟩ := so2 hE
            exact s_iret hx hb hr hlocks hW hS dX12_add_73
  refine s_aload_n hx hb dX12_add_0 rfl (lv_at hl 0 rfl) ?_
  refine lv_iconst (v := (0 : Int32)) hx hb dX12_add_1 (by decide) ?_
  obtain ⟨f35, hf35, hE⟩ := bd hE
  refine s_putI hx hb hT u_X12 tyX12 tyX12_ok nmX12 hown hK hW hS hf35 rfl (by decide) fl_X12_81 rfl (Or.inl rfl) rfl dX12_add_2 (fun H locs hW hS => ?_)
  refine s_aload_n hx hb dX12_add_5 rfl (lv_at hl 0 rfl) ?_
  obtain ⟨c36, hE⟩ := ck hE
  obtain ⟨f37, hf37, hE⟩ := bd hE
  refine s_callV (As := []) (rest := []) CF hK hW hS (S_X12_lay l G F hf37) c36 rfl gv_X12_164 hd_X12_lay ⟨Nat.le_of_ble_eq_true rfl, Nat.le_of_ble_eq_true rfl⟩ rfl hl.1 rfl (Nat.le_of_ble_eq_true rfl) dX12_add_6 ⟨Nat.le_refl _, Nat.le_refl _⟩ (fun H locs hW hS => ?_)
  refine s_aload_n hx hb dX12_add_9 rfl (lv_at hl 0 rfl) ?_
  obtain ⟨c38, hE⟩ := ck hE
  obtain ⟨x39, f40, hx39, hE⟩ := bd2_of hE
  refine s_callV (As := []) (rest := []) CF hK hW hS (S_X12_take l G F hx39) c38 rfl gv_X12_167 hd_X12_take ⟨Nat.le_of_ble_eq_true rfl, Nat.le_of_ble_eq_true rfl⟩ rfl hl.1 rfl (Nat.le_of_ble_eq_true rfl) dX12_add_10 ⟨Nat.le_refl _, Nat.le_refl _⟩ (fun H locs hW hS => ?_)
  refine lv_istore_n (i := 1) (lv' := [(1, .int x39), (0, rr G u0)]) hx hb dX12_add_13 rfl hl (by decide) (by simp [cat_rr]) (fun ls hl => ?_)
  refine lv_iload_n hx hb dX12_add_14 rfl (lv_at hl 0 rfl) ?_
  refine lv_iconst (v := (1 : Int32)) hx hb dX12_add_15 (by decide) ?_
  refine s_aload_n hx hb dX12_add_16 rfl (lv_at hl 1 rfl) ?_
  obtain ⟨c41, hE⟩ := ck hE
  obtain ⟨x42, hx42, hE⟩ := bd hE
  refine s_callV (As := []) (rest := [.int (1 : Int32), .int x39]) CF hK hW hS (S_X12_lines l G F hx42) c41 rfl gv_X12_185 hd_X12_lines ⟨Nat.le_of_ble_eq_true rfl, Nat.le_of_ble_eq_true rfl⟩ rfl hl.1 rfl (Nat.le_of_ble_eq_true rfl) dX12_add_17 ⟨Nat.le_refl _, Nat.le_refl _⟩ (fun H locs hW hS => ?_)
  obtain ⟨x43, hx43, hE⟩ := bd hE
  refine s_callS (As := [.int x39, .int (1 : Int32), .int x42]) (rest := []) CF hK hW hS (S_X12_isIn l G F hx43) gs_X12_151 hd_X12_isIn.2 ⟨Nat.le_of_ble_eq_true rfl, Nat.le_of_ble_eq_true rfl⟩ rfl hl.1 rfl (Nat.le_of_ble_eq_true rfl) dX12_add_20 ⟨Nat.le_refl _, Nat.le_refl _⟩ (fun H locs hW hS => ?_)
  refine lv_if_eq (tgt := 35) hx hb dX12_add_23 (by decide) (fun q44 => ?_) (fun q44 => ?_)
  · replace hE := ite_t q44 hE
    refine lv_iconst (v := (-1 : Int32)) hx hb dX12_add_35 (by decide) ?_
    obtain ⟨rfl, rfl⟩ := so2 hE
    exact s_iret hx hb hr hlocks hW hS dX12_add_36
  · replace hE := ite_f q44 hE
    refine s_aload_n hx hb dX12_add_26 rfl (lv_at hl 1 rfl) ?_
    obtain ⟨c45, hE⟩ := ck hE
    obtain ⟨x46, hx46, hE⟩ := bd hE
    refine s_callV (As := []) (rest := []) CF hK hW hS (S_X12_copies l G F hx46) c45 rfl gv_X12_179 hd_X12_copies ⟨Nat.le_of_ble_eq_true rfl, Nat.le_of_ble_eq_true rfl⟩ rfl hl.1 rfl (Nat.le_of_ble_eq_true rfl) dX12_add_27 ⟨Nat.le_refl _, Nat.le_refl _⟩ (fun H locs hW hS => ?_)
    refine lv_bipush (v := (10 : Int32)) hx hb dX12_add_30 (by decide) ?_
    refine lv_icmp_ne (tgt := 37) hx hb dX12_add_32 (by decide) (fun q47 => ?_) (fun q47 => ?_)
    · replace hE := ite_f q47 hE
      refine lv_iconst (v := (0 : Int32)) hx hb dX12_add_37 (by decide) ?_
      refine lv_istore_n (i := 2) (lv' := [(2, .int (0 : Int32)), (1, .int x39), (0, rr G u0)]) hx hb dX12_add_38 rfl hl (by decide) rfl (fun ls hl => ?_)
      refine lv_iconst (v := (0 : Int32)) hx hb dX12_add_39 (by decide) ?_
      refine lv_istore_n (i := 3) (lv' := [(3, .int (0 : Int32)), (2, .int (0 : Int32)), (1, .int x39), (0, rr G u0)]) hx hb dX12_add_40 rfl hl (by decide) rfl (fun ls hl => ?_)
      exact hC41 F _ _ _ _ _ _ _ _ hE hW hS (lv_sub hl [3, 2, 1, 0] rfl)
    · replace hE := ite_t q47 hE
      refine lv_iconst (v := (-1 : Int32)) hx hb dX12_add_35 (by decide) ?_
      obtain ⟨rfl, rfl⟩ := so2 hE
      exact s_iret hx hb hr hlocks hW hS dX12_add_36
set_option maxHeartbeats 4000000 in
set_option maxRecDepth 100000 in
theorem S_X12_orders (l : Launch) (G : GG) (F : Nat) {u0 : Option Nat} {f : Hp} {r : Int32} {n : Nat} (hE : m_X12_orders F u0 f = some r) : Ctr l G yX12_orders cX12_orders 3 (some .int) 1 20 [rr G u0] f n (some (.int r)) f n 0 0 := by
  refine Met.ofW (cc := cX12_orders) (maxL := 3) (ret := (some .int)) (by decide) rfl ?_
  intro p e s m args below meth c s₁ B hml hv
  obtain ⟨rfl, hK, hW⟩ := hv
  have hx := B.exec
  have hb := B.bytes
  have hr := B.returns
  have hts := atoms_spec (ws := wsO yX12_orders cX12_orders 3 (some .int)) B.pre
  have hT : ∀ w ∈ TB, w.before [rr G u0].toArray s = true := fun w hw => hts w (List.mem_cons_of_mem _ hw)
  have hown : s.vm.findClass RX12 = some m.cls := findClass_of_methodNamed B.named
  have hlocks := B.notSynchronized
  have CF : CallFix p m c cX12_orders 3 s [rr G u0].toArray TB RX12 := ⟨hx, hb, hml, hown, hT⟩
  have hS : va_S (WA G) s.heap s.heap [] := va_S.rf
  have hl : lv_has (lg_sl ([rr G u0]) ++ List.replicate (3 - (lg_sl ([rr G u0])).length) Slot.unset).toArray 3 [(0, rr G u0)] := by cases u0 <;> exact lv_entry _ (Nat.le_of_ble_eq_true rfl)
  rw [lg_entry_eq]
  generalize (lg_sl ([rr G u0]) ++ List.replicate (3 - (lg_sl ([rr G u0])).length) Slot.unset).toArray = ls at hl ⊢
  have hC4 : ∀ (k4 : Nat), ∀ (v0 : Option Nat) (v1 : Int32) (v2 : Int32) (H : Heap) (locs : List Loc) (ls : Array Slot), m_X12_orders_L4 F k4 v0 v1 v2 f = some r → Wd G f n H → va_S (WA G) s.heap H locs → lv_has ls 3 [(0, rr G v0), (1, .int v1), (2, .int v2)] → W p l e (headSpec (wsO yX12_orders cX12_orders 3 (some .int)) { frames := 1, cells := 0, slots := 0, locals := 20 }).room s m [rr G u0].toArray below meth c H locs 0 0 (MQ below (Qcn G (some (.int r)) f n) [rr G u0].toArray s 0 0 (WA G)) (F0 m 4 ls []) := by
    intro k4
    induction k4 with
    | zero => intro v0 v1 v2 H locs ls hE _ _ _; cases (show (none : Option Int32) = some r from hE)
    | succ k4 ih4 =>
      intro v0 v1 v2 H locs ls hE hW hS hl
      replace hE : m_X12_orders_b4 F (m_X12_orders_L4 F k4) v0 v1 v2 f = some r := hE
      refine lv_iload_n hx hb dX12_orders_4 rfl (lv_at hl 2 rfl) ?_
      refine s_aload_n hx hb dX12_orders_5 rfl (lv_at hl 0 rfl) ?_
      obtain ⟨c1, hE⟩ := ck hE
      obtain ⟨x2, hx2, hE⟩ := bd hE
      refine s_callV (As := []) (rest := [.int v2]) CF hK hW hS (S_X12_lines l G F hx2) c1 rfl gv_X12_185 hd_X12_lines ⟨Nat.le_of_ble_eq_true rfl, Nat.le_of_ble_eq_true rfl⟩ rfl hl.1 rfl (Nat.le_of_ble_eq_true rfl) dX12_orders_6 ⟨Nat.le_refl _, Nat.le_refl _⟩ (fun H locs hW hS => ?_)
      refine lv_icmp_gt (tgt := 22) hx hb dX12_orders_9 (by decide) (fun q3 => ?_) (fun q3 => ?_)
      · replace hE := ite_t q3 hE
        refine lv_iload_n hx hb dX12_orders_22 rfl (lv_at hl 1 rfl) ?_
        obtain rfl := so1 hE
        exact s_iret hx hb hr hlocks hW hS dX12_orders_23
      · replace hE := ite_f q3 hE
        refine lv_iload_n hx hb dX12_orders_12 rfl (lv_at hl 1 rfl) ?_
        refine lv_iload_n hx hb dX12_orders_13 rfl (lv_at hl 2 rfl) ?_
        refine lv_imul hx hb dX12_orders_14 ?_
        refine lv_topi (fun y4 ey4 => ?_)
        replace hE := nm_o ey4 hE
        refine lv_istore_n (i := 1) (lv' := [(1, .int y4), (0, rr G v0), (2, .int v2)]) hx hb dX12_orders_15 rfl hl (by decide) (by simp [cat_rr]) (fun ls hl => ?_)
        obtain ⟨y5, ey5⟩ : ∃ y : Int32, y = v2 + (1 : Int32) := ⟨_, rfl⟩
        replace hE := nm_o ey5 hE
        refine lv_iinc (k := 2) (v := y5) (lv' := [(2, .int y5), (1, .int y4), (0, rr G v0)]) hx hb dX12_orders_16 hl rfl (by rw [ey5]; rfl) (by decide) rfl (fun ls hl => ?_)
        refine lv_goto (tgt := 4) hx hb dX12_orders_19 (by decide) ?_
        exact ih4 _ _ _ _ _ _ hE hW hS (lv_sub hl [2, 1, 0] rfl)
  refine lv_iconst (v := (1 : Int32)) hx hb dX12_orders_0 (by decide) ?_
  refine lv_istore_n (i := 1) (lv' := [(1, .int (1 : Int32)), (0, rr G u0)]) hx hb dX12_orders_1 rfl hl (by decide) (by simp [cat_rr]) (fun ls hl => ?_)
  refine lv_iconst (v := (2 : Int32)) hx hb dX12_orders_2 (by decide) ?_
  refine lv_istore_n (i := 2) (lv' := [(2, .int (2 : Int32)), (1, .int (1 : Int32)), (0, rr G u0)]) hx hb dX12_orders_3 rfl hl (by decide) rfl (fun ls hl => ?_)
  exact hC4 F _ _ _ _ _ _ hE hW hS (lv_sub hl [2, 1, 0] rfl)
set_option maxHeartbeats 4000000 in
set_option maxRecDepth 100000 in
theorem S_X12_lay_ (l : Launch) (G : GG) (F : Nat) {u0 : Option Nat} {u1 : Int32} {f : Hp} {f' : Hp} {n : Nat} (hE : m_X12_lay_ F u0 u1 f = some f') : Ctr l G yX12_lay_ cX12_lay_ 8 none 2 42 [rr G u0, .int u1] f n none f' n 0 0 := by
  refine Met.ofW (cc := cX12_lay_) (maxL := 8) (ret := none) (by decide) rfl ?_
  intro p e s m args below meth c s₁ B hml hv
  obtain ⟨rfl, hK, hW⟩ := hv
  have hx := B.exec
  have hb := B.bytes
  have hr := B.returns
  have hts := atoms_spec (ws := wsO yX12_lay_ cX12_lay_ 8 none) B.pre
  have hT : ∀ w ∈ TB, w.before [rr G u0, .int u1].toArray s = true := fun w hw => hts w (List.mem_cons_of_mem _ hw)
  have hown : s.vm.findClass RX12 = some m.cls := findClass_of_methodNamed B.named
  have hlocks := B.notSynchronized
  have CF : CallFix p m c cX12_lay_ 8 s [rr G u0, .int u1].toArray TB RX12 := ⟨hx, hb, hml, hown, hT⟩
  have hS : va_S (WA G) s.heap s.heap [] := va_S.rf
  have hl : lv_has (lg_sl ([rr G u0, .int u1]) ++ List.replicate (8 - (lg_sl ([rr G u0, .int u1])).length) Slot.unset).toArray 8 [(0, rr G u0), (1, .int u1)] := by cases u0 <;> exact lv_entry _ (Nat.le_of_ble_eq_true rfl)
  rw [lg_entry_eq]
  generalize (lg_sl ([rr G u0, .int u1]) ++ List.replicate (8 - (lg_sl ([rr G u0, .int u1])).length) Slot.unset).toArray = ls at hl ⊢
  have hC20 : ∀ (k20 : Nat), ∀ (v0 : Option Nat) (v2 : Int32) (v3 : Int32) (v4 : Int32) (v5 : Int32) (fa : Hp) (H : Heap) (locs : List Loc) (ls : Array Slot), m_X12_lay__L20 F k20 v0 v2 v3 v4 v5 fa = some f' → Wd G fa n H → va_S (WA G) s.heap H locs → lv_has ls 8 [(0, rr G v0), (2, .int v2), (3, .int v3), (4, .int v4), (5, .int v5)] → W p l e (headSpec (wsO yX12_lay_ cX12_lay_ 8 none) { frames := 2, cells := 0, slots := 0, locals := 42 }).room s m [rr G u0, .int u1].toArray below meth c H locs 0 0 (MQ below (Qcn G none f' n) [rr G u0, .int u1].toArray s 0 0 (WA G)) (F0 m 20 ls []) := by
    intro k20
    induction k20 with
    | zero => intro v0 v2 v3 v4 v5 fa H locs ls hE _ _ _; cases (show (none : Option Hp) = some f' from hE)
    | succ k20 ih20 =>
      have hC87 : ∀ (v0 : Option Nat) (v2 : Int32) (v3 : Int32) (v4 : Int32) (v5 : Int32) (v7 : Int32) (fa : Hp) (H : Heap) (locs : List Loc) (ls : Array Slot), m_X12_lay__B87 F (m_X12_lay__L20 F k20) v0 v2 v3 v4 v5 v7 fa = some f' → Wd G fa n H → va_S (WA G) s.heap H locs → lv_has ls 8 [(0, rr G v0), (2, .int v2), (3, .int v3), (4, .int v4), (5, .int v5), (7, .int v7)] → W p l e (headSpec (wsO yX12_lay_ cX12_lay_ 8 none) { frames := 2, cells := 0, slots := 0, locals := 42 }).room s m [rr G u0, .int u1].toArray below meth c H locs 0 0 (MQ below (Qcn G none f' n) [rr G u0, .int u1].toArray s 0 0 (WA G)) (F0 m 87 ls []) := by
        intro v0 v2 v3 v4 v5 v7 fa H locs ls hE hW hS hl
        refine lv_iload_n hx hb dX12_lay__87 rfl (lv_at hl 1 rfl) ?_
        refine lv_iconst (v := (1 : Int32)) hx hb dX12_lay__88 (by decide) ?_
        refine lv_iload hx hb dX12_lay__89 (lv_at hl 5 rfl) ?_
        refine lv_ishl hx hb dX12_lay__91 ?_
        refine lv_iconst (v := (-1 : Int32)) hx hb dX12_lay__92 (by decide) ?_
        refine lv_ixor hx hb dX12_lay__93 ?_
        refine lv_iand hx hb dX12_lay__94 ?_
        refine lv_topi (fun y20 ey20 => ?_)
        replace hE := nm_o ey20 hE
        refine lv_istore_n (i := 2) (lv' := [(2, .int y20), (0, rr G v0), (3, .int v3), (4, .int v4), (5, .int v5), (7, .int v7)]) hx hb dX12_lay__95 rfl hl (by decide) rfl (fun ls hl => ?_)
        refine s_aload_n hx hb dX12_lay__96 rfl (lv_at hl 1 rfl) ?_
        obtain ⟨x21, hx21, hE⟩ := bd hE
        refine s_gR hx hb hT u_X12 hown hK hW hx21 rfl (by decide) fl_X12_36 rfl dX12_lay__97 ?_
        refine lv_iload hx hb dX12_lay__100 (lv_at hl 4 rfl) ?_
        refine lv_iload hx hb dX12_lay__102 (lv_at hl 5 rfl) ?_
        obtain ⟨f22, hf22, hE⟩ := bd hE
        refine s_stI hx hb hK hW hS hf22 dX12_lay__104 (fun H locs hW hS => ?_)
        refine s_aload_n hx hb dX12_lay__105 rfl (lv_at hl 1 rfl) ?_
        obtain ⟨x23, hx23, hE⟩ := bd hE
        refine s_gR hx hb hT u_X12 hown hK hW hx23 rfl (by decide) fl_X12_39 rfl dX12_lay__106 ?_
        refine lv_iload hx hb dX12_lay__109 (lv_at hl 5 rfl) ?_
        refine lv_iload hx hb dX12_lay__111 (lv_at hl 4 rfl) ?_
        obtain ⟨f24, hf24, hE⟩ := bd hE
        refine s_stI hx hb hK hW hS hf24 dX12_lay__113 (fun H locs hW hS => ?_)
        obtain ⟨y25, ey25⟩ : ∃ y : Int32, y = v5 + (1 : Int32) := ⟨_, rfl⟩
        replace hE := nm_o ey25 hE
        refine lv_iinc (k := 4) (v := y25) (lv' := [(5, .int y25), (2, .int y20), (0, rr G v0), (3, .int v3), (4, .int v4), (7, .int v7)]) hx hb dX12_lay__114 hl rfl (by rw [ey25]; rfl) (by decide) rfl (fun ls hl => ?_)
        refine lv_goto (tgt := 20) hx hb dX12_lay__117 (by decide) ?_
        exact ih20 _ _ _ _ _ _ _ _ _ hE hW hS (lv_sub hl [2, 1, 3, 4, 0] rfl)
      have hC55 : ∀ (k55 : Nat), ∀ (v0 : Option Nat) (v2 : Int32) (v3 : Int32) (v4 : Int32) (v5 : Int32) (v6 : Int32) (v7 : Int32) (fa : Hp) (H : Heap) (locs : List Loc) (ls : Array Slot), m_X12_lay__L55 F (m_X12_lay__L20 F k20) k55 v0 v2 v3 v4 v5 v6 v7 fa = some f' → Wd G fa n H → va_S (WA G) s.heap H locs → lv_has ls 8 [(0, rr G v0), (2, .int v2), (3, .int v3), (4, .int v4), (5, .int v5), (6, .int v6), (7, .int v7)] → W p l e (headSpec (wsO yX12_lay_ cX12_lay_ 8 none) { frames := 2, cells := 0, slots := 0, locals := 42 }).room s m [rr G u0, .int u1].toArray below meth c H locs 0 0 (MQ below (Qcn G none f' n) [rr G u0, .int u1].toArray s 0 0 (WA G)) (F0 m 55 ls []) := by
        intro k55
        induction k55 with
        | zero => intro v0 v2 v3 v4 v5 v6 v7 fa H locs ls hE _ _ _; cases (show (none : Option Hp) = some f' from hE)
        | succ k55 ih55 =>
          have hC69 : ∀ (v0 : Option Nat) (v2 : Int32) (v3 : Int32) (v4 : Int32) (v5 : Int32) (v6 : Int32) (v7 : Int32) (fa : Hp) (H : Heap) (locs : List Loc) (ls : Array Slot), m_X12_lay__B69 F (m_X12_lay__L20 F k20) (m_X12_lay__L55 F (m_X12_lay__L20 F k20) k55) v0 v2 v3 v4 v5 v6 v7 fa = some f' → Wd G fa n H → va_S (WA G) s.heap H locs → lv_has ls 8 [(0, rr G v0), (2, .int v2), (3, .int v3), (4, .int v4), (5, .int v5), (6, .int v6), (7, .int v7)] → W p l e (headSpec (wsO yX12_lay_ cX12_lay_ 8 none) { frames := 2, cells := 0, slots := 0, locals := 42 }).room s m [rr G u0, .int u1].toArray below meth c H locs 0 0 (MQ below (Qcn G none f' n) [rr G u0, .int u1].toArray s 0 0 (WA G)) (F0 m 69 ls []) := by
            intro v0 v2 v3 v4 v5 v6 v7 fa H locs ls hE hW hS hl
            refine lv_iload_n hx hb dX12_lay__69 rfl (lv_at hl 1 rfl) ?_
            refine lv_iload hx hb dX12_lay__70 (lv_at hl 6 rfl) ?_
            obtain ⟨x15, hx15, hE⟩ := bd hE
            refine s_callS (As := [.int v2, .int v7]) (rest := []) CF hK hW hS (S_X12_has l G F hx15) gs_X12_198 hd_X12_has.2 ⟨Nat.le_of_ble_eq_true rfl, Nat.le_of_ble_eq_true rfl⟩ rfl hl.1 rfl (Nat.le_of_ble_eq_true rfl) dX12_lay__72 ⟨Nat.le_refl _, Nat.le_refl _⟩ (fun H locs hW hS => ?_)
            refine lv_if_eq (tgt := 81) hx hb dX12_lay__75 (by decide) (fun q16 => ?_) (fun q16 => ?_)
            · replace hE := ite_t q16 hE
              obtain ⟨y17, ey17⟩ : ∃ y : Int32, y = v7 + (1 : Int32) := ⟨_, rfl⟩
              replace hE := nm_o ey17 hE
              refine lv_iinc (k := 6) (v := y17) (lv' := [(7, .int y17), (0, rr G v0), (2, .int v2), (3, .int v3), (4, .int v4), (5, .int v5), (6, .int v6)]) hx hb dX12_lay__81 hl rfl (by rw [ey17]; rfl) (by decide) rfl (fun ls hl => ?_)
              refine lv_goto (tgt := 55) hx hb dX12_lay__84 (by decide) ?_
              exact ih55 _ _ _ _ _ _ _ _ _ _ _ hE hW hS (lv_sub hl [1, 2, 3, 4, 5, 6, 0] rfl)
            · replace hE := ite_f q16 hE
              obtain ⟨y18, ey18⟩ : ∃ y : Int32, y = v6 + (-1 : Int32) := ⟨_, rfl⟩
              replace hE := nm_o ey18 hE
              refine lv_iinc (k := 5) (v := y18) (lv' := [(6, .int y18), (0, rr G v0), (2, .int v2), (3, .int v3), (4, .int v4), (5, .int v5), (7, .int v7)]) hx hb dX12_lay__78 hl rfl (by rw [ey18]; rfl) (by decide) rfl (fun ls hl => ?_)
              obtain ⟨y19, ey19⟩ : ∃ y : Int32, y = v7 + (1 : Int32) := ⟨_, rfl⟩
              replace hE := nm_o ey19 hE
              refine lv_iinc (k := 6) (v := y19) (lv' := [(7, .int y19), (6, .int y18), (0, rr G v0), (2, .int v2), (3, .int v3), (4, .int v4), (5, .int v5)]) hx hb dX12_lay__81 hl rfl (by rw [ey19]; rfl) (by decide) rfl (fun ls hl => ?_)
              refine lv_goto (tgt := 55) hx hb dX12_lay__84 (by decide) ?_
              exact ih55 _ _ _ _ _ _ _ _ _ _ _ hE hW hS (lv_sub hl [2, 3, 4, 5, 6, 1, 0] rfl)
          intro v0 v2 v3 v4 v5 v6 v7 fa H locs ls hE hW hS hl
          replace hE : m_X12_lay__b55 F (m_X12_lay__L20 F k20) (m_X12_lay__L55 F (m_X12_lay__L20 F k20) k55) v0 v2 v3 v4 v5 v6 v7 fa = some f' := hE
          refine lv_iload hx hb dX12_lay__55 (lv_at hl 5 rfl) ?_
          refine lv_if_gt (tgt := 69) hx hb dX12_lay__57 (by decide) (fun q12 => ?_) (fun q12 => ?_)
          · replace hE := ite_t q12 hE
            exact hC69 _ _ _ _ _ _ _ _ _ _ _ hE hW hS (lv_sub hl [0, 1, 2, 3, 4, 5, 6] rfl)
          · replace hE := ite_f q12 hE
            refine lv_iload_n hx hb dX12_lay__60 rfl (lv_at hl 1 rfl) ?_
            refine lv_iload hx hb dX12_lay__61 (lv_at hl 6 rfl) ?_
            obtain ⟨x13, hx13, hE⟩ := bd hE
            refine s_callS (As := [.int v2, .int v7]) (rest := []) CF hK hW hS (S_X12_has l G F hx13) gs_X12_198 hd_X12_has.2 ⟨Nat.le_of_ble_eq_true rfl, Nat.le_of_ble_eq_true rfl⟩ rfl hl.1 rfl (Nat.le_of_ble_eq_true rfl) dX12_lay__63 ⟨Nat.le_refl _, Nat.le_refl _⟩ (fun H locs hW hS => ?_)
            refine lv_if_ne (tgt := 87) hx hb dX12_lay__66 (by decide) (fun q14 => ?_) (fun q14 => ?_)
            · replace hE := ite_f q14 hE
              exact hC87 _ _ _ _ _ _ _ _ _ _ hE hW hS (lv_sub hl [0, 1, 2, 3, 4, 6] rfl)
            · replace hE := ite_t q14 hE
              exact hC69 _ _ _ _ _ _ _ _ _ _ _ hE hW hS (lv_sub hl [0, 1, 2, 3, 4, 5, 6] rfl)
      intro v0 v2 v3 v4 v5 fa H locs ls hE hW hS hl
      replace hE : m_X12_lay__b20 F (m_X12_lay__L20 F k20) v0 v2 v3 v4 v5 fa = some f' := hE
      refine lv_iload hx hb dX12_lay__20 (lv_at hl 4 rfl) ?_
      refine s_aload_n hx hb dX12_lay__22 rfl (lv_at hl 0 rfl) ?_
      obtain ⟨c1, hE⟩ := ck hE
      obtain ⟨x2, hx2, hE⟩ := bd hE
      refine s_callV (As := []) (rest := [.int v5]) CF hK hW hS (S_X12_lines l G F hx2) c1 rfl gv_X12_185 hd_X12_lines ⟨Nat.le_of_ble_eq_true rfl, Nat.le_of_ble_eq_true rfl⟩ rfl hl.1 rfl (Nat.le_of_ble_eq_true rfl) dX12_lay__23 ⟨Nat.le_refl _, Nat.le_refl _⟩ (fun H locs hW hS => ?_)
      refine lv_icmp_ge (tgt := 120) hx hb dX12_lay__26 (by decide) (fun q3 => ?_) (fun q3 => ?_)
      · replace hE := ite_t q3 hE
        obtain rfl := so1 hE
        exact s_vret hx hb hr hlocks hW hS dX12_lay__120
      · replace hE := ite_f q3 hE
        refine lv_iload hx hb dX12_lay__29 (lv_at hl 3 rfl) ?_
        refine s_aload_n hx hb dX12_lay__31 rfl (lv_at hl 0 rfl) ?_
        obtain ⟨c4, hE⟩ := ck hE
        obtain ⟨x5, hx5, hE⟩ := bd hE
        refine s_callV (As := []) (rest := [.int v4]) CF hK hW hS (S_X12_lines l G F hx5) c4 rfl gv_X12_185 hd_X12_lines ⟨Nat.le_of_ble_eq_true rfl, Nat.le_of_ble_eq_true rfl⟩ rfl hl.1 rfl (Nat.le_of_ble_eq_true rfl) dX12_lay__32 ⟨Nat.le_refl _, Nat.le_refl _⟩ (fun H locs hW hS => ?_)
        refine lv_iload hx hb dX12_lay__35 (lv_at hl 4 rfl) ?_
        refine lv_isub hx hb dX12_lay__37 ?_
        obtain ⟨c6, hE⟩ := ck hE
        refine lv_idiv hx hb dX12_lay__38 (of_decide_eq_true c6) ?_
        refine lv_topi (fun y7 ey7 => ?_)
        replace hE := nm_o ey7 hE
        refine lv_istore (lv' := [(4, .int y7), (0, rr G v0), (2, .int v2), (3, .int v3), (5, .int v5)]) hx hb dX12_lay__39 hl (by decide) rfl (fun ls hl => ?_)
        refine lv_iload_n hx hb dX12_lay__41 rfl (lv_at hl 3 rfl) ?_
        refine lv_iload hx hb dX12_lay__42 (lv_at hl 0 rfl) ?_
        obtain ⟨c8, hE⟩ := ck hE
        refine lv_idiv hx hb dX12_lay__44 (of_decide_eq_true c8) ?_
        refine lv_topi (fun y9 ey9 => ?_)
        replace hE := nm_o ey9 hE
        refine lv_istore (lv' := [(6, .int y9), (4, .int y7), (0, rr G v0), (2, .int v2), (3, .int v3), (5, .int v5)]) hx hb dX12_lay__45 hl (by decide) rfl (fun ls hl => ?_)
        refine lv_iload_n hx hb dX12_lay__47 rfl (lv_at hl 4 rfl) ?_
        refine lv_iload hx hb dX12_lay__48 (lv_at hl 1 rfl) ?_
        obtain ⟨c10, hE⟩ := ck hE
        refine lv_irem hx hb dX12_lay__50 (of_decide_eq_true c10) ?_
        refine lv_topi (fun y11 ey11 => ?_)
        replace hE := nm_o ey11 hE
        refine lv_istore_n (i := 3) (lv' := [(3, .int y11), (6, .int y9), (4, .int y7), (0, rr G v0), (2, .int v2), (5, .int v5)]) hx hb dX12_lay__51 rfl hl (by decide) rfl (fun ls hl => ?_)
        refine lv_iconst (v := (0 : Int32)) hx hb dX12_lay__52 (by decide) ?_
        refine lv_istore (lv' := [(7, .int (0 : Int32)), (3, .int y11), (6, .int y9), (4, .int y7), (0, rr G v0), (2, .int v2), (5, .int v5)]) hx hb dX12_lay__53 hl (by decide) rfl (fun ls hl => ?_)
        exact hC55 F _ _ _ _ _ _ _ _ _ _ _ hE hW hS (lv_sub hl [4, 5, 1, 3, 6, 2, 0] rfl)
  refine lv_iconst (v := (1 : Int32)) hx hb dX12_lay__0 (by decide) ?_
  refine s_aload_n hx hb dX12_lay__1 rfl (lv_at hl 0 rfl) ?_
  obtain ⟨c26, hE⟩ := ck hE
  obtain ⟨x27, hx27, hE⟩ := bd hE
  refine s_callV (As := []) (rest := [.int (1 : Int32)]) CF hK hW hS (S_X12_lines l G F hx27) c26 rfl gv_X12_185 hd_X12_lines ⟨Nat.le_of_ble_eq_true rfl, Nat.le_of_ble_eq_true rfl⟩ rfl hl.1 rfl (Nat.le_of_ble_eq_true rfl) dX12_lay__2 ⟨Nat.le_refl _, Nat.le_refl _⟩ (fun H locs hW hS => ?_)
  refine lv_ishl hx hb dX12_lay__5 ?_
  refine lv_iconst (v := (1 : Int32)) hx hb dX12_lay__6 (by decide) ?_
  refine lv_isub hx hb dX12_lay__7 ?_
  refine lv_topi (fun y28 ey28 => ?_)
  replace hE := nm_o ey28 hE
  refine lv_istore_n (i := 2) (lv' := [(2, .int y28), (0, rr G u0), (1, .int u1)]) hx hb dX12_lay__8 rfl hl (by decide) rfl (fun ls hl => ?_)
  refine lv_iload_n hx hb dX12_lay__9 rfl (lv_at hl 2 rfl) ?_
  refine lv_istore_n (i := 3) (lv' := [(3, .int u1), (2, .int y28), (0, rr G u0), (1, .int u1)]) hx hb dX12_lay__10 rfl hl (by decide) rfl (fun ls hl => ?_)
  refine s_aload_n hx hb dX12_lay__11 rfl (lv_at hl 2 rfl) ?_
  obtain ⟨c29, hE⟩ := ck hE
  obtain ⟨x30, hx30, hE⟩ := bd hE
  refine s_callV (As := []) (rest := []) CF hK hW hS (S_X12_orders l G F hx30) c29 rfl gv_X12_251 hd_X12_orders ⟨Nat.le_of_ble_eq_true rfl, Nat.le_of_ble_eq_true rfl⟩ rfl hl.1 rfl (Nat.le_of_ble_eq_true rfl) dX12_lay__12 ⟨Nat.le_refl _, Nat.le_refl _⟩ (fun H locs hW hS => ?_)
  refine lv_istore (lv' := [(4, .int x30), (3, .int u1), (2, .int y28), (0, rr G u0), (1, .int u1)]) hx hb dX12_lay__15 hl (by decide) rfl (fun ls hl => ?_)
  refine lv_iconst (v := (0 : Int32)) hx hb dX12_lay__17 (by decide) ?_
  refine lv_istore (lv' := [(5, .int (0 : Int32)), (4, .int x30), (3, .int u1), (2, .int y28), (0, rr G u0), (1, .int u1)]) hx hb dX12_lay__18 hl (by decide) rfl (fun ls hl => ?_)
  exact hC20 F _ _ _ _ _ _ _ _ _ hE hW hS (lv_sub hl [4, 3, 2, 1, 0] rfl)
set_option maxHeartbeats 4000000 in
set_option maxRecDepth 100000 in
theorem S_X12_numberOf (l : Launch) (G : GG) (F : Nat) {u0 : Option Nat} {f : Hp} {r : Int32} {n : Nat} (hE : m_X12_numberOf F u0 f = some r) : Ctr l G yX12_numberOf cX12_numberOf 5 (some .int) 1 20 [rr G u0] f n (some (.int r)) f n 0 0 := by
  refine Met.ofW (cc := cX12_numberOf) (maxL := 5) (ret := (some .int)) (by decide) rfl ?_
  intro p e s m args below meth c s₁ B hml hv
  obtain ⟨rfl, hK, hW⟩ := hv
  have hx := B.exec
  have hb := B.bytes
  have hr := B.returns
  have hts := atoms_spec (ws := wsO yX12_numberOf cX12_numberOf 5 (some .int)) B.pre
  have hT : ∀ w ∈ TB, w.before [rr G u0].toArray s = true := fun w hw => hts w (List.mem_cons_of_mem _ hw)
  have hown : s.vm.findClass RX12 = some m.cls := findClass_of_methodNamed B.named
  have hlocks := B.notSynchronized
  have CF : CallFix p m c cX12_numberOf 5 s [rr G u0].toArray TB RX12 := ⟨hx, hb, hml, hown, hT⟩
  have hS : va_S (WA G) s.heap s.heap [] := va_S.rf
  have hl : lv_has (lg_sl ([rr G u0]) ++ List.replicate (5 - (lg_sl ([rr G u0])).length) Slot.unset).toArray 5 [(0, rr G u0)] := by cases u0 <;> exact lv_entry _ (Nat.le_of_ble_eq_true rfl)
  rw [lg_entry_eq]
  generalize (lg_sl ([rr G u0]) ++ List.replicate (5 - (lg_sl ([rr G u0])).length) Slot.unset).toArray = ls at hl ⊢
  have hC4 : ∀ (k4 : Nat), ∀ (v0 : Option Nat) (v1 : Int32) (v2 : Int32) (H : Heap) (locs : List Loc) (ls : Array Slot), m_X12_numberOf_L4 F k4 v0 v1 v2 f = some r → Wd G f n H → va_S (WA G) s.heap H locs → lv_has ls 5 [(0, rr G v0), (1, .int v1), (2, .int v2)] → W p l e (headSpec (wsO yX12_numberOf cX12_numberOf 5 (some .int)) { frames := 1, cells := 0, slots := 0, locals := 20 }).room s m [rr G u0].toArray below meth c H locs 0 0 (MQ below (Qcn G (some (.int r)) f n) [rr G u0].toArray s 0 0 (WA G)) (F0 m 4 ls []) := by
    intro k4
    induction k4 with
    | zero => intro v0 v1 v2 H locs ls hE _ _ _; cases (show (none : Option Int32) = some r from hE)
    | succ k4 ih4 =>
      have hC53 : ∀ (v0 : Option Nat) (v1 : Int32) (v2 : Int32) (v3 : Int32) (H : Heap) (locs : List Loc) (ls : Array Slot), m_X12_numberOf_B53 F (m_X12_numberOf_L4 F k4) v0 v1 v2 v3 f = some r → Wd G f n H → va_S (WA G) s.heap H locs → lv_has ls 5 [(0, rr G v0), (1, .int v1), (2, .int v2), (3, .int v3)] → W p l e (headSpec (wsO yX12_numberOf cX12_numberOf 5 (some .int)) { frames := 1, cells := 0, slots := 0, locals := 20 }).room s m [rr G u0].toArray below meth c H locs 0 0 (MQ below (Qcn G (some (.int r)) f n) [rr G u0].toArray s 0 0 (WA G)) (F0 m 53 ls []) := by
        intro v0 v1 v2 v3 H locs ls hE hW hS hl
        refine lv_iload_n hx hb dX12_numberOf_53 rfl (lv_at hl 1 rfl) ?_
        refine s_aload_n hx hb dX12_numberOf_54 rfl (lv_at hl 0 rfl) ?_
        obtain ⟨c16, hE⟩ := ck hE
        obtain ⟨x17, hx17, hE⟩ := bd hE
        refine s_callV (As := []) (rest := [.int v1]) CF hK hW hS (S_X12_lines l G F hx17) c16 rfl gv_X12_185 hd_X12_lines ⟨Nat.le_of_ble_eq_true rfl, Nat.le_of_ble_eq_true rfl⟩ rfl hl.1 rfl (Nat.le_of_ble_eq_true rfl) dX12_numberOf_55 ⟨Nat.le_refl _, Nat.le_refl _⟩ (fun H locs hW hS => ?_)
        refine lv_iload_n hx hb dX12_numberOf_58 rfl (lv_at hl 2 rfl) ?_
        refine lv_isub hx hb dX12_numberOf_59 ?_
        refine lv_imul hx hb dX12_numberOf_60 ?_
        refine lv_iload_n hx hb dX12_numberOf_61 rfl (lv_at hl 3 rfl) ?_
        refine lv_iadd hx hb dX12_numberOf_62 ?_
        refine lv_topi (fun y18 ey18 => ?_)
        replace hE := nm_o ey18 hE
        refine lv_istore_n (i := 1) (lv' := [(1, .int y18), (0, rr G v0), (2, .int v2), (3, .int v3)]) hx hb dX12_numberOf_63 rfl hl (by decide) (by simp [cat_rr]) (fun ls hl => ?_)
        obtain ⟨y19, ey19⟩ : ∃ y : Int32, y = v2 + (1 : Int32) := ⟨_, rfl⟩
        replace hE := nm_o ey19 hE
        refine lv_iinc (k := 2) (v := y19) (lv' := [(2, .int y19), (1, .int y18), (0, rr G v0), (3, .int v3)]) hx hb dX12_numberOf_64 hl rfl (by rw [ey19]; rfl) (by decide) rfl (fun ls hl => ?_)
        refine lv_goto (tgt := 4) hx hb dX12_numberOf_67 (by decide) ?_
        exact ih4 _ _ _ _ _ _ hE hW hS (lv_sub hl [2, 1, 0] rfl)
      have hC19 : ∀ (k19 : Nat), ∀ (v0 : Option Nat) (v1 : Int32) (v2 : Int32) (v3 : Int32) (v4 : Int32) (H : Heap) (locs : List Loc) (ls : Array Slot), m_X12_numberOf_L19 F (m_X12_numberOf_L4 F k4) k19 v0 v1 v2 v3 v4 f = some r → Wd G f n H → va_S (WA G) s.heap H locs → lv_has ls 5 [(0, rr G v0), (1, .int v1), (2, .int v2), (3, .int v3), (4, .int v4)] → W p l e (headSpec (wsO yX12_numberOf cX12_numberOf 5 (some .int)) { frames := 1, cells := 0, slots := 0, locals := 20 }).room s m [rr G u0].toArray below meth c H locs 0 0 (MQ below (Qcn G (some (.int r)) f n) [rr G u0].toArray s 0 0 (WA G)) (F0 m 19 ls []) := by
        intro k19
        induction k19 with
        | zero => intro v0 v1 v2 v3 v4 H locs ls hE _ _ _; cases (show (none : Option Int32) = some r from hE)
        | succ k19 ih19 =>
          intro v0 v1 v2 v3 v4 H locs ls hE hW hS hl
          replace hE : m_X12_numberOf_b19 F (m_X12_numberOf_L4 F k4) (m_X12_numberOf_L19 F (m_X12_numberOf_L4 F k4) k19) v0 v1 v2 v3 v4 f = some r := hE
          refine lv_iload hx hb dX12_numberOf_19 (lv_at hl 4 rfl) ?_
          refine s_aload_n hx hb dX12_numberOf_21 rfl (lv_at hl 0 rfl) ?_
          obtain ⟨c5, hE⟩ := ck hE
          obtain ⟨x6, hx6, hE⟩ := bd hE
          refine s_callV (As := []) (rest := [.int v4]) CF hK hW hS (S_X12_lines l G F hx6) c5 rfl gv_X12_185 hd_X12_lines ⟨Nat.le_of_ble_eq_true rfl, Nat.le_of_ble_eq_true rfl⟩ rfl hl.1 rfl (Nat.le_of_ble_eq_true rfl) dX12_numberOf_22 ⟨Nat.le_refl _, Nat.le_refl _⟩ (fun H locs hW hS => ?_)
          refine lv_icmp_ge (tgt := 53) hx hb dX12_numberOf_25 (by decide) (fun q7 => ?_) (fun q7 => ?_)
          · replace hE := ite_t q7 hE
            exact hC53 _ _ _ _ _ _ _ hE hW hS (lv_sub hl [0, 1, 2, 3] rfl)
          · replace hE := ite_f q7 hE
            refine s_aload_n hx hb dX12_numberOf_28 rfl (lv_at hl 0 rfl) ?_
            obtain ⟨x8, hx8, hE⟩ := bd hE
            refine s_gR hx hb hT u_X12 hown hK hW hx8 rfl (by decide) fl_X12_36 rfl dX12_numberOf_29 ?_
            refine lv_iload hx hb dX12_numberOf_32 (lv_at hl 4 rfl) ?_
            obtain ⟨x9, hx9, hE⟩ := bd hE
            refine s_ldI hx hb hK hW hS hx9 dX12_numberOf_34 ?_
            refine s_aload_n hx hb dX12_numberOf_35 rfl (lv_at hl 0 rfl) ?_
            obtain ⟨x10, hx10, hE⟩ := bd hE
            refine s_gR hx hb hT u_X12 hown hK hW hx10 rfl (by decide) fl_X12_36 rfl dX12_numberOf_36 ?_
            refine lv_iload_n hx hb dX12_numberOf_39 rfl (lv_at hl 2 rfl) ?_
            obtain ⟨x11, hx11, hE⟩ := bd hE
            refine s_ldI hx hb hK hW hS hx11 dX12_numberOf_40 ?_
            refine lv_icmp_ge (tgt := 47) hx hb dX12_numberOf_41 (by decide) (fun q12 => ?_) (fun q12 => ?_)
            · replace hE := ite_t q12 hE
              obtain ⟨y13, ey13⟩ : ∃ y : Int32, y = v4 + (1 : Int32) := ⟨_, rfl⟩
              replace hE := nm_o ey13 hE
              refine lv_iinc (k := 4) (v := y13) (lv' := [(4, .int y13), (0, rr G v0), (1, .int v1), (2, .int v2), (3, .int v3)]) hx hb dX12_numberOf_47 hl rfl (by rw [ey13]; rfl) (by decide) rfl (fun ls hl => ?_)
              refine lv_goto (tgt := 19) hx hb dX12_numberOf_50 (by decide) ?_
              exact ih19 _ _ _ _ _ _ _ _ hE hW hS (lv_sub hl [1, 2, 3, 4, 0] rfl)
            · replace hE := ite_f q12 hE
              obtain ⟨y14, ey14⟩ : ∃ y : Int32, y = v3 + (1 : Int32) := ⟨_, rfl⟩
              replace hE := nm_o ey14 hE
              refine lv_iinc (k := 3) (v := y14) (lv' := [(3, .int y14), (0, rr G v0), (1, .int v1), (2, .int v2), (4, .int v4)]) hx hb dX12_numberOf_44 hl rfl (by rw [ey14]; rfl) (by decide) rfl (fun ls hl => ?_)
              obtain ⟨y15, ey15⟩ : ∃ y : Int32, y = v4 + (1 : Int32) := ⟨_, rfl⟩
              replace hE := nm_o ey15 hE
              refine lv_iinc (k := 4) (v := y15) (lv' := [(4, .int y15), (3, .int y14), (0, rr G v0), (1, .int v1), (2, .int v2)]) hx hb dX12_numberOf_47 hl rfl (by rw [ey15]; rfl) (by decide) rfl (fun ls hl => ?_)
              refine lv_goto (tgt := 19) hx hb dX12_numberOf_50 (by decide) ?_
              exact ih19 _ _ _ _ _ _ _ _ hE hW hS (lv_sub hl [2, 3, 4, 1, 0] rfl)
      intro v0 v1 v2 H locs ls hE hW hS hl
      replace hE : m_X12_numberOf_b4 F (m_X12_numberOf_L4 F k4) v0 v1 v2 f = some r := hE
      refine lv_iload_n hx hb dX12_numberOf_4 rfl (lv_at hl 2 rfl) ?_
      refine s_aload_n hx hb dX12_numberOf_5 rfl (lv_at hl 0 rfl) ?_
      obtain ⟨c1, hE⟩ := ck hE
      obtain ⟨x2, hx2, hE⟩ := bd hE
      refine s_callV (As := []) (rest := [.int v2]) CF hK hW hS (S_X12_lines l G F hx2) c1 rfl gv_X12_185 hd_X12_lines ⟨Nat.le_of_ble_eq_true rfl, Nat.le_of_ble_eq_true rfl⟩ rfl hl.1 rfl (Nat.le_of_ble_eq_true rfl) dX12_numberOf_6 ⟨Nat.le_refl _, Nat.le_refl _⟩ (fun H locs hW hS => ?_)
      refine lv_icmp_ge (tgt := 70) hx hb dX12_numberOf_9 (by decide) (fun q3 => ?_) (fun q3 => ?_)
      · replace hE := ite_t q3 hE
        refine lv_iload_n hx hb dX12_numberOf_70 rfl (lv_at hl 1 rfl) ?_
        obtain rfl := so1 hE
        exact s_iret hx hb hr hlocks hW hS dX12_numberOf_71
      · replace hE := ite_f q3 hE
        refine lv_iconst (v := (0 : Int32)) hx hb dX12_numberOf_12 (by decide) ?_
        refine lv_istore_n (i := 3) (lv' := [(3, .int (0 : Int32)), (0, rr G v0), (1, .int v1), (2, .int v2)]) hx hb dX12_numberOf_13 rfl hl (by decide) rfl (fun ls hl => ?_)
        refine lv_iload_n hx hb dX12_numberOf_14 rfl (lv_at hl 3 rfl) ?_
        refine lv_iconst (v := (1 : Int32)) hx hb dX12_numberOf_15 (by decide) ?_
        refine lv_iadd hx hb dX12_numberOf_16 ?_
        refine lv_topi (fun y4 ey4 => ?_)
        replace hE := nm_o ey4 hE
        refine lv_istore (lv' := [(4, .int y4), (3, .int (0 : Int32)), (0, rr G v0), (1, .int v1), (2, .int v2)]) hx hb dX12_numberOf_17 hl (by decide) rfl (fun ls hl => ?_)
        exact hC19 F _ _ _ _ _ _ _ _ hE hW hS (lv_sub hl [2, 3, 4, 1, 0] rfl)
  refine lv_iconst (v := (0 : Int32)) hx hb dX12_numberOf_0 (by decide) ?_
  refine lv_istore_n (i := 1) (lv' := [(1, .int (0 : Int32)), (0, rr G u0)]) hx hb dX12_numberOf_1 rfl hl (by decide) (by simp [cat_rr]) (fun ls hl => ?_)
  refine lv_iconst (v := (0 : Int32)) hx hb dX12_numberOf_2 (by decide) ?_
  refine lv_istore_n (i := 2) (lv' := [(2, .int (0 : Int32)), (1, .int (0 : Int32)), (0, rr G u0)]) hx hb dX12_numberOf_3 rfl hl (by decide) rfl (fun ls hl => ?_)
  exact hC4 F _ _ _ _ _ _ hE hW hS (lv_sub hl [2, 1, 0] rfl)
set_option maxHeartbeats 4000000 in
set_option maxRecDepth 100000 in
theorem S_X12_layNeighbours (l : Launch) (G : GG) (F : Nat) {u0 : Option Nat} {f : Hp} {f' : Hp} {n : Nat} (hE : m_X12_layNeighbours F u0 f = some f') : Ctr l G yX12_layNeighbours cX12_layNeighbours 4 none 3 69 [rr G u0] f n none f' n 0 0 := by
  refine Met.ofW (cc := cX12_layNeighbours) (maxL := 4) (ret := none) (by decide) rfl ?_
  intro p e s m args below meth c s₁ B hml hv
  obtain ⟨rfl, hK, hW⟩ := hv
  have hx := B.exec
  have hb := B.bytes
  have hr := B.returns
  have hts := atoms_spec (ws := wsO yX12_layNeighbours cX12_layNeighbours 4 none) B.pre
  have hT : ∀ w ∈ TB, w.before [rr G u0].toArray s = true := fun w hw => hts w (List.mem_cons_of_mem _ hw)
  have hown : s.vm.findClass RX12 = some m.cls := findClass_of_methodNamed B.named
  have hlocks := B.notSynchronized
  have CF : CallFix p m c cX12_layNeighbours 4 s [rr G u0].toArray TB RX12 := ⟨hx, hb, hml, hown, hT⟩
  have hS : va_S (WA G) s.heap s.heap [] := va_S.rf
  have hl : lv_has (lg_sl ([rr G u0]) ++ List.replicate (4 - (lg_sl ([rr G u0])).length) Slot.unset).toArray 4 [(0, rr G u0)] := by cases u0 <;> exact lv_entry _ (Nat.le_of_ble_eq_true rfl)
  rw [lg_entry_eq]
  generalize (lg_sl ([rr G u0]) ++ List.replicate (4 - (lg_sl ([rr G u0])).length) Slot.unset).toArray = ls at hl ⊢
  have hC22 : ∀ (k22 : Nat), ∀ (v0 : Option Nat) (v1 : Int32) (fa : Hp) (H : Heap) (locs : List Loc) (ls : Array Slot), m_X12_layNeighbours_L22 F k22 v0 v1 fa = some f' → Wd G fa n H → va_S (WA G) s.heap H locs → lv_has ls 4 [(0, rr G v0), (1, .int v1)] → W p l e (headSpec (wsO yX12_layNeighbours cX12_layNeighbours 4 none) { frames := 3, cells := 0, slots := 0, locals := 69 }).room s m [rr G u0].toArray below meth c H locs 0 0 (MQ below (Qcn G none f' n) [rr G u0].toArray s 0 0 (WA G)) (F0 m 22 ls []) := by
    intro k22
    induction k22 with
    | zero => intro v0 v1 fa H locs ls hE _ _ _; cases (show (none : Option Hp) = some f' from hE)
    | succ k22 ih22 =>
      have hC32 : ∀ (k32 : Nat), ∀ (v0 : Option Nat) (v1 : Int32) (v2 : Int32) (fa : Hp) (H : Heap) (locs : List Loc) (ls : Array Slot), m_X12_layNeighbours_L32 F (m_X12_layNeighbours_L22 F k22) k32 v0 v1 v2 fa = some f' → Wd G fa n H → va_S (WA G) s.heap H locs → lv_has ls 4 [(0, rr G v0), (1, .int v1), (2, .int v2)] → W p l e (headSpec (wsO yX12_layNeighbours cX12_layNeighbours 4 none) { frames := 3, cells := 0, slots := 0, locals := 69 }).room s m [rr G u0].toArray below meth c H locs 0 0 (MQ below (Qcn G none f' n) [rr G u0].toArray s 0 0 (WA G)) (F0 m 32 ls []) := by
        intro k32
        induction k32 with
        | zero => intro v0 v1 v2 fa H locs ls hE _ _ _; cases (show (none : Option Hp) = some f' from hE)
        | succ k32 ih32 =>
          intro v0 v1 v2 fa H locs ls hE hW hS hl
          replace hE : m_X12_layNeighbours_b32 F (m_X12_layNeighbours_L22 F k22) (m_X12_layNeighbours_L32 F (m_X12_layNeighbours_L22 F k22) k32) v0 v1 v2 fa = some f' := hE
          refine lv_iload_n hx hb dX12_layNeighbours_32 rfl (lv_at hl 2 rfl) ?_
          refine s_aload_n hx hb dX12_layNeighbours_33 rfl (lv_at hl 0 rfl) ?_
          obtain ⟨c4, hE⟩ := ck hE
          obtain ⟨x5, hx5, hE⟩ := bd hE
          refine s_callV (As := []) (rest := [.int v2]) CF hK hW hS (S_X12_lines l G F hx5) c4 rfl gv_X12_185 hd_X12_lines ⟨Nat.le_of_ble_eq_true rfl, Nat.le_of_ble_eq_true rfl⟩ rfl hl.1 rfl (Nat.le_of_ble_eq_true rfl) dX12_layNeighbours_34 ⟨Nat.le_refl _, Nat.le_refl _⟩ (fun H locs hW hS => ?_)
          refine lv_iconst (v := (1 : Int32)) hx hb dX12_layNeighbours_37 (by decide) ?_
          refine lv_isub hx hb dX12_layNeighbours_38 ?_
          refine lv_icmp_ge (tgt := 98) hx hb dX12_layNeighbours_39 (by decide) (fun q6 => ?_) (fun q6 => ?_)
          · replace hE := ite_t q6 hE
            obtain ⟨y7, ey7⟩ : ∃ y : Int32, y = v1 + (1 : Int32) := ⟨_, rfl⟩
            replace hE := nm_o ey7 hE
            refine lv_iinc (k := 1) (v := y7) (lv' := [(1, .int y7), (0, rr G v0), (2, .int v2)]) hx hb dX12_layNeighbours_98 hl rfl (by rw [ey7]; rfl) (by decide) (by simp [cat_rr]) (fun ls hl => ?_)
            refine lv_goto (tgt := 22) hx hb dX12_layNeighbours_101 (by decide) ?_
            exact ih22 _ _ _ _ _ _ hE hW hS (lv_sub hl [1, 0] rfl)
          · replace hE := ite_f q6 hE
            refine s_aload_n hx hb dX12_layNeighbours_42 rfl (lv_at hl 0 rfl) ?_
            refine lv_iload_n hx hb dX12_layNeighbours_43 rfl (lv_at hl 1 rfl) ?_
            obtain ⟨c8, hE⟩ := ck hE
            obtain ⟨f9, hf9, hE⟩ := bd hE
            refine s_callV (As := [.int v1]) (rest := []) CF hK hW hS (S_X12_lay_ l G F hf9) c8 rfl gv_X12_257 hd_X12_lay_ ⟨Nat.le_of_ble_eq_true rfl, Nat.le_of_ble_eq_true rfl⟩ rfl hl.1 rfl (Nat.le_of_ble_eq_true rfl) dX12_layNeighbours_44 ⟨Nat.le_refl _, Nat.le_refl _⟩ (fun H locs hW hS => ?_)
            refine s_aload_n hx hb dX12_layNeighbours_47 rfl (lv_at hl 0 rfl) ?_
            obtain ⟨x10, hx10, hE⟩ := bd hE
            refine s_gR hx hb hT u_X12 hown hK hW hx10 rfl (by decide) fl_X12_36 rfl dX12_layNeighbours_48 ?_
            refine lv_iload_n hx hb dX12_layNeighbours_51 rfl (lv_at hl 2 rfl) ?_
            obtain ⟨x11, hx11, hE⟩ := bd hE
            refine s_ldI hx hb hK hW hS hx11 dX12_layNeighbours_52 ?_
            refine lv_istore_n (i := 3) (lv' := [(3, .int x11), (0, rr G v0), (1, .int v1), (2, .int v2)]) hx hb dX12_layNeighbours_53 rfl hl (by decide) rfl (fun ls hl => ?_)
            refine s_aload_n hx hb dX12_layNeighbours_54 rfl (lv_at hl 1 rfl) ?_
            obtain ⟨x12, hx12, hE⟩ := bd hE
            refine s_gR hx hb hT u_X12 hown hK hW hx12 rfl (by decide) fl_X12_36 rfl dX12_layNeighbours_55 ?_
            refine lv_iload_n hx hb dX12_layNeighbours_58 rfl (lv_at hl 3 rfl) ?_
            refine s_aload_n hx hb dX12_layNeighbours_59 rfl (lv_at hl 1 rfl) ?_
            obtain ⟨x13, hx13, hE⟩ := bd hE
            refine s_gR hx hb hT u_X12 hown hK hW hx13 rfl (by decide) fl_X12_36 rfl dX12_layNeighbours_60 ?_
            refine lv_iload_n hx hb dX12_layNeighbours_63 rfl (lv_at hl 3 rfl) ?_
            refine lv_iconst (v := (1 : Int32)) hx hb dX12_layNeighbours_64 (by decide) ?_
            refine lv_iadd hx hb dX12_layNeighbours_65 ?_
            obtain ⟨x14, hx14, hE⟩ := bd hE
            refine s_ldI hx hb hK hW hS hx14 dX12_layNeighbours_66 ?_
            obtain ⟨f15, hf15, hE⟩ := bd hE
            refine s_stI hx hb hK hW hS hf15 dX12_layNeighbours_67 (fun H locs hW hS => ?_)
            refine s_aload_n hx hb dX12_layNeighbours_68 rfl (lv_at hl 1 rfl) ?_
            obtain ⟨x16, hx16, hE⟩ := bd hE
            refine s_gR hx hb hT u_X12 hown hK hW hx16 rfl (by decide) fl_X12_36 rfl dX12_layNeighbours_69 ?_
            refine lv_iload_n hx hb dX12_layNeighbours_72 rfl (lv_at hl 3 rfl) ?_
            refine lv_iconst (v := (1 : Int32)) hx hb dX12_layNeighbours_73 (by decide) ?_
            refine lv_iadd hx hb dX12_layNeighbours_74 ?_
            refine lv_iload_n hx hb dX12_layNeighbours_75 rfl (lv_at hl 0 rfl) ?_
            obtain ⟨f17, hf17, hE⟩ := bd hE
            refine s_stI hx hb hK hW hS hf17 dX12_layNeighbours_76 (fun H locs hW hS => ?_)
            refine s_aload_n hx hb dX12_layNeighbours_77 rfl (lv_at hl 1 rfl) ?_
            obtain ⟨x18, hx18, hE⟩ := bd hE
            refine s_gR hx hb hT u_X12 hown hK hW hx18 rfl (by decide) fl_X12_72 rfl dX12_layNeighbours_78 ?_
            refine lv_bipush (v := (6 : Int32)) hx hb dX12_layNeighbours_81 (by decide) ?_
            refine lv_iload_n hx hb dX12_layNeighbours_83 rfl (lv_at hl 2 rfl) ?_
            refine lv_imul hx hb dX12_layNeighbours_84 ?_
            refine lv_iload_n hx hb dX12_layNeighbours_85 rfl (lv_at hl 3 rfl) ?_
            refine lv_iadd hx hb dX12_layNeighbours_86 ?_
            refine s_aload_n hx hb dX12_layNeighbours_87 rfl (lv_at hl 1 rfl) ?_
            obtain ⟨c19, hE⟩ := ck hE
            obtain ⟨x20, hx20, hE⟩ := bd hE
            refine s_callV (As := []) (rest := [.int (((6 : Int32) * v1) + v2), rr G x18]) CF hK hW hS (S_X12_numberOf l G F hx20) c19 rfl gv_X12_313 hd_X12_numberOf ⟨Nat.le_of_ble_eq_true rfl, Nat.le_of_ble_eq_true rfl⟩ rfl hl.1 rfl (Nat.le_of_ble_eq_true rfl) dX12_layNeighbours_88 ⟨Nat.le_refl _, Nat.le_refl _⟩ (fun H locs hW hS => ?_)
            obtain ⟨f21, hf21, hE⟩ := bd hE
            refine s_stI hx hb hK hW hS hf21 dX12_layNeighbours_91 (fun H locs hW hS => ?_)
            obtain ⟨y22, ey22⟩ : ∃ y : Int32, y = v2 + (1 : Int32) := ⟨_, rfl⟩
            replace hE := nm_o ey22 hE
            refine lv_iinc (k := 3) (v := y22) (lv' := [(2, .int y22), (3, .int x11), (0, rr G v0), (1, .int v1)]) hx hb dX12_layNeighbours_92 hl rfl (by rw [ey22]; rfl) (by decide) rfl (fun ls hl => ?_)
            refine lv_goto (tgt := 32) hx hb dX12_layNeighbours_95 (by decide) ?_
            exact ih32 _ _ _ _ _ _ _ hE hW hS (lv_sub hl [2, 3, 0] rfl)
      intro v0 v1 fa H locs ls hE hW hS hl
      replace hE : m_X12_layNeighbours_b22 F (m_X12_layNeighbours_L22 F k22) v0 v1 fa = some f' := hE
      refine lv_iload_n hx hb dX12_layNeighbours_22 rfl (lv_at hl 1 rfl) ?_
      refine s_aload_n hx hb dX12_layNeighbours_23 rfl (lv_at hl 0 rfl) ?_
      obtain ⟨c1, hE⟩ := ck hE
      obtain ⟨x2, hx2, hE⟩ := bd hE
      refine s_callV (As := []) (rest := [.int v1]) CF hK hW hS (S_X12_orders l G F hx2) c1 rfl gv_X12_251 hd_X12_orders ⟨Nat.le_of_ble_eq_true rfl, Nat.le_of_ble_eq_true rfl⟩ rfl hl.1 rfl (Nat.le_of_ble_eq_true rfl) dX12_layNeighbours_24 ⟨Nat.le_refl _, Nat.le_refl _⟩ (fun H locs hW hS => ?_)
      refine lv_icmp_ge (tgt := 104) hx hb dX12_layNeighbours_27 (by decide) (fun q3 => ?_) (fun q3 => ?_)
      · replace hE := ite_t q3 hE
        obtain rfl := so1 hE
        exact s_vret hx hb hr hlocks hW hS dX12_layNeighbours_104
      · replace hE := ite_f q3 hE
        refine lv_iconst (v := (0 : Int32)) hx hb dX12_layNeighbours_30 (by decide) ?_
        refine lv_istore_n (i := 2) (lv' := [(2, .int (0 : Int32)), (0, rr G v0), (1, .int v1)]) hx hb dX12_layNeighbours_31 rfl hl (by decide) rfl (fun ls hl => ?_)
        exact hC32 F _ _ _ _ _ _ _ hE hW hS (lv_sub hl [1, 2, 0] rfl)
  refine s_aload_n hx hb dX12_layNeighbours_0 rfl (lv_at hl 0 rfl) ?_
  obtain ⟨x23, hx23, hE⟩ := bd hE
  refine s_gI hx hb hT u_X12 hown hK hW hx23 rfl (by decide) fl_X12_310 rfl dX12_layNeighbours_1 ?_
  refine s_aload_n hx hb dX12_layNeighbours_4 rfl (lv_at hl 0 rfl) ?_
  obtain ⟨c24, hE⟩ := ck hE
  obtain ⟨x25, hx25, hE⟩ := bd hE
  refine s_callV (As := []) (rest := [.int x23]) CF hK hW hS (S_X12_lines l G F hx25) c24 rfl gv_X12_185 hd_X12_lines ⟨Nat.le_of_ble_eq_true rfl, Nat.le_of_ble_eq_true rfl⟩ rfl hl.1 rfl (Nat.le_of_ble_eq_true rfl) dX12_layNeighbours_5 ⟨Nat.le_refl _, Nat.le_refl _⟩ (fun H locs hW hS => ?_)
  refine lv_icmp_ne (tgt := 12) hx hb dX12_layNeighbours_8 (by decide) (fun q26 => ?_) (fun q26 => ?_)
  · replace hE := ite_f q26 hE
    refine s_aload_n hx hb dX12_layNeighbours_12 rfl (lv_at hl 0 rfl) ?_
    refine s_aload_n hx hb dX12_layNeighbours_13 rfl (lv_at hl 0 rfl) ?_
    obtain ⟨c27, hE⟩ := ck hE
    obtain ⟨x28, hx28, hE⟩ := bd hE
    refine s_callV (As := []) (rest := [rr G u0]) CF hK hW hS (S_X12_lines l G F hx28) c27 rfl gv_X12_185 hd_X12_lines ⟨Nat.le_of_ble_eq_true rfl, Nat.le_of_ble_eq_true rfl⟩ rfl hl.1 rfl (Nat.le_of_ble_eq_true rfl) dX12_layNeighbours_14 ⟨Nat.le_refl _, Nat.le_refl _⟩ (fun H locs hW hS => ?_)
    obtain ⟨f29, hf29, hE⟩ := bd hE
    refine s_putI hx hb hT u_X12 tyX12 tyX12_ok nmX12 hown hK hW hS hf29 rfl (by decide) fl_X12_310 rfl (Or.inl rfl) rfl dX12_layNeighbours_17 (fun H locs hW hS => ?_)
    refine lv_iconst (v := (0 : Int32)) hx hb dX12_layNeighbours_20 (by decide) ?_
    refine lv_istore_n (i := 1) (lv' := [(1, .int (0 : Int32)), (0, rr G u0)]) hx hb dX12_layNeighbours_21 rfl hl (by decide) (by simp [cat_rr]) (fun ls hl => ?_)
    exact hC22 F _ _ _ _ _ _ hE hW hS (lv_sub hl [1, 0] rfl)
  · replace hE := ite_t q26 hE
    obtain rfl := so1 hE
    exact s_vret hx hb hr hlocks hW hS dX12_layNeighbours_11
set_option maxHeartbeats 4000000 in
set_option maxRecDepth 100000 in
theorem S_X12_layWays (l : Launch) (G : GG) (F : Nat) {u0 : Option Nat} {u1 : Int32} {u2 : Int32} {u3 : Int32} {f : Hp} {f' : Hp} {n : Nat} (hE : m_X12_layWays F u0 u1 u2 u3 f = some f') : Ctr l G yX12_layWays cX12_layWays 8 none 4 92 [rr G u0, .int u1, .int u2, .int u3] f n none f' n 0 0 := by
  refine Met.ofW (cc := cX12_layWays) (maxL := 8) (ret := none) (by decide) rfl ?_
  intro p e s m args below meth c s₁ B hml hv
  obtain ⟨rfl, hK, hW⟩ := hv
  have hx := B.exec
  have hb := B.bytes
  have hr := B.returns
  have hts := atoms_spec (ws := wsO yX12_layWays cX12_layWays 8 none) B.pre
  have hT : ∀ w ∈ TB, w.before [rr G u0, .int u1, .int u2, .int u3].toArray s = true := fun w hw => hts w (List.mem_cons_of_mem _ hw)
  have hown : s.vm.findClass RX12 = some m.cls := findClass_of_methodNamed B.named
  have hlocks := B.notSynchronized
  have CF : CallFix p m c cX12_layWays 8 s [rr G u0, .int u1, .int u2, .int u3].toArray TB RX12 := ⟨hx, hb, hml, hown, hT⟩
  have hS : va_S (WA G) s.heap s.heap [] := va_S.rf
  have hl : lv_has (lg_sl ([rr G u0, .int u1, .int u2, .int u3]) ++ List.replicate (8 - (lg_sl ([rr G u0, .int u1, .int u2, .int u3])).length) Slot.unset).toArray 8 [(0, rr G u0), (1, .int u1), (2, .int u2), (3, .int u3)] := by cases u0 <;> exact lv_entry _ (Nat.le_of_ble_eq_true rfl)
  rw [lg_entry_eq]
  generalize (lg_sl ([rr G u0, .int u1, .int u2, .int u3]) ++ List.replicate (8 - (lg_sl ([rr G u0, .int u1, .int u2, .int u3])).length) Slot.unset).toArray = ls at hl ⊢
  have hC44 : ∀ (k44 : Nat), ∀ (v0 : Option Nat) (v2 : Int32) (v3 : Int32) (v4 : Int32) (v5 : Int32) (fa : Hp) (H : Heap) (locs : List Loc) (ls : Array Slot), m_X12_layWays_L44 F k44 v0 v2 v3 v4 v5 fa = some f' → Wd G fa n H → va_S (WA G) s.heap H locs → lv_has ls 8 [(0, rr G v0), (2, .int v2), (3, .int v3), (4, .int v4), (5, .int v5)] → W p l e (headSpec (wsO yX12_layWays cX12_layWays 8 none) { frames := 4, cells := 0, slots := 0, locals := 92 }).room s m [rr G u0, .int u1, .int u2, .int u3].toArray below meth c H locs 0 0 (MQ below (Qcn G none f' n) [rr G u0, .int u1, .int u2, .int u3].toArray s 0 0 (WA G)) (F0 m 44 ls []) := by
    intro k44
    induction k44 with
    | zero => intro v0 v2 v3 v4 v5 fa H locs ls hE _ _ _; cases (show (none : Option Hp) = some f' from hE)
    | succ k44 ih44 =>
      have hC176 : ∀ (k176 : Nat), ∀ (v0 : Option Nat) (v2 : Int32) (v3 : Int32) (v4 : Int32) (v5 : Int32) (v6 : Int32) (fa : Hp) (H : Heap) (locs : List Loc) (ls : Array Slot), m_X12_layWays_L176 F (m_X12_layWays_L44 F k44) k176 v0 v2 v3 v4 v5 v6 fa = some f' → Wd G fa n H → va_S (WA G) s.heap H locs → lv_has ls 8 [(0, rr G v0), (2, .int v2), (3, .int v3), (4, .int v4), (5, .int v5), (6, .int v6)] → W p l e (headSpec (wsO yX12_layWays cX12_layWays 8 none) { frames := 4, cells := 0, slots := 0, locals := 92 }).room s m [rr G u0, .int u1, .int u2, .int u3].toArray below meth c H locs 0 0 (MQ below (Qcn G none f' n) [rr G u0, .int u1, .int u2, .int u3].toArray s 0 0 (WA G)) (F0 m 176 ls []) := by
        intro k176
        induction k176 with
        | zero => intro v0 v2 v3 v4 v5 v6 fa H locs ls hE _ _ _; cases (show (none : Option Hp) = some f' from hE)
        | succ k176 ih176 =>
          intro v0 v2 v3 v4 v5 v6 fa H locs ls hE hW hS hl
          replace hE : m_X12_layWays_b176 F (m_X12_layWays_L44 F k44) (m_X12_layWays_L176 F (m_X12_layWays_L44 F k44) k176) v0 v2 v3 v4 v5 v6 fa = some f' := hE
          refine lv_iload hx hb dX12_layWays_176 (lv_at hl 5 rfl) ?_
          refine lv_iload hx hb dX12_layWays_178 (lv_at hl 3 rfl) ?_
          refine lv_icmp_ge (tgt := 203) hx hb dX12_layWays_180 (by decide) (fun q34 => ?_) (fun q34 => ?_)
          · replace hE := ite_t q34 hE
            obtain ⟨y35, ey35⟩ : ∃ y : Int32, y = v5 + (1 : Int32) := ⟨_, rfl⟩
            replace hE := nm_o ey35 hE
            refine lv_iinc (k := 4) (v := y35) (lv' := [(5, .int y35), (0, rr G v0), (2, .int v2), (3, .int v3), (4, .int v4), (6, .int v6)]) hx hb dX12_layWays_203 hl rfl (by rw [ey35]; rfl) (by decide) rfl (fun ls hl => ?_)
            refine lv_goto (tgt := 44) hx hb dX12_layWays_206 (by decide) ?_
            exact ih44 _ _ _ _ _ _ _ _ _ hE hW hS (lv_sub hl [1, 2, 3, 4, 0] rfl)
          · replace hE := ite_f q34 hE
            refine s_aload_n hx hb dX12_layWays_183 rfl (lv_at hl 0 rfl) ?_
            obtain ⟨x36, hx36, hE⟩ := bd hE
            refine s_gR hx hb hT u_X12 hown hK hW hx36 rfl (by decide) fl_X12_63 rfl dX12_layWays_184 ?_
            refine lv_iload hx hb dX12_layWays_187 (lv_at hl 5 rfl) ?_
            refine s_aload_n hx hb dX12_layWays_189 rfl (lv_at hl 0 rfl) ?_
            obtain ⟨x37, hx37, hE⟩ := bd hE
            refine s_gR hx hb hT u_X12 hown hK hW hx37 rfl (by decide) fl_X12_66 rfl dX12_layWays_190 ?_
            refine lv_iload hx hb dX12_layWays_193 (lv_at hl 5 rfl) ?_
            obtain ⟨x38, hx38, hE⟩ := bd hE
            refine s_ldJ hx hb hK hW hS hx38 dX12_layWays_195 ?_
            obtain ⟨f39, hf39, hE⟩ := bd hE
            refine s_stJ hx hb hK hW hS hf39 dX12_layWays_196 (fun H locs hW hS => ?_)
            obtain ⟨y40, ey40⟩ : ∃ y : Int32, y = v6 + (1 : Int32) := ⟨_, rfl⟩
            replace hE := nm_o ey40 hE
            refine lv_iinc (k := 5) (v := y40) (lv' := [(6, .int y40), (0, rr G v0), (2, .int v2), (3, .int v3), (4, .int v4), (5, .int v5)]) hx hb dX12_layWays_197 hl rfl (by rw [ey40]; rfl) (by decide) rfl (fun ls hl => ?_)
            refine lv_goto (tgt := 176) hx hb dX12_layWays_200 (by decide) ?_
            exact ih176 _ _ _ _ _ _ _ _ _ _ hE hW hS (lv_sub hl [1, 2, 3, 4, 5, 0] rfl)
      have hC77 : ∀ (k77 : Nat), ∀ (v0 : Option Nat) (v2 : Int32) (v3 : Int32) (v4 : Int32) (v5 : Int32) (v6 : Int32) (fa : Hp) (H : Heap) (locs : List Loc) (ls : Array Slot), m_X12_layWays_L77 F (m_X12_layWays_L44 F k44) k77 v0 v2 v3 v4 v5 v6 fa = some f' → Wd G fa n H → va_S (WA G) s.heap H locs → lv_has ls 8 [(0, rr G v0), (2, .int v2), (3, .int v3), (4, .int v4), (5, .int v5), (6, .int v6)] → W p l e (headSpec (wsO yX12_layWays cX12_layWays 8 none) { frames := 4, cells := 0, slots := 0, locals := 92 }).room s m [rr G u0, .int u1, .int u2, .int u3].toArray below meth c H locs 0 0 (MQ below (Qcn G none f' n) [rr G u0, .int u1, .int u2, .int u3].toArray s 0 0 (WA G)) (F0 m 77 ls []) := by
        intro k77
        induction k77 with
        | zero => intro v0 v2 v3 v4 v5 v6 fa H locs ls hE _ _ _; cases (show (none : Option Hp) = some f' from hE)
        | succ k77 ih77 =>
          have hC102 : ∀ (k102 : Nat), ∀ (v0 : Option Nat) (v2 : Int32) (v3 : Int32) (v4 : Int32) (v5 : Int32) (v6 : Int32) (v7 : Int32) (fa : Hp) (H : Heap) (locs : List Loc) (ls : Array Slot), m_X12_layWays_L102 F (m_X12_layWays_L44 F k44) (m_X12_layWays_L77 F (m_X12_layWays_L44 F k44) k77) k102 v0 v2 v3 v4 v5 v6 v7 fa = some f' → Wd G fa n H → va_S (WA G) s.heap H locs → lv_has ls 8 [(0, rr G v0), (2, .int v2), (3, .int v3), (4, .int v4), (5, .int v5), (6, .int v6), (7, .int v7)] → W p l e (headSpec (wsO yX12_layWays cX12_layWays 8 none) { frames := 4, cells := 0, slots := 0, locals := 92 }).room s m [rr G u0, .int u1, .int u2, .int u3].toArray below meth c H locs 0 0 (MQ below (Qcn G none f' n) [rr G u0, .int u1, .int u2, .int u3].toArray s 0 0 (WA G)) (F0 m 102 ls []) := by
            intro k102
            induction k102 with
            | zero => intro v0 v2 v3 v4 v5 v6 v7 fa H locs ls hE _ _ _; cases (show (none : Option Hp) = some f' from hE)
            | succ k102 ih102 =>
              intro v0 v2 v3 v4 v5 v6 v7 fa H locs ls hE hW hS hl
              replace hE : m_X12_layWays_b102 F (m_X12_layWays_L44 F k44) (m_X12_layWays_L77 F (m_X12_layWays_L44 F k44) k77) (m_X12_layWays_L102 F (m_X12_layWays_L44 F k44) (m_X12_layWays_L77 F (m_X12_layWays_L44 F k44) k77) k102) v0 v2 v3 v4 v5 v6 v7 fa = some f' := hE
              refine lv_iload hx hb dX12_layWays_102 (lv_at hl 6 rfl) ?_
              refine s_aload_n hx hb dX12_layWays_104 rfl (lv_at hl 0 rfl) ?_
              obtain ⟨c17, hE⟩ := ck hE
              obtain ⟨x18, hx18, hE⟩ := bd hE
              refine s_callV (As := []) (rest := [.int v7]) CF hK hW hS (S_X12_lines l G F hx18) c17 rfl gv_X12_185 hd_X12_lines ⟨Nat.le_of_ble_eq_true rfl, Nat.le_of_ble_eq_true rfl⟩ rfl hl.1 rfl (Nat.le_of_ble_eq_true rfl) dX12_layWays_105 ⟨Nat.le_refl _, Nat.le_refl _⟩ (fun H locs hW hS => ?_)
              refine lv_iconst (v := (1 : Int32)) hx hb dX12_layWays_108 (by decide) ?_
              refine lv_isub hx hb dX12_layWays_109 ?_
              refine lv_icmp_ge (tgt := 167) hx hb dX12_layWays_110 (by decide) (fun q19 => ?_) (fun q19 => ?_)
              · replace hE := ite_t q19 hE
                obtain ⟨y20, ey20⟩ : ∃ y : Int32, y = v6 + (1 : Int32) := ⟨_, rfl⟩
                replace hE := nm_o ey20 hE
                refine lv_iinc (k := 5) (v := y20) (lv' := [(6, .int y20), (0, rr G v0), (2, .int v2), (3, .int v3), (4, .int v4), (5, .int v5), (7, .int v7)]) hx hb dX12_layWays_167 hl rfl (by rw [ey20]; rfl) (by decide) rfl (fun ls hl => ?_)
                refine lv_goto (tgt := 77) hx hb dX12_layWays_170 (by decide) ?_
                exact ih77 _ _ _ _ _ _ _ _ _ _ hE hW hS (lv_sub hl [1, 2, 3, 4, 5, 0] rfl)
              · replace hE := ite_f q19 hE
                refine s_aload_n hx hb dX12_layWays_113 rfl (lv_at hl 0 rfl) ?_
                obtain ⟨x21, hx21, hE⟩ := bd hE
                refine s_gR hx hb hT u_X12 hown hK hW hx21 rfl (by decide) fl_X12_66 rfl dX12_layWays_114 ?_
                refine s_aload_n hx hb dX12_layWays_117 rfl (lv_at hl 0 rfl) ?_
                obtain ⟨x22, hx22, hE⟩ := bd hE
                refine s_gR hx hb hT u_X12 hown hK hW hx22 rfl (by decide) fl_X12_72 rfl dX12_layWays_118 ?_
                refine lv_bipush (v := (6 : Int32)) hx hb dX12_layWays_121 (by decide) ?_
                refine lv_iload hx hb dX12_layWays_123 (lv_at hl 5 rfl) ?_
                refine lv_imul hx hb dX12_layWays_125 ?_
                refine lv_iload hx hb dX12_layWays_126 (lv_at hl 6 rfl) ?_
                refine lv_iadd hx hb dX12_layWays_128 ?_
                obtain ⟨x23, hx23, hE⟩ := bd hE
                refine s_ldI hx hb hK hW hS hx23 dX12_layWays_129 ?_
                refine lv_dup2_11 hx hb dX12_layWays_130 rfl (cat_rr G _) ?_
                obtain ⟨x24, hx24, hE⟩ := bd hE
                refine s_ldJ hx hb hK hW hS hx24 dX12_layWays_131 ?_
                refine s_aload_n hx hb dX12_layWays_132 rfl (lv_at hl 0 rfl) ?_
                obtain ⟨x25, hx25, hE⟩ := bd hE
                refine s_gR hx hb hT u_X12 hown hK hW hx25 rfl (by decide) fl_X12_63 rfl dX12_layWays_133 ?_
                refine lv_iload hx hb dX12_layWays_136 (lv_at hl 5 rfl) ?_
                obtain ⟨x26, hx26, hE⟩ := bd hE
                refine s_ldJ hx hb hK hW hS hx26 dX12_layWays_138 ?_
                refine lv_iload_n hx hb dX12_layWays_139 rfl (lv_at hl 2 rfl) ?_
                refine lv_if_eq (tgt := 147) hx hb dX12_layWays_140 (by decide) (fun q27 => ?_) (fun q27 => ?_)
                · replace hE := ite_t q27 hE
                  refine s_aload_n hx hb dX12_layWays_147 rfl (lv_at hl 0 rfl) ?_
                  obtain ⟨x28, hx28, hE⟩ := bd hE
                  refine s_gR hx hb hT u_X12 hown hK hW hx28 rfl (by decide) fl_X12_13 rfl dX12_layWays_148 ?_
                  refine lv_bipush (v := (102 : Int32)) hx hb dX12_layWays_151 (by decide) ?_
                  refine lv_iload hx hb dX12_layWays_153 (lv_at hl 6 rfl) ?_
                  refine lv_iadd hx hb dX12_layWays_155 ?_
                  obtain ⟨x29, hx29, hE⟩ := bd hE
                  refine s_ldI hx hb hK hW hS hx29 dX12_layWays_156 ?_
                  refine lv_i2l (v := (Int32.toInt64 x29)) hx hb dX12_layWays_157 rfl ?_
                  refine lv_lmul hx hb dX12_layWays_158 ?_
                  refine lv_ladd hx hb dX12_layWays_159 ?_
                  obtain ⟨f30, hf30, hE⟩ := bd hE
                  refine s_stJ hx hb hK hW hS hf30 dX12_layWays_160 (fun H locs hW hS => ?_)
                  obtain ⟨y31, ey31⟩ : ∃ y : Int32, y = v7 + (1 : Int32) := ⟨_, rfl⟩
                  replace hE := nm_o ey31 hE
                  refine lv_iinc (k := 6) (v := y31) (lv' := [(7, .int y31), (0, rr G v0), (2, .int v2), (3, .int v3), (4, .int v4), (5, .int v5), (6, .int v6)]) hx hb dX12_layWays_161 hl rfl (by rw [ey31]; rfl) (by decide) rfl (fun ls hl => ?_)
                  refine lv_goto (tgt := 102) hx hb dX12_layWays_164 (by decide) ?_
                  exact ih102 _ _ _ _ _ _ _ _ _ _ _ hE hW hS (lv_sub hl [1, 2, 3, 4, 5, 6, 0] rfl)
                · replace hE := ite_f q27 hE
                  refine lv_iconst (v := (1 : Int32)) hx hb dX12_layWays_143 (by decide) ?_
                  refine lv_goto (tgt := 157) hx hb dX12_layWays_144 (by decide) ?_
                  refine lv_i2l (v := (Int32.toInt64 (1 : Int32))) hx hb dX12_layWays_157 rfl ?_
                  refine lv_lmul hx hb dX12_layWays_158 ?_
                  refine lv_ladd hx hb dX12_layWays_159 ?_
                  obtain ⟨f32, hf32, hE⟩ := bd hE
                  refine s_stJ hx hb hK hW hS hf32 dX12_layWays_160 (fun H locs hW hS => ?_)
                  obtain ⟨y33, ey33⟩ : ∃ y : Int32, y = v7 + (1 : Int32) := ⟨_, rfl⟩
                  replace hE := nm_o ey33 hE
                  refine lv_iinc (k := 6) (v := y33) (lv' := [(7, .int y33), (0, rr G v0), (2, .int v2), (3, .int v3), (4, .int v4), (5, .int v5), (6, .int v6)]) hx hb dX12_layWays_161 hl rfl (by rw [ey33]; rfl) (by decide) rfl (fun ls hl => ?_)
                  refine lv_goto (tgt := 102) hx hb dX12_layWays_164 (by decide) ?_
                  exact ih102 _ _ _ _ _ _ _ _ _ _ _ hE hW hS (lv_sub hl [1, 2, 3, 4, 5, 6, 0] rfl)
          intro v0 v2 v3 v4 v5 v6 fa H locs ls hE hW hS hl
          replace hE : m_X12_layWays_b77 F (m_X12_layWays_L44 F k44) (m_X12_layWays_L77 F (m_X12_layWays_L44 F k44) k77) v0 v2 v3 v4 v5 v6 fa = some f' := hE
          refine lv_iload hx hb dX12_layWays_77 (lv_at hl 5 rfl) ?_
          refine lv_iload hx hb dX12_layWays_79 (lv_at hl 3 rfl) ?_
          refine lv_icmp_ge (tgt := 173) hx hb dX12_layWays_81 (by decide) (fun q12 => ?_) (fun q12 => ?_)
          · replace hE := ite_t q12 hE
            refine lv_iconst (v := (0 : Int32)) hx hb dX12_layWays_173 (by decide) ?_
            refine lv_istore (lv' := [(6, .int (0 : Int32)), (0, rr G v0), (2, .int v2), (3, .int v3), (4, .int v4), (5, .int v5)]) hx hb dX12_layWays_174 hl (by decide) rfl (fun ls hl => ?_)
            exact hC176 F _ _ _ _ _ _ _ _ _ _ hE hW hS (lv_sub hl [1, 2, 3, 4, 5, 0] rfl)
          · replace hE := ite_f q12 hE
            refine s_aload_n hx hb dX12_layWays_84 rfl (lv_at hl 0 rfl) ?_
            obtain ⟨x13, hx13, hE⟩ := bd hE
            refine s_gR hx hb hT u_X12 hown hK hW hx13 rfl (by decide) fl_X12_63 rfl dX12_layWays_85 ?_
            refine lv_iload hx hb dX12_layWays_88 (lv_at hl 5 rfl) ?_
            obtain ⟨x14, hx14, hE⟩ := bd hE
            refine s_ldJ hx hb hK hW hS hx14 dX12_layWays_90 ?_
            refine lv_lconst (v := (0 : Int64)) hx hb dX12_layWays_91 (by decide) ?_
            refine W.lcmp hx hb dX12_layWays_92 ?_
            refine lv_if_ne (tgt := 99) hx hb dX12_layWays_93 (by decide) (fun q15 => ?_) (fun q15 => ?_)
            · replace hE := ite_f q15 hE
              refine lv_iconst (v := (0 : Int32)) hx hb dX12_layWays_99 (by decide) ?_
              refine lv_istore (lv' := [(7, .int (0 : Int32)), (0, rr G v0), (2, .int v2), (3, .int v3), (4, .int v4), (5, .int v5), (6, .int v6)]) hx hb dX12_layWays_100 hl (by decide) rfl (fun ls hl => ?_)
              exact hC102 F _ _ _ _ _ _ _ _ _ _ _ hE hW hS (lv_sub hl [1, 2, 3, 4, 5, 6, 0] rfl)
            · replace hE := ite_t q15 hE
              refine lv_goto (tgt := 167) hx hb dX12_layWays_96 (by decide) ?_
              obtain ⟨y16, ey16⟩ : ∃ y : Int32, y = v6 + (1 : Int32) := ⟨_, rfl⟩
              replace hE := nm_o ey16 hE
              refine lv_iinc (k := 5) (v := y16) (lv' := [(6, .int y16), (0, rr G v0), (2, .int v2), (3, .int v3), (4, .int v4), (5, .int v5)]) hx hb dX12_layWays_167 hl rfl (by rw [ey16]; rfl) (by decide) rfl (fun ls hl => ?_)
              refine lv_goto (tgt := 77) hx hb dX12_layWays_170 (by decide) ?_
              exact ih77 _ _ _ _ _ _ _ _ _ _ hE hW hS (lv_sub hl [1, 2, 3, 4, 5, 0] rfl)
      have hC53 : ∀ (k53 : Nat), ∀ (v0 : Option Nat) (v2 : Int32) (v3 : Int32) (v4 : Int32) (v5 : Int32) (v6 : Int32) (fa : Hp) (H : Heap) (locs : List Loc) (ls : Array Slot), m_X12_layWays_L53 F (m_X12_layWays_L44 F k44) k53 v0 v2 v3 v4 v5 v6 fa = some f' → Wd G fa n H → va_S (WA G) s.heap H locs → lv_has ls 8 [(0, rr G v0), (2, .int v2), (3, .int v3), (4, .int v4), (5, .int v5), (6, .int v6)] → W p l e (headSpec (wsO yX12_layWays cX12_layWays 8 none) { frames := 4, cells := 0, slots := 0, locals := 92 }).room s m [rr G u0, .int u1, .int u2, .int u3].toArray below meth c H locs 0 0 (MQ below (Qcn G none f' n) [rr G u0, .int u1, .int u2, .int u3].toArray s 0 0 (WA G)) (F0 m 53 ls []) := by
        intro k53
        induction k53 with
        | zero => intro v0 v2 v3 v4 v5 v6 fa H locs ls hE _ _ _; cases (show (none : Option Hp) = some f' from hE)
        | succ k53 ih53 =>
          intro v0 v2 v3 v4 v5 v6 fa H locs ls hE hW hS hl
          replace hE : m_X12_layWays_b53 F (m_X12_layWays_L44 F k44) (m_X12_layWays_L53 F (m_X12_layWays_L44 F k44) k53) v0 v2 v3 v4 v5 v6 fa = some f' := hE
          refine lv_iload hx hb dX12_layWays_53 (lv_at hl 5 rfl) ?_
          refine lv_iload hx hb dX12_layWays_55 (lv_at hl 3 rfl) ?_
          refine lv_icmp_ge (tgt := 74) hx hb dX12_layWays_57 (by decide) (fun q8 => ?_) (fun q8 => ?_)
          · replace hE := ite_t q8 hE
            refine lv_iconst (v := (0 : Int32)) hx hb dX12_layWays_74 (by decide) ?_
            refine lv_istore (lv' := [(6, .int (0 : Int32)), (0, rr G v0), (2, .int v2), (3, .int v3), (4, .int v4), (5, .int v5)]) hx hb dX12_layWays_75 hl (by decide) rfl (fun ls hl => ?_)
            exact hC77 F _ _ _ _ _ _ _ _ _ _ hE hW hS (lv_sub hl [1, 2, 3, 4, 5, 0] rfl)
          · replace hE := ite_f q8 hE
            refine s_aload_n hx hb dX12_layWays_60 rfl (lv_at hl 0 rfl) ?_
            obtain ⟨x9, hx9, hE⟩ := bd hE
            refine s_gR hx hb hT u_X12 hown hK hW hx9 rfl (by decide) fl_X12_66 rfl dX12_layWays_61 ?_
            refine lv_iload hx hb dX12_layWays_64 (lv_at hl 5 rfl) ?_
            refine lv_lconst (v := (0 : Int64)) hx hb dX12_layWays_66 (by decide) ?_
            obtain ⟨f10, hf10, hE⟩ := bd hE
            refine s_stJ hx hb hK hW hS hf10 dX12_layWays_67 (fun H locs hW hS => ?_)
            obtain ⟨y11, ey11⟩ : ∃ y : Int32, y = v6 + (1 : Int32) := ⟨_, rfl⟩
            replace hE := nm_o ey11 hE
            refine lv_iinc (k := 5) (v := y11) (lv' := [(6, .int y11), (0, rr G v0), (2, .int v2), (3, .int v3), (4, .int v4), (5, .int v5)]) hx hb dX12_layWays_68 hl rfl (by rw [ey11]; rfl) (by decide) rfl (fun ls hl => ?_)
            refine lv_goto (tgt := 53) hx hb dX12_layWays_71 (by decide) ?_
            exact ih53 _ _ _ _ _ _ _ _ _ _ hE hW hS (lv_sub hl [1, 2, 3, 4, 5, 0] rfl)
      intro v0 v2 v3 v4 v5 fa H locs ls hE hW hS hl
      replace hE : m_X12_layWays_b44 F (m_X12_layWays_L44 F k44) v0 v2 v3 v4 v5 fa = some f' := hE
      refine lv_iload hx hb dX12_layWays_44 (lv_at hl 4 rfl) ?_
      refine lv_iload_n hx hb dX12_layWays_46 rfl (lv_at hl 1 rfl) ?_
      refine lv_icmp_ge (tgt := 209) hx hb dX12_layWays_47 (by decide) (fun q7 => ?_) (fun q7 => ?_)
      · replace hE := ite_t q7 hE
        obtain rfl := so1 hE
        exact s_vret hx hb hr hlocks hW hS dX12_layWays_209
      · replace hE := ite_f q7 hE
        refine lv_iconst (v := (0 : Int32)) hx hb dX12_layWays_50 (by decide) ?_
        refine lv_istore (lv' := [(6, .int (0 : Int32)), (0, rr G v0), (2, .int v2), (3, .int v3), (4, .int v4), (5, .int v5)]) hx hb dX12_layWays_51 hl (by decide) rfl (fun ls hl => ?_)
        exact hC53 F _ _ _ _ _ _ _ _ _ _ hE hW hS (lv_sub hl [1, 2, 3, 4, 5, 0] rfl)
  have hC13 : ∀ (k13 : Nat), ∀ (v0 : Option Nat) (v1 : Int32) (v2 : Int32) (v3 : Int32) (v4 : Int32) (v5 : Int32) (fa : Hp) (H : Heap) (locs : List Loc) (ls : Array Slot), m_X12_layWays_L13 F k13 v0 v1 v2 v3 v4 v5 fa = some f' → Wd G fa n H → va_S (WA G) s.heap H locs → lv_has ls 8 [(0, rr G v0), (1, .int v1), (2, .int v2), (3, .int v3), (4, .int v4), (5, .int v5)] → W p l e (headSpec (wsO yX12_layWays cX12_layWays 8 none) { frames := 4, cells := 0, slots := 0, locals := 92 }).room s m [rr G u0, .int u1, .int u2, .int u3].toArray below meth c H locs 0 0 (MQ below (Qcn G none f' n) [rr G u0, .int u1, .int u2, .int u3].toArray s 0 0 (WA G)) (F0 m 13 ls []) := by
    intro k13
    induction k13 with
    | zero => intro v0 v1 v2 v3 v4 v5 fa H locs ls hE _ _ _; cases (show (none : Option Hp) = some f' from hE)
    | succ k13 ih13 =>
      intro v0 v1 v2 v3 v4 v5 fa H locs ls hE hW hS hl
      replace hE : m_X12_layWays_b13 F (m_X12_layWays_L13 F k13) v0 v1 v2 v3 v4 v5 fa = some f' := hE
      refine lv_iload hx hb dX12_layWays_13 (lv_at hl 5 rfl) ?_
      refine lv_iload hx hb dX12_layWays_15 (lv_at hl 4 rfl) ?_
      refine lv_icmp_ge (tgt := 34) hx hb dX12_layWays_17 (by decide) (fun q1 => ?_) (fun q1 => ?_)
      · replace hE := ite_t q1 hE
        refine s_aload_n hx hb dX12_layWays_34 rfl (lv_at hl 0 rfl) ?_
        obtain ⟨x2, hx2, hE⟩ := bd hE
        refine s_gR hx hb hT u_X12 hown hK hW hx2 rfl (by decide) fl_X12_63 rfl dX12_layWays_35 ?_
        refine lv_iload_n hx hb dX12_layWays_38 rfl (lv_at hl 1 rfl) ?_
        refine lv_lconst (v := (1 : Int64)) hx hb dX12_layWays_39 (by decide) ?_
        obtain ⟨f3, hf3, hE⟩ := bd hE
        refine s_stJ hx hb hK hW hS hf3 dX12_layWays_40 (fun H locs hW hS => ?_)
        refine lv_iconst (v := (0 : Int32)) hx hb dX12_layWays_41 (by decide) ?_
        refine lv_istore (lv' := [(5, .int (0 : Int32)), (0, rr G v0), (1, .int v1), (2, .int v2), (3, .int v3), (4, .int v4)]) hx hb dX12_layWays_42 hl (by decide) rfl (fun ls hl => ?_)
        exact hC44 F _ _ _ _ _ _ _ _ _ hE hW hS (lv_sub hl [1, 3, 4, 5, 0] rfl)
      · replace hE := ite_f q1 hE
        refine s_aload_n hx hb dX12_layWays_20 rfl (lv_at hl 0 rfl) ?_
        obtain ⟨x4, hx4, hE⟩ := bd hE
        refine s_gR hx hb hT u_X12 hown hK hW hx4 rfl (by decide) fl_X12_63 rfl dX12_layWays_21 ?_
        refine lv_iload hx hb dX12_layWays_24 (lv_at hl 5 rfl) ?_
        refine lv_lconst (v := (0 : Int64)) hx hb dX12_layWays_26 (by decide) ?_
        obtain ⟨f5, hf5, hE⟩ := bd hE
        refine s_stJ hx hb hK hW hS hf5 dX12_layWays_27 (fun H locs hW hS => ?_)
        obtain ⟨y6, ey6⟩ : ∃ y : Int32, y = v5 + (1 : Int32) := ⟨_, rfl⟩
        replace hE := nm_o ey6 hE
        refine lv_iinc (k := 5) (v := y6) (lv' := [(5, .int y6), (0, rr G v0), (1, .int v1), (2, .int v2), (3, .int v3), (4, .int v4)]) hx hb dX12_layWays_28 hl rfl (by rw [ey6]; rfl) (by decide) rfl (fun ls hl => ?_)
        refine lv_goto (tgt := 13) hx hb dX12_layWays_31 (by decide) ?_
        exact ih13 _ _ _ _ _ _ _ _ _ _ hE hW hS (lv_sub hl [1, 2, 3, 4, 5, 0] rfl)
  refine s_aload_n hx hb dX12_layWays_0 rfl (lv_at hl 0 rfl) ?_
  obtain ⟨c41, hE⟩ := ck hE
  obtain ⟨f42, hf42, hE⟩ := bd hE
  refine s_callV (As := []) (rest := []) CF hK hW hS (S_X12_layNeighbours l G F hf42) c41 rfl gv_X12_316 hd_X12_layNeighbours ⟨Nat.le_of_ble_eq_true rfl, Nat.le_of_ble_eq_true rfl⟩ rfl hl.1 rfl (Nat.le_of_ble_eq_true rfl) dX12_layWays_1 ⟨Nat.le_refl _, Nat.le_refl _⟩ (fun H locs hW hS => ?_)
  refine s_aload_n hx hb dX12_layWays_4 rfl (lv_at hl 0 rfl) ?_
  obtain ⟨c43, hE⟩ := ck hE
  obtain ⟨x44, hx44, hE⟩ := bd hE
  refine s_callV (As := []) (rest := []) CF hK hW hS (S_X12_orders l G F hx44) c43 rfl gv_X12_251 hd_X12_orders ⟨Nat.le_of_ble_eq_true rfl, Nat.le_of_ble_eq_true rfl⟩ rfl hl.1 rfl (Nat.le_of_ble_eq_true rfl) dX12_layWays_5 ⟨Nat.le_refl _, Nat.le_refl _⟩ (fun H locs hW hS => ?_)
  refine lv_istore (lv' := [(4, .int x44), (0, rr G u0), (1, .int u1), (2, .int u2), (3, .int u3)]) hx hb dX12_layWays_8 hl (by decide) rfl (fun ls hl => ?_)
  refine lv_iconst (v := (0 : Int32)) hx hb dX12_layWays_10 (by decide) ?_
  refine lv_istore (lv' := [(5, .int (0 : Int32)), (4, .int x44), (0, rr G u0), (1, .int u1), (2, .int u2), (3, .int u3)]) hx hb dX12_layWays_11 hl (by decide) rfl (fun ls hl => ?_)
  exact hC13 F _ _ _ _ _ _ _ _ _ _ hE hW hS (lv_sub hl [2, 3, 4, 5, 1, 0] rfl)
set_option maxHeartbeats 4000000 in
set_option maxRecDepth 100000 in
theorem S_X12_again (l : Launch) (G : GG) (F : Nat) {u0 : Option Nat} {u1 : Int32} {f : Hp} {r : Int32} {f' : Hp} {n : Nat} (hE : m_X12_again F u0 u1 f = some (r, f')) : Ctr l G yX12_again cX12_again 2 (some .int) 5 119 [rr G u0, .int u1] f n (some (.int r)) f' n 0 0 := by
  refine Met.ofW (cc := cX12_again) (maxL := 2) (ret := (some .int)) (by decide) rfl ?_
  intro p e s m args below meth c s₁ B hml hv
  obtain ⟨rfl, hK, hW⟩ := hv
  have hx := B.exec
  have hb := B.bytes
  have hr := B.returns
  have hts := atoms_spec (ws := wsO yX12_again cX12_again 2 (some .int)) B.pre
  have hT : ∀ w ∈ TB, w.before [rr G u0, .int u1].toArray s = true := fun w hw => hts w (List.mem_cons_of_mem _ hw)
  have hown : s.vm.findClass RX12 = some m.cls := findClass_of_methodNamed B.named
  have hlocks := B.notSynchronized
  have CF : CallFix p m c cX12_again 2 s [rr G u0, .int u1].toArray TB RX12 := ⟨hx, hb, hml, hown, hT⟩
  have hS : va_S (WA G) s.heap s.heap [] := va_S.rf
  have hl : lv_has (lg_sl ([rr G u0, .int u1]) ++ List.replicate (2 - (lg_sl ([rr G u0, .int u1])).length) Slot.unset).toArray 2 [(0, rr G u0), (1, .int u1)] := by cases u0 <;> exact lv_entry _ (Nat.le_of_ble_eq_true rfl)
  rw [lg_entry_eq]
  generalize (lg_sl ([rr G u0, .int u1]) ++ List.replicate (2 - (lg_sl ([rr G u0, .int u1])).length) Slot.unset).toArray = ls at hl ⊢
  refine s_aload_n hx hb dX12_again_0 rfl (lv_at hl 0 rfl) ?_
  refine lv_iconst (v := (0 : Int32)) hx hb dX12_again_1 (by decide) ?_
  obtain ⟨f1, hf1, hE⟩ := bd hE
  refine s_putI hx hb hT u_X12 tyX12 tyX12_ok nmX12 hown hK hW hS hf1 rfl (by decide) fl_X12_81 rfl (Or.inl rfl) rfl dX12_again_2 (fun H locs hW hS => ?_)
  refine s_aload_n hx hb dX12_again_5 rfl (lv_at hl 0 rfl) ?_
  obtain ⟨c2, hE⟩ := ck hE
  obtain ⟨f3, hf3, hE⟩ := bd hE
  refine s_callV (As := []) (rest := []) CF hK hW hS (S_X12_lay l G F hf3) c2 rfl gv_X12_164 hd_X12_lay ⟨Nat.le_of_ble_eq_true rfl, Nat.le_of_ble_eq_true rfl⟩ rfl hl.1 rfl (Nat.le_of_ble_eq_true rfl) dX12_again_6 ⟨Nat.le_refl _, Nat.le_refl _⟩ (fun H locs hW hS => ?_)
  refine lv_iload_n hx hb dX12_again_9 rfl (lv_at hl 1 rfl) ?_
  refine lv_iconst (v := (0 : Int32)) hx hb dX12_again_10 (by decide) ?_
  refine lv_bipush (v := (10 : Int32)) hx hb dX12_again_11 (by decide) ?_
  obtain ⟨x4, hx4, hE⟩ := bd hE
  refine s_callS (As := [.int u1, .int (0 : Int32), .int (10 : Int32)]) (rest := []) CF hK hW hS (S_X12_isIn l G F hx4) gs_X12_151 hd_X12_isIn.2 ⟨Nat.le_of_ble_eq_true rfl, Nat.le_of_ble_eq_true rfl⟩ rfl hl.1 rfl (Nat.le_of_ble_eq_true rfl) dX12_again_13 ⟨Nat.le_refl _, Nat.le_refl _⟩ (fun H locs hW hS => ?_)
  refine lv_if_ne (tgt := 21) hx hb dX12_again_16 (by decide) (fun q5 => ?_) (fun q5 => ?_)
  · replace hE := ite_f q5 hE
    refine s_aload_n hx hb dX12_again_21 rfl (lv_at hl 0 rfl) ?_
    refine lv_iconst (v := (0 : Int32)) hx hb dX12_again_22 (by decide) ?_
    refine lv_iload_n hx hb dX12_again_23 rfl (lv_at hl 1 rfl) ?_
    refine lv_iconst (v := (1 : Int32)) hx hb dX12_again_24 (by decide) ?_
    obtain ⟨c6, hE⟩ := ck hE
    obtain ⟨f7, hf7, hE⟩ := bd hE
    refine s_callV (As := [.int (0 : Int32), .int u1, .int (1 : Int32)]) (rest := []) CF hK hW hS (S_X12_layWays l G F hf7) c6 rfl gv_X12_321 hd_X12_layWays ⟨Nat.le_of_ble_eq_true rfl, Nat.le_of_ble_eq_true rfl⟩ rfl hl.1 rfl (Nat.le_of_ble_eq_true rfl) dX12_again_25 ⟨Nat.le_refl _, Nat.le_refl _⟩ (fun H locs hW hS => ?_)
    refine s_aload_n hx hb dX12_again_28 rfl (lv_at hl 0 rfl) ?_
    obtain ⟨x8, hx8, hE⟩ := bd hE
    refine s_gR hx hb hT u_X12 hown hK hW hx8 rfl (by decide) fl_X12_63 rfl dX12_again_29 ?_
    refine lv_iconst (v := (0 : Int32)) hx hb dX12_again_32 (by decide) ?_
    obtain ⟨x9, hx9, hE⟩ := bd hE
    refine s_ldJ hx hb hK hW hS hx9 dX12_again_33 ?_
    refine lv_l2i (v := (Int64.toInt32 x9)) hx hb dX12_again_34 rfl ?_
    obtain ⟨rfl, rfl⟩ := so2 hE
    exact s_iret hx hb hr hlocks hW hS dX12_again_35
  · replace hE := ite_t q5 hE
    refine lv_iconst (v := (-1 : Int32)) hx hb dX12_again_19 (by decide) ?_
    obtain ⟨rfl, rfl⟩ := so2 hE
    exact s_iret hx hb hr hlocks hW hS dX12_again_20
set_option maxHeartbeats 4000000 in
set_option maxRecDepth 100000 in
theorem S_X12_allLikely (l : Launch) (G : GG) (F : Nat) {u0 : Option Nat} {f : Hp} {r : Int32} {n : Nat} (hE : m_X12_allLikely F u0 f = some r) : Ctr l G yX12_allLikely cX12_allLikely 3 (some .int) 1 20 [rr G u0] f n (some (.int r)) f n 0 0 := by
  refine Met.ofW (cc := cX12_allLikely) (maxL := 3) (ret := (some .int)) (by decide) rfl ?_
  intro p e s m args below meth c s₁ B hml hv
  obtain ⟨rfl, hK, hW⟩ := hv
  have hx := B.exec
  have hb := B.bytes
  have hr := B.returns
  have hts := atoms_spec (ws := wsO yX12_allLikely cX12_allLikely 3 (some .int)) B.pre
  have hT : ∀ w ∈ TB, w.before [rr G u0].toArray s = true := fun w hw => hts w (List.mem_cons_of_mem _ hw)
  have hown : s.vm.findClass RX12 = some m.cls := findClass_of_methodNamed B.named
  have hlocks := B.notSynchronized
  have CF : CallFix p m c cX12_allLikely 3 s [rr G u0].toArray TB RX12 := ⟨hx, hb, hml, hown, hT⟩
  have hS : va_S (WA G) s.heap s.heap [] := va_S.rf
  have hl : lv_has (lg_sl ([rr G u0]) ++ List.replicate (3 - (lg_sl ([rr G u0])).length) Slot.unset).toArray 3 [(0, rr G u0)] := by cases u0 <;> exact lv_entry _ (Nat.le_of_ble_eq_true rfl)
  rw [lg_entry_eq]
  generalize (lg_sl ([rr G u0]) ++ List.replicate (3 - (lg_sl ([rr G u0])).length) Slot.unset).toArray = ls at hl ⊢
  have hC4 : ∀ (k4 : Nat), ∀ (v0 : Option Nat) (v1 : Int32) (v2 : Int32) (H : Heap) (locs : List Loc) (ls : Array Slot), m_X12_allLikely_L4 F k4 v0 v1 v2 f = some r → Wd G f n H → va_S (WA G) s.heap H locs → lv_has ls 3 [(0, rr G v0), (1, .int v1), (2, .int v2)] → W p l e (headSpec (wsO yX12_allLikely cX12_allLikely 3 (some .int)) { frames := 1, cells := 0, slots := 0, locals := 20 }).room s m [rr G u0].toArray below meth c H locs 0 0 (MQ below (Qcn G (some (.int r)) f n) [rr G u0].toArray s 0 0 (WA G)) (F0 m 4 ls []) := by
    intro k4
    induction k4 with
    | zero => intro v0 v1 v2 H locs ls hE _ _ _; cases (show (none : Option Int32) = some r from hE)
    | succ k4 ih4 =>
      intro v0 v1 v2 H locs ls hE hW hS hl
      replace hE : m_X12_allLikely_b4 F (m_X12_allLikely_L4 F k4) v0 v1 v2 f = some r := hE
      refine lv_iload_n hx hb dX12_allLikely_4 rfl (lv_at hl 2 rfl) ?_
      refine s_aload_n hx hb dX12_allLikely_5 rfl (lv_at hl 0 rfl) ?_
      obtain ⟨c1, hE⟩ := ck hE
      obtain ⟨x2, hx2, hE⟩ := bd hE
      refine s_callV (As := []) (rest := [.int v2]) CF hK hW hS (S_X12_lines l G F hx2) c1 rfl gv_X12_185 hd_X12_lines ⟨Nat.le_of_ble_eq_true rfl, Nat.le_of_ble_eq_true rfl⟩ rfl hl.1 rfl (Nat.le_of_ble_eq_true rfl) dX12_allLikely_6 ⟨Nat.le_refl _, Nat.le_refl _⟩ (fun H locs hW hS => ?_)
      refine lv_iconst (v := (1 : Int32)) hx hb dX12_allLikely_9 (by decide) ?_
      refine lv_isub hx hb dX12_allLikely_10 ?_
      refine lv_icmp_ge (tgt := 32) hx hb dX12_allLikely_11 (by decide) (fun q3 => ?_) (fun q3 => ?_)
      · replace hE := ite_t q3 hE
        refine lv_iload_n hx hb dX12_allLikely_32 rfl (lv_at hl 1 rfl) ?_
        obtain rfl := so1 hE
        exact s_iret hx hb hr hlocks hW hS dX12_allLikely_33
      · replace hE := ite_f q3 hE
        refine lv_iload_n hx hb dX12_allLikely_14 rfl (lv_at hl 1 rfl) ?_
        refine s_aload_n hx hb dX12_allLikely_15 rfl (lv_at hl 0 rfl) ?_
        obtain ⟨x4, hx4, hE⟩ := bd hE
        refine s_gR hx hb hT u_X12 hown hK hW hx4 rfl (by decide) fl_X12_13 rfl dX12_allLikely_16 ?_
        refine lv_bipush (v := (102 : Int32)) hx hb dX12_allLikely_19 (by decide) ?_
        refine lv_iload_n hx hb dX12_allLikely_21 rfl (lv_at hl 2 rfl) ?_
        refine lv_iadd hx hb dX12_allLikely_22 ?_
        obtain ⟨x5, hx5, hE⟩ := bd hE
        refine s_ldI hx hb hK hW hS hx5 dX12_allLikely_23 ?_
        refine lv_iadd hx hb dX12_allLikely_24 ?_
        refine lv_topi (fun y6 ey6 => ?_)
        replace hE := nm_o ey6 hE
        refine lv_istore_n (i := 1) (lv' := [(1, .int y6), (0, rr G v0), (2, .int v2)]) hx hb dX12_allLikely_25 rfl hl (by decide) (by simp [cat_rr]) (fun ls hl => ?_)
        obtain ⟨y7, ey7⟩ : ∃ y : Int32, y = v2 + (1 : Int32) := ⟨_, rfl⟩
        replace hE := nm_o ey7 hE
        refine lv_iinc (k := 2) (v := y7) (lv' := [(2, .int y7), (1, .int y6), (0, rr G v0)]) hx hb dX12_allLikely_26 hl rfl (by rw [ey7]; rfl) (by decide) rfl (fun ls hl => ?_)
        refine lv_goto (tgt := 4) hx hb dX12_allLikely_29 (by decide) ?_
        exact ih4 _ _ _ _ _ _ hE hW hS (lv_sub hl [2, 1, 0] rfl)
  refine lv_iconst (v := (0 : Int32)) hx hb dX12_allLikely_0 (by decide) ?_
  refine lv_istore_n (i := 1) (lv' := [(1, .int (0 : Int32)), (0, rr G u0)]) hx hb dX12_allLikely_1 rfl hl (by decide) (by simp [cat_rr]) (fun ls hl => ?_)
  refine lv_iconst (v := (0 : Int32)) hx hb dX12_allLikely_2 (by decide) ?_
  refine lv_istore_n (i := 2) (lv' := [(2, .int (0 : Int32)), (1, .int (0 : Int32)), (0, rr G u0)]) hx hb dX12_allLikely_3 rfl hl (by decide) rfl (fun ls hl => ?_)
  exact hC4 F _ _ _ _ _ _ hE hW hS (lv_sub hl [2, 1, 0] rfl)
set_option maxHeartbeats 4000000 in
set_option maxRecDepth 100000 in
theorem S_X12_isOrder (l : Launch) (G : GG) (F : Nat) {u0 : Option Nat} {u1 : Int32} {f : Hp} {r : Int32} {n : Nat} (hE : m_X12_isOrder F u0 u1 f = some r) : Ctr l G yX12_isOrder cX12_isOrder 2 (some .boolean) 2 42 [rr G u0, .int u1] f n (some (.int r)) f n 0 0 := by
  refine Met.ofW (cc := cX12_isOrder) (maxL := 2) (ret := (some .boolean)) (by decide) rfl ?_
  intro p e s m args below meth c s₁ B hml hv
  obtain ⟨rfl, hK, hW⟩ := hv
  have hx := B.exec
  have hb := B.bytes
  have hr := B.returns
  have hts := atoms_spec (ws := wsO yX12_isOrder cX12_isOrder 2 (some .boolean)) B.pre
  have hT : ∀ w ∈ TB, w.before [rr G u0, .int u1].toArray s = true := fun w hw => hts w (List.mem_cons_of_mem _ hw)
  have hown : s.vm.findClass RX12 = some m.cls := findClass_of_methodNamed B.named
  have hlocks := B.notSynchronized
  have CF : CallFix p m c cX12_isOrder 2 s [rr G u0, .int u1].toArray TB RX12 := ⟨hx, hb, hml, hown, hT⟩
  have hS : va_S (WA G) s.heap s.heap [] := va_S.rf
  have hl : lv_has (lg_sl ([rr G u0, .int u1]) ++ List.replicate (2 - (lg_sl ([rr G u0, .int u1])).length) Slot.unset).toArray 2 [(0, rr G u0), (1, .int u1)] := by cases u0 <;> exact lv_entry _ (Nat.le_of_ble_eq_true rfl)
  rw [lg_entry_eq]
  generalize (lg_sl ([rr G u0, .int u1]) ++ List.replicate (2 - (lg_sl ([rr G u0, .int u1])).length) Slot.unset).toArray = ls at hl ⊢
  refine lv_iload_n hx hb dX12_isOrder_0 rfl (lv_at hl 1 rfl) ?_
  refine lv_if_lt (tgt := 16) hx hb dX12_isOrder_1 (by decide) (fun q1 => ?_) (fun q1 => ?_)
  · replace hE := ite_t q1 hE
    refine lv_iconst (v := (0 : Int32)) hx hb dX12_isOrder_16 (by decide) ?_
    obtain ⟨c2, hE⟩ := ck hE
    obtain rfl := so1 hE
    exact s_zret hx hb hr c2 hlocks hW hS dX12_isOrder_17
  · replace hE := ite_f q1 hE
    refine lv_iload_n hx hb dX12_isOrder_4 rfl (lv_at hl 1 rfl) ?_
    refine s_aload_n hx hb dX12_isOrder_5 rfl (lv_at hl 0 rfl) ?_
    obtain ⟨c3, hE⟩ := ck hE
    obtain ⟨x4, hx4, hE⟩ := bd hE
    refine s_callV (As := []) (rest := [.int u1]) CF hK hW hS (S_X12_orders l G F hx4) c3 rfl gv_X12_251 hd_X12_orders ⟨Nat.le_of_ble_eq_true rfl, Nat.le_of_ble_eq_true rfl⟩ rfl hl.1 rfl (Nat.le_of_ble_eq_true rfl) dX12_isOrder_6 ⟨Nat.le_refl _, Nat.le_refl _⟩ (fun H locs hW hS => ?_)
    refine lv_icmp_ge (tgt := 16) hx hb dX12_isOrder_9 (by decide) (fun q5 => ?_) (fun q5 => ?_)
    · replace hE := ite_t q5 hE
      refine lv_iconst (v := (0 : Int32)) hx hb dX12_isOrder_16 (by decide) ?_
      obtain ⟨c6, hE⟩ := ck hE
      obtain rfl := so1 hE
      exact s_zret hx hb hr c6 hlocks hW hS dX12_isOrder_17
    · replace hE := ite_f q5 hE
      refine lv_iconst (v := (1 : Int32)) hx hb dX12_isOrder_12 (by decide) ?_
      refine lv_goto (tgt := 17) hx hb dX12_isOrder_13 (by decide) ?_
      obtain ⟨c7, hE⟩ := ck hE
      obtain rfl := so1 hE
      exact s_zret hx hb hr c7 hlocks hW hS dX12_isOrder_17
set_option maxHeartbeats 4000000 in
set_option maxRecDepth 100000 in
theorem S_X12_layOrder (l : Launch) (G : GG) (F : Nat) {u0 : Option Nat} {u1 : Int32} {u2 : Option Nat} {f : Hp} {f' : Hp} {n : Nat} (hE : m_X12_layOrder F u0 u1 u2 f = some f') : Ctr l G yX12_layOrder cX12_layOrder 4 none 3 69 [rr G u0, .int u1, rr G u2] f n none f' n 0 0 := by
  refine Met.ofW (cc := cX12_layOrder) (maxL := 4) (ret := none) (by decide) rfl ?_
  intro p e s m args below meth c s₁ B hml hv
  obtain ⟨rfl, hK, hW⟩ := hv
  have hx := B.exec
  have hb := B.bytes
  have hr := B.returns
  have hts := atoms_spec (ws := wsO yX12_layOrder cX12_layOrder 4 none) B.pre
  have hT : ∀ w ∈ TB, w.before [rr G u0, .int u1, rr G u2].toArray s = true := fun w hw => hts w (List.mem_cons_of_mem _ hw)
  have hown : s.vm.findClass RX12 = some m.cls := findClass_of_methodNamed B.named
  have hlocks := B.notSynchronized
  have CF : CallFix p m c cX12_layOrder 4 s [rr G u0, .int u1, rr G u2].toArray TB RX12 := ⟨hx, hb, hml, hown, hT⟩
  have hS : va_S (WA G) s.heap s.heap [] := va_S.rf
  have hl : lv_has (lg_sl ([rr G u0, .int u1, rr G u2]) ++ List.replicate (4 - (lg_sl ([rr G u0, .int u1, rr G u2])).length) Slot.unset).toArray 4 [(0, rr G u0), (1, .int u1), (2, rr G u2)] := by cases u0 <;> cases u2 <;> exact lv_entry _ (Nat.le_of_ble_eq_true rfl)
  rw [lg_entry_eq]
  generalize (lg_sl ([rr G u0, .int u1, rr G u2]) ++ List.replicate (4 - (lg_sl ([rr G u0, .int u1, rr G u2])).length) Slot.unset).toArray = ls at hl ⊢
  have hC7 : ∀ (k7 : Nat), ∀ (v0 : Option Nat) (v2 : Option Nat) (v3 : Int32) (fa : Hp) (H : Heap) (locs : List Loc) (ls : Array Slot), m_X12_layOrder_L7 F k7 v0 v2 v3 fa = some f' → Wd G fa n H → va_S (WA G) s.heap H locs → lv_has ls 4 [(0, rr G v0), (2, rr G v2), (3, .int v3)] → W p l e (headSpec (wsO yX12_layOrder cX12_layOrder 4 none) { frames := 3, cells := 0, slots := 0, locals := 69 }).room s m [rr G u0, .int u1, rr G u2].toArray below meth c H locs 0 0 (MQ below (Qcn G none f' n) [rr G u0, .int u1, rr G u2].toArray s 0 0 (WA G)) (F0 m 7 ls []) := by
    intro k7
    induction k7 with
    | zero => intro v0 v2 v3 fa H locs ls hE _ _ _; cases (show (none : Option Hp) = some f' from hE)
    | succ k7 ih7 =>
      intro v0 v2 v3 fa H locs ls hE hW hS hl
      replace hE : m_X12_layOrder_b7 F (m_X12_layOrder_L7 F k7) v0 v2 v3 fa = some f' := hE
      refine lv_iload_n hx hb dX12_layOrder_7 rfl (lv_at hl 2 rfl) ?_
      refine lv_bipush (v := (7 : Int32)) hx hb dX12_layOrder_8 (by decide) ?_
      refine lv_icmp_ge (tgt := 40) hx hb dX12_layOrder_10 (by decide) (fun q1 => ?_) (fun q1 => ?_)
      · replace hE := ite_t q1 hE
        obtain rfl := so1 hE
        exact s_vret hx hb hr hlocks hW hS dX12_layOrder_40
      · replace hE := ite_f q1 hE
        refine s_aload_n hx hb dX12_layOrder_13 rfl (lv_at hl 1 rfl) ?_
        refine lv_iload_n hx hb dX12_layOrder_14 rfl (lv_at hl 2 rfl) ?_
        refine lv_iload_n hx hb dX12_layOrder_15 rfl (lv_at hl 2 rfl) ?_
        refine s_aload_n hx hb dX12_layOrder_16 rfl (lv_at hl 0 rfl) ?_
        obtain ⟨c2, hE⟩ := ck hE
        obtain ⟨x3, hx3, hE⟩ := bd hE
        refine s_callV (As := []) (rest := [.int v3, .int v3, rr G v2]) CF hK hW hS (S_X12_lines l G F hx3) c2 rfl gv_X12_185 hd_X12_lines ⟨Nat.le_of_ble_eq_true rfl, Nat.le_of_ble_eq_true rfl⟩ rfl hl.1 rfl (Nat.le_of_ble_eq_true rfl) dX12_layOrder_17 ⟨Nat.le_refl _, Nat.le_refl _⟩ (fun H locs hW hS => ?_)
        refine lv_icmp_ge (tgt := 32) hx hb dX12_layOrder_20 (by decide) (fun q4 => ?_) (fun q4 => ?_)
        · replace hE := ite_t q4 hE
          refine lv_iconst (v := (-1 : Int32)) hx hb dX12_layOrder_32 (by decide) ?_
          obtain ⟨f5, hf5, hE⟩ := bd hE
          refine s_stI hx hb hK hW hS hf5 dX12_layOrder_33 (fun H locs hW hS => ?_)
          obtain ⟨y6, ey6⟩ : ∃ y : Int32, y = v3 + (1 : Int32) := ⟨_, rfl⟩
          replace hE := nm_o ey6 hE
          refine lv_iinc (k := 2) (v := y6) (lv' := [(3, .int y6), (0, rr G v0), (2, rr G v2)]) hx hb dX12_layOrder_34 hl rfl (by rw [ey6]; rfl) (by decide) (by simp [cat_rr]) (fun ls hl => ?_)
          refine lv_goto (tgt := 7) hx hb dX12_layOrder_37 (by decide) ?_
          exact ih7 _ _ _ _ _ _ _ hE hW hS (lv_sub hl [1, 2, 0] rfl)
        · replace hE := ite_f q4 hE
          refine s_aload_n hx hb dX12_layOrder_23 rfl (lv_at hl 0 rfl) ?_
          obtain ⟨x7, hx7, hE⟩ := bd hE
          refine s_gR hx hb hT u_X12 hown hK hW hx7 rfl (by decide) fl_X12_39 rfl dX12_layOrder_24 ?_
          refine lv_iload_n hx hb dX12_layOrder_27 rfl (lv_at hl 2 rfl) ?_
          obtain ⟨x8, hx8, hE⟩ := bd hE
          refine s_ldI hx hb hK hW hS hx8 dX12_layOrder_28 ?_
          refine lv_goto (tgt := 33) hx hb dX12_layOrder_29 (by decide) ?_
          obtain ⟨f9, hf9, hE⟩ := bd hE
          refine s_stI hx hb hK hW hS hf9 dX12_layOrder_33 (fun H locs hW hS => ?_)
          obtain ⟨y10, ey10⟩ : ∃ y : Int32, y = v3 + (1 : Int32) := ⟨_, rfl⟩
          replace hE := nm_o ey10 hE
          refine lv_iinc (k := 2) (v := y10) (lv' := [(3, .int y10), (0, rr G v0), (2, rr G v2)]) hx hb dX12_layOrder_34 hl rfl (by rw [ey10]; rfl) (by decide) (by simp [cat_rr]) (fun ls hl => ?_)
          refine lv_goto (tgt := 7) hx hb dX12_layOrder_37 (by decide) ?_
          exact ih7 _ _ _ _ _ _ _ hE hW hS (lv_sub hl [1, 2, 0] rfl)
  refine s_aload_n hx hb dX12_layOrder_0 rfl (lv_at hl 0 rfl) ?_
  refine lv_iload_n hx hb dX12_layOrder_1 rfl (lv_at hl 1 rfl) ?_
  obtain ⟨c11, hE⟩ := ck hE
  obtain ⟨f12, hf12, hE⟩ := bd hE
  refine s_callV (As := [.int u1]) (rest := []) CF hK hW hS (S_X12_lay_ l G F hf12) c11 rfl gv_X12_257 hd_X12_lay_ ⟨Nat.le_of_ble_eq_true rfl, Nat.le_of_ble_eq_true rfl⟩ rfl hl.1 rfl (Nat.le_of_ble_eq_true rfl) dX12_layOrder_2 ⟨Nat.le_refl _, Nat.le_refl _⟩ (fun H locs hW hS => ?_)
  refine lv_iconst (v := (0 : Int32)) hx hb dX12_layOrder_5 (by decide) ?_
  refine lv_istore_n (i := 3) (lv' := [(3, .int (0 : Int32)), (0, rr G u0), (1, .int u1), (2, rr G u2)]) hx hb dX12_layOrder_6 rfl hl (by decide) (by simp [cat_rr]) (fun ls hl => ?_)
  exact hC7 F _ _ _ _ _ _ _ hE hW hS (lv_sub hl [1, 3, 0] rfl)
set_option maxHeartbeats 4000000 in
set_option maxRecDepth 100000 in
theorem S_X12_steps (l : Launch) (G : GG) (F : Nat) {u0 : Option Nat} {f : Hp} {r : Int32} {n : Nat} (hE : m_X12_steps F u0 f = some r) : Ctr l G yX12_steps cX12_steps 4 (some .int) 1 20 [rr G u0] f n (some (.int r)) f n 0 0 := by
  refine Met.ofW (cc := cX12_steps) (maxL := 4) (ret := (some .int)) (by decide) rfl ?_
  intro p e s m args below meth c s₁ B hml hv
  obtain ⟨rfl, hK, hW⟩ := hv
  have hx := B.exec
  have hb := B.bytes
  have hr := B.returns
  have hts := atoms_spec (ws := wsO yX12_steps cX12_steps 4 (some .int)) B.pre
  have hT : ∀ w ∈ TB, w.before [rr G u0].toArray s = true := fun w hw => hts w (List.mem_cons_of_mem _ hw)
  have hown : s.vm.findClass RX12 = some m.cls := findClass_of_methodNamed B.named
  have hlocks := B.notSynchronized
  have CF : CallFix p m c cX12_steps 4 s [rr G u0].toArray TB RX12 := ⟨hx, hb, hml, hown, hT⟩
  have hS : va_S (WA G) s.heap s.heap [] := va_S.rf
  have hl : lv_has (lg_sl ([rr G u0]) ++ List.replicate (4 - (lg_sl ([rr G u0])).length) Slot.unset).toArray 4 [(0, rr G u0)] := by cases u0 <;> exact lv_entry _ (Nat.le_of_ble_eq_true rfl)
  rw [lg_entry_eq]
  generalize (lg_sl ([rr G u0]) ++ List.replicate (4 - (lg_sl ([rr G u0])).length) Slot.unset).toArray = ls at hl ⊢
  have hC4 : ∀ (k4 : Nat), ∀ (v0 : Option Nat) (v1 : Int32) (v2 : Int32) (H : Heap) (locs : List Loc) (ls : Array Slot), m_X12_steps_L4 F k4 v0 v1 v2 f = some r → Wd G f n H → va_S (WA G) s.heap H locs → lv_has ls 4 [(0, rr G v0), (1, .int v1), (2, .int v2)] → W p l e (headSpec (wsO yX12_steps cX12_steps 4 (some .int)) { frames := 1, cells := 0, slots := 0, locals := 20 }).room s m [rr G u0].toArray below meth c H locs 0 0 (MQ below (Qcn G (some (.int r)) f n) [rr G u0].toArray s 0 0 (WA G)) (F0 m 4 ls []) := by
    intro k4
    induction k4 with
    | zero => intro v0 v1 v2 H locs ls hE _ _ _; cases (show (none : Option Int32) = some r from hE)
    | succ k4 ih4 =>
      have hC37 : ∀ (k37 : Nat), ∀ (v0 : Option Nat) (v1 : Int32) (v2 : Int32) (v3 : Int32) (H : Heap) (locs : List Loc) (ls : Array Slot), m_X12_steps_L37 F (m_X12_steps_L4 F k4) k37 v0 v1 v2 v3 f = some r → Wd G f n H → va_S (WA G) s.heap H locs → lv_has ls 4 [(0, rr G v0), (1, .int v1), (2, .int v2), (3, .int v3)] → W p l e (headSpec (wsO yX12_steps cX12_steps 4 (some .int)) { frames := 1, cells := 0, slots := 0, locals := 20 }).room s m [rr G u0].toArray below meth c H locs 0 0 (MQ below (Qcn G (some (.int r)) f n) [rr G u0].toArray s 0 0 (WA G)) (F0 m 37 ls []) := by
        intro k37
        induction k37 with
        | zero => intro v0 v1 v2 v3 H locs ls hE _ _ _; cases (show (none : Option Int32) = some r from hE)
        | succ k37 ih37 =>
          have hC102 : ∀ (v0 : Option Nat) (v1 : Int32) (v2 : Int32) (v3 : Int32) (s0 : Int32) (s1 : Int32) (H : Heap) (locs : List Loc) (ls : Array Slot), m_X12_steps_B102 F (m_X12_steps_L4 F k4) (m_X12_steps_L37 F (m_X12_steps_L4 F k4) k37) v0 v1 v2 v3 s0 s1 f = some r → Wd G f n H → va_S (WA G) s.heap H locs → lv_has ls 4 [(0, rr G v0), (1, .int v1), (2, .int v2), (3, .int v3)] → W p l e (headSpec (wsO yX12_steps cX12_steps 4 (some .int)) { frames := 1, cells := 0, slots := 0, locals := 20 }).room s m [rr G u0].toArray below meth c H locs 0 0 (MQ below (Qcn G (some (.int r)) f n) [rr G u0].toArray s 0 0 (WA G)) (F0 m 102 ls [.int s1, .int s0]) := by
            intro v0 v1 v2 v3 s0 s1 H locs ls hE hW hS hl
            refine lv_icmp_eq (tgt := 108) hx hb dX12_steps_102 (by decide) (fun q32 => ?_) (fun q32 => ?_)
            · replace hE := ite_t q32 hE
              obtain ⟨y33, ey33⟩ : ∃ y : Int32, y = v3 + (1 : Int32) := ⟨_, rfl⟩
              replace hE := nm_o ey33 hE
              refine lv_iinc (k := 3) (v := y33) (lv' := [(3, .int y33), (0, rr G v0), (1, .int v1), (2, .int v2)]) hx hb dX12_steps_108 hl rfl (by rw [ey33]; rfl) (by decide) rfl (fun ls hl => ?_)
              refine lv_goto (tgt := 37) hx hb dX12_steps_111 (by decide) ?_
              exact ih37 _ _ _ _ _ _ _ hE hW hS (lv_sub hl [1, 2, 3, 0] rfl)
            · replace hE := ite_f q32 hE
              obtain ⟨y34, ey34⟩ : ∃ y : Int32, y = v1 + (1 : Int32) := ⟨_, rfl⟩
              replace hE := nm_o ey34 hE
              refine lv_iinc (k := 1) (v := y34) (lv' := [(1, .int y34), (0, rr G v0), (2, .int v2), (3, .int v3)]) hx hb dX12_steps_105 hl rfl (by rw [ey34]; rfl) (by decide) (by simp [cat_rr]) (fun ls hl => ?_)
              obtain ⟨y35, ey35⟩ : ∃ y : Int32, y = v3 + (1 : Int32) := ⟨_, rfl⟩
              replace hE := nm_o ey35 hE
              refine lv_iinc (k := 3) (v := y35) (lv' := [(3, .int y35), (1, .int y34), (0, rr G v0), (2, .int v2)]) hx hb dX12_steps_108 hl rfl (by rw [ey35]; rfl) (by decide) rfl (fun ls hl => ?_)
              refine lv_goto (tgt := 37) hx hb dX12_steps_111 (by decide) ?_
              exact ih37 _ _ _ _ _ _ _ hE hW hS (lv_sub hl [2, 1, 3, 0] rfl)
          have hC82 : ∀ (v0 : Option Nat) (v1 : Int32) (v2 : Int32) (v3 : Int32) (s0 : Int32) (H : Heap) (locs : List Loc) (ls : Array Slot), m_X12_steps_B82 F (m_X12_steps_L4 F k4) (m_X12_steps_L37 F (m_X12_steps_L4 F k4) k37) v0 v1 v2 v3 s0 f = some r → Wd G f n H → va_S (WA G) s.heap H locs → lv_has ls 4 [(0, rr G v0), (1, .int v1), (2, .int v2), (3, .int v3)] → W p l e (headSpec (wsO yX12_steps cX12_steps 4 (some .int)) { frames := 1, cells := 0, slots := 0, locals := 20 }).room s m [rr G u0].toArray below meth c H locs 0 0 (MQ below (Qcn G (some (.int r)) f n) [rr G u0].toArray s 0 0 (WA G)) (F0 m 82 ls [.int s0]) := by
            intro v0 v1 v2 v3 s0 H locs ls hE hW hS hl
            refine s_aload_n hx hb dX12_steps_82 rfl (lv_at hl 0 rfl) ?_
            obtain ⟨x27, hx27, hE⟩ := bd hE
            refine s_gR hx hb hT u_X12 hown hK hW hx27 rfl (by decide) fl_X12_45 rfl dX12_steps_83 ?_
            refine lv_iload_n hx hb dX12_steps_86 rfl (lv_at hl 2 rfl) ?_
            obtain ⟨x28, hx28, hE⟩ := bd hE
            refine s_ldI hx hb hK hW hS hx28 dX12_steps_87 ?_
            refine s_aload_n hx hb dX12_steps_88 rfl (lv_at hl 0 rfl) ?_
            obtain ⟨x29, hx29, hE⟩ := bd hE
            refine s_gR hx hb hT u_X12 hown hK hW hx29 rfl (by decide) fl_X12_45 rfl dX12_steps_89 ?_
            refine lv_iload_n hx hb dX12_steps_92 rfl (lv_at hl 3 rfl) ?_
            obtain ⟨x30, hx30, hE⟩ := bd hE
            refine s_ldI hx hb hK hW hS hx30 dX12_steps_93 ?_
            refine lv_icmp_ge (tgt := 101) hx hb dX12_steps_94 (by decide) (fun q31 => ?_) (fun q31 => ?_)
            · replace hE := ite_t q31 hE
              refine lv_iconst (v := (0 : Int32)) hx hb dX12_steps_101 (by decide) ?_
              exact hC102 _ _ _ _ _ _ _ _ _ hE hW hS (lv_sub hl [0, 1, 2, 3] rfl)
            · replace hE := ite_f q31 hE
              refine lv_iconst (v := (1 : Int32)) hx hb dX12_steps_97 (by decide) ?_
              refine lv_goto (tgt := 102) hx hb dX12_steps_98 (by decide) ?_
              exact hC102 _ _ _ _ _ _ _ _ _ hE hW hS (lv_sub hl [0, 1, 2, 3] rfl)
          intro v0 v1 v2 v3 H locs ls hE hW hS hl
          replace hE : m_X12_steps_b37 F (m_X12_steps_L4 F k4) (m_X12_steps_L37 F (m_X12_steps_L4 F k4) k37) v0 v1 v2 v3 f = some r := hE
          refine lv_iload_n hx hb dX12_steps_37 rfl (lv_at hl 3 rfl) ?_
          refine lv_iload_n hx hb dX12_steps_38 rfl (lv_at hl 2 rfl) ?_
          refine lv_icmp_ge (tgt := 114) hx hb dX12_steps_39 (by decide) (fun q12 => ?_) (fun q12 => ?_)
          · replace hE := ite_t q12 hE
            obtain ⟨y13, ey13⟩ : ∃ y : Int32, y = v2 + (1 : Int32) := ⟨_, rfl⟩
            replace hE := nm_o ey13 hE
            refine lv_iinc (k := 2) (v := y13) (lv' := [(2, .int y13), (0, rr G v0), (1, .int v1), (3, .int v3)]) hx hb dX12_steps_114 hl rfl (by rw [ey13]; rfl) (by decide) rfl (fun ls hl => ?_)
            refine lv_goto (tgt := 4) hx hb dX12_steps_117 (by decide) ?_
            exact ih4 _ _ _ _ _ _ hE hW hS (lv_sub hl [1, 2, 0] rfl)
          · replace hE := ite_f q12 hE
            refine s_aload_n hx hb dX12_steps_42 rfl (lv_at hl 0 rfl) ?_
            obtain ⟨x14, hx14, hE⟩ := bd hE
            refine s_gR hx hb hT u_X12 hown hK hW hx14 rfl (by decide) fl_X12_42 rfl dX12_steps_43 ?_
            refine lv_iload_n hx hb dX12_steps_46 rfl (lv_at hl 3 rfl) ?_
            obtain ⟨x15, hx15, hE⟩ := bd hE
            refine s_ldI hx hb hK hW hS hx15 dX12_steps_47 ?_
            refine lv_iconst (v := (-1 : Int32)) hx hb dX12_steps_48 (by decide) ?_
            refine lv_icmp_eq (tgt := 108) hx hb dX12_steps_49 (by decide) (fun q16 => ?_) (fun q16 => ?_)
            · replace hE := ite_t q16 hE
              obtain ⟨y17, ey17⟩ : ∃ y : Int32, y = v3 + (1 : Int32) := ⟨_, rfl⟩
              replace hE := nm_o ey17 hE
              refine lv_iinc (k := 3) (v := y17) (lv' := [(3, .int y17), (0, rr G v0), (1, .int v1), (2, .int v2)]) hx hb dX12_steps_108 hl rfl (by rw [ey17]; rfl) (by decide) rfl (fun ls hl => ?_)
              refine lv_goto (tgt := 37) hx hb dX12_steps_111 (by decide) ?_
              exact ih37 _ _ _ _ _ _ _ hE hW hS (lv_sub hl [1, 2, 3, 0] rfl)
            · replace hE := ite_f q16 hE
              refine s_aload_n hx hb dX12_steps_52 rfl (lv_at hl 0 rfl) ?_
              obtain ⟨x18, hx18, hE⟩ := bd hE
              refine s_gR hx hb hT u_X12 hown hK hW hx18 rfl (by decide) fl_X12_45 rfl dX12_steps_53 ?_
              refine lv_iload_n hx hb dX12_steps_56 rfl (lv_at hl 3 rfl) ?_
              obtain ⟨x19, hx19, hE⟩ := bd hE
              refine s_ldI hx hb hK hW hS hx19 dX12_steps_57 ?_
              refine lv_iconst (v := (-1 : Int32)) hx hb dX12_steps_58 (by decide) ?_
              refine lv_icmp_eq (tgt := 108) hx hb dX12_steps_59 (by decide) (fun q20 => ?_) (fun q20 => ?_)
              · replace hE := ite_t q20 hE
                obtain ⟨y21, ey21⟩ : ∃ y : Int32, y = v3 + (1 : Int32) := ⟨_, rfl⟩
                replace hE := nm_o ey21 hE
                refine lv_iinc (k := 3) (v := y21) (lv' := [(3, .int y21), (0, rr G v0), (1, .int v1), (2, .int v2)]) hx hb dX12_steps_108 hl rfl (by rw [ey21]; rfl) (by decide) rfl (fun ls hl => ?_)
                refine lv_goto (tgt := 37) hx hb dX12_steps_111 (by decide) ?_
                exact ih37 _ _ _ _ _ _ _ hE hW hS (lv_sub hl [1, 2, 3, 0] rfl)
              · replace hE := ite_f q20 hE
                refine s_aload_n hx hb dX12_steps_62 rfl (lv_at hl 0 rfl) ?_
                obtain ⟨x22, hx22, hE⟩ := bd hE
                refine s_gR hx hb hT u_X12 hown hK hW hx22 rfl (by decide) fl_X12_42 rfl dX12_steps_63 ?_
                refine lv_iload_n hx hb dX12_steps_66 rfl (lv_at hl 2 rfl) ?_
                obtain ⟨x23, hx23, hE⟩ := bd hE
                refine s_ldI hx hb hK hW hS hx23 dX12_steps_67 ?_
                refine s_aload_n hx hb dX12_steps_68 rfl (lv_at hl 0 rfl) ?_
                obtain ⟨x24, hx24, hE⟩ := bd hE
                refine s_gR hx hb hT u_X12 hown hK hW hx24 rfl (by decide) fl_X12_42 rfl dX12_steps_69 ?_
                refine lv_iload_n hx hb dX12_steps_72 rfl (lv_at hl 3 rfl) ?_
                obtain ⟨x25, hx25, hE⟩ := bd hE
                refine s_ldI hx hb hK hW hS hx25 dX12_steps_73 ?_
                refine lv_icmp_ge (tgt := 81) hx hb dX12_steps_74 (by decide) (fun q26 => ?_) (fun q26 => ?_)
                · replace hE := ite_t q26 hE
                  refine lv_iconst (v := (0 : Int32)) hx hb dX12_steps_81 (by decide) ?_
                  exact hC82 _ _ _ _ _ _ _ _ hE hW hS (lv_sub hl [0, 1, 2, 3] rfl)
                · replace hE := ite_f q26 hE
                  refine lv_iconst (v := (1 : Int32)) hx hb dX12_steps_77 (by decide) ?_
                  refine lv_goto (tgt := 82) hx hb dX12_steps_78 (by decide) ?_
                  exact hC82 _ _ _ _ _ _ _ _ hE hW hS (lv_sub hl [0, 1, 2, 3] rfl)
      intro v0 v1 v2 H locs ls hE hW hS hl
      replace hE : m_X12_steps_b4 F (m_X12_steps_L4 F k4) v0 v1 v2 f = some r := hE
      refine lv_iload_n hx hb dX12_steps_4 rfl (lv_at hl 2 rfl) ?_
      refine s_aload_n hx hb dX12_steps_5 rfl (lv_at hl 0 rfl) ?_
      obtain ⟨c1, hE⟩ := ck hE
      obtain ⟨x2, hx2, hE⟩ := bd hE
      refine s_callV (As := []) (rest := [.int v2]) CF hK hW hS (S_X12_lines l G F hx2) c1 rfl gv_X12_185 hd_X12_lines ⟨Nat.le_of_ble_eq_true rfl, Nat.le_of_ble_eq_true rfl⟩ rfl hl.1 rfl (Nat.le_of_ble_eq_true rfl) dX12_steps_6 ⟨Nat.le_refl _, Nat.le_refl _⟩ (fun H locs hW hS => ?_)
      refine lv_icmp_ge (tgt := 120) hx hb dX12_steps_9 (by decide) (fun q3 => ?_) (fun q3 => ?_)
      · replace hE := ite_t q3 hE
        refine lv_iload_n hx hb dX12_steps_120 rfl (lv_at hl 1 rfl) ?_
        obtain rfl := so1 hE
        exact s_iret hx hb hr hlocks hW hS dX12_steps_121
      · replace hE := ite_f q3 hE
        refine s_aload_n hx hb dX12_steps_12 rfl (lv_at hl 0 rfl) ?_
        obtain ⟨x4, hx4, hE⟩ := bd hE
        refine s_gR hx hb hT u_X12 hown hK hW hx4 rfl (by decide) fl_X12_42 rfl dX12_steps_13 ?_
        refine lv_iload_n hx hb dX12_steps_16 rfl (lv_at hl 2 rfl) ?_
        obtain ⟨x5, hx5, hE⟩ := bd hE
        refine s_ldI hx hb hK hW hS hx5 dX12_steps_17 ?_
        refine lv_iconst (v := (-1 : Int32)) hx hb dX12_steps_18 (by decide) ?_
        refine lv_icmp_eq (tgt := 114) hx hb dX12_steps_19 (by decide) (fun q6 => ?_) (fun q6 => ?_)
        · replace hE := ite_t q6 hE
          obtain ⟨y7, ey7⟩ : ∃ y : Int32, y = v2 + (1 : Int32) := ⟨_, rfl⟩
          replace hE := nm_o ey7 hE
          refine lv_iinc (k := 2) (v := y7) (lv' := [(2, .int y7), (0, rr G v0), (1, .int v1)]) hx hb dX12_steps_114 hl rfl (by rw [ey7]; rfl) (by decide) rfl (fun ls hl => ?_)
          refine lv_goto (tgt := 4) hx hb dX12_steps_117 (by decide) ?_
          exact ih4 _ _ _ _ _ _ hE hW hS (lv_sub hl [1, 2, 0] rfl)
        · replace hE := ite_f q6 hE
          refine s_aload_n hx hb dX12_steps_22 rfl (lv_at hl 0 rfl) ?_
          obtain ⟨x8, hx8, hE⟩ := bd hE
          refine s_gR hx hb hT u_X12 hown hK hW hx8 rfl (by decide) fl_X12_45 rfl dX12_steps_23 ?_
          refine lv_iload_n hx hb dX12_steps_26 rfl (lv_at hl 2 rfl) ?_
          obtain ⟨x9, hx9, hE⟩ := bd hE
          refine s_ldI hx hb hK hW hS hx9 dX12_steps_27 ?_
          refine lv_iconst (v := (-1 : Int32)) hx hb dX12_steps_28 (by decide) ?_
          refine lv_icmp_ne (tgt := 35) hx hb dX12_steps_29 (by decide) (fun q10 => ?_) (fun q10 => ?_)
          · replace hE := ite_f q10 hE
            refine lv_iconst (v := (0 : Int32)) hx hb dX12_steps_35 (by decide) ?_
            refine lv_istore_n (i := 3) (lv' := [(3, .int (0 : Int32)), (0, rr G v0), (1, .int v1), (2, .int v2)]) hx hb dX12_steps_36 rfl hl (by decide) rfl (fun ls hl => ?_)
            exact hC37 F _ _ _ _ _ _ _ hE hW hS (lv_sub hl [1, 2, 3, 0] rfl)
          · replace hE := ite_t q10 hE
            refine lv_goto (tgt := 114) hx hb dX12_steps_32 (by decide) ?_
            obtain ⟨y11, ey11⟩ : ∃ y : Int32, y = v2 + (1 : Int32) := ⟨_, rfl⟩
            replace hE := nm_o ey11 hE
            refine lv_iinc (k := 2) (v := y11) (lv' := [(2, .int y11), (0, rr G v0), (1, .int v1)]) hx hb dX12_steps_114 hl rfl (by rw [ey11]; rfl) (by decide) rfl (fun ls hl => ?_)
            refine lv_goto (tgt := 4) hx hb dX12_steps_117 (by decide) ?_
            exact ih4 _ _ _ _ _ _ hE hW hS (lv_sub hl [1, 2, 0] rfl)
  refine lv_iconst (v := (0 : Int32)) hx hb dX12_steps_0 (by decide) ?_
  refine lv_istore_n (i := 1) (lv' := [(1, .int (0 : Int32)), (0, rr G u0)]) hx hb dX12_steps_1 rfl hl (by decide) (by simp [cat_rr]) (fun ls hl => ?_)
  refine lv_iconst (v := (0 : Int32)) hx hb dX12_steps_2 (by decide) ?_
  refine lv_istore_n (i := 2) (lv' := [(2, .int (0 : Int32)), (1, .int (0 : Int32)), (0, rr G u0)]) hx hb dX12_steps_3 rfl hl (by decide) rfl (fun ls hl => ?_)
  exact hC4 F _ _ _ _ _ _ hE hW hS (lv_sub hl [2, 1, 0] rfl)
set_option maxHeartbeats 4000000 in
set_option maxRecDepth 100000 in
theorem S_X12_along (l : Launch) (G : GG) (F : Nat) {u0 : Option Nat} {u1 : Int32} {u2 : Int32} {u3 : Int32} {f : Hp} {r : Int64} {f' : Hp} {n : Nat} (hE : m_X12_along F u0 u1 u2 u3 f = some (r, f')) : Ctr l G yX12_along cX12_along 14 (some .long) 5 119 [rr G u0, .int u1, .int u2, .int u3] f n (some (.long r)) f' n 0 0 := by
  refine Met.ofW (cc := cX12_along) (maxL := 14) (ret := (some .long)) (by decide) rfl ?_
  intro p e s m args below meth c s₁ B hml hv
  obtain ⟨rfl, hK, hW⟩ := hv
  have hx := B.exec
  have hb := B.bytes
  have hr := B.returns
  have hts := atoms_spec (ws := wsO yX12_along cX12_along 14 (some .long)) B.pre
  have hT : ∀ w ∈ TB, w.before [rr G u0, .int u1, .int u2, .int u3].toArray s = true := fun w hw => hts w (List.mem_cons_of_mem _ hw)
  have hown : s.vm.findClass RX12 = some m.cls := findClass_of_methodNamed B.named
  have hlocks := B.notSynchronized
  have CF : CallFix p m c cX12_along 14 s [rr G u0, .int u1, .int u2, .int u3].toArray TB RX12 := ⟨hx, hb, hml, hown, hT⟩
  have hS : va_S (WA G) s.heap s.heap [] := va_S.rf
  have hl : lv_has (lg_sl ([rr G u0, .int u1, .int u2, .int u3]) ++ List.replicate (14 - (lg_sl ([rr G u0, .int u1, .int u2, .int u3])).length) Slot.unset).toArray 14 [(0, rr G u0), (1, .int u1), (2, .int u2), (3, .int u3)] := by cases u0 <;> exact lv_entry _ (Nat.le_of_ble_eq_true rfl)
  rw [lg_entry_eq]
  generalize (lg_sl ([rr G u0, .int u1, .int u2, .int u3]) ++ List.replicate (14 - (lg_sl ([rr G u0, .int u1, .int u2, .int u3])).length) Slot.unset).toArray = ls at hl ⊢
  have hC185 : ∀ (v3 : Int32) (v4 : Int64) (v6 : Int64) (v8 : Int64) (fa : Hp) (H : Heap) (locs : List Loc) (ls : Array Slot), m_X12_along_B185 F v3 v4 v6 v8 fa = some (r, f') → Wd G fa n H → va_S (WA G) s.heap H locs → lv_has ls 14 [(3, .int v3), (4, .long v4), (6, .long v6), (8, .long v8)] → W p l e (headSpec (wsO yX12_along cX12_along 14 (some .long)) { frames := 5, cells := 0, slots := 0, locals := 119 }).room s m [rr G u0, .int u1, .int u2, .int u3].toArray below meth c H locs 0 0 (MQ below (Qcn G (some (.long r)) f' n) [rr G u0, .int u1, .int u2, .int u3].toArray s 0 0 (WA G)) (F0 m 185 ls []) := by
    intro v3 v4 v6 v8 fa H locs ls hE hW hS hl
    refine lv_iload_n hx hb dX12_along_185 rfl (lv_at hl 0 rfl) ?_
    refine lv_if_ne (tgt := 194) hx hb dX12_along_186 (by decide) (fun q26 => ?_) (fun q26 => ?_)
    · replace hE := ite_f q26 hE
      refine lv_lload hx hb dX12_along_194 (lv_at hl 2 rfl) ?_
      refine lv_lload hx hb dX12_along_196 (lv_at hl 3 rfl) ?_
      obtain ⟨c27, hE⟩ := ck hE
      refine lv_ldiv hx hb dX12_along_198 (of_decide_eq_true c27) ?_
      obtain ⟨rfl, rfl⟩ := so2 hE
      exact s_lret hx hb hr hlocks hW hS dX12_along_199
    · replace hE := ite_t q26 hE
      refine lv_lload hx hb dX12_along_189 (lv_at hl 1 rfl) ?_
      refine lv_goto (tgt := 196) hx hb dX12_along_191 (by decide) ?_
      refine lv_lload hx hb dX12_along_196 (lv_at hl 3 rfl) ?_
      obtain ⟨c28, hE⟩ := ck hE
      refine lv_ldiv hx hb dX12_along_198 (of_decide_eq_true c28) ?_
      obtain ⟨rfl, rfl⟩ := so2 hE
      exact s_lret hx hb hr hlocks hW hS dX12_along_199
  have hC160 : ∀ (k160 : Nat), ∀ (v3 : Int32) (v4 : Int64) (v6 : Int64) (v8 : Int64) (v10 : Int64) (fa : Hp) (H : Heap) (locs : List Loc) (ls : Array Slot), m_X12_along_L160 F k160 v3 v4 v6 v8 v10 fa = some (r, f') → Wd G fa n H → va_S (WA G) s.heap H locs → lv_has ls 14 [(3, .int v3), (4, .long v4), (6, .long v6), (8, .long v8), (10, .long v10)] → W p l e (headSpec (wsO yX12_along cX12_along 14 (some .long)) { frames := 5, cells := 0, slots := 0, locals := 119 }).room s m [rr G u0, .int u1, .int u2, .int u3].toArray below meth c H locs 0 0 (MQ below (Qcn G (some (.long r)) f' n) [rr G u0, .int u1, .int u2, .int u3].toArray s 0 0 (WA G)) (F0 m 160 ls []) := by
    intro k160
    induction k160 with
    | zero => intro v3 v4 v6 v8 v10 fa H locs ls hE _ _ _; cases (show (none : Option ((Int64) × Hp)) = some (r, f') from hE)
    | succ k160 ih160 =>
      intro v3 v4 v6 v8 v10 fa H locs ls hE hW hS hl
      replace hE : m_X12_along_b160 F (m_X12_along_L160 F k160) v3 v4 v6 v8 v10 fa = some (r, f') := hE
      refine lv_lload hx hb dX12_along_160 (lv_at hl 4 rfl) ?_
      refine lv_lconst (v := (0 : Int64)) hx hb dX12_along_162 (by decide) ?_
      refine W.lcmp hx hb dX12_along_163 ?_
      refine lv_if_le (tgt := 185) hx hb dX12_along_164 (by decide) (fun q23 => ?_) (fun q23 => ?_)
      · replace hE := ite_t q23 hE
        exact hC185 _ _ _ _ _ _ _ _ hE hW hS (lv_sub hl [0, 1, 2, 3] rfl)
      · replace hE := ite_f q23 hE
        refine lv_lload hx hb dX12_along_167 (lv_at hl 3 rfl) ?_
        refine lv_lload hx hb dX12_along_169 (lv_at hl 4 rfl) ?_
        obtain ⟨c24, hE⟩ := ck hE
        refine lv_lrem hx hb dX12_along_171 (of_decide_eq_true c24) ?_
        refine lv_topl (fun y25 ey25 => ?_)
        replace hE := nm_o ey25 hE
        refine lv_lstore (lv' := [(12, .long y25), (3, .int v3), (4, .long v4), (6, .long v6), (8, .long v8), (10, .long v10)]) hx hb dX12_along_172 hl (by decide) rfl (fun ls hl => ?_)
        refine lv_lload hx hb dX12_along_174 (lv_at hl 5 rfl) ?_
        refine lv_lstore (lv' := [(8, .long v10), (12, .long y25), (3, .int v3), (4, .long v4), (6, .long v6), (10, .long v10)]) hx hb dX12_along_176 hl (by decide) rfl (fun ls hl => ?_)
        refine lv_lload hx hb dX12_along_178 (lv_at hl 1 rfl) ?_
        refine lv_lstore (lv' := [(10, .long y25), (8, .long v10), (12, .long y25), (3, .int v3), (4, .long v4), (6, .long v6)]) hx hb dX12_along_180 hl (by decide) rfl (fun ls hl => ?_)
        refine lv_goto (tgt := 160) hx hb dX12_along_182 (by decide) ?_
        exact ih160 _ _ _ _ _ _ _ _ _ hE hW hS (lv_sub hl [3, 4, 5, 1, 0] rfl)
  have hC133 : ∀ (v0 : Option Nat) (v3 : Int32) (v4 : Int64) (v6 : Int64) (fa : Hp) (H : Heap) (locs : List Loc) (ls : Array Slot), m_X12_along_B133 F v0 v3 v4 v6 fa = some (r, f') → Wd G fa n H → va_S (WA G) s.heap H locs → lv_has ls 14 [(0, rr G v0), (3, .int v3), (4, .long v4), (6, .long v6)] → W p l e (headSpec (wsO yX12_along cX12_along 14 (some .long)) { frames := 5, cells := 0, slots := 0, locals := 119 }).room s m [rr G u0, .int u1, .int u2, .int u3].toArray below meth c H locs 0 0 (MQ below (Qcn G (some (.long r)) f' n) [rr G u0, .int u1, .int u2, .int u3].toArray s 0 0 (WA G)) (F0 m 133 ls []) := by
    intro v0 v3 v4 v6 fa H locs ls hE hW hS hl
    refine lv_lload hx hb dX12_along_133 (lv_at hl 3 rfl) ?_
    refine lv_lconst (v := (0 : Int64)) hx hb dX12_along_135 (by decide) ?_
    refine W.lcmp hx hb dX12_along_136 ?_
    refine lv_if_ne (tgt := 147) hx hb dX12_along_137 (by decide) (fun q20 => ?_) (fun q20 => ?_)
    · replace hE := ite_f q20 hE
      refine s_aload_n hx hb dX12_along_147 rfl (lv_at hl 0 rfl) ?_
      refine lv_iconst (v := (0 : Int32)) hx hb dX12_along_148 (by decide) ?_
      obtain ⟨f21, hf21, hE⟩ := bd hE
      refine s_putI hx hb hT u_X12 tyX12 tyX12_ok nmX12 hown hK hW hS hf21 rfl (by decide) fl_X12_81 rfl (Or.inl rfl) rfl dX12_along_149 (fun H locs hW hS => ?_)
      refine lv_lload hx hb dX12_along_152 (lv_at hl 3 rfl) ?_
      refine lv_lstore (lv' := [(8, .long v6), (0, rr G v0), (3, .int v3), (4, .long v4), (6, .long v6)]) hx hb dX12_along_154 hl (by decide) rfl (fun ls hl => ?_)
      refine lv_lload hx hb dX12_along_156 (lv_at hl 3 rfl) ?_
      refine lv_lstore (lv' := [(10, .long v4), (8, .long v6), (0, rr G v0), (3, .int v3), (4, .long v4), (6, .long v6)]) hx hb dX12_along_158 hl (by decide) rfl (fun ls hl => ?_)
      exact hC160 F _ _ _ _ _ _ _ _ _ hE hW hS (lv_sub hl [3, 4, 5, 1, 0] rfl)
    · replace hE := ite_t q20 hE
      refine s_aload_n hx hb dX12_along_140 rfl (lv_at hl 0 rfl) ?_
      refine lv_iconst (v := (1 : Int32)) hx hb dX12_along_141 (by decide) ?_
      obtain ⟨f22, hf22, hE⟩ := bd hE
      refine s_putI hx hb hT u_X12 tyX12 tyX12_ok nmX12 hown hK hW hS hf22 rfl (by decide) fl_X12_81 rfl (Or.inl rfl) rfl dX12_along_142 (fun H locs hW hS => ?_)
      refine lv_lconst (v := (0 : Int64)) hx hb dX12_along_145 (by decide) ?_
      obtain ⟨rfl, rfl⟩ := so2 hE
      exact s_lret hx hb hr hlocks hW hS dX12_along_146
  have hC63 : ∀ (k63 : Nat), ∀ (v0 : Option Nat) (v3 : Int32) (v4 : Int64) (v6 : Int64) (v8 : Int32) (fa : Hp) (H : Heap) (locs : List Loc) (ls : Array Slot), m_X12_along_L63 F k63 v0 v3 v4 v6 v8 fa = some (r, f') → Wd G fa n H → va_S (WA G) s.heap H locs → lv_has ls 14 [(0, rr G v0), (3, .int v3), (4, .long v4), (6, .long v6), (8, .int v8)] → W p l e (headSpec (wsO yX12_along cX12_along 14 (some .long)) { frames := 5, cells := 0, slots := 0, locals := 119 }).room s m [rr G u0, .int u1, .int u2, .int u3].toArray below meth c H locs 0 0 (MQ below (Qcn G (some (.long r)) f' n) [rr G u0, .int u1, .int u2, .int u3].toArray s 0 0 (WA G)) (F0 m 63 ls []) := by
    intro k63
    induction k63 with
    | zero => intro v0 v3 v4 v6 v8 fa H locs ls hE _ _ _; cases (show (none : Option ((Int64) × Hp)) = some (r, f') from hE)
    | succ k63 ih63 =>
      intro v0 v3 v4 v6 v8 fa H locs ls hE hW hS hl
      replace hE : m_X12_along_b63 F (m_X12_along_L63 F k63) v0 v3 v4 v6 v8 fa = some (r, f') := hE
      refine lv_iload hx hb dX12_along_63 (lv_at hl 4 rfl) ?_
      refine s_aload_n hx hb dX12_along_65 rfl (lv_at hl 0 rfl) ?_
      obtain ⟨c1, hE⟩ := ck hE
      obtain ⟨x2, hx2, hE⟩ := bd hE
      refine s_callV (As := []) (rest := [.int v8]) CF hK hW hS (S_X12_orders l G F hx2) c1 rfl gv_X12_251 hd_X12_orders ⟨Nat.le_of_ble_eq_true rfl, Nat.le_of_ble_eq_true rfl⟩ rfl hl.1 rfl (Nat.le_of_ble_eq_true rfl) dX12_along_66 ⟨Nat.le_refl _, Nat.le_refl _⟩ (fun H locs hW hS => ?_)
      refine lv_icmp_ge (tgt := 133) hx hb dX12_along_69 (by decide) (fun q3 => ?_) (fun q3 => ?_)
      · replace hE := ite_t q3 hE
        exact hC133 _ _ _ _ _ _ _ _ hE hW hS (lv_sub hl [0, 1, 2, 3] rfl)
      · replace hE := ite_f q3 hE
        refine s_aload_n hx hb dX12_along_72 rfl (lv_at hl 0 rfl) ?_
        obtain ⟨x4, hx4, hE⟩ := bd hE
        refine s_gR hx hb hT u_X12 hown hK hW hx4 rfl (by decide) fl_X12_63 rfl dX12_along_73 ?_
        refine lv_iload hx hb dX12_along_76 (lv_at hl 4 rfl) ?_
        obtain ⟨x5, hx5, hE⟩ := bd hE
        refine s_ldJ hx hb hK hW hS hx5 dX12_along_78 ?_
        refine lv_lconst (v := (0 : Int64)) hx hb dX12_along_79 (by decide) ?_
        refine W.lcmp hx hb dX12_along_80 ?_
        refine lv_if_ne (tgt := 87) hx hb dX12_along_81 (by decide) (fun q6 => ?_) (fun q6 => ?_)
        · replace hE := ite_f q6 hE
          refine s_aload_n hx hb dX12_along_87 rfl (lv_at hl 0 rfl) ?_
          refine lv_iload hx hb dX12_along_88 (lv_at hl 4 rfl) ?_
          refine s_aload_n hx hb dX12_along_90 rfl (lv_at hl 0 rfl) ?_
          obtain ⟨x7, hx7, hE⟩ := bd hE
          refine s_gR hx hb hT u_X12 hown hK hW hx7 rfl (by decide) fl_X12_45 rfl dX12_along_91 ?_
          obtain ⟨c8, hE⟩ := ck hE
          obtain ⟨f9, hf9, hE⟩ := bd hE
          refine s_callV (As := [.int v8, rr G x7]) (rest := []) CF hK hW hS (S_X12_layOrder l G F hf9) c8 rfl gv_X12_292 hd_X12_layOrder ⟨Nat.le_of_ble_eq_true rfl, Nat.le_of_ble_eq_true rfl⟩ rfl hl.1 rfl (Nat.le_of_ble_eq_true rfl) dX12_along_94 ⟨Nat.le_refl _, Nat.le_refl _⟩ (fun H locs hW hS => ?_)
          refine lv_lload hx hb dX12_along_97 (lv_at hl 2 rfl) ?_
          refine s_aload_n hx hb dX12_along_99 rfl (lv_at hl 0 rfl) ?_
          obtain ⟨x10, hx10, hE⟩ := bd hE
          refine s_gR hx hb hT u_X12 hown hK hW hx10 rfl (by decide) fl_X12_63 rfl dX12_along_100 ?_
          refine lv_iload hx hb dX12_along_103 (lv_at hl 4 rfl) ?_
          obtain ⟨x11, hx11, hE⟩ := bd hE
          refine s_ldJ hx hb hK hW hS hx11 dX12_along_105 ?_
          refine s_aload_n hx hb dX12_along_106 rfl (lv_at hl 0 rfl) ?_
          obtain ⟨c12, hE⟩ := ck hE
          obtain ⟨x13, hx13, hE⟩ := bd hE
          refine s_callV (As := []) (rest := [.long x11, .long v4]) CF hK hW hS (S_X12_steps l G F hx13) c12 rfl gv_X12_259 hd_X12_steps ⟨Nat.le_of_ble_eq_true rfl, Nat.le_of_ble_eq_true rfl⟩ rfl hl.1 rfl (Nat.le_of_ble_eq_true rfl) dX12_along_107 ⟨Nat.le_refl _, Nat.le_refl _⟩ (fun H locs hW hS => ?_)
          refine lv_i2l (v := (Int32.toInt64 x13)) hx hb dX12_along_110 rfl ?_
          refine lv_lmul hx hb dX12_along_111 ?_
          refine lv_ladd hx hb dX12_along_112 ?_
          refine lv_topl (fun y14 ey14 => ?_)
          replace hE := nm_o ey14 hE
          refine lv_lstore (lv' := [(4, .long y14), (0, rr G v0), (3, .int v3), (6, .long v6), (8, .int v8)]) hx hb dX12_along_113 hl (by decide) rfl (fun ls hl => ?_)
          refine lv_lload hx hb dX12_along_115 (lv_at hl 3 rfl) ?_
          refine s_aload_n hx hb dX12_along_117 rfl (lv_at hl 1 rfl) ?_
          obtain ⟨x15, hx15, hE⟩ := bd hE
          refine s_gR hx hb hT u_X12 hown hK hW hx15 rfl (by decide) fl_X12_63 rfl dX12_along_118 ?_
          refine lv_iload hx hb dX12_along_121 (lv_at hl 4 rfl) ?_
          obtain ⟨x16, hx16, hE⟩ := bd hE
          refine s_ldJ hx hb hK hW hS hx16 dX12_along_123 ?_
          refine lv_ladd hx hb dX12_along_124 ?_
          refine lv_topl (fun y17 ey17 => ?_)
          replace hE := nm_o ey17 hE
          refine lv_lstore (lv' := [(6, .long y17), (4, .long y14), (0, rr G v0), (3, .int v3), (8, .int v8)]) hx hb dX12_along_125 hl (by decide) rfl (fun ls hl => ?_)
          obtain ⟨y18, ey18⟩ : ∃ y : Int32, y = v8 + (1 : Int32) := ⟨_, rfl⟩
          replace hE := nm_o ey18 hE
          refine lv_iinc (k := 4) (v := y18) (lv' := [(8, .int y18), (6, .long y17), (4, .long y14), (0, rr G v0), (3, .int v3)]) hx hb dX12_along_127 hl rfl (by rw [ey18]; rfl) (by decide) rfl (fun ls hl => ?_)
          refine lv_goto (tgt := 63) hx hb dX12_along_130 (by decide) ?_
          exact ih63 _ _ _ _ _ _ _ _ _ hE hW hS (lv_sub hl [3, 4, 2, 1, 0] rfl)
        · replace hE := ite_t q6 hE
          refine lv_goto (tgt := 127) hx hb dX12_along_84 (by decide) ?_
          obtain ⟨y19, ey19⟩ : ∃ y : Int32, y = v8 + (1 : Int32) := ⟨_, rfl⟩
          replace hE := nm_o ey19 hE
          refine lv_iinc (k := 4) (v := y19) (lv' := [(8, .int y19), (0, rr G v0), (3, .int v3), (4, .long v4), (6, .long v6)]) hx hb dX12_along_127 hl rfl (by rw [ey19]; rfl) (by decide) rfl (fun ls hl => ?_)
          refine lv_goto (tgt := 63) hx hb dX12_along_130 (by decide) ?_
          exact ih63 _ _ _ _ _ _ _ _ _ hE hW hS (lv_sub hl [1, 2, 3, 4, 0] rfl)
  refine s_aload_n hx hb dX12_along_0 rfl (lv_at hl 0 rfl) ?_
  obtain ⟨c29, hE⟩ := ck hE
  obtain ⟨f30, hf30, hE⟩ := bd hE
  refine s_callV (As := []) (rest := []) CF hK hW hS (S_X12_lay l G F hf30) c29 rfl gv_X12_164 hd_X12_lay ⟨Nat.le_of_ble_eq_true rfl, Nat.le_of_ble_eq_true rfl⟩ rfl hl.1 rfl (Nat.le_of_ble_eq_true rfl) dX12_along_1 ⟨Nat.le_refl _, Nat.le_refl _⟩ (fun H locs hW hS => ?_)
  refine s_aload_n hx hb dX12_along_4 rfl (lv_at hl 0 rfl) ?_
  refine lv_iload_n hx hb dX12_along_5 rfl (lv_at hl 1 rfl) ?_
  obtain ⟨c31, hE⟩ := ck hE
  obtain ⟨x32, hx32, hE⟩ := bd hE
  refine s_callV (As := [.int u1]) (rest := []) CF hK hW hS (S_X12_isOrder l G F hx32) c31 rfl gv_X12_254 hd_X12_isOrder ⟨Nat.le_of_ble_eq_true rfl, Nat.le_of_ble_eq_true rfl⟩ rfl hl.1 rfl (Nat.le_of_ble_eq_true rfl) dX12_along_6 ⟨Nat.le_refl _, Nat.le_refl _⟩ (fun H locs hW hS => ?_)
  refine lv_if_eq (tgt := 31) hx hb dX12_along_9 (by decide) (fun q33 => ?_) (fun q33 => ?_)
  · replace hE := ite_t q33 hE
    refine s_aload_n hx hb dX12_along_31 rfl (lv_at hl 0 rfl) ?_
    refine lv_iconst (v := (1 : Int32)) hx hb dX12_along_32 (by decide) ?_
    obtain ⟨f34, hf34, hE⟩ := bd hE
    refine s_putI hx hb hT u_X12 tyX12 tyX12_ok nmX12 hown hK hW hS hf34 rfl (by decide) fl_X12_81 rfl (Or.inl rfl) rfl dX12_along_33 (fun H locs hW hS => ?_)
    refine lv_lconst (v := (0 : Int64)) hx hb dX12_along_36 (by decide) ?_
    obtain ⟨rfl, rfl⟩ := so2 hE
    exact s_lret hx hb hr hlocks hW hS dX12_along_37
  · replace hE := ite_f q33 hE
    refine lv_iload_n hx hb dX12_along_12 rfl (lv_at hl 2 rfl) ?_
    refine lv_iconst (v := (0 : Int32)) hx hb dX12_along_13 (by decide) ?_
    refine lv_bipush (v := (10 : Int32)) hx hb dX12_along_14 (by decide) ?_
    obtain ⟨x35, hx35, hE⟩ := bd hE
    refine s_callS (As := [.int u2, .int (0 : Int32), .int (10 : Int32)]) (rest := []) CF hK hW hS (S_X12_isIn l G F hx35) gs_X12_151 hd_X12_isIn.2 ⟨Nat.le_of_ble_eq_true rfl, Nat.le_of_ble_eq_true rfl⟩ rfl hl.1 rfl (Nat.le_of_ble_eq_true rfl) dX12_along_16 ⟨Nat.le_refl _, Nat.le_refl _⟩ (fun H locs hW hS => ?_)
    refine lv_if_eq (tgt := 31) hx hb dX12_along_19 (by decide) (fun q36 => ?_) (fun q36 => ?_)
    · replace hE := ite_t q36 hE
      refine s_aload_n hx hb dX12_along_31 rfl (lv_at hl 0 rfl) ?_
      refine lv_iconst (v := (1 : Int32)) hx hb dX12_along_32 (by decide) ?_
      obtain ⟨f37, hf37, hE⟩ := bd hE
      refine s_putI hx hb hT u_X12 tyX12 tyX12_ok nmX12 hown hK hW hS hf37 rfl (by decide) fl_X12_81 rfl (Or.inl rfl) rfl dX12_along_33 (fun H locs hW hS => ?_)
      refine lv_lconst (v := (0 : Int64)) hx hb dX12_along_36 (by decide) ?_
      obtain ⟨rfl, rfl⟩ := so2 hE
      exact s_lret hx hb hr hlocks hW hS dX12_along_37
    · replace hE := ite_f q36 hE
      refine lv_iload_n hx hb dX12_along_22 rfl (lv_at hl 3 rfl) ?_
      refine lv_iconst (v := (0 : Int32)) hx hb dX12_along_23 (by decide) ?_
      refine lv_iconst (v := (1 : Int32)) hx hb dX12_along_24 (by decide) ?_
      obtain ⟨x38, hx38, hE⟩ := bd hE
      refine s_callS (As := [.int u3, .int (0 : Int32), .int (1 : Int32)]) (rest := []) CF hK hW hS (S_X12_isIn l G F hx38) gs_X12_151 hd_X12_isIn.2 ⟨Nat.le_of_ble_eq_true rfl, Nat.le_of_ble_eq_true rfl⟩ rfl hl.1 rfl (Nat.le_of_ble_eq_true rfl) dX12_along_25 ⟨Nat.le_refl _, Nat.le_refl _⟩ (fun H locs hW hS => ?_)
      refine lv_if_ne (tgt := 38) hx hb dX12_along_28 (by decide) (fun q39 => ?_) (fun q39 => ?_)
      · replace hE := ite_f q39 hE
        refine s_aload_n hx hb dX12_along_38 rfl (lv_at hl 0 rfl) ?_
        refine lv_iload_n hx hb dX12_along_39 rfl (lv_at hl 1 rfl) ?_
        refine lv_iload_n hx hb dX12_along_40 rfl (lv_at hl 2 rfl) ?_
        refine lv_iconst (v := (0 : Int32)) hx hb dX12_along_41 (by decide) ?_
        obtain ⟨c40, hE⟩ := ck hE
        obtain ⟨f41, hf41, hE⟩ := bd hE
        refine s_callV (As := [.int u1, .int u2, .int (0 : Int32)]) (rest := []) CF hK hW hS (S_X12_layWays l G F hf41) c40 rfl gv_X12_321 hd_X12_layWays ⟨Nat.le_of_ble_eq_true rfl, Nat.le_of_ble_eq_true rfl⟩ rfl hl.1 rfl (Nat.le_of_ble_eq_true rfl) dX12_along_42 ⟨Nat.le_refl _, Nat.le_refl _⟩ (fun H locs hW hS => ?_)
        refine s_aload_n hx hb dX12_along_45 rfl (lv_at hl 0 rfl) ?_
        refine lv_iload_n hx hb dX12_along_46 rfl (lv_at hl 1 rfl) ?_
        refine s_aload_n hx hb dX12_along_47 rfl (lv_at hl 0 rfl) ?_
        obtain ⟨x42, hx42, hE⟩ := bd hE
        refine s_gR hx hb hT u_X12 hown hK hW hx42 rfl (by decide) fl_X12_42 rfl dX12_along_48 ?_
        obtain ⟨c43, hE⟩ := ck hE
        obtain ⟨f44, hf44, hE⟩ := bd hE
        refine s_callV (As := [.int u1, rr G x42]) (rest := []) CF hK hW hS (S_X12_layOrder l G F hf44) c43 rfl gv_X12_292 hd_X12_layOrder ⟨Nat.le_of_ble_eq_true rfl, Nat.le_of_ble_eq_true rfl⟩ rfl hl.1 rfl (Nat.le_of_ble_eq_true rfl) dX12_along_51 ⟨Nat.le_refl _, Nat.le_refl _⟩ (fun H locs hW hS => ?_)
        refine lv_lconst (v := (0 : Int64)) hx hb dX12_along_54 (by decide) ?_
        refine lv_lstore (lv' := [(4, .long (0 : Int64)), (0, rr G u0), (1, .int u1), (2, .int u2), (3, .int u3)]) hx hb dX12_along_55 hl (by decide) rfl (fun ls hl => ?_)
        refine lv_lconst (v := (0 : Int64)) hx hb dX12_along_57 (by decide) ?_
        refine lv_lstore (lv' := [(6, .long (0 : Int64)), (4, .long (0 : Int64)), (0, rr G u0), (1, .int u1), (2, .int u2), (3, .int u3)]) hx hb dX12_along_58 hl (by decide) rfl (fun ls hl => ?_)
        refine lv_iconst (v := (0 : Int32)) hx hb dX12_along_60 (by decide) ?_
        refine lv_istore (lv' := [(8, .int (0 : Int32)), (6, .long (0 : Int64)), (4, .long (0 : Int64)), (0, rr G u0), (1, .int u1), (2, .int u2), (3, .int u3)]) hx hb dX12_along_61 hl (by decide) rfl (fun ls hl => ?_)
        exact hC63 F _ _ _ _ _ _ _ _ _ hE hW hS (lv_sub hl [3, 6, 2, 1, 0] rfl)
      · replace hE := ite_t q39 hE
        refine s_aload_n hx hb dX12_along_31 rfl (lv_at hl 0 rfl) ?_
        refine lv_iconst (v := (1 : Int32)) hx hb dX12_along_32 (by decide) ?_
        obtain ⟨f45, hf45, hE⟩ := bd hE
        refine s_putI hx hb hT u_X12 tyX12 tyX12_ok nmX12 hown hK hW hS hf45 rfl (by decide) fl_X12_81 rfl (Or.inl rfl) rfl dX12_along_33 (fun H locs hW hS => ?_)
        refine lv_lconst (v := (0 : Int64)) hx hb dX12_along_36 (by decide) ?_
        obtain ⟨rfl, rfl⟩ := so2 hE
        exact s_lret hx hb hr hlocks hW hS dX12_along_37
set_option maxHeartbeats 4000000 in
set_option maxRecDepth 100000 in
theorem S_X12_isCopy (l : Launch) (G : GG) (F : Nat) {u0 : Option Nat} {u1 : Int32} {f : Hp} {r : Int32} {n : Nat} (hE : m_X12_isCopy F u0 u1 f = some r) : Ctr l G yX12_isCopy cX12_isCopy 2 (some .boolean) 1 20 [rr G u0, .int u1] f n (some (.int r)) f n 0 0 := by
  refine Met.ofW (cc := cX12_isCopy) (maxL := 2) (ret := (some .boolean)) (by decide) rfl ?_
  intro p e s m args below meth c s₁ B hml hv
  obtain ⟨rfl, hK, hW⟩ := hv
  have hx := B.exec
  have hb := B.bytes
  have hr := B.returns
  have hts := atoms_spec (ws := wsO yX12_isCopy cX12_isCopy 2 (some .boolean)) B.pre
  have hT : ∀ w ∈ TB, w.before [rr G u0, .int u1].toArray s = true := fun w hw => hts w (List.mem_cons_of_mem _ hw)
  have hown : s.vm.findClass RX12 = some m.cls := findClass_of_methodNamed B.named
  have hlocks := B.notSynchronized
  have CF : CallFix p m c cX12_isCopy 2 s [rr G u0, .int u1].toArray TB RX12 := ⟨hx, hb, hml, hown, hT⟩
  have hS : va_S (WA G) s.heap s.heap [] := va_S.rf
  have hl : lv_has (lg_sl ([rr G u0, .int u1]) ++ List.replicate (2 - (lg_sl ([rr G u0, .int u1])).length) Slot.unset).toArray 2 [(0, rr G u0), (1, .int u1)] := by cases u0 <;> exact lv_entry _ (Nat.le_of_ble_eq_true rfl)
  rw [lg_entry_eq]
  generalize (lg_sl ([rr G u0, .int u1]) ++ List.replicate (2 - (lg_sl ([rr G u0, .int u1])).length) Slot.unset).toArray = ls at hl ⊢
  refine lv_iload_n hx hb dX12_isCopy_0 rfl (lv_at hl 1 rfl) ?_
  refine lv_if_lt (tgt := 16) hx hb dX12_isCopy_1 (by decide) (fun q1 => ?_) (fun q1 => ?_)
  · replace hE := ite_t q1 hE
    refine lv_iconst (v := (0 : Int32)) hx hb dX12_isCopy_16 (by decide) ?_
    obtain ⟨c2, hE⟩ := ck hE
    obtain rfl := so1 hE
    exact s_zret hx hb hr c2 hlocks hW hS dX12_isCopy_17
  · replace hE := ite_f q1 hE
    refine lv_iload_n hx hb dX12_isCopy_4 rfl (lv_at hl 1 rfl) ?_
    refine s_aload_n hx hb dX12_isCopy_5 rfl (lv_at hl 0 rfl) ?_
    obtain ⟨c3, hE⟩ := ck hE
    obtain ⟨x4, hx4, hE⟩ := bd hE
    refine s_callV (As := []) (rest := [.int u1]) CF hK hW hS (S_X12_copies l G F hx4) c3 rfl gv_X12_179 hd_X12_copies ⟨Nat.le_of_ble_eq_true rfl, Nat.le_of_ble_eq_true rfl⟩ rfl hl.1 rfl (Nat.le_of_ble_eq_true rfl) dX12_isCopy_6 ⟨Nat.le_refl _, Nat.le_refl _⟩ (fun H locs hW hS => ?_)
    refine lv_icmp_ge (tgt := 16) hx hb dX12_isCopy_9 (by decide) (fun q5 => ?_) (fun q5 => ?_)
    · replace hE := ite_t q5 hE
      refine lv_iconst (v := (0 : Int32)) hx hb dX12_isCopy_16 (by decide) ?_
      obtain ⟨c6, hE⟩ := ck hE
      obtain rfl := so1 hE
      exact s_zret hx hb hr c6 hlocks hW hS dX12_isCopy_17
    · replace hE := ite_f q5 hE
      refine lv_iconst (v := (1 : Int32)) hx hb dX12_isCopy_12 (by decide) ?_
      refine lv_goto (tgt := 17) hx hb dX12_isCopy_13 (by decide) ?_
      obtain ⟨c7, hE⟩ := ck hE
      obtain rfl := so1 hE
      exact s_zret hx hb hr c7 hlocks hW hS dX12_isCopy_17
set_option maxHeartbeats 4000000 in
set_option maxRecDepth 100000 in
theorem S_X12_sizeOf (l : Launch) (G : GG) (F : Nat) {u0 : Option Nat} {u1 : Int32} {f : Hp} {r : Int32} {n : Nat} (hE : m_X12_sizeOf F u0 u1 f = some r) : Ctr l G yX12_sizeOf cX12_sizeOf 2 (some .int) 0 0 [rr G u0, .int u1] f n (some (.int r)) f n 0 0 := by
  refine Met.ofW (cc := cX12_sizeOf) (maxL := 2) (ret := (some .int)) (by decide) rfl ?_
  intro p e s m args below meth c s₁ B hml hv
  obtain ⟨rfl, hK, hW⟩ := hv
  have hx := B.exec
  have hb := B.bytes
  have hr := B.returns
  have hts := atoms_spec (ws := wsO yX12_sizeOf cX12_sizeOf 2 (some .int)) B.pre
  have hT : ∀ w ∈ TB, w.before [rr G u0, .int u1].toArray s = true := fun w hw => hts w (List.mem_cons_of_mem _ hw)
  have hown : s.vm.findClass RX12 = some m.cls := findClass_of_methodNamed B.named
  have hlocks := B.notSynchronized
  have CF : CallFix p m c cX12_sizeOf 2 s [rr G u0, .int u1].toArray TB RX12 := ⟨hx, hb, hml, hown, hT⟩
  have hS : va_S (WA G) s.heap s.heap [] := va_S.rf
  have hl : lv_has (lg_sl ([rr G u0, .int u1]) ++ List.replicate (2 - (lg_sl ([rr G u0, .int u1])).length) Slot.unset).toArray 2 [(0, rr G u0), (1, .int u1)] := by cases u0 <;> exact lv_entry _ (Nat.le_of_ble_eq_true rfl)
  rw [lg_entry_eq]
  generalize (lg_sl ([rr G u0, .int u1]) ++ List.replicate (2 - (lg_sl ([rr G u0, .int u1])).length) Slot.unset).toArray = ls at hl ⊢
  refine s_aload_n hx hb dX12_sizeOf_0 rfl (lv_at hl 0 rfl) ?_
  obtain ⟨x1, hx1, hE⟩ := bd hE
  refine s_gR hx hb hT u_X12 hown hK hW hx1 rfl (by decide) fl_X12_13 rfl dX12_sizeOf_1 ?_
  refine lv_bipush (v := (10 : Int32)) hx hb dX12_sizeOf_4 (by decide) ?_
  refine lv_bipush (v := (8 : Int32)) hx hb dX12_sizeOf_6 (by decide) ?_
  refine lv_iload_n hx hb dX12_sizeOf_8 rfl (lv_at hl 1 rfl) ?_
  refine lv_imul hx hb dX12_sizeOf_9 ?_
  refine lv_iadd hx hb dX12_sizeOf_10 ?_
  obtain ⟨x2, hx2, hE⟩ := bd hE
  refine s_ldI hx hb hK hW hS hx2 dX12_sizeOf_11 ?_
  obtain rfl := so1 hE
  exact s_iret hx hb hr hlocks hW hS dX12_sizeOf_12
set_option maxHeartbeats 4000000 in
set_option maxRecDepth 100000 in
theorem S_X12_isWhole (l : Launch) (G : GG) (F : Nat) {u0 : Option Nat} {u1 : Int32} {f : Hp} {r : Int32} {n : Nat} (hE : m_X12_isWhole F u0 u1 f = some r) : Ctr l G yX12_isWhole cX12_isWhole 2 (some .boolean) 1 21 [rr G u0, .int u1] f n (some (.int r)) f n 0 0 := by
  refine Met.ofW (cc := cX12_isWhole) (maxL := 2) (ret := (some .boolean)) (by decide) rfl ?_
  intro p e s m args below meth c s₁ B hml hv
  obtain ⟨rfl, hK, hW⟩ := hv
  have hx := B.exec
  have hb := B.bytes
  have hr := B.returns
  have hts := atoms_spec (ws := wsO yX12_isWhole cX12_isWhole 2 (some .boolean)) B.pre
  have hT : ∀ w ∈ TB, w.before [rr G u0, .int u1].toArray s = true := fun w hw => hts w (List.mem_cons_of_mem _ hw)
  have hown : s.vm.findClass RX12 = some m.cls := findClass_of_methodNamed B.named
  have hlocks := B.notSynchronized
  have CF : CallFix p m c cX12_isWhole 2 s [rr G u0, .int u1].toArray TB RX12 := ⟨hx, hb, hml, hown, hT⟩
  have hS : va_S (WA G) s.heap s.heap [] := va_S.rf
  have hl : lv_has (lg_sl ([rr G u0, .int u1]) ++ List.replicate (2 - (lg_sl ([rr G u0, .int u1])).length) Slot.unset).toArray 2 [(0, rr G u0), (1, .int u1)] := by cases u0 <;> exact lv_entry _ (Nat.le_of_ble_eq_true rfl)
  rw [lg_entry_eq]
  generalize (lg_sl ([rr G u0, .int u1]) ++ List.replicate (2 - (lg_sl ([rr G u0, .int u1])).length) Slot.unset).toArray = ls at hl ⊢
  refine s_aload_n hx hb dX12_isWhole_0 rfl (lv_at hl 0 rfl) ?_
  refine lv_iload_n hx hb dX12_isWhole_1 rfl (lv_at hl 1 rfl) ?_
  obtain ⟨c1, hE⟩ := ck hE
  obtain ⟨x2, hx2, hE⟩ := bd hE
  refine s_callV (As := [.int u1]) (rest := []) CF hK hW hS (S_X12_sizeOf l G F hx2) c1 rfl gv_X12_182 hd_X12_sizeOf ⟨Nat.le_of_ble_eq_true rfl, Nat.le_of_ble_eq_true rfl⟩ rfl hl.1 rfl (Nat.le_of_ble_eq_true rfl) dX12_isWhole_2 ⟨Nat.le_refl _, Nat.le_refl _⟩ (fun H locs hW hS => ?_)
  refine s_aload_n hx hb dX12_isWhole_5 rfl (lv_at hl 0 rfl) ?_
  obtain ⟨c3, hE⟩ := ck hE
  obtain ⟨x4, hx4, hE⟩ := bd hE
  refine s_callV (As := []) (rest := [.int x2]) CF hK hW hS (S_X12_lines l G F hx4) c3 rfl gv_X12_185 hd_X12_lines ⟨Nat.le_of_ble_eq_true rfl, Nat.le_of_ble_eq_true rfl⟩ rfl hl.1 rfl (Nat.le_of_ble_eq_true rfl) dX12_isWhole_6 ⟨Nat.le_refl _, Nat.le_refl _⟩ (fun H locs hW hS => ?_)
  refine lv_icmp_ne (tgt := 16) hx hb dX12_isWhole_9 (by decide) (fun q5 => ?_) (fun q5 => ?_)
  · replace hE := ite_f q5 hE
    refine lv_iconst (v := (0 : Int32)) hx hb dX12_isWhole_16 (by decide) ?_
    obtain ⟨c6, hE⟩ := ck hE
    obtain rfl := so1 hE
    exact s_zret hx hb hr c6 hlocks hW hS dX12_isWhole_17
  · replace hE := ite_t q5 hE
    refine lv_iconst (v := (1 : Int32)) hx hb dX12_isWhole_12 (by decide) ?_
    refine lv_goto (tgt := 17) hx hb dX12_isWhole_13 (by decide) ?_
    obtain ⟨c7, hE⟩ := ck hE
    obtain rfl := so1 hE
    exact s_zret hx hb hr c7 hlocks hW hS dX12_isWhole_17
set_option maxHeartbeats 4000000 in
set_option maxRecDepth 100000 in
theorem S_X12_areWhole (l : Launch) (G : GG) (F : Nat) {u0 : Option Nat} {u1 : Int32} {u2 : Int32} {f : Hp} {r : Int32} {n : Nat} (hE : m_X12_areWhole F u0 u1 u2 f = some r) : Ctr l G yX12_areWhole cX12_areWhole 3 (some .boolean) 2 42 [rr G u0, .int u1, .int u2] f n (some (.int r)) f n 0 0 := by
  refine Met.ofW (cc := cX12_areWhole) (maxL := 3) (ret := (some .boolean)) (by decide) rfl ?_
  intro p e s m args below meth c s₁ B hml hv
  obtain ⟨rfl, hK, hW⟩ := hv
  have hx := B.exec
  have hb := B.bytes
  have hr := B.returns
  have hts := atoms_spec (ws := wsO yX12_areWhole cX12_areWhole 3 (some .boolean)) B.pre
  have hT : ∀ w ∈ TB, w.before [rr G u0, .int u1, .int u2].toArray s = true := fun w hw => hts w (List.mem_cons_of_mem _ hw)
  have hown : s.vm.findClass RX12 = some m.cls := findClass_of_methodNamed B.named
  have hlocks := B.notSynchronized
  have CF : CallFix p m c cX12_areWhole 3 s [rr G u0, .int u1, .int u2].toArray TB RX12 := ⟨hx, hb, hml, hown, hT⟩
  have hS : va_S (WA G) s.heap s.heap [] := va_S.rf
  have hl : lv_has (lg_sl ([rr G u0, .int u1, .int u2]) ++ List.replicate (3 - (lg_sl ([rr G u0, .int u1, .int u2])).length) Slot.unset).toArray 3 [(0, rr G u0), (1, .int u1), (2, .int u2)] := by cases u0 <;> exact lv_entry _ (Nat.le_of_ble_eq_true rfl)
  rw [lg_entry_eq]
  generalize (lg_sl ([rr G u0, .int u1, .int u2]) ++ List.replicate (3 - (lg_sl ([rr G u0, .int u1, .int u2])).length) Slot.unset).toArray = ls at hl ⊢
  refine s_aload_n hx hb dX12_areWhole_0 rfl (lv_at hl 0 rfl) ?_
  refine lv_iload_n hx hb dX12_areWhole_1 rfl (lv_at hl 1 rfl) ?_
  obtain ⟨c1, hE⟩ := ck hE
  obtain ⟨x2, hx2, hE⟩ := bd hE
  refine s_callV (As := [.int u1]) (rest := []) CF hK hW hS (S_X12_isCopy l G F hx2) c1 rfl gv_X12_241 hd_X12_isCopy ⟨Nat.le_of_ble_eq_true rfl, Nat.le_of_ble_eq_true rfl⟩ rfl hl.1 rfl (Nat.le_of_ble_eq_true rfl) dX12_areWhole_2 ⟨Nat.le_refl _, Nat.le_refl _⟩ (fun H locs hW hS => ?_)
  refine lv_if_eq (tgt := 36) hx hb dX12_areWhole_5 (by decide) (fun q3 => ?_) (fun q3 => ?_)
  · replace hE := ite_t q3 hE
    refine lv_iconst (v := (0 : Int32)) hx hb dX12_areWhole_36 (by decide) ?_
    obtain ⟨c4, hE⟩ := ck hE
    obtain rfl := so1 hE
    exact s_zret hx hb hr c4 hlocks hW hS dX12_areWhole_37
  · replace hE := ite_f q3 hE
    refine s_aload_n hx hb dX12_areWhole_8 rfl (lv_at hl 0 rfl) ?_
    refine lv_iload_n hx hb dX12_areWhole_9 rfl (lv_at hl 2 rfl) ?_
    obtain ⟨c5, hE⟩ := ck hE
    obtain ⟨x6, hx6, hE⟩ := bd hE
    refine s_callV (As := [.int u2]) (rest := []) CF hK hW hS (S_X12_isCopy l G F hx6) c5 rfl gv_X12_241 hd_X12_isCopy ⟨Nat.le_of_ble_eq_true rfl, Nat.le_of_ble_eq_true rfl⟩ rfl hl.1 rfl (Nat.le_of_ble_eq_true rfl) dX12_areWhole_10 ⟨Nat.le_refl _, Nat.le_refl _⟩ (fun H locs hW hS => ?_)
    refine lv_if_eq (tgt := 36) hx hb dX12_areWhole_13 (by decide) (fun q7 => ?_) (fun q7 => ?_)
    · replace hE := ite_t q7 hE
      refine lv_iconst (v := (0 : Int32)) hx hb dX12_areWhole_36 (by decide) ?_
      obtain ⟨c8, hE⟩ := ck hE
      obtain rfl := so1 hE
      exact s_zret hx hb hr c8 hlocks hW hS dX12_areWhole_37
    · replace hE := ite_f q7 hE
      refine s_aload_n hx hb dX12_areWhole_16 rfl (lv_at hl 0 rfl) ?_
      refine lv_iload_n hx hb dX12_areWhole_17 rfl (lv_at hl 1 rfl) ?_
      obtain ⟨c9, hE⟩ := ck hE
      obtain ⟨x10, hx10, hE⟩ := bd hE
      refine s_callV (As := [.int u1]) (rest := []) CF hK hW hS (S_X12_isWhole l G F hx10) c9 rfl gv_X12_279 hd_X12_isWhole ⟨Nat.le_of_ble_eq_true rfl, Nat.le_of_ble_eq_true rfl⟩ rfl hl.1 rfl (Nat.le_of_ble_eq_true rfl) dX12_areWhole_18 ⟨Nat.le_refl _, Nat.le_refl _⟩ (fun H locs hW hS => ?_)
      refine lv_if_eq (tgt := 36) hx hb dX12_areWhole_21 (by decide) (fun q11 => ?_) (fun q11 => ?_)
      · replace hE := ite_t q11 hE
        refine lv_iconst (v := (0 : Int32)) hx hb dX12_areWhole_36 (by decide) ?_
        obtain ⟨c12, hE⟩ := ck hE
        obtain rfl := so1 hE
        exact s_zret hx hb hr c12 hlocks hW hS dX12_areWhole_37
      · replace hE := ite_f q11 hE
        refine s_aload_n hx hb dX12_areWhole_24 rfl (lv_at hl 0 rfl) ?_
        refine lv_iload_n hx hb dX12_areWhole_25 rfl (lv_at hl 2 rfl) ?_
        obtain ⟨c13, hE⟩ := ck hE
        obtain ⟨x14, hx14, hE⟩ := bd hE
        refine s_callV (As := [.int u2]) (rest := []) CF hK hW hS (S_X12_isWhole l G F hx14) c13 rfl gv_X12_279 hd_X12_isWhole ⟨Nat.le_of_ble_eq_true rfl, Nat.le_of_ble_eq_true rfl⟩ rfl hl.1 rfl (Nat.le_of_ble_eq_true rfl) dX12_areWhole_26 ⟨Nat.le_refl _, Nat.le_refl _⟩ (fun H locs hW hS => ?_)
        refine lv_if_eq (tgt := 36) hx hb dX12_areWhole_29 (by decide) (fun q15 => ?_) (fun q15 => ?_)
        · replace hE := ite_t q15 hE
          refine lv_iconst (v := (0 : Int32)) hx hb dX12_areWhole_36 (by decide) ?_
          obtain ⟨c16, hE⟩ := ck hE
          obtain rfl := so1 hE
          exact s_zret hx hb hr c16 hlocks hW hS dX12_areWhole_37
        · replace hE := ite_f q15 hE
          refine lv_iconst (v := (1 : Int32)) hx hb dX12_areWhole_32 (by decide) ?_
          refine lv_goto (tgt := 37) hx hb dX12_areWhole_33 (by decide) ?_
          obtain ⟨c17, hE⟩ := ck hE
          obtain rfl := so1 hE
          exact s_zret hx hb hr c17 hlocks hW hS dX12_areWhole_37
set_option maxHeartbeats 4000000 in
set_option maxRecDepth 100000 in
theorem S_X12_bad (l : Launch) (G : GG) (F : Nat) {u0 : Option Nat} {u1 : Int32} {f : Hp} {r : Int32} {f' : Hp} {n : Nat} (hE : m_X12_bad F u0 u1 f = some (r, f')) : Ctr l G yX12_bad cX12_bad 2 (some .boolean) 0 0 [rr G u0, .int u1] f n (some (.int r)) f' n 0 0 := by
  refine Met.ofW (cc := cX12_bad) (maxL := 2) (ret := (some .boolean)) (by decide) rfl ?_
  intro p e s m args below meth c s₁ B hml hv
  obtain ⟨rfl, hK, hW⟩ := hv
  have hx := B.exec
  have hb := B.bytes
  have hr := B.returns
  have hts := atoms_spec (ws := wsO yX12_bad cX12_bad 2 (some .boolean)) B.pre
  have hT : ∀ w ∈ TB, w.before [rr G u0, .int u1].toArray s = true := fun w hw => hts w (List.mem_cons_of_mem _ hw)
  have hown : s.vm.findClass RX12 = some m.cls := findClass_of_methodNamed B.named
  have hlocks := B.notSynchronized
  have CF : CallFix p m c cX12_bad 2 s [rr G u0, .int u1].toArray TB RX12 := ⟨hx, hb, hml, hown, hT⟩
  have hS : va_S (WA G) s.heap s.heap [] := va_S.rf
  have hl : lv_has (lg_sl ([rr G u0, .int u1]) ++ List.replicate (2 - (lg_sl ([rr G u0, .int u1])).length) Slot.unset).toArray 2 [(0, rr G u0), (1, .int u1)] := by cases u0 <;> exact lv_entry _ (Nat.le_of_ble_eq_true rfl)
  rw [lg_entry_eq]
  generalize (lg_sl ([rr G u0, .int u1]) ++ List.replicate (2 - (lg_sl ([rr G u0, .int u1])).length) Slot.unset).toArray = ls at hl ⊢
  refine s_aload_n hx hb dX12_bad_0 rfl (lv_at hl 0 rfl) ?_
  refine s_aload_n hx hb dX12_bad_1 rfl (lv_at hl 0 rfl) ?_
  obtain ⟨x1, hx1, hE⟩ := bd hE
  refine s_gI hx hb hT u_X12 hown hK hW hx1 rfl (by decide) fl_X12_104 rfl dX12_bad_2 ?_
  refine lv_iconst (v := (1 : Int32)) hx hb dX12_bad_5 (by decide) ?_
  refine lv_icmp_ne (tgt := 13) hx hb dX12_bad_6 (by decide) (fun q2 => ?_) (fun q2 => ?_)
  · replace hE := ite_f q2 hE
    refine lv_iload_n hx hb dX12_bad_13 rfl (lv_at hl 1 rfl) ?_
    obtain ⟨f3, hf3, hE⟩ := bd hE
    refine s_putI hx hb hT u_X12 tyX12 tyX12_ok nmX12 hown hK hW hS hf3 rfl (by decide) fl_X12_142 rfl (Or.inl rfl) rfl dX12_bad_14 (fun H locs hW hS => ?_)
    refine s_aload_n hx hb dX12_bad_17 rfl (lv_at hl 0 rfl) ?_
    refine s_aload_n hx hb dX12_bad_18 rfl (lv_at hl 0 rfl) ?_
    obtain ⟨x4, hx4, hE⟩ := bd hE
    refine s_gI hx hb hT u_X12 hown hK hW hx4 rfl (by decide) fl_X12_98 rfl dX12_bad_19 ?_
    obtain ⟨f5, hf5, hE⟩ := bd hE
    refine s_putI hx hb hT u_X12 tyX12 tyX12_ok nmX12 hown hK hW hS hf5 rfl (by decide) fl_X12_145 rfl (Or.inl rfl) rfl dX12_bad_22 (fun H locs hW hS => ?_)
    refine lv_iconst (v := (0 : Int32)) hx hb dX12_bad_25 (by decide) ?_
    obtain ⟨c6, hE⟩ := ck hE
    obtain ⟨rfl, rfl⟩ := so2 hE
    exact s_zret hx hb hr c6 hlocks hW hS dX12_bad_26
  · replace hE := ite_t q2 hE
    refine lv_iconst (v := (1 : Int32)) hx hb dX12_bad_9 (by decide) ?_
    refine lv_goto (tgt := 14) hx hb dX12_bad_10 (by decide) ?_
    obtain ⟨f7, hf7, hE⟩ := bd hE
    refine s_putI hx hb hT u_X12 tyX12 tyX12_ok nmX12 hown hK hW hS hf7 rfl (by decide) fl_X12_142 rfl (Or.inl rfl) rfl dX12_bad_14 (fun H locs hW hS => ?_)
    refine s_aload_n hx hb dX12_bad_17 rfl (lv_at hl 0 rfl) ?_
    refine s_aload_n hx hb dX12_bad_18 rfl (lv_at hl 0 rfl) ?_
    obtain ⟨x8, hx8, hE⟩ := bd hE
    refine s_gI hx hb hT u_X12 hown hK hW hx8 rfl (by decide) fl_X12_98 rfl dX12_bad_19 ?_
    obtain ⟨f9, hf9, hE⟩ := bd hE
    refine s_putI hx hb hT u_X12 tyX12 tyX12_ok nmX12 hown hK hW hS hf9 rfl (by decide) fl_X12_145 rfl (Or.inl rfl) rfl dX12_bad_22 (fun H locs hW hS => ?_)
    refine lv_iconst (v := (0 : Int32)) hx hb dX12_bad_25 (by decide) ?_
    obtain ⟨c10, hE⟩ := ck hE
    obtain ⟨rfl, rfl⟩ := so2 hE
    exact s_zret hx hb hr c10 hlocks hW hS dX12_bad_26
set_option maxHeartbeats 4000000 in
set_option maxRecDepth 100000 in
theorem S_X12_isLetter (l : Launch) (G : GG) (F : Nat) {u0 : Int32} {f : Hp} {r : Int32} {n : Nat} (hE : m_X12_isLetter F u0 f = some r) : Ctr l G yX12_isLetter cX12_isLetter 1 (some .boolean) 0 0 [.int u0] f n (some (.int r)) f n 0 0 := by
  refine Met.ofW (cc := cX12_isLetter) (maxL := 1) (ret := (some .boolean)) (by decide) rfl ?_
  intro p e s m args below meth c s₁ B hml hv
  obtain ⟨rfl, hK, hW⟩ := hv
  have hx := B.exec
  have hb := B.bytes
  have hr := B.returns
  have hts := atoms_spec (ws := wsO yX12_isLetter cX12_isLetter 1 (some .boolean)) B.pre
  have hT : ∀ w ∈ TB, w.before [.int u0].toArray s = true := fun w hw => hts w (List.mem_cons_of_mem _ hw)
  have hown : s.vm.findClass RX12 = some m.cls := findClass_of_methodNamed B.named
  have hlocks := B.notSynchronized
  have CF : CallFix p m c cX12_isLetter 1 s [.int u0].toArray TB RX12 := ⟨hx, hb, hml, hown, hT⟩
  have hS : va_S (WA G) s.heap s.heap [] := va_S.rf
  have hl : lv_has (lg_sl ([.int u0]) ++ List.replicate (1 - (lg_sl ([.int u0])).length) Slot.unset).toArray 1 [(0, .int u0)] := by exact lv_entry [.int u0] (Nat.le_of_ble_eq_true rfl)
  rw [lg_entry_eq]
  generalize (lg_sl ([.int u0]) ++ List.replicate (1 - (lg_sl ([.int u0])).length) Slot.unset).toArray = ls at hl ⊢
  refine lv_iload_n hx hb dX12_isLetter_0 rfl (lv_at hl 0 rfl) ?_
  refine lv_bipush (v := (97 : Int32)) hx hb dX12_isLetter_1 (by decide) ?_
  refine lv_icmp_lt (tgt := 16) hx hb dX12_isLetter_3 (by decide) (fun q1 => ?_) (fun q1 => ?_)
  · replace hE := ite_t q1 hE
    refine lv_iconst (v := (0 : Int32)) hx hb dX12_isLetter_16 (by decide) ?_
    obtain ⟨c2, hE⟩ := ck hE
    obtain rfl := so1 hE
    exact s_zret hx hb hr c2 hlocks hW hS dX12_isLetter_17
  · replace hE := ite_f q1 hE
    refine lv_iload_n hx hb dX12_isLetter_6 rfl (lv_at hl 0 rfl) ?_
    refine lv_bipush (v := (122 : Int32)) hx hb dX12_isLetter_7 (by decide) ?_
    refine lv_icmp_gt (tgt := 16) hx hb dX12_isLetter_9 (by decide) (fun q3 => ?_) (fun q3 => ?_)
    · replace hE := ite_t q3 hE
      refine lv_iconst (v := (0 : Int32)) hx hb dX12_isLetter_16 (by decide) ?_
      obtain ⟨c4, hE⟩ := ck hE
      obtain rfl := so1 hE
      exact s_zret hx hb hr c4 hlocks hW hS dX12_isLetter_17
    · replace hE := ite_f q3 hE
      refine lv_iconst (v := (1 : Int32)) hx hb dX12_isLetter_12 (by decide) ?_
      refine lv_goto (tgt := 17) hx hb dX12_isLetter_13 (by decide) ?_
      obtain ⟨c5, hE⟩ := ck hE
      obtain rfl := so1 hE
      exact s_zret hx hb hr c5 hlocks hW hS dX12_isLetter_17
set_option maxHeartbeats 4000000 in
set_option maxRecDepth 100000 in
theorem S_X12_isDigit (l : Launch) (G : GG) (F : Nat) {u0 : Int32} {f : Hp} {r : Int32} {n : Nat} (hE : m_X12_isDigit F u0 f = some r) : Ctr l G yX12_isDigit cX12_isDigit 1 (some .boolean) 0 0 [.int u0] f n (some (.int r)) f n 0 0 := by
  refine Met.ofW (cc := cX12_isDigit) (maxL := 1) (ret := (some .boolean)) (by decide) rfl ?_
  intro p e s m args below meth c s₁ B hml hv
  obtain ⟨rfl, hK, hW⟩ := hv
  have hx := B.exec
  have hb := B.bytes
  have hr := B.returns
  have hts := atoms_spec (ws := wsO yX12_isDigit cX12_isDigit 1 (some .boolean)) B.pre
  have hT : ∀ w ∈ TB, w.before [.int u0].toArray s = true := fun w hw => hts w (List.mem_cons_of_mem _ hw)
  have hown : s.vm.findClass RX12 = some m.cls := findClass_of_methodNamed B.named
  have hlocks := B.notSynchronized
  have CF : CallFix p m c cX12_isDigit 1 s [.int u0].toArray TB RX12 := ⟨hx, hb, hml, hown, hT⟩
  have hS : va_S (WA G) s.heap s.heap [] := va_S.rf
  have hl : lv_has (lg_sl ([.int u0]) ++ List.replicate (1 - (lg_sl ([.int u0])).length) Slot.unset).toArray 1 [(0, .int u0)] := by exact lv_entry [.int u0] (Nat.le_of_ble_eq_true rfl)
  rw [lg_entry_eq]
  generalize (lg_sl ([.int u0]) ++ List.replicate (1 - (lg_sl ([.int u0])).length) Slot.unset).toArray = ls at hl ⊢
  refine lv_iload_n hx hb dX12_isDigit_0 rfl (lv_at hl 0 rfl) ?_
  refine lv_bipush (v := (48 : Int32)) hx hb dX12_isDigit_1 (by decide) ?_
  refine lv_icmp_lt (tgt := 16) hx hb dX12_isDigit_3 (by decide) (fun q1 => ?_) (fun q1 => ?_)
  · replace hE := ite_t q1 hE
    refine lv_iconst (v := (0 : Int32)) hx hb dX12_isDigit_16 (by decide) ?_
    obtain ⟨c2, hE⟩ := ck hE
    obtain rfl := so1 hE
    exact s_zret hx hb hr c2 hlocks hW hS dX12_isDigit_17
  · replace hE := ite_f q1 hE
    refine lv_iload_n hx hb dX12_isDigit_6 rfl (lv_at hl 0 rfl) ?_
    refine lv_bipush (v := (57 : Int32)) hx hb dX12_isDigit_7 (by decide) ?_
    refine lv_icmp_gt (tgt := 16) hx hb dX12_isDigit_9 (by decide) (fun q3 => ?_) (fun q3 => ?_)
    · replace hE := ite_t q3 hE
      refine lv_iconst (v := (0 : Int32)) hx hb dX12_isDigit_16 (by decide) ?_
      obtain ⟨c4, hE⟩ := ck hE
      obtain rfl := so1 hE
      exact s_zret hx hb hr c4 hlocks hW hS dX12_isDigit_17
    · replace hE := ite_f q3 hE
      refine lv_iconst (v := (1 : Int32)) hx hb dX12_isDigit_12 (by decide) ?_
      refine lv_goto (tgt := 17) hx hb dX12_isDigit_13 (by decide) ?_
      obtain ⟨c5, hE⟩ := ck hE
      obtain rfl := so1 hE
      exact s_zret hx hb hr c5 hlocks hW hS dX12_isDigit_17
set_option maxHeartbeats 4000000 in
set_option maxRecDepth 100000 in
theorem S_X12_byteAt (l : Launch) (G : GG) (F : Nat) {u0 : Option Nat} {u1 : Int32} {f : Hp} {r : Int32} {n : Nat} (hE : m_X12_byteAt F u0 u1 f = some r) : Ctr l G yX12_byteAt cX12_byteAt 2 (some .int) 0 0 [rr G u0, .int u1] f n (some (.int r)) f n 0 0 := by
  refine Met.ofW (cc := cX12_byteAt) (maxL := 2) (ret := (some .int)) (by decide) rfl ?_
  intro p e s m args below meth c s₁ B hml hv
  obtain ⟨rfl, hK, hW⟩ := hv
  have hx := B.exec
  have hb := B.bytes
  have hr := B.returns
  have hts := atoms_spec (ws := wsO yX12_byteAt cX12_byteAt 2 (some .int)) B.pre
  have hT : ∀ w ∈ TB, w.before [rr G u0, .int u1].toArray s = true := fun w hw => hts w (List.mem_cons_of_mem _ hw)
  have hown : s.vm.findClass RX12 = some m.cls := findClass_of_methodNamed B.named
  have hlocks := B.notSynchronized
  have CF : CallFix p m c cX12_byteAt 2 s [rr G u0, .int u1].toArray TB RX12 := ⟨hx, hb, hml, hown, hT⟩
  have hS : va_S (WA G) s.heap s.heap [] := va_S.rf
  have hl : lv_has (lg_sl ([rr G u0, .int u1]) ++ List.replicate (2 - (lg_sl ([rr G u0, .int u1])).length) Slot.unset).toArray 2 [(0, rr G u0), (1, .int u1)] := by cases u0 <;> exact lv_entry _ (Nat.le_of_ble_eq_true rfl)
  rw [lg_entry_eq]
  generalize (lg_sl ([rr G u0, .int u1]) ++ List.replicate (2 - (lg_sl ([rr G u0, .int u1])).length) Slot.unset).toArray = ls at hl ⊢
  refine lv_iload_n hx hb dX12_byteAt_0 rfl (lv_at hl 1 rfl) ?_
  refine s_aload_n hx hb dX12_byteAt_1 rfl (lv_at hl 0 rfl) ?_
  obtain ⟨x1, hx1, hE⟩ := bd hE
  refine s_gI hx hb hT u_X12 hown hK hW hx1 rfl (by decide) fl_X12_92 rfl dX12_byteAt_2 ?_
  refine lv_icmp_ge (tgt := 17) hx hb dX12_byteAt_5 (by decide) (fun q2 => ?_) (fun q2 => ?_)
  · replace hE := ite_t q2 hE
    refine lv_iconst (v := (0 : Int32)) hx hb dX12_byteAt_17 (by decide) ?_
    obtain rfl := so1 hE
    exact s_iret hx hb hr hlocks hW hS dX12_byteAt_18
  · replace hE := ite_f q2 hE
    refine s_aload_n hx hb dX12_byteAt_8 rfl (lv_at hl 0 rfl) ?_
    obtain ⟨x3, hx3, hE⟩ := bd hE
    refine s_gR hx hb hT u_X12 hown hK hW hx3 rfl (by decide) fl_X12_7 rfl dX12_byteAt_9 ?_
    refine lv_iload_n hx hb dX12_byteAt_12 rfl (lv_at hl 1 rfl) ?_
    obtain ⟨x4, hx4, hE⟩ := bd hE
    refine s_ldI hx hb hK hW hS hx4 dX12_byteAt_13 ?_
    refine lv_goto (tgt := 18) hx hb dX12_byteAt_14 (by decide) ?_
    obtain rfl := so1 hE
    exact s_iret hx hb hr hlocks hW hS dX12_byteAt_18
set_option maxHeartbeats 4000000 in
set_option maxRecDepth 100000 in
theorem S_X12_go (l : Launch) (G : GG) (F : Nat) {u0 : Option Nat} {f : Hp} {f' : Hp} {n : Nat} (hE : m_X12_go F u0 f = some f') : Ctr l G yX12_go cX12_go 5 none 1 21 [rr G u0] f n none f' n 0 0 := by
  refine Met.ofW (cc := cX12_go) (maxL := 5) (ret := none) (by decide) rfl ?_
  intro p e s m args below meth c s₁ B hml hv
  obtain ⟨rfl, hK, hW⟩ := hv
  have hx := B.exec
  have hb := B.bytes
  have hr := B.returns
  have hts := atoms_spec (ws := wsO yX12_go cX12_go 5 none) B.pre
  have hT : ∀ w ∈ TB, w.before [rr G u0].toArray s = true := fun w hw => hts w (List.mem_cons_of_mem _ hw)
  have hown : s.vm.findClass RX12 = some m.cls := findClass_of_methodNamed B.named
  have hlocks := B.notSynchronized
  have CF : CallFix p m c cX12_go 5 s [rr G u0].toArray TB RX12 := ⟨hx, hb, hml, hown, hT⟩
  have hS : va_S (WA G) s.heap s.heap [] := va_S.rf
  have hl : lv_has (lg_sl ([rr G u0]) ++ List.replicate (5 - (lg_sl ([rr G u0])).length) Slot.unset).toArray 5 [(0, rr G u0)] := by cases u0 <;> exact lv_entry _ (Nat.le_of_ble_eq_true rfl)
  rw [lg_entry_eq]
  generalize (lg_sl ([rr G u0]) ++ List.replicate (5 - (lg_sl ([rr G u0])).length) Slot.unset).toArray = ls at hl ⊢
  have hC179 : ∀ (v0 : Option Nat) (v1 : Int32) (s0 : Option Nat) (s1 : Int32) (fa : Hp) (H : Heap) (locs : List Loc) (ls : Array Slot), m_X12_go_B179 F v0 v1 s0 s1 fa = some f' → Wd G fa n H → va_S (WA G) s.heap H locs → lv_has ls 5 [(0, rr G v0), (1, .int v1)] → W p l e (headSpec (wsO yX12_go cX12_go 5 none) { frames := 1, cells := 0, slots := 0, locals := 21 }).room s m [rr G u0].toArray below meth c H locs 0 0 (MQ below (Qcn G none f' n) [rr G u0].toArray s 0 0 (WA G)) (F0 m 179 ls [.int s1, rr G s0]) := by
    intro v0 v1 s0 s1 fa H locs ls hE hW hS hl
    obtain ⟨f44, hf44, hE⟩ := bd hE
    refine s_putI hx hb hT u_X12 tyX12 tyX12_ok nmX12 hown hK hW hS hf44 rfl (by decide) fl_X12_104 rfl (Or.inl rfl) rfl dX12_go_179 (fun H locs hW hS => ?_)
    refine s_aload_n hx hb dX12_go_182 rfl (lv_at hl 0 rfl) ?_
    refine lv_iload_n hx hb dX12_go_183 rfl (lv_at hl 1 rfl) ?_
    obtain ⟨f45, hf45, hE⟩ := bd hE
    refine s_putI hx hb hT u_X12 tyX12 tyX12_ok nmX12 hown hK hW hS hf45 rfl (by decide) fl_X12_114 rfl (Or.inl rfl) rfl dX12_go_184 (fun H locs hW hS => ?_)
    refine s_aload_n hx hb dX12_go_187 rfl (lv_at hl 0 rfl) ?_
    refine lv_dup hx hb dX12_go_188 (cat_rr G _) ?_
    obtain ⟨x46, hx46, hE⟩ := bd hE
    refine s_gI hx hb hT u_X12 hown hK hW hx46 rfl (by decide) fl_X12_95 rfl dX12_go_189 ?_
    refine lv_iconst (v := (1 : Int32)) hx hb dX12_go_192 (by decide) ?_
    refine lv_iadd hx hb dX12_go_193 ?_
    obtain ⟨f47, hf47, hE⟩ := bd hE
    refine s_putI hx hb hT u_X12 tyX12 tyX12_ok nmX12 hown hK hW hS hf47 rfl (by decide) fl_X12_95 rfl (Or.inl rfl) rfl dX12_go_194 (fun H locs hW hS => ?_)
    obtain rfl := so1 hE
    exact s_vret hx hb hr hlocks hW hS dX12_go_197
  have hC174 : ∀ (v0 : Option Nat) (v1 : Int32) (s0 : Option Nat) (fa : Hp) (H : Heap) (locs : List Loc) (ls : Array Slot), m_X12_go_B174 F v0 v1 s0 fa = some f' → Wd G fa n H → va_S (WA G) s.heap H locs → lv_has ls 5 [(0, rr G v0), (1, .int v1)] → W p l e (headSpec (wsO yX12_go cX12_go 5 none) { frames := 1, cells := 0, slots := 0, locals := 21 }).room s m [rr G u0].toArray below meth c H locs 0 0 (MQ below (Qcn G none f' n) [rr G u0].toArray s 0 0 (WA G)) (F0 m 174 ls [rr G s0]) := by
    intro v0 v1 s0 fa H locs ls hE hW hS hl
    refine lv_iconst (v := (4 : Int32)) hx hb dX12_go_174 (by decide) ?_
    refine lv_goto (tgt := 179) hx hb dX12_go_175 (by decide) ?_
    exact hC179 _ _ _ _ _ _ _ _ hE hW hS (lv_sub hl [0, 1] rfl)
  have hC374 : ∀ (v2 : Int32) (s0 : Option Nat) (s1 : Int32) (s2 : Int32) (fa : Hp) (H : Heap) (locs : List Loc) (ls : Array Slot), m_X12_go_B374 F v2 s0 s1 s2 fa = some f' → Wd G fa n H → va_S (WA G) s.heap H locs → lv_has ls 5 [(2, .int v2)] → W p l e (headSpec (wsO yX12_go cX12_go 5 none) { frames := 1, cells := 0, slots := 0, locals := 21 }).room s m [rr G u0].toArray below meth c H locs 0 0 (MQ below (Qcn G none f' n) [rr G u0].toArray s 0 0 (WA G)) (F0 m 374 ls [.int s2, .int s1, rr G s0]) := by
    intro v2 s0 s1 s2 fa H locs ls hE hW hS hl
    refine lv_icmp_le (tgt := 381) hx hb dX12_go_374 (by decide) (fun q86 => ?_) (fun q86 => ?_)
    · replace hE := ite_t q86 hE
      refine lv_iload_n hx hb dX12_go_381 rfl (lv_at hl 0 rfl) ?_
      refine lv_if_eq (tgt := 389) hx hb dX12_go_382 (by decide) (fun q87 => ?_) (fun q87 => ?_)
      · replace hE := ite_t q87 hE
        refine lv_iconst (v := (3 : Int32)) hx hb dX12_go_389 (by decide) ?_
        obtain ⟨f88, hf88, hE⟩ := bd hE
        refine s_putI hx hb hT u_X12 tyX12 tyX12_ok nmX12 hown hK hW hS hf88 rfl (by decide) fl_X12_104 rfl (Or.inl rfl) rfl dX12_go_390 (fun H locs hW hS => ?_)
        obtain rfl := so1 hE
        exact s_vret hx hb hr hlocks hW hS dX12_go_393
      · replace hE := ite_f q87 hE
        refine lv_iconst (v := (2 : Int32)) hx hb dX12_go_385 (by decide) ?_
        refine lv_goto (tgt := 390) hx hb dX12_go_386 (by decide) ?_
        obtain ⟨f89, hf89, hE⟩ := bd hE
        refine s_putI hx hb hT u_X12 tyX12 tyX12_ok nmX12 hown hK hW hS hf89 rfl (by decide) fl_X12_104 rfl (Or.inl rfl) rfl dX12_go_390 (fun H locs hW hS => ?_)
        obtain rfl := so1 hE
        exact s_vret hx hb hr hlocks hW hS dX12_go_393
    · replace hE := ite_f q86 hE
      refine lv_iconst (v := (1 : Int32)) hx hb dX12_go_377 (by decide) ?_
      refine lv_goto (tgt := 390) hx hb dX12_go_378 (by decide) ?_
      obtain ⟨f90, hf90, hE⟩ := bd hE
      refine s_putI hx hb hT u_X12 tyX12 tyX12_ok nmX12 hown hK hW hS hf90 rfl (by decide) fl_X12_104 rfl (Or.inl rfl) rfl dX12_go_390 (fun H locs hW hS => ?_)
      obtain rfl := so1 hE
      exact s_vret hx hb hr hlocks hW hS dX12_go_393
  have hC350 : ∀ (v0 : Option Nat) (v2 : Int32) (v3 : Int32) (fa : Hp) (H : Heap) (locs : List Loc) (ls : Array Slot), m_X12_go_B350 F v0 v2 v3 fa = some f' → Wd G fa n H → va_S (WA G) s.heap H locs → lv_has ls 5 [(0, rr G v0), (2, .int v2), (3, .int v3)] → W p l e (headSpec (wsO yX12_go cX12_go 5 none) { frames := 1, cells := 0, slots := 0, locals := 21 }).room s m [rr G u0].toArray below meth c H locs 0 0 (MQ below (Qcn G none f' n) [rr G u0].toArray s 0 0 (WA G)) (F0 m 350 ls []) := by
    intro v0 v2 v3 fa H locs ls hE hW hS hl
    refine s_aload_n hx hb dX12_go_350 rfl (lv_at hl 0 rfl) ?_
    refine lv_iload_n hx hb dX12_go_351 rfl (lv_at hl 2 rfl) ?_
    refine lv_if_eq (tgt := 377) hx hb dX12_go_352 (by decide) (fun q81 => ?_) (fun q81 => ?_)
    · replace hE := ite_t q81 hE
      refine lv_iconst (v := (1 : Int32)) hx hb dX12_go_377 (by decide) ?_
      refine lv_goto (tgt := 390) hx hb dX12_go_378 (by decide) ?_
      obtain ⟨f82, hf82, hE⟩ := bd hE
      refine s_putI hx hb hT u_X12 tyX12 tyX12_ok nmX12 hown hK hW hS hf82 rfl (by decide) fl_X12_104 rfl (Or.inl rfl) rfl dX12_go_390 (fun H locs hW hS => ?_)
      obtain rfl := so1 hE
      exact s_vret hx hb hr hlocks hW hS dX12_go_393
    · replace hE := ite_f q81 hE
      refine s_aload_n hx hb dX12_go_355 rfl (lv_at hl 0 rfl) ?_
      obtain ⟨x83, hx83, hE⟩ := bd hE
      refine s_gI hx hb hT u_X12 hown hK hW hx83 rfl (by decide) fl_X12_95 rfl dX12_go_356 ?_
      refine s_aload_n hx hb dX12_go_359 rfl (lv_at hl 0 rfl) ?_
      obtain ⟨x84, hx84, hE⟩ := bd hE
      refine s_gI hx hb hT u_X12 hown hK hW hx84 rfl (by decide) fl_X12_98 rfl dX12_go_360 ?_
      refine lv_isub hx hb dX12_go_363 ?_
      refine lv_iload_n hx hb dX12_go_364 rfl (lv_at hl 1 rfl) ?_
      refine lv_if_eq (tgt := 373) hx hb dX12_go_365 (by decide) (fun q85 => ?_) (fun q85 => ?_)
      · replace hE := ite_t q85 hE
        refine lv_iconst (v := (2 : Int32)) hx hb dX12_go_373 (by decide) ?_
        exact hC374 _ _ _ _ _ _ _ _ hE hW hS (lv_sub hl [1] rfl)
      · replace hE := ite_f q85 hE
        refine lv_bipush (v := (7 : Int32)) hx hb dX12_go_368 (by decide) ?_
        refine lv_goto (tgt := 374) hx hb dX12_go_370 (by decide) ?_
        exact hC374 _ _ _ _ _ _ _ _ hE hW hS (lv_sub hl [1] rfl)
  have hC215 : ∀ (k215 : Nat), ∀ (v0 : Option Nat) (v2 : Int32) (v3 : Int32) (fa : Hp) (H : Heap) (locs : List Loc) (ls : Array Slot), m_X12_go_L215 F k215 v0 v2 v3 fa = some f' → Wd G fa n H → va_S (WA G) s.heap H locs → lv_has ls 5 [(0, rr G v0), (2, .int v2), (3, .int v3)] → W p l e (headSpec (wsO yX12_go cX12_go 5 none) { frames := 1, cells := 0, slots := 0, locals := 21 }).room s m [rr G u0].toArray below meth c H locs 0 0 (MQ below (Qcn G none f' n) [rr G u0].toArray s 0 0 (WA G)) (F0 m 215 ls []) := by
    intro k215
    induction k215 with
    | zero => intro v0 v2 v3 fa H locs ls hE _ _ _; cases (show (none : Option Hp) = some f' from hE)
    | succ k215 ih215 =>
      have hC307 : ∀ (v0 : Option Nat) (v2 : Int32) (v3 : Int32) (v4 : Int32) (fa : Hp) (H : Heap) (locs : List Loc) (ls : Array Slot), m_X12_go_B307 F (m_X12_go_L215 F k215) v0 v2 v3 v4 fa = some f' → Wd G fa n H → va_S (WA G) s.heap H locs → lv_has ls 5 [(0, rr G v0), (2, .int v2), (3, .int v3), (4, .int v4)] → W p l e (headSpec (wsO yX12_go cX12_go 5 none) { frames := 1, cells := 0, slots := 0, locals := 21 }).room s m [rr G u0].toArray below meth c H locs 0 0 (MQ below (Qcn G none f' n) [rr G u0].toArray s 0 0 (WA G)) (F0 m 307 ls []) := by
        intro v0 v2 v3 v4 fa H locs ls hE hW hS hl
        refine s_aload_n hx hb dX12_go_307 rfl (lv_at hl 0 rfl) ?_
        obtain ⟨x72, hx72, hE⟩ := bd hE
        refine s_gI hx hb hT u_X12 hown hK hW hx72 rfl (by decide) fl_X12_95 rfl dX12_go_308 ?_
        refine s_aload_n hx hb dX12_go_311 rfl (lv_at hl 0 rfl) ?_
        obtain ⟨x73, hx73, hE⟩ := bd hE
        refine s_gI hx hb hT u_X12 hown hK hW hx73 rfl (by decide) fl_X12_98 rfl dX12_go_312 ?_
        refine lv_isub hx hb dX12_go_315 ?_
        refine lv_iconst (v := (2 : Int32)) hx hb dX12_go_316 (by decide) ?_
        refine lv_icmp_ge (tgt := 337) hx hb dX12_go_317 (by decide) (fun q74 => ?_) (fun q74 => ?_)
        · replace hE := ite_t q74 hE
          refine s_aload_n hx hb dX12_go_337 rfl (lv_at hl 0 rfl) ?_
          refine lv_dup hx hb dX12_go_338 (cat_rr G _) ?_
          obtain ⟨x75, hx75, hE⟩ := bd hE
          refine s_gI hx hb hT u_X12 hown hK hW hx75 rfl (by decide) fl_X12_95 rfl dX12_go_339 ?_
          refine lv_iconst (v := (1 : Int32)) hx hb dX12_go_342 (by decide) ?_
          refine lv_iadd hx hb dX12_go_343 ?_
          obtain ⟨f76, hf76, hE⟩ := bd hE
          refine s_putI hx hb hT u_X12 tyX12 tyX12_ok nmX12 hown hK hW hS hf76 rfl (by decide) fl_X12_95 rfl (Or.inl rfl) rfl dX12_go_344 (fun H locs hW hS => ?_)
          refine lv_goto (tgt := 215) hx hb dX12_go_347 (by decide) ?_
          exact ih215 _ _ _ _ _ _ _ hE hW hS (lv_sub hl [0, 1, 2] rfl)
        · replace hE := ite_f q74 hE
          refine s_aload_n hx hb dX12_go_320 rfl (lv_at hl 0 rfl) ?_
          refine lv_bipush (v := (10 : Int32)) hx hb dX12_go_321 (by decide) ?_
          refine s_aload_n hx hb dX12_go_323 rfl (lv_at hl 0 rfl) ?_
          obtain ⟨x77, hx77, hE⟩ := bd hE
          refine s_gI hx hb hT u_X12 hown hK hW hx77 rfl (by decide) fl_X12_121 rfl dX12_go_324 ?_
          refine lv_imul hx hb dX12_go_327 ?_
          refine lv_iload hx hb dX12_go_328 (lv_at hl 3 rfl) ?_
          refine lv_iadd hx hb dX12_go_330 ?_
          refine lv_bipush (v := (48 : Int32)) hx hb dX12_go_331 (by decide) ?_
          refine lv_isub hx hb dX12_go_333 ?_
          obtain ⟨f78, hf78, hE⟩ := bd hE
          refine s_putI hx hb hT u_X12 tyX12 tyX12_ok nmX12 hown hK hW hS hf78 rfl (by decide) fl_X12_121 rfl (Or.inl rfl) rfl dX12_go_334 (fun H locs hW hS => ?_)
          refine s_aload_n hx hb dX12_go_337 rfl (lv_at hl 0 rfl) ?_
          refine lv_dup hx hb dX12_go_338 (cat_rr G _) ?_
          obtain ⟨x79, hx79, hE⟩ := bd hE
          refine s_gI hx hb hT u_X12 hown hK hW hx79 rfl (by decide) fl_X12_95 rfl dX12_go_339 ?_
          refine lv_iconst (v := (1 : Int32)) hx hb dX12_go_342 (by decide) ?_
          refine lv_iadd hx hb dX12_go_343 ?_
          obtain ⟨f80, hf80, hE⟩ := bd hE
          refine s_putI hx hb hT u_X12 tyX12 tyX12_ok nmX12 hown hK hW hS hf80 rfl (by decide) fl_X12_95 rfl (Or.inl rfl) rfl dX12_go_344 (fun H locs hW hS => ?_)
          refine lv_goto (tgt := 215) hx hb dX12_go_347 (by decide) ?_
          exact ih215 _ _ _ _ _ _ _ hE hW hS (lv_sub hl [0, 1, 2] rfl)
      have hC272 : ∀ (v0 : Option Nat) (v2 : Int32) (v4 : Int32) (s0 : Int32) (fa : Hp) (H : Heap) (locs : List Loc) (ls : Array Slot), m_X12_go_B272 F (m_X12_go_L215 F k215) v0 v2 v4 s0 fa = some f' → Wd G fa n H → va_S (WA G) s.heap H locs → lv_has ls 5 [(0, rr G v0), (2, .int v2), (4, .int v4)] → W p l e (headSpec (wsO yX12_go cX12_go 5 none) { frames := 1, cells := 0, slots := 0, locals := 21 }).room s m [rr G u0].toArray below meth c H locs 0 0 (MQ below (Qcn G none f' n) [rr G u0].toArray s 0 0 (WA G)) (F0 m 272 ls [.int s0]) := by
        intro v0 v2 v4 s0 fa H locs ls hE hW hS hl
        refine lv_istore_n (i := 3) (lv' := [(3, .int s0), (0, rr G v0), (2, .int v2), (4, .int v4)]) hx hb dX12_go_272 rfl hl (by decide) rfl (fun ls hl => ?_)
        refine s_aload_n hx hb dX12_go_273 rfl (lv_at hl 1 rfl) ?_
        obtain ⟨x67, hx67, hE⟩ := bd hE
        refine s_gI hx hb hT u_X12 hown hK hW hx67 rfl (by decide) fl_X12_95 rfl dX12_go_274 ?_
        refine s_aload_n hx hb dX12_go_277 rfl (lv_at hl 1 rfl) ?_
        obtain ⟨x68, hx68, hE⟩ := bd hE
        refine s_gI hx hb hT u_X12 hown hK hW hx68 rfl (by decide) fl_X12_98 rfl dX12_go_278 ?_
        refine lv_isub hx hb dX12_go_281 ?_
        refine lv_bipush (v := (7 : Int32)) hx hb dX12_go_282 (by decide) ?_
        refine lv_icmp_ge (tgt := 307) hx hb dX12_go_284 (by decide) (fun q69 => ?_) (fun q69 => ?_)
        · replace hE := ite_t q69 hE
          exact hC307 _ _ _ _ _ _ _ _ hE hW hS (lv_sub hl [1, 2, 0, 3] rfl)
        · replace hE := ite_f q69 hE
          refine s_aload_n hx hb dX12_go_287 rfl (lv_at hl 1 rfl) ?_
          refine lv_ldc2 (v := (27 : Int64)) hx hb hown (hT _ kc_X12_128) dX12_go_288 ?_
          refine s_aload_n hx hb dX12_go_291 rfl (lv_at hl 1 rfl) ?_
          obtain ⟨x70, hx70, hE⟩ := bd hE
          refine s_gJ hx hb hT u_X12 hown hK hW hx70 rfl (by decide) fl_X12_117 rfl dX12_go_292 ?_
          refine lv_lmul hx hb dX12_go_295 ?_
          refine lv_iload hx hb dX12_go_296 (lv_at hl 3 rfl) ?_
          refine lv_i2l (v := (Int32.toInt64 v4)) hx hb dX12_go_298 rfl ?_
          refine lv_ladd hx hb dX12_go_299 ?_
          refine lv_ldc2 (v := (96 : Int64)) hx hb hown (hT _ kc_X12_130) dX12_go_300 ?_
          refine lv_lsub hx hb dX12_go_303 ?_
          obtain ⟨f71, hf71, hE⟩ := bd hE
          refine s_putJ hx hb hT u_X12 tyX12 tyX12_ok nmX12 hown hK hW hS hf71 rfl (by decide) fl_X12_117 rfl (Or.inl rfl) rfl dX12_go_304 (fun H locs hW hS => ?_)
          exact hC307 _ _ _ _ _ _ _ _ hE hW hS (lv_sub hl [1, 2, 0, 3] rfl)
      have hC271 : ∀ (v0 : Option Nat) (v2 : Int32) (v4 : Int32) (fa : Hp) (H : Heap) (locs : List Loc) (ls : Array Slot), m_X12_go_B271 F (m_X12_go_L215 F k215) v0 v2 v4 fa = some f' → Wd G fa n H → va_S (WA G) s.heap H locs → lv_has ls 5 [(0, rr G v0), (2, .int v2), (4, .int v4)] → W p l e (headSpec (wsO yX12_go cX12_go 5 none) { frames := 1, cells := 0, slots := 0, locals := 21 }).room s m [rr G u0].toArray below meth c H locs 0 0 (MQ below (Qcn G none f' n) [rr G u0].toArray s 0 0 (WA G)) (F0 m 271 ls []) := by
        intro v0 v2 v4 fa H locs ls hE hW hS hl
        refine lv_iconst (v := (0 : Int32)) hx hb dX12_go_271 (by decide) ?_
        exact hC272 _ _ _ _ _ _ _ _ hE hW hS (lv_sub hl [0, 1, 2] rfl)
      have hC243 : ∀ (v0 : Option Nat) (v2 : Int32) (v3 : Int32) (fa : Hp) (H : Heap) (locs : List Loc) (ls : Array Slot), m_X12_go_B243 F (m_X12_go_L215 F k215) v0 v2 v3 fa = some f' → Wd G fa n H → va_S (WA G) s.heap H locs → lv_has ls 5 [(0, rr G v0), (2, .int v2), (3, .int v3)] → W p l e (headSpec (wsO yX12_go cX12_go 5 none) { frames := 1, cells := 0, slots := 0, locals := 21 }).room s m [rr G u0].toArray below meth c H locs 0 0 (MQ below (Qcn G none f' n) [rr G u0].toArray s 0 0 (WA G)) (F0 m 243 ls []) := by
        intro v0 v2 v3 fa H locs ls hE hW hS hl
        refine s_aload_n hx hb dX12_go_243 rfl (lv_at hl 0 rfl) ?_
        obtain ⟨x61, hx61, hE⟩ := bd hE
        refine s_gR hx hb hT u_X12 hown hK hW hx61 rfl (by decide) fl_X12_7 rfl dX12_go_244 ?_
        refine s_aload_n hx hb dX12_go_247 rfl (lv_at hl 0 rfl) ?_
        obtain ⟨x62, hx62, hE⟩ := bd hE
        refine s_gI hx hb hT u_X12 hown hK hW hx62 rfl (by decide) fl_X12_95 rfl dX12_go_248 ?_
        obtain ⟨x63, hx63, hE⟩ := bd hE
        refine s_ldI hx hb hK hW hS hx63 dX12_go_251 ?_
        refine lv_istore (lv' := [(4, .int x63), (0, rr G v0), (2, .int v2), (3, .int v3)]) hx hb dX12_go_252 hl (by decide) rfl (fun ls hl => ?_)
        refine lv_iload_n hx hb dX12_go_254 rfl (lv_at hl 3 rfl) ?_
        refine lv_if_eq (tgt := 271) hx hb dX12_go_255 (by decide) (fun q64 => ?_) (fun q64 => ?_)
        · replace hE := ite_t q64 hE
          exact hC271 _ _ _ _ _ _ _ hE hW hS (lv_sub hl [1, 2, 0] rfl)
        · replace hE := ite_f q64 hE
          refine lv_iload hx hb dX12_go_258 (lv_at hl 0 rfl) ?_
          obtain ⟨x65, hx65, hE⟩ := bd hE
          refine s_callS (As := [.int x63]) (rest := []) CF hK hW hS (S_X12_isLetter l G F hx65) gs_X12_107 hd_X12_isLetter.2 ⟨Nat.le_of_ble_eq_true rfl, Nat.le_of_ble_eq_true rfl⟩ rfl hl.1 rfl (Nat.le_of_ble_eq_true rfl) dX12_go_260 ⟨Nat.le_refl _, Nat.le_refl _⟩ (fun H locs hW hS => ?_)
          refine lv_iload_n hx hb dX12_go_263 rfl (lv_at hl 2 rfl) ?_
          refine lv_icmp_ne (tgt := 271) hx hb dX12_go_264 (by decide) (fun q66 => ?_) (fun q66 => ?_)
          · replace hE := ite_f q66 hE
            exact hC271 _ _ _ _ _ _ _ hE hW hS (lv_sub hl [1, 2, 0] rfl)
          · replace hE := ite_t q66 hE
            refine lv_iconst (v := (1 : Int32)) hx hb dX12_go_267 (by decide) ?_
            refine lv_goto (tgt := 272) hx hb dX12_go_268 (by decide) ?_
            exact hC272 _ _ _ _ _ _ _ _ hE hW hS (lv_sub hl [1, 2, 0] rfl)
      intro v0 v2 v3 fa H locs ls hE hW hS hl
      replace hE : m_X12_go_b215 F (m_X12_go_L215 F k215) v0 v2 v3 fa = some f' := hE
      refine s_aload_n hx hb dX12_go_215 rfl (lv_at hl 0 rfl) ?_
      refine s_aload_n hx hb dX12_go_216 rfl (lv_at hl 0 rfl) ?_
      obtain ⟨x51, hx51, hE⟩ := bd hE
      refine s_gI hx hb hT u_X12 hown hK hW hx51 rfl (by decide) fl_X12_95 rfl dX12_go_217 ?_
      obtain ⟨c52, hE⟩ := ck hE
      obtain ⟨x53, hx53, hE⟩ := bd hE
      refine s_callV (As := [.int x51]) (rest := []) CF hK hW hS (S_X12_byteAt l G F hx53) c52 rfl gv_X12_124 hd_X12_byteAt ⟨Nat.le_of_ble_eq_true rfl, Nat.le_of_ble_eq_true rfl⟩ rfl hl.1 rfl (Nat.le_of_ble_eq_true rfl) dX12_go_220 ⟨Nat.le_refl _, Nat.le_refl _⟩ (fun H locs hW hS => ?_)
      obtain ⟨x54, hx54, hE⟩ := bd hE
      refine s_callS (As := [.int x53]) (rest := []) CF hK hW hS (S_X12_isLetter l G F hx54) gs_X12_107 hd_X12_isLetter.2 ⟨Nat.le_of_ble_eq_true rfl, Nat.le_of_ble_eq_true rfl⟩ rfl hl.1 rfl (Nat.le_of_ble_eq_true rfl) dX12_go_223 ⟨Nat.le_refl _, Nat.le_refl _⟩ (fun H locs hW hS => ?_)
      refine lv_if_ne (tgt := 243) hx hb dX12_go_226 (by decide) (fun q55 => ?_) (fun q55 => ?_)
      · replace hE := ite_f q55 hE
        exact hC243 _ _ _ _ _ _ _ hE hW hS (lv_sub hl [0, 1, 2] rfl)
      · replace hE := ite_t q55 hE
        refine s_aload_n hx hb dX12_go_229 rfl (lv_at hl 0 rfl) ?_
        refine s_aload_n hx hb dX12_go_230 rfl (lv_at hl 0 rfl) ?_
        obtain ⟨x56, hx56, hE⟩ := bd hE
        refine s_gI hx hb hT u_X12 hown hK hW hx56 rfl (by decide) fl_X12_95 rfl dX12_go_231 ?_
        obtain ⟨c57, hE⟩ := ck hE
        obtain ⟨x58, hx58, hE⟩ := bd hE
        refine s_callV (As := [.int x56]) (rest := []) CF hK hW hS (S_X12_byteAt l G F hx58) c57 rfl gv_X12_124 hd_X12_byteAt ⟨Nat.le_of_ble_eq_true rfl, Nat.le_of_ble_eq_true rfl⟩ rfl hl.1 rfl (Nat.le_of_ble_eq_true rfl) dX12_go_234 ⟨Nat.le_refl _, Nat.le_refl _⟩ (fun H locs hW hS => ?_)
        obtain ⟨x59, hx59, hE⟩ := bd hE
        refine s_callS (As := [.int x58]) (rest := []) CF hK hW hS (S_X12_isDigit l G F hx59) gs_X12_111 hd_X12_isDigit.2 ⟨Nat.le_of_ble_eq_true rfl, Nat.le_of_ble_eq_true rfl⟩ rfl hl.1 rfl (Nat.le_of_ble_eq_true rfl) dX12_go_237 ⟨Nat.le_refl _, Nat.le_refl _⟩ (fun H locs hW hS => ?_)
        refine lv_if_eq (tgt := 350) hx hb dX12_go_240 (by decide) (fun q60 => ?_) (fun q60 => ?_)
        · replace hE := ite_t q60 hE
          exact hC350 _ _ _ _ _ _ _ hE hW hS (lv_sub hl [0, 1, 2] rfl)
        · replace hE := ite_f q60 hE
          exact hC243 _ _ _ _ _ _ _ hE hW hS (lv_sub hl [0, 1, 2] rfl)
  have hC198 : ∀ (v0 : Option Nat) (v1 : Int32) (fa : Hp) (H : Heap) (locs : List Loc) (ls : Array Slot), m_X12_go_B198 F v0 v1 fa = some f' → Wd G fa n H → va_S (WA G) s.heap H locs → lv_has ls 5 [(0, rr G v0), (1, .int v1)] → W p l e (headSpec (wsO yX12_go cX12_go 5 none) { frames := 1, cells := 0, slots := 0, locals := 21 }).room s m [rr G u0].toArray below meth c H locs 0 0 (MQ below (Qcn G none f' n) [rr G u0].toArray s 0 0 (WA G)) (F0 m 198 ls []) := by
    intro v0 v1 fa H locs ls hE hW hS hl
    refine lv_iload_n hx hb dX12_go_198 rfl (lv_at hl 1 rfl) ?_
    obtain ⟨x48, hx48, hE⟩ := bd hE
    refine s_callS (As := [.int v1]) (rest := []) CF hK hW hS (S_X12_isLetter l G F hx48) gs_X12_107 hd_X12_isLetter.2 ⟨Nat.le_of_ble_eq_true rfl, Nat.le_of_ble_eq_true rfl⟩ rfl hl.1 rfl (Nat.le_of_ble_eq_true rfl) dX12_go_199 ⟨Nat.le_refl _, Nat.le_refl _⟩ (fun H locs hW hS => ?_)
    refine lv_istore_n (i := 2) (lv' := [(2, .int x48), (0, rr G v0), (1, .int v1)]) hx hb dX12_go_202 rfl hl (by decide) rfl (fun ls hl => ?_)
    refine lv_iconst (v := (1 : Int32)) hx hb dX12_go_203 (by decide) ?_
    refine lv_istore_n (i := 3) (lv' := [(3, .int (1 : Int32)), (2, .int x48), (0, rr G v0), (1, .int v1)]) hx hb dX12_go_204 rfl hl (by decide) rfl (fun ls hl => ?_)
    refine s_aload_n hx hb dX12_go_205 rfl (lv_at hl 2 rfl) ?_
    refine lv_lconst (v := (0 : Int64)) hx hb dX12_go_206 (by decide) ?_
    obtain ⟨f49, hf49, hE⟩ := bd hE
    refine s_putJ hx hb hT u_X12 tyX12 tyX12_ok nmX12 hown hK hW hS hf49 rfl (by decide) fl_X12_117 rfl (Or.inl rfl) rfl dX12_go_207 (fun H locs hW hS => ?_)
    refine s_aload_n hx hb dX12_go_210 rfl (lv_at hl 2 rfl) ?_
    refine lv_iconst (v := (0 : Int32)) hx hb dX12_go_211 (by decide) ?_
    obtain ⟨f50, hf50, hE⟩ := bd hE
    refine s_putI hx hb hT u_X12 tyX12 tyX12_ok nmX12 hown hK hW hS hf50 rfl (by decide) fl_X12_121 rfl (Or.inl rfl) rfl dX12_go_212 (fun H locs hW hS => ?_)
    exact hC215 F _ _ _ _ _ _ _ hE hW hS (lv_sub hl [2, 1, 0] rfl)
  have hC96 : ∀ (v0 : Option Nat) (fa : Hp) (H : Heap) (locs : List Loc) (ls : Array Slot), m_X12_go_B96 F v0 fa = some f' → Wd G fa n H → va_S (WA G) s.heap H locs → lv_has ls 5 [(0, rr G v0)] → W p l e (headSpec (wsO yX12_go cX12_go 5 none) { frames := 1, cells := 0, slots := 0, locals := 21 }).room s m [rr G u0].toArray below meth c H locs 0 0 (MQ below (Qcn G none f' n) [rr G u0].toArray s 0 0 (WA G)) (F0 m 96 ls []) := by
    intro v0 fa H locs ls hE hW hS hl
    refine s_aload_n hx hb dX12_go_96 rfl (lv_at hl 0 rfl) ?_
    obtain ⟨x27, hx27, hE⟩ := bd hE
    refine s_gI hx hb hT u_X12 hown hK hW hx27 rfl (by decide) fl_X12_95 rfl dX12_go_97 ?_
    refine s_aload_n hx hb dX12_go_100 rfl (lv_at hl 0 rfl) ?_
    obtain ⟨x28, hx28, hE⟩ := bd hE
    refine s_gI hx hb hT u_X12 hown hK hW hx28 rfl (by decide) fl_X12_92 rfl dX12_go_101 ?_
    refine lv_icmp_lt (tgt := 113) hx hb dX12_go_104 (by decide) (fun q29 => ?_) (fun q29 => ?_)
    · replace hE := ite_t q29 hE
      refine s_aload_n hx hb dX12_go_113 rfl (lv_at hl 0 rfl) ?_
      obtain ⟨x30, hx30, hE⟩ := bd hE
      refine s_gR hx hb hT u_X12 hown hK hW hx30 rfl (by decide) fl_X12_7 rfl dX12_go_114 ?_
      refine s_aload_n hx hb dX12_go_117 rfl (lv_at hl 0 rfl) ?_
      obtain ⟨x31, hx31, hE⟩ := bd hE
      refine s_gI hx hb hT u_X12 hown hK hW hx31 rfl (by decide) fl_X12_95 rfl dX12_go_118 ?_
      obtain ⟨x32, hx32, hE⟩ := bd hE
      refine s_ldI hx hb hK hW hS hx32 dX12_go_121 ?_
      refine lv_istore_n (i := 1) (lv' := [(1, .int x32), (0, rr G v0)]) hx hb dX12_go_122 rfl hl (by decide) (by simp [cat_rr]) (fun ls hl => ?_)
      refine lv_iload_n hx hb dX12_go_123 rfl (lv_at hl 0 rfl) ?_
      obtain ⟨x33, hx33, hE⟩ := bd hE
      refine s_callS (As := [.int x32]) (rest := []) CF hK hW hS (S_X12_isLetter l G F hx33) gs_X12_107 hd_X12_isLetter.2 ⟨Nat.le_of_ble_eq_true rfl, Nat.le_of_ble_eq_true rfl⟩ rfl hl.1 rfl (Nat.le_of_ble_eq_true rfl) dX12_go_124 ⟨Nat.le_refl _, Nat.le_refl _⟩ (fun H locs hW hS => ?_)
      refine lv_if_ne (tgt := 198) hx hb dX12_go_127 (by decide) (fun q34 => ?_) (fun q34 => ?_)
      · replace hE := ite_f q34 hE
        exact hC198 _ _ _ _ _ _ hE hW hS (lv_sub hl [1, 0] rfl)
      · replace hE := ite_t q34 hE
        refine lv_iload_n hx hb dX12_go_130 rfl (lv_at hl 0 rfl) ?_
        obtain ⟨x35, hx35, hE⟩ := bd hE
        refine s_callS (As := [.int x32]) (rest := []) CF hK hW hS (S_X12_isDigit l G F hx35) gs_X12_111 hd_X12_isDigit.2 ⟨Nat.le_of_ble_eq_true rfl, Nat.le_of_ble_eq_true rfl⟩ rfl hl.1 rfl (Nat.le_of_ble_eq_true rfl) dX12_go_131 ⟨Nat.le_refl _, Nat.le_refl _⟩ (fun H locs hW hS => ?_)
        refine lv_if_ne (tgt := 198) hx hb dX12_go_134 (by decide) (fun q36 => ?_) (fun q36 => ?_)
        · replace hE := ite_f q36 hE
          exact hC198 _ _ _ _ _ _ hE hW hS (lv_sub hl [1, 0] rfl)
        · replace hE := ite_t q36 hE
          refine s_aload_n hx hb dX12_go_137 rfl (lv_at hl 1 rfl) ?_
          refine lv_iload_n hx hb dX12_go_138 rfl (lv_at hl 0 rfl) ?_
          refine lv_bipush (v := (59 : Int32)) hx hb dX12_go_139 (by decide) ?_
          refine lv_icmp_eq (tgt := 174) hx hb dX12_go_141 (by decide) (fun q37 => ?_) (fun q37 => ?_)
          · replace hE := ite_t q37 hE
            exact hC174 _ _ _ _ _ _ _ hE hW hS (lv_sub hl [1, 0] rfl)
          · replace hE := ite_f q37 hE
            refine lv_iload_n hx hb dX12_go_144 rfl (lv_at hl 0 rfl) ?_
            refine lv_bipush (v := (60 : Int32)) hx hb dX12_go_145 (by decide) ?_
            refine lv_icmp_eq (tgt := 174) hx hb dX12_go_147 (by decide) (fun q38 => ?_) (fun q38 => ?_)
            · replace hE := ite_t q38 hE
              exact hC174 _ _ _ _ _ _ _ hE hW hS (lv_sub hl [1, 0] rfl)
            · replace hE := ite_f q38 hE
              refine lv_iload_n hx hb dX12_go_150 rfl (lv_at hl 0 rfl) ?_
              refine lv_bipush (v := (61 : Int32)) hx hb dX12_go_151 (by decide) ?_
              refine lv_icmp_eq (tgt := 174) hx hb dX12_go_153 (by decide) (fun q39 => ?_) (fun q39 => ?_)
              · replace hE := ite_t q39 hE
                exact hC174 _ _ _ _ _ _ _ hE hW hS (lv_sub hl [1, 0] rfl)
              · replace hE := ite_f q39 hE
                refine lv_iload_n hx hb dX12_go_156 rfl (lv_at hl 0 rfl) ?_
                refine lv_bipush (v := (62 : Int32)) hx hb dX12_go_157 (by decide) ?_
                refine lv_icmp_eq (tgt := 174) hx hb dX12_go_159 (by decide) (fun q40 => ?_) (fun q40 => ?_)
                · replace hE := ite_t q40 hE
                  exact hC174 _ _ _ _ _ _ _ hE hW hS (lv_sub hl [1, 0] rfl)
                · replace hE := ite_f q40 hE
                  refine lv_iload_n hx hb dX12_go_162 rfl (lv_at hl 0 rfl) ?_
                  refine lv_bipush (v := (40 : Int32)) hx hb dX12_go_163 (by decide) ?_
                  refine lv_icmp_eq (tgt := 174) hx hb dX12_go_165 (by decide) (fun q41 => ?_) (fun q41 => ?_)
                  · replace hE := ite_t q41 hE
                    exact hC174 _ _ _ _ _ _ _ hE hW hS (lv_sub hl [1, 0] rfl)
                  · replace hE := ite_f q41 hE
                    refine lv_iload_n hx hb dX12_go_168 rfl (lv_at hl 0 rfl) ?_
                    refine lv_bipush (v := (41 : Int32)) hx hb dX12_go_169 (by decide) ?_
                    refine lv_icmp_ne (tgt := 178) hx hb dX12_go_171 (by decide) (fun q42 => ?_) (fun q42 => ?_)
                    · replace hE := ite_f q42 hE
                      refine lv_iconst (v := (1 : Int32)) hx hb dX12_go_178 (by decide) ?_
                      exact hC179 _ _ _ _ _ _ _ _ hE hW hS (lv_sub hl [1, 0] rfl)
                    · replace hE := ite_t q42 hE
                      exact hC174 _ _ _ _ _ _ _ hE hW hS (lv_sub hl [1, 0] rfl)
    · replace hE := ite_f q29 hE
      refine s_aload_n hx hb dX12_go_107 rfl (lv_at hl 0 rfl) ?_
      refine lv_iconst (v := (0 : Int32)) hx hb dX12_go_108 (by decide) ?_
      obtain ⟨f43, hf43, hE⟩ := bd hE
      refine s_putI hx hb hT u_X12 tyX12 tyX12_ok nmX12 hown hK hW hS hf43 rfl (by decide) fl_X12_104 rfl (Or.inl rfl) rfl dX12_go_109 (fun H locs hW hS => ?_)
      obtain rfl := so1 hE
      exact s_vret hx hb hr hlocks hW hS dX12_go_112
  have hC52 : ∀ (v0 : Option Nat) (fa : Hp) (H : Heap) (locs : List Loc) (ls : Array Slot), m_X12_go_B52 F v0 fa = some f' → Wd G fa n H → va_S (WA G) s.heap H locs → lv_has ls 5 [(0, rr G v0)] → W p l e (headSpec (wsO yX12_go cX12_go 5 none) { frames := 1, cells := 0, slots := 0, locals := 21 }).room s m [rr G u0].toArray below meth c H locs 0 0 (MQ below (Qcn G none f' n) [rr G u0].toArray s 0 0 (WA G)) (F0 m 52 ls []) := by
    intro v0 fa H locs ls hE hW hS hl
    refine s_aload_n hx hb dX12_go_52 rfl (lv_at hl 0 rfl) ?_
    refine s_aload_n hx hb dX12_go_53 rfl (lv_at hl 0 rfl) ?_
    obtain ⟨x16, hx16, hE⟩ := bd hE
    refine s_gI hx hb hT u_X12 hown hK hW hx16 rfl (by decide) fl_X12_95 rfl dX12_go_54 ?_
    obtain ⟨f17, hf17, hE⟩ := bd hE
    refine s_putI hx hb hT u_X12 tyX12 tyX12_ok nmX12 hown hK hW hS hf17 rfl (by decide) fl_X12_98 rfl (Or.inl rfl) rfl dX12_go_57 (fun H locs hW hS => ?_)
    refine s_aload_n hx hb dX12_go_60 rfl (lv_at hl 0 rfl) ?_
    obtain ⟨x18, hx18, hE⟩ := bd hE
    refine s_gI hx hb hT u_X12 hown hK hW hx18 rfl (by decide) fl_X12_92 rfl dX12_go_61 ?_
    refine s_aload_n hx hb dX12_go_64 rfl (lv_at hl 0 rfl) ?_
    obtain ⟨x19, hx19, hE⟩ := bd hE
    refine s_gI hx hb hT u_X12 hown hK hW hx19 rfl (by decide) fl_X12_101 rfl dX12_go_65 ?_
    refine lv_icmp_le (tgt := 96) hx hb dX12_go_68 (by decide) (fun q20 => ?_) (fun q20 => ?_)
    · replace hE := ite_t q20 hE
      exact hC96 _ _ _ _ _ hE hW hS (lv_sub hl [0] rfl)
    · replace hE := ite_f q20 hE
      refine s_aload_n hx hb dX12_go_71 rfl (lv_at hl 0 rfl) ?_
      obtain ⟨x21, hx21, hE⟩ := bd hE
      refine s_gI hx hb hT u_X12 hown hK hW hx21 rfl (by decide) fl_X12_98 rfl dX12_go_72 ?_
      refine s_aload_n hx hb dX12_go_75 rfl (lv_at hl 0 rfl) ?_
      obtain ⟨x22, hx22, hE⟩ := bd hE
      refine s_gI hx hb hT u_X12 hown hK hW hx22 rfl (by decide) fl_X12_101 rfl dX12_go_76 ?_
      refine lv_icmp_lt (tgt := 96) hx hb dX12_go_79 (by decide) (fun q23 => ?_) (fun q23 => ?_)
      · replace hE := ite_t q23 hE
        exact hC96 _ _ _ _ _ hE hW hS (lv_sub hl [0] rfl)
      · replace hE := ite_f q23 hE
        refine s_aload_n hx hb dX12_go_82 rfl (lv_at hl 0 rfl) ?_
        refine s_aload_n hx hb dX12_go_83 rfl (lv_at hl 0 rfl) ?_
        obtain ⟨x24, hx24, hE⟩ := bd hE
        refine s_gI hx hb hT u_X12 hown hK hW hx24 rfl (by decide) fl_X12_101 rfl dX12_go_84 ?_
        obtain ⟨f25, hf25, hE⟩ := bd hE
        refine s_putI hx hb hT u_X12 tyX12 tyX12_ok nmX12 hown hK hW hS hf25 rfl (by decide) fl_X12_98 rfl (Or.inl rfl) rfl dX12_go_87 (fun H locs hW hS => ?_)
        refine s_aload_n hx hb dX12_go_90 rfl (lv_at hl 0 rfl) ?_
        refine lv_iconst (v := (1 : Int32)) hx hb dX12_go_91 (by decide) ?_
        obtain ⟨f26, hf26, hE⟩ := bd hE
        refine s_putI hx hb hT u_X12 tyX12 tyX12_ok nmX12 hown hK hW hS hf26 rfl (by decide) fl_X12_104 rfl (Or.inl rfl) rfl dX12_go_92 (fun H locs hW hS => ?_)
        obtain rfl := so1 hE
        exact s_vret hx hb hr hlocks hW hS dX12_go_95
  have hC0 : ∀ (k0 : Nat), ∀ (v0 : Option Nat) (fa : Hp) (H : Heap) (locs : List Loc) (ls : Array Slot), m_X12_go_L0 F k0 v0 fa = some f' → Wd G fa n H → va_S (WA G) s.heap H locs → lv_has ls 5 [(0, rr G v0)] → W p l e (headSpec (wsO yX12_go cX12_go 5 none) { frames := 1, cells := 0, slots := 0, locals := 21 }).room s m [rr G u0].toArray below meth c H locs 0 0 (MQ below (Qcn G none f' n) [rr G u0].toArray s 0 0 (WA G)) (F0 m 0 ls []) := by
    intro k0
    induction k0 with
    | zero => intro v0 fa H locs ls hE _ _ _; cases (show (none : Option Hp) = some f' from hE)
    | succ k0 ih0 =>
      intro v0 fa H locs ls hE hW hS hl
      replace hE : m_X12_go_b0 F (m_X12_go_L0 F k0) v0 fa = some f' := hE
      refine s_aload_n hx hb dX12_go_0 rfl (lv_at hl 0 rfl) ?_
      obtain ⟨x1, hx1, hE⟩ := bd hE
      refine s_gI hx hb hT u_X12 hown hK hW hx1 rfl (by decide) fl_X12_95 rfl dX12_go_1 ?_
      refine s_aload_n hx hb dX12_go_4 rfl (lv_at hl 0 rfl) ?_
      obtain ⟨x2, hx2, hE⟩ := bd hE
      refine s_gI hx hb hT u_X12 hown hK hW hx2 rfl (by decide) fl_X12_92 rfl dX12_go_5 ?_
      refine lv_icmp_ge (tgt := 52) hx hb dX12_go_8 (by decide) (fun q3 => ?_) (fun q3 => ?_)
      · replace hE := ite_t q3 hE
        exact hC52 _ _ _ _ _ hE hW hS (lv_sub hl [0] rfl)
      · replace hE := ite_f q3 hE
        refine s_aload_n hx hb dX12_go_11 rfl (lv_at hl 0 rfl) ?_
        obtain ⟨x4, hx4, hE⟩ := bd hE
        refine s_gR hx hb hT u_X12 hown hK hW hx4 rfl (by decide) fl_X12_7 rfl dX12_go_12 ?_
        refine s_aload_n hx hb dX12_go_15 rfl (lv_at hl 0 rfl) ?_
        obtain ⟨x5, hx5, hE⟩ := bd hE
        refine s_gI hx hb hT u_X12 hown hK hW hx5 rfl (by decide) fl_X12_95 rfl dX12_go_16 ?_
        obtain ⟨x6, hx6, hE⟩ := bd hE
        refine s_ldI hx hb hK hW hS hx6 dX12_go_19 ?_
        refine lv_bipush (v := (32 : Int32)) hx hb dX12_go_20 (by decide) ?_
        refine lv_icmp_eq (tgt := 39) hx hb dX12_go_22 (by decide) (fun q7 => ?_) (fun q7 => ?_)
        · replace hE := ite_t q7 hE
          refine s_aload_n hx hb dX12_go_39 rfl (lv_at hl 0 rfl) ?_
          refine lv_dup hx hb dX12_go_40 (cat_rr G _) ?_
          obtain ⟨x8, hx8, hE⟩ := bd hE
          refine s_gI hx hb hT u_X12 hown hK hW hx8 rfl (by decide) fl_X12_95 rfl dX12_go_41 ?_
          refine lv_iconst (v := (1 : Int32)) hx hb dX12_go_44 (by decide) ?_
          refine lv_iadd hx hb dX12_go_45 ?_
          obtain ⟨f9, hf9, hE⟩ := bd hE
          refine s_putI hx hb hT u_X12 tyX12 tyX12_ok nmX12 hown hK hW hS hf9 rfl (by decide) fl_X12_95 rfl (Or.inl rfl) rfl dX12_go_46 (fun H locs hW hS => ?_)
          refine lv_goto (tgt := 0) hx hb dX12_go_49 (by decide) ?_
          exact ih0 _ _ _ _ _ hE hW hS (lv_sub hl [0] rfl)
        · replace hE := ite_f q7 hE
          refine s_aload_n hx hb dX12_go_25 rfl (lv_at hl 0 rfl) ?_
          obtain ⟨x10, hx10, hE⟩ := bd hE
          refine s_gR hx hb hT u_X12 hown hK hW hx10 rfl (by decide) fl_X12_7 rfl dX12_go_26 ?_
          refine s_aload_n hx hb dX12_go_29 rfl (lv_at hl 0 rfl) ?_
          obtain ⟨x11, hx11, hE⟩ := bd hE
          refine s_gI hx hb hT u_X12 hown hK hW hx11 rfl (by decide) fl_X12_95 rfl dX12_go_30 ?_
          obtain ⟨x12, hx12, hE⟩ := bd hE
          refine s_ldI hx hb hK hW hS hx12 dX12_go_33 ?_
          refine lv_bipush (v := (10 : Int32)) hx hb dX12_go_34 (by decide) ?_
          refine lv_icmp_ne (tgt := 52) hx hb dX12_go_36 (by decide) (fun q13 => ?_) (fun q13 => ?_)
          · replace hE := ite_f q13 hE
            exact hC52 _ _ _ _ _ hE hW hS (lv_sub hl [0] rfl)
          · replace hE := ite_t q13 hE
            refine s_aload_n hx hb dX12_go_39 rfl (lv_at hl 0 rfl) ?_
            refine lv_dup hx hb dX12_go_40 (cat_rr G _) ?_
            obtain ⟨x14, hx14, hE⟩ := bd hE
            refine s_gI hx hb hT u_X12 hown hK hW hx14 rfl (by decide) fl_X12_95 rfl dX12_go_41 ?_
            refine lv_iconst (v := (1 : Int32)) hx hb dX12_go_44 (by decide) ?_
            refine lv_iadd hx hb dX12_go_45 ?_
            obtain ⟨f15, hf15, hE⟩ := bd hE
            refine s_putI hx hb hT u_X12 tyX12 tyX12_ok nmX12 hown hK hW hS hf15 rfl (by decide) fl_X12_95 rfl (Or.inl rfl) rfl dX12_go_46 (fun H locs hW hS => ?_)
            refine lv_goto (tgt := 0) hx hb dX12_go_49 (by decide) ?_
            exact ih0 _ _ _ _ _ hE hW hS (lv_sub hl [0] rfl)
  exact hC0 F _ _ _ _ _ hE hW hS (lv_sub hl [0] rfl)
set_option maxHeartbeats 4000000 in
set_option maxRecDepth 100000 in
theorem S_X12_begin (l : Launch) (G : GG) (F : Nat) {u0 : Option Nat} {u1 : Int32} {f : Hp} {f' : Hp} {n : Nat} (hE : m_X12_begin F u0 u1 f = some f') : Ctr l G yX12_begin cX12_begin 2 none 2 45 [rr G u0, .int u1] f n none f' n 0 0 := by
  refine Met.ofW (cc := cX12_begin) (maxL := 2) (ret := none) (by decide) rfl ?_
  intro p e s m args below meth c s₁ B hml hv
  obtain ⟨rfl, hK, hW⟩ := hv
  have hx := B.exec
  have hb := B.bytes
  have hr := B.returns
  have hts := atoms_spec (ws := wsO yX12_begin cX12_begin 2 none) B.pre
  have hT : ∀ w ∈ TB, w.before [rr G u0, .int u1].toArray s = true := fun w hw => hts w (List.mem_cons_of_mem _ hw)
  have hown : s.vm.findClass RX12 = some m.cls := findClass_of_methodNamed B.named
  have hlocks := B.notSynchronized
  have CF : CallFix p m c cX12_begin 2 s [rr G u0, .int u1].toArray TB RX12 := ⟨hx, hb, hml, hown, hT⟩
  have hS : va_S (WA G) s.heap s.heap [] := va_S.rf
  have hl : lv_has (lg_sl ([rr G u0, .int u1]) ++ List.replicate (2 - (lg_sl ([rr G u0, .int u1])).length) Slot.unset).toArray 2 [(0, rr G u0), (1, .int u1)] := by cases u0 <;> exact lv_entry _ (Nat.le_of_ble_eq_true rfl)
  rw [lg_entry_eq]
  generalize (lg_sl ([rr G u0, .int u1]) ++ List.replicate (2 - (lg_sl ([rr G u0, .int u1])).length) Slot.unset).toArray = ls at hl ⊢
  refine s_aload_n hx hb dX12_begin_0 rfl (lv_at hl 0 rfl) ?_
  refine lv_iconst (v := (0 : Int32)) hx hb dX12_begin_1 (by decide) ?_
  obtain ⟨f1, hf1, hE⟩ := bd hE
  refine s_putI hx hb hT u_X12 tyX12 tyX12_ok nmX12 hown hK hW hS hf1 rfl (by decide) fl_X12_81 rfl (Or.inl rfl) rfl dX12_begin_2 (fun H locs hW hS => ?_)
  refine s_aload_n hx hb dX12_begin_5 rfl (lv_at hl 0 rfl) ?_
  obtain ⟨c2, hE⟩ := ck hE
  obtain ⟨f3, hf3, hE⟩ := bd hE
  refine s_callV (As := []) (rest := []) CF hK hW hS (S_X12_lay l G F hf3) c2 rfl gv_X12_164 hd_X12_lay ⟨Nat.le_of_ble_eq_true rfl, Nat.le_of_ble_eq_true rfl⟩ rfl hl.1 rfl (Nat.le_of_ble_eq_true rfl) dX12_begin_6 ⟨Nat.le_refl _, Nat.le_refl _⟩ (fun H locs hW hS => ?_)
  refine s_aload_n hx hb dX12_begin_9 rfl (lv_at hl 0 rfl) ?_
  refine s_aload_n hx hb dX12_begin_10 rfl (lv_at hl 0 rfl) ?_
  obtain ⟨c4, hE⟩ := ck hE
  obtain ⟨x5, f6, hx5, hE⟩ := bd2_of hE
  refine s_callV (As := []) (rest := [rr G u0]) CF hK hW hS (S_X12_take l G F hx5) c4 rfl gv_X12_167 hd_X12_take ⟨Nat.le_of_ble_eq_true rfl, Nat.le_of_ble_eq_true rfl⟩ rfl hl.1 rfl (Nat.le_of_ble_eq_true rfl) dX12_begin_11 ⟨Nat.le_refl _, Nat.le_refl _⟩ (fun H locs hW hS => ?_)
  obtain ⟨f7, hf7, hE⟩ := bd hE
  refine s_putI hx hb hT u_X12 tyX12 tyX12_ok nmX12 hown hK hW hS hf7 rfl (by decide) fl_X12_92 rfl (Or.inl rfl) rfl dX12_begin_14 (fun H locs hW hS => ?_)
  refine s_aload_n hx hb dX12_begin_17 rfl (lv_at hl 0 rfl) ?_
  refine lv_iload_n hx hb dX12_begin_18 rfl (lv_at hl 1 rfl) ?_
  obtain ⟨f8, hf8, hE⟩ := bd hE
  refine s_putI hx hb hT u_X12 tyX12 tyX12_ok nmX12 hown hK hW hS hf8 rfl (by decide) fl_X12_101 rfl (Or.inl rfl) rfl dX12_begin_19 (fun H locs hW hS => ?_)
  refine s_aload_n hx hb dX12_begin_22 rfl (lv_at hl 0 rfl) ?_
  refine lv_iconst (v := (0 : Int32)) hx hb dX12_begin_23 (by decide) ?_
  obtain ⟨f9, hf9, hE⟩ := bd hE
  refine s_putI hx hb hT u_X12 tyX12 tyX12_ok nmX12 hown hK hW hS hf9 rfl (by decide) fl_X12_142 rfl (Or.inl rfl) rfl dX12_begin_24 (fun H locs hW hS => ?_)
  refine s_aload_n hx hb dX12_begin_27 rfl (lv_at hl 0 rfl) ?_
  refine lv_iconst (v := (0 : Int32)) hx hb dX12_begin_28 (by decide) ?_
  obtain ⟨f10, hf10, hE⟩ := bd hE
  refine s_putI hx hb hT u_X12 tyX12 tyX12_ok nmX12 hown hK hW hS hf10 rfl (by decide) fl_X12_95 rfl (Or.inl rfl) rfl dX12_begin_29 (fun H locs hW hS => ?_)
  refine s_aload_n hx hb dX12_begin_32 rfl (lv_at hl 0 rfl) ?_
  obtain ⟨c11, hE⟩ := ck hE
  obtain ⟨f12, hf12, hE⟩ := bd hE
  refine s_callV (As := []) (rest := []) CF hK hW hS (S_X12_go l G F hf12) c11 rfl gv_X12_158 hd_X12_go ⟨Nat.le_of_ble_eq_true rfl, Nat.le_of_ble_eq_true rfl⟩ rfl hl.1 rfl (Nat.le_of_ble_eq_true rfl) dX12_begin_33 ⟨Nat.le_refl _, Nat.le_refl _⟩ (fun H locs hW hS => ?_)
  obtain rfl := so1 hE
  exact s_vret hx hb hr hlocks hW hS dX12_begin_36
set_option maxHeartbeats 4000000 in
set_option maxRecDepth 100000 in
theorem S_X12_lineOf (l : Launch) (G : GG) (F : Nat) {u0 : Option Nat} {u1 : Int32} {u2 : Int32} {f : Hp} {r : Int32} {n : Nat} (hE : m_X12_lineOf F u0 u1 u2 f = some r) : Ctr l G yX12_lineOf cX12_lineOf 3 (some .int) 0 0 [rr G u0, .int u1, .int u2] f n (some (.int r)) f n 0 0 := by
  refine Met.ofW (cc := cX12_lineOf) (maxL := 3) (ret := (some .int)) (by decide) rfl ?_
  intro p e s m args below meth c s₁ B hml hv
  obtain ⟨rfl, hK, hW⟩ := hv
  have hx := B.exec
  have hb := B.bytes
  have hr := B.returns
  have hts := atoms_spec (ws := wsO yX12_lineOf cX12_lineOf 3 (some .int)) B.pre
  have hT : ∀ w ∈ TB, w.before [rr G u0, .int u1, .int u2].toArray s = true := fun w hw => hts w (List.mem_cons_of_mem _ hw)
  have hown : s.vm.findClass RX12 = some m.cls := findClass_of_methodNamed B.named
  have hlocks := B.notSynchronized
  have CF : CallFix p m c cX12_lineOf 3 s [rr G u0, .int u1, .int u2].toArray TB RX12 := ⟨hx, hb, hml, hown, hT⟩
  have hS : va_S (WA G) s.heap s.heap [] := va_S.rf
  have hl : lv_has (lg_sl ([rr G u0, .int u1, .int u2]) ++ List.replicate (3 - (lg_sl ([rr G u0, .int u1, .int u2])).length) Slot.unset).toArray 3 [(0, rr G u0), (1, .int u1), (2, .int u2)] := by cases u0 <;> exact lv_entry _ (Nat.le_of_ble_eq_true rfl)
  rw [lg_entry_eq]
  generalize (lg_sl ([rr G u0, .int u1, .int u2]) ++ List.replicate (3 - (lg_sl ([rr G u0, .int u1, .int u2])).length) Slot.unset).toArray = ls at hl ⊢
  refine s_aload_n hx hb dX12_lineOf_0 rfl (lv_at hl 0 rfl) ?_
  obtain ⟨x1, hx1, hE⟩ := bd hE
  refine s_gR hx hb hT u_X12 hown hK hW hx1 rfl (by decide) fl_X12_13 rfl dX12_lineOf_1 ?_
  refine lv_bipush (v := (10 : Int32)) hx hb dX12_lineOf_4 (by decide) ?_
  refine lv_bipush (v := (8 : Int32)) hx hb dX12_lineOf_6 (by decide) ?_
  refine lv_iload_n hx hb dX12_lineOf_8 rfl (lv_at hl 1 rfl) ?_
  refine lv_imul hx hb dX12_lineOf_9 ?_
  refine lv_iadd hx hb dX12_lineOf_10 ?_
  refine lv_iconst (v := (1 : Int32)) hx hb dX12_lineOf_11 (by decide) ?_
  refine lv_iadd hx hb dX12_lineOf_12 ?_
  refine lv_iload_n hx hb dX12_lineOf_13 rfl (lv_at hl 2 rfl) ?_
  refine lv_iadd hx hb dX12_lineOf_14 ?_
  obtain ⟨x2, hx2, hE⟩ := bd hE
  refine s_ldI hx hb hK hW hS hx2 dX12_lineOf_15 ?_
  obtain rfl := so1 hE
  exact s_iret hx hb hr hlocks hW hS dX12_lineOf_16
set_option maxHeartbeats 4000000 in
set_option maxRecDepth 100000 in
theorem S_X12_layCopy (l : Launch) (G : GG) (F : Nat) {u0 : Option Nat} {u1 : Int32} {u2 : Option Nat} {f : Hp} {f' : Hp} {n : Nat} (hE : m_X12_layCopy F u0 u1 u2 f = some f') : Ctr l G yX12_layCopy cX12_layCopy 4 none 1 22 [rr G u0, .int u1, rr G u2] f n none f' n 0 0 := by
  refine Met.ofW (cc := cX12_layCopy) (maxL := 4) (ret := none) (by decide) rfl ?_
  intro p e s m args below meth c s₁ B hml hv
  obtain ⟨rfl, hK, hW⟩ := hv
  have hx := B.exec
  have hb := B.bytes
  have hr := B.returns
  have hts := atoms_spec (ws := wsO yX12_layCopy cX12_layCopy 4 none) B.pre
  have hT : ∀ w ∈ TB, w.before [rr G u0, .int u1, rr G u2].toArray s = true := fun w hw => hts w (List.mem_cons_of_mem _ hw)
  have hown : s.vm.findClass RX12 = some m.cls := findClass_of_methodNamed B.named
  have hlocks := B.notSynchronized
  have CF : CallFix p m c cX12_layCopy 4 s [rr G u0, .int u1, rr G u2].toArray TB RX12 := ⟨hx, hb, hml, hown, hT⟩
  have hS : va_S (WA G) s.heap s.heap [] := va_S.rf
  have hl : lv_has (lg_sl ([rr G u0, .int u1, rr G u2]) ++ List.replicate (4 - (lg_sl ([rr G u0, .int u1, rr G u2])).length) Slot.unset).toArray 4 [(0, rr G u0), (1, .int u1), (2, rr G u2)] := by cases u0 <;> cases u2 <;> exact lv_entry _ (Nat.le_of_ble_eq_true rfl)
  rw [lg_entry_eq]
  generalize (lg_sl ([rr G u0, .int u1, rr G u2]) ++ List.replicate (4 - (lg_sl ([rr G u0, .int u1, rr G u2])).length) Slot.unset).toArray = ls at hl ⊢
  have hC20 : ∀ (k20 : Nat), ∀ (v0 : Option Nat) (v1 : Int32) (v2 : Option Nat) (v3 : Int32) (fa : Hp) (H : Heap) (locs : List Loc) (ls : Array Slot), m_X12_layCopy_L20 F k20 v0 v1 v2 v3 fa = some f' → Wd G fa n H → va_S (WA G) s.heap H locs → lv_has ls 4 [(0, rr G v0), (1, .int v1), (2, rr G v2), (3, .int v3)] → W p l e (headSpec (wsO yX12_layCopy cX12_layCopy 4 none) { frames := 1, cells := 0, slots := 0, locals := 22 }).room s m [rr G u0, .int u1, rr G u2].toArray below meth c H locs 0 0 (MQ below (Qcn G none f' n) [rr G u0, .int u1, rr G u2].toArray s 0 0 (WA G)) (F0 m 20 ls []) := by
    intro k20
    induction k20 with
    | zero => intro v0 v1 v2 v3 fa H locs ls hE _ _ _; cases (show (none : Option Hp) = some f' from hE)
    | succ k20 ih20 =>
      intro v0 v1 v2 v3 fa H locs ls hE hW hS hl
      replace hE : m_X12_layCopy_b20 F (m_X12_layCopy_L20 F k20) v0 v1 v2 v3 fa = some f' := hE
      refine lv_iload_n hx hb dX12_layCopy_20 rfl (lv_at hl 3 rfl) ?_
      refine s_aload_n hx hb dX12_layCopy_21 rfl (lv_at hl 0 rfl) ?_
      refine lv_iload_n hx hb dX12_layCopy_22 rfl (lv_at hl 1 rfl) ?_
      obtain ⟨c4, hE⟩ := ck hE
      obtain ⟨x5, hx5, hE⟩ := bd hE
      refine s_callV (As := [.int v1]) (rest := [.int v3]) CF hK hW hS (S_X12_sizeOf l G F hx5) c4 rfl gv_X12_182 hd_X12_sizeOf ⟨Nat.le_of_ble_eq_true rfl, Nat.le_of_ble_eq_true rfl⟩ rfl hl.1 rfl (Nat.le_of_ble_eq_true rfl) dX12_layCopy_23 ⟨Nat.le_refl _, Nat.le_refl _⟩ (fun H locs hW hS => ?_)
      refine lv_icmp_ge (tgt := 44) hx hb dX12_layCopy_26 (by decide) (fun q6 => ?_) (fun q6 => ?_)
      · replace hE := ite_t q6 hE
        obtain rfl := so1 hE
        exact s_vret hx hb hr hlocks hW hS dX12_layCopy_44
      · replace hE := ite_f q6 hE
        refine s_aload_n hx hb dX12_layCopy_29 rfl (lv_at hl 2 rfl) ?_
        refine s_aload_n hx hb dX12_layCopy_30 rfl (lv_at hl 0 rfl) ?_
        refine lv_iload_n hx hb dX12_layCopy_31 rfl (lv_at hl 1 rfl) ?_
        refine lv_iload_n hx hb dX12_layCopy_32 rfl (lv_at hl 3 rfl) ?_
        obtain ⟨c7, hE⟩ := ck hE
        obtain ⟨x8, hx8, hE⟩ := bd hE
        refine s_callV (As := [.int v1, .int v3]) (rest := [rr G v2]) CF hK hW hS (S_X12_lineOf l G F hx8) c7 rfl gv_X12_247 hd_X12_lineOf ⟨Nat.le_of_ble_eq_true rfl, Nat.le_of_ble_eq_true rfl⟩ rfl hl.1 rfl (Nat.le_of_ble_eq_true rfl) dX12_layCopy_33 ⟨Nat.le_refl _, Nat.le_refl _⟩ (fun H locs hW hS => ?_)
        refine lv_iload_n hx hb dX12_layCopy_36 rfl (lv_at hl 3 rfl) ?_
        obtain ⟨f9, hf9, hE⟩ := bd hE
        refine s_stI hx hb hK hW hS hf9 dX12_layCopy_37 (fun H locs hW hS => ?_)
        obtain ⟨y10, ey10⟩ : ∃ y : Int32, y = v3 + (1 : Int32) := ⟨_, rfl⟩
        replace hE := nm_o ey10 hE
        refine lv_iinc (k := 3) (v := y10) (lv' := [(3, .int y10), (0, rr G v0), (1, .int v1), (2, rr G v2)]) hx hb dX12_layCopy_38 hl rfl (by rw [ey10]; rfl) (by decide) (by simp [cat_rr]) (fun ls hl => ?_)
        refine lv_goto (tgt := 20) hx hb dX12_layCopy_41 (by decide) ?_
        exact ih20 _ _ _ _ _ _ _ _ hE hW hS (lv_sub hl [1, 2, 3, 0] rfl)
  have hC2 : ∀ (k2 : Nat), ∀ (v0 : Option Nat) (v1 : Int32) (v2 : Option Nat) (v3 : Int32) (fa : Hp) (H : Heap) (locs : List Loc) (ls : Array Slot), m_X12_layCopy_L2 F k2 v0 v1 v2 v3 fa = some f' → Wd G fa n H → va_S (WA G) s.heap H locs → lv_has ls 4 [(0, rr G v0), (1, .int v1), (2, rr G v2), (3, .int v3)] → W p l e (headSpec (wsO yX12_layCopy cX12_layCopy 4 none) { frames := 1, cells := 0, slots := 0, locals := 22 }).room s m [rr G u0, .int u1, rr G u2].toArray below meth c H locs 0 0 (MQ below (Qcn G none f' n) [rr G u0, .int u1, rr G u2].toArray s 0 0 (WA G)) (F0 m 2 ls []) := by
    intro k2
    induction k2 with
    | zero => intro v0 v1 v2 v3 fa H locs ls hE _ _ _; cases (show (none : Option Hp) = some f' from hE)
    | succ k2 ih2 =>
      intro v0 v1 v2 v3 fa H locs ls hE hW hS hl
      replace hE : m_X12_layCopy_b2 F (m_X12_layCopy_L2 F k2) v0 v1 v2 v3 fa = some f' := hE
      refine lv_iload_n hx hb dX12_layCopy_2 rfl (lv_at hl 3 rfl) ?_
      refine lv_bipush (v := (7 : Int32)) hx hb dX12_layCopy_3 (by decide) ?_
      refine lv_icmp_ge (tgt := 18) hx hb dX12_layCopy_5 (by decide) (fun q1 => ?_) (fun q1 => ?_)
      · replace hE := ite_t q1 hE
        refine lv_iconst (v := (0 : Int32)) hx hb dX12_layCopy_18 (by decide) ?_
        refine lv_istore_n (i := 3) (lv' := [(3, .int (0 : Int32)), (0, rr G v0), (1, .int v1), (2, rr G v2)]) hx hb dX12_layCopy_19 rfl hl (by decide) (by simp [cat_rr]) (fun ls hl => ?_)
        exact hC20 F _ _ _ _ _ _ _ _ hE hW hS (lv_sub hl [1, 2, 3, 0] rfl)
      · replace hE := ite_f q1 hE
        refine s_aload_n hx hb dX12_layCopy_8 rfl (lv_at hl 2 rfl) ?_
        refine lv_iload_n hx hb dX12_layCopy_9 rfl (lv_at hl 3 rfl) ?_
        refine lv_iconst (v := (-1 : Int32)) hx hb dX12_layCopy_10 (by decide) ?_
        obtain ⟨f2, hf2, hE⟩ := bd hE
        refine s_stI hx hb hK hW hS hf2 dX12_layCopy_11 (fun H locs hW hS => ?_)
        obtain ⟨y3, ey3⟩ : ∃ y : Int32, y = v3 + (1 : Int32) := ⟨_, rfl⟩
        replace hE := nm_o ey3 hE
        refine lv_iinc (k := 3) (v := y3) (lv' := [(3, .int y3), (0, rr G v0), (1, .int v1), (2, rr G v2)]) hx hb dX12_layCopy_12 hl rfl (by rw [ey3]; rfl) (by decide) (by simp [cat_rr]) (fun ls hl => ?_)
        refine lv_goto (tgt := 2) hx hb dX12_layCopy_15 (by decide) ?_
        exact ih2 _ _ _ _ _ _ _ _ hE hW hS (lv_sub hl [1, 2, 3, 0] rfl)
  refine lv_iconst (v := (0 : Int32)) hx hb dX12_layCopy_0 (by decide) ?_
  refine lv_istore_n (i := 3) (lv' := [(3, .int (0 : Int32)), (0, rr G u0), (1, .int u1), (2, rr G u2)]) hx hb dX12_layCopy_1 rfl hl (by decide) (by simp [cat_rr]) (fun ls hl => ?_)
  exact hC2 F _ _ _ _ _ _ _ _ hE hW hS (lv_sub hl [1, 2, 3, 0] rfl)
set_option maxHeartbeats 4000000 in
set_option maxRecDepth 100000 in
theorem S_X12_songOf (l : Launch) (G : GG) (F : Nat) {u0 : Option Nat} {u1 : Option Nat} {f : Hp} {r : Int32} {n : Nat} (hE : m_X12_songOf F u0 u1 f = some r) : Ctr l G yX12_songOf cX12_songOf 6 (some .int) 0 0 [rr G u0, rr G u1] f n (some (.int r)) f n 0 0 := by
  refine Met.ofW (cc := cX12_songOf) (maxL := 6) (ret := (some .int)) (by decide) rfl ?_
  intro p e s m args below meth c s₁ B hml hv
  obtain ⟨rfl, hK, hW⟩ := hv
  have hx := B.exec
  have hb := B.bytes
  have hr := B.returns
  have hts := atoms_spec (ws := wsO yX12_songOf cX12_songOf 6 (some .int)) B.pre
  have hT : ∀ w ∈ TB, w.before [rr G u0, rr G u1].toArray s = true := fun w hw => hts w (List.mem_cons_of_mem _ hw)
  have hown : s.vm.findClass RX12 = some m.cls := findClass_of_methodNamed B.named
  have hlocks := B.notSynchronized
  have CF : CallFix p m c cX12_songOf 6 s [rr G u0, rr G u1].toArray TB RX12 := ⟨hx, hb, hml, hown, hT⟩
  have hS : va_S (WA G) s.heap s.heap [] := va_S.rf
  have hl : lv_has (lg_sl ([rr G u0, rr G u1]) ++ List.replicate (6 - (lg_sl ([rr G u0, rr G u1])).length) Slot.unset).toArray 6 [(0, rr G u0), (1, rr G u1)] := by cases u0 <;> cases u1 <;> exact lv_entry _ (Nat.le_of_ble_eq_true rfl)
  rw [lg_entry_eq]
  generalize (lg_sl ([rr G u0, rr G u1]) ++ List.replicate (6 - (lg_sl ([rr G u0, rr G u1])).length) Slot.unset).toArray = ls at hl ⊢
  have hC4 : ∀ (k4 : Nat), ∀ (v0 : Option Nat) (v1 : Option Nat) (v2 : Int32) (v3 : Int32) (H : Heap) (locs : List Loc) (ls : Array Slot), m_X12_songOf_L4 F k4 v0 v1 v2 v3 f = some r → Wd G f n H → va_S (WA G) s.heap H locs → lv_has ls 6 [(0, rr G v0), (1, rr G v1), (2, .int v2), (3, .int v3)] → W p l e (headSpec (wsO yX12_songOf cX12_songOf 6 (some .int)) { frames := 0, cells := 0, slots := 0, locals := 0 }).room s m [rr G u0, rr G u1].toArray below meth c H locs 0 0 (MQ below (Qcn G (some (.int r)) f n) [rr G u0, rr G u1].toArray s 0 0 (WA G)) (F0 m 4 ls []) := by
    intro k4
    induction k4 with
    | zero => intro v0 v1 v2 v3 H locs ls hE _ _ _; cases (show (none : Option Int32) = some r from hE)
    | succ k4 ih4 =>
      intro v0 v1 v2 v3 H locs ls hE hW hS hl
      replace hE : m_X12_songOf_b4 F (m_X12_songOf_L4 F k4) v0 v1 v2 v3 f = some r := hE
      refine lv_iload_n hx hb dX12_songOf_4 rfl (lv_at hl 3 rfl) ?_
      refine s_aload_n hx hb dX12_songOf_5 rfl (lv_at hl 0 rfl) ?_
      obtain ⟨x1, hx1, hE⟩ := bd hE
      refine s_gR hx hb hT u_X12 hown hK hW hx1 rfl (by decide) fl_X12_13 rfl dX12_songOf_6 ?_
      refine lv_iconst (v := (4 : Int32)) hx hb dX12_songOf_9 (by decide) ?_
      obtain ⟨x2, hx2, hE⟩ := bd hE
      refine s_ldI hx hb hK hW hS hx2 dX12_songOf_10 ?_
      refine lv_icmp_ge (tgt := 86) hx hb dX12_songOf_11 (by decide) (fun q3 => ?_) (fun q3 => ?_)
      · replace hE := ite_t q3 hE
        refine lv_iload_n hx hb dX12_songOf_86 rfl (lv_at hl 2 rfl) ?_
        obtain rfl := so1 hE
        exact s_iret hx hb hr hlocks hW hS dX12_songOf_87
      · replace hE := ite_f q3 hE
        refine s_aload_n hx hb dX12_songOf_14 rfl (lv_at hl 1 rfl) ?_
        refine s_aload_n hx hb dX12_songOf_15 rfl (lv_at hl 0 rfl) ?_
        obtain ⟨x4, hx4, hE⟩ := bd hE
        refine s_gR hx hb hT u_X12 hown hK hW hx4 rfl (by decide) fl_X12_13 rfl dX12_songOf_16 ?_
        refine lv_sipush (v := (134 : Int32)) hx hb dX12_songOf_19 (by decide) ?_
        refine lv_iconst (v := (3 : Int32)) hx hb dX12_songOf_22 (by decide) ?_
        refine lv_iload_n hx hb dX12_songOf_23 rfl (lv_at hl 3 rfl) ?_
        refine lv_imul hx hb dX12_songOf_24 ?_
        refine lv_iadd hx hb dX12_songOf_25 ?_
        obtain ⟨x5, hx5, hE⟩ := bd hE
        refine s_ldI hx hb hK hW hS hx5 dX12_songOf_26 ?_
        obtain ⟨x6, hx6, hE⟩ := bd hE
        refine s_ldI hx hb hK hW hS hx6 dX12_songOf_27 ?_
        refine lv_istore (lv' := [(4, .int x6), (0, rr G v0), (1, rr G v1), (2, .int v2), (3, .int v3)]) hx hb dX12_songOf_28 hl (by decide) rfl (fun ls hl => ?_)
        refine s_aload_n hx hb dX12_songOf_30 rfl (lv_at hl 2 rfl) ?_
        refine s_aload_n hx hb dX12_songOf_31 rfl (lv_at hl 1 rfl) ?_
        obtain ⟨x7, hx7, hE⟩ := bd hE
        refine s_gR hx hb hT u_X12 hown hK hW hx7 rfl (by decide) fl_X12_13 rfl dX12_songOf_32 ?_
        refine lv_sipush (v := (134 : Int32)) hx hb dX12_songOf_35 (by decide) ?_
        refine lv_iconst (v := (3 : Int32)) hx hb dX12_songOf_38 (by decide) ?_
        refine lv_iload_n hx hb dX12_songOf_39 rfl (lv_at hl 4 rfl) ?_
        refine lv_imul hx hb dX12_songOf_40 ?_
        refine lv_iadd hx hb dX12_songOf_41 ?_
        refine lv_iconst (v := (1 : Int32)) hx hb dX12_songOf_42 (by decide) ?_
        refine lv_iadd hx hb dX12_songOf_43 ?_
        obtain ⟨x8, hx8, hE⟩ := bd hE
        refine s_ldI hx hb hK hW hS hx8 dX12_songOf_44 ?_
        obtain ⟨x9, hx9, hE⟩ := bd hE
        refine s_ldI hx hb hK hW hS hx9 dX12_songOf_45 ?_
        refine lv_istore (lv' := [(5, .int x9), (4, .int x6), (0, rr G v0), (1, rr G v1), (2, .int v2), (3, .int v3)]) hx hb dX12_songOf_46 hl (by decide) rfl (fun ls hl => ?_)
        refine lv_iload hx hb dX12_songOf_48 (lv_at hl 1 rfl) ?_
        refine lv_iconst (v := (-1 : Int32)) hx hb dX12_songOf_50 (by decide) ?_
        refine lv_icmp_eq (tgt := 80) hx hb dX12_songOf_51 (by decide) (fun q10 => ?_) (fun q10 => ?_)
        · replace hE := ite_t q10 hE
          obtain ⟨y11, ey11⟩ : ∃ y : Int32, y = v3 + (1 : Int32) := ⟨_, rfl⟩
          replace hE := nm_o ey11 hE
          refine lv_iinc (k := 5) (v := y11) (lv' := [(3, .int y11), (5, .int x9), (4, .int x6), (0, rr G v0), (1, rr G v1), (2, .int v2)]) hx hb dX12_songOf_80 hl rfl (by rw [ey11]; rfl) (by decide) rfl (fun ls hl => ?_)
          refine lv_goto (tgt := 4) hx hb dX12_songOf_83 (by decide) ?_
          exact ih4 _ _ _ _ _ _ _ hE hW hS (lv_sub hl [3, 4, 5, 0] rfl)
        · replace hE := ite_f q10 hE
          refine lv_iload hx hb dX12_songOf_54 (lv_at hl 0 rfl) ?_
          refine lv_iload hx hb dX12_songOf_56 (lv_at hl 1 rfl) ?_
          refine lv_iconst (v := (1 : Int32)) hx hb dX12_songOf_58 (by decide) ?_
          refine lv_iadd hx hb dX12_songOf_59 ?_
          refine lv_icmp_ne (tgt := 80) hx hb dX12_songOf_60 (by decide) (fun q12 => ?_) (fun q12 => ?_)
          · replace hE := ite_f q12 hE
            obtain ⟨y13, ey13⟩ : ∃ y : Int32, y = v3 + (1 : Int32) := ⟨_, rfl⟩
            replace hE := nm_o ey13 hE
            refine lv_iinc (k := 5) (v := y13) (lv' := [(3, .int y13), (5, .int x9), (4, .int x6), (0, rr G v0), (1, rr G v1), (2, .int v2)]) hx hb dX12_songOf_80 hl rfl (by rw [ey13]; rfl) (by decide) rfl (fun ls hl => ?_)
            refine lv_goto (tgt := 4) hx hb dX12_songOf_83 (by decide) ?_
            exact ih4 _ _ _ _ _ _ _ hE hW hS (lv_sub hl [3, 4, 5, 0] rfl)
          · replace hE := ite_t q12 hE
            refine lv_iload_n hx hb dX12_songOf_63 rfl (lv_at hl 4 rfl) ?_
            refine s_aload_n hx hb dX12_songOf_64 rfl (lv_at hl 2 rfl) ?_
            obtain ⟨x14, hx14, hE⟩ := bd hE
            refine s_gR hx hb hT u_X12 hown hK hW hx14 rfl (by decide) fl_X12_13 rfl dX12_songOf_65 ?_
            refine lv_sipush (v := (134 : Int32)) hx hb dX12_songOf_68 (by decide) ?_
            refine lv_iconst (v := (3 : Int32)) hx hb dX12_songOf_71 (by decide) ?_
            refine lv_iload_n hx hb dX12_songOf_72 rfl (lv_at hl 5 rfl) ?_
            refine lv_imul hx hb dX12_songOf_73 ?_
            refine lv_iadd hx hb dX12_songOf_74 ?_
            refine lv_iconst (v := (2 : Int32)) hx hb dX12_songOf_75 (by decide) ?_
            refine lv_iadd hx hb dX12_songOf_76 ?_
            obtain ⟨x15, hx15, hE⟩ := bd hE
            refine s_ldI hx hb hK hW hS hx15 dX12_songOf_77 ?_
            refine lv_iadd hx hb dX12_songOf_78 ?_
            refine lv_topi (fun y16 ey16 => ?_)
            replace hE := nm_o ey16 hE
            refine lv_istore_n (i := 2) (lv' := [(2, .int y16), (5, .int x9), (4, .int x6), (0, rr G v0), (1, rr G v1), (3, .int v3)]) hx hb dX12_songOf_79 rfl hl (by decide) (by simp [cat_rr]) (fun ls hl => ?_)
            obtain ⟨y17, ey17⟩ : ∃ y : Int32, y = v3 + (1 : Int32) := ⟨_, rfl⟩
            replace hE := nm_o ey17 hE
            refine lv_iinc (k := 5) (v := y17) (lv' := [(3, .int y17), (2, .int y16), (5, .int x9), (4, .int x6), (0, rr G v0), (1, rr G v1)]) hx hb dX12_songOf_80 hl rfl (by rw [ey17]; rfl) (by decide) rfl (fun ls hl => ?_)
            refine lv_goto (tgt := 4) hx hb dX12_songOf_83 (by decide) ?_
            exact ih4 _ _ _ _ _ _ _ hE hW hS (lv_sub hl [4, 5, 1, 0] rfl)
  refine lv_iconst (v := (0 : Int32)) hx hb dX12_songOf_0 (by decide) ?_
  refine lv_istore_n (i := 2) (lv' := [(2, .int (0 : Int32)), (0, rr G u0), (1, rr G u1)]) hx hb dX12_songOf_1 rfl hl (by decide) (by simp [cat_rr]) (fun ls hl => ?_)
  refine lv_iconst (v := (0 : Int32)) hx hb dX12_songOf_2 (by decide) ?_
  refine lv_istore_n (i := 3) (lv' := [(3, .int (0 : Int32)), (2, .int (0 : Int32)), (0, rr G u0), (1, rr G u1)]) hx hb dX12_songOf_3 rfl hl (by decide) rfl (fun ls hl => ?_)
  exact hC4 F _ _ _ _ _ _ _ hE hW hS (lv_sub hl [2, 3, 1, 0] rfl)
set_option maxHeartbeats 4000000 in
set_option maxRecDepth 100000 in
theorem S_X12_better (l : Launch) (G : GG) (F : Nat) {u0 : Option Nat} {u1 : Int32} {u2 : Int32} {f : Hp} {r : Int32} {f' : Hp} {n : Nat} (hE : m_X12_better F u0 u1 u2 f = some (r, f')) : Ctr l G yX12_better cX12_better 9 (some .int) 4 92 [rr G u0, .int u1, .int u2] f n (some (.int r)) f' n 0 0 := by
  refine Met.ofW (cc := cX12_better) (maxL := 9) (ret := (some .int)) (by decide) rfl ?_
  intro p e s m args below meth c s₁ B hml hv
  obtain ⟨rfl, hK, hW⟩ := hv
  have hx := B.exec
  have hb := B.bytes
  have hr := B.returns
  have hts := atoms_spec (ws := wsO yX12_better cX12_better 9 (some .int)) B.pre
  have hT : ∀ w ∈ TB, w.before [rr G u0, .int u1, .int u2].toArray s = true := fun w hw => hts w (List.mem_cons_of_mem _ hw)
  have hown : s.vm.findClass RX12 = some m.cls := findClass_of_methodNamed B.named
  have hlocks := B.notSynchronized
  have CF : CallFix p m c cX12_better 9 s [rr G u0, .int u1, .int u2].toArray TB RX12 := ⟨hx, hb, hml, hown, hT⟩
  have hS : va_S (WA G) s.heap s.heap [] := va_S.rf
  have hl : lv_has (lg_sl ([rr G u0, .int u1, .int u2]) ++ List.replicate (9 - (lg_sl ([rr G u0, .int u1, .int u2])).length) Slot.unset).toArray 9 [(0, rr G u0), (1, .int u1), (2, .int u2)] := by cases u0 <;> exact lv_entry _ (Nat.le_of_ble_eq_true rfl)
  rw [lg_entry_eq]
  generalize (lg_sl ([rr G u0, .int u1, .int u2]) ++ List.replicate (9 - (lg_sl ([rr G u0, .int u1, .int u2])).length) Slot.unset).toArray = ls at hl ⊢
  have hC57 : ∀ (k57 : Nat), ∀ (v0 : Option Nat) (v2 : Int32) (v3 : Int32) (v4 : Int32) (v5 : Int32) (v6 : Int32) (fa : Hp) (H : Heap) (locs : List Loc) (ls : Array Slot), m_X12_better_L57 F k57 v0 v2 v3 v4 v5 v6 fa = some (r, f') → Wd G fa n H → va_S (WA G) s.heap H locs → lv_has ls 9 [(0, rr G v0), (2, .int v2), (3, .int v3), (4, .int v4), (5, .int v5), (6, .int v6)] → W p l e (headSpec (wsO yX12_better cX12_better 9 (some .int)) { frames := 4, cells := 0, slots := 0, locals := 92 }).room s m [rr G u0, .int u1, .int u2].toArray below meth c H locs 0 0 (MQ below (Qcn G (some (.int r)) f' n) [rr G u0, .int u1, .int u2].toArray s 0 0 (WA G)) (F0 m 57 ls []) := by
    intro k57
    induction k57 with
    | zero => intro v0 v2 v3 v4 v5 v6 fa H locs ls hE _ _ _; cases (show (none : Option ((Int32) × Hp)) = some (r, f') from hE)
    | succ k57 ih57 =>
      have hC127 : ∀ (v0 : Option Nat) (v2 : Int32) (v6 : Int32) (v7 : Int32) (v8 : Int32) (fa : Hp) (H : Heap) (locs : List Loc) (ls : Array Slot), m_X12_better_B127 F (m_X12_better_L57 F k57) v0 v2 v6 v7 v8 fa = some (r, f') → Wd G fa n H → va_S (WA G) s.heap H locs → lv_has ls 9 [(0, rr G v0), (2, .int v2), (6, .int v6), (7, .int v7), (8, .int v8)] → W p l e (headSpec (wsO yX12_better cX12_better 9 (some .int)) { frames := 4, cells := 0, slots := 0, locals := 92 }).room s m [rr G u0, .int u1, .int u2].toArray below meth c H locs 0 0 (MQ below (Qcn G (some (.int r)) f' n) [rr G u0, .int u1, .int u2].toArray s 0 0 (WA G)) (F0 m 127 ls []) := by
        intro v0 v2 v6 v7 v8 fa H locs ls hE hW hS hl
        refine lv_iload hx hb dX12_better_127 (lv_at hl 2 rfl) ?_
        refine lv_istore_n (i := 3) (lv' := [(3, .int v6), (0, rr G v0), (2, .int v2), (6, .int v6), (7, .int v7), (8, .int v8)]) hx hb dX12_better_129 rfl hl (by decide) rfl (fun ls hl => ?_)
        refine lv_iload hx hb dX12_better_130 (lv_at hl 5 rfl) ?_
        refine lv_istore (lv' := [(4, .int v8), (3, .int v6), (0, rr G v0), (2, .int v2), (6, .int v6), (7, .int v7), (8, .int v8)]) hx hb dX12_better_132 hl (by decide) rfl (fun ls hl => ?_)
        refine lv_iload hx hb dX12_better_134 (lv_at hl 5 rfl) ?_
        refine lv_istore (lv' := [(5, .int v7), (4, .int v8), (3, .int v6), (0, rr G v0), (2, .int v2), (6, .int v6), (7, .int v7), (8, .int v8)]) hx hb dX12_better_136 hl (by decide) rfl (fun ls hl => ?_)
        obtain ⟨y20, ey20⟩ : ∃ y : Int32, y = v6 + (1 : Int32) := ⟨_, rfl⟩
        replace hE := nm_o ey20 hE
        refine lv_iinc (k := 5) (v := y20) (lv' := [(6, .int y20), (5, .int v7), (4, .int v8), (3, .int v6), (0, rr G v0), (2, .int v2), (7, .int v7), (8, .int v8)]) hx hb dX12_better_138 hl rfl (by rw [ey20]; rfl) (by decide) rfl (fun ls hl => ?_)
        refine lv_goto (tgt := 57) hx hb dX12_better_141 (by decide) ?_
        exact ih57 _ _ _ _ _ _ _ _ _ _ hE hW hS (lv_sub hl [4, 5, 3, 2, 1, 0] rfl)
      intro v0 v2 v3 v4 v5 v6 fa H locs ls hE hW hS hl
      replace hE : m_X12_better_b57 F (m_X12_better_L57 F k57) v0 v2 v3 v4 v5 v6 fa = some (r, f') := hE
      refine lv_iload hx hb dX12_better_57 (lv_at hl 5 rfl) ?_
      refine s_aload_n hx hb dX12_better_59 rfl (lv_at hl 0 rfl) ?_
      obtain ⟨c1, hE⟩ := ck hE
      obtain ⟨x2, hx2, hE⟩ := bd hE
      refine s_callV (As := []) (rest := [.int v6]) CF hK hW hS (S_X12_orders l G F hx2) c1 rfl gv_X12_251 hd_X12_orders ⟨Nat.le_of_ble_eq_true rfl, Nat.le_of_ble_eq_true rfl⟩ rfl hl.1 rfl (Nat.le_of_ble_eq_true rfl) dX12_better_60 ⟨Nat.le_refl _, Nat.le_refl _⟩ (fun H locs hW hS => ?_)
      refine lv_icmp_ge (tgt := 144) hx hb dX12_better_63 (by decide) (fun q3 => ?_) (fun q3 => ?_)
      · replace hE := ite_t q3 hE
        refine lv_iload_n hx hb dX12_better_144 rfl (lv_at hl 2 rfl) ?_
        obtain ⟨rfl, rfl⟩ := so2 hE
        exact s_iret hx hb hr hlocks hW hS dX12_better_145
      · replace hE := ite_f q3 hE
        refine s_aload_n hx hb dX12_better_66 rfl (lv_at hl 0 rfl) ?_
        refine lv_iload hx hb dX12_better_67 (lv_at hl 5 rfl) ?_
        refine s_aload_n hx hb dX12_better_69 rfl (lv_at hl 0 rfl) ?_
        obtain ⟨x4, hx4, hE⟩ := bd hE
        refine s_gR hx hb hT u_X12 hown hK hW hx4 rfl (by decide) fl_X12_42 rfl dX12_better_70 ?_
        obtain ⟨c5, hE⟩ := ck hE
        obtain ⟨f6, hf6, hE⟩ := bd hE
        refine s_callV (As := [.int v6, rr G x4]) (rest := []) CF hK hW hS (S_X12_layOrder l G F hf6) c5 rfl gv_X12_292 hd_X12_layOrder ⟨Nat.le_of_ble_eq_true rfl, Nat.le_of_ble_eq_true rfl⟩ rfl hl.1 rfl (Nat.le_of_ble_eq_true rfl) dX12_better_73 ⟨Nat.le_refl _, Nat.le_refl _⟩ (fun H locs hW hS => ?_)
        refine s_aload_n hx hb dX12_better_76 rfl (lv_at hl 0 rfl) ?_
        obtain ⟨c7, hE⟩ := ck hE
        obtain ⟨x8, hx8, hE⟩ := bd hE
        refine s_callV (As := []) (rest := []) CF hK hW hS (S_X12_steps l G F hx8) c7 rfl gv_X12_259 hd_X12_steps ⟨Nat.le_of_ble_eq_true rfl, Nat.le_of_ble_eq_true rfl⟩ rfl hl.1 rfl (Nat.le_of_ble_eq_true rfl) dX12_better_77 ⟨Nat.le_refl _, Nat.le_refl _⟩ (fun H locs hW hS => ?_)
        refine lv_istore (lv' := [(7, .int x8), (0, rr G v0), (2, .int v2), (3, .int v3), (4, .int v4), (5, .int v5), (6, .int v6)]) hx hb dX12_better_80 hl (by decide) rfl (fun ls hl => ?_)
        refine s_aload_n hx hb dX12_better_82 rfl (lv_at hl 1 rfl) ?_
        refine s_aload_n hx hb dX12_better_83 rfl (lv_at hl 1 rfl) ?_
        obtain ⟨x9, hx9, hE⟩ := bd hE
        refine s_gR hx hb hT u_X12 hown hK hW hx9 rfl (by decide) fl_X12_42 rfl dX12_better_84 ?_
        obtain ⟨c10, hE⟩ := ck hE
        obtain ⟨x11, hx11, hE⟩ := bd hE
        refine s_callV (As := [rr G x9]) (rest := []) CF hK hW hS (S_X12_songOf l G F hx11) c10 rfl gv_X12_342 hd_X12_songOf ⟨Nat.le_of_ble_eq_true rfl, Nat.le_of_ble_eq_true rfl⟩ rfl hl.1 rfl (Nat.le_of_ble_eq_true rfl) dX12_better_87 ⟨Nat.le_refl _, Nat.le_refl _⟩ (fun H locs hW hS => ?_)
        refine lv_istore (lv' := [(8, .int x11), (7, .int x8), (0, rr G v0), (2, .int v2), (3, .int v3), (4, .int v4), (5, .int v5), (6, .int v6)]) hx hb dX12_better_90 hl (by decide) rfl (fun ls hl => ?_)
        refine lv_iload hx hb dX12_better_92 (lv_at hl 1 rfl) ?_
        refine lv_iload_n hx hb dX12_better_94 rfl (lv_at hl 3 rfl) ?_
        refine lv_icmp_gt (tgt := 138) hx hb dX12_better_95 (by decide) (fun q12 => ?_) (fun q12 => ?_)
        · replace hE := ite_t q12 hE
          obtain ⟨y13, ey13⟩ : ∃ y : Int32, y = v6 + (1 : Int32) := ⟨_, rfl⟩
          replace hE := nm_o ey13 hE
          refine lv_iinc (k := 7) (v := y13) (lv' := [(6, .int y13), (8, .int x11), (7, .int x8), (0, rr G v0), (2, .int v2), (3, .int v3), (4, .int v4), (5, .int v5)]) hx hb dX12_better_138 hl rfl (by rw [ey13]; rfl) (by decide) rfl (fun ls hl => ?_)
          refine lv_goto (tgt := 57) hx hb dX12_better_141 (by decide) ?_
          exact ih57 _ _ _ _ _ _ _ _ _ _ hE hW hS (lv_sub hl [3, 4, 5, 6, 7, 0] rfl)
        · replace hE := ite_f q12 hE
          refine lv_iload_n hx hb dX12_better_98 rfl (lv_at hl 4 rfl) ?_
          refine lv_iconst (v := (-1 : Int32)) hx hb dX12_better_99 (by decide) ?_
          refine lv_icmp_eq (tgt := 127) hx hb dX12_better_100 (by decide) (fun q14 => ?_) (fun q14 => ?_)
          · replace hE := ite_t q14 hE
            exact hC127 _ _ _ _ _ _ _ _ _ hE hW hS (lv_sub hl [2, 3, 7, 1, 0] rfl)
          · replace hE := ite_f q14 hE
            refine lv_iload hx hb dX12_better_103 (lv_at hl 0 rfl) ?_
            refine lv_iload hx hb dX12_better_105 (lv_at hl 5 rfl) ?_
            refine lv_icmp_lt (tgt := 138) hx hb dX12_better_107 (by decide) (fun q15 => ?_) (fun q15 => ?_)
            · replace hE := ite_t q15 hE
              obtain ⟨y16, ey16⟩ : ∃ y : Int32, y = v6 + (1 : Int32) := ⟨_, rfl⟩
              replace hE := nm_o ey16 hE
              refine lv_iinc (k := 7) (v := y16) (lv' := [(6, .int y16), (8, .int x11), (7, .int x8), (0, rr G v0), (2, .int v2), (3, .int v3), (4, .int v4), (5, .int v5)]) hx hb dX12_better_138 hl rfl (by rw [ey16]; rfl) (by decide) rfl (fun ls hl => ?_)
              refine lv_goto (tgt := 57) hx hb dX12_better_141 (by decide) ?_
              exact ih57 _ _ _ _ _ _ _ _ _ _ hE hW hS (lv_sub hl [3, 4, 5, 6, 7, 0] rfl)
            · replace hE := ite_f q15 hE
              refine lv_iload hx hb dX12_better_110 (lv_at hl 0 rfl) ?_
              refine lv_iload hx hb dX12_better_112 (lv_at hl 5 rfl) ?_
              refine lv_icmp_ne (tgt := 127) hx hb dX12_better_114 (by decide) (fun q17 => ?_) (fun q17 => ?_)
              · replace hE := ite_f q17 hE
                exact hC127 _ _ _ _ _ _ _ _ _ hE hW hS (lv_sub hl [2, 3, 7, 1, 0] rfl)
              · replace hE := ite_t q17 hE
                refine lv_iload hx hb dX12_better_117 (lv_at hl 1 rfl) ?_
                refine lv_iload hx hb dX12_better_119 (lv_at hl 6 rfl) ?_
                refine lv_icmp_lt (tgt := 127) hx hb dX12_better_121 (by decide) (fun q18 => ?_) (fun q18 => ?_)
                · replace hE := ite_t q18 hE
                  exact hC127 _ _ _ _ _ _ _ _ _ hE hW hS (lv_sub hl [2, 3, 7, 1, 0] rfl)
                · replace hE := ite_f q18 hE
                  refine lv_goto (tgt := 138) hx hb dX12_better_124 (by decide) ?_
                  obtain ⟨y19, ey19⟩ : ∃ y : Int32, y = v6 + (1 : Int32) := ⟨_, rfl⟩
                  replace hE := nm_o ey19 hE
                  refine lv_iinc (k := 7) (v := y19) (lv' := [(6, .int y19), (8, .int x11), (7, .int x8), (0, rr G v0), (2, .int v2), (3, .int v3), (4, .int v4), (5, .int v5)]) hx hb dX12_better_138 hl rfl (by rw [ey19]; rfl) (by decide) rfl (fun ls hl => ?_)
                  refine lv_goto (tgt := 57) hx hb dX12_better_141 (by decide) ?_
                  exact ih57 _ _ _ _ _ _ _ _ _ _ hE hW hS (lv_sub hl [3, 4, 5, 6, 7, 0] rfl)
  refine s_aload_n hx hb dX12_better_0 rfl (lv_at hl 0 rfl) ?_
  refine lv_iconst (v := (0 : Int32)) hx hb dX12_better_1 (by decide) ?_
  obtain ⟨f21, hf21, hE⟩ := bd hE
  refine s_putI hx hb hT u_X12 tyX12 tyX12_ok nmX12 hown hK hW hS hf21 rfl (by decide) fl_X12_81 rfl (Or.inl rfl) rfl dX12_better_2 (fun H locs hW hS => ?_)
  refine s_aload_n hx hb dX12_better_5 rfl (lv_at hl 0 rfl) ?_
  obtain ⟨c22, hE⟩ := ck hE
  obtain ⟨f23, hf23, hE⟩ := bd hE
  refine s_callV (As := []) (rest := []) CF hK hW hS (S_X12_lay l G F hf23) c22 rfl gv_X12_164 hd_X12_lay ⟨Nat.le_of_ble_eq_true rfl, Nat.le_of_ble_eq_true rfl⟩ rfl hl.1 rfl (Nat.le_of_ble_eq_true rfl) dX12_better_6 ⟨Nat.le_refl _, Nat.le_refl _⟩ (fun H locs hW hS => ?_)
  refine s_aload_n hx hb dX12_better_9 rfl (lv_at hl 0 rfl) ?_
  refine lv_iload_n hx hb dX12_better_10 rfl (lv_at hl 1 rfl) ?_
  obtain ⟨c24, hE⟩ := ck hE
  obtain ⟨x25, hx25, hE⟩ := bd hE
  refine s_callV (As := [.int u1]) (rest := []) CF hK hW hS (S_X12_isCopy l G F hx25) c24 rfl gv_X12_241 hd_X12_isCopy ⟨Nat.le_of_ble_eq_true rfl, Nat.le_of_ble_eq_true rfl⟩ rfl hl.1 rfl (Nat.le_of_ble_eq_true rfl) dX12_better_11 ⟨Nat.le_refl _, Nat.le_refl _⟩ (fun H locs hW hS => ?_)
  refine lv_if_eq (tgt := 35) hx hb dX12_better_14 (by decide) (fun q26 => ?_) (fun q26 => ?_)
  · replace hE := ite_t q26 hE
    refine lv_iconst (v := (-1 : Int32)) hx hb dX12_better_35 (by decide) ?_
    obtain ⟨rfl, rfl⟩ := so2 hE
    exact s_iret hx hb hr hlocks hW hS dX12_better_36
  · replace hE := ite_f q26 hE
    refine s_aload_n hx hb dX12_better_17 rfl (lv_at hl 0 rfl) ?_
    refine lv_iload_n hx hb dX12_better_18 rfl (lv_at hl 1 rfl) ?_
    obtain ⟨c27, hE⟩ := ck hE
    obtain ⟨x28, hx28, hE⟩ := bd hE
    refine s_callV (As := [.int u1]) (rest := []) CF hK hW hS (S_X12_isWhole l G F hx28) c27 rfl gv_X12_279 hd_X12_isWhole ⟨Nat.le_of_ble_eq_true rfl, Nat.le_of_ble_eq_true rfl⟩ rfl hl.1 rfl (Nat.le_of_ble_eq_true rfl) dX12_better_19 ⟨Nat.le_refl _, Nat.le_refl _⟩ (fun H locs hW hS => ?_)
    refine lv_if_eq (tgt := 35) hx hb dX12_better_22 (by decide) (fun q29 => ?_) (fun q29 => ?_)
    · replace hE := ite_t q29 hE
      refine lv_iconst (v := (-1 : Int32)) hx hb dX12_better_35 (by decide) ?_
      obtain ⟨rfl, rfl⟩ := so2 hE
      exact s_iret hx hb hr hlocks hW hS dX12_better_36
    · replace hE := ite_f q29 hE
      refine lv_iload_n hx hb dX12_better_25 rfl (lv_at hl 2 rfl) ?_
      refine lv_iconst (v := (0 : Int32)) hx hb dX12_better_26 (by decide) ?_
      refine lv_bipush (v := (21 : Int32)) hx hb dX12_better_27 (by decide) ?_
      obtain ⟨x30, hx30, hE⟩ := bd hE
      refine s_callS (As := [.int u2, .int (0 : Int32), .int (21 : Int32)]) (rest := []) CF hK hW hS (S_X12_isIn l G F hx30) gs_X12_151 hd_X12_isIn.2 ⟨Nat.le_of_ble_eq_true rfl, Nat.le_of_ble_eq_true rfl⟩ rfl hl.1 rfl (Nat.le_of_ble_eq_true rfl) dX12_better_29 ⟨Nat.le_refl _, Nat.le_refl _⟩ (fun H locs hW hS => ?_)
      refine lv_if_ne (tgt := 37) hx hb dX12_better_32 (by decide) (fun q31 => ?_) (fun q31 => ?_)
      · replace hE := ite_f q31 hE
        refine s_aload_n hx hb dX12_better_37 rfl (lv_at hl 0 rfl) ?_
        refine lv_iload_n hx hb dX12_better_38 rfl (lv_at hl 1 rfl) ?_
        refine s_aload_n hx hb dX12_better_39 rfl (lv_at hl 0 rfl) ?_
        obtain ⟨x32, hx32, hE⟩ := bd hE
        refine s_gR hx hb hT u_X12 hown hK hW hx32 rfl (by decide) fl_X12_45 rfl dX12_better_40 ?_
        obtain ⟨c33, hE⟩ := ck hE
        obtain ⟨f34, hf34, hE⟩ := bd hE
        refine s_callV (As := [.int u1, rr G x32]) (rest := []) CF hK hW hS (S_X12_layCopy l G F hf34) c33 rfl gv_X12_265 hd_X12_layCopy ⟨Nat.le_of_ble_eq_true rfl, Nat.le_of_ble_eq_true rfl⟩ rfl hl.1 rfl (Nat.le_of_ble_eq_true rfl) dX12_better_43 ⟨Nat.le_refl _, Nat.le_refl _⟩ (fun H locs hW hS => ?_)
        refine lv_iconst (v := (-1 : Int32)) hx hb dX12_better_46 (by decide) ?_
        refine lv_istore_n (i := 3) (lv' := [(3, .int (-1 : Int32)), (0, rr G u0), (1, .int u1), (2, .int u2)]) hx hb dX12_better_47 rfl hl (by decide) rfl (fun ls hl => ?_)
        refine lv_iconst (v := (0 : Int32)) hx hb dX12_better_48 (by decide) ?_
        refine lv_istore (lv' := [(4, .int (0 : Int32)), (3, .int (-1 : Int32)), (0, rr G u0), (1, .int u1), (2, .int u2)]) hx hb dX12_better_49 hl (by decide) rfl (fun ls hl => ?_)
        refine lv_iconst (v := (0 : Int32)) hx hb dX12_better_51 (by decide) ?_
        refine lv_istore (lv' := [(5, .int (0 : Int32)), (4, .int (0 : Int32)), (3, .int (-1 : Int32)), (0, rr G u0), (1, .int u1), (2, .int u2)]) hx hb dX12_better_52 hl (by decide) rfl (fun ls hl => ?_)
        refine lv_iconst (v := (0 : Int32)) hx hb dX12_better_54 (by decide) ?_
        refine lv_istore (lv' := [(6, .int (0 : Int32)), (5, .int (0 : Int32)), (4, .int (0 : Int32)), (3, .int (-1 : Int32)), (0, rr G u0), (1, .int u1), (2, .int u2)]) hx hb dX12_better_55 hl (by decide) rfl (fun ls hl => ?_)
        exact hC57 F _ _ _ _ _ _ _ _ _ _ hE hW hS (lv_sub hl [4, 6, 3, 2, 1, 0] rfl)
      · replace hE := ite_t q31 hE
        refine lv_iconst (v := (-1 : Int32)) hx hb dX12_better_35 (by decide) ?_
        obtain ⟨rfl, rfl⟩ := so2 hE
        exact s_iret hx hb hr hlocks hW hS dX12_better_36
set_option maxHeartbeats 4000000 in
set_option maxRecDepth 100000 in
theorem S_X12_layCopies (l : Launch) (G : GG) (F : Nat) {u0 : Option Nat} {u1 : Int32} {u2 : Int32} {f : Hp} {f' : Hp} {n : Nat} (hE : m_X12_layCopies F u0 u1 u2 f = some f') : Ctr l G yX12_layCopies cX12_layCopies 3 none 2 45 [rr G u0, .int u1, .int u2] f n none f' n 0 0 := by
  refine Met.ofW (cc := cX12_layCopies) (maxL := 3) (ret := none) (by decide) rfl ?_
  intro p e s m args below meth c s₁ B hml hv
  obtain ⟨rfl, hK, hW⟩ := hv
  have hx := B.exec
  have hb := B.bytes
  have hr := B.returns
  have hts := atoms_spec (ws := wsO yX12_layCopies cX12_layCopies 3 none) B.pre
  have hT : ∀ w ∈ TB, w.before [rr G u0, .int u1, .int u2].toArray s = true := fun w hw => hts w (List.mem_cons_of_mem _ hw)
  have hown : s.vm.findClass RX12 = some m.cls := findClass_of_methodNamed B.named
  have hlocks := B.notSynchronized
  have CF : CallFix p m c cX12_layCopies 3 s [rr G u0, .int u1, .int u2].toArray TB RX12 := ⟨hx, hb, hml, hown, hT⟩
  have hS : va_S (WA G) s.heap s.heap [] := va_S.rf
  have hl : lv_has (lg_sl ([rr G u0, .int u1, .int u2]) ++ List.replicate (3 - (lg_sl ([rr G u0, .int u1, .int u2])).length) Slot.unset).toArray 3 [(0, rr G u0), (1, .int u1), (2, .int u2)] := by cases u0 <;> exact lv_entry _ (Nat.le_of_ble_eq_true rfl)
  rw [lg_entry_eq]
  generalize (lg_sl ([rr G u0, .int u1, .int u2]) ++ List.replicate (3 - (lg_sl ([rr G u0, .int u1, .int u2])).length) Slot.unset).toArray = ls at hl ⊢
  refine s_aload_n hx hb dX12_layCopies_0 rfl (lv_at hl 0 rfl) ?_
  refine lv_iload_n hx hb dX12_layCopies_1 rfl (lv_at hl 1 rfl) ?_
  refine s_aload_n hx hb dX12_layCopies_2 rfl (lv_at hl 0 rfl) ?_
  obtain ⟨x1, hx1, hE⟩ := bd hE
  refine s_gR hx hb hT u_X12 hown hK hW hx1 rfl (by decide) fl_X12_42 rfl dX12_layCopies_3 ?_
  obtain ⟨c2, hE⟩ := ck hE
  obtain ⟨f3, hf3, hE⟩ := bd hE
  refine s_callV (As := [.int u1, rr G x1]) (rest := []) CF hK hW hS (S_X12_layCopy l G F hf3) c2 rfl gv_X12_265 hd_X12_layCopy ⟨Nat.le_of_ble_eq_true rfl, Nat.le_of_ble_eq_true rfl⟩ rfl hl.1 rfl (Nat.le_of_ble_eq_true rfl) dX12_layCopies_6 ⟨Nat.le_refl _, Nat.le_refl _⟩ (fun H locs hW hS => ?_)
  refine s_aload_n hx hb dX12_layCopies_9 rfl (lv_at hl 0 rfl) ?_
  refine lv_iload_n hx hb dX12_layCopies_10 rfl (lv_at hl 2 rfl) ?_
  refine s_aload_n hx hb dX12_layCopies_11 rfl (lv_at hl 0 rfl) ?_
  obtain ⟨x4, hx4, hE⟩ := bd hE
  refine s_gR hx hb hT u_X12 hown hK hW hx4 rfl (by decide) fl_X12_45 rfl dX12_layCopies_12 ?_
  obtain ⟨c5, hE⟩ := ck hE
  obtain ⟨f6, hf6, hE⟩ := bd hE
  refine s_callV (As := [.int u2, rr G x4]) (rest := []) CF hK hW hS (S_X12_layCopy l G F hf6) c5 rfl gv_X12_265 hd_X12_layCopy ⟨Nat.le_of_ble_eq_true rfl, Nat.le_of_ble_eq_true rfl⟩ rfl hl.1 rfl (Nat.le_of_ble_eq_true rfl) dX12_layCopies_15 ⟨Nat.le_refl _, Nat.le_refl _⟩ (fun H locs hW hS => ?_)
  obtain rfl := so1 hE
  exact s_vret hx hb hr hlocks hW hS dX12_layCopies_18
set_option maxHeartbeats 4000000 in
set_option maxRecDepth 100000 in
theorem S_X12_fallen (l : Launch) (G : GG) (F : Nat) {u0 : Option Nat} {f : Hp} {r : Int32} {n : Nat} (hE : m_X12_fallen F u0 f = some r) : Ctr l G yX12_fallen cX12_fallen 3 (some .int) 1 20 [rr G u0] f n (some (.int r)) f n 0 0 := by
  refine Met.ofW (cc := cX12_fallen) (maxL := 3) (ret := (some .int)) (by decide) rfl ?_
  intro p e s m args below meth c s₁ B hml hv
  obtain ⟨rfl, hK, hW⟩ := hv
  have hx := B.exec
  have hb := B.bytes
  have hr := B.returns
  have hts := atoms_spec (ws := wsO yX12_fallen cX12_fallen 3 (some .int)) B.pre
  have hT : ∀ w ∈ TB, w.before [rr G u0].toArray s = true := fun w hw => hts w (List.mem_cons_of_mem _ hw)
  have hown : s.vm.findClass RX12 = some m.cls := findClass_of_methodNamed B.named
  have hlocks := B.notSynchronized
  have CF : CallFix p m c cX12_fallen 3 s [rr G u0].toArray TB RX12 := ⟨hx, hb, hml, hown, hT⟩
  have hS : va_S (WA G) s.heap s.heap [] := va_S.rf
  have hl : lv_has (lg_sl ([rr G u0]) ++ List.replicate (3 - (lg_sl ([rr G u0])).length) Slot.unset).toArray 3 [(0, rr G u0)] := by cases u0 <;> exact lv_entry _ (Nat.le_of_ble_eq_true rfl)
  rw [lg_entry_eq]
  generalize (lg_sl ([rr G u0]) ++ List.replicate (3 - (lg_sl ([rr G u0])).length) Slot.unset).toArray = ls at hl ⊢
  have hC4 : ∀ (k4 : Nat), ∀ (v0 : Option Nat) (v1 : Int32) (v2 : Int32) (H : Heap) (locs : List Loc) (ls : Array Slot), m_X12_fallen_L4 F k4 v0 v1 v2 f = some r → Wd G f n H → va_S (WA G) s.heap H locs → lv_has ls 3 [(0, rr G v0), (1, .int v1), (2, .int v2)] → W p l e (headSpec (wsO yX12_fallen cX12_fallen 3 (some .int)) { frames := 1, cells := 0, slots := 0, locals := 20 }).room s m [rr G u0].toArray below meth c H locs 0 0 (MQ below (Qcn G (some (.int r)) f n) [rr G u0].toArray s 0 0 (WA G)) (F0 m 4 ls []) := by
    intro k4
    induction k4 with
    | zero => intro v0 v1 v2 H locs ls hE _ _ _; cases (show (none : Option Int32) = some r from hE)
    | succ k4 ih4 =>
      have hC42 : ∀ (v0 : Option Nat) (v1 : Int32) (v2 : Int32) (s0 : Int32) (s1 : Int32) (H : Heap) (locs : List Loc) (ls : Array Slot), m_X12_fallen_B42 F (m_X12_fallen_L4 F k4) v0 v1 v2 s0 s1 f = some r → Wd G f n H → va_S (WA G) s.heap H locs → lv_has ls 3 [(0, rr G v0), (1, .int v1), (2, .int v2)] → W p l e (headSpec (wsO yX12_fallen cX12_fallen 3 (some .int)) { frames := 1, cells := 0, slots := 0, locals := 20 }).room s m [rr G u0].toArray below meth c H locs 0 0 (MQ below (Qcn G (some (.int r)) f n) [rr G u0].toArray s 0 0 (WA G)) (F0 m 42 ls [.int s1, .int s0]) := by
        intro v0 v1 v2 s0 s1 H locs ls hE hW hS hl
        refine lv_icmp_eq (tgt := 48) hx hb dX12_fallen_42 (by decide) (fun q10 => ?_) (fun q10 => ?_)
        · replace hE := ite_t q10 hE
          obtain ⟨y11, ey11⟩ : ∃ y : Int32, y = v2 + (1 : Int32) := ⟨_, rfl⟩
          replace hE := nm_o ey11 hE
          refine lv_iinc (k := 2) (v := y11) (lv' := [(2, .int y11), (0, rr G v0), (1, .int v1)]) hx hb dX12_fallen_48 hl rfl (by rw [ey11]; rfl) (by decide) rfl (fun ls hl => ?_)
          refine lv_goto (tgt := 4) hx hb dX12_fallen_51 (by decide) ?_
          exact ih4 _ _ _ _ _ _ hE hW hS (lv_sub hl [1, 2, 0] rfl)
        · replace hE := ite_f q10 hE
          obtain ⟨y12, ey12⟩ : ∃ y : Int32, y = v1 + (1 : Int32) := ⟨_, rfl⟩
          replace hE := nm_o ey12 hE
          refine lv_iinc (k := 1) (v := y12) (lv' := [(1, .int y12), (0, rr G v0), (2, .int v2)]) hx hb dX12_fallen_45 hl rfl (by rw [ey12]; rfl) (by decide) (by simp [cat_rr]) (fun ls hl => ?_)
          obtain ⟨y13, ey13⟩ : ∃ y : Int32, y = v2 + (1 : Int32) := ⟨_, rfl⟩
          replace hE := nm_o ey13 hE
          refine lv_iinc (k := 2) (v := y13) (lv' := [(2, .int y13), (1, .int y12), (0, rr G v0)]) hx hb dX12_fallen_48 hl rfl (by rw [ey13]; rfl) (by decide) rfl (fun ls hl => ?_)
          refine lv_goto (tgt := 4) hx hb dX12_fallen_51 (by decide) ?_
          exact ih4 _ _ _ _ _ _ hE hW hS (lv_sub hl [2, 1, 0] rfl)
      have hC27 : ∀ (v0 : Option Nat) (v1 : Int32) (v2 : Int32) (s0 : Int32) (H : Heap) (locs : List Loc) (ls : Array Slot), m_X12_fallen_B27 F (m_X12_fallen_L4 F k4) v0 v1 v2 s0 f = some r → Wd G f n H → va_S (WA G) s.heap H locs → lv_has ls 3 [(0, rr G v0), (1, .int v1), (2, .int v2)] → W p l e (headSpec (wsO yX12_fallen cX12_fallen 3 (some .int)) { frames := 1, cells := 0, slots := 0, locals := 20 }).room s m [rr G u0].toArray below meth c H locs 0 0 (MQ below (Qcn G (some (.int r)) f n) [rr G u0].toArray s 0 0 (WA G)) (F0 m 27 ls [.int s0]) := by
        intro v0 v1 v2 s0 H locs ls hE hW hS hl
        refine s_aload_n hx hb dX12_fallen_27 rfl (lv_at hl 0 rfl) ?_
        obtain ⟨x7, hx7, hE⟩ := bd hE
        refine s_gR hx hb hT u_X12 hown hK hW hx7 rfl (by decide) fl_X12_45 rfl dX12_fallen_28 ?_
        refine lv_iload_n hx hb dX12_fallen_31 rfl (lv_at hl 2 rfl) ?_
        obtain ⟨x8, hx8, hE⟩ := bd hE
        refine s_ldI hx hb hK hW hS hx8 dX12_fallen_32 ?_
        refine lv_iconst (v := (-1 : Int32)) hx hb dX12_fallen_33 (by decide) ?_
        refine lv_icmp_ne (tgt := 41) hx hb dX12_fallen_34 (by decide) (fun q9 => ?_) (fun q9 => ?_)
        · replace hE := ite_f q9 hE
          refine lv_iconst (v := (0 : Int32)) hx hb dX12_fallen_41 (by decide) ?_
          exact hC42 _ _ _ _ _ _ _ _ hE hW hS (lv_sub hl [0, 1, 2] rfl)
        · replace hE := ite_t q9 hE
          refine lv_iconst (v := (1 : Int32)) hx hb dX12_fallen_37 (by decide) ?_
          refine lv_goto (tgt := 42) hx hb dX12_fallen_38 (by decide) ?_
          exact hC42 _ _ _ _ _ _ _ _ hE hW hS (lv_sub hl [0, 1, 2] rfl)
      intro v0 v1 v2 H locs ls hE hW hS hl
      replace hE : m_X12_fallen_b4 F (m_X12_fallen_L4 F k4) v0 v1 v2 f = some r := hE
      refine lv_iload_n hx hb dX12_fallen_4 rfl (lv_at hl 2 rfl) ?_
      refine s_aload_n hx hb dX12_fallen_5 rfl (lv_at hl 0 rfl) ?_
      obtain ⟨c1, hE⟩ := ck hE
      obtain ⟨x2, hx2, hE⟩ := bd hE
      refine s_callV (As := []) (rest := [.int v2]) CF hK hW hS (S_X12_lines l G F hx2) c1 rfl gv_X12_185 hd_X12_lines ⟨Nat.le_of_ble_eq_true rfl, Nat.le_of_ble_eq_true rfl⟩ rfl hl.1 rfl (Nat.le_of_ble_eq_true rfl) dX12_fallen_6 ⟨Nat.le_refl _, Nat.le_refl _⟩ (fun H locs hW hS => ?_)
      refine lv_icmp_ge (tgt := 54) hx hb dX12_fallen_9 (by decide) (fun q3 => ?_) (fun q3 => ?_)
      · replace hE := ite_t q3 hE
        refine lv_iload_n hx hb dX12_fallen_54 rfl (lv_at hl 1 rfl) ?_
        obtain rfl := so1 hE
        exact s_iret hx hb hr hlocks hW hS dX12_fallen_55
      · replace hE := ite_f q3 hE
        refine s_aload_n hx hb dX12_fallen_12 rfl (lv_at hl 0 rfl) ?_
        obtain ⟨x4, hx4, hE⟩ := bd hE
        refine s_gR hx hb hT u_X12 hown hK hW hx4 rfl (by decide) fl_X12_42 rfl dX12_fallen_13 ?_
        refine lv_iload_n hx hb dX12_fallen_16 rfl (lv_at hl 2 rfl) ?_
        obtain ⟨x5, hx5, hE⟩ := bd hE
        refine s_ldI hx hb hK hW hS hx5 dX12_fallen_17 ?_
        refine lv_iconst (v := (-1 : Int32)) hx hb dX12_fallen_18 (by decide) ?_
        refine lv_icmp_ne (tgt := 26) hx hb dX12_fallen_19 (by decide) (fun q6 => ?_) (fun q6 => ?_)
        · replace hE := ite_f q6 hE
          refine lv_iconst (v := (0 : Int32)) hx hb dX12_fallen_26 (by decide) ?_
          exact hC27 _ _ _ _ _ _ _ hE hW hS (lv_sub hl [0, 1, 2] rfl)
        · replace hE := ite_t q6 hE
          refine lv_iconst (v := (1 : Int32)) hx hb dX12_fallen_22 (by decide) ?_
          refine lv_goto (tgt := 27) hx hb dX12_fallen_23 (by decide) ?_
          exact hC27 _ _ _ _ _ _ _ hE hW hS (lv_sub hl [0, 1, 2] rfl)
  refine lv_iconst (v := (0 : Int32)) hx hb dX12_fallen_0 (by decide) ?_
  refine lv_istore_n (i := 1) (lv' := [(1, .int (0 : Int32)), (0, rr G u0)]) hx hb dX12_fallen_1 rfl hl (by decide) (by simp [cat_rr]) (fun ls hl => ?_)
  refine lv_iconst (v := (0 : Int32)) hx hb dX12_fallen_2 (by decide) ?_
  refine lv_istore_n (i := 2) (lv' := [(2, .int (0 : Int32)), (1, .int (0 : Int32)), (0, rr G u0)]) hx hb dX12_fallen_3 rfl hl (by decide) rfl (fun ls hl => ?_)
  exact hC4 F _ _ _ _ _ _ hE hW hS (lv_sub hl [2, 1, 0] rfl)
set_option maxHeartbeats 4000000 in
set_option maxRecDepth 100000 in
theorem S_X12_far (l : Launch) (G : GG) (F : Nat) {u0 : Option Nat} {f : Hp} {r : Int32} {n : Nat} (hE : m_X12_far F u0 f = some r) : Ctr l G yX12_far cX12_far 1 (some .int) 2 43 [rr G u0] f n (some (.int r)) f n 0 0 := by
  refine Met.ofW (cc := cX12_far) (maxL := 1) (ret := (some .int)) (by decide) rfl ?_
  intro p e s m args below meth c s₁ B hml hv
  obtain ⟨rfl, hK, hW⟩ := hv
  have hx := B.exec
  have hb := B.bytes
  have hr := B.returns
  have hts := atoms_spec (ws := wsO yX12_far cX12_far 1 (some .int)) B.pre
  have hT : ∀ w ∈ TB, w.before [rr G u0].toArray s = true := fun w hw => hts w (List.mem_cons_of_mem _ hw)
  have hown : s.vm.findClass RX12 = some m.cls := findClass_of_methodNamed B.named
  have hlocks := B.notSynchronized
  have CF : CallFix p m c cX12_far 1 s [rr G u0].toArray TB RX12 := ⟨hx, hb, hml, hown, hT⟩
  have hS : va_S (WA G) s.heap s.heap [] := va_S.rf
  have hl : lv_has (lg_sl ([rr G u0]) ++ List.replicate (1 - (lg_sl ([rr G u0])).length) Slot.unset).toArray 1 [(0, rr G u0)] := by cases u0 <;> exact lv_entry _ (Nat.le_of_ble_eq_true rfl)
  rw [lg_entry_eq]
  generalize (lg_sl ([rr G u0]) ++ List.replicate (1 - (lg_sl ([rr G u0])).length) Slot.unset).toArray = ls at hl ⊢
  refine s_aload_n hx hb dX12_far_0 rfl (lv_at hl 0 rfl) ?_
  obtain ⟨c1, hE⟩ := ck hE
  obtain ⟨x2, hx2, hE⟩ := bd hE
  refine s_callV (As := []) (rest := []) CF hK hW hS (S_X12_steps l G F hx2) c1 rfl gv_X12_259 hd_X12_steps ⟨Nat.le_of_ble_eq_true rfl, Nat.le_of_ble_eq_true rfl⟩ rfl hl.1 rfl (Nat.le_of_ble_eq_true rfl) dX12_far_1 ⟨Nat.le_refl _, Nat.le_refl _⟩ (fun H locs hW hS => ?_)
  refine lv_iconst (v := (3 : Int32)) hx hb dX12_far_4 (by decide) ?_
  refine s_aload_n hx hb dX12_far_5 rfl (lv_at hl 0 rfl) ?_
  obtain ⟨c3, hE⟩ := ck hE
  obtain ⟨x4, hx4, hE⟩ := bd hE
  refine s_callV (As := []) (rest := [.int (3 : Int32), .int x2]) CF hK hW hS (S_X12_fallen l G F hx4) c3 rfl gv_X12_262 hd_X12_fallen ⟨Nat.le_of_ble_eq_true rfl, Nat.le_of_ble_eq_true rfl⟩ rfl hl.1 rfl (Nat.le_of_ble_eq_true rfl) dX12_far_6 ⟨Nat.le_refl _, Nat.le_refl _⟩ (fun H locs hW hS => ?_)
  refine lv_imul hx hb dX12_far_9 ?_
  refine lv_iadd hx hb dX12_far_10 ?_
  obtain rfl := so1 hE
  exact s_iret hx hb hr hlocks hW hS dX12_far_11
set_option maxHeartbeats 4000000 in
set_option maxRecDepth 100000 in
theorem S_X12_between (l : Launch) (G : GG) (F : Nat) {u0 : Option Nat} {u1 : Int32} {u2 : Int32} {u3 : Int32} {f : Hp} {r : Int32} {f' : Hp} {n : Nat} (hE : m_X12_between F u0 u1 u2 u3 f = some (r, f')) : Ctr l G yX12_between cX12_between 4 (some .int) 3 67 [rr G u0, .int u1, .int u2, .int u3] f n (some (.int r)) f' n 0 0 := by
  refine Met.ofW (cc := cX12_between) (maxL := 4) (ret := (some .int)) (by decide) rfl ?_
  intro p e s m args below meth c s₁ B hml hv
  obtain ⟨rfl, hK, hW⟩ := hv
  have hx := B.exec
  have hb := B.bytes
  have hr := B.returns
  have hts := atoms_spec (ws := wsO yX12_between cX12_between 4 (some .int)) B.pre
  have hT : ∀ w ∈ TB, w.before [rr G u0, .int u1, .int u2, .int u3].toArray s = true := fun w hw => hts w (List.mem_cons_of_mem _ hw)
  have hown : s.vm.findClass RX12 = some m.cls := findClass_of_methodNamed B.named
  have hlocks := B.notSynchronized
  have CF : CallFix p m c cX12_between 4 s [rr G u0, .int u1, .int u2, .int u3].toArray TB RX12 := ⟨hx, hb, hml, hown, hT⟩
  have hS : va_S (WA G) s.heap s.heap [] := va_S.rf
  have hl : lv_has (lg_sl ([rr G u0, .int u1, .int u2, .int u3]) ++ List.replicate (4 - (lg_sl ([rr G u0, .int u1, .int u2, .int u3])).length) Slot.unset).toArray 4 [(0, rr G u0), (1, .int u1), (2, .int u2), (3, .int u3)] := by cases u0 <;> exact lv_entry _ (Nat.le_of_ble_eq_true rfl)
  rw [lg_entry_eq]
  generalize (lg_sl ([rr G u0, .int u1, .int u2, .int u3]) ++ List.replicate (4 - (lg_sl ([rr G u0, .int u1, .int u2, .int u3])).length) Slot.unset).toArray = ls at hl ⊢
  refine s_aload_n hx hb dX12_between_0 rfl (lv_at hl 0 rfl) ?_
  refine lv_iconst (v := (0 : Int32)) hx hb dX12_between_1 (by decide) ?_
  obtain ⟨f1, hf1, hE⟩ := bd hE
  refine s_putI hx hb hT u_X12 tyX12 tyX12_ok nmX12 hown hK hW hS hf1 rfl (by decide) fl_X12_81 rfl (Or.inl rfl) rfl dX12_between_2 (fun H locs hW hS => ?_)
  refine s_aload_n hx hb dX12_between_5 rfl (lv_at hl 0 rfl) ?_
  obtain ⟨c2, hE⟩ := ck hE
  obtain ⟨f3, hf3, hE⟩ := bd hE
  refine s_callV (As := []) (rest := []) CF hK hW hS (S_X12_lay l G F hf3) c2 rfl gv_X12_164 hd_X12_lay ⟨Nat.le_of_ble_eq_true rfl, Nat.le_of_ble_eq_true rfl⟩ rfl hl.1 rfl (Nat.le_of_ble_eq_true rfl) dX12_between_6 ⟨Nat.le_refl _, Nat.le_refl _⟩ (fun H locs hW hS => ?_)
  refine s_aload_n hx hb dX12_between_9 rfl (lv_at hl 0 rfl) ?_
  refine lv_iload_n hx hb dX12_between_10 rfl (lv_at hl 1 rfl) ?_
  obtain ⟨c4, hE⟩ := ck hE
  obtain ⟨x5, hx5, hE⟩ := bd hE
  refine s_callV (As := [.int u1]) (rest := []) CF hK hW hS (S_X12_isCopy l G F hx5) c4 rfl gv_X12_241 hd_X12_isCopy ⟨Nat.le_of_ble_eq_true rfl, Nat.le_of_ble_eq_true rfl⟩ rfl hl.1 rfl (Nat.le_of_ble_eq_true rfl) dX12_between_11 ⟨Nat.le_refl _, Nat.le_refl _⟩ (fun H locs hW hS => ?_)
  refine lv_if_eq (tgt := 34) hx hb dX12_between_14 (by decide) (fun q6 => ?_) (fun q6 => ?_)
  · replace hE := ite_t q6 hE
    refine lv_iconst (v := (-1 : Int32)) hx hb dX12_between_34 (by decide) ?_
    obtain ⟨rfl, rfl⟩ := so2 hE
    exact s_iret hx hb hr hlocks hW hS dX12_between_35
  · replace hE := ite_f q6 hE
    refine s_aload_n hx hb dX12_between_17 rfl (lv_at hl 0 rfl) ?_
    refine lv_iload_n hx hb dX12_between_18 rfl (lv_at hl 2 rfl) ?_
    obtain ⟨c7, hE⟩ := ck hE
    obtain ⟨x8, hx8, hE⟩ := bd hE
    refine s_callV (As := [.int u2]) (rest := []) CF hK hW hS (S_X12_isCopy l G F hx8) c7 rfl gv_X12_241 hd_X12_isCopy ⟨Nat.le_of_ble_eq_true rfl, Nat.le_of_ble_eq_true rfl⟩ rfl hl.1 rfl (Nat.le_of_ble_eq_true rfl) dX12_between_19 ⟨Nat.le_refl _, Nat.le_refl _⟩ (fun H locs hW hS => ?_)
    refine lv_if_eq (tgt := 34) hx hb dX12_between_22 (by decide) (fun q9 => ?_) (fun q9 => ?_)
    · replace hE := ite_t q9 hE
      refine lv_iconst (v := (-1 : Int32)) hx hb dX12_between_34 (by decide) ?_
      obtain ⟨rfl, rfl⟩ := so2 hE
      exact s_iret hx hb hr hlocks hW hS dX12_between_35
    · replace hE := ite_f q9 hE
      refine lv_iload_n hx hb dX12_between_25 rfl (lv_at hl 3 rfl) ?_
      refine lv_iconst (v := (0 : Int32)) hx hb dX12_between_26 (by decide) ?_
      refine lv_iconst (v := (2 : Int32)) hx hb dX12_between_27 (by decide) ?_
      obtain ⟨x10, hx10, hE⟩ := bd hE
      refine s_callS (As := [.int u3, .int (0 : Int32), .int (2 : Int32)]) (rest := []) CF hK hW hS (S_X12_isIn l G F hx10) gs_X12_151 hd_X12_isIn.2 ⟨Nat.le_of_ble_eq_true rfl, Nat.le_of_ble_eq_true rfl⟩ rfl hl.1 rfl (Nat.le_of_ble_eq_true rfl) dX12_between_28 ⟨Nat.le_refl _, Nat.le_refl _⟩ (fun H locs hW hS => ?_)
      refine lv_if_ne (tgt := 36) hx hb dX12_between_31 (by decide) (fun q11 => ?_) (fun q11 => ?_)
      · replace hE := ite_f q11 hE
        refine s_aload_n hx hb dX12_between_36 rfl (lv_at hl 0 rfl) ?_
        refine lv_iload_n hx hb dX12_between_37 rfl (lv_at hl 1 rfl) ?_
        refine lv_iload_n hx hb dX12_between_38 rfl (lv_at hl 2 rfl) ?_
        obtain ⟨c12, hE⟩ := ck hE
        obtain ⟨f13, hf13, hE⟩ := bd hE
        refine s_callV (As := [.int u1, .int u2]) (rest := []) CF hK hW hS (S_X12_layCopies l G F hf13) c12 rfl gv_X12_269 hd_X12_layCopies ⟨Nat.le_of_ble_eq_true rfl, Nat.le_of_ble_eq_true rfl⟩ rfl hl.1 rfl (Nat.le_of_ble_eq_true rfl) dX12_between_39 ⟨Nat.le_refl _, Nat.le_refl _⟩ (fun H locs hW hS => ?_)
        refine lv_iload_n hx hb dX12_between_42 rfl (lv_at hl 3 rfl) ?_
        refine lv_if_ne (tgt := 53) hx hb dX12_between_43 (by decide) (fun q14 => ?_) (fun q14 => ?_)
        · replace hE := ite_f q14 hE
          refine lv_iload_n hx hb dX12_between_53 rfl (lv_at hl 3 rfl) ?_
          refine lv_iconst (v := (1 : Int32)) hx hb dX12_between_54 (by decide) ?_
          refine lv_icmp_ne (tgt := 65) hx hb dX12_between_55 (by decide) (fun q15 => ?_) (fun q15 => ?_)
          · replace hE := ite_f q15 hE
            refine s_aload_n hx hb dX12_between_65 rfl (lv_at hl 0 rfl) ?_
            obtain ⟨c16, hE⟩ := ck hE
            obtain ⟨x17, hx17, hE⟩ := bd hE
            refine s_callV (As := []) (rest := []) CF hK hW hS (S_X12_far l G F hx17) c16 rfl gv_X12_273 hd_X12_far ⟨Nat.le_of_ble_eq_true rfl, Nat.le_of_ble_eq_true rfl⟩ rfl hl.1 rfl (Nat.le_of_ble_eq_true rfl) dX12_between_66 ⟨Nat.le_refl _, Nat.le_refl _⟩ (fun H locs hW hS => ?_)
            obtain ⟨rfl, rfl⟩ := so2 hE
            exact s_iret hx hb hr hlocks hW hS dX12_between_69
          · replace hE := ite_t q15 hE
            refine s_aload_n hx hb dX12_between_58 rfl (lv_at hl 0 rfl) ?_
            obtain ⟨c18, hE⟩ := ck hE
            obtain ⟨x19, hx19, hE⟩ := bd hE
            refine s_callV (As := []) (rest := []) CF hK hW hS (S_X12_fallen l G F hx19) c18 rfl gv_X12_262 hd_X12_fallen ⟨Nat.le_of_ble_eq_true rfl, Nat.le_of_ble_eq_true rfl⟩ rfl hl.1 rfl (Nat.le_of_ble_eq_true rfl) dX12_between_59 ⟨Nat.le_refl _, Nat.le_refl _⟩ (fun H locs hW hS => ?_)
            refine lv_goto (tgt := 69) hx hb dX12_between_62 (by decide) ?_
            obtain ⟨rfl, rfl⟩ := so2 hE
            exact s_iret hx hb hr hlocks hW hS dX12_between_69
        · replace hE := ite_t q14 hE
          refine s_aload_n hx hb dX12_between_46 rfl (lv_at hl 0 rfl) ?_
          obtain ⟨c20, hE⟩ := ck hE
          obtain ⟨x21, hx21, hE⟩ := bd hE
          refine s_callV (As := []) (rest := []) CF hK hW hS (S_X12_steps l G F hx21) c20 rfl gv_X12_259 hd_X12_steps ⟨Nat.le_of_ble_eq_true rfl, Nat.le_of_ble_eq_true rfl⟩ rfl hl.1 rfl (Nat.le_of_ble_eq_true rfl) dX12_between_47 ⟨Nat.le_refl _, Nat.le_refl _⟩ (fun H locs hW hS => ?_)
          refine lv_goto (tgt := 69) hx hb dX12_between_50 (by decide) ?_
          obtain ⟨rfl, rfl⟩ := so2 hE
          exact s_iret hx hb hr hlocks hW hS dX12_between_69
      · replace hE := ite_t q11 hE
        refine lv_iconst (v := (-1 : Int32)) hx hb dX12_between_34 (by decide) ?_
        obtain ⟨rfl, rfl⟩ := so2 hE
        exact s_iret hx hb hr hlocks hW hS dX12_between_35
set_option maxHeartbeats 4000000 in
set_option maxRecDepth 100000 in
theorem S_X12_come (l : Launch) (G : GG) (F : Nat) {u0 : Option Nat} {u1 : Int32} {f : Hp} {f' : Hp} {n : Nat} (hE : m_X12_come F u0 u1 f = some f') : Ctr l G yX12_come cX12_come 3 none 0 0 [rr G u0, .int u1] f n none f' n 0 0 := by
  refine Met.ofW (cc := cX12_come) (maxL := 3) (ret := none) (by decide) rfl ?_
  intro p e s m args below meth c s₁ B hml hv
  obtain ⟨rfl, hK, hW⟩ := hv
  have hx := B.exec
  have hb := B.bytes
  have hr := B.returns
  have hts := atoms_spec (ws := wsO yX12_come cX12_come 3 none) B.pre
  have hT : ∀ w ∈ TB, w.before [rr G u0, .int u1].toArray s = true := fun w hw => hts w (List.mem_cons_of_mem _ hw)
  have hown : s.vm.findClass RX12 = some m.cls := findClass_of_methodNamed B.named
  have hlocks := B.notSynchronized
  have CF : CallFix p m c cX12_come 3 s [rr G u0, .int u1].toArray TB RX12 := ⟨hx, hb, hml, hown, hT⟩
  have hS : va_S (WA G) s.heap s.heap [] := va_S.rf
  have hl : lv_has (lg_sl ([rr G u0, .int u1]) ++ List.replicate (3 - (lg_sl ([rr G u0, .int u1])).length) Slot.unset).toArray 3 [(0, rr G u0), (1, .int u1)] := by cases u0 <;> exact lv_entry _ (Nat.le_of_ble_eq_true rfl)
  rw [lg_entry_eq]
  generalize (lg_sl ([rr G u0, .int u1]) ++ List.replicate (3 - (lg_sl ([rr G u0, .int u1])).length) Slot.unset).toArray = ls at hl ⊢
  have hC3 : ∀ (k3 : Nat), ∀ (v0 : Option Nat) (v1 : Int32) (v2 : Int32) (fa : Hp) (H : Heap) (locs : List Loc) (ls : Array Slot), m_X12_come_L3 F k3 v0 v1 v2 fa = some f' → Wd G fa n H → va_S (WA G) s.heap H locs → lv_has ls 3 [(0, rr G v0), (1, .int v1), (2, .int v2)] → W p l e (headSpec (wsO yX12_come cX12_come 3 none) { frames := 0, cells := 0, slots := 0, locals := 0 }).room s m [rr G u0, .int u1].toArray below meth c H locs 0 0 (MQ below (Qcn G none f' n) [rr G u0, .int u1].toArray s 0 0 (WA G)) (F0 m 3 ls []) := by
    intro k3
    induction k3 with
    | zero => intro v0 v1 v2 fa H locs ls hE _ _ _; cases (show (none : Option Hp) = some f' from hE)
    | succ k3 ih3 =>
      intro v0 v1 v2 fa H locs ls hE hW hS hl
      replace hE : m_X12_come_b3 F (m_X12_come_L3 F k3) v0 v1 v2 fa = some f' := hE
      refine lv_iload_n hx hb dX12_come_3 rfl (lv_at hl 2 rfl) ?_
      refine lv_if_lt (tgt := 39) hx hb dX12_come_4 (by decide) (fun q1 => ?_) (fun q1 => ?_)
      · replace hE := ite_t q1 hE
        obtain rfl := so1 hE
        exact s_vret hx hb hr hlocks hW hS dX12_come_39
      · replace hE := ite_f q1 hE
        refine s_aload_n hx hb dX12_come_7 rfl (lv_at hl 0 rfl) ?_
        obtain ⟨x2, hx2, hE⟩ := bd hE
        refine s_gR hx hb hT u_X12 hown hK hW hx2 rfl (by decide) fl_X12_7 rfl dX12_come_8 ?_
        refine s_aload_n hx hb dX12_come_11 rfl (lv_at hl 0 rfl) ?_
        obtain ⟨x3, hx3, hE⟩ := bd hE
        refine s_gI hx hb hT u_X12 hown hK hW hx3 rfl (by decide) fl_X12_85 rfl dX12_come_12 ?_
        refine lv_iload_n hx hb dX12_come_15 rfl (lv_at hl 1 rfl) ?_
        refine lv_iload_n hx hb dX12_come_16 rfl (lv_at hl 2 rfl) ?_
        refine lv_iushr (v := (ius v1 v2)) hx hb dX12_come_17 rfl ?_
        refine lv_sipush (v := (255 : Int32)) hx hb dX12_come_18 (by decide) ?_
        refine lv_iand hx hb dX12_come_21 ?_
        obtain ⟨f4, hf4, hE⟩ := bd hE
        refine s_stI hx hb hK hW hS hf4 dX12_come_22 (fun H locs hW hS => ?_)
        refine s_aload_n hx hb dX12_come_23 rfl (lv_at hl 0 rfl) ?_
        refine lv_dup hx hb dX12_come_24 (cat_rr G _) ?_
        obtain ⟨x5, hx5, hE⟩ := bd hE
        refine s_gI hx hb hT u_X12 hown hK hW hx5 rfl (by decide) fl_X12_85 rfl dX12_come_25 ?_
        refine lv_iconst (v := (1 : Int32)) hx hb dX12_come_28 (by decide) ?_
        refine lv_iadd hx hb dX12_come_29 ?_
        obtain ⟨f6, hf6, hE⟩ := bd hE
        refine s_putI hx hb hT u_X12 tyX12 tyX12_ok nmX12 hown hK hW hS hf6 rfl (by decide) fl_X12_85 rfl (Or.inl rfl) rfl dX12_come_30 (fun H locs hW hS => ?_)
        obtain ⟨y7, ey7⟩ : ∃ y : Int32, y = v2 + (-8 : Int32) := ⟨_, rfl⟩
        replace hE := nm_o ey7 hE
        refine lv_iinc (k := 2) (v := y7) (lv' := [(2, .int y7), (0, rr G v0), (1, .int v1)]) hx hb dX12_come_33 hl rfl (by rw [ey7]; rfl) (by decide) rfl (fun ls hl => ?_)
        refine lv_goto (tgt := 3) hx hb dX12_come_36 (by decide) ?_
        exact ih3 _ _ _ _ _ _ _ hE hW hS (lv_sub hl [1, 2, 0] rfl)
  refine lv_bipush (v := (24 : Int32)) hx hb dX12_come_0 (by decide) ?_
  refine lv_istore_n (i := 2) (lv' := [(2, .int (24 : Int32)), (0, rr G u0), (1, .int u1)]) hx hb dX12_come_2 rfl hl (by decide) rfl (fun ls hl => ?_)
  exact hC3 F _ _ _ _ _ _ _ hE hW hS (lv_sub hl [1, 2, 0] rfl)
set_option maxHeartbeats 4000000 in
set_option maxRecDepth 100000 in
theorem S_X12_count (l : Launch) (G : GG) (F : Nat) {u0 : Option Nat} {u1 : Int32} {f : Hp} {r : Int32} {f' : Hp} {n : Nat} (hE : m_X12_count F u0 u1 f = some (r, f')) : Ctr l G yX12_count cX12_count 2 (some .int) 2 42 [rr G u0, .int u1] f n (some (.int r)) f' n 0 0 := by
  refine Met.ofW (cc := cX12_count) (maxL := 2) (ret := (some .int)) (by decide) rfl ?_
  intro p e s m args below meth c s₁ B hml hv
  obtain ⟨rfl, hK, hW⟩ := hv
  have hx := B.exec
  have hb := B.bytes
  have hr := B.returns
  have hts := atoms_spec (ws := wsO yX12_count cX12_count 2 (some .int)) B.pre
  have hT : ∀ w ∈ TB, w.before [rr G u0, .int u1].toArray s = true := fun w hw => hts w (List.mem_cons_of_mem _ hw)
  have hown : s.vm.findClass RX12 = some m.cls := findClass_of_methodNamed B.named
  have hlocks := B.notSynchronized
  have CF : CallFix p m c cX12_count 2 s [rr G u0, .int u1].toArray TB RX12 := ⟨hx, hb, hml, hown, hT⟩
  have hS : va_S (WA G) s.heap s.heap [] := va_S.rf
  have hl : lv_has (lg_sl ([rr G u0, .int u1]) ++ List.replicate (2 - (lg_sl ([rr G u0, .int u1])).length) Slot.unset).toArray 2 [(0, rr G u0), (1, .int u1)] := by cases u0 <;> exact lv_entry _ (Nat.le_of_ble_eq_true rfl)
  rw [lg_entry_eq]
  generalize (lg_sl ([rr G u0, .int u1]) ++ List.replicate (2 - (lg_sl ([rr G u0, .int u1])).length) Slot.unset).toArray = ls at hl ⊢
  refine s_aload_n hx hb dX12_count_0 rfl (lv_at hl 0 rfl) ?_
  refine lv_iconst (v := (0 : Int32)) hx hb dX12_count_1 (by decide) ?_
  obtain ⟨f1, hf1, hE⟩ := bd hE
  refine s_putI hx hb hT u_X12 tyX12 tyX12_ok nmX12 hown hK hW hS hf1 rfl (by decide) fl_X12_81 rfl (Or.inl rfl) rfl dX12_count_2 (fun H locs hW hS => ?_)
  refine s_aload_n hx hb dX12_count_5 rfl (lv_at hl 0 rfl) ?_
  obtain ⟨c2, hE⟩ := ck hE
  obtain ⟨f3, hf3, hE⟩ := bd hE
  refine s_callV (As := []) (rest := []) CF hK hW hS (S_X12_lay l G F hf3) c2 rfl gv_X12_164 hd_X12_lay ⟨Nat.le_of_ble_eq_true rfl, Nat.le_of_ble_eq_true rfl⟩ rfl hl.1 rfl (Nat.le_of_ble_eq_true rfl) dX12_count_6 ⟨Nat.le_refl _, Nat.le_refl _⟩ (fun H locs hW hS => ?_)
  refine lv_iload_n hx hb dX12_count_9 rfl (lv_at hl 1 rfl) ?_
  by_cases w4 : u1 = (0 : Int32)
  · replace hE := ite_t w4 hE
    have hi : (u1).toInt = 0 := by rw [w4]; rfl
    refine lv_tableIn (off := 42) (tgt := 52) hx hb dX12_count_10 (by rw [hi]; decide) (by rw [hi]; decide) (by rw [hi]; rfl) (by decide) ?_
    refine s_aload_n hx hb dX12_count_52 rfl (lv_at hl 0 rfl) ?_
    obtain ⟨c5, hE⟩ := ck hE
    obtain ⟨x6, hx6, hE⟩ := bd hE
    refine s_callV (As := []) (rest := []) CF hK hW hS (S_X12_lines l G F hx6) c5 rfl gv_X12_185 hd_X12_lines ⟨Nat.le_of_ble_eq_true rfl, Nat.le_of_ble_eq_true rfl⟩ rfl hl.1 rfl (Nat.le_of_ble_eq_true rfl) dX12_count_53 ⟨Nat.le_refl _, Nat.le_refl _⟩ (fun H locs hW hS => ?_)
    obtain ⟨rfl, rfl⟩ := so2 hE
    exact s_iret hx hb hr hlocks hW hS dX12_count_56
  · replace hE := ite_f w4 hE
    by_cases w7 : u1 = (1 : Int32)
    · replace hE := ite_t w7 hE
      have hi : (u1).toInt = 1 := by rw [w7]; rfl
      refine lv_tableIn (off := 47) (tgt := 57) hx hb dX12_count_10 (by rw [hi]; decide) (by rw [hi]; decide) (by rw [hi]; rfl) (by decide) ?_
      refine s_aload_n hx hb dX12_count_57 rfl (lv_at hl 0 rfl) ?_
      obtain ⟨c8, hE⟩ := ck hE
      obtain ⟨x9, hx9, hE⟩ := bd hE
      refine s_callV (As := []) (rest := []) CF hK hW hS (S_X12_copies l G F hx9) c8 rfl gv_X12_179 hd_X12_copies ⟨Nat.le_of_ble_eq_true rfl, Nat.le_of_ble_eq_true rfl⟩ rfl hl.1 rfl (Nat.le_of_ble_eq_true rfl) dX12_count_58 ⟨Nat.le_refl _, Nat.le_refl _⟩ (fun H locs hW hS => ?_)
      obtain ⟨rfl, rfl⟩ := so2 hE
      exact s_iret hx hb hr hlocks hW hS dX12_count_61
    · replace hE := ite_f w7 hE
      by_cases w10 : u1 = (2 : Int32)
      · replace hE := ite_t w10 hE
        have hi : (u1).toInt = 2 := by rw [w10]; rfl
        refine lv_tableIn (off := 52) (tgt := 62) hx hb dX12_count_10 (by rw [hi]; decide) (by rw [hi]; decide) (by rw [hi]; rfl) (by decide) ?_
        refine s_aload_n hx hb dX12_count_62 rfl (lv_at hl 0 rfl) ?_
        obtain ⟨x11, hx11, hE⟩ := bd hE
        refine s_gR hx hb hT u_X12 hown hK hW hx11 rfl (by decide) fl_X12_13 rfl dX12_count_63 ?_
        refine lv_iconst (v := (2 : Int32)) hx hb dX12_count_66 (by decide) ?_
        obtain ⟨x12, hx12, hE⟩ := bd hE
        refine s_ldI hx hb hK hW hS hx12 dX12_count_67 ?_
        obtain ⟨rfl, rfl⟩ := so2 hE
        exact s_iret hx hb hr hlocks hW hS dX12_count_68
      · replace hE := ite_f w10 hE
        by_cases w13 : u1 = (3 : Int32)
        · replace hE := ite_t w13 hE
          have hi : (u1).toInt = 3 := by rw [w13]; rfl
          refine lv_tableIn (off := 59) (tgt := 69) hx hb dX12_count_10 (by rw [hi]; decide) (by rw [hi]; decide) (by rw [hi]; rfl) (by decide) ?_
          refine s_aload_n hx hb dX12_count_69 rfl (lv_at hl 0 rfl) ?_
          obtain ⟨c14, hE⟩ := ck hE
          obtain ⟨x15, hx15, hE⟩ := bd hE
          refine s_callV (As := []) (rest := []) CF hK hW hS (S_X12_orders l G F hx15) c14 rfl gv_X12_251 hd_X12_orders ⟨Nat.le_of_ble_eq_true rfl, Nat.le_of_ble_eq_true rfl⟩ rfl hl.1 rfl (Nat.le_of_ble_eq_true rfl) dX12_count_70 ⟨Nat.le_refl _, Nat.le_refl _⟩ (fun H locs hW hS => ?_)
          obtain ⟨rfl, rfl⟩ := so2 hE
          exact s_iret hx hb hr hlocks hW hS dX12_count_73
        · replace hE := ite_f w13 hE
          by_cases w16 : u1 = (4 : Int32)
          · replace hE := ite_t w16 hE
            have hi : (u1).toInt = 4 := by rw [w16]; rfl
            refine lv_tableIn (off := 64) (tgt := 74) hx hb dX12_count_10 (by rw [hi]; decide) (by rw [hi]; decide) (by rw [hi]; rfl) (by decide) ?_
            refine s_aload_n hx hb dX12_count_74 rfl (lv_at hl 0 rfl) ?_
            obtain ⟨x17, hx17, hE⟩ := bd hE
            refine s_gR hx hb hT u_X12 hown hK hW hx17 rfl (by decide) fl_X12_13 rfl dX12_count_75 ?_
            refine lv_iconst (v := (3 : Int32)) hx hb dX12_count_78 (by decide) ?_
            obtain ⟨x18, hx18, hE⟩ := bd hE
            refine s_ldI hx hb hK hW hS hx18 dX12_count_79 ?_
            obtain ⟨rfl, rfl⟩ := so2 hE
            exact s_iret hx hb hr hlocks hW hS dX12_count_80
          · replace hE := ite_f w16 hE
            by_cases w19 : u1 = (5 : Int32)
            · replace hE := ite_t w19 hE
              have hi : (u1).toInt = 5 := by rw [w19]; rfl
              refine lv_tableIn (off := 71) (tgt := 81) hx hb dX12_count_10 (by rw [hi]; decide) (by rw [hi]; decide) (by rw [hi]; rfl) (by decide) ?_
              refine s_aload_n hx hb dX12_count_81 rfl (lv_at hl 0 rfl) ?_
              obtain ⟨x20, hx20, hE⟩ := bd hE
              refine s_gR hx hb hT u_X12 hown hK hW hx20 rfl (by decide) fl_X12_13 rfl dX12_count_82 ?_
              refine lv_iconst (v := (4 : Int32)) hx hb dX12_count_85 (by decide) ?_
              obtain ⟨x21, hx21, hE⟩ := bd hE
              refine s_ldI hx hb hK hW hS hx21 dX12_count_86 ?_
              obtain ⟨rfl, rfl⟩ := so2 hE
              exact s_iret hx hb hr hlocks hW hS dX12_count_87
            · replace hE := ite_f w19 hE
              by_cases w22 : u1 = (6 : Int32)
              · replace hE := ite_t w22 hE
                have hi : (u1).toInt = 6 := by rw [w22]; rfl
                refine lv_tableIn (off := 78) (tgt := 88) hx hb dX12_count_10 (by rw [hi]; decide) (by rw [hi]; decide) (by rw [hi]; rfl) (by decide) ?_
                refine s_aload_n hx hb dX12_count_88 rfl (lv_at hl 0 rfl) ?_
                obtain ⟨x23, hx23, hE⟩ := bd hE
                refine s_gI hx hb hT u_X12 hown hK hW hx23 rfl (by decide) fl_X12_85 rfl dX12_count_89 ?_
                obtain ⟨rfl, rfl⟩ := so2 hE
                exact s_iret hx hb hr hlocks hW hS dX12_count_92
              · replace hE := ite_f w22 hE
                replace w4 := lv_neT w4 (a := 0) rfl
                replace w7 := lv_neT w7 (a := 1) rfl
                replace w10 := lv_neT w10 (a := 2) rfl
                replace w13 := lv_neT w13 (a := 3) rfl
                replace w16 := lv_neT w16 (a := 4) rfl
                replace w19 := lv_neT w19 (a := 5) rfl
                replace w22 := lv_neT w22 (a := 6) rfl
                refine lv_tableOut (tgt := 93) hx hb dX12_count_10 (by omega) (by decide) ?_
                refine lv_iconst (v := (-1 : Int32)) hx hb dX12_count_93 (by decide) ?_
                obtain ⟨rfl, rfl⟩ := so2 hE
                exact s_iret hx hb hr hlocks hW hS dX12_count_94
set_option maxHeartbeats 4000000 in
set_option maxRecDepth 100000 in
theorem S_X12_drawn (l : Launch) (G : GG) (F : Nat) {u0 : Option Nat} {u1 : Int32} {u2 : Int32} {u3 : Int32} {f : Hp} {r : Int32} {f' : Hp} {n : Nat} (hE : m_X12_drawn F u0 u1 u2 u3 f = some (r, f')) : Ctr l G yX12_drawn cX12_drawn 9 (some .int) 3 69 [rr G u0, .int u1, .int u2, .int u3] f n (some (.int r)) f' n 0 0 := by
  refine Met.ofW (cc := cX12_drawn) (maxL := 9) (ret := (some .int)) (by decide) rfl ?_
  intro p e s m args below meth c s₁ B hml hv
  obtain ⟨rfl, hK, hW⟩ := hv
  have hx := B.exec
  have hb := B.bytes
  have hr := B.returns
  have hts := atoms_spec (ws := wsO yX12_drawn cX12_drawn 9 (some .int)) B.pre
  have hT : ∀ w ∈ TB, w.before [rr G u0, .int u1, .int u2, .int u3].toArray s = true := fun w hw => hts w (List.mem_cons_of_mem _ hw)
  have hown : s.vm.findClass RX12 = some m.cls := findClass_of_methodNamed B.named
  have hlocks := B.notSynchronized
  have CF : CallFix p m c cX12_drawn 9 s [rr G u0, .int u1, .int u2, .int u3].toArray TB RX12 := ⟨hx, hb, hml, hown, hT⟩
  have hS : va_S (WA G) s.heap s.heap [] := va_S.rf
  have hl : lv_has (lg_sl ([rr G u0, .int u1, .int u2, .int u3]) ++ List.replicate (9 - (lg_sl ([rr G u0, .int u1, .int u2, .int u3])).length) Slot.unset).toArray 9 [(0, rr G u0), (1, .int u1), (2, .int u2), (3, .int u3)] := by cases u0 <;> exact lv_entry _ (Nat.le_of_ble_eq_true rfl)
  rw [lg_entry_eq]
  generalize (lg_sl ([rr G u0, .int u1, .int u2, .int u3]) ++ List.replicate (9 - (lg_sl ([rr G u0, .int u1, .int u2, .int u3])).length) Slot.unset).toArray = ls at hl ⊢
  have hC47 : ∀ (k47 : Nat), ∀ (v0 : Option Nat) (v2 : Int32) (v4 : Int32) (v5 : Int32) (fa : Hp) (H : Heap) (locs : List Loc) (ls : Array Slot), m_X12_drawn_L47 F k47 v0 v2 v4 v5 fa = some (r, f') → Wd G fa n H → va_S (WA G) s.heap H locs → lv_has ls 9 [(0, rr G v0), (2, .int v2), (4, .int v4), (5, .int v5)] → W p l e (headSpec (wsO yX12_drawn cX12_drawn 9 (some .int)) { frames := 3, cells := 0, slots := 0, locals := 69 }).room s m [rr G u0, .int u1, .int u2, .int u3].toArray below meth c H locs 0 0 (MQ below (Qcn G (some (.int r)) f' n) [rr G u0, .int u1, .int u2, .int u3].toArray s 0 0 (WA G)) (F0 m 47 ls []) := by
    intro k47
    induction k47 with
    | zero => intro v0 v2 v4 v5 fa H locs ls hE _ _ _; cases (show (none : Option ((Int32) × Hp)) = some (r, f') from hE)
    | succ k47 ih47 =>
      have hC116 : ∀ (v0 : Option Nat) (v2 : Int32) (v4 : Int32) (v5 : Int32) (v7 : Int32) (fa : Hp) (H : Heap) (locs : List Loc) (ls : Array Slot), m_X12_drawn_B116 F (m_X12_drawn_L47 F k47) v0 v2 v4 v5 v7 fa = some (r, f') → Wd G fa n H → va_S (WA G) s.heap H locs → lv_has ls 9 [(0, rr G v0), (2, .int v2), (4, .int v4), (5, .int v5), (7, .int v7)] → W p l e (headSpec (wsO yX12_drawn cX12_drawn 9 (some .int)) { frames := 3, cells := 0, slots := 0, locals := 69 }).room s m [rr G u0, .int u1, .int u2, .int u3].toArray below meth c H locs 0 0 (MQ below (Qcn G (some (.int r)) f' n) [rr G u0, .int u1, .int u2, .int u3].toArray s 0 0 (WA G)) (F0 m 116 ls []) := by
        intro v0 v2 v4 v5 v7 fa H locs ls hE hW hS hl
        refine s_aload_n hx hb dX12_drawn_116 rfl (lv_at hl 0 rfl) ?_
        obtain ⟨x16, hx16, hE⟩ := bd hE
        refine s_gR hx hb hT u_X12 hown hK hW hx16 rfl (by decide) fl_X12_36 rfl dX12_drawn_117 ?_
        refine lv_iload hx hb dX12_drawn_120 (lv_at hl 4 rfl) ?_
        obtain ⟨x17, hx17, hE⟩ := bd hE
        refine s_ldI hx hb hK hW hS hx17 dX12_drawn_122 ?_
        refine lv_istore (lv' := [(8, .int x17), (0, rr G v0), (2, .int v2), (4, .int v4), (5, .int v5), (7, .int v7)]) hx hb dX12_drawn_123 hl (by decide) rfl (fun ls hl => ?_)
        refine s_aload_n hx hb dX12_drawn_125 rfl (lv_at hl 1 rfl) ?_
        obtain ⟨x18, hx18, hE⟩ := bd hE
        refine s_gR hx hb hT u_X12 hown hK hW hx18 rfl (by decide) fl_X12_36 rfl dX12_drawn_126 ?_
        refine lv_iload hx hb dX12_drawn_129 (lv_at hl 5 rfl) ?_
        refine s_aload_n hx hb dX12_drawn_131 rfl (lv_at hl 1 rfl) ?_
        obtain ⟨x19, hx19, hE⟩ := bd hE
        refine s_gR hx hb hT u_X12 hown hK hW hx19 rfl (by decide) fl_X12_36 rfl dX12_drawn_132 ?_
        refine lv_iload hx hb dX12_drawn_135 (lv_at hl 5 rfl) ?_
        refine lv_iconst (v := (1 : Int32)) hx hb dX12_drawn_137 (by decide) ?_
        refine lv_iadd hx hb dX12_drawn_138 ?_
        obtain ⟨x20, hx20, hE⟩ := bd hE
        refine s_ldI hx hb hK hW hS hx20 dX12_drawn_139 ?_
        obtain ⟨f21, hf21, hE⟩ := bd hE
        refine s_stI hx hb hK hW hS hf21 dX12_drawn_140 (fun H locs hW hS => ?_)
        refine s_aload_n hx hb dX12_drawn_141 rfl (lv_at hl 1 rfl) ?_
        obtain ⟨x22, hx22, hE⟩ := bd hE
        refine s_gR hx hb hT u_X12 hown hK hW hx22 rfl (by decide) fl_X12_36 rfl dX12_drawn_142 ?_
        refine lv_iload hx hb dX12_drawn_145 (lv_at hl 5 rfl) ?_
        refine lv_iconst (v := (1 : Int32)) hx hb dX12_drawn_147 (by decide) ?_
        refine lv_iadd hx hb dX12_drawn_148 ?_
        refine lv_iload hx hb dX12_drawn_149 (lv_at hl 0 rfl) ?_
        obtain ⟨f23, hf23, hE⟩ := bd hE
        refine s_stI hx hb hK hW hS hf23 dX12_drawn_151 (fun H locs hW hS => ?_)
        obtain ⟨y24, ey24⟩ : ∃ y : Int32, y = v5 + (1 : Int32) := ⟨_, rfl⟩
        replace hE := nm_o ey24 hE
        refine lv_iinc (k := 4) (v := y24) (lv' := [(5, .int y24), (8, .int x17), (0, rr G v0), (2, .int v2), (4, .int v4), (7, .int v7)]) hx hb dX12_drawn_152 hl rfl (by rw [ey24]; rfl) (by decide) rfl (fun ls hl => ?_)
        refine lv_goto (tgt := 47) hx hb dX12_drawn_155 (by decide) ?_
        exact ih47 _ _ _ _ _ _ _ _ hE hW hS (lv_sub hl [2, 3, 4, 0] rfl)
      have hC80 : ∀ (k80 : Nat), ∀ (v0 : Option Nat) (v2 : Int32) (v4 : Int32) (v5 : Int32) (v6 : Int32) (v7 : Int32) (fa : Hp) (H : Heap) (locs : List Loc) (ls : Array Slot), m_X12_drawn_L80 F (m_X12_drawn_L47 F k47) k80 v0 v2 v4 v5 v6 v7 fa = some (r, f') → Wd G fa n H → va_S (WA G) s.heap H locs → lv_has ls 9 [(0, rr G v0), (2, .int v2), (4, .int v4), (5, .int v5), (6, .int v6), (7, .int v7)] → W p l e (headSpec (wsO yX12_drawn cX12_drawn 9 (some .int)) { frames := 3, cells := 0, slots := 0, locals := 69 }).room s m [rr G u0, .int u1, .int u2, .int u3].toArray below meth c H locs 0 0 (MQ below (Qcn G (some (.int r)) f' n) [rr G u0, .int u1, .int u2, .int u3].toArray s 0 0 (WA G)) (F0 m 80 ls []) := by
        intro k80
        induction k80 with
        | zero => intro v0 v2 v4 v5 v6 v7 fa H locs ls hE _ _ _; cases (show (none : Option ((Int32) × Hp)) = some (r, f') from hE)
        | succ k80 ih80 =>
          intro v0 v2 v4 v5 v6 v7 fa H locs ls hE hW hS hl
          replace hE : m_X12_drawn_b80 F (m_X12_drawn_L47 F k47) (m_X12_drawn_L80 F (m_X12_drawn_L47 F k47) k80) v0 v2 v4 v5 v6 v7 fa = some (r, f') := hE
          refine lv_iload hx hb dX12_drawn_80 (lv_at hl 4 rfl) ?_
          refine s_aload_n hx hb dX12_drawn_82 rfl (lv_at hl 0 rfl) ?_
          obtain ⟨x9, hx9, hE⟩ := bd hE
          refine s_gR hx hb hT u_X12 hown hK hW hx9 rfl (by decide) fl_X12_13 rfl dX12_drawn_83 ?_
          refine lv_bipush (v := (102 : Int32)) hx hb dX12_drawn_86 (by decide) ?_
          refine lv_iload hx hb dX12_drawn_88 (lv_at hl 5 rfl) ?_
          refine lv_iadd hx hb dX12_drawn_90 ?_
          obtain ⟨x10, hx10, hE⟩ := bd hE
          refine s_ldI hx hb hK hW hS hx10 dX12_drawn_91 ?_
          refine lv_icmp_lt (tgt := 116) hx hb dX12_drawn_92 (by decide) (fun q11 => ?_) (fun q11 => ?_)
          · replace hE := ite_t q11 hE
            exact hC116 _ _ _ _ _ _ _ _ _ hE hW hS (lv_sub hl [0, 1, 2, 3, 5] rfl)
          · replace hE := ite_f q11 hE
            refine lv_iload hx hb dX12_drawn_95 (lv_at hl 4 rfl) ?_
            refine s_aload_n hx hb dX12_drawn_97 rfl (lv_at hl 0 rfl) ?_
            obtain ⟨x12, hx12, hE⟩ := bd hE
            refine s_gR hx hb hT u_X12 hown hK hW hx12 rfl (by decide) fl_X12_13 rfl dX12_drawn_98 ?_
            refine lv_bipush (v := (102 : Int32)) hx hb dX12_drawn_101 (by decide) ?_
            refine lv_iload hx hb dX12_drawn_103 (lv_at hl 5 rfl) ?_
            refine lv_iadd hx hb dX12_drawn_105 ?_
            obtain ⟨x13, hx13, hE⟩ := bd hE
            refine s_ldI hx hb hK hW hS hx13 dX12_drawn_106 ?_
            refine lv_isub hx hb dX12_drawn_107 ?_
            refine lv_topi (fun y14 ey14 => ?_)
            replace hE := nm_o ey14 hE
            refine lv_istore (lv' := [(6, .int y14), (0, rr G v0), (2, .int v2), (4, .int v4), (5, .int v5), (7, .int v7)]) hx hb dX12_drawn_108 hl (by decide) rfl (fun ls hl => ?_)
            obtain ⟨y15, ey15⟩ : ∃ y : Int32, y = v7 + (1 : Int32) := ⟨_, rfl⟩
            replace hE := nm_o ey15 hE
            refine lv_iinc (k := 5) (v := y15) (lv' := [(7, .int y15), (6, .int y14), (0, rr G v0), (2, .int v2), (4, .int v4), (5, .int v5)]) hx hb dX12_drawn_110 hl rfl (by rw [ey15]; rfl) (by decide) rfl (fun ls hl => ?_)
            refine lv_goto (tgt := 80) hx hb dX12_drawn_113 (by decide) ?_
            exact ih80 _ _ _ _ _ _ _ _ _ _ hE hW hS (lv_sub hl [2, 3, 4, 5, 1, 0] rfl)
      intro v0 v2 v4 v5 fa H locs ls hE hW hS hl
      replace hE : m_X12_drawn_b47 F (m_X12_drawn_L47 F k47) v0 v2 v4 v5 fa = some (r, f') := hE
      refine lv_iload hx hb dX12_drawn_47 (lv_at hl 3 rfl) ?_
      refine lv_iload_n hx hb dX12_drawn_49 rfl (lv_at hl 1 rfl) ?_
      refine lv_icmp_ge (tgt := 158) hx hb dX12_drawn_50 (by decide) (fun q1 => ?_) (fun q1 => ?_)
      · replace hE := ite_t q1 hE
        refine s_aload_n hx hb dX12_drawn_158 rfl (lv_at hl 0 rfl) ?_
        obtain ⟨c2, hE⟩ := ck hE
        obtain ⟨x3, hx3, hE⟩ := bd hE
        refine s_callV (As := []) (rest := []) CF hK hW hS (S_X12_numberOf l G F hx3) c2 rfl gv_X12_313 hd_X12_numberOf ⟨Nat.le_of_ble_eq_true rfl, Nat.le_of_ble_eq_true rfl⟩ rfl hl.1 rfl (Nat.le_of_ble_eq_true rfl) dX12_drawn_159 ⟨Nat.le_refl _, Nat.le_refl _⟩ (fun H locs hW hS => ?_)
        obtain ⟨rfl, rfl⟩ := so2 hE
        exact s_iret hx hb hr hlocks hW hS dX12_drawn_162
      · replace hE := ite_f q1 hE
        refine lv_iload hx hb dX12_drawn_53 (lv_at hl 2 rfl) ?_
        refine lv_ldcw (v := (1103515245 : Int32)) hx hb hown (hT _ kc_X12_334) dX12_drawn_55 ?_
        refine lv_imul hx hb dX12_drawn_58 ?_
        refine lv_sipush (v := (12345 : Int32)) hx hb dX12_drawn_59 (by decide) ?_
        refine lv_iadd hx hb dX12_drawn_62 ?_
        refine lv_topi (fun y4 ey4 => ?_)
        replace hE := nm_o ey4 hE
        refine lv_istore (lv' := [(4, .int y4), (0, rr G v0), (2, .int v2), (5, .int v5)]) hx hb dX12_drawn_63 hl (by decide) rfl (fun ls hl => ?_)
        refine lv_iload hx hb dX12_drawn_65 (lv_at hl 0 rfl) ?_
        refine lv_bipush (v := (8 : Int32)) hx hb dX12_drawn_67 (by decide) ?_
        refine lv_iushr (v := (ius y4 (8 : Int32))) hx hb dX12_drawn_69 rfl ?_
        refine s_aload_n hx hb dX12_drawn_70 rfl (lv_at hl 1 rfl) ?_
        obtain ⟨c5, hE⟩ := ck hE
        obtain ⟨x6, hx6, hE⟩ := bd hE
        refine s_callV (As := []) (rest := [.int (ius y4 (8 : Int32))]) CF hK hW hS (S_X12_allLikely l G F hx6) c5 rfl gv_X12_331 hd_X12_allLikely ⟨Nat.le_of_ble_eq_true rfl, Nat.le_of_ble_eq_true rfl⟩ rfl hl.1 rfl (Nat.le_of_ble_eq_true rfl) dX12_drawn_71 ⟨Nat.le_refl _, Nat.le_refl _⟩ (fun H locs hW hS => ?_)
        obtain ⟨c7, hE⟩ := ck hE
        refine lv_irem hx hb dX12_drawn_74 (of_decide_eq_true c7) ?_
        refine lv_topi (fun y8 ey8 => ?_)
        replace hE := nm_o ey8 hE
        refine lv_istore (lv' := [(6, .int y8), (4, .int y4), (0, rr G v0), (2, .int v2), (5, .int v5)]) hx hb dX12_drawn_75 hl (by decide) rfl (fun ls hl => ?_)
        refine lv_iconst (v := (0 : Int32)) hx hb dX12_drawn_77 (by decide) ?_
        refine lv_istore (lv' := [(7, .int (0 : Int32)), (6, .int y8), (4, .int y4), (0, rr G v0), (2, .int v2), (5, .int v5)]) hx hb dX12_drawn_78 hl (by decide) rfl (fun ls hl => ?_)
        exact hC80 F _ _ _ _ _ _ _ _ _ _ hE hW hS (lv_sub hl [3, 4, 2, 5, 1, 0] rfl)
  refine s_aload_n hx hb dX12_drawn_0 rfl (lv_at hl 0 rfl) ?_
  refine lv_iconst (v := (0 : Int32)) hx hb dX12_drawn_1 (by decide) ?_
  obtain ⟨f25, hf25, hE⟩ := bd hE
  refine s_putI hx hb hT u_X12 tyX12 tyX12_ok nmX12 hown hK hW hS hf25 rfl (by decide) fl_X12_81 rfl (Or.inl rfl) rfl dX12_drawn_2 (fun H locs hW hS => ?_)
  refine s_aload_n hx hb dX12_drawn_5 rfl (lv_at hl 0 rfl) ?_
  obtain ⟨c26, hE⟩ := ck hE
  obtain ⟨f27, hf27, hE⟩ := bd hE
  refine s_callV (As := []) (rest := []) CF hK hW hS (S_X12_lay l G F hf27) c26 rfl gv_X12_164 hd_X12_lay ⟨Nat.le_of_ble_eq_true rfl, Nat.le_of_ble_eq_true rfl⟩ rfl hl.1 rfl (Nat.le_of_ble_eq_true rfl) dX12_drawn_6 ⟨Nat.le_refl _, Nat.le_refl _⟩ (fun H locs hW hS => ?_)
  refine s_aload_n hx hb dX12_drawn_9 rfl (lv_at hl 0 rfl) ?_
  refine lv_iload_n hx hb dX12_drawn_10 rfl (lv_at hl 1 rfl) ?_
  obtain ⟨c28, hE⟩ := ck hE
  obtain ⟨x29, hx29, hE⟩ := bd hE
  refine s_callV (As := [.int u1]) (rest := []) CF hK hW hS (S_X12_isOrder l G F hx29) c28 rfl gv_X12_254 hd_X12_isOrder ⟨Nat.le_of_ble_eq_true rfl, Nat.le_of_ble_eq_true rfl⟩ rfl hl.1 rfl (Nat.le_of_ble_eq_true rfl) dX12_drawn_11 ⟨Nat.le_refl _, Nat.le_refl _⟩ (fun H locs hW hS => ?_)
  refine lv_if_eq (tgt := 34) hx hb dX12_drawn_14 (by decide) (fun q30 => ?_) (fun q30 => ?_)
  · replace hE := ite_t q30 hE
    refine lv_iconst (v := (-1 : Int32)) hx hb dX12_drawn_34 (by decide) ?_
    obtain ⟨rfl, rfl⟩ := so2 hE
    exact s_iret hx hb hr hlocks hW hS dX12_drawn_35
  · replace hE := ite_f q30 hE
    refine lv_iload_n hx hb dX12_drawn_17 rfl (lv_at hl 2 rfl) ?_
    refine lv_iconst (v := (0 : Int32)) hx hb dX12_drawn_18 (by decide) ?_
    refine lv_bipush (v := (100 : Int32)) hx hb dX12_drawn_19 (by decide) ?_
    obtain ⟨x31, hx31, hE⟩ := bd hE
    refine s_callS (As := [.int u2, .int (0 : Int32), .int (100 : Int32)]) (rest := []) CF hK hW hS (S_X12_isIn l G F hx31) gs_X12_151 hd_X12_isIn.2 ⟨Nat.le_of_ble_eq_true rfl, Nat.le_of_ble_eq_true rfl⟩ rfl hl.1 rfl (Nat.le_of_ble_eq_true rfl) dX12_drawn_21 ⟨Nat.le_refl _, Nat.le_refl _⟩ (fun H locs hW hS => ?_)
    refine lv_if_eq (tgt := 34) hx hb dX12_drawn_24 (by decide) (fun q32 => ?_) (fun q32 => ?_)
    · replace hE := ite_t q32 hE
      refine lv_iconst (v := (-1 : Int32)) hx hb dX12_drawn_34 (by decide) ?_
      obtain ⟨rfl, rfl⟩ := so2 hE
      exact s_iret hx hb hr hlocks hW hS dX12_drawn_35
    · replace hE := ite_f q32 hE
      refine s_aload_n hx hb dX12_drawn_27 rfl (lv_at hl 0 rfl) ?_
      obtain ⟨c33, hE⟩ := ck hE
      obtain ⟨x34, hx34, hE⟩ := bd hE
      refine s_callV (As := []) (rest := []) CF hK hW hS (S_X12_allLikely l G F hx34) c33 rfl gv_X12_331 hd_X12_allLikely ⟨Nat.le_of_ble_eq_true rfl, Nat.le_of_ble_eq_true rfl⟩ rfl hl.1 rfl (Nat.le_of_ble_eq_true rfl) dX12_drawn_28 ⟨Nat.le_refl _, Nat.le_refl _⟩ (fun H locs hW hS => ?_)
      refine lv_if_ne (tgt := 36) hx hb dX12_drawn_31 (by decide) (fun q35 => ?_) (fun q35 => ?_)
      · replace hE := ite_f q35 hE
        refine s_aload_n hx hb dX12_drawn_36 rfl (lv_at hl 0 rfl) ?_
        refine lv_iload_n hx hb dX12_drawn_37 rfl (lv_at hl 1 rfl) ?_
        obtain ⟨c36, hE⟩ := ck hE
        obtain ⟨f37, hf37, hE⟩ := bd hE
        refine s_callV (As := [.int u1]) (rest := []) CF hK hW hS (S_X12_lay_ l G F hf37) c36 rfl gv_X12_257 hd_X12_lay_ ⟨Nat.le_of_ble_eq_true rfl, Nat.le_of_ble_eq_true rfl⟩ rfl hl.1 rfl (Nat.le_of_ble_eq_true rfl) dX12_drawn_38 ⟨Nat.le_refl _, Nat.le_refl _⟩ (fun H locs hW hS => ?_)
        refine lv_iload_n hx hb dX12_drawn_41 rfl (lv_at hl 3 rfl) ?_
        refine lv_istore (lv' := [(4, .int u3), (0, rr G u0), (1, .int u1), (2, .int u2), (3, .int u3)]) hx hb dX12_drawn_42 hl (by decide) rfl (fun ls hl => ?_)
        refine lv_iconst (v := (0 : Int32)) hx hb dX12_drawn_44 (by decide) ?_
        refine lv_istore (lv' := [(5, .int (0 : Int32)), (4, .int u3), (0, rr G u0), (1, .int u1), (2, .int u2), (3, .int u3)]) hx hb dX12_drawn_45 hl (by decide) rfl (fun ls hl => ?_)
        exact hC47 F _ _ _ _ _ _ _ _ hE hW hS (lv_sub hl [2, 4, 1, 0] rfl)
      · replace hE := ite_t q35 hE
        refine lv_iconst (v := (-1 : Int32)) hx hb dX12_drawn_34 (by decide) ?_
        obtain ⟨rfl, rfl⟩ := so2 hE
        exact s_iret hx hb hr hlocks hW hS dX12_drawn_35
set_option maxHeartbeats 4000000 in
set_option maxRecDepth 100000 in
theorem S_X12_end (l : Launch) (G : GG) (F : Nat) {u0 : Option Nat} {u1 : Int32} {f : Hp} {r : Int32} {f' : Hp} {n : Nat} (hE : m_X12_end F u0 u1 f = some (r, f')) : Ctr l G yX12_end cX12_end 2 (some .boolean) 0 0 [rr G u0, .int u1] f n (some (.int r)) f' n 0 0 := by
  refine Met.ofW (cc := cX12_end) (maxL := 2) (ret := (some .boolean)) (by decide) rfl ?_
  intro p e s m args below meth c s₁ B hml hv
  obtain ⟨rfl, hK, hW⟩ := hv
  have hx := B.exec
  have hb := B.bytes
  have hr := B.returns
  have hts := atoms_spec (ws := wsO yX12_end cX12_end 2 (some .boolean)) B.pre
  have hT : ∀ w ∈ TB, w.before [rr G u0, .int u1].toArray s = true := fun w hw => hts w (List.mem_cons_of_mem _ hw)
  have hown : s.vm.findClass RX12 = some m.cls := findClass_of_methodNamed B.named
  have hlocks := B.notSynchronized
  have CF : CallFix p m c cX12_end 2 s [rr G u0, .int u1].toArray TB RX12 := ⟨hx, hb, hml, hown, hT⟩
  have hS : va_S (WA G) s.heap s.heap [] := va_S.rf
  have hl : lv_has (lg_sl ([rr G u0, .int u1]) ++ List.replicate (2 - (lg_sl ([rr G u0, .int u1])).length) Slot.unset).toArray 2 [(0, rr G u0), (1, .int u1)] := by cases u0 <;> exact lv_entry _ (Nat.le_of_ble_eq_true rfl)
  rw [lg_entry_eq]
  generalize (lg_sl ([rr G u0, .int u1]) ++ List.replicate (2 - (lg_sl ([rr G u0, .int u1])).length) Slot.unset).toArray = ls at hl ⊢
  refine s_aload_n hx hb dX12_end_0 rfl (lv_at hl 0 rfl) ?_
  refine lv_iconst (v := (0 : Int32)) hx hb dX12_end_1 (by decide) ?_
  obtain ⟨f1, hf1, hE⟩ := bd hE
  refine s_putI hx hb hT u_X12 tyX12 tyX12_ok nmX12 hown hK hW hS hf1 rfl (by decide) fl_X12_81 rfl (Or.inl rfl) rfl dX12_end_2 (fun H locs hW hS => ?_)
  refine lv_iload_n hx hb dX12_end_5 rfl (lv_at hl 1 rfl) ?_
  refine lv_if_lt (tgt := 17) hx hb dX12_end_6 (by decide) (fun q2 => ?_) (fun q2 => ?_)
  · replace hE := ite_t q2 hE
    refine lv_iconst (v := (0 : Int32)) hx hb dX12_end_17 (by decide) ?_
    obtain ⟨c3, hE⟩ := ck hE
    obtain ⟨rfl, rfl⟩ := so2 hE
    exact s_zret hx hb hr c3 hlocks hW hS dX12_end_18
  · replace hE := ite_f q2 hE
    refine lv_iload_n hx hb dX12_end_9 rfl (lv_at hl 1 rfl) ?_
    refine s_aload_n hx hb dX12_end_10 rfl (lv_at hl 0 rfl) ?_
    obtain ⟨x4, hx4, hE⟩ := bd hE
    refine s_gI hx hb hT u_X12 hown hK hW hx4 rfl (by decide) fl_X12_85 rfl dX12_end_11 ?_
    refine lv_icmp_le (tgt := 19) hx hb dX12_end_14 (by decide) (fun q5 => ?_) (fun q5 => ?_)
    · replace hE := ite_t q5 hE
      refine s_aload_n hx hb dX12_end_19 rfl (lv_at hl 0 rfl) ?_
      refine lv_iload_n hx hb dX12_end_20 rfl (lv_at hl 1 rfl) ?_
      obtain ⟨f6, hf6, hE⟩ := bd hE
      refine s_putI hx hb hT u_X12 tyX12 tyX12_ok nmX12 hown hK hW hS hf6 rfl (by decide) fl_X12_85 rfl (Or.inl rfl) rfl dX12_end_21 (fun H locs hW hS => ?_)
      refine lv_iconst (v := (1 : Int32)) hx hb dX12_end_24 (by decide) ?_
      obtain ⟨c7, hE⟩ := ck hE
      obtain ⟨rfl, rfl⟩ := so2 hE
      exact s_zret hx hb hr c7 hlocks hW hS dX12_end_25
    · replace hE := ite_f q5 hE
      refine lv_iconst (v := (0 : Int32)) hx hb dX12_end_17 (by decide) ?_
      obtain ⟨c8, hE⟩ := ck hE
      obtain ⟨rfl, rfl⟩ := so2 hE
      exact s_zret hx hb hr c8 hlocks hW hS dX12_end_18
set_option maxHeartbeats 4000000 in
set_option maxRecDepth 100000 in
theorem S_X12_farOf (l : Launch) (G : GG) (F : Nat) {u0 : Option Nat} {u1 : Int32} {u2 : Int32} {f : Hp} {r : Int32} {f' : Hp} {n : Nat} (hE : m_X12_farOf F u0 u1 u2 f = some (r, f')) : Ctr l G yX12_farOf cX12_farOf 7 (some .int) 4 92 [rr G u0, .int u1, .int u2] f n (some (.int r)) f' n 0 0 := by
  refine Met.ofW (cc := cX12_farOf) (maxL := 7) (ret := (some .int)) (by decide) rfl ?_
  intro p e s m args below meth c s₁ B hml hv
  obtain ⟨rfl, hK, hW⟩ := hv
  have hx := B.exec
  have hb := B.bytes
  have hr := B.returns
  have hts := atoms_spec (ws := wsO yX12_farOf cX12_farOf 7 (some .int)) B.pre
  have hT : ∀ w ∈ TB, w.before [rr G u0, .int u1, .int u2].toArray s = true := fun w hw => hts w (List.mem_cons_of_mem _ hw)
  have hown : s.vm.findClass RX12 = some m.cls := findClass_of_methodNamed B.named
  have hlocks := B.notSynchronized
  have CF : CallFix p m c cX12_farOf 7 s [rr G u0, .int u1, .int u2].toArray TB RX12 := ⟨hx, hb, hml, hown, hT⟩
  have hS : va_S (WA G) s.heap s.heap [] := va_S.rf
  have hl : lv_has (lg_sl ([rr G u0, .int u1, .int u2]) ++ List.replicate (7 - (lg_sl ([rr G u0, .int u1, .int u2])).length) Slot.unset).toArray 7 [(0, rr G u0), (1, .int u1), (2, .int u2)] := by cases u0 <;> exact lv_entry _ (Nat.le_of_ble_eq_true rfl)
  rw [lg_entry_eq]
  generalize (lg_sl ([rr G u0, .int u1, .int u2]) ++ List.replicate (7 - (lg_sl ([rr G u0, .int u1, .int u2])).length) Slot.unset).toArray = ls at hl ⊢
  have hC64 : ∀ (v2 : Int32) (v3 : Int32) (v4 : Int32) (fa : Hp) (H : Heap) (locs : List Loc) (ls : Array Slot), m_X12_farOf_B64 F v2 v3 v4 fa = some (r, f') → Wd G fa n H → va_S (WA G) s.heap H locs → lv_has ls 7 [(2, .int v2), (3, .int v3), (4, .int v4)] → W p l e (headSpec (wsO yX12_farOf cX12_farOf 7 (some .int)) { frames := 4, cells := 0, slots := 0, locals := 92 }).room s m [rr G u0, .int u1, .int u2].toArray below meth c H locs 0 0 (MQ below (Qcn G (some (.int r)) f' n) [rr G u0, .int u1, .int u2].toArray s 0 0 (WA G)) (F0 m 64 ls []) := by
    intro v2 v3 v4 fa H locs ls hE hW hS hl
    refine lv_iload_n hx hb dX12_farOf_64 rfl (lv_at hl 0 rfl) ?_
    refine lv_if_ne (tgt := 72) hx hb dX12_farOf_65 (by decide) (fun q13 => ?_) (fun q13 => ?_)
    · replace hE := ite_f q13 hE
      refine lv_iload hx hb dX12_farOf_72 (lv_at hl 2 rfl) ?_
      obtain ⟨rfl, rfl⟩ := so2 hE
      exact s_iret hx hb hr hlocks hW hS dX12_farOf_74
    · replace hE := ite_t q13 hE
      refine lv_iload_n hx hb dX12_farOf_68 rfl (lv_at hl 1 rfl) ?_
      refine lv_goto (tgt := 74) hx hb dX12_farOf_69 (by decide) ?_
      obtain ⟨rfl, rfl⟩ := so2 hE
      exact s_iret hx hb hr hlocks hW hS dX12_farOf_74
  have hC17 : ∀ (k17 : Nat), ∀ (v0 : Option Nat) (v2 : Int32) (v3 : Int32) (v4 : Int32) (v5 : Int32) (fa : Hp) (H : Heap) (locs : List Loc) (ls : Array Slot), m_X12_farOf_L17 F k17 v0 v2 v3 v4 v5 fa = some (r, f') → Wd G fa n H → va_S (WA G) s.heap H locs → lv_has ls 7 [(0, rr G v0), (2, .int v2), (3, .int v3), (4, .int v4), (5, .int v5)] → W p l e (headSpec (wsO yX12_farOf cX12_farOf 7 (some .int)) { frames := 4, cells := 0, slots := 0, locals := 92 }).room s m [rr G u0, .int u1, .int u2].toArray below meth c H locs 0 0 (MQ below (Qcn G (some (.int r)) f' n) [rr G u0, .int u1, .int u2].toArray s 0 0 (WA G)) (F0 m 17 ls []) := by
    intro k17
    induction k17 with
    | zero => intro v0 v2 v3 v4 v5 fa H locs ls hE _ _ _; cases (show (none : Option ((Int32) × Hp)) = some (r, f') from hE)
    | succ k17 ih17 =>
      intro v0 v2 v3 v4 v5 fa H locs ls hE hW hS hl
      replace hE : m_X12_farOf_b17 F (m_X12_farOf_L17 F k17) v0 v2 v3 v4 v5 fa = some (r, f') := hE
      refine lv_iload hx hb dX12_farOf_17 (lv_at hl 4 rfl) ?_
      refine s_aload_n hx hb dX12_farOf_19 rfl (lv_at hl 0 rfl) ?_
      obtain ⟨c1, hE⟩ := ck hE
      obtain ⟨x2, hx2, hE⟩ := bd hE
      refine s_callV (As := []) (rest := [.int v5]) CF hK hW hS (S_X12_copies l G F hx2) c1 rfl gv_X12_179 hd_X12_copies ⟨Nat.le_of_ble_eq_true rfl, Nat.le_of_ble_eq_true rfl⟩ rfl hl.1 rfl (Nat.le_of_ble_eq_true rfl) dX12_farOf_20 ⟨Nat.le_refl _, Nat.le_refl _⟩ (fun H locs hW hS => ?_)
      refine lv_icmp_ge (tgt := 64) hx hb dX12_farOf_23 (by decide) (fun q3 => ?_) (fun q3 => ?_)
      · replace hE := ite_t q3 hE
        exact hC64 _ _ _ _ _ _ _ hE hW hS (lv_sub hl [1, 2, 3] rfl)
      · replace hE := ite_f q3 hE
        refine s_aload_n hx hb dX12_farOf_26 rfl (lv_at hl 0 rfl) ?_
        refine lv_iload hx hb dX12_farOf_27 (lv_at hl 4 rfl) ?_
        refine s_aload_n hx hb dX12_farOf_29 rfl (lv_at hl 0 rfl) ?_
        obtain ⟨x4, hx4, hE⟩ := bd hE
        refine s_gR hx hb hT u_X12 hown hK hW hx4 rfl (by decide) fl_X12_45 rfl dX12_farOf_30 ?_
        obtain ⟨c5, hE⟩ := ck hE
        obtain ⟨f6, hf6, hE⟩ := bd hE
        refine s_callV (As := [.int v5, rr G x4]) (rest := []) CF hK hW hS (S_X12_layCopy l G F hf6) c5 rfl gv_X12_265 hd_X12_layCopy ⟨Nat.le_of_ble_eq_true rfl, Nat.le_of_ble_eq_true rfl⟩ rfl hl.1 rfl (Nat.le_of_ble_eq_true rfl) dX12_farOf_33 ⟨Nat.le_refl _, Nat.le_refl _⟩ (fun H locs hW hS => ?_)
        refine s_aload_n hx hb dX12_farOf_36 rfl (lv_at hl 0 rfl) ?_
        obtain ⟨c7, hE⟩ := ck hE
        obtain ⟨x8, hx8, hE⟩ := bd hE
        refine s_callV (As := []) (rest := []) CF hK hW hS (S_X12_far l G F hx8) c7 rfl gv_X12_273 hd_X12_far ⟨Nat.le_of_ble_eq_true rfl, Nat.le_of_ble_eq_true rfl⟩ rfl hl.1 rfl (Nat.le_of_ble_eq_true rfl) dX12_farOf_37 ⟨Nat.le_refl _, Nat.le_refl _⟩ (fun H locs hW hS => ?_)
        refine lv_istore (lv' := [(6, .int x8), (0, rr G v0), (2, .int v2), (3, .int v3), (4, .int v4), (5, .int v5)]) hx hb dX12_farOf_40 hl (by decide) rfl (fun ls hl => ?_)
        refine lv_iload_n hx hb dX12_farOf_42 rfl (lv_at hl 3 rfl) ?_
        refine lv_iload hx hb dX12_farOf_43 (lv_at hl 0 rfl) ?_
        refine lv_iadd hx hb dX12_farOf_45 ?_
        refine lv_topi (fun y9 ey9 => ?_)
        replace hE := nm_o ey9 hE
        refine lv_istore_n (i := 3) (lv' := [(3, .int y9), (6, .int x8), (0, rr G v0), (2, .int v2), (4, .int v4), (5, .int v5)]) hx hb dX12_farOf_46 rfl hl (by decide) rfl (fun ls hl => ?_)
        refine lv_iload hx hb dX12_farOf_47 (lv_at hl 1 rfl) ?_
        refine lv_iload hx hb dX12_farOf_49 (lv_at hl 4 rfl) ?_
        refine lv_icmp_le (tgt := 58) hx hb dX12_farOf_51 (by decide) (fun q10 => ?_) (fun q10 => ?_)
        · replace hE := ite_t q10 hE
          obtain ⟨y11, ey11⟩ : ∃ y : Int32, y = v5 + (1 : Int32) := ⟨_, rfl⟩
          replace hE := nm_o ey11 hE
          refine lv_iinc (k := 5) (v := y11) (lv' := [(5, .int y11), (3, .int y9), (6, .int x8), (0, rr G v0), (2, .int v2), (4, .int v4)]) hx hb dX12_farOf_58 hl rfl (by rw [ey11]; rfl) (by decide) rfl (fun ls hl => ?_)
          refine lv_goto (tgt := 17) hx hb dX12_farOf_61 (by decide) ?_
          exact ih17 _ _ _ _ _ _ _ _ _ hE hW hS (lv_sub hl [3, 4, 1, 5, 0] rfl)
        · replace hE := ite_f q10 hE
          refine lv_iload hx hb dX12_farOf_54 (lv_at hl 1 rfl) ?_
          refine lv_istore (lv' := [(4, .int x8), (3, .int y9), (6, .int x8), (0, rr G v0), (2, .int v2), (5, .int v5)]) hx hb dX12_farOf_56 hl (by decide) rfl (fun ls hl => ?_)
          obtain ⟨y12, ey12⟩ : ∃ y : Int32, y = v5 + (1 : Int32) := ⟨_, rfl⟩
          replace hE := nm_o ey12 hE
          refine lv_iinc (k := 5) (v := y12) (lv' := [(5, .int y12), (4, .int x8), (3, .int y9), (6, .int x8), (0, rr G v0), (2, .int v2)]) hx hb dX12_farOf_58 hl rfl (by rw [ey12]; rfl) (by decide) rfl (fun ls hl => ?_)
          refine lv_goto (tgt := 17) hx hb dX12_farOf_61 (by decide) ?_
          exact ih17 _ _ _ _ _ _ _ _ _ hE hW hS (lv_sub hl [4, 5, 2, 1, 0] rfl)
  refine s_aload_n hx hb dX12_farOf_0 rfl (lv_at hl 0 rfl) ?_
  refine lv_iload_n hx hb dX12_farOf_1 rfl (lv_at hl 1 rfl) ?_
  refine s_aload_n hx hb dX12_farOf_2 rfl (lv_at hl 0 rfl) ?_
  obtain ⟨x14, hx14, hE⟩ := bd hE
  refine s_gR hx hb hT u_X12 hown hK hW hx14 rfl (by decide) fl_X12_42 rfl dX12_farOf_3 ?_
  obtain ⟨c15, hE⟩ := ck hE
  obtain ⟨f16, hf16, hE⟩ := bd hE
  refine s_callV (As := [.int u1, rr G x14]) (rest := []) CF hK hW hS (S_X12_layOrder l G F hf16) c15 rfl gv_X12_292 hd_X12_layOrder ⟨Nat.le_of_ble_eq_true rfl, Nat.le_of_ble_eq_true rfl⟩ rfl hl.1 rfl (Nat.le_of_ble_eq_true rfl) dX12_farOf_6 ⟨Nat.le_refl _, Nat.le_refl _⟩ (fun H locs hW hS => ?_)
  refine lv_iconst (v := (0 : Int32)) hx hb dX12_farOf_9 (by decide) ?_
  refine lv_istore_n (i := 3) (lv' := [(3, .int (0 : Int32)), (0, rr G u0), (1, .int u1), (2, .int u2)]) hx hb dX12_farOf_10 rfl hl (by decide) rfl (fun ls hl => ?_)
  refine lv_iconst (v := (0 : Int32)) hx hb dX12_farOf_11 (by decide) ?_
  refine lv_istore (lv' := [(4, .int (0 : Int32)), (3, .int (0 : Int32)), (0, rr G u0), (1, .int u1), (2, .int u2)]) hx hb dX12_farOf_12 hl (by decide) rfl (fun ls hl => ?_)
  refine lv_iconst (v := (0 : Int32)) hx hb dX12_farOf_14 (by decide) ?_
  refine lv_istore (lv' := [(5, .int (0 : Int32)), (4, .int (0 : Int32)), (3, .int (0 : Int32)), (0, rr G u0), (1, .int u1), (2, .int u2)]) hx hb dX12_farOf_15 hl (by decide) rfl (fun ls hl => ?_)
  exact hC17 F _ _ _ _ _ _ _ _ _ hE hW hS (lv_sub hl [3, 5, 2, 1, 0] rfl)
set_option maxHeartbeats 4000000 in
set_option maxRecDepth 100000 in
theorem S_X12_fault (l : Launch) (G : GG) (F : Nat) {u0 : Option Nat} {f : Hp} {r : Int32} {f' : Hp} {n : Nat} (hE : m_X12_fault F u0 f = some (r, f')) : Ctr l G yX12_fault cX12_fault 1 (some .int) 0 0 [rr G u0] f n (some (.int r)) f' n 0 0 := by
  refine Met.ofW (cc := cX12_fault) (maxL := 1) (ret := (some .int)) (by decide) rfl ?_
  intro p e s m args below meth c s₁ B hml hv
  obtain ⟨rfl, hK, hW⟩ := hv
  have hx := B.exec
  have hb := B.bytes
  have hr := B.returns
  have hts := atoms_spec (ws := wsO yX12_fault cX12_fault 1 (some .int)) B.pre
  have hT : ∀ w ∈ TB, w.before [rr G u0].toArray s = true := fun w hw => hts w (List.mem_cons_of_mem _ hw)
  have hown : s.vm.findClass RX12 = some m.cls := findClass_of_methodNamed B.named
  have hlocks := B.notSynchronized
  have CF : CallFix p m c cX12_fault 1 s [rr G u0].toArray TB RX12 := ⟨hx, hb, hml, hown, hT⟩
  have hS : va_S (WA G) s.heap s.heap [] := va_S.rf
  have hl : lv_has (lg_sl ([rr G u0]) ++ List.replicate (1 - (lg_sl ([rr G u0])).length) Slot.unset).toArray 1 [(0, rr G u0)] := by cases u0 <;> exact lv_entry _ (Nat.le_of_ble_eq_true rfl)
  rw [lg_entry_eq]
  generalize (lg_sl ([rr G u0]) ++ List.replicate (1 - (lg_sl ([rr G u0])).length) Slot.unset).toArray = ls at hl ⊢
  refine s_aload_n hx hb dX12_fault_0 rfl (lv_at hl 0 rfl) ?_
  refine lv_iconst (v := (0 : Int32)) hx hb dX12_fault_1 (by decide) ?_
  obtain ⟨f1, hf1, hE⟩ := bd hE
  refine s_putI hx hb hT u_X12 tyX12 tyX12_ok nmX12 hown hK hW hS hf1 rfl (by decide) fl_X12_81 rfl (Or.inl rfl) rfl dX12_fault_2 (fun H locs hW hS => ?_)
  refine s_aload_n hx hb dX12_fault_5 rfl (lv_at hl 0 rfl) ?_
  obtain ⟨x2, hx2, hE⟩ := bd hE
  refine s_gI hx hb hT u_X12 hown hK hW hx2 rfl (by decide) fl_X12_142 rfl dX12_fault_6 ?_
  obtain ⟨rfl, rfl⟩ := so2 hE
  exact s_iret hx hb hr hlocks hW hS dX12_fault_9
set_option maxHeartbeats 4000000 in
set_option maxRecDepth 100000 in
theorem S_X12_feed (l : Launch) (G : GG) (F : Nat) {u0 : Option Nat} {u1 : Int32} {u2 : Int32} {u3 : Int32} {u4 : Int32} {u5 : Int32} {f : Hp} {r : Int32} {f' : Hp} {n : Nat} (hE : m_X12_feed F u0 u1 u2 u3 u4 u5 f = some (r, f')) : Ctr l G yX12_feed cX12_feed 6 (some .int) 1 22 [rr G u0, .int u1, .int u2, .int u3, .int u4, .int u5] f n (some (.int r)) f' n 0 0 := by
  refine Met.ofW (cc := cX12_feed) (maxL := 6) (ret := (some .int)) (by decide) rfl ?_
  intro p e s m args below meth c s₁ B hml hv
  obtain ⟨rfl, hK, hW⟩ := hv
  have hx := B.exec
  have hb := B.bytes
  have hr := B.returns
  have hts := atoms_spec (ws := wsO yX12_feed cX12_feed 6 (some .int)) B.pre
  have hT : ∀ w ∈ TB, w.before [rr G u0, .int u1, .int u2, .int u3, .int u4, .int u5].toArray s = true := fun w hw => hts w (List.mem_cons_of_mem _ hw)
  have hown : s.vm.findClass RX12 = some m.cls := findClass_of_methodNamed B.named
  have hlocks := B.notSynchronized
  have CF : CallFix p m c cX12_feed 6 s [rr G u0, .int u1, .int u2, .int u3, .int u4, .int u5].toArray TB RX12 := ⟨hx, hb, hml, hown, hT⟩
  have hS : va_S (WA G) s.heap s.heap [] := va_S.rf
  have hl : lv_has (lg_sl ([rr G u0, .int u1, .int u2, .int u3, .int u4, .int u5]) ++ List.replicate (6 - (lg_sl ([rr G u0, .int u1, .int u2, .int u3, .int u4, .int u5])).length) Slot.unset).toArray 6 [(0, rr G u0), (1, .int u1), (2, .int u2), (3, .int u3), (4, .int u4), (5, .int u5)] := by cases u0 <;> exact lv_entry _ (Nat.le_of_ble_eq_true rfl)
  rw [lg_entry_eq]
  generalize (lg_sl ([rr G u0, .int u1, .int u2, .int u3, .int u4, .int u5]) ++ List.replicate (6 - (lg_sl ([rr G u0, .int u1, .int u2, .int u3, .int u4, .int u5])).length) Slot.unset).toArray = ls at hl ⊢
  refine s_aload_n hx hb dX12_feed_0 rfl (lv_at hl 0 rfl) ?_
  refine lv_iconst (v := (0 : Int32)) hx hb dX12_feed_1 (by decide) ?_
  obtain ⟨f1, hf1, hE⟩ := bd hE
  refine s_putI hx hb hT u_X12 tyX12 tyX12_ok nmX12 hown hK hW hS hf1 rfl (by decide) fl_X12_81 rfl (Or.inl rfl) rfl dX12_feed_2 (fun H locs hW hS => ?_)
  refine s_aload_n hx hb dX12_feed_5 rfl (lv_at hl 0 rfl) ?_
  obtain ⟨x2, hx2, hE⟩ := bd hE
  refine s_gI hx hb hT u_X12 hown hK hW hx2 rfl (by decide) fl_X12_85 rfl dX12_feed_6 ?_
  refine lv_bipush (v := (20 : Int32)) hx hb dX12_feed_9 (by decide) ?_
  refine lv_iadd hx hb dX12_feed_11 ?_
  refine lv_sipush (v := (740 : Int32)) hx hb dX12_feed_12 (by decide) ?_
  refine lv_icmp_le (tgt := 20) hx hb dX12_feed_15 (by decide) (fun q3 => ?_) (fun q3 => ?_)
  · replace hE := ite_t q3 hE
    refine s_aload_n hx hb dX12_feed_20 rfl (lv_at hl 0 rfl) ?_
    refine lv_iload_n hx hb dX12_feed_21 rfl (lv_at hl 1 rfl) ?_
    obtain ⟨c4, hE⟩ := ck hE
    obtain ⟨f5, hf5, hE⟩ := bd hE
    refine s_callV (As := [.int u1]) (rest := []) CF hK hW hS (S_X12_come l G F hf5) c4 rfl gv_X12_88 hd_X12_come ⟨Nat.le_of_ble_eq_true rfl, Nat.le_of_ble_eq_true rfl⟩ rfl hl.1 rfl (Nat.le_of_ble_eq_true rfl) dX12_feed_22 ⟨Nat.le_refl _, Nat.le_refl _⟩ (fun H locs hW hS => ?_)
    refine s_aload_n hx hb dX12_feed_25 rfl (lv_at hl 0 rfl) ?_
    refine lv_iload_n hx hb dX12_feed_26 rfl (lv_at hl 2 rfl) ?_
    obtain ⟨c6, hE⟩ := ck hE
    obtain ⟨f7, hf7, hE⟩ := bd hE
    refine s_callV (As := [.int u2]) (rest := []) CF hK hW hS (S_X12_come l G F hf7) c6 rfl gv_X12_88 hd_X12_come ⟨Nat.le_of_ble_eq_true rfl, Nat.le_of_ble_eq_true rfl⟩ rfl hl.1 rfl (Nat.le_of_ble_eq_true rfl) dX12_feed_27 ⟨Nat.le_refl _, Nat.le_refl _⟩ (fun H locs hW hS => ?_)
    refine s_aload_n hx hb dX12_feed_30 rfl (lv_at hl 0 rfl) ?_
    refine lv_iload_n hx hb dX12_feed_31 rfl (lv_at hl 3 rfl) ?_
    obtain ⟨c8, hE⟩ := ck hE
    obtain ⟨f9, hf9, hE⟩ := bd hE
    refine s_callV (As := [.int u3]) (rest := []) CF hK hW hS (S_X12_come l G F hf9) c8 rfl gv_X12_88 hd_X12_come ⟨Nat.le_of_ble_eq_true rfl, Nat.le_of_ble_eq_true rfl⟩ rfl hl.1 rfl (Nat.le_of_ble_eq_true rfl) dX12_feed_32 ⟨Nat.le_refl _, Nat.le_refl _⟩ (fun H locs hW hS => ?_)
    refine s_aload_n hx hb dX12_feed_35 rfl (lv_at hl 0 rfl) ?_
    refine lv_iload hx hb dX12_feed_36 (lv_at hl 4 rfl) ?_
    obtain ⟨c10, hE⟩ := ck hE
    obtain ⟨f11, hf11, hE⟩ := bd hE
    refine s_callV (As := [.int u4]) (rest := []) CF hK hW hS (S_X12_come l G F hf11) c10 rfl gv_X12_88 hd_X12_come ⟨Nat.le_of_ble_eq_true rfl, Nat.le_of_ble_eq_true rfl⟩ rfl hl.1 rfl (Nat.le_of_ble_eq_true rfl) dX12_feed_38 ⟨Nat.le_refl _, Nat.le_refl _⟩ (fun H locs hW hS => ?_)
    refine s_aload_n hx hb dX12_feed_41 rfl (lv_at hl 0 rfl) ?_
    refine lv_iload hx hb dX12_feed_42 (lv_at hl 5 rfl) ?_
    obtain ⟨c12, hE⟩ := ck hE
    obtain ⟨f13, hf13, hE⟩ := bd hE
    refine s_callV (As := [.int u5]) (rest := []) CF hK hW hS (S_X12_come l G F hf13) c12 rfl gv_X12_88 hd_X12_come ⟨Nat.le_of_ble_eq_true rfl, Nat.le_of_ble_eq_true rfl⟩ rfl hl.1 rfl (Nat.le_of_ble_eq_true rfl) dX12_feed_44 ⟨Nat.le_refl _, Nat.le_refl _⟩ (fun H locs hW hS => ?_)
    refine s_aload_n hx hb dX12_feed_47 rfl (lv_at hl 0 rfl) ?_
    obtain ⟨x14, hx14, hE⟩ := bd hE
    refine s_gI hx hb hT u_X12 hown hK hW hx14 rfl (by decide) fl_X12_85 rfl dX12_feed_48 ?_
    obtain ⟨rfl, rfl⟩ := so2 hE
    exact s_iret hx hb hr hlocks hW hS dX12_feed_51
  · replace hE := ite_f q3 hE
    refine lv_iconst (v := (-1 : Int32)) hx hb dX12_feed_18 (by decide) ?_
    obtain ⟨rfl, rfl⟩ := so2 hE
    exact s_iret hx hb hr hlocks hW hS dX12_feed_19
set_option maxHeartbeats 4000000 in
set_option maxRecDepth 100000 in
theorem S_X12_isDesk (l : Launch) (G : GG) (F : Nat) {u0 : Option Nat} {u1 : Int32} {f : Hp} {r : Int32} {n : Nat} (hE : m_X12_isDesk F u0 u1 f = some r) : Ctr l G yX12_isDesk cX12_isDesk 2 (some .boolean) 0 0 [rr G u0, .int u1] f n (some (.int r)) f n 0 0 := by
  refine Met.ofW (cc := cX12_isDesk) (maxL := 2) (ret := (some .boolean)) (by decide) rfl ?_
  intro p e s m args below meth c s₁ B hml hv
  obtain ⟨rfl, hK, hW⟩ := hv
  have hx := B.exec
  have hb := B.bytes
  have hr := B.returns
  have hts := atoms_spec (ws := wsO yX12_isDesk cX12_isDesk 2 (some .boolean)) B.pre
  have hT : ∀ w ∈ TB, w.before [rr G u0, .int u1].toArray s = true := fun w hw => hts w (List.mem_cons_of_mem _ hw)
  have hown : s.vm.findClass RX12 = some m.cls := findClass_of_methodNamed B.named
  have hlocks := B.notSynchronized
  have CF : CallFix p m c cX12_isDesk 2 s [rr G u0, .int u1].toArray TB RX12 := ⟨hx, hb, hml, hown, hT⟩
  have hS : va_S (WA G) s.heap s.heap [] := va_S.rf
  have hl : lv_has (lg_sl ([rr G u0, .int u1]) ++ List.replicate (2 - (lg_sl ([rr G u0, .int u1])).length) Slot.unset).toArray 2 [(0, rr G u0), (1, .int u1)] := by cases u0 <;> exact lv_entry _ (Nat.le_of_ble_eq_true rfl)
  rw [lg_entry_eq]
  generalize (lg_sl ([rr G u0, .int u1]) ++ List.replicate (2 - (lg_sl ([rr G u0, .int u1])).length) Slot.unset).toArray = ls at hl ⊢
  refine lv_iload_n hx hb dX12_isDesk_0 rfl (lv_at hl 1 rfl) ?_
  refine lv_if_lt (tgt := 18) hx hb dX12_isDesk_1 (by decide) (fun q1 => ?_) (fun q1 => ?_)
  · replace hE := ite_t q1 hE
    refine lv_iconst (v := (0 : Int32)) hx hb dX12_isDesk_18 (by decide) ?_
    obtain ⟨c2, hE⟩ := ck hE
    obtain rfl := so1 hE
    exact s_zret hx hb hr c2 hlocks hW hS dX12_isDesk_19
  · replace hE := ite_f q1 hE
    refine lv_iload_n hx hb dX12_isDesk_4 rfl (lv_at hl 1 rfl) ?_
    refine s_aload_n hx hb dX12_isDesk_5 rfl (lv_at hl 0 rfl) ?_
    obtain ⟨x3, hx3, hE⟩ := bd hE
    refine s_gR hx hb hT u_X12 hown hK hW hx3 rfl (by decide) fl_X12_13 rfl dX12_isDesk_6 ?_
    refine lv_iconst (v := (2 : Int32)) hx hb dX12_isDesk_9 (by decide) ?_
    obtain ⟨x4, hx4, hE⟩ := bd hE
    refine s_ldI hx hb hK hW hS hx4 dX12_isDesk_10 ?_
    refine lv_icmp_ge (tgt := 18) hx hb dX12_isDesk_11 (by decide) (fun q5 => ?_) (fun q5 => ?_)
    · replace hE := ite_t q5 hE
      refine lv_iconst (v := (0 : Int32)) hx hb dX12_isDesk_18 (by decide) ?_
      obtain ⟨c6, hE⟩ := ck hE
      obtain rfl := so1 hE
      exact s_zret hx hb hr c6 hlocks hW hS dX12_isDesk_19
    · replace hE := ite_f q5 hE
      refine lv_iconst (v := (1 : Int32)) hx hb dX12_isDesk_14 (by decide) ?_
      refine lv_goto (tgt := 19) hx hb dX12_isDesk_15 (by decide) ?_
      obtain ⟨c7, hE⟩ := ck hE
      obtain rfl := so1 hE
      exact s_zret hx hb hr c7 hlocks hW hS dX12_isDesk_19
set_option maxHeartbeats 4000000 in
set_option maxRecDepth 100000 in
theorem S_X12_fewestOf (l : Launch) (G : GG) (F : Nat) {u0 : Option Nat} {u1 : Int32} {u2 : Int32} {u3 : Int32} {f : Hp} {r : Int32} {f' : Hp} {n : Nat} (hE : m_X12_fewestOf F u0 u1 u2 u3 f = some (r, f')) : Ctr l G yX12_fewestOf cX12_fewestOf 7 (some .int) 3 67 [rr G u0, .int u1, .int u2, .int u3] f n (some (.int r)) f' n 0 0 := by
  refine Met.ofW (cc := cX12_fewestOf) (maxL := 7) (ret := (some .int)) (by decide) rfl ?_
  intro p e s m args below meth c s₁ B hml hv
  obtain ⟨rfl, hK, hW⟩ := hv
  have hx := B.exec
  have hb := B.bytes
  have hr := B.returns
  have hts := atoms_spec (ws := wsO yX12_fewestOf cX12_fewestOf 7 (some .int)) B.pre
  have hT : ∀ w ∈ TB, w.before [rr G u0, .int u1, .int u2, .int u3].toArray s = true := fun w hw => hts w (List.mem_cons_of_mem _ hw)
  have hown : s.vm.findClass RX12 = some m.cls := findClass_of_methodNamed B.named
  have hlocks := B.notSynchronized
  have CF : CallFix p m c cX12_fewestOf 7 s [rr G u0, .int u1, .int u2, .int u3].toArray TB RX12 := ⟨hx, hb, hml, hown, hT⟩
  have hS : va_S (WA G) s.heap s.heap [] := va_S.rf
  have hl : lv_has (lg_sl ([rr G u0, .int u1, .int u2, .int u3]) ++ List.replicate (7 - (lg_sl ([rr G u0, .int u1, .int u2, .int u3])).length) Slot.unset).toArray 7 [(0, rr G u0), (1, .int u1), (2, .int u2), (3, .int u3)] := by cases u0 <;> exact lv_entry _ (Nat.le_of_ble_eq_true rfl)
  rw [lg_entry_eq]
  generalize (lg_sl ([rr G u0, .int u1, .int u2, .int u3]) ++ List.replicate (7 - (lg_sl ([rr G u0, .int u1, .int u2, .int u3])).length) Slot.unset).toArray = ls at hl ⊢
  refine s_aload_n hx hb dX12_fewestOf_0 rfl (lv_at hl 0 rfl) ?_
  refine lv_iload_n hx hb dX12_fewestOf_1 rfl (lv_at hl 1 rfl) ?_
  refine lv_iload_n hx hb dX12_fewestOf_2 rfl (lv_at hl 2 rfl) ?_
  obtain ⟨c1, hE⟩ := ck hE
  obtain ⟨f2, hf2, hE⟩ := bd hE
  refine s_callV (As := [.int u1, .int u2]) (rest := []) CF hK hW hS (S_X12_layCopies l G F hf2) c1 rfl gv_X12_269 hd_X12_layCopies ⟨Nat.le_of_ble_eq_true rfl, Nat.le_of_ble_eq_true rfl⟩ rfl hl.1 rfl (Nat.le_of_ble_eq_true rfl) dX12_fewestOf_3 ⟨Nat.le_refl _, Nat.le_refl _⟩ (fun H locs hW hS => ?_)
  refine s_aload_n hx hb dX12_fewestOf_6 rfl (lv_at hl 0 rfl) ?_
  obtain ⟨c3, hE⟩ := ck hE
  obtain ⟨x4, hx4, hE⟩ := bd hE
  refine s_callV (As := []) (rest := []) CF hK hW hS (S_X12_steps l G F hx4) c3 rfl gv_X12_259 hd_X12_steps ⟨Nat.le_of_ble_eq_true rfl, Nat.le_of_ble_eq_true rfl⟩ rfl hl.1 rfl (Nat.le_of_ble_eq_true rfl) dX12_fewestOf_7 ⟨Nat.le_refl _, Nat.le_refl _⟩ (fun H locs hW hS => ?_)
  refine lv_istore (lv' := [(4, .int x4), (0, rr G u0), (1, .int u1), (2, .int u2), (3, .int u3)]) hx hb dX12_fewestOf_10 hl (by decide) rfl (fun ls hl => ?_)
  refine s_aload_n hx hb dX12_fewestOf_12 rfl (lv_at hl 1 rfl) ?_
  obtain ⟨x5, hx5, hE⟩ := bd hE
  refine s_gR hx hb hT u_X12 hown hK hW hx5 rfl (by decide) fl_X12_13 rfl dX12_fewestOf_13 ?_
  refine lv_bipush (v := (90 : Int32)) hx hb dX12_fewestOf_16 (by decide) ?_
  refine lv_iconst (v := (2 : Int32)) hx hb dX12_fewestOf_18 (by decide) ?_
  refine lv_iload_n hx hb dX12_fewestOf_19 rfl (lv_at hl 4 rfl) ?_
  refine lv_imul hx hb dX12_fewestOf_20 ?_
  refine lv_iadd hx hb dX12_fewestOf_21 ?_
  obtain ⟨x6, hx6, hE⟩ := bd hE
  refine s_ldI hx hb hK hW hS hx6 dX12_fewestOf_22 ?_
  refine lv_istore (lv' := [(5, .int x6), (4, .int x4), (0, rr G u0), (1, .int u1), (2, .int u2), (3, .int u3)]) hx hb dX12_fewestOf_23 hl (by decide) rfl (fun ls hl => ?_)
  refine s_aload_n hx hb dX12_fewestOf_25 rfl (lv_at hl 2 rfl) ?_
  obtain ⟨x7, hx7, hE⟩ := bd hE
  refine s_gR hx hb hT u_X12 hown hK hW hx7 rfl (by decide) fl_X12_13 rfl dX12_fewestOf_26 ?_
  refine lv_bipush (v := (90 : Int32)) hx hb dX12_fewestOf_29 (by decide) ?_
  refine lv_iconst (v := (2 : Int32)) hx hb dX12_fewestOf_31 (by decide) ?_
  refine lv_iload_n hx hb dX12_fewestOf_32 rfl (lv_at hl 5 rfl) ?_
  refine lv_imul hx hb dX12_fewestOf_33 ?_
  refine lv_iadd hx hb dX12_fewestOf_34 ?_
  refine lv_iconst (v := (1 : Int32)) hx hb dX12_fewestOf_35 (by decide) ?_
  refine lv_iadd hx hb dX12_fewestOf_36 ?_
  obtain ⟨x8, hx8, hE⟩ := bd hE
  refine s_ldI hx hb hK hW hS hx8 dX12_fewestOf_37 ?_
  refine lv_istore (lv' := [(6, .int x8), (5, .int x6), (4, .int x4), (0, rr G u0), (1, .int u1), (2, .int u2), (3, .int u3)]) hx hb dX12_fewestOf_38 hl (by decide) rfl (fun ls hl => ?_)
  refine lv_iload hx hb dX12_fewestOf_40 (lv_at hl 1 rfl) ?_
  refine lv_if_ne (tgt := 50) hx hb dX12_fewestOf_42 (by decide) (fun q9 => ?_) (fun q9 => ?_)
  · replace hE := ite_f q9 hE
    refine lv_iload hx hb dX12_fewestOf_50 (lv_at hl 1 rfl) ?_
    refine lv_iconst (v := (1 : Int32)) hx hb dX12_fewestOf_52 (by decide) ?_
    refine lv_icmp_ne (tgt := 69) hx hb dX12_fewestOf_53 (by decide) (fun q10 => ?_) (fun q10 => ?_)
    · replace hE := ite_f q10 hE
      refine lv_iload hx hb dX12_fewestOf_69 (lv_at hl 2 rfl) ?_
      refine lv_if_ne (tgt := 78) hx hb dX12_fewestOf_71 (by decide) (fun q11 => ?_) (fun q11 => ?_)
      · replace hE := ite_f q11 hE
        refine lv_iconst (v := (-1 : Int32)) hx hb dX12_fewestOf_78 (by decide) ?_
        obtain ⟨rfl, rfl⟩ := so2 hE
        exact s_iret hx hb hr hlocks hW hS dX12_fewestOf_79
      · replace hE := ite_t q11 hE
        refine lv_iconst (v := (0 : Int32)) hx hb dX12_fewestOf_74 (by decide) ?_
        refine lv_goto (tgt := 79) hx hb dX12_fewestOf_75 (by decide) ?_
        obtain ⟨rfl, rfl⟩ := so2 hE
        exact s_iret hx hb hr hlocks hW hS dX12_fewestOf_79
    · replace hE := ite_t q10 hE
      refine lv_iload hx hb dX12_fewestOf_56 (lv_at hl 2 rfl) ?_
      refine lv_iload hx hb dX12_fewestOf_58 (lv_at hl 0 rfl) ?_
      refine lv_iadd hx hb dX12_fewestOf_60 ?_
      refine lv_iconst (v := (1 : Int32)) hx hb dX12_fewestOf_61 (by decide) ?_
      refine lv_isub hx hb dX12_fewestOf_62 ?_
      refine lv_iload hx hb dX12_fewestOf_63 (lv_at hl 0 rfl) ?_
      obtain ⟨c12, hE⟩ := ck hE
      refine lv_idiv hx hb dX12_fewestOf_65 (of_decide_eq_true c12) ?_
      refine lv_goto (tgt := 79) hx hb dX12_fewestOf_66 (by decide) ?_
      obtain ⟨rfl, rfl⟩ := so2 hE
      exact s_iret hx hb hr hlocks hW hS dX12_fewestOf_79
  · replace hE := ite_t q9 hE
    refine lv_iload hx hb dX12_fewestOf_45 (lv_at hl 2 rfl) ?_
    refine lv_goto (tgt := 79) hx hb dX12_fewestOf_47 (by decide) ?_
    obtain ⟨rfl, rfl⟩ := so2 hE
    exact s_iret hx hb hr hlocks hW hS dX12_fewestOf_79
set_option maxHeartbeats 4000000 in
set_option maxRecDepth 100000 in
theorem S_X12_fewest (l : Launch) (G : GG) (F : Nat) {u0 : Option Nat} {u1 : Int32} {u2 : Int32} {u3 : Int32} {f : Hp} {r : Int32} {f' : Hp} {n : Nat} (hE : m_X12_fewest F u0 u1 u2 u3 f = some (r, f')) : Ctr l G yX12_fewest cX12_fewest 4 (some .int) 4 93 [rr G u0, .int u1, .int u2, .int u3] f n (some (.int r)) f' n 0 0 := by
  refine Met.ofW (cc := cX12_fewest) (maxL := 4) (ret := (some .int)) (by decide) rfl ?_
  intro p e s m args below meth c s₁ B hml hv
  obtain ⟨rfl, hK, hW⟩ := hv
  have hx := B.exec
  have hb := B.bytes
  have hr := B.returns
  have hts := atoms_spec (ws := wsO yX12_fewest cX12_fewest 4 (some .int)) B.pre
  have hT : ∀ w ∈ TB, w.before [rr G u0, .int u1, .int u2, .int u3].toArray s = true := fun w hw => hts w (List.mem_cons_of_mem _ hw)
  have hown : s.vm.findClass RX12 = some m.cls := findClass_of_methodNamed B.named
  have hlocks := B.notSynchronized
  have CF : CallFix p m c cX12_fewest 4 s [rr G u0, .int u1, .int u2, .int u3].toArray TB RX12 := ⟨hx, hb, hml, hown, hT⟩
  have hS : va_S (WA G) s.heap s.heap [] := va_S.rf
  have hl : lv_has (lg_sl ([rr G u0, .int u1, .int u2, .int u3]) ++ List.replicate (4 - (lg_sl ([rr G u0, .int u1, .int u2, .int u3])).length) Slot.unset).toArray 4 [(0, rr G u0), (1, .int u1), (2, .int u2), (3, .int u3)] := by cases u0 <;> exact lv_entry _ (Nat.le_of_ble_eq_true rfl)
  rw [lg_entry_eq]
  generalize (lg_sl ([rr G u0, .int u1, .int u2, .int u3]) ++ List.replicate (4 - (lg_sl ([rr G u0, .int u1, .int u2, .int u3])).length) Slot.unset).toArray = ls at hl ⊢
  refine s_aload_n hx hb dX12_fewest_0 rfl (lv_at hl 0 rfl) ?_
  refine lv_iconst (v := (0 : Int32)) hx hb dX12_fewest_1 (by decide) ?_
  obtain ⟨f1, hf1, hE⟩ := bd hE
  refine s_putI hx hb hT u_X12 tyX12 tyX12_ok nmX12 hown hK hW hS hf1 rfl (by decide) fl_X12_81 rfl (Or.inl rfl) rfl dX12_fewest_2 (fun H locs hW hS => ?_)
  refine s_aload_n hx hb dX12_fewest_5 rfl (lv_at hl 0 rfl) ?_
  obtain ⟨c2, hE⟩ := ck hE
  obtain ⟨f3, hf3, hE⟩ := bd hE
  refine s_callV (As := []) (rest := []) CF hK hW hS (S_X12_lay l G F hf3) c2 rfl gv_X12_164 hd_X12_lay ⟨Nat.le_of_ble_eq_true rfl, Nat.le_of_ble_eq_true rfl⟩ rfl hl.1 rfl (Nat.le_of_ble_eq_true rfl) dX12_fewest_6 ⟨Nat.le_refl _, Nat.le_refl _⟩ (fun H locs hW hS => ?_)
  refine s_aload_n hx hb dX12_fewest_9 rfl (lv_at hl 0 rfl) ?_
  refine lv_iload_n hx hb dX12_fewest_10 rfl (lv_at hl 1 rfl) ?_
  refine lv_iload_n hx hb dX12_fewest_11 rfl (lv_at hl 2 rfl) ?_
  obtain ⟨c4, hE⟩ := ck hE
  obtain ⟨x5, hx5, hE⟩ := bd hE
  refine s_callV (As := [.int u1, .int u2]) (rest := []) CF hK hW hS (S_X12_areWhole l G F hx5) c4 rfl gv_X12_282 hd_X12_areWhole ⟨Nat.le_of_ble_eq_true rfl, Nat.le_of_ble_eq_true rfl⟩ rfl hl.1 rfl (Nat.le_of_ble_eq_true rfl) dX12_fewest_12 ⟨Nat.le_refl _, Nat.le_refl _⟩ (fun H locs hW hS => ?_)
  refine lv_if_eq (tgt := 36) hx hb dX12_fewest_15 (by decide) (fun q6 => ?_) (fun q6 => ?_)
  · replace hE := ite_t q6 hE
    refine lv_iconst (v := (-1 : Int32)) hx hb dX12_fewest_36 (by decide) ?_
    obtain ⟨rfl, rfl⟩ := so2 hE
    exact s_iret hx hb hr hlocks hW hS dX12_fewest_37
  · replace hE := ite_f q6 hE
    refine s_aload_n hx hb dX12_fewest_18 rfl (lv_at hl 0 rfl) ?_
    refine lv_iload_n hx hb dX12_fewest_19 rfl (lv_at hl 3 rfl) ?_
    obtain ⟨c7, hE⟩ := ck hE
    obtain ⟨x8, hx8, hE⟩ := bd hE
    refine s_callV (As := [.int u3]) (rest := []) CF hK hW hS (S_X12_isDesk l G F hx8) c7 rfl gv_X12_285 hd_X12_isDesk ⟨Nat.le_of_ble_eq_true rfl, Nat.le_of_ble_eq_true rfl⟩ rfl hl.1 rfl (Nat.le_of_ble_eq_true rfl) dX12_fewest_20 ⟨Nat.le_refl _, Nat.le_refl _⟩ (fun H locs hW hS => ?_)
    refine lv_if_eq (tgt := 36) hx hb dX12_fewest_23 (by decide) (fun q9 => ?_) (fun q9 => ?_)
    · replace hE := ite_t q9 hE
      refine lv_iconst (v := (-1 : Int32)) hx hb dX12_fewest_36 (by decide) ?_
      obtain ⟨rfl, rfl⟩ := so2 hE
      exact s_iret hx hb hr hlocks hW hS dX12_fewest_37
    · replace hE := ite_f q9 hE
      refine s_aload_n hx hb dX12_fewest_26 rfl (lv_at hl 0 rfl) ?_
      refine lv_iload_n hx hb dX12_fewest_27 rfl (lv_at hl 1 rfl) ?_
      refine lv_iload_n hx hb dX12_fewest_28 rfl (lv_at hl 2 rfl) ?_
      refine lv_iload_n hx hb dX12_fewest_29 rfl (lv_at hl 3 rfl) ?_
      obtain ⟨c10, hE⟩ := ck hE
      obtain ⟨x11, f12, hx11, hE⟩ := bd2_of hE
      refine s_callV (As := [.int u1, .int u2, .int u3]) (rest := []) CF hK hW hS (S_X12_fewestOf l G F hx11) c10 rfl gv_X12_288 hd_X12_fewestOf ⟨Nat.le_of_ble_eq_true rfl, Nat.le_of_ble_eq_true rfl⟩ rfl hl.1 rfl (Nat.le_of_ble_eq_true rfl) dX12_fewest_30 ⟨Nat.le_refl _, Nat.le_refl _⟩ (fun H locs hW hS => ?_)
      refine lv_goto (tgt := 37) hx hb dX12_fewest_33 (by decide) ?_
      obtain ⟨rfl, rfl⟩ := so2 hE
      exact s_iret hx hb hr hlocks hW hS dX12_fewest_37
set_option maxHeartbeats 4000000 in
set_option maxRecDepth 100000 in
theorem S_X12_findRead (l : Launch) (G : GG) (F : Nat) {u0 : Option Nat} {f : Hp} {r : Int32} {n : Nat} (hE : m_X12_findRead F u0 f = some r) : Ctr l G yX12_findRead cX12_findRead 2 (some .int) 0 0 [rr G u0] f n (some (.int r)) f n 0 0 := by
  refine Met.ofW (cc := cX12_findRead) (maxL := 2) (ret := (some .int)) (by decide) rfl ?_
  intro p e s m args below meth c s₁ B hml hv
  obtain ⟨rfl, hK, hW⟩ := hv
  have hx := B.exec
  have hb := B.bytes
  have hr := B.returns
  have hts := atoms_spec (ws := wsO yX12_findRead cX12_findRead 2 (some .int)) B.pre
  have hT : ∀ w ∈ TB, w.before [rr G u0].toArray s = true := fun w hw => hts w (List.mem_cons_of_mem _ hw)
  have hown : s.vm.findClass RX12 = some m.cls := findClass_of_methodNamed B.named
  have hlocks := B.notSynchronized
  have CF : CallFix p m c cX12_findRead 2 s [rr G u0].toArray TB RX12 := ⟨hx, hb, hml, hown, hT⟩
  have hS : va_S (WA G) s.heap s.heap [] := va_S.rf
  have hl : lv_has (lg_sl ([rr G u0]) ++ List.replicate (2 - (lg_sl ([rr G u0])).length) Slot.unset).toArray 2 [(0, rr G u0)] := by cases u0 <;> exact lv_entry _ (Nat.le_of_ble_eq_true rfl)
  rw [lg_entry_eq]
  generalize (lg_sl ([rr G u0]) ++ List.replicate (2 - (lg_sl ([rr G u0])).length) Slot.unset).toArray = ls at hl ⊢
  have hC36 : ∀ (k36 : Nat), ∀ (v0 : Option Nat) (v1 : Int32) (H : Heap) (locs : List Loc) (ls : Array Slot), m_X12_findRead_L36 F k36 v0 v1 f = some r → Wd G f n H → va_S (WA G) s.heap H locs → lv_has ls 2 [(0, rr G v0), (1, .int v1)] → W p l e (headSpec (wsO yX12_findRead cX12_findRead 2 (some .int)) { frames := 0, cells := 0, slots := 0, locals := 0 }).room s m [rr G u0].toArray below meth c H locs 0 0 (MQ below (Qcn G (some (.int r)) f n) [rr G u0].toArray s 0 0 (WA G)) (F0 m 36 ls []) := by
    intro k36
    induction k36 with
    | zero => intro v0 v1 H locs ls hE _ _ _; cases (show (none : Option Int32) = some r from hE)
    | succ k36 ih36 =>
      intro v0 v1 H locs ls hE hW hS hl
      replace hE : m_X12_findRead_b36 F (m_X12_findRead_L36 F k36) v0 v1 f = some r := hE
      refine lv_iload_n hx hb dX12_findRead_36 rfl (lv_at hl 1 rfl) ?_
      refine s_aload_n hx hb dX12_findRead_37 rfl (lv_at hl 0 rfl) ?_
      obtain ⟨x9, hx9, hE⟩ := bd hE
      refine s_gR hx hb hT u_X12 hown hK hW hx9 rfl (by decide) fl_X12_16 rfl dX12_findRead_38 ?_
      refine lv_iconst (v := (2 : Int32)) hx hb dX12_findRead_41 (by decide) ?_
      obtain ⟨x10, hx10, hE⟩ := bd hE
      refine s_ldI hx hb hK hW hS hx10 dX12_findRead_42 ?_
      refine lv_icmp_ge (tgt := 74) hx hb dX12_findRead_43 (by decide) (fun q11 => ?_) (fun q11 => ?_)
      · replace hE := ite_t q11 hE
        refine lv_iconst (v := (-1 : Int32)) hx hb dX12_findRead_74 (by decide) ?_
        obtain rfl := so1 hE
        exact s_iret hx hb hr hlocks hW hS dX12_findRead_75
      · replace hE := ite_f q11 hE
        refine s_aload_n hx hb dX12_findRead_46 rfl (lv_at hl 0 rfl) ?_
        obtain ⟨x12, hx12, hE⟩ := bd hE
        refine s_gR hx hb hT u_X12 hown hK hW hx12 rfl (by decide) fl_X12_26 rfl dX12_findRead_47 ?_
        refine lv_bipush (v := (10 : Int32)) hx hb dX12_findRead_50 (by decide) ?_
        refine lv_iload_n hx hb dX12_findRead_52 rfl (lv_at hl 1 rfl) ?_
        refine lv_iadd hx hb dX12_findRead_53 ?_
        obtain ⟨x13, hx13, hE⟩ := bd hE
        refine s_ldJ hx hb hK hW hS hx13 dX12_findRead_54 ?_
        refine s_aload_n hx hb dX12_findRead_55 rfl (lv_at hl 0 rfl) ?_
        obtain ⟨x14, hx14, hE⟩ := bd hE
        refine s_gJ hx hb hT u_X12 hown hK hW hx14 rfl (by decide) fl_X12_117 rfl dX12_findRead_56 ?_
        refine W.lcmp hx hb dX12_findRead_59 ?_
        refine lv_if_ne (tgt := 68) hx hb dX12_findRead_60 (by decide) (fun q15 => ?_) (fun q15 => ?_)
        · replace hE := ite_f q15 hE
          obtain ⟨y16, ey16⟩ : ∃ y : Int32, y = v1 + (1 : Int32) := ⟨_, rfl⟩
          replace hE := nm_o ey16 hE
          refine lv_iinc (k := 1) (v := y16) (lv' := [(1, .int y16), (0, rr G v0)]) hx hb dX12_findRead_68 hl rfl (by rw [ey16]; rfl) (by decide) (by simp [cat_rr]) (fun ls hl => ?_)
          refine lv_goto (tgt := 36) hx hb dX12_findRead_71 (by decide) ?_
          exact ih36 _ _ _ _ _ hE hW hS (lv_sub hl [1, 0] rfl)
        · replace hE := ite_t q15 hE
          refine lv_bipush (v := (10 : Int32)) hx hb dX12_findRead_63 (by decide) ?_
          refine lv_iload_n hx hb dX12_findRead_65 rfl (lv_at hl 1 rfl) ?_
          refine lv_iadd hx hb dX12_findRead_66 ?_
          obtain rfl := so1 hE
          exact s_iret hx hb hr hlocks hW hS dX12_findRead_67
  have hC2 : ∀ (k2 : Nat), ∀ (v0 : Option Nat) (v1 : Int32) (H : Heap) (locs : List Loc) (ls : Array Slot), m_X12_findRead_L2 F k2 v0 v1 f = some r → Wd G f n H → va_S (WA G) s.heap H locs → lv_has ls 2 [(0, rr G v0), (1, .int v1)] → W p l e (headSpec (wsO yX12_findRead cX12_findRead 2 (some .int)) { frames := 0, cells := 0, slots := 0, locals := 0 }).room s m [rr G u0].toArray below meth c H locs 0 0 (MQ below (Qcn G (some (.int r)) f n) [rr G u0].toArray s 0 0 (WA G)) (F0 m 2 ls []) := by
    intro k2
    induction k2 with
    | zero => intro v0 v1 H locs ls hE _ _ _; cases (show (none : Option Int32) = some r from hE)
    | succ k2 ih2 =>
      intro v0 v1 H locs ls hE hW hS hl
      replace hE : m_X12_findRead_b2 F (m_X12_findRead_L2 F k2) v0 v1 f = some r := hE
      refine lv_iload_n hx hb dX12_findRead_2 rfl (lv_at hl 1 rfl) ?_
      refine s_aload_n hx hb dX12_findRead_3 rfl (lv_at hl 0 rfl) ?_
      obtain ⟨x1, hx1, hE⟩ := bd hE
      refine s_gR hx hb hT u_X12 hown hK hW hx1 rfl (by decide) fl_X12_16 rfl dX12_findRead_4 ?_
      refine lv_iconst (v := (1 : Int32)) hx hb dX12_findRead_7 (by decide) ?_
      obtain ⟨x2, hx2, hE⟩ := bd hE
      refine s_ldI hx hb hK hW hS hx2 dX12_findRead_8 ?_
      refine lv_icmp_ge (tgt := 34) hx hb dX12_findRead_9 (by decide) (fun q3 => ?_) (fun q3 => ?_)
      · replace hE := ite_t q3 hE
        refine lv_iconst (v := (0 : Int32)) hx hb dX12_findRead_34 (by decide) ?_
        refine lv_istore_n (i := 1) (lv' := [(1, .int (0 : Int32)), (0, rr G v0)]) hx hb dX12_findRead_35 rfl hl (by decide) (by simp [cat_rr]) (fun ls hl => ?_)
        exact hC36 F _ _ _ _ _ hE hW hS (lv_sub hl [1, 0] rfl)
      · replace hE := ite_f q3 hE
        refine s_aload_n hx hb dX12_findRead_12 rfl (lv_at hl 0 rfl) ?_
        obtain ⟨x4, hx4, hE⟩ := bd hE
        refine s_gR hx hb hT u_X12 hown hK hW hx4 rfl (by decide) fl_X12_26 rfl dX12_findRead_13 ?_
        refine lv_iload_n hx hb dX12_findRead_16 rfl (lv_at hl 1 rfl) ?_
        obtain ⟨x5, hx5, hE⟩ := bd hE
        refine s_ldJ hx hb hK hW hS hx5 dX12_findRead_17 ?_
        refine s_aload_n hx hb dX12_findRead_18 rfl (lv_at hl 0 rfl) ?_
        obtain ⟨x6, hx6, hE⟩ := bd hE
        refine s_gJ hx hb hT u_X12 hown hK hW hx6 rfl (by decide) fl_X12_117 rfl dX12_findRead_19 ?_
        refine W.lcmp hx hb dX12_findRead_22 ?_
        refine lv_if_ne (tgt := 28) hx hb dX12_findRead_23 (by decide) (fun q7 => ?_) (fun q7 => ?_)
        · replace hE := ite_f q7 hE
          obtain ⟨y8, ey8⟩ : ∃ y : Int32, y = v1 + (1 : Int32) := ⟨_, rfl⟩
          replace hE := nm_o ey8 hE
          refine lv_iinc (k := 1) (v := y8) (lv' := [(1, .int y8), (0, rr G v0)]) hx hb dX12_findRead_28 hl rfl (by rw [ey8]; rfl) (by decide) (by simp [cat_rr]) (fun ls hl => ?_)
          refine lv_goto (tgt := 2) hx hb dX12_findRead_31 (by decide) ?_
          exact ih2 _ _ _ _ _ hE hW hS (lv_sub hl [1, 0] rfl)
        · replace hE := ite_t q7 hE
          refine lv_iload_n hx hb dX12_findRead_26 rfl (lv_at hl 1 rfl) ?_
          obtain rfl := so1 hE
          exact s_iret hx hb hr hlocks hW hS dX12_findRead_27
  refine lv_iconst (v := (0 : Int32)) hx hb dX12_findRead_0 (by decide) ?_
  refine lv_istore_n (i := 1) (lv' := [(1, .int (0 : Int32)), (0, rr G u0)]) hx hb dX12_findRead_1 rfl hl (by decide) (by simp [cat_rr]) (fun ls hl => ?_)
  exact hC2 F _ _ _ _ _ hE hW hS (lv_sub hl [1, 0] rfl)
set_option maxHeartbeats 4000000 in
set_option maxRecDepth 100000 in
theorem S_X12_firsts (l : Launch) (G : GG) (F : Nat) {u0 : Option Nat} {u1 : Int32} {u2 : Int32} {f : Hp} {r : Int32} {f' : Hp} {n : Nat} (hE : m_X12_firsts F u0 u1 u2 f = some (r, f')) : Ctr l G yX12_firsts cX12_firsts 5 (some .int) 5 119 [rr G u0, .int u1, .int u2] f n (some (.int r)) f' n 0 0 := by
  refine Met.ofW (cc := cX12_firsts) (maxL := 5) (ret := (some .int)) (by decide) rfl ?_
  intro p e s m args below meth c s₁ B hml hv
  obtain ⟨rfl, hK, hW⟩ := hv
  have hx := B.exec
  have hb := B.bytes
  have hr := B.returns
  have hts := atoms_spec (ws := wsO yX12_firsts cX12_firsts 5 (some .int)) B.pre
  have hT : ∀ w ∈ TB, w.before [rr G u0, .int u1, .int u2].toArray s = true := fun w hw => hts w (List.mem_cons_of_mem _ hw)
  have hown : s.vm.findClass RX12 = some m.cls := findClass_of_methodNamed B.named
  have hlocks := B.notSynchronized
  have CF : CallFix p m c cX12_firsts 5 s [rr G u0, .int u1, .int u2].toArray TB RX12 := ⟨hx, hb, hml, hown, hT⟩
  have hS : va_S (WA G) s.heap s.heap [] := va_S.rf
  have hl : lv_has (lg_sl ([rr G u0, .int u1, .int u2]) ++ List.replicate (5 - (lg_sl ([rr G u0, .int u1, .int u2])).length) Slot.unset).toArray 5 [(0, rr G u0), (1, .int u1), (2, .int u2)] := by cases u0 <;> exact lv_entry _ (Nat.le_of_ble_eq_true rfl)
  rw [lg_entry_eq]
  generalize (lg_sl ([rr G u0, .int u1, .int u2]) ++ List.replicate (5 - (lg_sl ([rr G u0, .int u1, .int u2])).length) Slot.unset).toArray = ls at hl ⊢
  have hC41 : ∀ (k41 : Nat), ∀ (v0 : Option Nat) (v3 : Int32) (v4 : Int32) (fa : Hp) (H : Heap) (locs : List Loc) (ls : Array Slot), m_X12_firsts_L41 F k41 v0 v3 v4 fa = some (r, f') → Wd G fa n H → va_S (WA G) s.heap H locs → lv_has ls 5 [(0, rr G v0), (3, .int v3), (4, .int v4)] → W p l e (headSpec (wsO yX12_firsts cX12_firsts 5 (some .int)) { frames := 5, cells := 0, slots := 0, locals := 119 }).room s m [rr G u0, .int u1, .int u2].toArray below meth c H locs 0 0 (MQ below (Qcn G (some (.int r)) f' n) [rr G u0, .int u1, .int u2].toArray s 0 0 (WA G)) (F0 m 41 ls []) := by
    intro k41
    induction k41 with
    | zero => intro v0 v3 v4 fa H locs ls hE _ _ _; cases (show (none : Option ((Int32) × Hp)) = some (r, f') from hE)
    | succ k41 ih41 =>
      intro v0 v3 v4 fa H locs ls hE hW hS hl
      replace hE : m_X12_firsts_b41 F (m_X12_firsts_L41 F k41) v0 v3 v4 fa = some (r, f') := hE
      refine lv_iload hx hb dX12_firsts_41 (lv_at hl 2 rfl) ?_
      refine s_aload_n hx hb dX12_firsts_43 rfl (lv_at hl 0 rfl) ?_
      obtain ⟨c1, hE⟩ := ck hE
      obtain ⟨x2, hx2, hE⟩ := bd hE
      refine s_callV (As := []) (rest := [.int v4]) CF hK hW hS (S_X12_orders l G F hx2) c1 rfl gv_X12_251 hd_X12_orders ⟨Nat.le_of_ble_eq_true rfl, Nat.le_of_ble_eq_true rfl⟩ rfl hl.1 rfl (Nat.le_of_ble_eq_true rfl) dX12_firsts_44 ⟨Nat.le_refl _, Nat.le_refl _⟩ (fun H locs hW hS => ?_)
      refine lv_icmp_ge (tgt := 71) hx hb dX12_firsts_47 (by decide) (fun q3 => ?_) (fun q3 => ?_)
      · replace hE := ite_t q3 hE
        refine lv_iload_n hx hb dX12_firsts_71 rfl (lv_at hl 1 rfl) ?_
        obtain ⟨rfl, rfl⟩ := so2 hE
        exact s_iret hx hb hr hlocks hW hS dX12_firsts_72
      · replace hE := ite_f q3 hE
        refine s_aload_n hx hb dX12_firsts_50 rfl (lv_at hl 0 rfl) ?_
        obtain ⟨x4, hx4, hE⟩ := bd hE
        refine s_gR hx hb hT u_X12 hown hK hW hx4 rfl (by decide) fl_X12_63 rfl dX12_firsts_51 ?_
        refine lv_iload hx hb dX12_firsts_54 (lv_at hl 2 rfl) ?_
        obtain ⟨x5, hx5, hE⟩ := bd hE
        refine s_ldJ hx hb hK hW hS hx5 dX12_firsts_56 ?_
        refine lv_lconst (v := (0 : Int64)) hx hb dX12_firsts_57 (by decide) ?_
        refine W.lcmp hx hb dX12_firsts_58 ?_
        refine lv_if_le (tgt := 65) hx hb dX12_firsts_59 (by decide) (fun q6 => ?_) (fun q6 => ?_)
        · replace hE := ite_t q6 hE
          obtain ⟨y7, ey7⟩ : ∃ y : Int32, y = v4 + (1 : Int32) := ⟨_, rfl⟩
          replace hE := nm_o ey7 hE
          refine lv_iinc (k := 2) (v := y7) (lv' := [(4, .int y7), (0, rr G v0), (3, .int v3)]) hx hb dX12_firsts_65 hl rfl (by rw [ey7]; rfl) (by decide) rfl (fun ls hl => ?_)
          refine lv_goto (tgt := 41) hx hb dX12_firsts_68 (by decide) ?_
          exact ih41 _ _ _ _ _ _ _ hE hW hS (lv_sub hl [1, 2, 0] rfl)
        · replace hE := ite_f q6 hE
          obtain ⟨y8, ey8⟩ : ∃ y : Int32, y = v3 + (1 : Int32) := ⟨_, rfl⟩
          replace hE := nm_o ey8 hE
          refine lv_iinc (k := 1) (v := y8) (lv' := [(3, .int y8), (0, rr G v0), (4, .int v4)]) hx hb dX12_firsts_62 hl rfl (by rw [ey8]; rfl) (by decide) rfl (fun ls hl => ?_)
          obtain ⟨y9, ey9⟩ : ∃ y : Int32, y = v4 + (1 : Int32) := ⟨_, rfl⟩
          replace hE := nm_o ey9 hE
          refine lv_iinc (k := 2) (v := y9) (lv' := [(4, .int y9), (3, .int y8), (0, rr G v0)]) hx hb dX12_firsts_65 hl rfl (by rw [ey9]; rfl) (by decide) rfl (fun ls hl => ?_)
          refine lv_goto (tgt := 41) hx hb dX12_firsts_68 (by decide) ?_
          exact ih41 _ _ _ _ _ _ _ hE hW hS (lv_sub hl [2, 1, 0] rfl)
  refine s_aload_n hx hb dX12_firsts_0 rfl (lv_at hl 0 rfl) ?_
  refine lv_iconst (v := (0 : Int32)) hx hb dX12_firsts_1 (by decide) ?_
  obtain ⟨f10, hf10, hE⟩ := bd hE
  refine s_putI hx hb hT u_X12 tyX12 tyX12_ok nmX12 hown hK hW hS hf10 rfl (by decide) fl_X12_81 rfl (Or.inl rfl) rfl dX12_firsts_2 (fun H locs hW hS => ?_)
  refine s_aload_n hx hb dX12_firsts_5 rfl (lv_at hl 0 rfl) ?_
  obtain ⟨c11, hE⟩ := ck hE
  obtain ⟨f12, hf12, hE⟩ := bd hE
  refine s_callV (As := []) (rest := []) CF hK hW hS (S_X12_lay l G F hf12) c11 rfl gv_X12_164 hd_X12_lay ⟨Nat.le_of_ble_eq_true rfl, Nat.le_of_ble_eq_true rfl⟩ rfl hl.1 rfl (Nat.le_of_ble_eq_true rfl) dX12_firsts_6 ⟨Nat.le_refl _, Nat.le_refl _⟩ (fun H locs hW hS => ?_)
  refine s_aload_n hx hb dX12_firsts_9 rfl (lv_at hl 0 rfl) ?_
  refine lv_iload_n hx hb dX12_firsts_10 rfl (lv_at hl 1 rfl) ?_
  obtain ⟨c13, hE⟩ := ck hE
  obtain ⟨x14, hx14, hE⟩ := bd hE
  refine s_callV (As := [.int u1]) (rest := []) CF hK hW hS (S_X12_isOrder l G F hx14) c13 rfl gv_X12_254 hd_X12_isOrder ⟨Nat.le_of_ble_eq_true rfl, Nat.le_of_ble_eq_true rfl⟩ rfl hl.1 rfl (Nat.le_of_ble_eq_true rfl) dX12_firsts_11 ⟨Nat.le_refl _, Nat.le_refl _⟩ (fun H locs hW hS => ?_)
  refine lv_if_eq (tgt := 27) hx hb dX12_firsts_14 (by decide) (fun q15 => ?_) (fun q15 => ?_)
  · replace hE := ite_t q15 hE
    refine lv_iconst (v := (-1 : Int32)) hx hb dX12_firsts_27 (by decide) ?_
    obtain ⟨rfl, rfl⟩ := so2 hE
    exact s_iret hx hb hr hlocks hW hS dX12_firsts_28
  · replace hE := ite_f q15 hE
    refine lv_iload_n hx hb dX12_firsts_17 rfl (lv_at hl 2 rfl) ?_
    refine lv_iconst (v := (0 : Int32)) hx hb dX12_firsts_18 (by decide) ?_
    refine lv_bipush (v := (10 : Int32)) hx hb dX12_firsts_19 (by decide) ?_
    obtain ⟨x16, hx16, hE⟩ := bd hE
    refine s_callS (As := [.int u2, .int (0 : Int32), .int (10 : Int32)]) (rest := []) CF hK hW hS (S_X12_isIn l G F hx16) gs_X12_151 hd_X12_isIn.2 ⟨Nat.le_of_ble_eq_true rfl, Nat.le_of_ble_eq_true rfl⟩ rfl hl.1 rfl (Nat.le_of_ble_eq_true rfl) dX12_firsts_21 ⟨Nat.le_refl _, Nat.le_refl _⟩ (fun H locs hW hS => ?_)
    refine lv_if_ne (tgt := 29) hx hb dX12_firsts_24 (by decide) (fun q17 => ?_) (fun q17 => ?_)
    · replace hE := ite_f q17 hE
      refine s_aload_n hx hb dX12_firsts_29 rfl (lv_at hl 0 rfl) ?_
      refine lv_iload_n hx hb dX12_firsts_30 rfl (lv_at hl 1 rfl) ?_
      refine lv_iload_n hx hb dX12_firsts_31 rfl (lv_at hl 2 rfl) ?_
      refine lv_iconst (v := (0 : Int32)) hx hb dX12_firsts_32 (by decide) ?_
      obtain ⟨c18, hE⟩ := ck hE
      obtain ⟨f19, hf19, hE⟩ := bd hE
      refine s_callV (As := [.int u1, .int u2, .int (0 : Int32)]) (rest := []) CF hK hW hS (S_X12_layWays l G F hf19) c18 rfl gv_X12_321 hd_X12_layWays ⟨Nat.le_of_ble_eq_true rfl, Nat.le_of_ble_eq_true rfl⟩ rfl hl.1 rfl (Nat.le_of_ble_eq_true rfl) dX12_firsts_33 ⟨Nat.le_refl _, Nat.le_refl _⟩ (fun H locs hW hS => ?_)
      refine lv_iconst (v := (0 : Int32)) hx hb dX12_firsts_36 (by decide) ?_
      refine lv_istore_n (i := 3) (lv' := [(3, .int (0 : Int32)), (0, rr G u0), (1, .int u1), (2, .int u2)]) hx hb dX12_firsts_37 rfl hl (by decide) rfl (fun ls hl => ?_)
      refine lv_iconst (v := (0 : Int32)) hx hb dX12_firsts_38 (by decide) ?_
      refine lv_istore (lv' := [(4, .int (0 : Int32)), (3, .int (0 : Int32)), (0, rr G u0), (1, .int u1), (2, .int u2)]) hx hb dX12_firsts_39 hl (by decide) rfl (fun ls hl => ?_)
      exact hC41 F _ _ _ _ _ _ _ hE hW hS (lv_sub hl [2, 1, 0] rfl)
    · replace hE := ite_t q17 hE
      refine lv_iconst (v := (-1 : Int32)) hx hb dX12_firsts_27 (by decide) ?_
      obtain ⟨rfl, rfl⟩ := so2 hE
      exact s_iret hx hb hr hlocks hW hS dX12_firsts_28
