set_option maxHeartbeats 4000000 in
set_option maxRecDepth 100000 in
theorem S_X11_likeliest (l : Launch) (G : GG) (F : Nat) {u0 : Option Nat} {u1 : Int32} {u2 : Int32} {u3 : Int32} {u4 : Int32} {f : Hp} {r : Int32} {f' : Hp} {n n2 z z2 : Nat} (hE : m_X11_likeliest F u0 u1 u2 u3 u4 f n z = some (r, f', n2, z2)) : Ctr l G yX11_likeliest cX11_likeliest 14 (some .int) 5 118 [rr G u0, .int u1, .int u2, .int u3, .int u4] f n (some (.int r)) f' n2 (n2 - n) (z2 - z) := by
  refine Met.ofW (cc := cX11_likeliest) (maxL := 14) (ret := (some .int)) (by decide) rfl ?_
  intro p e s m args below meth c s₁ B hml hv
  obtain ⟨rfl, hK, hW⟩ := hv
  have hx := B.exec
  have hb := B.bytes
  have hr := B.returns
  have hts := atoms_spec (ws := wsO yX11_likeliest cX11_likeliest 14 (some .int)) B.pre
  have hT : ∀ w ∈ TB, w.before [rr G u0, .int u1, .int u2, .int u3, .int u4].toArray s = true := fun w hw => hts w (List.mem_cons_of_mem _ hw)
  have hown : s.vm.findClass RX11 = some m.cls := findClass_of_methodNamed B.named
  have hlocks := B.notSynchronized
  have CF : CallFix p m c cX11_likeliest 14 s [rr G u0, .int u1, .int u2, .int u3, .int u4].toArray TB RX11 := ⟨hx, hb, hml, hown, hT⟩
  have hS : va_S (WA G) s.heap s.heap [] := va_S.rf
  have hl : lv_has (lg_sl ([rr G u0, .int u1, .int u2, .int u3, .int u4]) ++ List.replicate (14 - (lg_sl ([rr G u0, .int u1, .int u2, .int u3, .int u4])).length) Slot.unset).toArray 14 [(0, rr G u0), (1, .int u1), (2, .int u2), (3, .int u3), (4, .int u4)] := by cases u0 <;> exact lv_entry _ (Nat.le_of_ble_eq_true rfl)
  rw [lg_entry_eq]
  generalize (lg_sl ([rr G u0, .int u1, .int u2, .int u3, .int u4]) ++ List.replicate (14 - (lg_sl ([rr G u0, .int u1, .int u2, .int u3, .int u4])).length) Slot.unset).toArray = ls at hl ⊢
  have hC162 : ∀ (v0 : Option Nat) (v8 : Int64) (v10 : Int32) (fa : Hp) (na za : Nat) (H : Heap) (locs : List Loc) (ls : Array Slot), n ≤ na → z ≤ za → m_X11_likeliest_B162 F v0 v8 v10 fa na za = some (r, f', n2, z2) → Wd G fa na H → va_S (WA G) s.heap H locs → lv_has ls 14 [(0, rr G v0), (8, .long v8), (10, .int v10)] → W p l e (headSpec (wsO yX11_likeliest cX11_likeliest 14 (some .int)) { frames := 5, cells := (n2 - n), slots := (z2 - z), locals := 118 }).room s m [rr G u0, .int u1, .int u2, .int u3, .int u4].toArray below meth c H locs (na - n) (za - z) (MQ below (Qcn G (some (.int r)) f' n2) [rr G u0, .int u1, .int u2, .int u3, .int u4].toArray s (n2 - n) (z2 - z) (WA G)) (F0 m 162 ls []) := by
    intro v0 v8 v10 fa na za H locs ls hna hza hE hW hS hl
    refine lv_iload hx hb dX11_likeliest_162 (lv_at hl 2 rfl) ?_
    refine lv_iconst (v := (-1 : Int32)) hx hb dX11_likeliest_164 (by decide) ?_
    refine lv_icmp_eq (tgt := 174) hx hb dX11_likeliest_165 (by decide) (fun q11 => ?_) (fun q11 => ?_)
    · replace hE := ite_t q11 hE
      refine lv_iload hx hb dX11_likeliest_174 (lv_at hl 2 rfl) ?_
      obtain ⟨rfl, rfl, rfl, rfl⟩ := so4 hE
      exact s_iret hx hb hr hlocks hW hS dX11_likeliest_176
    · replace hE := ite_f q11 hE
      refine s_aload_n hx hb dX11_likeliest_168 rfl (lv_at hl 0 rfl) ?_
      refine lv_lload hx hb dX11_likeliest_169 (lv_at hl 1 rfl) ?_
      obtain ⟨f12, hf12, hE⟩ := bd hE
      refine s_putJ hx hb hT u_X11 tyX11 tyX11_ok nmX11 hown hK hW hS hf12 rfl (by decide) fl_X11_260 rfl (Or.inl rfl) rfl dX11_likeliest_171 (fun H locs hW hS => ?_)
      refine lv_iload hx hb dX11_likeliest_174 (lv_at hl 2 rfl) ?_
      obtain ⟨rfl, rfl, rfl, rfl⟩ := so4 hE
      exact s_iret hx hb hr hlocks hW hS dX11_likeliest_176
  have hC111 : ∀ (k111 : Nat), ∀ (v0 : Option Nat) (v7 : Option Nat) (v8 : Int64) (v10 : Int32) (v11 : Int32) (fa : Hp) (na za : Nat) (H : Heap) (locs : List Loc) (ls : Array Slot), n ≤ na → z ≤ za → m_X11_likeliest_L111 F k111 v0 v7 v8 v10 v11 fa na za = some (r, f', n2, z2) → Wd G fa na H → va_S (WA G) s.heap H locs → lv_has ls 14 [(0, rr G v0), (7, rr G v7), (8, .long v8), (10, .int v10), (11, .int v11)] → W p l e (headSpec (wsO yX11_likeliest cX11_likeliest 14 (some .int)) { frames := 5, cells := (n2 - n), slots := (z2 - z), locals := 118 }).room s m [rr G u0, .int u1, .int u2, .int u3, .int u4].toArray below meth c H locs (na - n) (za - z) (MQ below (Qcn G (some (.int r)) f' n2) [rr G u0, .int u1, .int u2, .int u3, .int u4].toArray s (n2 - n) (z2 - z) (WA G)) (F0 m 111 ls []) := by
    intro k111
    induction k111 with
    | zero => intro v0 v7 v8 v10 v11 fa na za H locs ls hna hza hE _ _ _; cases (show (none : Option ((Int32) × Hp × Nat × Nat)) = some (r, f', n2, z2) from hE)
    | succ k111 ih111 =>
      intro v0 v7 v8 v10 v11 fa na za H locs ls hna hza hE hW hS hl
      replace hE : m_X11_likeliest_b111 F (m_X11_likeliest_L111 F k111) v0 v7 v8 v10 v11 fa na za = some (r, f', n2, z2) := hE
      refine lv_iload hx hb dX11_likeliest_111 (lv_at hl 4 rfl) ?_
      refine s_aload hx hb dX11_likeliest_113 (lv_at hl 1 rfl) ?_
      obtain ⟨x1, hx1, hE⟩ := bd hE
      refine s_gI hx hb hT u_X6 hown hK hW hx1 rfl (by decide) fl_X11_199 rfl dX11_likeliest_115 ?_
      refine lv_icmp_ge (tgt := 162) hx hb dX11_likeliest_118 (by decide) (fun q2 => ?_) (fun q2 => ?_)
      · replace hE := ite_t q2 hE
        exact hC162 _ _ _ _ _ _ _ _ _ (by omega) (by omega) hE hW hS (lv_sub hl [0, 2, 3] rfl)
      · replace hE := ite_f q2 hE
        refine s_aload hx hb dX11_likeliest_121 (lv_at hl 1 rfl) ?_
        obtain ⟨x3, hx3, hE⟩ := bd hE
        refine s_gR hx hb hT u_X6 hown hK hW hx3 rfl (by decide) fl_X11_257 rfl dX11_likeliest_123 ?_
        refine lv_iload hx hb dX11_likeliest_126 (lv_at hl 4 rfl) ?_
        obtain ⟨x4, hx4, hE⟩ := bd hE
        refine s_ldJ hx hb hK hW hS hx4 dX11_likeliest_128 ?_
        refine s_aload hx hb dX11_likeliest_129 (lv_at hl 1 rfl) ?_
        obtain ⟨x5, hx5, hE⟩ := bd hE
        refine s_gR hx hb hT u_X6 hown hK hW hx5 rfl (by decide) fl_X11_247 rfl dX11_likeliest_131 ?_
        refine lv_iload hx hb dX11_likeliest_134 (lv_at hl 4 rfl) ?_
        obtain ⟨x6, hx6, hE⟩ := bd hE
        refine s_ldJ hx hb hK hW hS hx6 dX11_likeliest_136 ?_
        refine lv_lmul hx hb dX11_likeliest_137 ?_
        refine lv_topl (fun y7 ey7 => ?_)
        replace hE := nm_o ey7 hE
        refine lv_lstore (lv' := [(12, .long y7), (0, rr G v0), (7, rr G v7), (8, .long v8), (10, .int v10), (11, .int v11)]) hx hb dX11_likeliest_138 hl (by decide) rfl (fun ls hl => ?_)
        refine lv_lload hx hb dX11_likeliest_140 (lv_at hl 0 rfl) ?_
        refine lv_lload hx hb dX11_likeliest_142 (lv_at hl 3 rfl) ?_
        refine W.lcmp hx hb dX11_likeliest_144 ?_
        refine lv_if_le (tgt := 156) hx hb dX11_likeliest_145 (by decide) (fun q8 => ?_) (fun q8 => ?_)
        · replace hE := ite_t q8 hE
          obtain ⟨y9, ey9⟩ : ∃ y : Int32, y = v11 + (1 : Int32) := ⟨_, rfl⟩
          replace hE := nm_o ey9 hE
          refine lv_iinc (k := 5) (v := y9) (lv' := [(11, .int y9), (12, .long y7), (0, rr G v0), (7, rr G v7), (8, .long v8), (10, .int v10)]) hx hb dX11_likeliest_156 hl rfl (by rw [ey9]; rfl) (by decide) rfl (fun ls hl => ?_)
          refine lv_goto (tgt := 111) hx hb dX11_likeliest_159 (by decide) ?_
          exact ih111 _ _ _ _ _ _ _ _ _ _ _ (by omega) (by omega) hE hW hS (lv_sub hl [2, 3, 4, 5, 0] rfl)
        · replace hE := ite_f q8 hE
          refine lv_lload hx hb dX11_likeliest_148 (lv_at hl 0 rfl) ?_
          refine lv_lstore (lv' := [(8, .long y7), (12, .long y7), (0, rr G v0), (7, rr G v7), (10, .int v10), (11, .int v11)]) hx hb dX11_likeliest_150 hl (by decide) (by simp [cat_rr]) (fun ls hl => ?_)
          refine lv_iload hx hb dX11_likeliest_152 (lv_at hl 5 rfl) ?_
          refine lv_istore (lv' := [(10, .int v11), (8, .long y7), (12, .long y7), (0, rr G v0), (7, rr G v7), (11, .int v11)]) hx hb dX11_likeliest_154 hl (by decide) rfl (fun ls hl => ?_)
          obtain ⟨y10, ey10⟩ : ∃ y : Int32, y = v11 + (1 : Int32) := ⟨_, rfl⟩
          replace hE := nm_o ey10 hE
          refine lv_iinc (k := 5) (v := y10) (lv' := [(11, .int y10), (10, .int v11), (8, .long y7), (12, .long y7), (0, rr G v0), (7, rr G v7)]) hx hb dX11_likeliest_156 hl rfl (by rw [ey10]; rfl) (by decide) rfl (fun ls hl => ?_)
          refine lv_goto (tgt := 111) hx hb dX11_likeliest_159 (by decide) ?_
          exact ih111 _ _ _ _ _ _ _ _ _ _ _ (by omega) (by omega) hE hW hS (lv_sub hl [4, 5, 2, 1, 0] rfl)
  refine W.cs (cells' := n - n) (slots' := z - z) (by omega) (by omega) ?_
  refine s_aload_n hx hb dX11_likeliest_0 rfl (lv_at hl 0 rfl) ?_
  obtain ⟨x13, hx13, hE⟩ := bd hE
  refine s_gR hx hb hT u_X11 hown hK hW hx13 rfl (by decide) fl_X11_16 rfl dX11_likeliest_1 ?_
  refine lv_iload_n hx hb dX11_likeliest_4 rfl (lv_at hl 1 rfl) ?_
  obtain ⟨c14, hE⟩ := ck hE
  obtain ⟨g15a, g15b, hE⟩ := grow_of hE
  replace g15a : n ≤ n2 := g15a
  replace g15b : z ≤ z2 := g15b
  obtain ⟨x16, hx16, hE⟩ := bd hE
  refine s_callV (As := [.int u1]) (rest := []) CF hK hW hS (S_X4_wholeAt l G F hx16) c14 rfl gv_X11_178 hd_X4_wholeAt ⟨Nat.le_of_ble_eq_true rfl, Nat.le_of_ble_eq_true rfl⟩ rfl hl.1 rfl (Nat.le_of_ble_eq_true rfl) dX11_likeliest_5 ⟨show n - n + 0 ≤ n2 - n by omega, show z - z + 0 ≤ z2 - z by omega⟩ (fun H locs hW hS => ?_)
  refine s_astore (lv' := [(5, rr G x16), (0, rr G u0), (1, .int u1), (2, .int u2), (3, .int u3), (4, .int u4)]) hx hb dX11_likeliest_8 hl (by decide) rfl (fun ls hl => ?_)
  refine s_aload_n hx hb dX11_likeliest_10 rfl (lv_at hl 1 rfl) ?_
  obtain ⟨x17, hx17, hE⟩ := bd hE
  refine s_gR hx hb hT u_X11 hown hK hW hx17 rfl (by decide) fl_X11_16 rfl dX11_likeliest_11 ?_
  refine lv_iload_n hx hb dX11_likeliest_14 rfl (lv_at hl 4 rfl) ?_
  obtain ⟨c18, hE⟩ := ck hE
  obtain ⟨g19a, g19b, hE⟩ := grow_of hE
  replace g19a : n ≤ n2 := g19a
  replace g19b : z ≤ z2 := g19b
  obtain ⟨x20, hx20, hE⟩ := bd hE
  refine s_callV (As := [.int u3]) (rest := []) CF hK hW hS (S_X4_wholeAt l G F hx20) c18 rfl gv_X11_178 hd_X4_wholeAt ⟨Nat.le_of_ble_eq_true rfl, Nat.le_of_ble_eq_true rfl⟩ rfl hl.1 rfl (Nat.le_of_ble_eq_true rfl) dX11_likeliest_15 ⟨show n - n + 0 ≤ n2 - n by omega, show z - z + 0 ≤ z2 - z by omega⟩ (fun H locs hW hS => ?_)
  refine s_astore (lv' := [(6, rr G x20), (5, rr G x16), (0, rr G u0), (1, .int u1), (2, .int u2), (3, .int u3), (4, .int u4)]) hx hb dX11_likeliest_18 hl (by decide) (by simp [cat_rr]) (fun ls hl => ?_)
  refine s_aload hx hb dX11_likeliest_20 (lv_at hl 1 rfl) ?_
  refine s_ifnull (tgt := 47) hx hb dX11_likeliest_22 (by decide) (fun q21 => ?_) (fun q21 => ?_)
  · replace hE := ite_t q21 hE
    refine lv_bipush (v := (-2 : Int32)) hx hb dX11_likeliest_47 (by decide) ?_
    obtain ⟨rfl, rfl, rfl, rfl⟩ := so4 hE
    exact s_iret hx hb hr hlocks hW hS dX11_likeliest_49
  · replace hE := ite_f q21 hE
    refine s_aload hx hb dX11_likeliest_25 (lv_at hl 0 rfl) ?_
    refine s_ifnull (tgt := 47) hx hb dX11_likeliest_27 (by decide) (fun q22 => ?_) (fun q22 => ?_)
    · replace hE := ite_t q22 hE
      refine lv_bipush (v := (-2 : Int32)) hx hb dX11_likeliest_47 (by decide) ?_
      obtain ⟨rfl, rfl, rfl, rfl⟩ := so4 hE
      exact s_iret hx hb hr hlocks hW hS dX11_likeliest_49
    · replace hE := ite_f q22 hE
      refine lv_iload_n hx hb dX11_likeliest_30 rfl (lv_at hl 4 rfl) ?_
      refine lv_iconst (v := (5 : Int32)) hx hb dX11_likeliest_31 (by decide) ?_
      obtain ⟨g23a, g23b, hE⟩ := grow_of hE
      replace g23a : n ≤ n2 := g23a
      replace g23b : z ≤ z2 := g23b
      obtain ⟨x24, hx24, hE⟩ := bd hE
      refine s_callS (As := [.int u2, .int (5 : Int32)]) (rest := []) CF hK hW hS (S_X11_isWithin l G F hx24) gs_X11_235 hd_X11_isWithin.2 ⟨Nat.le_of_ble_eq_true rfl, Nat.le_of_ble_eq_true rfl⟩ rfl hl.1 rfl (Nat.le_of_ble_eq_true rfl) dX11_likeliest_32 ⟨show n - n + 0 ≤ n2 - n by omega, show z - z + 0 ≤ z2 - z by omega⟩ (fun H locs hW hS => ?_)
      refine lv_if_eq (tgt := 47) hx hb dX11_likeliest_35 (by decide) (fun q25 => ?_) (fun q25 => ?_)
      · replace hE := ite_t q25 hE
        refine lv_bipush (v := (-2 : Int32)) hx hb dX11_likeliest_47 (by decide) ?_
        obtain ⟨rfl, rfl, rfl, rfl⟩ := so4 hE
        exact s_iret hx hb hr hlocks hW hS dX11_likeliest_49
      · replace hE := ite_f q25 hE
        refine lv_iload hx hb dX11_likeliest_38 (lv_at hl 6 rfl) ?_
        refine lv_iconst (v := (5 : Int32)) hx hb dX11_likeliest_40 (by decide) ?_
        obtain ⟨g26a, g26b, hE⟩ := grow_of hE
        replace g26a : n ≤ n2 := g26a
        replace g26b : z ≤ z2 := g26b
        obtain ⟨x27, hx27, hE⟩ := bd hE
        refine s_callS (As := [.int u4, .int (5 : Int32)]) (rest := []) CF hK hW hS (S_X11_isWithin l G F hx27) gs_X11_235 hd_X11_isWithin.2 ⟨Nat.le_of_ble_eq_true rfl, Nat.le_of_ble_eq_true rfl⟩ rfl hl.1 rfl (Nat.le_of_ble_eq_true rfl) dX11_likeliest_41 ⟨show n - n + 0 ≤ n2 - n by omega, show z - z + 0 ≤ z2 - z by omega⟩ (fun H locs hW hS => ?_)
        refine lv_if_ne (tgt := 50) hx hb dX11_likeliest_44 (by decide) (fun q28 => ?_) (fun q28 => ?_)
        · replace hE := ite_f q28 hE
          refine s_aload_n hx hb dX11_likeliest_50 rfl (lv_at hl 2 rfl) ?_
          obtain ⟨c29, hE⟩ := ck hE
          obtain ⟨x33, f32, nq30, zq31, hf32, hE⟩ := bd4_of hE
          obtain ⟨c34, hE⟩ := ck hE
          replace c34 := of_decide_eq_true c34
          obtain ⟨g35a, g35b, hE⟩ := grow_of hE
          replace g35a : nq30 ≤ n2 := g35a
          replace g35b : zq31 ≤ z2 := g35b
          refine s_callV (As := []) (rest := []) CF hK hW hS (S_X11_orders l G F hf32) c29 rfl gv_X11_145 hd_X11_orders ⟨Nat.le_of_ble_eq_true rfl, Nat.le_of_ble_eq_true rfl⟩ rfl hl.1 rfl (Nat.le_of_ble_eq_true rfl) dX11_likeliest_51 ⟨show n - n + (nq30 - (n)) ≤ n2 - n by omega, show z - z + (zq31 - (z)) ≤ z2 - z by omega⟩ (fun H locs hW hS => ?_)
          refine W.cs (cells' := nq30 - n) (slots' := zq31 - z) (by omega) (by omega) ?_
          refine s_astore (lv' := [(7, rr G x33), (6, rr G x20), (5, rr G x16), (0, rr G u0), (1, .int u1), (2, .int u2), (3, .int u3), (4, .int u4)]) hx hb dX11_likeliest_54 hl (by decide) (by simp [cat_rr]) (fun ls hl => ?_)
          refine s_aload hx hb dX11_likeliest_56 (lv_at hl 0 rfl) ?_
          refine s_aload hx hb dX11_likeliest_58 (lv_at hl 0 rfl) ?_
          refine s_aload hx hb dX11_likeliest_60 (lv_at hl 2 rfl) ?_
          obtain ⟨c36, hE⟩ := ck hE
          obtain ⟨g37a, g37b, hE⟩ := grow_of hE
          replace g37a : nq30 ≤ n2 := g37a
          replace g37b : zq31 ≤ z2 := g37b
          obtain ⟨x38, hx38, hE⟩ := bd hE
          refine s_callV (As := [rr G x16]) (rest := [rr G x33]) CF hK hW hS (S_X6_numberOf l G F hx38) c36 rfl gv_X11_251 hd_X6_numberOf ⟨Nat.le_of_ble_eq_true rfl, Nat.le_of_ble_eq_true rfl⟩ rfl hl.1 rfl (Nat.le_of_ble_eq_true rfl) dX11_likeliest_62 ⟨show nq30 - n + 0 ≤ n2 - n by omega, show zq31 - z + 0 ≤ z2 - z by omega⟩ (fun H locs hW hS => ?_)
          refine lv_iload_n hx hb dX11_likeliest_65 rfl (lv_at hl 5 rfl) ?_
          refine s_aload_n hx hb dX11_likeliest_66 rfl (lv_at hl 3 rfl) ?_
          obtain ⟨x39, hx39, hE⟩ := bd hE
          refine s_gR hx hb hT u_X11 hown hK hW hx39 rfl (by decide) fl_X11_16 rfl dX11_likeliest_67 ?_
          obtain ⟨x40, hx40, hE⟩ := bd hE
          refine s_gR hx hb hT u_X4 hown hK hW hx40 rfl (by decide) fl_X11_240 rfl dX11_likeliest_70 ?_
          obtain ⟨c41, hE⟩ := ck hE
          obtain ⟨g42a, g42b, hE⟩ := grow_of hE
          replace g42a : nq30 ≤ n2 := g42a
          replace g42b : zq31 ≤ z2 := g42b
          obtain ⟨f43, hf43, hE⟩ := bd hE
          refine s_callV (As := [.int x38, .int u2, rr G x40]) (rest := []) CF hK hW hS (S_X6_spread l G F hf43) c41 rfl gv_X11_243 hd_X6_spread ⟨Nat.le_of_ble_eq_true rfl, Nat.le_of_ble_eq_true rfl⟩ rfl hl.1 rfl (Nat.le_of_ble_eq_true rfl) dX11_likeliest_73 ⟨show nq30 - n + 0 ≤ n2 - n by omega, show zq31 - z + 0 ≤ z2 - z by omega⟩ (fun H locs hW hS => ?_)
          refine s_aload hx hb dX11_likeliest_76 (lv_at hl 0 rfl) ?_
          obtain ⟨c44, hE⟩ := ck hE
          obtain ⟨g45a, g45b, hE⟩ := grow_of hE
          replace g45a : nq30 ≤ n2 := g45a
          replace g45b : zq31 ≤ z2 := g45b
          obtain ⟨f46, hf46, hE⟩ := bd hE
          refine s_callV (As := []) (rest := []) CF hK hW hS (S_X6_keep l G F hf46) c44 rfl gv_X11_254 hd_X6_keep ⟨Nat.le_of_ble_eq_true rfl, Nat.le_of_ble_eq_true rfl⟩ rfl hl.1 rfl (Nat.le_of_ble_eq_true rfl) dX11_likeliest_78 ⟨show nq30 - n + 0 ≤ n2 - n by omega, show zq31 - z + 0 ≤ z2 - z by omega⟩ (fun H locs hW hS => ?_)
          refine s_aload hx hb dX11_likeliest_81 (lv_at hl 0 rfl) ?_
          refine s_aload hx hb dX11_likeliest_83 (lv_at hl 0 rfl) ?_
          refine s_aload hx hb dX11_likeliest_85 (lv_at hl 1 rfl) ?_
          obtain ⟨c47, hE⟩ := ck hE
          obtain ⟨g48a, g48b, hE⟩ := grow_of hE
          replace g48a : nq30 ≤ n2 := g48a
          replace g48b : zq31 ≤ z2 := g48b
          obtain ⟨x49, hx49, hE⟩ := bd hE
          refine s_callV (As := [rr G x20]) (rest := [rr G x33]) CF hK hW hS (S_X6_numberOf l G F hx49) c47 rfl gv_X11_251 hd_X6_numberOf ⟨Nat.le_of_ble_eq_true rfl, Nat.le_of_ble_eq_true rfl⟩ rfl hl.1 rfl (Nat.le_of_ble_eq_true rfl) dX11_likeliest_87 ⟨show nq30 - n + 0 ≤ n2 - n by omega, show zq31 - z + 0 ≤ z2 - z by omega⟩ (fun H locs hW hS => ?_)
          refine lv_iload hx hb dX11_likeliest_90 (lv_at hl 7 rfl) ?_
          refine s_aload_n hx hb dX11_likeliest_92 rfl (lv_at hl 3 rfl) ?_
          obtain ⟨x50, hx50, hE⟩ := bd hE
          refine s_gR hx hb hT u_X11 hown hK hW hx50 rfl (by decide) fl_X11_16 rfl dX11_likeliest_93 ?_
          obtain ⟨x51, hx51, hE⟩ := bd hE
          refine s_gR hx hb hT u_X4 hown hK hW hx51 rfl (by decide) fl_X11_240 rfl dX11_likeliest_96 ?_
          obtain ⟨c52, hE⟩ := ck hE
          obtain ⟨g53a, g53b, hE⟩ := grow_of hE
          replace g53a : nq30 ≤ n2 := g53a
          replace g53b : zq31 ≤ z2 := g53b
          obtain ⟨f54, hf54, hE⟩ := bd hE
          refine s_callV (As := [.int x49, .int u4, rr G x51]) (rest := []) CF hK hW hS (S_X6_spread l G F hf54) c52 rfl gv_X11_243 hd_X6_spread ⟨Nat.le_of_ble_eq_true rfl, Nat.le_of_ble_eq_true rfl⟩ rfl hl.1 rfl (Nat.le_of_ble_eq_true rfl) dX11_likeliest_99 ⟨show nq30 - n + 0 ≤ n2 - n by omega, show zq31 - z + 0 ≤ z2 - z by omega⟩ (fun H locs hW hS => ?_)
          refine lv_lconst (v := (0 : Int64)) hx hb dX11_likeliest_102 (by decide) ?_
          refine lv_lstore (lv' := [(8, .long (0 : Int64)), (7, rr G x33), (6, rr G x20), (5, rr G x16), (0, rr G u0), (1, .int u1), (2, .int u2), (3, .int u3), (4, .int u4)]) hx hb dX11_likeliest_103 hl (by decide) (by simp [cat_rr]) (fun ls hl => ?_)
          refine lv_iconst (v := (-1 : Int32)) hx hb dX11_likeliest_105 (by decide) ?_
          refine lv_istore (lv' := [(10, .int (-1 : Int32)), (8, .long (0 : Int64)), (7, rr G x33), (6, rr G x20), (5, rr G x16), (0, rr G u0), (1, .int u1), (2, .int u2), (3, .int u3), (4, .int u4)]) hx hb dX11_likeliest_106 hl (by decide) rfl (fun ls hl => ?_)
          refine lv_iconst (v := (0 : Int32)) hx hb dX11_likeliest_108 (by decide) ?_
          refine lv_istore (lv' := [(11, .int (0 : Int32)), (10, .int (-1 : Int32)), (8, .long (0 : Int64)), (7, rr G x33), (6, rr G x20), (5, rr G x16), (0, rr G u0), (1, .int u1), (2, .int u2), (3, .int u3), (4, .int u4)]) hx hb dX11_likeliest_109 hl (by decide) rfl (fun ls hl => ?_)
          exact hC111 F _ _ _ _ _ _ _ _ _ _ _ (by omega) (by omega) hE hW hS (lv_sub hl [6, 3, 2, 1, 0] rfl)
        · replace hE := ite_t q28 hE
          refine lv_bipush (v := (-2 : Int32)) hx hb dX11_likeliest_47 (by decide) ?_
          obtain ⟨rfl, rfl, rfl, rfl⟩ := so4 hE
          exact s_iret hx hb hr hlocks hW hS dX11_likeliest_49
set_option maxHeartbeats 4000000 in
set_option maxRecDepth 100000 in
theorem S_X11_likely (l : Launch) (G : GG) (F : Nat) {u0 : Option Nat} {f : Hp} {r : Int64} {n : Nat} (hE : m_X11_likely F u0 f = some r) : Ctr l G yX11_likely cX11_likely 1 (some .long) 0 0 [rr G u0] f n (some (.long r)) f n 0 0 := by
  refine Met.ofW (cc := cX11_likely) (maxL := 1) (ret := (some .long)) (by decide) rfl ?_
  intro p e s m args below meth c s₁ B hml hv
  obtain ⟨rfl, hK, hW⟩ := hv
  have hx := B.exec
  have hb := B.bytes
  have hr := B.returns
  have hts := atoms_spec (ws := wsO yX11_likely cX11_likely 1 (some .long)) B.pre
  have hT : ∀ w ∈ TB, w.before [rr G u0].toArray s = true := fun w hw => hts w (List.mem_cons_of_mem _ hw)
  have hown : s.vm.findClass RX11 = some m.cls := findClass_of_methodNamed B.named
  have hlocks := B.notSynchronized
  have CF : CallFix p m c cX11_likely 1 s [rr G u0].toArray TB RX11 := ⟨hx, hb, hml, hown, hT⟩
  have hS : va_S (WA G) s.heap s.heap [] := va_S.rf
  have hl : lv_has (lg_sl ([rr G u0]) ++ List.replicate (1 - (lg_sl ([rr G u0])).length) Slot.unset).toArray 1 [(0, rr G u0)] := by cases u0 <;> exact lv_entry _ (Nat.le_of_ble_eq_true rfl)
  rw [lg_entry_eq]
  generalize (lg_sl ([rr G u0]) ++ List.replicate (1 - (lg_sl ([rr G u0])).length) Slot.unset).toArray = ls at hl ⊢
  refine s_aload_n hx hb dX11_likely_0 rfl (lv_at hl 0 rfl) ?_
  obtain ⟨x1, hx1, hE⟩ := bd hE
  refine s_gJ hx hb hT u_X11 hown hK hW hx1 rfl (by decide) fl_X11_260 rfl dX11_likely_1 ?_
  obtain rfl := so1 hE
  exact s_lret hx hb hr hlocks hW hS dX11_likely_4
set_option maxHeartbeats 4000000 in
set_option maxRecDepth 100000 in
theorem S_X11_made (l : Launch) (G : GG) (F : Nat) {u0 : Option Nat} {u1 : Int32} {u2 : Int32} {f : Hp} {r : Int32} {n : Nat} (hE : m_X11_made F u0 u1 u2 f = some r) : Ctr l G yX11_made cX11_made 7 (some .int) 3 65 [rr G u0, .int u1, .int u2] f n (some (.int r)) f n 0 0 := by
  refine Met.ofW (cc := cX11_made) (maxL := 7) (ret := (some .int)) (by decide) rfl ?_
  intro p e s m args below meth c s₁ B hml hv
  obtain ⟨rfl, hK, hW⟩ := hv
  have hx := B.exec
  have hb := B.bytes
  have hr := B.returns
  have hts := atoms_spec (ws := wsO yX11_made cX11_made 7 (some .int)) B.pre
  have hT : ∀ w ∈ TB, w.before [rr G u0, .int u1, .int u2].toArray s = true := fun w hw => hts w (List.mem_cons_of_mem _ hw)
  have hown : s.vm.findClass RX11 = some m.cls := findClass_of_methodNamed B.named
  have hlocks := B.notSynchronized
  have CF : CallFix p m c cX11_made 7 s [rr G u0, .int u1, .int u2].toArray TB RX11 := ⟨hx, hb, hml, hown, hT⟩
  have hS : va_S (WA G) s.heap s.heap [] := va_S.rf
  have hl : lv_has (lg_sl ([rr G u0, .int u1, .int u2]) ++ List.replicate (7 - (lg_sl ([rr G u0, .int u1, .int u2])).length) Slot.unset).toArray 7 [(0, rr G u0), (1, .int u1), (2, .int u2)] := by cases u0 <;> exact lv_entry _ (Nat.le_of_ble_eq_true rfl)
  rw [lg_entry_eq]
  generalize (lg_sl ([rr G u0, .int u1, .int u2]) ++ List.replicate (7 - (lg_sl ([rr G u0, .int u1, .int u2])).length) Slot.unset).toArray = ls at hl ⊢
  have hC36 : ∀ (k36 : Nat), ∀ (v0 : Option Nat) (v3 : Option Nat) (v4 : Option Nat) (v5 : Int32) (v6 : Int32) (H : Heap) (locs : List Loc) (ls : Array Slot), m_X11_made_L36 F k36 v0 v3 v4 v5 v6 f = some r → Wd G f n H → va_S (WA G) s.heap H locs → lv_has ls 7 [(0, rr G v0), (3, rr G v3), (4, rr G v4), (5, .int v5), (6, .int v6)] → W p l e (headSpec (wsO yX11_made cX11_made 7 (some .int)) { frames := 3, cells := 0, slots := 0, locals := 65 }).room s m [rr G u0, .int u1, .int u2].toArray below meth c H locs 0 0 (MQ below (Qcn G (some (.int r)) f n) [rr G u0, .int u1, .int u2].toArray s 0 0 (WA G)) (F0 m 36 ls []) := by
    intro k36
    induction k36 with
    | zero => intro v0 v3 v4 v5 v6 H locs ls hE _ _ _; cases (show (none : Option Int32) = some r from hE)
    | succ k36 ih36 =>
      intro v0 v3 v4 v5 v6 H locs ls hE hW hS hl
      replace hE : m_X11_made_b36 F (m_X11_made_L36 F k36) v0 v3 v4 v5 v6 f = some r := hE
      refine lv_iload hx hb dX11_made_36 (lv_at hl 4 rfl) ?_
      refine s_aload_n hx hb dX11_made_38 rfl (lv_at hl 0 rfl) ?_
      obtain ⟨x1, hx1, hE⟩ := bd hE
      refine s_gR hx hb hT u_X11 hown hK hW hx1 rfl (by decide) fl_X11_16 rfl dX11_made_39 ?_
      obtain ⟨x2, hx2, hE⟩ := bd hE
      refine s_gI hx hb hT u_X4 hown hK hW hx2 rfl (by decide) fl_X11_165 rfl dX11_made_42 ?_
      refine lv_icmp_ge (tgt := 89) hx hb dX11_made_45 (by decide) (fun q3 => ?_) (fun q3 => ?_)
      · replace hE := ite_t q3 hE
        refine lv_iload hx hb dX11_made_89 (lv_at hl 3 rfl) ?_
        obtain rfl := so1 hE
        exact s_iret hx hb hr hlocks hW hS dX11_made_91
      · replace hE := ite_f q3 hE
        refine lv_iload hx hb dX11_made_48 (lv_at hl 4 rfl) ?_
        refine lv_bipush (v := (6 : Int32)) hx hb dX11_made_50 (by decide) ?_
        refine lv_icmp_ge (tgt := 89) hx hb dX11_made_52 (by decide) (fun q4 => ?_) (fun q4 => ?_)
        · replace hE := ite_t q4 hE
          refine lv_iload hx hb dX11_made_89 (lv_at hl 3 rfl) ?_
          obtain rfl := so1 hE
          exact s_iret hx hb hr hlocks hW hS dX11_made_91
        · replace hE := ite_f q4 hE
          refine s_aload_n hx hb dX11_made_55 rfl (lv_at hl 0 rfl) ?_
          obtain ⟨x5, hx5, hE⟩ := bd hE
          refine s_gR hx hb hT u_X11 hown hK hW hx5 rfl (by decide) fl_X11_16 rfl dX11_made_56 ?_
          obtain ⟨x6, hx6, hE⟩ := bd hE
          refine s_gR hx hb hT u_X4 hown hK hW hx6 rfl (by decide) fl_X11_168 rfl dX11_made_59 ?_
          refine lv_iload hx hb dX11_made_62 (lv_at hl 4 rfl) ?_
          obtain ⟨x7, hx7, hE⟩ := bd hE
          refine s_ldR hx hb hK hW hS hx7 (by decide) rfl dX11_made_64 ?_
          refine s_aload_n hx hb dX11_made_65 rfl (lv_at hl 1 rfl) ?_
          refine s_aload hx hb dX11_made_66 (lv_at hl 2 rfl) ?_
          obtain ⟨c8, hE⟩ := ck hE
          obtain ⟨x9, hx9, hE⟩ := bd hE
          refine s_callV (As := [rr G v3, rr G v4]) (rest := []) CF hK hW hS (S_X2_mayMake l G F hx9) c8 rfl gv_X11_172 hd_X2_mayMake ⟨Nat.le_of_ble_eq_true rfl, Nat.le_of_ble_eq_true rfl⟩ rfl hl.1 rfl (Nat.le_of_ble_eq_true rfl) dX11_made_68 ⟨Nat.le_refl _, Nat.le_refl _⟩ (fun H locs hW hS => ?_)
          refine lv_if_eq (tgt := 83) hx hb dX11_made_71 (by decide) (fun q10 => ?_) (fun q10 => ?_)
          · replace hE := ite_t q10 hE
            obtain ⟨y11, ey11⟩ : ∃ y : Int32, y = v6 + (1 : Int32) := ⟨_, rfl⟩
            replace hE := nm_o ey11 hE
            refine lv_iinc (k := 4) (v := y11) (lv' := [(6, .int y11), (0, rr G v0), (3, rr G v3), (4, rr G v4), (5, .int v5)]) hx hb dX11_made_83 hl rfl (by rw [ey11]; rfl) (by decide) rfl (fun ls hl => ?_)
            refine lv_goto (tgt := 36) hx hb dX11_made_86 (by decide) ?_
            exact ih36 _ _ _ _ _ _ _ _ hE hW hS (lv_sub hl [1, 2, 3, 4, 0] rfl)
          · replace hE := ite_f q10 hE
            refine lv_iload hx hb dX11_made_74 (lv_at hl 3 rfl) ?_
            refine lv_iconst (v := (1 : Int32)) hx hb dX11_made_76 (by decide) ?_
            refine lv_iload hx hb dX11_made_77 (lv_at hl 4 rfl) ?_
            refine lv_ishl hx hb dX11_made_79 ?_
            refine lv_ior hx hb dX11_made_80 ?_
            refine lv_topi (fun y12 ey12 => ?_)
            replace hE := nm_o ey12 hE
            refine lv_istore (lv' := [(5, .int y12), (0, rr G v0), (3, rr G v3), (4, rr G v4), (6, .int v6)]) hx hb dX11_made_81 hl (by decide) (by simp [cat_rr]) (fun ls hl => ?_)
            obtain ⟨y13, ey13⟩ : ∃ y : Int32, y = v6 + (1 : Int32) := ⟨_, rfl⟩
            replace hE := nm_o ey13 hE
            refine lv_iinc (k := 4) (v := y13) (lv' := [(6, .int y13), (5, .int y12), (0, rr G v0), (3, rr G v3), (4, rr G v4)]) hx hb dX11_made_83 hl rfl (by rw [ey13]; rfl) (by decide) rfl (fun ls hl => ?_)
            refine lv_goto (tgt := 36) hx hb dX11_made_86 (by decide) ?_
            exact ih36 _ _ _ _ _ _ _ _ hE hW hS (lv_sub hl [2, 3, 4, 1, 0] rfl)
  refine s_aload_n hx hb dX11_made_0 rfl (lv_at hl 0 rfl) ?_
  obtain ⟨x14, hx14, hE⟩ := bd hE
  refine s_gR hx hb hT u_X11 hown hK hW hx14 rfl (by decide) fl_X11_16 rfl dX11_made_1 ?_
  refine lv_iload_n hx hb dX11_made_4 rfl (lv_at hl 1 rfl) ?_
  obtain ⟨c15, hE⟩ := ck hE
  obtain ⟨x16, hx16, hE⟩ := bd hE
  refine s_callV (As := [.int u1]) (rest := []) CF hK hW hS (S_X4_copyAt l G F hx16) c15 rfl gv_X11_105 hd_X4_copyAt ⟨Nat.le_of_ble_eq_true rfl, Nat.le_of_ble_eq_true rfl⟩ rfl hl.1 rfl (Nat.le_of_ble_eq_true rfl) dX11_made_5 ⟨Nat.le_refl _, Nat.le_refl _⟩ (fun H locs hW hS => ?_)
  refine s_astore_n (i := 3) (lv' := [(3, rr G x16), (0, rr G u0), (1, .int u1), (2, .int u2)]) hx hb dX11_made_8 rfl hl (by decide) rfl (fun ls hl => ?_)
  refine s_aload_n hx hb dX11_made_9 rfl (lv_at hl 1 rfl) ?_
  obtain ⟨x17, hx17, hE⟩ := bd hE
  refine s_gR hx hb hT u_X11 hown hK hW hx17 rfl (by decide) fl_X11_16 rfl dX11_made_10 ?_
  refine lv_iload_n hx hb dX11_made_13 rfl (lv_at hl 3 rfl) ?_
  obtain ⟨c18, hE⟩ := ck hE
  obtain ⟨x19, hx19, hE⟩ := bd hE
  refine s_callV (As := [.int u2]) (rest := []) CF hK hW hS (S_X4_copyAt l G F hx19) c18 rfl gv_X11_105 hd_X4_copyAt ⟨Nat.le_of_ble_eq_true rfl, Nat.le_of_ble_eq_true rfl⟩ rfl hl.1 rfl (Nat.le_of_ble_eq_true rfl) dX11_made_14 ⟨Nat.le_refl _, Nat.le_refl _⟩ (fun H locs hW hS => ?_)
  refine s_astore (lv' := [(4, rr G x19), (3, rr G x16), (0, rr G u0), (1, .int u1), (2, .int u2)]) hx hb dX11_made_17 hl (by decide) (by simp [cat_rr]) (fun ls hl => ?_)
  refine s_aload_n hx hb dX11_made_19 rfl (lv_at hl 1 rfl) ?_
  refine s_ifnull (tgt := 28) hx hb dX11_made_20 (by decide) (fun q20 => ?_) (fun q20 => ?_)
  · replace hE := ite_t q20 hE
    refine lv_iconst (v := (-1 : Int32)) hx hb dX11_made_28 (by decide) ?_
    obtain rfl := so1 hE
    exact s_iret hx hb hr hlocks hW hS dX11_made_29
  · replace hE := ite_f q20 hE
    refine s_aload hx hb dX11_made_23 (lv_at hl 0 rfl) ?_
    refine s_ifnonnull (tgt := 30) hx hb dX11_made_25 (by decide) (fun q21 => ?_) (fun q21 => ?_)
    · replace hE := ite_f q21 hE
      refine lv_iconst (v := (0 : Int32)) hx hb dX11_made_30 (by decide) ?_
      refine lv_istore (lv' := [(5, .int (0 : Int32)), (4, rr G x19), (3, rr G x16), (0, rr G u0), (1, .int u1), (2, .int u2)]) hx hb dX11_made_31 hl (by decide) (by simp [cat_rr]) (fun ls hl => ?_)
      refine lv_iconst (v := (0 : Int32)) hx hb dX11_made_33 (by decide) ?_
      refine lv_istore (lv' := [(6, .int (0 : Int32)), (5, .int (0 : Int32)), (4, rr G x19), (3, rr G x16), (0, rr G u0), (1, .int u1), (2, .int u2)]) hx hb dX11_made_34 hl (by decide) rfl (fun ls hl => ?_)
      exact hC36 F _ _ _ _ _ _ _ _ hE hW hS (lv_sub hl [4, 3, 2, 1, 0] rfl)
    · replace hE := ite_t q21 hE
      refine lv_iconst (v := (-1 : Int32)) hx hb dX11_made_28 (by decide) ?_
      obtain rfl := so1 hE
      exact s_iret hx hb hr hlocks hW hS dX11_made_29
set_option maxHeartbeats 4000000 in
set_option maxRecDepth 100000 in
theorem S_X11_marks (l : Launch) (G : GG) (F : Nat) {u0 : Option Nat} {u1 : Int32} {f : Hp} {r : Int32} {f' : Hp} {n n2 z z2 : Nat} (hE : m_X11_marks F u0 u1 f n z = some (r, f', n2, z2)) : Ctr l G yX11_marks cX11_marks 5 (some .int) 5 118 [rr G u0, .int u1] f n (some (.int r)) f' n2 (n2 - n) (z2 - z) := by
  refine Met.ofW (cc := cX11_marks) (maxL := 5) (ret := (some .int)) (by decide) rfl ?_
  intro p e s m args below meth c s₁ B hml hv
  obtain ⟨rfl, hK, hW⟩ := hv
  have hx := B.exec
  have hb := B.bytes
  have hr := B.returns
  have hts := atoms_spec (ws := wsO yX11_marks cX11_marks 5 (some .int)) B.pre
  have hT : ∀ w ∈ TB, w.before [rr G u0, .int u1].toArray s = true := fun w hw => hts w (List.mem_cons_of_mem _ hw)
  have hown : s.vm.findClass RX11 = some m.cls := findClass_of_methodNamed B.named
  have hlocks := B.notSynchronized
  have CF : CallFix p m c cX11_marks 5 s [rr G u0, .int u1].toArray TB RX11 := ⟨hx, hb, hml, hown, hT⟩
  have hS : va_S (WA G) s.heap s.heap [] := va_S.rf
  have hl : lv_has (lg_sl ([rr G u0, .int u1]) ++ List.replicate (5 - (lg_sl ([rr G u0, .int u1])).length) Slot.unset).toArray 5 [(0, rr G u0), (1, .int u1)] := by cases u0 <;> exact lv_entry _ (Nat.le_of_ble_eq_true rfl)
  rw [lg_entry_eq]
  generalize (lg_sl ([rr G u0, .int u1]) ++ List.replicate (5 - (lg_sl ([rr G u0, .int u1])).length) Slot.unset).toArray = ls at hl ⊢
  have hC18 : ∀ (k18 : Nat), ∀ (v0 : Option Nat) (v1 : Int32) (v2 : Option Nat) (v3 : Int32) (fa : Hp) (na za : Nat) (H : Heap) (locs : List Loc) (ls : Array Slot), n ≤ na → z ≤ za → m_X11_marks_L18 F k18 v0 v1 v2 v3 fa na za = some (r, f', n2, z2) → Wd G fa na H → va_S (WA G) s.heap H locs → lv_has ls 5 [(0, rr G v0), (1, .int v1), (2, rr G v2), (3, .int v3)] → W p l e (headSpec (wsO yX11_marks cX11_marks 5 (some .int)) { frames := 5, cells := (n2 - n), slots := (z2 - z), locals := 118 }).room s m [rr G u0, .int u1].toArray below meth c H locs (na - n) (za - z) (MQ below (Qcn G (some (.int r)) f' n2) [rr G u0, .int u1].toArray s (n2 - n) (z2 - z) (WA G)) (F0 m 18 ls []) := by
    intro k18
    induction k18 with
    | zero => intro v0 v1 v2 v3 fa na za H locs ls hna hza hE _ _ _; cases (show (none : Option ((Int32) × Hp × Nat × Nat)) = some (r, f', n2, z2) from hE)
    | succ k18 ih18 =>
      have hC68 : ∀ (v0 : Option Nat) (v1 : Int32) (v2 : Option Nat) (v3 : Int32) (fa : Hp) (na za : Nat) (H : Heap) (locs : List Loc) (ls : Array Slot), n ≤ na → z ≤ za → m_X11_marks_B68 F (m_X11_marks_L18 F k18) v0 v1 v2 v3 fa na za = some (r, f', n2, z2) → Wd G fa na H → va_S (WA G) s.heap H locs → lv_has ls 5 [(0, rr G v0), (1, .int v1), (2, rr G v2), (3, .int v3)] → W p l e (headSpec (wsO yX11_marks cX11_marks 5 (some .int)) { frames := 5, cells := (n2 - n), slots := (z2 - z), locals := 118 }).room s m [rr G u0, .int u1].toArray below meth c H locs (na - n) (za - z) (MQ below (Qcn G (some (.int r)) f' n2) [rr G u0, .int u1].toArray s (n2 - n) (z2 - z) (WA G)) (F0 m 68 ls []) := by
        intro v0 v1 v2 v3 fa na za H locs ls hna hza hE hW hS hl
        refine s_aload_n hx hb dX11_marks_68 rfl (lv_at hl 2 rfl) ?_
        refine s_aload_n hx hb dX11_marks_69 rfl (lv_at hl 0 rfl) ?_
        obtain ⟨x12, hx12, hE⟩ := bd hE
        refine s_gR hx hb hT u_X11 hown hK hW hx12 rfl (by decide) fl_X11_72 rfl dX11_marks_70 ?_
        refine lv_iload_n hx hb dX11_marks_73 rfl (lv_at hl 1 rfl) ?_
        obtain ⟨c13, hE⟩ := ck hE
        obtain ⟨g14a, g14b, hE⟩ := grow_of hE
        replace g14a : na ≤ n2 := g14a
        replace g14b : za ≤ z2 := g14b
        obtain ⟨x15, hx15, hE⟩ := bd hE
        refine s_callV (As := [rr G x12, .int v1]) (rest := []) CF hK hW hS (S_X6_marksHold l G F hx15) c13 rfl gv_X11_289 hd_X6_marksHold ⟨Nat.le_of_ble_eq_true rfl, Nat.le_of_ble_eq_true rfl⟩ rfl hl.1 rfl (Nat.le_of_ble_eq_true rfl) dX11_marks_74 ⟨show na - n + 0 ≤ n2 - n by omega, show za - z + 0 ≤ z2 - z by omega⟩ (fun H locs hW hS => ?_)
        refine lv_if_eq (tgt := 82) hx hb dX11_marks_77 (by decide) (fun q16 => ?_) (fun q16 => ?_)
        · replace hE := ite_t q16 hE
          obtain ⟨y17, ey17⟩ : ∃ y : Int32, y = v3 + (1 : Int32) := ⟨_, rfl⟩
          replace hE := nm_o ey17 hE
          refine lv_iinc (k := 3) (v := y17) (lv' := [(3, .int y17), (0, rr G v0), (1, .int v1), (2, rr G v2)]) hx hb dX11_marks_82 hl rfl (by rw [ey17]; rfl) (by decide) (by simp [cat_rr]) (fun ls hl => ?_)
          refine lv_goto (tgt := 18) hx hb dX11_marks_85 (by decide) ?_
          exact ih18 _ _ _ _ _ _ _ _ _ _ (by omega) (by omega) hE hW hS (lv_sub hl [1, 2, 3, 0] rfl)
        · replace hE := ite_f q16 hE
          refine lv_iload_n hx hb dX11_marks_80 rfl (lv_at hl 3 rfl) ?_
          obtain ⟨rfl, rfl, rfl, rfl⟩ := so4 hE
          exact s_iret hx hb hr hlocks hW hS dX11_marks_81
      have hC32 : ∀ (k32 : Nat), ∀ (v0 : Option Nat) (v1 : Int32) (v2 : Option Nat) (v3 : Int32) (v4 : Int32) (fa : Hp) (na za : Nat) (H : Heap) (locs : List Loc) (ls : Array Slot), n ≤ na → z ≤ za → m_X11_marks_L32 F (m_X11_marks_L18 F k18) k32 v0 v1 v2 v3 v4 fa na za = some (r, f', n2, z2) → Wd G fa na H → va_S (WA G) s.heap H locs → lv_has ls 5 [(0, rr G v0), (1, .int v1), (2, rr G v2), (3, .int v3), (4, .int v4)] → W p l e (headSpec (wsO yX11_marks cX11_marks 5 (some .int)) { frames := 5, cells := (n2 - n), slots := (z2 - z), locals := 118 }).room s m [rr G u0, .int u1].toArray below meth c H locs (na - n) (za - z) (MQ below (Qcn G (some (.int r)) f' n2) [rr G u0, .int u1].toArray s (n2 - n) (z2 - z) (WA G)) (F0 m 32 ls []) := by
        intro k32
        induction k32 with
        | zero => intro v0 v1 v2 v3 v4 fa na za H locs ls hna hza hE _ _ _; cases (show (none : Option ((Int32) × Hp × Nat × Nat)) = some (r, f', n2, z2) from hE)
        | succ k32 ih32 =>
          intro v0 v1 v2 v3 v4 fa na za H locs ls hna hza hE hW hS hl
          replace hE : m_X11_marks_b32 F (m_X11_marks_L18 F k18) (m_X11_marks_L32 F (m_X11_marks_L18 F k18) k32) v0 v1 v2 v3 v4 fa na za = some (r, f', n2, z2) := hE
          refine lv_iload hx hb dX11_marks_32 (lv_at hl 4 rfl) ?_
          refine s_aload_n hx hb dX11_marks_34 rfl (lv_at hl 0 rfl) ?_
          obtain ⟨x4, hx4, hE⟩ := bd hE
          refine s_gR hx hb hT u_X11 hown hK hW hx4 rfl (by decide) fl_X11_16 rfl dX11_marks_35 ?_
          obtain ⟨x5, hx5, hE⟩ := bd hE
          refine s_gI hx hb hT u_X4 hown hK hW hx5 rfl (by decide) fl_X11_132 rfl dX11_marks_38 ?_
          refine lv_icmp_ge (tgt := 68) hx hb dX11_marks_41 (by decide) (fun q6 => ?_) (fun q6 => ?_)
          · replace hE := ite_t q6 hE
            exact hC68 _ _ _ _ _ _ _ _ _ _ (by omega) (by omega) hE hW hS (lv_sub hl [0, 1, 2, 3] rfl)
          · replace hE := ite_f q6 hE
            refine lv_iload hx hb dX11_marks_44 (lv_at hl 4 rfl) ?_
            refine lv_bipush (v := (7 : Int32)) hx hb dX11_marks_46 (by decide) ?_
            refine lv_icmp_ge (tgt := 68) hx hb dX11_marks_48 (by decide) (fun q7 => ?_) (fun q7 => ?_)
            · replace hE := ite_t q7 hE
              exact hC68 _ _ _ _ _ _ _ _ _ _ (by omega) (by omega) hE hW hS (lv_sub hl [0, 1, 2, 3] rfl)
            · replace hE := ite_f q7 hE
              refine s_aload_n hx hb dX11_marks_51 rfl (lv_at hl 0 rfl) ?_
              obtain ⟨x8, hx8, hE⟩ := bd hE
              refine s_gR hx hb hT u_X11 hown hK hW hx8 rfl (by decide) fl_X11_72 rfl dX11_marks_52 ?_
              refine lv_iload hx hb dX11_marks_55 (lv_at hl 4 rfl) ?_
              refine lv_iload hx hb dX11_marks_57 (lv_at hl 4 rfl) ?_
              refine lv_iload_n hx hb dX11_marks_59 rfl (lv_at hl 3 rfl) ?_
              obtain ⟨c9, hE⟩ := ck hE
              refine lv_irem hx hb dX11_marks_60 (of_decide_eq_true c9) ?_
              obtain ⟨f10, hf10, hE⟩ := bd hE
              refine s_stI hx hb hK hW hS hf10 dX11_marks_61 (fun H locs hW hS => ?_)
              obtain ⟨y11, ey11⟩ : ∃ y : Int32, y = v4 + (1 : Int32) := ⟨_, rfl⟩
              replace hE := nm_o ey11 hE
              refine lv_iinc (k := 4) (v := y11) (lv' := [(4, .int y11), (0, rr G v0), (1, .int v1), (2, rr G v2), (3, .int v3)]) hx hb dX11_marks_62 hl rfl (by rw [ey11]; rfl) (by decide) rfl (fun ls hl => ?_)
              refine lv_goto (tgt := 32) hx hb dX11_marks_65 (by decide) ?_
              exact ih32 _ _ _ _ _ _ _ _ _ _ _ (by omega) (by omega) hE hW hS (lv_sub hl [1, 2, 3, 4, 0] rfl)
      intro v0 v1 v2 v3 fa na za H locs ls hna hza hE hW hS hl
      replace hE : m_X11_marks_b18 F (m_X11_marks_L18 F k18) v0 v1 v2 v3 fa na za = some (r, f', n2, z2) := hE
      refine lv_iload_n hx hb dX11_marks_18 rfl (lv_at hl 3 rfl) ?_
      refine s_aload_n hx hb dX11_marks_19 rfl (lv_at hl 0 rfl) ?_
      obtain ⟨x1, hx1, hE⟩ := bd hE
      refine s_gR hx hb hT u_X11 hown hK hW hx1 rfl (by decide) fl_X11_16 rfl dX11_marks_20 ?_
      obtain ⟨x2, hx2, hE⟩ := bd hE
      refine s_gI hx hb hT u_X4 hown hK hW hx2 rfl (by decide) fl_X11_132 rfl dX11_marks_23 ?_
      refine lv_icmp_gt (tgt := 88) hx hb dX11_marks_26 (by decide) (fun q3 => ?_) (fun q3 => ?_)
      · replace hE := ite_t q3 hE
        refine lv_iconst (v := (-1 : Int32)) hx hb dX11_marks_88 (by decide) ?_
        obtain ⟨rfl, rfl, rfl, rfl⟩ := so4 hE
        exact s_iret hx hb hr hlocks hW hS dX11_marks_89
      · replace hE := ite_f q3 hE
        refine lv_iconst (v := (0 : Int32)) hx hb dX11_marks_29 (by decide) ?_
        refine lv_istore (lv' := [(4, .int (0 : Int32)), (0, rr G v0), (1, .int v1), (2, rr G v2), (3, .int v3)]) hx hb dX11_marks_30 hl (by decide) rfl (fun ls hl => ?_)
        exact hC32 F _ _ _ _ _ _ _ _ _ _ _ (by omega) (by omega) hE hW hS (lv_sub hl [1, 2, 3, 4, 0] rfl)
  refine W.cs (cells' := n - n) (slots' := z - z) (by omega) (by omega) ?_
  refine lv_iload_n hx hb dX11_marks_0 rfl (lv_at hl 1 rfl) ?_
  refine lv_bipush (v := (9 : Int32)) hx hb dX11_marks_1 (by decide) ?_
  obtain ⟨g18a, g18b, hE⟩ := grow_of hE
  replace g18a : n ≤ n2 := g18a
  replace g18b : z ≤ z2 := g18b
  obtain ⟨x19, hx19, hE⟩ := bd hE
  refine s_callS (As := [.int u1, .int (9 : Int32)]) (rest := []) CF hK hW hS (S_X11_isWithin l G F hx19) gs_X11_235 hd_X11_isWithin.2 ⟨Nat.le_of_ble_eq_true rfl, Nat.le_of_ble_eq_true rfl⟩ rfl hl.1 rfl (Nat.le_of_ble_eq_true rfl) dX11_marks_3 ⟨show n - n + 0 ≤ n2 - n by omega, show z - z + 0 ≤ z2 - z by omega⟩ (fun H locs hW hS => ?_)
  refine lv_if_ne (tgt := 11) hx hb dX11_marks_6 (by decide) (fun q20 => ?_) (fun q20 => ?_)
  · replace hE := ite_f q20 hE
    refine s_aload_n hx hb dX11_marks_11 rfl (lv_at hl 0 rfl) ?_
    obtain ⟨c21, hE⟩ := ck hE
    obtain ⟨x25, f24, nq22, zq23, hf24, hE⟩ := bd4_of hE
    obtain ⟨c26, hE⟩ := ck hE
    replace c26 := of_decide_eq_true c26
    obtain ⟨g27a, g27b, hE⟩ := grow_of hE
    replace g27a : nq22 ≤ n2 := g27a
    replace g27b : zq23 ≤ z2 := g27b
    refine s_callV (As := []) (rest := []) CF hK hW hS (S_X11_orders l G F hf24) c21 rfl gv_X11_145 hd_X11_orders ⟨Nat.le_of_ble_eq_true rfl, Nat.le_of_ble_eq_true rfl⟩ rfl hl.1 rfl (Nat.le_of_ble_eq_true rfl) dX11_marks_12 ⟨show n - n + (nq22 - (n)) ≤ n2 - n by omega, show z - z + (zq23 - (z)) ≤ z2 - z by omega⟩ (fun H locs hW hS => ?_)
    refine W.cs (cells' := nq22 - n) (slots' := zq23 - z) (by omega) (by omega) ?_
    refine s_astore_n (i := 2) (lv' := [(2, rr G x25), (0, rr G u0), (1, .int u1)]) hx hb dX11_marks_15 rfl hl (by decide) rfl (fun ls hl => ?_)
    refine lv_iconst (v := (1 : Int32)) hx hb dX11_marks_16 (by decide) ?_
    refine lv_istore_n (i := 3) (lv' := [(3, .int (1 : Int32)), (2, rr G x25), (0, rr G u0), (1, .int u1)]) hx hb dX11_marks_17 rfl hl (by decide) (by simp [cat_rr]) (fun ls hl => ?_)
    exact hC18 F _ _ _ _ _ _ _ _ _ _ (by omega) (by omega) hE hW hS (lv_sub hl [2, 3, 1, 0] rfl)
  · replace hE := ite_t q20 hE
    refine lv_iconst (v := (-1 : Int32)) hx hb dX11_marks_9 (by decide) ?_
    obtain ⟨rfl, rfl, rfl, rfl⟩ := so4 hE
    exact s_iret hx hb hr hlocks hW hS dX11_marks_10
set_option maxHeartbeats 4000000 in
set_option maxRecDepth 100000 in
theorem S_X4_keepsSense (l : Launch) (G : GG) (F : Nat) {u0 : Option Nat} {u1 : Int32} {u2 : Int32} {f : Hp} {r : Int32} {n : Nat} (hE : m_X4_keepsSense F u0 u1 u2 f = some r) : Ctr l G yX4_keepsSense cX4_keepsSense 7 (some .boolean) 2 46 [rr G u0, .int u1, .int u2] f n (some (.int r)) f n 0 0 := by
  refine Met.ofW (cc := cX4_keepsSense) (maxL := 7) (ret := (some .boolean)) (by decide) rfl ?_
  intro p e s m args below meth c s₁ B hml hv
  obtain ⟨rfl, hK, hW⟩ := hv
  have hx := B.exec
  have hb := B.bytes
  have hr := B.returns
  have hts := atoms_spec (ws := wsO yX4_keepsSense cX4_keepsSense 7 (some .boolean)) B.pre
  have hT : ∀ w ∈ TB, w.before [rr G u0, .int u1, .int u2].toArray s = true := fun w hw => hts w (List.mem_cons_of_mem _ hw)
  have hown : s.vm.findClass RX4 = some m.cls := findClass_of_methodNamed B.named
  have hlocks := B.notSynchronized
  have CF : CallFix p m c cX4_keepsSense 7 s [rr G u0, .int u1, .int u2].toArray TB RX4 := ⟨hx, hb, hml, hown, hT⟩
  have hS : va_S (WA G) s.heap s.heap [] := va_S.rf
  have hl : lv_has (lg_sl ([rr G u0, .int u1, .int u2]) ++ List.replicate (7 - (lg_sl ([rr G u0, .int u1, .int u2])).length) Slot.unset).toArray 7 [(0, rr G u0), (1, .int u1), (2, .int u2)] := by cases u0 <;> exact lv_entry _ (Nat.le_of_ble_eq_true rfl)
  rw [lg_entry_eq]
  generalize (lg_sl ([rr G u0, .int u1, .int u2]) ++ List.replicate (7 - (lg_sl ([rr G u0, .int u1, .int u2])).length) Slot.unset).toArray = ls at hl ⊢
  have hC2 : ∀ (k2 : Nat), ∀ (v0 : Option Nat) (v1 : Int32) (v2 : Int32) (v3 : Int32) (H : Heap) (locs : List Loc) (ls : Array Slot), m_X4_keepsSense_L2 F k2 v0 v1 v2 v3 f = some r → Wd G f n H → va_S (WA G) s.heap H locs → lv_has ls 7 [(0, rr G v0), (1, .int v1), (2, .int v2), (3, .int v3)] → W p l e (headSpec (wsO yX4_keepsSense cX4_keepsSense 7 (some .boolean)) { frames := 2, cells := 0, slots := 0, locals := 46 }).room s m [rr G u0, .int u1, .int u2].toArray below meth c H locs 0 0 (MQ below (Qcn G (some (.int r)) f n) [rr G u0, .int u1, .int u2].toArray s 0 0 (WA G)) (F0 m 2 ls []) := by
    intro k2
    induction k2 with
    | zero => intro v0 v1 v2 v3 H locs ls hE _ _ _; cases (show (none : Option Int32) = some r from hE)
    | succ k2 ih2 =>
      have hC67 : ∀ (v0 : Option Nat) (v1 : Int32) (v2 : Int32) (v3 : Int32) (v4 : Int32) (v5 : Int32) (s0 : Int32) (H : Heap) (locs : List Loc) (ls : Array Slot), m_X4_keepsSense_B67 F (m_X4_keepsSense_L2 F k2) v0 v1 v2 v3 v4 v5 s0 f = some r → Wd G f n H → va_S (WA G) s.heap H locs → lv_has ls 7 [(0, rr G v0), (1, .int v1), (2, .int v2), (3, .int v3), (4, .int v4), (5, .int v5)] → W p l e (headSpec (wsO yX4_keepsSense cX4_keepsSense 7 (some .boolean)) { frames := 2, cells := 0, slots := 0, locals := 46 }).room s m [rr G u0, .int u1, .int u2].toArray below meth c H locs 0 0 (MQ below (Qcn G (some (.int r)) f n) [rr G u0, .int u1, .int u2].toArray s 0 0 (WA G)) (F0 m 67 ls [.int s0]) := by
        intro v0 v1 v2 v3 v4 v5 s0 H locs ls hE hW hS hl
        refine lv_istore (lv' := [(6, .int s0), (0, rr G v0), (1, .int v1), (2, .int v2), (3, .int v3), (4, .int v4), (5, .int v5)]) hx hb dX4_keepsSense_67 hl (by decide) rfl (fun ls hl => ?_)
        refine lv_iload_n hx hb dX4_keepsSense_69 rfl (lv_at hl 3 rfl) ?_
        refine lv_iload hx hb dX4_keepsSense_70 (lv_at hl 5 rfl) ?_
        refine lv_iand hx hb dX4_keepsSense_72 ?_
        refine lv_if_eq (tgt := 85) hx hb dX4_keepsSense_73 (by decide) (fun q17 => ?_) (fun q17 => ?_)
        · replace hE := ite_t q17 hE
          obtain ⟨y18, ey18⟩ : ∃ y : Int32, y = v3 + (1 : Int32) := ⟨_, rfl⟩
          replace hE := nm_o ey18 hE
          refine lv_iinc (k := 4) (v := y18) (lv' := [(3, .int y18), (6, .int s0), (0, rr G v0), (1, .int v1), (2, .int v2), (4, .int v4), (5, .int v5)]) hx hb dX4_keepsSense_85 hl rfl (by rw [ey18]; rfl) (by decide) rfl (fun ls hl => ?_)
          refine lv_goto (tgt := 2) hx hb dX4_keepsSense_88 (by decide) ?_
          exact ih2 _ _ _ _ _ _ _ hE hW hS (lv_sub hl [2, 3, 4, 0] rfl)
        · replace hE := ite_f q17 hE
          refine lv_iload hx hb dX4_keepsSense_76 (lv_at hl 6 rfl) ?_
          refine lv_iload hx hb dX4_keepsSense_78 (lv_at hl 0 rfl) ?_
          refine lv_icmp_eq (tgt := 85) hx hb dX4_keepsSense_80 (by decide) (fun q19 => ?_) (fun q19 => ?_)
          · replace hE := ite_t q19 hE
            obtain ⟨y20, ey20⟩ : ∃ y : Int32, y = v3 + (1 : Int32) := ⟨_, rfl⟩
            replace hE := nm_o ey20 hE
            refine lv_iinc (k := 4) (v := y20) (lv' := [(3, .int y20), (6, .int s0), (0, rr G v0), (1, .int v1), (2, .int v2), (4, .int v4), (5, .int v5)]) hx hb dX4_keepsSense_85 hl rfl (by rw [ey20]; rfl) (by decide) rfl (fun ls hl => ?_)
            refine lv_goto (tgt := 2) hx hb dX4_keepsSense_88 (by decide) ?_
            exact ih2 _ _ _ _ _ _ _ hE hW hS (lv_sub hl [2, 3, 4, 0] rfl)
          · replace hE := ite_f q19 hE
            refine lv_iconst (v := (0 : Int32)) hx hb dX4_keepsSense_83 (by decide) ?_
            obtain ⟨c21, hE⟩ := ck hE
            obtain rfl := so1 hE
            exact s_zret hx hb hr c21 hlocks hW hS dX4_keepsSense_84
      have hC45 : ∀ (v0 : Option Nat) (v1 : Int32) (v2 : Int32) (v3 : Int32) (v4 : Int32) (s0 : Int32) (H : Heap) (locs : List Loc) (ls : Array Slot), m_X4_keepsSense_B45 F (m_X4_keepsSense_L2 F k2) v0 v1 v2 v3 v4 s0 f = some r → Wd G f n H → va_S (WA G) s.heap H locs → lv_has ls 7 [(0, rr G v0), (1, .int v1), (2, .int v2), (3, .int v3), (4, .int v4)] → W p l e (headSpec (wsO yX4_keepsSense cX4_keepsSense 7 (some .boolean)) { frames := 2, cells := 0, slots := 0, locals := 46 }).room s m [rr G u0, .int u1, .int u2].toArray below meth c H locs 0 0 (MQ below (Qcn G (some (.int r)) f n) [rr G u0, .int u1, .int u2].toArray s 0 0 (WA G)) (F0 m 45 ls [.int s0]) := by
        intro v0 v1 v2 v3 v4 s0 H locs ls hE hW hS hl
        refine lv_istore (lv' := [(5, .int s0), (0, rr G v0), (1, .int v1), (2, .int v2), (3, .int v3), (4, .int v4)]) hx hb dX4_keepsSense_45 hl (by decide) rfl (fun ls hl => ?_)
        refine s_aload_n hx hb dX4_keepsSense_47 rfl (lv_at hl 1 rfl) ?_
        obtain ⟨x12, hx12, hE⟩ := bd hE
        refine s_gR hx hb hT u_X4 hown hK hW hx12 rfl (by decide) fl_X4_31 rfl dX4_keepsSense_48 ?_
        refine lv_iload_n hx hb dX4_keepsSense_51 rfl (lv_at hl 4 rfl) ?_
        obtain ⟨x13, hx13, hE⟩ := bd hE
        refine s_ldI hx hb hK hW hS hx13 dX4_keepsSense_52 ?_
        refine s_aload_n hx hb dX4_keepsSense_53 rfl (lv_at hl 1 rfl) ?_
        obtain ⟨x14, hx14, hE⟩ := bd hE
        refine s_gR hx hb hT u_X4 hown hK hW hx14 rfl (by decide) fl_X4_34 rfl dX4_keepsSense_54 ?_
        refine lv_iload_n hx hb dX4_keepsSense_57 rfl (lv_at hl 4 rfl) ?_
        obtain ⟨x15, hx15, hE⟩ := bd hE
        refine s_ldI hx hb hK hW hS hx15 dX4_keepsSense_58 ?_
        refine lv_icmp_le (tgt := 66) hx hb dX4_keepsSense_59 (by decide) (fun q16 => ?_) (fun q16 => ?_)
        · replace hE := ite_t q16 hE
          refine lv_iconst (v := (0 : Int32)) hx hb dX4_keepsSense_66 (by decide) ?_
          exact hC67 _ _ _ _ _ _ _ _ _ _ hE hW hS (lv_sub hl [1, 2, 3, 4, 5, 0] rfl)
        · replace hE := ite_f q16 hE
          refine lv_iconst (v := (1 : Int32)) hx hb dX4_keepsSense_62 (by decide) ?_
          refine lv_goto (tgt := 67) hx hb dX4_keepsSense_63 (by decide) ?_
          exact hC67 _ _ _ _ _ _ _ _ _ _ hE hW hS (lv_sub hl [1, 2, 3, 4, 5, 0] rfl)
      intro v0 v1 v2 v3 H locs ls hE hW hS hl
      replace hE : m_X4_keepsSense_b2 F (m_X4_keepsSense_L2 F k2) v0 v1 v2 v3 f = some r := hE
      refine lv_iload_n hx hb dX4_keepsSense_2 rfl (lv_at hl 3 rfl) ?_
      refine s_aload_n hx hb dX4_keepsSense_3 rfl (lv_at hl 0 rfl) ?_
      obtain ⟨x1, hx1, hE⟩ := bd hE
      refine s_gI hx hb hT u_X4 hown hK hW hx1 rfl (by decide) fl_X4_61 rfl dX4_keepsSense_4 ?_
      refine lv_icmp_ge (tgt := 91) hx hb dX4_keepsSense_7 (by decide) (fun q2 => ?_) (fun q2 => ?_)
      · replace hE := ite_t q2 hE
        refine lv_iconst (v := (1 : Int32)) hx hb dX4_keepsSense_91 (by decide) ?_
        obtain ⟨c3, hE⟩ := ck hE
        obtain rfl := so1 hE
        exact s_zret hx hb hr c3 hlocks hW hS dX4_keepsSense_92
      · replace hE := ite_f q2 hE
        refine lv_iload_n hx hb dX4_keepsSense_10 rfl (lv_at hl 3 rfl) ?_
        refine lv_bipush (v := (12 : Int32)) hx hb dX4_keepsSense_11 (by decide) ?_
        refine lv_icmp_ge (tgt := 91) hx hb dX4_keepsSense_13 (by decide) (fun q4 => ?_) (fun q4 => ?_)
        · replace hE := ite_t q4 hE
          refine lv_iconst (v := (1 : Int32)) hx hb dX4_keepsSense_91 (by decide) ?_
          obtain ⟨c5, hE⟩ := ck hE
          obtain rfl := so1 hE
          exact s_zret hx hb hr c5 hlocks hW hS dX4_keepsSense_92
        · replace hE := ite_f q4 hE
          refine s_aload_n hx hb dX4_keepsSense_16 rfl (lv_at hl 0 rfl) ?_
          obtain ⟨x6, hx6, hE⟩ := bd hE
          refine s_gR hx hb hT u_X4 hown hK hW hx6 rfl (by decide) fl_X4_31 rfl dX4_keepsSense_17 ?_
          refine lv_iload_n hx hb dX4_keepsSense_20 rfl (lv_at hl 3 rfl) ?_
          obtain ⟨x7, hx7, hE⟩ := bd hE
          refine s_ldI hx hb hK hW hS hx7 dX4_keepsSense_21 ?_
          refine s_aload_n hx hb dX4_keepsSense_22 rfl (lv_at hl 0 rfl) ?_
          obtain ⟨x8, hx8, hE⟩ := bd hE
          refine s_gR hx hb hT u_X4 hown hK hW hx8 rfl (by decide) fl_X4_34 rfl dX4_keepsSense_23 ?_
          refine lv_iload_n hx hb dX4_keepsSense_26 rfl (lv_at hl 3 rfl) ?_
          obtain ⟨x9, hx9, hE⟩ := bd hE
          refine s_ldI hx hb hK hW hS hx9 dX4_keepsSense_27 ?_
          obtain ⟨x10, hx10, hE⟩ := bd hE
          refine s_callSN (As := [.int x7, .int x9]) (rest := []) CF hK hW hS (S_X11_pairBit l G F hx10) go_X11_pairBit nm_X4_103 ini_CopyOrders stt_X11_pairBit hd_X11_pairBit.2 ⟨Nat.le_of_ble_eq_true rfl, Nat.le_of_ble_eq_true rfl⟩ rfl hl.1 rfl (Nat.le_of_ble_eq_true rfl) dX4_keepsSense_28 ⟨Nat.le_refl _, Nat.le_refl _⟩ (fun H locs hW hS => ?_)
          refine lv_istore (lv' := [(4, .int x10), (0, rr G v0), (1, .int v1), (2, .int v2), (3, .int v3)]) hx hb dX4_keepsSense_31 hl (by decide) rfl (fun ls hl => ?_)
          refine lv_iload_n hx hb dX4_keepsSense_33 rfl (lv_at hl 2 rfl) ?_
          refine lv_iload hx hb dX4_keepsSense_34 (lv_at hl 0 rfl) ?_
          refine lv_iand hx hb dX4_keepsSense_36 ?_
          refine lv_if_eq (tgt := 44) hx hb dX4_keepsSense_37 (by decide) (fun q11 => ?_) (fun q11 => ?_)
          · replace hE := ite_t q11 hE
            refine lv_iconst (v := (0 : Int32)) hx hb dX4_keepsSense_44 (by decide) ?_
            exact hC45 _ _ _ _ _ _ _ _ _ hE hW hS (lv_sub hl [1, 2, 3, 4, 0] rfl)
          · replace hE := ite_f q11 hE
            refine lv_iconst (v := (1 : Int32)) hx hb dX4_keepsSense_40 (by decide) ?_
            refine lv_goto (tgt := 45) hx hb dX4_keepsSense_41 (by decide) ?_
            exact hC45 _ _ _ _ _ _ _ _ _ hE hW hS (lv_sub hl [1, 2, 3, 4, 0] rfl)
  refine lv_iconst (v := (0 : Int32)) hx hb dX4_keepsSense_0 (by decide) ?_
  refine lv_istore_n (i := 3) (lv' := [(3, .int (0 : Int32)), (0, rr G u0), (1, .int u1), (2, .int u2)]) hx hb dX4_keepsSense_1 rfl hl (by decide) rfl (fun ls hl => ?_)
  exact hC2 F _ _ _ _ _ _ _ hE hW hS (lv_sub hl [1, 2, 3, 0] rfl)
set_option maxHeartbeats 4000000 in
set_option maxRecDepth 100000 in
theorem S_X11_mended (l : Launch) (G : GG) (F : Nat) {u0 : Option Nat} {u1 : Int32} {u2 : Int32} {f : Hp} {r : Int32} {f' : Hp} {n n2 z z2 : Nat} (hE : m_X11_mended F u0 u1 u2 f n z = some (r, f', n2, z2)) : Ctr l G yX11_mended cX11_mended 9 (some .int) 5 118 [rr G u0, .int u1, .int u2] f n (some (.int r)) f' n2 (n2 - n) (z2 - z) := by
  refine Met.ofW (cc := cX11_mended) (maxL := 9) (ret := (some .int)) (by decide) rfl ?_
  intro p e s m args below meth c s₁ B hml hv
  obtain ⟨rfl, hK, hW⟩ := hv
  have hx := B.exec
  have hb := B.bytes
  have hr := B.returns
  have hts := atoms_spec (ws := wsO yX11_mended cX11_mended 9 (some .int)) B.pre
  have hT : ∀ w ∈ TB, w.before [rr G u0, .int u1, .int u2].toArray s = true := fun w hw => hts w (List.mem_cons_of_mem _ hw)
  have hown : s.vm.findClass RX11 = some m.cls := findClass_of_methodNamed B.named
  have hlocks := B.notSynchronized
  have CF : CallFix p m c cX11_mended 9 s [rr G u0, .int u1, .int u2].toArray TB RX11 := ⟨hx, hb, hml, hown, hT⟩
  have hS : va_S (WA G) s.heap s.heap [] := va_S.rf
  have hl : lv_has (lg_sl ([rr G u0, .int u1, .int u2]) ++ List.replicate (9 - (lg_sl ([rr G u0, .int u1, .int u2])).length) Slot.unset).toArray 9 [(0, rr G u0), (1, .int u1), (2, .int u2)] := by cases u0 <;> exact lv_entry _ (Nat.le_of_ble_eq_true rfl)
  rw [lg_entry_eq]
  generalize (lg_sl ([rr G u0, .int u1, .int u2]) ++ List.replicate (9 - (lg_sl ([rr G u0, .int u1, .int u2])).length) Slot.unset).toArray = ls at hl ⊢
  have hC105 : ∀ (v2 : Int32) (v5 : Int32) (v6 : Int32) (fa : Hp) (na za : Nat) (H : Heap) (locs : List Loc) (ls : Array Slot), n ≤ na → z ≤ za → m_X11_mended_B105 F v2 v5 v6 fa na za = some (r, f', n2, z2) → Wd G fa na H → va_S (WA G) s.heap H locs → lv_has ls 9 [(2, .int v2), (5, .int v5), (6, .int v6)] → W p l e (headSpec (wsO yX11_mended cX11_mended 9 (some .int)) { frames := 5, cells := (n2 - n), slots := (z2 - z), locals := 118 }).room s m [rr G u0, .int u1, .int u2].toArray below meth c H locs (na - n) (za - z) (MQ below (Qcn G (some (.int r)) f' n2) [rr G u0, .int u1, .int u2].toArray s (n2 - n) (z2 - z) (WA G)) (F0 m 105 ls []) := by
    intro v2 v5 v6 fa na za H locs ls hna hza hE hW hS hl
    refine lv_iload hx hb dX11_mended_105 (lv_at hl 2 rfl) ?_
    refine lv_iconst (v := (-1 : Int32)) hx hb dX11_mended_107 (by decide) ?_
    refine lv_icmp_eq (tgt := 115) hx hb dX11_mended_108 (by decide) (fun q18 => ?_) (fun q18 => ?_)
    · replace hE := ite_t q18 hE
      refine lv_iload hx hb dX11_mended_115 (lv_at hl 2 rfl) ?_
      refine lv_goto (tgt := 122) hx hb dX11_mended_117 (by decide) ?_
      obtain ⟨rfl, rfl, rfl, rfl⟩ := so4 hE
      exact s_iret hx hb hr hlocks hW hS dX11_mended_122
    · replace hE := ite_f q18 hE
      refine lv_iload_n hx hb dX11_mended_111 rfl (lv_at hl 0 rfl) ?_
      refine lv_if_ne (tgt := 120) hx hb dX11_mended_112 (by decide) (fun q19 => ?_) (fun q19 => ?_)
      · replace hE := ite_f q19 hE
        refine lv_iload hx hb dX11_mended_120 (lv_at hl 1 rfl) ?_
        obtain ⟨rfl, rfl, rfl, rfl⟩ := so4 hE
        exact s_iret hx hb hr hlocks hW hS dX11_mended_122
      · replace hE := ite_t q19 hE
        refine lv_iload hx hb dX11_mended_115 (lv_at hl 2 rfl) ?_
        refine lv_goto (tgt := 122) hx hb dX11_mended_117 (by decide) ?_
        obtain ⟨rfl, rfl, rfl, rfl⟩ := so4 hE
        exact s_iret hx hb hr hlocks hW hS dX11_mended_122
  have hC41 : ∀ (k41 : Nat), ∀ (v0 : Option Nat) (v2 : Int32) (v3 : Option Nat) (v4 : Option Nat) (v5 : Int32) (v6 : Int32) (v7 : Int32) (fa : Hp) (na za : Nat) (H : Heap) (locs : List Loc) (ls : Array Slot), n ≤ na → z ≤ za → m_X11_mended_L41 F k41 v0 v2 v3 v4 v5 v6 v7 fa na za = some (r, f', n2, z2) → Wd G fa na H → va_S (WA G) s.heap H locs → lv_has ls 9 [(0, rr G v0), (2, .int v2), (3, rr G v3), (4, rr G v4), (5, .int v5), (6, .int v6), (7, .int v7)] → W p l e (headSpec (wsO yX11_mended cX11_mended 9 (some .int)) { frames := 5, cells := (n2 - n), slots := (z2 - z), locals := 118 }).room s m [rr G u0, .int u1, .int u2].toArray below meth c H locs (na - n) (za - z) (MQ below (Qcn G (some (.int r)) f' n2) [rr G u0, .int u1, .int u2].toArray s (n2 - n) (z2 - z) (WA G)) (F0 m 41 ls []) := by
    intro k41
    induction k41 with
    | zero => intro v0 v2 v3 v4 v5 v6 v7 fa na za H locs ls hna hza hE _ _ _; cases (show (none : Option ((Int32) × Hp × Nat × Nat)) = some (r, f', n2, z2) from hE)
    | succ k41 ih41 =>
      intro v0 v2 v3 v4 v5 v6 v7 fa na za H locs ls hna hza hE hW hS hl
      replace hE : m_X11_mended_b41 F (m_X11_mended_L41 F k41) v0 v2 v3 v4 v5 v6 v7 fa na za = some (r, f', n2, z2) := hE
      refine lv_iload hx hb dX11_mended_41 (lv_at hl 6 rfl) ?_
      refine s_aload hx hb dX11_mended_43 (lv_at hl 3 rfl) ?_
      obtain ⟨x1, hx1, hE⟩ := bd hE
      refine s_gI hx hb hT u_X6 hown hK hW hx1 rfl (by decide) fl_X11_199 rfl dX11_mended_45 ?_
      refine lv_icmp_ge (tgt := 105) hx hb dX11_mended_48 (by decide) (fun q2 => ?_) (fun q2 => ?_)
      · replace hE := ite_t q2 hE
        exact hC105 _ _ _ _ _ _ _ _ _ (by omega) (by omega) hE hW hS (lv_sub hl [1, 4, 5] rfl)
      · replace hE := ite_f q2 hE
        refine s_aload hx hb dX11_mended_51 (lv_at hl 3 rfl) ?_
        refine lv_iload hx hb dX11_mended_53 (lv_at hl 6 rfl) ?_
        refine s_aload_n hx hb dX11_mended_55 rfl (lv_at hl 2 rfl) ?_
        obtain ⟨c3, hE⟩ := ck hE
        obtain ⟨g4a, g4b, hE⟩ := grow_of hE
        replace g4a : na ≤ n2 := g4a
        replace g4b : za ≤ z2 := g4b
        obtain ⟨x5, hx5, hE⟩ := bd hE
        refine s_callV (As := [.int v7, rr G v3]) (rest := []) CF hK hW hS (S_X6_farTo l G F hx5) c3 rfl gv_X11_303 hd_X6_farTo ⟨Nat.le_of_ble_eq_true rfl, Nat.le_of_ble_eq_true rfl⟩ rfl hl.1 rfl (Nat.le_of_ble_eq_true rfl) dX11_mended_56 ⟨show na - n + 0 ≤ n2 - n by omega, show za - z + 0 ≤ z2 - z by omega⟩ (fun H locs hW hS => ?_)
        refine lv_istore (lv' := [(8, .int x5), (0, rr G v0), (2, .int v2), (3, rr G v3), (4, rr G v4), (5, .int v5), (6, .int v6), (7, .int v7)]) hx hb dX11_mended_59 hl (by decide) rfl (fun ls hl => ?_)
        refine lv_iload hx hb dX11_mended_61 (lv_at hl 0 rfl) ?_
        refine lv_iload hx hb dX11_mended_63 (lv_at hl 5 rfl) ?_
        refine lv_icmp_ge (tgt := 99) hx hb dX11_mended_65 (by decide) (fun q6 => ?_) (fun q6 => ?_)
        · replace hE := ite_t q6 hE
          obtain ⟨y7, ey7⟩ : ∃ y : Int32, y = v7 + (1 : Int32) := ⟨_, rfl⟩
          replace hE := nm_o ey7 hE
          refine lv_iinc (k := 7) (v := y7) (lv' := [(7, .int y7), (8, .int x5), (0, rr G v0), (2, .int v2), (3, rr G v3), (4, rr G v4), (5, .int v5), (6, .int v6)]) hx hb dX11_mended_99 hl rfl (by rw [ey7]; rfl) (by decide) rfl (fun ls hl => ?_)
          refine lv_goto (tgt := 41) hx hb dX11_mended_102 (by decide) ?_
          exact ih41 _ _ _ _ _ _ _ _ _ _ _ _ _ (by omega) (by omega) hE hW hS (lv_sub hl [2, 3, 4, 5, 6, 7, 0] rfl)
        · replace hE := ite_f q6 hE
          refine s_aload_n hx hb dX11_mended_68 rfl (lv_at hl 1 rfl) ?_
          obtain ⟨x8, hx8, hE⟩ := bd hE
          refine s_gR hx hb hT u_X11 hown hK hW hx8 rfl (by decide) fl_X11_16 rfl dX11_mended_69 ?_
          refine s_aload hx hb dX11_mended_72 (lv_at hl 4 rfl) ?_
          obtain ⟨x9, hx9, hE⟩ := bd hE
          refine s_gR hx hb hT u_X6 hown hK hW hx9 rfl (by decide) fl_X11_293 rfl dX11_mended_74 ?_
          refine lv_iload hx hb dX11_mended_77 (lv_at hl 7 rfl) ?_
          obtain ⟨x10, hx10, hE⟩ := bd hE
          refine s_ldI hx hb hK hW hS hx10 dX11_mended_79 ?_
          refine s_aload hx hb dX11_mended_80 (lv_at hl 4 rfl) ?_
          obtain ⟨x11, hx11, hE⟩ := bd hE
          refine s_gI hx hb hT u_X6 hown hK hW hx11 rfl (by decide) fl_X11_296 rfl dX11_mended_82 ?_
          obtain ⟨c12, hE⟩ := ck hE
          obtain ⟨g13a, g13b, hE⟩ := grow_of hE
          replace g13a : na ≤ n2 := g13a
          replace g13b : za ≤ z2 := g13b
          obtain ⟨x14, hx14, hE⟩ := bd hE
          refine s_callV (As := [.int x10, .int x11]) (rest := []) CF hK hW hS (S_X4_keepsSense l G F hx14) c12 rfl gv_X11_299 hd_X4_keepsSense ⟨Nat.le_of_ble_eq_true rfl, Nat.le_of_ble_eq_true rfl⟩ rfl hl.1 rfl (Nat.le_of_ble_eq_true rfl) dX11_mended_85 ⟨show na - n + 0 ≤ n2 - n by omega, show za - z + 0 ≤ z2 - z by omega⟩ (fun H locs hW hS => ?_)
          refine lv_if_eq (tgt := 99) hx hb dX11_mended_88 (by decide) (fun q15 => ?_) (fun q15 => ?_)
          · replace hE := ite_t q15 hE
            obtain ⟨y16, ey16⟩ : ∃ y : Int32, y = v7 + (1 : Int32) := ⟨_, rfl⟩
            replace hE := nm_o ey16 hE
            refine lv_iinc (k := 7) (v := y16) (lv' := [(7, .int y16), (8, .int x5), (0, rr G v0), (2, .int v2), (3, rr G v3), (4, rr G v4), (5, .int v5), (6, .int v6)]) hx hb dX11_mended_99 hl rfl (by rw [ey16]; rfl) (by decide) rfl (fun ls hl => ?_)
            refine lv_goto (tgt := 41) hx hb dX11_mended_102 (by decide) ?_
            exact ih41 _ _ _ _ _ _ _ _ _ _ _ _ _ (by omega) (by omega) hE hW hS (lv_sub hl [2, 3, 4, 5, 6, 7, 0] rfl)
          · replace hE := ite_f q15 hE
            refine lv_iload hx hb dX11_mended_91 (lv_at hl 0 rfl) ?_
            refine lv_istore (lv' := [(5, .int x5), (8, .int x5), (0, rr G v0), (2, .int v2), (3, rr G v3), (4, rr G v4), (6, .int v6), (7, .int v7)]) hx hb dX11_mended_93 hl (by decide) (by simp [cat_rr]) (fun ls hl => ?_)
            refine lv_iload hx hb dX11_mended_95 (lv_at hl 7 rfl) ?_
            refine lv_istore (lv' := [(6, .int v7), (5, .int x5), (8, .int x5), (0, rr G v0), (2, .int v2), (3, rr G v3), (4, rr G v4), (7, .int v7)]) hx hb dX11_mended_97 hl (by decide) rfl (fun ls hl => ?_)
            obtain ⟨y17, ey17⟩ : ∃ y : Int32, y = v7 + (1 : Int32) := ⟨_, rfl⟩
            replace hE := nm_o ey17 hE
            refine lv_iinc (k := 7) (v := y17) (lv' := [(7, .int y17), (6, .int v7), (5, .int x5), (8, .int x5), (0, rr G v0), (2, .int v2), (3, rr G v3), (4, rr G v4)]) hx hb dX11_mended_99 hl rfl (by rw [ey17]; rfl) (by decide) rfl (fun ls hl => ?_)
            refine lv_goto (tgt := 41) hx hb dX11_mended_102 (by decide) ?_
            exact ih41 _ _ _ _ _ _ _ _ _ _ _ _ _ (by omega) (by omega) hE hW hS (lv_sub hl [4, 5, 6, 7, 2, 1, 0] rfl)
  refine W.cs (cells' := n - n) (slots' := z - z) (by omega) (by omega) ?_
  refine s_aload_n hx hb dX11_mended_0 rfl (lv_at hl 0 rfl) ?_
  obtain ⟨x20, hx20, hE⟩ := bd hE
  refine s_gR hx hb hT u_X11 hown hK hW hx20 rfl (by decide) fl_X11_16 rfl dX11_mended_1 ?_
  refine lv_iload_n hx hb dX11_mended_4 rfl (lv_at hl 1 rfl) ?_
  obtain ⟨c21, hE⟩ := ck hE
  obtain ⟨g22a, g22b, hE⟩ := grow_of hE
  replace g22a : n ≤ n2 := g22a
  replace g22b : z ≤ z2 := g22b
  obtain ⟨x23, hx23, hE⟩ := bd hE
  refine s_callV (As := [.int u1]) (rest := []) CF hK hW hS (S_X4_copyAt l G F hx23) c21 rfl gv_X11_105 hd_X4_copyAt ⟨Nat.le_of_ble_eq_true rfl, Nat.le_of_ble_eq_true rfl⟩ rfl hl.1 rfl (Nat.le_of_ble_eq_true rfl) dX11_mended_5 ⟨show n - n + 0 ≤ n2 - n by omega, show z - z + 0 ≤ z2 - z by omega⟩ (fun H locs hW hS => ?_)
  refine s_astore_n (i := 3) (lv' := [(3, rr G x23), (0, rr G u0), (1, .int u1), (2, .int u2)]) hx hb dX11_mended_8 rfl hl (by decide) rfl (fun ls hl => ?_)
  refine s_aload_n hx hb dX11_mended_9 rfl (lv_at hl 0 rfl) ?_
  refine s_ifnull (tgt := 22) hx hb dX11_mended_10 (by decide) (fun q24 => ?_) (fun q24 => ?_)
  · replace hE := ite_t q24 hE
    refine lv_iconst (v := (-1 : Int32)) hx hb dX11_mended_22 (by decide) ?_
    obtain ⟨rfl, rfl, rfl, rfl⟩ := so4 hE
    exact s_iret hx hb hr hlocks hW hS dX11_mended_23
  · replace hE := ite_f q24 hE
    refine lv_iload_n hx hb dX11_mended_13 rfl (lv_at hl 3 rfl) ?_
    refine lv_if_lt (tgt := 22) hx hb dX11_mended_14 (by decide) (fun q25 => ?_) (fun q25 => ?_)
    · replace hE := ite_t q25 hE
      refine lv_iconst (v := (-1 : Int32)) hx hb dX11_mended_22 (by decide) ?_
      obtain ⟨rfl, rfl, rfl, rfl⟩ := so4 hE
      exact s_iret hx hb hr hlocks hW hS dX11_mended_23
    · replace hE := ite_f q25 hE
      refine lv_iload_n hx hb dX11_mended_17 rfl (lv_at hl 3 rfl) ?_
      refine lv_iconst (v := (1 : Int32)) hx hb dX11_mended_18 (by decide) ?_
      refine lv_icmp_le (tgt := 24) hx hb dX11_mended_19 (by decide) (fun q26 => ?_) (fun q26 => ?_)
      · replace hE := ite_t q26 hE
        refine s_aload_n hx hb dX11_mended_24 rfl (lv_at hl 1 rfl) ?_
        obtain ⟨c27, hE⟩ := ck hE
        obtain ⟨x31, f30, nq28, zq29, hf30, hE⟩ := bd4_of hE
        obtain ⟨c32, hE⟩ := ck hE
        replace c32 := of_decide_eq_true c32
        obtain ⟨g33a, g33b, hE⟩ := grow_of hE
        replace g33a : nq28 ≤ n2 := g33a
        replace g33b : zq29 ≤ z2 := g33b
        refine s_callV (As := []) (rest := []) CF hK hW hS (S_X11_orders l G F hf30) c27 rfl gv_X11_145 hd_X11_orders ⟨Nat.le_of_ble_eq_true rfl, Nat.le_of_ble_eq_true rfl⟩ rfl hl.1 rfl (Nat.le_of_ble_eq_true rfl) dX11_mended_25 ⟨show n - n + (nq28 - (n)) ≤ n2 - n by omega, show z - z + (zq29 - (z)) ≤ z2 - z by omega⟩ (fun H locs hW hS => ?_)
        refine W.cs (cells' := nq28 - n) (slots' := zq29 - z) (by omega) (by omega) ?_
        refine s_astore (lv' := [(4, rr G x31), (3, rr G x23), (0, rr G u0), (1, .int u1), (2, .int u2)]) hx hb dX11_mended_28 hl (by decide) (by simp [cat_rr]) (fun ls hl => ?_)
        refine lv_ldcw (v := (1000000 : Int32)) hx hb hown (hT _ kc_X11_302) dX11_mended_30 ?_
        refine lv_istore (lv' := [(5, .int (1000000 : Int32)), (4, rr G x31), (3, rr G x23), (0, rr G u0), (1, .int u1), (2, .int u2)]) hx hb dX11_mended_33 hl (by decide) (by simp [cat_rr]) (fun ls hl => ?_)
        refine lv_iconst (v := (-1 : Int32)) hx hb dX11_mended_35 (by decide) ?_
        refine lv_istore (lv' := [(6, .int (-1 : Int32)), (5, .int (1000000 : Int32)), (4, rr G x31), (3, rr G x23), (0, rr G u0), (1, .int u1), (2, .int u2)]) hx hb dX11_mended_36 hl (by decide) rfl (fun ls hl => ?_)
        refine lv_iconst (v := (0 : Int32)) hx hb dX11_mended_38 (by decide) ?_
        refine lv_istore (lv' := [(7, .int (0 : Int32)), (6, .int (-1 : Int32)), (5, .int (1000000 : Int32)), (4, rr G x31), (3, rr G x23), (0, rr G u0), (1, .int u1), (2, .int u2)]) hx hb dX11_mended_39 hl (by decide) rfl (fun ls hl => ?_)
        exact hC41 F _ _ _ _ _ _ _ _ _ _ _ _ _ (by omega) (by omega) hE hW hS (lv_sub hl [5, 7, 4, 3, 2, 1, 0] rfl)
      · replace hE := ite_f q26 hE
        refine lv_iconst (v := (-1 : Int32)) hx hb dX11_mended_22 (by decide) ?_
        obtain ⟨rfl, rfl, rfl, rfl⟩ := so4 hE
        exact s_iret hx hb hr hlocks hW hS dX11_mended_23
set_option maxHeartbeats 4000000 in
set_option maxRecDepth 100000 in
theorem S_X3_putFar (l : Launch) (G : GG) (F : Nat) {u0 : Option Nat} {u1 : Int32} {u2 : Int32} {u3 : Int32} {f : Hp} {f' : Hp} {n : Nat} (hE : m_X3_putFar F u0 u1 u2 u3 f = some f') : Ctr l G yX3_putFar cX3_putFar 4 none 0 0 [rr G u0, .int u1, .int u2, .int u3] f n none f' n 0 0 := by
  refine Met.ofW (cc := cX3_putFar) (maxL := 4) (ret := none) (by decide) rfl ?_
  intro p e s m args below meth c s₁ B hml hv
  obtain ⟨rfl, hK, hW⟩ := hv
  have hx := B.exec
  have hb := B.bytes
  have hr := B.returns
  have hts := atoms_spec (ws := wsO yX3_putFar cX3_putFar 4 none) B.pre
  have hT : ∀ w ∈ TB, w.before [rr G u0, .int u1, .int u2, .int u3].toArray s = true := fun w hw => hts w (List.mem_cons_of_mem _ hw)
  have hown : s.vm.findClass RX3 = some m.cls := findClass_of_methodNamed B.named
  have hlocks := B.notSynchronized
  have CF : CallFix p m c cX3_putFar 4 s [rr G u0, .int u1, .int u2, .int u3].toArray TB RX3 := ⟨hx, hb, hml, hown, hT⟩
  have hS : va_S (WA G) s.heap s.heap [] := va_S.rf
  have hl : lv_has (lg_sl ([rr G u0, .int u1, .int u2, .int u3]) ++ List.replicate (4 - (lg_sl ([rr G u0, .int u1, .int u2, .int u3])).length) Slot.unset).toArray 4 [(0, rr G u0), (1, .int u1), (2, .int u2), (3, .int u3)] := by cases u0 <;> exact lv_entry _ (Nat.le_of_ble_eq_true rfl)
  rw [lg_entry_eq]
  generalize (lg_sl ([rr G u0, .int u1, .int u2, .int u3]) ++ List.replicate (4 - (lg_sl ([rr G u0, .int u1, .int u2, .int u3])).length) Slot.unset).toArray = ls at hl ⊢
  refine lv_iload_n hx hb dX3_putFar_0 rfl (lv_at hl 1 rfl) ?_
  refine lv_if_lt (tgt := 44) hx hb dX3_putFar_1 (by decide) (fun q1 => ?_) (fun q1 => ?_)
  · replace hE := ite_t q1 hE
    obtain rfl := so1 hE
    exact s_vret hx hb hr hlocks hW hS dX3_putFar_44
  · replace hE := ite_f q1 hE
    refine lv_iload_n hx hb dX3_putFar_4 rfl (lv_at hl 1 rfl) ?_
    refine lv_bipush (v := (10 : Int32)) hx hb dX3_putFar_5 (by decide) ?_
    refine lv_icmp_ge (tgt := 44) hx hb dX3_putFar_7 (by decide) (fun q2 => ?_) (fun q2 => ?_)
    · replace hE := ite_t q2 hE
      obtain rfl := so1 hE
      exact s_vret hx hb hr hlocks hW hS dX3_putFar_44
    · replace hE := ite_f q2 hE
      refine lv_iload_n hx hb dX3_putFar_10 rfl (lv_at hl 2 rfl) ?_
      refine lv_if_lt (tgt := 44) hx hb dX3_putFar_11 (by decide) (fun q3 => ?_) (fun q3 => ?_)
      · replace hE := ite_t q3 hE
        obtain rfl := so1 hE
        exact s_vret hx hb hr hlocks hW hS dX3_putFar_44
      · replace hE := ite_f q3 hE
        refine lv_iload_n hx hb dX3_putFar_14 rfl (lv_at hl 2 rfl) ?_
        refine lv_bipush (v := (10 : Int32)) hx hb dX3_putFar_15 (by decide) ?_
        refine lv_icmp_ge (tgt := 44) hx hb dX3_putFar_17 (by decide) (fun q4 => ?_) (fun q4 => ?_)
        · replace hE := ite_t q4 hE
          obtain rfl := so1 hE
          exact s_vret hx hb hr hlocks hW hS dX3_putFar_44
        · replace hE := ite_f q4 hE
          refine s_aload_n hx hb dX3_putFar_20 rfl (lv_at hl 0 rfl) ?_
          obtain ⟨x5, hx5, hE⟩ := bd hE
          refine s_gR hx hb hT u_X3 hown hK hW hx5 rfl (by decide) fl_X3_18 rfl dX3_putFar_21 ?_
          refine lv_iload_n hx hb dX3_putFar_24 rfl (lv_at hl 1 rfl) ?_
          refine lv_bipush (v := (10 : Int32)) hx hb dX3_putFar_25 (by decide) ?_
          refine lv_imul hx hb dX3_putFar_27 ?_
          refine lv_iload_n hx hb dX3_putFar_28 rfl (lv_at hl 2 rfl) ?_
          refine lv_iadd hx hb dX3_putFar_29 ?_
          refine lv_iload_n hx hb dX3_putFar_30 rfl (lv_at hl 3 rfl) ?_
          obtain ⟨f6, hf6, hE⟩ := bd hE
          refine s_stI hx hb hK hW hS hf6 dX3_putFar_31 (fun H locs hW hS => ?_)
          refine s_aload_n hx hb dX3_putFar_32 rfl (lv_at hl 0 rfl) ?_
          obtain ⟨x7, hx7, hE⟩ := bd hE
          refine s_gR hx hb hT u_X3 hown hK hW hx7 rfl (by decide) fl_X3_18 rfl dX3_putFar_33 ?_
          refine lv_iload_n hx hb dX3_putFar_36 rfl (lv_at hl 2 rfl) ?_
          refine lv_bipush (v := (10 : Int32)) hx hb dX3_putFar_37 (by decide) ?_
          refine lv_imul hx hb dX3_putFar_39 ?_
          refine lv_iload_n hx hb dX3_putFar_40 rfl (lv_at hl 1 rfl) ?_
          refine lv_iadd hx hb dX3_putFar_41 ?_
          refine lv_iload_n hx hb dX3_putFar_42 rfl (lv_at hl 3 rfl) ?_
          obtain ⟨f8, hf8, hE⟩ := bd hE
          refine s_stI hx hb hK hW hS hf8 dX3_putFar_43 (fun H locs hW hS => ?_)
          obtain rfl := so1 hE
          exact s_vret hx hb hr hlocks hW hS dX3_putFar_44
set_option maxHeartbeats 4000000 in
set_option maxRecDepth 100000 in
theorem S_X3_measure (l : Launch) (G : GG) (F : Nat) {u0 : Option Nat} {u1 : Option Nat} {f : Hp} {r : Int32} {f' : Hp} {n : Nat} (hE : m_X3_measure F u0 u1 f = some (r, f')) : Ctr l G yX3_measure cX3_measure 6 (some .boolean) 3 62 [rr G u0, rr G u1] f n (some (.int r)) f' n 0 0 := by
  refine Met.ofW (cc := cX3_measure) (maxL := 6) (ret := (some .boolean)) (by decide) rfl ?_
  intro p e s m args below meth c s₁ B hml hv
  obtain ⟨rfl, hK, hW⟩ := hv
  have hx := B.exec
  have hb := B.bytes
  have hr := B.returns
  have hts := atoms_spec (ws := wsO yX3_measure cX3_measure 6 (some .boolean)) B.pre
  have hT : ∀ w ∈ TB, w.before [rr G u0, rr G u1].toArray s = true := fun w hw => hts w (List.mem_cons_of_mem _ hw)
  have hown : s.vm.findClass RX3 = some m.cls := findClass_of_methodNamed B.named
  have hlocks := B.notSynchronized
  have CF : CallFix p m c cX3_measure 6 s [rr G u0, rr G u1].toArray TB RX3 := ⟨hx, hb, hml, hown, hT⟩
  have hS : va_S (WA G) s.heap s.heap [] := va_S.rf
  have hl : lv_has (lg_sl ([rr G u0, rr G u1]) ++ List.replicate (6 - (lg_sl ([rr G u0, rr G u1])).length) Slot.unset).toArray 6 [(0, rr G u0), (1, rr G u1)] := by cases u0 <;> cases u1 <;> exact lv_entry _ (Nat.le_of_ble_eq_true rfl)
  rw [lg_entry_eq]
  generalize (lg_sl ([rr G u0, rr G u1]) ++ List.replicate (6 - (lg_sl ([rr G u0, rr G u1])).length) Slot.unset).toArray = ls at hl ⊢
  have hC2 : ∀ (k2 : Nat), ∀ (v0 : Option Nat) (v1 : Option Nat) (v2 : Int32) (fa : Hp) (H : Heap) (locs : List Loc) (ls : Array Slot), m_X3_measure_L2 F k2 v0 v1 v2 fa = some (r, f') → Wd G fa n H → va_S (WA G) s.heap H locs → lv_has ls 6 [(0, rr G v0), (1, rr G v1), (2, .int v2)] → W p l e (headSpec (wsO yX3_measure cX3_measure 6 (some .boolean)) { frames := 3, cells := 0, slots := 0, locals := 62 }).room s m [rr G u0, rr G u1].toArray below meth c H locs 0 0 (MQ below (Qcn G (some (.int r)) f' n) [rr G u0, rr G u1].toArray s 0 0 (WA G)) (F0 m 2 ls []) := by
    intro k2
    induction k2 with
    | zero => intro v0 v1 v2 fa H locs ls hE _ _ _; cases (show (none : Option ((Int32) × Hp)) = some (r, f') from hE)
    | succ k2 ih2 =>
      have hC36 : ∀ (k36 : Nat), ∀ (v0 : Option Nat) (v1 : Option Nat) (v2 : Int32) (v3 : Option Nat) (v4 : Int32) (fa : Hp) (H : Heap) (locs : List Loc) (ls : Array Slot), m_X3_measure_L36 F (m_X3_measure_L2 F k2) k36 v0 v1 v2 v3 v4 fa = some (r, f') → Wd G fa n H → va_S (WA G) s.heap H locs → lv_has ls 6 [(0, rr G v0), (1, rr G v1), (2, .int v2), (3, rr G v3), (4, .int v4)] → W p l e (headSpec (wsO yX3_measure cX3_measure 6 (some .boolean)) { frames := 3, cells := 0, slots := 0, locals := 62 }).room s m [rr G u0, rr G u1].toArray below meth c H locs 0 0 (MQ below (Qcn G (some (.int r)) f' n) [rr G u0, rr G u1].toArray s 0 0 (WA G)) (F0 m 36 ls []) := by
        intro k36
        induction k36 with
        | zero => intro v0 v1 v2 v3 v4 fa H locs ls hE _ _ _; cases (show (none : Option ((Int32) × Hp)) = some (r, f') from hE)
        | succ k36 ih36 =>
          intro v0 v1 v2 v3 v4 fa H locs ls hE hW hS hl
          replace hE : m_X3_measure_b36 F (m_X3_measure_L2 F k2) (m_X3_measure_L36 F (m_X3_measure_L2 F k2) k36) v0 v1 v2 v3 v4 fa = some (r, f') := hE
          refine lv_iload hx hb dX3_measure_36 (lv_at hl 4 rfl) ?_
          refine lv_iload_n hx hb dX3_measure_38 rfl (lv_at hl 2 rfl) ?_
          refine lv_icmp_ge (tgt := 81) hx hb dX3_measure_39 (by decide) (fun q12 => ?_) (fun q12 => ?_)
          · replace hE := ite_t q12 hE
            obtain ⟨y13, ey13⟩ : ∃ y : Int32, y = v2 + (1 : Int32) := ⟨_, rfl⟩
            replace hE := nm_o ey13 hE
            refine lv_iinc (k := 2) (v := y13) (lv' := [(2, .int y13), (0, rr G v0), (1, rr G v1), (3, rr G v3), (4, .int v4)]) hx hb dX3_measure_81 hl rfl (by rw [ey13]; rfl) (by decide) (by simp [cat_rr]) (fun ls hl => ?_)
            refine lv_goto (tgt := 2) hx hb dX3_measure_84 (by decide) ?_
            exact ih2 _ _ _ _ _ _ _ hE hW hS (lv_sub hl [1, 2, 0] rfl)
          · replace hE := ite_f q12 hE
            refine s_aload_n hx hb dX3_measure_42 rfl (lv_at hl 1 rfl) ?_
            refine s_aload_n hx hb dX3_measure_43 rfl (lv_at hl 0 rfl) ?_
            obtain ⟨x14, hx14, hE⟩ := bd hE
            refine s_gR hx hb hT u_X3 hown hK hW hx14 rfl (by decide) fl_X3_11 rfl dX3_measure_44 ?_
            refine lv_iload hx hb dX3_measure_47 (lv_at hl 4 rfl) ?_
            obtain ⟨x15, hx15, hE⟩ := bd hE
            refine s_ldI hx hb hK hW hS hx15 dX3_measure_49 ?_
            obtain ⟨c16, hE⟩ := ck hE
            obtain ⟨x17, hx17, hE⟩ := bd hE
            refine s_callV (As := [.int x15]) (rest := []) CF hK hW hS (S_X4_copyAt l G F hx17) c16 rfl gv_X3_35 hd_X4_copyAt ⟨Nat.le_of_ble_eq_true rfl, Nat.le_of_ble_eq_true rfl⟩ rfl hl.1 rfl (Nat.le_of_ble_eq_true rfl) dX3_measure_50 ⟨Nat.le_refl _, Nat.le_refl _⟩ (fun H locs hW hS => ?_)
            refine s_astore (lv' := [(5, rr G x17), (0, rr G v0), (1, rr G v1), (2, .int v2), (3, rr G v3), (4, .int v4)]) hx hb dX3_measure_53 hl (by decide) rfl (fun ls hl => ?_)
            refine s_aload hx hb dX3_measure_55 (lv_at hl 0 rfl) ?_
            refine s_ifnonnull (tgt := 62) hx hb dX3_measure_57 (by decide) (fun q18 => ?_) (fun q18 => ?_)
            · replace hE := ite_f q18 hE
              refine s_aload_n hx hb dX3_measure_62 rfl (lv_at hl 1 rfl) ?_
              refine lv_iload_n hx hb dX3_measure_63 rfl (lv_at hl 3 rfl) ?_
              refine lv_iload hx hb dX3_measure_64 (lv_at hl 5 rfl) ?_
              refine s_aload_n hx hb dX3_measure_66 rfl (lv_at hl 4 rfl) ?_
              refine s_aload hx hb dX3_measure_67 (lv_at hl 0 rfl) ?_
              obtain ⟨c19, hE⟩ := ck hE
              obtain ⟨x20, hx20, hE⟩ := bd hE
              refine s_callV (As := [rr G x17]) (rest := [.int v4, .int v2, rr G v0]) CF hK hW hS (S_X1_farTo l G F hx20) c19 rfl gv_X3_41 hd_X1_farTo ⟨Nat.le_of_ble_eq_true rfl, Nat.le_of_ble_eq_true rfl⟩ rfl hl.1 rfl (Nat.le_of_ble_eq_true rfl) dX3_measure_69 ⟨Nat.le_refl _, Nat.le_refl _⟩ (fun H locs hW hS => ?_)
              obtain ⟨c21, hE⟩ := ck hE
              obtain ⟨f22, hf22, hE⟩ := bd hE
              refine s_callV (As := [.int v2, .int v4, .int x20]) (rest := []) CF hK hW hS (S_X3_putFar l G F hf22) c21 rfl gv_X3_47 hd_X3_putFar ⟨Nat.le_of_ble_eq_true rfl, Nat.le_of_ble_eq_true rfl⟩ rfl hl.1 rfl (Nat.le_of_ble_eq_true rfl) dX3_measure_72 ⟨Nat.le_refl _, Nat.le_refl _⟩ (fun H locs hW hS => ?_)
              obtain ⟨y23, ey23⟩ : ∃ y : Int32, y = v4 + (1 : Int32) := ⟨_, rfl⟩
              replace hE := nm_o ey23 hE
              refine lv_iinc (k := 5) (v := y23) (lv' := [(4, .int y23), (5, rr G x17), (0, rr G v0), (1, rr G v1), (2, .int v2), (3, rr G v3)]) hx hb dX3_measure_75 hl rfl (by rw [ey23]; rfl) (by decide) (by simp [cat_rr]) (fun ls hl => ?_)
              refine lv_goto (tgt := 36) hx hb dX3_measure_78 (by decide) ?_
              exact ih36 _ _ _ _ _ _ _ _ _ hE hW hS (lv_sub hl [2, 3, 4, 5, 0] rfl)
            · replace hE := ite_t q18 hE
              refine lv_iconst (v := (0 : Int32)) hx hb dX3_measure_60 (by decide) ?_
              obtain ⟨c24, hE⟩ := ck hE
              obtain ⟨rfl, rfl⟩ := so2 hE
              exact s_zret hx hb hr c24 hlocks hW hS dX3_measure_61
      intro v0 v1 v2 fa H locs ls hE hW hS hl
      replace hE : m_X3_measure_b2 F (m_X3_measure_L2 F k2) v0 v1 v2 fa = some (r, f') := hE
      refine lv_iload_n hx hb dX3_measure_2 rfl (lv_at hl 2 rfl) ?_
      refine s_aload_n hx hb dX3_measure_3 rfl (lv_at hl 0 rfl) ?_
      obtain ⟨x1, hx1, hE⟩ := bd hE
      refine s_gI hx hb hT u_X3 hown hK hW hx1 rfl (by decide) fl_X3_31 rfl dX3_measure_4 ?_
      refine lv_icmp_ge (tgt := 87) hx hb dX3_measure_7 (by decide) (fun q2 => ?_) (fun q2 => ?_)
      · replace hE := ite_t q2 hE
        refine lv_iconst (v := (1 : Int32)) hx hb dX3_measure_87 (by decide) ?_
        obtain ⟨c3, hE⟩ := ck hE
        obtain ⟨rfl, rfl⟩ := so2 hE
        exact s_zret hx hb hr c3 hlocks hW hS dX3_measure_88
      · replace hE := ite_f q2 hE
        refine lv_iload_n hx hb dX3_measure_10 rfl (lv_at hl 2 rfl) ?_
        refine lv_bipush (v := (9 : Int32)) hx hb dX3_measure_11 (by decide) ?_
        refine lv_icmp_ge (tgt := 87) hx hb dX3_measure_13 (by decide) (fun q4 => ?_) (fun q4 => ?_)
        · replace hE := ite_t q4 hE
          refine lv_iconst (v := (1 : Int32)) hx hb dX3_measure_87 (by decide) ?_
          obtain ⟨c5, hE⟩ := ck hE
          obtain ⟨rfl, rfl⟩ := so2 hE
          exact s_zret hx hb hr c5 hlocks hW hS dX3_measure_88
        · replace hE := ite_f q4 hE
          refine s_aload_n hx hb dX3_measure_16 rfl (lv_at hl 1 rfl) ?_
          refine s_aload_n hx hb dX3_measure_17 rfl (lv_at hl 0 rfl) ?_
          obtain ⟨x6, hx6, hE⟩ := bd hE
          refine s_gR hx hb hT u_X3 hown hK hW hx6 rfl (by decide) fl_X3_11 rfl dX3_measure_18 ?_
          refine lv_iload_n hx hb dX3_measure_21 rfl (lv_at hl 2 rfl) ?_
          obtain ⟨x7, hx7, hE⟩ := bd hE
          refine s_ldI hx hb hK hW hS hx7 dX3_measure_22 ?_
          obtain ⟨c8, hE⟩ := ck hE
          obtain ⟨x9, hx9, hE⟩ := bd hE
          refine s_callV (As := [.int x7]) (rest := []) CF hK hW hS (S_X4_copyAt l G F hx9) c8 rfl gv_X3_35 hd_X4_copyAt ⟨Nat.le_of_ble_eq_true rfl, Nat.le_of_ble_eq_true rfl⟩ rfl hl.1 rfl (Nat.le_of_ble_eq_true rfl) dX3_measure_23 ⟨Nat.le_refl _, Nat.le_refl _⟩ (fun H locs hW hS => ?_)
          refine s_astore_n (i := 3) (lv' := [(3, rr G x9), (0, rr G v0), (1, rr G v1), (2, .int v2)]) hx hb dX3_measure_26 rfl hl (by decide) rfl (fun ls hl => ?_)
          refine s_aload_n hx hb dX3_measure_27 rfl (lv_at hl 0 rfl) ?_
          refine s_ifnonnull (tgt := 33) hx hb dX3_measure_28 (by decide) (fun q10 => ?_) (fun q10 => ?_)
          · replace hE := ite_f q10 hE
            refine lv_iconst (v := (0 : Int32)) hx hb dX3_measure_33 (by decide) ?_
            refine lv_istore (lv' := [(4, .int (0 : Int32)), (3, rr G x9), (0, rr G v0), (1, rr G v1), (2, .int v2)]) hx hb dX3_measure_34 hl (by decide) (by simp [cat_rr]) (fun ls hl => ?_)
            exact hC36 F _ _ _ _ _ _ _ _ _ hE hW hS (lv_sub hl [2, 3, 4, 1, 0] rfl)
          · replace hE := ite_t q10 hE
            refine lv_iconst (v := (0 : Int32)) hx hb dX3_measure_31 (by decide) ?_
            obtain ⟨c11, hE⟩ := ck hE
            obtain ⟨rfl, rfl⟩ := so2 hE
            exact s_zret hx hb hr c11 hlocks hW hS dX3_measure_32
  refine lv_iconst (v := (0 : Int32)) hx hb dX3_measure_0 (by decide) ?_
  refine lv_istore_n (i := 2) (lv' := [(2, .int (0 : Int32)), (0, rr G u0), (1, rr G u1)]) hx hb dX3_measure_1 rfl hl (by decide) (by simp [cat_rr]) (fun ls hl => ?_)
  exact hC2 F _ _ _ _ _ _ _ hE hW hS (lv_sub hl [1, 2, 0] rfl)
set_option maxHeartbeats 4000000 in
set_option maxRecDepth 100000 in
theorem S_X3_reachFrom (l : Launch) (G : GG) (F : Nat) {u0 : Option Nat} {u1 : Int32} {u2 : Int32} {f : Hp} {f' : Hp} {n : Nat} (hE : m_X3_reachFrom F u0 u1 u2 f = some f') : Ctr l G yX3_reachFrom cX3_reachFrom 5 none 0 0 [rr G u0, .int u1, .int u2] f n none f' n 0 0 := by
  refine Met.ofW (cc := cX3_reachFrom) (maxL := 5) (ret := none) (by decide) rfl ?_
  intro p e s m args below meth c s₁ B hml hv
  obtain ⟨rfl, hK, hW⟩ := hv
  have hx := B.exec
  have hb := B.bytes
  have hr := B.returns
  have hts := atoms_spec (ws := wsO yX3_reachFrom cX3_reachFrom 5 none) B.pre
  have hT : ∀ w ∈ TB, w.before [rr G u0, .int u1, .int u2].toArray s = true := fun w hw => hts w (List.mem_cons_of_mem _ hw)
  have hown : s.vm.findClass RX3 = some m.cls := findClass_of_methodNamed B.named
  have hlocks := B.notSynchronized
  have CF : CallFix p m c cX3_reachFrom 5 s [rr G u0, .int u1, .int u2].toArray TB RX3 := ⟨hx, hb, hml, hown, hT⟩
  have hS : va_S (WA G) s.heap s.heap [] := va_S.rf
  have hl : lv_has (lg_sl ([rr G u0, .int u1, .int u2]) ++ List.replicate (5 - (lg_sl ([rr G u0, .int u1, .int u2])).length) Slot.unset).toArray 5 [(0, rr G u0), (1, .int u1), (2, .int u2)] := by cases u0 <;> exact lv_entry _ (Nat.le_of_ble_eq_true rfl)
  rw [lg_entry_eq]
  generalize (lg_sl ([rr G u0, .int u1, .int u2]) ++ List.replicate (5 - (lg_sl ([rr G u0, .int u1, .int u2])).length) Slot.unset).toArray = ls at hl ⊢
  have hC2 : ∀ (k2 : Nat), ∀ (v0 : Option Nat) (v1 : Int32) (v2 : Int32) (v3 : Int32) (fa : Hp) (H : Heap) (locs : List Loc) (ls : Array Slot), m_X3_reachFrom_L2 F k2 v0 v1 v2 v3 fa = some f' → Wd G fa n H → va_S (WA G) s.heap H locs → lv_has ls 5 [(0, rr G v0), (1, .int v1), (2, .int v2), (3, .int v3)] → W p l e (headSpec (wsO yX3_reachFrom cX3_reachFrom 5 none) { frames := 0, cells := 0, slots := 0, locals := 0 }).room s m [rr G u0, .int u1, .int u2].toArray below meth c H locs 0 0 (MQ below (Qcn G none f' n) [rr G u0, .int u1, .int u2].toArray s 0 0 (WA G)) (F0 m 2 ls []) := by
    intro k2
    induction k2 with
    | zero => intro v0 v1 v2 v3 fa H locs ls hE _ _ _; cases (show (none : Option Hp) = some f' from hE)
    | succ k2 ih2 =>
      intro v0 v1 v2 v3 fa H locs ls hE hW hS hl
      replace hE : m_X3_reachFrom_b2 F (m_X3_reachFrom_L2 F k2) v0 v1 v2 v3 fa = some f' := hE
      refine lv_iload_n hx hb dX3_reachFrom_2 rfl (lv_at hl 3 rfl) ?_
      refine lv_iload_n hx hb dX3_reachFrom_3 rfl (lv_at hl 2 rfl) ?_
      refine lv_icmp_ge (tgt := 67) hx hb dX3_reachFrom_4 (by decide) (fun q1 => ?_) (fun q1 => ?_)
      · replace hE := ite_t q1 hE
        obtain rfl := so1 hE
        exact s_vret hx hb hr hlocks hW hS dX3_reachFrom_67
      · replace hE := ite_f q1 hE
        refine lv_iload_n hx hb dX3_reachFrom_7 rfl (lv_at hl 3 rfl) ?_
        refine lv_bipush (v := (10 : Int32)) hx hb dX3_reachFrom_8 (by decide) ?_
        refine lv_icmp_ge (tgt := 67) hx hb dX3_reachFrom_10 (by decide) (fun q2 => ?_) (fun q2 => ?_)
        · replace hE := ite_t q2 hE
          obtain rfl := so1 hE
          exact s_vret hx hb hr hlocks hW hS dX3_reachFrom_67
        · replace hE := ite_f q2 hE
          refine s_aload_n hx hb dX3_reachFrom_13 rfl (lv_at hl 0 rfl) ?_
          obtain ⟨x3, hx3, hE⟩ := bd hE
          refine s_gR hx hb hT u_X3 hown hK hW hx3 rfl (by decide) fl_X3_18 rfl dX3_reachFrom_14 ?_
          refine lv_iload_n hx hb dX3_reachFrom_17 rfl (lv_at hl 1 rfl) ?_
          refine lv_bipush (v := (10 : Int32)) hx hb dX3_reachFrom_18 (by decide) ?_
          refine lv_imul hx hb dX3_reachFrom_20 ?_
          refine lv_iload_n hx hb dX3_reachFrom_21 rfl (lv_at hl 3 rfl) ?_
          refine lv_iadd hx hb dX3_reachFrom_22 ?_
          obtain ⟨x4, hx4, hE⟩ := bd hE
          refine s_ldI hx hb hK hW hS hx4 dX3_reachFrom_23 ?_
          refine lv_istore (lv' := [(4, .int x4), (0, rr G v0), (1, .int v1), (2, .int v2), (3, .int v3)]) hx hb dX3_reachFrom_24 hl (by decide) rfl (fun ls hl => ?_)
          refine s_aload_n hx hb dX3_reachFrom_26 rfl (lv_at hl 1 rfl) ?_
          obtain ⟨x5, hx5, hE⟩ := bd hE
          refine s_gR hx hb hT u_X3 hown hK hW hx5 rfl (by decide) fl_X3_27 rfl dX3_reachFrom_27 ?_
          refine lv_iload_n hx hb dX3_reachFrom_30 rfl (lv_at hl 4 rfl) ?_
          obtain ⟨x6, hx6, hE⟩ := bd hE
          refine s_ldZ hx hb hK hW hS hx6 dX3_reachFrom_31 ?_
          refine lv_if_ne (tgt := 61) hx hb dX3_reachFrom_32 (by decide) (fun q7 => ?_) (fun q7 => ?_)
          · replace hE := ite_f q7 hE
            obtain ⟨y8, ey8⟩ : ∃ y : Int32, y = v3 + (1 : Int32) := ⟨_, rfl⟩
            replace hE := nm_o ey8 hE
            refine lv_iinc (k := 4) (v := y8) (lv' := [(3, .int y8), (4, .int x4), (0, rr G v0), (1, .int v1), (2, .int v2)]) hx hb dX3_reachFrom_61 hl rfl (by rw [ey8]; rfl) (by decide) rfl (fun ls hl => ?_)
            refine lv_goto (tgt := 2) hx hb dX3_reachFrom_64 (by decide) ?_
            exact ih2 _ _ _ _ _ _ _ _ hE hW hS (lv_sub hl [2, 3, 4, 0] rfl)
          · replace hE := ite_t q7 hE
            refine lv_iload hx hb dX3_reachFrom_35 (lv_at hl 0 rfl) ?_
            refine s_aload_n hx hb dX3_reachFrom_37 rfl (lv_at hl 1 rfl) ?_
            obtain ⟨x9, hx9, hE⟩ := bd hE
            refine s_gR hx hb hT u_X3 hown hK hW hx9 rfl (by decide) fl_X3_24 rfl dX3_reachFrom_38 ?_
            refine lv_iload_n hx hb dX3_reachFrom_41 rfl (lv_at hl 4 rfl) ?_
            obtain ⟨x10, hx10, hE⟩ := bd hE
            refine s_ldI hx hb hK hW hS hx10 dX3_reachFrom_42 ?_
            refine lv_icmp_ge (tgt := 61) hx hb dX3_reachFrom_43 (by decide) (fun q11 => ?_) (fun q11 => ?_)
            · replace hE := ite_t q11 hE
              obtain ⟨y12, ey12⟩ : ∃ y : Int32, y = v3 + (1 : Int32) := ⟨_, rfl⟩
              replace hE := nm_o ey12 hE
              refine lv_iinc (k := 4) (v := y12) (lv' := [(3, .int y12), (4, .int x4), (0, rr G v0), (1, .int v1), (2, .int v2)]) hx hb dX3_reachFrom_61 hl rfl (by rw [ey12]; rfl) (by decide) rfl (fun ls hl => ?_)
              refine lv_goto (tgt := 2) hx hb dX3_reachFrom_64 (by decide) ?_
              exact ih2 _ _ _ _ _ _ _ _ hE hW hS (lv_sub hl [2, 3, 4, 0] rfl)
            · replace hE := ite_f q11 hE
              refine s_aload_n hx hb dX3_reachFrom_46 rfl (lv_at hl 1 rfl) ?_
              obtain ⟨x13, hx13, hE⟩ := bd hE
              refine s_gR hx hb hT u_X3 hown hK hW hx13 rfl (by decide) fl_X3_24 rfl dX3_reachFrom_47 ?_
              refine lv_iload_n hx hb dX3_reachFrom_50 rfl (lv_at hl 4 rfl) ?_
              refine lv_iload hx hb dX3_reachFrom_51 (lv_at hl 0 rfl) ?_
              obtain ⟨f14, hf14, hE⟩ := bd hE
              refine s_stI hx hb hK hW hS hf14 dX3_reachFrom_53 (fun H locs hW hS => ?_)
              refine s_aload_n hx hb dX3_reachFrom_54 rfl (lv_at hl 1 rfl) ?_
              obtain ⟨x15, hx15, hE⟩ := bd hE
              refine s_gR hx hb hT u_X3 hown hK hW hx15 rfl (by decide) fl_X3_21 rfl dX3_reachFrom_55 ?_
              refine lv_iload_n hx hb dX3_reachFrom_58 rfl (lv_at hl 4 rfl) ?_
              refine lv_iload_n hx hb dX3_reachFrom_59 rfl (lv_at hl 2 rfl) ?_
              obtain ⟨f16, hf16, hE⟩ := bd hE
              refine s_stI hx hb hK hW hS hf16 dX3_reachFrom_60 (fun H locs hW hS => ?_)
              obtain ⟨y17, ey17⟩ : ∃ y : Int32, y = v3 + (1 : Int32) := ⟨_, rfl⟩
              replace hE := nm_o ey17 hE
              refine lv_iinc (k := 4) (v := y17) (lv' := [(3, .int y17), (4, .int x4), (0, rr G v0), (1, .int v1), (2, .int v2)]) hx hb dX3_reachFrom_61 hl rfl (by rw [ey17]; rfl) (by decide) rfl (fun ls hl => ?_)
              refine lv_goto (tgt := 2) hx hb dX3_reachFrom_64 (by decide) ?_
              exact ih2 _ _ _ _ _ _ _ _ hE hW hS (lv_sub hl [2, 3, 4, 0] rfl)
  refine lv_iconst (v := (0 : Int32)) hx hb dX3_reachFrom_0 (by decide) ?_
  refine lv_istore_n (i := 3) (lv' := [(3, .int (0 : Int32)), (0, rr G u0), (1, .int u1), (2, .int u2)]) hx hb dX3_reachFrom_1 rfl hl (by decide) rfl (fun ls hl => ?_)
  exact hC2 F _ _ _ _ _ _ _ _ hE hW hS (lv_sub hl [1, 2, 3, 0] rfl)
set_option maxHeartbeats 4000000 in
set_option maxRecDepth 100000 in
theorem S_X3_nextToJoin (l : Launch) (G : GG) (F : Nat) {u0 : Option Nat} {u1 : Int32} {f : Hp} {r : Int32} {n : Nat} (hE : m_X3_nextToJoin F u0 u1 f = some r) : Ctr l G yX3_nextToJoin cX3_nextToJoin 5 (some .int) 0 0 [rr G u0, .int u1] f n (some (.int r)) f n 0 0 := by
  refine Met.ofW (cc := cX3_nextToJoin) (maxL := 5) (ret := (some .int)) (by decide) rfl ?_
  intro p e s m args below meth c s₁ B hml hv
  obtain ⟨rfl, hK, hW⟩ := hv
  have hx := B.exec
  have hb := B.bytes
  have hr := B.returns
  have hts := atoms_spec (ws := wsO yX3_nextToJoin cX3_nextToJoin 5 (some .int)) B.pre
  have hT : ∀ w ∈ TB, w.before [rr G u0, .int u1].toArray s = true := fun w hw => hts w (List.mem_cons_of_mem _ hw)
  have hown : s.vm.findClass RX3 = some m.cls := findClass_of_methodNamed B.named
  have hlocks := B.notSynchronized
  have CF : CallFix p m c cX3_nextToJoin 5 s [rr G u0, .int u1].toArray TB RX3 := ⟨hx, hb, hml, hown, hT⟩
  have hS : va_S (WA G) s.heap s.heap [] := va_S.rf
  have hl : lv_has (lg_sl ([rr G u0, .int u1]) ++ List.replicate (5 - (lg_sl ([rr G u0, .int u1])).length) Slot.unset).toArray 5 [(0, rr G u0), (1, .int u1)] := by cases u0 <;> exact lv_entry _ (Nat.le_of_ble_eq_true rfl)
  rw [lg_entry_eq]
  generalize (lg_sl ([rr G u0, .int u1]) ++ List.replicate (5 - (lg_sl ([rr G u0, .int u1])).length) Slot.unset).toArray = ls at hl ⊢
  have hC8 : ∀ (k8 : Nat), ∀ (v0 : Option Nat) (v1 : Int32) (v2 : Int32) (v3 : Int32) (v4 : Int32) (H : Heap) (locs : List Loc) (ls : Array Slot), m_X3_nextToJoin_L8 F k8 v0 v1 v2 v3 v4 f = some r → Wd G f n H → va_S (WA G) s.heap H locs → lv_has ls 5 [(0, rr G v0), (1, .int v1), (2, .int v2), (3, .int v3), (4, .int v4)] → W p l e (headSpec (wsO yX3_nextToJoin cX3_nextToJoin 5 (some .int)) { frames := 0, cells := 0, slots := 0, locals := 0 }).room s m [rr G u0, .int u1].toArray below meth c H locs 0 0 (MQ below (Qcn G (some (.int r)) f n) [rr G u0, .int u1].toArray s 0 0 (WA G)) (F0 m 8 ls []) := by
    intro k8
    induction k8 with
    | zero => intro v0 v1 v2 v3 v4 H locs ls hE _ _ _; cases (show (none : Option Int32) = some r from hE)
    | succ k8 ih8 =>
      intro v0 v1 v2 v3 v4 H locs ls hE hW hS hl
      replace hE : m_X3_nextToJoin_b8 F (m_X3_nextToJoin_L8 F k8) v0 v1 v2 v3 v4 f = some r := hE
      refine lv_iload hx hb dX3_nextToJoin_8 (lv_at hl 4 rfl) ?_
      refine lv_iload_n hx hb dX3_nextToJoin_10 rfl (lv_at hl 1 rfl) ?_
      refine lv_icmp_ge (tgt := 59) hx hb dX3_nextToJoin_11 (by decide) (fun q1 => ?_) (fun q1 => ?_)
      · replace hE := ite_t q1 hE
        refine lv_iload_n hx hb dX3_nextToJoin_59 rfl (lv_at hl 2 rfl) ?_
        obtain rfl := so1 hE
        exact s_iret hx hb hr hlocks hW hS dX3_nextToJoin_60
      · replace hE := ite_f q1 hE
        refine lv_iload hx hb dX3_nextToJoin_14 (lv_at hl 4 rfl) ?_
        refine lv_bipush (v := (10 : Int32)) hx hb dX3_nextToJoin_16 (by decide) ?_
        refine lv_icmp_ge (tgt := 59) hx hb dX3_nextToJoin_18 (by decide) (fun q2 => ?_) (fun q2 => ?_)
        · replace hE := ite_t q2 hE
          refine lv_iload_n hx hb dX3_nextToJoin_59 rfl (lv_at hl 2 rfl) ?_
          obtain rfl := so1 hE
          exact s_iret hx hb hr hlocks hW hS dX3_nextToJoin_60
        · replace hE := ite_f q2 hE
          refine s_aload_n hx hb dX3_nextToJoin_21 rfl (lv_at hl 0 rfl) ?_
          obtain ⟨x3, hx3, hE⟩ := bd hE
          refine s_gR hx hb hT u_X3 hown hK hW hx3 rfl (by decide) fl_X3_27 rfl dX3_nextToJoin_22 ?_
          refine lv_iload hx hb dX3_nextToJoin_25 (lv_at hl 4 rfl) ?_
          obtain ⟨x4, hx4, hE⟩ := bd hE
          refine s_ldZ hx hb hK hW hS hx4 dX3_nextToJoin_27 ?_
          refine lv_if_ne (tgt := 53) hx hb dX3_nextToJoin_28 (by decide) (fun q5 => ?_) (fun q5 => ?_)
          · replace hE := ite_f q5 hE
            obtain ⟨y6, ey6⟩ : ∃ y : Int32, y = v4 + (1 : Int32) := ⟨_, rfl⟩
            replace hE := nm_o ey6 hE
            refine lv_iinc (k := 4) (v := y6) (lv' := [(4, .int y6), (0, rr G v0), (1, .int v1), (2, .int v2), (3, .int v3)]) hx hb dX3_nextToJoin_53 hl rfl (by rw [ey6]; rfl) (by decide) rfl (fun ls hl => ?_)
            refine lv_goto (tgt := 8) hx hb dX3_nextToJoin_56 (by decide) ?_
            exact ih8 _ _ _ _ _ _ _ _ hE hW hS (lv_sub hl [1, 2, 3, 4, 0] rfl)
          · replace hE := ite_t q5 hE
            refine s_aload_n hx hb dX3_nextToJoin_31 rfl (lv_at hl 0 rfl) ?_
            obtain ⟨x7, hx7, hE⟩ := bd hE
            refine s_gR hx hb hT u_X3 hown hK hW hx7 rfl (by decide) fl_X3_24 rfl dX3_nextToJoin_32 ?_
            refine lv_iload hx hb dX3_nextToJoin_35 (lv_at hl 4 rfl) ?_
            obtain ⟨x8, hx8, hE⟩ := bd hE
            refine s_ldI hx hb hK hW hS hx8 dX3_nextToJoin_37 ?_
            refine lv_iload_n hx hb dX3_nextToJoin_38 rfl (lv_at hl 3 rfl) ?_
            refine lv_icmp_ge (tgt := 53) hx hb dX3_nextToJoin_39 (by decide) (fun q9 => ?_) (fun q9 => ?_)
            · replace hE := ite_t q9 hE
              obtain ⟨y10, ey10⟩ : ∃ y : Int32, y = v4 + (1 : Int32) := ⟨_, rfl⟩
              replace hE := nm_o ey10 hE
              refine lv_iinc (k := 4) (v := y10) (lv' := [(4, .int y10), (0, rr G v0), (1, .int v1), (2, .int v2), (3, .int v3)]) hx hb dX3_nextToJoin_53 hl rfl (by rw [ey10]; rfl) (by decide) rfl (fun ls hl => ?_)
              refine lv_goto (tgt := 8) hx hb dX3_nextToJoin_56 (by decide) ?_
              exact ih8 _ _ _ _ _ _ _ _ hE hW hS (lv_sub hl [1, 2, 3, 4, 0] rfl)
            · replace hE := ite_f q9 hE
              refine s_aload_n hx hb dX3_nextToJoin_42 rfl (lv_at hl 0 rfl) ?_
              obtain ⟨x11, hx11, hE⟩ := bd hE
              refine s_gR hx hb hT u_X3 hown hK hW hx11 rfl (by decide) fl_X3_24 rfl dX3_nextToJoin_43 ?_
              refine lv_iload hx hb dX3_nextToJoin_46 (lv_at hl 4 rfl) ?_
              obtain ⟨x12, hx12, hE⟩ := bd hE
              refine s_ldI hx hb hK hW hS hx12 dX3_nextToJoin_48 ?_
              refine lv_istore_n (i := 3) (lv' := [(3, .int x12), (0, rr G v0), (1, .int v1), (2, .int v2), (4, .int v4)]) hx hb dX3_nextToJoin_49 rfl hl (by decide) rfl (fun ls hl => ?_)
              refine lv_iload hx hb dX3_nextToJoin_50 (lv_at hl 4 rfl) ?_
              refine lv_istore_n (i := 2) (lv' := [(2, .int v4), (3, .int x12), (0, rr G v0), (1, .int v1), (4, .int v4)]) hx hb dX3_nextToJoin_52 rfl hl (by decide) rfl (fun ls hl => ?_)
              obtain ⟨y13, ey13⟩ : ∃ y : Int32, y = v4 + (1 : Int32) := ⟨_, rfl⟩
              replace hE := nm_o ey13 hE
              refine lv_iinc (k := 4) (v := y13) (lv' := [(4, .int y13), (2, .int v4), (3, .int x12), (0, rr G v0), (1, .int v1)]) hx hb dX3_nextToJoin_53 hl rfl (by rw [ey13]; rfl) (by decide) rfl (fun ls hl => ?_)
              refine lv_goto (tgt := 8) hx hb dX3_nextToJoin_56 (by decide) ?_
              exact ih8 _ _ _ _ _ _ _ _ hE hW hS (lv_sub hl [3, 4, 1, 2, 0] rfl)
  refine lv_iconst (v := (0 : Int32)) hx hb dX3_nextToJoin_0 (by decide) ?_
  refine lv_istore_n (i := 2) (lv' := [(2, .int (0 : Int32)), (0, rr G u0), (1, .int u1)]) hx hb dX3_nextToJoin_1 rfl hl (by decide) rfl (fun ls hl => ?_)
  refine lv_ldc (v := (1000000 : Int32)) hx hb hown (hT _ kc_X3_63) dX3_nextToJoin_2 ?_
  refine lv_istore_n (i := 3) (lv' := [(3, .int (1000000 : Int32)), (2, .int (0 : Int32)), (0, rr G u0), (1, .int u1)]) hx hb dX3_nextToJoin_4 rfl hl (by decide) rfl (fun ls hl => ?_)
  refine lv_iconst (v := (0 : Int32)) hx hb dX3_nextToJoin_5 (by decide) ?_
  refine lv_istore (lv' := [(4, .int (0 : Int32)), (3, .int (1000000 : Int32)), (2, .int (0 : Int32)), (0, rr G u0), (1, .int u1)]) hx hb dX3_nextToJoin_6 hl (by decide) rfl (fun ls hl => ?_)
  exact hC8 F _ _ _ _ _ _ _ _ hE hW hS (lv_sub hl [3, 4, 2, 1, 0] rfl)
set_option maxHeartbeats 4000000 in
set_option maxRecDepth 100000 in
theorem S_X3_span (l : Launch) (G : GG) (F : Nat) {u0 : Option Nat} {u1 : Int32} {f : Hp} {r : Int32} {f' : Hp} {n : Nat} (hE : m_X3_span F u0 u1 f = some (r, f')) : Ctr l G yX3_span cX3_span 5 (some .int) 1 24 [rr G u0, .int u1] f n (some (.int r)) f' n 0 0 := by
  refine Met.ofW (cc := cX3_span) (maxL := 5) (ret := (some .int)) (by decide) rfl ?_
  intro p e s m args below meth c s₁ B hml hv
  obtain ⟨rfl, hK, hW⟩ := hv
  have hx := B.exec
  have hb := B.bytes
  have hr := B.returns
  have hts := atoms_spec (ws := wsO yX3_span cX3_span 5 (some .int)) B.pre
  have hT : ∀ w ∈ TB, w.before [rr G u0, .int u1].toArray s = true := fun w hw => hts w (List.mem_cons_of_mem _ hw)
  have hown : s.vm.findClass RX3 = some m.cls := findClass_of_methodNamed B.named
  have hlocks := B.notSynchronized
  have CF : CallFix p m c cX3_span 5 s [rr G u0, .int u1].toArray TB RX3 := ⟨hx, hb, hml, hown, hT⟩
  have hS : va_S (WA G) s.heap s.heap [] := va_S.rf
  have hl : lv_has (lg_sl ([rr G u0, .int u1]) ++ List.replicate (5 - (lg_sl ([rr G u0, .int u1])).length) Slot.unset).toArray 5 [(0, rr G u0), (1, .int u1)] := by cases u0 <;> exact lv_entry _ (Nat.le_of_ble_eq_true rfl)
  rw [lg_entry_eq]
  generalize (lg_sl ([rr G u0, .int u1]) ++ List.replicate (5 - (lg_sl ([rr G u0, .int u1])).length) Slot.unset).toArray = ls at hl ⊢
  have hC44 : ∀ (k44 : Nat), ∀ (v0 : Option Nat) (v1 : Int32) (v2 : Int32) (v3 : Int32) (v4 : Int32) (fa : Hp) (H : Heap) (locs : List Loc) (ls : Array Slot), m_X3_span_L44 F k44 v0 v1 v2 v3 v4 fa = some (r, f') → Wd G fa n H → va_S (WA G) s.heap H locs → lv_has ls 5 [(0, rr G v0), (1, .int v1), (2, .int v2), (3, .int v3), (4, .int v4)] → W p l e (headSpec (wsO yX3_span cX3_span 5 (some .int)) { frames := 1, cells := 0, slots := 0, locals := 24 }).room s m [rr G u0, .int u1].toArray below meth c H locs 0 0 (MQ below (Qcn G (some (.int r)) f' n) [rr G u0, .int u1].toArray s 0 0 (WA G)) (F0 m 44 ls []) := by
    intro k44
    induction k44 with
    | zero => intro v0 v1 v2 v3 v4 fa H locs ls hE _ _ _; cases (show (none : Option ((Int32) × Hp)) = some (r, f') from hE)
    | succ k44 ih44 =>
      intro v0 v1 v2 v3 v4 fa H locs ls hE hW hS hl
      replace hE : m_X3_span_b44 F (m_X3_span_L44 F k44) v0 v1 v2 v3 v4 fa = some (r, f') := hE
      refine lv_iload hx hb dX3_span_44 (lv_at hl 4 rfl) ?_
      refine lv_iload_n hx hb dX3_span_46 rfl (lv_at hl 1 rfl) ?_
      refine lv_icmp_ge (tgt := 84) hx hb dX3_span_47 (by decide) (fun q7 => ?_) (fun q7 => ?_)
      · replace hE := ite_t q7 hE
        refine lv_iload_n hx hb dX3_span_84 rfl (lv_at hl 2 rfl) ?_
        obtain ⟨rfl, rfl⟩ := so2 hE
        exact s_iret hx hb hr hlocks hW hS dX3_span_85
      · replace hE := ite_f q7 hE
        refine s_aload_n hx hb dX3_span_50 rfl (lv_at hl 0 rfl) ?_
        obtain ⟨x8, hx8, hE⟩ := bd hE
        refine s_gR hx hb hT u_X3 hown hK hW hx8 rfl (by decide) fl_X3_27 rfl dX3_span_51 ?_
        refine lv_iload_n hx hb dX3_span_54 rfl (lv_at hl 3 rfl) ?_
        refine lv_iconst (v := (1 : Int32)) hx hb dX3_span_55 (by decide) ?_
        obtain ⟨f9, hf9, hE⟩ := bd hE
        refine s_stZ hx hb hK hW hS hf9 dX3_span_56 (fun H locs hW hS => ?_)
        refine s_aload_n hx hb dX3_span_57 rfl (lv_at hl 0 rfl) ?_
        refine lv_iload_n hx hb dX3_span_58 rfl (lv_at hl 3 rfl) ?_
        refine lv_iload_n hx hb dX3_span_59 rfl (lv_at hl 1 rfl) ?_
        obtain ⟨c10, hE⟩ := ck hE
        obtain ⟨f11, hf11, hE⟩ := bd hE
        refine s_callV (As := [.int v3, .int v1]) (rest := []) CF hK hW hS (S_X3_reachFrom l G F hf11) c10 rfl gv_X3_70 hd_X3_reachFrom ⟨Nat.le_of_ble_eq_true rfl, Nat.le_of_ble_eq_true rfl⟩ rfl hl.1 rfl (Nat.le_of_ble_eq_true rfl) dX3_span_60 ⟨Nat.le_refl _, Nat.le_refl _⟩ (fun H locs hW hS => ?_)
        refine s_aload_n hx hb dX3_span_63 rfl (lv_at hl 0 rfl) ?_
        refine lv_iload_n hx hb dX3_span_64 rfl (lv_at hl 1 rfl) ?_
        obtain ⟨c12, hE⟩ := ck hE
        obtain ⟨x13, hx13, hE⟩ := bd hE
        refine s_callV (As := [.int v1]) (rest := []) CF hK hW hS (S_X3_nextToJoin l G F hx13) c12 rfl gv_X3_74 hd_X3_nextToJoin ⟨Nat.le_of_ble_eq_true rfl, Nat.le_of_ble_eq_true rfl⟩ rfl hl.1 rfl (Nat.le_of_ble_eq_true rfl) dX3_span_65 ⟨Nat.le_refl _, Nat.le_refl _⟩ (fun H locs hW hS => ?_)
        refine lv_istore_n (i := 3) (lv' := [(3, .int x13), (0, rr G v0), (1, .int v1), (2, .int v2), (4, .int v4)]) hx hb dX3_span_68 rfl hl (by decide) rfl (fun ls hl => ?_)
        refine lv_iload_n hx hb dX3_span_69 rfl (lv_at hl 3 rfl) ?_
        refine s_aload_n hx hb dX3_span_70 rfl (lv_at hl 1 rfl) ?_
        obtain ⟨x14, hx14, hE⟩ := bd hE
        refine s_gR hx hb hT u_X3 hown hK hW hx14 rfl (by decide) fl_X3_24 rfl dX3_span_71 ?_
        refine lv_iload_n hx hb dX3_span_74 rfl (lv_at hl 0 rfl) ?_
        obtain ⟨x15, hx15, hE⟩ := bd hE
        refine s_ldI hx hb hK hW hS hx15 dX3_span_75 ?_
        refine lv_iadd hx hb dX3_span_76 ?_
        refine lv_topi (fun y16 ey16 => ?_)
        replace hE := nm_o ey16 hE
        refine lv_istore_n (i := 2) (lv' := [(2, .int y16), (3, .int x13), (0, rr G v0), (1, .int v1), (4, .int v4)]) hx hb dX3_span_77 rfl hl (by decide) rfl (fun ls hl => ?_)
        obtain ⟨y17, ey17⟩ : ∃ y : Int32, y = v4 + (1 : Int32) := ⟨_, rfl⟩
        replace hE := nm_o ey17 hE
        refine lv_iinc (k := 4) (v := y17) (lv' := [(4, .int y17), (2, .int y16), (3, .int x13), (0, rr G v0), (1, .int v1)]) hx hb dX3_span_78 hl rfl (by rw [ey17]; rfl) (by decide) rfl (fun ls hl => ?_)
        refine lv_goto (tgt := 44) hx hb dX3_span_81 (by decide) ?_
        exact ih44 _ _ _ _ _ _ _ _ _ hE hW hS (lv_sub hl [3, 4, 1, 2, 0] rfl)
  have hC11 : ∀ (k11 : Nat), ∀ (v0 : Option Nat) (v1 : Int32) (v2 : Int32) (fa : Hp) (H : Heap) (locs : List Loc) (ls : Array Slot), m_X3_span_L11 F k11 v0 v1 v2 fa = some (r, f') → Wd G fa n H → va_S (WA G) s.heap H locs → lv_has ls 5 [(0, rr G v0), (1, .int v1), (2, .int v2)] → W p l e (headSpec (wsO yX3_span cX3_span 5 (some .int)) { frames := 1, cells := 0, slots := 0, locals := 24 }).room s m [rr G u0, .int u1].toArray below meth c H locs 0 0 (MQ below (Qcn G (some (.int r)) f' n) [rr G u0, .int u1].toArray s 0 0 (WA G)) (F0 m 11 ls []) := by
    intro k11
    induction k11 with
    | zero => intro v0 v1 v2 fa H locs ls hE _ _ _; cases (show (none : Option ((Int32) × Hp)) = some (r, f') from hE)
    | succ k11 ih11 =>
      intro v0 v1 v2 fa H locs ls hE hW hS hl
      replace hE : m_X3_span_b11 F (m_X3_span_L11 F k11) v0 v1 v2 fa = some (r, f') := hE
      refine lv_iload_n hx hb dX3_span_11 rfl (lv_at hl 2 rfl) ?_
      refine lv_bipush (v := (10 : Int32)) hx hb dX3_span_12 (by decide) ?_
      refine lv_icmp_ge (tgt := 37) hx hb dX3_span_14 (by decide) (fun q1 => ?_) (fun q1 => ?_)
      · replace hE := ite_t q1 hE
        refine lv_iconst (v := (0 : Int32)) hx hb dX3_span_37 (by decide) ?_
        refine lv_istore_n (i := 2) (lv' := [(2, .int (0 : Int32)), (0, rr G v0), (1, .int v1)]) hx hb dX3_span_38 rfl hl (by decide) rfl (fun ls hl => ?_)
        refine lv_iconst (v := (0 : Int32)) hx hb dX3_span_39 (by decide) ?_
        refine lv_istore_n (i := 3) (lv' := [(3, .int (0 : Int32)), (2, .int (0 : Int32)), (0, rr G v0), (1, .int v1)]) hx hb dX3_span_40 rfl hl (by decide) rfl (fun ls hl => ?_)
        refine lv_iconst (v := (1 : Int32)) hx hb dX3_span_41 (by decide) ?_
        refine lv_istore (lv' := [(4, .int (1 : Int32)), (3, .int (0 : Int32)), (2, .int (0 : Int32)), (0, rr G v0), (1, .int v1)]) hx hb dX3_span_42 hl (by decide) rfl (fun ls hl => ?_)
        exact hC44 F _ _ _ _ _ _ _ _ _ hE hW hS (lv_sub hl [3, 4, 2, 1, 0] rfl)
      · replace hE := ite_f q1 hE
        refine s_aload_n hx hb dX3_span_17 rfl (lv_at hl 0 rfl) ?_
        obtain ⟨x2, hx2, hE⟩ := bd hE
        refine s_gR hx hb hT u_X3 hown hK hW hx2 rfl (by decide) fl_X3_27 rfl dX3_span_18 ?_
        refine lv_iload_n hx hb dX3_span_21 rfl (lv_at hl 2 rfl) ?_
        refine lv_iconst (v := (0 : Int32)) hx hb dX3_span_22 (by decide) ?_
        obtain ⟨f3, hf3, hE⟩ := bd hE
        refine s_stZ hx hb hK hW hS hf3 dX3_span_23 (fun H locs hW hS => ?_)
        refine s_aload_n hx hb dX3_span_24 rfl (lv_at hl 0 rfl) ?_
        obtain ⟨x4, hx4, hE⟩ := bd hE
        refine s_gR hx hb hT u_X3 hown hK hW hx4 rfl (by decide) fl_X3_21 rfl dX3_span_25 ?_
        refine lv_iload_n hx hb dX3_span_28 rfl (lv_at hl 2 rfl) ?_
        refine lv_iconst (v := (0 : Int32)) hx hb dX3_span_29 (by decide) ?_
        obtain ⟨f5, hf5, hE⟩ := bd hE
        refine s_stI hx hb hK hW hS hf5 dX3_span_30 (fun H locs hW hS => ?_)
        obtain ⟨y6, ey6⟩ : ∃ y : Int32, y = v2 + (1 : Int32) := ⟨_, rfl⟩
        replace hE := nm_o ey6 hE
        refine lv_iinc (k := 2) (v := y6) (lv' := [(2, .int y6), (0, rr G v0), (1, .int v1)]) hx hb dX3_span_31 hl rfl (by rw [ey6]; rfl) (by decide) rfl (fun ls hl => ?_)
        refine lv_goto (tgt := 11) hx hb dX3_span_34 (by decide) ?_
        exact ih11 _ _ _ _ _ _ _ hE hW hS (lv_sub hl [1, 2, 0] rfl)
  refine s_aload_n hx hb dX3_span_0 rfl (lv_at hl 0 rfl) ?_
  obtain ⟨x18, hx18, hE⟩ := bd hE
  refine s_gR hx hb hT u_X3 hown hK hW hx18 rfl (by decide) fl_X3_24 rfl dX3_span_1 ?_
  refine lv_ldc (v := (1000000 : Int32)) hx hb hown (hT _ kc_X3_63) dX3_span_4 ?_
  obtain ⟨f19, hf19, hE⟩ := bd hE
  refine s_callS (As := [rr G x18, .int (1000000 : Int32)]) (rest := []) CF hK hW hS (S_J7_fill_53178 l G F hf19) gs_X3_64 hd_J7_fill_53178.2 ⟨Nat.le_of_ble_eq_true rfl, Nat.le_of_ble_eq_true rfl⟩ rfl hl.1 rfl (Nat.le_of_ble_eq_true rfl) dX3_span_6 ⟨Nat.le_refl _, Nat.le_refl _⟩ (fun H locs hW hS => ?_)
  refine lv_iconst (v := (0 : Int32)) hx hb dX3_span_9 (by decide) ?_
  refine lv_istore_n (i := 2) (lv' := [(2, .int (0 : Int32)), (0, rr G u0), (1, .int u1)]) hx hb dX3_span_10 rfl hl (by decide) rfl (fun ls hl => ?_)
  exact hC11 F _ _ _ _ _ _ _ hE hW hS (lv_sub hl [1, 2, 0] rfl)
set_option maxHeartbeats 4000000 in
set_option maxRecDepth 100000 in
theorem S_X3_spanWith (l : Launch) (G : GG) (F : Nat) {u0 : Option Nat} {u1 : Option Nat} {u2 : Option Nat} {u3 : Int32} {f : Hp} {r : Int32} {f' : Hp} {n : Nat} (hE : m_X3_spanWith F u0 u1 u2 u3 f = some (r, f')) : Ctr l G yX3_spanWith cX3_spanWith 6 (some .int) 3 64 [rr G u0, rr G u1, rr G u2, .int u3] f n (some (.int r)) f' n 0 0 := by
  refine Met.ofW (cc := cX3_spanWith) (maxL := 6) (ret := (some .int)) (by decide) rfl ?_
  intro p e s m args below meth c s₁ B hml hv
  obtain ⟨rfl, hK, hW⟩ := hv
  have hx := B.exec
  have hb := B.bytes
  have hr := B.returns
  have hts := atoms_spec (ws := wsO yX3_spanWith cX3_spanWith 6 (some .int)) B.pre
  have hT : ∀ w ∈ TB, w.before [rr G u0, rr G u1, rr G u2, .int u3].toArray s = true := fun w hw => hts w (List.mem_cons_of_mem _ hw)
  have hown : s.vm.findClass RX3 = some m.cls := findClass_of_methodNamed B.named
  have hlocks := B.notSynchronized
  have CF : CallFix p m c cX3_spanWith 6 s [rr G u0, rr G u1, rr G u2, .int u3].toArray TB RX3 := ⟨hx, hb, hml, hown, hT⟩
  have hS : va_S (WA G) s.heap s.heap [] := va_S.rf
  have hl : lv_has (lg_sl ([rr G u0, rr G u1, rr G u2, .int u3]) ++ List.replicate (6 - (lg_sl ([rr G u0, rr G u1, rr G u2, .int u3])).length) Slot.unset).toArray 6 [(0, rr G u0), (1, rr G u1), (2, rr G u2), (3, .int u3)] := by cases u0 <;> cases u1 <;> cases u2 <;> exact lv_entry _ (Nat.le_of_ble_eq_true rfl)
  rw [lg_entry_eq]
  generalize (lg_sl ([rr G u0, rr G u1, rr G u2, .int u3]) ++ List.replicate (6 - (lg_sl ([rr G u0, rr G u1, rr G u2, .int u3])).length) Slot.unset).toArray = ls at hl ⊢
  have hC3 : ∀ (k3 : Nat), ∀ (v0 : Option Nat) (v1 : Option Nat) (v2 : Option Nat) (v3 : Int32) (v4 : Int32) (fa : Hp) (H : Heap) (locs : List Loc) (ls : Array Slot), m_X3_spanWith_L3 F k3 v0 v1 v2 v3 v4 fa = some (r, f') → Wd G fa n H → va_S (WA G) s.heap H locs → lv_has ls 6 [(0, rr G v0), (1, rr G v1), (2, rr G v2), (3, .int v3), (4, .int v4)] → W p l e (headSpec (wsO yX3_spanWith cX3_spanWith 6 (some .int)) { frames := 3, cells := 0, slots := 0, locals := 64 }).room s m [rr G u0, rr G u1, rr G u2, .int u3].toArray below meth c H locs 0 0 (MQ below (Qcn G (some (.int r)) f' n) [rr G u0, rr G u1, rr G u2, .int u3].toArray s 0 0 (WA G)) (F0 m 3 ls []) := by
    intro k3
    induction k3 with
    | zero => intro v0 v1 v2 v3 v4 fa H locs ls hE _ _ _; cases (show (none : Option ((Int32) × Hp)) = some (r, f') from hE)
    | succ k3 ih3 =>
      intro v0 v1 v2 v3 v4 fa H locs ls hE hW hS hl
      replace hE : m_X3_spanWith_b3 F (m_X3_spanWith_L3 F k3) v0 v1 v2 v3 v4 fa = some (r, f') := hE
      refine lv_iload hx hb dX3_spanWith_3 (lv_at hl 4 rfl) ?_
      refine s_aload_n hx hb dX3_spanWith_5 rfl (lv_at hl 0 rfl) ?_
      obtain ⟨x1, hx1, hE⟩ := bd hE
      refine s_gI hx hb hT u_X3 hown hK hW hx1 rfl (by decide) fl_X3_31 rfl dX3_spanWith_6 ?_
      refine lv_icmp_ge (tgt := 64) hx hb dX3_spanWith_9 (by decide) (fun q2 => ?_) (fun q2 => ?_)
      · replace hE := ite_t q2 hE
        refine s_aload_n hx hb dX3_spanWith_64 rfl (lv_at hl 0 rfl) ?_
        refine s_aload_n hx hb dX3_spanWith_65 rfl (lv_at hl 0 rfl) ?_
        obtain ⟨x3, hx3, hE⟩ := bd hE
        refine s_gI hx hb hT u_X3 hown hK hW hx3 rfl (by decide) fl_X3_31 rfl dX3_spanWith_66 ?_
        refine lv_iconst (v := (1 : Int32)) hx hb dX3_spanWith_69 (by decide) ?_
        refine lv_iadd hx hb dX3_spanWith_70 ?_
        obtain ⟨c4, hE⟩ := ck hE
        obtain ⟨x5, f6, hx5, hE⟩ := bd2_of hE
        refine s_callV (As := [.int (x3 + (1 : Int32))]) (rest := []) CF hK hW hS (S_X3_span l G F hx5) c4 rfl gv_X3_51 hd_X3_span ⟨Nat.le_of_ble_eq_true rfl, Nat.le_of_ble_eq_true rfl⟩ rfl hl.1 rfl (Nat.le_of_ble_eq_true rfl) dX3_spanWith_71 ⟨Nat.le_refl _, Nat.le_refl _⟩ (fun H locs hW hS => ?_)
        obtain ⟨rfl, rfl⟩ := so2 hE
        exact s_iret hx hb hr hlocks hW hS dX3_spanWith_74
      · replace hE := ite_f q2 hE
        refine lv_iload hx hb dX3_spanWith_12 (lv_at hl 4 rfl) ?_
        refine lv_bipush (v := (9 : Int32)) hx hb dX3_spanWith_14 (by decide) ?_
        refine lv_icmp_ge (tgt := 64) hx hb dX3_spanWith_16 (by decide) (fun q7 => ?_) (fun q7 => ?_)
        · replace hE := ite_t q7 hE
          refine s_aload_n hx hb dX3_spanWith_64 rfl (lv_at hl 0 rfl) ?_
          refine s_aload_n hx hb dX3_spanWith_65 rfl (lv_at hl 0 rfl) ?_
          obtain ⟨x8, hx8, hE⟩ := bd hE
          refine s_gI hx hb hT u_X3 hown hK hW hx8 rfl (by decide) fl_X3_31 rfl dX3_spanWith_66 ?_
          refine lv_iconst (v := (1 : Int32)) hx hb dX3_spanWith_69 (by decide) ?_
          refine lv_iadd hx hb dX3_spanWith_70 ?_
          obtain ⟨c9, hE⟩ := ck hE
          obtain ⟨x10, f11, hx10, hE⟩ := bd2_of hE
          refine s_callV (As := [.int (x8 + (1 : Int32))]) (rest := []) CF hK hW hS (S_X3_span l G F hx10) c9 rfl gv_X3_51 hd_X3_span ⟨Nat.le_of_ble_eq_true rfl, Nat.le_of_ble_eq_true rfl⟩ rfl hl.1 rfl (Nat.le_of_ble_eq_true rfl) dX3_spanWith_71 ⟨Nat.le_refl _, Nat.le_refl _⟩ (fun H locs hW hS => ?_)
          obtain ⟨rfl, rfl⟩ := so2 hE
          exact s_iret hx hb hr hlocks hW hS dX3_spanWith_74
        · replace hE := ite_f q7 hE
          refine s_aload_n hx hb dX3_spanWith_19 rfl (lv_at hl 1 rfl) ?_
          refine s_aload_n hx hb dX3_spanWith_20 rfl (lv_at hl 0 rfl) ?_
          obtain ⟨x12, hx12, hE⟩ := bd hE
          refine s_gR hx hb hT u_X3 hown hK hW hx12 rfl (by decide) fl_X3_11 rfl dX3_spanWith_21 ?_
          refine lv_iload hx hb dX3_spanWith_24 (lv_at hl 4 rfl) ?_
          obtain ⟨x13, hx13, hE⟩ := bd hE
          refine s_ldI hx hb hK hW hS hx13 dX3_spanWith_26 ?_
          obtain ⟨c14, hE⟩ := ck hE
          obtain ⟨x15, hx15, hE⟩ := bd hE
          refine s_callV (As := [.int x13]) (rest := []) CF hK hW hS (S_X4_copyAt l G F hx15) c14 rfl gv_X3_35 hd_X4_copyAt ⟨Nat.le_of_ble_eq_true rfl, Nat.le_of_ble_eq_true rfl⟩ rfl hl.1 rfl (Nat.le_of_ble_eq_true rfl) dX3_spanWith_27 ⟨Nat.le_refl _, Nat.le_refl _⟩ (fun H locs hW hS => ?_)
          refine s_astore (lv' := [(5, rr G x15), (0, rr G v0), (1, rr G v1), (2, rr G v2), (3, .int v3), (4, .int v4)]) hx hb dX3_spanWith_30 hl (by decide) rfl (fun ls hl => ?_)
          refine s_aload_n hx hb dX3_spanWith_32 rfl (lv_at hl 1 rfl) ?_
          refine s_aload_n hx hb dX3_spanWith_33 rfl (lv_at hl 1 rfl) ?_
          obtain ⟨x16, hx16, hE⟩ := bd hE
          refine s_gI hx hb hT u_X3 hown hK hW hx16 rfl (by decide) fl_X3_31 rfl dX3_spanWith_34 ?_
          refine lv_iload hx hb dX3_spanWith_37 (lv_at hl 5 rfl) ?_
          refine s_aload hx hb dX3_spanWith_39 (lv_at hl 0 rfl) ?_
          refine s_ifnonnull (tgt := 48) hx hb dX3_spanWith_41 (by decide) (fun q17 => ?_) (fun q17 => ?_)
          · replace hE := ite_f q17 hE
            refine s_aload_n hx hb dX3_spanWith_48 rfl (lv_at hl 3 rfl) ?_
            refine lv_iload_n hx hb dX3_spanWith_49 rfl (lv_at hl 4 rfl) ?_
            refine s_aload hx hb dX3_spanWith_50 (lv_at hl 0 rfl) ?_
            obtain ⟨c18, hE⟩ := ck hE
            obtain ⟨x19, hx19, hE⟩ := bd hE
            refine s_callV (As := [.int v3, rr G x15]) (rest := [.int v4, .int x16, rr G v0]) CF hK hW hS (S_X6_farTo l G F hx19) c18 rfl gv_X3_58 hd_X6_farTo ⟨Nat.le_of_ble_eq_true rfl, Nat.le_of_ble_eq_true rfl⟩ rfl hl.1 rfl (Nat.le_of_ble_eq_true rfl) dX3_spanWith_52 ⟨Nat.le_refl _, Nat.le_refl _⟩ (fun H locs hW hS => ?_)
            obtain ⟨c20, hE⟩ := ck hE
            obtain ⟨f21, hf21, hE⟩ := bd hE
            refine s_callV (As := [.int x16, .int v4, .int x19]) (rest := []) CF hK hW hS (S_X3_putFar l G F hf21) c20 rfl gv_X3_47 hd_X3_putFar ⟨Nat.le_of_ble_eq_true rfl, Nat.le_of_ble_eq_true rfl⟩ rfl hl.1 rfl (Nat.le_of_ble_eq_true rfl) dX3_spanWith_55 ⟨Nat.le_refl _, Nat.le_refl _⟩ (fun H locs hW hS => ?_)
            obtain ⟨y22, ey22⟩ : ∃ y : Int32, y = v4 + (1 : Int32) := ⟨_, rfl⟩
            replace hE := nm_o ey22 hE
            refine lv_iinc (k := 5) (v := y22) (lv' := [(4, .int y22), (5, rr G x15), (0, rr G v0), (1, rr G v1), (2, rr G v2), (3, .int v3)]) hx hb dX3_spanWith_58 hl rfl (by rw [ey22]; rfl) (by decide) rfl (fun ls hl => ?_)
            refine lv_goto (tgt := 3) hx hb dX3_spanWith_61 (by decide) ?_
            exact ih3 _ _ _ _ _ _ _ _ _ hE hW hS (lv_sub hl [2, 3, 4, 5, 0] rfl)
          · replace hE := ite_t q17 hE
            refine lv_iconst (v := (0 : Int32)) hx hb dX3_spanWith_44 (by decide) ?_
            refine lv_goto (tgt := 55) hx hb dX3_spanWith_45 (by decide) ?_
            obtain ⟨c23, hE⟩ := ck hE
            obtain ⟨f24, hf24, hE⟩ := bd hE
            refine s_callV (As := [.int x16, .int v4, .int (0 : Int32)]) (rest := []) CF hK hW hS (S_X3_putFar l G F hf24) c23 rfl gv_X3_47 hd_X3_putFar ⟨Nat.le_of_ble_eq_true rfl, Nat.le_of_ble_eq_true rfl⟩ rfl hl.1 rfl (Nat.le_of_ble_eq_true rfl) dX3_spanWith_55 ⟨Nat.le_refl _, Nat.le_refl _⟩ (fun H locs hW hS => ?_)
            obtain ⟨y25, ey25⟩ : ∃ y : Int32, y = v4 + (1 : Int32) := ⟨_, rfl⟩
            replace hE := nm_o ey25 hE
            refine lv_iinc (k := 5) (v := y25) (lv' := [(4, .int y25), (5, rr G x15), (0, rr G v0), (1, rr G v1), (2, rr G v2), (3, .int v3)]) hx hb dX3_spanWith_58 hl rfl (by rw [ey25]; rfl) (by decide) rfl (fun ls hl => ?_)
            refine lv_goto (tgt := 3) hx hb dX3_spanWith_61 (by decide) ?_
            exact ih3 _ _ _ _ _ _ _ _ _ hE hW hS (lv_sub hl [2, 3, 4, 5, 0] rfl)
  refine lv_iconst (v := (0 : Int32)) hx hb dX3_spanWith_0 (by decide) ?_
  refine lv_istore (lv' := [(4, .int (0 : Int32)), (0, rr G u0), (1, rr G u1), (2, rr G u2), (3, .int u3)]) hx hb dX3_spanWith_1 hl (by decide) rfl (fun ls hl => ?_)
  exact hC3 F _ _ _ _ _ _ _ _ _ hE hW hS (lv_sub hl [1, 2, 3, 4, 0] rfl)
set_option maxHeartbeats 4000000 in
set_option maxRecDepth 100000 in
theorem S_X11_missing (l : Launch) (G : GG) (F : Nat) {u0 : Option Nat} {u1 : Int32} {f : Hp} {r : Int32} {f' : Hp} {n n2 z z2 : Nat} (hE : m_X11_missing F u0 u1 f n z = some (r, f', n2, z2)) : Ctr l G yX11_missing cX11_missing 7 (some .int) 5 118 [rr G u0, .int u1] f n (some (.int r)) f' n2 (n2 - n) (z2 - z) := by
  refine Met.ofW (cc := cX11_missing) (maxL := 7) (ret := (some .int)) (by decide) rfl ?_
  intro p e s m args below meth c s₁ B hml hv
  obtain ⟨rfl, hK, hW⟩ := hv
  have hx := B.exec
  have hb := B.bytes
  have hr := B.returns
  have hts := atoms_spec (ws := wsO yX11_missing cX11_missing 7 (some .int)) B.pre
  have hT : ∀ w ∈ TB, w.before [rr G u0, .int u1].toArray s = true := fun w hw => hts w (List.mem_cons_of_mem _ hw)
  have hown : s.vm.findClass RX11 = some m.cls := findClass_of_methodNamed B.named
  have hlocks := B.notSynchronized
  have CF : CallFix p m c cX11_missing 7 s [rr G u0, .int u1].toArray TB RX11 := ⟨hx, hb, hml, hown, hT⟩
  have hS : va_S (WA G) s.heap s.heap [] := va_S.rf
  have hl : lv_has (lg_sl ([rr G u0, .int u1]) ++ List.replicate (7 - (lg_sl ([rr G u0, .int u1])).length) Slot.unset).toArray 7 [(0, rr G u0), (1, .int u1)] := by cases u0 <;> exact lv_entry _ (Nat.le_of_ble_eq_true rfl)
  rw [lg_entry_eq]
  generalize (lg_sl ([rr G u0, .int u1]) ++ List.replicate (7 - (lg_sl ([rr G u0, .int u1])).length) Slot.unset).toArray = ls at hl ⊢
  have hC105 : ∀ (v1 : Int32) (v3 : Int32) (v4 : Int32) (fa : Hp) (na za : Nat) (H : Heap) (locs : List Loc) (ls : Array Slot), n ≤ na → z ≤ za → m_X11_missing_B105 F v1 v3 v4 fa na za = some (r, f', n2, z2) → Wd G fa na H → va_S (WA G) s.heap H locs → lv_has ls 7 [(1, .int v1), (3, .int v3), (4, .int v4)] → W p l e (headSpec (wsO yX11_missing cX11_missing 7 (some .int)) { frames := 5, cells := (n2 - n), slots := (z2 - z), locals := 118 }).room s m [rr G u0, .int u1].toArray below meth c H locs (na - n) (za - z) (MQ below (Qcn G (some (.int r)) f' n2) [rr G u0, .int u1].toArray s (n2 - n) (z2 - z) (WA G)) (F0 m 105 ls []) := by
    intro v1 v3 v4 fa na za H locs ls hna hza hE hW hS hl
    refine lv_iload hx hb dX11_missing_105 (lv_at hl 2 rfl) ?_
    refine lv_iconst (v := (-1 : Int32)) hx hb dX11_missing_107 (by decide) ?_
    refine lv_icmp_eq (tgt := 115) hx hb dX11_missing_108 (by decide) (fun q12 => ?_) (fun q12 => ?_)
    · replace hE := ite_t q12 hE
      refine lv_iload hx hb dX11_missing_115 (lv_at hl 2 rfl) ?_
      refine lv_goto (tgt := 121) hx hb dX11_missing_117 (by decide) ?_
      obtain ⟨rfl, rfl, rfl, rfl⟩ := so4 hE
      exact s_iret hx hb hr hlocks hW hS dX11_missing_121
    · replace hE := ite_f q12 hE
      refine lv_iload_n hx hb dX11_missing_111 rfl (lv_at hl 0 rfl) ?_
      refine lv_if_ne (tgt := 120) hx hb dX11_missing_112 (by decide) (fun q13 => ?_) (fun q13 => ?_)
      · replace hE := ite_f q13 hE
        refine lv_iload_n hx hb dX11_missing_120 rfl (lv_at hl 1 rfl) ?_
        obtain ⟨rfl, rfl, rfl, rfl⟩ := so4 hE
        exact s_iret hx hb hr hlocks hW hS dX11_missing_121
      · replace hE := ite_t q13 hE
        refine lv_iload hx hb dX11_missing_115 (lv_at hl 2 rfl) ?_
        refine lv_goto (tgt := 121) hx hb dX11_missing_117 (by decide) ?_
        obtain ⟨rfl, rfl, rfl, rfl⟩ := so4 hE
        exact s_iret hx hb hr hlocks hW hS dX11_missing_121
  have hC61 : ∀ (k61 : Nat), ∀ (v0 : Option Nat) (v1 : Int32) (v2 : Option Nat) (v3 : Int32) (v4 : Int32) (v5 : Int32) (fa : Hp) (na za : Nat) (H : Heap) (locs : List Loc) (ls : Array Slot), n ≤ na → z ≤ za → m_X11_missing_L61 F k61 v0 v1 v2 v3 v4 v5 fa na za = some (r, f', n2, z2) → Wd G fa na H → va_S (WA G) s.heap H locs → lv_has ls 7 [(0, rr G v0), (1, .int v1), (2, rr G v2), (3, .int v3), (4, .int v4), (5, .int v5)] → W p l e (headSpec (wsO yX11_missing cX11_missing 7 (some .int)) { frames := 5, cells := (n2 - n), slots := (z2 - z), locals := 118 }).room s m [rr G u0, .int u1].toArray below meth c H locs (na - n) (za - z) (MQ below (Qcn G (some (.int r)) f' n2) [rr G u0, .int u1].toArray s (n2 - n) (z2 - z) (WA G)) (F0 m 61 ls []) := by
    intro k61
    induction k61 with
    | zero => intro v0 v1 v2 v3 v4 v5 fa na za H locs ls hna hza hE _ _ _; cases (show (none : Option ((Int32) × Hp × Nat × Nat)) = some (r, f', n2, z2) from hE)
    | succ k61 ih61 =>
      intro v0 v1 v2 v3 v4 v5 fa na za H locs ls hna hza hE hW hS hl
      replace hE : m_X11_missing_b61 F (m_X11_missing_L61 F k61) v0 v1 v2 v3 v4 v5 fa na za = some (r, f', n2, z2) := hE
      refine lv_iload hx hb dX11_missing_61 (lv_at hl 5 rfl) ?_
      refine s_aload_n hx hb dX11_missing_63 rfl (lv_at hl 2 rfl) ?_
      obtain ⟨x1, hx1, hE⟩ := bd hE
      refine s_gI hx hb hT u_X6 hown hK hW hx1 rfl (by decide) fl_X11_199 rfl dX11_missing_64 ?_
      refine lv_icmp_ge (tgt := 105) hx hb dX11_missing_67 (by decide) (fun q2 => ?_) (fun q2 => ?_)
      · replace hE := ite_t q2 hE
        exact hC105 _ _ _ _ _ _ _ _ _ (by omega) (by omega) hE hW hS (lv_sub hl [1, 3, 4] rfl)
      · replace hE := ite_f q2 hE
        refine s_aload_n hx hb dX11_missing_70 rfl (lv_at hl 0 rfl) ?_
        obtain ⟨x3, hx3, hE⟩ := bd hE
        refine s_gR hx hb hT u_X11 hown hK hW hx3 rfl (by decide) fl_X11_68 rfl dX11_missing_71 ?_
        refine s_aload_n hx hb dX11_missing_74 rfl (lv_at hl 0 rfl) ?_
        obtain ⟨x4, hx4, hE⟩ := bd hE
        refine s_gR hx hb hT u_X11 hown hK hW hx4 rfl (by decide) fl_X11_16 rfl dX11_missing_75 ?_
        refine s_aload_n hx hb dX11_missing_78 rfl (lv_at hl 2 rfl) ?_
        refine lv_iload hx hb dX11_missing_79 (lv_at hl 5 rfl) ?_
        obtain ⟨c5, hE⟩ := ck hE
        obtain ⟨g6a, g6b, hE⟩ := grow_of hE
        replace g6a : na ≤ n2 := g6a
        replace g6b : za ≤ z2 := g6b
        obtain ⟨x7, f8, hx7, hE⟩ := bd2_of hE
        refine s_callV (As := [rr G x4, rr G v2, .int v5]) (rest := []) CF hK hW hS (S_X3_spanWith l G F hx7) c5 rfl gv_X11_231 hd_X3_spanWith ⟨Nat.le_of_ble_eq_true rfl, Nat.le_of_ble_eq_true rfl⟩ rfl hl.1 rfl (Nat.le_of_ble_eq_true rfl) dX11_missing_81 ⟨show na - n + 0 ≤ n2 - n by omega, show za - z + 0 ≤ z2 - z by omega⟩ (fun H locs hW hS => ?_)
        refine lv_istore (lv' := [(6, .int x7), (0, rr G v0), (1, .int v1), (2, rr G v2), (3, .int v3), (4, .int v4), (5, .int v5)]) hx hb dX11_missing_84 hl (by decide) rfl (fun ls hl => ?_)
        refine lv_iload hx hb dX11_missing_86 (lv_at hl 0 rfl) ?_
        refine lv_iload_n hx hb dX11_missing_88 rfl (lv_at hl 4 rfl) ?_
        refine lv_icmp_ge (tgt := 99) hx hb dX11_missing_89 (by decide) (fun q9 => ?_) (fun q9 => ?_)
        · replace hE := ite_t q9 hE
          obtain ⟨y10, ey10⟩ : ∃ y : Int32, y = v5 + (1 : Int32) := ⟨_, rfl⟩
          replace hE := nm_o ey10 hE
          refine lv_iinc (k := 6) (v := y10) (lv' := [(5, .int y10), (6, .int x7), (0, rr G v0), (1, .int v1), (2, rr G v2), (3, .int v3), (4, .int v4)]) hx hb dX11_missing_99 hl rfl (by rw [ey10]; rfl) (by decide) rfl (fun ls hl => ?_)
          refine lv_goto (tgt := 61) hx hb dX11_missing_102 (by decide) ?_
          exact ih61 _ _ _ _ _ _ _ _ _ _ _ _ (by omega) (by omega) hE hW hS (lv_sub hl [2, 3, 4, 5, 6, 0] rfl)
        · replace hE := ite_f q9 hE
          refine lv_iload hx hb dX11_missing_92 (lv_at hl 0 rfl) ?_
          refine lv_istore_n (i := 3) (lv' := [(3, .int x7), (6, .int x7), (0, rr G v0), (1, .int v1), (2, rr G v2), (4, .int v4), (5, .int v5)]) hx hb dX11_missing_94 rfl hl (by decide) (by simp [cat_rr]) (fun ls hl => ?_)
          refine lv_iload hx hb dX11_missing_95 (lv_at hl 6 rfl) ?_
          refine lv_istore (lv' := [(4, .int v5), (3, .int x7), (6, .int x7), (0, rr G v0), (1, .int v1), (2, rr G v2), (5, .int v5)]) hx hb dX11_missing_97 hl (by decide) rfl (fun ls hl => ?_)
          obtain ⟨y11, ey11⟩ : ∃ y : Int32, y = v5 + (1 : Int32) := ⟨_, rfl⟩
          replace hE := nm_o ey11 hE
          refine lv_iinc (k := 6) (v := y11) (lv' := [(5, .int y11), (4, .int v5), (3, .int x7), (6, .int x7), (0, rr G v0), (1, .int v1), (2, rr G v2)]) hx hb dX11_missing_99 hl rfl (by rw [ey11]; rfl) (by decide) rfl (fun ls hl => ?_)
          refine lv_goto (tgt := 61) hx hb dX11_missing_102 (by decide) ?_
          exact ih61 _ _ _ _ _ _ _ _ _ _ _ _ (by omega) (by omega) hE hW hS (lv_sub hl [4, 5, 6, 2, 1, 0] rfl)
  refine W.cs (cells' := n - n) (slots' := z - z) (by omega) (by omega) ?_
  refine lv_iload_n hx hb dX11_missing_0 rfl (lv_at hl 1 rfl) ?_
  refine lv_if_lt (tgt := 33) hx hb dX11_missing_1 (by decide) (fun q14 => ?_) (fun q14 => ?_)
  · replace hE := ite_t q14 hE
    refine lv_iconst (v := (-1 : Int32)) hx hb dX11_missing_33 (by decide) ?_
    obtain ⟨rfl, rfl, rfl, rfl⟩ := so4 hE
    exact s_iret hx hb hr hlocks hW hS dX11_missing_34
  · replace hE := ite_f q14 hE
    refine lv_iload_n hx hb dX11_missing_4 rfl (lv_at hl 1 rfl) ?_
    refine lv_iconst (v := (1 : Int32)) hx hb dX11_missing_5 (by decide) ?_
    refine lv_icmp_gt (tgt := 33) hx hb dX11_missing_6 (by decide) (fun q15 => ?_) (fun q15 => ?_)
    · replace hE := ite_t q15 hE
      refine lv_iconst (v := (-1 : Int32)) hx hb dX11_missing_33 (by decide) ?_
      obtain ⟨rfl, rfl, rfl, rfl⟩ := so4 hE
      exact s_iret hx hb hr hlocks hW hS dX11_missing_34
    · replace hE := ite_f q15 hE
      refine s_aload_n hx hb dX11_missing_9 rfl (lv_at hl 0 rfl) ?_
      obtain ⟨x16, hx16, hE⟩ := bd hE
      refine s_gR hx hb hT u_X11 hown hK hW hx16 rfl (by decide) fl_X11_68 rfl dX11_missing_10 ?_
      obtain ⟨x17, hx17, hE⟩ := bd hE
      refine s_gI hx hb hT u_X3 hown hK hW hx17 rfl (by decide) fl_X11_225 rfl dX11_missing_13 ?_
      refine lv_if_eq (tgt := 33) hx hb dX11_missing_16 (by decide) (fun q18 => ?_) (fun q18 => ?_)
      · replace hE := ite_t q18 hE
        refine lv_iconst (v := (-1 : Int32)) hx hb dX11_missing_33 (by decide) ?_
        obtain ⟨rfl, rfl, rfl, rfl⟩ := so4 hE
        exact s_iret hx hb hr hlocks hW hS dX11_missing_34
      · replace hE := ite_f q18 hE
        refine s_aload_n hx hb dX11_missing_19 rfl (lv_at hl 0 rfl) ?_
        obtain ⟨x19, hx19, hE⟩ := bd hE
        refine s_gR hx hb hT u_X11 hown hK hW hx19 rfl (by decide) fl_X11_68 rfl dX11_missing_20 ?_
        refine s_aload_n hx hb dX11_missing_23 rfl (lv_at hl 0 rfl) ?_
        obtain ⟨x20, hx20, hE⟩ := bd hE
        refine s_gR hx hb hT u_X11 hown hK hW hx20 rfl (by decide) fl_X11_16 rfl dX11_missing_24 ?_
        obtain ⟨c21, hE⟩ := ck hE
        obtain ⟨g22a, g22b, hE⟩ := grow_of hE
        replace g22a : n ≤ n2 := g22a
        replace g22b : z ≤ z2 := g22b
        obtain ⟨x23, f24, hx23, hE⟩ := bd2_of hE
        refine s_callV (As := [rr G x20]) (rest := []) CF hK hW hS (S_X3_measure l G F hx23) c21 rfl gv_X11_215 hd_X3_measure ⟨Nat.le_of_ble_eq_true rfl, Nat.le_of_ble_eq_true rfl⟩ rfl hl.1 rfl (Nat.le_of_ble_eq_true rfl) dX11_missing_27 ⟨show n - n + 0 ≤ n2 - n by omega, show z - z + 0 ≤ z2 - z by omega⟩ (fun H locs hW hS => ?_)
        refine lv_if_ne (tgt := 35) hx hb dX11_missing_30 (by decide) (fun q25 => ?_) (fun q25 => ?_)
        · replace hE := ite_f q25 hE
          refine s_aload_n hx hb dX11_missing_35 rfl (lv_at hl 0 rfl) ?_
          obtain ⟨c26, hE⟩ := ck hE
          obtain ⟨x30, f29, nq27, zq28, hf29, hE⟩ := bd4_of hE
          obtain ⟨c31, hE⟩ := ck hE
          replace c31 := of_decide_eq_true c31
          obtain ⟨g32a, g32b, hE⟩ := grow_of hE
          replace g32a : nq27 ≤ n2 := g32a
          replace g32b : zq28 ≤ z2 := g32b
          refine s_callV (As := []) (rest := []) CF hK hW hS (S_X11_orders l G F hf29) c26 rfl gv_X11_145 hd_X11_orders ⟨Nat.le_of_ble_eq_true rfl, Nat.le_of_ble_eq_true rfl⟩ rfl hl.1 rfl (Nat.le_of_ble_eq_true rfl) dX11_missing_36 ⟨show n - n + (nq27 - (n)) ≤ n2 - n by omega, show z - z + (zq28 - (z)) ≤ z2 - z by omega⟩ (fun H locs hW hS => ?_)
          refine W.cs (cells' := nq27 - n) (slots' := zq28 - z) (by omega) (by omega) ?_
          refine s_astore_n (i := 2) (lv' := [(2, rr G x30), (0, rr G u0), (1, .int u1)]) hx hb dX11_missing_39 rfl hl (by decide) rfl (fun ls hl => ?_)
          refine s_aload_n hx hb dX11_missing_40 rfl (lv_at hl 1 rfl) ?_
          obtain ⟨x33, hx33, hE⟩ := bd hE
          refine s_gR hx hb hT u_X11 hown hK hW hx33 rfl (by decide) fl_X11_68 rfl dX11_missing_41 ?_
          refine s_aload_n hx hb dX11_missing_44 rfl (lv_at hl 1 rfl) ?_
          obtain ⟨x34, hx34, hE⟩ := bd hE
          refine s_gR hx hb hT u_X11 hown hK hW hx34 rfl (by decide) fl_X11_68 rfl dX11_missing_45 ?_
          obtain ⟨x35, hx35, hE⟩ := bd hE
          refine s_gI hx hb hT u_X3 hown hK hW hx35 rfl (by decide) fl_X11_225 rfl dX11_missing_48 ?_
          obtain ⟨c36, hE⟩ := ck hE
          obtain ⟨g37a, g37b, hE⟩ := grow_of hE
          replace g37a : nq27 ≤ n2 := g37a
          replace g37b : zq28 ≤ z2 := g37b
          obtain ⟨x38, f39, hx38, hE⟩ := bd2_of hE
          refine s_callV (As := [.int x35]) (rest := []) CF hK hW hS (S_X3_span l G F hx38) c36 rfl gv_X11_228 hd_X3_span ⟨Nat.le_of_ble_eq_true rfl, Nat.le_of_ble_eq_true rfl⟩ rfl hl.1 rfl (Nat.le_of_ble_eq_true rfl) dX11_missing_51 ⟨show nq27 - n + 0 ≤ n2 - n by omega, show zq28 - z + 0 ≤ z2 - z by omega⟩ (fun H locs hW hS => ?_)
          refine lv_istore_n (i := 3) (lv' := [(3, .int x38), (2, rr G x30), (0, rr G u0), (1, .int u1)]) hx hb dX11_missing_54 rfl hl (by decide) (by simp [cat_rr]) (fun ls hl => ?_)
          refine lv_iconst (v := (-1 : Int32)) hx hb dX11_missing_55 (by decide) ?_
          refine lv_istore (lv' := [(4, .int (-1 : Int32)), (3, .int x38), (2, rr G x30), (0, rr G u0), (1, .int u1)]) hx hb dX11_missing_56 hl (by decide) rfl (fun ls hl => ?_)
          refine lv_iconst (v := (0 : Int32)) hx hb dX11_missing_58 (by decide) ?_
          refine lv_istore (lv' := [(5, .int (0 : Int32)), (4, .int (-1 : Int32)), (3, .int x38), (2, rr G x30), (0, rr G u0), (1, .int u1)]) hx hb dX11_missing_59 hl (by decide) rfl (fun ls hl => ?_)
          exact hC61 F _ _ _ _ _ _ _ _ _ _ _ _ (by omega) (by omega) hE hW hS (lv_sub hl [4, 5, 3, 2, 1, 0] rfl)
        · replace hE := ite_t q25 hE
          refine lv_iconst (v := (-1 : Int32)) hx hb dX11_missing_33 (by decide) ?_
          obtain ⟨rfl, rfl, rfl, rfl⟩ := so4 hE
          exact s_iret hx hb hr hlocks hW hS dX11_missing_34
set_option maxHeartbeats 4000000 in
set_option maxRecDepth 100000 in
theorem S_X11_nearest (l : Launch) (G : GG) (F : Nat) {u0 : Option Nat} {u1 : Int32} {u2 : Int32} {f : Hp} {r : Int32} {f' : Hp} {n n2 z z2 : Nat} (hE : m_X11_nearest F u0 u1 u2 f n z = some (r, f', n2, z2)) : Ctr l G yX11_nearest cX11_nearest 7 (some .int) 5 118 [rr G u0, .int u1, .int u2] f n (some (.int r)) f' n2 (n2 - n) (z2 - z) := by
  refine Met.ofW (cc := cX11_nearest) (maxL := 7) (ret := (some .int)) (by decide) rfl ?_
  intro p e s m args below meth c s₁ B hml hv
  obtain ⟨rfl, hK, hW⟩ := hv
  have hx := B.exec
  have hb := B.bytes
  have hr := B.returns
  have hts := atoms_spec (ws := wsO yX11_nearest cX11_nearest 7 (some .int)) B.pre
  have hT : ∀ w ∈ TB, w.before [rr G u0, .int u1, .int u2].toArray s = true := fun w hw => hts w (List.mem_cons_of_mem _ hw)
  have hown : s.vm.findClass RX11 = some m.cls := findClass_of_methodNamed B.named
  have hlocks := B.notSynchronized
  have CF : CallFix p m c cX11_nearest 7 s [rr G u0, .int u1, .int u2].toArray TB RX11 := ⟨hx, hb, hml, hown, hT⟩
  have hS : va_S (WA G) s.heap s.heap [] := va_S.rf
  have hl : lv_has (lg_sl ([rr G u0, .int u1, .int u2]) ++ List.replicate (7 - (lg_sl ([rr G u0, .int u1, .int u2])).length) Slot.unset).toArray 7 [(0, rr G u0), (1, .int u1), (2, .int u2)] := by cases u0 <;> exact lv_entry _ (Nat.le_of_ble_eq_true rfl)
  rw [lg_entry_eq]
  generalize (lg_sl ([rr G u0, .int u1, .int u2]) ++ List.replicate (7 - (lg_sl ([rr G u0, .int u1, .int u2])).length) Slot.unset).toArray = ls at hl ⊢
  have hC123 : ∀ (v2 : Int32) (v5 : Int32) (fa : Hp) (na za : Nat) (H : Heap) (locs : List Loc) (ls : Array Slot), n ≤ na → z ≤ za → m_X11_nearest_B123 F v2 v5 fa na za = some (r, f', n2, z2) → Wd G fa na H → va_S (WA G) s.heap H locs → lv_has ls 7 [(2, .int v2), (5, .int v5)] → W p l e (headSpec (wsO yX11_nearest cX11_nearest 7 (some .int)) { frames := 5, cells := (n2 - n), slots := (z2 - z), locals := 118 }).room s m [rr G u0, .int u1, .int u2].toArray below meth c H locs (na - n) (za - z) (MQ below (Qcn G (some (.int r)) f' n2) [rr G u0, .int u1, .int u2].toArray s (n2 - n) (z2 - z) (WA G)) (F0 m 123 ls []) := by
    intro v2 v5 fa na za H locs ls hna hza hE hW hS hl
    refine lv_iload_n hx hb dX11_nearest_123 rfl (lv_at hl 0 rfl) ?_
    refine lv_iconst (v := (-1 : Int32)) hx hb dX11_nearest_124 (by decide) ?_
    refine lv_icmp_ne (tgt := 133) hx hb dX11_nearest_125 (by decide) (fun q20 => ?_) (fun q20 => ?_)
    · replace hE := ite_f q20 hE
      refine lv_iconst (v := (-1 : Int32)) hx hb dX11_nearest_133 (by decide) ?_
      obtain ⟨rfl, rfl, rfl, rfl⟩ := so4 hE
      exact s_iret hx hb hr hlocks hW hS dX11_nearest_134
    · replace hE := ite_t q20 hE
      refine lv_iload hx hb dX11_nearest_128 (lv_at hl 1 rfl) ?_
      refine lv_goto (tgt := 134) hx hb dX11_nearest_130 (by decide) ?_
      obtain ⟨rfl, rfl, rfl, rfl⟩ := so4 hE
      exact s_iret hx hb hr hlocks hW hS dX11_nearest_134
  have hC83 : ∀ (k83 : Nat), ∀ (v0 : Option Nat) (v1 : Int32) (v2 : Int32) (v3 : Option Nat) (v4 : Int32) (v5 : Int32) (v6 : Int32) (fa : Hp) (na za : Nat) (H : Heap) (locs : List Loc) (ls : Array Slot), n ≤ na → z ≤ za → m_X11_nearest_L83 F k83 v0 v1 v2 v3 v4 v5 v6 fa na za = some (r, f', n2, z2) → Wd G fa na H → va_S (WA G) s.heap H locs → lv_has ls 7 [(0, rr G v0), (1, .int v1), (2, .int v2), (3, rr G v3), (4, .int v4), (5, .int v5), (6, .int v6)] → W p l e (headSpec (wsO yX11_nearest cX11_nearest 7 (some .int)) { frames := 5, cells := (n2 - n), slots := (z2 - z), locals := 118 }).room s m [rr G u0, .int u1, .int u2].toArray below meth c H locs (na - n) (za - z) (MQ below (Qcn G (some (.int r)) f' n2) [rr G u0, .int u1, .int u2].toArray s (n2 - n) (z2 - z) (WA G)) (F0 m 83 ls []) := by
    intro k83
    induction k83 with
    | zero => intro v0 v1 v2 v3 v4 v5 v6 fa na za H locs ls hna hza hE _ _ _; cases (show (none : Option ((Int32) × Hp × Nat × Nat)) = some (r, f', n2, z2) from hE)
    | succ k83 ih83 =>
      intro v0 v1 v2 v3 v4 v5 v6 fa na za H locs ls hna hza hE hW hS hl
      replace hE : m_X11_nearest_b83 F (m_X11_nearest_L83 F k83) v0 v1 v2 v3 v4 v5 v6 fa na za = some (r, f', n2, z2) := hE
      refine lv_iload hx hb dX11_nearest_83 (lv_at hl 6 rfl) ?_
      refine s_aload_n hx hb dX11_nearest_85 rfl (lv_at hl 3 rfl) ?_
      obtain ⟨x10, hx10, hE⟩ := bd hE
      refine s_gI hx hb hT u_X6 hown hK hW hx10 rfl (by decide) fl_X11_199 rfl dX11_nearest_86 ?_
      refine lv_icmp_ge (tgt := 123) hx hb dX11_nearest_89 (by decide) (fun q11 => ?_) (fun q11 => ?_)
      · replace hE := ite_t q11 hE
        exact hC123 _ _ _ _ _ _ _ _ (by omega) (by omega) hE hW hS (lv_sub hl [2, 5] rfl)
      · replace hE := ite_f q11 hE
        refine s_aload_n hx hb dX11_nearest_92 rfl (lv_at hl 0 rfl) ?_
        refine s_aload_n hx hb dX11_nearest_93 rfl (lv_at hl 3 rfl) ?_
        refine lv_iload hx hb dX11_nearest_94 (lv_at hl 6 rfl) ?_
        refine lv_iload_n hx hb dX11_nearest_96 rfl (lv_at hl 1 rfl) ?_
        obtain ⟨c12, hE⟩ := ck hE
        obtain ⟨g13a, g13b, hE⟩ := grow_of hE
        replace g13a : na ≤ n2 := g13a
        replace g13b : za ≤ z2 := g13b
        obtain ⟨x14, hx14, hE⟩ := bd hE
        refine s_callV (As := [rr G v3, .int v6, .int v1]) (rest := []) CF hK hW hS (S_X11_farFromAll l G F hx14) c12 rfl gv_X11_195 hd_X11_farFromAll ⟨Nat.le_of_ble_eq_true rfl, Nat.le_of_ble_eq_true rfl⟩ rfl hl.1 rfl (Nat.le_of_ble_eq_true rfl) dX11_nearest_97 ⟨show na - n + 0 ≤ n2 - n by omega, show za - z + 0 ≤ z2 - z by omega⟩ (fun H locs hW hS => ?_)
        refine lv_iload hx hb dX11_nearest_100 (lv_at hl 4 rfl) ?_
        refine lv_icmp_ne (tgt := 117) hx hb dX11_nearest_102 (by decide) (fun q15 => ?_) (fun q15 => ?_)
        · replace hE := ite_f q15 hE
          obtain ⟨y16, ey16⟩ : ∃ y : Int32, y = v6 + (1 : Int32) := ⟨_, rfl⟩
          replace hE := nm_o ey16 hE
          refine lv_iinc (k := 6) (v := y16) (lv' := [(6, .int y16), (0, rr G v0), (1, .int v1), (2, .int v2), (3, rr G v3), (4, .int v4), (5, .int v5)]) hx hb dX11_nearest_117 hl rfl (by rw [ey16]; rfl) (by decide) rfl (fun ls hl => ?_)
          refine lv_goto (tgt := 83) hx hb dX11_nearest_120 (by decide) ?_
          exact ih83 _ _ _ _ _ _ _ _ _ _ _ _ _ (by omega) (by omega) hE hW hS (lv_sub hl [1, 2, 3, 4, 5, 6, 0] rfl)
        · replace hE := ite_t q15 hE
          refine lv_iload hx hb dX11_nearest_105 (lv_at hl 5 rfl) ?_
          refine lv_iload_n hx hb dX11_nearest_107 rfl (lv_at hl 2 rfl) ?_
          refine lv_icmp_ne (tgt := 114) hx hb dX11_nearest_108 (by decide) (fun q17 => ?_) (fun q17 => ?_)
          · replace hE := ite_f q17 hE
            obtain ⟨y18, ey18⟩ : ∃ y : Int32, y = v5 + (1 : Int32) := ⟨_, rfl⟩
            replace hE := nm_o ey18 hE
            refine lv_iinc (k := 5) (v := y18) (lv' := [(5, .int y18), (0, rr G v0), (1, .int v1), (2, .int v2), (3, rr G v3), (4, .int v4), (6, .int v6)]) hx hb dX11_nearest_114 hl rfl (by rw [ey18]; rfl) (by decide) rfl (fun ls hl => ?_)
            obtain ⟨y19, ey19⟩ : ∃ y : Int32, y = v6 + (1 : Int32) := ⟨_, rfl⟩
            replace hE := nm_o ey19 hE
            refine lv_iinc (k := 6) (v := y19) (lv' := [(6, .int y19), (5, .int y18), (0, rr G v0), (1, .int v1), (2, .int v2), (3, rr G v3), (4, .int v4)]) hx hb dX11_nearest_117 hl rfl (by rw [ey19]; rfl) (by decide) rfl (fun ls hl => ?_)
            refine lv_goto (tgt := 83) hx hb dX11_nearest_120 (by decide) ?_
            exact ih83 _ _ _ _ _ _ _ _ _ _ _ _ _ (by omega) (by omega) hE hW hS (lv_sub hl [2, 3, 4, 5, 6, 1, 0] rfl)
          · replace hE := ite_t q17 hE
            refine lv_iload hx hb dX11_nearest_111 (lv_at hl 6 rfl) ?_
            obtain ⟨rfl, rfl, rfl, rfl⟩ := so4 hE
            exact s_iret hx hb hr hlocks hW hS dX11_nearest_113
  have hC68 : ∀ (v0 : Option Nat) (v1 : Int32) (v2 : Int32) (v3 : Option Nat) (v4 : Int32) (fa : Hp) (na za : Nat) (H : Heap) (locs : List Loc) (ls : Array Slot), n ≤ na → z ≤ za → m_X11_nearest_B68 F v0 v1 v2 v3 v4 fa na za = some (r, f', n2, z2) → Wd G fa na H → va_S (WA G) s.heap H locs → lv_has ls 7 [(0, rr G v0), (1, .int v1), (2, .int v2), (3, rr G v3), (4, .int v4)] → W p l e (headSpec (wsO yX11_nearest cX11_nearest 7 (some .int)) { frames := 5, cells := (n2 - n), slots := (z2 - z), locals := 118 }).room s m [rr G u0, .int u1, .int u2].toArray below meth c H locs (na - n) (za - z) (MQ below (Qcn G (some (.int r)) f' n2) [rr G u0, .int u1, .int u2].toArray s (n2 - n) (z2 - z) (WA G)) (F0 m 68 ls []) := by
    intro v0 v1 v2 v3 v4 fa na za H locs ls hna hza hE hW hS hl
    refine lv_iload_n hx hb dX11_nearest_68 rfl (lv_at hl 2 rfl) ?_
    refine lv_bipush (v := (-2 : Int32)) hx hb dX11_nearest_69 (by decide) ?_
    refine lv_icmp_ne (tgt := 77) hx hb dX11_nearest_71 (by decide) (fun q9 => ?_) (fun q9 => ?_)
    · replace hE := ite_f q9 hE
      refine lv_iconst (v := (0 : Int32)) hx hb dX11_nearest_77 (by decide) ?_
      refine lv_istore (lv' := [(5, .int (0 : Int32)), (0, rr G v0), (1, .int v1), (2, .int v2), (3, rr G v3), (4, .int v4)]) hx hb dX11_nearest_78 hl (by decide) rfl (fun ls hl => ?_)
      refine lv_iconst (v := (0 : Int32)) hx hb dX11_nearest_80 (by decide) ?_
      refine lv_istore (lv' := [(6, .int (0 : Int32)), (5, .int (0 : Int32)), (0, rr G v0), (1, .int v1), (2, .int v2), (3, rr G v3), (4, .int v4)]) hx hb dX11_nearest_81 hl (by decide) rfl (fun ls hl => ?_)
      exact hC83 F _ _ _ _ _ _ _ _ _ _ _ _ _ (by omega) (by omega) hE hW hS (lv_sub hl [2, 3, 4, 5, 6, 1, 0] rfl)
    · replace hE := ite_t q9 hE
      refine lv_iload hx hb dX11_nearest_74 (lv_at hl 4 rfl) ?_
      obtain ⟨rfl, rfl, rfl, rfl⟩ := so4 hE
      exact s_iret hx hb hr hlocks hW hS dX11_nearest_76
  have hC38 : ∀ (k38 : Nat), ∀ (v0 : Option Nat) (v1 : Int32) (v2 : Int32) (v3 : Option Nat) (v4 : Int32) (v5 : Int32) (fa : Hp) (na za : Nat) (H : Heap) (locs : List Loc) (ls : Array Slot), n ≤ na → z ≤ za → m_X11_nearest_L38 F k38 v0 v1 v2 v3 v4 v5 fa na za = some (r, f', n2, z2) → Wd G fa na H → va_S (WA G) s.heap H locs → lv_has ls 7 [(0, rr G v0), (1, .int v1), (2, .int v2), (3, rr G v3), (4, .int v4), (5, .int v5)] → W p l e (headSpec (wsO yX11_nearest cX11_nearest 7 (some .int)) { frames := 5, cells := (n2 - n), slots := (z2 - z), locals := 118 }).room s m [rr G u0, .int u1, .int u2].toArray below meth c H locs (na - n) (za - z) (MQ below (Qcn G (some (.int r)) f' n2) [rr G u0, .int u1, .int u2].toArray s (n2 - n) (z2 - z) (WA G)) (F0 m 38 ls []) := by
    intro k38
    induction k38 with
    | zero => intro v0 v1 v2 v3 v4 v5 fa na za H locs ls hna hza hE _ _ _; cases (show (none : Option ((Int32) × Hp × Nat × Nat)) = some (r, f', n2, z2) from hE)
    | succ k38 ih38 =>
      intro v0 v1 v2 v3 v4 v5 fa na za H locs ls hna hza hE hW hS hl
      replace hE : m_X11_nearest_b38 F (m_X11_nearest_L38 F k38) v0 v1 v2 v3 v4 v5 fa na za = some (r, f', n2, z2) := hE
      refine lv_iload hx hb dX11_nearest_38 (lv_at hl 5 rfl) ?_
      refine s_aload_n hx hb dX11_nearest_40 rfl (lv_at hl 3 rfl) ?_
      obtain ⟨x1, hx1, hE⟩ := bd hE
      refine s_gI hx hb hT u_X6 hown hK hW hx1 rfl (by decide) fl_X11_199 rfl dX11_nearest_41 ?_
      refine lv_icmp_ge (tgt := 68) hx hb dX11_nearest_44 (by decide) (fun q2 => ?_) (fun q2 => ?_)
      · replace hE := ite_t q2 hE
        exact hC68 _ _ _ _ _ _ _ _ _ _ _ (by omega) (by omega) hE hW hS (lv_sub hl [0, 1, 2, 3, 4] rfl)
      · replace hE := ite_f q2 hE
        refine lv_iload hx hb dX11_nearest_47 (lv_at hl 4 rfl) ?_
        refine s_aload_n hx hb dX11_nearest_49 rfl (lv_at hl 0 rfl) ?_
        refine s_aload_n hx hb dX11_nearest_50 rfl (lv_at hl 3 rfl) ?_
        refine lv_iload hx hb dX11_nearest_51 (lv_at hl 5 rfl) ?_
        refine lv_iload_n hx hb dX11_nearest_53 rfl (lv_at hl 1 rfl) ?_
        obtain ⟨c3, hE⟩ := ck hE
        obtain ⟨g4a, g4b, hE⟩ := grow_of hE
        replace g4a : na ≤ n2 := g4a
        replace g4b : za ≤ z2 := g4b
        obtain ⟨x5, hx5, hE⟩ := bd hE
        refine s_callV (As := [rr G v3, .int v5, .int v1]) (rest := [.int v4]) CF hK hW hS (S_X11_farFromAll l G F hx5) c3 rfl gv_X11_195 hd_X11_farFromAll ⟨Nat.le_of_ble_eq_true rfl, Nat.le_of_ble_eq_true rfl⟩ rfl hl.1 rfl (Nat.le_of_ble_eq_true rfl) dX11_nearest_54 ⟨show na - n + 0 ≤ n2 - n by omega, show za - z + 0 ≤ z2 - z by omega⟩ (fun H locs hW hS => ?_)
        obtain ⟨g6a, g6b, hE⟩ := grow_of hE
        replace g6a : na ≤ n2 := g6a
        replace g6b : za ≤ z2 := g6b
        refine s_min hx hb (by rw [hml]; exact hl.1.symm) hT hown mx_X11_202 (Nat.le_of_ble_eq_true rfl) (Nat.le_of_ble_eq_true rfl) (Nat.le_of_ble_eq_true rfl) (show na - n ≤ n2 - n by omega) (show za - z ≤ z2 - z by omega) dX11_nearest_57 ?_
        refine lv_topi (fun y7 ey7 => ?_)
        replace hE := nm_o ey7 hE
        refine lv_istore (lv' := [(4, .int y7), (0, rr G v0), (1, .int v1), (2, .int v2), (3, rr G v3), (5, .int v5)]) hx hb dX11_nearest_60 hl (by decide) (by simp [cat_rr]) (fun ls hl => ?_)
        obtain ⟨y8, ey8⟩ : ∃ y : Int32, y = v5 + (1 : Int32) := ⟨_, rfl⟩
        replace hE := nm_o ey8 hE
        refine lv_iinc (k := 5) (v := y8) (lv' := [(5, .int y8), (4, .int y7), (0, rr G v0), (1, .int v1), (2, .int v2), (3, rr G v3)]) hx hb dX11_nearest_62 hl rfl (by rw [ey8]; rfl) (by decide) rfl (fun ls hl => ?_)
        refine lv_goto (tgt := 38) hx hb dX11_nearest_65 (by decide) ?_
        exact ih38 _ _ _ _ _ _ _ _ _ _ _ _ (by omega) (by omega) hE hW hS (lv_sub hl [2, 3, 4, 5, 1, 0] rfl)
  refine W.cs (cells' := n - n) (slots' := z - z) (by omega) (by omega) ?_
  refine lv_iload_n hx hb dX11_nearest_0 rfl (lv_at hl 1 rfl) ?_
  refine lv_if_lt (tgt := 19) hx hb dX11_nearest_1 (by decide) (fun q21 => ?_) (fun q21 => ?_)
  · replace hE := ite_t q21 hE
    refine lv_iconst (v := (-1 : Int32)) hx hb dX11_nearest_19 (by decide) ?_
    obtain ⟨rfl, rfl, rfl, rfl⟩ := so4 hE
    exact s_iret hx hb hr hlocks hW hS dX11_nearest_20
  · replace hE := ite_f q21 hE
    refine lv_iload_n hx hb dX11_nearest_4 rfl (lv_at hl 1 rfl) ?_
    refine lv_iconst (v := (1 : Int32)) hx hb dX11_nearest_5 (by decide) ?_
    refine lv_icmp_gt (tgt := 19) hx hb dX11_nearest_6 (by decide) (fun q22 => ?_) (fun q22 => ?_)
    · replace hE := ite_t q22 hE
      refine lv_iconst (v := (-1 : Int32)) hx hb dX11_nearest_19 (by decide) ?_
      obtain ⟨rfl, rfl, rfl, rfl⟩ := so4 hE
      exact s_iret hx hb hr hlocks hW hS dX11_nearest_20
    · replace hE := ite_f q22 hE
      refine s_aload_n hx hb dX11_nearest_9 rfl (lv_at hl 0 rfl) ?_
      obtain ⟨x23, hx23, hE⟩ := bd hE
      refine s_gR hx hb hT u_X11 hown hK hW hx23 rfl (by decide) fl_X11_16 rfl dX11_nearest_10 ?_
      obtain ⟨x24, hx24, hE⟩ := bd hE
      refine s_gI hx hb hT u_X4 hown hK hW hx24 rfl (by decide) fl_X11_142 rfl dX11_nearest_13 ?_
      refine lv_if_ne (tgt := 21) hx hb dX11_nearest_16 (by decide) (fun q25 => ?_) (fun q25 => ?_)
      · replace hE := ite_f q25 hE
        refine s_aload_n hx hb dX11_nearest_21 rfl (lv_at hl 0 rfl) ?_
        obtain ⟨c26, hE⟩ := ck hE
        obtain ⟨x30, f29, nq27, zq28, hf29, hE⟩ := bd4_of hE
        obtain ⟨c31, hE⟩ := ck hE
        replace c31 := of_decide_eq_true c31
        obtain ⟨g32a, g32b, hE⟩ := grow_of hE
        replace g32a : nq27 ≤ n2 := g32a
        replace g32b : zq28 ≤ z2 := g32b
        refine s_callV (As := []) (rest := []) CF hK hW hS (S_X11_orders l G F hf29) c26 rfl gv_X11_145 hd_X11_orders ⟨Nat.le_of_ble_eq_true rfl, Nat.le_of_ble_eq_true rfl⟩ rfl hl.1 rfl (Nat.le_of_ble_eq_true rfl) dX11_nearest_22 ⟨show n - n + (nq27 - (n)) ≤ n2 - n by omega, show z - z + (zq28 - (z)) ≤ z2 - z by omega⟩ (fun H locs hW hS => ?_)
        refine W.cs (cells' := nq27 - n) (slots' := zq28 - z) (by omega) (by omega) ?_
        refine s_astore_n (i := 3) (lv' := [(3, rr G x30), (0, rr G u0), (1, .int u1), (2, .int u2)]) hx hb dX11_nearest_25 rfl hl (by decide) rfl (fun ls hl => ?_)
        refine s_aload_n hx hb dX11_nearest_26 rfl (lv_at hl 1 rfl) ?_
        refine s_aload_n hx hb dX11_nearest_27 rfl (lv_at hl 0 rfl) ?_
        refine lv_iconst (v := (0 : Int32)) hx hb dX11_nearest_28 (by decide) ?_
        refine lv_iload_n hx hb dX11_nearest_29 rfl (lv_at hl 2 rfl) ?_
        obtain ⟨c33, hE⟩ := ck hE
        obtain ⟨g34a, g34b, hE⟩ := grow_of hE
        replace g34a : nq27 ≤ n2 := g34a
        replace g34b : zq28 ≤ z2 := g34b
        obtain ⟨x35, hx35, hE⟩ := bd hE
        refine s_callV (As := [rr G x30, .int (0 : Int32), .int u1]) (rest := []) CF hK hW hS (S_X11_farFromAll l G F hx35) c33 rfl gv_X11_195 hd_X11_farFromAll ⟨Nat.le_of_ble_eq_true rfl, Nat.le_of_ble_eq_true rfl⟩ rfl hl.1 rfl (Nat.le_of_ble_eq_true rfl) dX11_nearest_30 ⟨show nq27 - n + 0 ≤ n2 - n by omega, show zq28 - z + 0 ≤ z2 - z by omega⟩ (fun H locs hW hS => ?_)
        refine lv_istore (lv' := [(4, .int x35), (3, rr G x30), (0, rr G u0), (1, .int u1), (2, .int u2)]) hx hb dX11_nearest_33 hl (by decide) (by simp [cat_rr]) (fun ls hl => ?_)
        refine lv_iconst (v := (1 : Int32)) hx hb dX11_nearest_35 (by decide) ?_
        refine lv_istore (lv' := [(5, .int (1 : Int32)), (4, .int x35), (3, rr G x30), (0, rr G u0), (1, .int u1), (2, .int u2)]) hx hb dX11_nearest_36 hl (by decide) rfl (fun ls hl => ?_)
        exact hC38 F _ _ _ _ _ _ _ _ _ _ _ _ (by omega) (by omega) hE hW hS (lv_sub hl [3, 4, 5, 2, 1, 0] rfl)
      · replace hE := ite_t q25 hE
        refine lv_iconst (v := (-1 : Int32)) hx hb dX11_nearest_19 (by decide) ?_
        obtain ⟨rfl, rfl, rfl, rfl⟩ := so4 hE
        exact s_iret hx hb hr hlocks hW hS dX11_nearest_20
set_option maxHeartbeats 4000000 in
set_option maxRecDepth 100000 in
theorem S_X11_order (l : Launch) (G : GG) (F : Nat) {u0 : Option Nat} {u1 : Int32} {u2 : Int32} {f : Hp} {r : Int32} {f' : Hp} {n n2 z z2 : Nat} (hE : m_X11_order F u0 u1 u2 f n z = some (r, f', n2, z2)) : Ctr l G yX11_order cX11_order 4 (some .int) 5 118 [rr G u0, .int u1, .int u2] f n (some (.int r)) f' n2 (n2 - n) (z2 - z) := by
  refine Met.ofW (cc := cX11_order) (maxL := 4) (ret := (some .int)) (by decide) rfl ?_
  intro p e s m args below meth c s₁ B hml hv
  obtain ⟨rfl, hK, hW⟩ := hv
  have hx := B.exec
  have hb := B.bytes
  have hr := B.returns
  have hts := atoms_spec (ws := wsO yX11_order cX11_order 4 (some .int)) B.pre
  have hT : ∀ w ∈ TB, w.before [rr G u0, .int u1, .int u2].toArray s = true := fun w hw => hts w (List.mem_cons_of_mem _ hw)
  have hown : s.vm.findClass RX11 = some m.cls := findClass_of_methodNamed B.named
  have hlocks := B.notSynchronized
  have CF : CallFix p m c cX11_order 4 s [rr G u0, .int u1, .int u2].toArray TB RX11 := ⟨hx, hb, hml, hown, hT⟩
  have hS : va_S (WA G) s.heap s.heap [] := va_S.rf
  have hl : lv_has (lg_sl ([rr G u0, .int u1, .int u2]) ++ List.replicate (4 - (lg_sl ([rr G u0, .int u1, .int u2])).length) Slot.unset).toArray 4 [(0, rr G u0), (1, .int u1), (2, .int u2)] := by cases u0 <;> exact lv_entry _ (Nat.le_of_ble_eq_true rfl)
  rw [lg_entry_eq]
  generalize (lg_sl ([rr G u0, .int u1, .int u2]) ++ List.replicate (4 - (lg_sl ([rr G u0, .int u1, .int u2])).length) Slot.unset).toArray = ls at hl ⊢
  refine W.cs (cells' := n - n) (slots' := z - z) (by omega) (by omega) ?_
  refine s_aload_n hx hb dX11_order_0 rfl (lv_at hl 0 rfl) ?_
  obtain ⟨c1, hE⟩ := ck hE
  obtain ⟨x5, f4, nq2, zq3, hf4, hE⟩ := bd4_of hE
  obtain ⟨c6, hE⟩ := ck hE
  replace c6 := of_decide_eq_true c6
  obtain ⟨g7a, g7b, hE⟩ := grow_of hE
  replace g7a : nq2 ≤ n2 := g7a
  replace g7b : zq3 ≤ z2 := g7b
  refine s_callV (As := []) (rest := []) CF hK hW hS (S_X11_orders l G F hf4) c1 rfl gv_X11_145 hd_X11_orders ⟨Nat.le_of_ble_eq_true rfl, Nat.le_of_ble_eq_true rfl⟩ rfl hl.1 rfl (Nat.le_of_ble_eq_true rfl) dX11_order_1 ⟨show n - n + (nq2 - (n)) ≤ n2 - n by omega, show z - z + (zq3 - (z)) ≤ z2 - z by omega⟩ (fun H locs hW hS => ?_)
  refine W.cs (cells' := nq2 - n) (slots' := zq3 - z) (by omega) (by omega) ?_
  refine s_astore_n (i := 3) (lv' := [(3, rr G x5), (0, rr G u0), (1, .int u1), (2, .int u2)]) hx hb dX11_order_4 rfl hl (by decide) rfl (fun ls hl => ?_)
  refine s_aload_n hx hb dX11_order_5 rfl (lv_at hl 0 rfl) ?_
  refine lv_iload_n hx hb dX11_order_6 rfl (lv_at hl 2 rfl) ?_
  obtain ⟨c8, hE⟩ := ck hE
  obtain ⟨g9a, g9b, hE⟩ := grow_of hE
  replace g9a : nq2 ≤ n2 := g9a
  replace g9b : zq3 ≤ z2 := g9b
  obtain ⟨x10, hx10, hE⟩ := bd hE
  refine s_callV (As := [.int u1]) (rest := []) CF hK hW hS (S_X6_has l G F hx10) c8 rfl gv_X11_149 hd_X6_has ⟨Nat.le_of_ble_eq_true rfl, Nat.le_of_ble_eq_true rfl⟩ rfl hl.1 rfl (Nat.le_of_ble_eq_true rfl) dX11_order_7 ⟨show nq2 - n + 0 ≤ n2 - n by omega, show zq3 - z + 0 ≤ z2 - z by omega⟩ (fun H locs hW hS => ?_)
  refine lv_if_eq (tgt := 25) hx hb dX11_order_10 (by decide) (fun q11 => ?_) (fun q11 => ?_)
  · replace hE := ite_t q11 hE
    refine lv_iconst (v := (-1 : Int32)) hx hb dX11_order_25 (by decide) ?_
    obtain ⟨rfl, rfl, rfl, rfl⟩ := so4 hE
    exact s_iret hx hb hr hlocks hW hS dX11_order_26
  · replace hE := ite_f q11 hE
    refine lv_iload_n hx hb dX11_order_13 rfl (lv_at hl 3 rfl) ?_
    refine lv_if_lt (tgt := 25) hx hb dX11_order_14 (by decide) (fun q12 => ?_) (fun q12 => ?_)
    · replace hE := ite_t q12 hE
      refine lv_iconst (v := (-1 : Int32)) hx hb dX11_order_25 (by decide) ?_
      obtain ⟨rfl, rfl, rfl, rfl⟩ := so4 hE
      exact s_iret hx hb hr hlocks hW hS dX11_order_26
    · replace hE := ite_f q12 hE
      refine lv_iload_n hx hb dX11_order_17 rfl (lv_at hl 3 rfl) ?_
      refine s_aload_n hx hb dX11_order_18 rfl (lv_at hl 0 rfl) ?_
      obtain ⟨x13, hx13, hE⟩ := bd hE
      refine s_gI hx hb hT u_X6 hown hK hW hx13 rfl (by decide) fl_X11_152 rfl dX11_order_19 ?_
      refine lv_icmp_lt (tgt := 27) hx hb dX11_order_22 (by decide) (fun q14 => ?_) (fun q14 => ?_)
      · replace hE := ite_t q14 hE
        refine s_aload_n hx hb dX11_order_27 rfl (lv_at hl 0 rfl) ?_
        obtain ⟨x15, hx15, hE⟩ := bd hE
        refine s_gR hx hb hT u_X6 hown hK hW hx15 rfl (by decide) fl_X11_153 rfl dX11_order_28 ?_
        refine lv_iload_n hx hb dX11_order_31 rfl (lv_at hl 2 rfl) ?_
        obtain ⟨x16, hx16, hE⟩ := bd hE
        refine s_ldI hx hb hK hW hS hx16 dX11_order_32 ?_
        refine lv_iload_n hx hb dX11_order_33 rfl (lv_at hl 3 rfl) ?_
        obtain ⟨g17a, g17b, hE⟩ := grow_of hE
        replace g17a : nq2 ≤ n2 := g17a
        replace g17b : zq3 ≤ z2 := g17b
        obtain ⟨x18, hx18, hE⟩ := bd hE
        refine s_callS (As := [.int x16, .int u2]) (rest := []) CF hK hW hS (S_X11_lineOf l G F hx18) gs_X11_120 hd_X11_lineOf.2 ⟨Nat.le_of_ble_eq_true rfl, Nat.le_of_ble_eq_true rfl⟩ rfl hl.1 rfl (Nat.le_of_ble_eq_true rfl) dX11_order_34 ⟨show nq2 - n + 0 ≤ n2 - n by omega, show zq3 - z + 0 ≤ z2 - z by omega⟩ (fun H locs hW hS => ?_)
        obtain ⟨rfl, rfl, rfl, rfl⟩ := so4 hE
        exact s_iret hx hb hr hlocks hW hS dX11_order_37
      · replace hE := ite_f q14 hE
        refine lv_iconst (v := (-1 : Int32)) hx hb dX11_order_25 (by decide) ?_
        obtain ⟨rfl, rfl, rfl, rfl⟩ := so4 hE
        exact s_iret hx hb hr hlocks hW hS dX11_order_26
set_option maxHeartbeats 4000000 in
set_option maxRecDepth 100000 in
theorem S_X11_restore (l : Launch) (G : GG) (F : Nat) {u0 : Option Nat} {u1 : Int32} {f : Hp} {r : Int32} {f' : Hp} {n : Nat} (hE : m_X11_restore F u0 u1 f = some (r, f')) : Ctr l G yX11_restore cX11_restore 2 (some .boolean) 2 82 [rr G u0, .int u1] f n (some (.int r)) f' n 0 0 := by
  refine Met.ofW (cc := cX11_restore) (maxL := 2) (ret := (some .boolean)) (by decide) rfl ?_
  intro p e s m args below meth c s₁ B hml hv
  obtain ⟨rfl, hK, hW⟩ := hv
  have hx := B.exec
  have hb := B.bytes
  have hr := B.returns
  have hts := atoms_spec (ws := wsO yX11_restore cX11_restore 2 (some .boolean)) B.pre
  have hT : ∀ w ∈ TB, w.before [rr G u0, .int u1].toArray s = true := fun w hw => hts w (List.mem_cons_of_mem _ hw)
  have hown : s.vm.findClass RX11 = some m.cls := findClass_of_methodNamed B.named
  have hlocks := B.notSynchronized
  have CF : CallFix p m c cX11_restore 2 s [rr G u0, .int u1].toArray TB RX11 := ⟨hx, hb, hml, hown, hT⟩
  have hS : va_S (WA G) s.heap s.heap [] := va_S.rf
  have hl : lv_has (lg_sl ([rr G u0, .int u1]) ++ List.replicate (2 - (lg_sl ([rr G u0, .int u1])).length) Slot.unset).toArray 2 [(0, rr G u0), (1, .int u1)] := by cases u0 <;> exact lv_entry _ (Nat.le_of_ble_eq_true rfl)
  rw [lg_entry_eq]
  generalize (lg_sl ([rr G u0, .int u1]) ++ List.replicate (2 - (lg_sl ([rr G u0, .int u1])).length) Slot.unset).toArray = ls at hl ⊢
  refine lv_iload_n hx hb dX11_restore_0 rfl (lv_at hl 1 rfl) ?_
  refine lv_if_lt (tgt := 18) hx hb dX11_restore_1 (by decide) (fun q1 => ?_) (fun q1 => ?_)
  · replace hE := ite_t q1 hE
    refine lv_iconst (v := (0 : Int32)) hx hb dX11_restore_18 (by decide) ?_
    obtain ⟨c2, hE⟩ := ck hE
    obtain ⟨rfl, rfl⟩ := so2 hE
    exact s_zret hx hb hr c2 hlocks hW hS dX11_restore_19
  · replace hE := ite_f q1 hE
    refine lv_iload_n hx hb dX11_restore_4 rfl (lv_at hl 1 rfl) ?_
    refine lv_iconst (v := (2 : Int32)) hx hb dX11_restore_5 (by decide) ?_
    refine lv_icmp_ge (tgt := 18) hx hb dX11_restore_6 (by decide) (fun q3 => ?_) (fun q3 => ?_)
    · replace hE := ite_t q3 hE
      refine lv_iconst (v := (0 : Int32)) hx hb dX11_restore_18 (by decide) ?_
      obtain ⟨c4, hE⟩ := ck hE
      obtain ⟨rfl, rfl⟩ := so2 hE
      exact s_zret hx hb hr c4 hlocks hW hS dX11_restore_19
    · replace hE := ite_f q3 hE
      refine s_aload_n hx hb dX11_restore_9 rfl (lv_at hl 0 rfl) ?_
      obtain ⟨x5, hx5, hE⟩ := bd hE
      refine s_gR hx hb hT u_X11 hown hK hW hx5 rfl (by decide) fl_X11_30 rfl dX11_restore_10 ?_
      refine lv_iload_n hx hb dX11_restore_13 rfl (lv_at hl 1 rfl) ?_
      obtain ⟨x6, hx6, hE⟩ := bd hE
      refine s_ldR hx hb hK hW hS hx6 (by decide) rfl dX11_restore_14 ?_
      refine s_ifnonnull (tgt := 20) hx hb dX11_restore_15 (by decide) (fun q7 => ?_) (fun q7 => ?_)
      · replace hE := ite_f q7 hE
        refine s_aload_n hx hb dX11_restore_20 rfl (lv_at hl 0 rfl) ?_
        obtain ⟨x8, hx8, hE⟩ := bd hE
        refine s_gR hx hb hT u_X11 hown hK hW hx8 rfl (by decide) fl_X11_16 rfl dX11_restore_21 ?_
        refine s_aload_n hx hb dX11_restore_24 rfl (lv_at hl 0 rfl) ?_
        obtain ⟨x9, hx9, hE⟩ := bd hE
        refine s_gR hx hb hT u_X11 hown hK hW hx9 rfl (by decide) fl_X11_30 rfl dX11_restore_25 ?_
        refine lv_iload_n hx hb dX11_restore_28 rfl (lv_at hl 1 rfl) ?_
        obtain ⟨x10, hx10, hE⟩ := bd hE
        refine s_ldR hx hb hK hW hS hx10 (by decide) rfl dX11_restore_29 ?_
        obtain ⟨c11, hE⟩ := ck hE
        obtain ⟨f12, hf12, hE⟩ := bd hE
        refine s_callV (As := [rr G x10]) (rest := []) CF hK hW hS (S_X4_become l G F hf12) c11 rfl gv_X11_333 hd_X4_become ⟨Nat.le_of_ble_eq_true rfl, Nat.le_of_ble_eq_true rfl⟩ rfl hl.1 rfl (Nat.le_of_ble_eq_true rfl) dX11_restore_30 ⟨Nat.le_refl _, Nat.le_refl _⟩ (fun H locs hW hS => ?_)
        refine lv_iconst (v := (1 : Int32)) hx hb dX11_restore_33 (by decide) ?_
        obtain ⟨c13, hE⟩ := ck hE
        obtain ⟨rfl, rfl⟩ := so2 hE
        exact s_zret hx hb hr c13 hlocks hW hS dX11_restore_34
      · replace hE := ite_t q7 hE
        refine lv_iconst (v := (0 : Int32)) hx hb dX11_restore_18 (by decide) ?_
        obtain ⟨c14, hE⟩ := ck hE
        obtain ⟨rfl, rfl⟩ := so2 hE
        exact s_zret hx hb hr c14 hlocks hW hS dX11_restore_19
set_option maxHeartbeats 4000000 in
set_option maxRecDepth 100000 in
theorem S_X1_isAhead (l : Launch) (G : GG) (F : Nat) {u0 : Option Nat} {u1 : Int32} {u2 : Int32} {f : Hp} {r : Int32} {n : Nat} (hE : m_X1_isAhead F u0 u1 u2 f = some r) : Ctr l G yX1_isAhead cX1_isAhead 3 (some .boolean) 2 46 [rr G u0, .int u1, .int u2] f n (some (.int r)) f n 0 0 := by
  refine Met.ofW (cc := cX1_isAhead) (maxL := 3) (ret := (some .boolean)) (by decide) rfl ?_
  intro p e s m args below meth c s₁ B hml hv
  obtain ⟨rfl, hK, hW⟩ := hv
  have hx := B.exec
  have hb := B.bytes
  have hr := B.returns
  have hts := atoms_spec (ws := wsO yX1_isAhead cX1_isAhead 3 (some .boolean)) B.pre
  have hT : ∀ w ∈ TB, w.before [rr G u0, .int u1, .int u2].toArray s = true := fun w hw => hts w (List.mem_cons_of_mem _ hw)
  have hown : s.vm.findClass RX1 = some m.cls := findClass_of_methodNamed B.named
  have hlocks := B.notSynchronized
  have CF : CallFix p m c cX1_isAhead 3 s [rr G u0, .int u1, .int u2].toArray TB RX1 := ⟨hx, hb, hml, hown, hT⟩
  have hS : va_S (WA G) s.heap s.heap [] := va_S.rf
  have hl : lv_has (lg_sl ([rr G u0, .int u1, .int u2]) ++ List.replicate (3 - (lg_sl ([rr G u0, .int u1, .int u2])).length) Slot.unset).toArray 3 [(0, rr G u0), (1, .int u1), (2, .int u2)] := by cases u0 <;> exact lv_entry _ (Nat.le_of_ble_eq_true rfl)
  rw [lg_entry_eq]
  generalize (lg_sl ([rr G u0, .int u1, .int u2]) ++ List.replicate (3 - (lg_sl ([rr G u0, .int u1, .int u2])).length) Slot.unset).toArray = ls at hl ⊢
  have hC51 : ∀ (s0 : Int32) (s1 : Int32) (H : Heap) (locs : List Loc) (ls : Array Slot), m_X1_isAhead_B51 F s0 s1 f = some r → Wd G f n H → va_S (WA G) s.heap H locs → lv_has ls 3 [] → W p l e (headSpec (wsO yX1_isAhead cX1_isAhead 3 (some .boolean)) { frames := 2, cells := 0, slots := 0, locals := 46 }).room s m [rr G u0, .int u1, .int u2].toArray below meth c H locs 0 0 (MQ below (Qcn G (some (.int r)) f n) [rr G u0, .int u1, .int u2].toArray s 0 0 (WA G)) (F0 m 51 ls [.int s1, .int s0]) := by
    intro s0 s1 H locs ls hE hW hS hl
    refine lv_icmp_ne (tgt := 58) hx hb dX1_isAhead_51 (by decide) (fun q2 => ?_) (fun q2 => ?_)
    · replace hE := ite_f q2 hE
      refine lv_iconst (v := (0 : Int32)) hx hb dX1_isAhead_58 (by decide) ?_
      obtain ⟨c3, hE⟩ := ck hE
      obtain rfl := so1 hE
      exact s_zret hx hb hr c3 hlocks hW hS dX1_isAhead_59
    · replace hE := ite_t q2 hE
      refine lv_iconst (v := (1 : Int32)) hx hb dX1_isAhead_54 (by decide) ?_
      refine lv_goto (tgt := 59) hx hb dX1_isAhead_55 (by decide) ?_
      obtain ⟨c4, hE⟩ := ck hE
      obtain rfl := so1 hE
      exact s_zret hx hb hr c4 hlocks hW hS dX1_isAhead_59
  have hC41 : ∀ (v1 : Int32) (v2 : Int32) (s0 : Int32) (H : Heap) (locs : List Loc) (ls : Array Slot), m_X1_isAhead_B41 F v1 v2 s0 f = some r → Wd G f n H → va_S (WA G) s.heap H locs → lv_has ls 3 [(1, .int v1), (2, .int v2)] → W p l e (headSpec (wsO yX1_isAhead cX1_isAhead 3 (some .boolean)) { frames := 2, cells := 0, slots := 0, locals := 46 }).room s m [rr G u0, .int u1, .int u2].toArray below meth c H locs 0 0 (MQ below (Qcn G (some (.int r)) f n) [rr G u0, .int u1, .int u2].toArray s 0 0 (WA G)) (F0 m 41 ls [.int s0]) := by
    intro v1 v2 s0 H locs ls hE hW hS hl
    refine lv_iload_n hx hb dX1_isAhead_41 rfl (lv_at hl 0 rfl) ?_
    refine lv_iload_n hx hb dX1_isAhead_42 rfl (lv_at hl 1 rfl) ?_
    refine lv_icmp_le (tgt := 50) hx hb dX1_isAhead_43 (by decide) (fun q1 => ?_) (fun q1 => ?_)
    · replace hE := ite_t q1 hE
      refine lv_iconst (v := (0 : Int32)) hx hb dX1_isAhead_50 (by decide) ?_
      exact hC51 _ _ _ _ _ hE hW hS (lv_sub hl [] rfl)
    · replace hE := ite_f q1 hE
      refine lv_iconst (v := (1 : Int32)) hx hb dX1_isAhead_46 (by decide) ?_
      refine lv_goto (tgt := 51) hx hb dX1_isAhead_47 (by decide) ?_
      exact hC51 _ _ _ _ _ hE hW hS (lv_sub hl [] rfl)
  refine lv_iload_n hx hb dX1_isAhead_0 rfl (lv_at hl 1 rfl) ?_
  refine lv_iload_n hx hb dX1_isAhead_1 rfl (lv_at hl 2 rfl) ?_
  refine lv_icmp_eq (tgt := 21) hx hb dX1_isAhead_2 (by decide) (fun q5 => ?_) (fun q5 => ?_)
  · replace hE := ite_t q5 hE
    refine lv_iconst (v := (0 : Int32)) hx hb dX1_isAhead_21 (by decide) ?_
    obtain ⟨c6, hE⟩ := ck hE
    obtain rfl := so1 hE
    exact s_zret hx hb hr c6 hlocks hW hS dX1_isAhead_22
  · replace hE := ite_f q5 hE
    refine s_aload_n hx hb dX1_isAhead_5 rfl (lv_at hl 0 rfl) ?_
    refine lv_iload_n hx hb dX1_isAhead_6 rfl (lv_at hl 1 rfl) ?_
    obtain ⟨c7, hE⟩ := ck hE
    obtain ⟨x8, hx8, hE⟩ := bd hE
    refine s_callV (As := [.int u1]) (rest := []) CF hK hW hS (S_X1_hasLine l G F hx8) c7 rfl gv_X1_51 hd_X1_hasLine ⟨Nat.le_of_ble_eq_true rfl, Nat.le_of_ble_eq_true rfl⟩ rfl hl.1 rfl (Nat.le_of_ble_eq_true rfl) dX1_isAhead_7 ⟨Nat.le_refl _, Nat.le_refl _⟩ (fun H locs hW hS => ?_)
    refine lv_if_eq (tgt := 21) hx hb dX1_isAhead_10 (by decide) (fun q9 => ?_) (fun q9 => ?_)
    · replace hE := ite_t q9 hE
      refine lv_iconst (v := (0 : Int32)) hx hb dX1_isAhead_21 (by decide) ?_
      obtain ⟨c10, hE⟩ := ck hE
      obtain rfl := so1 hE
      exact s_zret hx hb hr c10 hlocks hW hS dX1_isAhead_22
    · replace hE := ite_f q9 hE
      refine s_aload_n hx hb dX1_isAhead_13 rfl (lv_at hl 0 rfl) ?_
      refine lv_iload_n hx hb dX1_isAhead_14 rfl (lv_at hl 2 rfl) ?_
      obtain ⟨c11, hE⟩ := ck hE
      obtain ⟨x12, hx12, hE⟩ := bd hE
      refine s_callV (As := [.int u2]) (rest := []) CF hK hW hS (S_X1_hasLine l G F hx12) c11 rfl gv_X1_51 hd_X1_hasLine ⟨Nat.le_of_ble_eq_true rfl, Nat.le_of_ble_eq_true rfl⟩ rfl hl.1 rfl (Nat.le_of_ble_eq_true rfl) dX1_isAhead_15 ⟨Nat.le_refl _, Nat.le_refl _⟩ (fun H locs hW hS => ?_)
      refine lv_if_ne (tgt := 23) hx hb dX1_isAhead_18 (by decide) (fun q13 => ?_) (fun q13 => ?_)
      · replace hE := ite_f q13 hE
        refine s_aload_n hx hb dX1_isAhead_23 rfl (lv_at hl 0 rfl) ?_
        obtain ⟨x14, hx14, hE⟩ := bd hE
        refine s_gI hx hb hT u_X1 hown hK hW hx14 rfl (by decide) fl_X1_28 rfl dX1_isAhead_24 ?_
        refine lv_iload_n hx hb dX1_isAhead_27 rfl (lv_at hl 1 rfl) ?_
        refine lv_iload_n hx hb dX1_isAhead_28 rfl (lv_at hl 2 rfl) ?_
        obtain ⟨x15, hx15, hE⟩ := bd hE
        refine s_callSN (As := [.int u1, .int u2]) (rest := [.int x14]) CF hK hW hS (S_X11_pairBit l G F hx15) go_X11_pairBit nm_X1_35 ini_CopyOrders stt_X11_pairBit hd_X11_pairBit.2 ⟨Nat.le_of_ble_eq_true rfl, Nat.le_of_ble_eq_true rfl⟩ rfl hl.1 rfl (Nat.le_of_ble_eq_true rfl) dX1_isAhead_29 ⟨Nat.le_refl _, Nat.le_refl _⟩ (fun H locs hW hS => ?_)
        refine lv_iand hx hb dX1_isAhead_32 ?_
        refine lv_if_eq (tgt := 40) hx hb dX1_isAhead_33 (by decide) (fun q16 => ?_) (fun q16 => ?_)
        · replace hE := ite_t q16 hE
          refine lv_iconst (v := (0 : Int32)) hx hb dX1_isAhead_40 (by decide) ?_
          exact hC41 _ _ _ _ _ _ hE hW hS (lv_sub hl [1, 2] rfl)
        · replace hE := ite_f q16 hE
          refine lv_iconst (v := (1 : Int32)) hx hb dX1_isAhead_36 (by decide) ?_
          refine lv_goto (tgt := 41) hx hb dX1_isAhead_37 (by decide) ?_
          exact hC41 _ _ _ _ _ _ hE hW hS (lv_sub hl [1, 2] rfl)
      · replace hE := ite_t q13 hE
        refine lv_iconst (v := (0 : Int32)) hx hb dX1_isAhead_21 (by decide) ?_
        obtain ⟨c17, hE⟩ := ck hE
        obtain rfl := so1 hE
        exact s_zret hx hb hr c17 hlocks hW hS dX1_isAhead_22
set_option maxHeartbeats 4000000 in
set_option maxRecDepth 100000 in
theorem S_X7_measureOf (l : Launch) (G : GG) (F : Nat) {u0 : Option Nat} {u1 : Int32} {u2 : Option Nat} {u3 : Option Nat} {f : Hp} {r : Int32} {n : Nat} (hE : m_X7_measureOf F u0 u1 u2 u3 f = some r) : Ctr l G yX7_measureOf cX7_measureOf 5 (some .int) 3 62 [rr G u0, .int u1, rr G u2, rr G u3] f n (some (.int r)) f n 0 0 := by
  refine Met.ofW (cc := cX7_measureOf) (maxL := 5) (ret := (some .int)) (by decide) rfl ?_
  intro p e s m args below meth c s₁ B hml hv
  obtain ⟨rfl, hK, hW⟩ := hv
  have hx := B.exec
  have hb := B.bytes
  have hr := B.returns
  have hts := atoms_spec (ws := wsO yX7_measureOf cX7_measureOf 5 (some .int)) B.pre
  have hT : ∀ w ∈ TB, w.before [rr G u0, .int u1, rr G u2, rr G u3].toArray s = true := fun w hw => hts w (List.mem_cons_of_mem _ hw)
  have hown : s.vm.findClass RX7 = some m.cls := findClass_of_methodNamed B.named
  have hlocks := B.notSynchronized
  have CF : CallFix p m c cX7_measureOf 5 s [rr G u0, .int u1, rr G u2, rr G u3].toArray TB RX7 := ⟨hx, hb, hml, hown, hT⟩
  have hS : va_S (WA G) s.heap s.heap [] := va_S.rf
  have hl : lv_has (lg_sl ([rr G u0, .int u1, rr G u2, rr G u3]) ++ List.replicate (5 - (lg_sl ([rr G u0, .int u1, rr G u2, rr G u3])).length) Slot.unset).toArray 5 [(0, rr G u0), (1, .int u1), (2, rr G u2), (3, rr G u3)] := by cases u0 <;> cases u2 <;> cases u3 <;> exact lv_entry _ (Nat.le_of_ble_eq_true rfl)
  rw [lg_entry_eq]
  generalize (lg_sl ([rr G u0, .int u1, rr G u2, rr G u3]) ++ List.replicate (5 - (lg_sl ([rr G u0, .int u1, rr G u2, rr G u3])).length) Slot.unset).toArray = ls at hl ⊢
  refine s_aload_n hx hb dX7_measureOf_0 rfl (lv_at hl 3 rfl) ?_
  refine s_aload_n hx hb dX7_measureOf_1 rfl (lv_at hl 0 rfl) ?_
  obtain ⟨x1, hx1, hE⟩ := bd hE
  refine s_gR hx hb hT u_X7 hown hK hW hx1 rfl (by decide) fl_X7_17 rfl dX7_measureOf_2 ?_
  refine lv_iload_n hx hb dX7_measureOf_5 rfl (lv_at hl 1 rfl) ?_
  obtain ⟨x2, hx2, hE⟩ := bd hE
  refine s_ldI hx hb hK hW hS hx2 dX7_measureOf_6 ?_
  obtain ⟨c3, hE⟩ := ck hE
  obtain ⟨x4, hx4, hE⟩ := bd hE
  refine s_callV (As := [.int x2]) (rest := []) CF hK hW hS (S_X4_copyAt l G F hx4) c3 rfl gv_X7_87 hd_X4_copyAt ⟨Nat.le_of_ble_eq_true rfl, Nat.le_of_ble_eq_true rfl⟩ rfl hl.1 rfl (Nat.le_of_ble_eq_true rfl) dX7_measureOf_7 ⟨Nat.le_refl _, Nat.le_refl _⟩ (fun H locs hW hS => ?_)
  refine s_astore (lv' := [(4, rr G x4), (0, rr G u0), (1, .int u1), (2, rr G u2), (3, rr G u3)]) hx hb dX7_measureOf_10 hl (by decide) (by simp [cat_rr]) (fun ls hl => ?_)
  refine s_getSt hx hb hT hK hS hown 33 (by decide) (z33 hK) fl_X7_42 dX7_measureOf_12 ?_
  refine s_aload_n hx hb dX7_measureOf_15 rfl (lv_at hl 1 rfl) ?_
  obtain ⟨x5, hx5, hE⟩ := bd hE
  refine s_gR hx hb hT u_X7 hown hK hW hx5 rfl (by decide) fl_X7_13 rfl dX7_measureOf_16 ?_
  refine lv_iload_n hx hb dX7_measureOf_19 rfl (lv_at hl 2 rfl) ?_
  obtain ⟨x6, hx6, hE⟩ := bd hE
  refine s_ldR hx hb hK hW hS hx6 (by decide) rfl dX7_measureOf_20 ?_
  obtain ⟨i7, hi7, hE⟩ := bd hE
  refine s_ord (l := l) CF hK hW hS hi7 or_X7_47 ⟨Nat.le_of_ble_eq_true rfl, Nat.le_of_ble_eq_true rfl⟩ hl.1 (Nat.le_of_ble_eq_true rfl) dX7_measureOf_21 ⟨Nat.le_refl _, Nat.le_refl _⟩ (fun H locs hW hS => ?_)
  obtain ⟨x8, hx8, hE⟩ := bd hE
  refine s_ldI hx hb hK hW hS hx8 dX7_measureOf_24 ?_
  by_cases w9 : x8 = (17 : Int32)
  · replace hE := ite_t w9 hE
    have hi : (x8).toInt = 17 := by rw [w9]; rfl
    refine lv_tableIn (off := 27) (tgt := 52) hx hb dX7_measureOf_25 (by rw [hi]; decide) (by rw [hi]; decide) (by rw [hi]; rfl) (by decide) ?_
    refine s_aload hx hb dX7_measureOf_52 (lv_at hl 0 rfl) ?_
    refine s_ifnonnull (tgt := 61) hx hb dX7_measureOf_54 (by decide) (fun q10 => ?_) (fun q10 => ?_)
    · replace hE := ite_f q10 hE
      refine s_aload_n hx hb dX7_measureOf_61 rfl (lv_at hl 3 rfl) ?_
      refine s_aload hx hb dX7_measureOf_62 (lv_at hl 0 rfl) ?_
      obtain ⟨c11, hE⟩ := ck hE
      obtain ⟨x12, hx12, hE⟩ := bd hE
      refine s_callV (As := [rr G x4]) (rest := []) CF hK hW hS (S_X1_farTo l G F hx12) c11 rfl gv_X7_91 hd_X1_farTo ⟨Nat.le_of_ble_eq_true rfl, Nat.le_of_ble_eq_true rfl⟩ rfl hl.1 rfl (Nat.le_of_ble_eq_true rfl) dX7_measureOf_64 ⟨Nat.le_refl _, Nat.le_refl _⟩ (fun H locs hW hS => ?_)
      obtain rfl := so1 hE
      exact s_iret hx hb hr hlocks hW hS dX7_measureOf_67
    · replace hE := ite_t q10 hE
      refine lv_iconst (v := (0 : Int32)) hx hb dX7_measureOf_57 (by decide) ?_
      refine lv_goto (tgt := 67) hx hb dX7_measureOf_58 (by decide) ?_
      obtain rfl := so1 hE
      exact s_iret hx hb hr hlocks hW hS dX7_measureOf_67
  · replace hE := ite_f w9 hE
    by_cases w13 : x8 = (18 : Int32)
    · replace hE := ite_t w13 hE
      have hi : (x8).toInt = 18 := by rw [w13]; rfl
      refine lv_tableIn (off := 43) (tgt := 68) hx hb dX7_measureOf_25 (by rw [hi]; decide) (by rw [hi]; decide) (by rw [hi]; rfl) (by decide) ?_
      refine s_aload hx hb dX7_measureOf_68 (lv_at hl 0 rfl) ?_
      refine s_ifnonnull (tgt := 77) hx hb dX7_measureOf_70 (by decide) (fun q14 => ?_) (fun q14 => ?_)
      · replace hE := ite_f q14 hE
        refine s_aload_n hx hb dX7_measureOf_77 rfl (lv_at hl 3 rfl) ?_
        refine s_aload hx hb dX7_measureOf_78 (lv_at hl 0 rfl) ?_
        obtain ⟨c15, hE⟩ := ck hE
        obtain ⟨x16, hx16, hE⟩ := bd hE
        refine s_callV (As := [rr G x4]) (rest := []) CF hK hW hS (S_X1_stepsTo l G F hx16) c15 rfl gv_X7_95 hd_X1_stepsTo ⟨Nat.le_of_ble_eq_true rfl, Nat.le_of_ble_eq_true rfl⟩ rfl hl.1 rfl (Nat.le_of_ble_eq_true rfl) dX7_measureOf_80 ⟨Nat.le_refl _, Nat.le_refl _⟩ (fun H locs hW hS => ?_)
        obtain rfl := so1 hE
        exact s_iret hx hb hr hlocks hW hS dX7_measureOf_83
      · replace hE := ite_t q14 hE
        refine lv_iconst (v := (0 : Int32)) hx hb dX7_measureOf_73 (by decide) ?_
        refine lv_goto (tgt := 83) hx hb dX7_measureOf_74 (by decide) ?_
        obtain rfl := so1 hE
        exact s_iret hx hb hr hlocks hW hS dX7_measureOf_83
    · replace hE := ite_f w13 hE
      by_cases w17 : x8 = (19 : Int32)
      · replace hE := ite_t w17 hE
        have hi : (x8).toInt = 19 := by rw [w17]; rfl
        refine lv_tableIn (off := 59) (tgt := 84) hx hb dX7_measureOf_25 (by rw [hi]; decide) (by rw [hi]; decide) (by rw [hi]; rfl) (by decide) ?_
        refine s_aload_n hx hb dX7_measureOf_84 rfl (lv_at hl 4 rfl) ?_
        refine s_aload_n hx hb dX7_measureOf_85 rfl (lv_at hl 3 rfl) ?_
        obtain ⟨x18, hx18, hE⟩ := bd hE
        refine s_gI hx hb hT u_X1 hown hK hW hx18 rfl (by decide) fl_X7_98 rfl dX7_measureOf_86 ?_
        refine s_aload_n hx hb dX7_measureOf_89 rfl (lv_at hl 3 rfl) ?_
        obtain ⟨x19, hx19, hE⟩ := bd hE
        refine s_gI hx hb hT u_X1 hown hK hW hx19 rfl (by decide) fl_X7_55 rfl dX7_measureOf_90 ?_
        obtain ⟨c20, hE⟩ := ck hE
        obtain ⟨x21, hx21, hE⟩ := bd hE
        refine s_callV (As := [.int x18, .int x19]) (rest := []) CF hK hW hS (S_X4_songOf l G F hx21) c20 rfl gv_X7_101 hd_X4_songOf ⟨Nat.le_of_ble_eq_true rfl, Nat.le_of_ble_eq_true rfl⟩ rfl hl.1 rfl (Nat.le_of_ble_eq_true rfl) dX7_measureOf_93 ⟨Nat.le_refl _, Nat.le_refl _⟩ (fun H locs hW hS => ?_)
        obtain rfl := so1 hE
        exact s_iret hx hb hr hlocks hW hS dX7_measureOf_96
      · replace hE := ite_f w17 hE
        replace w9 := lv_neT w9 (a := 17) rfl
        replace w13 := lv_neT w13 (a := 18) rfl
        replace w17 := lv_neT w17 (a := 19) rfl
        refine lv_tableOut (tgt := 97) hx hb dX7_measureOf_25 (by omega) (by decide) ?_
        refine s_aload_n hx hb dX7_measureOf_97 rfl (lv_at hl 3 rfl) ?_
        obtain ⟨x22, hx22, hE⟩ := bd hE
        refine s_gI hx hb hT u_X1 hown hK hW hx22 rfl (by decide) fl_X7_55 rfl dX7_measureOf_98 ?_
        obtain rfl := so1 hE
        exact s_iret hx hb hr hlocks hW hS dX7_measureOf_101
set_option maxHeartbeats 4000000 in
set_option maxRecDepth 100000 in
theorem S_X7_isMeasure (l : Launch) (G : GG) (F : Nat) {u0 : Option Nat} {u1 : Int32} {u2 : Int32} {f : Hp} {r : Int32} {n : Nat} (hE : m_X7_isMeasure F u0 u1 u2 f = some r) : Ctr l G yX7_isMeasure cX7_isMeasure 3 (some .boolean) 0 0 [rr G u0, .int u1, .int u2] f n (some (.int r)) f n 0 0 := by
  refine Met.ofW (cc := cX7_isMeasure) (maxL := 3) (ret := (some .boolean)) (by decide) rfl ?_
  intro p e s m args below meth c s₁ B hml hv
  obtain ⟨rfl, hK, hW⟩ := hv
  have hx := B.exec
  have hb := B.bytes
  have hr := B.returns
  have hts := atoms_spec (ws := wsO yX7_isMeasure cX7_isMeasure 3 (some .boolean)) B.pre
  have hT : ∀ w ∈ TB, w.before [rr G u0, .int u1, .int u2].toArray s = true := fun w hw => hts w (List.mem_cons_of_mem _ hw)
  have hown : s.vm.findClass RX7 = some m.cls := findClass_of_methodNamed B.named
  have hlocks := B.notSynchronized
  have CF : CallFix p m c cX7_isMeasure 3 s [rr G u0, .int u1, .int u2].toArray TB RX7 := ⟨hx, hb, hml, hown, hT⟩
  have hS : va_S (WA G) s.heap s.heap [] := va_S.rf
  have hl : lv_has (lg_sl ([rr G u0, .int u1, .int u2]) ++ List.replicate (3 - (lg_sl ([rr G u0, .int u1, .int u2])).length) Slot.unset).toArray 3 [(0, rr G u0), (1, .int u1), (2, .int u2)] := by cases u0 <;> exact lv_entry _ (Nat.le_of_ble_eq_true rfl)
  rw [lg_entry_eq]
  generalize (lg_sl ([rr G u0, .int u1, .int u2]) ++ List.replicate (3 - (lg_sl ([rr G u0, .int u1, .int u2])).length) Slot.unset).toArray = ls at hl ⊢
  refine s_aload_n hx hb dX7_isMeasure_0 rfl (lv_at hl 0 rfl) ?_
  obtain ⟨x1, hx1, hE⟩ := bd hE
  refine s_gR hx hb hT u_X7 hown hK hW hx1 rfl (by decide) fl_X7_24 rfl dX7_isMeasure_1 ?_
  refine lv_iload_n hx hb dX7_isMeasure_4 rfl (lv_at hl 1 rfl) ?_
  obtain ⟨x2, hx2, hE⟩ := bd hE
  refine s_ldI hx hb hK hW hS hx2 dX7_isMeasure_5 ?_
  by_cases w3 : x2 = (60 : Int32)
  · replace hE := ite_t w3 hE
    have hi : (x2).toInt = 60 := by rw [w3]; rfl
    refine lv_lookup (off := 26) (tgt := 32) hx hb dX7_isMeasure_6 (by decide) (by rw [hi]; rfl) (by decide) ?_
    refine lv_iload_n hx hb dX7_isMeasure_32 rfl (lv_at hl 2 rfl) ?_
    refine s_aload_n hx hb dX7_isMeasure_33 rfl (lv_at hl 0 rfl) ?_
    obtain ⟨x4, hx4, hE⟩ := bd hE
    refine s_gR hx hb hT u_X7 hown hK hW hx4 rfl (by decide) fl_X7_27 rfl dX7_isMeasure_34 ?_
    refine lv_iload_n hx hb dX7_isMeasure_37 rfl (lv_at hl 1 rfl) ?_
    obtain ⟨x5, hx5, hE⟩ := bd hE
    refine s_ldI hx hb hK hW hS hx5 dX7_isMeasure_38 ?_
    refine lv_icmp_ge (tgt := 46) hx hb dX7_isMeasure_39 (by decide) (fun q6 => ?_) (fun q6 => ?_)
    · replace hE := ite_t q6 hE
      refine lv_iconst (v := (0 : Int32)) hx hb dX7_isMeasure_46 (by decide) ?_
      obtain ⟨c7, hE⟩ := ck hE
      obtain rfl := so1 hE
      exact s_zret hx hb hr c7 hlocks hW hS dX7_isMeasure_47
    · replace hE := ite_f q6 hE
      refine lv_iconst (v := (1 : Int32)) hx hb dX7_isMeasure_42 (by decide) ?_
      refine lv_goto (tgt := 47) hx hb dX7_isMeasure_43 (by decide) ?_
      obtain ⟨c8, hE⟩ := ck hE
      obtain rfl := so1 hE
      exact s_zret hx hb hr c8 hlocks hW hS dX7_isMeasure_47
  · replace hE := ite_f w3 hE
    by_cases w9 : x2 = (61 : Int32)
    · replace hE := ite_t w9 hE
      have hi : (x2).toInt = 61 := by rw [w9]; rfl
      refine lv_lookup (off := 42) (tgt := 48) hx hb dX7_isMeasure_6 (by decide) (by rw [hi]; rfl) (by decide) ?_
      refine lv_iload_n hx hb dX7_isMeasure_48 rfl (lv_at hl 2 rfl) ?_
      refine s_aload_n hx hb dX7_isMeasure_49 rfl (lv_at hl 0 rfl) ?_
      obtain ⟨x10, hx10, hE⟩ := bd hE
      refine s_gR hx hb hT u_X7 hown hK hW hx10 rfl (by decide) fl_X7_27 rfl dX7_isMeasure_50 ?_
      refine lv_iload_n hx hb dX7_isMeasure_53 rfl (lv_at hl 1 rfl) ?_
      obtain ⟨x11, hx11, hE⟩ := bd hE
      refine s_ldI hx hb hK hW hS hx11 dX7_isMeasure_54 ?_
      refine lv_icmp_ne (tgt := 62) hx hb dX7_isMeasure_55 (by decide) (fun q12 => ?_) (fun q12 => ?_)
      · replace hE := ite_f q12 hE
        refine lv_iconst (v := (0 : Int32)) hx hb dX7_isMeasure_62 (by decide) ?_
        obtain ⟨c13, hE⟩ := ck hE
        obtain rfl := so1 hE
        exact s_zret hx hb hr c13 hlocks hW hS dX7_isMeasure_63
      · replace hE := ite_t q12 hE
        refine lv_iconst (v := (1 : Int32)) hx hb dX7_isMeasure_58 (by decide) ?_
        refine lv_goto (tgt := 63) hx hb dX7_isMeasure_59 (by decide) ?_
        obtain ⟨c14, hE⟩ := ck hE
        obtain rfl := so1 hE
        exact s_zret hx hb hr c14 hlocks hW hS dX7_isMeasure_63
    · replace hE := ite_f w9 hE
      refine lv_lookup (off := 58) (tgt := 64) hx hb dX7_isMeasure_6 (by decide) ((lv_osw w3 (a := 60) rfl).trans ((lv_osw w9 (a := 61) rfl).trans rfl)) (by decide) ?_
      refine lv_iload_n hx hb dX7_isMeasure_64 rfl (lv_at hl 2 rfl) ?_
      refine s_aload_n hx hb dX7_isMeasure_65 rfl (lv_at hl 0 rfl) ?_
      obtain ⟨x15, hx15, hE⟩ := bd hE
      refine s_gR hx hb hT u_X7 hown hK hW hx15 rfl (by decide) fl_X7_27 rfl dX7_isMeasure_66 ?_
      refine lv_iload_n hx hb dX7_isMeasure_69 rfl (lv_at hl 1 rfl) ?_
      obtain ⟨x16, hx16, hE⟩ := bd hE
      refine s_ldI hx hb hK hW hS hx16 dX7_isMeasure_70 ?_
      refine lv_icmp_le (tgt := 78) hx hb dX7_isMeasure_71 (by decide) (fun q17 => ?_) (fun q17 => ?_)
      · replace hE := ite_t q17 hE
        refine lv_iconst (v := (0 : Int32)) hx hb dX7_isMeasure_78 (by decide) ?_
        obtain ⟨c18, hE⟩ := ck hE
        obtain rfl := so1 hE
        exact s_zret hx hb hr c18 hlocks hW hS dX7_isMeasure_79
      · replace hE := ite_f q17 hE
        refine lv_iconst (v := (1 : Int32)) hx hb dX7_isMeasure_74 (by decide) ?_
        refine lv_goto (tgt := 79) hx hb dX7_isMeasure_75 (by decide) ?_
        obtain ⟨c19, hE⟩ := ck hE
        obtain rfl := so1 hE
        exact s_zret hx hb hr c19 hlocks hW hS dX7_isMeasure_79
set_option maxHeartbeats 4000000 in
set_option maxRecDepth 100000 in
theorem S_X7_isTest (l : Launch) (G : GG) (F : Nat) {u0 : Option Nat} {u1 : Int32} {u2 : Option Nat} {u3 : Option Nat} {f : Hp} {r : Int32} {n : Nat} (hE : m_X7_isTest F u0 u1 u2 u3 f = some r) : Ctr l G yX7_isTest cX7_isTest 4 (some .boolean) 4 86 [rr G u0, .int u1, rr G u2, rr G u3] f n (some (.int r)) f n 0 0 := by
  refine Met.ofW (cc := cX7_isTest) (maxL := 4) (ret := (some .boolean)) (by decide) rfl ?_
  intro p e s m args below meth c s₁ B hml hv
  obtain ⟨rfl, hK, hW⟩ := hv
  have hx := B.exec
  have hb := B.bytes
  have hr := B.returns
  have hts := atoms_spec (ws := wsO yX7_isTest cX7_isTest 4 (some .boolean)) B.pre
  have hT : ∀ w ∈ TB, w.before [rr G u0, .int u1, rr G u2, rr G u3].toArray s = true := fun w hw => hts w (List.mem_cons_of_mem _ hw)
  have hown : s.vm.findClass RX7 = some m.cls := findClass_of_methodNamed B.named
  have hlocks := B.notSynchronized
  have CF : CallFix p m c cX7_isTest 4 s [rr G u0, .int u1, rr G u2, rr G u3].toArray TB RX7 := ⟨hx, hb, hml, hown, hT⟩
  have hS : va_S (WA G) s.heap s.heap [] := va_S.rf
  have hl : lv_has (lg_sl ([rr G u0, .int u1, rr G u2, rr G u3]) ++ List.replicate (4 - (lg_sl ([rr G u0, .int u1, rr G u2, rr G u3])).length) Slot.unset).toArray 4 [(0, rr G u0), (1, .int u1), (2, rr G u2), (3, rr G u3)] := by cases u0 <;> cases u2 <;> cases u3 <;> exact lv_entry _ (Nat.le_of_ble_eq_true rfl)
  rw [lg_entry_eq]
  generalize (lg_sl ([rr G u0, .int u1, rr G u2, rr G u3]) ++ List.replicate (4 - (lg_sl ([rr G u0, .int u1, rr G u2, rr G u3])).length) Slot.unset).toArray = ls at hl ⊢
  refine s_getSt hx hb hT hK hS hown 33 (by decide) (z33 hK) fl_X7_42 dX7_isTest_0 ?_
  refine s_aload_n hx hb dX7_isTest_3 rfl (lv_at hl 0 rfl) ?_
  obtain ⟨x1, hx1, hE⟩ := bd hE
  refine s_gR hx hb hT u_X7 hown hK hW hx1 rfl (by decide) fl_X7_13 rfl dX7_isTest_4 ?_
  refine lv_iload_n hx hb dX7_isTest_7 rfl (lv_at hl 1 rfl) ?_
  obtain ⟨x2, hx2, hE⟩ := bd hE
  refine s_ldR hx hb hK hW hS hx2 (by decide) rfl dX7_isTest_8 ?_
  obtain ⟨i3, hi3, hE⟩ := bd hE
  refine s_ord (l := l) CF hK hW hS hi3 or_X7_47 ⟨Nat.le_of_ble_eq_true rfl, Nat.le_of_ble_eq_true rfl⟩ hl.1 (Nat.le_of_ble_eq_true rfl) dX7_isTest_9 ⟨Nat.le_refl _, Nat.le_refl _⟩ (fun H locs hW hS => ?_)
  obtain ⟨x4, hx4, hE⟩ := bd hE
  refine s_ldI hx hb hK hW hS hx4 dX7_isTest_12 ?_
  by_cases w5 : x4 = (13 : Int32)
  · replace hE := ite_t w5 hE
    have hi : (x4).toInt = 13 := by rw [w5]; rfl
    refine lv_tableIn (off := 31) (tgt := 44) hx hb dX7_isTest_13 (by rw [hi]; decide) (by rw [hi]; decide) (by rw [hi]; rfl) (by decide) ?_
    refine s_aload_n hx hb dX7_isTest_44 rfl (lv_at hl 2 rfl) ?_
    obtain ⟨x6, hx6, hE⟩ := bd hE
    refine s_gI hx hb hT u_X1 hown hK hW hx6 rfl (by decide) fl_X7_55 rfl dX7_isTest_45 ?_
    refine s_aload_n hx hb dX7_isTest_48 rfl (lv_at hl 3 rfl) ?_
    obtain ⟨x7, hx7, hE⟩ := bd hE
    refine s_gI hx hb hT u_X4 hown hK hW hx7 rfl (by decide) fl_X7_58 rfl dX7_isTest_49 ?_
    refine lv_icmp_ne (tgt := 59) hx hb dX7_isTest_52 (by decide) (fun q8 => ?_) (fun q8 => ?_)
    · replace hE := ite_f q8 hE
      refine lv_iconst (v := (0 : Int32)) hx hb dX7_isTest_59 (by decide) ?_
      obtain ⟨c9, hE⟩ := ck hE
      obtain rfl := so1 hE
      exact s_zret hx hb hr c9 hlocks hW hS dX7_isTest_60
    · replace hE := ite_t q8 hE
      refine lv_iconst (v := (1 : Int32)) hx hb dX7_isTest_55 (by decide) ?_
      refine lv_goto (tgt := 60) hx hb dX7_isTest_56 (by decide) ?_
      obtain ⟨c10, hE⟩ := ck hE
      obtain rfl := so1 hE
      exact s_zret hx hb hr c10 hlocks hW hS dX7_isTest_60
  · replace hE := ite_f w5 hE
    by_cases w11 : x4 = (14 : Int32)
    · replace hE := ite_t w11 hE
      have hi : (x4).toInt = 14 := by rw [w11]; rfl
      refine lv_tableIn (off := 48) (tgt := 61) hx hb dX7_isTest_13 (by rw [hi]; decide) (by rw [hi]; decide) (by rw [hi]; rfl) (by decide) ?_
      refine s_aload_n hx hb dX7_isTest_61 rfl (lv_at hl 3 rfl) ?_
      refine s_aload_n hx hb dX7_isTest_62 rfl (lv_at hl 2 rfl) ?_
      obtain ⟨x12, hx12, hE⟩ := bd hE
      refine s_gI hx hb hT u_X1 hown hK hW hx12 rfl (by decide) fl_X7_63 rfl dX7_isTest_63 ?_
      refine s_aload_n hx hb dX7_isTest_66 rfl (lv_at hl 2 rfl) ?_
      obtain ⟨x13, hx13, hE⟩ := bd hE
      refine s_gI hx hb hT u_X1 hown hK hW hx13 rfl (by decide) fl_X7_66 rfl dX7_isTest_67 ?_
      obtain ⟨c14, hE⟩ := ck hE
      obtain ⟨x15, hx15, hE⟩ := bd hE
      refine s_callV (As := [.int x12, .int x13]) (rest := []) CF hK hW hS (S_X4_keepsSense l G F hx15) c14 rfl gv_X7_69 hd_X4_keepsSense ⟨Nat.le_of_ble_eq_true rfl, Nat.le_of_ble_eq_true rfl⟩ rfl hl.1 rfl (Nat.le_of_ble_eq_true rfl) dX7_isTest_70 ⟨Nat.le_refl _, Nat.le_refl _⟩ (fun H locs hW hS => ?_)
      obtain ⟨c16, hE⟩ := ck hE
      obtain rfl := so1 hE
      exact s_zret hx hb hr c16 hlocks hW hS dX7_isTest_73
    · replace hE := ite_f w11 hE
      by_cases w17 : x4 = (15 : Int32)
      · replace hE := ite_t w17 hE
        have hi : (x4).toInt = 15 := by rw [w17]; rfl
        refine lv_tableIn (off := 61) (tgt := 74) hx hb dX7_isTest_13 (by rw [hi]; decide) (by rw [hi]; decide) (by rw [hi]; rfl) (by decide) ?_
        refine s_aload_n hx hb dX7_isTest_74 rfl (lv_at hl 2 rfl) ?_
        refine s_aload_n hx hb dX7_isTest_75 rfl (lv_at hl 0 rfl) ?_
        obtain ⟨x18, hx18, hE⟩ := bd hE
        refine s_gR hx hb hT u_X7 hown hK hW hx18 rfl (by decide) fl_X7_17 rfl dX7_isTest_76 ?_
        refine lv_iload_n hx hb dX7_isTest_79 rfl (lv_at hl 1 rfl) ?_
        obtain ⟨x19, hx19, hE⟩ := bd hE
        refine s_ldI hx hb hK hW hS hx19 dX7_isTest_80 ?_
        obtain ⟨c20, hE⟩ := ck hE
        obtain ⟨x21, hx21, hE⟩ := bd hE
        refine s_callV (As := [.int x19]) (rest := []) CF hK hW hS (S_X1_hasLine l G F hx21) c20 rfl gv_X7_73 hd_X1_hasLine ⟨Nat.le_of_ble_eq_true rfl, Nat.le_of_ble_eq_true rfl⟩ rfl hl.1 rfl (Nat.le_of_ble_eq_true rfl) dX7_isTest_81 ⟨Nat.le_refl _, Nat.le_refl _⟩ (fun H locs hW hS => ?_)
        obtain ⟨c22, hE⟩ := ck hE
        obtain rfl := so1 hE
        exact s_zret hx hb hr c22 hlocks hW hS dX7_isTest_84
      · replace hE := ite_f w17 hE
        by_cases w23 : x4 = (16 : Int32)
        · replace hE := ite_t w23 hE
          have hi : (x4).toInt = 16 := by rw [w23]; rfl
          refine lv_tableIn (off := 72) (tgt := 85) hx hb dX7_isTest_13 (by rw [hi]; decide) (by rw [hi]; decide) (by rw [hi]; rfl) (by decide) ?_
          refine s_aload_n hx hb dX7_isTest_85 rfl (lv_at hl 2 rfl) ?_
          refine s_aload_n hx hb dX7_isTest_86 rfl (lv_at hl 0 rfl) ?_
          obtain ⟨x24, hx24, hE⟩ := bd hE
          refine s_gR hx hb hT u_X7 hown hK hW hx24 rfl (by decide) fl_X7_17 rfl dX7_isTest_87 ?_
          refine lv_iload_n hx hb dX7_isTest_90 rfl (lv_at hl 1 rfl) ?_
          obtain ⟨x25, hx25, hE⟩ := bd hE
          refine s_ldI hx hb hK hW hS hx25 dX7_isTest_91 ?_
          refine s_aload_n hx hb dX7_isTest_92 rfl (lv_at hl 0 rfl) ?_
          obtain ⟨x26, hx26, hE⟩ := bd hE
          refine s_gR hx hb hT u_X7 hown hK hW hx26 rfl (by decide) fl_X7_21 rfl dX7_isTest_93 ?_
          refine lv_iload_n hx hb dX7_isTest_96 rfl (lv_at hl 1 rfl) ?_
          obtain ⟨x27, hx27, hE⟩ := bd hE
          refine s_ldI hx hb hK hW hS hx27 dX7_isTest_97 ?_
          obtain ⟨c28, hE⟩ := ck hE
          obtain ⟨x29, hx29, hE⟩ := bd hE
          refine s_callV (As := [.int x25, .int x27]) (rest := []) CF hK hW hS (S_X1_isAhead l G F hx29) c28 rfl gv_X7_77 hd_X1_isAhead ⟨Nat.le_of_ble_eq_true rfl, Nat.le_of_ble_eq_true rfl⟩ rfl hl.1 rfl (Nat.le_of_ble_eq_true rfl) dX7_isTest_98 ⟨Nat.le_refl _, Nat.le_refl _⟩ (fun H locs hW hS => ?_)
          obtain ⟨c30, hE⟩ := ck hE
          obtain rfl := so1 hE
          exact s_zret hx hb hr c30 hlocks hW hS dX7_isTest_101
        · replace hE := ite_f w23 hE
          replace w5 := lv_neT w5 (a := 13) rfl
          replace w11 := lv_neT w11 (a := 14) rfl
          replace w17 := lv_neT w17 (a := 15) rfl
          replace w23 := lv_neT w23 (a := 16) rfl
          refine lv_tableOut (tgt := 102) hx hb dX7_isTest_13 (by omega) (by decide) ?_
          refine s_aload_n hx hb dX7_isTest_102 rfl (lv_at hl 0 rfl) ?_
          refine lv_iload_n hx hb dX7_isTest_103 rfl (lv_at hl 1 rfl) ?_
          refine s_aload_n hx hb dX7_isTest_104 rfl (lv_at hl 0 rfl) ?_
          refine lv_iload_n hx hb dX7_isTest_105 rfl (lv_at hl 1 rfl) ?_
          refine s_aload_n hx hb dX7_isTest_106 rfl (lv_at hl 2 rfl) ?_
          refine s_aload_n hx hb dX7_isTest_107 rfl (lv_at hl 3 rfl) ?_
          obtain ⟨c31, hE⟩ := ck hE
          obtain ⟨x32, hx32, hE⟩ := bd hE
          refine s_callV (As := [.int u1, rr G u2, rr G u3]) (rest := [.int u1, rr G u0]) CF hK hW hS (S_X7_measureOf l G F hx32) c31 rfl gv_X7_80 hd_X7_measureOf ⟨Nat.le_of_ble_eq_true rfl, Nat.le_of_ble_eq_true rfl⟩ rfl hl.1 rfl (Nat.le_of_ble_eq_true rfl) dX7_isTest_108 ⟨Nat.le_refl _, Nat.le_refl _⟩ (fun H locs hW hS => ?_)
          obtain ⟨c33, hE⟩ := ck hE
          obtain ⟨x34, hx34, hE⟩ := bd hE
          refine s_callV (As := [.int u1, .int x32]) (rest := []) CF hK hW hS (S_X7_isMeasure l G F hx34) c33 rfl gv_X7_84 hd_X7_isMeasure ⟨Nat.le_of_ble_eq_true rfl, Nat.le_of_ble_eq_true rfl⟩ rfl hl.1 rfl (Nat.le_of_ble_eq_true rfl) dX7_isTest_111 ⟨Nat.le_refl _, Nat.le_refl _⟩ (fun H locs hW hS => ?_)
          obtain ⟨c35, hE⟩ := ck hE
          obtain rfl := so1 hE
          exact s_zret hx hb hr c35 hlocks hW hS dX7_isTest_114
set_option maxHeartbeats 4000000 in
set_option maxRecDepth 100000 in
theorem S_X7_isTrueOf (l : Launch) (G : GG) (F : Nat) {u0 : Option Nat} {u1 : Option Nat} {u2 : Option Nat} {f : Hp} {r : Int32} {n : Nat} (hE : m_X7_isTrueOf F u0 u1 u2 f = some r) : Ctr l G yX7_isTrueOf cX7_isTrueOf 6 (some .boolean) 5 109 [rr G u0, rr G u1, rr G u2] f n (some (.int r)) f n 0 0 := by
  refine Met.ofW (cc := cX7_isTrueOf) (maxL := 6) (ret := (some .boolean)) (by decide) rfl ?_
  intro p e s m args below meth c s₁ B hml hv
  obtain ⟨rfl, hK, hW⟩ := hv
  have hx := B.exec
  have hb := B.bytes
  have hr := B.returns
  have hts := atoms_spec (ws := wsO yX7_isTrueOf cX7_isTrueOf 6 (some .boolean)) B.pre
  have hT : ∀ w ∈ TB, w.before [rr G u0, rr G u1, rr G u2].toArray s = true := fun w hw => hts w (List.mem_cons_of_mem _ hw)
  have hown : s.vm.findClass RX7 = some m.cls := findClass_of_methodNamed B.named
  have hlocks := B.notSynchronized
  have CF : CallFix p m c cX7_isTrueOf 6 s [rr G u0, rr G u1, rr G u2].toArray TB RX7 := ⟨hx, hb, hml, hown, hT⟩
  have hS : va_S (WA G) s.heap s.heap [] := va_S.rf
  have hl : lv_has (lg_sl ([rr G u0, rr G u1, rr G u2]) ++ List.replicate (6 - (lg_sl ([rr G u0, rr G u1, rr G u2])).length) Slot.unset).toArray 6 [(0, rr G u0), (1, rr G u1), (2, rr G u2)] := by cases u0 <;> cases u1 <;> cases u2 <;> exact lv_entry _ (Nat.le_of_ble_eq_true rfl)
  rw [lg_entry_eq]
  generalize (lg_sl ([rr G u0, rr G u1, rr G u2]) ++ List.replicate (6 - (lg_sl ([rr G u0, rr G u1, rr G u2])).length) Slot.unset).toArray = ls at hl ⊢
  have hC129 : ∀ (v3 : Int32) (H : Heap) (locs : List Loc) (ls : Array Slot), m_X7_isTrueOf_B129 F v3 f = some r → Wd G f n H → va_S (WA G) s.heap H locs → lv_has ls 6 [(3, .int v3)] → W p l e (headSpec (wsO yX7_isTrueOf cX7_isTrueOf 6 (some .boolean)) { frames := 5, cells := 0, slots := 0, locals := 109 }).room s m [rr G u0, rr G u1, rr G u2].toArray below meth c H locs 0 0 (MQ below (Qcn G (some (.int r)) f n) [rr G u0, rr G u1, rr G u2].toArray s 0 0 (WA G)) (F0 m 129 ls []) := by
    intro v3 H locs ls hE hW hS hl
    refine lv_iload_n hx hb dX7_isTrueOf_129 rfl (lv_at hl 0 rfl) ?_
    refine lv_iconst (v := (1 : Int32)) hx hb dX7_isTrueOf_130 (by decide) ?_
    refine lv_iand hx hb dX7_isTrueOf_131 ?_
    refine lv_if_eq (tgt := 139) hx hb dX7_isTrueOf_132 (by decide) (fun q27 => ?_) (fun q27 => ?_)
    · replace hE := ite_t q27 hE
      refine lv_iconst (v := (0 : Int32)) hx hb dX7_isTrueOf_139 (by decide) ?_
      obtain ⟨c28, hE⟩ := ck hE
      obtain rfl := so1 hE
      exact s_zret hx hb hr c28 hlocks hW hS dX7_isTrueOf_140
    · replace hE := ite_f q27 hE
      refine lv_iconst (v := (1 : Int32)) hx hb dX7_isTrueOf_135 (by decide) ?_
      refine lv_goto (tgt := 140) hx hb dX7_isTrueOf_136 (by decide) ?_
      obtain ⟨c29, hE⟩ := ck hE
      obtain rfl := so1 hE
      exact s_zret hx hb hr c29 hlocks hW hS dX7_isTrueOf_140
  have hC5 : ∀ (k5 : Nat), ∀ (v0 : Option Nat) (v1 : Option Nat) (v2 : Option Nat) (v3 : Int32) (v4 : Int32) (H : Heap) (locs : List Loc) (ls : Array Slot), m_X7_isTrueOf_L5 F k5 v0 v1 v2 v3 v4 f = some r → Wd G f n H → va_S (WA G) s.heap H locs → lv_has ls 6 [(0, rr G v0), (1, rr G v1), (2, rr G v2), (3, .int v3), (4, .int v4)] → W p l e (headSpec (wsO yX7_isTrueOf cX7_isTrueOf 6 (some .boolean)) { frames := 5, cells := 0, slots := 0, locals := 109 }).room s m [rr G u0, rr G u1, rr G u2].toArray below meth c H locs 0 0 (MQ below (Qcn G (some (.int r)) f n) [rr G u0, rr G u1, rr G u2].toArray s 0 0 (WA G)) (F0 m 5 ls []) := by
    intro k5
    induction k5 with
    | zero => intro v0 v1 v2 v3 v4 H locs ls hE _ _ _; cases (show (none : Option Int32) = some r from hE)
    | succ k5 ih5 =>
      intro v0 v1 v2 v3 v4 H locs ls hE hW hS hl
      replace hE : m_X7_isTrueOf_b5 F (m_X7_isTrueOf_L5 F k5) v0 v1 v2 v3 v4 f = some r := hE
      refine lv_iload hx hb dX7_isTrueOf_5 (lv_at hl 4 rfl) ?_
      refine s_aload_n hx hb dX7_isTrueOf_7 rfl (lv_at hl 0 rfl) ?_
      obtain ⟨x1, hx1, hE⟩ := bd hE
      refine s_gI hx hb hT u_X7 hown hK hW hx1 rfl (by decide) fl_X7_34 rfl dX7_isTrueOf_8 ?_
      refine lv_icmp_ge (tgt := 129) hx hb dX7_isTrueOf_11 (by decide) (fun q2 => ?_) (fun q2 => ?_)
      · replace hE := ite_t q2 hE
        exact hC129 _ _ _ _ hE hW hS (lv_sub hl [3] rfl)
      · replace hE := ite_f q2 hE
        refine lv_iload hx hb dX7_isTrueOf_14 (lv_at hl 4 rfl) ?_
        refine lv_bipush (v := (40 : Int32)) hx hb dX7_isTrueOf_16 (by decide) ?_
        refine lv_icmp_ge (tgt := 129) hx hb dX7_isTrueOf_18 (by decide) (fun q3 => ?_) (fun q3 => ?_)
        · replace hE := ite_t q3 hE
          exact hC129 _ _ _ _ hE hW hS (lv_sub hl [3] rfl)
        · replace hE := ite_f q3 hE
          refine lv_iload_n hx hb dX7_isTrueOf_21 rfl (lv_at hl 3 rfl) ?_
          refine lv_iconst (v := (1 : Int32)) hx hb dX7_isTrueOf_22 (by decide) ?_
          refine lv_iand hx hb dX7_isTrueOf_23 ?_
          refine lv_topi (fun y4 ey4 => ?_)
          replace hE := nm_o ey4 hE
          refine lv_istore (lv' := [(5, .int y4), (0, rr G v0), (1, rr G v1), (2, rr G v2), (3, .int v3), (4, .int v4)]) hx hb dX7_isTrueOf_24 hl (by decide) rfl (fun ls hl => ?_)
          refine s_getSt hx hb hT hK hS hown 33 (by decide) (z33 hK) fl_X7_42 dX7_isTrueOf_26 ?_
          refine s_aload_n hx hb dX7_isTrueOf_29 rfl (lv_at hl 1 rfl) ?_
          obtain ⟨x5, hx5, hE⟩ := bd hE
          refine s_gR hx hb hT u_X7 hown hK hW hx5 rfl (by decide) fl_X7_13 rfl dX7_isTrueOf_30 ?_
          refine lv_iload hx hb dX7_isTrueOf_33 (lv_at hl 5 rfl) ?_
          obtain ⟨x6, hx6, hE⟩ := bd hE
          refine s_ldR hx hb hK hW hS hx6 (by decide) rfl dX7_isTrueOf_35 ?_
          obtain ⟨i7, hi7, hE⟩ := bd hE
          refine s_ord (l := l) CF hK hW hS hi7 or_X7_47 ⟨Nat.le_of_ble_eq_true rfl, Nat.le_of_ble_eq_true rfl⟩ hl.1 (Nat.le_of_ble_eq_true rfl) dX7_isTrueOf_36 ⟨Nat.le_refl _, Nat.le_refl _⟩ (fun H locs hW hS => ?_)
          obtain ⟨x8, hx8, hE⟩ := bd hE
          refine s_ldI hx hb hK hW hS hx8 dX7_isTrueOf_39 ?_
          by_cases w9 : x8 = (10 : Int32)
          · replace hE := ite_t w9 hE
            have hi : (x8).toInt = 10 := by rw [w9]; rfl
            refine lv_tableIn (off := 28) (tgt := 68) hx hb dX7_isTrueOf_40 (by rw [hi]; decide) (by rw [hi]; decide) (by rw [hi]; rfl) (by decide) ?_
            refine lv_iload_n hx hb dX7_isTrueOf_68 rfl (lv_at hl 4 rfl) ?_
            refine lv_iconst (v := (1 : Int32)) hx hb dX7_isTrueOf_69 (by decide) ?_
            refine lv_ixor hx hb dX7_isTrueOf_70 ?_
            refine lv_topi (fun y10 ey10 => ?_)
            replace hE := nm_o ey10 hE
            refine lv_istore_n (i := 3) (lv' := [(3, .int y10), (5, .int y4), (0, rr G v0), (1, rr G v1), (2, rr G v2), (4, .int v4)]) hx hb dX7_isTrueOf_71 rfl hl (by decide) (by simp [cat_rr]) (fun ls hl => ?_)
            refine lv_goto (tgt := 123) hx hb dX7_isTrueOf_72 (by decide) ?_
            obtain ⟨y11, ey11⟩ : ∃ y : Int32, y = v4 + (1 : Int32) := ⟨_, rfl⟩
            replace hE := nm_o ey11 hE
            refine lv_iinc (k := 5) (v := y11) (lv' := [(4, .int y11), (3, .int y10), (5, .int y4), (0, rr G v0), (1, rr G v1), (2, rr G v2)]) hx hb dX7_isTrueOf_123 hl rfl (by rw [ey11]; rfl) (by decide) rfl (fun ls hl => ?_)
            refine lv_goto (tgt := 5) hx hb dX7_isTrueOf_126 (by decide) ?_
            exact ih5 _ _ _ _ _ _ _ _ hE hW hS (lv_sub hl [3, 4, 5, 1, 0] rfl)
          · replace hE := ite_f w9 hE
            by_cases w12 : x8 = (11 : Int32)
            · replace hE := ite_t w12 hE
              have hi : (x8).toInt = 11 := by rw [w12]; rfl
              refine lv_tableIn (off := 35) (tgt := 75) hx hb dX7_isTrueOf_40 (by rw [hi]; decide) (by rw [hi]; decide) (by rw [hi]; rfl) (by decide) ?_
              refine lv_iload_n hx hb dX7_isTrueOf_75 rfl (lv_at hl 4 rfl) ?_
              refine lv_iconst (v := (1 : Int32)) hx hb dX7_isTrueOf_76 (by decide) ?_
              refine lv_iushr (v := (ius v3 (1 : Int32))) hx hb dX7_isTrueOf_77 rfl ?_
              refine lv_topi (fun y13 ey13 => ?_)
              replace hE := nm_o ey13 hE
              refine lv_istore_n (i := 3) (lv' := [(3, .int y13), (5, .int y4), (0, rr G v0), (1, rr G v1), (2, rr G v2), (4, .int v4)]) hx hb dX7_isTrueOf_78 rfl hl (by decide) (by simp [cat_rr]) (fun ls hl => ?_)
              refine lv_iload_n hx hb dX7_isTrueOf_79 rfl (lv_at hl 0 rfl) ?_
              refine lv_iload hx hb dX7_isTrueOf_80 (lv_at hl 1 rfl) ?_
              refine lv_bipush (v := (-2 : Int32)) hx hb dX7_isTrueOf_82 (by decide) ?_
              refine lv_ior hx hb dX7_isTrueOf_84 ?_
              refine lv_iand hx hb dX7_isTrueOf_85 ?_
              refine lv_topi (fun y14 ey14 => ?_)
              replace hE := nm_o ey14 hE
              refine lv_istore_n (i := 3) (lv' := [(3, .int y14), (5, .int y4), (0, rr G v0), (1, rr G v1), (2, rr G v2), (4, .int v4)]) hx hb dX7_isTrueOf_86 rfl hl (by decide) (by simp [cat_rr]) (fun ls hl => ?_)
              refine lv_goto (tgt := 123) hx hb dX7_isTrueOf_87 (by decide) ?_
              obtain ⟨y15, ey15⟩ : ∃ y : Int32, y = v4 + (1 : Int32) := ⟨_, rfl⟩
              replace hE := nm_o ey15 hE
              refine lv_iinc (k := 5) (v := y15) (lv' := [(4, .int y15), (3, .int y14), (5, .int y4), (0, rr G v0), (1, rr G v1), (2, rr G v2)]) hx hb dX7_isTrueOf_123 hl rfl (by rw [ey15]; rfl) (by decide) rfl (fun ls hl => ?_)
              refine lv_goto (tgt := 5) hx hb dX7_isTrueOf_126 (by decide) ?_
              exact ih5 _ _ _ _ _ _ _ _ hE hW hS (lv_sub hl [3, 4, 5, 1, 0] rfl)
            · replace hE := ite_f w12 hE
              by_cases w16 : x8 = (12 : Int32)
              · replace hE := ite_t w16 hE
                have hi : (x8).toInt = 12 := by rw [w16]; rfl
                refine lv_tableIn (off := 50) (tgt := 90) hx hb dX7_isTrueOf_40 (by rw [hi]; decide) (by rw [hi]; decide) (by rw [hi]; rfl) (by decide) ?_
                refine lv_iload_n hx hb dX7_isTrueOf_90 rfl (lv_at hl 4 rfl) ?_
                refine lv_iconst (v := (1 : Int32)) hx hb dX7_isTrueOf_91 (by decide) ?_
                refine lv_iushr (v := (ius v3 (1 : Int32))) hx hb dX7_isTrueOf_92 rfl ?_
                refine lv_topi (fun y17 ey17 => ?_)
                replace hE := nm_o ey17 hE
                refine lv_istore_n (i := 3) (lv' := [(3, .int y17), (5, .int y4), (0, rr G v0), (1, rr G v1), (2, rr G v2), (4, .int v4)]) hx hb dX7_isTrueOf_93 rfl hl (by decide) (by simp [cat_rr]) (fun ls hl => ?_)
                refine lv_iload_n hx hb dX7_isTrueOf_94 rfl (lv_at hl 0 rfl) ?_
                refine lv_iload hx hb dX7_isTrueOf_95 (lv_at hl 1 rfl) ?_
                refine lv_ior hx hb dX7_isTrueOf_97 ?_
                refine lv_topi (fun y18 ey18 => ?_)
                replace hE := nm_o ey18 hE
                refine lv_istore_n (i := 3) (lv' := [(3, .int y18), (5, .int y4), (0, rr G v0), (1, rr G v1), (2, rr G v2), (4, .int v4)]) hx hb dX7_isTrueOf_98 rfl hl (by decide) (by simp [cat_rr]) (fun ls hl => ?_)
                refine lv_goto (tgt := 123) hx hb dX7_isTrueOf_99 (by decide) ?_
                obtain ⟨y19, ey19⟩ : ∃ y : Int32, y = v4 + (1 : Int32) := ⟨_, rfl⟩
                replace hE := nm_o ey19 hE
                refine lv_iinc (k := 5) (v := y19) (lv' := [(4, .int y19), (3, .int y18), (5, .int y4), (0, rr G v0), (1, rr G v1), (2, rr G v2)]) hx hb dX7_isTrueOf_123 hl rfl (by rw [ey19]; rfl) (by decide) rfl (fun ls hl => ?_)
                refine lv_goto (tgt := 5) hx hb dX7_isTrueOf_126 (by decide) ?_
                exact ih5 _ _ _ _ _ _ _ _ hE hW hS (lv_sub hl [3, 4, 5, 1, 0] rfl)
              · replace hE := ite_f w16 hE
                replace w9 := lv_neT w9 (a := 10) rfl
                replace w12 := lv_neT w12 (a := 11) rfl
                replace w16 := lv_neT w16 (a := 12) rfl
                refine lv_tableOut (tgt := 102) hx hb dX7_isTrueOf_40 (by omega) (by decide) ?_
                refine lv_iload_n hx hb dX7_isTrueOf_102 rfl (lv_at hl 4 rfl) ?_
                refine lv_iconst (v := (1 : Int32)) hx hb dX7_isTrueOf_103 (by decide) ?_
                refine lv_ishl hx hb dX7_isTrueOf_104 ?_
                refine s_aload_n hx hb dX7_isTrueOf_105 rfl (lv_at hl 1 rfl) ?_
                refine lv_iload hx hb dX7_isTrueOf_106 (lv_at hl 5 rfl) ?_
                refine s_aload_n hx hb dX7_isTrueOf_108 rfl (lv_at hl 2 rfl) ?_
                refine s_aload_n hx hb dX7_isTrueOf_109 rfl (lv_at hl 3 rfl) ?_
                obtain ⟨c20, hE⟩ := ck hE
                obtain ⟨x21, hx21, hE⟩ := bd hE
                refine s_callV (As := [.int v4, rr G v1, rr G v2]) (rest := [.int (v3 <<< ((1 : Int32) &&& 31))]) CF hK hW hS (S_X7_isTest l G F hx21) c20 rfl gv_X7_51 hd_X7_isTest ⟨Nat.le_of_ble_eq_true rfl, Nat.le_of_ble_eq_true rfl⟩ rfl hl.1 rfl (Nat.le_of_ble_eq_true rfl) dX7_isTrueOf_110 ⟨Nat.le_refl _, Nat.le_refl _⟩ (fun H locs hW hS => ?_)
                refine lv_if_eq (tgt := 120) hx hb dX7_isTrueOf_113 (by decide) (fun q22 => ?_) (fun q22 => ?_)
                · replace hE := ite_t q22 hE
                  refine lv_iconst (v := (0 : Int32)) hx hb dX7_isTrueOf_120 (by decide) ?_
                  refine lv_ior hx hb dX7_isTrueOf_121 ?_
                  refine lv_topi (fun y23 ey23 => ?_)
                  replace hE := nm_o ey23 hE
                  refine lv_istore_n (i := 3) (lv' := [(3, .int y23), (5, .int y4), (0, rr G v0), (1, rr G v1), (2, rr G v2), (4, .int v4)]) hx hb dX7_isTrueOf_122 rfl hl (by decide) (by simp [cat_rr]) (fun ls hl => ?_)
                  obtain ⟨y24, ey24⟩ : ∃ y : Int32, y = v4 + (1 : Int32) := ⟨_, rfl⟩
                  replace hE := nm_o ey24 hE
                  refine lv_iinc (k := 5) (v := y24) (lv' := [(4, .int y24), (3, .int y23), (5, .int y4), (0, rr G v0), (1, rr G v1), (2, rr G v2)]) hx hb dX7_isTrueOf_123 hl rfl (by rw [ey24]; rfl) (by decide) rfl (fun ls hl => ?_)
                  refine lv_goto (tgt := 5) hx hb dX7_isTrueOf_126 (by decide) ?_
                  exact ih5 _ _ _ _ _ _ _ _ hE hW hS (lv_sub hl [3, 4, 5, 1, 0] rfl)
                · replace hE := ite_f q22 hE
                  refine lv_iconst (v := (1 : Int32)) hx hb dX7_isTrueOf_116 (by decide) ?_
                  refine lv_goto (tgt := 121) hx hb dX7_isTrueOf_117 (by decide) ?_
                  refine lv_ior hx hb dX7_isTrueOf_121 ?_
                  refine lv_topi (fun y25 ey25 => ?_)
                  replace hE := nm_o ey25 hE
                  refine lv_istore_n (i := 3) (lv' := [(3, .int y25), (5, .int y4), (0, rr G v0), (1, rr G v1), (2, rr G v2), (4, .int v4)]) hx hb dX7_isTrueOf_122 rfl hl (by decide) (by simp [cat_rr]) (fun ls hl => ?_)
                  obtain ⟨y26, ey26⟩ : ∃ y : Int32, y = v4 + (1 : Int32) := ⟨_, rfl⟩
                  replace hE := nm_o ey26 hE
                  refine lv_iinc (k := 5) (v := y26) (lv' := [(4, .int y26), (3, .int y25), (5, .int y4), (0, rr G v0), (1, rr G v1), (2, rr G v2)]) hx hb dX7_isTrueOf_123 hl rfl (by rw [ey26]; rfl) (by decide) rfl (fun ls hl => ?_)
                  refine lv_goto (tgt := 5) hx hb dX7_isTrueOf_126 (by decide) ?_
                  exact ih5 _ _ _ _ _ _ _ _ hE hW hS (lv_sub hl [3, 4, 5, 1, 0] rfl)
  refine lv_iconst (v := (0 : Int32)) hx hb dX7_isTrueOf_0 (by decide) ?_
  refine lv_istore_n (i := 3) (lv' := [(3, .int (0 : Int32)), (0, rr G u0), (1, rr G u1), (2, rr G u2)]) hx hb dX7_isTrueOf_1 rfl hl (by decide) (by simp [cat_rr]) (fun ls hl => ?_)
  refine lv_iconst (v := (0 : Int32)) hx hb dX7_isTrueOf_2 (by decide) ?_
  refine lv_istore (lv' := [(4, .int (0 : Int32)), (3, .int (0 : Int32)), (0, rr G u0), (1, rr G u1), (2, rr G u2)]) hx hb dX7_isTrueOf_3 hl (by decide) rfl (fun ls hl => ?_)
  exact hC5 F _ _ _ _ _ _ _ _ hE hW hS (lv_sub hl [2, 3, 4, 1, 0] rfl)
set_option maxHeartbeats 4000000 in
set_option maxRecDepth 100000 in
theorem S_X11_said (l : Launch) (G : GG) (F : Nat) {u0 : Option Nat} {f : Hp} {r : Int32} {n : Nat} (hE : m_X11_said F u0 f = some r) : Ctr l G yX11_said cX11_said 3 (some .int) 6 134 [rr G u0] f n (some (.int r)) f n 0 0 := by
  refine Met.ofW (cc := cX11_said) (maxL := 3) (ret := (some .int)) (by decide) rfl ?_
  intro p e s m args below meth c s₁ B hml hv
  obtain ⟨rfl, hK, hW⟩ := hv
  have hx := B.exec
  have hb := B.bytes
  have hr := B.returns
  have hts := atoms_spec (ws := wsO yX11_said cX11_said 3 (some .int)) B.pre
  have hT : ∀ w ∈ TB, w.before [rr G u0].toArray s = true := fun w hw => hts w (List.mem_cons_of_mem _ hw)
  have hown : s.vm.findClass RX11 = some m.cls := findClass_of_methodNamed B.named
  have hlocks := B.notSynchronized
  have CF : CallFix p m c cX11_said 3 s [rr G u0].toArray TB RX11 := ⟨hx, hb, hml, hown, hT⟩
  have hS : va_S (WA G) s.heap s.heap [] := va_S.rf
  have hl : lv_has (lg_sl ([rr G u0]) ++ List.replicate (3 - (lg_sl ([rr G u0])).length) Slot.unset).toArray 3 [(0, rr G u0)] := by cases u0 <;> exact lv_entry _ (Nat.le_of_ble_eq_true rfl)
  rw [lg_entry_eq]
  generalize (lg_sl ([rr G u0]) ++ List.replicate (3 - (lg_sl ([rr G u0])).length) Slot.unset).toArray = ls at hl ⊢
  have hC19 : ∀ (k19 : Nat), ∀ (v0 : Option Nat) (v1 : Int32) (v2 : Int32) (H : Heap) (locs : List Loc) (ls : Array Slot), m_X11_said_L19 F k19 v0 v1 v2 f = some r → Wd G f n H → va_S (WA G) s.heap H locs → lv_has ls 3 [(0, rr G v0), (1, .int v1), (2, .int v2)] → W p l e (headSpec (wsO yX11_said cX11_said 3 (some .int)) { frames := 6, cells := 0, slots := 0, locals := 134 }).room s m [rr G u0].toArray below meth c H locs 0 0 (MQ below (Qcn G (some (.int r)) f n) [rr G u0].toArray s 0 0 (WA G)) (F0 m 19 ls []) := by
    intro k19
    induction k19 with
    | zero => intro v0 v1 v2 H locs ls hE _ _ _; cases (show (none : Option Int32) = some r from hE)
    | succ k19 ih19 =>
      intro v0 v1 v2 H locs ls hE hW hS hl
      replace hE : m_X11_said_b19 F (m_X11_said_L19 F k19) v0 v1 v2 f = some r := hE
      refine lv_iload_n hx hb dX11_said_19 rfl (lv_at hl 2 rfl) ?_
      refine s_aload_n hx hb dX11_said_20 rfl (lv_at hl 0 rfl) ?_
      obtain ⟨x1, hx1, hE⟩ := bd hE
      refine s_gR hx hb hT u_X11 hown hK hW hx1 rfl (by decide) fl_X11_16 rfl dX11_said_21 ?_
      obtain ⟨x2, hx2, hE⟩ := bd hE
      refine s_gI hx hb hT u_X4 hown hK hW hx2 rfl (by decide) fl_X11_142 rfl dX11_said_24 ?_
      refine lv_icmp_ge (tgt := 74) hx hb dX11_said_27 (by decide) (fun q3 => ?_) (fun q3 => ?_)
      · replace hE := ite_t q3 hE
        refine lv_iload_n hx hb dX11_said_74 rfl (lv_at hl 1 rfl) ?_
        obtain rfl := so1 hE
        exact s_iret hx hb hr hlocks hW hS dX11_said_75
      · replace hE := ite_f q3 hE
        refine lv_iload_n hx hb dX11_said_30 rfl (lv_at hl 2 rfl) ?_
        refine lv_bipush (v := (10 : Int32)) hx hb dX11_said_31 (by decide) ?_
        refine lv_icmp_ge (tgt := 74) hx hb dX11_said_33 (by decide) (fun q4 => ?_) (fun q4 => ?_)
        · replace hE := ite_t q4 hE
          refine lv_iload_n hx hb dX11_said_74 rfl (lv_at hl 1 rfl) ?_
          obtain rfl := so1 hE
          exact s_iret hx hb hr hlocks hW hS dX11_said_75
        · replace hE := ite_f q4 hE
          refine s_aload_n hx hb dX11_said_36 rfl (lv_at hl 0 rfl) ?_
          obtain ⟨x5, hx5, hE⟩ := bd hE
          refine s_gR hx hb hT u_X11 hown hK hW hx5 rfl (by decide) fl_X11_16 rfl dX11_said_37 ?_
          obtain ⟨x6, hx6, hE⟩ := bd hE
          refine s_gR hx hb hT u_X4 hown hK hW hx6 rfl (by decide) fl_X11_321 rfl dX11_said_40 ?_
          refine s_aload_n hx hb dX11_said_43 rfl (lv_at hl 0 rfl) ?_
          obtain ⟨x7, hx7, hE⟩ := bd hE
          refine s_gR hx hb hT u_X11 hown hK hW hx7 rfl (by decide) fl_X11_16 rfl dX11_said_44 ?_
          obtain ⟨x8, hx8, hE⟩ := bd hE
          refine s_gR hx hb hT u_X4 hown hK hW hx8 rfl (by decide) fl_X11_325 rfl dX11_said_47 ?_
          refine lv_iload_n hx hb dX11_said_50 rfl (lv_at hl 2 rfl) ?_
          obtain ⟨x9, hx9, hE⟩ := bd hE
          refine s_ldR hx hb hK hW hS hx9 (by decide) rfl dX11_said_51 ?_
          refine s_aload_n hx hb dX11_said_52 rfl (lv_at hl 0 rfl) ?_
          obtain ⟨x10, hx10, hE⟩ := bd hE
          refine s_gR hx hb hT u_X11 hown hK hW hx10 rfl (by decide) fl_X11_16 rfl dX11_said_53 ?_
          obtain ⟨c11, hE⟩ := ck hE
          obtain ⟨x12, hx12, hE⟩ := bd hE
          refine s_callV (As := [rr G x9, rr G x10]) (rest := []) CF hK hW hS (S_X7_isTrueOf l G F hx12) c11 rfl gv_X11_329 hd_X7_isTrueOf ⟨Nat.le_of_ble_eq_true rfl, Nat.le_of_ble_eq_true rfl⟩ rfl hl.1 rfl (Nat.le_of_ble_eq_true rfl) dX11_said_56 ⟨Nat.le_refl _, Nat.le_refl _⟩ (fun H locs hW hS => ?_)
          refine lv_if_eq (tgt := 68) hx hb dX11_said_59 (by decide) (fun q13 => ?_) (fun q13 => ?_)
          · replace hE := ite_t q13 hE
            obtain ⟨y14, ey14⟩ : ∃ y : Int32, y = v2 + (1 : Int32) := ⟨_, rfl⟩
            replace hE := nm_o ey14 hE
            refine lv_iinc (k := 2) (v := y14) (lv' := [(2, .int y14), (0, rr G v0), (1, .int v1)]) hx hb dX11_said_68 hl rfl (by rw [ey14]; rfl) (by decide) rfl (fun ls hl => ?_)
            refine lv_goto (tgt := 19) hx hb dX11_said_71 (by decide) ?_
            exact ih19 _ _ _ _ _ _ hE hW hS (lv_sub hl [1, 2, 0] rfl)
          · replace hE := ite_f q13 hE
            refine lv_iload_n hx hb dX11_said_62 rfl (lv_at hl 1 rfl) ?_
            refine lv_iconst (v := (1 : Int32)) hx hb dX11_said_63 (by decide) ?_
            refine lv_iload_n hx hb dX11_said_64 rfl (lv_at hl 2 rfl) ?_
            refine lv_ishl hx hb dX11_said_65 ?_
            refine lv_ior hx hb dX11_said_66 ?_
            refine lv_topi (fun y15 ey15 => ?_)
            replace hE := nm_o ey15 hE
            refine lv_istore_n (i := 1) (lv' := [(1, .int y15), (0, rr G v0), (2, .int v2)]) hx hb dX11_said_67 rfl hl (by decide) (by simp [cat_rr]) (fun ls hl => ?_)
            obtain ⟨y16, ey16⟩ : ∃ y : Int32, y = v2 + (1 : Int32) := ⟨_, rfl⟩
            replace hE := nm_o ey16 hE
            refine lv_iinc (k := 2) (v := y16) (lv' := [(2, .int y16), (1, .int y15), (0, rr G v0)]) hx hb dX11_said_68 hl rfl (by rw [ey16]; rfl) (by decide) rfl (fun ls hl => ?_)
            refine lv_goto (tgt := 19) hx hb dX11_said_71 (by decide) ?_
            exact ih19 _ _ _ _ _ _ hE hW hS (lv_sub hl [2, 1, 0] rfl)
  refine s_aload_n hx hb dX11_said_0 rfl (lv_at hl 0 rfl) ?_
  obtain ⟨x17, hx17, hE⟩ := bd hE
  refine s_gR hx hb hT u_X11 hown hK hW hx17 rfl (by decide) fl_X11_16 rfl dX11_said_1 ?_
  obtain ⟨x18, hx18, hE⟩ := bd hE
  refine s_gR hx hb hT u_X4 hown hK hW hx18 rfl (by decide) fl_X11_321 rfl dX11_said_4 ?_
  obtain ⟨x19, hx19, hE⟩ := bd hE
  refine s_gI hx hb hT u_X7 hown hK hW hx19 rfl (by decide) fl_X11_324 rfl dX11_said_7 ?_
  refine lv_if_ne (tgt := 15) hx hb dX11_said_10 (by decide) (fun q20 => ?_) (fun q20 => ?_)
  · replace hE := ite_f q20 hE
    refine lv_iconst (v := (0 : Int32)) hx hb dX11_said_15 (by decide) ?_
    refine lv_istore_n (i := 1) (lv' := [(1, .int (0 : Int32)), (0, rr G u0)]) hx hb dX11_said_16 rfl hl (by decide) (by simp [cat_rr]) (fun ls hl => ?_)
    refine lv_iconst (v := (0 : Int32)) hx hb dX11_said_17 (by decide) ?_
    refine lv_istore_n (i := 2) (lv' := [(2, .int (0 : Int32)), (1, .int (0 : Int32)), (0, rr G u0)]) hx hb dX11_said_18 rfl hl (by decide) rfl (fun ls hl => ?_)
    exact hC19 F _ _ _ _ _ _ hE hW hS (lv_sub hl [2, 1, 0] rfl)
  · replace hE := ite_t q20 hE
    refine lv_iconst (v := (-1 : Int32)) hx hb dX11_said_13 (by decide) ?_
    obtain rfl := so1 hE
    exact s_iret hx hb hr hlocks hW hS dX11_said_14
set_option maxHeartbeats 4000000 in
set_option maxRecDepth 100000 in
theorem S_X11_sense (l : Launch) (G : GG) (F : Nat) {u0 : Option Nat} {u1 : Int32} {f : Hp} {r : Int32} {f' : Hp} {n n2 z z2 : Nat} (hE : m_X11_sense F u0 u1 f n z = some (r, f', n2, z2)) : Ctr l G yX11_sense cX11_sense 5 (some .int) 5 118 [rr G u0, .int u1] f n (some (.int r)) f' n2 (n2 - n) (z2 - z) := by
  refine Met.ofW (cc := cX11_sense) (maxL := 5) (ret := (some .int)) (by decide) rfl ?_
  intro p e s m args below meth c s₁ B hml hv
  obtain ⟨rfl, hK, hW⟩ := hv
  have hx := B.exec
  have hb := B.bytes
  have hr := B.returns
  have hts := atoms_spec (ws := wsO yX11_sense cX11_sense 5 (some .int)) B.pre
  have hT : ∀ w ∈ TB, w.before [rr G u0, .int u1].toArray s = true := fun w hw => hts w (List.mem_cons_of_mem _ hw)
  have hown : s.vm.findClass RX11 = some m.cls := findClass_of_methodNamed B.named
  have hlocks := B.notSynchronized
  have CF : CallFix p m c cX11_sense 5 s [rr G u0, .int u1].toArray TB RX11 := ⟨hx, hb, hml, hown, hT⟩
  have hS : va_S (WA G) s.heap s.heap [] := va_S.rf
  have hl : lv_has (lg_sl ([rr G u0, .int u1]) ++ List.replicate (5 - (lg_sl ([rr G u0, .int u1])).length) Slot.unset).toArray 5 [(0, rr G u0), (1, .int u1)] := by cases u0 <;> exact lv_entry _ (Nat.le_of_ble_eq_true rfl)
  rw [lg_entry_eq]
  generalize (lg_sl ([rr G u0, .int u1]) ++ List.replicate (5 - (lg_sl ([rr G u0, .int u1])).length) Slot.unset).toArray = ls at hl ⊢
  have hC57 : ∀ (v1 : Int32) (v3 : Int32) (fa : Hp) (na za : Nat) (H : Heap) (locs : List Loc) (ls : Array Slot), n ≤ na → z ≤ za → m_X11_sense_B57 F v1 v3 fa na za = some (r, f', n2, z2) → Wd G fa na H → va_S (WA G) s.heap H locs → lv_has ls 5 [(1, .int v1), (3, .int v3)] → W p l e (headSpec (wsO yX11_sense cX11_sense 5 (some .int)) { frames := 5, cells := (n2 - n), slots := (z2 - z), locals := 118 }).room s m [rr G u0, .int u1].toArray below meth c H locs (na - n) (za - z) (MQ below (Qcn G (some (.int r)) f' n2) [rr G u0, .int u1].toArray s (n2 - n) (z2 - z) (WA G)) (F0 m 57 ls []) := by
    intro v1 v3 fa na za H locs ls hna hza hE hW hS hl
    refine lv_iload_n hx hb dX11_sense_57 rfl (lv_at hl 0 rfl) ?_
    refine lv_iconst (v := (-1 : Int32)) hx hb dX11_sense_58 (by decide) ?_
    refine lv_icmp_ne (tgt := 66) hx hb dX11_sense_59 (by decide) (fun q15 => ?_) (fun q15 => ?_)
    · replace hE := ite_f q15 hE
      refine lv_iconst (v := (-1 : Int32)) hx hb dX11_sense_66 (by decide) ?_
      obtain ⟨rfl, rfl, rfl, rfl⟩ := so4 hE
      exact s_iret hx hb hr hlocks hW hS dX11_sense_67
    · replace hE := ite_t q15 hE
      refine lv_iload_n hx hb dX11_sense_62 rfl (lv_at hl 1 rfl) ?_
      refine lv_goto (tgt := 67) hx hb dX11_sense_63 (by decide) ?_
      obtain ⟨rfl, rfl, rfl, rfl⟩ := so4 hE
      exact s_iret hx hb hr hlocks hW hS dX11_sense_67
  have hC10 : ∀ (k10 : Nat), ∀ (v0 : Option Nat) (v1 : Int32) (v2 : Option Nat) (v3 : Int32) (v4 : Int32) (fa : Hp) (na za : Nat) (H : Heap) (locs : List Loc) (ls : Array Slot), n ≤ na → z ≤ za → m_X11_sense_L10 F k10 v0 v1 v2 v3 v4 fa na za = some (r, f', n2, z2) → Wd G fa na H → va_S (WA G) s.heap H locs → lv_has ls 5 [(0, rr G v0), (1, .int v1), (2, rr G v2), (3, .int v3), (4, .int v4)] → W p l e (headSpec (wsO yX11_sense cX11_sense 5 (some .int)) { frames := 5, cells := (n2 - n), slots := (z2 - z), locals := 118 }).room s m [rr G u0, .int u1].toArray below meth c H locs (na - n) (za - z) (MQ below (Qcn G (some (.int r)) f' n2) [rr G u0, .int u1].toArray s (n2 - n) (z2 - z) (WA G)) (F0 m 10 ls []) := by
    intro k10
    induction k10 with
    | zero => intro v0 v1 v2 v3 v4 fa na za H locs ls hna hza hE _ _ _; cases (show (none : Option ((Int32) × Hp × Nat × Nat)) = some (r, f', n2, z2) from hE)
    | succ k10 ih10 =>
      intro v0 v1 v2 v3 v4 fa na za H locs ls hna hza hE hW hS hl
      replace hE : m_X11_sense_b10 F (m_X11_sense_L10 F k10) v0 v1 v2 v3 v4 fa na za = some (r, f', n2, z2) := hE
      refine lv_iload hx hb dX11_sense_10 (lv_at hl 4 rfl) ?_
      refine s_aload_n hx hb dX11_sense_12 rfl (lv_at hl 2 rfl) ?_
      obtain ⟨x1, hx1, hE⟩ := bd hE
      refine s_gI hx hb hT u_X6 hown hK hW hx1 rfl (by decide) fl_X11_199 rfl dX11_sense_13 ?_
      refine lv_icmp_ge (tgt := 57) hx hb dX11_sense_16 (by decide) (fun q2 => ?_) (fun q2 => ?_)
      · replace hE := ite_t q2 hE
        exact hC57 _ _ _ _ _ _ _ _ (by omega) (by omega) hE hW hS (lv_sub hl [1, 3] rfl)
      · replace hE := ite_f q2 hE
        refine s_aload_n hx hb dX11_sense_19 rfl (lv_at hl 0 rfl) ?_
        obtain ⟨x3, hx3, hE⟩ := bd hE
        refine s_gR hx hb hT u_X11 hown hK hW hx3 rfl (by decide) fl_X11_16 rfl dX11_sense_20 ?_
        refine s_aload_n hx hb dX11_sense_23 rfl (lv_at hl 2 rfl) ?_
        obtain ⟨x4, hx4, hE⟩ := bd hE
        refine s_gR hx hb hT u_X6 hown hK hW hx4 rfl (by decide) fl_X11_293 rfl dX11_sense_24 ?_
        refine lv_iload hx hb dX11_sense_27 (lv_at hl 4 rfl) ?_
        obtain ⟨x5, hx5, hE⟩ := bd hE
        refine s_ldI hx hb hK hW hS hx5 dX11_sense_29 ?_
        refine s_aload_n hx hb dX11_sense_30 rfl (lv_at hl 2 rfl) ?_
        obtain ⟨x6, hx6, hE⟩ := bd hE
        refine s_gI hx hb hT u_X6 hown hK hW hx6 rfl (by decide) fl_X11_296 rfl dX11_sense_31 ?_
        obtain ⟨c7, hE⟩ := ck hE
        obtain ⟨g8a, g8b, hE⟩ := grow_of hE
        replace g8a : na ≤ n2 := g8a
        replace g8b : za ≤ z2 := g8b
        obtain ⟨x9, hx9, hE⟩ := bd hE
        refine s_callV (As := [.int x5, .int x6]) (rest := []) CF hK hW hS (S_X4_keepsSense l G F hx9) c7 rfl gv_X11_299 hd_X4_keepsSense ⟨Nat.le_of_ble_eq_true rfl, Nat.le_of_ble_eq_true rfl⟩ rfl hl.1 rfl (Nat.le_of_ble_eq_true rfl) dX11_sense_34 ⟨show na - n + 0 ≤ n2 - n by omega, show za - z + 0 ≤ z2 - z by omega⟩ (fun H locs hW hS => ?_)
        refine lv_if_eq (tgt := 51) hx hb dX11_sense_37 (by decide) (fun q10 => ?_) (fun q10 => ?_)
        · replace hE := ite_t q10 hE
          obtain ⟨y11, ey11⟩ : ∃ y : Int32, y = v4 + (1 : Int32) := ⟨_, rfl⟩
          replace hE := nm_o ey11 hE
          refine lv_iinc (k := 4) (v := y11) (lv' := [(4, .int y11), (0, rr G v0), (1, .int v1), (2, rr G v2), (3, .int v3)]) hx hb dX11_sense_51 hl rfl (by rw [ey11]; rfl) (by decide) rfl (fun ls hl => ?_)
          refine lv_goto (tgt := 10) hx hb dX11_sense_54 (by decide) ?_
          exact ih10 _ _ _ _ _ _ _ _ _ _ _ (by omega) (by omega) hE hW hS (lv_sub hl [1, 2, 3, 4, 0] rfl)
        · replace hE := ite_f q10 hE
          refine lv_iload_n hx hb dX11_sense_40 rfl (lv_at hl 3 rfl) ?_
          refine lv_iload_n hx hb dX11_sense_41 rfl (lv_at hl 1 rfl) ?_
          refine lv_icmp_ne (tgt := 48) hx hb dX11_sense_42 (by decide) (fun q12 => ?_) (fun q12 => ?_)
          · replace hE := ite_f q12 hE
            obtain ⟨y13, ey13⟩ : ∃ y : Int32, y = v3 + (1 : Int32) := ⟨_, rfl⟩
            replace hE := nm_o ey13 hE
            refine lv_iinc (k := 3) (v := y13) (lv' := [(3, .int y13), (0, rr G v0), (1, .int v1), (2, rr G v2), (4, .int v4)]) hx hb dX11_sense_48 hl rfl (by rw [ey13]; rfl) (by decide) (by simp [cat_rr]) (fun ls hl => ?_)
            obtain ⟨y14, ey14⟩ : ∃ y : Int32, y = v4 + (1 : Int32) := ⟨_, rfl⟩
            replace hE := nm_o ey14 hE
            refine lv_iinc (k := 4) (v := y14) (lv' := [(4, .int y14), (3, .int y13), (0, rr G v0), (1, .int v1), (2, rr G v2)]) hx hb dX11_sense_51 hl rfl (by rw [ey14]; rfl) (by decide) rfl (fun ls hl => ?_)
            refine lv_goto (tgt := 10) hx hb dX11_sense_54 (by decide) ?_
            exact ih10 _ _ _ _ _ _ _ _ _ _ _ (by omega) (by omega) hE hW hS (lv_sub hl [2, 3, 4, 1, 0] rfl)
          · replace hE := ite_t q12 hE
            refine lv_iload hx hb dX11_sense_45 (lv_at hl 4 rfl) ?_
            obtain ⟨rfl, rfl, rfl, rfl⟩ := so4 hE
            exact s_iret hx hb hr hlocks hW hS dX11_sense_47
  refine W.cs (cells' := n - n) (slots' := z - z) (by omega) (by omega) ?_
  refine s_aload_n hx hb dX11_sense_0 rfl (lv_at hl 0 rfl) ?_
  obtain ⟨c16, hE⟩ := ck hE
  obtain ⟨x20, f19, nq17, zq18, hf19, hE⟩ := bd4_of hE
  obtain ⟨c21, hE⟩ := ck hE
  replace c21 := of_decide_eq_true c21
  obtain ⟨g22a, g22b, hE⟩ := grow_of hE
  replace g22a : nq17 ≤ n2 := g22a
  replace g22b : zq18 ≤ z2 := g22b
  refine s_callV (As := []) (rest := []) CF hK hW hS (S_X11_orders l G F hf19) c16 rfl gv_X11_145 hd_X11_orders ⟨Nat.le_of_ble_eq_true rfl, Nat.le_of_ble_eq_true rfl⟩ rfl hl.1 rfl (Nat.le_of_ble_eq_true rfl) dX11_sense_1 ⟨show n - n + (nq17 - (n)) ≤ n2 - n by omega, show z - z + (zq18 - (z)) ≤ z2 - z by omega⟩ (fun H locs hW hS => ?_)
  refine W.cs (cells' := nq17 - n) (slots' := zq18 - z) (by omega) (by omega) ?_
  refine s_astore_n (i := 2) (lv' := [(2, rr G x20), (0, rr G u0), (1, .int u1)]) hx hb dX11_sense_4 rfl hl (by decide) rfl (fun ls hl => ?_)
  refine lv_iconst (v := (0 : Int32)) hx hb dX11_sense_5 (by decide) ?_
  refine lv_istore_n (i := 3) (lv' := [(3, .int (0 : Int32)), (2, rr G x20), (0, rr G u0), (1, .int u1)]) hx hb dX11_sense_6 rfl hl (by decide) (by simp [cat_rr]) (fun ls hl => ?_)
  refine lv_iconst (v := (0 : Int32)) hx hb dX11_sense_7 (by decide) ?_
  refine lv_istore (lv' := [(4, .int (0 : Int32)), (3, .int (0 : Int32)), (2, rr G x20), (0, rr G u0), (1, .int u1)]) hx hb dX11_sense_8 hl (by decide) rfl (fun ls hl => ?_)
  exact hC10 F _ _ _ _ _ _ _ _ _ _ _ (by omega) (by omega) hE hW hS (lv_sub hl [3, 4, 2, 1, 0] rfl)
set_option maxHeartbeats 4000000 in
set_option maxRecDepth 100000 in
theorem S_X7_putMeasure (l : Launch) (G : GG) (F : Nat) {u0 : Option Nat} {u1 : Option Nat} {u2 : Int32} {u3 : Int32} {u4 : Int32} {u5 : Int32} {f : Hp} {f' : Hp} {n : Nat} (hE : m_X7_putMeasure F u0 u1 u2 u3 u4 u5 f = some f') : Ctr l G yX7_putMeasure cX7_putMeasure 6 none 0 0 [rr G u0, rr G u1, .int u2, .int u3, .int u4, .int u5] f n none f' n 0 0 := by
  refine Met.ofW (cc := cX7_putMeasure) (maxL := 6) (ret := none) (by decide) rfl ?_
  intro p e s m args below meth c s₁ B hml hv
  obtain ⟨rfl, hK, hW⟩ := hv
  have hx := B.exec
  have hb := B.bytes
  have hr := B.returns
  have hts := atoms_spec (ws := wsO yX7_putMeasure cX7_putMeasure 6 none) B.pre
  have hT : ∀ w ∈ TB, w.before [rr G u0, rr G u1, .int u2, .int u3, .int u4, .int u5].toArray s = true := fun w hw => hts w (List.mem_cons_of_mem _ hw)
  have hown : s.vm.findClass RX7 = some m.cls := findClass_of_methodNamed B.named
  have hlocks := B.notSynchronized
  have CF : CallFix p m c cX7_putMeasure 6 s [rr G u0, rr G u1, .int u2, .int u3, .int u4, .int u5].toArray TB RX7 := ⟨hx, hb, hml, hown, hT⟩
  have hS : va_S (WA G) s.heap s.heap [] := va_S.rf
  have hl : lv_has (lg_sl ([rr G u0, rr G u1, .int u2, .int u3, .int u4, .int u5]) ++ List.replicate (6 - (lg_sl ([rr G u0, rr G u1, .int u2, .int u3, .int u4, .int u5])).length) Slot.unset).toArray 6 [(0, rr G u0), (1, rr G u1), (2, .int u2), (3, .int u3), (4, .int u4), (5, .int u5)] := by cases u0 <;> cases u1 <;> exact lv_entry _ (Nat.le_of_ble_eq_true rfl)
  rw [lg_entry_eq]
  generalize (lg_sl ([rr G u0, rr G u1, .int u2, .int u3, .int u4, .int u5]) ++ List.replicate (6 - (lg_sl ([rr G u0, rr G u1, .int u2, .int u3, .int u4, .int u5])).length) Slot.unset).toArray = ls at hl ⊢
  refine s_aload_n hx hb dX7_putMeasure_0 rfl (lv_at hl 0 rfl) ?_
  obtain ⟨x1, hx1, hE⟩ := bd hE
  refine s_gI hx hb hT u_X7 hown hK hW hx1 rfl (by decide) fl_X7_34 rfl dX7_putMeasure_1 ?_
  refine lv_bipush (v := (40 : Int32)) hx hb dX7_putMeasure_4 (by decide) ?_
  refine lv_icmp_ge (tgt := 71) hx hb dX7_putMeasure_6 (by decide) (fun q2 => ?_) (fun q2 => ?_)
  · replace hE := ite_t q2 hE
    obtain rfl := so1 hE
    exact s_vret hx hb hr hlocks hW hS dX7_putMeasure_71
  · replace hE := ite_f q2 hE
    refine s_aload_n hx hb dX7_putMeasure_9 rfl (lv_at hl 0 rfl) ?_
    obtain ⟨x3, hx3, hE⟩ := bd hE
    refine s_gR hx hb hT u_X7 hown hK hW hx3 rfl (by decide) fl_X7_13 rfl dX7_putMeasure_10 ?_
    refine s_aload_n hx hb dX7_putMeasure_13 rfl (lv_at hl 0 rfl) ?_
    obtain ⟨x4, hx4, hE⟩ := bd hE
    refine s_gI hx hb hT u_X7 hown hK hW hx4 rfl (by decide) fl_X7_34 rfl dX7_putMeasure_14 ?_
    refine s_aload_n hx hb dX7_putMeasure_17 rfl (lv_at hl 1 rfl) ?_
    obtain ⟨f5, hf5, hE⟩ := bd hE
    refine s_stR hx hb hK hW hS (by decide) rfl hf5 dX7_putMeasure_18 (fun H locs hW hS => ?_)
    refine s_aload_n hx hb dX7_putMeasure_19 rfl (lv_at hl 0 rfl) ?_
    obtain ⟨x6, hx6, hE⟩ := bd hE
    refine s_gR hx hb hT u_X7 hown hK hW hx6 rfl (by decide) fl_X7_17 rfl dX7_putMeasure_20 ?_
    refine s_aload_n hx hb dX7_putMeasure_23 rfl (lv_at hl 0 rfl) ?_
    obtain ⟨x7, hx7, hE⟩ := bd hE
    refine s_gI hx hb hT u_X7 hown hK hW hx7 rfl (by decide) fl_X7_34 rfl dX7_putMeasure_24 ?_
    refine lv_iload_n hx hb dX7_putMeasure_27 rfl (lv_at hl 2 rfl) ?_
    obtain ⟨f8, hf8, hE⟩ := bd hE
    refine s_stI hx hb hK hW hS hf8 dX7_putMeasure_28 (fun H locs hW hS => ?_)
    refine s_aload_n hx hb dX7_putMeasure_29 rfl (lv_at hl 0 rfl) ?_
    obtain ⟨x9, hx9, hE⟩ := bd hE
    refine s_gR hx hb hT u_X7 hown hK hW hx9 rfl (by decide) fl_X7_21 rfl dX7_putMeasure_30 ?_
    refine s_aload_n hx hb dX7_putMeasure_33 rfl (lv_at hl 0 rfl) ?_
    obtain ⟨x10, hx10, hE⟩ := bd hE
    refine s_gI hx hb hT u_X7 hown hK hW hx10 rfl (by decide) fl_X7_34 rfl dX7_putMeasure_34 ?_
    refine lv_iload_n hx hb dX7_putMeasure_37 rfl (lv_at hl 3 rfl) ?_
    obtain ⟨f11, hf11, hE⟩ := bd hE
    refine s_stI hx hb hK hW hS hf11 dX7_putMeasure_38 (fun H locs hW hS => ?_)
    refine s_aload_n hx hb dX7_putMeasure_39 rfl (lv_at hl 0 rfl) ?_
    obtain ⟨x12, hx12, hE⟩ := bd hE
    refine s_gR hx hb hT u_X7 hown hK hW hx12 rfl (by decide) fl_X7_24 rfl dX7_putMeasure_40 ?_
    refine s_aload_n hx hb dX7_putMeasure_43 rfl (lv_at hl 0 rfl) ?_
    obtain ⟨x13, hx13, hE⟩ := bd hE
    refine s_gI hx hb hT u_X7 hown hK hW hx13 rfl (by decide) fl_X7_34 rfl dX7_putMeasure_44 ?_
    refine lv_iload hx hb dX7_putMeasure_47 (lv_at hl 4 rfl) ?_
    obtain ⟨f14, hf14, hE⟩ := bd hE
    refine s_stI hx hb hK hW hS hf14 dX7_putMeasure_49 (fun H locs hW hS => ?_)
    refine s_aload_n hx hb dX7_putMeasure_50 rfl (lv_at hl 0 rfl) ?_
    obtain ⟨x15, hx15, hE⟩ := bd hE
    refine s_gR hx hb hT u_X7 hown hK hW hx15 rfl (by decide) fl_X7_27 rfl dX7_putMeasure_51 ?_
    refine s_aload_n hx hb dX7_putMeasure_54 rfl (lv_at hl 0 rfl) ?_
    obtain ⟨x16, hx16, hE⟩ := bd hE
    refine s_gI hx hb hT u_X7 hown hK hW hx16 rfl (by decide) fl_X7_34 rfl dX7_putMeasure_55 ?_
    refine lv_iload hx hb dX7_putMeasure_58 (lv_at hl 5 rfl) ?_
    obtain ⟨f17, hf17, hE⟩ := bd hE
    refine s_stI hx hb hK hW hS hf17 dX7_putMeasure_60 (fun H locs hW hS => ?_)
    refine s_aload_n hx hb dX7_putMeasure_61 rfl (lv_at hl 0 rfl) ?_
    refine lv_dup hx hb dX7_putMeasure_62 (cat_rr G _) ?_
    obtain ⟨x18, hx18, hE⟩ := bd hE
    refine s_gI hx hb hT u_X7 hown hK hW hx18 rfl (by decide) fl_X7_34 rfl dX7_putMeasure_63 ?_
    refine lv_iconst (v := (1 : Int32)) hx hb dX7_putMeasure_66 (by decide) ?_
    refine lv_iadd hx hb dX7_putMeasure_67 ?_
    obtain ⟨f19, hf19, hE⟩ := bd hE
    refine s_putI hx hb hT u_X7 tyX7 tyX7_ok nmX7 hown hK hW hS hf19 rfl (by decide) fl_X7_34 rfl (Or.inl rfl) rfl dX7_putMeasure_68 (fun H locs hW hS => ?_)
    obtain rfl := so1 hE
    exact s_vret hx hb hr hlocks hW hS dX7_putMeasure_71
set_option maxHeartbeats 4000000 in
set_option maxRecDepth 100000 in
theorem S_X7_putTest (l : Launch) (G : GG) (F : Nat) {u0 : Option Nat} {u1 : Option Nat} {u2 : Int32} {u3 : Int32} {f : Hp} {f' : Hp} {n : Nat} (hE : m_X7_putTest F u0 u1 u2 u3 f = some f') : Ctr l G yX7_putTest cX7_putTest 4 none 1 25 [rr G u0, rr G u1, .int u2, .int u3] f n none f' n 0 0 := by
  refine Met.ofW (cc := cX7_putTest) (maxL := 4) (ret := none) (by decide) rfl ?_
  intro p e s m args below meth c s₁ B hml hv
  obtain ⟨rfl, hK, hW⟩ := hv
  have hx := B.exec
  have hb := B.bytes
  have hr := B.returns
  have hts := atoms_spec (ws := wsO yX7_putTest cX7_putTest 4 none) B.pre
  have hT : ∀ w ∈ TB, w.before [rr G u0, rr G u1, .int u2, .int u3].toArray s = true := fun w hw => hts w (List.mem_cons_of_mem _ hw)
  have hown : s.vm.findClass RX7 = some m.cls := findClass_of_methodNamed B.named
  have hlocks := B.notSynchronized
  have CF : CallFix p m c cX7_putTest 4 s [rr G u0, rr G u1, .int u2, .int u3].toArray TB RX7 := ⟨hx, hb, hml, hown, hT⟩
  have hS : va_S (WA G) s.heap s.heap [] := va_S.rf
  have hl : lv_has (lg_sl ([rr G u0, rr G u1, .int u2, .int u3]) ++ List.replicate (4 - (lg_sl ([rr G u0, rr G u1, .int u2, .int u3])).length) Slot.unset).toArray 4 [(0, rr G u0), (1, rr G u1), (2, .int u2), (3, .int u3)] := by cases u0 <;> cases u1 <;> exact lv_entry _ (Nat.le_of_ble_eq_true rfl)
  rw [lg_entry_eq]
  generalize (lg_sl ([rr G u0, rr G u1, .int u2, .int u3]) ++ List.replicate (4 - (lg_sl ([rr G u0, rr G u1, .int u2, .int u3])).length) Slot.unset).toArray = ls at hl ⊢
  refine s_aload_n hx hb dX7_putTest_0 rfl (lv_at hl 0 rfl) ?_
  refine s_aload_n hx hb dX7_putTest_1 rfl (lv_at hl 1 rfl) ?_
  refine lv_iload_n hx hb dX7_putTest_2 rfl (lv_at hl 2 rfl) ?_
  refine lv_iload_n hx hb dX7_putTest_3 rfl (lv_at hl 3 rfl) ?_
  refine lv_iconst (v := (0 : Int32)) hx hb dX7_putTest_4 (by decide) ?_
  refine lv_iconst (v := (0 : Int32)) hx hb dX7_putTest_5 (by decide) ?_
  obtain ⟨c1, hE⟩ := ck hE
  obtain ⟨f2, hf2, hE⟩ := bd hE
  refine s_callV (As := [rr G u1, .int u2, .int u3, .int (0 : Int32), .int (0 : Int32)]) (rest := []) CF hK hW hS (S_X7_putMeasure l G F hf2) c1 rfl gv_X7_38 hd_X7_putMeasure ⟨Nat.le_of_ble_eq_true rfl, Nat.le_of_ble_eq_true rfl⟩ rfl hl.1 rfl (Nat.le_of_ble_eq_true rfl) dX7_putTest_6 ⟨Nat.le_refl _, Nat.le_refl _⟩ (fun H locs hW hS => ?_)
  obtain rfl := so1 hE
  exact s_vret hx hb hr hlocks hW hS dX7_putTest_9
set_option maxHeartbeats 4000000 in
set_option maxRecDepth 100000 in
theorem S_X8_readHas (l : Launch) (G : GG) (F : Nat) {u0 : Option Nat} {f : Hp} {r : Int32} {f' : Hp} {n : Nat} (hE : m_X8_readHas F u0 f = some (r, f')) : Ctr l G yX8_readHas cX8_readHas 2 (some .boolean) 3 70 [rr G u0] f n (some (.int r)) f' n 0 0 := by
  refine Met.ofW (cc := cX8_readHas) (maxL := 2) (ret := (some .boolean)) (by decide) rfl ?_
  intro p e s m args below meth c s₁ B hml hv
  obtain ⟨rfl, hK, hW⟩ := hv
  have hx := B.exec
  have hb := B.bytes
  have hr := B.returns
  have hts := atoms_spec (ws := wsO yX8_readHas cX8_readHas 2 (some .boolean)) B.pre
  have hT : ∀ w ∈ TB, w.before [rr G u0].toArray s = true := fun w hw => hts w (List.mem_cons_of_mem _ hw)
  have hown : s.vm.findClass RX8 = some m.cls := findClass_of_methodNamed B.named
  have hlocks := B.notSynchronized
  have CF : CallFix p m c cX8_readHas 2 s [rr G u0].toArray TB RX8 := ⟨hx, hb, hml, hown, hT⟩
  have hS : va_S (WA G) s.heap s.heap [] := va_S.rf
  have hl : lv_has (lg_sl ([rr G u0]) ++ List.replicate (2 - (lg_sl ([rr G u0])).length) Slot.unset).toArray 2 [(0, rr G u0)] := by cases u0 <;> exact lv_entry _ (Nat.le_of_ble_eq_true rfl)
  rw [lg_entry_eq]
  generalize (lg_sl ([rr G u0]) ++ List.replicate (2 - (lg_sl ([rr G u0])).length) Slot.unset).toArray = ls at hl ⊢
  refine s_aload_n hx hb dX8_readHas_0 rfl (lv_at hl 0 rfl) ?_
  obtain ⟨x1, hx1, hE⟩ := bd hE
  refine s_gR hx hb hT u_X8 hown hK hW hx1 rfl (by decide) fl_X8_9 rfl dX8_readHas_1 ?_
  refine s_aload_n hx hb dX8_readHas_4 rfl (lv_at hl 0 rfl) ?_
  obtain ⟨x2, hx2, hE⟩ := bd hE
  refine s_gR hx hb hT u_X8 hown hK hW hx2 rfl (by decide) fl_X8_24 rfl dX8_readHas_5 ?_
  obtain ⟨x3, hx3, hE⟩ := bd hE
  refine s_gI hx hb hT u_X4 hown hK hW hx3 rfl (by decide) fl_X8_106 rfl dX8_readHas_8 ?_
  obtain ⟨c4, hE⟩ := ck hE
  obtain ⟨x5, f6, hx5, hE⟩ := bd2_of hE
  refine s_callV (As := [.int x3]) (rest := []) CF hK hW hS (S_X9_letterHere l G F hx5) c4 rfl gv_X8_111 hd_X9_letterHere ⟨Nat.le_of_ble_eq_true rfl, Nat.le_of_ble_eq_true rfl⟩ rfl hl.1 rfl (Nat.le_of_ble_eq_true rfl) dX8_readHas_11 ⟨Nat.le_refl _, Nat.le_refl _⟩ (fun H locs hW hS => ?_)
  refine lv_istore_n (i := 1) (lv' := [(1, .int x5), (0, rr G u0)]) hx hb dX8_readHas_14 rfl hl (by decide) (by simp [cat_rr]) (fun ls hl => ?_)
  refine lv_iload_n hx hb dX8_readHas_15 rfl (lv_at hl 0 rfl) ?_
  refine lv_iconst (v := (-1 : Int32)) hx hb dX8_readHas_16 (by decide) ?_
  refine lv_icmp_ne (tgt := 22) hx hb dX8_readHas_17 (by decide) (fun q7 => ?_) (fun q7 => ?_)
  · replace hE := ite_f q7 hE
    refine s_aload_n hx hb dX8_readHas_22 rfl (lv_at hl 1 rfl) ?_
    obtain ⟨x8, hx8, hE⟩ := bd hE
    refine s_gR hx hb hT u_X8 hown hK hW hx8 rfl (by decide) fl_X8_15 rfl dX8_readHas_23 ?_
    refine s_getEn hx hb hT hK hS hown 15 (by decide) fl_X8_115 dX8_readHas_26 ?_
    refine lv_iload_n hx hb dX8_readHas_29 rfl (lv_at hl 0 rfl) ?_
    refine lv_iconst (v := (0 : Int32)) hx hb dX8_readHas_30 (by decide) ?_
    obtain ⟨c9, hE⟩ := ck hE
    obtain ⟨f10, hf10, hE⟩ := bd hE
    refine s_callV (As := [rr G (some 15), .int x5, .int (0 : Int32)]) (rest := []) CF hK hW hS (S_X7_putTest l G F hf10) c9 rfl gv_X8_59 hd_X7_putTest ⟨Nat.le_of_ble_eq_true rfl, Nat.le_of_ble_eq_true rfl⟩ rfl hl.1 rfl (Nat.le_of_ble_eq_true rfl) dX8_readHas_31 ⟨Nat.le_refl _, Nat.le_refl _⟩ (fun H locs hW hS => ?_)
    refine s_aload_n hx hb dX8_readHas_34 rfl (lv_at hl 1 rfl) ?_
    obtain ⟨x11, hx11, hE⟩ := bd hE
    refine s_gR hx hb hT u_X8 hown hK hW hx11 rfl (by decide) fl_X8_9 rfl dX8_readHas_35 ?_
    obtain ⟨c12, hE⟩ := ck hE
    obtain ⟨f13, hf13, hE⟩ := bd hE
    refine s_callV (As := []) (rest := []) CF hK hW hS (S_X9_advance l G F hf13) c12 rfl gv_X8_56 hd_X9_advance ⟨Nat.le_of_ble_eq_true rfl, Nat.le_of_ble_eq_true rfl⟩ rfl hl.1 rfl (Nat.le_of_ble_eq_true rfl) dX8_readHas_38 ⟨Nat.le_refl _, Nat.le_refl _⟩ (fun H locs hW hS => ?_)
    refine lv_iconst (v := (1 : Int32)) hx hb dX8_readHas_41 (by decide) ?_
    obtain ⟨c14, hE⟩ := ck hE
    obtain ⟨rfl, rfl⟩ := so2 hE
    exact s_zret hx hb hr c14 hlocks hW hS dX8_readHas_42
  · replace hE := ite_t q7 hE
    refine lv_iconst (v := (0 : Int32)) hx hb dX8_readHas_20 (by decide) ?_
    obtain ⟨c15, hE⟩ := ck hE
    obtain ⟨rfl, rfl⟩ := so2 hE
    exact s_zret hx hb hr c15 hlocks hW hS dX8_readHas_21
set_option maxHeartbeats 4000000 in
set_option maxRecDepth 100000 in
theorem S_X8_readAhead (l : Launch) (G : GG) (F : Nat) {u0 : Option Nat} {f : Hp} {r : Int32} {f' : Hp} {n : Nat} (hE : m_X8_readAhead F u0 f = some (r, f')) : Ctr l G yX8_readAhead cX8_readAhead 3 (some .boolean) 3 70 [rr G u0] f n (some (.int r)) f' n 0 0 := by
  refine Met.ofW (cc := cX8_readAhead) (maxL := 3) (ret := (some .boolean)) (by decide) rfl ?_
  intro p e s m args below meth c s₁ B hml hv
  obtain ⟨rfl, hK, hW⟩ := hv
  have hx := B.exec
  have hb := B.bytes
  have hr := B.returns
  have hts := atoms_spec (ws := wsO yX8_readAhead cX8_readAhead 3 (some .boolean)) B.pre
  have hT : ∀ w ∈ TB, w.before [rr G u0].toArray s = true := fun w hw => hts w (List.mem_cons_of_mem _ hw)
  have hown : s.vm.findClass RX8 = some m.cls := findClass_of_methodNamed B.named
  have hlocks := B.notSynchronized
  have CF : CallFix p m c cX8_readAhead 3 s [rr G u0].toArray TB RX8 := ⟨hx, hb, hml, hown, hT⟩
  have hS : va_S (WA G) s.heap s.heap [] := va_S.rf
  have hl : lv_has (lg_sl ([rr G u0]) ++ List.replicate (3 - (lg_sl ([rr G u0])).length) Slot.unset).toArray 3 [(0, rr G u0)] := by cases u0 <;> exact lv_entry _ (Nat.le_of_ble_eq_true rfl)
  rw [lg_entry_eq]
  generalize (lg_sl ([rr G u0]) ++ List.replicate (3 - (lg_sl ([rr G u0])).length) Slot.unset).toArray = ls at hl ⊢
  refine s_aload_n hx hb dX8_readAhead_0 rfl (lv_at hl 0 rfl) ?_
  obtain ⟨x1, hx1, hE⟩ := bd hE
  refine s_gR hx hb hT u_X8 hown hK hW hx1 rfl (by decide) fl_X8_9 rfl dX8_readAhead_1 ?_
  refine s_aload_n hx hb dX8_readAhead_4 rfl (lv_at hl 0 rfl) ?_
  obtain ⟨x2, hx2, hE⟩ := bd hE
  refine s_gR hx hb hT u_X8 hown hK hW hx2 rfl (by decide) fl_X8_24 rfl dX8_readAhead_5 ?_
  obtain ⟨x3, hx3, hE⟩ := bd hE
  refine s_gI hx hb hT u_X4 hown hK hW hx3 rfl (by decide) fl_X8_106 rfl dX8_readAhead_8 ?_
  obtain ⟨c4, hE⟩ := ck hE
  obtain ⟨x5, f6, hx5, hE⟩ := bd2_of hE
  refine s_callV (As := [.int x3]) (rest := []) CF hK hW hS (S_X9_letterHere l G F hx5) c4 rfl gv_X8_111 hd_X9_letterHere ⟨Nat.le_of_ble_eq_true rfl, Nat.le_of_ble_eq_true rfl⟩ rfl hl.1 rfl (Nat.le_of_ble_eq_true rfl) dX8_readAhead_11 ⟨Nat.le_refl _, Nat.le_refl _⟩ (fun H locs hW hS => ?_)
  refine lv_istore_n (i := 1) (lv' := [(1, .int x5), (0, rr G u0)]) hx hb dX8_readAhead_14 rfl hl (by decide) (by simp [cat_rr]) (fun ls hl => ?_)
  refine lv_iload_n hx hb dX8_readAhead_15 rfl (lv_at hl 0 rfl) ?_
  refine lv_iconst (v := (-1 : Int32)) hx hb dX8_readAhead_16 (by decide) ?_
  refine lv_icmp_ne (tgt := 22) hx hb dX8_readAhead_17 (by decide) (fun q7 => ?_) (fun q7 => ?_)
  · replace hE := ite_f q7 hE
    refine s_aload_n hx hb dX8_readAhead_22 rfl (lv_at hl 1 rfl) ?_
    obtain ⟨x8, hx8, hE⟩ := bd hE
    refine s_gR hx hb hT u_X8 hown hK hW hx8 rfl (by decide) fl_X8_9 rfl dX8_readAhead_23 ?_
    obtain ⟨c9, hE⟩ := ck hE
    obtain ⟨f10, hf10, hE⟩ := bd hE
    refine s_callV (As := []) (rest := []) CF hK hW hS (S_X9_advance l G F hf10) c9 rfl gv_X8_56 hd_X9_advance ⟨Nat.le_of_ble_eq_true rfl, Nat.le_of_ble_eq_true rfl⟩ rfl hl.1 rfl (Nat.le_of_ble_eq_true rfl) dX8_readAhead_26 ⟨Nat.le_refl _, Nat.le_refl _⟩ (fun H locs hW hS => ?_)
    refine s_aload_n hx hb dX8_readAhead_29 rfl (lv_at hl 1 rfl) ?_
    obtain ⟨x11, hx11, hE⟩ := bd hE
    refine s_gR hx hb hT u_X8 hown hK hW hx11 rfl (by decide) fl_X8_9 rfl dX8_readAhead_30 ?_
    refine s_aload_n hx hb dX8_readAhead_33 rfl (lv_at hl 1 rfl) ?_
    obtain ⟨x12, hx12, hE⟩ := bd hE
    refine s_gR hx hb hT u_X8 hown hK hW hx12 rfl (by decide) fl_X8_24 rfl dX8_readAhead_34 ?_
    obtain ⟨x13, hx13, hE⟩ := bd hE
    refine s_gI hx hb hT u_X4 hown hK hW hx13 rfl (by decide) fl_X8_106 rfl dX8_readAhead_37 ?_
    obtain ⟨c14, hE⟩ := ck hE
    obtain ⟨x15, f16, hx15, hE⟩ := bd2_of hE
    refine s_callV (As := [.int x13]) (rest := []) CF hK hW hS (S_X9_letterHere l G F hx15) c14 rfl gv_X8_111 hd_X9_letterHere ⟨Nat.le_of_ble_eq_true rfl, Nat.le_of_ble_eq_true rfl⟩ rfl hl.1 rfl (Nat.le_of_ble_eq_true rfl) dX8_readAhead_40 ⟨Nat.le_refl _, Nat.le_refl _⟩ (fun H locs hW hS => ?_)
    refine lv_istore_n (i := 2) (lv' := [(2, .int x15), (1, .int x5), (0, rr G u0)]) hx hb dX8_readAhead_43 rfl hl (by decide) rfl (fun ls hl => ?_)
    refine lv_iload_n hx hb dX8_readAhead_44 rfl (lv_at hl 0 rfl) ?_
    refine lv_iconst (v := (-1 : Int32)) hx hb dX8_readAhead_45 (by decide) ?_
    refine lv_icmp_ne (tgt := 51) hx hb dX8_readAhead_46 (by decide) (fun q17 => ?_) (fun q17 => ?_)
    · replace hE := ite_f q17 hE
      refine s_aload_n hx hb dX8_readAhead_51 rfl (lv_at hl 2 rfl) ?_
      obtain ⟨x18, hx18, hE⟩ := bd hE
      refine s_gR hx hb hT u_X8 hown hK hW hx18 rfl (by decide) fl_X8_15 rfl dX8_readAhead_52 ?_
      refine s_getEn hx hb hT hK hS hown 16 (by decide) fl_X8_118 dX8_readAhead_55 ?_
      refine lv_iload_n hx hb dX8_readAhead_58 rfl (lv_at hl 1 rfl) ?_
      refine lv_iload_n hx hb dX8_readAhead_59 rfl (lv_at hl 0 rfl) ?_
      obtain ⟨c19, hE⟩ := ck hE
      obtain ⟨f20, hf20, hE⟩ := bd hE
      refine s_callV (As := [rr G (some 16), .int x5, .int x15]) (rest := []) CF hK hW hS (S_X7_putTest l G F hf20) c19 rfl gv_X8_59 hd_X7_putTest ⟨Nat.le_of_ble_eq_true rfl, Nat.le_of_ble_eq_true rfl⟩ rfl hl.1 rfl (Nat.le_of_ble_eq_true rfl) dX8_readAhead_60 ⟨Nat.le_refl _, Nat.le_refl _⟩ (fun H locs hW hS => ?_)
      refine s_aload_n hx hb dX8_readAhead_63 rfl (lv_at hl 2 rfl) ?_
      obtain ⟨x21, hx21, hE⟩ := bd hE
      refine s_gR hx hb hT u_X8 hown hK hW hx21 rfl (by decide) fl_X8_9 rfl dX8_readAhead_64 ?_
      obtain ⟨c22, hE⟩ := ck hE
      obtain ⟨f23, hf23, hE⟩ := bd hE
      refine s_callV (As := []) (rest := []) CF hK hW hS (S_X9_advance l G F hf23) c22 rfl gv_X8_56 hd_X9_advance ⟨Nat.le_of_ble_eq_true rfl, Nat.le_of_ble_eq_true rfl⟩ rfl hl.1 rfl (Nat.le_of_ble_eq_true rfl) dX8_readAhead_67 ⟨Nat.le_refl _, Nat.le_refl _⟩ (fun H locs hW hS => ?_)
      refine lv_iconst (v := (1 : Int32)) hx hb dX8_readAhead_70 (by decide) ?_
      obtain ⟨c24, hE⟩ := ck hE
      obtain ⟨rfl, rfl⟩ := so2 hE
      exact s_zret hx hb hr c24 hlocks hW hS dX8_readAhead_71
    · replace hE := ite_t q17 hE
      refine lv_iconst (v := (0 : Int32)) hx hb dX8_readAhead_49 (by decide) ?_
      obtain ⟨c25, hE⟩ := ck hE
      obtain ⟨rfl, rfl⟩ := so2 hE
      exact s_zret hx hb hr c25 hlocks hW hS dX8_readAhead_50
  · replace hE := ite_t q7 hE
    refine lv_iconst (v := (0 : Int32)) hx hb dX8_readAhead_20 (by decide) ?_
    obtain ⟨c26, hE⟩ := ck hE
    obtain ⟨rfl, rfl⟩ := so2 hE
    exact s_zret hx hb hr c26 hlocks hW hS dX8_readAhead_21
set_option maxHeartbeats 4000000 in
set_option maxRecDepth 100000 in
theorem S_X8_takeCopy (l : Launch) (G : GG) (F : Nat) {u0 : Option Nat} {f : Hp} {r : Int32} {f' : Hp} {n : Nat} (hE : m_X8_takeCopy F u0 f = some (r, f')) : Ctr l G yX8_takeCopy cX8_takeCopy 2 (some .int) 3 70 [rr G u0] f n (some (.int r)) f' n 0 0 := by
  refine Met.ofW (cc := cX8_takeCopy) (maxL := 2) (ret := (some .int)) (by decide) rfl ?_
  intro p e s m args below meth c s₁ B hml hv
  obtain ⟨rfl, hK, hW⟩ := hv
  have hx := B.exec
  have hb := B.bytes
  have hr := B.returns
  have hts := atoms_spec (ws := wsO yX8_takeCopy cX8_takeCopy 2 (some .int)) B.pre
  have hT : ∀ w ∈ TB, w.before [rr G u0].toArray s = true := fun w hw => hts w (List.mem_cons_of_mem _ hw)
  have hown : s.vm.findClass RX8 = some m.cls := findClass_of_methodNamed B.named
  have hlocks := B.notSynchronized
  have CF : CallFix p m c cX8_takeCopy 2 s [rr G u0].toArray TB RX8 := ⟨hx, hb, hml, hown, hT⟩
  have hS : va_S (WA G) s.heap s.heap [] := va_S.rf
  have hl : lv_has (lg_sl ([rr G u0]) ++ List.replicate (2 - (lg_sl ([rr G u0])).length) Slot.unset).toArray 2 [(0, rr G u0)] := by cases u0 <;> exact lv_entry _ (Nat.le_of_ble_eq_true rfl)
  rw [lg_entry_eq]
  generalize (lg_sl ([rr G u0]) ++ List.replicate (2 - (lg_sl ([rr G u0])).length) Slot.unset).toArray = ls at hl ⊢
  refine s_aload_n hx hb dX8_takeCopy_0 rfl (lv_at hl 0 rfl) ?_
  obtain ⟨x1, hx1, hE⟩ := bd hE
  refine s_gR hx hb hT u_X8 hown hK hW hx1 rfl (by decide) fl_X8_9 rfl dX8_takeCopy_1 ?_
  obtain ⟨c2, hE⟩ := ck hE
  obtain ⟨x3, hx3, hE⟩ := bd hE
  refine s_callV (As := []) (rest := []) CF hK hW hS (S_X9_isName l G F hx3) c2 rfl gv_X8_121 hd_X9_isName ⟨Nat.le_of_ble_eq_true rfl, Nat.le_of_ble_eq_true rfl⟩ rfl hl.1 rfl (Nat.le_of_ble_eq_true rfl) dX8_takeCopy_4 ⟨Nat.le_refl _, Nat.le_refl _⟩ (fun H locs hW hS => ?_)
  refine lv_if_ne (tgt := 21) hx hb dX8_takeCopy_7 (by decide) (fun q4 => ?_) (fun q4 => ?_)
  · replace hE := ite_f q4 hE
    refine s_aload_n hx hb dX8_takeCopy_21 rfl (lv_at hl 0 rfl) ?_
    obtain ⟨x5, hx5, hE⟩ := bd hE
    refine s_gR hx hb hT u_X8 hown hK hW hx5 rfl (by decide) fl_X8_24 rfl dX8_takeCopy_22 ?_
    refine s_aload_n hx hb dX8_takeCopy_25 rfl (lv_at hl 0 rfl) ?_
    obtain ⟨x6, hx6, hE⟩ := bd hE
    refine s_gR hx hb hT u_X8 hown hK hW hx6 rfl (by decide) fl_X8_9 rfl dX8_takeCopy_26 ?_
    obtain ⟨x7, hx7, hE⟩ := bd hE
    refine s_gJ hx hb hT u_X9 hown hK hW hx7 rfl (by decide) fl_X8_124 rfl dX8_takeCopy_29 ?_
    obtain ⟨c8, hE⟩ := ck hE
    obtain ⟨x9, hx9, hE⟩ := bd hE
    refine s_callV (As := [.long x7]) (rest := []) CF hK hW hS (S_X4_copyNamed l G F hx9) c8 rfl gv_X8_128 hd_X4_copyNamed ⟨Nat.le_of_ble_eq_true rfl, Nat.le_of_ble_eq_true rfl⟩ rfl hl.1 rfl (Nat.le_of_ble_eq_true rfl) dX8_takeCopy_32 ⟨Nat.le_refl _, Nat.le_refl _⟩ (fun H locs hW hS => ?_)
    refine lv_istore_n (i := 1) (lv' := [(1, .int x9), (0, rr G u0)]) hx hb dX8_takeCopy_35 rfl hl (by decide) (by simp [cat_rr]) (fun ls hl => ?_)
    refine lv_iload_n hx hb dX8_takeCopy_36 rfl (lv_at hl 0 rfl) ?_
    refine lv_iconst (v := (-1 : Int32)) hx hb dX8_takeCopy_37 (by decide) ?_
    refine lv_icmp_ne (tgt := 52) hx hb dX8_takeCopy_38 (by decide) (fun q10 => ?_) (fun q10 => ?_)
    · replace hE := ite_f q10 hE
      refine s_aload_n hx hb dX8_takeCopy_52 rfl (lv_at hl 1 rfl) ?_
      obtain ⟨x11, hx11, hE⟩ := bd hE
      refine s_gR hx hb hT u_X8 hown hK hW hx11 rfl (by decide) fl_X8_9 rfl dX8_takeCopy_53 ?_
      obtain ⟨c12, hE⟩ := ck hE
      obtain ⟨f13, hf13, hE⟩ := bd hE
      refine s_callV (As := []) (rest := []) CF hK hW hS (S_X9_advance l G F hf13) c12 rfl gv_X8_56 hd_X9_advance ⟨Nat.le_of_ble_eq_true rfl, Nat.le_of_ble_eq_true rfl⟩ rfl hl.1 rfl (Nat.le_of_ble_eq_true rfl) dX8_takeCopy_56 ⟨Nat.le_refl _, Nat.le_refl _⟩ (fun H locs hW hS => ?_)
      refine lv_iload_n hx hb dX8_takeCopy_59 rfl (lv_at hl 0 rfl) ?_
      obtain ⟨rfl, rfl⟩ := so2 hE
      exact s_iret hx hb hr hlocks hW hS dX8_takeCopy_60
    · replace hE := ite_t q10 hE
      refine s_aload_n hx hb dX8_takeCopy_41 rfl (lv_at hl 1 rfl) ?_
      obtain ⟨x14, hx14, hE⟩ := bd hE
      refine s_gR hx hb hT u_X8 hown hK hW hx14 rfl (by decide) fl_X8_9 rfl dX8_takeCopy_42 ?_
      refine lv_iconst (v := (3 : Int32)) hx hb dX8_takeCopy_45 (by decide) ?_
      obtain ⟨c15, hE⟩ := ck hE
      obtain ⟨x16, f17, hx16, hE⟩ := bd2_of hE
      refine s_callV (As := [.int (3 : Int32)]) (rest := []) CF hK hW hS (S_X9_fail l G F hx16) c15 rfl gv_X8_41 hd_X9_fail ⟨Nat.le_of_ble_eq_true rfl, Nat.le_of_ble_eq_true rfl⟩ rfl hl.1 rfl (Nat.le_of_ble_eq_true rfl) dX8_takeCopy_46 ⟨Nat.le_refl _, Nat.le_refl _⟩ (fun H locs hW hS => ?_)
      refine lv_pop hx hb dX8_takeCopy_49 rfl ?_
      refine lv_iconst (v := (-1 : Int32)) hx hb dX8_takeCopy_50 (by decide) ?_
      obtain ⟨rfl, rfl⟩ := so2 hE
      exact s_iret hx hb hr hlocks hW hS dX8_takeCopy_51
  · replace hE := ite_t q4 hE
    refine s_aload_n hx hb dX8_takeCopy_10 rfl (lv_at hl 0 rfl) ?_
    obtain ⟨x18, hx18, hE⟩ := bd hE
    refine s_gR hx hb hT u_X8 hown hK hW hx18 rfl (by decide) fl_X8_9 rfl dX8_takeCopy_11 ?_
    refine lv_iconst (v := (1 : Int32)) hx hb dX8_takeCopy_14 (by decide) ?_
    obtain ⟨c19, hE⟩ := ck hE
    obtain ⟨x20, f21, hx20, hE⟩ := bd2_of hE
    refine s_callV (As := [.int (1 : Int32)]) (rest := []) CF hK hW hS (S_X9_fail l G F hx20) c19 rfl gv_X8_41 hd_X9_fail ⟨Nat.le_of_ble_eq_true rfl, Nat.le_of_ble_eq_true rfl⟩ rfl hl.1 rfl (Nat.le_of_ble_eq_true rfl) dX8_takeCopy_15 ⟨Nat.le_refl _, Nat.le_refl _⟩ (fun H locs hW hS => ?_)
    refine lv_pop hx hb dX8_takeCopy_18 rfl ?_
    refine lv_iconst (v := (-1 : Int32)) hx hb dX8_takeCopy_19 (by decide) ?_
    obtain ⟨rfl, rfl⟩ := so2 hE
    exact s_iret hx hb hr hlocks hW hS dX8_takeCopy_20
set_option maxHeartbeats 4000000 in
set_option maxRecDepth 100000 in
theorem S_X8_readMeasure (l : Launch) (G : GG) (F : Nat) {u0 : Option Nat} {u1 : Option Nat} {u2 : Int32} {f : Hp} {r : Int32} {f' : Hp} {n : Nat} (hE : m_X8_readMeasure F u0 u1 u2 f = some (r, f')) : Ctr l G yX8_readMeasure cX8_readMeasure 5 (some .boolean) 3 70 [rr G u0, rr G u1, .int u2] f n (some (.int r)) f' n 0 0 := by
  refine Met.ofW (cc := cX8_readMeasure) (maxL := 5) (ret := (some .boolean)) (by decide) rfl ?_
  intro p e s m args below meth c s₁ B hml hv
  obtain ⟨rfl, hK, hW⟩ := hv
  have hx := B.exec
  have hb := B.bytes
  have hr := B.returns
  have hts := atoms_spec (ws := wsO yX8_readMeasure cX8_readMeasure 5 (some .boolean)) B.pre
  have hT : ∀ w ∈ TB, w.before [rr G u0, rr G u1, .int u2].toArray s = true := fun w hw => hts w (List.mem_cons_of_mem _ hw)
  have hown : s.vm.findClass RX8 = some m.cls := findClass_of_methodNamed B.named
  have hlocks := B.notSynchronized
  have CF : CallFix p m c cX8_readMeasure 5 s [rr G u0, rr G u1, .int u2].toArray TB RX8 := ⟨hx, hb, hml, hown, hT⟩
  have hS : va_S (WA G) s.heap s.heap [] := va_S.rf
  have hl : lv_has (lg_sl ([rr G u0, rr G u1, .int u2]) ++ List.replicate (5 - (lg_sl ([rr G u0, rr G u1, .int u2])).length) Slot.unset).toArray 5 [(0, rr G u0), (1, rr G u1), (2, .int u2)] := by cases u0 <;> cases u1 <;> exact lv_entry _ (Nat.le_of_ble_eq_true rfl)
  rw [lg_entry_eq]
  generalize (lg_sl ([rr G u0, rr G u1, .int u2]) ++ List.replicate (5 - (lg_sl ([rr G u0, rr G u1, .int u2])).length) Slot.unset).toArray = ls at hl ⊢
  have hC35 : ∀ (v0 : Option Nat) (v1 : Option Nat) (v2 : Int32) (v3 : Int32) (fa : Hp) (H : Heap) (locs : List Loc) (ls : Array Slot), m_X8_readMeasure_B35 F v0 v1 v2 v3 fa = some (r, f') → Wd G fa n H → va_S (WA G) s.heap H locs → lv_has ls 5 [(0, rr G v0), (1, rr G v1), (2, .int v2), (3, .int v3)] → W p l e (headSpec (wsO yX8_readMeasure cX8_readMeasure 5 (some .boolean)) { frames := 3, cells := 0, slots := 0, locals := 70 }).room s m [rr G u0, rr G u1, .int u2].toArray below meth c H locs 0 0 (MQ below (Qcn G (some (.int r)) f' n) [rr G u0, rr G u1, .int u2].toArray s 0 0 (WA G)) (F0 m 35 ls []) := by
    intro v0 v1 v2 v3 fa H locs ls hE hW hS hl
    refine s_aload_n hx hb dX8_readMeasure_35 rfl (lv_at hl 0 rfl) ?_
    obtain ⟨x1, hx1, hE⟩ := bd hE
    refine s_gR hx hb hT u_X8 hown hK hW hx1 rfl (by decide) fl_X8_9 rfl dX8_readMeasure_36 ?_
    obtain ⟨c2, hE⟩ := ck hE
    obtain ⟨f3, hf3, hE⟩ := bd hE
    refine s_callV (As := []) (rest := []) CF hK hW hS (S_X9_advance l G F hf3) c2 rfl gv_X8_56 hd_X9_advance ⟨Nat.le_of_ble_eq_true rfl, Nat.le_of_ble_eq_true rfl⟩ rfl hl.1 rfl (Nat.le_of_ble_eq_true rfl) dX8_readMeasure_39 ⟨Nat.le_refl _, Nat.le_refl _⟩ (fun H locs hW hS => ?_)
    refine s_aload_n hx hb dX8_readMeasure_42 rfl (lv_at hl 0 rfl) ?_
    obtain ⟨x4, hx4, hE⟩ := bd hE
    refine s_gR hx hb hT u_X8 hown hK hW hx4 rfl (by decide) fl_X8_9 rfl dX8_readMeasure_43 ?_
    refine lv_iconst (v := (0 : Int32)) hx hb dX8_readMeasure_46 (by decide) ?_
    refine lv_bipush (v := (99 : Int32)) hx hb dX8_readMeasure_47 (by decide) ?_
    obtain ⟨c5, hE⟩ := ck hE
    obtain ⟨x6, f7, hx6, hE⟩ := bd2_of hE
    refine s_callV (As := [.int (0 : Int32), .int (99 : Int32)]) (rest := []) CF hK hW hS (S_X9_numberHere l G F hx6) c5 rfl gv_X8_132 hd_X9_numberHere ⟨Nat.le_of_ble_eq_true rfl, Nat.le_of_ble_eq_true rfl⟩ rfl hl.1 rfl (Nat.le_of_ble_eq_true rfl) dX8_readMeasure_49 ⟨Nat.le_refl _, Nat.le_refl _⟩ (fun H locs hW hS => ?_)
    refine lv_istore (lv' := [(4, .int x6), (0, rr G v0), (1, rr G v1), (2, .int v2), (3, .int v3)]) hx hb dX8_readMeasure_52 hl (by decide) rfl (fun ls hl => ?_)
    refine lv_iload hx hb dX8_readMeasure_54 (lv_at hl 0 rfl) ?_
    refine lv_iconst (v := (-1 : Int32)) hx hb dX8_readMeasure_56 (by decide) ?_
    refine lv_icmp_ne (tgt := 62) hx hb dX8_readMeasure_57 (by decide) (fun q8 => ?_) (fun q8 => ?_)
    · replace hE := ite_f q8 hE
      refine s_aload_n hx hb dX8_readMeasure_62 rfl (lv_at hl 1 rfl) ?_
      obtain ⟨x9, hx9, hE⟩ := bd hE
      refine s_gR hx hb hT u_X8 hown hK hW hx9 rfl (by decide) fl_X8_15 rfl dX8_readMeasure_63 ?_
      refine s_aload_n hx hb dX8_readMeasure_66 rfl (lv_at hl 2 rfl) ?_
      refine lv_iload_n hx hb dX8_readMeasure_67 rfl (lv_at hl 3 rfl) ?_
      refine lv_iconst (v := (0 : Int32)) hx hb dX8_readMeasure_68 (by decide) ?_
      refine lv_iload_n hx hb dX8_readMeasure_69 rfl (lv_at hl 4 rfl) ?_
      refine lv_iload hx hb dX8_readMeasure_70 (lv_at hl 0 rfl) ?_
      obtain ⟨c10, hE⟩ := ck hE
      obtain ⟨f11, hf11, hE⟩ := bd hE
      refine s_callV (As := [rr G v1, .int v2, .int (0 : Int32), .int v3, .int x6]) (rest := []) CF hK hW hS (S_X7_putMeasure l G F hf11) c10 rfl gv_X8_136 hd_X7_putMeasure ⟨Nat.le_of_ble_eq_true rfl, Nat.le_of_ble_eq_true rfl⟩ rfl hl.1 rfl (Nat.le_of_ble_eq_true rfl) dX8_readMeasure_72 ⟨Nat.le_refl _, Nat.le_refl _⟩ (fun H locs hW hS => ?_)
      refine s_aload_n hx hb dX8_readMeasure_75 rfl (lv_at hl 1 rfl) ?_
      obtain ⟨x12, hx12, hE⟩ := bd hE
      refine s_gR hx hb hT u_X8 hown hK hW hx12 rfl (by decide) fl_X8_9 rfl dX8_readMeasure_76 ?_
      obtain ⟨c13, hE⟩ := ck hE
      obtain ⟨f14, hf14, hE⟩ := bd hE
      refine s_callV (As := []) (rest := []) CF hK hW hS (S_X9_advance l G F hf14) c13 rfl gv_X8_56 hd_X9_advance ⟨Nat.le_of_ble_eq_true rfl, Nat.le_of_ble_eq_true rfl⟩ rfl hl.1 rfl (Nat.le_of_ble_eq_true rfl) dX8_readMeasure_79 ⟨Nat.le_refl _, Nat.le_refl _⟩ (fun H locs hW hS => ?_)
      refine lv_iconst (v := (1 : Int32)) hx hb dX8_readMeasure_82 (by decide) ?_
      obtain ⟨c15, hE⟩ := ck hE
      obtain ⟨rfl, rfl⟩ := so2 hE
      exact s_zret hx hb hr c15 hlocks hW hS dX8_readMeasure_83
    · replace hE := ite_t q8 hE
      refine lv_iconst (v := (0 : Int32)) hx hb dX8_readMeasure_60 (by decide) ?_
      obtain ⟨c16, hE⟩ := ck hE
      obtain ⟨rfl, rfl⟩ := so2 hE
      exact s_zret hx hb hr c16 hlocks hW hS dX8_readMeasure_61
  refine s_aload_n hx hb dX8_readMeasure_0 rfl (lv_at hl 0 rfl) ?_
  obtain ⟨x17, hx17, hE⟩ := bd hE
  refine s_gR hx hb hT u_X8 hown hK hW hx17 rfl (by decide) fl_X8_9 rfl dX8_readMeasure_1 ?_
  obtain ⟨x18, hx18, hE⟩ := bd hE
  refine s_gI hx hb hT u_X9 hown hK hW hx18 rfl (by decide) fl_X8_73 rfl dX8_readMeasure_4 ?_
  refine lv_istore_n (i := 3) (lv' := [(3, .int x18), (0, rr G u0), (1, rr G u1), (2, .int u2)]) hx hb dX8_readMeasure_7 rfl hl (by decide) rfl (fun ls hl => ?_)
  refine lv_iload_n hx hb dX8_readMeasure_8 rfl (lv_at hl 0 rfl) ?_
  refine lv_bipush (v := (60 : Int32)) hx hb dX8_readMeasure_9 (by decide) ?_
  refine lv_icmp_eq (tgt := 35) hx hb dX8_readMeasure_11 (by decide) (fun q19 => ?_) (fun q19 => ?_)
  · replace hE := ite_t q19 hE
    exact hC35 _ _ _ _ _ _ _ _ hE hW hS (lv_sub hl [1, 2, 3, 0] rfl)
  · replace hE := ite_f q19 hE
    refine lv_iload_n hx hb dX8_readMeasure_14 rfl (lv_at hl 0 rfl) ?_
    refine lv_bipush (v := (61 : Int32)) hx hb dX8_readMeasure_15 (by decide) ?_
    refine lv_icmp_eq (tgt := 35) hx hb dX8_readMeasure_17 (by decide) (fun q20 => ?_) (fun q20 => ?_)
    · replace hE := ite_t q20 hE
      exact hC35 _ _ _ _ _ _ _ _ hE hW hS (lv_sub hl [1, 2, 3, 0] rfl)
    · replace hE := ite_f q20 hE
      refine lv_iload_n hx hb dX8_readMeasure_20 rfl (lv_at hl 0 rfl) ?_
      refine lv_bipush (v := (62 : Int32)) hx hb dX8_readMeasure_21 (by decide) ?_
      refine lv_icmp_eq (tgt := 35) hx hb dX8_readMeasure_23 (by decide) (fun q21 => ?_) (fun q21 => ?_)
      · replace hE := ite_t q21 hE
        exact hC35 _ _ _ _ _ _ _ _ hE hW hS (lv_sub hl [1, 2, 3, 0] rfl)
      · replace hE := ite_f q21 hE
        refine s_aload_n hx hb dX8_readMeasure_26 rfl (lv_at hl 1 rfl) ?_
        obtain ⟨x22, hx22, hE⟩ := bd hE
        refine s_gR hx hb hT u_X8 hown hK hW hx22 rfl (by decide) fl_X8_9 rfl dX8_readMeasure_27 ?_
        refine lv_iconst (v := (1 : Int32)) hx hb dX8_readMeasure_30 (by decide) ?_
        obtain ⟨c23, hE⟩ := ck hE
        obtain ⟨x24, f25, hx24, hE⟩ := bd2_of hE
        refine s_callV (As := [.int (1 : Int32)]) (rest := []) CF hK hW hS (S_X9_fail l G F hx24) c23 rfl gv_X8_41 hd_X9_fail ⟨Nat.le_of_ble_eq_true rfl, Nat.le_of_ble_eq_true rfl⟩ rfl hl.1 rfl (Nat.le_of_ble_eq_true rfl) dX8_readMeasure_31 ⟨Nat.le_refl _, Nat.le_refl _⟩ (fun H locs hW hS => ?_)
        obtain ⟨c26, hE⟩ := ck hE
        obtain ⟨rfl, rfl⟩ := so2 hE
        exact s_zret hx hb hr c26 hlocks hW hS dX8_readMeasure_34
set_option maxHeartbeats 4000000 in
set_option maxRecDepth 100000 in
theorem SG_0 (l : Launch) (G : GG) (F : Nat) : ∀ (d : Nat), (∀ (u0 : Option Nat) (u1 : Int32) (f : Hp) (r : Int32) (f' : Hp) (n : Nat), mg_0 F d 0 u0 u1 0 f = some (r, f') → Ctr l G yX8_readCondition cX8_readCondition 3 (some .boolean) (4 + d * 1) (94 + d * 23) [rr G u0, .int u1] f n (some (.int r)) f' n 0 0) ∧ (∀ (u0 : Option Nat) (u1 : Int32) (f : Hp) (r : Int32) (f' : Hp) (n : Nat), mg_0 F d 1 u0 u1 0 f = some (r, f') → Ctr l G yX8_readAll cX8_readAll 3 (some .boolean) (4 + d * 1) (94 + d * 23) [rr G u0, .int u1] f n (some (.int r)) f' n 0 0) ∧ (∀ (u0 : Option Nat) (u1 : Int32) (f : Hp) (r : Int32) (f' : Hp) (n : Nat), mg_0 F d 2 u0 u1 0 f = some (r, f') → Ctr l G yX8_readOne cX8_readOne 4 (some .boolean) (4 + d * 1) (94 + d * 23) [rr G u0, .int u1] f n (some (.int r)) f' n 0 0) := by
  intro d
  induction d with
  | zero =>
    refine ⟨?_, ?_, ?_⟩
    · intro u0 u1 f r f' n hE; cases (show (none : Option (Int32 × Hp)) = some (r, f') from hE)
    · intro u0 u1 f r f' n hE; cases (show (none : Option (Int32 × Hp)) = some (r, f') from hE)
    · intro u0 u1 f r f' n hE; cases (show (none : Option (Int32 × Hp)) = some (r, f') from hE)
  | succ d ihd =>
    have ihg0 := ihd
    refine ⟨?_, ?_, ?_⟩
    · intro u0 u1 f r f' n hE
      replace hE : b_X8_readCondition F (mg_0 F d) u0 u1 f = some (r, f') := hE
      refine Met.ofW (cc := cX8_readCondition) (maxL := 3) (ret := (some .boolean)) (by decide) rfl ?_
      intro p e s m args below meth c s₁ B hml hv
      obtain ⟨rfl, hK, hW⟩ := hv
      have hx := B.exec
      have hb := B.bytes
      have hr := B.returns
      have hts := atoms_spec (ws := wsO yX8_readCondition cX8_readCondition 3 (some .boolean)) B.pre
      have hT : ∀ w ∈ TB, w.before [rr G u0, .int u1].toArray s = true := fun w hw => hts w (List.mem_cons_of_mem _ hw)
      have hown : s.vm.findClass RX8 = some m.cls := findClass_of_methodNamed B.named
      have hlocks := B.notSynchronized
      have CF : CallFix p m c cX8_readCondition 3 s [rr G u0, .int u1].toArray TB RX8 := ⟨hx, hb, hml, hown, hT⟩
      have hS : va_S (WA G) s.heap s.heap [] := va_S.rf
      have hl : lv_has (lg_sl ([rr G u0, .int u1]) ++ List.replicate (3 - (lg_sl ([rr G u0, .int u1])).length) Slot.unset).toArray 3 [(0, rr G u0), (1, .int u1)] := by cases u0 <;> exact lv_entry _ (Nat.le_of_ble_eq_true rfl)
      rw [lg_entry_eq]
      generalize (lg_sl ([rr G u0, .int u1]) ++ List.replicate (3 - (lg_sl ([rr G u0, .int u1])).length) Slot.unset).toArray = ls at hl ⊢
      have hC12 : ∀ (k12 : Nat), ∀ (v0 : Option Nat) (v1 : Int32) (v2 : Int32) (fa : Hp) (H : Heap) (locs : List Loc) (ls : Array Slot), m_X8_readCondition_L12 F (mg_0 F d) k12 v0 v1 v2 fa = some (r, f') → Wd G fa n H → va_S (WA G) s.heap H locs → lv_has ls 3 [(0, rr G v0), (1, .int v1), (2, .int v2)] → W p l e (headSpec (wsO yX8_readCondition cX8_readCondition 3 (some .boolean)) { frames := (4 + (d + 1) * 1), cells := 0, slots := 0, locals := (94 + (d + 1) * 23) }).room s m [rr G u0, .int u1].toArray below meth c H locs 0 0 (MQ below (Qcn G (some (.int r)) f' n) [rr G u0, .int u1].toArray s 0 0 (WA G)) (F0 m 12 ls []) := by
        intro k12
        induction k12 with
        | zero => intro v0 v1 v2 fa H locs ls hE _ _ _; cases (show (none : Option ((Int32) × Hp)) = some (r, f') from hE)
        | succ k12 ih12 =>
          intro v0 v1 v2 fa H locs ls hE hW hS hl
          replace hE : m_X8_readCondition_b12 F (mg_0 F d) (m_X8_readCondition_L12 F (mg_0 F d) k12) v0 v1 v2 fa = some (r, f') := hE
          refine lv_iload_n hx hb dX8_readCondition_12 rfl (lv_at hl 2 rfl) ?_
          refine lv_bipush (v := (20 : Int32)) hx hb dX8_readCondition_13 (by decide) ?_
          refine lv_icmp_ge (tgt := 66) hx hb dX8_readCondition_15 (by decide) (fun q1 => ?_) (fun q1 => ?_)
          · replace hE := ite_t q1 hE
            refine lv_iconst (v := (1 : Int32)) hx hb dX8_readCondition_66 (by decide) ?_
            obtain ⟨c2, hE⟩ := ck hE
            obtain ⟨rfl, rfl⟩ := so2 hE
            exact s_zret hx hb hr c2 hlocks hW hS dX8_readCondition_67
          · replace hE := ite_f q1 hE
            refine s_aload_n hx hb dX8_readCondition_18 rfl (lv_at hl 0 rfl) ?_
            obtain ⟨x3, hx3, hE⟩ := bd hE
            refine s_gR hx hb hT u_X8 hown hK hW hx3 rfl (by decide) fl_X8_9 rfl dX8_readCondition_19 ?_
            obtain ⟨x4, hx4, hE⟩ := bd hE
            refine s_gR hx hb hT u_X9 hown hK hW hx4 rfl (by decide) fl_X8_47 rfl dX8_readCondition_22 ?_
            refine s_getEn hx hb hT hK hS hown 10 (by decide) fl_X8_51 dX8_readCondition_25 ?_
            obtain ⟨c5, hE⟩ := ck hE
            refine s_acmp_ne (tgt := 66) hx hb hK (and_l c5) (and_r c5) dX8_readCondition_28 (by decide) (fun q6 => ?_) (fun q6 => ?_)
            · replace hE := ite_f q6 hE
              refine lv_iconst (v := (1 : Int32)) hx hb dX8_readCondition_66 (by decide) ?_
              obtain ⟨c7, hE⟩ := ck hE
              obtain ⟨rfl, rfl⟩ := so2 hE
              exact s_zret hx hb hr c7 hlocks hW hS dX8_readCondition_67
            · replace hE := ite_t q6 hE
              refine s_aload_n hx hb dX8_readCondition_31 rfl (lv_at hl 0 rfl) ?_
              obtain ⟨x8, hx8, hE⟩ := bd hE
              refine s_gR hx hb hT u_X8 hown hK hW hx8 rfl (by decide) fl_X8_9 rfl dX8_readCondition_32 ?_
              obtain ⟨c9, hE⟩ := ck hE
              obtain ⟨f10, hf10, hE⟩ := bd hE
              refine s_callV (As := []) (rest := []) CF hK hW hS (S_X9_advance l G F hf10) c9 rfl gv_X8_56 hd_X9_advance ⟨show 3 ≤ 4 + (d + 1) * 1 by omega, show 70 ≤ 94 + (d + 1) * 23 by omega⟩ rfl hl.1 rfl (Nat.le_of_ble_eq_true rfl) dX8_readCondition_35 ⟨Nat.le_refl _, Nat.le_refl _⟩ (fun H locs hW hS => ?_)
              refine s_aload_n hx hb dX8_readCondition_38 rfl (lv_at hl 0 rfl) ?_
              refine lv_iload_n hx hb dX8_readCondition_39 rfl (lv_at hl 1 rfl) ?_
              obtain ⟨c11, hE⟩ := ck hE
              obtain ⟨x12, f13, hx12, hE⟩ := bd2_of hE
              refine s_callV (As := [.int v1]) (rest := []) CF hK hW hS (ihg0.2.1 _ _ _ _ _ _ hx12) c11 rfl gv_X8_44 hd_X8_readAll ⟨show (4 + d * 1) + 1 ≤ 4 + (d + 1) * 1 by omega, show 8 + (3 + 11) + (94 + d * 23) ≤ 94 + (d + 1) * 23 by omega⟩ rfl hl.1 rfl (Nat.le_of_ble_eq_true rfl) dX8_readCondition_40 ⟨Nat.le_refl _, Nat.le_refl _⟩ (fun H locs hW hS => ?_)
              refine lv_if_ne (tgt := 48) hx hb dX8_readCondition_43 (by decide) (fun q14 => ?_) (fun q14 => ?_)
              · replace hE := ite_f q14 hE
                refine s_aload_n hx hb dX8_readCondition_48 rfl (lv_at hl 0 rfl) ?_
                obtain ⟨x15, hx15, hE⟩ := bd hE
                refine s_gR hx hb hT u_X8 hown hK hW hx15 rfl (by decide) fl_X8_15 rfl dX8_readCondition_49 ?_
                refine s_getEn hx hb hT hK hS hown 10 (by decide) fl_X8_51 dX8_readCondition_52 ?_
                refine lv_iconst (v := (0 : Int32)) hx hb dX8_readCondition_55 (by decide) ?_
                refine lv_iconst (v := (0 : Int32)) hx hb dX8_readCondition_56 (by decide) ?_
                obtain ⟨c16, hE⟩ := ck hE
                obtain ⟨f17, hf17, hE⟩ := bd hE
                refine s_callV (As := [rr G (some 10), .int (0 : Int32), .int (0 : Int32)]) (rest := []) CF hK hW hS (S_X7_putTest l G F hf17) c16 rfl gv_X8_59 hd_X7_putTest ⟨show 2 ≤ 4 + (d + 1) * 1 by omega, show 48 ≤ 94 + (d + 1) * 23 by omega⟩ rfl hl.1 rfl (Nat.le_of_ble_eq_true rfl) dX8_readCondition_57 ⟨Nat.le_refl _, Nat.le_refl _⟩ (fun H locs hW hS => ?_)
                obtain ⟨y18, ey18⟩ : ∃ y : Int32, y = v2 + (1 : Int32) := ⟨_, rfl⟩
                replace hE := nm_o ey18 hE
                refine lv_iinc (k := 2) (v := y18) (lv' := [(2, .int y18), (0, rr G v0), (1, .int v1)]) hx hb dX8_readCondition_60 hl rfl (by rw [ey18]; rfl) (by decide) rfl (fun ls hl => ?_)
                refine lv_goto (tgt := 12) hx hb dX8_readCondition_63 (by decide) ?_
                exact ih12 _ _ _ _ _ _ _ hE hW hS (lv_sub hl [1, 2, 0] rfl)
              · replace hE := ite_t q14 hE
                refine lv_iconst (v := (0 : Int32)) hx hb dX8_readCondition_46 (by decide) ?_
                obtain ⟨c19, hE⟩ := ck hE
                obtain ⟨rfl, rfl⟩ := so2 hE
                exact s_zret hx hb hr c19 hlocks hW hS dX8_readCondition_47
      refine s_aload_n hx hb dX8_readCondition_0 rfl (lv_at hl 0 rfl) ?_
      refine lv_iload_n hx hb dX8_readCondition_1 rfl (lv_at hl 1 rfl) ?_
      obtain ⟨c20, hE⟩ := ck hE
      obtain ⟨x21, f22, hx21, hE⟩ := bd2_of hE
      refine s_callV (As := [.int u1]) (rest := []) CF hK hW hS (ihg0.2.1 _ _ _ _ _ _ hx21) c20 rfl gv_X8_44 hd_X8_readAll ⟨show (4 + d * 1) + 1 ≤ 4 + (d + 1) * 1 by omega, show 8 + (3 + 11) + (94 + d * 23) ≤ 94 + (d + 1) * 23 by omega⟩ rfl hl.1 rfl (Nat.le_of_ble_eq_true rfl) dX8_readCondition_2 ⟨Nat.le_refl _, Nat.le_refl _⟩ (fun H locs hW hS => ?_)
      refine lv_if_ne (tgt := 10) hx hb dX8_readCondition_5 (by decide) (fun q23 => ?_) (fun q23 => ?_)
      · replace hE := ite_f q23 hE
        refine lv_iconst (v := (0 : Int32)) hx hb dX8_readCondition_10 (by decide) ?_
        refine lv_istore_n (i := 2) (lv' := [(2, .int (0 : Int32)), (0, rr G u0), (1, .int u1)]) hx hb dX8_readCondition_11 rfl hl (by decide) rfl (fun ls hl => ?_)
        exact hC12 F _ _ _ _ _ _ _ hE hW hS (lv_sub hl [1, 2, 0] rfl)
      · replace hE := ite_t q23 hE
        refine lv_iconst (v := (0 : Int32)) hx hb dX8_readCondition_8 (by decide) ?_
        obtain ⟨c24, hE⟩ := ck hE
        obtain ⟨rfl, rfl⟩ := so2 hE
        exact s_zret hx hb hr c24 hlocks hW hS dX8_readCondition_9
    · intro u0 u1 f r f' n hE
      replace hE : b_X8_readAll F (mg_0 F d) u0 u1 f = some (r, f') := hE
      refine Met.ofW (cc := cX8_readAll) (maxL := 3) (ret := (some .boolean)) (by decide) rfl ?_
      intro p e s m args below meth c s₁ B hml hv
      obtain ⟨rfl, hK, hW⟩ := hv
      have hx := B.exec
      have hb := B.bytes
      have hr := B.returns
      have hts := atoms_spec (ws := wsO yX8_readAll cX8_readAll 3 (some .boolean)) B.pre
      have hT : ∀ w ∈ TB, w.before [rr G u0, .int u1].toArray s = true := fun w hw => hts w (List.mem_cons_of_mem _ hw)
      have hown : s.vm.findClass RX8 = some m.cls := findClass_of_methodNamed B.named
      have hlocks := B.notSynchronized
      have CF : CallFix p m c cX8_readAll 3 s [rr G u0, .int u1].toArray TB RX8 := ⟨hx, hb, hml, hown, hT⟩
      have hS : va_S (WA G) s.heap s.heap [] := va_S.rf
      have hl : lv_has (lg_sl ([rr G u0, .int u1]) ++ List.replicate (3 - (lg_sl ([rr G u0, .int u1])).length) Slot.unset).toArray 3 [(0, rr G u0), (1, .int u1)] := by cases u0 <;> exact lv_entry _ (Nat.le_of_ble_eq_true rfl)
      rw [lg_entry_eq]
      generalize (lg_sl ([rr G u0, .int u1]) ++ List.replicate (3 - (lg_sl ([rr G u0, .int u1])).length) Slot.unset).toArray = ls at hl ⊢
      have hC12 : ∀ (k12 : Nat), ∀ (v0 : Option Nat) (v1 : Int32) (v2 : Int32) (fa : Hp) (H : Heap) (locs : List Loc) (ls : Array Slot), m_X8_readAll_L12 F (mg_0 F d) k12 v0 v1 v2 fa = some (r, f') → Wd G fa n H → va_S (WA G) s.heap H locs → lv_has ls 3 [(0, rr G v0), (1, .int v1), (2, .int v2)] → W p l e (headSpec (wsO yX8_readAll cX8_readAll 3 (some .boolean)) { frames := (4 + (d + 1) * 1), cells := 0, slots := 0, locals := (94 + (d + 1) * 23) }).room s m [rr G u0, .int u1].toArray below meth c H locs 0 0 (MQ below (Qcn G (some (.int r)) f' n) [rr G u0, .int u1].toArray s 0 0 (WA G)) (F0 m 12 ls []) := by
        intro k12
        induction k12 with
        | zero => intro v0 v1 v2 fa H locs ls hE _ _ _; cases (show (none : Option ((Int32) × Hp)) = some (r, f') from hE)
        | succ k12 ih12 =>
          intro v0 v1 v2 fa H locs ls hE hW hS hl
          replace hE : m_X8_readAll_b12 F (mg_0 F d) (m_X8_readAll_L12 F (mg_0 F d) k12) v0 v1 v2 fa = some (r, f') := hE
          refine lv_iload_n hx hb dX8_readAll_12 rfl (lv_at hl 2 rfl) ?_
          refine lv_bipush (v := (20 : Int32)) hx hb dX8_readAll_13 (by decide) ?_
          refine lv_icmp_ge (tgt := 66) hx hb dX8_readAll_15 (by decide) (fun q1 => ?_) (fun q1 => ?_)
          · replace hE := ite_t q1 hE
            refine lv_iconst (v := (1 : Int32)) hx hb dX8_readAll_66 (by decide) ?_
            obtain ⟨c2, hE⟩ := ck hE
            obtain ⟨rfl, rfl⟩ := so2 hE
            exact s_zret hx hb hr c2 hlocks hW hS dX8_readAll_67
          · replace hE := ite_f q1 hE
            refine s_aload_n hx hb dX8_readAll_18 rfl (lv_at hl 0 rfl) ?_
            obtain ⟨x3, hx3, hE⟩ := bd hE
            refine s_gR hx hb hT u_X8 hown hK hW hx3 rfl (by decide) fl_X8_9 rfl dX8_readAll_19 ?_
            obtain ⟨x4, hx4, hE⟩ := bd hE
            refine s_gR hx hb hT u_X9 hown hK hW hx4 rfl (by decide) fl_X8_47 rfl dX8_readAll_22 ?_
            refine s_getEn hx hb hT hK hS hown 11 (by decide) fl_X8_66 dX8_readAll_25 ?_
            obtain ⟨c5, hE⟩ := ck hE
            refine s_acmp_ne (tgt := 66) hx hb hK (and_l c5) (and_r c5) dX8_readAll_28 (by decide) (fun q6 => ?_) (fun q6 => ?_)
            · replace hE := ite_f q6 hE
              refine lv_iconst (v := (1 : Int32)) hx hb dX8_readAll_66 (by decide) ?_
              obtain ⟨c7, hE⟩ := ck hE
              obtain ⟨rfl, rfl⟩ := so2 hE
              exact s_zret hx hb hr c7 hlocks hW hS dX8_readAll_67
            · replace hE := ite_t q6 hE
              refine s_aload_n hx hb dX8_readAll_31 rfl (lv_at hl 0 rfl) ?_
              obtain ⟨x8, hx8, hE⟩ := bd hE
              refine s_gR hx hb hT u_X8 hown hK hW hx8 rfl (by decide) fl_X8_9 rfl dX8_readAll_32 ?_
              obtain ⟨c9, hE⟩ := ck hE
              obtain ⟨f10, hf10, hE⟩ := bd hE
              refine s_callV (As := []) (rest := []) CF hK hW hS (S_X9_advance l G F hf10) c9 rfl gv_X8_56 hd_X9_advance ⟨show 3 ≤ 4 + (d + 1) * 1 by omega, show 70 ≤ 94 + (d + 1) * 23 by omega⟩ rfl hl.1 rfl (Nat.le_of_ble_eq_true rfl) dX8_readAll_35 ⟨Nat.le_refl _, Nat.le_refl _⟩ (fun H locs hW hS => ?_)
              refine s_aload_n hx hb dX8_readAll_38 rfl (lv_at hl 0 rfl) ?_
              refine lv_iload_n hx hb dX8_readAll_39 rfl (lv_at hl 1 rfl) ?_
              obtain ⟨c11, hE⟩ := ck hE
              obtain ⟨x12, f13, hx12, hE⟩ := bd2_of hE
              refine s_callV (As := [.int v1]) (rest := []) CF hK hW hS (ihg0.2.2 _ _ _ _ _ _ hx12) c11 rfl gv_X8_63 hd_X8_readOne ⟨show (4 + d * 1) + 1 ≤ 4 + (d + 1) * 1 by omega, show 8 + (4 + 11) + (94 + d * 23) ≤ 94 + (d + 1) * 23 by omega⟩ rfl hl.1 rfl (Nat.le_of_ble_eq_true rfl) dX8_readAll_40 ⟨Nat.le_refl _, Nat.le_refl _⟩ (fun H locs hW hS => ?_)
              refine lv_if_ne (tgt := 48) hx hb dX8_readAll_43 (by decide) (fun q14 => ?_) (fun q14 => ?_)
              · replace hE := ite_f q14 hE
                refine s_aload_n hx hb dX8_readAll_48 rfl (lv_at hl 0 rfl) ?_
                obtain ⟨x15, hx15, hE⟩ := bd hE
                refine s_gR hx hb hT u_X8 hown hK hW hx15 rfl (by decide) fl_X8_15 rfl dX8_readAll_49 ?_
                refine s_getEn hx hb hT hK hS hown 11 (by decide) fl_X8_66 dX8_readAll_52 ?_
                refine lv_iconst (v := (0 : Int32)) hx hb dX8_readAll_55 (by decide) ?_
                refine lv_iconst (v := (0 : Int32)) hx hb dX8_readAll_56 (by decide) ?_
                obtain ⟨c16, hE⟩ := ck hE
                obtain ⟨f17, hf17, hE⟩ := bd hE
                refine s_callV (As := [rr G (some 11), .int (0 : Int32), .int (0 : Int32)]) (rest := []) CF hK hW hS (S_X7_putTest l G F hf17) c16 rfl gv_X8_59 hd_X7_putTest ⟨show 2 ≤ 4 + (d + 1) * 1 by omega, show 48 ≤ 94 + (d + 1) * 23 by omega⟩ rfl hl.1 rfl (Nat.le_of_ble_eq_true rfl) dX8_readAll_57 ⟨Nat.le_refl _, Nat.le_refl _⟩ (fun H locs hW hS => ?_)
                obtain ⟨y18, ey18⟩ : ∃ y : Int32, y = v2 + (1 : Int32) := ⟨_, rfl⟩
                replace hE := nm_o ey18 hE
                refine lv_iinc (k := 2) (v := y18) (lv' := [(2, .int y18), (0, rr G v0), (1, .int v1)]) hx hb dX8_readAll_60 hl rfl (by rw [ey18]; rfl) (by decide) rfl (fun ls hl => ?_)
                refine lv_goto (tgt := 12) hx hb dX8_readAll_63 (by decide) ?_
                exact ih12 _ _ _ _ _ _ _ hE hW hS (lv_sub hl [1, 2, 0] rfl)
              · replace hE := ite_t q14 hE
                refine lv_iconst (v := (0 : Int32)) hx hb dX8_readAll_46 (by decide) ?_
                obtain ⟨c19, hE⟩ := ck hE
                obtain ⟨rfl, rfl⟩ := so2 hE
                exact s_zret hx hb hr c19 hlocks hW hS dX8_readAll_47
      refine s_aload_n hx hb dX8_readAll_0 rfl (lv_at hl 0 rfl) ?_
      refine lv_iload_n hx hb dX8_readAll_1 rfl (lv_at hl 1 rfl) ?_
      obtain ⟨c20, hE⟩ := ck hE
      obtain ⟨x21, f22, hx21, hE⟩ := bd2_of hE
      refine s_callV (As := [.int u1]) (rest := []) CF hK hW hS (ihg0.2.2 _ _ _ _ _ _ hx21) c20 rfl gv_X8_63 hd_X8_readOne ⟨show (4 + d * 1) + 1 ≤ 4 + (d + 1) * 1 by omega, show 8 + (4 + 11) + (94 + d * 23) ≤ 94 + (d + 1) * 23 by omega⟩ rfl hl.1 rfl (Nat.le_of_ble_eq_true rfl) dX8_readAll_2 ⟨Nat.le_refl _, Nat.le_refl _⟩ (fun H locs hW hS => ?_)
      refine lv_if_ne (tgt := 10) hx hb dX8_readAll_5 (by decide) (fun q23 => ?_) (fun q23 => ?_)
      · replace hE := ite_f q23 hE
        refine lv_iconst (v := (0 : Int32)) hx hb dX8_readAll_10 (by decide) ?_
        refine lv_istore_n (i := 2) (lv' := [(2, .int (0 : Int32)), (0, rr G u0), (1, .int u1)]) hx hb dX8_readAll_11 rfl hl (by decide) rfl (fun ls hl => ?_)
        exact hC12 F _ _ _ _ _ _ _ hE hW hS (lv_sub hl [1, 2, 0] rfl)
      · replace hE := ite_t q23 hE
        refine lv_iconst (v := (0 : Int32)) hx hb dX8_readAll_8 (by decide) ?_
        obtain ⟨c24, hE⟩ := ck hE
        obtain ⟨rfl, rfl⟩ := so2 hE
        exact s_zret hx hb hr c24 hlocks hW hS dX8_readAll_9
    · intro u0 u1 f r f' n hE
      replace hE : b_X8_readOne F (mg_0 F d) u0 u1 f = some (r, f') := hE
      refine Met.ofW (cc := cX8_readOne) (maxL := 4) (ret := (some .boolean)) (by decide) rfl ?_
      intro p e s m args below meth c s₁ B hml hv
      obtain ⟨rfl, hK, hW⟩ := hv
      have hx := B.exec
      have hb := B.bytes
      have hr := B.returns
      have hts := atoms_spec (ws := wsO yX8_readOne cX8_readOne 4 (some .boolean)) B.pre
      have hT : ∀ w ∈ TB, w.before [rr G u0, .int u1].toArray s = true := fun w hw => hts w (List.mem_cons_of_mem _ hw)
      have hown : s.vm.findClass RX8 = some m.cls := findClass_of_methodNamed B.named
      have hlocks := B.notSynchronized
      have CF : CallFix p m c cX8_readOne 4 s [rr G u0, .int u1].toArray TB RX8 := ⟨hx, hb, hml, hown, hT⟩
      have hS : va_S (WA G) s.heap s.heap [] := va_S.rf
      have hl : lv_has (lg_sl ([rr G u0, .int u1]) ++ List.replicate (4 - (lg_sl ([rr G u0, .int u1])).length) Slot.unset).toArray 4 [(0, rr G u0), (1, .int u1)] := by cases u0 <;> exact lv_entry _ (Nat.le_of_ble_eq_true rfl)
      rw [lg_entry_eq]
      generalize (lg_sl ([rr G u0, .int u1]) ++ List.replicate (4 - (lg_sl ([rr G u0, .int u1])).length) Slot.unset).toArray = ls at hl ⊢
      have hC34 : ∀ (v0 : Option Nat) (v1 : Int32) (fa : Hp) (H : Heap) (locs : List Loc) (ls : Array Slot), m_X8_readOne_B34 F (mg_0 F d) v0 v1 fa = some (r, f') → Wd G fa n H → va_S (WA G) s.heap H locs → lv_has ls 4 [(0, rr G v0), (1, .int v1)] → W p l e (headSpec (wsO yX8_readOne cX8_readOne 4 (some .boolean)) { frames := (4 + (d + 1) * 1), cells := 0, slots := 0, locals := (94 + (d + 1) * 23) }).room s m [rr G u0, .int u1].toArray below meth c H locs 0 0 (MQ below (Qcn G (some (.int r)) f' n) [rr G u0, .int u1].toArray s 0 0 (WA G)) (F0 m 34 ls []) := by
        intro v0 v1 fa H locs ls hE hW hS hl
        refine s_aload_n hx hb dX8_readOne_34 rfl (lv_at hl 0 rfl) ?_
        obtain ⟨x1, hx1, hE⟩ := bd hE
        refine s_gI hx hb hT u_X8 hown hK hW hx1 rfl (by decide) fl_X8_28 rfl dX8_readOne_35 ?_
        refine lv_bipush (v := (20 : Int32)) hx hb dX8_readOne_38 (by decide) ?_
        refine lv_icmp_ge (tgt := 49) hx hb dX8_readOne_40 (by decide) (fun q2 => ?_) (fun q2 => ?_)
        · replace hE := ite_t q2 hE
          refine s_aload_n hx hb dX8_readOne_49 rfl (lv_at hl 0 rfl) ?_
          obtain ⟨x3, hx3, hE⟩ := bd hE
          refine s_gR hx hb hT u_X8 hown hK hW hx3 rfl (by decide) fl_X8_9 rfl dX8_readOne_50 ?_
          refine lv_iconst (v := (4 : Int32)) hx hb dX8_readOne_53 (by decide) ?_
          obtain ⟨c4, hE⟩ := ck hE
          obtain ⟨x5, f6, hx5, hE⟩ := bd2_of hE
          refine s_callV (As := [.int (4 : Int32)]) (rest := []) CF hK hW hS (S_X9_fail l G F hx5) c4 rfl gv_X8_41 hd_X9_fail ⟨show 1 ≤ 4 + (d + 1) * 1 by omega, show 21 ≤ 94 + (d + 1) * 23 by omega⟩ rfl hl.1 rfl (Nat.le_of_ble_eq_true rfl) dX8_readOne_54 ⟨Nat.le_refl _, Nat.le_refl _⟩ (fun H locs hW hS => ?_)
          obtain ⟨c7, hE⟩ := ck hE
          obtain ⟨rfl, rfl⟩ := so2 hE
          exact s_zret hx hb hr c7 hlocks hW hS dX8_readOne_57
        · replace hE := ite_f q2 hE
          refine lv_iload_n hx hb dX8_readOne_43 rfl (lv_at hl 1 rfl) ?_
          refine lv_bipush (v := (8 : Int32)) hx hb dX8_readOne_44 (by decide) ?_
          refine lv_icmp_le (tgt := 58) hx hb dX8_readOne_46 (by decide) (fun q8 => ?_) (fun q8 => ?_)
          · replace hE := ite_t q8 hE
            refine s_aload_n hx hb dX8_readOne_58 rfl (lv_at hl 0 rfl) ?_
            refine lv_dup hx hb dX8_readOne_59 (cat_rr G _) ?_
            obtain ⟨x9, hx9, hE⟩ := bd hE
            refine s_gI hx hb hT u_X8 hown hK hW hx9 rfl (by decide) fl_X8_28 rfl dX8_readOne_60 ?_
            refine lv_iconst (v := (1 : Int32)) hx hb dX8_readOne_63 (by decide) ?_
            refine lv_iadd hx hb dX8_readOne_64 ?_
            obtain ⟨f10, hf10, hE⟩ := bd hE
            refine s_putI hx hb hT u_X8 tyX8 tyX8_ok nmX8 hown hK hW hS hf10 rfl (by decide) fl_X8_28 rfl (Or.inl rfl) rfl dX8_readOne_65 (fun H locs hW hS => ?_)
            refine s_aload_n hx hb dX8_readOne_68 rfl (lv_at hl 0 rfl) ?_
            obtain ⟨x11, hx11, hE⟩ := bd hE
            refine s_gR hx hb hT u_X8 hown hK hW hx11 rfl (by decide) fl_X8_9 rfl dX8_readOne_69 ?_
            obtain ⟨x12, hx12, hE⟩ := bd hE
            refine s_gR hx hb hT u_X9 hown hK hW hx12 rfl (by decide) fl_X8_47 rfl dX8_readOne_72 ?_
            refine s_astore_n (i := 2) (lv' := [(2, rr G x12), (0, rr G v0), (1, .int v1)]) hx hb dX8_readOne_75 rfl hl (by decide) rfl (fun ls hl => ?_)
            refine s_aload_n hx hb dX8_readOne_76 rfl (lv_at hl 1 rfl) ?_
            obtain ⟨x13, hx13, hE⟩ := bd hE
            refine s_gR hx hb hT u_X8 hown hK hW hx13 rfl (by decide) fl_X8_9 rfl dX8_readOne_77 ?_
            obtain ⟨c14, hE⟩ := ck hE
            obtain ⟨f15, hf15, hE⟩ := bd hE
            refine s_callV (As := []) (rest := []) CF hK hW hS (S_X9_advance l G F hf15) c14 rfl gv_X8_56 hd_X9_advance ⟨show 3 ≤ 4 + (d + 1) * 1 by omega, show 70 ≤ 94 + (d + 1) * 23 by omega⟩ rfl hl.1 rfl (Nat.le_of_ble_eq_true rfl) dX8_readOne_80 ⟨Nat.le_refl _, Nat.le_refl _⟩ (fun H locs hW hS => ?_)
            refine s_getSt hx hb hT hK hS hown 33 (by decide) (z33 hK) fl_X8_76 dX8_readOne_83 ?_
            refine s_aload_n hx hb dX8_readOne_86 rfl (lv_at hl 0 rfl) ?_
            obtain ⟨i16, hi16, hE⟩ := bd hE
            refine s_ord (l := l) CF hK hW hS hi16 or_X8_82 ⟨show 1 ≤ 4 + (d + 1) * 1 by omega, show 20 ≤ 94 + (d + 1) * 23 by omega⟩ hl.1 (Nat.le_of_ble_eq_true rfl) dX8_readOne_87 ⟨Nat.le_refl _, Nat.le_refl _⟩ (fun H locs hW hS => ?_)
            obtain ⟨x17, hx17, hE⟩ := bd hE
            refine s_ldI hx hb hK hW hS hx17 dX8_readOne_90 ?_
            by_cases w18 : x17 = (10 : Int32)
            · replace hE := ite_t w18 hE
              have hi : (x17).toInt = 10 := by rw [w18]; rfl
              refine lv_tableIn (off := 57) (tgt := 148) hx hb dX8_readOne_91 (by rw [hi]; decide) (by rw [hi]; decide) (by rw [hi]; rfl) (by decide) ?_
              refine s_aload_n hx hb dX8_readOne_148 rfl (lv_at hl 1 rfl) ?_
              refine lv_iload_n hx hb dX8_readOne_149 rfl (lv_at hl 2 rfl) ?_
              refine lv_iconst (v := (1 : Int32)) hx hb dX8_readOne_150 (by decide) ?_
              refine lv_iadd hx hb dX8_readOne_151 ?_
              obtain ⟨c19, hE⟩ := ck hE
              obtain ⟨x20, f21, hx20, hE⟩ := bd2_of hE
              refine s_callV (As := [.int (v1 + (1 : Int32))]) (rest := []) CF hK hW hS (ihg0.2.2 _ _ _ _ _ _ hx20) c19 rfl gv_X8_63 hd_X8_readOne ⟨show (4 + d * 1) + 1 ≤ 4 + (d + 1) * 1 by omega, show 8 + (4 + 11) + (94 + d * 23) ≤ 94 + (d + 1) * 23 by omega⟩ rfl hl.1 rfl (Nat.le_of_ble_eq_true rfl) dX8_readOne_152 ⟨Nat.le_refl _, Nat.le_refl _⟩ (fun H locs hW hS => ?_)
              refine lv_if_ne (tgt := 160) hx hb dX8_readOne_155 (by decide) (fun q22 => ?_) (fun q22 => ?_)
              · replace hE := ite_f q22 hE
                refine s_aload_n hx hb dX8_readOne_160 rfl (lv_at hl 1 rfl) ?_
                obtain ⟨x23, hx23, hE⟩ := bd hE
                refine s_gR hx hb hT u_X8 hown hK hW hx23 rfl (by decide) fl_X8_15 rfl dX8_readOne_161 ?_
                refine s_getEn hx hb hT hK hS hown 12 (by decide) fl_X8_86 dX8_readOne_164 ?_
                refine lv_iconst (v := (0 : Int32)) hx hb dX8_readOne_167 (by decide) ?_
                refine lv_iconst (v := (0 : Int32)) hx hb dX8_readOne_168 (by decide) ?_
                obtain ⟨c24, hE⟩ := ck hE
                obtain ⟨f25, hf25, hE⟩ := bd hE
                refine s_callV (As := [rr G (some 12), .int (0 : Int32), .int (0 : Int32)]) (rest := []) CF hK hW hS (S_X7_putTest l G F hf25) c24 rfl gv_X8_59 hd_X7_putTest ⟨show 2 ≤ 4 + (d + 1) * 1 by omega, show 48 ≤ 94 + (d + 1) * 23 by omega⟩ rfl hl.1 rfl (Nat.le_of_ble_eq_true rfl) dX8_readOne_169 ⟨Nat.le_refl _, Nat.le_refl _⟩ (fun H locs hW hS => ?_)
                refine lv_iconst (v := (1 : Int32)) hx hb dX8_readOne_172 (by decide) ?_
                obtain ⟨c26, hE⟩ := ck hE
                obtain ⟨rfl, rfl⟩ := so2 hE
                exact s_zret hx hb hr c26 hlocks hW hS dX8_readOne_173
              · replace hE := ite_t q22 hE
                refine lv_iconst (v := (0 : Int32)) hx hb dX8_readOne_158 (by decide) ?_
                obtain ⟨c27, hE⟩ := ck hE
                obtain ⟨rfl, rfl⟩ := so2 hE
                exact s_zret hx hb hr c27 hlocks hW hS dX8_readOne_159
            · replace hE := ite_f w18 hE
              by_cases w28 : x17 = (11 : Int32)
              · replace hE := ite_t w28 hE
                have hi : (x17).toInt = 11 := by rw [w28]; rfl
                refine lv_tableIn (off := 137) (tgt := 228) hx hb dX8_readOne_91 (by rw [hi]; decide) (by rw [hi]; decide) (by rw [hi]; rfl) (by decide) ?_
                refine s_aload_n hx hb dX8_readOne_228 rfl (lv_at hl 1 rfl) ?_
                refine lv_iload_n hx hb dX8_readOne_229 rfl (lv_at hl 2 rfl) ?_
                refine lv_iconst (v := (1 : Int32)) hx hb dX8_readOne_230 (by decide) ?_
                refine lv_iadd hx hb dX8_readOne_231 ?_
                obtain ⟨c29, hE⟩ := ck hE
                obtain ⟨x30, f31, hx30, hE⟩ := bd2_of hE
                refine s_callV (As := [.int (v1 + (1 : Int32))]) (rest := []) CF hK hW hS (ihg0.1 _ _ _ _ _ _ hx30) c29 rfl gv_X8_32 hd_X8_readCondition ⟨show (4 + d * 1) + 1 ≤ 4 + (d + 1) * 1 by omega, show 8 + (3 + 11) + (94 + d * 23) ≤ 94 + (d + 1) * 23 by omega⟩ rfl hl.1 rfl (Nat.le_of_ble_eq_true rfl) dX8_readOne_232 ⟨Nat.le_refl _, Nat.le_refl _⟩ (fun H locs hW hS => ?_)
                refine lv_if_eq (tgt := 254) hx hb dX8_readOne_235 (by decide) (fun q32 => ?_) (fun q32 => ?_)
                · replace hE := ite_t q32 hE
                  refine lv_iconst (v := (0 : Int32)) hx hb dX8_readOne_254 (by decide) ?_
                  obtain ⟨c33, hE⟩ := ck hE
                  obtain ⟨rfl, rfl⟩ := so2 hE
                  exact s_zret hx hb hr c33 hlocks hW hS dX8_readOne_255
                · replace hE := ite_f q32 hE
                  refine s_aload_n hx hb dX8_readOne_238 rfl (lv_at hl 1 rfl) ?_
                  obtain ⟨x34, hx34, hE⟩ := bd hE
                  refine s_gR hx hb hT u_X8 hown hK hW hx34 rfl (by decide) fl_X8_9 rfl dX8_readOne_239 ?_
                  refine lv_bipush (v := (41 : Int32)) hx hb dX8_readOne_242 (by decide) ?_
                  obtain ⟨c35, hE⟩ := ck hE
                  obtain ⟨x36, f37, hx36, hE⟩ := bd2_of hE
                  refine s_callV (As := [.int (41 : Int32)]) (rest := []) CF hK hW hS (S_X9_passSign l G F hx36) c35 rfl gv_X8_103 hd_X9_passSign ⟨show 4 ≤ 4 + (d + 1) * 1 by omega, show 91 ≤ 94 + (d + 1) * 23 by omega⟩ rfl hl.1 rfl (Nat.le_of_ble_eq_true rfl) dX8_readOne_244 ⟨Nat.le_refl _, Nat.le_refl _⟩ (fun H locs hW hS => ?_)
                  refine lv_if_eq (tgt := 254) hx hb dX8_readOne_247 (by decide) (fun q38 => ?_) (fun q38 => ?_)
                  · replace hE := ite_t q38 hE
                    refine lv_iconst (v := (0 : Int32)) hx hb dX8_readOne_254 (by decide) ?_
                    obtain ⟨c39, hE⟩ := ck hE
                    obtain ⟨rfl, rfl⟩ := so2 hE
                    exact s_zret hx hb hr c39 hlocks hW hS dX8_readOne_255
                  · replace hE := ite_f q38 hE
                    refine lv_iconst (v := (1 : Int32)) hx hb dX8_readOne_250 (by decide) ?_
                    refine lv_goto (tgt := 255) hx hb dX8_readOne_251 (by decide) ?_
                    obtain ⟨c40, hE⟩ := ck hE
                    obtain ⟨rfl, rfl⟩ := so2 hE
                    exact s_zret hx hb hr c40 hlocks hW hS dX8_readOne_255
              · replace hE := ite_f w28 hE
                by_cases w41 : x17 = (12 : Int32)
                · replace hE := ite_t w41 hE
                  have hi : (x17).toInt = 12 := by rw [w41]; rfl
                  refine lv_tableIn (off := 137) (tgt := 228) hx hb dX8_readOne_91 (by rw [hi]; decide) (by rw [hi]; decide) (by rw [hi]; rfl) (by decide) ?_
                  refine s_aload_n hx hb dX8_readOne_228 rfl (lv_at hl 1 rfl) ?_
                  refine lv_iload_n hx hb dX8_readOne_229 rfl (lv_at hl 2 rfl) ?_
                  refine lv_iconst (v := (1 : Int32)) hx hb dX8_readOne_230 (by decide) ?_
                  refine lv_iadd hx hb dX8_readOne_231 ?_
                  obtain ⟨c42, hE⟩ := ck hE
                  obtain ⟨x43, f44, hx43, hE⟩ := bd2_of hE
                  refine s_callV (As := [.int (v1 + (1 : Int32))]) (rest := []) CF hK hW hS (ihg0.1 _ _ _ _ _ _ hx43) c42 rfl gv_X8_32 hd_X8_readCondition ⟨show (4 + d * 1) + 1 ≤ 4 + (d + 1) * 1 by omega, show 8 + (3 + 11) + (94 + d * 23) ≤ 94 + (d + 1) * 23 by omega⟩ rfl hl.1 rfl (Nat.le_of_ble_eq_true rfl) dX8_readOne_232 ⟨Nat.le_refl _, Nat.le_refl _⟩ (fun H locs hW hS => ?_)
                  refine lv_if_eq (tgt := 254) hx hb dX8_readOne_235 (by decide) (fun q45 => ?_) (fun q45 => ?_)
                  · replace hE := ite_t q45 hE
                    refine lv_iconst (v := (0 : Int32)) hx hb dX8_readOne_254 (by decide) ?_
                    obtain ⟨c46, hE⟩ := ck hE
                    obtain ⟨rfl, rfl⟩ := so2 hE
                    exact s_zret hx hb hr c46 hlocks hW hS dX8_readOne_255
                  · replace hE := ite_f q45 hE
                    refine s_aload_n hx hb dX8_readOne_238 rfl (lv_at hl 1 rfl) ?_
                    obtain ⟨x47, hx47, hE⟩ := bd hE
                    refine s_gR hx hb hT u_X8 hown hK hW hx47 rfl (by decide) fl_X8_9 rfl dX8_readOne_239 ?_
                    refine lv_bipush (v := (41 : Int32)) hx hb dX8_readOne_242 (by decide) ?_
                    obtain ⟨c48, hE⟩ := ck hE
                    obtain ⟨x49, f50, hx49, hE⟩ := bd2_of hE
                    refine s_callV (As := [.int (41 : Int32)]) (rest := []) CF hK hW hS (S_X9_passSign l G F hx49) c48 rfl gv_X8_103 hd_X9_passSign ⟨show 4 ≤ 4 + (d + 1) * 1 by omega, show 91 ≤ 94 + (d + 1) * 23 by omega⟩ rfl hl.1 rfl (Nat.le_of_ble_eq_true rfl) dX8_readOne_244 ⟨Nat.le_refl _, Nat.le_refl _⟩ (fun H locs hW hS => ?_)
                    refine lv_if_eq (tgt := 254) hx hb dX8_readOne_247 (by decide) (fun q51 => ?_) (fun q51 => ?_)
                    · replace hE := ite_t q51 hE
                      refine lv_iconst (v := (0 : Int32)) hx hb dX8_readOne_254 (by decide) ?_
                      obtain ⟨c52, hE⟩ := ck hE
                      obtain ⟨rfl, rfl⟩ := so2 hE
                      exact s_zret hx hb hr c52 hlocks hW hS dX8_readOne_255
                    · replace hE := ite_f q51 hE
                      refine lv_iconst (v := (1 : Int32)) hx hb dX8_readOne_250 (by decide) ?_
                      refine lv_goto (tgt := 255) hx hb dX8_readOne_251 (by decide) ?_
                      obtain ⟨c53, hE⟩ := ck hE
                      obtain ⟨rfl, rfl⟩ := so2 hE
                      exact s_zret hx hb hr c53 hlocks hW hS dX8_readOne_255
                · replace hE := ite_f w41 hE
                  by_cases w54 : x17 = (13 : Int32)
                  · replace hE := ite_t w54 hE
                    have hi : (x17).toInt = 13 := by rw [w54]; rfl
                    refine lv_tableIn (off := 83) (tgt := 174) hx hb dX8_readOne_91 (by rw [hi]; decide) (by rw [hi]; decide) (by rw [hi]; rfl) (by decide) ?_
                    refine s_aload_n hx hb dX8_readOne_174 rfl (lv_at hl 1 rfl) ?_
                    obtain ⟨x55, hx55, hE⟩ := bd hE
                    refine s_gR hx hb hT u_X8 hown hK hW hx55 rfl (by decide) fl_X8_15 rfl dX8_readOne_175 ?_
                    refine s_aload_n hx hb dX8_readOne_178 rfl (lv_at hl 0 rfl) ?_
                    refine lv_iconst (v := (0 : Int32)) hx hb dX8_readOne_179 (by decide) ?_
                    refine lv_iconst (v := (0 : Int32)) hx hb dX8_readOne_180 (by decide) ?_
                    obtain ⟨c56, hE⟩ := ck hE
                    obtain ⟨f57, hf57, hE⟩ := bd hE
                    refine s_callV (As := [rr G x12, .int (0 : Int32), .int (0 : Int32)]) (rest := []) CF hK hW hS (S_X7_putTest l G F hf57) c56 rfl gv_X8_59 hd_X7_putTest ⟨show 2 ≤ 4 + (d + 1) * 1 by omega, show 48 ≤ 94 + (d + 1) * 23 by omega⟩ rfl hl.1 rfl (Nat.le_of_ble_eq_true rfl) dX8_readOne_181 ⟨Nat.le_refl _, Nat.le_refl _⟩ (fun H locs hW hS => ?_)
                    refine lv_iconst (v := (1 : Int32)) hx hb dX8_readOne_184 (by decide) ?_
                    obtain ⟨c58, hE⟩ := ck hE
                    obtain ⟨rfl, rfl⟩ := so2 hE
                    exact s_zret hx hb hr c58 hlocks hW hS dX8_readOne_185
                  · replace hE := ite_f w54 hE
                    by_cases w59 : x17 = (14 : Int32)
                    · replace hE := ite_t w59 hE
                      have hi : (x17).toInt = 14 := by rw [w59]; rfl
                      refine lv_tableIn (off := 83) (tgt := 174) hx hb dX8_readOne_91 (by rw [hi]; decide) (by rw [hi]; decide) (by rw [hi]; rfl) (by decide) ?_
                      refine s_aload_n hx hb dX8_readOne_174 rfl (lv_at hl 1 rfl) ?_
                      obtain ⟨x60, hx60, hE⟩ := bd hE
                      refine s_gR hx hb hT u_X8 hown hK hW hx60 rfl (by decide) fl_X8_15 rfl dX8_readOne_175 ?_
                      refine s_aload_n hx hb dX8_readOne_178 rfl (lv_at hl 0 rfl) ?_
                      refine lv_iconst (v := (0 : Int32)) hx hb dX8_readOne_179 (by decide) ?_
                      refine lv_iconst (v := (0 : Int32)) hx hb dX8_readOne_180 (by decide) ?_
                      obtain ⟨c61, hE⟩ := ck hE
                      obtain ⟨f62, hf62, hE⟩ := bd hE
                      refine s_callV (As := [rr G x12, .int (0 : Int32), .int (0 : Int32)]) (rest := []) CF hK hW hS (S_X7_putTest l G F hf62) c61 rfl gv_X8_59 hd_X7_putTest ⟨show 2 ≤ 4 + (d + 1) * 1 by omega, show 48 ≤ 94 + (d + 1) * 23 by omega⟩ rfl hl.1 rfl (Nat.le_of_ble_eq_true rfl) dX8_readOne_181 ⟨Nat.le_refl _, Nat.le_refl _⟩ (fun H locs hW hS => ?_)
                      refine lv_iconst (v := (1 : Int32)) hx hb dX8_readOne_184 (by decide) ?_
                      obtain ⟨c63, hE⟩ := ck hE
                      obtain ⟨rfl, rfl⟩ := so2 hE
                      exact s_zret hx hb hr c63 hlocks hW hS dX8_readOne_185
                    · replace hE := ite_f w59 hE
                      by_cases w64 : x17 = (15 : Int32)
                      · replace hE := ite_t w64 hE
                        have hi : (x17).toInt = 15 := by rw [w64]; rfl
                        refine lv_tableIn (off := 95) (tgt := 186) hx hb dX8_readOne_91 (by rw [hi]; decide) (by rw [hi]; decide) (by rw [hi]; rfl) (by decide) ?_
                        refine s_aload_n hx hb dX8_readOne_186 rfl (lv_at hl 1 rfl) ?_
                        obtain ⟨c65, hE⟩ := ck hE
                        obtain ⟨x66, f67, hx66, hE⟩ := bd2_of hE
                        refine s_callV (As := []) (rest := []) CF hK hW hS (S_X8_readHas l G F hx66) c65 rfl gv_X8_89 hd_X8_readHas ⟨show 4 ≤ 4 + (d + 1) * 1 by omega, show 91 ≤ 94 + (d + 1) * 23 by omega⟩ rfl hl.1 rfl (Nat.le_of_ble_eq_true rfl) dX8_readOne_187 ⟨Nat.le_refl _, Nat.le_refl _⟩ (fun H locs hW hS => ?_)
                        obtain ⟨c68, hE⟩ := ck hE
                        obtain ⟨rfl, rfl⟩ := so2 hE
                        exact s_zret hx hb hr c68 hlocks hW hS dX8_readOne_190
                      · replace hE := ite_f w64 hE
                        by_cases w69 : x17 = (16 : Int32)
                        · replace hE := ite_t w69 hE
                          have hi : (x17).toInt = 16 := by rw [w69]; rfl
                          refine lv_tableIn (off := 100) (tgt := 191) hx hb dX8_readOne_91 (by rw [hi]; decide) (by rw [hi]; decide) (by rw [hi]; rfl) (by decide) ?_
                          refine s_aload_n hx hb dX8_readOne_191 rfl (lv_at hl 1 rfl) ?_
                          obtain ⟨c70, hE⟩ := ck hE
                          obtain ⟨x71, f72, hx71, hE⟩ := bd2_of hE
                          refine s_callV (As := []) (rest := []) CF hK hW hS (S_X8_readAhead l G F hx71) c70 rfl gv_X8_93 hd_X8_readAhead ⟨show 4 ≤ 4 + (d + 1) * 1 by omega, show 92 ≤ 94 + (d + 1) * 23 by omega⟩ rfl hl.1 rfl (Nat.le_of_ble_eq_true rfl) dX8_readOne_192 ⟨Nat.le_refl _, Nat.le_refl _⟩ (fun H locs hW hS => ?_)
                          obtain ⟨c73, hE⟩ := ck hE
                          obtain ⟨rfl, rfl⟩ := so2 hE
                          exact s_zret hx hb hr c73 hlocks hW hS dX8_readOne_195
                        · replace hE := ite_f w69 hE
                          by_cases w74 : x17 = (17 : Int32)
                          · replace hE := ite_t w74 hE
                            have hi : (x17).toInt = 17 := by rw [w74]; rfl
                            refine lv_tableIn (off := 105) (tgt := 196) hx hb dX8_readOne_91 (by rw [hi]; decide) (by rw [hi]; decide) (by rw [hi]; rfl) (by decide) ?_
                            refine s_aload_n hx hb dX8_readOne_196 rfl (lv_at hl 1 rfl) ?_
                            obtain ⟨c75, hE⟩ := ck hE
                            obtain ⟨x76, f77, hx76, hE⟩ := bd2_of hE
                            refine s_callV (As := []) (rest := []) CF hK hW hS (S_X8_takeCopy l G F hx76) c75 rfl gv_X8_96 hd_X8_takeCopy ⟨show 4 ≤ 4 + (d + 1) * 1 by omega, show 91 ≤ 94 + (d + 1) * 23 by omega⟩ rfl hl.1 rfl (Nat.le_of_ble_eq_true rfl) dX8_readOne_197 ⟨Nat.le_refl _, Nat.le_refl _⟩ (fun H locs hW hS => ?_)
                            refine lv_istore_n (i := 3) (lv' := [(3, .int x76), (2, rr G x12), (0, rr G v0), (1, .int v1)]) hx hb dX8_readOne_200 rfl hl (by decide) (by simp [cat_rr]) (fun ls hl => ?_)
                            refine lv_iload_n hx hb dX8_readOne_201 rfl (lv_at hl 0 rfl) ?_
                            refine lv_iconst (v := (-1 : Int32)) hx hb dX8_readOne_202 (by decide) ?_
                            refine lv_icmp_eq (tgt := 219) hx hb dX8_readOne_203 (by decide) (fun q78 => ?_) (fun q78 => ?_)
                            · replace hE := ite_t q78 hE
                              refine lv_iconst (v := (0 : Int32)) hx hb dX8_readOne_219 (by decide) ?_
                              obtain ⟨c79, hE⟩ := ck hE
                              obtain ⟨rfl, rfl⟩ := so2 hE
                              exact s_zret hx hb hr c79 hlocks hW hS dX8_readOne_220
                            · replace hE := ite_f q78 hE
                              refine s_aload_n hx hb dX8_readOne_206 rfl (lv_at hl 2 rfl) ?_
                              refine s_aload_n hx hb dX8_readOne_207 rfl (lv_at hl 1 rfl) ?_
                              refine lv_iload_n hx hb dX8_readOne_208 rfl (lv_at hl 0 rfl) ?_
                              obtain ⟨c80, hE⟩ := ck hE
                              obtain ⟨x81, f82, hx81, hE⟩ := bd2_of hE
                              refine s_callV (As := [rr G x12, .int x76]) (rest := []) CF hK hW hS (S_X8_readMeasure l G F hx81) c80 rfl gv_X8_99 hd_X8_readMeasure ⟨show 4 ≤ 4 + (d + 1) * 1 by omega, show 94 ≤ 94 + (d + 1) * 23 by omega⟩ rfl hl.1 rfl (Nat.le_of_ble_eq_true rfl) dX8_readOne_209 ⟨Nat.le_refl _, Nat.le_refl _⟩ (fun H locs hW hS => ?_)
                              refine lv_if_eq (tgt := 219) hx hb dX8_readOne_212 (by decide) (fun q83 => ?_) (fun q83 => ?_)
                              · replace hE := ite_t q83 hE
                                refine lv_iconst (v := (0 : Int32)) hx hb dX8_readOne_219 (by decide) ?_
                                obtain ⟨c84, hE⟩ := ck hE
                                obtain ⟨rfl, rfl⟩ := so2 hE
                                exact s_zret hx hb hr c84 hlocks hW hS dX8_readOne_220
                              · replace hE := ite_f q83 hE
                                refine lv_iconst (v := (1 : Int32)) hx hb dX8_readOne_215 (by decide) ?_
                                refine lv_goto (tgt := 220) hx hb dX8_readOne_216 (by decide) ?_
                                obtain ⟨c85, hE⟩ := ck hE
                                obtain ⟨rfl, rfl⟩ := so2 hE
                                exact s_zret hx hb hr c85 hlocks hW hS dX8_readOne_220
                          · replace hE := ite_f w74 hE
                            by_cases w86 : x17 = (18 : Int32)
                            · replace hE := ite_t w86 hE
                              have hi : (x17).toInt = 18 := by rw [w86]; rfl
                              refine lv_tableIn (off := 105) (tgt := 196) hx hb dX8_readOne_91 (by rw [hi]; decide) (by rw [hi]; decide) (by rw [hi]; rfl) (by decide) ?_
                              refine s_aload_n hx hb dX8_readOne_196 rfl (lv_at hl 1 rfl) ?_
                              obtain ⟨c87, hE⟩ := ck hE
                              obtain ⟨x88, f89, hx88, hE⟩ := bd2_of hE
                              refine s_callV (As := []) (rest := []) CF hK hW hS (S_X8_takeCopy l G F hx88) c87 rfl gv_X8_96 hd_X8_takeCopy ⟨show 4 ≤ 4 + (d + 1) * 1 by omega, show 91 ≤ 94 + (d + 1) * 23 by omega⟩ rfl hl.1 rfl (Nat.le_of_ble_eq_true rfl) dX8_readOne_197 ⟨Nat.le_refl _, Nat.le_refl _⟩ (fun H locs hW hS => ?_)
                              refine lv_istore_n (i := 3) (lv' := [(3, .int x88), (2, rr G x12), (0, rr G v0), (1, .int v1)]) hx hb dX8_readOne_200 rfl hl (by decide) (by simp [cat_rr]) (fun ls hl => ?_)
                              refine lv_iload_n hx hb dX8_readOne_201 rfl (lv_at hl 0 rfl) ?_
                              refine lv_iconst (v := (-1 : Int32)) hx hb dX8_readOne_202 (by decide) ?_
                              refine lv_icmp_eq (tgt := 219) hx hb dX8_readOne_203 (by decide) (fun q90 => ?_) (fun q90 => ?_)
                              · replace hE := ite_t q90 hE
                                refine lv_iconst (v := (0 : Int32)) hx hb dX8_readOne_219 (by decide) ?_
                                obtain ⟨c91, hE⟩ := ck hE
                                obtain ⟨rfl, rfl⟩ := so2 hE
                                exact s_zret hx hb hr c91 hlocks hW hS dX8_readOne_220
                              · replace hE := ite_f q90 hE
                                refine s_aload_n hx hb dX8_readOne_206 rfl (lv_at hl 2 rfl) ?_
                                refine s_aload_n hx hb dX8_readOne_207 rfl (lv_at hl 1 rfl) ?_
                                refine lv_iload_n hx hb dX8_readOne_208 rfl (lv_at hl 0 rfl) ?_
                                obtain ⟨c92, hE⟩ := ck hE
                                obtain ⟨x93, f94, hx93, hE⟩ := bd2_of hE
                                refine s_callV (As := [rr G x12, .int x88]) (rest := []) CF hK hW hS (S_X8_readMeasure l G F hx93) c92 rfl gv_X8_99 hd_X8_readMeasure ⟨show 4 ≤ 4 + (d + 1) * 1 by omega, show 94 ≤ 94 + (d + 1) * 23 by omega⟩ rfl hl.1 rfl (Nat.le_of_ble_eq_true rfl) dX8_readOne_209 ⟨Nat.le_refl _, Nat.le_refl _⟩ (fun H locs hW hS => ?_)
                                refine lv_if_eq (tgt := 219) hx hb dX8_readOne_212 (by decide) (fun q95 => ?_) (fun q95 => ?_)
                                · replace hE := ite_t q95 hE
                                  refine lv_iconst (v := (0 : Int32)) hx hb dX8_readOne_219 (by decide) ?_
                                  obtain ⟨c96, hE⟩ := ck hE
                                  obtain ⟨rfl, rfl⟩ := so2 hE
                                  exact s_zret hx hb hr c96 hlocks hW hS dX8_readOne_220
                                · replace hE := ite_f q95 hE
                                  refine lv_iconst (v := (1 : Int32)) hx hb dX8_readOne_215 (by decide) ?_
                                  refine lv_goto (tgt := 220) hx hb dX8_readOne_216 (by decide) ?_
                                  obtain ⟨c97, hE⟩ := ck hE
                                  obtain ⟨rfl, rfl⟩ := so2 hE
                                  exact s_zret hx hb hr c97 hlocks hW hS dX8_readOne_220
                            · replace hE := ite_f w86 hE
                              by_cases w98 : x17 = (19 : Int32)
                              · replace hE := ite_t w98 hE
                                have hi : (x17).toInt = 19 := by rw [w98]; rfl
                                refine lv_tableIn (off := 130) (tgt := 221) hx hb dX8_readOne_91 (by rw [hi]; decide) (by rw [hi]; decide) (by rw [hi]; rfl) (by decide) ?_
                                refine s_aload_n hx hb dX8_readOne_221 rfl (lv_at hl 1 rfl) ?_
                                refine s_aload_n hx hb dX8_readOne_222 rfl (lv_at hl 0 rfl) ?_
                                refine lv_iconst (v := (-1 : Int32)) hx hb dX8_readOne_223 (by decide) ?_
                                obtain ⟨c99, hE⟩ := ck hE
                                obtain ⟨x100, f101, hx100, hE⟩ := bd2_of hE
                                refine s_callV (As := [rr G x12, .int (-1 : Int32)]) (rest := []) CF hK hW hS (S_X8_readMeasure l G F hx100) c99 rfl gv_X8_99 hd_X8_readMeasure ⟨show 4 ≤ 4 + (d + 1) * 1 by omega, show 94 ≤ 94 + (d + 1) * 23 by omega⟩ rfl hl.1 rfl (Nat.le_of_ble_eq_true rfl) dX8_readOne_224 ⟨Nat.le_refl _, Nat.le_refl _⟩ (fun H locs hW hS => ?_)
                                obtain ⟨c102, hE⟩ := ck hE
                                obtain ⟨rfl, rfl⟩ := so2 hE
                                exact s_zret hx hb hr c102 hlocks hW hS dX8_readOne_227
                              · replace hE := ite_f w98 hE
                                by_cases w103 : x17 = (20 : Int32)
                                · replace hE := ite_t w103 hE
                                  have hi : (x17).toInt = 20 := by rw [w103]; rfl
                                  refine lv_tableIn (off := 130) (tgt := 221) hx hb dX8_readOne_91 (by rw [hi]; decide) (by rw [hi]; decide) (by rw [hi]; rfl) (by decide) ?_
                                  refine s_aload_n hx hb dX8_readOne_221 rfl (lv_at hl 1 rfl) ?_
                                  refine s_aload_n hx hb dX8_readOne_222 rfl (lv_at hl 0 rfl) ?_
                                  refine lv_iconst (v := (-1 : Int32)) hx hb dX8_readOne_223 (by decide) ?_
                                  obtain ⟨c104, hE⟩ := ck hE
                                  obtain ⟨x105, f106, hx105, hE⟩ := bd2_of hE
                                  refine s_callV (As := [rr G x12, .int (-1 : Int32)]) (rest := []) CF hK hW hS (S_X8_readMeasure l G F hx105) c104 rfl gv_X8_99 hd_X8_readMeasure ⟨show 4 ≤ 4 + (d + 1) * 1 by omega, show 94 ≤ 94 + (d + 1) * 23 by omega⟩ rfl hl.1 rfl (Nat.le_of_ble_eq_true rfl) dX8_readOne_224 ⟨Nat.le_refl _, Nat.le_refl _⟩ (fun H locs hW hS => ?_)
                                  obtain ⟨c107, hE⟩ := ck hE
                                  obtain ⟨rfl, rfl⟩ := so2 hE
                                  exact s_zret hx hb hr c107 hlocks hW hS dX8_readOne_227
                                · replace hE := ite_f w103 hE
                                  replace w18 := lv_neT w18 (a := 10) rfl
                                  replace w28 := lv_neT w28 (a := 11) rfl
                                  replace w41 := lv_neT w41 (a := 12) rfl
                                  replace w54 := lv_neT w54 (a := 13) rfl
                                  replace w59 := lv_neT w59 (a := 14) rfl
                                  replace w64 := lv_neT w64 (a := 15) rfl
                                  replace w69 := lv_neT w69 (a := 16) rfl
                                  replace w74 := lv_neT w74 (a := 17) rfl
                                  replace w86 := lv_neT w86 (a := 18) rfl
                                  replace w98 := lv_neT w98 (a := 19) rfl
                                  replace w103 := lv_neT w103 (a := 20) rfl
                                  refine lv_tableOut (tgt := 228) hx hb dX8_readOne_91 (by omega) (by decide) ?_
                                  refine s_aload_n hx hb dX8_readOne_228 rfl (lv_at hl 1 rfl) ?_
                                  refine lv_iload_n hx hb dX8_readOne_229 rfl (lv_at hl 2 rfl) ?_
                                  refine lv_iconst (v := (1 : Int32)) hx hb dX8_readOne_230 (by decide) ?_
                                  refine lv_iadd hx hb dX8_readOne_231 ?_
                                  obtain ⟨c108, hE⟩ := ck hE
                                  obtain ⟨x109, f110, hx109, hE⟩ := bd2_of hE
                                  refine s_callV (As := [.int (v1 + (1 : Int32))]) (rest := []) CF hK hW hS (ihg0.1 _ _ _ _ _ _ hx109) c108 rfl gv_X8_32 hd_X8_readCondition ⟨show (4 + d * 1) + 1 ≤ 4 + (d + 1) * 1 by omega, show 8 + (3 + 11) + (94 + d * 23) ≤ 94 + (d + 1) * 23 by omega⟩ rfl hl.1 rfl (Nat.le_of_ble_eq_true rfl) dX8_readOne_232 ⟨Nat.le_refl _, Nat.le_refl _⟩ (fun H locs hW hS => ?_)
                                  refine lv_if_eq (tgt := 254) hx hb dX8_readOne_235 (by decide) (fun q111 => ?_) (fun q111 => ?_)
                                  · replace hE := ite_t q111 hE
                                    refine lv_iconst (v := (0 : Int32)) hx hb dX8_readOne_254 (by decide) ?_
                                    obtain ⟨c112, hE⟩ := ck hE
                                    obtain ⟨rfl, rfl⟩ := so2 hE
                                    exact s_zret hx hb hr c112 hlocks hW hS dX8_readOne_255
                                  · replace hE := ite_f q111 hE
                                    refine s_aload_n hx hb dX8_readOne_238 rfl (lv_at hl 1 rfl) ?_
                                    obtain ⟨x113, hx113, hE⟩ := bd hE
                                    refine s_gR hx hb hT u_X8 hown hK hW hx113 rfl (by decide) fl_X8_9 rfl dX8_readOne_239 ?_
                                    refine lv_bipush (v := (41 : Int32)) hx hb dX8_readOne_242 (by decide) ?_
                                    obtain ⟨c114, hE⟩ := ck hE
                                    obtain ⟨x115, f116, hx115, hE⟩ := bd2_of hE
                                    refine s_callV (As := [.int (41 : Int32)]) (rest := []) CF hK hW hS (S_X9_passSign l G F hx115) c114 rfl gv_X8_103 hd_X9_passSign ⟨show 4 ≤ 4 + (d + 1) * 1 by omega, show 91 ≤ 94 + (d + 1) * 23 by omega⟩ rfl hl.1 rfl (Nat.le_of_ble_eq_true rfl) dX8_readOne_244 ⟨Nat.le_refl _, Nat.le_refl _⟩ (fun H locs hW hS => ?_)
                                    refine lv_if_eq (tgt := 254) hx hb dX8_readOne_247 (by decide) (fun q117 => ?_) (fun q117 => ?_)
                                    · replace hE := ite_t q117 hE
                                      refine lv_iconst (v := (0 : Int32)) hx hb dX8_readOne_254 (by decide) ?_
                                      obtain ⟨c118, hE⟩ := ck hE
                                      obtain ⟨rfl, rfl⟩ := so2 hE
                                      exact s_zret hx hb hr c118 hlocks hW hS dX8_readOne_255
                                    · replace hE := ite_f q117 hE
                                      refine lv_iconst (v := (1 : Int32)) hx hb dX8_readOne_250 (by decide) ?_
                                      refine lv_goto (tgt := 255) hx hb dX8_readOne_251 (by decide) ?_
                                      obtain ⟨c119, hE⟩ := ck hE
                                      obtain ⟨rfl, rfl⟩ := so2 hE
                                      exact s_zret hx hb hr c119 hlocks hW hS dX8_readOne_255
          · replace hE := ite_f q8 hE
            refine s_aload_n hx hb dX8_readOne_49 rfl (lv_at hl 0 rfl) ?_
            obtain ⟨x120, hx120, hE⟩ := bd hE
            refine s_gR hx hb hT u_X8 hown hK hW hx120 rfl (by decide) fl_X8_9 rfl dX8_readOne_50 ?_
            refine lv_iconst (v := (4 : Int32)) hx hb dX8_readOne_53 (by decide) ?_
            obtain ⟨c121, hE⟩ := ck hE
            obtain ⟨x122, f123, hx122, hE⟩ := bd2_of hE
            refine s_callV (As := [.int (4 : Int32)]) (rest := []) CF hK hW hS (S_X9_fail l G F hx122) c121 rfl gv_X8_41 hd_X9_fail ⟨show 1 ≤ 4 + (d + 1) * 1 by omega, show 21 ≤ 94 + (d + 1) * 23 by omega⟩ rfl hl.1 rfl (Nat.le_of_ble_eq_true rfl) dX8_readOne_54 ⟨Nat.le_refl _, Nat.le_refl _⟩ (fun H locs hW hS => ?_)
            obtain ⟨c124, hE⟩ := ck hE
            obtain ⟨rfl, rfl⟩ := so2 hE
            exact s_zret hx hb hr c124 hlocks hW hS dX8_readOne_57
      refine s_aload_n hx hb dX8_readOne_0 rfl (lv_at hl 0 rfl) ?_
      obtain ⟨x125, hx125, hE⟩ := bd hE
      refine s_gR hx hb hT u_X8 hown hK hW hx125 rfl (by decide) fl_X8_9 rfl dX8_readOne_1 ?_
      obtain ⟨x126, hx126, hE⟩ := bd hE
      refine s_gR hx hb hT u_X9 hown hK hW hx126 rfl (by decide) fl_X8_47 rfl dX8_readOne_4 ?_
      obtain ⟨i127, hi127, hE⟩ := bd hE
      refine s_enS hx hb hT hK hS hown hi127 fl_X8_69 dX8_readOne_7 ?_
      refine lv_if_ne (tgt := 34) hx hb dX8_readOne_10 (by decide) (fun q128 => ?_) (fun q128 => ?_)
      · replace hE := ite_f q128 hE
        exact hC34 _ _ _ _ _ _ hE hW hS (lv_sub hl [0, 1] rfl)
      · replace hE := ite_t q128 hE
        refine s_aload_n hx hb dX8_readOne_13 rfl (lv_at hl 0 rfl) ?_
        obtain ⟨x129, hx129, hE⟩ := bd hE
        refine s_gR hx hb hT u_X8 hown hK hW hx129 rfl (by decide) fl_X8_9 rfl dX8_readOne_14 ?_
        obtain ⟨x130, hx130, hE⟩ := bd hE
        refine s_gI hx hb hT u_X9 hown hK hW hx130 rfl (by decide) fl_X8_73 rfl dX8_readOne_17 ?_
        refine lv_bipush (v := (40 : Int32)) hx hb dX8_readOne_20 (by decide) ?_
        refine lv_icmp_eq (tgt := 34) hx hb dX8_readOne_22 (by decide) (fun q131 => ?_) (fun q131 => ?_)
        · replace hE := ite_t q131 hE
          exact hC34 _ _ _ _ _ _ hE hW hS (lv_sub hl [0, 1] rfl)
        · replace hE := ite_f q131 hE
          refine s_aload_n hx hb dX8_readOne_25 rfl (lv_at hl 0 rfl) ?_
          obtain ⟨x132, hx132, hE⟩ := bd hE
          refine s_gR hx hb hT u_X8 hown hK hW hx132 rfl (by decide) fl_X8_9 rfl dX8_readOne_26 ?_
          refine lv_iconst (v := (1 : Int32)) hx hb dX8_readOne_29 (by decide) ?_
          obtain ⟨c133, hE⟩ := ck hE
          obtain ⟨x134, f135, hx134, hE⟩ := bd2_of hE
          refine s_callV (As := [.int (1 : Int32)]) (rest := []) CF hK hW hS (S_X9_fail l G F hx134) c133 rfl gv_X8_41 hd_X9_fail ⟨show 1 ≤ 4 + (d + 1) * 1 by omega, show 21 ≤ 94 + (d + 1) * 23 by omega⟩ rfl hl.1 rfl (Nat.le_of_ble_eq_true rfl) dX8_readOne_30 ⟨Nat.le_refl _, Nat.le_refl _⟩ (fun H locs hW hS => ?_)
          obtain ⟨c136, hE⟩ := ck hE
          obtain ⟨rfl, rfl⟩ := so2 hE
          exact s_zret hx hb hr c136 hlocks hW hS dX8_readOne_33
theorem S_X8_readCondition (l : Launch) (G : GG) (F d : Nat) {u0 : Option Nat} {u1 : Int32} {f : Hp} {r : Int32} {f' : Hp} {n : Nat} (hE : m_X8_readCondition F d u0 u1 f = some (r, f')) : Ctr l G yX8_readCondition cX8_readCondition 3 (some .boolean) (4 + d * 1) (94 + d * 23) [rr G u0, .int u1] f n (some (.int r)) f' n 0 0 := (SG_0 l G F d).1 _ _ _ _ _ _ hE
theorem S_X8_readAll (l : Launch) (G : GG) (F d : Nat) {u0 : Option Nat} {u1 : Int32} {f : Hp} {r : Int32} {f' : Hp} {n : Nat} (hE : m_X8_readAll F d u0 u1 f = some (r, f')) : Ctr l G yX8_readAll cX8_readAll 3 (some .boolean) (4 + d * 1) (94 + d * 23) [rr G u0, .int u1] f n (some (.int r)) f' n 0 0 := (SG_0 l G F d).2.1 _ _ _ _ _ _ hE
theorem S_X8_readOne (l : Launch) (G : GG) (F d : Nat) {u0 : Option Nat} {u1 : Int32} {f : Hp} {r : Int32} {f' : Hp} {n : Nat} (hE : m_X8_readOne F d u0 u1 f = some (r, f')) : Ctr l G yX8_readOne cX8_readOne 4 (some .boolean) (4 + d * 1) (94 + d * 23) [rr G u0, .int u1] f n (some (.int r)) f' n 0 0 := (SG_0 l G F d).2.2 _ _ _ _ _ _ hE
set_option maxHeartbeats 4000000 in
set_option maxRecDepth 100000 in
theorem S_X8_read (l : Launch) (G : GG) (F : Nat) {u0 : Option Nat} {u1 : Option Nat} {u2 : Option Nat} {f : Hp} {r : Int32} {f' : Hp} {n : Nat} (hE : m_X8_read F u0 u1 u2 f = some (r, f')) : Ctr l G yX8_read cX8_read 3 (some .int) 65 1496 [rr G u0, rr G u1, rr G u2] f n (some (.int r)) f' n 0 0 := by
  refine Met.ofW (cc := cX8_read) (maxL := 3) (ret := (some .int)) (by decide) rfl ?_
  intro p e s m args below meth c s₁ B hml hv
  obtain ⟨rfl, hK, hW⟩ := hv
  have hx := B.exec
  have hb := B.bytes
  have hr := B.returns
  have hts := atoms_spec (ws := wsO yX8_read cX8_read 3 (some .int)) B.pre
  have hT : ∀ w ∈ TB, w.before [rr G u0, rr G u1, rr G u2].toArray s = true := fun w hw => hts w (List.mem_cons_of_mem _ hw)
  have hown : s.vm.findClass RX8 = some m.cls := findClass_of_methodNamed B.named
  have hlocks := B.notSynchronized
  have CF : CallFix p m c cX8_read 3 s [rr G u0, rr G u1, rr G u2].toArray TB RX8 := ⟨hx, hb, hml, hown, hT⟩
  have hS : va_S (WA G) s.heap s.heap [] := va_S.rf
  have hl : lv_has (lg_sl ([rr G u0, rr G u1, rr G u2]) ++ List.replicate (3 - (lg_sl ([rr G u0, rr G u1, rr G u2])).length) Slot.unset).toArray 3 [(0, rr G u0), (1, rr G u1), (2, rr G u2)] := by cases u0 <;> cases u1 <;> cases u2 <;> exact lv_entry _ (Nat.le_of_ble_eq_true rfl)
  rw [lg_entry_eq]
  generalize (lg_sl ([rr G u0, rr G u1, rr G u2]) ++ List.replicate (3 - (lg_sl ([rr G u0, rr G u1, rr G u2])).length) Slot.unset).toArray = ls at hl ⊢
  refine s_aload_n hx hb dX8_read_0 rfl (lv_at hl 0 rfl) ?_
  refine s_aload_n hx hb dX8_read_1 rfl (lv_at hl 1 rfl) ?_
  obtain ⟨f1, hf1, hE⟩ := bd hE
  refine s_putR hx hb hT u_X8 tyX8 tyX8_ok nmX8 hown hK hW hS hf1 rfl (by decide) fl_X8_15 rfl (Or.inl rfl) rfl fit_o dX8_read_2 (fun H locs hW hS => ?_)
  refine s_aload_n hx hb dX8_read_5 rfl (lv_at hl 0 rfl) ?_
  obtain ⟨x2, hx2, hE⟩ := bd hE
  refine s_gR hx hb hT u_X8 hown hK hW hx2 rfl (by decide) fl_X8_15 rfl dX8_read_6 ?_
  obtain ⟨c3, hE⟩ := ck hE
  obtain ⟨f4, hf4, hE⟩ := bd hE
  refine s_callV (As := []) (rest := []) CF hK hW hS (S_X7_clear l G F hf4) c3 rfl gv_X8_19 hd_X7_clear ⟨Nat.le_of_ble_eq_true rfl, Nat.le_of_ble_eq_true rfl⟩ rfl hl.1 rfl (Nat.le_of_ble_eq_true rfl) dX8_read_9 ⟨Nat.le_refl _, Nat.le_refl _⟩ (fun H locs hW hS => ?_)
  refine s_aload_n hx hb dX8_read_12 rfl (lv_at hl 0 rfl) ?_
  refine s_aload_n hx hb dX8_read_13 rfl (lv_at hl 2 rfl) ?_
  obtain ⟨f5, hf5, hE⟩ := bd hE
  refine s_putR hx hb hT u_X8 tyX8 tyX8_ok nmX8 hown hK hW hS hf5 rfl (by decide) fl_X8_24 rfl (Or.inl rfl) rfl fit_o dX8_read_14 (fun H locs hW hS => ?_)
  refine s_aload_n hx hb dX8_read_17 rfl (lv_at hl 0 rfl) ?_
  refine lv_iconst (v := (0 : Int32)) hx hb dX8_read_18 (by decide) ?_
  obtain ⟨f6, hf6, hE⟩ := bd hE
  refine s_putI hx hb hT u_X8 tyX8 tyX8_ok nmX8 hown hK hW hS hf6 rfl (by decide) fl_X8_28 rfl (Or.inl rfl) rfl dX8_read_19 (fun H locs hW hS => ?_)
  refine s_aload_n hx hb dX8_read_22 rfl (lv_at hl 0 rfl) ?_
  refine lv_iconst (v := (1 : Int32)) hx hb dX8_read_23 (by decide) ?_
  obtain ⟨c7, hE⟩ := ck hE
  obtain ⟨x8, f9, hx8, hE⟩ := bd2_of hE
  refine s_callV (As := [.int (1 : Int32)]) (rest := []) CF hK hW hS (S_X8_readCondition l G F 60 hx8) c7 rfl gv_X8_32 hd_X8_readCondition ⟨Nat.le_of_ble_eq_true rfl, Nat.le_of_ble_eq_true rfl⟩ rfl hl.1 rfl (Nat.le_of_ble_eq_true rfl) dX8_read_24 ⟨Nat.le_refl _, Nat.le_refl _⟩ (fun H locs hW hS => ?_)
  refine lv_if_ne (tgt := 32) hx hb dX8_read_27 (by decide) (fun q10 => ?_) (fun q10 => ?_)
  · replace hE := ite_f q10 hE
    refine s_aload_n hx hb dX8_read_32 rfl (lv_at hl 0 rfl) ?_
    obtain ⟨x11, hx11, hE⟩ := bd hE
    refine s_gR hx hb hT u_X8 hown hK hW hx11 rfl (by decide) fl_X8_9 rfl dX8_read_33 ?_
    obtain ⟨x12, hx12, hE⟩ := bd hE
    refine s_gI hx hb hT u_X9 hown hK hW hx12 rfl (by decide) fl_X8_36 rfl dX8_read_36 ?_
    refine lv_if_eq (tgt := 53) hx hb dX8_read_39 (by decide) (fun q13 => ?_) (fun q13 => ?_)
    · replace hE := ite_t q13 hE
      refine s_aload_n hx hb dX8_read_53 rfl (lv_at hl 0 rfl) ?_
      obtain ⟨x14, hx14, hE⟩ := bd hE
      refine s_gI hx hb hT u_X8 hown hK hW hx14 rfl (by decide) fl_X8_28 rfl dX8_read_54 ?_
      obtain ⟨rfl, rfl⟩ := so2 hE
      exact s_iret hx hb hr hlocks hW hS dX8_read_57
    · replace hE := ite_f q13 hE
      refine s_aload_n hx hb dX8_read_42 rfl (lv_at hl 0 rfl) ?_
      obtain ⟨x15, hx15, hE⟩ := bd hE
      refine s_gR hx hb hT u_X8 hown hK hW hx15 rfl (by decide) fl_X8_9 rfl dX8_read_43 ?_
      refine lv_iconst (v := (1 : Int32)) hx hb dX8_read_46 (by decide) ?_
      obtain ⟨c16, hE⟩ := ck hE
      obtain ⟨x17, f18, hx17, hE⟩ := bd2_of hE
      refine s_callV (As := [.int (1 : Int32)]) (rest := []) CF hK hW hS (S_X9_fail l G F hx17) c16 rfl gv_X8_41 hd_X9_fail ⟨Nat.le_of_ble_eq_true rfl, Nat.le_of_ble_eq_true rfl⟩ rfl hl.1 rfl (Nat.le_of_ble_eq_true rfl) dX8_read_47 ⟨Nat.le_refl _, Nat.le_refl _⟩ (fun H locs hW hS => ?_)
      refine lv_pop hx hb dX8_read_50 rfl ?_
      refine lv_iconst (v := (-1 : Int32)) hx hb dX8_read_51 (by decide) ?_
      obtain ⟨rfl, rfl⟩ := so2 hE
      exact s_iret hx hb hr hlocks hW hS dX8_read_52
  · replace hE := ite_t q10 hE
    refine lv_iconst (v := (-1 : Int32)) hx hb dX8_read_30 (by decide) ?_
    obtain ⟨rfl, rfl⟩ := so2 hE
    exact s_iret hx hb hr hlocks hW hS dX8_read_31
set_option maxHeartbeats 4000000 in
set_option maxRecDepth 100000 in
theorem S_X11_sentence (l : Launch) (G : GG) (F : Nat) {u0 : Option Nat} {f : Hp} {r : Int32} {f' : Hp} {n : Nat} (hE : m_X11_sentence F u0 f = some (r, f')) : Ctr l G yX11_sentence cX11_sentence 3 (some .int) 66 1518 [rr G u0] f n (some (.int r)) f' n 0 0 := by
  refine Met.ofW (cc := cX11_sentence) (maxL := 3) (ret := (some .int)) (by decide) rfl ?_
  intro p e s m args below meth c s₁ B hml hv
  obtain ⟨rfl, hK, hW⟩ := hv
  have hx := B.exec
  have hb := B.bytes
  have hr := B.returns
  have hts := atoms_spec (ws := wsO yX11_sentence cX11_sentence 3 (some .int)) B.pre
  have hT : ∀ w ∈ TB, w.before [rr G u0].toArray s = true := fun w hw => hts w (List.mem_cons_of_mem _ hw)
  have hown : s.vm.findClass RX11 = some m.cls := findClass_of_methodNamed B.named
  have hlocks := B.notSynchronized
  have CF : CallFix p m c cX11_sentence 3 s [rr G u0].toArray TB RX11 := ⟨hx, hb, hml, hown, hT⟩
  have hS : va_S (WA G) s.heap s.heap [] := va_S.rf
  have hl : lv_has (lg_sl ([rr G u0]) ++ List.replicate (3 - (lg_sl ([rr G u0])).length) Slot.unset).toArray 3 [(0, rr G u0)] := by cases u0 <;> exact lv_entry _ (Nat.le_of_ble_eq_true rfl)
  rw [lg_entry_eq]
  generalize (lg_sl ([rr G u0]) ++ List.replicate (3 - (lg_sl ([rr G u0])).length) Slot.unset).toArray = ls at hl ⊢
  refine s_aload_n hx hb dX11_sentence_0 rfl (lv_at hl 0 rfl) ?_
  obtain ⟨x1, hx1, hE⟩ := bd hE
  refine s_gR hx hb hT u_X11 hown hK hW hx1 rfl (by decide) fl_X11_45 rfl dX11_sentence_1 ?_
  refine s_aload_n hx hb dX11_sentence_4 rfl (lv_at hl 0 rfl) ?_
  obtain ⟨c2, hE⟩ := ck hE
  obtain ⟨x3, f4, hx3, hE⟩ := bd2_of hE
  refine s_callV (As := []) (rest := [rr G x1]) CF hK hW hS (S_X11_takeTape l G F hx3) c2 rfl gv_X11_84 hd_X11_takeTape ⟨Nat.le_of_ble_eq_true rfl, Nat.le_of_ble_eq_true rfl⟩ rfl hl.1 rfl (Nat.le_of_ble_eq_true rfl) dX11_sentence_5 ⟨Nat.le_refl _, Nat.le_refl _⟩ (fun H locs hW hS => ?_)
  refine lv_sipush (v := (200 : Int32)) hx hb dX11_sentence_8 (by decide) ?_
  obtain ⟨c5, hE⟩ := ck hE
  obtain ⟨f6, hf6, hE⟩ := bd hE
  refine s_callV (As := [.int x3, .int (200 : Int32)]) (rest := []) CF hK hW hS (S_X9_open l G F hf6) c5 rfl gv_X11_88 hd_X9_open ⟨Nat.le_of_ble_eq_true rfl, Nat.le_of_ble_eq_true rfl⟩ rfl hl.1 rfl (Nat.le_of_ble_eq_true rfl) dX11_sentence_11 ⟨Nat.le_refl _, Nat.le_refl _⟩ (fun H locs hW hS => ?_)
  refine s_aload_n hx hb dX11_sentence_14 rfl (lv_at hl 0 rfl) ?_
  obtain ⟨x7, hx7, hE⟩ := bd hE
  refine s_gR hx hb hT u_X11 hown hK hW hx7 rfl (by decide) fl_X11_61 rfl dX11_sentence_15 ?_
  refine s_aload_n hx hb dX11_sentence_18 rfl (lv_at hl 0 rfl) ?_
  obtain ⟨x8, hx8, hE⟩ := bd hE
  refine s_gR hx hb hT u_X11 hown hK hW hx8 rfl (by decide) fl_X11_26 rfl dX11_sentence_19 ?_
  refine s_aload_n hx hb dX11_sentence_22 rfl (lv_at hl 0 rfl) ?_
  obtain ⟨x9, hx9, hE⟩ := bd hE
  refine s_gR hx hb hT u_X11 hown hK hW hx9 rfl (by decide) fl_X11_16 rfl dX11_sentence_23 ?_
  obtain ⟨c10, hE⟩ := ck hE
  obtain ⟨x11, f12, hx11, hE⟩ := bd2_of hE
  refine s_callV (As := [rr G x8, rr G x9]) (rest := []) CF hK hW hS (S_X8_read l G F hx11) c10 rfl gv_X11_318 hd_X8_read ⟨Nat.le_of_ble_eq_true rfl, Nat.le_of_ble_eq_true rfl⟩ rfl hl.1 rfl (Nat.le_of_ble_eq_true rfl) dX11_sentence_26 ⟨Nat.le_refl _, Nat.le_refl _⟩ (fun H locs hW hS => ?_)
  refine lv_istore_n (i := 1) (lv' := [(1, .int x11), (0, rr G u0)]) hx hb dX11_sentence_29 rfl hl (by decide) (by simp [cat_rr]) (fun ls hl => ?_)
  refine s_aload_n hx hb dX11_sentence_30 rfl (lv_at hl 1 rfl) ?_
  refine s_aload_n hx hb dX11_sentence_31 rfl (lv_at hl 1 rfl) ?_
  obtain ⟨x13, hx13, hE⟩ := bd hE
  refine s_gR hx hb hT u_X11 hown hK hW hx13 rfl (by decide) fl_X11_45 rfl dX11_sentence_32 ?_
  obtain ⟨x14, hx14, hE⟩ := bd hE
  refine s_gI hx hb hT u_X9 hown hK hW hx14 rfl (by decide) fl_X11_96 rfl dX11_sentence_35 ?_
  obtain ⟨f15, hf15, hE⟩ := bd hE
  refine s_putI hx hb hT u_X11 tyX11 tyX11_ok nmX11 hown hK hW hS hf15 rfl (by decide) fl_X11_99 rfl (Or.inl rfl) rfl dX11_sentence_38 (fun H locs hW hS => ?_)
  refine s_aload_n hx hb dX11_sentence_41 rfl (lv_at hl 1 rfl) ?_
  obtain ⟨x16, hx16, hE⟩ := bd hE
  refine s_gI hx hb hT u_X11 hown hK hW hx16 rfl (by decide) fl_X11_99 rfl dX11_sentence_42 ?_
  refine lv_if_eq (tgt := 58) hx hb dX11_sentence_45 (by decide) (fun q17 => ?_) (fun q17 => ?_)
  · replace hE := ite_t q17 hE
    refine s_aload_n hx hb dX11_sentence_58 rfl (lv_at hl 1 rfl) ?_
    obtain ⟨x18, hx18, hE⟩ := bd hE
    refine s_gR hx hb hT u_X11 hown hK hW hx18 rfl (by decide) fl_X11_16 rfl dX11_sentence_59 ?_
    obtain ⟨x19, hx19, hE⟩ := bd hE
    refine s_gR hx hb hT u_X4 hown hK hW hx19 rfl (by decide) fl_X11_321 rfl dX11_sentence_62 ?_
    refine s_astore_n (i := 2) (lv' := [(2, rr G x19), (1, .int x11), (0, rr G u0)]) hx hb dX11_sentence_65 rfl hl (by decide) rfl (fun ls hl => ?_)
    refine s_aload_n hx hb dX11_sentence_66 rfl (lv_at hl 2 rfl) ?_
    obtain ⟨x20, hx20, hE⟩ := bd hE
    refine s_gR hx hb hT u_X11 hown hK hW hx20 rfl (by decide) fl_X11_16 rfl dX11_sentence_67 ?_
    refine s_aload_n hx hb dX11_sentence_70 rfl (lv_at hl 2 rfl) ?_
    obtain ⟨x21, hx21, hE⟩ := bd hE
    refine s_gR hx hb hT u_X11 hown hK hW hx21 rfl (by decide) fl_X11_26 rfl dX11_sentence_71 ?_
    obtain ⟨f22, hf22, hE⟩ := bd hE
    refine s_putR hx hb hT u_X4 tyX4 tyX4_ok nmX4 hown hK hW hS hf22 rfl (by decide) fl_X11_321 rfl (Or.inl rfl) rfl fit_o dX11_sentence_74 (fun H locs hW hS => ?_)
    refine s_aload_n hx hb dX11_sentence_77 rfl (lv_at hl 2 rfl) ?_
    refine s_aload_n hx hb dX11_sentence_78 rfl (lv_at hl 0 rfl) ?_
    obtain ⟨f23, hf23, hE⟩ := bd hE
    refine s_putR hx hb hT u_X11 tyX11 tyX11_ok nmX11 hown hK hW hS hf23 rfl (by decide) fl_X11_26 rfl (Or.inl rfl) rfl fit_o dX11_sentence_79 (fun H locs hW hS => ?_)
    refine lv_iload_n hx hb dX11_sentence_82 rfl (lv_at hl 1 rfl) ?_
    obtain ⟨rfl, rfl⟩ := so2 hE
    exact s_iret hx hb hr hlocks hW hS dX11_sentence_83
  · replace hE := ite_f q17 hE
    refine lv_iconst (v := (-1 : Int32)) hx hb dX11_sentence_48 (by decide) ?_
    refine s_aload_n hx hb dX11_sentence_49 rfl (lv_at hl 1 rfl) ?_
    obtain ⟨x24, hx24, hE⟩ := bd hE
    refine s_gR hx hb hT u_X11 hown hK hW hx24 rfl (by decide) fl_X11_45 rfl dX11_sentence_50 ?_
    obtain ⟨x25, hx25, hE⟩ := bd hE
    refine s_gI hx hb hT u_X9 hown hK hW hx25 rfl (by decide) fl_X11_102 rfl dX11_sentence_53 ?_
    refine lv_isub hx hb dX11_sentence_56 ?_
    obtain ⟨rfl, rfl⟩ := so2 hE
    exact s_iret hx hb hr hlocks hW hS dX11_sentence_57
set_option maxHeartbeats 4000000 in
set_option maxRecDepth 100000 in
theorem S_X11_size (l : Launch) (G : GG) (F : Nat) {u0 : Option Nat} {u1 : Int32} {f : Hp} {r : Int32} {n : Nat} (hE : m_X11_size F u0 u1 f = some r) : Ctr l G yX11_size cX11_size 3 (some .int) 1 21 [rr G u0, .int u1] f n (some (.int r)) f n 0 0 := by
  refine Met.ofW (cc := cX11_size) (maxL := 3) (ret := (some .int)) (by decide) rfl ?_
  intro p e s m args below meth c s₁ B hml hv
  obtain ⟨rfl, hK, hW⟩ := hv
  have hx := B.exec
  have hb := B.bytes
  have hr := B.returns
  have hts := atoms_spec (ws := wsO yX11_size cX11_size 3 (some .int)) B.pre
  have hT : ∀ w ∈ TB, w.before [rr G u0, .int u1].toArray s = true := fun w hw => hts w (List.mem_cons_of_mem _ hw)
  have hown : s.vm.findClass RX11 = some m.cls := findClass_of_methodNamed B.named
  have hlocks := B.notSynchronized
  have CF : CallFix p m c cX11_size 3 s [rr G u0, .int u1].toArray TB RX11 := ⟨hx, hb, hml, hown, hT⟩
  have hS : va_S (WA G) s.heap s.heap [] := va_S.rf
  have hl : lv_has (lg_sl ([rr G u0, .int u1]) ++ List.replicate (3 - (lg_sl ([rr G u0, .int u1])).length) Slot.unset).toArray 3 [(0, rr G u0), (1, .int u1)] := by cases u0 <;> exact lv_entry _ (Nat.le_of_ble_eq_true rfl)
  rw [lg_entry_eq]
  generalize (lg_sl ([rr G u0, .int u1]) ++ List.replicate (3 - (lg_sl ([rr G u0, .int u1])).length) Slot.unset).toArray = ls at hl ⊢
  refine s_aload_n hx hb dX11_size_0 rfl (lv_at hl 0 rfl) ?_
  obtain ⟨x1, hx1, hE⟩ := bd hE
  refine s_gR hx hb hT u_X11 hown hK hW hx1 rfl (by decide) fl_X11_16 rfl dX11_size_1 ?_
  refine lv_iload_n hx hb dX11_size_4 rfl (lv_at hl 1 rfl) ?_
  obtain ⟨c2, hE⟩ := ck hE
  obtain ⟨x3, hx3, hE⟩ := bd hE
  refine s_callV (As := [.int u1]) (rest := []) CF hK hW hS (S_X4_copyAt l G F hx3) c2 rfl gv_X11_105 hd_X4_copyAt ⟨Nat.le_of_ble_eq_true rfl, Nat.le_of_ble_eq_true rfl⟩ rfl hl.1 rfl (Nat.le_of_ble_eq_true rfl) dX11_size_5 ⟨Nat.le_refl _, Nat.le_refl _⟩ (fun H locs hW hS => ?_)
  refine s_astore_n (i := 2) (lv' := [(2, rr G x3), (0, rr G u0), (1, .int u1)]) hx hb dX11_size_8 rfl hl (by decide) rfl (fun ls hl => ?_)
  refine s_aload_n hx hb dX11_size_9 rfl (lv_at hl 0 rfl) ?_
  refine s_ifnonnull (tgt := 17) hx hb dX11_size_10 (by decide) (fun q4 => ?_) (fun q4 => ?_)
  · replace hE := ite_f q4 hE
    refine s_aload_n hx hb dX11_size_17 rfl (lv_at hl 0 rfl) ?_
    obtain ⟨x5, hx5, hE⟩ := bd hE
    refine s_gI hx hb hT u_X1 hown hK hW hx5 rfl (by decide) fl_X11_109 rfl dX11_size_18 ?_
    obtain rfl := so1 hE
    exact s_iret hx hb hr hlocks hW hS dX11_size_21
  · replace hE := ite_t q4 hE
    refine lv_iconst (v := (-1 : Int32)) hx hb dX11_size_13 (by decide) ?_
    refine lv_goto (tgt := 21) hx hb dX11_size_14 (by decide) ?_
    obtain rfl := so1 hE
    exact s_iret hx hb hr hlocks hW hS dX11_size_21
set_option maxHeartbeats 4000000 in
set_option maxRecDepth 100000 in
theorem S_X11_song (l : Launch) (G : GG) (F : Nat) {u0 : Option Nat} {u1 : Int32} {f : Hp} {r : Int32} {f' : Hp} {n n2 z z2 : Nat} (hE : m_X11_song F u0 u1 f n z = some (r, f', n2, z2)) : Ctr l G yX11_song cX11_song 3 (some .int) 5 118 [rr G u0, .int u1] f n (some (.int r)) f' n2 (n2 - n) (z2 - z) := by
  refine Met.ofW (cc := cX11_song) (maxL := 3) (ret := (some .int)) (by decide) rfl ?_
  intro p e s m args below meth c s₁ B hml hv
  obtain ⟨rfl, hK, hW⟩ := hv
  have hx := B.exec
  have hb := B.bytes
  have hr := B.returns
  have hts := atoms_spec (ws := wsO yX11_song cX11_song 3 (some .int)) B.pre
  have hT : ∀ w ∈ TB, w.before [rr G u0, .int u1].toArray s = true := fun w hw => hts w (List.mem_cons_of_mem _ hw)
  have hown : s.vm.findClass RX11 = some m.cls := findClass_of_methodNamed B.named
  have hlocks := B.notSynchronized
  have CF : CallFix p m c cX11_song 3 s [rr G u0, .int u1].toArray TB RX11 := ⟨hx, hb, hml, hown, hT⟩
  have hS : va_S (WA G) s.heap s.heap [] := va_S.rf
  have hl : lv_has (lg_sl ([rr G u0, .int u1]) ++ List.replicate (3 - (lg_sl ([rr G u0, .int u1])).length) Slot.unset).toArray 3 [(0, rr G u0), (1, .int u1)] := by cases u0 <;> exact lv_entry _ (Nat.le_of_ble_eq_true rfl)
  rw [lg_entry_eq]
  generalize (lg_sl ([rr G u0, .int u1]) ++ List.replicate (3 - (lg_sl ([rr G u0, .int u1])).length) Slot.unset).toArray = ls at hl ⊢
  refine W.cs (cells' := n - n) (slots' := z - z) (by omega) (by omega) ?_
  refine s_aload_n hx hb dX11_song_0 rfl (lv_at hl 0 rfl) ?_
  obtain ⟨c1, hE⟩ := ck hE
  obtain ⟨x5, f4, nq2, zq3, hf4, hE⟩ := bd4_of hE
  obtain ⟨c6, hE⟩ := ck hE
  replace c6 := of_decide_eq_true c6
  obtain ⟨g7a, g7b, hE⟩ := grow_of hE
  replace g7a : nq2 ≤ n2 := g7a
  replace g7b : zq3 ≤ z2 := g7b
  refine s_callV (As := []) (rest := []) CF hK hW hS (S_X11_orders l G F hf4) c1 rfl gv_X11_145 hd_X11_orders ⟨Nat.le_of_ble_eq_true rfl, Nat.le_of_ble_eq_true rfl⟩ rfl hl.1 rfl (Nat.le_of_ble_eq_true rfl) dX11_song_1 ⟨show n - n + (nq2 - (n)) ≤ n2 - n by omega, show z - z + (zq3 - (z)) ≤ z2 - z by omega⟩ (fun H locs hW hS => ?_)
  refine W.cs (cells' := nq2 - n) (slots' := zq3 - z) (by omega) (by omega) ?_
  refine s_astore_n (i := 2) (lv' := [(2, rr G x5), (0, rr G u0), (1, .int u1)]) hx hb dX11_song_4 rfl hl (by decide) rfl (fun ls hl => ?_)
  refine s_aload_n hx hb dX11_song_5 rfl (lv_at hl 0 rfl) ?_
  refine lv_iload_n hx hb dX11_song_6 rfl (lv_at hl 2 rfl) ?_
  obtain ⟨c8, hE⟩ := ck hE
  obtain ⟨g9a, g9b, hE⟩ := grow_of hE
  replace g9a : nq2 ≤ n2 := g9a
  replace g9b : zq3 ≤ z2 := g9b
  obtain ⟨x10, hx10, hE⟩ := bd hE
  refine s_callV (As := [.int u1]) (rest := []) CF hK hW hS (S_X6_has l G F hx10) c8 rfl gv_X11_149 hd_X6_has ⟨Nat.le_of_ble_eq_true rfl, Nat.le_of_ble_eq_true rfl⟩ rfl hl.1 rfl (Nat.le_of_ble_eq_true rfl) dX11_song_7 ⟨show nq2 - n + 0 ≤ n2 - n by omega, show zq3 - z + 0 ≤ z2 - z by omega⟩ (fun H locs hW hS => ?_)
  refine lv_if_eq (tgt := 33) hx hb dX11_song_10 (by decide) (fun q11 => ?_) (fun q11 => ?_)
  · replace hE := ite_t q11 hE
    refine lv_iconst (v := (-1 : Int32)) hx hb dX11_song_33 (by decide) ?_
    obtain ⟨rfl, rfl, rfl, rfl⟩ := so4 hE
    exact s_iret hx hb hr hlocks hW hS dX11_song_34
  · replace hE := ite_f q11 hE
    refine s_aload_n hx hb dX11_song_13 rfl (lv_at hl 1 rfl) ?_
    obtain ⟨x12, hx12, hE⟩ := bd hE
    refine s_gR hx hb hT u_X11 hown hK hW hx12 rfl (by decide) fl_X11_16 rfl dX11_song_14 ?_
    refine s_aload_n hx hb dX11_song_17 rfl (lv_at hl 0 rfl) ?_
    obtain ⟨x13, hx13, hE⟩ := bd hE
    refine s_gR hx hb hT u_X6 hown hK hW hx13 rfl (by decide) fl_X11_153 rfl dX11_song_18 ?_
    refine lv_iload_n hx hb dX11_song_21 rfl (lv_at hl 2 rfl) ?_
    obtain ⟨x14, hx14, hE⟩ := bd hE
    refine s_ldI hx hb hK hW hS hx14 dX11_song_22 ?_
    refine s_aload_n hx hb dX11_song_23 rfl (lv_at hl 0 rfl) ?_
    obtain ⟨x15, hx15, hE⟩ := bd hE
    refine s_gI hx hb hT u_X6 hown hK hW hx15 rfl (by decide) fl_X11_152 rfl dX11_song_24 ?_
    obtain ⟨c16, hE⟩ := ck hE
    obtain ⟨g17a, g17b, hE⟩ := grow_of hE
    replace g17a : nq2 ≤ n2 := g17a
    replace g17b : zq3 ≤ z2 := g17b
    obtain ⟨x18, hx18, hE⟩ := bd hE
    refine s_callV (As := [.int x14, .int x15]) (rest := []) CF hK hW hS (S_X4_songOf l G F hx18) c16 rfl gv_X11_306 hd_X4_songOf ⟨Nat.le_of_ble_eq_true rfl, Nat.le_of_ble_eq_true rfl⟩ rfl hl.1 rfl (Nat.le_of_ble_eq_true rfl) dX11_song_27 ⟨show nq2 - n + 0 ≤ n2 - n by omega, show zq3 - z + 0 ≤ z2 - z by omega⟩ (fun H locs hW hS => ?_)
    refine lv_goto (tgt := 34) hx hb dX11_song_30 (by decide) ?_
    obtain ⟨rfl, rfl, rfl, rfl⟩ := so4 hE
    exact s_iret hx hb hr hlocks hW hS dX11_song_34
set_option maxHeartbeats 4000000 in
set_option maxRecDepth 100000 in
theorem S_X3_open (l : Launch) (G : GG) (F : Nat) {u0 : Option Nat} {f : Hp} {f' : Hp} {n : Nat} (hE : m_X3_open F u0 f = some f') : Ctr l G yX3_open cX3_open 1 none 0 0 [rr G u0] f n none f' n 0 0 := by
  refine Met.ofW (cc := cX3_open) (maxL := 1) (ret := none) (by decide) rfl ?_
  intro p e s m args below meth c s₁ B hml hv
  obtain ⟨rfl, hK, hW⟩ := hv
  have hx := B.exec
  have hb := B.bytes
  have hr := B.returns
  have hts := atoms_spec (ws := wsO yX3_open cX3_open 1 none) B.pre
  have hT : ∀ w ∈ TB, w.before [rr G u0].toArray s = true := fun w hw => hts w (List.mem_cons_of_mem _ hw)
  have hown : s.vm.findClass RX3 = some m.cls := findClass_of_methodNamed B.named
  have hlocks := B.notSynchronized
  have CF : CallFix p m c cX3_open 1 s [rr G u0].toArray TB RX3 := ⟨hx, hb, hml, hown, hT⟩
  have hS : va_S (WA G) s.heap s.heap [] := va_S.rf
  have hl : lv_has (lg_sl ([rr G u0]) ++ List.replicate (1 - (lg_sl ([rr G u0])).length) Slot.unset).toArray 1 [(0, rr G u0)] := by cases u0 <;> exact lv_entry _ (Nat.le_of_ble_eq_true rfl)
  rw [lg_entry_eq]
  generalize (lg_sl ([rr G u0]) ++ List.replicate (1 - (lg_sl ([rr G u0])).length) Slot.unset).toArray = ls at hl ⊢
  refine s_aload_n hx hb dX3_open_0 rfl (lv_at hl 0 rfl) ?_
  refine lv_iconst (v := (0 : Int32)) hx hb dX3_open_1 (by decide) ?_
  obtain ⟨f1, hf1, hE⟩ := bd hE
  refine s_putI hx hb hT u_X3 tyX3 tyX3_ok nmX3 hown hK hW hS hf1 rfl (by decide) fl_X3_31 rfl (Or.inl rfl) rfl dX3_open_2 (fun H locs hW hS => ?_)
  obtain rfl := so1 hE
  exact s_vret hx hb hr hlocks hW hS dX3_open_5
set_option maxHeartbeats 4000000 in
set_option maxRecDepth 100000 in
theorem S_X3_admit (l : Launch) (G : GG) (F : Nat) {u0 : Option Nat} {u1 : Int32} {f : Hp} {f' : Hp} {n : Nat} (hE : m_X3_admit F u0 u1 f = some f') : Ctr l G yX3_admit cX3_admit 2 none 0 0 [rr G u0, .int u1] f n none f' n 0 0 := by
  refine Met.ofW (cc := cX3_admit) (maxL := 2) (ret := none) (by decide) rfl ?_
  intro p e s m args below meth c s₁ B hml hv
  obtain ⟨rfl, hK, hW⟩ := hv
  have hx := B.exec
  have hb := B.bytes
  have hr := B.returns
  have hts := atoms_spec (ws := wsO yX3_admit cX3_admit 2 none) B.pre
  have hT : ∀ w ∈ TB, w.before [rr G u0, .int u1].toArray s = true := fun w hw => hts w (List.mem_cons_of_mem _ hw)
  have hown : s.vm.findClass RX3 = some m.cls := findClass_of_methodNamed B.named
  have hlocks := B.notSynchronized
  have CF : CallFix p m c cX3_admit 2 s [rr G u0, .int u1].toArray TB RX3 := ⟨hx, hb, hml, hown, hT⟩
  have hS : va_S (WA G) s.heap s.heap [] := va_S.rf
  have hl : lv_has (lg_sl ([rr G u0, .int u1]) ++ List.replicate (2 - (lg_sl ([rr G u0, .int u1])).length) Slot.unset).toArray 2 [(0, rr G u0), (1, .int u1)] := by cases u0 <;> exact lv_entry _ (Nat.le_of_ble_eq_true rfl)
  rw [lg_entry_eq]
  generalize (lg_sl ([rr G u0, .int u1]) ++ List.replicate (2 - (lg_sl ([rr G u0, .int u1])).length) Slot.unset).toArray = ls at hl ⊢
  refine s_aload_n hx hb dX3_admit_0 rfl (lv_at hl 0 rfl) ?_
  obtain ⟨x1, hx1, hE⟩ := bd hE
  refine s_gI hx hb hT u_X3 hown hK hW hx1 rfl (by decide) fl_X3_31 rfl dX3_admit_1 ?_
  refine lv_bipush (v := (9 : Int32)) hx hb dX3_admit_4 (by decide) ?_
  refine lv_icmp_ge (tgt := 29) hx hb dX3_admit_6 (by decide) (fun q2 => ?_) (fun q2 => ?_)
  · replace hE := ite_t q2 hE
    obtain rfl := so1 hE
    exact s_vret hx hb hr hlocks hW hS dX3_admit_29
  · replace hE := ite_f q2 hE
    refine s_aload_n hx hb dX3_admit_9 rfl (lv_at hl 0 rfl) ?_
    obtain ⟨x3, hx3, hE⟩ := bd hE
    refine s_gR hx hb hT u_X3 hown hK hW hx3 rfl (by decide) fl_X3_11 rfl dX3_admit_10 ?_
    refine s_aload_n hx hb dX3_admit_13 rfl (lv_at hl 0 rfl) ?_
    obtain ⟨x4, hx4, hE⟩ := bd hE
    refine s_gI hx hb hT u_X3 hown hK hW hx4 rfl (by decide) fl_X3_31 rfl dX3_admit_14 ?_
    refine lv_iload_n hx hb dX3_admit_17 rfl (lv_at hl 1 rfl) ?_
    obtain ⟨f5, hf5, hE⟩ := bd hE
    refine s_stI hx hb hK hW hS hf5 dX3_admit_18 (fun H locs hW hS => ?_)
    refine s_aload_n hx hb dX3_admit_19 rfl (lv_at hl 0 rfl) ?_
    refine lv_dup hx hb dX3_admit_20 (cat_rr G _) ?_
    obtain ⟨x6, hx6, hE⟩ := bd hE
    refine s_gI hx hb hT u_X3 hown hK hW hx6 rfl (by decide) fl_X3_31 rfl dX3_admit_21 ?_
    refine lv_iconst (v := (1 : Int32)) hx hb dX3_admit_24 (by decide) ?_
    refine lv_iadd hx hb dX3_admit_25 ?_
    obtain ⟨f7, hf7, hE⟩ := bd hE
    refine s_putI hx hb hT u_X3 tyX3 tyX3_ok nmX3 hown hK hW hS hf7 rfl (by decide) fl_X3_31 rfl (Or.inl rfl) rfl dX3_admit_26 (fun H locs hW hS => ?_)
    obtain rfl := so1 hE
    exact s_vret hx hb hr hlocks hW hS dX3_admit_29
set_option maxHeartbeats 4000000 in
set_option maxRecDepth 100000 in
theorem S_X3_numberAt (l : Launch) (G : GG) (F : Nat) {u0 : Option Nat} {u1 : Int32} {f : Hp} {r : Int32} {n : Nat} (hE : m_X3_numberAt F u0 u1 f = some r) : Ctr l G yX3_numberAt cX3_numberAt 2 (some .int) 0 0 [rr G u0, .int u1] f n (some (.int r)) f n 0 0 := by
  refine Met.ofW (cc := cX3_numberAt) (maxL := 2) (ret := (some .int)) (by decide) rfl ?_
  intro p e s m args below meth c s₁ B hml hv
  obtain ⟨rfl, hK, hW⟩ := hv
  have hx := B.exec
  have hb := B.bytes
  have hr := B.returns
  have hts := atoms_spec (ws := wsO yX3_numberAt cX3_numberAt 2 (some .int)) B.pre
  have hT : ∀ w ∈ TB, w.before [rr G u0, .int u1].toArray s = true := fun w hw => hts w (List.mem_cons_of_mem _ hw)
  have hown : s.vm.findClass RX3 = some m.cls := findClass_of_methodNamed B.named
  have hlocks := B.notSynchronized
  have CF : CallFix p m c cX3_numberAt 2 s [rr G u0, .int u1].toArray TB RX3 := ⟨hx, hb, hml, hown, hT⟩
  have hS : va_S (WA G) s.heap s.heap [] := va_S.rf
  have hl : lv_has (lg_sl ([rr G u0, .int u1]) ++ List.replicate (2 - (lg_sl ([rr G u0, .int u1])).length) Slot.unset).toArray 2 [(0, rr G u0), (1, .int u1)] := by cases u0 <;> exact lv_entry _ (Nat.le_of_ble_eq_true rfl)
  rw [lg_entry_eq]
  generalize (lg_sl ([rr G u0, .int u1]) ++ List.replicate (2 - (lg_sl ([rr G u0, .int u1])).length) Slot.unset).toArray = ls at hl ⊢
  refine lv_iload_n hx hb dX3_numberAt_0 rfl (lv_at hl 1 rfl) ?_
  refine lv_if_lt (tgt := 19) hx hb dX3_numberAt_1 (by decide) (fun q1 => ?_) (fun q1 => ?_)
  · replace hE := ite_t q1 hE
    refine lv_iconst (v := (-1 : Int32)) hx hb dX3_numberAt_19 (by decide) ?_
    obtain rfl := so1 hE
    exact s_iret hx hb hr hlocks hW hS dX3_numberAt_20
  · replace hE := ite_f q1 hE
    refine lv_iload_n hx hb dX3_numberAt_4 rfl (lv_at hl 1 rfl) ?_
    refine lv_bipush (v := (10 : Int32)) hx hb dX3_numberAt_5 (by decide) ?_
    refine lv_icmp_ge (tgt := 19) hx hb dX3_numberAt_7 (by decide) (fun q2 => ?_) (fun q2 => ?_)
    · replace hE := ite_t q2 hE
      refine lv_iconst (v := (-1 : Int32)) hx hb dX3_numberAt_19 (by decide) ?_
      obtain rfl := so1 hE
      exact s_iret hx hb hr hlocks hW hS dX3_numberAt_20
    · replace hE := ite_f q2 hE
      refine s_aload_n hx hb dX3_numberAt_10 rfl (lv_at hl 0 rfl) ?_
      obtain ⟨x3, hx3, hE⟩ := bd hE
      refine s_gR hx hb hT u_X3 hown hK hW hx3 rfl (by decide) fl_X3_11 rfl dX3_numberAt_11 ?_
      refine lv_iload_n hx hb dX3_numberAt_14 rfl (lv_at hl 1 rfl) ?_
      obtain ⟨x4, hx4, hE⟩ := bd hE
      refine s_ldI hx hb hK hW hS hx4 dX3_numberAt_15 ?_
      refine lv_goto (tgt := 20) hx hb dX3_numberAt_16 (by decide) ?_
      obtain rfl := so1 hE
      exact s_iret hx hb hr hlocks hW hS dX3_numberAt_20
set_option maxHeartbeats 4000000 in
set_option maxRecDepth 100000 in
theorem S_X3_settle (l : Launch) (G : GG) (F : Nat) {u0 : Option Nat} {f : Hp} {r : Int32} {f' : Hp} {n : Nat} (hE : m_X3_settle F u0 f = some (r, f')) : Ctr l G yX3_settle cX3_settle 3 (some .int) 2 48 [rr G u0] f n (some (.int r)) f' n 0 0 := by
  refine Met.ofW (cc := cX3_settle) (maxL := 3) (ret := (some .int)) (by decide) rfl ?_
  intro p e s m args below meth c s₁ B hml hv
  obtain ⟨rfl, hK, hW⟩ := hv
  have hx := B.exec
  have hb := B.bytes
  have hr := B.returns
  have hts := atoms_spec (ws := wsO yX3_settle cX3_settle 3 (some .int)) B.pre
  have hT : ∀ w ∈ TB, w.before [rr G u0].toArray s = true := fun w hw => hts w (List.mem_cons_of_mem _ hw)
  have hown : s.vm.findClass RX3 = some m.cls := findClass_of_methodNamed B.named
  have hlocks := B.notSynchronized
  have CF : CallFix p m c cX3_settle 3 s [rr G u0].toArray TB RX3 := ⟨hx, hb, hml, hown, hT⟩
  have hS : va_S (WA G) s.heap s.heap [] := va_S.rf
  have hl : lv_has (lg_sl ([rr G u0]) ++ List.replicate (3 - (lg_sl ([rr G u0])).length) Slot.unset).toArray 3 [(0, rr G u0)] := by cases u0 <;> exact lv_entry _ (Nat.le_of_ble_eq_true rfl)
  rw [lg_entry_eq]
  generalize (lg_sl ([rr G u0]) ++ List.replicate (3 - (lg_sl ([rr G u0])).length) Slot.unset).toArray = ls at hl ⊢
  have hC11 : ∀ (k11 : Nat), ∀ (v0 : Option Nat) (v1 : Int32) (v2 : Int32) (fa : Hp) (H : Heap) (locs : List Loc) (ls : Array Slot), m_X3_settle_L11 F k11 v0 v1 v2 fa = some (r, f') → Wd G fa n H → va_S (WA G) s.heap H locs → lv_has ls 3 [(0, rr G v0), (1, .int v1), (2, .int v2)] → W p l e (headSpec (wsO yX3_settle cX3_settle 3 (some .int)) { frames := 2, cells := 0, slots := 0, locals := 48 }).room s m [rr G u0].toArray below meth c H locs 0 0 (MQ below (Qcn G (some (.int r)) f' n) [rr G u0].toArray s 0 0 (WA G)) (F0 m 11 ls []) := by
    intro k11
    induction k11 with
    | zero => intro v0 v1 v2 fa H locs ls hE _ _ _; cases (show (none : Option ((Int32) × Hp)) = some (r, f') from hE)
    | succ k11 ih11 =>
      intro v0 v1 v2 fa H locs ls hE hW hS hl
      replace hE : m_X3_settle_b11 F (m_X3_settle_L11 F k11) v0 v1 v2 fa = some (r, f') := hE
      refine lv_iload_n hx hb dX3_settle_11 rfl (lv_at hl 2 rfl) ?_
      refine s_aload_n hx hb dX3_settle_12 rfl (lv_at hl 0 rfl) ?_
      obtain ⟨x1, hx1, hE⟩ := bd hE
      refine s_gI hx hb hT u_X3 hown hK hW hx1 rfl (by decide) fl_X3_31 rfl dX3_settle_13 ?_
      refine lv_icmp_ge (tgt := 55) hx hb dX3_settle_16 (by decide) (fun q2 => ?_) (fun q2 => ?_)
      · replace hE := ite_t q2 hE
        refine lv_iload_n hx hb dX3_settle_55 rfl (lv_at hl 1 rfl) ?_
        obtain ⟨rfl, rfl⟩ := so2 hE
        exact s_iret hx hb hr hlocks hW hS dX3_settle_56
      · replace hE := ite_f q2 hE
        refine lv_iload_n hx hb dX3_settle_19 rfl (lv_at hl 2 rfl) ?_
        refine lv_bipush (v := (9 : Int32)) hx hb dX3_settle_20 (by decide) ?_
        refine lv_icmp_ge (tgt := 55) hx hb dX3_settle_22 (by decide) (fun q3 => ?_) (fun q3 => ?_)
        · replace hE := ite_t q3 hE
          refine lv_iload_n hx hb dX3_settle_55 rfl (lv_at hl 1 rfl) ?_
          obtain ⟨rfl, rfl⟩ := so2 hE
          exact s_iret hx hb hr hlocks hW hS dX3_settle_56
        · replace hE := ite_f q3 hE
          refine s_aload_n hx hb dX3_settle_25 rfl (lv_at hl 0 rfl) ?_
          obtain ⟨x4, hx4, hE⟩ := bd hE
          refine s_gR hx hb hT u_X3 hown hK hW hx4 rfl (by decide) fl_X3_15 rfl dX3_settle_26 ?_
          refine lv_iload_n hx hb dX3_settle_29 rfl (lv_at hl 2 rfl) ?_
          refine lv_iload_n hx hb dX3_settle_30 rfl (lv_at hl 2 rfl) ?_
          refine lv_if_ne (tgt := 38) hx hb dX3_settle_31 (by decide) (fun q5 => ?_) (fun q5 => ?_)
          · replace hE := ite_f q5 hE
            refine s_aload_n hx hb dX3_settle_38 rfl (lv_at hl 0 rfl) ?_
            refine s_aload_n hx hb dX3_settle_39 rfl (lv_at hl 0 rfl) ?_
            obtain ⟨x6, hx6, hE⟩ := bd hE
            refine s_gR hx hb hT u_X3 hown hK hW hx6 rfl (by decide) fl_X3_21 rfl dX3_settle_40 ?_
            refine lv_iload_n hx hb dX3_settle_43 rfl (lv_at hl 2 rfl) ?_
            obtain ⟨x7, hx7, hE⟩ := bd hE
            refine s_ldI hx hb hK hW hS hx7 dX3_settle_44 ?_
            obtain ⟨c8, hE⟩ := ck hE
            obtain ⟨x9, hx9, hE⟩ := bd hE
            refine s_callV (As := [.int x7]) (rest := [.int v2, rr G x4]) CF hK hW hS (S_X3_numberAt l G F hx9) c8 rfl gv_X3_55 hd_X3_numberAt ⟨Nat.le_of_ble_eq_true rfl, Nat.le_of_ble_eq_true rfl⟩ rfl hl.1 rfl (Nat.le_of_ble_eq_true rfl) dX3_settle_45 ⟨Nat.le_refl _, Nat.le_refl _⟩ (fun H locs hW hS => ?_)
            obtain ⟨f10, hf10, hE⟩ := bd hE
            refine s_stI hx hb hK hW hS hf10 dX3_settle_48 (fun H locs hW hS => ?_)
            obtain ⟨y11, ey11⟩ : ∃ y : Int32, y = v2 + (1 : Int32) := ⟨_, rfl⟩
            replace hE := nm_o ey11 hE
            refine lv_iinc (k := 2) (v := y11) (lv' := [(2, .int y11), (0, rr G v0), (1, .int v1)]) hx hb dX3_settle_49 hl rfl (by rw [ey11]; rfl) (by decide) rfl (fun ls hl => ?_)
            refine lv_goto (tgt := 11) hx hb dX3_settle_52 (by decide) ?_
            exact ih11 _ _ _ _ _ _ _ hE hW hS (lv_sub hl [1, 2, 0] rfl)
          · replace hE := ite_t q5 hE
            refine lv_iconst (v := (-1 : Int32)) hx hb dX3_settle_34 (by decide) ?_
            refine lv_goto (tgt := 48) hx hb dX3_settle_35 (by decide) ?_
            obtain ⟨f12, hf12, hE⟩ := bd hE
            refine s_stI hx hb hK hW hS hf12 dX3_settle_48 (fun H locs hW hS => ?_)
            obtain ⟨y13, ey13⟩ : ∃ y : Int32, y = v2 + (1 : Int32) := ⟨_, rfl⟩
            replace hE := nm_o ey13 hE
            refine lv_iinc (k := 2) (v := y13) (lv' := [(2, .int y13), (0, rr G v0), (1, .int v1)]) hx hb dX3_settle_49 hl rfl (by rw [ey13]; rfl) (by decide) rfl (fun ls hl => ?_)
            refine lv_goto (tgt := 11) hx hb dX3_settle_52 (by decide) ?_
            exact ih11 _ _ _ _ _ _ _ hE hW hS (lv_sub hl [1, 2, 0] rfl)
  refine s_aload_n hx hb dX3_settle_0 rfl (lv_at hl 0 rfl) ?_
  refine s_aload_n hx hb dX3_settle_1 rfl (lv_at hl 0 rfl) ?_
  obtain ⟨x14, hx14, hE⟩ := bd hE
  refine s_gI hx hb hT u_X3 hown hK hW hx14 rfl (by decide) fl_X3_31 rfl dX3_settle_2 ?_
  obtain ⟨c15, hE⟩ := ck hE
  obtain ⟨x16, f17, hx16, hE⟩ := bd2_of hE
  refine s_callV (As := [.int x14]) (rest := []) CF hK hW hS (S_X3_span l G F hx16) c15 rfl gv_X3_51 hd_X3_span ⟨Nat.le_of_ble_eq_true rfl, Nat.le_of_ble_eq_true rfl⟩ rfl hl.1 rfl (Nat.le_of_ble_eq_true rfl) dX3_settle_5 ⟨Nat.le_refl _, Nat.le_refl _⟩ (fun H locs hW hS => ?_)
  refine lv_istore_n (i := 1) (lv' := [(1, .int x16), (0, rr G u0)]) hx hb dX3_settle_8 rfl hl (by decide) (by simp [cat_rr]) (fun ls hl => ?_)
  refine lv_iconst (v := (0 : Int32)) hx hb dX3_settle_9 (by decide) ?_
  refine lv_istore_n (i := 2) (lv' := [(2, .int (0 : Int32)), (1, .int x16), (0, rr G u0)]) hx hb dX3_settle_10 rfl hl (by decide) rfl (fun ls hl => ?_)
  exact hC11 F _ _ _ _ _ _ _ hE hW hS (lv_sub hl [2, 1, 0] rfl)
set_option maxHeartbeats 4000000 in
set_option maxRecDepth 100000 in
theorem S_X11_tree (l : Launch) (G : GG) (F : Nat) {u0 : Option Nat} {f : Hp} {r : Int32} {f' : Hp} {n : Nat} (hE : m_X11_tree F u0 f = some (r, f')) : Ctr l G yX11_tree cX11_tree 3 (some .int) 4 87 [rr G u0] f n (some (.int r)) f' n 0 0 := by
  refine Met.ofW (cc := cX11_tree) (maxL := 3) (ret := (some .int)) (by decide) rfl ?_
  intro p e s m args below meth c s₁ B hml hv
  obtain ⟨rfl, hK, hW⟩ := hv
  have hx := B.exec
  have hb := B.bytes
  have hr := B.returns
  have hts := atoms_spec (ws := wsO yX11_tree cX11_tree 3 (some .int)) B.pre
  have hT : ∀ w ∈ TB, w.before [rr G u0].toArray s = true := fun w hw => hts w (List.mem_cons_of_mem _ hw)
  have hown : s.vm.findClass RX11 = some m.cls := findClass_of_methodNamed B.named
  have hlocks := B.notSynchronized
  have CF : CallFix p m c cX11_tree 3 s [rr G u0].toArray TB RX11 := ⟨hx, hb, hml, hown, hT⟩
  have hS : va_S (WA G) s.heap s.heap [] := va_S.rf
  have hl : lv_has (lg_sl ([rr G u0]) ++ List.replicate (3 - (lg_sl ([rr G u0])).length) Slot.unset).toArray 3 [(0, rr G u0)] := by cases u0 <;> exact lv_entry _ (Nat.le_of_ble_eq_true rfl)
  rw [lg_entry_eq]
  generalize (lg_sl ([rr G u0]) ++ List.replicate (3 - (lg_sl ([rr G u0])).length) Slot.unset).toArray = ls at hl ⊢
  have hC66 : ∀ (v0 : Option Nat) (fa : Hp) (H : Heap) (locs : List Loc) (ls : Array Slot), m_X11_tree_B66 F v0 fa = some (r, f') → Wd G fa n H → va_S (WA G) s.heap H locs → lv_has ls 3 [(0, rr G v0)] → W p l e (headSpec (wsO yX11_tree cX11_tree 3 (some .int)) { frames := 4, cells := 0, slots := 0, locals := 87 }).room s m [rr G u0].toArray below meth c H locs 0 0 (MQ below (Qcn G (some (.int r)) f' n) [rr G u0].toArray s 0 0 (WA G)) (F0 m 66 ls []) := by
    intro v0 fa H locs ls hE hW hS hl
    refine s_aload_n hx hb dX11_tree_66 rfl (lv_at hl 0 rfl) ?_
    obtain ⟨x8, hx8, hE⟩ := bd hE
    refine s_gR hx hb hT u_X11 hown hK hW hx8 rfl (by decide) fl_X11_68 rfl dX11_tree_67 ?_
    refine s_aload_n hx hb dX11_tree_70 rfl (lv_at hl 0 rfl) ?_
    obtain ⟨x9, hx9, hE⟩ := bd hE
    refine s_gR hx hb hT u_X11 hown hK hW hx9 rfl (by decide) fl_X11_16 rfl dX11_tree_71 ?_
    obtain ⟨c10, hE⟩ := ck hE
    obtain ⟨x11, f12, hx11, hE⟩ := bd2_of hE
    refine s_callV (As := [rr G x9]) (rest := []) CF hK hW hS (S_X3_measure l G F hx11) c10 rfl gv_X11_215 hd_X3_measure ⟨Nat.le_of_ble_eq_true rfl, Nat.le_of_ble_eq_true rfl⟩ rfl hl.1 rfl (Nat.le_of_ble_eq_true rfl) dX11_tree_74 ⟨Nat.le_refl _, Nat.le_refl _⟩ (fun H locs hW hS => ?_)
    refine lv_pop hx hb dX11_tree_77 rfl ?_
    refine s_aload_n hx hb dX11_tree_78 rfl (lv_at hl 0 rfl) ?_
    obtain ⟨x13, hx13, hE⟩ := bd hE
    refine s_gR hx hb hT u_X11 hown hK hW hx13 rfl (by decide) fl_X11_68 rfl dX11_tree_79 ?_
    obtain ⟨c14, hE⟩ := ck hE
    obtain ⟨x15, f16, hx15, hE⟩ := bd2_of hE
    refine s_callV (As := []) (rest := []) CF hK hW hS (S_X3_settle l G F hx15) c14 rfl gv_X11_219 hd_X3_settle ⟨Nat.le_of_ble_eq_true rfl, Nat.le_of_ble_eq_true rfl⟩ rfl hl.1 rfl (Nat.le_of_ble_eq_true rfl) dX11_tree_82 ⟨Nat.le_refl _, Nat.le_refl _⟩ (fun H locs hW hS => ?_)
    obtain ⟨rfl, rfl⟩ := so2 hE
    exact s_iret hx hb hr hlocks hW hS dX11_tree_85
  have hC43 : ∀ (k43 : Nat), ∀ (v0 : Option Nat) (v1 : Int32) (v2 : Int32) (fa : Hp) (H : Heap) (locs : List Loc) (ls : Array Slot), m_X11_tree_L43 F k43 v0 v1 v2 fa = some (r, f') → Wd G fa n H → va_S (WA G) s.heap H locs → lv_has ls 3 [(0, rr G v0), (1, .int v1), (2, .int v2)] → W p l e (headSpec (wsO yX11_tree cX11_tree 3 (some .int)) { frames := 4, cells := 0, slots := 0, locals := 87 }).room s m [rr G u0].toArray below meth c H locs 0 0 (MQ below (Qcn G (some (.int r)) f' n) [rr G u0].toArray s 0 0 (WA G)) (F0 m 43 ls []) := by
    intro k43
    induction k43 with
    | zero => intro v0 v1 v2 fa H locs ls hE _ _ _; cases (show (none : Option ((Int32) × Hp)) = some (r, f') from hE)
    | succ k43 ih43 =>
      intro v0 v1 v2 fa H locs ls hE hW hS hl
      replace hE : m_X11_tree_b43 F (m_X11_tree_L43 F k43) v0 v1 v2 fa = some (r, f') := hE
      refine lv_iload_n hx hb dX11_tree_43 rfl (lv_at hl 2 rfl) ?_
      refine lv_iload_n hx hb dX11_tree_44 rfl (lv_at hl 1 rfl) ?_
      refine lv_icmp_ge (tgt := 66) hx hb dX11_tree_45 (by decide) (fun q1 => ?_) (fun q1 => ?_)
      · replace hE := ite_t q1 hE
        exact hC66 _ _ _ _ _ hE hW hS (lv_sub hl [0] rfl)
      · replace hE := ite_f q1 hE
        refine s_aload_n hx hb dX11_tree_48 rfl (lv_at hl 0 rfl) ?_
        obtain ⟨x2, hx2, hE⟩ := bd hE
        refine s_gR hx hb hT u_X11 hown hK hW hx2 rfl (by decide) fl_X11_68 rfl dX11_tree_49 ?_
        refine s_aload_n hx hb dX11_tree_52 rfl (lv_at hl 0 rfl) ?_
        refine lv_iload_n hx hb dX11_tree_53 rfl (lv_at hl 2 rfl) ?_
        obtain ⟨c3, hE⟩ := ck hE
        obtain ⟨x4, hx4, hE⟩ := bd hE
        refine s_callV (As := [.int v2]) (rest := [rr G x2]) CF hK hW hS (S_X11_byteAt l G F hx4) c3 rfl gv_X11_128 hd_X11_byteAt ⟨Nat.le_of_ble_eq_true rfl, Nat.le_of_ble_eq_true rfl⟩ rfl hl.1 rfl (Nat.le_of_ble_eq_true rfl) dX11_tree_54 ⟨Nat.le_refl _, Nat.le_refl _⟩ (fun H locs hW hS => ?_)
        obtain ⟨c5, hE⟩ := ck hE
        obtain ⟨f6, hf6, hE⟩ := bd hE
        refine s_callV (As := [.int x4]) (rest := []) CF hK hW hS (S_X3_admit l G F hf6) c5 rfl gv_X11_212 hd_X3_admit ⟨Nat.le_of_ble_eq_true rfl, Nat.le_of_ble_eq_true rfl⟩ rfl hl.1 rfl (Nat.le_of_ble_eq_true rfl) dX11_tree_57 ⟨Nat.le_refl _, Nat.le_refl _⟩ (fun H locs hW hS => ?_)
        obtain ⟨y7, ey7⟩ : ∃ y : Int32, y = v2 + (1 : Int32) := ⟨_, rfl⟩
        replace hE := nm_o ey7 hE
        refine lv_iinc (k := 2) (v := y7) (lv' := [(2, .int y7), (0, rr G v0), (1, .int v1)]) hx hb dX11_tree_60 hl rfl (by rw [ey7]; rfl) (by decide) rfl (fun ls hl => ?_)
        refine lv_goto (tgt := 43) hx hb dX11_tree_63 (by decide) ?_
        exact ih43 _ _ _ _ _ _ _ hE hW hS (lv_sub hl [1, 2, 0] rfl)
  refine s_aload_n hx hb dX11_tree_0 rfl (lv_at hl 0 rfl) ?_
  obtain ⟨c17, hE⟩ := ck hE
  obtain ⟨x18, f19, hx18, hE⟩ := bd2_of hE
  refine s_callV (As := []) (rest := []) CF hK hW hS (S_X11_takeTape l G F hx18) c17 rfl gv_X11_84 hd_X11_takeTape ⟨Nat.le_of_ble_eq_true rfl, Nat.le_of_ble_eq_true rfl⟩ rfl hl.1 rfl (Nat.le_of_ble_eq_true rfl) dX11_tree_1 ⟨Nat.le_refl _, Nat.le_refl _⟩ (fun H locs hW hS => ?_)
  refine lv_istore_n (i := 1) (lv' := [(1, .int x18), (0, rr G u0)]) hx hb dX11_tree_4 rfl hl (by decide) (by simp [cat_rr]) (fun ls hl => ?_)
  refine lv_iload_n hx hb dX11_tree_5 rfl (lv_at hl 0 rfl) ?_
  refine lv_iconst (v := (1 : Int32)) hx hb dX11_tree_6 (by decide) ?_
  refine lv_icmp_lt (tgt := 32) hx hb dX11_tree_7 (by decide) (fun q20 => ?_) (fun q20 => ?_)
  · replace hE := ite_t q20 hE
    refine lv_iconst (v := (-1 : Int32)) hx hb dX11_tree_32 (by decide) ?_
    obtain ⟨rfl, rfl⟩ := so2 hE
    exact s_iret hx hb hr hlocks hW hS dX11_tree_33
  · replace hE := ite_f q20 hE
    refine lv_iload_n hx hb dX11_tree_10 rfl (lv_at hl 0 rfl) ?_
    refine lv_bipush (v := (9 : Int32)) hx hb dX11_tree_11 (by decide) ?_
    refine lv_icmp_gt (tgt := 32) hx hb dX11_tree_13 (by decide) (fun q21 => ?_) (fun q21 => ?_)
    · replace hE := ite_t q21 hE
      refine lv_iconst (v := (-1 : Int32)) hx hb dX11_tree_32 (by decide) ?_
      obtain ⟨rfl, rfl⟩ := so2 hE
      exact s_iret hx hb hr hlocks hW hS dX11_tree_33
    · replace hE := ite_f q21 hE
      refine s_aload_n hx hb dX11_tree_16 rfl (lv_at hl 1 rfl) ?_
      refine lv_iload_n hx hb dX11_tree_17 rfl (lv_at hl 0 rfl) ?_
      obtain ⟨c22, hE⟩ := ck hE
      obtain ⟨x23, hx23, hE⟩ := bd hE
      refine s_callV (As := [.int x18]) (rest := []) CF hK hW hS (S_X11_areCopies l G F hx23) c22 rfl gv_X11_192 hd_X11_areCopies ⟨Nat.le_of_ble_eq_true rfl, Nat.le_of_ble_eq_true rfl⟩ rfl hl.1 rfl (Nat.le_of_ble_eq_true rfl) dX11_tree_18 ⟨Nat.le_refl _, Nat.le_refl _⟩ (fun H locs hW hS => ?_)
      refine lv_if_eq (tgt := 32) hx hb dX11_tree_21 (by decide) (fun q24 => ?_) (fun q24 => ?_)
      · replace hE := ite_t q24 hE
        refine lv_iconst (v := (-1 : Int32)) hx hb dX11_tree_32 (by decide) ?_
        obtain ⟨rfl, rfl⟩ := so2 hE
        exact s_iret hx hb hr hlocks hW hS dX11_tree_33
      · replace hE := ite_f q24 hE
        refine s_aload_n hx hb dX11_tree_24 rfl (lv_at hl 1 rfl) ?_
        refine lv_iload_n hx hb dX11_tree_25 rfl (lv_at hl 0 rfl) ?_
        obtain ⟨c25, hE⟩ := ck hE
        obtain ⟨x26, hx26, hE⟩ := bd hE
        refine s_callV (As := [.int x18]) (rest := []) CF hK hW hS (S_X11_areUnlike l G F hx26) c25 rfl gv_X11_207 hd_X11_areUnlike ⟨Nat.le_of_ble_eq_true rfl, Nat.le_of_ble_eq_true rfl⟩ rfl hl.1 rfl (Nat.le_of_ble_eq_true rfl) dX11_tree_26 ⟨Nat.le_refl _, Nat.le_refl _⟩ (fun H locs hW hS => ?_)
        refine lv_if_ne (tgt := 34) hx hb dX11_tree_29 (by decide) (fun q27 => ?_) (fun q27 => ?_)
        · replace hE := ite_f q27 hE
          refine s_aload_n hx hb dX11_tree_34 rfl (lv_at hl 1 rfl) ?_
          obtain ⟨x28, hx28, hE⟩ := bd hE
          refine s_gR hx hb hT u_X11 hown hK hW hx28 rfl (by decide) fl_X11_68 rfl dX11_tree_35 ?_
          obtain ⟨c29, hE⟩ := ck hE
          obtain ⟨f30, hf30, hE⟩ := bd hE
          refine s_callV (As := []) (rest := []) CF hK hW hS (S_X3_open l G F hf30) c29 rfl gv_X11_210 hd_X3_open ⟨Nat.le_of_ble_eq_true rfl, Nat.le_of_ble_eq_true rfl⟩ rfl hl.1 rfl (Nat.le_of_ble_eq_true rfl) dX11_tree_38 ⟨Nat.le_refl _, Nat.le_refl _⟩ (fun H locs hW hS => ?_)
          refine lv_iconst (v := (0 : Int32)) hx hb dX11_tree_41 (by decide) ?_
          refine lv_istore_n (i := 2) (lv' := [(2, .int (0 : Int32)), (1, .int x18), (0, rr G u0)]) hx hb dX11_tree_42 rfl hl (by decide) rfl (fun ls hl => ?_)
          exact hC43 F _ _ _ _ _ _ _ hE hW hS (lv_sub hl [2, 1, 0] rfl)
        · replace hE := ite_t q27 hE
          refine lv_iconst (v := (-1 : Int32)) hx hb dX11_tree_32 (by decide) ?_
          obtain ⟨rfl, rfl⟩ := so2 hE
          exact s_iret hx hb hr hlocks hW hS dX11_tree_33
set_option maxHeartbeats 4000000 in
set_option maxRecDepth 100000 in
theorem S_X11_ways (l : Launch) (G : GG) (F : Nat) {u0 : Option Nat} {u1 : Int32} {u2 : Int32} {u3 : Int32} {f : Hp} {r : Int64} {f' : Hp} {n n2 z z2 : Nat} (hE : m_X11_ways F u0 u1 u2 u3 f n z = some (r, f', n2, z2)) : Ctr l G yX11_ways cX11_ways 5 (some .long) 5 118 [rr G u0, .int u1, .int u2, .int u3] f n (some (.long r)) f' n2 (n2 - n) (z2 - z) := by
  refine Met.ofW (cc := cX11_ways) (maxL := 5) (ret := (some .long)) (by decide) rfl ?_
  intro p e s m args below meth c s₁ B hml hv
  obtain ⟨rfl, hK, hW⟩ := hv
  have hx := B.exec
  have hb := B.bytes
  have hr := B.returns
  have hts := atoms_spec (ws := wsO yX11_ways cX11_ways 5 (some .long)) B.pre
  have hT : ∀ w ∈ TB, w.before [rr G u0, .int u1, .int u2, .int u3].toArray s = true := fun w hw => hts w (List.mem_cons_of_mem _ hw)
  have hown : s.vm.findClass RX11 = some m.cls := findClass_of_methodNamed B.named
  have hlocks := B.notSynchronized
  have CF : CallFix p m c cX11_ways 5 s [rr G u0, .int u1, .int u2, .int u3].toArray TB RX11 := ⟨hx, hb, hml, hown, hT⟩
  have hS : va_S (WA G) s.heap s.heap [] := va_S.rf
  have hl : lv_has (lg_sl ([rr G u0, .int u1, .int u2, .int u3]) ++ List.replicate (5 - (lg_sl ([rr G u0, .int u1, .int u2, .int u3])).length) Slot.unset).toArray 5 [(0, rr G u0), (1, .int u1), (2, .int u2), (3, .int u3)] := by cases u0 <;> exact lv_entry _ (Nat.le_of_ble_eq_true rfl)
  rw [lg_entry_eq]
  generalize (lg_sl ([rr G u0, .int u1, .int u2, .int u3]) ++ List.replicate (5 - (lg_sl ([rr G u0, .int u1, .int u2, .int u3])).length) Slot.unset).toArray = ls at hl ⊢
  refine W.cs (cells' := n - n) (slots' := z - z) (by omega) (by omega) ?_
  refine s_aload_n hx hb dX11_ways_0 rfl (lv_at hl 0 rfl) ?_
  obtain ⟨c1, hE⟩ := ck hE
  obtain ⟨x5, f4, nq2, zq3, hf4, hE⟩ := bd4_of hE
  obtain ⟨c6, hE⟩ := ck hE
  replace c6 := of_decide_eq_true c6
  obtain ⟨g7a, g7b, hE⟩ := grow_of hE
  replace g7a : nq2 ≤ n2 := g7a
  replace g7b : zq3 ≤ z2 := g7b
  refine s_callV (As := []) (rest := []) CF hK hW hS (S_X11_orders l G F hf4) c1 rfl gv_X11_145 hd_X11_orders ⟨Nat.le_of_ble_eq_true rfl, Nat.le_of_ble_eq_true rfl⟩ rfl hl.1 rfl (Nat.le_of_ble_eq_true rfl) dX11_ways_1 ⟨show n - n + (nq2 - (n)) ≤ n2 - n by omega, show z - z + (zq3 - (z)) ≤ z2 - z by omega⟩ (fun H locs hW hS => ?_)
  refine W.cs (cells' := nq2 - n) (slots' := zq3 - z) (by omega) (by omega) ?_
  refine s_astore (lv' := [(4, rr G x5), (0, rr G u0), (1, .int u1), (2, .int u2), (3, .int u3)]) hx hb dX11_ways_4 hl (by decide) rfl (fun ls hl => ?_)
  refine s_aload hx hb dX11_ways_6 (lv_at hl 0 rfl) ?_
  refine lv_iload_n hx hb dX11_ways_8 rfl (lv_at hl 2 rfl) ?_
  obtain ⟨c8, hE⟩ := ck hE
  obtain ⟨g9a, g9b, hE⟩ := grow_of hE
  replace g9a : nq2 ≤ n2 := g9a
  replace g9b : zq3 ≤ z2 := g9b
  obtain ⟨x10, hx10, hE⟩ := bd hE
  refine s_callV (As := [.int u1]) (rest := []) CF hK hW hS (S_X6_has l G F hx10) c8 rfl gv_X11_149 hd_X6_has ⟨Nat.le_of_ble_eq_true rfl, Nat.le_of_ble_eq_true rfl⟩ rfl hl.1 rfl (Nat.le_of_ble_eq_true rfl) dX11_ways_9 ⟨show nq2 - n + 0 ≤ n2 - n by omega, show zq3 - z + 0 ≤ z2 - z by omega⟩ (fun H locs hW hS => ?_)
  refine lv_if_eq (tgt := 33) hx hb dX11_ways_12 (by decide) (fun q11 => ?_) (fun q11 => ?_)
  · replace hE := ite_t q11 hE
    refine lv_ldc2 (v := (-1 : Int64)) hx hb hown (hT _ kc_X11_238) dX11_ways_33 ?_
    obtain ⟨rfl, rfl, rfl, rfl⟩ := so4 hE
    exact s_lret hx hb hr hlocks hW hS dX11_ways_36
  · replace hE := ite_f q11 hE
    refine s_aload hx hb dX11_ways_15 (lv_at hl 0 rfl) ?_
    refine lv_iload_n hx hb dX11_ways_17 rfl (lv_at hl 3 rfl) ?_
    obtain ⟨c12, hE⟩ := ck hE
    obtain ⟨g13a, g13b, hE⟩ := grow_of hE
    replace g13a : nq2 ≤ n2 := g13a
    replace g13b : zq3 ≤ z2 := g13b
    obtain ⟨x14, hx14, hE⟩ := bd hE
    refine s_callV (As := [.int u2]) (rest := []) CF hK hW hS (S_X6_has l G F hx14) c12 rfl gv_X11_149 hd_X6_has ⟨Nat.le_of_ble_eq_true rfl, Nat.le_of_ble_eq_true rfl⟩ rfl hl.1 rfl (Nat.le_of_ble_eq_true rfl) dX11_ways_18 ⟨show nq2 - n + 0 ≤ n2 - n by omega, show zq3 - z + 0 ≤ z2 - z by omega⟩ (fun H locs hW hS => ?_)
    refine lv_if_eq (tgt := 33) hx hb dX11_ways_21 (by decide) (fun q15 => ?_) (fun q15 => ?_)
    · replace hE := ite_t q15 hE
      refine lv_ldc2 (v := (-1 : Int64)) hx hb hown (hT _ kc_X11_238) dX11_ways_33 ?_
      obtain ⟨rfl, rfl, rfl, rfl⟩ := so4 hE
      exact s_lret hx hb hr hlocks hW hS dX11_ways_36
    · replace hE := ite_f q15 hE
      refine lv_iload_n hx hb dX11_ways_24 rfl (lv_at hl 4 rfl) ?_
      refine lv_bipush (v := (10 : Int32)) hx hb dX11_ways_25 (by decide) ?_
      obtain ⟨g16a, g16b, hE⟩ := grow_of hE
      replace g16a : nq2 ≤ n2 := g16a
      replace g16b : zq3 ≤ z2 := g16b
      obtain ⟨x17, hx17, hE⟩ := bd hE
      refine s_callS (As := [.int u3, .int (10 : Int32)]) (rest := []) CF hK hW hS (S_X11_isWithin l G F hx17) gs_X11_235 hd_X11_isWithin.2 ⟨Nat.le_of_ble_eq_true rfl, Nat.le_of_ble_eq_true rfl⟩ rfl hl.1 rfl (Nat.le_of_ble_eq_true rfl) dX11_ways_27 ⟨show nq2 - n + 0 ≤ n2 - n by omega, show zq3 - z + 0 ≤ z2 - z by omega⟩ (fun H locs hW hS => ?_)
      refine lv_if_ne (tgt := 37) hx hb dX11_ways_30 (by decide) (fun q18 => ?_) (fun q18 => ?_)
      · replace hE := ite_f q18 hE
        refine s_aload hx hb dX11_ways_37 (lv_at hl 0 rfl) ?_
        refine lv_iload_n hx hb dX11_ways_39 rfl (lv_at hl 2 rfl) ?_
        refine lv_iload_n hx hb dX11_ways_40 rfl (lv_at hl 4 rfl) ?_
        refine s_aload_n hx hb dX11_ways_41 rfl (lv_at hl 1 rfl) ?_
        obtain ⟨x19, hx19, hE⟩ := bd hE
        refine s_gR hx hb hT u_X11 hown hK hW hx19 rfl (by decide) fl_X11_16 rfl dX11_ways_42 ?_
        obtain ⟨x20, hx20, hE⟩ := bd hE
        refine s_gR hx hb hT u_X4 hown hK hW hx20 rfl (by decide) fl_X11_240 rfl dX11_ways_45 ?_
        obtain ⟨c21, hE⟩ := ck hE
        obtain ⟨g22a, g22b, hE⟩ := grow_of hE
        replace g22a : nq2 ≤ n2 := g22a
        replace g22b : zq3 ≤ z2 := g22b
        obtain ⟨f23, hf23, hE⟩ := bd hE
        refine s_callV (As := [.int u1, .int u3, rr G x20]) (rest := []) CF hK hW hS (S_X6_spread l G F hf23) c21 rfl gv_X11_243 hd_X6_spread ⟨Nat.le_of_ble_eq_true rfl, Nat.le_of_ble_eq_true rfl⟩ rfl hl.1 rfl (Nat.le_of_ble_eq_true rfl) dX11_ways_48 ⟨show nq2 - n + 0 ≤ n2 - n by omega, show zq3 - z + 0 ≤ z2 - z by omega⟩ (fun H locs hW hS => ?_)
        refine s_aload hx hb dX11_ways_51 (lv_at hl 0 rfl) ?_
        obtain ⟨x24, hx24, hE⟩ := bd hE
        refine s_gR hx hb hT u_X6 hown hK hW hx24 rfl (by decide) fl_X11_247 rfl dX11_ways_53 ?_
        refine lv_iload_n hx hb dX11_ways_56 rfl (lv_at hl 3 rfl) ?_
        obtain ⟨x25, hx25, hE⟩ := bd hE
        refine s_ldJ hx hb hK hW hS hx25 dX11_ways_57 ?_
        obtain ⟨rfl, rfl, rfl, rfl⟩ := so4 hE
        exact s_lret hx hb hr hlocks hW hS dX11_ways_58
      · replace hE := ite_t q18 hE
        refine lv_ldc2 (v := (-1 : Int64)) hx hb hown (hT _ kc_X11_238) dX11_ways_33 ?_
        obtain ⟨rfl, rfl, rfl, rfl⟩ := so4 hE
        exact s_lret hx hb hr hlocks hW hS dX11_ways_36
set_option maxHeartbeats 4000000 in
set_option maxRecDepth 100000 in
theorem S_X1_placeOf (l : Launch) (G : GG) (F : Nat) {u0 : Option Nat} {u1 : Int32} {f : Hp} {r : Int32} {n : Nat} (hE : m_X1_placeOf F u0 u1 f = some r) : Ctr l G yX1_placeOf cX1_placeOf 3 (some .int) 1 21 [rr G u0, .int u1] f n (some (.int r)) f n 0 0 := by
  refine Met.ofW (cc := cX1_placeOf) (maxL := 3) (ret := (some .int)) (by decide) rfl ?_
  intro p e s m args below meth c s₁ B hml hv
  obtain ⟨rfl, hK, hW⟩ := hv
  have hx := B.exec
  have hb := B.bytes
  have hr := B.returns
  have hts := atoms_spec (ws := wsO yX1_placeOf cX1_placeOf 3 (some .int)) B.pre
  have hT : ∀ w ∈ TB, w.before [rr G u0, .int u1].toArray s = true := fun w hw => hts w (List.mem_cons_of_mem _ hw)
  have hown : s.vm.findClass RX1 = some m.cls := findClass_of_methodNamed B.named
  have hlocks := B.notSynchronized
  have CF : CallFix p m c cX1_placeOf 3 s [rr G u0, .int u1].toArray TB RX1 := ⟨hx, hb, hml, hown, hT⟩
  have hS : va_S (WA G) s.heap s.heap [] := va_S.rf
  have hl : lv_has (lg_sl ([rr G u0, .int u1]) ++ List.replicate (3 - (lg_sl ([rr G u0, .int u1])).length) Slot.unset).toArray 3 [(0, rr G u0), (1, .int u1)] := by cases u0 <;> exact lv_entry _ (Nat.le_of_ble_eq_true rfl)
  rw [lg_entry_eq]
  generalize (lg_sl ([rr G u0, .int u1]) ++ List.replicate (3 - (lg_sl ([rr G u0, .int u1])).length) Slot.unset).toArray = ls at hl ⊢
  have hC2 : ∀ (k2 : Nat), ∀ (v0 : Option Nat) (v1 : Int32) (v2 : Int32) (H : Heap) (locs : List Loc) (ls : Array Slot), m_X1_placeOf_L2 F k2 v0 v1 v2 f = some r → Wd G f n H → va_S (WA G) s.heap H locs → lv_has ls 3 [(0, rr G v0), (1, .int v1), (2, .int v2)] → W p l e (headSpec (wsO yX1_placeOf cX1_placeOf 3 (some .int)) { frames := 1, cells := 0, slots := 0, locals := 21 }).room s m [rr G u0, .int u1].toArray below meth c H locs 0 0 (MQ below (Qcn G (some (.int r)) f n) [rr G u0, .int u1].toArray s 0 0 (WA G)) (F0 m 2 ls []) := by
    intro k2
    induction k2 with
    | zero => intro v0 v1 v2 H locs ls hE _ _ _; cases (show (none : Option Int32) = some r from hE)
    | succ k2 ih2 =>
      intro v0 v1 v2 H locs ls hE hW hS hl
      replace hE : m_X1_placeOf_b2 F (m_X1_placeOf_L2 F k2) v0 v1 v2 f = some r := hE
      refine lv_iload_n hx hb dX1_placeOf_2 rfl (lv_at hl 2 rfl) ?_
      refine s_aload_n hx hb dX1_placeOf_3 rfl (lv_at hl 0 rfl) ?_
      obtain ⟨x1, hx1, hE⟩ := bd hE
      refine s_gI hx hb hT u_X1 hown hK hW hx1 rfl (by decide) fl_X1_15 rfl dX1_placeOf_4 ?_
      refine lv_icmp_ge (tgt := 30) hx hb dX1_placeOf_7 (by decide) (fun q2 => ?_) (fun q2 => ?_)
      · replace hE := ite_t q2 hE
        refine lv_iconst (v := (-1 : Int32)) hx hb dX1_placeOf_30 (by decide) ?_
        obtain rfl := so1 hE
        exact s_iret hx hb hr hlocks hW hS dX1_placeOf_31
      · replace hE := ite_f q2 hE
        refine s_aload_n hx hb dX1_placeOf_10 rfl (lv_at hl 0 rfl) ?_
        obtain ⟨x3, hx3, hE⟩ := bd hE
        refine s_gI hx hb hT u_X1 hown hK hW hx3 rfl (by decide) fl_X1_19 rfl dX1_placeOf_11 ?_
        refine lv_iload_n hx hb dX1_placeOf_14 rfl (lv_at hl 2 rfl) ?_
        obtain ⟨x4, hx4, hE⟩ := bd hE
        refine s_callSN (As := [.int x3, .int v2]) (rest := []) CF hK hW hS (S_X11_lineOf l G F hx4) go_X11_lineOf nm_X1_31 ini_CopyOrders stt_X11_lineOf hd_X11_lineOf.2 ⟨Nat.le_of_ble_eq_true rfl, Nat.le_of_ble_eq_true rfl⟩ rfl hl.1 rfl (Nat.le_of_ble_eq_true rfl) dX1_placeOf_15 ⟨Nat.le_refl _, Nat.le_refl _⟩ (fun H locs hW hS => ?_)
        refine lv_iload_n hx hb dX1_placeOf_18 rfl (lv_at hl 1 rfl) ?_
        refine lv_icmp_ne (tgt := 24) hx hb dX1_placeOf_19 (by decide) (fun q5 => ?_) (fun q5 => ?_)
        · replace hE := ite_f q5 hE
          obtain ⟨y6, ey6⟩ : ∃ y : Int32, y = v2 + (1 : Int32) := ⟨_, rfl⟩
          replace hE := nm_o ey6 hE
          refine lv_iinc (k := 2) (v := y6) (lv' := [(2, .int y6), (0, rr G v0), (1, .int v1)]) hx hb dX1_placeOf_24 hl rfl (by rw [ey6]; rfl) (by decide) rfl (fun ls hl => ?_)
          refine lv_goto (tgt := 2) hx hb dX1_placeOf_27 (by decide) ?_
          exact ih2 _ _ _ _ _ _ hE hW hS (lv_sub hl [1, 2, 0] rfl)
        · replace hE := ite_t q5 hE
          refine lv_iload_n hx hb dX1_placeOf_22 rfl (lv_at hl 2 rfl) ?_
          obtain rfl := so1 hE
          exact s_iret hx hb hr hlocks hW hS dX1_placeOf_23
  refine lv_iconst (v := (0 : Int32)) hx hb dX1_placeOf_0 (by decide) ?_
  refine lv_istore_n (i := 2) (lv' := [(2, .int (0 : Int32)), (0, rr G u0), (1, .int u1)]) hx hb dX1_placeOf_1 rfl hl (by decide) rfl (fun ls hl => ?_)
  exact hC2 F _ _ _ _ _ _ hE hW hS (lv_sub hl [1, 2, 0] rfl)
set_option maxHeartbeats 4000000 in
set_option maxRecDepth 100000 in
theorem S_X1_pieceEnd (l : Launch) (G : GG) (F : Nat) {u0 : Option Nat} {u1 : Option Nat} {u2 : Int32} {f : Hp} {r : Int32} {n : Nat} (hE : m_X1_pieceEnd F u0 u1 u2 f = some r) : Ctr l G yX1_pieceEnd cX1_pieceEnd 6 (some .int) 2 43 [rr G u0, rr G u1, .int u2] f n (some (.int r)) f n 0 0 := by
  refine Met.ofW (cc := cX1_pieceEnd) (maxL := 6) (ret := (some .int)) (by decide) rfl ?_
  intro p e s m args below meth c s₁ B hml hv
  obtain ⟨rfl, hK, hW⟩ := hv
  have hx := B.exec
  have hb := B.bytes
  have hr := B.returns
  have hts := atoms_spec (ws := wsO yX1_pieceEnd cX1_pieceEnd 6 (some .int)) B.pre
  have hT : ∀ w ∈ TB, w.before [rr G u0, rr G u1, .int u2].toArray s = true := fun w hw => hts w (List.mem_cons_of_mem _ hw)
  have hown : s.vm.findClass RX1 = some m.cls := findClass_of_methodNamed B.named
  have hlocks := B.notSynchronized
  have CF : CallFix p m c cX1_pieceEnd 6 s [rr G u0, rr G u1, .int u2].toArray TB RX1 := ⟨hx, hb, hml, hown, hT⟩
  have hS : va_S (WA G) s.heap s.heap [] := va_S.rf
  have hl : lv_has (lg_sl ([rr G u0, rr G u1, .int u2]) ++ List.replicate (6 - (lg_sl ([rr G u0, rr G u1, .int u2])).length) Slot.unset).toArray 6 [(0, rr G u0), (1, rr G u1), (2, .int u2)] := by cases u0 <;> cases u1 <;> exact lv_entry _ (Nat.le_of_ble_eq_true rfl)
  rw [lg_entry_eq]
  generalize (lg_sl ([rr G u0, rr G u1, .int u2]) ++ List.replicate (6 - (lg_sl ([rr G u0, rr G u1, .int u2])).length) Slot.unset).toArray = ls at hl ⊢
  have hC5 : ∀ (k5 : Nat), ∀ (v0 : Option Nat) (v1 : Option Nat) (v3 : Int32) (v4 : Int32) (H : Heap) (locs : List Loc) (ls : Array Slot), m_X1_pieceEnd_L5 F k5 v0 v1 v3 v4 f = some r → Wd G f n H → va_S (WA G) s.heap H locs → lv_has ls 6 [(0, rr G v0), (1, rr G v1), (3, .int v3), (4, .int v4)] → W p l e (headSpec (wsO yX1_pieceEnd cX1_pieceEnd 6 (some .int)) { frames := 2, cells := 0, slots := 0, locals := 43 }).room s m [rr G u0, rr G u1, .int u2].toArray below meth c H locs 0 0 (MQ below (Qcn G (some (.int r)) f n) [rr G u0, rr G u1, .int u2].toArray s 0 0 (WA G)) (F0 m 5 ls []) := by
    intro k5
    induction k5 with
    | zero => intro v0 v1 v3 v4 H locs ls hE _ _ _; cases (show (none : Option Int32) = some r from hE)
    | succ k5 ih5 =>
      intro v0 v1 v3 v4 H locs ls hE hW hS hl
      replace hE : m_X1_pieceEnd_b5 F (m_X1_pieceEnd_L5 F k5) v0 v1 v3 v4 f = some r := hE
      refine lv_iload hx hb dX1_pieceEnd_5 (lv_at hl 3 rfl) ?_
      refine s_aload_n hx hb dX1_pieceEnd_7 rfl (lv_at hl 1 rfl) ?_
      obtain ⟨x1, hx1, hE⟩ := bd hE
      refine s_gI hx hb hT u_X1 hown hK hW hx1 rfl (by decide) fl_X1_15 rfl dX1_pieceEnd_8 ?_
      refine lv_icmp_ge (tgt := 47) hx hb dX1_pieceEnd_11 (by decide) (fun q2 => ?_) (fun q2 => ?_)
      · replace hE := ite_t q2 hE
        refine s_aload_n hx hb dX1_pieceEnd_47 rfl (lv_at hl 1 rfl) ?_
        obtain ⟨x3, hx3, hE⟩ := bd hE
        refine s_gI hx hb hT u_X1 hown hK hW hx3 rfl (by decide) fl_X1_15 rfl dX1_pieceEnd_48 ?_
        obtain rfl := so1 hE
        exact s_iret hx hb hr hlocks hW hS dX1_pieceEnd_51
      · replace hE := ite_f q2 hE
        refine s_aload_n hx hb dX1_pieceEnd_14 rfl (lv_at hl 0 rfl) ?_
        refine s_aload_n hx hb dX1_pieceEnd_15 rfl (lv_at hl 1 rfl) ?_
        obtain ⟨x4, hx4, hE⟩ := bd hE
        refine s_gI hx hb hT u_X1 hown hK hW hx4 rfl (by decide) fl_X1_19 rfl dX1_pieceEnd_16 ?_
        refine lv_iload hx hb dX1_pieceEnd_19 (lv_at hl 3 rfl) ?_
        obtain ⟨x5, hx5, hE⟩ := bd hE
        refine s_callSN (As := [.int x4, .int v4]) (rest := [rr G v0]) CF hK hW hS (S_X11_lineOf l G F hx5) go_X11_lineOf nm_X1_31 ini_CopyOrders stt_X11_lineOf hd_X11_lineOf.2 ⟨Nat.le_of_ble_eq_true rfl, Nat.le_of_ble_eq_true rfl⟩ rfl hl.1 rfl (Nat.le_of_ble_eq_true rfl) dX1_pieceEnd_21 ⟨Nat.le_refl _, Nat.le_refl _⟩ (fun H locs hW hS => ?_)
        obtain ⟨c6, hE⟩ := ck hE
        obtain ⟨x7, hx7, hE⟩ := bd hE
        refine s_callV (As := [.int x5]) (rest := []) CF hK hW hS (S_X1_placeOf l G F hx7) c6 rfl gv_X1_55 hd_X1_placeOf ⟨Nat.le_of_ble_eq_true rfl, Nat.le_of_ble_eq_true rfl⟩ rfl hl.1 rfl (Nat.le_of_ble_eq_true rfl) dX1_pieceEnd_24 ⟨Nat.le_refl _, Nat.le_refl _⟩ (fun H locs hW hS => ?_)
        refine lv_istore (lv' := [(5, .int x7), (0, rr G v0), (1, rr G v1), (3, .int v3), (4, .int v4)]) hx hb dX1_pieceEnd_27 hl (by decide) rfl (fun ls hl => ?_)
        refine lv_iload hx hb dX1_pieceEnd_29 (lv_at hl 0 rfl) ?_
        refine lv_iload_n hx hb dX1_pieceEnd_31 rfl (lv_at hl 3 rfl) ?_
        refine lv_icmp_gt (tgt := 38) hx hb dX1_pieceEnd_32 (by decide) (fun q8 => ?_) (fun q8 => ?_)
        · replace hE := ite_t q8 hE
          refine lv_iload hx hb dX1_pieceEnd_38 (lv_at hl 0 rfl) ?_
          refine lv_istore_n (i := 3) (lv' := [(3, .int x7), (5, .int x7), (0, rr G v0), (1, rr G v1), (4, .int v4)]) hx hb dX1_pieceEnd_40 rfl hl (by decide) rfl (fun ls hl => ?_)
          obtain ⟨y9, ey9⟩ : ∃ y : Int32, y = v4 + (1 : Int32) := ⟨_, rfl⟩
          replace hE := nm_o ey9 hE
          refine lv_iinc (k := 4) (v := y9) (lv' := [(4, .int y9), (3, .int x7), (5, .int x7), (0, rr G v0), (1, rr G v1)]) hx hb dX1_pieceEnd_41 hl rfl (by rw [ey9]; rfl) (by decide) rfl (fun ls hl => ?_)
          refine lv_goto (tgt := 5) hx hb dX1_pieceEnd_44 (by decide) ?_
          exact ih5 _ _ _ _ _ _ _ hE hW hS (lv_sub hl [3, 4, 1, 0] rfl)
        · replace hE := ite_f q8 hE
          refine lv_iload hx hb dX1_pieceEnd_35 (lv_at hl 4 rfl) ?_
          obtain rfl := so1 hE
          exact s_iret hx hb hr hlocks hW hS dX1_pieceEnd_37
  refine lv_iconst (v := (-1 : Int32)) hx hb dX1_pieceEnd_0 (by decide) ?_
  refine lv_istore_n (i := 3) (lv' := [(3, .int (-1 : Int32)), (0, rr G u0), (1, rr G u1), (2, .int u2)]) hx hb dX1_pieceEnd_1 rfl hl (by decide) rfl (fun ls hl => ?_)
  refine lv_iload_n hx hb dX1_pieceEnd_2 rfl (lv_at hl 3 rfl) ?_
  refine lv_istore (lv' := [(4, .int u2), (3, .int (-1 : Int32)), (0, rr G u0), (1, rr G u1), (2, .int u2)]) hx hb dX1_pieceEnd_3 hl (by decide) rfl (fun ls hl => ?_)
  exact hC5 F _ _ _ _ _ _ _ hE hW hS (lv_sub hl [2, 3, 1, 0] rfl)
