/-! the launch: what the Statement gives of it -/
theorem ini_CopyOrders_1 : Cond.initialized "CopyOrders$1" ∈ TB := TB_t 15 (by decide +kernel) rfl
theorem ini_CopyOrders_Word : Cond.initialized "CopyOrders$Word" ∈ TB := TB_t 5 (by decide +kernel) rfl
theorem ini_java_lang_Throwable : Cond.initialized "java/lang/Throwable" ∈ TB := TB_t 16 (by decide +kernel) rfl
def NwL : List Cond := flatC (Jvm.Cond.and given_1 narrow_1)
theorem nw_all (ws : List Cond) (is : List Nat) (h : ws = is.filterMap (fun i => NwL[i]?)) : ∀ w ∈ ws, w ∈ NwL := fun w hw => by
  rw [h] at hw
  obtain ⟨i, -, hi⟩ := List.mem_filterMap.mp hw
  exact List.mem_of_getElem? hi
theorem nw_fam (N : Nat) (g : Nat → Cond) (is : List Nat) (h : (List.range N).map g = is.filterMap (fun i => NwL[i]?)) : ∀ i, i < N → g i ∈ NwL := fun i hi => nw_all _ is h _ (List.mem_map.mpr ⟨i, List.mem_range.mpr hi, rfl⟩)
theorem tb_all (ws : List Cond) (is : List Nat) (h : ws = is.filterMap (fun i => tables_1[i]?)) : ∀ w ∈ ws, w ∈ lw_tbl := fun w hw => by
  rw [h] at hw
  obtain ⟨i, -, hi⟩ := List.mem_filterMap.mp hw
  exact List.mem_append_right _ (List.mem_of_getElem? hi)
theorem tb_fam (N : Nat) (g : Nat → Cond) (is : List Nat) (h : (List.range N).map g = is.filterMap (fun i => tables_1[i]?)) : ∀ i, i < N → g i ∈ lw_tbl := fun i hi => tb_all _ is h _ (List.mem_map.mpr ⟨i, List.mem_range.mpr hi, rfl⟩)
def wT (i : Nat) : Term := .static RX10 (wordN i) "LCopyOrders$Word;"
theorem nw_ex : ∀ i, i < 21 → Cond.exactly (wT i) RX10 ∈ NwL := nw_fam 21 _ [4, 125, 136, 148, 8, 161, 175, 190, 206, 223, 113, 104, 83, 241, 260, 89, 96, 280, 301, 323, 346] (by decide +kernel)
theorem nw_od : ∀ i, i < 21 → Cond.eq (.field (wT i) "java/lang/Enum" "ordinal" "I") (.int (nI i)) ∈ NwL := nw_fam 21 (fun i => Cond.eq (.field (wT i) "java/lang/Enum" "ordinal" "I") (.int (nI i))) [5, 126, 137, 149, 9, 162, 176, 191, 207, 224, 114, 105, 84, 242, 261, 90, 97, 281, 302, 324, 347] (by decide +kernel)
theorem nw_cd : ∀ i, i < 21 → Cond.eq (.field (wT i) RX10 "code" "J") (.long (wordC i)) ∈ NwL := nw_fam 21 (fun i => Cond.eq (.field (wT i) RX10 "code" "J") (.long (wordC i))) [6, 127, 138, 150, 10, 163, 177, 192, 208, 225, 115, 106, 85, 243, 262, 91, 98, 282, 303, 325, 348] (by decide +kernel)
theorem nw_so : ∀ i, i < 21 → Cond.eq (.field (wT i) RX10 "startsOne" "Z") (.int (wordS i)) ∈ NwL := nw_fam 21 (fun i => Cond.eq (.field (wT i) RX10 "startsOne" "Z") (.int (wordS i))) [7, 128, 139, 151, 11, 164, 178, 193, 209, 226, 116, 107, 86, 244, 263, 92, 99, 283, 304, 326, 349] (by decide +kernel)
def neP : List (Nat × Nat) := [(0, 4), (0, 12), (4, 12), (0, 15), (4, 15), (12, 15), (0, 16), (4, 16), (12, 16), (15, 16), (0, 11), (4, 11), (12, 11), (15, 11), (16, 11), (0, 10), (4, 10), (12, 10), (15, 10), (16, 10), (11, 10), (0, 1), (4, 1), (12, 1), (15, 1), (16, 1), (11, 1), (10, 1), (0, 2), (4, 2), (12, 2), (15, 2), (16, 2), (11, 2), (10, 2), (1, 2), (0, 3), (4, 3), (12, 3), (15, 3), (16, 3), (11, 3), (10, 3), (1, 3), (2, 3), (0, 5), (4, 5), (12, 5), (15, 5), (16, 5), (11, 5), (10, 5), (1, 5), (2, 5), (3, 5), (0, 6), (4, 6), (12, 6), (15, 6), (16, 6), (11, 6), (10, 6), (1, 6), (2, 6), (3, 6), (5, 6), (0, 7), (4, 7), (12, 7), (15, 7), (16, 7), (11, 7), (10, 7), (1, 7), (2, 7), (3, 7), (5, 7), (6, 7), (0, 8), (4, 8), (12, 8), (15, 8), (16, 8), (11, 8), (10, 8), (1, 8), (2, 8), (3, 8), (5, 8), (6, 8), (7, 8), (0, 9), (4, 9), (12, 9), (15, 9), (16, 9), (11, 9), (10, 9), (1, 9), (2, 9), (3, 9), (5, 9), (6, 9), (7, 9), (8, 9), (0, 13), (4, 13), (12, 13), (15, 13), (16, 13), (11, 13), (10, 13), (1, 13), (2, 13), (3, 13), (5, 13), (6, 13), (7, 13), (8, 13), (9, 13), (0, 14), (4, 14), (12, 14), (15, 14), (16, 14), (11, 14), (10, 14), (1, 14), (2, 14), (3, 14), (5, 14), (6, 14), (7, 14), (8, 14), (9, 14), (13, 14), (0, 17), (4, 17), (12, 17), (15, 17), (16, 17), (11, 17), (10, 17), (1, 17), (2, 17), (3, 17), (5, 17), (6, 17), (7, 17), (8, 17), (9, 17), (13, 17), (14, 17), (0, 18), (4, 18), (12, 18), (15, 18), (16, 18), (11, 18), (10, 18), (1, 18), (2, 18), (3, 18), (5, 18), (6, 18), (7, 18), (8, 18), (9, 18), (13, 18), (14, 18), (17, 18), (0, 19), (4, 19), (12, 19), (15, 19), (16, 19), (11, 19), (10, 19), (1, 19), (2, 19), (3, 19), (5, 19), (6, 19), (7, 19), (8, 19), (9, 19), (13, 19), (14, 19), (17, 19), (18, 19), (0, 20), (4, 20), (12, 20), (15, 20), (16, 20), (11, 20), (10, 20), (1, 20), (2, 20), (3, 20), (5, 20), (6, 20), (7, 20), (8, 20), (9, 20), (13, 20), (14, 20), (17, 20), (18, 20), (19, 20)]
theorem nw_ne0 : ∀ w ∈ neP.map (fun q => Cond.not (.eq (wT q.1) (wT q.2))), w ∈ NwL := nw_all _ [12, 87, 88, 93, 94, 95, 100, 101, 102, 103, 108, 109, 110, 111, 112, 117, 118, 119, 120, 121, 122, 129, 130, 131, 132, 133, 134, 135, 140, 141, 142, 143, 144, 145, 146, 147, 152, 153, 154, 155, 156, 157, 158, 159, 160, 165, 166, 167, 168, 169, 170, 171, 172, 173, 174, 179, 180, 181, 182, 183, 184, 185, 186, 187, 188, 189, 194, 195, 196, 197, 198, 199, 200, 201, 202, 203, 204, 205, 210, 211, 212, 213, 214, 215, 216, 217, 218, 219, 220, 221, 222, 227, 228, 229, 230, 231, 232, 233, 234, 235, 236, 237, 238, 239, 240, 245, 246, 247, 248, 249, 250, 251, 252, 253, 254, 255, 256, 257, 258, 259, 264, 265, 266, 267, 268, 269, 270, 271, 272, 273, 274, 275, 276, 277, 278, 279, 284, 285, 286, 287, 288, 289, 290, 291, 292, 293, 294, 295, 296, 297, 298, 299, 300, 305, 306, 307, 308, 309, 310, 311, 312, 313, 314, 315, 316, 317, 318, 319, 320, 321, 322, 327, 328, 329, 330, 331, 332, 333, 334, 335, 336, 337, 338, 339, 340, 341, 342, 343, 344, 345, 350, 351, 352, 353, 354, 355, 356, 357, 358, 359, 360, 361, 362, 363, 364, 365, 366, 367, 368, 369] (by decide +kernel)
theorem nw_ne1 : (List.range 21).all (fun i => (List.range 21).all (fun j => i == j || neP.contains (i, j) || neP.contains (j, i))) = true := by decide +kernel
theorem nw_ne {i j : Nat} (hi : i < 21) (hj : j < 21) (h : i ≠ j) : Cond.not (.eq (wT i) (wT j)) ∈ NwL ∨ Cond.not (.eq (wT j) (wT i)) ∈ NwL := by
  have h1 := List.all_eq_true.mp (List.all_eq_true.mp nw_ne1 i (List.mem_range.mpr hi)) j (List.mem_range.mpr hj)
  have mem : ∀ q : Nat × Nat, q ∈ neP → Cond.not (.eq (wT q.1) (wT q.2)) ∈ NwL := fun q hq => nw_ne0 _ (List.mem_map.mpr ⟨q, hq, rfl⟩)
  simp only [Bool.or_eq_true, beq_iff_eq, List.contains_iff_mem] at h1
  rcases h1 with (e | e) | e
  · exact absurd e h
  · exact Or.inl (mem (i, j) e)
  · exact Or.inr (mem (j, i) e)
theorem tb_ls : ∀ i, i < 21 → Cond.laysStatic RX10 (wordN i) "LCopyOrders$Word;" ∈ lw_tbl := tb_fam 21 (fun i => Cond.laysStatic RX10 (wordN i) "LCopyOrders$Word;") [50, 1753, 1754, 1755, 118, 1756, 1757, 1758, 1759, 1760, 1002, 1000, 964, 1761, 1762, 979, 985, 1763, 1764, 1765, 1766] (by decide +kernel)
theorem nw_a0 : ∀ w ∈ [Cond.arrayOf (.static RX11 "FACTORIALS" "[I") .int, Cond.eq (.length (.static RX11 "FACTORIALS" "[I")) (.int (nI 8))], w ∈ NwL := nw_all _ [64, 65] (by decide +kernel)
theorem nw_e0 : ∀ j, j < 8 → Cond.eq (.elem (.static RX11 "FACTORIALS" "[I") (.int (nI j))) (.int (facF j)) ∈ NwL := nw_fam 8 (fun j => Cond.eq (.elem (.static RX11 "FACTORIALS" "[I") (.int (nI j))) (.int (facF j))) [66, 67, 68, 69, 70, 71, 72, 73] (by decide +kernel)
theorem tb_l0 : ∀ w ∈ [Cond.laysStatic RX11 "FACTORIALS" "[I"], w ∈ lw_tbl := tb_all _ [598] (by decide +kernel)
theorem nw_a1 : ∀ w ∈ [Cond.arrayOf (.static RX11 "LIKE_WEIGHTS" "[I") .int, Cond.eq (.length (.static RX11 "LIKE_WEIGHTS" "[I")) (.int (nI 6))], w ∈ NwL := nw_all _ [75, 76] (by decide +kernel)
theorem nw_e1 : ∀ j, j < 6 → Cond.eq (.elem (.static RX11 "LIKE_WEIGHTS" "[I") (.int (nI j))) (.int 1) ∈ NwL := nw_fam 6 (fun j => Cond.eq (.elem (.static RX11 "LIKE_WEIGHTS" "[I") (.int (nI j))) (.int 1)) [77, 78, 79, 80, 81, 82] (by decide +kernel)
theorem tb_l1 : ∀ w ∈ [Cond.laysStatic RX11 "LIKE_WEIGHTS" "[I"], w ∈ lw_tbl := tb_all _ [876] (by decide +kernel)
theorem nw_a2 : ∀ w ∈ [Cond.arrayOf (.static RX11 "WORDS" "[LCopyOrders$Word;") (.object "CopyOrders$Word"), Cond.eq (.length (.static RX11 "WORDS" "[LCopyOrders$Word;")) (.int (nI 21))], w ∈ NwL := nw_all _ [15, 16] (by decide +kernel)
theorem nw_e2 : ∀ j, j < 21 → Cond.eq (.elem (.static RX11 "WORDS" "[LCopyOrders$Word;") (.int (nI j))) (wT j) ∈ NwL := nw_fam 21 (fun j => Cond.eq (.elem (.static RX11 "WORDS" "[LCopyOrders$Word;") (.int (nI j))) (wT j)) [18, 19, 20, 21, 22, 23, 24, 25, 26, 27, 28, 29, 30, 31, 32, 33, 34, 35, 36, 37, 38] (by decide +kernel)
theorem tb_l2 : ∀ w ∈ [Cond.laysStatic RX11 "WORDS" "[LCopyOrders$Word;"], w ∈ lw_tbl := tb_all _ [414] (by decide +kernel)
theorem nw_a3 : ∀ w ∈ [Cond.arrayOf (.static RX0 "$SwitchMap$CopyOrders$Word" "[I") .int, Cond.eq (.length (.static RX0 "$SwitchMap$CopyOrders$Word" "[I")) (.int (nI 21))], w ∈ NwL := nw_all _ [40, 41] (by decide +kernel)
theorem nw_e3 : ∀ j, j < 21 → Cond.eq (.elem (.static RX0 "$SwitchMap$CopyOrders$Word" "[I") (.int (nI j))) (.int (swMap j)) ∈ NwL := nw_fam 21 (fun j => Cond.eq (.elem (.static RX0 "$SwitchMap$CopyOrders$Word" "[I") (.int (nI j))) (.int (swMap j))) [42, 43, 44, 45, 46, 47, 48, 49, 50, 51, 52, 53, 54, 55, 56, 57, 58, 59, 60, 61, 62] (by decide +kernel)
theorem tb_l3 : ∀ w ∈ [Cond.laysStatic RX0 "$SwitchMap$CopyOrders$Word" "[I"], w ∈ lw_tbl := tb_all _ [436] (by decide +kernel)
theorem tb_x : ∀ w ∈ xbad, w ∈ lw_tbl := tb_all _ [1077, 1079, 1081, 1076] (by decide +kernel)
theorem tb_u : ∀ w ∈ [Cond.laysStatic Bundle.tN "UNASSIGNED_STACK" Bundle.steD, Cond.laysStatic Bundle.tN "SUPPRESSED_SENTINEL" Bundle.listD], w ∈ lw_tbl := tb_all _ [1101, 1103] (by decide +kernel)
theorem nw_u : ∀ w ∈ [Cond.isRef (.static Bundle.tN "UNASSIGNED_STACK" Bundle.steD), Cond.isRef (.static Bundle.tN "SUPPRESSED_SENTINEL" Bundle.listD)], w ∈ NwL := nw_all _ [123, 124] (by decide +kernel)
theorem tb_nm : ∀ w ∈ nestM.map (fun q => Cond.methodLinkNest q.1 q.2.1 q.2.2.1 q.2.2.2), w ∈ lw_tbl := tb_all _ [74, 113, 294, 498, 501, 594, 600, 610, 901, 915] (by decide +kernel)
theorem tb_nf : ∀ w ∈ nestF.map (fun q => Cond.fieldLinkNest q.1 q.2.1 q.2.2.1 q.2.2.2.1 q.2.2.2.2.1 q.2.2.2.2.2), w ∈ lw_tbl := tb_all _ [413] (by decide +kernel)
theorem tb_ao : ∀ w ∈ ["CopyOrders$Copy", "CopyOrders$Desk", "CopyOrders$House", "CopyOrders$Orders", "CopyOrders$Word"].map (fun C => Cond.arrayOver (.object C)), w ∈ lw_tbl := tb_all _ [38, 40, 192, 194, 48] (by decide +kernel)
theorem arr_I {args : Array Value} {s : State} {ty : FieldType} (h : (Cond.arrayClass ty).before args s = true) : ∃ cA : ClassId, ArrOfT s cA ty ∧ s.vm.findClass ("[" ++ ty.toString) = some cA := by
  obtain ⟨c, k, comp, h1, h2, h3⟩ := Cond.arrayClass_spec (show (Cond.arrayClass ty).holds args s none s [] = true from h)
  exact ⟨c, fun n z => ⟨fun k h => (by cases h), k, h2, comp, h3⟩, h1⟩
theorem arr_O {args : Array Value} {s : State} {C : String} (h : (Cond.arrayOver (.object C)).before args s = true) : ∃ cA : ClassId, ArrOfT s cA (.object C) ∧ va_RA s cA (.object C) := by
  obtain ⟨comp, c, k, h1, -, h3, h4, h5⟩ := Cond.arrayOver_spec (show (Cond.arrayOver (.object C)).holds args s none s [] = true from h)
  exact ⟨c, fun n z => ⟨fun k h => (by cases h), k, h3, comp, h4⟩, k, comp, h3, h4, h1, h5⟩
section LAUNCH
variable {args : Array Value} {s : State}
theorem cls_start (hT : ∀ w ∈ TB, w.before args s = true) : ∃ D : va_G, ∀ (c : Nat) (q : vw_C), vwCl[c]? = some q → u_Kn s q.1 q.2.1 q.2.2 (D.1 c) (D.2 c) := by
  obtain ⟨c0, i0, h0⟩ := u_known (C := RX1) (T := TX1) (N := 6) hT u_X1 (hT _ ist_X1)
  obtain ⟨c1, i1, h1⟩ := u_known (C := RX2) (T := TX2) (N := 3) hT u_X2 (hT _ ist_X2)
  obtain ⟨c2, i2, h2⟩ := u_known (C := RX3) (T := TX3) (N := 7) hT u_X3 (hT _ ist_X3)
  obtain ⟨c3, i3, h3⟩ := u_known (C := RX4) (T := TX4) (N := 12) hT u_X4 (hT _ ist_X4)
  obtain ⟨c4, i4, h4⟩ := u_known (C := RX5) (T := TX5) (N := 6) hT u_X5 (hT _ ist_X5)
  obtain ⟨c5, i5, h5⟩ := u_known (C := RX6) (T := TX6) (N := 9) hT u_X6 (hT _ ist_X6)
  obtain ⟨c6, i6, h6⟩ := u_known (C := RX7) (T := TX7) (N := 6) hT u_X7 (hT _ ist_X7)
  obtain ⟨c7, i7, h7⟩ := u_known (C := RX8) (T := TX8) (N := 4) hT u_X8 (hT _ ist_X8)
  obtain ⟨c8, i8, h8⟩ := u_known (C := RX9) (T := TX9) (N := 12) hT u_X9 (hT _ ist_X9)
  obtain ⟨c9, i9, h9⟩ := u_known (C := RX11) (T := TX11) (N := 14) hT u_X11 (hT _ ist_X11)
  obtain ⟨c10, i10, h10⟩ := u_known (C := RX12) (T := TX12) (N := 47) hT u_X12 (hT _ ist_X12)
  refine ⟨(fun k => match k with | 0 => c0 | 1 => c1 | 2 => c2 | 3 => c3 | 4 => c4 | 5 => c5 | 6 => c6 | 7 => c7 | 8 => c8 | 9 => c9 | _ => c10, fun k => match k with | 0 => i0 | 1 => i1 | 2 => i2 | 3 => i3 | 4 => i4 | 5 => i5 | 6 => i6 | 7 => i7 | 8 => i8 | 9 => i9 | _ => i10), fun c q hq => ?_⟩
  match c, hq with
  | 0, hq => cases hq; exact h0
  | 1, hq => cases hq; exact h1
  | 2, hq => cases hq; exact h2
  | 3, hq => cases hq; exact h3
  | 4, hq => cases hq; exact h4
  | 5, hq => cases hq; exact h5
  | 6, hq => cases hq; exact h6
  | 7, hq => cases hq; exact h7
  | 8, hq => cases hq; exact h8
  | 9, hq => cases hq; exact h9
  | 10, hq => cases hq; exact h10
  | k + 11, hq => simp [vwCl] at hq
theorem arr_start (hT : ∀ w ∈ TB, w.before args s = true) (hts : ∀ w ∈ lw_tbl, w.before args s = true) : ∃ ca : Nat → ClassId, ∀ (t : Nat), t < 9 → ArrOfT s (ca t) (knd t) ∧ va_RA s (ca t) (knd t) := by
  obtain ⟨c0, a0, b0⟩ := arr_I (hT _ ac_byte)
  obtain ⟨c1, a1, b1⟩ := arr_I (hT _ ac_int)
  obtain ⟨c2, a2, b2⟩ := arr_I (hT _ ac_long)
  obtain ⟨c3, a3, b3⟩ := arr_I (hT _ ac_boolean)
  have ho : ∀ C, C ∈ ["CopyOrders$Copy", "CopyOrders$Desk", "CopyOrders$House", "CopyOrders$Orders", "CopyOrders$Word"] → (Cond.arrayOver (.object C)).before args s = true := fun C hC => hts _ (tb_ao _ (List.mem_map.mpr ⟨C, hC, rfl⟩))
  obtain ⟨c4, a4, b4⟩ := arr_O (ho "CopyOrders$Copy" (by decide))
  obtain ⟨c5, a5, b5⟩ := arr_O (ho "CopyOrders$Desk" (by decide))
  obtain ⟨c6, a6, b6⟩ := arr_O (ho "CopyOrders$House" (by decide))
  obtain ⟨c7, a7, b7⟩ := arr_O (ho "CopyOrders$Orders" (by decide))
  obtain ⟨c8, a8, b8⟩ := arr_O (ho "CopyOrders$Word" (by decide))
  refine ⟨(fun k => match k with | 0 => c0 | 1 => c1 | 2 => c2 | 3 => c3 | 4 => c4 | 5 => c5 | 6 => c6 | 7 => c7 | _ => c8), fun t ht => ?_⟩
  match t, ht with
  | 0, _ => exact ⟨a0, b0⟩
  | 1, _ => exact ⟨a1, b1⟩
  | 2, _ => exact ⟨a2, b2⟩
  | 3, _ => exact ⟨a3, b3⟩
  | 4, _ => exact ⟨a4, b4⟩
  | 5, _ => exact ⟨a5, b5⟩
  | 6, _ => exact ⟨a6, b6⟩
  | 7, _ => exact ⟨a7, b7⟩
  | 8, _ => exact ⟨a8, b8⟩
theorem ad_start (hn : ∀ w ∈ NwL, w.before args s = true) : ∃ ad : Nat → Nat, ∀ i, i < 21 → (wT i).eval args s none [] s = some (.ref (ad i)) ∧ ad i < s.heap.size := by
  have h0 : ∀ i : Nat, ∃ t : Nat, i < 21 → (wT i).eval args s none [] s = some (.ref t) ∧ t < s.heap.size := by
    intro i
    by_cases hi : i < 21
    · obtain ⟨a, c, cell, k, q1, q2, q3, q4, q5, q6, -⟩ := Cond.exactly_spec (hn _ (nw_ex i hi))
      exact ⟨a, fun _ => ⟨q1, (Array.getElem?_eq_some_iff.mp q3).1⟩⟩
    · exact ⟨0, fun h => absurd h hi⟩
  exact Classical.axiomOfChoice h0
def wNm : List String := (List.range 21).map wordN
theorem wNm_e {i : Nat} (hi : i < 21) : wNm.getD i "" = wordN i := by
  unfold wNm
  rw [List.getD_eq_getElem?_getD, List.getElem?_map, List.getElem?_range hi]
  rfl
theorem ef_start {A : Nat → Prop} {ad : Nat → Nat} {o n d : String} {v : Nat → Value} {tm : Nat → Term} (had : ∀ i, i < 21 → (wT i).eval args s none [] s = some (.ref (ad i)) ∧ ad i < s.heap.size) (hf : ∀ i, i < 21 → (Cond.eq (.field (wT i) o n d) (tm i)).before args s = true) (ht : ∀ i, i < 21 → (tm i).eval args s none [] s = some (v i)) (hA : ∀ a : Nat, a < s.heap.size → ¬ A a) : va_Ef 21 o n d v ad A s s.heap := by
  have e : ∀ i, i < 21 → Term.static RX10 (wNm.getD i "") "LCopyOrders$Word;" = wT i := fun i hi => by rw [wNm_e hi]; rfl
  exact va_Efof (E := RX10) (nm := wNm) (d0 := "LCopyOrders$Word;") (tm := tm) (fun i hi => by rw [e i hi]; exact (had i hi).1) (fun i hi => by rw [e i hi]; exact hf i hi) ht hA
theorem law_start (hts : ∀ w ∈ lw_tbl, w.before args s = true) (hn : ∀ w ∈ NwL, w.before args s = true) : ∃ G : GG, G.1 = s.heap.size ∧ Kx G s ∧ Tx G s := by
  have hT : ∀ w ∈ TB, w.before args s = true := fun w hw => hts w (List.mem_filter.mp hw).1
  obtain ⟨D, hD⟩ := cls_start hT
  obtain ⟨ca, hca⟩ := arr_start hT hts
  obtain ⟨ad, had⟩ := ad_start hn
  have hA : ∀ a : Nat, a < s.heap.size → ¬ (fun q : Nat => s.heap.size ≤ q) a := fun a h1 h2 => Nat.not_le.mpr h1 h2
  have hiW : (Cond.initialized RX10).before args s = true := hT _ ini_CopyOrders_Word
  have hiC : (Cond.initialized RX11).before args s = true := hT _ ini_CopyOrders
  have hi1 : (Cond.initialized RX0).before args s = true := hT _ ini_CopyOrders_1
  obtain ⟨t0, e0, w0⟩ := va_Tof (tm := .static RX11 "FACTORIALS" "[I") (ty := .int) (N := 8) (f := fun j => .int (facF j)) (A := fun q : Nat => s.heap.size ≤ q) (by decide) (hn _ (nw_a0 _ List.mem_cons_self)) (va_eqt (hn _ (nw_a0 _ (List.mem_cons_of_mem _ List.mem_cons_self)))) (fun j hj => va_eqt (hn _ (nw_e0 j hj))) hA
  have z0 := va_Zref (hts _ (tb_l0 _ List.mem_cons_self)) hiC e0 hA
  obtain ⟨t1, e1, w1⟩ := va_Tof (tm := .static RX11 "LIKE_WEIGHTS" "[I") (ty := .int) (N := 6) (f := fun _ => .int 1) (A := fun q : Nat => s.heap.size ≤ q) (by decide) (hn _ (nw_a1 _ List.mem_cons_self)) (va_eqt (hn _ (nw_a1 _ (List.mem_cons_of_mem _ List.mem_cons_self)))) (fun j hj => va_eqt (hn _ (nw_e1 j hj))) hA
  have z1 := va_Zref (hts _ (tb_l1 _ List.mem_cons_self)) hiC e1 hA
  obtain ⟨t2, e2, w2⟩ := va_Tof (tm := .static RX11 "WORDS" "[LCopyOrders$Word;") (ty := (.object "CopyOrders$Word")) (N := 21) (f := fun j => .ref (ad j)) (A := fun q : Nat => s.heap.size ≤ q) (by decide) (hn _ (nw_a2 _ List.mem_cons_self)) (va_eqt (hn _ (nw_a2 _ (List.mem_cons_of_mem _ List.mem_cons_self)))) (fun j hj => va_eqv (hn _ (nw_e2 j hj)) (had j hj).1) hA
  have z2 := va_Zref (hts _ (tb_l2 _ List.mem_cons_self)) hiC e2 hA
  obtain ⟨t3, e3, w3⟩ := va_Tof (tm := .static RX0 "$SwitchMap$CopyOrders$Word" "[I") (ty := .int) (N := 21) (f := fun j => .int (swMap j)) (A := fun q : Nat => s.heap.size ≤ q) (by decide) (hn _ (nw_a3 _ List.mem_cons_self)) (va_eqt (hn _ (nw_a3 _ (List.mem_cons_of_mem _ List.mem_cons_self)))) (fun j hj => va_eqt (hn _ (nw_e3 j hj))) hA
  have z3 := va_Zref (hts _ (tb_l3 _ List.mem_cons_self)) hi1 e3 hA
  refine ⟨(s.heap.size, D, ca, fun i => if i < 21 then ad i else if i = 30 then t0 else if i = 31 then t1 else if i = 32 then t2 else if i = 33 then t3 else ad 0), rfl, ?_, ?_⟩
  · refine ⟨⟨hD, fun k q hk => ?_⟩, Nat.le_refl _, ?_, ?_, ?_, ?_⟩
    · match k, hk with
      | 0, hk => cases hk; exact hca 0 (by decide)
      | 1, hk => cases hk; exact hca 1 (by decide)
      | 2, hk => cases hk; exact hca 2 (by decide)
      | 3, hk => cases hk; exact hca 3 (by decide)
      | 4, hk => cases hk; exact hca 4 (by decide)
      | 5, hk => cases hk; exact hca 5 (by decide)
      | 6, hk => cases hk; exact hca 6 (by decide)
      | 7, hk => cases hk; exact hca 7 (by decide)
      | 8, hk => cases hk; exact hca 8 (by decide)
      | k + 9, hk => simp [tysG] at hk
    · have ef : ∀ {o n d : String} {v : Nat → Value}, va_Ef 21 o n d v ad (fun q : Nat => s.heap.size ≤ q) s s.heap → va_Ef 21 o n d v (fun i => if i < 21 then ad i else if i = 30 then t0 else if i = 31 then t1 else if i = 32 then t2 else if i = 33 then t3 else ad 0) (fun q : Nat => s.heap.size ≤ q) s s.heap := fun h i hi => by
        have h1 := h i hi
        show va_OF _ _ _ _ (if i < 21 then ad i else _) _ _ _
        rw [if_pos hi]
        exact h1
      refine ⟨fun i hi => ?_, fun i hi => ?_, ef (ef_start had (fun i hi => hn _ (nw_od i hi)) (fun i _ => rfl) hA), ef (ef_start had (fun i hi => hn _ (nw_cd i hi)) (fun i _ => rfl) hA), ef (ef_start had (fun i hi => hn _ (nw_so i hi)) (fun i _ => rfl) hA), z0, z1, z2, z3, w0, w1, ?_, w3⟩
      · show va_Z _ _ _ (.ref (if i < 21 then ad i else _)) _ _ _
        rw [if_pos hi]
        exact va_Zref (hts _ (tb_ls i hi)) hiW (had i hi).1 hA
      · show va_O _ (if i < 21 then ad i else _) _ _ _
        rw [if_pos hi]
        exact va_Oof (hn _ (nw_ex i hi)) (had i hi).1 hA
      · obtain ⟨cell, q1, q2, q3, q4, q5, q6, q7⟩ := w2
        refine ⟨cell, q1, q2, q3, q4, q5, fun j hj => ?_, q7⟩
        rw [q6 j hj]
        show _ = some (Value.ref (if j < 21 then ad j else _))
        rw [if_pos hj]
    · refine ⟨fun q hq => va_Nw.of rfl (hts _ (tb_nm _ (List.mem_map.mpr ⟨q, hq, rfl⟩))), fun q hq => va_Nw.of rfl (hts _ (tb_nf _ (List.mem_map.mpr ⟨q, hq, rfl⟩))), fun C hC => ?_⟩
      exact va_AO.of (hts _ (tb_ao _ (List.mem_map.mpr ⟨C, hC, rfl⟩)))
    · intro i j hi hj e
      have e1 : ad i = ad j := by
        have e2 : (if i < 21 then ad i else if i = 30 then t0 else if i = 31 then t1 else if i = 32 then t2 else if i = 33 then t3 else ad 0) = (if j < 21 then ad j else if j = 30 then t0 else if j = 31 then t1 else if j = 32 then t2 else if j = 33 then t3 else ad 0) := e
        rw [if_pos hi, if_pos hj] at e2
        exact e2
      by_cases hij : i = j
      · exact hij
      · rcases nw_ne hi hj hij with h | h
        · exact absurd e1 (va_neR (hn _ h) (had i hi).1 (had j hj).1)
        · exact absurd e1.symm (va_neR (hn _ h) (had j hj).1 (had i hi).1)
    · intro a ha
      show (if a < 21 then ad a else if a = 30 then t0 else if a = 31 then t1 else if a = 32 then t2 else if a = 33 then t3 else ad 0) < s.heap.size
      split
      · exact (had a (by assumption)).2
      split
      · exact Nat.not_le.mp w0.out
      split
      · exact Nat.not_le.mp w1.out
      split
      · exact Nat.not_le.mp w2.out
      split
      · exact Nat.not_le.mp w3.out
      · exact (had 0 (by decide)).2
  · refine ⟨va_Nw.of rfl (hts _ (tb_x _ (by simp [xbad]))), va_Nw.of rfl (hts _ (tb_x _ (by simp [xbad]))), va_Nw.of rfl (hts _ (tb_x _ (by simp [xbad]))), va_Nw.of rfl (hts _ (tb_x _ (by simp [xbad]))), ?_, ?_⟩
    · exact vx_Zqof (hts _ (tb_u _ List.mem_cons_self)) (hT _ ini_java_lang_Throwable) (hn _ (nw_u _ List.mem_cons_self)) hA
    · exact vx_Zqof (hts _ (tb_u _ (List.mem_cons_of_mem _ List.mem_cons_self))) (hT _ ini_java_lang_Throwable) (hn _ (nw_u _ (List.mem_cons_of_mem _ List.mem_cons_self))) hA
end LAUNCH
