/-! the start: the reference -/
def cell0 : List Value := [.int 0, .null, .int 0, .int 0, .int 0, .int 0, .int 0, .int 0, .int 0, .int 0, .int 0, .int 0, .long 0, .int 0, .null, .null, .null, .null, .null, .null, .null, .int 0, .int 0, .int 0, .null, .null, .null, .null, .null, .null, .null, .null, .null, .int 0, .int 0, .null, .null, .null, .null, .int 0, .long 0, .null, .null, .int 0, .int 0, .int 0, .int 0]
def st00 : RS := (fun _ => 0, fun _ => 0, fun _ _ => 0, fun _ _ => 0)
def WW (g : Hp) (cell : List Value) (rows : List AC) : Hp := fun a => if a = 179 then some (.inl (10, cell)) else if a < 179 then g a else if h : a - 180 < rows.length then some rows[a - 180] else g a
theorem WW_0 {g : Hp} {cell : List Value} : va_up g 179 (some (.inl (10, cell))) = WW g cell [] := by
  funext a
  unfold WW
  by_cases h : a = 179
  · rw [if_pos h, h, up_s]
  · rw [if_neg h, up_n h]
    by_cases h2 : a < 179
    · rw [if_pos h2]
    · rw [if_neg h2, dif_neg (show ¬ a - 180 < ([] : List AC).length from Nat.not_lt_zero _)]
theorem WW_s {g : Hp} {cell : List Value} {rows : List AC} {r : AC} {a k : Nat} {v : Value} (ha : a = 180 + rows.length) (hk : k < cell.length) : pV (va_up (WW g cell rows) a (some r)) (some 179) 10 k v = some (WW g (cell.set k v) (rows ++ [r])) := by
  subst ha
  have e : va_up (WW g cell rows) (180 + rows.length) (some r) 179 = some (.inl (10, cell)) := (up_n (by omega)).trans (if_pos rfl)
  rw [pV_e e hk]
  congr 1
  funext x
  by_cases h : x = 179
  · rw [h, up_s]
    exact (if_pos rfl).symm
  · rw [up_n h]
    have l1 : (rows ++ [r]).length = rows.length + 1 := by rw [List.length_append]; rfl
    by_cases q : x = 180 + rows.length
    · rw [q, up_s]
      unfold WW
      rw [if_neg (by omega), if_neg (by omega), dif_pos (by omega)]
      congr 1
      simp
    · rw [up_n q]
      unfold WW
      rw [if_neg h, if_neg h]
      by_cases h2 : x < 179
      · rw [if_pos h2, if_pos h2]
      · rw [if_neg h2, if_neg h2]
        by_cases h3 : x - 180 < rows.length
        · rw [dif_pos h3, dif_pos (by omega), List.getElem_append_left h3]
        · rw [dif_neg h3, dif_neg (by omega)]
theorem WW_ov {g : Hp} {st : RS} {c : List Value} {rows : List AC} (hc : c = mcell st) (hr : rows = (rowl st).tail) : WW g c rows = ov g st := by
  funext a
  unfold WW ov
  have l23 : (rowl st).tail.length = 23 := rfl
  by_cases h : a = 179
  · subst h
    rw [if_pos rfl, if_neg (by decide), if_pos (by decide), hc]
    rfl
  · rw [if_neg h]
    by_cases h2 : a < 179
    · rw [if_pos h2, if_pos h2]
    · rw [if_neg h2, if_neg h2]
      by_cases h3 : a < 203
      · rw [if_pos h3, dif_pos (by rw [hr, l23]; omega)]
        obtain ⟨j, hj⟩ : ∃ j, a - 179 = j + 1 := ⟨a - 180, by omega⟩
        rw [hj]
        have e1 : (rowl st)[j + 1]? = (rowl st).tail[j]? := rfl
        have jl : j < (rowl st).tail.length := by rw [l23]; omega
        rw [e1, List.getElem?_eq_getElem jl]
        subst hr
        have ej : a - 180 = j := by omega
        simp only [ej]
      · rw [if_neg h3, dif_neg (by rw [hr, l23]; omega)]
def rows0 : List AC := []
def cell1 : List Value := cell0.set 1 (.ref 180)
def rows1 : List AC := rows0 ++ [.inr (1, 740, .inl fun _ => 0)]
def cell2 : List Value := cell1.set 14 (.ref 181)
def rows2 : List AC := rows1 ++ [.inr (1, 412, .inl fun _ => 0)]
def cell3 : List Value := cell2.set 15 (.ref 182)
def rows3 : List AC := rows2 ++ [.inr (1, 170, .inl fun _ => 0)]
def cell4 : List Value := cell3.set 16 (.ref 183)
def rows4 : List AC := rows3 ++ [.inr (1, 824, .inl fun _ => 0)]
def cell5 : List Value := cell4.set 17 (.ref 184)
def rows5 : List AC := rows4 ++ [.inr (2, 16, .inr (.inl fun _ => 0))]
def cell6 : List Value := cell5.set 18 (.ref 185)
def rows6 : List AC := rows5 ++ [.inr (2, 16, .inr (.inl fun _ => 0))]
def cell7 : List Value := cell6.set 19 (.ref 186)
def rows7 : List AC := rows6 ++ [.inr (2, 32, .inr (.inl fun _ => 0))]
def cell8 : List Value := cell7.set 20 (.ref 187)
def rows8 : List AC := rows7 ++ [.inr (3, 2, .inl fun _ => 0)]
def cell9 : List Value := cell8.set 24 (.ref 188)
def rows9 : List AC := rows8 ++ [.inr (1, 7, .inl fun _ => 0)]
def cell10 : List Value := cell9.set 25 (.ref 189)
def rows10 : List AC := rows9 ++ [.inr (1, 7, .inl fun _ => 0)]
def cell11 : List Value := cell10.set 26 (.ref 190)
def rows11 : List AC := rows10 ++ [.inr (1, 7, .inl fun _ => 0)]
def cell12 : List Value := cell11.set 27 (.ref 191)
def rows12 : List AC := rows11 ++ [.inr (1, 7, .inl fun _ => 0)]
def cell13 : List Value := cell12.set 28 (.ref 192)
def rows13 : List AC := rows12 ++ [.inr (1, 10, .inl fun _ => 0)]
def cell14 : List Value := cell13.set 29 (.ref 193)
def rows14 : List AC := rows13 ++ [.inr (1, 10, .inl fun _ => 0)]
def cell15 : List Value := cell14.set 30 (.ref 194)
def rows15 : List AC := rows14 ++ [.inr (1, 100, .inl fun _ => 0)]
def cell16 : List Value := cell15.set 31 (.ref 195)
def rows16 : List AC := rows15 ++ [.inr (1, 10, .inl fun _ => 0)]
def cell17 : List Value := cell16.set 32 (.ref 196)
def rows17 : List AC := rows16 ++ [.inr (1, 10, .inl fun _ => 0)]
def cell18 : List Value := cell17.set 35 (.ref 197)
def rows18 : List AC := rows17 ++ [.inr (2, 5040, .inr (.inl fun _ => 0))]
def cell19 : List Value := cell18.set 36 (.ref 198)
def rows19 : List AC := rows18 ++ [.inr (2, 5040, .inr (.inl fun _ => 0))]
def cell20 : List Value := cell19.set 37 (.ref 199)
def rows20 : List AC := rows19 ++ [.inr (2, 5040, .inr (.inl fun _ => 0))]
def cell21 : List Value := cell20.set 38 (.ref 200)
def rows21 : List AC := rows20 ++ [.inr (1, 30240, .inl fun _ => 0)]
def cell22 : List Value := cell21.set 41 (.ref 201)
def rows22 : List AC := rows21 ++ [.inr (1, 7, .inl fun _ => 0)]
def cell23 : List Value := cell22.set 42 (.ref 202)
def rows23 : List AC := rows22 ++ [.inr (1, 240, .inl fun _ => 0)]
theorem rstart_e {F : Nat} (g : Hp) (z : Nat) : m_X12_init F (some 179) (va_up g 179 (some (.inl (10, cell0)))) 180 z = some (ov g st00, 203, z + 740 + 412 + 170 + 824 + 16 + 16 + 32 + 2 + 7 + 7 + 7 + 7 + 10 + 10 + 100 + 10 + 10 + 5040 + 5040 + 5040 + 30240 + 7 + 240) := by
  rw [WW_0]
  unfold m_X12_init
  rw [ck_e (b := isS (some 179)) rfl, show Int32.toNatClampNeg (2 : Int32) = 2 from rfl, show Int32.toNatClampNeg (7 : Int32) = 7 from rfl, show Int32.toNatClampNeg (10 : Int32) = 10 from rfl, show Int32.toNatClampNeg (16 : Int32) = 16 from rfl, show Int32.toNatClampNeg (32 : Int32) = 32 from rfl, show Int32.toNatClampNeg (100 : Int32) = 100 from rfl, show Int32.toNatClampNeg (170 : Int32) = 170 from rfl, show Int32.toNatClampNeg (240 : Int32) = 240 from rfl, show Int32.toNatClampNeg (412 : Int32) = 412 from rfl, show Int32.toNatClampNeg (740 : Int32) = 740 from rfl, show Int32.toNatClampNeg (824 : Int32) = 824 from rfl, show Int32.toNatClampNeg (5040 : Int32) = 5040 from rfl, show Int32.toNatClampNeg (30240 : Int32) = 30240 from rfl]
  rw [ck_e (by decide)]
  refine grow_s ?_ (by show _ ≤ 203; omega) (by show _ ≤ z + 740 + 412 + 170 + 824 + 16 + 16 + 32 + 2 + 7 + 7 + 7 + 7 + 10 + 10 + 100 + 10 + 10 + 5040 + 5040 + 5040 + 30240 + 7 + 240; omega)
  rw [nm_e2]
  refine Eq.trans (bd_e (show pV (va_up (WW g cell0 rows0) 180 (some (.inr (1, 740, .inl fun _ => 0)))) (some 179) 10 1 (.ref 180) = _ from WW_s (by rfl) (by decide))) ?_
  rw [ck_e (by decide)]
  refine grow_s ?_ (by show _ ≤ 203; omega) (by show _ ≤ z + 740 + 412 + 170 + 824 + 16 + 16 + 32 + 2 + 7 + 7 + 7 + 7 + 10 + 10 + 100 + 10 + 10 + 5040 + 5040 + 5040 + 30240 + 7 + 240; omega)
  rw [nm_e2]
  refine Eq.trans (bd_e (show pV (va_up (WW g cell1 rows1) 181 (some (.inr (1, 412, .inl fun _ => 0)))) (some 179) 10 14 (.ref 181) = _ from WW_s (by rfl) (by decide))) ?_
  rw [ck_e (by decide)]
  refine grow_s ?_ (by show _ ≤ 203; omega) (by show _ ≤ z + 740 + 412 + 170 + 824 + 16 + 16 + 32 + 2 + 7 + 7 + 7 + 7 + 10 + 10 + 100 + 10 + 10 + 5040 + 5040 + 5040 + 30240 + 7 + 240; omega)
  rw [nm_e2]
  refine Eq.trans (bd_e (show pV (va_up (WW g cell2 rows2) 182 (some (.inr (1, 170, .inl fun _ => 0)))) (some 179) 10 15 (.ref 182) = _ from WW_s (by rfl) (by decide))) ?_
  rw [ck_e (by decide)]
  refine grow_s ?_ (by show _ ≤ 203; omega) (by show _ ≤ z + 740 + 412 + 170 + 824 + 16 + 16 + 32 + 2 + 7 + 7 + 7 + 7 + 10 + 10 + 100 + 10 + 10 + 5040 + 5040 + 5040 + 30240 + 7 + 240; omega)
  rw [nm_e2]
  refine Eq.trans (bd_e (show pV (va_up (WW g cell3 rows3) 183 (some (.inr (1, 824, .inl fun _ => 0)))) (some 179) 10 16 (.ref 183) = _ from WW_s (by rfl) (by decide))) ?_
  rw [ck_e (by decide)]
  refine grow_s ?_ (by show _ ≤ 203; omega) (by show _ ≤ z + 740 + 412 + 170 + 824 + 16 + 16 + 32 + 2 + 7 + 7 + 7 + 7 + 10 + 10 + 100 + 10 + 10 + 5040 + 5040 + 5040 + 30240 + 7 + 240; omega)
  rw [nm_e2]
  refine Eq.trans (bd_e (show pV (va_up (WW g cell4 rows4) 184 (some (.inr (2, 16, .inr (.inl fun _ => 0))))) (some 179) 10 17 (.ref 184) = _ from WW_s (by rfl) (by decide))) ?_
  rw [ck_e (by decide)]
  refine grow_s ?_ (by show _ ≤ 203; omega) (by show _ ≤ z + 740 + 412 + 170 + 824 + 16 + 16 + 32 + 2 + 7 + 7 + 7 + 7 + 10 + 10 + 100 + 10 + 10 + 5040 + 5040 + 5040 + 30240 + 7 + 240; omega)
  rw [nm_e2]
  refine Eq.trans (bd_e (show pV (va_up (WW g cell5 rows5) 185 (some (.inr (2, 16, .inr (.inl fun _ => 0))))) (some 179) 10 18 (.ref 185) = _ from WW_s (by rfl) (by decide))) ?_
  rw [ck_e (by decide)]
  refine grow_s ?_ (by show _ ≤ 203; omega) (by show _ ≤ z + 740 + 412 + 170 + 824 + 16 + 16 + 32 + 2 + 7 + 7 + 7 + 7 + 10 + 10 + 100 + 10 + 10 + 5040 + 5040 + 5040 + 30240 + 7 + 240; omega)
  rw [nm_e2]
  refine Eq.trans (bd_e (show pV (va_up (WW g cell6 rows6) 186 (some (.inr (2, 32, .inr (.inl fun _ => 0))))) (some 179) 10 19 (.ref 186) = _ from WW_s (by rfl) (by decide))) ?_
  rw [ck_e (by decide)]
  refine grow_s ?_ (by show _ ≤ 203; omega) (by show _ ≤ z + 740 + 412 + 170 + 824 + 16 + 16 + 32 + 2 + 7 + 7 + 7 + 7 + 10 + 10 + 100 + 10 + 10 + 5040 + 5040 + 5040 + 30240 + 7 + 240; omega)
  rw [nm_e2]
  refine Eq.trans (bd_e (show pV (va_up (WW g cell7 rows7) 187 (some (.inr (3, 2, .inl fun _ => 0)))) (some 179) 10 20 (.ref 187) = _ from WW_s (by rfl) (by decide))) ?_
  rw [ck_e (by decide)]
  refine grow_s ?_ (by show _ ≤ 203; omega) (by show _ ≤ z + 740 + 412 + 170 + 824 + 16 + 16 + 32 + 2 + 7 + 7 + 7 + 7 + 10 + 10 + 100 + 10 + 10 + 5040 + 5040 + 5040 + 30240 + 7 + 240; omega)
  rw [nm_e2]
  refine Eq.trans (bd_e (show pV (va_up (WW g cell8 rows8) 188 (some (.inr (1, 7, .inl fun _ => 0)))) (some 179) 10 24 (.ref 188) = _ from WW_s (by rfl) (by decide))) ?_
  rw [ck_e (by decide)]
  refine grow_s ?_ (by show _ ≤ 203; omega) (by show _ ≤ z + 740 + 412 + 170 + 824 + 16 + 16 + 32 + 2 + 7 + 7 + 7 + 7 + 10 + 10 + 100 + 10 + 10 + 5040 + 5040 + 5040 + 30240 + 7 + 240; omega)
  rw [nm_e2]
  refine Eq.trans (bd_e (show pV (va_up (WW g cell9 rows9) 189 (some (.inr (1, 7, .inl fun _ => 0)))) (some 179) 10 25 (.ref 189) = _ from WW_s (by rfl) (by decide))) ?_
  rw [ck_e (by decide)]
  refine grow_s ?_ (by show _ ≤ 203; omega) (by show _ ≤ z + 740 + 412 + 170 + 824 + 16 + 16 + 32 + 2 + 7 + 7 + 7 + 7 + 10 + 10 + 100 + 10 + 10 + 5040 + 5040 + 5040 + 30240 + 7 + 240; omega)
  rw [nm_e2]
  refine Eq.trans (bd_e (show pV (va_up (WW g cell10 rows10) 190 (some (.inr (1, 7, .inl fun _ => 0)))) (some 179) 10 26 (.ref 190) = _ from WW_s (by rfl) (by decide))) ?_
  rw [ck_e (by decide)]
  refine grow_s ?_ (by show _ ≤ 203; omega) (by show _ ≤ z + 740 + 412 + 170 + 824 + 16 + 16 + 32 + 2 + 7 + 7 + 7 + 7 + 10 + 10 + 100 + 10 + 10 + 5040 + 5040 + 5040 + 30240 + 7 + 240; omega)
  rw [nm_e2]
  refine Eq.trans (bd_e (show pV (va_up (WW g cell11 rows11) 191 (some (.inr (1, 7, .inl fun _ => 0)))) (some 179) 10 27 (.ref 191) = _ from WW_s (by rfl) (by decide))) ?_
  rw [ck_e (by decide)]
  refine grow_s ?_ (by show _ ≤ 203; omega) (by show _ ≤ z + 740 + 412 + 170 + 824 + 16 + 16 + 32 + 2 + 7 + 7 + 7 + 7 + 10 + 10 + 100 + 10 + 10 + 5040 + 5040 + 5040 + 30240 + 7 + 240; omega)
  rw [nm_e2]
  refine Eq.trans (bd_e (show pV (va_up (WW g cell12 rows12) 192 (some (.inr (1, 10, .inl fun _ => 0)))) (some 179) 10 28 (.ref 192) = _ from WW_s (by rfl) (by decide))) ?_
  rw [ck_e (by decide)]
  refine grow_s ?_ (by show _ ≤ 203; omega) (by show _ ≤ z + 740 + 412 + 170 + 824 + 16 + 16 + 32 + 2 + 7 + 7 + 7 + 7 + 10 + 10 + 100 + 10 + 10 + 5040 + 5040 + 5040 + 30240 + 7 + 240; omega)
  rw [nm_e2]
  refine Eq.trans (bd_e (show pV (va_up (WW g cell13 rows13) 193 (some (.inr (1, 10, .inl fun _ => 0)))) (some 179) 10 29 (.ref 193) = _ from WW_s (by rfl) (by decide))) ?_
  rw [ck_e (by decide)]
  refine grow_s ?_ (by show _ ≤ 203; omega) (by show _ ≤ z + 740 + 412 + 170 + 824 + 16 + 16 + 32 + 2 + 7 + 7 + 7 + 7 + 10 + 10 + 100 + 10 + 10 + 5040 + 5040 + 5040 + 30240 + 7 + 240; omega)
  rw [nm_e2]
  refine Eq.trans (bd_e (show pV (va_up (WW g cell14 rows14) 194 (some (.inr (1, 100, .inl fun _ => 0)))) (some 179) 10 30 (.ref 194) = _ from WW_s (by rfl) (by decide))) ?_
  rw [ck_e (by decide)]
  refine grow_s ?_ (by show _ ≤ 203; omega) (by show _ ≤ z + 740 + 412 + 170 + 824 + 16 + 16 + 32 + 2 + 7 + 7 + 7 + 7 + 10 + 10 + 100 + 10 + 10 + 5040 + 5040 + 5040 + 30240 + 7 + 240; omega)
  rw [nm_e2]
  refine Eq.trans (bd_e (show pV (va_up (WW g cell15 rows15) 195 (some (.inr (1, 10, .inl fun _ => 0)))) (some 179) 10 31 (.ref 195) = _ from WW_s (by rfl) (by decide))) ?_
  rw [ck_e (by decide)]
  refine grow_s ?_ (by show _ ≤ 203; omega) (by show _ ≤ z + 740 + 412 + 170 + 824 + 16 + 16 + 32 + 2 + 7 + 7 + 7 + 7 + 10 + 10 + 100 + 10 + 10 + 5040 + 5040 + 5040 + 30240 + 7 + 240; omega)
  rw [nm_e2]
  refine Eq.trans (bd_e (show pV (va_up (WW g cell16 rows16) 196 (some (.inr (1, 10, .inl fun _ => 0)))) (some 179) 10 32 (.ref 196) = _ from WW_s (by rfl) (by decide))) ?_
  rw [ck_e (by decide)]
  refine grow_s ?_ (by show _ ≤ 203; omega) (by show _ ≤ z + 740 + 412 + 170 + 824 + 16 + 16 + 32 + 2 + 7 + 7 + 7 + 7 + 10 + 10 + 100 + 10 + 10 + 5040 + 5040 + 5040 + 30240 + 7 + 240; omega)
  rw [nm_e2]
  refine Eq.trans (bd_e (show pV (va_up (WW g cell17 rows17) 197 (some (.inr (2, 5040, .inr (.inl fun _ => 0))))) (some 179) 10 35 (.ref 197) = _ from WW_s (by rfl) (by decide))) ?_
  rw [ck_e (by decide)]
  refine grow_s ?_ (by show _ ≤ 203; omega) (by show _ ≤ z + 740 + 412 + 170 + 824 + 16 + 16 + 32 + 2 + 7 + 7 + 7 + 7 + 10 + 10 + 100 + 10 + 10 + 5040 + 5040 + 5040 + 30240 + 7 + 240; omega)
  rw [nm_e2]
  refine Eq.trans (bd_e (show pV (va_up (WW g cell18 rows18) 198 (some (.inr (2, 5040, .inr (.inl fun _ => 0))))) (some 179) 10 36 (.ref 198) = _ from WW_s (by rfl) (by decide))) ?_
  rw [ck_e (by decide)]
  refine grow_s ?_ (by show _ ≤ 203; omega) (by show _ ≤ z + 740 + 412 + 170 + 824 + 16 + 16 + 32 + 2 + 7 + 7 + 7 + 7 + 10 + 10 + 100 + 10 + 10 + 5040 + 5040 + 5040 + 30240 + 7 + 240; omega)
  rw [nm_e2]
  refine Eq.trans (bd_e (show pV (va_up (WW g cell19 rows19) 199 (some (.inr (2, 5040, .inr (.inl fun _ => 0))))) (some 179) 10 37 (.ref 199) = _ from WW_s (by rfl) (by decide))) ?_
  rw [ck_e (by decide)]
  refine grow_s ?_ (by show _ ≤ 203; omega) (by show _ ≤ z + 740 + 412 + 170 + 824 + 16 + 16 + 32 + 2 + 7 + 7 + 7 + 7 + 10 + 10 + 100 + 10 + 10 + 5040 + 5040 + 5040 + 30240 + 7 + 240; omega)
  rw [nm_e2]
  refine Eq.trans (bd_e (show pV (va_up (WW g cell20 rows20) 200 (some (.inr (1, 30240, .inl fun _ => 0)))) (some 179) 10 38 (.ref 200) = _ from WW_s (by rfl) (by decide))) ?_
  rw [ck_e (by decide)]
  refine grow_s ?_ (by show _ ≤ 203; omega) (by show _ ≤ z + 740 + 412 + 170 + 824 + 16 + 16 + 32 + 2 + 7 + 7 + 7 + 7 + 10 + 10 + 100 + 10 + 10 + 5040 + 5040 + 5040 + 30240 + 7 + 240; omega)
  rw [nm_e2]
  refine Eq.trans (bd_e (show pV (va_up (WW g cell21 rows21) 201 (some (.inr (1, 7, .inl fun _ => 0)))) (some 179) 10 41 (.ref 201) = _ from WW_s (by rfl) (by decide))) ?_
  rw [ck_e (by decide)]
  refine grow_s ?_ (by show _ ≤ 203; omega) (by show _ ≤ z + 740 + 412 + 170 + 824 + 16 + 16 + 32 + 2 + 7 + 7 + 7 + 7 + 10 + 10 + 100 + 10 + 10 + 5040 + 5040 + 5040 + 30240 + 7 + 240; omega)
  rw [nm_e2]
  refine Eq.trans (bd_e (show pV (va_up (WW g cell22 rows22) 202 (some (.inr (1, 240, .inl fun _ => 0)))) (some 179) 10 42 (.ref 202) = _ from WW_s (by rfl) (by decide))) ?_
  exact congrArg some (Prod.ext (WW_ov (c := cell23) (rows := rows23) rfl rfl) rfl)
