/-! the reference's object and its rows as one value: fields that are ints, longs; rows of ints, of longs -/
abbrev RS : Type := (Nat → Int32) × (Nat → Int64) × (Nat → Nat → Int32) × (Nat → Nat → Int64)
def sI (st : RS) (k : Nat) : Int32 := st.1 k
def sJ (st : RS) (k : Nat) : Int64 := st.2.1 k
def sA (st : RS) (k : Nat) : Nat → Int32 := st.2.2.1 k
def sL (st : RS) (k : Nat) : Nat → Int64 := st.2.2.2 k
def uI (st : RS) (k : Nat) (x : Int32) : RS := (va_up st.1 k x, st.2)
def uJ (st : RS) (k : Nat) (x : Int64) : RS := (st.1, va_up st.2.1 k x, st.2.2)
def uA (st : RS) (k j : Nat) (x : Int32) : RS := (st.1, st.2.1, va_up st.2.2.1 k (upd (st.2.2.1 k) j x), st.2.2.2)
def uL (st : RS) (k j : Nat) (x : Int64) : RS := (st.1, st.2.1, st.2.2.1, va_up st.2.2.2 k (vp_updL (st.2.2.2 k) j x))
def mcell (st : RS) : List Value := [.int (sI st 0), .ref 180, .int (sI st 2), .int (sI st 3), .int (sI st 4), .int (sI st 5), .int (sI st 6), .int (sI st 7), .int (sI st 8), .int (sI st 9), .int (sI st 10), .int (sI st 11), .long (sJ st 12), .int (sI st 13), .ref 181, .ref 182, .ref 183, .ref 184, .ref 185, .ref 186, .ref 187, .int (sI st 21), .int (sI st 22), .int (sI st 23), .ref 188, .ref 189, .ref 190, .ref 191, .ref 192, .ref 193, .ref 194, .ref 195, .ref 196, .int (sI st 33), .int (sI st 34), .ref 197, .ref 198, .ref 199, .ref 200, .int (sI st 39), .long (sJ st 40), .ref 201, .ref 202, .int (sI st 43), .int (sI st 44), .int (sI st 45), .int (sI st 46)]
def rowl (st : RS) : List AC := [.inl (10, mcell st), .inr (1, 740, .inl (sA st 1)), .inr (1, 412, .inl (sA st 14)), .inr (1, 170, .inl (sA st 15)), .inr (1, 824, .inl (sA st 16)), .inr (2, 16, .inr (.inl (sL st 17))), .inr (2, 16, .inr (.inl (sL st 18))), .inr (2, 32, .inr (.inl (sL st 19))), .inr (3, 2, .inl (sA st 20)), .inr (1, 7, .inl (sA st 24)), .inr (1, 7, .inl (sA st 25)), .inr (1, 7, .inl (sA st 26)), .inr (1, 7, .inl (sA st 27)), .inr (1, 10, .inl (sA st 28)), .inr (1, 10, .inl (sA st 29)), .inr (1, 100, .inl (sA st 30)), .inr (1, 10, .inl (sA st 31)), .inr (1, 10, .inl (sA st 32)), .inr (2, 5040, .inr (.inl (sL st 35))), .inr (2, 5040, .inr (.inl (sL st 36))), .inr (2, 5040, .inr (.inl (sL st 37))), .inr (1, 30240, .inl (sA st 38)), .inr (1, 7, .inl (sA st 41)), .inr (1, 240, .inl (sA st 42))]
def ov (g : Hp) (st : RS) (a : Nat) : Option AC := if a < 179 then g a else if a < 203 then (rowl st)[a - 179]? else g a
theorem ov_st {g : Hp} {st st' : RS} {r : Nat} {c : AC} (hr : r < 24) (h : rowl st' = (rowl st).set r c) : va_up (ov g st) (179 + r) (some c) = ov g st' := by
  funext a
  unfold ov
  by_cases ha : a = 179 + r
  · subst ha
    rw [up_s, if_neg (by omega), if_pos (by omega), h, show 179 + r - 179 = r by omega, List.getElem?_set_self (by exact hr)]
  · rw [up_n ha]
    by_cases h1 : a < 179
    · rw [if_pos h1, if_pos h1]
    · rw [if_neg h1, if_neg h1]
      by_cases h2 : a < 203
      · rw [if_pos h2, if_pos h2, h, List.getElem?_set_ne (by omega)]
      · rw [if_neg h2, if_neg h2]
section OVS
variable {g : Hp} {st : RS}
theorem ov_m : ov g st 179 = some (.inl (10, mcell st)) := rfl
theorem ov_1 : ov g st 180 = some (.inr (1, 740, .inl (sA st 1))) := rfl
theorem ov_14 : ov g st 181 = some (.inr (1, 412, .inl (sA st 14))) := rfl
theorem ov_15 : ov g st 182 = some (.inr (1, 170, .inl (sA st 15))) := rfl
theorem ov_16 : ov g st 183 = some (.inr (1, 824, .inl (sA st 16))) := rfl
theorem ov_17 : ov g st 184 = some (.inr (2, 16, .inr (.inl (sL st 17)))) := rfl
theorem ov_18 : ov g st 185 = some (.inr (2, 16, .inr (.inl (sL st 18)))) := rfl
theorem ov_19 : ov g st 186 = some (.inr (2, 32, .inr (.inl (sL st 19)))) := rfl
theorem ov_20 : ov g st 187 = some (.inr (3, 2, .inl (sA st 20))) := rfl
theorem ov_24 : ov g st 188 = some (.inr (1, 7, .inl (sA st 24))) := rfl
theorem ov_25 : ov g st 189 = some (.inr (1, 7, .inl (sA st 25))) := rfl
theorem ov_26 : ov g st 190 = some (.inr (1, 7, .inl (sA st 26))) := rfl
theorem ov_27 : ov g st 191 = some (.inr (1, 7, .inl (sA st 27))) := rfl
theorem ov_28 : ov g st 192 = some (.inr (1, 10, .inl (sA st 28))) := rfl
theorem ov_29 : ov g st 193 = some (.inr (1, 10, .inl (sA st 29))) := rfl
theorem ov_30 : ov g st 194 = some (.inr (1, 100, .inl (sA st 30))) := rfl
theorem ov_31 : ov g st 195 = some (.inr (1, 10, .inl (sA st 31))) := rfl
theorem ov_32 : ov g st 196 = some (.inr (1, 10, .inl (sA st 32))) := rfl
theorem ov_35 : ov g st 197 = some (.inr (2, 5040, .inr (.inl (sL st 35)))) := rfl
theorem ov_36 : ov g st 198 = some (.inr (2, 5040, .inr (.inl (sL st 36)))) := rfl
theorem ov_37 : ov g st 199 = some (.inr (2, 5040, .inr (.inl (sL st 37)))) := rfl
theorem ov_38 : ov g st 200 = some (.inr (1, 30240, .inl (sA st 38))) := rfl
theorem ov_41 : ov g st 201 = some (.inr (1, 7, .inl (sA st 41))) := rfl
theorem ov_42 : ov g st 202 = some (.inr (1, 240, .inl (sA st 42))) := rfl
theorem ov_lo {a : Nat} (h : a < 179) : ov g st a = g a := if_pos h
theorem ov_hi {a : Nat} (h : 203 ≤ a) : ov g st a = g a := by unfold ov; rw [if_neg (by omega), if_neg (by omega)]
theorem r_isO : isO (ov g st) (some 179) 10 = true := isO_e ov_m
theorem rI_0 : gI (ov g st) (some 179) 10 0 = some (sI st 0) := rfl
theorem rI_2 : gI (ov g st) (some 179) 10 2 = some (sI st 2) := rfl
theorem rI_3 : gI (ov g st) (some 179) 10 3 = some (sI st 3) := rfl
theorem rI_4 : gI (ov g st) (some 179) 10 4 = some (sI st 4) := rfl
theorem rI_5 : gI (ov g st) (some 179) 10 5 = some (sI st 5) := rfl
theorem rI_6 : gI (ov g st) (some 179) 10 6 = some (sI st 6) := rfl
theorem rI_7 : gI (ov g st) (some 179) 10 7 = some (sI st 7) := rfl
theorem rI_8 : gI (ov g st) (some 179) 10 8 = some (sI st 8) := rfl
theorem rI_9 : gI (ov g st) (some 179) 10 9 = some (sI st 9) := rfl
theorem rI_10 : gI (ov g st) (some 179) 10 10 = some (sI st 10) := rfl
theorem rI_11 : gI (ov g st) (some 179) 10 11 = some (sI st 11) := rfl
theorem rI_13 : gI (ov g st) (some 179) 10 13 = some (sI st 13) := rfl
theorem rI_21 : gI (ov g st) (some 179) 10 21 = some (sI st 21) := rfl
theorem rI_22 : gI (ov g st) (some 179) 10 22 = some (sI st 22) := rfl
theorem rI_23 : gI (ov g st) (some 179) 10 23 = some (sI st 23) := rfl
theorem rI_33 : gI (ov g st) (some 179) 10 33 = some (sI st 33) := rfl
theorem rI_34 : gI (ov g st) (some 179) 10 34 = some (sI st 34) := rfl
theorem rI_39 : gI (ov g st) (some 179) 10 39 = some (sI st 39) := rfl
theorem rI_43 : gI (ov g st) (some 179) 10 43 = some (sI st 43) := rfl
theorem rI_44 : gI (ov g st) (some 179) 10 44 = some (sI st 44) := rfl
theorem rI_45 : gI (ov g st) (some 179) 10 45 = some (sI st 45) := rfl
theorem rI_46 : gI (ov g st) (some 179) 10 46 = some (sI st 46) := rfl
theorem rJ_12 : gJ (ov g st) (some 179) 10 12 = some (sJ st 12) := rfl
theorem rJ_40 : gJ (ov g st) (some 179) 10 40 = some (sJ st 40) := rfl
theorem rR_1 : gR (ov g st) (some 179) 10 1 = some (some 180) := rfl
theorem rR_14 : gR (ov g st) (some 179) 10 14 = some (some 181) := rfl
theorem rR_15 : gR (ov g st) (some 179) 10 15 = some (some 182) := rfl
theorem rR_16 : gR (ov g st) (some 179) 10 16 = some (some 183) := rfl
theorem rR_17 : gR (ov g st) (some 179) 10 17 = some (some 184) := rfl
theorem rR_18 : gR (ov g st) (some 179) 10 18 = some (some 185) := rfl
theorem rR_19 : gR (ov g st) (some 179) 10 19 = some (some 186) := rfl
theorem rR_20 : gR (ov g st) (some 179) 10 20 = some (some 187) := rfl
theorem rR_24 : gR (ov g st) (some 179) 10 24 = some (some 188) := rfl
theorem rR_25 : gR (ov g st) (some 179) 10 25 = some (some 189) := rfl
theorem rR_26 : gR (ov g st) (some 179) 10 26 = some (some 190) := rfl
theorem rR_27 : gR (ov g st) (some 179) 10 27 = some (some 191) := rfl
theorem rR_28 : gR (ov g st) (some 179) 10 28 = some (some 192) := rfl
theorem rR_29 : gR (ov g st) (some 179) 10 29 = some (some 193) := rfl
theorem rR_30 : gR (ov g st) (some 179) 10 30 = some (some 194) := rfl
theorem rR_31 : gR (ov g st) (some 179) 10 31 = some (some 195) := rfl
theorem rR_32 : gR (ov g st) (some 179) 10 32 = some (some 196) := rfl
theorem rR_35 : gR (ov g st) (some 179) 10 35 = some (some 197) := rfl
theorem rR_36 : gR (ov g st) (some 179) 10 36 = some (some 198) := rfl
theorem rR_37 : gR (ov g st) (some 179) 10 37 = some (some 199) := rfl
theorem rR_38 : gR (ov g st) (some 179) 10 38 = some (some 200) := rfl
theorem rR_41 : gR (ov g st) (some 179) 10 41 = some (some 201) := rfl
theorem rR_42 : gR (ov g st) (some 179) 10 42 = some (some 202) := rfl
theorem wI_0 {x : Int32} : pV (ov g st) (some 179) 10 0 (.int x) = some (ov g (uI st 0 x)) := by rw [pV_e ov_m (Nat.le_of_ble_eq_true rfl)]; exact congrArg some (ov_st (r := 0) (Nat.le_of_ble_eq_true rfl) rfl)
theorem wI_2 {x : Int32} : pV (ov g st) (some 179) 10 2 (.int x) = some (ov g (uI st 2 x)) := by rw [pV_e ov_m (Nat.le_of_ble_eq_true rfl)]; exact congrArg some (ov_st (r := 0) (Nat.le_of_ble_eq_true rfl) rfl)
theorem wI_3 {x : Int32} : pV (ov g st) (some 179) 10 3 (.int x) = some (ov g (uI st 3 x)) := by rw [pV_e ov_m (Nat.le_of_ble_eq_true rfl)]; exact congrArg some (ov_st (r := 0) (Nat.le_of_ble_eq_true rfl) rfl)
theorem wI_4 {x : Int32} : pV (ov g st) (some 179) 10 4 (.int x) = some (ov g (uI st 4 x)) := by rw [pV_e ov_m (Nat.le_of_ble_eq_true rfl)]; exact congrArg some (ov_st (r := 0) (Nat.le_of_ble_eq_true rfl) rfl)
theorem wI_5 {x : Int32} : pV (ov g st) (some 179) 10 5 (.int x) = some (ov g (uI st 5 x)) := by rw [pV_e ov_m (Nat.le_of_ble_eq_true rfl)]; exact congrArg some (ov_st (r := 0) (Nat.le_of_ble_eq_true rfl) rfl)
theorem wI_6 {x : Int32} : pV (ov g st) (some 179) 10 6 (.int x) = some (ov g (uI st 6 x)) := by rw [pV_e ov_m (Nat.le_of_ble_eq_true rfl)]; exact congrArg some (ov_st (r := 0) (Nat.le_of_ble_eq_true rfl) rfl)
theorem wI_7 {x : Int32} : pV (ov g st) (some 179) 10 7 (.int x) = some (ov g (uI st 7 x)) := by rw [pV_e ov_m (Nat.le_of_ble_eq_true rfl)]; exact congrArg some (ov_st (r := 0) (Nat.le_of_ble_eq_true rfl) rfl)
theorem wI_8 {x : Int32} : pV (ov g st) (some 179) 10 8 (.int x) = some (ov g (uI st 8 x)) := by rw [pV_e ov_m (Nat.le_of_ble_eq_true rfl)]; exact congrArg some (ov_st (r := 0) (Nat.le_of_ble_eq_true rfl) rfl)
theorem wI_9 {x : Int32} : pV (ov g st) (some 179) 10 9 (.int x) = some (ov g (uI st 9 x)) := by rw [pV_e ov_m (Nat.le_of_ble_eq_true rfl)]; exact congrArg some (ov_st (r := 0) (Nat.le_of_ble_eq_true rfl) rfl)
theorem wI_10 {x : Int32} : pV (ov g st) (some 179) 10 10 (.int x) = some (ov g (uI st 10 x)) := by rw [pV_e ov_m (Nat.le_of_ble_eq_true rfl)]; exact congrArg some (ov_st (r := 0) (Nat.le_of_ble_eq_true rfl) rfl)
theorem wI_11 {x : Int32} : pV (ov g st) (some 179) 10 11 (.int x) = some (ov g (uI st 11 x)) := by rw [pV_e ov_m (Nat.le_of_ble_eq_true rfl)]; exact congrArg some (ov_st (r := 0) (Nat.le_of_ble_eq_true rfl) rfl)
theorem wI_13 {x : Int32} : pV (ov g st) (some 179) 10 13 (.int x) = some (ov g (uI st 13 x)) := by rw [pV_e ov_m (Nat.le_of_ble_eq_true rfl)]; exact congrArg some (ov_st (r := 0) (Nat.le_of_ble_eq_true rfl) rfl)
theorem wI_21 {x : Int32} : pV (ov g st) (some 179) 10 21 (.int x) = some (ov g (uI st 21 x)) := by rw [pV_e ov_m (Nat.le_of_ble_eq_true rfl)]; exact congrArg some (ov_st (r := 0) (Nat.le_of_ble_eq_true rfl) rfl)
theorem wI_22 {x : Int32} : pV (ov g st) (some 179) 10 22 (.int x) = some (ov g (uI st 22 x)) := by rw [pV_e ov_m (Nat.le_of_ble_eq_true rfl)]; exact congrArg some (ov_st (r := 0) (Nat.le_of_ble_eq_true rfl) rfl)
theorem wI_23 {x : Int32} : pV (ov g st) (some 179) 10 23 (.int x) = some (ov g (uI st 23 x)) := by rw [pV_e ov_m (Nat.le_of_ble_eq_true rfl)]; exact congrArg some (ov_st (r := 0) (Nat.le_of_ble_eq_true rfl) rfl)
theorem wI_33 {x : Int32} : pV (ov g st) (some 179) 10 33 (.int x) = some (ov g (uI st 33 x)) := by rw [pV_e ov_m (Nat.le_of_ble_eq_true rfl)]; exact congrArg some (ov_st (r := 0) (Nat.le_of_ble_eq_true rfl) rfl)
theorem wI_34 {x : Int32} : pV (ov g st) (some 179) 10 34 (.int x) = some (ov g (uI st 34 x)) := by rw [pV_e ov_m (Nat.le_of_ble_eq_true rfl)]; exact congrArg some (ov_st (r := 0) (Nat.le_of_ble_eq_true rfl) rfl)
theorem wI_39 {x : Int32} : pV (ov g st) (some 179) 10 39 (.int x) = some (ov g (uI st 39 x)) := by rw [pV_e ov_m (Nat.le_of_ble_eq_true rfl)]; exact congrArg some (ov_st (r := 0) (Nat.le_of_ble_eq_true rfl) rfl)
theorem wI_43 {x : Int32} : pV (ov g st) (some 179) 10 43 (.int x) = some (ov g (uI st 43 x)) := by rw [pV_e ov_m (Nat.le_of_ble_eq_true rfl)]; exact congrArg some (ov_st (r := 0) (Nat.le_of_ble_eq_true rfl) rfl)
theorem wI_44 {x : Int32} : pV (ov g st) (some 179) 10 44 (.int x) = some (ov g (uI st 44 x)) := by rw [pV_e ov_m (Nat.le_of_ble_eq_true rfl)]; exact congrArg some (ov_st (r := 0) (Nat.le_of_ble_eq_true rfl) rfl)
theorem wI_45 {x : Int32} : pV (ov g st) (some 179) 10 45 (.int x) = some (ov g (uI st 45 x)) := by rw [pV_e ov_m (Nat.le_of_ble_eq_true rfl)]; exact congrArg some (ov_st (r := 0) (Nat.le_of_ble_eq_true rfl) rfl)
theorem wI_46 {x : Int32} : pV (ov g st) (some 179) 10 46 (.int x) = some (ov g (uI st 46 x)) := by rw [pV_e ov_m (Nat.le_of_ble_eq_true rfl)]; exact congrArg some (ov_st (r := 0) (Nat.le_of_ble_eq_true rfl) rfl)
theorem wJ_12 {x : Int64} : pV (ov g st) (some 179) 10 12 (.long x) = some (ov g (uJ st 12 x)) := by rw [pV_e ov_m (Nat.le_of_ble_eq_true rfl)]; exact congrArg some (ov_st (r := 0) (Nat.le_of_ble_eq_true rfl) rfl)
theorem wJ_40 {x : Int64} : pV (ov g st) (some 179) 10 40 (.long x) = some (ov g (uJ st 40 x)) := by rw [pV_e ov_m (Nat.le_of_ble_eq_true rfl)]; exact congrArg some (ov_st (r := 0) (Nat.le_of_ble_eq_true rfl) rfl)
theorem wZ_21 {x : Int32} (h : x = 0 ∨ x = 1) : pZ (ov g st) (some 179) 10 21 x = some (ov g (uI st 21 x)) := by unfold pZ; rw [if_pos h, wI_21]
theorem rE_1 {j : Nat} (h : j < 740) : ldI (ov g st) 1 (some 180) (nI j) = some (sA st 1 j) := ldI_e ov_1 h (by omega)
theorem rE_14 {j : Nat} (h : j < 412) : ldI (ov g st) 1 (some 181) (nI j) = some (sA st 14 j) := ldI_e ov_14 h (by omega)
theorem rE_15 {j : Nat} (h : j < 170) : ldI (ov g st) 1 (some 182) (nI j) = some (sA st 15 j) := ldI_e ov_15 h (by omega)
theorem rE_16 {j : Nat} (h : j < 824) : ldI (ov g st) 1 (some 183) (nI j) = some (sA st 16 j) := ldI_e ov_16 h (by omega)
theorem rE_17 {j : Nat} (h : j < 16) : ldJ (ov g st) (some 184) (nI j) = some (sL st 17 j) := ldJ_e ov_17 h (by omega)
theorem rE_18 {j : Nat} (h : j < 16) : ldJ (ov g st) (some 185) (nI j) = some (sL st 18 j) := ldJ_e ov_18 h (by omega)
theorem rE_19 {j : Nat} (h : j < 32) : ldJ (ov g st) (some 186) (nI j) = some (sL st 19 j) := ldJ_e ov_19 h (by omega)
theorem rE_20 {j : Nat} (h : j < 2) : ldI (ov g st) 3 (some 187) (nI j) = some (sA st 20 j) := ldI_e ov_20 h (by omega)
theorem rE_24 {j : Nat} (h : j < 7) : ldI (ov g st) 1 (some 188) (nI j) = some (sA st 24 j) := ldI_e ov_24 h (by omega)
theorem rE_25 {j : Nat} (h : j < 7) : ldI (ov g st) 1 (some 189) (nI j) = some (sA st 25 j) := ldI_e ov_25 h (by omega)
theorem rE_26 {j : Nat} (h : j < 7) : ldI (ov g st) 1 (some 190) (nI j) = some (sA st 26 j) := ldI_e ov_26 h (by omega)
theorem rE_27 {j : Nat} (h : j < 7) : ldI (ov g st) 1 (some 191) (nI j) = some (sA st 27 j) := ldI_e ov_27 h (by omega)
theorem rE_28 {j : Nat} (h : j < 10) : ldI (ov g st) 1 (some 192) (nI j) = some (sA st 28 j) := ldI_e ov_28 h (by omega)
theorem rE_29 {j : Nat} (h : j < 10) : ldI (ov g st) 1 (some 193) (nI j) = some (sA st 29 j) := ldI_e ov_29 h (by omega)
theorem rE_30 {j : Nat} (h : j < 100) : ldI (ov g st) 1 (some 194) (nI j) = some (sA st 30 j) := ldI_e ov_30 h (by omega)
theorem rE_31 {j : Nat} (h : j < 10) : ldI (ov g st) 1 (some 195) (nI j) = some (sA st 31 j) := ldI_e ov_31 h (by omega)
theorem rE_32 {j : Nat} (h : j < 10) : ldI (ov g st) 1 (some 196) (nI j) = some (sA st 32 j) := ldI_e ov_32 h (by omega)
theorem rE_35 {j : Nat} (h : j < 5040) : ldJ (ov g st) (some 197) (nI j) = some (sL st 35 j) := ldJ_e ov_35 h (by omega)
theorem rE_36 {j : Nat} (h : j < 5040) : ldJ (ov g st) (some 198) (nI j) = some (sL st 36 j) := ldJ_e ov_36 h (by omega)
theorem rE_37 {j : Nat} (h : j < 5040) : ldJ (ov g st) (some 199) (nI j) = some (sL st 37 j) := ldJ_e ov_37 h (by omega)
theorem rE_38 {j : Nat} (h : j < 30240) : ldI (ov g st) 1 (some 200) (nI j) = some (sA st 38 j) := ldI_e ov_38 h (by omega)
theorem rE_41 {j : Nat} (h : j < 7) : ldI (ov g st) 1 (some 201) (nI j) = some (sA st 41 j) := ldI_e ov_41 h (by omega)
theorem rE_42 {j : Nat} (h : j < 240) : ldI (ov g st) 1 (some 202) (nI j) = some (sA st 42 j) := ldI_e ov_42 h (by omega)
theorem wE_1 {j : Nat} {x : Int32} (h : j < 740) : stI (ov g st) 1 (some 180) (nI j) x = some (ov g (uA st 1 j x)) :=  by
  rw [stI1 ov_1 h (by omega) (Nat.le_of_ble_eq_true rfl)]
  exact congrArg some (ov_st (r := 1) (Nat.le_of_ble_eq_true rfl) rfl)
theorem wE_14 {j : Nat} {x : Int32} (h : j < 412) : stI (ov g st) 1 (some 181) (nI j) x = some (ov g (uA st 14 j x)) :=  by
  rw [stI1 ov_14 h (by omega) (Nat.le_of_ble_eq_true rfl)]
  exact congrArg some (ov_st (r := 2) (Nat.le_of_ble_eq_true rfl) rfl)
theorem wE_15 {j : Nat} {x : Int32} (h : j < 170) : stI (ov g st) 1 (some 182) (nI j) x = some (ov g (uA st 15 j x)) :=  by
  rw [stI1 ov_15 h (by omega) (Nat.le_of_ble_eq_true rfl)]
  exact congrArg some (ov_st (r := 3) (Nat.le_of_ble_eq_true rfl) rfl)
theorem wE_16 {j : Nat} {x : Int32} (h : j < 824) : stI (ov g st) 1 (some 183) (nI j) x = some (ov g (uA st 16 j x)) :=  by
  rw [stI1 ov_16 h (by omega) (Nat.le_of_ble_eq_true rfl)]
  exact congrArg some (ov_st (r := 4) (Nat.le_of_ble_eq_true rfl) rfl)
theorem wE_17 {j : Nat} {x : Int64} (h : j < 16) : stJ (ov g st) (some 184) (nI j) x = some (ov g (uL st 17 j x)) :=  by
  rw [stJ_e ov_17 h (by omega) (Nat.le_of_ble_eq_true rfl)]
  exact congrArg some (ov_st (r := 5) (Nat.le_of_ble_eq_true rfl) rfl)
theorem wE_18 {j : Nat} {x : Int64} (h : j < 16) : stJ (ov g st) (some 185) (nI j) x = some (ov g (uL st 18 j x)) :=  by
  rw [stJ_e ov_18 h (by omega) (Nat.le_of_ble_eq_true rfl)]
  exact congrArg some (ov_st (r := 6) (Nat.le_of_ble_eq_true rfl) rfl)
theorem wE_19 {j : Nat} {x : Int64} (h : j < 32) : stJ (ov g st) (some 186) (nI j) x = some (ov g (uL st 19 j x)) :=  by
  rw [stJ_e ov_19 h (by omega) (Nat.le_of_ble_eq_true rfl)]
  exact congrArg some (ov_st (r := 7) (Nat.le_of_ble_eq_true rfl) rfl)
theorem wE_20 {j : Nat} {x : Int32} (h : j < 2) (hx : x = 0 ∨ x = 1) : stI (ov g st) 3 (some 187) (nI j) x = some (ov g (uA st 20 j x)) :=  by
  rw [stI_e ov_20 h (by omega) (Nat.le_of_ble_eq_true rfl)]
  have hv : vp_nar (knd 3) x = x := by rcases hx with h | h <;> subst h <;> rfl
  rw [hv]
  exact congrArg some (ov_st (r := 8) (Nat.le_of_ble_eq_true rfl) rfl)
theorem wE_24 {j : Nat} {x : Int32} (h : j < 7) : stI (ov g st) 1 (some 188) (nI j) x = some (ov g (uA st 24 j x)) :=  by
  rw [stI1 ov_24 h (by omega) (Nat.le_of_ble_eq_true rfl)]
  exact congrArg some (ov_st (r := 9) (Nat.le_of_ble_eq_true rfl) rfl)
theorem wE_25 {j : Nat} {x : Int32} (h : j < 7) : stI (ov g st) 1 (some 189) (nI j) x = some (ov g (uA st 25 j x)) :=  by
  rw [stI1 ov_25 h (by omega) (Nat.le_of_ble_eq_true rfl)]
  exact congrArg some (ov_st (r := 10) (Nat.le_of_ble_eq_true rfl) rfl)
theorem wE_26 {j : Nat} {x : Int32} (h : j < 7) : stI (ov g st) 1 (some 190) (nI j) x = some (ov g (uA st 26 j x)) :=  by
  rw [stI1 ov_26 h (by omega) (Nat.le_of_ble_eq_true rfl)]
  exact congrArg some (ov_st (r := 11) (Nat.le_of_ble_eq_true rfl) rfl)
theorem wE_27 {j : Nat} {x : Int32} (h : j < 7) : stI (ov g st) 1 (some 191) (nI j) x = some (ov g (uA st 27 j x)) :=  by
  rw [stI1 ov_27 h (by omega) (Nat.le_of_ble_eq_true rfl)]
  exact congrArg some (ov_st (r := 12) (Nat.le_of_ble_eq_true rfl) rfl)
theorem wE_28 {j : Nat} {x : Int32} (h : j < 10) : stI (ov g st) 1 (some 192) (nI j) x = some (ov g (uA st 28 j x)) :=  by
  rw [stI1 ov_28 h (by omega) (Nat.le_of_ble_eq_true rfl)]
  exact congrArg some (ov_st (r := 13) (Nat.le_of_ble_eq_true rfl) rfl)
theorem wE_29 {j : Nat} {x : Int32} (h : j < 10) : stI (ov g st) 1 (some 193) (nI j) x = some (ov g (uA st 29 j x)) :=  by
  rw [stI1 ov_29 h (by omega) (Nat.le_of_ble_eq_true rfl)]
  exact congrArg some (ov_st (r := 14) (Nat.le_of_ble_eq_true rfl) rfl)
theorem wE_30 {j : Nat} {x : Int32} (h : j < 100) : stI (ov g st) 1 (some 194) (nI j) x = some (ov g (uA st 30 j x)) :=  by
  rw [stI1 ov_30 h (by omega) (Nat.le_of_ble_eq_true rfl)]
  exact congrArg some (ov_st (r := 15) (Nat.le_of_ble_eq_true rfl) rfl)
theorem wE_31 {j : Nat} {x : Int32} (h : j < 10) : stI (ov g st) 1 (some 195) (nI j) x = some (ov g (uA st 31 j x)) :=  by
  rw [stI1 ov_31 h (by omega) (Nat.le_of_ble_eq_true rfl)]
  exact congrArg some (ov_st (r := 16) (Nat.le_of_ble_eq_true rfl) rfl)
theorem wE_32 {j : Nat} {x : Int32} (h : j < 10) : stI (ov g st) 1 (some 196) (nI j) x = some (ov g (uA st 32 j x)) :=  by
  rw [stI1 ov_32 h (by omega) (Nat.le_of_ble_eq_true rfl)]
  exact congrArg some (ov_st (r := 17) (Nat.le_of_ble_eq_true rfl) rfl)
theorem wE_35 {j : Nat} {x : Int64} (h : j < 5040) : stJ (ov g st) (some 197) (nI j) x = some (ov g (uL st 35 j x)) :=  by
  rw [stJ_e ov_35 h (by omega) (Nat.le_of_ble_eq_true rfl)]
  exact congrArg some (ov_st (r := 18) (Nat.le_of_ble_eq_true rfl) rfl)
theorem wE_36 {j : Nat} {x : Int64} (h : j < 5040) : stJ (ov g st) (some 198) (nI j) x = some (ov g (uL st 36 j x)) :=  by
  rw [stJ_e ov_36 h (by omega) (Nat.le_of_ble_eq_true rfl)]
  exact congrArg some (ov_st (r := 19) (Nat.le_of_ble_eq_true rfl) rfl)
theorem wE_37 {j : Nat} {x : Int64} (h : j < 5040) : stJ (ov g st) (some 199) (nI j) x = some (ov g (uL st 37 j x)) :=  by
  rw [stJ_e ov_37 h (by omega) (Nat.le_of_ble_eq_true rfl)]
  exact congrArg some (ov_st (r := 20) (Nat.le_of_ble_eq_true rfl) rfl)
theorem wE_38 {j : Nat} {x : Int32} (h : j < 30240) : stI (ov g st) 1 (some 200) (nI j) x = some (ov g (uA st 38 j x)) :=  by
  rw [stI1 ov_38 h (by omega) (Nat.le_of_ble_eq_true rfl)]
  exact congrArg some (ov_st (r := 21) (Nat.le_of_ble_eq_true rfl) rfl)
theorem wE_41 {j : Nat} {x : Int32} (h : j < 7) : stI (ov g st) 1 (some 201) (nI j) x = some (ov g (uA st 41 j x)) :=  by
  rw [stI1 ov_41 h (by omega) (Nat.le_of_ble_eq_true rfl)]
  exact congrArg some (ov_st (r := 22) (Nat.le_of_ble_eq_true rfl) rfl)
theorem wE_42 {j : Nat} {x : Int32} (h : j < 240) : stI (ov g st) 1 (some 202) (nI j) x = some (ov g (uA st 42 j x)) :=  by
  rw [stI1 ov_42 h (by omega) (Nat.le_of_ble_eq_true rfl)]
  exact congrArg some (ov_st (r := 23) (Nat.le_of_ble_eq_true rfl) rfl)
end OVS
section OVR
variable {st : RS} {k l i j : Nat} {x : Int32} {y : Int64}
theorem sI_uI : sI (uI st k x) l = if l = k then x else sI st l := rfl
theorem sI_uJ : sI (uJ st k y) l = sI st l := rfl
theorem sI_uA : sI (uA st k i x) l = sI st l := rfl
theorem sI_uL : sI (uL st k i y) l = sI st l := rfl
theorem sJ_uI : sJ (uI st k x) l = sJ st l := rfl
theorem sJ_uJ : sJ (uJ st k y) l = if l = k then y else sJ st l := rfl
theorem sJ_uA : sJ (uA st k i x) l = sJ st l := rfl
theorem sJ_uL : sJ (uL st k i y) l = sJ st l := rfl
theorem sA_uI : sA (uI st k x) l = sA st l := rfl
theorem sA_uJ : sA (uJ st k y) l = sA st l := rfl
theorem sA_uA : sA (uA st k i x) l = if l = k then upd (sA st k) i x else sA st l := rfl
theorem sA_uL : sA (uL st k i y) l = sA st l := rfl
theorem sL_uI : sL (uI st k x) l = sL st l := rfl
theorem sL_uJ : sL (uJ st k y) l = sL st l := rfl
theorem sL_uA : sL (uA st k i x) l = sL st l := rfl
theorem sL_uL : sL (uL st k i y) l = if l = k then vp_updL (sL st k) i y else sL st l := rfl
end OVR
