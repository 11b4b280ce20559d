/-! said: the SENTENCE of a COPY -/
def cmpI (sg nb ms : Int32) : Bool := if sg = 60 then !decide (nb ≤ ms) else if sg = 61 then decide (ms = nb) else !decide (ms ≤ nb)
/-- the measure of an entry -/
def msE (h : HS) (C : List Nat) (e : E5) : Nat := if e.1 = 17 then stp C (cL h e.2.1.toNatClampNeg) + 3 * fal C (cL h e.2.1.toNatClampNeg) else if e.1 = 18 then stp C (cL h e.2.1.toNatClampNeg) else if e.1 = 19 then sngR (hR h) C else C.length
/-- whether an entry may be said of the lines C -/
def lfT (h : HS) (C : List Nat) (e : E5) : Bool := if e.1 = 13 then decide (C.length = hN h) else if e.1 = 14 then keeps (hS h) C else if e.1 = 15 then decide (e.2.1.toNatClampNeg ∈ C) else if e.1 = 16 then decide (e.2.1.toNatClampNeg ∈ C ∧ e.2.2.1.toNatClampNeg ∈ C ∧ C.idxOf e.2.1.toNatClampNeg < C.idxOf e.2.2.1.toNatClampNeg) else cmpI e.2.2.2.1 e.2.2.2.2 (nI (msE h C e))
/-- the truths, the latest as the lowest bit -/
def stE (T : E5 → Bool) (v : Nat) (e : E5) : Nat := if e.1 = 12 then 2 * (v / 2) + (1 - v % 2) else if e.1 = 11 then 2 * (v / 4) + (v / 2 % 2) * (v % 2) else if e.1 = 10 then 2 * (v / 4) + max (v / 2 % 2) (v % 2) else 2 * v + (T e).toNat
def rnE (T : E5 → Bool) (P : SN) (v : Nat) : Nat := P.foldl (stE T) v
theorem rnE_app (T : E5 → Bool) (P Q : SN) (v : Nat) : rnE T (P ++ Q) v = rnE T Q (rnE T P v) := List.foldl_append
def lvE : SN → Nat
  | [] => 0
  | e :: P => (if 13 ≤ e.1 then 1 else 0) + lvE P
theorem lvE_app (P Q : SN) : lvE (P ++ Q) = lvE P + lvE Q := by
  induction P with
  | nil => exact (Nat.zero_add _).symm
  | cons e P ih =>
    show (if 13 ≤ e.1 then 1 else 0) + lvE (P ++ Q) = (if 13 ≤ e.1 then 1 else 0) + lvE P + lvE Q
    rw [ih]; omega
/-- how many truths at most, on the way from k -/
def hgE : SN → Nat → Nat → Prop
  | [], _, _ => True
  | e :: P, k, m => (if 13 ≤ e.1 then k + 1 ≤ m ∧ hgE P (k + 1) m else if e.1 = 12 then 1 ≤ k ∧ hgE P k m else 2 ≤ k ∧ hgE P (k - 1) m)
theorem hgE_mono : ∀ (P : SN) (k m m' : Nat), m ≤ m' → hgE P k m → hgE P k m'
  | [], _, _, _, _, _ => trivial
  | e :: P, k, m, m', hm, h => by
    unfold hgE at h ⊢
    split
    · rename_i q
      rw [if_pos q] at h
      exact ⟨by omega, hgE_mono P _ _ _ hm h.2⟩
    · rename_i q
      rw [if_neg q] at h
      split
      · rename_i w
        rw [if_pos w] at h
        exact ⟨h.1, hgE_mono P _ _ _ hm h.2⟩
      · rename_i w
        rw [if_neg w] at h
        exact ⟨h.1, hgE_mono P _ _ _ hm h.2⟩
def htE : SN → Nat → Nat
  | [], k => k
  | e :: P, k => htE P (if 13 ≤ e.1 then k + 1 else if e.1 = 12 then k else k - 1)
theorem hgE_app : ∀ (P Q : SN) (k m : Nat), hgE P k m → hgE Q (htE P k) m → hgE (P ++ Q) k m
  | [], _, _, _, _, h => h
  | e :: P, Q, k, m, h1, h2 => by
    show hgE (e :: (P ++ Q)) k m
    unfold hgE at h1 ⊢
    unfold htE at h2
    split
    · rename_i q
      rw [if_pos q] at h1 h2
      exact ⟨h1.1, hgE_app P Q _ _ h1.2 h2⟩
    · rename_i q
      rw [if_neg q] at h1 h2
      split
      · rename_i w
        rw [if_pos w] at h1 h2
        exact ⟨h1.1, hgE_app P Q _ _ h1.2 h2⟩
      · rename_i w
        rw [if_neg w] at h1 h2
        exact ⟨h1.1, hgE_app P Q _ _ h1.2 h2⟩
theorem htE_app : ∀ (P Q : SN) (k : Nat), htE (P ++ Q) k = htE Q (htE P k)
  | [], _, _ => rfl
  | e :: P, Q, k => htE_app P Q _
/-! bits of the truths -/
theorem digx {k a b c d : Nat} (ha : a < 2 ^ k) (hc : c < 2 ^ k) : (2 ^ k * b + a) ^^^ (2 ^ k * d + c) = 2 ^ k * (b ^^^ d) + (a ^^^ c) := by
  apply Nat.eq_of_testBit_eq
  intro i
  rw [Nat.testBit_xor, Nat.testBit_two_pow_mul_add _ ha, Nat.testBit_two_pow_mul_add _ hc, Nat.testBit_two_pow_mul_add _ (Nat.xor_lt_two_pow ha hc)]
  by_cases h : i < k <;> simp [h, Nat.testBit_xor]
theorem digo {k a b c d : Nat} (ha : a < 2 ^ k) (hc : c < 2 ^ k) : (2 ^ k * b + a) ||| (2 ^ k * d + c) = 2 ^ k * (b ||| d) + (a ||| c) := by
  apply Nat.eq_of_testBit_eq
  intro i
  rw [Nat.testBit_or, Nat.testBit_two_pow_mul_add _ ha, Nat.testBit_two_pow_mul_add _ hc, Nat.testBit_two_pow_mul_add _ (Nat.or_lt_two_pow ha hc)]
  by_cases h : i < k <;> simp [h, Nat.testBit_or]
theorem bt_and1 {v : Nat} : nI v &&& (1 : Int32) = nI (v % 2) := by
  rw [show (1 : Int32) = nI 1 from rfl, nI_and, Nat.and_one_is_mod]
theorem bt_not {v : Nat} : nI v ^^^ (1 : Int32) = nI (2 * (v / 2) + (1 - v % 2)) := by
  rw [show (1 : Int32) = nI 1 from rfl, nI_xor]
  congr 1
  have h := digx (k := 1) (a := v % 2) (b := v / 2) (c := 1) (d := 0) (Nat.mod_lt _ (by decide)) (by decide)
  rw [show 2 ^ 1 * (v / 2) + v % 2 = v by omega, Nat.mul_zero, Nat.zero_add, Nat.xor_zero] at h
  rw [h]
  rcases Nat.mod_two_eq_zero_or_one v with q | q <;> rw [q] <;> rfl
theorem bt_or {v b : Nat} (hb : b < 2) : nI v ||| nI b = nI (2 * (v / 2) + max (v % 2) b) := by
  rw [nI_or]
  congr 1
  have h := digo (k := 1) (a := v % 2) (b := v / 2) (c := b) (d := 0) (Nat.mod_lt _ (by decide)) (by omega)
  rw [show 2 ^ 1 * (v / 2) + v % 2 = v by omega, Nat.mul_zero, Nat.zero_add, Nat.or_zero] at h
  rw [h]
  rcases Nat.mod_two_eq_zero_or_one v with q | q <;> rw [q] <;> rcases (show b = 0 ∨ b = 1 by omega) with w | w <;> rw [w] <;> rfl
theorem bt_and {v b : Nat} (hv : v < 2 ^ 31) (hb : b < 2) : nI v &&& (nI b ||| (-2 : Int32)) = nI (2 * (v / 2) + (v % 2) * b) := by
  rw [show (-2 : Int32) = nI (4294967294) from rfl, nI_or, nI_and]
  congr 1
  have h1 := digo (k := 1) (a := b) (b := 0) (c := 0) (d := 2147483647) (by omega) (by decide)
  rw [Nat.mul_zero, Nat.zero_add, Nat.zero_or, Nat.or_zero] at h1
  have e1 : (2 : Nat) ^ 1 * 2147483647 + 0 = 4294967294 := rfl
  rw [e1] at h1
  rw [h1]
  have h := dig (k := 1) (a := v % 2) (b := v / 2) (c := b) (d := 2147483647) (Nat.mod_lt _ (by decide)) (by omega)
  rw [show 2 ^ 1 * (v / 2) + v % 2 = v by omega] at h
  rw [h, show (2147483647 : Nat) = 2 ^ 31 - 1 from rfl, Nat.and_two_pow_sub_one_eq_mod, Nat.mod_eq_of_lt (by omega)]
  rcases Nat.mod_two_eq_zero_or_one v with q | q <;> rw [q] <;> rcases (show b = 0 ∨ b = 1 by omega) with w | w <;> rw [w] <;> rfl
theorem bt_shl {v b : Nat} (hv : v < 2 ^ 30) (hb : b < 2) : (nI v <<< ((1 : Int32) &&& 31)) ||| nI b = nI (2 * v + b) := by
  have e := nI_shl (n := v) (k := 1) (by decide) (by omega)
  rw [show (1 : Int32) = nI 1 from rfl, e, bt_or hb]
  congr 1
  omega
section SAID
variable {F : Nat} {g : Hp} {st : RS} {h : HS} {f : Hp} {T D sX s : Nat} {tl lf : Int32} {ll : Int64} {P : SN}
/-- an entry's word -/
theorem kindAt (S : St4 f) (A : SAt f s P) {i : Nat} (hi : i < P.length) (hw : P[i].1 < 21) {β : Type} {K : Int32 → Option β} : ((gR f (some s) 6 1).bind fun x4 => (ldR f 8 x4 (nI i)).bind fun x5 => (enI x5).bind fun i6 => (ldI f 1 (some 33) (nI i6)).bind K) = K (swMap P[i].1) := by
  obtain ⟨pl, h0, ⟨q1, a1, b1, c1⟩, -⟩ := A
  have e : enI (some P[i].1) = some P[i].1 := if_pos hw
  rw [bd_e (gR_s h0 rfl), bd_e (ldR_e a1 (by omega) (by omega)), b1 i hi, bd_e e, bd_e (ldI_e S.swm hw (by omega))]
theorem sw_k : ∀ j, j < 21 → 10 ≤ j → swMap j = if j = 10 then 12 else if j = 12 then 10 else nI j := by decide +kernel
theorem cmeas_e (A : SAt f s P) {i : Nat} (hi : i < P.length) (ms : Int32) : m_X7_isMeasure F (some s) (nI i) ms f = some (if cmpI P[i].2.2.2.1 P[i].2.2.2.2 ms then 1 else 0) := by
  obtain ⟨pl, h0, -, -, -, ⟨q4, a4, b4⟩, ⟨q5, a5, b5⟩⟩ := A
  unfold m_X7_isMeasure cmpI
  rw [bd_e (gR_s h0 rfl), bd_e (ldI_e a4 (by omega) (by omega)), b4 i hi]
  by_cases c1 : P[i].2.2.2.1 = 60
  · rw [if_pos c1, if_pos c1, bd_e (gR_s h0 rfl), bd_e (ldI_e a5 (by omega) (by omega)), b5 i hi]
    by_cases q : P[i].2.2.2.2 ≤ ms
    · rw [if_pos q, ck_e (by decide), decide_eq_true q]; rfl
    · rw [if_neg q, ck_e (by decide), decide_eq_false q]; rfl
  · rw [if_neg c1, if_neg c1]
    by_cases c2 : P[i].2.2.2.1 = 61
    · rw [if_pos c2, if_pos c2, bd_e (gR_s h0 rfl), bd_e (ldI_e a5 (by omega) (by omega)), b5 i hi]
      by_cases q : ms = P[i].2.2.2.2
      · rw [if_pos q, ck_e (by decide), decide_eq_true q]; rfl
      · rw [if_neg q, ck_e (by decide), decide_eq_false q]; rfl
    · rw [if_neg c2, if_neg c2, bd_e (gR_s h0 rfl), bd_e (ldI_e a5 (by omega) (by omega)), b5 i hi]
      by_cases q : ms ≤ P[i].2.2.2.2
      · rw [if_pos q, ck_e (by decide), decide_eq_true q]; rfl
      · rw [if_neg q, ck_e (by decide), decide_eq_false q]; rfl
theorem ctest_e (hF : 16 ≤ F) (S : St4 f) (A : SAt f s P) (H : HAt f T s h) (ok : okH h) {c : Nat} (hc : c < (hC h).length) {i : Nat} (hi : i < P.length) (oe : okE5 h P[i]) (h13 : 13 ≤ P[i].1) : m_X7_isTest F (some s) (nI i) (some (T + 13 + c)) (some T) f = some (if lfT h (hC h)[c].2 P[i] then 1 else 0) := by
  have h10 := ok.2.1
  have h7 := ok.1.2
  have ph := A.1
  obtain ⟨-, hA, hA2, -⟩ := ok.2.2.1 _ (List.getElem_mem hc)
  have hl := okL_len hA
  obtain ⟨⟨w1, w2⟩, e15, e16, e17⟩ := oe
  have K := fun {β : Type} {K : Int32 → Option β} => kindAt (β := β) (K := K) S A hi (by omega)
  have hs := sw_k P[i].1 (by omega) w1
  rw [if_neg (by omega), if_neg (by omega)] at hs
  obtain ⟨pl, h0, -, ⟨q2, a2, b2⟩, ⟨q3, a3, b3⟩, -⟩ := id A
  have cp := H.copy hc
  have nd : ∀ k, P[i].1 ≠ k → k < 30 → ¬ nI P[i].1 = nI k := fun k hk hk2 e => hk ((nI_eq (by omega) (by omega)).mp e)
  unfold m_X7_isTest
  rw [K, hs]
  unfold lfT
  by_cases c1 : P[i].1 = 13
  · rw [if_pos (show nI P[i].1 = 13 by rw [c1]; rfl), if_pos c1, bd_e (gI_e cp rfl), bd_e (gI_e H.1 rfl)]
    by_cases q : (hC h)[c].2.length = hN h
    · rw [if_pos (by rw [q]), ck_e (by decide), decide_eq_true q]; rfl
    · rw [if_neg (fun e => q ((nI_eq (by omega) (by omega)).mp e)), ck_e (by decide), decide_eq_false q]; rfl
  rw [if_neg (show ¬ nI P[i].1 = (13 : Int32) from nd 13 c1 (by omega)), if_neg c1]
  by_cases c2 : P[i].1 = 14
  · rw [if_pos (show nI P[i].1 = 14 by rw [c2]; rfl), if_pos c2, bd_e (gI_e cp rfl), bd_e (gI_e cp rfl), ck_e (isO_e H.1), bd_e (keepsSense_e H ok hF)]
    cases keeps (hS h) (hC h)[c].2 <;> rw [ck_e (by decide)]
  rw [if_neg (show ¬ nI P[i].1 = (14 : Int32) from nd 14 c2 (by omega)), if_neg c2]
  by_cases c3 : P[i].1 = 15
  · obtain ⟨l, l1, l2⟩ := e15 c3
    rw [if_pos (show nI P[i].1 = 15 by rw [c3]; rfl), if_pos c3, bd_e (gR_s h0 rfl), bd_e (ldI_e a2 (by omega) (by omega)), b2 i hi, l2, ck_e (isO_e cp), bd_e (hasLine_e F cp l1), nI_cl (by omega)]
    by_cases q : l ∈ (hC h)[c].2
    · rw [if_pos q, ck_e (by decide), decide_eq_true q]; rfl
    · rw [if_neg q, ck_e (by decide), decide_eq_false q]; rfl
  rw [if_neg (show ¬ nI P[i].1 = (15 : Int32) from nd 15 c3 (by omega)), if_neg c3]
  by_cases c4 : P[i].1 = 16
  · obtain ⟨l, m, l1, l2, l3, l4⟩ := e16 c4
    rw [if_pos (show nI P[i].1 = 16 by rw [c4]; rfl), if_pos c4, bd_e (gR_s h0 rfl), bd_e (ldI_e a2 (by omega) (by omega)), b2 i hi, bd_e (gR_s h0 rfl), bd_e (ldI_e a3 (by omega) (by omega)), b3 i hi, l3, l4, ck_e (isO_e cp), bd_e (isAhead_e hA cp l1 l2), nI_cl (by omega), nI_cl (by omega)]
    by_cases q : l ∈ (hC h)[c].2 ∧ m ∈ (hC h)[c].2 ∧ (hC h)[c].2.idxOf l < (hC h)[c].2.idxOf m
    · rw [if_pos q, ck_e (by decide), decide_eq_true q]; rfl
    · rw [if_neg q, ck_e (by decide), decide_eq_false q]; rfl
  rw [if_neg (show ¬ nI P[i].1 = (16 : Int32) from nd 16 c4 (by omega)), if_neg c4, ck_e (isO_e h0)]
  have em : m_X7_measureOf F (some s) (nI i) (some (T + 13 + c)) (some T) f = some (nI (msE h (hC h)[c].2 P[i])) := by
    unfold m_X7_measureOf msE
    rw [bd_e (gR_s h0 rfl), bd_e (ldI_e a2 (by omega) (by omega)), b2 i hi, ck_e (isO_e H.1)]
    by_cases c5 : P[i].1 = 17
    · obtain ⟨j, j1, j2⟩ := e17 (Or.inl c5)
      rw [j2, bd_e (copyAt_yes H h10 j1), K, hs, if_pos (show nI P[i].1 = 17 by rw [c5]; rfl), if_neg (by simp), ck_e (isO_e cp), bd_e (farTo_e F cp (H.copy j1)), if_pos c5, nI_cl (by omega), cL_e j1]
    by_cases c6 : P[i].1 = 18
    · obtain ⟨j, j1, j2⟩ := e17 (Or.inr c6)
      rw [j2, bd_e (copyAt_yes H h10 j1), K, hs, if_neg (show ¬ nI P[i].1 = (17 : Int32) from nd 17 c5 (by omega)), if_pos (show nI P[i].1 = 18 by rw [c6]; rfl), if_neg (by simp), ck_e (isO_e cp), bd_e (stepsTo_e F cp (H.copy j1)), if_neg c5, if_pos c6, nI_cl (by omega), cL_e j1]
    have any : ∃ y, m_X4_copyAt F (some T) P[i].2.1 f = some y := by
      rcases outin (k := (hC h).length) (by omega) P[i].2.1 with hi' | ⟨j, hj, e⟩
      · exact ⟨_, copyAt_no H hi'⟩
      · rw [e]; exact ⟨_, copyAt_yes H h10 hj⟩
    obtain ⟨y, ey⟩ := any
    rw [bd_e ey, K, hs, if_neg (show ¬ nI P[i].1 = (17 : Int32) from nd 17 c5 (by omega)), if_neg (show ¬ nI P[i].1 = (18 : Int32) from nd 18 c6 (by omega)), if_neg c5, if_neg c6]
    by_cases c7 : P[i].1 = 19
    · rw [if_pos (show nI P[i].1 = 19 by rw [c7]; rfl), if_pos c7, bd_e (gI_e cp rfl), bd_e (gI_e cp rfl), ck_e (isO_e H.1), bd_e (songOf_e H ok hA (by omega))]
    · rw [if_neg (show ¬ nI P[i].1 = (19 : Int32) from nd 19 c7 (by omega)), if_neg c7, bd_e (gI_e cp rfl)]
  rw [bd_e em, ck_e (isO_e h0), bd_e (cmeas_e A hi _)]
  cases cmpI P[i].2.2.2.1 P[i].2.2.2.2 (nI (msE h (hC h)[c].2 P[i])) <;> rw [ck_e (by decide)]
theorem ctrue_L (hF : 16 ≤ F) (S : St4 f) (A : SAt f s P) (H : HAt f T s h) (ok : okH h) (os : okS h P) {c : Nat} (hc : c < (hC h).length) : ∀ (d i z v k : Nat), i + d = P.length → d < z → v < 2 ^ k → hgE (P.drop i) k 20 → k ≤ 20 → m_X7_isTrueOf_L5 F z (some s) (some (T + 13 + c)) (some T) (nI v) (nI i) f = some (nI (rnE (lfT h (hC h)[c].2) (P.drop i) v % 2)) := by
  have ph := A.1
  have h0 := A.2.1
  intro d
  induction d with
  | zero =>
    intro i z v k hi hz hv hg hk
    obtain ⟨z, rfl⟩ : ∃ j, z = j + 1 := ⟨z - 1, by omega⟩
    rw [List.drop_eq_nil_of_le (by omega)]
    show m_X7_isTrueOf_b5 F _ _ _ _ _ _ _ = some (nI (v % 2))
    unfold m_X7_isTrueOf_b5
    rw [bd_e (gI_e h0 rfl), if_pos (nI_le (by omega) (by omega))]
    unfold m_X7_isTrueOf_B129
    rw [bt_and1]
    rcases Nat.mod_two_eq_zero_or_one v with q | q
    · rw [q, if_pos (by rfl), ck_e (by decide)]; rfl
    · rw [q, if_neg (by decide), ck_e (by decide)]; rfl
  | succ d ih =>
    intro i z v k hi hz hv hg hk
    obtain ⟨z, rfl⟩ : ∃ j, z = j + 1 := ⟨z - 1, by omega⟩
    have il : i < P.length := by omega
    have oe := os _ (List.getElem_mem il)
    have ow1 : 10 ≤ P[i].1 := oe.1.1
    have ow2 : P[i].1 ≤ 20 := oe.1.2
    have v20 : v < 2 ^ 20 := Nat.lt_of_lt_of_le hv (Nat.pow_le_pow_right (by decide) hk)
    rw [List.drop_eq_getElem_cons il] at hg ⊢
    have st1 : rnE (lfT h (hC h)[c].2) (P[i] :: P.drop (i + 1)) v = rnE (lfT h (hC h)[c].2) (P.drop (i + 1)) (stE (lfT h (hC h)[c].2) v P[i]) := rfl
    rw [st1]
    have hs := sw_k P[i].1 (by omega) oe.1.1
    show m_X7_isTrueOf_b5 F _ _ _ _ _ _ _ = _
    unfold m_X7_isTrueOf_b5
    rw [bd_e (gI_e h0 rfl), if_neg (nI_ge il (by omega)), if_neg (lim40 (by omega)), nm_e2, kindAt S A il (by omega), hs]
    unfold hgE at hg
    by_cases c1 : P[i].1 = 12
    · rw [if_neg (by omega), if_pos c1] at hg
      have hg1 := hg.1
      rw [if_neg (show ¬ P[i].1 = 10 by omega), if_pos c1, if_pos rfl, nm_e2, nm_e2, nI_1, bt_not]
      have e : stE (lfT h (hC h)[c].2) v P[i] = 2 * (v / 2) + (1 - v % 2) := if_pos c1
      rw [e]
      refine ih (i + 1) z _ k (by omega) (by omega) ?_ hg.2 hk
      obtain ⟨k, rfl⟩ : ∃ j, k = j + 1 := ⟨k - 1, by omega⟩
      rw [Nat.pow_succ] at hv ⊢
      omega
    by_cases c2 : P[i].1 = 11
    · rw [if_neg (by omega), if_neg c1] at hg
      have hg1 := hg.1
      rw [if_neg (show ¬ P[i].1 = 10 by omega), if_neg c1, if_neg (by rw [c2]; decide), if_pos (by rw [c2]; rfl), nm_e2, nm_e2, nm_e2, nI_1, bt_and1, show ius (nI v) (1 : Int32) = nI (v / 2) from nI_ushr (n := v) (k := 1) (by omega) (by decide), bt_and (by omega) (Nat.mod_lt _ (by decide))]
      have e : stE (lfT h (hC h)[c].2) v P[i] = 2 * (v / 4) + (v / 2 % 2) * (v % 2) := by
        unfold stE
        rw [if_neg c1, if_pos c2]
      rw [e, show v / 4 = v / 2 / 2 by omega]
      refine ih (i + 1) z _ (k - 1) (by omega) (by omega) ?_ hg.2 (by omega)
      obtain ⟨k, rfl⟩ : ∃ j, k = j + 2 := ⟨k - 2, by omega⟩
      rw [show k + 2 - 1 = k + 1 by omega, Nat.pow_succ]
      rw [Nat.pow_succ, Nat.pow_succ] at hv
      have : (v / 2 % 2) * (v % 2) ≤ 1 := by
        rcases Nat.mod_two_eq_zero_or_one v with q | q <;> rw [q] <;> omega
      omega
    by_cases c3 : P[i].1 = 10
    · rw [if_neg (by omega), if_neg c1] at hg
      have hg1 := hg.1
      rw [if_pos c3, if_neg (by decide), if_neg (by decide), if_pos rfl, nm_e2, nm_e2, nm_e2, nI_1, bt_and1, show ius (nI v) (1 : Int32) = nI (v / 2) from nI_ushr (n := v) (k := 1) (by omega) (by decide), bt_or (Nat.mod_lt _ (by decide))]
      have e : stE (lfT h (hC h)[c].2) v P[i] = 2 * (v / 4) + max (v / 2 % 2) (v % 2) := by
        unfold stE
        rw [if_neg c1, if_neg c2, if_pos c3]
      rw [e, show v / 4 = v / 2 / 2 by omega]
      refine ih (i + 1) z _ (k - 1) (by omega) (by omega) ?_ hg.2 (by omega)
      obtain ⟨k, rfl⟩ : ∃ j, k = j + 2 := ⟨k - 2, by omega⟩
      rw [show k + 2 - 1 = k + 1 by omega, Nat.pow_succ]
      rw [Nat.pow_succ, Nat.pow_succ] at hv
      omega
    · have h13 : 13 ≤ P[i].1 := by omega
      rw [if_pos h13] at hg
      have nd : ∀ k, P[i].1 ≠ k → k < 30 → ¬ nI P[i].1 = nI k := fun k hk hk2 e => hk ((nI_eq (by omega) (by omega)).mp e)
      have e : stE (lfT h (hC h)[c].2) v P[i] = 2 * v + (lfT h (hC h)[c].2 P[i]).toNat := by
        unfold stE
        rw [if_neg c1, if_neg c2, if_neg c3]
      rw [if_neg c3, if_neg c1, if_neg (show ¬ nI P[i].1 = (10 : Int32) from nd 10 c3 (by omega)), if_neg (show ¬ nI P[i].1 = (11 : Int32) from nd 11 c2 (by omega)), if_neg (show ¬ nI P[i].1 = (12 : Int32) from nd 12 c1 (by omega)), ck_e (isO_e h0), bd_e (ctest_e hF S A H ok hc il oe h13), e]
      have nxt := fun b (hb : b < 2) => ih (i + 1) z (2 * v + b) (k + 1) (by omega) (by omega) (by rw [Nat.pow_succ]; omega) hg.2 hg.1
      cases lfT h (hC h)[c].2 P[i]
      · rw [if_neg (show ¬ false = true by decide), if_pos rfl, nm_e2, nm_e2, nI_1, show (0 : Int32) = nI 0 from rfl, bt_shl (by omega) (by decide)]
        exact nxt 0 (by decide)
      · rw [if_pos rfl, if_neg (by decide), nm_e2, nm_e2, nI_1, show nI v <<< ((1 : Int32) &&& 31) ||| (1 : Int32) = nI (2 * v + 1) from bt_shl (b := 1) (by omega) (by decide)]
        exact nxt 1 (by decide)
end SAID
