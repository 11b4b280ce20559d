/-! made, fewest, just; the tape's bytes; judge -/
variable {sk : Nat}
def cL (h : HS) (c : Nat) : List Nat := ((hC h).getD c ([], [])).2
theorem cL_e {h : HS} {c : Nat} (hc : c < (hC h).length) : cL h c = (hC h)[c].2 := by
  unfold cL
  rw [List.getD_eq_getElem?_getD, List.getElem?_eq_getElem hc]
  rfl
def mkB (h : HS) (d : Nat) (A B : List Nat) : Bool := makB ((hD h).getD d (0, 0, [])).1 ((hD h).getD d (0, 0, [])).2.1 A B
theorem mkB_e {h : HS} {d : Nat} (hd : d < (hD h).length) (A B : List Nat) : mkB h d A B = makB (hD h)[d].1 (hD h)[d].2.1 A B := by
  unfold mkB
  rw [List.getD_eq_getElem?_getD, List.getElem?_eq_getElem hd]
  rfl
/-- DESKS that may have made B from A, from DESK i on -/
def mdR (h : HS) (A B : List Nat) : Nat → Nat → Int32 → Int32
  | 0, _, v => v
  | d + 1, i, v => mdR h A B d (i + 1) (if mkB h i A B then v ||| ((1 : Int32) <<< (nI i &&& 31)) else v)
section MADE
variable {F : Nat} {f g : Hp} {st : RS} {h : HS} {T D sX s : Nat} {tl lf : Int32} {ll : Int64}
theorem cmake_e (S : St4 f) (H : HAt f T s h) (ok : okH h) {a b d : Nat} (ha : a < (hC h).length) (hb : b < (hC h).length) (hd : d < (hD h).length) : m_X2_mayMake F (some (T + 23 + d)) (some (T + 13 + a)) (some (T + 13 + b)) f = some (if mkB h d (cL h a) (cL h b) then 1 else 0) := by
  obtain ⟨-, hA, -⟩ := ok.2.2.1 _ (List.getElem_mem ha)
  obtain ⟨-, hB, -⟩ := ok.2.2.1 _ (List.getElem_mem hb)
  obtain ⟨-, hw, hlim⟩ := ok.2.2.2.2.1 _ (List.getElem_mem hd)
  rw [mkB_e hd, cL_e ha, cL_e hb]
  exact mayMake_e S (H.desk hd) hw (fun e => (hlim e).2) hA hB (H.copy ha) (H.copy hb)
theorem deskRow (H : HAt f T s h) (ok : okH h) {d : Nat} (hd : d < (hD h).length) {β : Type} {K : Option Nat → Option β} : ((gR f (some T) 3 4).bind fun x => (ldR f 5 x (nI d)).bind K) = K (some (T + 23 + d)) := by
  have h6 := ok.2.2.2.1
  obtain ⟨q, a2, b2⟩ := H.2.2.1
  rw [bd_e (gR_s H.1 rfl), bd_e (ldR_e a2 (by omega) (by omega)), b2 d (by omega)]
theorem made_L (S : St4 f) (K : KAt f T D sX tl lf ll) (H : HAt f T s h) (ok : okH h) {a b : Nat} (ha : a < (hC h).length) (hb : b < (hC h).length) : ∀ (d i z : Nat) (v : Int32), i + d = (hD h).length → d < z → m_X11_made_L36 F z (some 100) (some (T + 13 + a)) (some (T + 13 + b)) v (nI i) f = some (mdR h (cL h a) (cL h b) d i v) := by
  have h6 := ok.2.2.2.1
  intro d
  induction d with
  | zero =>
    intro i z v hi hz
    obtain ⟨z, rfl⟩ : ∃ j, z = j + 1 := ⟨z - 1, by omega⟩
    show m_X11_made_b36 F _ _ _ _ _ _ _ = _
    unfold m_X11_made_b36
    rw [bd_e (gR_s K rfl), bd_e (gI_e H.1 rfl), if_pos (nI_le (by omega) (by omega))]
    rfl
  | succ d ih =>
    intro i z v hi hz
    obtain ⟨z, rfl⟩ : ∃ j, z = j + 1 := ⟨z - 1, by omega⟩
    have hd : i < (hD h).length := by omega
    obtain ⟨lim, hdk, -⟩ := H.desk hd
    show m_X11_made_b36 F _ _ _ _ _ _ _ = some (mdR h (cL h a) (cL h b) d (i + 1) (if mkB h i (cL h a) (cL h b) then v ||| ((1 : Int32) <<< (nI i &&& 31)) else v))
    unfold m_X11_made_b36
    rw [bd_e (gR_s K rfl), bd_e (gI_e H.1 rfl), if_neg (nI_ge hd (by omega)), if_neg (lim6 (by omega)), bd_e (gR_s K rfl), deskRow H ok hd, ck_e (isO_e hdk), bd_e (cmake_e S H ok ha hb hd)]
    by_cases q : mkB h i (cL h a) (cL h b) = true
    · rw [if_pos q, if_pos q, if_neg (by decide), nm_e2, nm_e2, nI_1]
      exact ih (i + 1) z _ (by omega) (by omega)
    · rw [if_neg q, if_neg q, if_pos rfl, nm_e2, nI_1]
      exact ih (i + 1) z _ (by omega) (by omega)
theorem rmake_e (hF : 8 ≤ F) (N : NW (sA st 14) h) (ok : okH h) {a b d : Nat} (ha : a < (hC h).length) (hb : b < (hC h).length) (hd : d < (hD h).length) : ∃ st', m_X12_mayMake F (some 179) (nI a) (nI b) (nI d) (ov g st) = some (if mkB h d (cL h a) (cL h b) then 1 else 0, ov g st') ∧ Rs [26, 27] st st' := by
  rw [mkB_e hd, cL_e ha, cL_e hb]
  exact rmayMake_e hF N ok ha hb hd
theorem rmade_L (hF : 8 ≤ F) (N : NW (sA st 14) h) (ok : okH h) {a b : Nat} (ha : a < (hC h).length) (hb : b < (hC h).length) : ∀ (d i z : Nat) (v : Int32) (st' : RS), i + d = (hD h).length → d < z → Rs [26, 27] st st' → ∃ st'', m_X12_made_L32 F z (some 179) (nI a) (nI b) v (nI i) (ov g st') = some (mdR h (cL h a) (cL h b) d i v, ov g st'') ∧ Rs [26, 27] st st'' := by
  have h6 := ok.2.2.2.1
  intro d
  induction d with
  | zero =>
    intro i z v st' hi hz C
    obtain ⟨z, rfl⟩ : ∃ j, z = j + 1 := ⟨z - 1, by omega⟩
    refine ⟨st', ?_, C⟩
    show m_X12_made_b32 F _ _ _ _ _ _ _ = _
    unfold m_X12_made_b32
    rw [q14 (j := 2) (i := 2) (by omega) rfl, show sA st' 14 = sA st 14 from C.A (by decide), N.2.2.1, if_pos (nI_le (by omega) (by omega))]
    rfl
  | succ d ih =>
    intro i z v st' hi hz C
    obtain ⟨z, rfl⟩ : ∃ j, z = j + 1 := ⟨z - 1, by omega⟩
    have hd : i < (hD h).length := by omega
    have N' : NW (sA st' 14) h := by rw [C.A (by decide)]; exact N
    obtain ⟨s1, e1, r1⟩ := rmake_e (F := F) (g := g) hF N' ok ha hb hd
    obtain ⟨s2, e2, r2⟩ := ih (i + 1) z (if mkB h i (cL h a) (cL h b) then v ||| ((1 : Int32) <<< (nI i &&& 31)) else v) s1 (by omega) (by omega) (C.trans r1)
    refine ⟨s2, ?_, r2⟩
    show m_X12_made_b32 F _ _ _ _ _ _ _ = some (mdR h (cL h a) (cL h b) d (i + 1) (if mkB h i (cL h a) (cL h b) then v ||| ((1 : Int32) <<< (nI i &&& 31)) else v), _)
    rw [← e2]
    unfold m_X12_made_b32
    rw [q14 (j := 2) (i := 2) (by omega) rfl, N'.2.2.1, if_neg (nI_ge hd (by omega)), ck_e r_isO, bd2_e e1]
    by_cases q : mkB h i (cL h a) (cL h b) = true
    · rw [if_pos q, if_pos q, if_neg (by decide), nm_e2, nm_e2, nI_1]
    · rw [if_neg q, if_neg q, if_pos rfl, nm_e2, nI_1]
theorem k_made (hF : 200 ≤ F) (a b : Int32) : KR sk (m_X11_made F (some 100) a b) (m_X12_made F (some 179) a b) := by
  intro f n z st m C R
  obtain ⟨T, D, sT, sD, sX, tq, iq, S, K, -, ⟨H, ok, -⟩, -⟩ := C
  have h10 := ok.2.1
  have h6 := ok.2.2.2.1
  unfold m_X11_made
  rw [bd_e (gR_s K rfl), ck_e (isO_e H.1)]
  rcases outin (k := (hC (mH m)).length) (by omega) a with ha | ⟨i, hi, rfl⟩
  · refine ⟨-1, ?_, fun g => ?_⟩
    · rw [bd_e (copyAt_no H ha), bd_e (gR_s K rfl), ck_e (isO_e H.1)]
      rcases outin (k := (hC (mH m)).length) (by omega) b with hb | ⟨j, hj, rfl⟩
      · rw [bd_e (copyAt_no H hb), if_pos rfl]
      · rw [bd_e (copyAt_yes H h10 hj), if_pos rfl]
    · obtain ⟨s1, e1, B1⟩ := rbeg (F := F) (g := g) hF R 0
      refine ⟨s1, ?_, B1.1⟩
      unfold m_X12_made
      rw [wI_0, bd_some, ck_e r_isO, bd_e e1, ck_e r_isO, bd_e (risCopy_e B1.2.2.1 ok a), if_pos ha, if_pos rfl]
  · rw [bd_e (copyAt_yes H h10 hi), bd_e (gR_s K rfl), ck_e (isO_e H.1)]
    rcases outin (k := (hC (mH m)).length) (by omega) b with hb | ⟨j, hj, rfl⟩
    · refine ⟨-1, ?_, fun g => ?_⟩
      · rw [bd_e (copyAt_no H hb), if_neg (by simp), if_pos rfl]
      · obtain ⟨s1, e1, B1⟩ := rbeg (F := F) (g := g) hF R 0
        refine ⟨s1, ?_, B1.1⟩
        unfold m_X12_made
        rw [wI_0, bd_some, ck_e r_isO, bd_e e1, ck_e r_isO, bd_e (risCopy_e B1.2.2.1 ok _), if_neg (inin (by omega) hi), if_neg (by decide), ck_e r_isO, bd_e (risCopy_e B1.2.2.1 ok b), if_pos hb, if_pos rfl]
    · refine ⟨mdR (mH m) (cL (mH m) i) (cL (mH m) j) (hD (mH m)).length 0 0, ?_, fun g => ?_⟩
      · rw [bd_e (copyAt_yes H h10 hj), if_neg (by simp), if_neg (by simp)]
        exact made_L S K H ok hi hj (hD (mH m)).length 0 F 0 (by omega) (by omega)
      · obtain ⟨s1, e1, B1⟩ := rbeg (F := F) (g := g) hF R 0
        obtain ⟨s2, e2, r2⟩ := rmade_L (F := F) (g := g) (by omega) B1.2.2.1 ok hi hj (hD (mH m)).length 0 F 0 s1 (by omega) (by omega) (Rs.refl _ _)
        refine ⟨s2, ?_, (B1.cg (r2.cg.mono (by simp) (by decide) (by simp))).1⟩
        unfold m_X12_made
        rw [wI_0, bd_some, ck_e r_isO, bd_e e1, ck_e r_isO, bd_e (risCopy_e B1.2.2.1 ok _), if_neg (inin (by omega) hi), if_neg (by decide), ck_e r_isO, bd_e (risCopy_e B1.2.2.1 ok _), if_neg (inin (by omega) hj), if_neg (by decide)]
        exact e2
/-- a WHOLE COPY's number -/
def isWh (h : HS) (c : Int32) : Prop := ∃ i, ∃ hi : i < (hC h).length, c = nI i ∧ (hC h)[i].2.length = hN h
theorem wholeAt_p (H : HAt f T s h) (ok : okH h) (c : Int32) : (¬ isWh h c ∧ m_X4_wholeAt F (some T) c f = some none) ∨ ∃ i, ∃ hi : i < (hC h).length, c = nI i ∧ (hC h)[i].2.length = hN h ∧ isWh h c ∧ m_X4_wholeAt F (some T) c f = some (some (T + 13 + i)) := by
  have h10 := ok.2.1
  rcases outin (k := (hC h).length) (by omega) c with hc | ⟨i, hi, rfl⟩
  · left
    refine ⟨?_, wholeAt_no H hc⟩
    rintro ⟨i, hi, rfl, -⟩
    exact inin (by omega) hi hc
  · have e := wholeAt_yes (F := F) H ok hi
    by_cases q : (hC h)[i].2.length = hN h
    · right
      rw [if_pos q] at e
      exact ⟨i, hi, rfl, q, ⟨i, hi, rfl, q⟩, e⟩
    · left
      rw [if_neg q] at e
      refine ⟨?_, e⟩
      rintro ⟨j, hj, e1, e2⟩
      have := (nI_eq (by omega) (by omega)).mp e1
      subst this
      exact q e2
theorem rareW_y (hF : 8 ≤ F) (N : NW (sA st 14) h) (ok : okH h) {a b : Int32} (ha : isWh h a) (hb : isWh h b) : m_X12_areWhole F (some 179) a b (ov g st) = some 1 := by
  rw [rareWhole_e hF N ok a b, if_pos ⟨ha, hb⟩]
theorem rareW_n (hF : 8 ≤ F) (N : NW (sA st 14) h) (ok : okH h) {a b : Int32} (hn : ¬ (isWh h a ∧ isWh h b)) : m_X12_areWhole F (some 179) a b (ov g st) = some 0 := by
  rw [rareWhole_e hF N ok a b]
  exact congrArg some (if_neg hn)
theorem k_fewest (hF : 200 ≤ F) (a b d : Int32) : KR sk (m_X11_fewest F (some 100) a b d) (m_X12_fewest F (some 179) a b d) := by
  intro f n z st m C R
  obtain ⟨T, D, sT, sD, sX, tq, iq, S, K, -, ⟨H, ok, -⟩, -⟩ := C
  have h10 := ok.2.1
  have h6 := ok.2.2.2.1
  have ref0 : ¬ (isWh (mH m) a ∧ isWh (mH m) b) → ∀ g, ∃ st', m_X12_fewest F (some 179) a b d (ov g st) = some (-1, ov g st') ∧ RI st' m := by
    intro hw g
    obtain ⟨s1, e1, B1⟩ := rbeg (F := F) (g := g) hF R 0
    refine ⟨s1, ?_, B1.1⟩
    unfold m_X12_fewest
    rw [wI_0, bd_some, ck_e r_isO, bd_e e1, ck_e r_isO, bd_e (rareW_n (by omega) B1.2.2.1 ok hw), if_pos rfl]
  unfold m_X11_fewest
  rw [bd_e (gR_s K rfl), ck_e (isO_e H.1)]
  have dsk : ∃ x, m_X4_deskAt F (some T) d f = some x := by
    rcases outin (k := (hD (mH m)).length) (by omega) d with hd | ⟨k, hk, rfl⟩
    · exact ⟨_, deskAt_no H hd⟩
    · exact ⟨_, deskAt_yes H h6 hk⟩
  rcases wholeAt_p (F := F) H ok a with ⟨wa, ea⟩ | ⟨i, hi, rfl, la, wa, ea⟩
  · refine ⟨-1, ?_, ref0 (fun q => wa q.1)⟩
    obtain ⟨x, hx⟩ := dsk
    rw [bd_e ea, bd_e (gR_s K rfl), ck_e (isO_e H.1)]
    rcases wholeAt_p (F := F) H ok b with ⟨wb, eb⟩ | ⟨j, hj, rfl, lb, wb, eb⟩ <;> rw [bd_e eb, bd_e (gR_s K rfl), ck_e (isO_e H.1), bd_e hx, if_pos rfl]
  · rw [bd_e ea, bd_e (gR_s K rfl), ck_e (isO_e H.1)]
    rcases wholeAt_p (F := F) H ok b with ⟨wb, eb⟩ | ⟨j, hj, rfl, lb, wb, eb⟩
    · refine ⟨-1, ?_, ref0 (fun q => wb q.2)⟩
      obtain ⟨x, hx⟩ := dsk
      rw [bd_e eb, bd_e (gR_s K rfl), ck_e (isO_e H.1), bd_e hx, if_neg (by simp), if_pos rfl]
    · rw [bd_e eb, bd_e (gR_s K rfl), ck_e (isO_e H.1)]
      rcases outin (k := (hD (mH m)).length) (by omega) d with hd | ⟨k, hk, rfl⟩
      · refine ⟨-1, ?_, fun g => ?_⟩
        · rw [bd_e (deskAt_no H hd), if_neg (by simp), if_neg (by simp), if_pos rfl]
        · obtain ⟨s1, e1, B1⟩ := rbeg (F := F) (g := g) hF R 0
          refine ⟨s1, ?_, B1.1⟩
          unfold m_X12_fewest
          rw [wI_0, bd_some, ck_e r_isO, bd_e e1, ck_e r_isO, bd_e (rareW_y (by omega) B1.2.2.1 ok wa wb), if_neg (by decide), ck_e r_isO, bd_e (risDesk_e B1.2.2.1 d), if_pos hd, if_pos rfl]
      · obtain ⟨lim, hdk, hdl⟩ := H.desk hk
        obtain ⟨-, hw, hlim⟩ := ok.2.2.2.2.1 _ (List.getElem_mem hk)
        have hs := stp_le (hC (mH m))[i].2 (hC (mH m))[j].2
        refine ⟨fewI (hD (mH m))[k].1 (hD (mH m))[k].2.1 (stp (hC (mH m))[i].2 (hC (mH m))[j].2), ?_, fun g => ?_⟩
        · rw [bd_e (deskAt_yes H h6 hk), if_neg (by simp), if_neg (by simp), if_neg (by simp), ck_e (isO_e (H.copy hi)), bd_e (stepsTo_e F (H.copy hi) (H.copy hj)), ck_e (isO_e hdk), bd_e (fewestFor_e S (H.desk hk) hw hlim (by omega))]
        · obtain ⟨s1, e1, B1⟩ := rbeg (F := F) (g := g) hF R 0
          obtain ⟨s2, e2, r2⟩ := rfewestOf_e (F := F) (g := g) (by omega) B1.2.2.1 ok hi hj hk
          refine ⟨s2, ?_, (B1.cg (r2.cg.mono (by simp) (by decide) (by simp))).1⟩
          unfold m_X12_fewest
          rw [wI_0, bd_some, ck_e r_isO, bd_e e1, ck_e r_isO, bd_e (rareW_y (by omega) B1.2.2.1 ok wa wb), if_neg (by decide), ck_e r_isO, bd_e (risDesk_e B1.2.2.1 _), if_neg (inin (by omega) hk), if_neg (by decide), ck_e r_isO, bd2_e e2]
theorem takI_0 (lim n : Nat) (k : Int32) : takI 0 lim n k = (!decide (k < nI n) && decide (irm (k - nI n) 2 = 0)) := rfl
theorem takI_1 (lim n : Nat) (k : Int32) : takI 1 lim n k = !decide (k < fewI 1 lim n) := rfl
theorem takI_2 (lim n : Nat) (k : Int32) : takI 2 lim n k = (decide (k = 0) && decide (n = 0)) := rfl
theorem k_just (hF : 200 ≤ F) (a b d k' : Int32) : KR sk (m_X11_just F (some 100) a b d k') (m_X12_just F (some 179) a b d k') := by
  intro f n z st m C R
  obtain ⟨T, D, sT, sD, sX, tq, iq, S, K, -, ⟨H, ok, -⟩, -⟩ := C
  have h10 := ok.2.1
  have h6 := ok.2.2.2.1
  have ref0 : ¬ (isWh (mH m) a ∧ isWh (mH m) b) → ∀ g, ∃ st', m_X12_just F (some 179) a b d k' (ov g st) = some (-1, ov g st') ∧ RI st' m := by
    intro hw g
    obtain ⟨s1, e1, B1⟩ := rbeg (F := F) (g := g) hF R 0
    refine ⟨s1, ?_, B1.1⟩
    unfold m_X12_just
    rw [wI_0, bd_some, ck_e r_isO, bd_e e1, ck_e r_isO, bd_e (rareW_n (by omega) B1.2.2.1 ok hw), if_pos rfl]
  unfold m_X11_just
  rw [bd_e (gR_s K rfl), ck_e (isO_e H.1)]
  have dsk : ∃ x, m_X4_deskAt F (some T) d f = some x := by
    rcases outin (k := (hD (mH m)).length) (by omega) d with hd | ⟨k, hk, rfl⟩
    · exact ⟨_, deskAt_no H hd⟩
    · exact ⟨_, deskAt_yes H h6 hk⟩
  rcases wholeAt_p (F := F) H ok a with ⟨wa, ea⟩ | ⟨i, hi, rfl, la, wa, ea⟩
  · refine ⟨-1, ?_, ref0 (fun q => wa q.1)⟩
    obtain ⟨x, hx⟩ := dsk
    rw [bd_e ea, bd_e (gR_s K rfl), ck_e (isO_e H.1)]
    rcases wholeAt_p (F := F) H ok b with ⟨wb, eb⟩ | ⟨j, hj, rfl, lb, wb, eb⟩ <;> rw [bd_e eb, bd_e (gR_s K rfl), ck_e (isO_e H.1), bd_e hx, if_pos rfl]
  · rw [bd_e ea, bd_e (gR_s K rfl), ck_e (isO_e H.1)]
    rcases wholeAt_p (F := F) H ok b with ⟨wb, eb⟩ | ⟨j, hj, rfl, lb, wb, eb⟩
    · refine ⟨-1, ?_, ref0 (fun q => wb q.2)⟩
      obtain ⟨x, hx⟩ := dsk
      rw [bd_e eb, bd_e (gR_s K rfl), ck_e (isO_e H.1), bd_e hx, if_neg (by simp), if_pos rfl]
    · rw [bd_e eb, bd_e (gR_s K rfl), ck_e (isO_e H.1)]
      rcases outin (k := (hD (mH m)).length) (by omega) d with hd | ⟨k, hk, rfl⟩
      · refine ⟨-1, ?_, fun g => ?_⟩
        · rw [bd_e (deskAt_no H hd), if_neg (by simp), if_neg (by simp), if_pos rfl]
        · obtain ⟨s1, e1, B1⟩ := rbeg (F := F) (g := g) hF R 0
          refine ⟨s1, ?_, B1.1⟩
          unfold m_X12_just
          rw [wI_0, bd_some, ck_e r_isO, bd_e e1, ck_e r_isO, bd_e (rareW_y (by omega) B1.2.2.1 ok wa wb), if_neg (by decide), ck_e r_isO, bd_e (risDesk_e B1.2.2.1 d), if_pos hd, if_pos rfl]
      · obtain ⟨lim, hdk, hdl⟩ := H.desk hk
        obtain ⟨-, hw, hlim⟩ := ok.2.2.2.2.1 _ (List.getElem_mem hk)
        have hs := stp_le (hC (mH m))[i].2 (hC (mH m))[j].2
        by_cases q0 : 0 ≤ k'
        · refine ⟨if takI (hD (mH m))[k].1 (hD (mH m))[k].2.1 (stp (hC (mH m))[i].2 (hC (mH m))[j].2) k' then 1 else 0, ?_, fun g => ?_⟩
          · rw [bd_e (deskAt_yes H h6 hk), if_neg (by simp), if_neg (by simp), if_neg (by simp), if_pos q0, ck_e (isO_e (H.copy hi)), bd_e (stepsTo_e F (H.copy hi) (H.copy hj)), ck_e (isO_e hdk), bd_e (mayTake_e S (H.desk hk) hw hlim (by omega) k')]
            by_cases q : takI (hD (mH m))[k].1 (hD (mH m))[k].2.1 (stp (hC (mH m))[i].2 (hC (mH m))[j].2) k' = true
            · rw [if_pos q, if_neg (by decide)]
            · rw [if_neg q, if_pos rfl]
          · obtain ⟨s1, e1, B1⟩ := rbeg (F := F) (g := g) hF R 0
            obtain ⟨s2, e2, r2⟩ := rfewestOf_e (F := F) (g := g) (by omega) B1.2.2.1 ok hi hj hk
            refine ⟨s2, ?_, (B1.cg (r2.cg.mono (by simp) (by decide) (by simp))).1⟩
            have N2 : NW (sA s2 14) (mH m) := by rw [r2.A (by decide)]; exact B1.2.2.1
            obtain ⟨w1, w2⟩ := N2.2.2.2.2.2.2.1 k hk
            have i1 : (90 : Int32) + (2 : Int32) * nI k = nI (90 + 2 * k) := by rw [← nI_add, ← nI_mul]; rfl
            unfold m_X12_just
            rw [wI_0, bd_some, ck_e r_isO, bd_e e1, ck_e r_isO, bd_e (rareW_y (by omega) B1.2.2.1 ok wa wb), if_neg (by decide), ck_e r_isO, bd_e (risDesk_e B1.2.2.1 _), if_neg (inin (by omega) hk), if_neg (by decide), if_pos q0, ck_e r_isO, bd2_e e2, q14 (by omega) i1, w1]
            unfold m_X12_just_B81 m_X12_just_B120 m_X12_just_B121
            match hd' : (hD (mH m))[k].1, hw with
            | 0, _ =>
              rw [if_pos (by rfl)]
              rw [takI_0]
              show (if k' < nI _ then _ else _) = _
              by_cases q1 : k' < nI (stp (hC (mH m))[i].2 (hC (mH m))[j].2)
              · rw [if_pos q1, if_pos rfl, decide_eq_true q1]; rfl
              · rw [if_neg q1, ck_e (by decide), decide_eq_false q1]
                show (if irm (k' - nI _) 2 = 0 then _ else _) = _
                by_cases q2 : irm (k' - nI (stp (hC (mH m))[i].2 (hC (mH m))[j].2)) 2 = 0
                · rw [if_pos q2, if_neg (by decide), decide_eq_true q2]; rfl
                · rw [if_neg q2, if_pos rfl, decide_eq_false q2]; rfl
            | 1, _ =>
              rw [if_neg (by decide), if_pos (by rfl)]
              rw [takI_1]
              by_cases q1 : k' < fewI 1 (hD (mH m))[k].2.1 (stp (hC (mH m))[i].2 (hC (mH m))[j].2)
              · rw [if_pos q1, if_pos rfl, decide_eq_true q1]; rfl
              · rw [if_neg q1, if_neg (by decide), decide_eq_false q1]; rfl
            | 2, _ =>
              rw [if_neg (by decide), if_neg (by decide)]
              rw [takI_2]
              by_cases q1 : k' = 0
              · rw [if_pos q1, decide_eq_true q1]
                by_cases q2 : stp (hC (mH m))[i].2 (hC (mH m))[j].2 = 0
                · rw [if_pos (by rw [q2]; rfl), if_neg (by decide), decide_eq_true q2]; rfl
                · rw [if_neg (by unfold fewI; rw [if_neg (by decide), if_neg (by decide), if_neg q2]; decide), if_pos rfl, decide_eq_false q2]; rfl
              · rw [if_neg q1, if_pos rfl, decide_eq_false q1]; rfl
        · refine ⟨-1, ?_, fun g => ?_⟩
          · rw [bd_e (deskAt_yes H h6 hk), if_neg (by simp), if_neg (by simp), if_neg (by simp), if_neg q0]
          · obtain ⟨s1, e1, B1⟩ := rbeg (F := F) (g := g) hF R 0
            refine ⟨s1, ?_, B1.1⟩
            unfold m_X12_just
            rw [wI_0, bd_some, ck_e r_isO, bd_e e1, ck_e r_isO, bd_e (rareW_y (by omega) B1.2.2.1 ok wa wb), if_neg (by decide), ck_e r_isO, bd_e (risDesk_e B1.2.2.1 _), if_neg (inin (by omega) hk), if_neg (by decide), if_neg q0]
end MADE
