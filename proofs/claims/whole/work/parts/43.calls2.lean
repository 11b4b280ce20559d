/-! calls that read the HOUSE alone -/
variable {sk : Nat}
theorem isW_e {F : Nat} {f : Hp} {k : Nat} (hk : k + 1 < 2 ^ 31) {M : Int32} (hM : M = nI k) (c : Int32) : m_X11_isWithin F c M f = some (if c < 0 ∨ nI (k + 1) ≤ c then 0 else 1) := by
  unfold m_X11_isWithin
  subst hM
  by_cases q : c < 0
  · rw [if_pos q, ck_e (by decide), if_pos (Or.inl q)]
  · obtain ⟨j, hj, rfl⟩ := (i_cases c).resolve_left q
    rw [if_neg q]
    rcases Nat.lt_or_ge k j with q1 | q1
    · rw [if_pos (nI_lt q1 (by omega)), ck_e (by decide), if_pos (Or.inr (nI_le q1 hj))]
    · rw [if_neg (nI_nlt q1 (by omega)), ck_e (by decide), if_neg (inin (by omega) (by omega))]
theorem risIn {F : Nat} {f : Hp} {k : Nat} (hk : k + 1 < 2 ^ 31) {M : Int32} (hM : M = nI k) (c : Int32) : m_X12_isIn F c 0 M f = some (if c < 0 ∨ nI (k + 1) ≤ c then 0 else 1) := by
  unfold m_X12_isIn
  subst hM
  by_cases q : c < 0
  · rw [if_pos q, ck_e (by decide), if_pos (Or.inl q)]
  · obtain ⟨j, hj, rfl⟩ := (i_cases c).resolve_left q
    rw [if_neg q]
    rcases Nat.lt_or_ge k j with q1 | q1
    · rw [if_pos (nI_lt q1 (by omega)), ck_e (by decide), if_pos (Or.inr (nI_le q1 hj))]
    · rw [if_neg (nI_nlt q1 (by omega)), ck_e (by decide), if_neg (inin (by omega) (by omega))]
section RMAKE
variable {F : Nat} {g : Hp} {st : RS} {h : HS}
theorem rmayMake_e (hF : 8 ≤ F) (N : NW (sA st 14) h) (ok : okH h) {a b d : Nat} (ha : a < (hC h).length) (hb : b < (hC h).length) (hd : d < (hD h).length) : ∃ st', m_X12_mayMake F (some 179) (nI a) (nI b) (nI d) (ov g st) = some (if makB (hD h)[d].1 (hD h)[d].2.1 (hC h)[a].2 (hC h)[b].2 then 1 else 0, ov g st') ∧ Rs [26, 27] st st' := by
  obtain ⟨s1, e1, r1, pa, pb⟩ := layCopies_e (F := F) (g := g) hF N ok ha hb
  have N1 : NW (sA s1 14) h := by rw [r1.A (by decide)]; exact N
  obtain ⟨-, hA, hA2, hA3⟩ := ok.2.2.1 _ (List.getElem_mem ha)
  obtain ⟨-, hB, hB2, hB3⟩ := ok.2.2.1 _ (List.getElem_mem hb)
  obtain ⟨-, hw, hlim⟩ := ok.2.2.2.2.1 _ (List.getElem_mem hd)
  have h7 := ok.1.2
  have hdl := ok.2.2.2.1
  have hsl := stp_le (hC h)[a].2 (hC h)[b].2
  have hfl := fal_le (hC h)[a].2 (hC h)[b].2
  have la := okL_len hA
  have lb := okL_len hB
  obtain ⟨w1, w2⟩ := N1.2.2.2.2.2.2.1 d hd
  have i1 : (90 : Int32) + (2 : Int32) * nI d = nI (90 + 2 * d) := by rw [← nI_add, ← nI_mul]; rfl
  have i2 : (90 : Int32) + (2 : Int32) * nI d + (1 : Int32) = nI (90 + 2 * d + 1) := by rw [i1, nI_1]
  have es := rsteps_e (F := F) (g := g) N1 h7 hF hA hB hA2 pa pb
  have ef := rfallen_e (F := F) (g := g) N1 h7 hF hA hB hA2 hB2 pa pb
  have ea := rsizeOf_e (F := F) (g := g) N1 ok ha
  have eb := rsizeOf_e (F := F) (g := g) N1 ok hb
  refine ⟨s1, ?_, r1⟩
  unfold m_X12_mayMake
  rw [ck_e r_isO, bd_e e1, q14 (by omega) i1, w1]
  match hd' : (hD h)[d].1, hw with
  | 0, _ =>
    rw [if_neg (by decide), ck_e r_isO, bd_e ef]
    by_cases q : fal (hC h)[a].2 (hC h)[b].2 = 0
    · rw [if_pos (by rw [q]; rfl), if_pos (by rfl), ck_e r_isO, bd_e es]
      by_cases q2 : stp (hC h)[a].2 (hC h)[b].2 = 1
      · rw [if_pos ((nI_is1 (by omega)).mpr q2), ck_e (by decide)]
        simp [makB, q, q2]
      · rw [if_neg (fun e => q2 ((nI_is1 (by omega)).mp e)), ck_e (by decide)]
        simp [makB, q, q2]
    · rw [if_neg (nI_ne0 (by omega) (by omega)), ck_e (by decide)]
      simp [makB, q]
  | 1, _ =>
    have hl := hlim hd'
    rw [if_neg (by decide), ck_e r_isO, bd_e ef]
    by_cases q : fal (hC h)[a].2 (hC h)[b].2 = 0
    · rw [if_pos (by rw [q]; rfl), if_neg (by decide), ck_e r_isO, bd_e es, q14 (by omega) i2, w2 hd']
      by_cases q2 : stp (hC h)[a].2 (hC h)[b].2 ≤ (hD h)[d].2.1
      · rw [if_neg (nI_nlt q2 (by omega)), ck_e (by decide)]
        simp [makB, q, q2]
      · rw [if_pos (nI_lt (by omega) (by omega)), ck_e (by decide)]
        simp [makB, q, q2]
    · rw [if_neg (nI_ne0 (by omega) (by omega)), ck_e (by decide)]
      simp [makB, q]
  | 2, _ =>
    rw [if_pos (by decide), ck_e r_isO, bd_e eb, ck_e r_isO, bd_e ea, nI_m1 (by omega)]
    by_cases q : (hC h)[b].2.length + 1 = (hC h)[a].2.length
    · rw [if_pos (by rw [show (hC h)[b].2.length = (hC h)[a].2.length - 1 by omega]), ck_e r_isO, bd_e ef]
      by_cases q1 : fal (hC h)[a].2 (hC h)[b].2 = 1
      · rw [if_pos ((nI_is1 (by omega)).mpr q1), ck_e r_isO, bd_e es]
        by_cases q2 : stp (hC h)[a].2 (hC h)[b].2 = 0
        · rw [if_pos (by rw [q2]; rfl), ck_e (by decide)]
          simp [makB, q, q1, q2]
        · rw [if_neg (nI_ne0 (by omega) (by omega)), ck_e (by decide)]
          simp [makB, q, q1, q2]
      · rw [if_neg (fun e => q1 ((nI_is1 (by omega)).mp e)), ck_e (by decide)]
        simp [makB, q, q1]
    · rw [if_neg (fun e => q (by have := (nI_eq (by omega) (by omega)).mp e; omega)), ck_e (by decide)]
      simp [makB, q]
theorem rareWhole_e (hF : 8 ≤ F) (N : NW (sA st 14) h) (ok : okH h) (a b : Int32) : m_X12_areWhole F (some 179) a b (ov g st) = some (if (∃ i, ∃ hi : i < (hC h).length, a = nI i ∧ (hC h)[i].2.length = hN h) ∧ ∃ j, ∃ hj : j < (hC h).length, b = nI j ∧ (hC h)[j].2.length = hN h then 1 else 0) := by
  have h10 := ok.2.1
  have h7 := ok.1.2
  have wh : ∀ {i : Nat} (hi : i < (hC h).length), m_X12_isWhole F (some 179) (nI i) (ov g st) = some (if (hC h)[i].2.length = hN h then 1 else 0) := by
    intro i hi
    obtain ⟨-, hA, -⟩ := ok.2.2.1 _ (List.getElem_mem hi)
    have := okL_len hA
    unfold m_X12_isWhole
    rw [ck_e r_isO, bd_e (rsizeOf_e N ok hi), ck_e r_isO, bd_e (rlines_e N)]
    by_cases q : (hC h)[i].2.length = hN h
    · rw [if_pos (by rw [q]), ck_e (by decide), if_pos q]
    · rw [if_neg (fun e => q ((nI_eq (by omega) (by omega)).mp e)), ck_e (by decide), if_neg q]
  have no : ∀ {c : Int32}, (c < 0 ∨ nI (hC h).length ≤ c) → ∀ i, i < (hC h).length → c ≠ nI i := by
    rintro c hc i hi rfl
    exact inin (by omega) hi hc
  unfold m_X12_areWhole
  rw [ck_e r_isO, bd_e (risCopy_e N ok a)]
  rcases outin (k := (hC h).length) (by omega) a with ha | ⟨i, hi, rfl⟩
  · rw [if_pos ha, if_pos rfl, ck_e (by decide), if_neg]
    rintro ⟨⟨i, hi, e, -⟩, -⟩
    exact no ha i hi e
  · rw [if_neg (inin (by omega) hi), if_neg (by decide), ck_e r_isO, bd_e (risCopy_e N ok b)]
    rcases outin (k := (hC h).length) (by omega) b with hb | ⟨j, hj, rfl⟩
    · rw [if_pos hb, if_pos rfl, ck_e (by decide), if_neg]
      rintro ⟨-, j, hj, e, -⟩
      exact no hb j hj e
    · rw [if_neg (inin (by omega) hj), if_neg (by decide), ck_e r_isO, bd_e (wh hi)]
      by_cases q : (hC h)[i].2.length = hN h
      · rw [if_pos q, if_neg (by decide), ck_e r_isO, bd_e (wh hj)]
        by_cases q2 : (hC h)[j].2.length = hN h
        · rw [if_pos q2, if_neg (by decide), ck_e (by decide), if_pos ⟨⟨i, hi, rfl, q⟩, j, hj, rfl, q2⟩]
        · rw [if_neg q2, if_pos rfl, ck_e (by decide), if_neg]
          rintro ⟨-, j', hj', e, e2⟩
          have := (nI_eq (by omega) (by omega)).mp e
          subst this
          exact q2 e2
      · rw [if_neg q, if_pos rfl, ck_e (by decide), if_neg]
        rintro ⟨⟨i', hi', e, e2⟩, -⟩
        have := (nI_eq (by omega) (by omega)).mp e
        subst this
        exact q e2
theorem rfewestOf_e (hF : 8 ≤ F) (N : NW (sA st 14) h) (ok : okH h) {a b d : Nat} (ha : a < (hC h).length) (hb : b < (hC h).length) (hd : d < (hD h).length) : ∃ st', m_X12_fewestOf F (some 179) (nI a) (nI b) (nI d) (ov g st) = some (fewI (hD h)[d].1 (hD h)[d].2.1 (stp (hC h)[a].2 (hC h)[b].2), ov g st') ∧ Rs [26, 27] st st' := by
  obtain ⟨s1, e1, r1, pa, pb⟩ := layCopies_e (F := F) (g := g) hF N ok ha hb
  have N1 : NW (sA s1 14) h := by rw [r1.A (by decide)]; exact N
  obtain ⟨-, hA, hA2, hA3⟩ := ok.2.2.1 _ (List.getElem_mem ha)
  obtain ⟨-, hB, hB2, hB3⟩ := ok.2.2.1 _ (List.getElem_mem hb)
  obtain ⟨-, hw, hlim⟩ := ok.2.2.2.2.1 _ (List.getElem_mem hd)
  have h7 := ok.1.2
  have hdl := ok.2.2.2.1
  have hsl := stp_le (hC h)[a].2 (hC h)[b].2
  obtain ⟨w1, w2⟩ := N1.2.2.2.2.2.2.1 d hd
  have i1 : (90 : Int32) + (2 : Int32) * nI d = nI (90 + 2 * d) := by rw [← nI_add, ← nI_mul]; rfl
  have i2 : (90 : Int32) + (2 : Int32) * nI d + (1 : Int32) = nI (90 + 2 * d + 1) := by rw [i1, nI_1]
  have es := rsteps_e (F := F) (g := g) N1 h7 hF hA hB hA2 pa pb
  refine ⟨s1, ?_, r1⟩
  unfold m_X12_fewestOf
  rw [ck_e r_isO, bd_e e1, ck_e r_isO, bd_e es, q14 (by omega) i1, q14 (by omega) i2, w1]
  match hd' : (hD h)[d].1, hw with
  | 0, _ => rw [if_pos (by rfl)]; rfl
  | 1, _ =>
    have hl := hlim hd'
    rw [if_neg (by decide), if_pos (by rfl), w2 hd', ck_e (decide_eq_true (nI_ne0 (by omega) (by omega))), nI_add, nI_m1 (by omega), pk_div (by omega) (by omega) (by omega)]
    rfl
  | 2, _ =>
    rw [if_neg (by decide), if_neg (by decide)]
    by_cases q : stp (hC h)[a].2 (hC h)[b].2 = 0
    · rw [if_pos (by rw [q]; rfl)]
      simp [fewI, q]
    · rw [if_neg (nI_ne0 (by omega) (by omega))]
      simp [fewI, q]
end RMAKE
section CALLS2
variable {F : Nat}
theorem k_size (hF : 200 ≤ F) (c : Int32) : KR sk (m_X11_size F (some 100) c) (m_X12_size F (some 179) c) := by
  intro f n z st m C R
  obtain ⟨T, D, sT, sD, sX, tq, iq, S, K, -, ⟨H, ok, -⟩, -⟩ := C
  have h10 := ok.2.1
  unfold m_X11_size
  rw [bd_e (gR_s K rfl), ck_e (isO_e H.1)]
  rcases outin (k := (hC (mH m)).length) (by omega) c with hi | ⟨j, hj, rfl⟩
  · refine ⟨-1, ?_, fun g => ?_⟩
    · rw [bd_e (copyAt_no H hi), if_pos rfl]
    · obtain ⟨s1, e1, B1⟩ := rbeg (F := F) (g := g) hF R 0
      refine ⟨s1, ?_, B1.1⟩
      unfold m_X12_size
      rw [wI_0, bd_some, ck_e r_isO, bd_e e1, ck_e r_isO, bd_e (risCopy_e B1.2.2.1 ok c), if_pos hi, if_pos rfl]
  · refine ⟨nI (hC (mH m))[j].2.length, ?_, fun g => ?_⟩
    · rw [bd_e (copyAt_yes H h10 hj), if_neg (by simp), bd_e (gI_e (H.copy hj) rfl)]
    · obtain ⟨s1, e1, B1⟩ := rbeg (F := F) (g := g) hF R 0
      refine ⟨s1, ?_, B1.1⟩
      unfold m_X12_size
      rw [wI_0, bd_some, ck_e r_isO, bd_e e1, ck_e r_isO, bd_e (risCopy_e B1.2.2.1 ok _), if_neg (inin (by omega) hj), if_neg (by decide), ck_e r_isO, bd_e (rsizeOf_e B1.2.2.1 ok hj)]
theorem k_count (hF : 200 ≤ F) (c : Int32) : KR sk (m_X11_count F (some 100) c) (m_X12_count F (some 179) c) := by
  intro f n z st m C R
  obtain ⟨T, D, sT, sD, sX, tq, iq, S, K, -, ⟨H, ok, -⟩, -⟩ := C
  have h7 := ok.1.2
  have h2 := ok.1.1
  unfold m_X11_count
  have key : ∀ v, (∀ g s1, RB s1 m → (if c = (0 : Int32) then (chk (isO (ov g s1) (some 179) 10) <| (m_X12_lines F (some 179) (ov g s1)).bind fun x6 => some (x6, (ov g s1))) else if c = (1 : Int32) then (chk (isO (ov g s1) (some 179) 10) <| (m_X12_copies F (some 179) (ov g s1)).bind fun x9 => some (x9, (ov g s1))) else if c = (2 : Int32) then ((gR (ov g s1) (some 179) 10 14).bind fun x11 => (ldI (ov g s1) 1 x11 (2 : Int32)).bind fun x12 => some (x12, (ov g s1))) else if c = (3 : Int32) then (chk (isO (ov g s1) (some 179) 10) <| (m_X12_orders F (some 179) (ov g s1)).bind fun x15 => some (x15, (ov g s1))) else if c = (4 : Int32) then ((gR (ov g s1) (some 179) 10 14).bind fun x17 => (ldI (ov g s1) 1 x17 (3 : Int32)).bind fun x18 => some (x18, (ov g s1))) else if c = (5 : Int32) then ((gR (ov g s1) (some 179) 10 14).bind fun x20 => (ldI (ov g s1) 1 x20 (4 : Int32)).bind fun x21 => some (x21, (ov g s1))) else if c = (6 : Int32) then ((gI (ov g s1) (some 179) 10 2).bind fun x23 => some (x23, (ov g s1))) else (some ((-1 : Int32), (ov g s1)))) = some (v, ov g s1)) → ∀ g, ∃ st', m_X12_count F (some 179) c (ov g st) = some (v, ov g st') ∧ RI st' m := by
    intro v hv g
    obtain ⟨s1, e1, B1⟩ := rbeg (F := F) (g := g) hF R 0
    refine ⟨s1, ?_, B1.1⟩
    unfold m_X12_count
    rw [wI_0, bd_some, ck_e r_isO, bd_e e1]
    exact hv g s1 B1
  by_cases c0 : c = 0
  · refine ⟨nI (hN (mH m)), ?_, key _ (fun g s1 B1 => ?_)⟩
    · rw [if_pos c0, bd_e (gR_s K rfl), bd_e (gI_e H.1 rfl)]
    · rw [if_pos c0, ck_e r_isO, bd_e (rlines_e B1.2.2.1)]
  by_cases c1 : c = 1
  · refine ⟨nI (hC (mH m)).length, ?_, key _ (fun g s1 B1 => ?_)⟩
    · rw [if_neg c0, if_pos c1, bd_e (gR_s K rfl), bd_e (gI_e H.1 rfl)]
    · rw [if_neg c0, if_pos c1, ck_e r_isO, bd_e (rcopies_e B1.2.2.1)]
  by_cases c2 : c = 2
  · refine ⟨nI (hD (mH m)).length, ?_, key _ (fun g s1 B1 => ?_)⟩
    · rw [if_neg c0, if_neg c1, if_pos c2, bd_e (gR_s K rfl), bd_e (gI_e H.1 rfl)]
    · rw [if_neg c0, if_neg c1, if_pos c2, q14 (j := 2) (i := 2) (by omega) rfl, B1.2.2.1.2.2.1]
  by_cases c3 : c = 3
  · refine ⟨nI (fct (hN (mH m))), ?_, key _ (fun g s1 B1 => ?_)⟩
    · rw [if_neg c0, if_neg c1, if_neg c2, if_pos c3, bd_e (gR_s K rfl), bd_e (gI_e H.1 rfl), bd_e (factorial_e S (by omega))]
    · rw [if_neg c0, if_neg c1, if_neg c2, if_pos c3, ck_e r_isO, bd_e (rorders_e B1.2.2.1 (by omega) h7 (by omega))]
  by_cases c4 : c = 4
  · refine ⟨nI (hS (mH m)).length, ?_, key _ (fun g s1 B1 => ?_)⟩
    · rw [if_neg c0, if_neg c1, if_neg c2, if_neg c3, if_pos c4, bd_e (gR_s K rfl), bd_e (gI_e H.1 rfl)]
    · rw [if_neg c0, if_neg c1, if_neg c2, if_neg c3, if_pos c4, q14 (j := 3) (i := 3) (by omega) rfl, B1.2.2.1.2.2.2.1]
  by_cases c5 : c = 5
  · refine ⟨nI (hR (mH m)).length, ?_, key _ (fun g s1 B1 => ?_)⟩
    · rw [if_neg c0, if_neg c1, if_neg c2, if_neg c3, if_neg c4, if_pos c5, bd_e (gR_s K rfl), bd_e (gI_e H.1 rfl)]
    · rw [if_neg c0, if_neg c1, if_neg c2, if_neg c3, if_neg c4, if_pos c5, q14 (j := 4) (i := 4) (by omega) rfl, B1.2.2.1.2.2.2.2.1]
  by_cases c6 : c = 6
  · refine ⟨nI (mT m), ?_, key _ (fun g s1 B1 => ?_)⟩
    · rw [if_neg c0, if_neg c1, if_neg c2, if_neg c3, if_neg c4, if_neg c5, if_pos c6, bd_e (gI_e K rfl)]
    · rw [if_neg c0, if_neg c1, if_neg c2, if_neg c3, if_neg c4, if_neg c5, if_pos c6, rI_2, bd_some, B1.1.2.1.2]
  · refine ⟨-1, ?_, key _ (fun g s1 B1 => ?_)⟩
    · rw [if_neg c0, if_neg c1, if_neg c2, if_neg c3, if_neg c4, if_neg c5, if_neg c6]
    · rw [if_neg c0, if_neg c1, if_neg c2, if_neg c3, if_neg c4, if_neg c5, if_neg c6]
theorem k_between (hF : 200 ≤ F) (a b c : Int32) : KR sk (m_X11_between F (some 100) a b c) (m_X12_between F (some 179) a b c) := by
  intro f n z st m C R
  obtain ⟨T, D, sT, sD, sX, tq, iq, S, K, -, ⟨H, ok, -⟩, -⟩ := C
  have h10 := ok.2.1
  have h7 := ok.1.2
  unfold m_X11_between
  have ref : ∀ v, (∀ g s1, RB s1 m → ∃ s2, ((m_X12_isCopy F (some 179) a (ov g s1)).bind fun x5 => if x5 = 0 then (some ((-1 : Int32), (ov g s1))) else (chk (isO (ov g s1) (some 179) 10) <| (m_X12_isCopy F (some 179) b (ov g s1)).bind fun x8 => if x8 = 0 then (some ((-1 : Int32), (ov g s1))) else ((m_X12_isIn F c (0 : Int32) (2 : Int32) (ov g s1)).bind fun x10 => if x10 = 0 then (some ((-1 : Int32), (ov g s1))) else (chk (isO (ov g s1) (some 179) 10) <| (m_X12_layCopies F (some 179) a b (ov g s1)).bind fun f13 => if c = 0 then (chk (isO f13 (some 179) 10) <| (m_X12_steps F (some 179) f13).bind fun x21 => some (x21, f13)) else (if c = (1 : Int32) then (chk (isO f13 (some 179) 10) <| (m_X12_fallen F (some 179) f13).bind fun x19 => some (x19, f13)) else (chk (isO f13 (some 179) 10) <| (m_X12_far F (some 179) f13).bind fun x17 => some (x17, f13))))))) = some (v, ov g s2) ∧ Rs [26, 27] s1 s2) → ∀ g, ∃ st', m_X12_between F (some 179) a b c (ov g st) = some (v, ov g st') ∧ RI st' m := by
    intro v hv g
    obtain ⟨s1, e1, B1⟩ := rbeg (F := F) (g := g) hF R 0
    obtain ⟨s2, e2, r2⟩ := hv g s1 B1
    refine ⟨s2, ?_, (B1.cg (r2.cg.mono (by simp) (by decide) (by simp))).1⟩
    unfold m_X12_between
    rw [wI_0, bd_some, ck_e r_isO, bd_e e1, ck_e r_isO]
    exact e2
  rw [bd_e (gR_s K rfl), ck_e (isO_e H.1)]
  rcases outin (k := (hC (mH m)).length) (by omega) a with ha | ⟨i, hi, rfl⟩
  · refine ⟨-1, ?_, ref _ (fun g s1 B1 => ⟨s1, ?_, Rs.refl _ _⟩)⟩
    · rw [bd_e (copyAt_no H ha), bd_e (gR_s K rfl), ck_e (isO_e H.1)]
      rcases outin (k := (hC (mH m)).length) (by omega) b with hb | ⟨j, hj, rfl⟩
      · rw [bd_e (copyAt_no H hb), if_pos rfl]
      · rw [bd_e (copyAt_yes H h10 hj), if_pos rfl]
    · rw [bd_e (risCopy_e B1.2.2.1 ok a), if_pos ha, if_pos rfl]
  · rw [bd_e (copyAt_yes H h10 hi), bd_e (gR_s K rfl), ck_e (isO_e H.1)]
    rcases outin (k := (hC (mH m)).length) (by omega) b with hb | ⟨j, hj, rfl⟩
    · refine ⟨-1, ?_, ref _ (fun g s1 B1 => ⟨s1, ?_, Rs.refl _ _⟩)⟩
      · rw [bd_e (copyAt_no H hb), if_neg (by simp), if_pos rfl]
      · rw [bd_e (risCopy_e B1.2.2.1 ok _), if_neg (inin (by omega) hi), if_neg (by decide), ck_e r_isO, bd_e (risCopy_e B1.2.2.1 ok b), if_pos hb, if_pos rfl]
    · obtain ⟨-, hA, hA2, hA3⟩ := ok.2.2.1 _ (List.getElem_mem hi)
      obtain ⟨-, hB, hB2, hB3⟩ := ok.2.2.1 _ (List.getElem_mem hj)
      rw [bd_e (copyAt_yes H h10 hj), if_neg (by simp), if_neg (by simp)]
      have hc1 := H.copy hi
      have hc2 := H.copy hj
      rcases outin (k := 3) (by omega) c with hc | ⟨w, hw, rfl⟩
      · refine ⟨-1, ?_, ref _ (fun g s1 B1 => ⟨s1, ?_, Rs.refl _ _⟩)⟩
        · rw [if_neg (fun e => by rw [e] at hc; revert hc; decide), if_neg (fun e => by rw [e] at hc; revert hc; decide), if_neg (fun e => by rw [e] at hc; revert hc; decide)]
        · rw [bd_e (risCopy_e B1.2.2.1 ok _), if_neg (inin (by omega) hi), if_neg (by decide), ck_e r_isO, bd_e (risCopy_e B1.2.2.1 ok _), if_neg (inin (by omega) hj), if_neg (by decide), bd_e (risIn (k := 2) (M := 2) (by omega) rfl c), if_pos hc, if_pos rfl]
      · have hin : m_X12_isIn F (nI w) 0 2 = fun f => some 1 := by
          funext f
          rw [risIn (k := 2) (M := 2) (by omega) rfl, if_neg (inin (by omega) hw)]
        match w, hw with
        | 0, _ =>
          refine ⟨nI (stp (hC (mH m))[i].2 (hC (mH m))[j].2), ?_, ref _ (fun g s1 B1 => ?_)⟩
          · rw [if_pos (by rfl), ck_e (isO_e hc1), bd_e (stepsTo_e F hc1 hc2)]
          · obtain ⟨s2, e2, r2, pa, pb⟩ := layCopies_e (F := F) (g := g) (by omega) B1.2.2.1 ok hi hj
            refine ⟨s2, ?_, r2⟩
            rw [bd_e (risCopy_e B1.2.2.1 ok _), if_neg (inin (by omega) hi), if_neg (by decide), ck_e r_isO, bd_e (risCopy_e B1.2.2.1 ok _), if_neg (inin (by omega) hj), if_neg (by decide), bd_e (congrFun hin _), if_neg (by decide), ck_e r_isO, bd_e e2, if_pos (by rfl), ck_e r_isO, bd_e (rsteps_e (by rw [r2.A (by decide)]; exact B1.2.2.1) h7 (by omega) hA hB hA2 pa pb)]
        | 1, _ =>
          refine ⟨nI (fal (hC (mH m))[i].2 (hC (mH m))[j].2), ?_, ref _ (fun g s1 B1 => ?_)⟩
          · rw [if_neg (by decide), if_pos (by rfl), ck_e (isO_e hc1), bd_e (fallenTo_e F hc1 hc2)]
          · obtain ⟨s2, e2, r2, pa, pb⟩ := layCopies_e (F := F) (g := g) (by omega) B1.2.2.1 ok hi hj
            refine ⟨s2, ?_, r2⟩
            rw [bd_e (risCopy_e B1.2.2.1 ok _), if_neg (inin (by omega) hi), if_neg (by decide), ck_e r_isO, bd_e (risCopy_e B1.2.2.1 ok _), if_neg (inin (by omega) hj), if_neg (by decide), bd_e (congrFun hin _), if_neg (by decide), ck_e r_isO, bd_e e2, if_neg (by decide), if_pos (by rfl), ck_e r_isO, bd_e (rfallen_e (by rw [r2.A (by decide)]; exact B1.2.2.1) h7 (by omega) hA hB hA2 hB2 pa pb)]
        | 2, _ =>
          refine ⟨nI (stp (hC (mH m))[i].2 (hC (mH m))[j].2 + 3 * fal (hC (mH m))[i].2 (hC (mH m))[j].2), ?_, ref _ (fun g s1 B1 => ?_)⟩
          · rw [if_neg (by decide), if_neg (by decide), if_pos (by rfl), ck_e (isO_e hc1), bd_e (farTo_e F hc1 hc2)]
          · obtain ⟨s2, e2, r2, pa, pb⟩ := layCopies_e (F := F) (g := g) (by omega) B1.2.2.1 ok hi hj
            refine ⟨s2, ?_, r2⟩
            rw [bd_e (risCopy_e B1.2.2.1 ok _), if_neg (inin (by omega) hi), if_neg (by decide), ck_e r_isO, bd_e (risCopy_e B1.2.2.1 ok _), if_neg (inin (by omega) hj), if_neg (by decide), bd_e (congrFun hin _), if_neg (by decide), ck_e r_isO, bd_e e2, if_neg (by decide), if_neg (by decide), ck_e r_isO, bd_e (rfar_e (by rw [r2.A (by decide)]; exact B1.2.2.1) h7 (by omega) hA hB hA2 hB2 pa pb)]
end CALLS2
