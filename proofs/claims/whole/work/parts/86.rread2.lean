/-! the reference's HOUSE told on -/
section NWADD
variable {nw nw' : Nat → Int32} {h : HS}
theorem NW.fr (N : NW nw h) (ok : okH h) (f : ∀ j, j < 170 → ¬ (10 + 8 * (hC h).length ≤ j ∧ j < 90) → ¬ (90 + 2 * (hD h).length ≤ j ∧ j < 102) → ¬ (110 + 2 * (hS h).length ≤ j ∧ j < 134) → ¬ (134 + 3 * (hR h).length ≤ j ∧ j < 170) → nw' j = nw j) : NW nw' h := by
  obtain ⟨n0, n1, n2, n3, n4, n5, n6, n7, n8, n9⟩ := N
  have l1 := ok.2.1
  have l2 := ok.2.2.2.1
  have l3 := ok.2.2.2.2.2.2.1
  have l4 := ok.2.2.2.2.2.2.2.2.1
  refine ⟨?_, ?_, ?_, ?_, ?_, fun i hi => ?_, fun d hd => ?_, fun p hp => ?_, fun k hk => ?_, fun k hk => ?_⟩
  · rw [f _ (by omega) (by omega) (by omega) (by omega) (by omega)]; exact n0
  · rw [f _ (by omega) (by omega) (by omega) (by omega) (by omega)]; exact n1
  · rw [f _ (by omega) (by omega) (by omega) (by omega) (by omega)]; exact n2
  · rw [f _ (by omega) (by omega) (by omega) (by omega) (by omega)]; exact n3
  · rw [f _ (by omega) (by omega) (by omega) (by omega) (by omega)]; exact n4
  · obtain ⟨u1, u2⟩ := n5 i hi
    have hl := okL_len (ok.2.2.1 _ (List.getElem_mem hi)).2.1
    exact ⟨by rw [f _ (by omega) (by omega) (by omega) (by omega) (by omega)]; exact u1, fun j hj => by rw [f _ (by omega) (by omega) (by omega) (by omega) (by omega)]; exact u2 j hj⟩
  · obtain ⟨u1, u2⟩ := n6 d hd
    exact ⟨by rw [f _ (by omega) (by omega) (by omega) (by omega) (by omega)]; exact u1, fun q => by rw [f _ (by omega) (by omega) (by omega) (by omega) (by omega)]; exact u2 q⟩
  · rw [f _ (by omega) (by omega) (by omega) (by omega) (by omega)]; exact n7 p hp
  · obtain ⟨u1, u2⟩ := n8 k hk
    exact ⟨by rw [f _ (by omega) (by omega) (by omega) (by omega) (by omega)]; exact u1, by rw [f _ (by omega) (by omega) (by omega) (by omega) (by omega)]; exact u2⟩
  · obtain ⟨u1, u2, u3⟩ := n9 k hk
    exact ⟨by rw [f _ (by omega) (by omega) (by omega) (by omega) (by omega)]; exact u1, by rw [f _ (by omega) (by omega) (by omega) (by omega) (by omega)]; exact u2, by rw [f _ (by omega) (by omega) (by omega) (by omega) (by omega)]; exact u3⟩
theorem NW.addD' {d : Nat × Nat × List Nat} (N : NW nw h) (ok : okH h) (l6 : (hD h).length < 6) (e1 : nw' 2 = nI ((hD h).length + 1)) (e2 : nw' (90 + 2 * (hD h).length) = nI d.1) (e3 : d.1 = 1 → nw' (90 + 2 * (hD h).length + 1) = nI d.2.1) (fr : ∀ j, j ≠ 2 → j ≠ 90 + 2 * (hD h).length → j ≠ 90 + 2 * (hD h).length + 1 → nw' j = nw j) : NW nw' (adD h d) := by
  obtain ⟨n0, n1, n2, n3, n4, n5, n6, n7, n8, n9⟩ := N
  have l1 := ok.2.1
  have ll : (hD (adD h d)).length = (hD h).length + 1 := len1 _ _
  refine ⟨?_, ?_, ?_, ?_, ?_, fun i (hi : i < (hC h).length) => ?_, fun i hi => ?_, fun p hp => ?_, fun k hk => ?_, fun k hk => ?_⟩
  · rw [fr _ (by omega) (by omega) (by omega)]; exact n0
  · rw [fr _ (by omega) (by omega) (by omega)]; exact n1
  · rw [ll]; exact e1
  · rw [fr _ (by omega) (by omega) (by omega)]; exact n3
  · rw [fr _ (by omega) (by omega) (by omega)]; exact n4
  · obtain ⟨u1, u2⟩ := n5 i hi
    have hl := okL_len (ok.2.2.1 _ (List.getElem_mem hi)).2.1
    exact ⟨by rw [fr _ (by omega) (by omega) (by omega)]; exact u1, fun j (hj : j < (hC h)[i].2.length) => by rw [fr _ (by omega) (by omega) (by omega)]; exact u2 j hj⟩
  · by_cases e : i < (hD h).length
    · obtain ⟨u1, u2⟩ := n6 i e
      have ee : (hD (adD h d))[i] = (hD h)[i] := gE_l hi e
      rw [ee]
      exact ⟨by rw [fr _ (by omega) (by omega) (by omega)]; exact u1, fun q => by rw [fr _ (by omega) (by omega) (by omega)]; exact u2 q⟩
    · have ee : (hD (adD h d))[i] = d := gE_r hi e
      rw [ee, show i = (hD h).length by omega]
      exact ⟨e2, e3⟩
  · rw [fr _ (by omega) (by omega) (by omega)]; exact n7 p hp
  · obtain ⟨u1, u2⟩ := n8 k hk
    exact ⟨by rw [fr _ (by omega) (by omega) (by omega)]; exact u1, by rw [fr _ (by omega) (by omega) (by omega)]; exact u2⟩
  · obtain ⟨u1, u2, u3⟩ := n9 k hk
    exact ⟨by rw [fr _ (by omega) (by omega) (by omega)]; exact u1, by rw [fr _ (by omega) (by omega) (by omega)]; exact u2, by rw [fr _ (by omega) (by omega) (by omega)]; exact u3⟩
theorem NW.stW' {p w : Nat} (N : NW nw h) (ok : okH h) (hp : p < 6) (e : nw' (102 + p) = nI w) (fr : ∀ j, j ≠ 102 + p → nw' j = nw j) : NW nw' (stW h p w) := by
  obtain ⟨n0, n1, n2, n3, n4, n5, n6, n7, n8, n9⟩ := N
  have l1 := ok.2.1
  have l2 := ok.2.2.2.1
  refine ⟨?_, ?_, ?_, ?_, ?_, fun i (hi : i < (hC h).length) => ?_, fun d (hd : d < (hD h).length) => ?_, fun i hi => ?_, fun k hk => ?_, fun k hk => ?_⟩
  · rw [fr _ (by omega)]; exact n0
  · rw [fr _ (by omega)]; exact n1
  · rw [fr _ (by omega)]; exact n2
  · rw [fr _ (by omega)]; exact n3
  · rw [fr _ (by omega)]; exact n4
  · obtain ⟨u1, u2⟩ := n5 i hi
    have hl := okL_len (ok.2.2.1 _ (List.getElem_mem hi)).2.1
    exact ⟨by rw [fr _ (by omega)]; exact u1, fun j (hj : j < (hC h)[i].2.length) => by rw [fr _ (by omega)]; exact u2 j hj⟩
  · obtain ⟨u1, u2⟩ := n6 d hd
    exact ⟨by rw [fr _ (by omega)]; exact u1, fun q => by rw [fr _ (by omega)]; exact u2 q⟩
  · show nw' (102 + i) = nI (updN (hW h) p w i)
    unfold updN
    by_cases c : i = p
    · rw [if_pos c, c]; exact e
    · rw [if_neg c, fr _ (by omega)]; exact n7 i hi
  · obtain ⟨u1, u2⟩ := n8 k hk
    exact ⟨by rw [fr _ (by omega)]; exact u1, by rw [fr _ (by omega)]; exact u2⟩
  · obtain ⟨u1, u2, u3⟩ := n9 k hk
    exact ⟨by rw [fr _ (by omega)]; exact u1, by rw [fr _ (by omega)]; exact u2, by rw [fr _ (by omega)]; exact u3⟩
theorem NW.stN'' {M : Nat} (N : NW nw h) (e : nw' 0 = nI M) (fr : ∀ j, j ≠ 0 → nw' j = nw j) : NW nw' (stN' h M) := by
  obtain ⟨n0, n1, n2, n3, n4, n5, n6, n7, n8, n9⟩ := N
  refine ⟨e, ?_, ?_, ?_, ?_, fun i (hi : i < (hC h).length) => ?_, fun d (hd : d < (hD h).length) => ?_, fun i hi => ?_, fun k hk => ?_, fun k hk => ?_⟩
  · rw [fr _ (by omega)]; exact n1
  · rw [fr _ (by omega)]; exact n2
  · rw [fr _ (by omega)]; exact n3
  · rw [fr _ (by omega)]; exact n4
  · obtain ⟨u1, u2⟩ := n5 i hi
    exact ⟨by rw [fr _ (by omega)]; exact u1, fun j (hj : j < (hC h)[i].2.length) => by rw [fr _ (by omega)]; exact u2 j hj⟩
  · obtain ⟨u1, u2⟩ := n6 d hd
    exact ⟨by rw [fr _ (by omega)]; exact u1, fun q => by rw [fr _ (by omega)]; exact u2 q⟩
  · rw [fr _ (by omega)]; exact n7 i hi
  · obtain ⟨u1, u2⟩ := n8 k hk
    exact ⟨by rw [fr _ (by omega)]; exact u1, by rw [fr _ (by omega)]; exact u2⟩
  · obtain ⟨u1, u2, u3⟩ := n9 k hk
    exact ⟨by rw [fr _ (by omega)]; exact u1, by rw [fr _ (by omega)]; exact u2, by rw [fr _ (by omega)]; exact u3⟩
theorem NW.addS {x y : Nat} (N : NW nw h) (ok : okH h) (l : (hS h).length < 12) (e1 : nw' 3 = nI ((hS h).length + 1)) (e2 : nw' (110 + 2 * (hS h).length) = nI x) (e3 : nw' (110 + 2 * (hS h).length + 1) = nI y) (fr : ∀ j, j ≠ 3 → j ≠ 110 + 2 * (hS h).length → j ≠ 110 + 2 * (hS h).length + 1 → nw' j = nw j) : NW nw' (adS h (x, y)) := by
  obtain ⟨n0, n1, n2, n3, n4, n5, n6, n7, n8, n9⟩ := N
  have l1 := ok.2.1
  have l2 := ok.2.2.2.1
  have ll : (hS (adS h (x, y))).length = (hS h).length + 1 := len1 _ _
  refine ⟨?_, ?_, ?_, ?_, ?_, fun i (hi : i < (hC h).length) => ?_, fun d (hd : d < (hD h).length) => ?_, fun p hp => ?_, fun k hk => ?_, fun k hk => ?_⟩
  · rw [fr _ (by omega) (by omega) (by omega)]; exact n0
  · rw [fr _ (by omega) (by omega) (by omega)]; exact n1
  · rw [fr _ (by omega) (by omega) (by omega)]; exact n2
  · rw [ll]; exact e1
  · rw [fr _ (by omega) (by omega) (by omega)]; exact n4
  · obtain ⟨u1, u2⟩ := n5 i hi
    have hl := okL_len (ok.2.2.1 _ (List.getElem_mem hi)).2.1
    exact ⟨by rw [fr _ (by omega) (by omega) (by omega)]; exact u1, fun j (hj : j < (hC h)[i].2.length) => by rw [fr _ (by omega) (by omega) (by omega)]; exact u2 j hj⟩
  · obtain ⟨u1, u2⟩ := n6 d hd
    exact ⟨by rw [fr _ (by omega) (by omega) (by omega)]; exact u1, fun q => by rw [fr _ (by omega) (by omega) (by omega)]; exact u2 q⟩
  · rw [fr _ (by omega) (by omega) (by omega)]; exact n7 p hp
  · by_cases e : k < (hS h).length
    · obtain ⟨u1, u2⟩ := n8 k e
      have ee : (hS (adS h (x, y)))[k] = (hS h)[k] := gE_l hk e
      rw [ee]
      exact ⟨by rw [fr _ (by omega) (by omega) (by omega)]; exact u1, by rw [fr _ (by omega) (by omega) (by omega)]; exact u2⟩
    · have ee : (hS (adS h (x, y)))[k] = (x, y) := gE_r hk e
      rw [ee, show k = (hS h).length by omega]
      exact ⟨e2, e3⟩
  · obtain ⟨u1, u2, u3⟩ := n9 k hk
    exact ⟨by rw [fr _ (by omega) (by omega) (by omega)]; exact u1, by rw [fr _ (by omega) (by omega) (by omega)]; exact u2, by rw [fr _ (by omega) (by omega) (by omega)]; exact u3⟩
theorem NW.addR {x y v : Nat} (N : NW nw h) (ok : okH h) (l : (hR h).length < 12) (e1 : nw' 4 = nI ((hR h).length + 1)) (e2 : nw' (134 + 3 * (hR h).length) = nI x) (e3 : nw' (134 + 3 * (hR h).length + 1) = nI y) (e4 : nw' (134 + 3 * (hR h).length + 2) = nI v) (fr : ∀ j, j ≠ 4 → j ≠ 134 + 3 * (hR h).length → j ≠ 134 + 3 * (hR h).length + 1 → j ≠ 134 + 3 * (hR h).length + 2 → nw' j = nw j) : NW nw' (adR h (x, y, v)) := by
  obtain ⟨n0, n1, n2, n3, n4, n5, n6, n7, n8, n9⟩ := N
  have l1 := ok.2.1
  have l2 := ok.2.2.2.1
  have l3 := ok.2.2.2.2.2.2.1
  have ll : (hR (adR h (x, y, v))).length = (hR h).length + 1 := len1 _ _
  refine ⟨?_, ?_, ?_, ?_, ?_, fun i (hi : i < (hC h).length) => ?_, fun d (hd : d < (hD h).length) => ?_, fun p hp => ?_, fun k (hk : k < (hS h).length) => ?_, fun k hk => ?_⟩
  · rw [fr _ (by omega) (by omega) (by omega) (by omega)]; exact n0
  · rw [fr _ (by omega) (by omega) (by omega) (by omega)]; exact n1
  · rw [fr _ (by omega) (by omega) (by omega) (by omega)]; exact n2
  · rw [fr _ (by omega) (by omega) (by omega) (by omega)]; exact n3
  · rw [ll]; exact e1
  · obtain ⟨u1, u2⟩ := n5 i hi
    have hl := okL_len (ok.2.2.1 _ (List.getElem_mem hi)).2.1
    exact ⟨by rw [fr _ (by omega) (by omega) (by omega) (by omega)]; exact u1, fun j (hj : j < (hC h)[i].2.length) => by rw [fr _ (by omega) (by omega) (by omega) (by omega)]; exact u2 j hj⟩
  · obtain ⟨u1, u2⟩ := n6 d hd
    exact ⟨by rw [fr _ (by omega) (by omega) (by omega) (by omega)]; exact u1, fun q => by rw [fr _ (by omega) (by omega) (by omega) (by omega)]; exact u2 q⟩
  · rw [fr _ (by omega) (by omega) (by omega) (by omega)]; exact n7 p hp
  · obtain ⟨u1, u2⟩ := n8 k hk
    exact ⟨by rw [fr _ (by omega) (by omega) (by omega) (by omega)]; exact u1, by rw [fr _ (by omega) (by omega) (by omega) (by omega)]; exact u2⟩
  · by_cases e : k < (hR h).length
    · obtain ⟨u1, u2, u3⟩ := n9 k e
      have ee : (hR (adR h (x, y, v)))[k] = (hR h)[k] := gE_l hk e
      rw [ee]
      exact ⟨by rw [fr _ (by omega) (by omega) (by omega) (by omega)]; exact u1, by rw [fr _ (by omega) (by omega) (by omega) (by omega)]; exact u2, by rw [fr _ (by omega) (by omega) (by omega) (by omega)]; exact u3⟩
    · have ee : (hR (adR h (x, y, v)))[k] = (x, y, v) := gE_r hk e
      rw [ee, show k = (hR h).length by omega]
      exact ⟨e2, e3, e4⟩
end NWADD
section RREAD2
variable {F : Nat} {g : Hp} {B : Nat → Nat} {n R : Nat} {s0 st : RS} {h : HS} {t : Tok} {lc : Bool} {pt : Nat}
/-- another HOUSE in row 15 -/
theorem RSt.hs (C : RSt B n R s0 st h t lc pt) {st' : RS} {h' : HS} (c : Cg [] [15] [] st st') (N : NW (sA st' 15) h') (ok : okH h') (n1 : ∀ j (hj : j < (hC h').length), sL st 18 j = lN (code27 (hC h')[j].1)) (n2 : ∀ d (hd : d < (hD h').length), sL st 18 (10 + d) = lN (code27 (hD h')[d].2.2)) : RSt B n R s0 st' h' t lc pt := by
  obtain ⟨c1, c2, ⟨T, i⟩, -, -, c6, c7, -, c9⟩ := C
  refine ⟨c1.trans (c.mono (by decide) (by decide) (by decide)), fun j hj => ?_, ⟨T.cg c (fun _ _ => List.not_mem_nil), i⟩, ⟨N, ok⟩, ⟨fun j hj => ?_, fun j hj => ?_⟩, ?_, ?_, trivial, c9⟩
  · rw [c.A (by decide)]; exact c2 j hj
  · rw [c.L (by decide)]; exact n1 j hj
  · rw [c.L (by decide)]; exact n2 j hj
  · rw [c.I (by decide)]; exact c6
  · rw [c.I (by decide)]; exact c7
theorem RSt.same (C : RSt B n R s0 st h t lc pt) {st' : RS} (c : Cg [] [15] [] st st') (f : ∀ j, j < 170 → ¬ (10 + 8 * (hC h).length ≤ j ∧ j < 90) → ¬ (90 + 2 * (hD h).length ≤ j ∧ j < 102) → ¬ (110 + 2 * (hS h).length ≤ j ∧ j < 134) → ¬ (134 + 3 * (hR h).length ≤ j ∧ j < 170) → sA st' 15 j = sA st 15 j) : RSt B n R s0 st' h t lc pt :=
  C.hs c (C.2.2.2.1.1.fr C.2.2.2.1.2 f) C.2.2.2.1.2 C.2.2.2.2.1.1 C.2.2.2.2.1.2
/-- a NAME is laid, the TOKEN passed -/
theorem RSt.nm (C : RSt B n R s0 st h t lc pt) {j : Nat} {x : Int64} (q1 : j < 10 → (hC h).length ≤ j) (q2 : 10 ≤ j → 10 + (hD h).length ≤ j) {st' : RS} {t' : Tok} (c : Cg [5, 6, 7, 8, 9, 12] [] [] (uL st 18 j x) st') (T : TKr st' n R t') (i : isT B n R t') : RSt B n R s0 st' h t' lc pt ∧ sL st' 18 j = x := by
  obtain ⟨c1, c2, -, ⟨c3, ok⟩, ⟨c4, c5⟩, c6, c7, c8⟩ := C
  have l1 := ok.2.1
  refine ⟨⟨c1.trans ((Cg.uL (by decide)).trans (c.mono (by decide) (by decide) (by decide))), fun i hi => ?_, ⟨T, i⟩, ⟨?_, ok⟩, ⟨fun k hk => ?_, fun k hk => ?_⟩, ?_, ?_, c8⟩, ?_⟩
  · rw [c.A (by decide)]; exact c2 i hi
  · rw [c.A (by decide)]; exact c3
  · rw [c.L (by decide), sL_uL, if_pos rfl, updL_n (by omega)]; exact c4 k hk
  · rw [c.L (by decide), sL_uL, if_pos rfl, updL_n (by omega)]; exact c5 k hk
  · rw [c.I (by decide)]; exact c6
  · rw [c.I (by decide)]; exact c7
  · rw [c.L (by decide), sL_uL, if_pos rfl, updL_s]
end RREAD2
