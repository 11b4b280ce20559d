/-! the reference reads a LINE: 'sense', 'rhyme', all -/
theorem if_iff' {α : Type} {p q : Prop} [Decidable p] [Decidable q] {a b : α} (h : p ↔ q) : (if p then a else b) = if q then a else b := by
  by_cases c : p
  · rw [if_pos c, if_pos (h.mp c)]
  · rw [if_neg c, if_neg (fun k => c (h.mpr k))]
section RREAD5
variable {F : Nat} {g : Hp} {B : Nat → Nat} {n R : Nat} {s0 st : RS} {h : HS} {t : Tok} {lc : Bool} {pt : Nat}
theorem rpair_87 {Q : List (Nat × Nat)} {c b w x y : Nat} (hQ : Q.length ≤ 12) (hw : 2 ≤ w ∧ w ≤ 3) (hb : b + w * 12 ≤ 170) (hQ7 : ∀ q ∈ Q, q.1 < 7 ∧ q.2 < 7) (hx : x < 7) (hy : y < 7) (r : ∀ k (hk : k < Q.length), sA st 15 (b + w * k) = nI Q[k].1 ∧ sA st 15 (b + w * k + 1) = nI Q[k].2) : ∀ (d k z : Nat), k + d = Q.length → d < z → m_X12_readPair_L87 F z (some 179) (nI c) (nI b) (nI w) (nI Q.length) (nI x) (nI y) (nI k) (ov g st) = if (x, y) ∈ Q.drop k then (chk (isO (ov g st) (some 179) 10) <| bd2 (m_X12_bad F (some 179) (3 : Int32) (ov g st)) fun x11 f12 => chk (okZ x11) <| some (x11, f12)) else m_X12_readPair_B140 F (some 179) (nI c) (nI b) (nI w) (nI Q.length) (nI x) (nI y) (ov g st) := by
  intro d
  induction d with
  | zero =>
    intro k z hk hz
    obtain ⟨z, rfl⟩ : ∃ j, z = j + 1 := ⟨z - 1, by omega⟩
    show m_X12_readPair_b87 F _ _ _ _ _ _ _ _ _ _ = _
    unfold m_X12_readPair_b87
    rw [if_pos (nI_le (by omega) (by omega)), List.drop_eq_nil_of_le (by omega), if_neg List.not_mem_nil]
  | succ d ih =>
    intro k z hk hz
    obtain ⟨z, rfl⟩ : ∃ j, z = j + 1 := ⟨z - 1, by omega⟩
    have kl : k < Q.length := by omega
    obtain ⟨r1, r2⟩ := r k kl
    obtain ⟨q1, q2⟩ := hQ7 _ (List.getElem_mem kl)
    have wk : w * k ≤ w * 11 := Nat.mul_le_mul_left _ (by omega)
    have ih := ih (k + 1) z (by omega) (by omega)
    show m_X12_readPair_b87 F _ _ _ _ _ _ _ _ _ _ = _
    unfold m_X12_readPair_b87
    rw [if_neg (nI_ge kl (by omega)), nI_mul, nI_add, nI_1, rd15 (j := b + w * k) (by omega) rfl, r1, rd15 (j := b + w * k + 1) (by omega) rfl, r2, nm_e2, nI_1, ih, List.drop_eq_getElem_cons kl]
    by_cases e1 : Q[k].1 = x
    · rw [if_pos (by rw [e1])]
      by_cases e2 : Q[k].2 = y
      · rw [if_pos (by rw [e2]), if_pos (show (x, y) ∈ Q[k] :: Q.drop (k + 1) by rw [show Q[k] = (x, y) from Prod.ext e1 e2]; exact List.mem_cons_self)]
      · rw [if_neg (show ¬ nI Q[k].2 = nI y from fun e => e2 ((nI_eq (by omega) (by omega)).mp e))]
        refine if_iff' ?_
        rw [List.mem_cons]
        exact ⟨Or.inr, fun o => o.resolve_left (fun e => e2 (by rw [← e]))⟩
    · rw [if_neg (show ¬ nI Q[k].1 = nI x from fun e => e1 ((nI_eq (by omega) (by omega)).mp e))]
      refine if_iff' ?_
      rw [List.mem_cons]
      exact ⟨Or.inr, fun o => o.resolve_left (fun e => e1 (by rw [← e]))⟩
theorem rpair_s (hF : 742 ≤ F) (C : RSt B n R s0 st h t lc pt) (k : tK t = 2) {c b w l : Nat} (hc : c < 170) (hl : sA st 15 c = nI l) (l12 : l < 12) : (∃ q st', mPair B n R h (nxT B n R t) = .inl q ∧ m_X12_readPair F (some 179) (nI c) (nI b) (nI w) (ov g st) = some (0, ov g st') ∧ RF s0 st' q) ∨ ∃ x y s', mPair B n R h (nxT B n R t) = .inr (x, y) ∧ m_X12_readPair F (some 179) (nI c) (nI b) (nI w) (ov g st) = m_X12_readPair_L87 F F (some 179) (nI c) (nI b) (nI w) (nI l) (nI x) (nI y) 0 (ov g s') ∧ RSt B n R s0 s' h (nxT B n R (nxT B n R t)) lc pt ∧ x < hN h ∧ y < hN h ∧ x ≠ y ∧ tK (nxT B n R (nxT B n R t)) = 2 := by
  obtain ⟨s1, e1, C1, -⟩ := rgo_s (F := F) (g := g) hF C (by omega)
  obtain ⟨N, ok⟩ := C1.2.2.2.1
  have n7 := ok.1.2
  unfold m_X12_readPair mPair
  rw [rd15 hc rfl, hl, if_neg (show ¬ nI l = (12 : Int32) from fun e => by have := (nI_eq (b := 12) (by omega) (by omega)).mp e; omega), ck_e r_isO, bd_e e1, rd15 (K := 0) (j := 0) (by omega) rfl, N.1, ck_e r_isO]
  rcases rlet_s (F := F) (g := g) C1 n7 with ⟨q, s2, j1, j2, j3⟩ | ⟨x, j1, j2, j3, j4⟩
  · rw [j1, bd2_e j2, if_pos rfl, ck_e (by decide)]
    exact Or.inl ⟨q, s2, rfl, rfl, j3⟩
  · have C2 := C1.u13 (x := nI x)
    obtain ⟨s3, e3, C3, -⟩ := rgo_s (F := F) (g := g) hF C2 (by omega)
    obtain ⟨N3, -⟩ := C3.2.2.2.1
    rw [j1, bd2_e j2, if_neg (by decide), rI_13, bd_some, sI_uI, if_pos rfl, ck_e r_isO, bd_e e3, rd15 (K := 0) (j := 0) (by omega) rfl, N3.1, ck_e r_isO]
    rcases rlet_s (F := F) (g := g) C3 n7 with ⟨q, s4, j1', j2', j3'⟩ | ⟨y, j1', j2', j3', j4'⟩
    · rw [j1', bd2_e j2', if_pos rfl, ck_e (by decide)]
      exact Or.inl ⟨q, s4, rfl, rfl, j3'⟩
    · have C4 := C3.u13 (x := nI y)
      rw [j1', bd2_e j2', if_neg (by decide), rI_13, bd_some, sI_uI, if_pos rfl]
      show (∃ q st', (if x = y then (Sum.inl (3, tA (nxT B n R (nxT B n R t))) : Flt ⊕ (Nat × Nat)) else .inr (x, y)) = .inl q ∧ _) ∨ ∃ x' y' s', (if x = y then (Sum.inl (3, tA (nxT B n R (nxT B n R t))) : Flt ⊕ (Nat × Nat)) else .inr (x, y)) = .inr (x', y') ∧ _
      by_cases e : x = y
      · obtain ⟨s5, i1, i2⟩ := rbad (F := F) (g := g) C4 (k := 3) (K := 3) (by decide) (by decide) rfl (by omega)
        rw [if_pos e, if_pos (by rw [e])]
        exact Or.inl ⟨_, s5, rfl, i1, i2⟩
      · rw [if_neg e, if_neg (show ¬ nI x = nI y from fun q => e ((nI_eq (by omega) (by omega)).mp q))]
        exact Or.inr ⟨x, y, _, rfl, rfl, C4, j3, j3', e, j4'⟩
theorem rsense_s (hF : 742 ≤ F) (C : RSt B n R s0 st h t lc pt) (k : tK t = 2) : RRd B n R s0 g lc pt (m_X12_readPair F (some 179) (3 : Int32) (110 : Int32) (2 : Int32) (ov g st)) (mSense B n R h t) := by
  obtain ⟨N, ok⟩ := C.2.2.2.1
  have n7 := ok.1.2
  have l12 := ok.2.2.2.2.2.2.1
  unfold mSense
  by_cases l : (hS h).length = 12
  · unfold m_X12_readPair
    rw [rd15 (K := 3) (j := 3) (by omega) rfl, N.2.2.2.1, if_pos l, l, if_pos (by decide)]
    obtain ⟨st', i1, i2⟩ := rbad (F := F) (g := g) C (k := 4) (K := 4) (by decide) (by decide) rfl (by omega)
    exact Or.inl ⟨_, st', rfl, i1, i2⟩
  · rw [if_neg l]
    rcases rpair_s (F := F) (g := g) hF C k (c := 3) (b := 110) (w := 2) (by omega) N.2.2.2.1 (by omega) with ⟨q, s1, j1, j2, j3⟩ | ⟨x, y, s1, j1, j2, C1, x7, y7, xy, t2⟩
    · rw [j1]
      exact Or.inl ⟨q, s1, rfl, j2, j3⟩
    · obtain ⟨N1, -⟩ := C1.2.2.2.1
      rw [j1]
      refine (show m_X12_readPair F (some 179) (3 : Int32) (110 : Int32) (2 : Int32) (ov g st) = _ from j2) ▸ ?_
      rw [show m_X12_readPair_L87 F F (some 179) (nI 3) (nI 110) (nI 2) (nI (hS h).length) (nI x) (nI y) 0 (ov g s1) = _ from rpair_87 (F := F) (g := g) (Q := hS h) (c := 3) (b := 110) (w := 2) l12 ⟨by decide, by decide⟩ (by decide) (fun q hq => by have := ok.2.2.2.2.2.2.2.1 q hq; omega) (by omega) (by omega) (fun k hk => N1.2.2.2.2.2.2.2.2.1 k hk) (hS h).length 0 F (by omega) (by omega), List.drop_zero]
      show RRd B n R s0 g lc pt _ (if (x, y) ∈ hS h then _ else _)
      by_cases m : (x, y) ∈ hS h
      · rw [if_pos m, if_pos m]
        obtain ⟨st', i1, i2⟩ := rbad (F := F) (g := g) C1 (k := 3) (K := 3) (by decide) (by decide) rfl (by omega)
        exact Or.inl ⟨_, st', rfl, i1, i2⟩
      · rw [if_neg m, if_neg m]
        obtain ⟨s2, e2, C2, -⟩ := rgo_s (F := F) (g := g) hF C1 (by omega)
        obtain ⟨N2, -⟩ := C2.2.2.2.1
        unfold m_X12_readPair_B140 m_X12_readPair_B206
        rw [ck_e r_isO, bd_e e2, rR_15, bd_some, nI_mul, nI_add, nI_1, wr15 (by omega) rfl, rR_15, bd_some, wr15 (by omega) rfl, if_neg (by decide), rR_15, bd_some, rE_15 (by omega), bd_some, uA_v, if_neg (by omega), uA_v, if_neg (by omega), N2.2.2.2.1, nI_1, wr15 (j := 3) (by omega) rfl, ck_e (by decide)]
        refine Or.inr ⟨_, _, _, rfl, rfl, C2.hs ((Cg.uA (by decide)).trans ((Cg.uA (by decide)).trans (Cg.uA (by decide)))) (N2.addS ok (by omega) ?_ ?_ ?_ (fun j q1 q2 q3 => ?_)) (ok.addS (by omega) x7 y7 xy) C2.2.2.2.2.1.1 C2.2.2.2.2.1.2⟩
        · rw [uA_v, if_pos rfl]
        · rw [uA_v, if_neg (by omega), uA_v, if_neg (by omega), uA_v, if_pos rfl]
        · rw [uA_v, if_neg (by omega), uA_v, if_pos rfl]
        · rw [uA_v, if_neg q1, uA_v, if_neg q3, uA_v, if_neg q2]
theorem rrhyme_s (hF : 742 ≤ F) (C : RSt B n R s0 st h t lc pt) (k : tK t = 2) : RRd B n R s0 g lc pt (m_X12_readPair F (some 179) (4 : Int32) (134 : Int32) (3 : Int32) (ov g st)) (mRhyme B n R h t) := by
  obtain ⟨N, ok⟩ := C.2.2.2.1
  have n7 := ok.1.2
  have l12 := ok.2.2.2.2.2.2.2.2.1
  unfold mRhyme
  by_cases l : (hR h).length = 12
  · unfold m_X12_readPair
    rw [rd15 (K := 4) (j := 4) (by omega) rfl, N.2.2.2.2.1, if_pos l, l, if_pos (by decide)]
    obtain ⟨st', i1, i2⟩ := rbad (F := F) (g := g) C (k := 4) (K := 4) (by decide) (by decide) rfl (by omega)
    exact Or.inl ⟨_, st', rfl, i1, i2⟩
  · rw [if_neg l]
    rcases rpair_s (F := F) (g := g) hF C k (c := 4) (b := 134) (w := 3) (by omega) N.2.2.2.2.1 (by omega) with ⟨q, s1, j1, j2, j3⟩ | ⟨x, y, s1, j1, j2, C1, x7, y7, xy, t2⟩
    · rw [j1]
      exact Or.inl ⟨q, s1, rfl, j2, j3⟩
    · obtain ⟨N1, -⟩ := C1.2.2.2.1
      rw [j1]
      refine (show m_X12_readPair F (some 179) (4 : Int32) (134 : Int32) (3 : Int32) (ov g st) = _ from j2) ▸ ?_
      have L87 := rpair_87 (F := F) (g := g) (st := s1) (Q := (hR h).map (fun q => (q.1, q.2.1))) (c := 4) (b := 134) (w := 3) (x := x) (y := y) (by rw [List.length_map]; exact l12) ⟨by decide, by decide⟩ (by decide) (fun q hq => by
        obtain ⟨p, p1, rfl⟩ := List.mem_map.mp hq
        have := ok.2.2.2.2.2.2.2.2.2.1 p p1
        exact ⟨by omega, by omega⟩) (by omega) (by omega) (fun k hk => by
        rw [List.length_map] at hk
        rw [List.getElem_map]
        obtain ⟨u1, u2, -⟩ := N1.2.2.2.2.2.2.2.2.2 k hk
        exact ⟨u1, u2⟩) ((hR h).map (fun q => (q.1, q.2.1))).length 0 F (by omega) (by rw [List.length_map]; omega)
      rw [List.length_map, List.drop_zero] at L87
      rw [show m_X12_readPair_L87 F F (some 179) (nI 4) (nI 134) (nI 3) (nI (hR h).length) (nI x) (nI y) 0 (ov g s1) = _ from L87]
      show RRd B n R s0 g lc pt _ (if (x, y) ∈ (hR h).map (fun q => (q.1, q.2.1)) then _ else _)
      by_cases m : (x, y) ∈ (hR h).map (fun q => (q.1, q.2.1))
      · rw [if_pos m, if_pos m]
        obtain ⟨st', i1, i2⟩ := rbad (F := F) (g := g) C1 (k := 3) (K := 3) (by decide) (by decide) rfl (by omega)
        exact Or.inl ⟨_, st', rfl, i1, i2⟩
      · rw [if_neg m, if_neg m]
        obtain ⟨s2, e2, C2, -⟩ := rgo_s (F := F) (g := g) hF C1 (by omega)
        have C3 : RSt B n R s0 (uA (uA s2 15 (134 + 3 * (hR h).length) (nI x)) 15 (134 + 3 * (hR h).length + 1) (nI y)) h (nxT B n R (nxT B n R (nxT B n R t))) lc pt := C2.same ((Cg.uA (by decide)).trans (Cg.uA (by decide))) (fun j q1 q2 q3 q4 q5 => by rw [uA_v, if_neg (by omega), uA_v, if_neg (by omega)])
        unfold m_X12_readPair_B140 m_X12_readPair_B206
        rw [ck_e r_isO, bd_e e2, rR_15, bd_some, nI_mul, nI_add, nI_1, wr15 (by omega) rfl, rR_15, bd_some, wr15 (by omega) rfl, if_pos (show nI 3 = (3 : Int32) from rfl), ck_e r_isO]
        rcases rnum_s (F := F) (g := g) hF C3 (lo := 1) (hi := 99) (L := 1) (H := 99) (by decide) (by decide) rfl rfl with ⟨q, s5, j1, j2, j3⟩ | ⟨v, s5, j1, j2, j3, j4, j5, j6, C5, j7, j8⟩
        · rw [j1, bd2_e j2, if_pos rfl, ck_e (by decide)]
          exact Or.inl ⟨q, s5, rfl, rfl, j3⟩
        · obtain ⟨N5, -⟩ := C5.2.2.2.1
          rw [j1, bd2_e j2, if_neg (by decide), rR_15, bd_some, rI_13, bd_some, j7, wr15 (j := 134 + 3 * (hR h).length + 2) (by omega) (by rw [show (2 : Int32) = nI 2 from rfl, nI_add]), rR_15, bd_some, rE_15 (by omega), bd_some, uA_v, if_neg (by omega), N5.2.2.2.2.1, nI_1, wr15 (j := 4) (by omega) rfl, ck_e (by decide)]
          refine Or.inr ⟨_, _, _, rfl, rfl, C5.hs ((Cg.uA (by decide)).trans (Cg.uA (by decide))) (N5.addR ok (by omega) ?_ ?_ ?_ ?_ (fun j q1 q2 q3 q4 => ?_)) (ok.addR (by omega) x7 y7 xy ⟨j3, j4⟩ m) C5.2.2.2.2.1.1 C5.2.2.2.2.1.2⟩
          · rw [uA_v, if_pos rfl]
          · rw [uA_v, if_neg (by omega), uA_v, if_neg (by omega), j8.A (by decide), uA_v, if_neg (by omega), uA_v, if_pos rfl]
          · rw [uA_v, if_neg (by omega), uA_v, if_neg (by omega), j8.A (by decide), uA_v, if_pos rfl]
          · rw [uA_v, if_neg (by omega), uA_v, if_pos rfl]
          · rw [uA_v, if_neg q1, uA_v, if_neg q4]
end RREAD5
