/-! tree, whole -/
variable {sk : Nat}
theorem risInA {F : Nat} {f : Hp} {a k x : Nat} (hk : k + 1 < 2 ^ 31) {A M : Int32} (hA : A = nI a) (hM : M = nI k) (hx : x < 2 ^ 31) (hak : a ≤ k) : m_X12_isIn F (nI x) A M f = some (if a ≤ x ∧ x ≤ k then 1 else 0) := by
  subst hA; subst hM
  unfold m_X12_isIn
  by_cases q : x < a
  · rw [if_pos (nI_lt q (by omega)), ck_e (by decide), if_neg (by omega)]
  · rw [if_neg (nI_nlt (by omega) hx)]
    by_cases q1 : k < x
    · rw [if_pos (nI_lt q1 hx), ck_e (by decide), if_neg (by omega)]
    · rw [if_neg (nI_nlt (by omega) (by omega)), ck_e (by decide), if_pos (by omega)]
theorem FM.fr {f : Hp} {fm : List Nat} {fs : List Int32} (M : FM f fm fs) : ∃ q1 q2 q3 q4 q5 q6, FR f fm.length q1 q2 q3 q4 q5 q6 ∧ (∀ i (hi : i < fm.length), q1 i = nI fm[i]) ∧ (∀ i (hi : i < fs.length), q2 i = fs[i]) := by
  obtain ⟨-, -, -, h0, ⟨q1, a1, b1⟩, ⟨q2, a2, b2⟩, ⟨q3, a3⟩, ⟨q4, a4⟩, ⟨q5, a5⟩, ⟨q6, a6⟩⟩ := M
  exact ⟨q1, q2, q3, q4, q5, q6, ⟨h0, a1, a2, a3, a4, a5, a6⟩, b1, b2⟩
theorem FR.fm {f : Hp} {fm : List Nat} {fs : List Int32} {q1 q2 q3 q4 q5 q6 : Nat → Int32} (h : FR f fm.length q1 q2 q3 q4 q5 q6) (l1 : fm.length ≤ 9) (l2 : fs.length = fm.length) (l3 : ∀ x ∈ fm, x < 256) (b1 : ∀ i (hi : i < fm.length), q1 i = nI fm[i]) (b2 : ∀ i (hi : i < fs.length), q2 i = fs[i]) : FM f fm fs :=
  ⟨l1, l2, l3, h.1, ⟨q1, h.2.1, b1⟩, ⟨q2, h.2.2.1, b2⟩, ⟨q3, h.2.2.2.1⟩, ⟨q4, h.2.2.2.2.1⟩, ⟨q5, h.2.2.2.2.2.1⟩, ⟨q6, h.2.2.2.2.2.2⟩⟩
section C12
variable {F : Nat} {g : Hp} {st : RS} {h : HS} {f : Hp} {T D sX s mb : Nat} {tl lf : Int32} {ll : Int64} {B : Nat → Nat} {q1 q2 q3 q4 q5 q6 : Nat → Int32}
theorem CIx.fam {n z : Nat} {m : MS} {sT sD : Nat} {tq iq : Nat → Option Nat} (C : CIx sk f n z m T D sT sD sX tq iq) {f' : Hp} (fr : FF f f') {fm : List Nat} {fs : List Int32} (M : FM f' fm fs) : CIx sk f' n z (mB m, mT m, mH m, mP m, mF m, mL m, fm, fs, mI m) T D sT sD sX tq iq := by
  obtain ⟨h1, h2, ⟨h3, h3b⟩, h4, h5, h6, -, h8⟩ := C
  exact ⟨h1.frame (fun a h => fr a (by omega)), h2.frame (fr _ (by omega)), ⟨h3.frame (fr _ (by omega)), h3b⟩, h4.frame (fun a _ _ => fr a (by omega)), h5.frame (fr _ (by omega)) (fr _ (by omega)) (fun a h => fr a (by omega)), h6.frame (fr _ (by omega)) (fr _ (by omega)) (fr _ (by omega)), M, h8.frame (fr _ (by omega))⟩
/-- the sum of the TREE; from which each is copied -/
def trD (h : HS) (fm : List Nat) : Nat := (prm (dst (cLs h fm)) fm.length (fm.length - 1)).2.1
def trP (h : HS) (fm : List Nat) : Nat → Nat := (prm (dst (cLs h fm)) fm.length (fm.length - 1)).2.2
theorem fopen_e (h0 : FR f mb q1 q2 q3 q4 q5 q6) : ∃ f', m_X3_open F (some 171) f = some f' ∧ FR f' 0 q1 q2 q3 q4 q5 q6 ∧ FF f f' := by
  refine ⟨va_up f 171 (some (.inl (2, [.int (nI 0), .ref 172, .ref 173, .ref 174, .ref 175, .ref 176, .ref 177]))), ?_, ⟨up_s, (up_n (by decide)).trans h0.2.1, (up_n (by decide)).trans h0.2.2.1, (up_n (by decide)).trans h0.2.2.2.1, (up_n (by decide)).trans h0.2.2.2.2.1, (up_n (by decide)).trans h0.2.2.2.2.2.1, (up_n (by decide)).trans h0.2.2.2.2.2.2⟩, FF.up (by decide) (by decide)⟩
  unfold m_X3_open
  rw [bd_e (pV_e h0.1 (Nat.le_of_ble_eq_true rfl))]
  rfl
theorem csettle_e (hF : 12 ≤ F) {fm : List Nat} (hp : 0 < fm.length) (hn : fm.length ≤ 9) (hq1 : ∀ i (hi : i < fm.length), q1 i = nI fm[i]) (h0 : FR f fm.length q1 q2 q3 q4 q5 q6) (hq3 : dF q3 (dst (cLs h fm)) fm.length 0) : ∃ f' r2 r4 r5 r6, m_X3_settle F (some 171) f = some (nI (trD h fm), f') ∧ FR f' fm.length q1 r2 q3 r4 r5 r6 ∧ FF f f' ∧ ∀ j, j < fm.length → r2 j = srcI fm (trP h fm) j := by
  obtain ⟨f1, r4, r5, r6, e1, F1, g1, k1⟩ := span_e (F := F) (dst_le (cLs h fm)) (dst_comm (cLs h fm)) hp (by omega) hF h0 (fun a b ha hb hab => hq3 a b (Or.inl ⟨ha, hb, hab⟩))
  obtain ⟨f2, r2, e2, F2, g2, k2⟩ := settle_L (F := F) hn (prm_par (dst_le (cLs h fm)) hp) hq1 k1 (v := nI (trD h fm)) fm.length 0 F f1 q2 (by omega) (by omega) F1 (fun _ q => absurd q (Nat.not_lt_zero _))
  refine ⟨f2, r2, r4, r5, r6, ?_, F2, g1.trans g2, k2⟩
  unfold m_X3_settle
  rw [bd_e (gI_e h0.1 rfl), ck_e (isO_e h0.1), bd2_e e1]
  exact e2
/-- the copies of the tape -/
def tpL (B : Nat → Nat) (n : Nat) : List Nat := (List.range n).map B
theorem tpL_len (B : Nat → Nat) (n : Nat) : (tpL B n).length = n := by unfold tpL; rw [List.length_map, List.length_range]
theorem tpL_at {B : Nat → Nat} {n i : Nat} (hi : i < (tpL B n).length) : (tpL B n)[i] = B i := by
  have hi' : i < ((List.range n).map B).length := hi
  show ((List.range n).map B)[i]'hi' = B i
  rw [List.getElem_map, List.getElem_range]
theorem tpL_mem {B : Nat → Nat} {n x : Nat} (h : x ∈ tpL B n) : ∃ i, i < n ∧ B i = x := by
  unfold tpL at h
  obtain ⟨i, h1, h2⟩ := List.mem_map.mp h
  exact ⟨i, List.mem_range.mp h1, h2⟩
def srcL (h : HS) (fm : List Nat) : List Int32 := (List.range fm.length).map (srcI fm (trP h fm))
theorem srcL_len (h : HS) (fm : List Nat) : (srcL h fm).length = fm.length := by unfold srcL; rw [List.length_map, List.length_range]
theorem srcL_at {h : HS} {fm : List Nat} {i : Nat} (hi : i < (srcL h fm).length) : (srcL h fm)[i] = srcI fm (trP h fm) i := by
  have hi' : i < ((List.range fm.length).map (srcI fm (trP h fm))).length := hi
  show ((List.range fm.length).map (srcI fm (trP h fm)))[i]'hi' = _
  rw [List.getElem_map, List.getElem_range]
theorem dF_0 (q3 : Nat → Int32) (Df : Nat → Nat → Nat) : dF q3 Df 0 0 := fun a b hab => by omega
/-- the class's TREE of the tape's copies -/
theorem ctree_m (hF : 5041 ≤ F) (K : KAt f T D sX tl lf ll) (P : TP f B) (H : HAt f T s h) (ok : okH h) (hT : T < 171 - 29) {n : Nat} (h1 : 1 ≤ n) (hn : n ≤ 9) (hB : ∀ j, j < n → B j < (hC h).length) (h0 : FR f mb q1 q2 q3 q4 q5 q6) : ∃ f' f'' r1 r2 r3 r4 r5 r6, m_X3_open F (some 171) f = some f' ∧ m_X11_tree_L43 F F (some 100) (nI n) (nI 0) f' = some (nI (trD h (tpL B n)), f'') ∧ FR f'' (tpL B n).length r1 r2 r3 r4 r5 r6 ∧ FF f f'' ∧ (∀ i (hi : i < (tpL B n).length), r1 i = nI (tpL B n)[i]) ∧ ∀ j, j < (tpL B n).length → r2 j = srcI (tpL B n) (trP h (tpL B n)) j := by
  obtain ⟨f1, e1, F1, g1⟩ := fopen_e (F := F) h0
  obtain ⟨f2, r1, e2, F2, g2, k2⟩ := ctree_43 (F := F) hn n 0 F f1 q1 (by omega) (by omega) (K.frame (g1 _ (by omega))) (P.frame (g1 _ (by omega))) F1 (fun _ q => absurd q (Nat.not_lt_zero _))
  have fl := tpL_len B n
  have g12 := g1.trans g2
  have h10 := ok.2.1
  have hq1 : ∀ i (hi : i < (tpL B n).length), r1 i = nI (tpL B n)[i] := fun i hi => by rw [tpL_at hi]; exact k2 i (by omega)
  rw [← fl] at F2
  have H2 : HAt f2 T s h := H.frame (fun a _ _ _ => g12 a (by omega)) ok
  obtain ⟨v, f3, r3, e3, F3, g3, k3⟩ := measure_L2 (F := F) (fm := tpL B n) (by omega) ok hT (by omega) (fun x hx => by obtain ⟨i, i1, i2⟩ := tpL_mem hx; have := hB i i1; omega) (tpL B n).length 0 F f2 q3 (by omega) (by omega) F2 H2 hq1 (dF_0 _ _) (fun i hi q => absurd q (Nat.not_lt_zero _))
  have hin : allIn h (tpL B n) := fun i hi => by rw [tpL_at hi]; exact hB i (by omega)
  rcases k3 with ⟨rfl, -, k3⟩ | ⟨-, c⟩
  · obtain ⟨f4, r2, r4, r5, r6, e4, F4, g4, k4⟩ := csettle_e (F := F) (h := h) (by omega) (by omega) (by omega) hq1 F3 k3
    refine ⟨f1, f4, r1, r2, r3, r4, r5, r6, e1, ?_, F4, g12.trans (g3.trans g4), hq1, k4⟩
    have K2 : KAt f2 T D sX tl lf ll := K.frame (g12 _ (by omega))
    have K3 : KAt f3 T D sX tl lf ll := K2.frame (g3 _ (by omega))
    rw [e2]
    unfold m_X11_tree_B66
    rw [bd_e (gR_s K2 rfl), bd_e (gR_s K2 rfl), ck_e (isO_e F2.1), bd2_e (show m_X3_measure F (some 171) (some T) f2 = _ from e3), bd_e (gR_s K3 rfl), ck_e (isO_e F3.1), bd2_e e4]
  · exact absurd hin c
/-- the reference's -/
theorem rtree_m (hF : 5041 ≤ F) (N : NW (sA st 14) h) (ok : okH h) (P : ∀ i, i < 740 → sA st 1 i = nI (B i) ∧ B i < 256) {n : Nat} (h1 : 1 ≤ n) (hn : n ≤ 9) (hB : ∀ j, j < n → B j < (hC h).length) : ∃ st', m_X12_tree_L87 F F (some 179) (nI n) 0 (ov g (uI st 33 (nI n))) = some (nI (trD h (tpL B n)), ov g st') ∧ Cg (33 :: 34 :: sI0) (28 :: 32 :: sA0) sL0 st st' ∧ sI st' 33 = nI n ∧ sI st' 34 = nI n ∧ (∀ i (hi : i < (tpL B n).length), sA st' 28 i = nI (tpL B n)[i]) ∧ ∀ j, j < n → sA st' 32 j = srcI (tpL B n) (trP h (tpL B n)) j := by
  have fl := tpL_len B n
  obtain ⟨s3, e3, c3, k3⟩ := rtree_87 (F := F) (g := g) (st := uI st 33 (nI n)) (B := B) P hn n 0 F _ (by omega) (by omega) (Rs.refl _ _) (fun _ q => absurd q (Nat.not_lt_zero _))
  have hin : allIn h (tpL B n) := fun i hi => by rw [tpL_at hi]; exact hB i (by omega)
  have N3 : NW (sA s3 14) h := by rw [c3.A (by decide)]; exact N
  have a33 : sI s3 33 = nI (tpL B n).length := by rw [c3.I, sI_uI, if_pos rfl, fl]
  have a28 : ∀ i (hi : i < (tpL B n).length), sA s3 28 i = nI (tpL B n)[i] := fun i hi => by rw [tpL_at hi]; exact k3 i (by omega)
  obtain ⟨s4, e4, c4, k4⟩ := apart_e (F := F) (g := g) (by omega) N3 ok (by omega) hin a33 a28
  obtain ⟨s5, e5, c5, k5⟩ := rjoins_e (F := F) (g := g) (dst_le (cLs h (tpL B n))) (n := (tpL B n).length) (by omega) (by omega) (by omega) k4
  have b28 : ∀ i (hi : i < (tpL B n).length), sA (uI s5 34 (nI n)) 28 i = nI (tpL B n)[i] := fun i hi => by rw [sA_uI, c5.A (by decide), c4.A (by decide)]; exact a28 i hi
  obtain ⟨s6, e6, c6, k6⟩ := rtree_128 (F := F) (g := g) (st := uI s5 34 (nI n)) (fm := tpL B n) (by omega) (prm_par (dst_le (cLs h (tpL B n))) (by omega)) b28 k5 (v := nI (trD h (tpL B n))) (tpL B n).length 0 F _ (by omega) (by omega) (Rs.refl _ _) (fun _ q => absurd q (Nat.not_lt_zero _))
  refine ⟨s6, ?_, ?_, ?_, ?_, ?_, fun j hj => k6 j (by omega)⟩
  · refine Eq.trans e3 ?_
    unfold m_X12_tree_B110
    rw [fl] at e5 e6
    rw [ck_e r_isO, bd_e e4, ck_e r_isO, bd2_e e5, wI_34, bd_some]
    refine Eq.trans ?_ e6
    unfold trD
    rw [fl]
    rfl
  · exact (Cg.uI (by decide)).trans ((c3.cg.mono (by decide) (by decide) (by decide)).trans ((c4.mono (by decide) (by decide) (by decide)).trans ((c5.mono (by decide) (by decide) (by decide)).trans ((Cg.uI (by decide)).trans (c6.cg.mono (by decide) (by decide) (by decide))))))
  · rw [c6.I, sI_o (by decide), c5.I (by decide), c4.I (by decide), a33, fl]
  · rw [c6.I, sI_uI, if_pos rfl]
  · exact fun i hi => by rw [c6.A (by decide)]; exact b28 i hi
theorem sB0 (B : Nat → Nat) : bitsOf 10 (sB B 0) = 0 := (bitsOf_ext (Q := fun _ => false) (fun _ _ => rfl)).trans (bitsOf_none 10).symm
theorem k_tree (hF : 5041 ≤ F) : KW sk (m_X11_tree F (some 100)) (m_X12_tree F (some 179)) := by
  intro f n z st m C R
  obtain ⟨f1, e1, C1, fr1⟩ := take_e (F := F) C
  obtain ⟨_, _, _, _, _, _, _, -, K0, ⟨-, t7, -⟩, -⟩ := C
  obtain ⟨T, D, sT, sD, sX, tq, iq, X⟩ := C1.x
  obtain ⟨S, K, ⟨tp, -⟩, ⟨H, ok, -⟩, -, -, M, -⟩ := id X
  have td := X.td
  have tp : TP f1 (mB m) := tp
  have H : HAt f1 T sT (mH m) := H
  have ok : okH (mH m) := ok
  have h10 : (hC (mH m)).length ≤ 10 := ok.2.1
  by_cases q0 : 1 ≤ mT m ∧ mT m ≤ 9
  · have n1 : ¬ nI (mT m) < (1 : Int32) := nI_nlt (b := 1) (by omega) (by omega)
    have n9 : ¬ (9 : Int32) < nI (mT m) := nI_nlt (a := 9) (by omega) (by omega)
    have ref : ∀ v m', (∀ g s2, RB s2 (mt0 m) → ∃ s3, m_X12_tree_L30 F F (some 179) (nI (mT m)) (nI (bitsOf 10 (sB (mB m) 0))) (nI 0) (ov g s2) = some (v, ov g s3) ∧ RI s3 m') → ∀ g, ∃ st', m_X12_tree F (some 179) (ov g st) = some (v, ov g st') ∧ RI st' m' := by
      intro v m' hv g
      obtain ⟨s1, q1, B1⟩ := rbeg (F := F) (g := g) (by omega) R 0
      obtain ⟨q2, B2⟩ := rtake_e (F := F) (g := g) B1
      obtain ⟨s3, q3, r3⟩ := hv g _ B2
      refine ⟨s3, ?_, r3⟩
      rw [sB0] at q3
      unfold m_X12_tree
      rw [wI_0, bd_some, ck_e r_isO, bd_e q1, ck_e r_isO, bd2_e q2, bd_e (risInA (a := 1) (k := 9) (A := 1) (M := 9) (by omega) rfl rfl (by omega) (by omega)), if_pos q0, if_neg (by decide)]
      exact q3
    have R30 := fun g s2 (B2 : RB s2 (mt0 m)) => rtree_30 (F := F) (g := g) (st := s2) (h := mH m) B2.2.2.1 ok (bytes_P tp B2.1 rfl) t7 (mT m) 0 F (by omega) (by omega)
    rcases areC_e (F := F) K tp H ok t7 (by omega) with ⟨q1, q2⟩ | ⟨q1, j, q2, q3⟩
    · rcases unl_e (F := F) K tp t7 (by omega) with ⟨u1, u2⟩ | ⟨u1, a, u2, b, u3, u4⟩
      · obtain ⟨w1, w2, w3, w4, w5, w6, W, -, -⟩ := M.fr
        obtain ⟨f2, f3, r1, r2, r3, r4, r5, r6, o1, o2, o3, o4, o5, o6⟩ := ctree_m (F := F) hF K tp H ok (by omega) q0.1 q0.2 q2 W
        have fl := tpL_len (mB m) (mT m)
        refine ⟨nI (trD (mH m) (tpL (mB m) (mT m))), f3, (mB m, 0, mH m, mP m, mF m, mL m, tpL (mB m) (mT m), srcL (mH m) (tpL (mB m) (mT m)), mI m), ?_, fun a h1 _ => (o4 a (by omega)).trans (fr1 a (by omega)), (X.fam o4 (o3.fm (by omega) (srcL_len _ _) (fun x hx => by obtain ⟨i, i1, i2⟩ := tpL_mem hx; have := q2 i i1; omega) o5 (fun i hi => by rw [srcL_at hi]; exact o6 i (by rw [srcL_len] at hi; exact hi)))).ci, ref _ _ (fun g s2 B2 => ?_)⟩
        · unfold m_X11_tree
          rw [ck_e (isO_e K0), bd2_e e1, if_neg n1, if_neg n9, ck_e (isO_e K), bd_e q1, if_neg (by decide), ck_e (isO_e K), bd_e u1, if_neg (by decide), bd_e (gR_s K rfl), ck_e (isO_e W.1), bd_e o1]
          exact o2
        · obtain ⟨s3, i1, i2, i3, i4, i5, i6⟩ := rtree_m (F := F) (g := g) (st := s2) (h := mH m) hF B2.2.2.1 ok (bytes_P tp B2.1 rfl) q0.1 q0.2 q2
          refine ⟨s3, ?_, B2.1.fam i2 (by rw [fl]; exact i3) i5 (by rw [fl]; exact i4) (fun i hi => by rw [srcL_at hi]; exact i6 i (by rw [srcL_len, fl] at hi; exact hi))⟩
          rw [(R30 g s2 B2).1 (fun j _ b => ⟨q2 j b, fun b' hb e => u2 j b b' hb e.symm⟩)]
          exact i1
      · refine ⟨-1, f1, mt0 m, ?_, fun a h1 _ => fr1 a (by omega), C1, ref _ _ (fun g s2 B2 => ⟨s2, (R30 g s2 B2).2 ⟨a, Nat.zero_le _, u2, fun c => c.2 b u3 u4.symm⟩, B2.1⟩)⟩
        unfold m_X11_tree
        rw [ck_e (isO_e K0), bd2_e e1, if_neg n1, if_neg n9, ck_e (isO_e K), bd_e q1, if_neg (by decide), ck_e (isO_e K), bd_e u1, if_pos rfl]
    · refine ⟨-1, f1, mt0 m, ?_, fun a h1 _ => fr1 a (by omega), C1, ref _ _ (fun g s2 B2 => ⟨s2, (R30 g s2 B2).2 ⟨j, Nat.zero_le _, q2, fun c => q3 c.1⟩, B2.1⟩)⟩
      unfold m_X11_tree
      rw [ck_e (isO_e K0), bd2_e e1, if_neg n1, if_neg n9, ck_e (isO_e K), bd_e q1, if_pos rfl]
  · refine ⟨-1, f1, mt0 m, ?_, fun a h1 _ => fr1 a (by omega), C1, fun g => ?_⟩
    · unfold m_X11_tree
      rw [ck_e (isO_e K0), bd2_e e1]
      by_cases q : mT m < 1
      · rw [if_pos (show nI (mT m) < (1 : Int32) from nI_lt (b := 1) q (by omega))]
      · rw [if_neg (show ¬ nI (mT m) < (1 : Int32) from nI_nlt (b := 1) (by omega) (by omega)), if_pos (show (9 : Int32) < nI (mT m) from nI_lt (a := 9) (by omega) (by omega))]
    · obtain ⟨s1, q1, B1⟩ := rbeg (F := F) (g := g) (by omega) R 0
      obtain ⟨q2, B2⟩ := rtake_e (F := F) (g := g) B1
      refine ⟨_, ?_, B2.1⟩
      unfold m_X12_tree
      rw [wI_0, bd_some, ck_e r_isO, bd_e q1, ck_e r_isO, bd2_e q2, bd_e (risInA (a := 1) (k := 9) (A := 1) (M := 9) (by omega) rfl rfl (by omega) (by omega)), if_neg q0, if_pos rfl]
end C12
