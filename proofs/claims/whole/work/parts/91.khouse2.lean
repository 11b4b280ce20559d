/-! the call 'house': both -/
variable {sk : Nat}
theorem RI.fh {st st' : RS} {m : MS} (R : RI st m) (C : Cg (10 :: sI0) (14 :: sA0) (17 :: sL0) st st') (e21 : sI st 21 = 1) {h' : HS} {P' : SN} {fl : Nat} (e10 : sI st' 10 = nI fl) (W : NWS (sA st' 14) h' P') (M : NMr (sL st' 17) h') : RI st' (mB m, mT m, h', P', fl, mL m, mM m, mS m, mI m) := by
  obtain ⟨-, ⟨h2, h3⟩, h4, -, h6, h7, ⟨⟨h8, h9⟩, h10, h11⟩, h12⟩ := R
  refine ⟨Or.inl ⟨?_, W⟩, ⟨?_, ?_⟩, e10, M, h6.cg C (by decide) (by decide), ?_, ⟨⟨?_, ?_⟩, ?_, ?_⟩, ?_⟩
  · rw [C.I (by decide)]; exact e21
  · rw [C.A (by decide)]; exact h2
  · rw [C.I (by decide)]; exact h3
  · rw [C.J (by decide)]; exact h7
  · rw [C.I (by decide)]; exact h8
  · rw [C.A (by decide)]; exact h9
  · rw [C.I (by decide)]; exact h10
  · rw [C.A (by decide)]; exact h11
  · rw [C.A (by decide), C.A (by decide), C.L (by decide)]; exact h12
section KHOUSE2
variable {F : Nat} {g : Hp} {B : Nat → Nat} {n R : Nat} {s0 st : RS} {h : HS} {t : Tok} {lc : Bool} {pt : Nat}
/-- the text is opened -/
theorem rbegin_e (hF : 742 ≤ F) {m : MS} (Q : RI st m) (hB : ∀ i, i < 740 → mB m i < 256) (t7 : mT m ≤ 740) {R : Nat} (hR : R ≤ 740) {K : Int32} (hK : K = nI R) : ∃ s0 s1, m_X12_begin F (some 179) K (ov g st) = some (ov g s1) ∧ RB s0 (mt0 m) ∧ Cg (10 :: sI0) [] [] s0 s1 ∧ TKr s1 (mT m) R (tokF (mB m) (mT m) R 0) ∧ sI s1 10 = 0 ∧ ∀ i, i < 740 → sA s1 1 i = nI (mB m i) ∧ mB m i < 256 := by
  subst hK
  obtain ⟨a1, q1, B1⟩ := rbeg (F := F) (g := g) (by omega) Q 0
  obtain ⟨q2, B2⟩ := rtake_e (F := F) (g := g) B1
  have hby : ∀ i, i < 740 → sA (uI a1 2 0) 1 i = nI (mB m i) ∧ mB m i < 256 := fun i hi => ⟨B2.1.2.1.1 i hi, hB i hi⟩
  have cg : Cg (10 :: sI0) [] [] (uI a1 2 0) (uI (uI (uI (uI (uI a1 2 0) 3 (nI (mT m))) 4 (nI R)) 10 0) 5 0) := (Cg.uI (by decide)).trans ((Cg.uI (by decide)).trans ((Cg.uI (by decide)).trans (Cg.uI (by decide))))
  obtain ⟨s1, e1, e2, e3⟩ := rgo_e (F := F) (g := g) (st := uI (uI (uI (uI (uI a1 2 0) 3 (nI (mT m))) 4 (nI R)) 10 0) 5 0) (B := mB m) hF t7 hR (p := 0) (Nat.zero_le _) hby (by rw [sI_o (by decide), sI_o (by decide), sI_o (by decide), sI_uI, if_pos rfl]) (by rw [sI_o (by decide), sI_o (by decide), sI_uI, if_pos rfl]) (by rw [sI_uI, if_pos rfl]; rfl)
  refine ⟨uI a1 2 0, s1, ?_, B2, cg.trans (e3.mono (by decide) (by decide) (by decide)), e2, ?_, fun i hi => ?_⟩
  · unfold m_X12_begin
    rw [wI_0, bd_some, ck_e r_isO, bd_e q1, ck_e r_isO, bd2_e q2, wI_3, bd_some, wI_4, bd_some, wI_10, bd_some, wI_5, bd_some, ck_e r_isO, bd_e e1]
  · rw [e3.I (by decide), sI_o (by decide), sI_uI, if_pos rfl]
  · rw [e3.A (by decide)]; exact hby i hi
theorem rcpA_L (v : Int32) : ∀ (d i z : Nat) (st' : RS), i + d = 170 → d < z → Cg [] [14] [] st st' → (∀ j, j < i → sA st' 14 j = sA st 15 j) → (∀ j, 170 ≤ j → sA st' 14 j = sA st 14 j) → ∃ s1, m_X12_house_L55 F z (some 179) v (nI i) (ov g st') = m_X12_house_L82 F F (some 179) v 0 (ov g s1) ∧ Cg [] [14] [] st s1 ∧ ∀ j, j < 170 → sA s1 14 j = sA st 15 j := by
  intro d
  induction d with
  | zero =>
    intro i z st' hi hz c r1 r2
    obtain ⟨z, rfl⟩ : ∃ j, z = j + 1 := ⟨z - 1, by omega⟩
    refine ⟨st', ?_, c, fun j hj => r1 j (by omega)⟩
    show m_X12_house_b55 F _ _ _ _ _ = _
    unfold m_X12_house_b55
    rw [if_pos (show (170 : Int32) ≤ nI i from nI_le (a := 170) (by omega) (by omega))]
  | succ d ih =>
    intro i z st' hi hz c r1 r2
    obtain ⟨z, rfl⟩ : ∃ j, z = j + 1 := ⟨z - 1, by omega⟩
    obtain ⟨s1, i1, i2⟩ := ih (i + 1) z (uA st' 14 i (sA st' 15 i)) (by omega) (by omega) (c.trans (Cg.uA (by decide))) (fun j hj => by
      rw [uA_v]
      by_cases q : j = i
      · rw [if_pos q, c.A (by decide), q]
      · rw [if_neg q]; exact r1 j (by omega)) (fun j hj => by rw [uA_v, if_neg (by omega)]; exact r2 j hj)
    refine ⟨s1, ?_, i2⟩
    rw [← i1]
    show m_X12_house_b55 F _ _ _ _ _ = _
    unfold m_X12_house_b55
    rw [if_neg (show ¬ (170 : Int32) ≤ nI i from nI_ge (b := 170) (by omega) (by omega)), rR_14, bd_some, rR_15, bd_some, rE_15 (by omega), bd_some, wE_14 (by omega), bd_some, nm_e2, nI_1]
theorem rcpL_L (v : Int32) : ∀ (d i z : Nat) (st' : RS), i + d = 16 → d < z → Cg [] [] [17] st st' → (∀ j, j < i → sL st' 17 j = sL st 18 j) → ∃ s1, m_X12_house_L82 F z (some 179) v (nI i) (ov g st') = some (v, ov g s1) ∧ Cg [] [14] [17] st s1 ∧ (∀ j, j ≠ 170 → sA s1 14 j = sA st 14 j) ∧ sA s1 14 170 = 0 ∧ ∀ j, j < 16 → sL s1 17 j = sL st 18 j := by
  intro d
  induction d with
  | zero =>
    intro i z st' hi hz c r1
    obtain ⟨z, rfl⟩ : ∃ j, z = j + 1 := ⟨z - 1, by omega⟩
    refine ⟨uA st' 14 170 0, ?_, (c.mono (by decide) (by decide) (by decide)).trans (Cg.uA (by decide)), fun j hj => by rw [uA_v, if_neg hj, c.A (by decide)], by rw [uA_v, if_pos rfl], fun j hj => by rw [sL_uA]; exact r1 j (by omega)⟩
    show m_X12_house_b82 F _ _ _ _ _ = _
    unfold m_X12_house_b82
    rw [if_pos (show (16 : Int32) ≤ nI i from nI_le (a := 16) (by omega) (by omega)), rR_14, bd_some, show stI (ov g st') 1 (some 181) (170 : Int32) 0 = _ from wE_14 (j := 170) (by omega), bd_some]
  | succ d ih =>
    intro i z st' hi hz c r1
    obtain ⟨z, rfl⟩ : ∃ j, z = j + 1 := ⟨z - 1, by omega⟩
    obtain ⟨s1, i1, i2⟩ := ih (i + 1) z (uL st' 17 i (sL st' 18 i)) (by omega) (by omega) (c.trans (Cg.uL (by decide))) (fun j hj => by
      rw [sL_uL, if_pos rfl]
      by_cases q : j = i
      · rw [q, updL_s, c.L (by decide)]
      · rw [updL_n q]; exact r1 j (by omega))
    refine ⟨s1, ?_, i2⟩
    rw [← i1]
    show m_X12_house_b82 F _ _ _ _ _ = _
    unfold m_X12_house_b82
    rw [if_neg (show ¬ (16 : Int32) ≤ nI i from nI_ge (b := 16) (by omega) (by omega)), rR_17, bd_some, rR_18, bd_some, rE_18 (by omega), bd_some, wE_17 (by omega), bd_some, nm_e2, nI_1]
theorem k_house (hF : 5041 ≤ F) : KW sk (m_X11_house F (some 100)) (m_X12_house F (some 179)) := by
  intro f n z st m C Q
  have tp : TP f (mB m) ∧ mT m ≤ 740 := by
    obtain ⟨_, _, _, _, _, _, _, -, -, ⟨t1, t2, -⟩, -⟩ := C
    exact ⟨t1, t2⟩
  have hB : ∀ i, i < 740 → mB m i < 256 := fun i hi => (bytes_P tp.1 Q rfl i hi).2
  obtain ⟨v, f', m', e1, e2, e3, e4⟩ := chouse_e (F := F) (by omega) C
  refine ⟨v, f', m', e1, e2, e3, fun g => ?_⟩
  obtain ⟨s0, s1, b1, b2, b3, b4, b5, b6⟩ := rbegin_e (F := F) (g := g) (by omega) Q hB tp.2 (R := 700) (K := 700) (by decide) rfl
  obtain ⟨s2, d1, d2, d3, d4⟩ := std_e (F := F) (g := g) (st := s1) (by omega) (k := 15) (Or.inr rfl)
  have hc2 : Cg sI0 sA0 sL0 s1 s2 := d2.cg.mono (by decide) (by decide) (by decide)
  have b3 : Cg (10 :: sI0) sA0 sL0 s0 s1 := b3.mono (fun _ h => h) (by decide) (by decide)
  have C3 : RSt (mB m) (mT m) 700 s1 (uI (uI s2 22 0) 23 0) hE (tokF (mB m) (mT m) 700 0) false 0 := by
    refine ⟨hc2.trans ((Cg.uI (by decide)).trans (Cg.uI (by decide))), fun i hi => ?_, ⟨?_, 0, Nat.zero_le _, rfl⟩, ⟨NW_std d3, okH_hE⟩, ⟨fun c hc => absurd hc (Nat.not_lt_zero _), fun c hc => absurd hc (Nat.not_lt_zero _)⟩, by rw [sI_o (by decide), sI_uI, if_pos rfl]; rfl, by rw [sI_uI, if_pos rfl]; rfl, trivial, tp.2, by decide, by decide⟩
    · show sA s2 1 i = _ ∧ _
      rw [d2.cg.A (by decide)]
      exact b6 i hi
    · exact (b4.cg d2.cg (by decide)).cg (I := [22, 23]) (A := []) (L := []) ((Cg.uI (by decide)).trans (Cg.uI (by decide))) (by decide)
  have run : ∀ o, m_X12_house_L26 F F (some 179) (nI 0) (ov g (uI (uI s2 22 0) 23 0)) = o → m_X12_house F (some 179) (ov g st) = o := fun o ho => by
    unfold m_X12_house
    rw [ck_e r_isO, bd_e b1, rR_15, bd_some, bd_e (show m_X12_standard F (some 182) (ov g s1) = _ from d1), wI_22, bd_some, wI_23, bd_some]
    exact ho
  have ne : mHs (mB m) (mT m) ≠ .inl (0, 0) := by
    rcases e4 with ⟨q, q1, -, -, q4, -⟩ | ⟨k, h, q1, -⟩
    · rw [q1]
      intro c
      cases c
      omega
    · rw [q1]
      intro c
      cases c
  have e10 : sI s0 21 = 1 := b2.2.1
  rcases rhouse_L (F := F) (g := g) (by omega) 741 0 F _ hE _ false 0 (by omega) C3 (fun _ => ⟨rfl, rfl, rfl⟩) ne with ⟨q, s3, r1, r2, r3⟩ | ⟨k', h', t', lc', pt', s3, r1, r2, C4⟩
  · have r1 : mHs (mB m) (mT m) = .inl q := r1
    rw [r1] at e4
    rcases e4 with ⟨q', q1, q2, q3, -⟩ | ⟨k, h, q1, -⟩
    · cases q1
      subst q3
      subst q2
      refine ⟨s3, run _ r2, ?_⟩
      have r31 := b3.trans r3.1
      exact b2.1.fh (r31.mono (fun _ h => h) (by decide) (by decide)) e10 r3.2.1 (by rw [r31.A (by decide)]; exact b2.2.2) (by rw [r31.L (by decide)]; exact b2.1.2.2.2.1)
    · cases q1
  · have r1 : mHs (mB m) (mT m) = .inr (k', h') := r1
    rw [r1] at e4
    rcases e4 with ⟨q', q1, -⟩ | ⟨k, h, q1, q2, q3, ok', -⟩
    · cases q1
    · cases q1
      subst q3
      subst q2
      obtain ⟨s4, i1, i2, i3⟩ := rcpA_L (F := F) (g := g) (st := s3) (nI k') 170 0 F s3 (by omega) (by omega) (Cg.refl _ _ _ _) (fun _ h => absurd h (Nat.not_lt_zero _)) (fun _ _ => rfl)
      obtain ⟨s5, j1, j2, j3, j4, j5⟩ := rcpL_L (F := F) (g := g) (st := s4) (nI k') 16 0 F s4 (by omega) (by omega) (Cg.refl _ _ _ _) (fun _ h => absurd h (Nat.not_lt_zero _))
      refine ⟨s5, run _ (r2.trans (i1.trans j1)), ?_⟩
      have cc : Cg (10 :: sI0) (14 :: sA0) (17 :: sL0) s0 s5 := ((b3.trans (C4.1.mono (by decide) (fun _ h => h) (fun _ h => h))).mono (fun _ h => h) (by decide) (by decide)).trans ((i2.mono (by decide) (by decide) (by decide)).trans (j2.mono (by decide) (by decide) (by decide)))
      obtain ⟨N4, -⟩ := C4.2.2.2.1
      have z10 : sI s5 10 = nI 0 := by
        rw [j2.I (by decide), i2.I (by decide), C4.1.I (by decide), b5]
        rfl
      refine b2.1.fh cc e10 z10 ⟨N4.ext ok' (fun j hj => ?_), Or.inl ⟨rfl, j4⟩⟩ (fun c hc => ?_)
      · rw [j3 j (by omega), i3 j hj]
      · have := ok'.2.1
        rw [j5 c (by omega), i2.L (by decide)]
        exact C4.2.2.2.2.1.1 c hc
end KHOUSE2
