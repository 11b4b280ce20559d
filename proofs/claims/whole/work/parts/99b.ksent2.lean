/-! the call 'sentence': both -/
variable {sk : Nat}
section KSENT
variable {F : Nat} {g : Hp} {st : RS}
theorem rcpS_L : ∀ (d i z : Nat) (st' : RS), i + d = 240 → d < z → Cg [] [14] [] st st' → (∀ j, j < i → sA st' 14 (172 + j) = sA st 42 j) → (∀ j, j < 172 → sA st' 14 j = sA st 14 j) → ∃ s1, m_X12_sentence_L79 F z (some 179) (nI i) (ov g st') = some (sI st 44, ov g s1) ∧ Cg [] [14] [] st s1 ∧ (∀ j, j < 240 → sA s1 14 (172 + j) = sA st 42 j) ∧ ∀ j, j < 172 → sA s1 14 j = sA st 14 j := by
  intro d
  induction d with
  | zero =>
    intro i z st' hi hz c r1 r2
    obtain ⟨z, rfl⟩ : ∃ j, z = j + 1 := ⟨z - 1, by omega⟩
    refine ⟨st', ?_, c, fun j hj => r1 j (by omega), r2⟩
    show m_X12_sentence_b79 F _ _ _ _ = _
    unfold m_X12_sentence_b79
    rw [if_pos (show (240 : Int32) ≤ nI i from nI_le (a := 240) (by omega) (by omega)), rI_44, bd_some, c.I (by decide)]
  | succ d ih =>
    intro i z st' hi hz c r1 r2
    obtain ⟨z, rfl⟩ : ∃ j, z = j + 1 := ⟨z - 1, by omega⟩
    obtain ⟨s1, i1, i2⟩ := ih (i + 1) z (uA st' 14 (172 + i) (sA st' 42 i)) (by omega) (by omega) (c.trans (Cg.uA (by decide))) (fun j hj => by
      rw [uA_v]
      by_cases q : j = i
      · rw [if_pos (by omega), c.A (by decide), q]
      · rw [if_neg (by omega)]; exact r1 j (by omega)) (fun j hj => by rw [uA_v, if_neg (by omega)]; exact r2 j hj)
    refine ⟨s1, ?_, i2⟩
    rw [← i1]
    show m_X12_sentence_b79 F _ _ _ _ = _
    unfold m_X12_sentence_b79
    rw [if_neg (show ¬ (240 : Int32) ≤ nI i from nI_ge (b := 240) (by omega) (by omega)), rR_14, bd_some, rR_42, bd_some, rE_42 (by omega), bd_some, show (172 : Int32) + nI i = nI (172 + i) by rw [show (172 : Int32) = nI 172 from rfl, nI_add], wE_14 (by omega), bd_some, nm_e2, nI_1]
theorem k_sentence (hF : 5041 ≤ F) : KW sk (m_X11_sentence F (some 100)) (m_X12_sentence F (some 179)) := by
  intro f n z st m C Q
  have tp : TP f (mB m) ∧ mT m ≤ 740 := by
    obtain ⟨_, _, _, _, _, _, _, -, -, ⟨t1, t2, -⟩, -⟩ := C
    exact ⟨t1, t2⟩
  have hB : ∀ i, i < 740 → mB m i < 256 := fun i hi => (bytes_P tp.1 Q rfl i hi).2
  obtain ⟨v, f', m', e1, e2, e3, ok, e4⟩ := csent_e (F := F) (by omega) C
  refine ⟨v, f', m', e1, e2, e3, fun g => ?_⟩
  obtain ⟨s0, s1, b1, b2, b3, b4, b5, b6⟩ := rbegin_e (F := F) (g := g) (by omega) Q hB tp.2 (R := 200) (K := 200) (by decide) rfl
  have b3 : Cg (10 :: sI0) sA0 sL0 s0 s1 := b3.mono (fun _ h => h) (by decide) (by decide)
  have e21 : sI s0 21 = 1 := b2.2.1
  have N1 : NW (sA s1 14) (mH m) := by
    rw [b3.A (by decide)]
    exact b2.2.2.1
  have M1 : NMr (sL s1 17) (mH m) := by
    rw [b3.L (by decide)]
    exact b2.1.2.2.2.1
  have C3 : USs (mB m) (mT m) 200 s1 (uI (uI (uI s1 43 0) 44 0) 45 0) 0 (tokF (mB m) (mT m) 200 0) 0 8 := by
    refine ⟨⟨(Cg.uI (by decide)).trans ((Cg.uI (by decide)).trans (Cg.uI (by decide))), fun i hi => b6 i hi, ⟨b4.cg (I := [43, 44, 45]) (A := []) (L := []) ((Cg.uI (by decide)).trans ((Cg.uI (by decide)).trans (Cg.uI (by decide)))) (by decide), 0, Nat.zero_le _, rfl⟩, tp.2, by decide⟩, ⟨?_, ?_, ?_⟩, by decide, by decide, by decide⟩
    · rw [sI_o (by decide), sI_o (by decide), sI_uI, if_pos rfl]; rfl
    · rw [sI_o (by decide), sI_uI, if_pos rfl]; rfl
    · rw [sI_uI, if_pos rfl]; rfl
  have run : ∀ y f15, m_X12_readOr F 60 (some 179) (ov g (uI (uI (uI s1 43 0) 44 0) 45 0)) = some (y, f15) → m_X12_sentence F (some 179) (ov g st) = if y = 0 then ((gI f15 (some 179) 10 11).bind fun x28 => some (((-1 : Int32) - x28), f15)) else ((gI f15 (some 179) 10 7).bind fun x17 => if x17 = 0 then ((gR f15 (some 179) 10 14).bind fun x19 => (stI f15 1 x19 (170 : Int32) (1 : Int32)).bind fun f20 => (gR f20 (some 179) 10 14).bind fun x21 => (gI f20 (some 179) 10 46).bind fun x22 => (stI f20 1 x21 (171 : Int32) x22).bind fun f23 => m_X12_sentence_L79 F F (some 179) (0 : Int32) f23) else (chk (isO f15 (some 179) 10) <| bd2 (m_X12_bad F (some 179) (1 : Int32) f15) fun x25 f26 => (gI f26 (some 179) 10 11).bind fun x27 => some (((-1 : Int32) - x27), f26))) := fun y f15 ho => by
    unfold m_X12_sentence
    rw [ck_e r_isO, bd_e b1, wI_43, bd_some, wI_44, bd_some, wI_45, bd_some, ck_e r_isO, bd2_e ho]
  have mt : mSent (mB m) (mT m) 200 (mH m) = match mCond (mB m) (mT m) 200 (mH m) 8 0 (tokF (mB m) (mT m) 200 0) with
      | .inl q => .inl q
      | .inr q => if tK q.2.2 = 0 then .inr q else .inl (1, tA q.2.2) := rfl
  have flt : ∀ q s3, RF s1 s3 q → m_X12_sentence F (some 179) (ov g st) = some (-1 - nI q.2, ov g s3) → mSent (mB m) (mT m) 200 (mH m) = .inl q → ∃ st', m_X12_sentence F (some 179) (ov g st) = some (v, ov g st') ∧ RI st' m' := by
    intro q s3 r3 r2 ms
    rw [ms] at e4
    rcases e4 with ⟨q', q1, q2, q3⟩ | ⟨k, o, h, q1, -⟩
    · cases q1
      subst q3
      subst q2
      refine ⟨s3, r2, ?_⟩
      have r31 := b3.trans r3.1
      exact b2.1.fh (r31.mono (fun _ h => h) (by decide) (by decide)) e21 r3.2.1 (by rw [r31.A (by decide)]; exact b2.2.2) (by rw [r31.L (by decide)]; exact b2.1.2.2.2.1)
    · cases q1
  rcases u_top (F := F) (g := g) (h := mH m) (nd := sA s1 42) (by omega) N1 M1 ok C3 (fun j hj => rfl) with ⟨q, s3, r1, r2, r3⟩ | ⟨P, o, t, s3, k, r1, r2, C4, ⟨r3, r4, r5, r6⟩, r7, r8, r9⟩
  · rw [r1] at mt
    have e7 := run _ _ r2
    rw [if_pos rfl, rI_11, bd_some, r3.2.2.1] at e7
    exact flt q s3 r3 e7 mt
  · have mt : mSent (mB m) (mT m) 200 (mH m) = if tK t = 0 then .inr (P, o, t) else .inl (1, tA t) := by rw [mt, r1]
    have e7 := run _ _ r2
    have t4 := C4.1.k4
    rw [if_neg (by decide), bd_e C4.1.kind] at e7
    by_cases k0 : tK t = 0
    · rw [if_pos k0] at mt
      have o20 := C4.2.2.2.1
      have c2o := C4.2.2.1
      rw [if_pos (show nI (tK t) = 0 by rw [k0]; rfl), rR_14, bd_some, show stI (ov g s3) 1 (some 181) (170 : Int32) 1 = _ from wE_14 (j := 170) (by omega), bd_some, rR_14, bd_some, rI_46, bd_some, sI_uA, r3, show ∀ s : RS, ∀ x, stI (ov g s) 1 (some 181) (171 : Int32) x = some (ov g (uA s 14 171 x)) from fun s x => wE_14 (j := 171) (by omega), bd_some] at e7
      obtain ⟨s5, i1, i2, i3, i4⟩ := rcpS_L (F := F) (g := g) (st := uA (uA s3 14 170 1) 14 171 (nI k)) 240 0 F _ (by omega) (by omega) (Cg.refl _ _ _ _) (fun _ h => absurd h (Nat.not_lt_zero _)) (fun _ _ => rfl)
      have e7 := e7.trans i1
      rw [mt] at e4
      rcases e4 with ⟨q', q1, -⟩ | ⟨P', o', t', q1, q2, q3⟩
      · cases q1
      · cases q1
        subst q3
        subst q2
        have e44 : sI (uA (uA s3 14 170 1) 14 171 (nI k)) 44 = nI o := C4.2.1.2.1
        rw [e44] at e7
        refine ⟨s5, e7, ?_⟩
        have c35 : Cg [] [14] [] s3 s5 := (Cg.uA (by decide)).trans ((Cg.uA (by decide)).trans i2)
        have cc : Cg (10 :: sI0) (14 :: sA0) (17 :: sL0) s0 s5 := ((b3.trans (C4.1.1.mono (by decide) (fun _ h => h) (fun _ h => h))).mono (fun _ h => h) (by decide) (by decide)).trans (c35.mono (by decide) (by decide) (by decide))
        refine b2.1.fh cc e21 ?_ ⟨N1.ext ok (fun j hj => ?_), Or.inr ⟨fun e => ?_, ?_, k, by omega, ?_, ?_⟩⟩ ?_
        · rw [c35.I (by decide), C4.1.1.I (by decide), b5]
          rfl
        · rw [i4 j (by omega), uA_v, if_neg (by omega), uA_v, if_neg (by omega), C4.1.1.A (by decide)]
        · rw [e] at r9
          exact absurd r9 (by decide)
        · rw [i4 _ (by omega), uA_v, if_neg (by omega), uA_v, if_pos rfl]
        · rw [i4 _ (by omega), uA_v, if_pos rfl]
        · exact NdR.mono (by omega) (NdR.ext (fun i hi => i3 i hi) _ _ _ (by omega) r6)
        · rw [c35.L (by decide), C4.1.1.L (by decide)]
          exact M1
    · rw [if_neg k0] at mt
      rw [if_neg (nI_ne0 (by omega) (by omega)), ck_e r_isO] at e7
      obtain ⟨s5, i1, i2⟩ := ubad_s (F := F) (g := g) C4.1 (k := 1) (K := 1) (by decide) (by decide) rfl (fun _ => rfl)
      rw [bd2_e i1, rI_11, bd_some, i2.2.2.1] at e7
      exact flt _ s5 i2 e7 mt
end KSENT
