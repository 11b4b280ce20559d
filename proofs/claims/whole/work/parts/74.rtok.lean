/-! the reference's TOKENS -/
def TKr (st : RS) (n R : Nat) (t : Tok) : Prop := sI st 3 = nI n ∧ sI st 4 = nI R ∧ sI st 6 = nI (tA t) ∧ sI st 7 = nI (tK t) ∧ (tK t = 2 → sJ st 12 = lN (code27 (tL t))) ∧ (tK t = 3 → sI st 8 = nI (tV t)) ∧ (tK t = 4 → sI st 9 = nI (tS t)) ∧ (2 ≤ tK t → sI st 5 = nI (tB t))
theorem skF_mono (B : Nat → Nat) : ∀ d d' p, d ≤ d' → skF B d p ≤ skF B d' p ∧ (skF B d p < p + d → skF B d' p = skF B d p)
  | 0, d', p, _ => ⟨(skF_p B d' p).1, fun h => absurd h (by show ¬ p < p + 0; omega)⟩
  | d + 1, 0, p, h => absurd h (by omega)
  | d + 1, d' + 1, p, h => by
    have ih := skF_mono B d d' (p + 1) (by omega)
    show (if blB (B p) then skF B d (p + 1) else p) ≤ (if blB (B p) then skF B d' (p + 1) else p) ∧ ((if blB (B p) then skF B d (p + 1) else p) < p + (d + 1) → (if blB (B p) then skF B d' (p + 1) else p) = (if blB (B p) then skF B d (p + 1) else p))
    cases e : blB (B p)
    · rw [if_neg (by decide), if_neg (by decide)]
      exact ⟨Nat.le_refl _, fun _ => rfl⟩
    · rw [if_pos rfl, if_pos rfl]
      exact ⟨ih.1, fun q => ih.2 (by omega)⟩
section RTOK
variable {F : Nat} {f g : Hp} {st : RS} {B : Nat → Nat}
theorem rlet_e {b : Nat} (hb : b < 256) : m_X12_isLetter F (nI b) f = some (if ltB b then 1 else 0) := by
  unfold m_X12_isLetter ltB
  by_cases c1 : b < 97
  · rw [if_pos (show nI b < (97 : Int32) from nI_lt (b := 97) c1 (by omega)), ck_e (by decide), decide_eq_false (show ¬ 97 ≤ b by omega)]; rfl
  · rw [if_neg (show ¬ nI b < (97 : Int32) from nI_nlt (b := 97) (by omega) (by omega)), decide_eq_true (show 97 ≤ b by omega)]
    by_cases c2 : 122 < b
    · rw [if_pos (show (122 : Int32) < nI b from nI_lt (a := 122) c2 (by omega)), ck_e (by decide), decide_eq_false (show ¬ b ≤ 122 by omega)]; rfl
    · rw [if_neg (show ¬ (122 : Int32) < nI b from nI_nlt (a := 122) (by omega) (by omega)), ck_e (by decide), decide_eq_true (show b ≤ 122 by omega)]; rfl
theorem rdig_e {b : Nat} (hb : b < 256) : m_X12_isDigit F (nI b) f = some (if dgB b then 1 else 0) := by
  unfold m_X12_isDigit dgB
  by_cases c1 : b < 48
  · rw [if_pos (show nI b < (48 : Int32) from nI_lt (b := 48) c1 (by omega)), ck_e (by decide), decide_eq_false (show ¬ 48 ≤ b by omega)]; rfl
  · rw [if_neg (show ¬ nI b < (48 : Int32) from nI_nlt (b := 48) (by omega) (by omega)), decide_eq_true (show 48 ≤ b by omega)]
    by_cases c2 : 57 < b
    · rw [if_pos (show (57 : Int32) < nI b from nI_lt (a := 57) c2 (by omega)), ck_e (by decide), decide_eq_false (show ¬ b ≤ 57 by omega)]; rfl
    · rw [if_neg (show ¬ (57 : Int32) < nI b from nI_nlt (a := 57) (by omega) (by omega)), ck_e (by decide), decide_eq_true (show b ≤ 57 by omega)]; rfl
abbrev tcI : List Nat := [5, 6, 7, 8, 9, 12]
/-- the run's kind -/
theorem rrun_end {n R a e : Nat} {M : List Nat} (hne : M ≠ []) (fl : Bool) (hM : ∀ c ∈ M, (ltB c || dgB c) = true) (hf : (fl = true → 0 < M.countP ltB) ∧ (fl = false → 0 < M.countP dgB)) (hlen : M.length = e - a) (hae : a ≤ e) (he : e ≤ 740) (h3 : sI st 3 = nI n) (h4 : sI st 4 = nI R) (h5 : sI st 5 = nI e) (h6 : sI st 6 = nI a) (hw : M.length ≤ 7 → M.countP dgB = 0 → sJ st 12 = lN (code27 (lts M))) (hv : M.length ≤ 2 → M.countP ltB = 0 → sI st 8 = nI (vlD M)) : ∃ st', m_X12_go_B350 F (some 179) (if fl then 1 else 0) (if (if fl then M.countP dgB = 0 else M.countP ltB = 0) then 1 else 0) (ov g st) = some (ov g st') ∧ TKr st' n R (runM a e M) ∧ Cg [7] [] [] st st' := by
  have hs := cntP_ld hM
  have mk : ∀ (k : Nat) (t : Tok), tK t = k → tA t = a → (k = 2 → sJ st 12 = lN (code27 (tL t))) → (k = 3 → sI st 8 = nI (tV t)) → k ≠ 4 → (2 ≤ k → tB t = e) → TKr (uI st 7 (nI k)) n R t := by
    intro k t e1 e2 e3 e4 e5 e6
    subst e1
    exact ⟨by rw [sI_o (by decide)]; exact h3, by rw [sI_o (by decide)]; exact h4, by rw [sI_o (by decide), e2]; exact h6, by rw [sI_uI, if_pos rfl], e3, fun w => by rw [sI_o (by decide)]; exact e4 w, fun w => absurd w e5, fun w => by rw [sI_o (by decide), e6 w]; exact h5⟩
  have cg : ∀ k : Int32, Cg [7] [] [] st (uI st 7 k) := fun k => Cg.uI (by decide)
  unfold m_X12_go_B350
  by_cases q : (if fl then M.countP dgB = 0 else M.countP ltB = 0)
  · rw [if_pos q, if_neg (by decide), rI_5, bd_some, rI_6, bd_some, h5, h6]
    cases fl
    · have q' : M.countP ltB = 0 := q
      rw [if_pos (show (if false = true then (1 : Int32) else 0) = 0 by decide)]
      unfold m_X12_go_B374 runM
      rw [nI_sub hae]
      have nd : ¬ (M.countP dgB = 0 ∧ M.length ≤ 7) := fun c => by have := hf.2 rfl; omega
      rw [if_neg nd]
      by_cases w : e - a ≤ 2
      · rw [if_pos (show nI (e - a) ≤ (2 : Int32) from nI_le (b := 2) w (by omega)), if_pos (by decide)]
        refine ⟨uI st 7 (nI 3), ?_, ?_, cg _⟩
        · rw [show (3 : Int32) = nI 3 from rfl, wI_7, bd_some]
        · rw [if_pos (show M.countP ltB = 0 ∧ M.length ≤ 2 from ⟨q', by omega⟩)]
          exact mk 3 _ rfl rfl (fun h => absurd h (by decide)) (fun _ => hv (by omega) q') (by decide) (fun _ => rfl)
      · rw [if_neg (show ¬ nI (e - a) ≤ (2 : Int32) from nI_ge (a := 2) (by omega) (by omega))]
        refine ⟨uI st 7 (nI 1), ?_, ?_, cg _⟩
        · rw [show (1 : Int32) = nI 1 from rfl, wI_7, bd_some]
        · rw [if_neg (show ¬ (M.countP ltB = 0 ∧ M.length ≤ 2) from fun c => by omega)]
          exact mk 1 _ rfl rfl (fun h => absurd h (by decide)) (fun h => absurd h (by decide)) (by decide) (fun h => absurd h (by decide))
    · have q' : M.countP dgB = 0 := q
      rw [if_neg (show ¬ (if true = true then (1 : Int32) else 0) = 0 by decide)]
      unfold m_X12_go_B374 runM
      rw [nI_sub hae]
      by_cases w : e - a ≤ 7
      · rw [if_pos (show nI (e - a) ≤ (7 : Int32) from nI_le (b := 7) w (by omega)), if_neg (by decide)]
        refine ⟨uI st 7 (nI 2), ?_, ?_, cg _⟩
        · rw [show (2 : Int32) = nI 2 from rfl, wI_7, bd_some]
        · rw [if_pos (show M.countP dgB = 0 ∧ M.length ≤ 7 from ⟨q', by omega⟩)]
          exact mk 2 _ rfl rfl (fun _ => hw (by omega) q') (fun h => absurd h (by decide)) (by decide) (fun _ => rfl)
      · rw [if_neg (show ¬ nI (e - a) ≤ (7 : Int32) from nI_ge (a := 7) (by omega) (by omega))]
        refine ⟨uI st 7 (nI 1), ?_, ?_, cg _⟩
        · rw [show (1 : Int32) = nI 1 from rfl, wI_7, bd_some]
        · rw [if_neg (show ¬ (M.countP dgB = 0 ∧ M.length ≤ 7) from fun c => by omega), if_neg (show ¬ (M.countP ltB = 0 ∧ M.length ≤ 2) from fun c => by have := hf.1 rfl; omega)]
          exact mk 1 _ rfl rfl (fun h => absurd h (by decide)) (fun h => absurd h (by decide)) (by decide) (fun h => absurd h (by decide))
  · rw [if_neg q, if_pos rfl]
    refine ⟨uI st 7 (nI 1), ?_, ?_, cg _⟩
    · rw [show (1 : Int32) = nI 1 from rfl, wI_7, bd_some]
    · have : runM a e M = (1, a, e, [], 0, 0) := by
        unfold runM
        cases fl
        · have q' : ¬ M.countP ltB = 0 := q
          have := hf.2 rfl
          rw [if_neg (fun c => by omega), if_neg (fun c => by omega)]
        · have q' : ¬ M.countP dgB = 0 := q
          have := hf.1 rfl
          rw [if_neg (fun c => by omega), if_neg (fun c => by omega)]
      rw [this]
      exact mk 1 _ rfl rfl (fun h => absurd h (by decide)) (fun h => absurd h (by decide)) (by decide) (fun h => absurd h (by decide))
theorem rrun_L {n R a : Nat} (hn : n ≤ 740) (hB : ∀ i, i < 740 → sA st 1 i = nI (B i) ∧ B i < 256) (h3 : sI st 3 = nI n) (h4 : sI st 4 = nI R) (h6 : sI st 6 = nI a) : ∀ (d i z : Nat) (st' : RS) (v3 : Int32), i + d = n → a ≤ i → d < z → Cg [5, 7, 8, 12] [] [] st st' → sI st' 5 = nI i → (∀ j, a ≤ j → j < i → (ltB (B j) || dgB (B j)) = true) → a < rnF B d i → v3 = (if (if ltB (B a) then (byL B a i).countP dgB = 0 else (byL B a i).countP ltB = 0) then 1 else 0) → ((byL B a i).length ≤ 7 → (byL B a i).countP dgB = 0 → sJ st' 12 = lN (code27 (lts (byL B a i)))) → ((byL B a i).length ≤ 2 → (byL B a i).countP ltB = 0 → sI st' 8 = nI (vlD (byL B a i))) → ∃ st'', m_X12_go_L215 F z (some 179) (if ltB (B a) then 1 else 0) v3 (ov g st') = some (ov g st'') ∧ TKr st'' n R (runM a (rnF B d i) (byL B a (rnF B d i))) ∧ Cg [5, 7, 8, 12] [] [] st st'' := by
  have fin : ∀ (i z : Nat) (st' : RS) (v3 : Int32), i ≤ n → a < i → Cg [5, 7, 8, 12] [] [] st st' → sI st' 5 = nI i → (∀ j, a ≤ j → j < i → (ltB (B j) || dgB (B j)) = true) → v3 = (if (if ltB (B a) then (byL B a i).countP dgB = 0 else (byL B a i).countP ltB = 0) then 1 else 0) → ((byL B a i).length ≤ 7 → (byL B a i).countP dgB = 0 → sJ st' 12 = lN (code27 (lts (byL B a i)))) → ((byL B a i).length ≤ 2 → (byL B a i).countP ltB = 0 → sI st' 8 = nI (vlD (byL B a i))) → ∃ st'', m_X12_go_B350 F (some 179) (if ltB (B a) then 1 else 0) v3 (ov g st') = some (ov g st'') ∧ TKr st'' n R (runM a i (byL B a i)) ∧ Cg [5, 7, 8, 12] [] [] st st'' := by
    intro i z st' v3 hi hlt C h5 hr hv3 hw hv
    have ml := byL_len B a i
    have hM : ∀ c ∈ byL B a i, (ltB c || dgB c) = true := fun c hc => by obtain ⟨j, j1, j2, rfl⟩ := byL_mem hc; exact hr j j1 j2
    have mem : B a ∈ byL B a i := by
      have h0 : 0 < (byL B a i).length := by omega
      have := List.getElem_mem h0
      rw [byL_at] at this
      exact this
    obtain ⟨s2, e1, e2, e3⟩ := rrun_end (F := F) (g := g) (st := st') (n := n) (R := R) (a := a) (e := i) (M := byL B a i) (fun c => by rw [c] at ml; simp at ml; omega) (ltB (B a)) hM ⟨fun e => List.countP_pos_iff.mpr ⟨_, mem, e⟩, fun e => List.countP_pos_iff.mpr ⟨_, mem, by have := hM _ mem; rw [e] at this; exact this⟩⟩ ml (by omega) (by omega) (by rw [C.I (by decide)]; exact h3) (by rw [C.I (by decide)]; exact h4) h5 (by rw [C.I (by decide)]; exact h6) hw hv
    rw [hv3]
    exact ⟨s2, e1, e2, C.trans (e3.mono (by decide) (by decide) (by decide))⟩
  intro d
  induction d with
  | zero =>
    intro i z st' v3 hi ha hz C h5 hr hlt hv3 hw hv
    obtain ⟨z, rfl⟩ : ∃ j, z = j + 1 := ⟨z - 1, by omega⟩
    obtain ⟨s2, e1, e2⟩ := fin i z st' v3 (by omega) hlt C h5 hr hv3 hw hv
    refine ⟨s2, ?_, e2⟩
    have b0 : m_X12_byteAt F (some 179) (nI i) (ov g st') = some 0 := by
      unfold m_X12_byteAt
      rw [rI_3, bd_some, C.I (by decide), h3, if_pos (nI_le (by omega) (by omega))]
    show m_X12_go_b215 F _ _ _ _ _ = _
    unfold m_X12_go_b215
    rw [rI_5, bd_some, h5, ck_e r_isO, bd_e b0, bd_e (show m_X12_isLetter F 0 (ov g st') = some 0 from rlet_e (b := 0) (by omega)), if_pos rfl, bd_some, ck_e r_isO, bd_e b0, bd_e (show m_X12_isDigit F 0 (ov g st') = some 0 from rdig_e (b := 0) (by omega)), if_pos rfl]
    exact e1
  | succ d ih =>
    intro i z st' v3 hi ha hz C h5 hr hlt hv3 hw hv
    obtain ⟨z, rfl⟩ : ∃ j, z = j + 1 := ⟨z - 1, by omega⟩
    obtain ⟨b1, b2⟩ := hB i (by omega)
    have a1 : sA st' 1 = sA st 1 := C.A (by decide)
    have c6 : sI st' 6 = nI a := by rw [C.I (by decide)]; exact h6
    have bi : m_X12_byteAt F (some 179) (nI i) (ov g st') = some (nI (B i)) := by
      unfold m_X12_byteAt
      rw [rI_3, bd_some, C.I (by decide), h3, if_neg (nI_ge (by omega) (by omega)), rR_1, bd_some, rE_1 (by omega), bd_some, a1, b1]
    show ∃ st'', m_X12_go_b215 F _ _ _ _ _ = _ ∧ _
    unfold m_X12_go_b215
    rw [rI_5, bd_some, h5, ck_e r_isO, bd_e bi, bd_e (rlet_e b2)]
    have stop : (ltB (B i) || dgB (B i)) = false → ∃ st'', m_X12_go_B350 F (some 179) (if ltB (B a) then 1 else 0) v3 (ov g st') = some (ov g st'') ∧ TKr st'' n R (runM a (rnF B (d + 1) i) (byL B a (rnF B (d + 1) i))) ∧ Cg [5, 7, 8, 12] [] [] st st'' := fun e => by
      have er : rnF B (d + 1) i = i := by show (if (ltB (B i) || dgB (B i)) = true then _ else _) = _; rw [e]; rfl
      rw [er] at hlt ⊢
      exact fin i z st' v3 (by omega) hlt C h5 hr hv3 hw hv
    have go : (ltB (B i) || dgB (B i)) = true → ∃ st'', m_X12_go_B243 F (m_X12_go_L215 F z) (some 179) (if ltB (B a) then 1 else 0) v3 (ov g st') = some (ov g st'') ∧ TKr st'' n R (runM a (rnF B (d + 1) i) (byL B a (rnF B (d + 1) i))) ∧ Cg [5, 7, 8, 12] [] [] st st'' := fun e => by
      have er : rnF B (d + 1) i = rnF B d (i + 1) := by show (if (ltB (B i) || dgB (B i)) = true then _ else _) = _; rw [e]; rfl
      rw [er] at hlt ⊢
      have hr' : ∀ j, a ≤ j → j < i + 1 → (ltB (B j) || dgB (B j)) = true := fun j j1 j2 => by
        by_cases w : j = i
        · rw [w]; exact e
        · exact hr j j1 (by omega)
      have bs := byL_s (B := B) ha
      have ml := byL_len B a i
      have cL := cntP_app ltB (byL B a i) (B i)
      have cD := cntP_app dgB (byL B a i) (B i)
      -- the next flag
      have flag : ∃ s0 : Int32, s0 = (if (if ltB (B a) then (byL B a (i + 1)).countP dgB = 0 else (byL B a (i + 1)).countP ltB = 0) then 1 else 0) ∧ m_X12_go_B243 F (m_X12_go_L215 F z) (some 179) (if ltB (B a) then 1 else 0) v3 (ov g st') = m_X12_go_B272 F (m_X12_go_L215 F z) (some 179) (if ltB (B a) then 1 else 0) (nI (B i)) s0 (ov g st') := by
        refine ⟨_, rfl, ?_⟩
        unfold m_X12_go_B243
        rw [rR_1, bd_some, rI_5, bd_some, h5, rE_1 (by omega), bd_some, a1, b1, bs, cL, cD, hv3]
        unfold m_X12_go_B271
        by_cases q : (if ltB (B a) then (byL B a i).countP dgB = 0 else (byL B a i).countP ltB = 0)
        · rw [if_pos q, if_neg (by decide), bd_e (rlet_e b2)]
          cases fl : ltB (B a)
          · rw [fl] at q
            have q' : (byL B a i).countP ltB = 0 := q
            cases e1 : ltB (B i)
            · rw [if_pos rfl, if_neg (show ¬ false = true by decide), if_pos (by rw [q']; rfl)]
            · rw [if_neg (by decide), if_neg (show ¬ false = true by decide), if_neg (fun c => by have c' : (byL B a i).countP ltB + 1 = 0 := c; omega)]
          · rw [fl] at q
            have q' : (byL B a i).countP dgB = 0 := q
            cases e1 : ltB (B i)
            · have e2 : dgB (B i) = true := by rw [e1] at e; exact e
              rw [if_neg (by decide), e2, if_pos rfl, if_neg (fun c => by have c' : (byL B a i).countP dgB + 1 = 0 := c; omega)]
            · have e2 : dgB (B i) = false := by
                cases w : dgB (B i)
                · rfl
                · exact absurd ⟨e1, w⟩ (ld_x _)
              rw [if_pos rfl, e2, if_pos rfl, if_pos (by rw [q']; rfl)]
        · rw [if_neg q, if_pos rfl]
          have : ¬ (if ltB (B a) = true then (byL B a i).countP dgB + (if dgB (B i) = true then 1 else 0) = 0 else (byL B a i).countP ltB + (if ltB (B i) = true then 1 else 0) = 0) := by
            intro c
            cases fl : ltB (B a)
            · rw [fl] at q c
              have q' : ¬ (byL B a i).countP ltB = 0 := q
              have c' : (byL B a i).countP ltB + (if ltB (B i) = true then 1 else 0) = 0 := c
              omega
            · rw [fl] at q c
              have q' : ¬ (byL B a i).countP dgB = 0 := q
              have c' : (byL B a i).countP dgB + (if dgB (B i) = true then 1 else 0) = 0 := c
              omega
          rw [if_neg this]
      obtain ⟨s0, hs0, e0⟩ := flag
      rw [e0]
      -- the word
      have step1 : ∃ s1, m_X12_go_B272 F (m_X12_go_L215 F z) (some 179) (if ltB (B a) then 1 else 0) (nI (B i)) s0 (ov g st') = m_X12_go_B307 F (m_X12_go_L215 F z) (some 179) (if ltB (B a) then 1 else 0) s0 (nI (B i)) (ov g s1) ∧ Cg [12] [] [] st' s1 ∧ ((byL B a (i + 1)).length ≤ 7 → (byL B a (i + 1)).countP dgB = 0 → sJ s1 12 = lN (code27 (lts (byL B a (i + 1))))) := by
        unfold m_X12_go_B272
        rw [rI_5, bd_some, rI_6, bd_some, h5, c6, nI_sub ha]
        by_cases w : 7 ≤ i - a
        · rw [if_pos (show (7 : Int32) ≤ nI (i - a) from nI_le (a := 7) w (by omega))]
          refine ⟨st', rfl, Cg.refl _ _ _ _, fun c => ?_⟩
          rw [byL_len] at c; omega
        · rw [if_neg (show ¬ (7 : Int32) ≤ nI (i - a) from nI_ge (b := 7) (by omega) (by omega)), rJ_12, bd_some, wJ_12, bd_some]
          refine ⟨_, rfl, Cg.uJ (by decide), fun _ c => ?_⟩
          rw [bs, cD] at c
          have e1 : ltB (B i) = true := by
            cases w2 : ltB (B i)
            · rw [w2] at e
              have e2 : dgB (B i) = true := e
              rw [e2, if_pos rfl] at c
              omega
            · rfl
          have b57 : 97 ≤ B i ∧ B i ≤ 122 := by simpa [ltB] using e1
          rw [sJ_uJ, if_pos rfl, hw (by omega) (by omega), bs, lts_app, show code27 (lts (byL B a i) ++ [B i - 96]) = code27 (lts (byL B a i)) * 27 + (B i - 96) from cdN_app 27 _ _, nI_l (by omega), show (27 : Int64) = lN 27 from rfl, show (96 : Int64) = lN 96 from rfl, lN_mul, lN_add, lN_sub (by omega), Nat.mul_comm 27]
          congr 1
          omega
      obtain ⟨s1, e1, C1, hw1⟩ := step1
      rw [e1]
      have d5 : sI s1 5 = nI i := by rw [C1.I (by decide)]; exact h5
      have d6 : sI s1 6 = nI a := by rw [C1.I (by decide)]; exact c6
      have Cc : Cg [5, 7, 8, 12] [] [] st s1 := C.trans (C1.mono (by decide) (by decide) (by decide))
      unfold m_X12_go_B307
      rw [rI_5, bd_some, rI_6, bd_some, d5, d6, nI_sub ha]
      by_cases w : 2 ≤ i - a
      · rw [if_pos (show (2 : Int32) ≤ nI (i - a) from nI_le (a := 2) w (by omega)), bd_some, nI_1, wI_5, bd_some]
        exact ih (i + 1) z (uI s1 5 (nI (i + 1))) s0 (by omega) (by omega) (by omega) (Cc.trans (Cg.uI (by decide))) (by rw [sI_uI, if_pos rfl]) hr' hlt hs0 (fun c1 c2 => by rw [sJ_uI]; exact hw1 c1 c2) (fun c => by rw [byL_len] at c; omega)
      · rw [if_neg (show ¬ (2 : Int32) ≤ nI (i - a) from nI_ge (b := 2) (by omega) (by omega)), rI_8, bd_some, wI_8, bd_some, rI_5, bd_some, sI_o (by decide), d5, nI_1, wI_5, bd_some]
        refine ih (i + 1) z (uI (uI s1 8 (((10 : Int32) * sI s1 8 + nI (B i)) - (48 : Int32))) 5 (nI (i + 1))) s0 (by omega) (by omega) (by omega) ((Cc.trans (Cg.uI (by decide))).trans (Cg.uI (by decide))) (by rw [sI_uI, if_pos rfl]) hr' hlt hs0 (fun c1 c2 => by rw [sJ_uI, sJ_uI]; exact hw1 c1 c2) (fun _ c => ?_)
        rw [bs, cL] at c
        have e2 : dgB (B i) = true := by
          cases w2 : ltB (B i)
          · rw [w2] at e; exact e
          · rw [w2, if_pos rfl] at c; omega
        have b57 : 48 ≤ B i ∧ B i ≤ 57 := by simpa [dgB] using e2
        rw [sI_o (by decide), sI_uI, if_pos rfl, C1.I (by decide), hv (by omega) (by omega), bs, vlD_app, show (10 : Int32) = nI 10 from rfl, show (48 : Int32) = nI 48 from rfl, nI_mul, nI_add, nI_sub (by omega), Nat.mul_comm 10]
        congr 1
        omega
    cases e1 : ltB (B i)
    · rw [if_pos (show (if false = true then (1 : Int32) else 0) = 0 by decide), bd_some, ck_e r_isO, bd_e bi, bd_e (rdig_e b2)]
      cases e2 : dgB (B i)
      · rw [if_pos (show (if false = true then (1 : Int32) else 0) = 0 by decide)]
        exact stop (by rw [e1, e2]; rfl)
      · rw [if_neg (show ¬ (if true = true then (1 : Int32) else 0) = 0 by decide)]
        exact go (by rw [e1, e2]; rfl)
    · rw [if_neg (show ¬ (if true = true then (1 : Int32) else 0) = 0 by decide)]
      exact go (by rw [e1]; rfl)
end RTOK
