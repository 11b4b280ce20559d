/-! the reference's next TOKEN -/
section RGO
variable {F : Nat} {f g : Hp} {st : RS} {B : Nat → Nat}
theorem rskip_L {n : Nat} (hn : n ≤ 740) (hB : ∀ i, i < 740 → sA st 1 i = nI (B i) ∧ B i < 256) (h3 : sI st 3 = nI n) : ∀ (d i z : Nat) (st' : RS), i + d = n → d < z → Cg [5] [] [] st st' → sI st' 5 = nI i → ∃ st'', m_X12_go_L0 F z (some 179) (ov g st') = m_X12_go_B52 F (some 179) (ov g st'') ∧ Cg [5] [] [] st st'' ∧ sI st'' 5 = nI (skF B d i) := by
  intro d
  induction d with
  | zero =>
    intro i z st' hi hz C h5
    obtain ⟨z, rfl⟩ : ∃ j, z = j + 1 := ⟨z - 1, by omega⟩
    refine ⟨st', ?_, C, h5⟩
    show m_X12_go_b0 F _ _ _ = _
    unfold m_X12_go_b0
    rw [rI_5, bd_some, rI_3, bd_some, h5, C.I (by decide), h3, if_pos (nI_le (by omega) (by omega))]
  | succ d ih =>
    intro i z st' hi hz C h5
    obtain ⟨z, rfl⟩ : ∃ j, z = j + 1 := ⟨z - 1, by omega⟩
    obtain ⟨b1, b2⟩ := hB i (by omega)
    have a1 : sA st' 1 = sA st 1 := C.A (by decide)
    have v3 : sI st' 3 = nI n := by rw [C.I (by decide)]; exact h3
    have ld : ldI (ov g st') 1 (some 180) (nI i) = some (nI (B i)) := by rw [rE_1 (by omega), a1, b1]
    show ∃ st'', m_X12_go_b0 F _ _ _ = _ ∧ _ ∧ sI st'' 5 = nI (if blB (B i) then skF B d (i + 1) else i)
    have nxt : blB (B i) = true → ∃ st'', m_X12_go_L0 F z (some 179) (ov g (uI st' 5 (nI (i + 1)))) = m_X12_go_B52 F (some 179) (ov g st'') ∧ Cg [5] [] [] st st'' ∧ sI st'' 5 = nI (if blB (B i) then skF B d (i + 1) else i) := fun e => by
      rw [if_pos e]
      exact ih (i + 1) z _ (by omega) (by omega) (C.trans (Cg.uI (by decide))) (by rw [sI_uI, if_pos rfl])
    unfold m_X12_go_b0
    rw [rI_5, bd_some, rI_3, bd_some, h5, v3, if_neg (nI_ge (by omega) (by omega)), rR_1, bd_some, bd_some, ld, bd_some]
    by_cases c1 : B i = 32
    · rw [if_pos (show nI (B i) = (32 : Int32) by rw [c1]; rfl), bd_some, nI_1, wI_5, bd_some]
      exact nxt (by rw [c1]; rfl)
    · rw [if_neg (show ¬ nI (B i) = (32 : Int32) from fun e => c1 ((nI_eq (b := 32) (by omega) (by omega)).mp e)), bd_some, bd_some]
      by_cases c2 : B i = 10
      · rw [ld, bd_some, if_pos (show nI (B i) = (10 : Int32) by rw [c2]; rfl), bd_some, nI_1, wI_5, bd_some]
        exact nxt (by rw [c2]; rfl)
      · rw [ld, bd_some, if_neg (show ¬ nI (B i) = (10 : Int32) from fun e => c2 ((nI_eq (b := 10) (by omega) (by omega)).mp e))]
        have e : blB (B i) = false := by simp [blB, c1, c2]
        exact ⟨st', rfl, C, by rw [e, if_neg (by decide)]; exact h5⟩
theorem rgo_e (hF : 742 ≤ F) {n R p : Nat} (hn : n ≤ 740) (hR : R ≤ 740) (hp : p ≤ n) (hB : ∀ i, i < 740 → sA st 1 i = nI (B i) ∧ B i < 256) (h3 : sI st 3 = nI n) (h4 : sI st 4 = nI R) (h5 : sI st 5 = nI p) : ∃ st', m_X12_go F (some 179) (ov g st) = some (ov g st') ∧ TKr st' n R (tokF B n R p) ∧ Cg [5, 6, 7, 8, 9, 12] [] [] st st' := by
  obtain ⟨s1, e1, c1, k1⟩ := rskip_L (F := F) (g := g) hn hB h3 (n - p) p F st (by omega) (by omega) (Cg.refl _ _ _ _) h5
  have sp := skF_p B (n - p) p
  have sm := skF_mono B (min n R - p) (n - p) p (by omega)
  have sq := skF_p B (min n R - p) p
  have v3 : sI s1 3 = nI n := by rw [c1.I (by decide)]; exact h3
  have v4 : sI s1 4 = nI R := by rw [c1.I (by decide)]; exact h4
  have a1 : sA s1 1 = sA st 1 := c1.A (by decide)
  show ∃ st', m_X12_go_L0 F F (some 179) (ov g st) = _ ∧ _
  rw [e1]
  unfold m_X12_go_B52
  rw [rI_5, bd_some, wI_6, bd_some, rI_3, bd_some, rI_4, bd_some, sI_o (by decide), sI_o (by decide), v3, v4, k1]
  generalize ha' : skF B (n - p) p = a' at *
  unfold tokF
  generalize ha : skF B (min n R - p) p = a at *
  have C0 : Cg [5, 6, 7, 8, 9, 12] [] [] st (uI s1 6 (nI a')) := (c1.mono (by decide) (by decide) (by decide)).trans (Cg.uI (by decide))
  have w3 : sI (uI s1 6 (nI a')) 3 = nI n := by rw [sI_o (by decide)]; exact v3
  have w4 : sI (uI s1 6 (nI a')) 4 = nI R := by rw [sI_o (by decide)]; exact v4
  have w5 : sI (uI s1 6 (nI a')) 5 = nI a' := by rw [sI_o (by decide)]; exact k1
  have w6 : sI (uI s1 6 (nI a')) 6 = nI a' := by rw [sI_uI, if_pos rfl]
  have b96 : (a' = a ∧ (a < n → a < R) ∧ (n ≤ a → n ≤ R)) → ∃ st', m_X12_go_B96 F (some 179) (ov g (uI s1 6 (nI a'))) = some (ov g st') ∧ TKr st' n R (tokA B n R a) ∧ Cg [5, 6, 7, 8, 9, 12] [] [] st st' := by
    rintro ⟨rfl, q1, q2⟩
    unfold m_X12_go_B96
    rw [rI_5, bd_some, rI_3, bd_some, w3, w5]
    by_cases q : a' < n
    · have hR' := q1 q
      obtain ⟨b1, b2⟩ := hB a' (by omega)
      have ld : ldI (ov g (uI s1 6 (nI a'))) 1 (some 180) (nI a') = some (nI (B a')) := by rw [rE_1 (by omega), sA_uI, a1, b1]
      have tA' : tokA B n R a' = (if ltB (B a') || dgB (B a') then runM a' (rnF B (n - a') a') (byL B a' (rnF B (n - a') a')) else if snB (B a') then (4, a', a' + 1, [], 0, B a') else (1, a', a' + 1, [], 0, 0)) := if_pos (by omega)
      rw [if_pos (nI_lt q (by omega)), rR_1, bd_some, bd_some, ld, bd_some, bd_e (rlet_e b2), tA']
      have run : (ltB (B a') || dgB (B a')) = true → ∃ st', m_X12_go_B198 F (some 179) (nI (B a')) (ov g (uI s1 6 (nI a'))) = some (ov g st') ∧ TKr st' n R (runM a' (rnF B (n - a') a') (byL B a' (rnF B (n - a') a'))) ∧ Cg [5, 6, 7, 8, 9, 12] [] [] st st' := fun e => by
        have hlt : a' < rnF B (n - a') a' := by
          obtain ⟨r1, r2, r3, r4⟩ := rnF_p B (n - a') a'
          rcases Nat.lt_or_ge a' (rnF B (n - a') a') with w | w
          · exact w
          · have h : rnF B (n - a') a' = a' := by omega
            rw [h] at r4
            rw [r4 (by omega)] at e
            exact absurd e (by decide)
        obtain ⟨s2, i1, i2, i3⟩ := rrun_L (F := F) (g := g) (st := uI (uJ (uI s1 6 (nI a')) 12 0) 8 0) (n := n) (R := R) (a := a') (B := B) hn (fun i hi => by rw [sA_uI, sA_uJ, sA_uI, a1]; exact hB i hi) (by rw [sI_o (by decide)]; exact w3) (by rw [sI_o (by decide)]; exact w4) (by rw [sI_o (by decide)]; exact w6) (n - a') a' F _ 1 (by omega) (Nat.le_refl _) (by omega) (Cg.refl _ _ _ _) (by rw [sI_o (by decide)]; exact w5) (fun j j1 j2 => by omega) hlt (by rw [byL_0]; cases ltB (B a') <;> rfl) (fun _ _ => by rw [byL_0]; rfl) (fun _ _ => by rw [byL_0]; rfl)
        refine ⟨s2, ?_, i2, (C0.trans ((Cg.uJ (by decide)).trans (Cg.uI (by decide)))).trans (i3.mono (by decide) (by decide) (by decide))⟩
        unfold m_X12_go_B198
        rw [bd_e (rlet_e b2), wJ_12, bd_some, wI_8, bd_some]
        exact i1
      cases e1 : ltB (B a')
      · rw [if_pos (show (if false = true then (1 : Int32) else 0) = 0 by decide), bd_e (rdig_e b2)]
        cases e2 : dgB (B a')
        · rw [if_pos (show (if false = true then (1 : Int32) else 0) = 0 by decide), if_neg (show ¬ (false || false) = true by decide)]
          have sg : ∀ k : Nat, m_X12_go_B179 F (some 179) (nI (B a')) (some 179) (nI k) (ov g (uI s1 6 (nI a'))) = some (ov g (uI (uI (uI (uI s1 6 (nI a')) 7 (nI k)) 9 (nI (B a'))) 5 (nI (a' + 1)))) := fun k => by
            unfold m_X12_go_B179
            rw [wI_7, bd_some, wI_9, bd_some, rI_5, bd_some, sI_o (by decide), sI_o (by decide), w5, nI_1, wI_5, bd_some]
          have cg : ∀ k : Nat, Cg [5, 6, 7, 8, 9, 12] [] [] st (uI (uI (uI (uI s1 6 (nI a')) 7 (nI k)) 9 (nI (B a'))) 5 (nI (a' + 1))) := fun k => ((C0.trans (Cg.uI (by decide))).trans (Cg.uI (by decide))).trans (Cg.uI (by decide))
          have mk : ∀ (k : Nat) (t : Tok), tK t = k → tA t = a' → tB t = a' + 1 → k ≠ 2 → k ≠ 3 → (k = 4 → tS t = B a') → TKr (uI (uI (uI (uI s1 6 (nI a')) 7 (nI k)) 9 (nI (B a'))) 5 (nI (a' + 1))) n R t := by
            intro k t e1 e2 e3 e4 e5 e6
            subst e1
            refine ⟨?_, ?_, ?_, ?_, fun h => absurd h e4, fun h => absurd h e5, fun h => ?_, fun h => ?_⟩
            · rw [sI_o (by decide), sI_o (by decide), sI_o (by decide)]; exact w3
            · rw [sI_o (by decide), sI_o (by decide), sI_o (by decide)]; exact w4
            · rw [sI_o (by decide), sI_o (by decide), sI_o (by decide), e2]; exact w6
            · rw [sI_o (by decide), sI_o (by decide), sI_uI, if_pos rfl]
            · rw [sI_o (by decide), sI_uI, if_pos rfl, e6 h]
            · rw [sI_uI, if_pos rfl, e3]
          have nd : ∀ j, B a' ≠ j → j < 256 → ¬ nI (B a') = nI j := fun j h1 h2 e => h1 ((nI_eq (by omega) (by omega)).mp e)
          cases e3 : snB (B a')
          · rw [if_neg (show ¬ false = true by decide)]
            simp [snB] at e3
            refine ⟨_, ?_, mk 1 _ rfl rfl rfl (by decide) (by decide) (fun h => absurd h (by decide)), cg 1⟩
            rw [if_neg (show ¬ nI (B a') = (59 : Int32) from nd 59 (by omega) (by omega)), if_neg (show ¬ nI (B a') = (60 : Int32) from nd 60 (by omega) (by omega)), if_neg (show ¬ nI (B a') = (61 : Int32) from nd 61 (by omega) (by omega)), if_neg (show ¬ nI (B a') = (62 : Int32) from nd 62 (by omega) (by omega)), if_neg (show ¬ nI (B a') = (40 : Int32) from nd 40 (by omega) (by omega)), if_neg (show ¬ nI (B a') = (41 : Int32) from nd 41 (by omega) (by omega))]
            exact sg 1
          · rw [if_pos rfl]
            simp [snB] at e3
            refine ⟨_, ?_, mk 4 _ rfl rfl rfl (by decide) (by decide) (fun _ => rfl), cg 4⟩
            unfold m_X12_go_B174
            rw [show m_X12_go_B179 F (some 179) (nI (B a')) (some 179) (4 : Int32) (ov g (uI s1 6 (nI a'))) = _ from sg 4]
            by_cases d1 : B a' = 59
            · rw [if_pos (show nI (B a') = (59 : Int32) by rw [d1]; rfl)]
            rw [if_neg (show ¬ nI (B a') = (59 : Int32) from nd 59 d1 (by omega))]
            by_cases d2 : B a' = 60
            · rw [if_pos (show nI (B a') = (60 : Int32) by rw [d2]; rfl)]
            rw [if_neg (show ¬ nI (B a') = (60 : Int32) from nd 60 d2 (by omega))]
            by_cases d3 : B a' = 61
            · rw [if_pos (show nI (B a') = (61 : Int32) by rw [d3]; rfl)]
            rw [if_neg (show ¬ nI (B a') = (61 : Int32) from nd 61 d3 (by omega))]
            by_cases d4 : B a' = 62
            · rw [if_pos (show nI (B a') = (62 : Int32) by rw [d4]; rfl)]
            rw [if_neg (show ¬ nI (B a') = (62 : Int32) from nd 62 d4 (by omega))]
            by_cases d5 : B a' = 40
            · rw [if_pos (show nI (B a') = (40 : Int32) by rw [d5]; rfl)]
            rw [if_neg (show ¬ nI (B a') = (40 : Int32) from nd 40 d5 (by omega)), if_pos (show nI (B a') = (41 : Int32) by rw [show B a' = 41 by omega]; rfl)]
        · rw [if_neg (show ¬ (if true = true then (1 : Int32) else 0) = 0 by decide), if_pos (show (false || true) = true by decide)]
          exact run (by rw [e1, e2]; rfl)
      · rw [if_neg (show ¬ (if true = true then (1 : Int32) else 0) = 0 by decide), Bool.true_or, if_pos rfl]
        exact run (by rw [e1]; rfl)
    · have tA' : tokA B n R a' = (0, n, n, [], 0, 0) := by
        unfold tokA
        rw [if_neg (by omega), if_pos (q2 (by omega))]
      rw [if_neg (nI_nlt (by omega) (by omega)), tA', wI_7, bd_some]
      have e : a' = n := by omega
      refine ⟨_, rfl, ⟨?_, ?_, ?_, ?_, fun h => absurd h (by show ¬ 0 = 2; decide), fun h => absurd h (by show ¬ 0 = 3; decide), fun h => absurd h (by show ¬ 0 = 4; decide), fun h => absurd h (by show ¬ 2 ≤ 0; decide)⟩, C0.trans (Cg.uI (by decide))⟩
      · rw [sI_o (by decide)]; exact w3
      · rw [sI_o (by decide)]; exact w4
      · rw [sI_o (by decide), w6, e]
      · rw [sI_uI, if_pos rfl]; rfl
  by_cases q : n ≤ R
  · rw [if_pos (nI_le q (by omega))]
    exact b96 ⟨by rw [← ha', ← ha, Nat.min_eq_left q], fun h => by omega, fun _ => q⟩
  · rw [if_neg (nI_ge (by omega) (by omega)), rI_6, bd_some, bd_some, w6]
    by_cases w : a' < R
    · rw [if_pos (nI_lt w (by omega))]
      have ea : a' = a := by
        rw [Nat.min_eq_right (by omega)] at sm sq
        by_cases v : a < R
        · have hpR : p ≤ R := by omega
          exact sm.2 (by omega)
        · omega
      exact b96 ⟨ea, fun _ => by omega, fun h => by omega⟩
    · rw [if_neg (nI_nlt (by omega) (by omega)), bd_some, wI_6, bd_some, wI_7, bd_some]
      have tA' : tokA B n R a = (1, R, R, [], 0, 0) := by
        unfold tokA
        have : ¬ a < min n R := fun v => by
          have := sm.2 (by omega)
          omega
        rw [if_neg this, if_neg q]
      rw [tA']
      refine ⟨_, rfl, ⟨?_, ?_, ?_, ?_, fun h => absurd h (by show ¬ 1 = 2; decide), fun h => absurd h (by show ¬ 1 = 3; decide), fun h => absurd h (by show ¬ 1 = 4; decide), fun h => absurd h (by show ¬ 2 ≤ 1; decide)⟩, (C0.trans (Cg.uI (by decide))).trans (Cg.uI (by decide))⟩
      · rw [sI_o (by decide), sI_o (by decide)]; exact w3
      · rw [sI_o (by decide), sI_o (by decide)]; exact w4
      · rw [sI_o (by decide), sI_uI, if_pos rfl]
      · rw [sI_uI, if_pos rfl]; rfl
end RGO
