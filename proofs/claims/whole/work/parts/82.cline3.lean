/-! the class reads a LINE: 'sense', 'rhyme', 'lines', all -/
section CLINE3
variable {F : Nat} {B : Nat → Nat} {n R D sD : Nat} {f : Hp} {h : HS} {t : Tok} {lc : Bool} {pt : Nat}
theorem cpair_s (hF : 742 ≤ F) (C : CSt B n R D sD f h t lc pt) : (∃ q f', mPair B n R h t = .inl q ∧ m_X5_readPair F (some 169) f = some (0, f') ∧ CF n R D sD f' q ∧ FrD D f f') ∨ ∃ a b f', mPair B n R h t = .inr (a, b) ∧ m_X5_readPair F (some 169) f = some (1, f') ∧ CSt B n R D sD f' h (nxT B n R t) lc pt ∧ f' 169 = some (.inl (4, c4 D (if lc then 1 else 0) (nI pt) (nI a) (nI b))) ∧ FrD D f f' ∧ a < hN h ∧ b < hN h ∧ a ≠ b ∧ tK (nxT B n R t) = 2 := by
  have d := C.2.2.2.2.2.2.2.1
  have p8 := C.2.2.2.2.2.2.2.2
  have lci := C.2.2.2.2.1
  obtain ⟨H, ok⟩ := C.2.2.1
  have n7 := ok.1.2
  obtain ⟨v4, v5, c5⟩ := C.2.2.2.1
  unfold m_X5_readPair mPair
  rw [bd_e C.g0, bd_e C.g1, bd_e (gI_e H.1 rfl), ck_e C.isK]
  rcases clet_s (F := F) C n7 with ⟨q, f1, j1, j2, j3, j4⟩ | ⟨a, j1, j2, j3, j4⟩
  · rw [j1, bd2_e j2, bd_e (show pV f1 (some 169) 4 4 (.int (-1)) = some (va_up f1 169 (some (.inl (4, c4 D (if lc then 1 else 0) (nI pt) (-1) v5)))) from pV_e ((j4 169 (by decide)).trans c5) (Nat.le_of_ble_eq_true rfl)), bd_e (gI_e up_s rfl), if_pos rfl, ck_e (by decide)]
    exact Or.inl ⟨q, _, rfl, rfl, j3.c4 d (fun a ha => up_n ha) up_s, (FrD.of j4).trans (fun a _ a2 _ => up_n a2)⟩
  · have p2 : pV f (some 169) 4 4 (.int (nI a)) = some (va_up f 169 (some (.inl (4, c4 D (if lc then 1 else 0) (nI pt) (nI a) v5)))) := pV_e c5 (Nat.le_of_ble_eq_true rfl)
    generalize hf2 : va_up f 169 (some (.inl (4, c4 D (if lc then 1 else 0) (nI pt) (nI a) v5))) = f2 at p2
    have fr2 : ∀ x, x ≠ 169 → f2 x = f x := fun x hx => by rw [← hf2]; exact up_n hx
    have c2 : f2 169 = some (.inl (4, c4 D (if lc then 1 else 0) (nI pt) (nI a) v5)) := by rw [← hf2]; exact up_s
    have C2 : CSt B n R D sD f2 h t lc pt := C.c4 fr2 c2 lci p8
    obtain ⟨f3, i3, C3, fr3⟩ := cadv_q hF C2 (by omega)
    have c3 := (fr3 169 (by decide)).trans c2
    have F3 : FrD D f f3 := FrD.trans (f' := f2) (fun a _ a2 _ => fr2 a a2) (FrD.of fr3)
    obtain ⟨H3, -⟩ := C3.2.2.1
    rw [j1, bd2_e j2, bd_e p2, bd_e (gI_e c2 rfl), if_neg (nI_nm1 (by omega)), i3, bd_e C3.g0, bd_e C3.g1, bd_e (gI_e H3.1 rfl), ck_e C3.isK]
    rcases clet_s (F := F) C3 n7 with ⟨q, f4, j1', j2', j3', j4'⟩ | ⟨b, j1', j2', j3', j4'⟩
    · rw [j1', bd2_e j2', bd_e (show pV f4 (some 169) 4 5 (.int (-1)) = some (va_up f4 169 (some (.inl (4, c4 D (if lc then 1 else 0) (nI pt) (nI a) (-1))))) from pV_e ((j4' 169 (by decide)).trans c3) (Nat.le_of_ble_eq_true rfl)), bd_e (gI_e up_s rfl), if_pos rfl, ck_e (by decide)]
      exact Or.inl ⟨q, _, rfl, rfl, j3'.c4 d (fun a ha => up_n ha) up_s, (F3.trans (FrD.of j4')).trans (fun a _ a2 _ => up_n a2)⟩
    · have p4 : pV f3 (some 169) 4 5 (.int (nI b)) = some (va_up f3 169 (some (.inl (4, c4 D (if lc then 1 else 0) (nI pt) (nI a) (nI b))))) := pV_e c3 (Nat.le_of_ble_eq_true rfl)
      generalize hf4 : va_up f3 169 (some (.inl (4, c4 D (if lc then 1 else 0) (nI pt) (nI a) (nI b)))) = f4 at p4
      have fr4 : ∀ x, x ≠ 169 → f4 x = f3 x := fun x hx => by rw [← hf4]; exact up_n hx
      have c4' : f4 169 = some (.inl (4, c4 D (if lc then 1 else 0) (nI pt) (nI a) (nI b))) := by rw [← hf4]; exact up_s
      have C4 : CSt B n R D sD f4 h (nxT B n R t) lc pt := C3.c4 fr4 c4' lci p8
      have F4 : FrD D f f4 := F3.trans (fun a _ a2 _ => fr4 a a2)
      rw [j1', bd2_e j2', bd_e p4, bd_e (gI_e c4' rfl), if_neg (nI_nm1 (by omega)), bd_e (gI_e c4' rfl), bd_e (gI_e c4' rfl)]
      show (∃ q f', (if a = b then (Sum.inl (3, tA (nxT B n R t)) : Flt ⊕ (Nat × Nat)) else .inr (a, b)) = .inl q ∧ _) ∨ ∃ a' b' f', (if a = b then (Sum.inl (3, tA (nxT B n R t)) : Flt ⊕ (Nat × Nat)) else .inr (a, b)) = .inr (a', b') ∧ _
      by_cases e : a = b
      · obtain ⟨f5, i5, i6, i7⟩ := cfail_s (F := F) C4 (k := 3) (K := 3) (by decide) (by decide) rfl
        rw [if_pos e, if_pos (by rw [e]), bd_e C4.g0, ck_e C4.isK, bd2_e i5, if_pos rfl, ck_e (by decide)]
        exact Or.inl ⟨_, f5, rfl, rfl, i6, F4.trans (FrD.of i7)⟩
      · rw [if_neg e, if_neg (show ¬ nI a = nI b from fun k => e ((nI_eq (by omega) (by omega)).mp k)), ck_e (by decide)]
        exact Or.inr ⟨a, b, f4, rfl, rfl, C4, c4', F4, j3, j3', e, j4'⟩
theorem csense_s (hF : 742 ≤ F) (C : CSt B n R D sD f h t true pt) (k : 2 ≤ tK t) : CRd B n R D sD f true pt (m_X5_readSense F (some 169) f) (mSense B n R h t) := by
  have d := C.2.2.2.2.2.2.2.1
  obtain ⟨H, ok⟩ := C.2.2.1
  have n7 := ok.1.2
  have l12 := ok.2.2.2.2.2.2.1
  unfold m_X5_readSense mSense
  rw [bd_e C.g1, bd_e (gI_e H.1 rfl)]
  by_cases l : (hS h).length = 12
  · rw [if_pos l, l, if_neg (by decide)]
    obtain ⟨f', i1, i2, i3⟩ := cbad (F := F) C (k := 4) (by decide) (by decide) rfl
    exact Or.inl ⟨_, f', rfl, i1, i2, i3⟩
  · have l : (hS h).length < 12 := by omega
    obtain ⟨f1, i1, C1, fr1⟩ := cadv_q hF C k
    rw [if_neg (show ¬ (hS h).length = 12 by omega), if_pos (show nI (hS h).length < (12 : Int32) from nI_lt (b := 12) l (by omega)), i1, ck_e C1.io]
    rcases cpair_s hF C1 with ⟨q, f2, j1, j2, j3, j4⟩ | ⟨a, b, f2, j1, j2, C2, e2, j4, a7, b7, ab, t2⟩
    · rw [j1, bd2_e j2, if_pos rfl, ck_e (by decide)]
      exact Or.inl ⟨q, f2, rfl, rfl, j3, (FrD.of fr1).trans j4⟩
    · obtain ⟨H2, -⟩ := C2.2.2.1
      have F2 := (FrD.of (D := D) fr1).trans j4
      rw [j1, bd2_e j2, if_neg (by decide), bd_e C2.g1, bd_e (gI_e e2 rfl), bd_e (gI_e e2 rfl), ck_e (isO_e H2.1), bd_e (hasSense_e H2 ok (by omega) (by omega) (by omega))]
      show CRd B n R D sD f true pt _ (if (a, b) ∈ hS h then _ else _)
      by_cases m : (a, b) ∈ hS h
      · rw [if_pos m, if_pos m, if_neg (by decide)]
        obtain ⟨f', i1, i2, i3⟩ := cbad (F := F) C2 (k := 3) (by decide) (by decide) rfl
        exact Or.inl ⟨_, f', rfl, i1, i2, F2.trans i3⟩
      · rw [if_neg m, if_neg m, if_pos rfl, bd_e C2.g1, bd_e (gI_e e2 rfl), bd_e (gI_e e2 rfl), ck_e (isO_e H2.1)]
        obtain ⟨w4, a4, b4⟩ := H2.2.2.2.2.1
        obtain ⟨w5, a5, b5⟩ := H2.2.2.2.2.2.1
        generalize hf3 : va_up f2 (D + 4) (rwI 12 (upd w4 (hS h).length (nI a))) = f3
        have fr3 : ∀ x, x ≠ D + 4 → f3 x = f2 x := fun x hx => by rw [← hf3]; exact up_n hx
        have c3 : f3 (D + 4) = rwI 12 (upd w4 (hS h).length (nI a)) := by rw [← hf3]; exact up_s
        generalize hf4 : va_up f3 (D + 5) (rwI 12 (upd w5 (hS h).length (nI b))) = f4
        have fr4 : ∀ x, x ≠ D + 5 → f4 x = f3 x := fun x hx => by rw [← hf4]; exact up_n hx
        have c4 : f4 (D + 5) = rwI 12 (upd w5 (hS h).length (nI b)) := by rw [← hf4]; exact up_s
        have cell : f4 D = some (.inl (3, hcell D sD (hN h) (hC h).length (hD h).length (hS h).length (hR h).length)) := (fr4 _ (by omega)).trans ((fr3 _ (by omega)).trans H2.cell)
        generalize hf5 : va_up f4 D (some (.inl (3, hcell D sD (hN h) (hC h).length (hD h).length ((hS h).length + 1) (hR h).length))) = f5
        have fr5 : ∀ x, x ≠ D → f5 x = f4 x := fun x hx => by rw [← hf5]; exact up_n hx
        have fr : ∀ x, x ≠ D → x ≠ D + 4 → x ≠ D + 5 → f5 x = f2 x := fun x h1 h2 h3 => (fr5 x h1).trans ((fr4 x h3).trans (fr3 x h2))
        have C5 : CSt B n R D sD f5 (adS h (a, b)) (nxT B n R (nxT B n R t)) true pt := C2.hs (fun x hx => fr x (by omega) (by omega) (by omega)) (H2.addS ok a4 a5 (fun x _ _ _ h1 h2 h3 => fr x h1 h2 h3) (by rw [← hf5]; exact up_s) ((fr5 _ (by omega)).trans ((fr4 _ (by omega)).trans c3)) ((fr5 _ (by omega)).trans c4)) (ok.addS l a7 b7 ab) lcI_t
        obtain ⟨f6, i6, C6, fr6⟩ := cend_q hF C5 (by omega)
        refine Or.inr ⟨_, _, f6, rfl, ?_, C6, (F2.trans (FrD.hs (fun x hx => fr x (by omega) (by omega) (by omega)))).trans fr6⟩
        unfold m_X4_putSense
        have s1 : stI f2 1 (some (D + 4)) (nI (hS h).length) (nI a) = some f3 := (stI1 a4 l (by omega) (by omega)).trans (congrArg some hf3)
        have s2 : stI f3 1 (some (D + 5)) (nI (hS h).length) (nI b) = some f4 := (stI1 ((fr3 _ (by omega)).trans a5) l (by omega) (by omega)).trans (congrArg some hf4)
        have cell3 : f3 D = f2 D := fr3 _ (by omega)
        rw [bd_e (gI_e H2.1 rfl), if_neg (show ¬ (12 : Int32) ≤ nI (hS h).length from nI_ge (b := 12) l (by omega)), bd_e (gR_s H2.1 rfl), bd_e (gI_e H2.1 rfl), bd_e s1, bd_e (gR_s (cell3.trans H2.1) rfl), bd_e (gI_e (cell3.trans H2.1) rfl), bd_e s2, bd_e (gI_e cell rfl), nI_1, bd_e (show pV f4 (some D) 3 6 (.int (nI ((hS h).length + 1))) = some f5 from (pV_e cell (Nat.le_of_ble_eq_true rfl)).trans (congrArg some hf5)), bd_some]
        exact i6
theorem crhyme_s (hF : 742 ≤ F) (C : CSt B n R D sD f h t true pt) (k : 2 ≤ tK t) : CRd B n R D sD f true pt (m_X5_readRhyme F (some 169) f) (mRhyme B n R h t) := by
  have d := C.2.2.2.2.2.2.2.1
  obtain ⟨H, ok⟩ := C.2.2.1
  have n7 := ok.1.2
  have l12 := ok.2.2.2.2.2.2.2.2.1
  unfold m_X5_readRhyme mRhyme
  rw [bd_e C.g1, bd_e (gI_e H.1 rfl)]
  by_cases l : (hR h).length = 12
  · rw [if_pos l, l, if_neg (by decide)]
    obtain ⟨f', i1, i2, i3⟩ := cbad (F := F) C (k := 4) (by decide) (by decide) rfl
    exact Or.inl ⟨_, f', rfl, i1, i2, i3⟩
  · have l : (hR h).length < 12 := by omega
    obtain ⟨f1, i1, C1, fr1⟩ := cadv_q hF C k
    rw [if_neg (show ¬ (hR h).length = 12 by omega), if_pos (show nI (hR h).length < (12 : Int32) from nI_lt (b := 12) l (by omega)), i1, ck_e C1.io]
    rcases cpair_s hF C1 with ⟨q, f2, j1, j2, j3, j4⟩ | ⟨a, b, f2, j1, j2, C2, e2, j4, a7, b7, ab, t2⟩
    · rw [j1, bd2_e j2, if_pos rfl, ck_e (by decide)]
      exact Or.inl ⟨q, f2, rfl, rfl, j3, (FrD.of fr1).trans j4⟩
    · obtain ⟨H2, -⟩ := C2.2.2.1
      have F2 := (FrD.of (D := D) fr1).trans j4
      rw [j1, bd2_e j2, if_neg (by decide), bd_e C2.g1, bd_e (gI_e e2 rfl), bd_e (gI_e e2 rfl), ck_e (isO_e H2.1), bd_e (gainOf_e H2 (by omega) (by omega))]
      show CRd B n R D sD f true pt _ (if (a, b) ∈ (hR h).map (fun q => (q.1, q.2.1)) then _ else _)
      have g0 := gain_0 n7 a7 b7 ok.2.2.2.2.2.2.2.2.2.1
      have g31 : gain (hR h) (a * 7 + b) < 2 ^ 31 := by
        have : ∀ (Q : List (Nat × Nat × Nat)), (∀ q ∈ Q, q.2.2 ≤ 99) → gain Q (a * 7 + b) ≤ 99 * Q.length := by
          intro Q
          induction Q with
          | nil => intro _; exact Nat.zero_le _
          | cons q Q ih =>
            intro hq
            have e : gain (q :: Q) (a * 7 + b) = (if q.1 * 7 + q.2.1 = a * 7 + b then q.2.2 else 0) + gain Q (a * 7 + b) := by
              unfold gain
              simp
            have := ih (fun p hp => hq p (List.mem_cons_of_mem _ hp))
            have h9 := hq q List.mem_cons_self
            rw [e, List.length_cons]
            split <;> omega
        have := this (hR h) (fun q hq => (ok.2.2.2.2.2.2.2.2.2.1 q hq).2.2.2.2)
        omega
      by_cases m : (a, b) ∈ (hR h).map (fun q => (q.1, q.2.1))
      · rw [if_pos m, if_neg (nI_ne0 (Nat.pos_of_ne_zero (fun e => g0.mp e m)) g31)]
        obtain ⟨f', i1, i2, i3⟩ := cbad (F := F) C2 (k := 3) (by decide) (by decide) rfl
        exact Or.inl ⟨_, f', rfl, i1, i2, F2.trans i3⟩
      · have gz := g0.mpr m
        obtain ⟨f3, i3, C3, fr3⟩ := cadv_q hF C2 (by omega)
        obtain ⟨H3, -⟩ := C3.2.2.1
        have e3 := (fr3 169 (by decide)).trans e2
        have F3 := F2.trans (FrD.of fr3)
        rw [if_neg m, if_pos (show nI (gain (hR h) (a * 7 + b)) = 0 by rw [gz]; rfl), i3, bd_e C3.g0, ck_e C3.isK]
        rcases cnum_s (F := F) C3 (lo := 1) (hi := 99) (L := 1) (H := 99) (by decide) (by decide) rfl rfl with ⟨q, f4, j1, j2, j3, j4⟩ | ⟨v, j1, j2, v1, v9, t3⟩
        · rw [j1, bd2_e j2, if_pos rfl, ck_e (by decide)]
          exact Or.inl ⟨q, f4, rfl, rfl, j3, F3.trans (FrD.of j4)⟩
        · rw [j1, bd2_e j2, if_neg (nI_nm1 (by omega)), bd_e C3.g1, bd_e (gI_e e3 rfl), bd_e (gI_e e3 rfl), ck_e (isO_e H3.1)]
          obtain ⟨w6, a6, b6⟩ := H3.2.2.2.2.2.2.1
          generalize hf4 : va_up f3 (D + 6) (rwI 49 (upd w6 (a * 7 + b) (nI v))) = f4
          have fr4 : ∀ x, x ≠ D + 6 → f4 x = f3 x := fun x hx => by rw [← hf4]; exact up_n hx
          have cell : f4 D = some (.inl (3, hcell D sD (hN h) (hC h).length (hD h).length (hS h).length (hR h).length)) := (fr4 _ (by omega)).trans H3.cell
          generalize hf5 : va_up f4 D (some (.inl (3, hcell D sD (hN h) (hC h).length (hD h).length (hS h).length ((hR h).length + 1)))) = f5
          have fr5 : ∀ x, x ≠ D → f5 x = f4 x := fun x hx => by rw [← hf5]; exact up_n hx
          have fr : ∀ x, x ≠ D → x ≠ D + 6 → f5 x = f3 x := fun x h1 h2 => (fr5 x h1).trans (fr4 x h2)
          have C5 : CSt B n R D sD f5 (adR h (a, b, v)) (nxT B n R (nxT B n R (nxT B n R t))) true pt := C3.hs (fun x hx => fr x (by omega) (by omega)) (H3.addR ok a6 gz (fun x _ _ _ h1 h2 => fr x h1 h2) (by rw [← hf5]; exact up_s) ((fr5 _ (by omega)).trans (by rw [← hf4]; exact up_s))) (ok.addR l a7 b7 ab ⟨v1, v9⟩ m) lcI_t
          obtain ⟨f6, i6, C6, fr6⟩ := cend_q hF C5 (by omega)
          refine Or.inr ⟨_, _, f6, rfl, ?_, C6, (F3.trans (FrD.hs (fun x hx => fr x (by omega) (by omega)))).trans fr6⟩
          unfold m_X4_putRhyme
          have s1 : stI f3 1 (some (D + 6)) (nI (a * 7 + b)) (nI v) = some f4 := (stI1 a6 (by omega) (by omega) (by omega)).trans (congrArg some hf4)
          rw [nm_e2, show (7 : Int32) = nI 7 from rfl, nI_mul, nI_add, if_neg (nI_pos (by omega)), bd_e (gR_s H3.1 rfl), bd_e (alen_e a6 (by decide)), if_neg (nI_ge (by omega) (by omega)), bd_e (gR_s H3.1 rfl), bd_e s1, bd_e (gI_e cell rfl), nI_1, bd_e (show pV f4 (some D) 3 9 (.int (nI ((hR h).length + 1))) = some f5 from (pV_e cell (Nat.le_of_ble_eq_true rfl)).trans (congrArg some hf5)), bd_some]
          exact i6
theorem clines_s (hF : 742 ≤ F) (C : CSt B n R D sD f h t lc pt) (k : 2 ≤ tK t) : CRd B n R D sD f true pt (m_X5_readLines F (some 169) f) (mLines B n R h t lc) := by
  have d := C.2.2.2.2.2.2.2.1
  have p8 := C.2.2.2.2.2.2.2.2
  have lci := C.2.2.2.2.1
  unfold m_X5_readLines mLines
  rw [bd_e C.lcv]
  cases lc
  · rw [if_pos (show (if false = true then (1 : Int32) else 0) = 0 by decide), if_neg (show ¬ false = true by decide)]
    obtain ⟨c1, c2, c3⟩ := lci rfl
    obtain ⟨v4, v5, c5⟩ := C.2.2.2.1
    have p2 : pZ f (some 169) 4 2 1 = some (va_up f 169 (some (.inl (4, c4 D (if true then 1 else 0) (nI pt) v4 v5)))) := by
      unfold pZ
      rw [if_pos (Or.inr rfl)]
      exact pV_e c5 (Nat.le_of_ble_eq_true rfl)
    have C2 : CSt B n R D sD (va_up f 169 (some (.inl (4, c4 D (if true then 1 else 0) (nI pt) v4 v5)))) h t true pt := C.c4 (fun a ha => up_n ha) up_s lcI_t p8
    obtain ⟨f3, i3, C3, fr3⟩ := cadv_q hF C2 k
    obtain ⟨H3, ok⟩ := C3.2.2.1
    have F3 : FrD D f f3 := FrD.trans (fun a _ a2 _ => up_n a2) (FrD.of fr3)
    rw [bd_e p2, i3, bd_e C3.g0, ck_e C3.isK]
    rcases cnum_s (F := F) C3 (lo := 2) (hi := 7) (L := 2) (H := 7) (by decide) (by decide) rfl rfl with ⟨q, f4, j1, j2, j3, j4⟩ | ⟨v, j1, j2, v1, v9, t3⟩
    · rw [j1, bd2_e j2, if_pos rfl, ck_e (by decide)]
      exact Or.inl ⟨q, f4, rfl, rfl, j3, F3.trans (FrD.of j4)⟩
    · have p4 : pV f3 (some D) 3 0 (.int (nI v)) = some (va_up f3 D (some (.inl (3, hcell D sD v (hC h).length (hD h).length (hS h).length (hR h).length)))) := pV_e H3.cell (Nat.le_of_ble_eq_true rfl)
      have C4 : CSt B n R D sD (va_up f3 D (some (.inl (3, hcell D sD v (hC h).length (hD h).length (hS h).length (hR h).length)))) (stN' h v) (nxT B n R t) true pt := C3.hs (fun a ha => up_n (by omega)) (H3.stN'' ok (fun a _ _ _ h4 => up_n h4) up_s) (ok.stN v1 v9 c1 c2 c3) lcI_t
      obtain ⟨f6, i6, C6, fr6⟩ := cend_q hF C4 (by omega)
      rw [j1, bd2_e j2, if_neg (nI_nm1 (by omega)), bd_e C3.g1, bd_e p4, i6]
      exact Or.inr ⟨_, _, f6, rfl, rfl, C6, (F3.trans (FrD.hs (fun a ha => up_n (by omega)))).trans fr6⟩
  · rw [if_neg (show ¬ (if true = true then (1 : Int32) else 0) = 0 by decide), if_pos (show true = true from rfl)]
    obtain ⟨f', i1, i2, i3⟩ := cbad (F := F) C (k := 3) (by decide) (by decide) rfl
    exact Or.inl ⟨_, f', rfl, i1, i2, i3⟩
end CLINE3
