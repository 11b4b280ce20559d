/-! mended, join -/
variable {sk : Nat}
theorem srch_le {P : Nat → Bool} {v : Nat → Nat} : ∀ d x s, (srch P v d x s).1 ≤ s.1
  | 0, _, _ => Nat.le_refl _
  | d + 1, x, s => by
    refine Nat.le_trans (srch_le d (x + 1) _) ?_
    by_cases q : (P x && decide (v x < s.1)) = true
    · rw [if_pos q]
      rw [Bool.and_eq_true, decide_eq_true_eq] at q
      exact Nat.le_of_lt q.2
    · rw [if_neg q]; exact Nat.le_refl _
def mdV (what : Int32) (s : Nat × Nat) : Int32 := if s.1 = 1000000 then (-1 : Int32) else if what = 0 then nI s.2 else nI s.1
def frr (A B : List Nat) : Nat := stp A B + 3 * fal A B
theorem frr_le (A B : List Nat) : frr A B ≤ 42 := by
  have := stp_le A B
  have := fal_le A B
  unfold frr
  omega
section C5
variable {F : Nat} {g : Hp} {st : RS} {h : HS}
theorem mend_L {f : Hp} {T D sX s o c : Nat} {tl lf : Int32} {ll nc : Int64} {B : List Nat} (K : KAt f T D sX tl lf ll) (H : HAt f T s h) (ok : okH h) (O : OAt f o (hN h)) (hF : 16 ≤ F) (hB : B.Nodup) (hBl : ∀ y ∈ B, y < hN h) (hc : f c = some (.inl (0, cC nc B))) (k : Int32) (n z : Nat) : ∀ (d x w : Nat) (q : Nat × Nat), x + d = fct (hN h) → d < w → q.1 ≤ 1000000 → q.2 < 2 ^ 20 → m_X11_mended_L41 F w (some 100) k (some c) (some o) (nI q.1) (fI q) (nI x) f n z = some (mdV k (srch (fun x => keeps (hS h) (unrk (hN h) x)) (fun x => frr (unrk (hN h) x) B) d x q), f, n, z) := by
  have h7 := ok.1.2
  have h5 := fct_le (hN h) (by omega)
  intro d
  induction d with
  | zero =>
    intro x w q hx hw h1 h2
    obtain ⟨w, rfl⟩ : ∃ j, w = j + 1 := ⟨w - 1, by omega⟩
    show m_X11_mended_b41 F _ _ _ _ _ _ _ _ _ _ _ = some (mdV k q, f, n, z)
    unfold m_X11_mended_b41 m_X11_mended_B105
    rw [bd_e O.total, if_pos (nI_le (by omega) (by omega))]
    unfold fI mdV
    by_cases c : q.1 = 1000000
    · rw [if_pos c, if_pos rfl, if_pos c]
    · rw [if_neg c, if_neg c, if_neg (nI_nm1 (by omega))]
      by_cases c2 : k = 0
      · rw [if_pos c2, if_pos c2]
      · rw [if_neg c2, if_neg c2]
  | succ d ih =>
    intro x w q hx hw h1 h2
    obtain ⟨w, rfl⟩ : ∃ j, w = j + 1 := ⟨w - 1, by omega⟩
    have hxl : x < fct (hN h) := by omega
    have hP := unrk_ok hxl
    have hfr := frr_le (unrk (hN h) x) B
    have ek : m_X4_keepsSense F (some T) (nI (bitsOf 21 (tnB (unrk (hN h) x)))) (nI (bitsOf 21 (allP (hN h)))) f = some (if keeps (hS h) (unrk (hN h) x) then 1 else 0) := by
      rw [← allP_perm hP]
      exact keepsSense_e H ok hF
    have ef : m_X6_farTo F (some o) (nI x) (some c) f = some (nI (frr (unrk (hN h) x) B)) := ofarTo_e O h7 hxl hB hBl hc
    show m_X11_mended_b41 F _ _ _ _ _ _ _ _ _ _ _ = some (mdV k (srch _ _ d (x + 1) (if (keeps (hS h) (unrk (hN h) x) && decide (frr (unrk (hN h) x) B < q.1)) = true then (frr (unrk (hN h) x) B, x) else q)), f, n, z)
    unfold m_X11_mended_b41
    rw [bd_e O.total, if_neg (nI_ge hxl (by omega)), ck_e O.O]
    refine grow_r ?_
    rw [bd_e ef]
    by_cases c1 : frr (unrk (hN h) x) B < q.1
    · rw [if_neg (nI_ge c1 (by omega)), bd_e (gR_s K rfl), O.tn h7 hxl, bd_e O.pairs, ck_e (isO_e H.1)]
      refine grow_r ?_
      rw [bd_e ek, decide_eq_true c1, Bool.and_true]
      by_cases c : keeps (hS h) (unrk (hN h) x) = true
      · rw [if_pos c, if_pos c, if_neg (by decide), nm_e2, nI_1]
        have := ih (x + 1) w (frr (unrk (hN h) x) B, x) (by omega) (by omega) (show frr _ _ ≤ _ by omega) (show x < _ by omega)
        rw [show fI (frr (unrk (hN h) x) B, x) = nI x from if_neg (show ¬ frr _ _ = 1000000 by omega)] at this
        exact this
      · rw [if_neg c, if_neg c, if_pos rfl, nm_e2, nI_1]
        exact ih (x + 1) w q (by omega) (by omega) h1 h2
    · rw [if_pos (nI_le (by omega) (by omega)), nm_e2, nI_1, decide_eq_false c1, Bool.and_false, if_neg (by decide)]
      exact ih (x + 1) w q (by omega) (by omega) h1 h2
theorem rmend_L (N : NW (sA st 14) h) (ok : okH h) (hF : 16 ≤ F) {B : List Nat} (hB : okL B) (hBl : ∀ y ∈ B, y < hN h) (pb : PL (sA st 27) B) (k : Int32) : ∀ (d x w : Nat) (q : Nat × Nat) (st' : RS), x + d = fct (hN h) → d < w → q.1 ≤ 1000000 → q.2 < 2 ^ 20 → Rs [24, 25, 26] st st' → ∃ st'', m_X12_mended_L45 F w (some 179) k (fI q) (lI q) (nI x) (ov g st') = some (mdV k (srch (fun x => keeps (hS h) (unrk (hN h) x)) (fun x => frr (unrk (hN h) x) B) d x q), ov g st'') ∧ Rs [24, 25, 26] st st'' := by
  have hn2 := ok.1.1
  have h7 := ok.1.2
  have h5 := fct_le (hN h) (by omega)
  intro d
  induction d with
  | zero =>
    intro x w q st' hx hw h1 h2 C
    obtain ⟨w, rfl⟩ : ∃ j, w = j + 1 := ⟨w - 1, by omega⟩
    refine ⟨st', ?_, C⟩
    show m_X12_mended_b45 F _ _ _ _ _ _ _ = some (mdV k q, ov g st')
    unfold m_X12_mended_b45 m_X12_mended_B112
    rw [ck_e r_isO, bd_e (rorders_e (by rw [C.A (by decide)]; exact N) (by omega) h7 (by omega)), if_pos (nI_le (by omega) (by omega))]
    unfold fI lI mdV
    by_cases c : q.1 = 1000000
    · rw [if_pos c, if_pos rfl, if_pos c]
    · rw [if_neg c, if_neg c, if_neg c, if_neg (nI_nm1 (by omega))]
      by_cases c2 : k = 0
      · rw [if_pos c2, if_pos c2]
      · rw [if_neg c2, if_neg c2]
  | succ d ih =>
    intro x w q st' hx hw h1 h2 C
    obtain ⟨w, rfl⟩ : ∃ j, w = j + 1 := ⟨w - 1, by omega⟩
    have hxl : x < fct (hN h) := by omega
    have hP := unrk_ok hxl
    have hfr := frr_le (unrk (hN h) x) B
    have N' : NW (sA st' 14) h := by rw [C.A (by decide)]; exact N
    obtain ⟨s2, q2, r2, pa, -⟩ := rlay26 (F := F) (g := g) (by omega) N' (by omega) h7 hxl
    have N2 : NW (sA s2 14) h := by rw [r2.A (by decide)]; exact N'
    have CC := C.trans r2
    have ef : m_X12_far F (some 179) (ov g s2) = some (nI (frr (unrk (hN h) x) B)) := rfar_e N2 h7 (by omega) (hP.L h7) hB hP.2.1 hBl pa (by rw [CC.A (by decide)]; exact pb)
    show ∃ st'', m_X12_mended_b45 F _ _ _ _ _ _ _ = some (mdV k (srch _ _ d (x + 1) (if (keeps (hS h) (unrk (hN h) x) && decide (frr (unrk (hN h) x) B < q.1)) = true then (frr (unrk (hN h) x) B, x) else q)), _) ∧ _
    unfold m_X12_mended_b45
    rw [ck_e r_isO, bd_e (rorders_e N' (by omega) h7 (by omega)), if_neg (nI_ge hxl (by omega)), rR_26, bd_some, ck_e r_isO, bd_e q2, rR_26, bd_some, ck_e r_isO, bd_e (rhasSense_e hF N2 ok (hP.L h7) pa)]
    have take := ih (x + 1) w (frr (unrk (hN h) x) B, x) s2 (by omega) (by omega) (show frr _ _ ≤ _ by omega) (show x < _ by omega) CC
    rw [show fI (frr (unrk (hN h) x) B, x) = nI x from if_neg (show ¬ frr _ _ = 1000000 by omega), show lI (frr (unrk (hN h) x) B, x) = nI (frr (unrk (hN h) x) B) from if_neg (show ¬ frr _ _ = 1000000 by omega)] at take
    have skip := ih (x + 1) w q s2 (by omega) (by omega) h1 h2 CC
    by_cases c : keeps (hS h) (unrk (hN h) x) = true
    · rw [if_pos c, if_neg (by decide), ck_e r_isO, bd_e ef, c, Bool.true_and]
      by_cases c0 : q.1 = 1000000
      · rw [show fI q = -1 from if_pos c0, if_pos rfl, nm_e2, nI_1, decide_eq_true (show frr (unrk (hN h) x) B < q.1 by omega), if_pos rfl]
        exact take
      · have e1 : fI q = nI q.2 := if_neg c0
        have e2 : lI q = nI q.1 := if_neg c0
        rw [e1, e2] at skip ⊢
        rw [if_neg (nI_nm1 (by omega))]
        by_cases c1 : frr (unrk (hN h) x) B < q.1
        · rw [if_pos (nI_lt c1 (by omega)), nm_e2, nI_1, decide_eq_true c1, if_pos rfl]
          exact take
        · rw [if_neg (nI_nlt (by omega) (by omega)), nm_e2, nI_1, decide_eq_false c1, if_neg (by decide)]
          exact skip
    · rw [if_neg c, if_pos rfl, nm_e2, nI_1, Bool.eq_false_iff.mpr c, Bool.false_and, if_neg (by decide)]
      exact skip
theorem k_mended (hF : 5041 ≤ F) (c what : Int32) : KA sk (m_X11_mended F (some 100) c what) (m_X12_mended F (some 179) c what) := by
  intro f n z st m C R
  obtain ⟨T, D, sT, sD, sX, tq, iq, C⟩ := C.x
  have K := C.2.1
  have H := C.2.2.2.1.1
  have ok := C.2.2.2.1.2.1
  have h2 := ok.1.1
  have h7 := ok.1.2
  have h10 := ok.2.1
  have h5 := fct_le (hN (mH m)) (by omega)
  have no : (∀ g, ∃ st', m_X12_mended F (some 179) c what (ov g st) = some (-1, ov g st') ∧ RI st' m) → m_X11_mended F (some 100) c what f n z = some (-1, f, n, z) → ∃ v f' n' z' m', m_X11_mended F (some 100) c what f n z = some (v, f', n', z') ∧ n ≤ n' ∧ z ≤ z' ∧ (∀ a, 179 ≤ a → a < 204 → f' a = f a) ∧ CI sk f' n' z' m' ∧ ∀ g, ∃ st', m_X12_mended F (some 179) c what (ov g st) = some (v, ov g st') ∧ RI st' m' := fun h1 h2 => ⟨-1, f, n, z, m, h2, Nat.le_refl _, Nat.le_refl _, fun _ _ _ => rfl, C.ci, h1⟩
  rcases outin (k := (hC (mH m)).length) (by omega) c with hc | ⟨i, hi, rfl⟩
  · refine no (fun g => ?_) ?_
    · obtain ⟨s1, q1, B1⟩ := rbeg (F := F) (g := g) (by omega) R 0
      refine ⟨s1, ?_, B1.1⟩
      unfold m_X12_mended
      rw [wI_0, bd_some, ck_e r_isO, bd_e q1, ck_e r_isO, bd_e (risCopy_e B1.2.2.1 ok c), if_pos hc, if_pos rfl]
    · unfold m_X11_mended
      rw [bd_e (gR_s K rfl), ck_e (isO_e H.1)]
      refine grow_r ?_
      rw [bd_e (copyAt_no H hc), if_pos rfl]
  · rcases outin (k := 2) (by omega) what with hw | ⟨k, hk, rfl⟩
    · refine no (fun g => ?_) ?_
      · obtain ⟨s1, q1, B1⟩ := rbeg (F := F) (g := g) (by omega) R 0
        refine ⟨s1, ?_, B1.1⟩
        unfold m_X12_mended
        rw [wI_0, bd_some, ck_e r_isO, bd_e q1, ck_e r_isO, bd_e (risCopy_e B1.2.2.1 ok _), if_neg (inin (by omega) hi), if_neg (by decide), bd_e (risIn (k := 1) (M := 1) (by omega) rfl what), if_pos hw, if_pos rfl]
      · unfold m_X11_mended
        rw [bd_e (gR_s K rfl), ck_e (isO_e H.1)]
        refine grow_r ?_
        rw [bd_e (copyAt_yes H h10 hi), if_neg (by simp)]
        by_cases q : what < 0
        · rw [if_pos q]
        · rw [if_neg q, if_neg]
          intro c
          obtain ⟨j, hj, rfl⟩ := (i_cases what).resolve_left q
          rcases hw with hw | hw
          · exact q hw
          · rcases Nat.lt_or_ge j 2 with q1 | q1
            · exact nI_ge q1 (by omega) hw
            · exact nI_ge (show 1 < j by omega) hj c
    · obtain ⟨o, f', n', z', tq', e1, hn, hz, C', eo, O, ho, fr⟩ := orders_e (F := F) hF C
      obtain ⟨-, hA, hA2, hA3⟩ := ok.2.2.1 _ (List.getElem_mem hi)
      have H' := C'.2.2.2.1.1
      refine ⟨mdV (nI k) (srch (fun x => keeps (hS (mH m)) (unrk (hN (mH m)) x)) (fun x => frr (unrk (hN (mH m)) x) (hC (mH m))[i].2) (fct (hN (mH m))) 0 (1000000, 0)), f', n', z', m, ?_, hn, hz, fun a q1 q2 => fr a q2 (by omega), C'.ci, fun g => ?_⟩
      · unfold m_X11_mended
        rw [bd_e (gR_s K rfl), ck_e (isO_e H.1)]
        refine grow_s ?_ hn hz
        rw [bd_e (copyAt_yes H h10 hi), if_neg (by simp), if_neg (nI_pos (by omega)), if_pos (show nI k ≤ (1 : Int32) from nI_le (b := 1) (by omega) (by omega)), ck_e (isO_e K), bd4_e e1, ck_e (decide_eq_true ⟨hn, hz⟩)]
        refine grow_r ?_
        exact mend_L C'.2.1 H' ok O (by omega) hA.2 hA2 (H'.copy hi) (nI k) n' z' (fct (hN (mH m))) 0 F (1000000, 0) (by omega) (by omega) (Nat.le_refl _) (by decide)
      · obtain ⟨s1, q1, B1⟩ := rbeg (F := F) (g := g) (by omega) R 0
        obtain ⟨s2, q2, r2, pb⟩ := rcopy27 (F := F) (g := g) (by omega) B1.2.2.1 ok hi
        have B2 := B1.cg (r2.cg.mono (by simp) (by decide) (by simp))
        obtain ⟨s3, i1, i2⟩ := rmend_L (F := F) (g := g) B2.2.2.1 ok (by omega) hA hA2 pb (nI k) (fct (hN (mH m))) 0 F (1000000, 0) s2 (by omega) (by omega) (Nat.le_refl _) (by decide) (Rs.refl _ _)
        refine ⟨s3, ?_, (B2.cg (i2.cg.mono (by simp) (by decide) (by simp))).1⟩
        unfold m_X12_mended
        rw [wI_0, bd_some, ck_e r_isO, bd_e q1, ck_e r_isO, bd_e (risCopy_e B1.2.2.1 ok _), if_neg (inin (by omega) hi), if_neg (by decide), bd_e (risIn (k := 1) (M := 1) (by omega) rfl _), if_neg (inin (by omega) hk), if_neg (by decide), rR_27, bd_some, ck_e r_isO, bd_e q2]
        exact i1
/-! join -/
def jnV (what : Int32) (s : Nat × Nat) : Int32 := if what = 0 then nI s.2 else nI s.1
theorem join_L {f : Hp} {o a b : Nat} {na nb : Int64} {A B : List Nat} (h7 : hN h ≤ 7) (O : OAt f o (hN h)) (hA : ∀ y ∈ A, y < hN h) (hB : ∀ y ∈ B, y < hN h) (ha : f a = some (.inl (0, cC na A))) (hb : f b = some (.inl (0, cC nb B))) (k : Int32) (n z : Nat) : ∀ (d x w : Nat) (q : Nat × Nat), x + d = fct (hN h) → d < w → q.1 ≤ 1000000 → (d = 0 → q.1 ≠ 1000000) → m_X11_join_L58 F w k (some a) (some b) (some o) (nI q.1) (fI q) (nI x) f n z = some (jnV k (srch (fun _ => true) (fun x => stp (unrk (hN h) x) A + stp (unrk (hN h) x) B) d x q), f, n, z) := by
  have h5 := fct_le (hN h) (by omega)
  intro d
  induction d with
  | zero =>
    intro x w q hx hw h1 h2
    obtain ⟨w, rfl⟩ : ∃ j, w = j + 1 := ⟨w - 1, by omega⟩
    show m_X11_join_b58 F _ _ _ _ _ _ _ _ _ _ _ = some (jnV k q, f, n, z)
    unfold m_X11_join_b58 m_X11_join_B110
    rw [bd_e O.total, if_pos (nI_le (by omega) (by omega)), show fI q = nI q.2 from if_neg (h2 rfl)]
    unfold jnV
    by_cases c2 : k = 0
    · rw [if_pos c2, if_pos c2]
    · rw [if_neg c2, if_neg c2]
  | succ d ih =>
    intro x w q hx hw h1 h2
    obtain ⟨w, rfl⟩ : ∃ j, w = j + 1 := ⟨w - 1, by omega⟩
    have hxl : x < fct (hN h) := by omega
    have ea := stp_le (unrk (hN h) x) A
    have eb := stp_le (unrk (hN h) x) B
    show m_X11_join_b58 F _ _ _ _ _ _ _ _ _ _ _ = some (jnV k (srch _ _ d (x + 1) (if (true && decide (stp (unrk (hN h) x) A + stp (unrk (hN h) x) B < q.1)) = true then (stp (unrk (hN h) x) A + stp (unrk (hN h) x) B, x) else q)), f, n, z)
    unfold m_X11_join_b58
    rw [bd_e O.total, if_neg (nI_ge hxl (by omega)), ck_e O.O]
    refine grow_r ?_
    rw [bd_e (ostepsTo_e O h7 hxl hA ha), ck_e O.O]
    refine grow_r ?_
    rw [bd_e (ostepsTo_e O h7 hxl hB hb), nm_e2, nI_add, Bool.true_and]
    by_cases c1 : stp (unrk (hN h) x) A + stp (unrk (hN h) x) B < q.1
    · rw [if_neg (nI_ge c1 (by omega)), nm_e2, nI_1, decide_eq_true c1, if_pos rfl]
      have := ih (x + 1) w (stp (unrk (hN h) x) A + stp (unrk (hN h) x) B, x) (by omega) (by omega) (show stp _ _ + stp _ _ ≤ _ by omega) (fun _ => show stp _ _ + stp _ _ ≠ _ by omega)
      rw [show fI (stp (unrk (hN h) x) A + stp (unrk (hN h) x) B, x) = nI x from if_neg (show ¬ stp _ _ + stp _ _ = 1000000 by omega)] at this
      exact this
    · rw [if_pos (nI_le (by omega) (by omega)), nm_e2, nI_1, decide_eq_false c1, if_neg (by decide)]
      exact ih (x + 1) w q (by omega) (by omega) h1 (fun _ => by omega)
theorem rjoin_L (N : NW (sA st 14) h) (ok : okH h) (hF : 16 ≤ F) {a b : Nat} (ha : a < (hC h).length) (hb : b < (hC h).length) (k : Int32) : ∀ (d x w : Nat) (q : Nat × Nat) (st' : RS), x + d = fct (hN h) → d < w → q.1 ≤ 1000000 → (d = 0 → q.1 ≠ 1000000) → q.2 < 2 ^ 20 → Rs [24, 25, 26, 27] st st' → ∃ st'', m_X12_join_L45 F w (some 179) (nI a) (nI b) k (fI q) (lI q) (nI x) (ov g st') = some (jnV k (srch (fun _ => true) (fun x => stp (unrk (hN h) x) (hC h)[a].2 + stp (unrk (hN h) x) (hC h)[b].2) d x q), ov g st'') ∧ Rs [24, 25, 26, 27] st st'' := by
  have hn2 := ok.1.1
  have h7 := ok.1.2
  have h5 := fct_le (hN h) (by omega)
  obtain ⟨-, hA, hA2, -⟩ := ok.2.2.1 _ (List.getElem_mem ha)
  obtain ⟨-, hB, hB2, -⟩ := ok.2.2.1 _ (List.getElem_mem hb)
  intro d
  induction d with
  | zero =>
    intro x w q st' hx hw h1 h2 h3 C
    obtain ⟨w, rfl⟩ : ∃ j, w = j + 1 := ⟨w - 1, by omega⟩
    refine ⟨st', ?_, C⟩
    show m_X12_join_b45 F _ _ _ _ _ _ _ _ _ = some (jnV k q, ov g st')
    unfold m_X12_join_b45 m_X12_join_B127
    rw [ck_e r_isO, bd_e (rorders_e (by rw [C.A (by decide)]; exact N) (by omega) h7 (by omega)), if_pos (nI_le (by omega) (by omega)), show fI q = nI q.2 from if_neg (h2 rfl), show lI q = nI q.1 from if_neg (h2 rfl)]
    unfold jnV
    by_cases c2 : k = 0
    · rw [if_pos c2, if_pos c2]
    · rw [if_neg c2, if_neg c2]
  | succ d ih =>
    intro x w q st' hx hw h1 h2 h3 C
    obtain ⟨w, rfl⟩ : ∃ j, w = j + 1 := ⟨w - 1, by omega⟩
    have hxl : x < fct (hN h) := by omega
    have hP := unrk_ok hxl
    have ea := stp_le (unrk (hN h) x) (hC h)[a].2
    have eb := stp_le (unrk (hN h) x) (hC h)[b].2
    have N' : NW (sA st' 14) h := by rw [C.A (by decide)]; exact N
    obtain ⟨s2, q2, r2, pa, -⟩ := rlay26 (F := F) (g := g) (by omega) N' (by omega) h7 hxl
    have N2 : NW (sA s2 14) h := by rw [r2.A (by decide)]; exact N'
    obtain ⟨s3, q3, r3, pb⟩ := rcopy27 (F := F) (g := g) (by omega) N2 ok ha
    have N3 : NW (sA s3 14) h := by rw [r3.A (by decide)]; exact N2
    obtain ⟨s4, q4, r4, pc⟩ := rcopy27 (F := F) (g := g) (by omega) N3 ok hb
    have N4 : NW (sA s4 14) h := by rw [r4.A (by decide)]; exact N3
    have CC : Rs [24, 25, 26, 27] st s4 := ((C.trans (r2.mono (by simp))).trans (r3.mono (by simp))).trans (r4.mono (by simp))
    have p3 : PL (sA s3 26) (unrk (hN h) x) := by rw [r3.A (by decide)]; exact pa
    have p4 : PL (sA s4 26) (unrk (hN h) x) := by rw [r4.A (by decide)]; exact p3
    have e3 := rsteps_e (F := F) (g := g) N3 h7 (by omega) (hP.L h7) hA hP.2.1 p3 pb
    have e4 := rsteps_e (F := F) (g := g) N4 h7 (by omega) (hP.L h7) hB hP.2.1 p4 pc
    show ∃ st'', m_X12_join_b45 F _ _ _ _ _ _ _ _ _ = some (jnV k (srch _ _ d (x + 1) (if (true && decide (stp (unrk (hN h) x) (hC h)[a].2 + stp (unrk (hN h) x) (hC h)[b].2 < q.1)) = true then (stp (unrk (hN h) x) (hC h)[a].2 + stp (unrk (hN h) x) (hC h)[b].2, x) else q)), _) ∧ _
    unfold m_X12_join_b45
    rw [ck_e r_isO, bd_e (rorders_e N' (by omega) h7 (by omega)), if_neg (nI_ge hxl (by omega)), rR_26, bd_some, ck_e r_isO, bd_e q2, rR_27, bd_some, ck_e r_isO, bd_e q3, ck_e r_isO, bd_e e3, rR_27, bd_some, ck_e r_isO, bd_e q4, ck_e r_isO, bd_e e4, nm_e2, nI_add, Bool.true_and]
    have take := ih (x + 1) w (stp (unrk (hN h) x) (hC h)[a].2 + stp (unrk (hN h) x) (hC h)[b].2, x) s4 (by omega) (by omega) (show stp _ _ + stp _ _ ≤ _ by omega) (fun _ => show stp _ _ + stp _ _ ≠ _ by omega) (show x < _ by omega) CC
    rw [show fI (stp (unrk (hN h) x) (hC h)[a].2 + stp (unrk (hN h) x) (hC h)[b].2, x) = nI x from if_neg (show ¬ stp _ _ + stp _ _ = 1000000 by omega), show lI (stp (unrk (hN h) x) (hC h)[a].2 + stp (unrk (hN h) x) (hC h)[b].2, x) = nI (stp (unrk (hN h) x) (hC h)[a].2 + stp (unrk (hN h) x) (hC h)[b].2) from if_neg (show ¬ stp _ _ + stp _ _ = 1000000 by omega)] at take
    by_cases c0 : q.1 = 1000000
    · rw [show fI q = -1 from if_pos c0, if_pos rfl, nm_e2, nI_1, decide_eq_true (show stp (unrk (hN h) x) (hC h)[a].2 + stp (unrk (hN h) x) (hC h)[b].2 < q.1 by omega), if_pos rfl]
      exact take
    · have e1 : fI q = nI q.2 := if_neg c0
      have e2 : lI q = nI q.1 := if_neg c0
      rw [e1, e2, if_neg (nI_nm1 (by omega))]
      by_cases c1 : stp (unrk (hN h) x) (hC h)[a].2 + stp (unrk (hN h) x) (hC h)[b].2 < q.1
      · rw [if_pos (nI_lt c1 (by omega)), nm_e2, nI_1, decide_eq_true c1, if_pos rfl]
        exact take
      · have skip := ih (x + 1) w q s4 (by omega) (by omega) h1 (fun _ => c0) h3 CC
        rw [e1, e2] at skip
        rw [if_neg (nI_nlt (by omega) (by omega)), nm_e2, nI_1, decide_eq_false c1, if_neg (by decide)]
        exact skip
theorem k_join (hF : 5041 ≤ F) (a b what : Int32) : KA sk (m_X11_join F (some 100) a b what) (m_X12_join F (some 179) a b what) := by
  intro f n z st m C R
  obtain ⟨T, D, sT, sD, sX, tq, iq, C⟩ := C.x
  have K := C.2.1
  have H := C.2.2.2.1.1
  have ok := C.2.2.2.1.2.1
  have h2 := ok.1.1
  have h7 := ok.1.2
  have h10 := ok.2.1
  have h5 := fct_le (hN (mH m)) (by omega)
  have h0 := fct_pos (hN (mH m))
  have no : (∀ g, ∃ st', m_X12_join F (some 179) a b what (ov g st) = some (-1, ov g st') ∧ RI st' m) → m_X11_join F (some 100) a b what f n z = some (-1, f, n, z) → ∃ v f' n' z' m', m_X11_join F (some 100) a b what f n z = some (v, f', n', z') ∧ n ≤ n' ∧ z ≤ z' ∧ (∀ a, 179 ≤ a → a < 204 → f' a = f a) ∧ CI sk f' n' z' m' ∧ ∀ g, ∃ st', m_X12_join F (some 179) a b what (ov g st) = some (v, ov g st') ∧ RI st' m' := fun h1 h2 => ⟨-1, f, n, z, m, h2, Nat.le_refl _, Nat.le_refl _, fun _ _ _ => rfl, C.ci, h1⟩
  rcases outin (k := (hC (mH m)).length) (by omega) a with ha | ⟨i, hi, rfl⟩
  · refine no (fun g => ?_) ?_
    · obtain ⟨s1, q1, B1⟩ := rbeg (F := F) (g := g) (by omega) R 0
      refine ⟨s1, ?_, B1.1⟩
      unfold m_X12_join
      rw [wI_0, bd_some, ck_e r_isO, bd_e q1, ck_e r_isO, bd_e (risCopy_e B1.2.2.1 ok a), if_pos ha, if_pos rfl]
    · unfold m_X11_join
      rw [bd_e (gR_s K rfl), ck_e (isO_e H.1)]
      refine grow_r ?_
      rw [bd_e (copyAt_no H ha), bd_e (gR_s K rfl), ck_e (isO_e H.1)]
      refine grow_r ?_
      rcases outin (k := (hC (mH m)).length) (by omega) b with hb | ⟨j, hj, rfl⟩
      · rw [bd_e (copyAt_no H hb), if_pos rfl]
      · rw [bd_e (copyAt_yes H h10 hj), if_pos rfl]
  · rcases outin (k := (hC (mH m)).length) (by omega) b with hb | ⟨j, hj, rfl⟩
    · refine no (fun g => ?_) ?_
      · obtain ⟨s1, q1, B1⟩ := rbeg (F := F) (g := g) (by omega) R 0
        refine ⟨s1, ?_, B1.1⟩
        unfold m_X12_join
        rw [wI_0, bd_some, ck_e r_isO, bd_e q1, ck_e r_isO, bd_e (risCopy_e B1.2.2.1 ok _), if_neg (inin (by omega) hi), if_neg (by decide), ck_e r_isO, bd_e (risCopy_e B1.2.2.1 ok b), if_pos hb, if_pos rfl]
      · unfold m_X11_join
        rw [bd_e (gR_s K rfl), ck_e (isO_e H.1)]
        refine grow_r ?_
        rw [bd_e (copyAt_yes H h10 hi), bd_e (gR_s K rfl), ck_e (isO_e H.1)]
        refine grow_r ?_
        rw [bd_e (copyAt_no H hb), if_neg (by simp), if_pos rfl]
    · rcases outin (k := 2) (by omega) what with hw | ⟨k, hk, rfl⟩
      · refine no (fun g => ?_) ?_
        · obtain ⟨s1, q1, B1⟩ := rbeg (F := F) (g := g) (by omega) R 0
          refine ⟨s1, ?_, B1.1⟩
          unfold m_X12_join
          rw [wI_0, bd_some, ck_e r_isO, bd_e q1, ck_e r_isO, bd_e (risCopy_e B1.2.2.1 ok _), if_neg (inin (by omega) hi), if_neg (by decide), ck_e r_isO, bd_e (risCopy_e B1.2.2.1 ok _), if_neg (inin (by omega) hj), if_neg (by decide), bd_e (risIn (k := 1) (M := 1) (by omega) rfl what), if_pos hw, if_pos rfl]
        · unfold m_X11_join
          rw [bd_e (gR_s K rfl), ck_e (isO_e H.1)]
          refine grow_r ?_
          rw [bd_e (copyAt_yes H h10 hi), bd_e (gR_s K rfl), ck_e (isO_e H.1)]
          refine grow_r ?_
          rw [bd_e (copyAt_yes H h10 hj), if_neg (by simp), if_neg (by simp)]
          by_cases q : what < 0
          · rw [if_pos q]
          · rw [if_neg q, if_neg]
            intro c
            obtain ⟨j, hj, rfl⟩ := (i_cases what).resolve_left q
            rcases hw with hw | hw
            · exact q hw
            · rcases Nat.lt_or_ge j 2 with q1 | q1
              · exact nI_ge q1 (by omega) hw
              · exact nI_ge (show 1 < j by omega) hj c
      · obtain ⟨o, f', n', z', tq', e1, hn, hz, C', eo, O, ho, fr⟩ := orders_e (F := F) hF C
        obtain ⟨-, hA, hA2, hA3⟩ := ok.2.2.1 _ (List.getElem_mem hi)
        obtain ⟨-, hB, hB2, hB3⟩ := ok.2.2.1 _ (List.getElem_mem hj)
        have H' := C'.2.2.2.1.1
        refine ⟨jnV (nI k) (srch (fun _ => true) (fun x => stp (unrk (hN (mH m)) x) (hC (mH m))[i].2 + stp (unrk (hN (mH m)) x) (hC (mH m))[j].2) (fct (hN (mH m))) 0 (1000000, 0)), f', n', z', m, ?_, hn, hz, fun a q1 q2 => fr a q2 (by omega), C'.ci, fun g => ?_⟩
        · unfold m_X11_join
          rw [bd_e (gR_s K rfl), ck_e (isO_e H.1)]
          refine grow_s ?_ hn hz
          rw [bd_e (copyAt_yes H h10 hi), bd_e (gR_s K rfl), ck_e (isO_e H.1)]
          refine grow_s ?_ hn hz
          rw [bd_e (copyAt_yes H h10 hj), if_neg (by simp), if_neg (by simp), if_neg (nI_pos (by omega)), if_pos (show nI k ≤ (1 : Int32) from nI_le (b := 1) (by omega) (by omega)), ck_e (isO_e K), bd4_e e1, ck_e (decide_eq_true ⟨hn, hz⟩)]
          refine grow_r ?_
          exact join_L h7 O hA2 hB2 (H'.copy hi) (H'.copy hj) (nI k) n' z' (fct (hN (mH m))) 0 F (1000000, 0) (by omega) (by omega) (Nat.le_refl _) (fun e => by omega)
        · obtain ⟨s1, q1, B1⟩ := rbeg (F := F) (g := g) (by omega) R 0
          obtain ⟨s3, i1, i2⟩ := rjoin_L (F := F) (g := g) B1.2.2.1 ok (by omega) hi hj (nI k) (fct (hN (mH m))) 0 F (1000000, 0) s1 (by omega) (by omega) (Nat.le_refl _) (fun e => by omega) (by decide) (Rs.refl _ _)
          refine ⟨s3, ?_, (B1.cg (i2.cg.mono (by simp) (by decide) (by simp))).1⟩
          unfold m_X12_join
          rw [wI_0, bd_some, ck_e r_isO, bd_e q1, ck_e r_isO, bd_e (risCopy_e B1.2.2.1 ok _), if_neg (inin (by omega) hi), if_neg (by decide), ck_e r_isO, bd_e (risCopy_e B1.2.2.1 ok _), if_neg (inin (by omega) hj), if_neg (by decide), bd_e (risIn (k := 1) (M := 1) (by omega) rfl _), if_neg (inin (by omega) hk), if_neg (by decide)]
          exact i1
end C5
