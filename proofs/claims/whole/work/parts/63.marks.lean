/-! holds, marks -/
variable {sk : Nat}
/-- STEPS to the nearest order with like MARKS, of the orders from x on -/
def nlR (g : Nat → Int32) (N : Nat) : Nat → Nat → Nat → Nat
  | 0, _, l => l
  | d + 1, x, l => nlR g N d (x + 1) (if lkB g (unrk N x) N 0 ∧ stp (unrk N 0) (unrk N x) < l then stp (unrk N 0) (unrk N x) else l)
theorem nlR_le (g : Nat → Int32) (N : Nat) : ∀ d x l, nlR g N d x l ≤ l
  | 0, _, _ => Nat.le_refl _
  | d + 1, x, l => by
    have h := nlR_le g N d (x + 1) (if lkB g (unrk N x) N 0 ∧ stp (unrk N 0) (unrk N x) < l then stp (unrk N 0) (unrk N x) else l)
    unfold nlR
    refine Nat.le_trans h ?_
    split
    · omega
    · exact Nat.le_refl _
theorem nlR_mh (g : Nat → Int32) (N k : Nat) : ∀ d x l, decide (2 * k < nlR g N d x l) = (decide (2 * k < l) && mhR g N k d x)
  | 0, _, _ => (Bool.and_true _).symm
  | d + 1, x, l => by
    have h := nlR_mh g N k d (x + 1) (if lkB g (unrk N x) N 0 ∧ stp (unrk N 0) (unrk N x) < l then stp (unrk N 0) (unrk N x) else l)
    show decide (2 * k < nlR g N d (x + 1) (if lkB g (unrk N x) N 0 ∧ stp (unrk N 0) (unrk N x) < l then stp (unrk N 0) (unrk N x) else l)) = (decide (2 * k < l) && (!(decide (stp (unrk N 0) (unrk N x) ≤ 2 * k) && lkB g (unrk N x) N 0) && mhR g N k d (x + 1)))
    rw [h]
    cases e : lkB g (unrk N x) N 0
    · rw [if_neg (fun c => by have := c.1; exact absurd this (by decide)), Bool.and_false]
      rfl
    · by_cases q : stp (unrk N 0) (unrk N x) < l
      · rw [if_pos ⟨rfl, q⟩]
        by_cases w : stp (unrk N 0) (unrk N x) ≤ 2 * k
        · rw [decide_eq_true w, decide_eq_false (show ¬ 2 * k < stp (unrk N 0) (unrk N x) by omega)]
          simp
        · rw [decide_eq_false w, decide_eq_true (show 2 * k < stp (unrk N 0) (unrk N x) by omega), decide_eq_true (show 2 * k < l by omega)]
          simp
      · rw [if_neg (fun c => q c.2)]
        by_cases w : 2 * k < l
        · rw [decide_eq_true w, decide_eq_false (show ¬ stp (unrk N 0) (unrk N x) ≤ 2 * k by omega)]
          simp
        · rw [decide_eq_false w]
          simp
theorem lkB_ext {g g' : Nat → Int32} {N : Nat} {L : List Nat} (h : ∀ i, i < N → g i = g' i) (hL : ∀ x ∈ L, x < N) (hl : L.length = N) : ∀ d i, i + d ≤ N → lkB g L d i = lkB g' L d i
  | 0, _, _ => rfl
  | d + 1, i, hi => by
    have hil : i < L.length := by omega
    have e := hL _ (List.getElem_mem hil)
    show (decide (g (L.getD i 0) = g i) && lkB g L d (i + 1)) = (decide (g' (L.getD i 0) = g' i) && lkB g' L d (i + 1))
    rw [lkB_ext h hL hl d (i + 1) (by omega), getD_e hil, h _ e, h i (by omega)]
theorem mhR_ext {g g' : Nat → Int32} {N k : Nat} (h : ∀ i, i < N → g i = g' i) : ∀ d x, x + d = fct N → mhR g N k d x = mhR g' N k d x
  | 0, _, _ => rfl
  | d + 1, x, hx => by
    have hP := unrk_ok (N := N) (x := x) (by omega)
    show (!(decide (stp (unrk N 0) (unrk N x) ≤ 2 * k) && lkB g (unrk N x) N 0) && mhR g N k d (x + 1)) = (!(decide (stp (unrk N 0) (unrk N x) ≤ 2 * k) && lkB g' (unrk N x) N 0) && mhR g' N k d (x + 1))
    rw [mhR_ext h d (x + 1) (by omega), lkB_ext h hP.2.1 hP.2.2 N 0 (by omega)]
theorem lkB_all {g : Nat → Int32} {L : List Nat} : ∀ d i, lkB g L d i = true → ∀ j, i ≤ j → j < i + d → g (L.getD j 0) = g j
  | 0, i, _, j, h1, h2 => by omega
  | d + 1, i, h, j, h1, h2 => by
    have h' : (decide (g (L.getD i 0) = g i) && lkB g L d (i + 1)) = true := h
    rw [Bool.and_eq_true] at h'
    by_cases e : j = i
    · subst e; exact of_decide_eq_true h'.1
    · exact lkB_all d (i + 1) h'.2 j (by omega) (by omega)
/-- unlike MARKS at all places HOLD any steps -/
theorem mhR_full {g : Nat → Int32} {N k : Nat} (h7 : N ≤ 7) (hg : ∀ i, i < N → g i = nI i) : ∀ d x, x + d = fct N → 1 ≤ x → mhR g N k d x = true
  | 0, _, _, _ => rfl
  | d + 1, x, hx, h1 => by
    have hP := unrk_ok (N := N) (x := x) (by omega)
    show (!(decide (stp (unrk N 0) (unrk N x) ≤ 2 * k) && lkB g (unrk N x) N 0) && mhR g N k d (x + 1)) = true
    rw [mhR_full h7 hg d (x + 1) (by omega) (by omega), Bool.and_true]
    cases e : lkB g (unrk N x) N 0
    · simp
    · exfalso
      have ha := lkB_all N 0 e
      have er : unrk N x = List.range N := by
        refine List.ext_getElem (by rw [hP.2.2, List.length_range]) (fun j j1 j2 => ?_)
        have j3 : j < N := by rw [← hP.2.2]; exact j1
        have := ha j (Nat.zero_le _) (by omega)
        rw [getD_e j1, hg _ (hP.2.1 _ (List.getElem_mem j1)), hg j j3] at this
        have lt := hP.2.1 _ (List.getElem_mem j1)
        rw [List.getElem_range]
        exact (nI_eq (by omega) (by omega)).mp this
      have e0 := rk_unrk (N := N) (x := x) (by omega)
      rw [er, ← unrk_0 N (by omega), rk_unrk (fct_pos N)] at e0
      omega
section C17
variable {F : Nat} {g : Hp} {st : RS} {h : HS} {f : Hp} {T D sX s o : Nat} {tl lf : Int32} {ll : Int64} {B : Nat → Nat}
theorem CIx.mr {n z : Nat} {m : MS} {sT sD : Nat} {tq iq : Nat → Option Nat} (C : CIx sk f n z m T D sT sD sX tq iq) {q : Nat → Int32} {f' : Hp} (fr : ∀ a, a ≠ 178 → f' a = f a) (e : f' 178 = some (.inr (1, 7, .inl q))) : CIx sk f' n z m T D sT sD sX tq iq := by
  obtain ⟨h1, h2, ⟨h3, h3b⟩, h4, h5, h6, h7, -⟩ := C
  exact ⟨h1.frame (fun a h => fr a (by omega)), h2.frame (fr _ (by omega)), ⟨h3.frame (fr _ (by omega)), h3b⟩, h4.frame (fun a _ _ => fr a (by omega)), h5.frame (fr _ (by omega)) (fr _ (by omega)) (fun a h => fr a (by omega)), h6.frame (fr _ (by omega)) (fr _ (by omega)) (fr _ (by omega)), h7.frame (fun a _ _ => fr a (by omega)), ⟨q, e⟩⟩
/-! the reference -/
theorem rnl_36 (N' : NW (sA st 14) h) (h7 : hN h ≤ 7) {gm : Nat → Int32} (h41 : ∀ i, i < hN h → sA st 41 i = gm i) {L : List Nat} (hP : okP (hN h) L) (hY : LY st L) {rc : Option Nat → Int32 → Int32 → Hp → Option (Int32 × Hp)} {v1 v2 : Int32} : ∀ (d i z : Nat), i + d = hN h → d < z → m_X12_nearestLike_L36 F rc z (some 179) v1 v2 1 (nI i) (ov g st) = m_X12_nearestLike_B83 F rc (some 179) v1 v2 (if lkB gm L d i then 1 else 0) (ov g st) := by
  intro d
  induction d with
  | zero =>
    intro i z hi hz
    obtain ⟨z, rfl⟩ : ∃ j, z = j + 1 := ⟨z - 1, by omega⟩
    show m_X12_nearestLike_b36 F _ _ _ _ _ _ _ _ = _
    unfold m_X12_nearestLike_b36
    rw [ck_e r_isO, bd_e (rlines_e N'), if_pos (nI_le (by omega) (by omega))]
    rfl
  | succ d ih =>
    intro i z hi hz
    obtain ⟨z, rfl⟩ : ∃ j, z = j + 1 := ⟨z - 1, by omega⟩
    have il : i < L.length := by rw [hP.2.2]; omega
    have lt := hP.2.1 _ (List.getElem_mem il)
    show m_X12_nearestLike_b36 F _ _ _ _ _ _ _ _ = m_X12_nearestLike_B83 F rc (some 179) v1 v2 (if (decide (gm (L.getD i 0) = gm i) && lkB gm L d (i + 1)) = true then 1 else 0) (ov g st)
    unfold m_X12_nearestLike_b36
    rw [ck_e r_isO, bd_e (rlines_e N'), if_neg (nI_ge (by omega) (by omega)), if_neg (by decide), rR_41, bd_some, rR_24, bd_some, rE_24 (by omega), bd_some, (hY i il).1, rE_41 (by omega), bd_some, bd_some, rE_41 (by omega), bd_some, h41 _ lt, h41 i (by omega), getD_e il]
    by_cases q : gm L[i] = gm i
    · rw [if_pos q, nm_e2, nI_1, ih (i + 1) z (by omega) (by omega), decide_eq_true q, Bool.true_and]
    · rw [if_neg q, nm_e2, nI_1, decide_eq_false q, Bool.false_and, if_neg (show ¬ false = true by decide)]
      obtain ⟨z, rfl⟩ : ∃ j, z = j + 1 := ⟨z - 1, by omega⟩
      show m_X12_nearestLike_b36 F _ _ _ _ _ _ _ _ = _
      unfold m_X12_nearestLike_b36
      rw [ck_e r_isO, bd_e (rlines_e N')]
      by_cases w : hN h ≤ i + 1
      · rw [if_pos (nI_le w (by omega))]
      · rw [if_neg (nI_ge (by omega) (by omega)), if_pos rfl]
theorem rnl_14 (N' : NW (sA st 14) h) (hF : 8 ≤ F) (h2 : 1 ≤ hN h) (h7 : hN h ≤ 7) {gm : Nat → Int32} (h41 : ∀ i, i < hN h → sA st 41 i = gm i) (pa : PL (sA st 26) (unrk (hN h) 0)) : ∀ (d x z l : Nat) (st' : RS), x + d = fct (hN h) → d < z → l ≤ 100 → Rs [24, 25, 27] st st' → ∃ st'', m_X12_nearestLike_L14 F z (some 179) (nI l) (nI x) (ov g st') = some (nI (nlR gm (hN h) d x l), ov g st'') ∧ Rs [24, 25, 27] st st'' := by
  have h5 := fct_le (hN h) (by omega)
  intro d
  induction d with
  | zero =>
    intro x z l st' hx hz hl C
    obtain ⟨z, rfl⟩ : ∃ j, z = j + 1 := ⟨z - 1, by omega⟩
    have N1 : NW (sA st' 14) h := by rw [C.A (by decide)]; exact N'
    refine ⟨st', ?_, C⟩
    show m_X12_nearestLike_b14 F _ _ _ _ _ = _
    unfold m_X12_nearestLike_b14
    rw [ck_e r_isO, bd_e (rorders_e N1 h2 h7 hF), if_pos (nI_le (by omega) (by omega))]
    rfl
  | succ d ih =>
    intro x z l st' hx hz hl C
    obtain ⟨z, rfl⟩ : ∃ j, z = j + 1 := ⟨z - 1, by omega⟩
    have hxl : x < fct (hN h) := by omega
    have N1 : NW (sA st' 14) h := by rw [C.A (by decide)]; exact N'
    have P0 := unrk_ok (fct_pos (hN h))
    have Px := unrk_ok hxl
    obtain ⟨s1, e1, r1, pb, y1⟩ := rlay27 (F := F) (g := g) hF N1 h2 h7 hxl
    have C1 : Rs [24, 25, 27] st s1 := C.trans r1
    have N2 : NW (sA s1 14) h := by rw [C1.A (by decide)]; exact N'
    have k36 := rnl_36 (F := F) (g := g) (rc := m_X12_nearestLike_L14 F z) (v1 := nI l) (v2 := nI x) N2 h7 (gm := gm) (fun i hi => by rw [C1.A (by decide)]; exact h41 i hi) Px y1 (hN h) 0 F (by omega) (by omega)
    have pa1 : PL (sA s1 26) (unrk (hN h) 0) := by rw [C1.A (by decide)]; exact pa
    have es := rsteps_e (F := F) (g := g) N2 h7 hF (P0.L h7) (Px.L h7) P0.2.1 pa1 pb
    have hs := stp_le (unrk (hN h) 0) (unrk (hN h) x)
    obtain ⟨s2, i1, i2⟩ := ih (x + 1) z (if lkB gm (unrk (hN h) x) (hN h) 0 ∧ stp (unrk (hN h) 0) (unrk (hN h) x) < l then stp (unrk (hN h) 0) (unrk (hN h) x) else l) s1 (by omega) (by omega) (by split <;> omega) C1
    refine ⟨s2, Eq.trans ?_ i1, i2⟩
    show m_X12_nearestLike_b14 F _ _ _ _ _ = _
    unfold m_X12_nearestLike_b14
    rw [ck_e r_isO, bd_e (rorders_e N1 h2 h7 hF), if_neg (nI_ge hxl (by omega)), rR_27, bd_some, ck_e r_isO, bd_e e1]
    refine Eq.trans k36 ?_
    unfold m_X12_nearestLike_B83
    cases e : lkB gm (unrk (hN h) x) (hN h) 0
    · rw [if_neg (show ¬ false = true by decide), if_pos rfl, nm_e2, nI_1, if_neg (fun c => absurd c.1 (by decide))]
    · rw [if_pos rfl, if_neg (by decide), ck_e r_isO, bd_e es]
      by_cases w : stp (unrk (hN h) 0) (unrk (hN h) x) < l
      · rw [if_neg (nI_ge w (by omega)), nm_e2, nI_1, if_pos ⟨rfl, w⟩]
      · rw [if_pos (nI_le (by omega) (by omega)), nm_e2, nI_1, if_neg (fun c => w c.2)]
theorem rnl_e (N' : NW (sA st 14) h) (hF : 5041 ≤ F) (h2 : 1 ≤ hN h) (h7 : hN h ≤ 7) {gm : Nat → Int32} (h41 : ∀ i, i < hN h → sA st 41 i = gm i) : ∃ st', m_X12_nearestLike F (some 179) (ov g st) = some (nI (nlR gm (hN h) (fct (hN h) - 1) 1 100), ov g st') ∧ Rs [24, 25, 26, 27] st st' := by
  have h5 := fct_le (hN h) (by omega)
  have h0 := fct_pos (hN h)
  obtain ⟨s1, e1, r1, pa, -⟩ := rlay26 (F := F) (g := g) (by omega) N' h2 h7 h0
  obtain ⟨s2, e2, r2⟩ := rnl_14 (F := F) (g := g) (st := s1) (h := h) (gm := gm) (by rw [r1.A (by decide)]; exact N') (by omega) h2 h7 (fun i hi => by rw [r1.A (by decide)]; exact h41 i hi) pa (fct (hN h) - 1) 1 F 100 s1 (by omega) (by omega) (by omega) (Rs.refl _ _)
  refine ⟨s2, ?_, (r1.mono (by simp)).trans (r2.mono (by simp))⟩
  unfold m_X12_nearestLike
  rw [rR_26, bd_some, ck_e r_isO, bd_e (show m_X12_layOrder F (some 179) (0 : Int32) (some 190) (ov g st) = _ from e1)]
  exact e2
theorem nl_cmp {gm : Nat → Int32} {N k : Nat} (hk : k < 10) : (nI (nlR gm N (fct N - 1) 1 100) ≤ (2 : Int32) * nI k) ↔ ¬ mhR gm N k (fct N - 1) 1 = true := by
  have e2 : (2 : Int32) * nI k = nI (2 * k) := by rw [← nI_mul]; rfl
  have h := nlR_mh gm N k (fct N - 1) 1 100
  have hl := nlR_le gm N (fct N - 1) 1 100
  rw [decide_eq_true (show 2 * k < 100 by omega), Bool.true_and] at h
  rw [e2, ← h]
  by_cases q : 2 * k < nlR gm N (fct N - 1) 1 100
  · rw [decide_eq_true q]
    exact ⟨fun c => absurd c (nI_ge q (by omega)), fun c => absurd rfl c⟩
  · rw [decide_eq_false q]
    exact ⟨fun _ => by decide, fun _ => nI_le (by omega) (by omega)⟩
/-! holds -/
theorem chold_L {n z : Nat} {k : Int32} : ∀ (d i w : Nat) (f : Hp) (q : Nat → Int32) (t : Nat), i + d = t → t ≤ 7 → d < w → KAt f T D sX tl lf ll → TP f B → f 178 = some (.inr (1, 7, .inl q)) → (∀ j, j < i → q j = nI (B j)) → ∃ f' q', (∀ r, m_X11_holds_B57 F (some 100) k f' n z = some r → n ≤ (pr4 r).1 → z ≤ (pr4 r).2 → m_X11_holds_L29 F w (some 100) k (nI t) (nI i) f n z = some r) ∧ (∀ a, a ≠ 178 → f' a = f a) ∧ f' 178 = some (.inr (1, 7, .inl q')) ∧ ∀ j, j < t → q' j = nI (B j) := by
  intro d
  induction d with
  | zero =>
    intro i w f q t hi ht hw K P e hq
    obtain ⟨w, rfl⟩ : ∃ j, w = j + 1 := ⟨w - 1, by omega⟩
    refine ⟨f, q, fun r hr _ _ => ?_, fun _ _ => rfl, e, fun j hj => hq j (by omega)⟩
    show m_X11_holds_b29 F _ _ _ _ _ _ _ _ = _
    unfold m_X11_holds_b29
    rw [if_pos (nI_le (by omega) (by omega))]
    exact hr
  | succ d ih =>
    intro i w f q t hi ht hw K P e hq
    obtain ⟨w, rfl⟩ : ∃ j, w = j + 1 := ⟨w - 1, by omega⟩
    obtain ⟨f', q', i1, i2, i3, i4⟩ := ih (i + 1) w (va_up f 178 (some (.inr (1, 7, .inl (upd q i (nI (B i))))))) (upd q i (nI (B i))) t (by omega) ht (by omega) (K.frame (up_n (by decide))) (P.frame (up_n (by decide))) up_s (fun j hj => by
      by_cases c : j = i
      · rw [c, upd_s]
      · rw [upd_n c]; exact hq j (by omega))
    refine ⟨f', q', fun r hr r1 r2 => ?_, fun a ha => (i2 a ha).trans (up_n ha), i3, i4⟩
    show m_X11_holds_b29 F _ _ _ _ _ _ _ _ = _
    unfold m_X11_holds_b29
    rw [if_neg (nI_ge (by omega) (by omega)), if_neg (lim7 (by omega)), bd_e (gR_s K rfl), ck_e (isO_e K)]
    refine grow_s ?_ r1 r2
    rw [bd_e (byteAt_e K P (by omega)), bd_e (stI1 e (by omega) (by omega) (by decide)), nm_e2, nI_1]
    exact i1 r hr r1 r2
theorem rhold_L {k : Int32} (P : ∀ i, i < 740 → sA st 1 i = nI (B i) ∧ B i < 256) {t : Nat} (ht : t ≤ 7) : ∀ (d i w : Nat) (st' : RS), i + d = t → d < w → Rs [41] st st' → (∀ j, j < i → sA st' 41 j = nI (B j)) → ∃ st'', m_X12_holds_L36 F w (some 179) k (nI t) (nI i) (ov g st') = m_X12_holds_B59 F (some 179) k (ov g st'') ∧ Rs [41] st st'' ∧ ∀ j, j < t → sA st'' 41 j = nI (B j) := by
  intro d
  induction d with
  | zero =>
    intro i w st' hi hw C hq
    obtain ⟨w, rfl⟩ : ∃ j, w = j + 1 := ⟨w - 1, by omega⟩
    refine ⟨st', ?_, C, fun j hj => hq j (by omega)⟩
    show m_X12_holds_b36 F _ _ _ _ _ _ = _
    unfold m_X12_holds_b36
    rw [if_pos (nI_le (by omega) (by omega))]
  | succ d ih =>
    intro i w st' hi hw C hq
    obtain ⟨w, rfl⟩ : ∃ j, w = j + 1 := ⟨w - 1, by omega⟩
    have a1 : sA st' 1 = sA st 1 := C.A (by decide)
    obtain ⟨st'', i1, i2⟩ := ih (i + 1) w (uA st' 41 i (nI (B i))) (by omega) (by omega) (C.trans (Rs.uA (by simp))) (fun j hj => by
      rw [sA_uA, if_pos rfl]
      by_cases c : j = i
      · rw [c, upd_s]
      · rw [upd_n c]; exact hq j (by omega))
    refine ⟨st'', ?_, i2⟩
    show m_X12_holds_b36 F _ _ _ _ _ _ = _
    unfold m_X12_holds_b36
    rw [if_neg (nI_ge (by omega) (by omega)), rR_41, bd_some, rR_1, bd_some, rE_1 (by omega), bd_some, a1, (P i (by omega)).1, wE_41 (by omega), bd_some, nm_e2, nI_1]
    exact i1
theorem k_holds (hF : 5041 ≤ F) (k : Int32) : KA sk (m_X11_holds F (some 100) k) (m_X12_holds F (some 179) k) := by
  intro f n z st m C R
  obtain ⟨f1, e1, C1, fr1⟩ := take_e (F := F) C
  obtain ⟨_, _, _, _, _, _, _, -, K0, ⟨-, t7, -⟩, -⟩ := C
  obtain ⟨T, D, sT, sD, sX, tq, iq, X⟩ := C1.x
  obtain ⟨S, K, ⟨tp, -⟩, ⟨H, ok, -⟩, -, -, -, ⟨q, eq⟩⟩ := id X
  have td := X.td
  have tp : TP f1 (mB m) := tp
  have H : HAt f1 T sT (mH m) := H
  have ok : okH (mH m) := ok
  have h2 := ok.1.1
  have h7 := ok.1.2
  have h5 := fct_le (hN (mH m)) (by omega)
  have ref : ∀ v m', (∀ g s2, RB s2 (mt0 m) → ∃ s3, (if nI (mT m) = nI (hN (mH m)) then (if (if k < 0 ∨ nI 10 ≤ k then (0 : Int32) else 1) = 0 then some ((-1 : Int32), ov g s2) else m_X12_holds_L36 F F (some 179) k (nI (mT m)) 0 (ov g s2)) else some ((-1 : Int32), ov g s2)) = some (v, ov g s3) ∧ RI s3 m') → ∀ g, ∃ st', m_X12_holds F (some 179) k (ov g st) = some (v, ov g st') ∧ RI st' m' := by
    intro v m' hv g
    obtain ⟨s1, q1, B1⟩ := rbeg (F := F) (g := g) (by omega) R 0
    obtain ⟨q2, B2⟩ := rtake_e (F := F) (g := g) B1
    obtain ⟨s3, q3, r3⟩ := hv g _ B2
    refine ⟨s3, ?_, r3⟩
    unfold m_X12_holds
    rw [wI_0, bd_some, ck_e r_isO, bd_e q1, ck_e r_isO, bd2_e q2, ck_e r_isO, bd_e (rlines_e B2.2.2.1), bd_e (risIn (k := 9) (M := 9) (by omega) rfl k)]
    exact q3
  have cls : ∀ r, (if (if k < 0 ∨ nI 10 ≤ k then (0 : Int32) else 1) = 0 then some ((-1 : Int32), f1, n, z) else if nI (mT m) = nI (hN (mH m)) then m_X11_holds_L29 F F (some 100) k (nI (mT m)) 0 f1 n z else some ((-1 : Int32), f1, n, z)) = some r → n ≤ r.2.2.1 → z ≤ r.2.2.2 → m_X11_holds F (some 100) k f n z = some r := by
    intro r hr h1 h2
    unfold m_X11_holds
    rw [ck_e (isO_e K0)]
    refine grow_s ?_ h1 h2
    rw [bd2_e e1]
    refine grow_s ?_ h1 h2
    rw [bd_e (isW_e (k := 9) (M := 9) (by omega) rfl k), bd_e (gR_s K rfl), bd_e (gI_e H.1 rfl)]
    exact hr
  rcases outin (k := 10) (by omega) k with hk | ⟨k, hk, rfl⟩
  · refine ⟨-1, f1, n, z, mt0 m, cls _ ?_ (Nat.le_refl _) (Nat.le_refl _), Nat.le_refl _, Nat.le_refl _, fun a a1 _ => fr1 a (by omega), C1, ref _ _ (fun g s2 B2 => ⟨s2, ?_, B2.1⟩)⟩
    · rw [if_pos hk, if_pos rfl]
    · rw [if_pos hk, if_pos rfl]
      split <;> rfl
  · by_cases q0 : mT m = hN (mH m)
    · obtain ⟨f2, q2, e2, fr2, e178, hq2⟩ := chold_L (F := F) (n := n) (z := z) (k := nI k) (B := mB m) (mT m) 0 F f1 q (mT m) (by omega) (by omega) (by omega) K tp eq (fun _ c => absurd c (Nat.not_lt_zero _))
      have X2 : CIx sk f2 n z (mt0 m) T D sT sD sX tq iq := X.mr fr2 e178
      obtain ⟨o, f3, n3, z3, tq3, o1, hn, hz, X3, eo, O, ho, fr3⟩ := orders_e (F := F) hF X2
      have e3 : f3 178 = some (.inr (1, 7, .inl q2)) := (fr3 _ (by omega) (by omega)).trans e178
      have mh := marksHold_e (F := F) O h7 hF e3 (k := k) (by omega)
      refine ⟨if mhR q2 (hN (mH m)) k (fct (hN (mH m)) - 1) 1 = true then 1 else 0, f3, n3, z3, mt0 m, cls _ ?_ hn hz, hn, hz, fun a a1 a2 => (fr3 a a2 (by omega)).trans ((fr2 a (by omega)).trans (fr1 a (by omega))), X3.ci, ref _ _ (fun g s2 B2 => ?_)⟩
      · rw [if_neg (show ¬ (nI k < 0 ∨ nI 10 ≤ nI k) from inin (by omega) hk), if_neg (by decide), if_pos (by rw [q0])]
        refine e2 _ ?_ hn hz
        unfold m_X11_holds_B57
        rw [ck_e (isO_e X2.2.1), bd4_e o1, ck_e (decide_eq_true ⟨hn, hz⟩)]
        refine grow_r ?_
        rw [bd_e (gR_s X3.2.1 rfl), ck_e O.O]
        refine grow_r ?_
        rw [bd_e mh]
        by_cases c : mhR q2 (hN (mH m)) k (fct (hN (mH m)) - 1) 1 = true
        · rw [if_pos c, if_neg (by decide)]
        · rw [if_neg c, if_pos rfl]
      · obtain ⟨s3, r1, r2, r3⟩ := rhold_L (F := F) (g := g) (st := s2) (k := nI k) (B := mB m) (bytes_P tp B2.1 rfl) (t := mT m) (by omega) (mT m) 0 F s2 (by omega) (by omega) (Rs.refl _ _) (fun _ c => absurd c (Nat.not_lt_zero _))
        have B3 : RB s3 (mt0 m) := B2.cg (r2.cg.mono (by decide) (by decide) (by decide))
        obtain ⟨s4, r4, r5⟩ := rnl_e (F := F) (g := g) (st := s3) (h := mH m) (gm := q2) B3.2.2.1 hF (by omega) h7 (fun i hi => by rw [r3 i (by omega), hq2 i (by omega)])
        refine ⟨s4, ?_, (B3.cg (r5.cg.mono (by decide) (by decide) (by decide))).1⟩
        rw [if_pos (by rw [q0]), if_neg (show ¬ (nI k < 0 ∨ nI 10 ≤ nI k) from inin (by omega) hk), if_neg (by decide)]
        refine Eq.trans r1 ?_
        unfold m_X12_holds_B59
        rw [ck_e r_isO, bd2_e r4]
        by_cases c : mhR q2 (hN (mH m)) k (fct (hN (mH m)) - 1) 1 = true
        · rw [if_neg (fun e => (nl_cmp hk).mp e c), if_pos c]
        · rw [if_pos ((nl_cmp hk).mpr c), if_neg c]
    · have nq : ¬ nI (mT m) = nI (hN (mH m)) := fun e => q0 ((nI_eq (by omega) (by omega)).mp e)
      refine ⟨-1, f1, n, z, mt0 m, cls _ ?_ (Nat.le_refl _) (Nat.le_refl _), Nat.le_refl _, Nat.le_refl _, fun a a1 _ => fr1 a (by omega), C1, ref _ _ (fun g s2 B2 => ⟨s2, ?_, B2.1⟩)⟩
      · rw [if_neg (show ¬ (nI k < 0 ∨ nI 10 ≤ nI k) from inin (by omega) hk), if_neg (by decide), if_neg nq]
      · rw [if_neg nq]
end C17
