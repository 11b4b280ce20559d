/-! better, nearest -/
variable {sk : Nat}
/-- found, SONG, STEPS, place -/
def btS (kk : Nat) (gn sp : Nat → Nat) : Nat → Nat → Bool × Nat × Nat × Nat → Bool × Nat × Nat × Nat
  | 0, _, s => s
  | d + 1, x, s => btS kk gn sp d (x + 1) (if sp x ≤ kk ∧ (s.1 = false ∨ s.2.1 < gn x ∨ gn x = s.2.1 ∧ sp x < s.2.2.1) then (true, gn x, sp x, x) else s)
def btV (s : Bool × Nat × Nat × Nat) : Int32 := if s.1 then nI s.2.2.2 else (-1 : Int32)
def btM (s : Bool × Nat × Nat × Nat) : Int32 := if s.1 then nI s.2.1 else (-1 : Int32)
def btG (s : Bool × Nat × Nat × Nat) : Int32 := if s.1 then nI s.2.1 else (0 : Int32)
def btL (s : Bool × Nat × Nat × Nat) : Int32 := if s.1 then nI s.2.2.1 else (0 : Int32)
section C6
variable {F : Nat} {g : Hp} {st : RS} {h : HS}
theorem sng_le (ok : okH h) (L : List Nat) : sngR (hR h) L ≤ 1188 := by
  have h1 := sngR_le (L := L) (hR h) (fun q hq => (ok.2.2.2.2.2.2.2.2.2.1 q hq).2.2.2.2)
  have h2 := ok.2.2.2.2.2.2.2.2.1
  omega
theorem better_L {f : Hp} {T D sX s o c : Nat} {tl lf : Int32} {ll nc : Int64} {B : List Nat} (K : KAt f T D sX tl lf ll) (H : HAt f T s h) (ok : okH h) (O : OAt f o (hN h)) (hF : 16 ≤ F) (hBl : ∀ y ∈ B, y < hN h) (hc : f c = some (.inl (0, cC nc B))) {k : Nat} (hk : k < 22) (n z : Nat) : ∀ (d x w : Nat) (q : Bool × Nat × Nat × Nat), x + d = fct (hN h) → d < w → q.2.1 < 2 ^ 20 → q.2.2.1 < 2 ^ 20 → m_X11_better_L42 F w (some 100) (nI k) (some c) (some o) (btM q) (btL q) (btV q) (nI x) f n z = some (btV (btS k (fun x => sngR (hR h) (unrk (hN h) x)) (fun x => stp (unrk (hN h) x) B) d x q), f, n, z) := by
  have h7 := ok.1.2
  have h5 := fct_le (hN h) (by omega)
  intro d
  induction d with
  | zero =>
    intro x w q hx hw h1 h2
    obtain ⟨w, rfl⟩ : ∃ j, w = j + 1 := ⟨w - 1, by omega⟩
    show m_X11_better_b42 F _ _ _ _ _ _ _ _ _ _ _ _ = some (btV q, f, n, z)
    unfold m_X11_better_b42
    rw [bd_e O.total, if_pos (nI_le (by omega) (by omega))]
  | succ d ih =>
    intro x w q hx hw h1 h2
    obtain ⟨w, rfl⟩ : ∃ j, w = j + 1 := ⟨w - 1, by omega⟩
    have hxl : x < fct (hN h) := by omega
    have hP := unrk_ok hxl
    have es := stp_le (unrk (hN h) x) B
    have eg := sng_le ok (unrk (hN h) x)
    have hs : m_X4_songOf F (some T) (nI (pkN (unrk (hN h) x))) (nI (hN h)) f = some (nI (sngR (hR h) (unrk (hN h) x))) := by
      have := songOf_e (F := F) H ok (hP.L h7) (by omega)
      rw [hP.2.2] at this
      exact this
    have take := ih (x + 1) w (true, sngR (hR h) (unrk (hN h) x), stp (unrk (hN h) x) B, x) (by omega) (by omega) (show sngR _ _ < _ by omega) (show stp _ _ < _ by omega)
    have skip := ih (x + 1) w q (by omega) (by omega) h1 h2
    show m_X11_better_b42 F _ _ _ _ _ _ _ _ _ _ _ _ = some (btV (btS k _ _ d (x + 1) (if stp (unrk (hN h) x) B ≤ k ∧ (q.1 = false ∨ q.2.1 < sngR (hR h) (unrk (hN h) x) ∨ sngR (hR h) (unrk (hN h) x) = q.2.1 ∧ stp (unrk (hN h) x) B < q.2.2.1) then (true, sngR (hR h) (unrk (hN h) x), stp (unrk (hN h) x) B, x) else q)), f, n, z)
    unfold m_X11_better_b42
    rw [bd_e O.total, if_neg (nI_ge hxl (by omega)), ck_e O.O]
    refine grow_r ?_
    rw [bd_e (ostepsTo_e O h7 hxl hBl hc)]
    by_cases c1 : stp (unrk (hN h) x) B ≤ k
    · rw [if_neg (nI_nlt c1 (by omega)), bd_e (gR_s K rfl), O.pk h7 hxl, bd_e O.lines, ck_e (isO_e H.1)]
      refine grow_r ?_
      rw [bd_e hs]
      unfold m_X11_better_B111
      have tk : (nmd (nI x + (1 : Int32)) fun y20 => m_X11_better_L42 F w (some 100) (nI k) (some c) (some o) (nI (sngR (hR h) (unrk (hN h) x))) (nI (stp (unrk (hN h) x) B)) (nI x) y20 f n z) = some (btV (btS k (fun x => sngR (hR h) (unrk (hN h) x)) (fun x => stp (unrk (hN h) x) B) d (x + 1) (true, sngR (hR h) (unrk (hN h) x), stp (unrk (hN h) x) B, x)), f, n, z) := by
        rw [nm_e2, nI_1]
        exact take
      have sk : (nmd (nI x + (1 : Int32)) fun y20 => m_X11_better_L42 F w (some 100) (nI k) (some c) (some o) (btM q) (btL q) (btV q) y20 f n z) = some (btV (btS k (fun x => sngR (hR h) (unrk (hN h) x)) (fun x => stp (unrk (hN h) x) B) d (x + 1) q), f, n, z) := by
        rw [nm_e2, nI_1]
        exact skip
      cases hq : q.1 with
      | false =>
        have e1 : btM q = -1 := by unfold btM; rw [hq]; rfl
        rw [if_pos (show btM q < nI (sngR (hR h) (unrk (hN h) x)) by
          rw [e1]
          refine Int32.not_le.mp (fun c => ?_)
          have : nI (sngR (hR h) (unrk (hN h) x)) < 0 := Int32.lt_of_le_of_lt c (by decide)
          exact nI_pos (by omega) this), if_pos ⟨c1, Or.inl rfl⟩]
        exact tk
      | true =>
        have e1 : btM q = nI q.2.1 := by unfold btM; rw [hq]; rfl
        have e2 : btL q = nI q.2.2.1 := by unfold btL; rw [hq]; rfl
        rw [e1, e2] at sk ⊢
        by_cases c2 : q.2.1 < sngR (hR h) (unrk (hN h) x)
        · rw [if_pos (nI_lt c2 (by omega)), if_pos ⟨c1, Or.inr (Or.inl c2)⟩]
          exact tk
        · rw [if_neg (nI_nlt (by omega) (by omega))]
          by_cases c3 : sngR (hR h) (unrk (hN h) x) = q.2.1
          · rw [if_pos (by rw [c3])]
            by_cases c4 : stp (unrk (hN h) x) B < q.2.2.1
            · rw [if_neg (nI_ge c4 (by omega)), if_pos ⟨c1, Or.inr (Or.inr ⟨c3, c4⟩)⟩]
              exact tk
            · rw [if_pos (nI_le (by omega) (by omega)), if_neg (fun c => by
                rcases c.2 with c | c | c
                · cases c
                · exact c2 c
                · exact c4 c.2)]
              exact sk
          · rw [if_neg (fun c => c3 ((nI_eq (by omega) (by omega)).mp c)), if_neg (fun c => by
              rcases c.2 with c | c | c
              · cases c
              · exact c2 c
              · exact c3 c.1)]
            exact sk
    · rw [if_pos (nI_lt (by omega) (by omega)), nm_e2, nI_1, if_neg (fun c => c1 c.1)]
      exact skip
theorem rbetter_L (N : NW (sA st 14) h) (ok : okH h) (hF : 16 ≤ F) {B : List Nat} (hB : okL B) (hBl : ∀ y ∈ B, y < hN h) (pb : PL (sA st 27) B) {k : Nat} (hk : k < 22) : ∀ (d x w : Nat) (q : Bool × Nat × Nat × Nat) (st' : RS), x + d = fct (hN h) → d < w → q.2.1 < 2 ^ 20 → q.2.2.1 < 2 ^ 20 → q.2.2.2 < 2 ^ 20 → Rs [24, 25, 26] st st' → ∃ st'', m_X12_better_L57 F w (some 179) (nI k) (btV q) (btG q) (btL q) (nI x) (ov g st') = some (btV (btS k (fun x => sngR (hR h) (unrk (hN h) x)) (fun x => stp (unrk (hN h) x) B) d x q), ov g st'') ∧ Rs [24, 25, 26] st st'' := by
  have hn2 := ok.1.1
  have h7 := ok.1.2
  have h5 := fct_le (hN h) (by omega)
  intro d
  induction d with
  | zero =>
    intro x w q st' hx hw h1 h2 h3 C
    obtain ⟨w, rfl⟩ : ∃ j, w = j + 1 := ⟨w - 1, by omega⟩
    refine ⟨st', ?_, C⟩
    show m_X12_better_b57 F _ _ _ _ _ _ _ _ = some (btV q, ov g st')
    unfold m_X12_better_b57
    rw [ck_e r_isO, bd_e (rorders_e (by rw [C.A (by decide)]; exact N) (by omega) h7 (by omega)), if_pos (nI_le (by omega) (by omega))]
  | succ d ih =>
    intro x w q st' hx hw h1 h2 h3 C
    obtain ⟨w, rfl⟩ : ∃ j, w = j + 1 := ⟨w - 1, by omega⟩
    have hxl : x < fct (hN h) := by omega
    have hP := unrk_ok hxl
    have es := stp_le (unrk (hN h) x) B
    have eg := sng_le ok (unrk (hN h) x)
    have N' : NW (sA st' 14) h := by rw [C.A (by decide)]; exact N
    obtain ⟨s2, q2, r2, pa, -⟩ := rlay26 (F := F) (g := g) (by omega) N' (by omega) h7 hxl
    have N2 : NW (sA s2 14) h := by rw [r2.A (by decide)]; exact N'
    have CC := C.trans r2
    have e3 := rsteps_e (F := F) (g := g) N2 h7 (by omega) (hP.L h7) hB hP.2.1 pa (by rw [CC.A (by decide)]; exact pb)
    have take := ih (x + 1) w (true, sngR (hR h) (unrk (hN h) x), stp (unrk (hN h) x) B, x) s2 (by omega) (by omega) (show sngR _ _ < _ by omega) (show stp _ _ < _ by omega) (show x < _ by omega) CC
    have skip := ih (x + 1) w q s2 (by omega) (by omega) h1 h2 h3 CC
    show ∃ st'', m_X12_better_b57 F _ _ _ _ _ _ _ _ = some (btV (btS k _ _ d (x + 1) (if stp (unrk (hN h) x) B ≤ k ∧ (q.1 = false ∨ q.2.1 < sngR (hR h) (unrk (hN h) x) ∨ sngR (hR h) (unrk (hN h) x) = q.2.1 ∧ stp (unrk (hN h) x) B < q.2.2.1) then (true, sngR (hR h) (unrk (hN h) x), stp (unrk (hN h) x) B, x) else q)), _) ∧ _
    unfold m_X12_better_b57
    rw [ck_e r_isO, bd_e (rorders_e N' (by omega) h7 (by omega)), if_neg (nI_ge hxl (by omega)), rR_26, bd_some, ck_e r_isO, bd_e q2, ck_e r_isO, bd_e e3, rR_26, bd_some, ck_e r_isO, bd_e (rsongOf_e hF N2 ok (hP.L h7) pa)]
    unfold m_X12_better_B127
    have tk : ∃ st'', (nmd (nI x + (1 : Int32)) fun y20 => m_X12_better_L57 F w (some 179) (nI k) (nI x) (nI (sngR (hR h) (unrk (hN h) x))) (nI (stp (unrk (hN h) x) B)) y20 (ov g s2)) = some (btV (btS k (fun x => sngR (hR h) (unrk (hN h) x)) (fun x => stp (unrk (hN h) x) B) d (x + 1) (true, sngR (hR h) (unrk (hN h) x), stp (unrk (hN h) x) B, x)), ov g st'') ∧ Rs [24, 25, 26] st st'' := by
      rw [nm_e2, nI_1]
      exact take
    have sk : ∃ st'', (nmd (nI x + (1 : Int32)) fun y20 => m_X12_better_L57 F w (some 179) (nI k) (btV q) (btG q) (btL q) y20 (ov g s2)) = some (btV (btS k (fun x => sngR (hR h) (unrk (hN h) x)) (fun x => stp (unrk (hN h) x) B) d (x + 1) q), ov g st'') ∧ Rs [24, 25, 26] st st'' := by
      rw [nm_e2, nI_1]
      exact skip
    by_cases c1 : stp (unrk (hN h) x) B ≤ k
    · rw [if_neg (nI_nlt c1 (by omega))]
      cases hq : q.1 with
      | false =>
        have e1 : btV q = -1 := by unfold btV; rw [hq]; rfl
        rw [if_pos e1, if_pos ⟨c1, Or.inl rfl⟩]
        exact tk
      | true =>
        have e0 : btV q = nI q.2.2.2 := by unfold btV; rw [hq]; rfl
        have e1 : btG q = nI q.2.1 := by unfold btG; rw [hq]; rfl
        have e2 : btL q = nI q.2.2.1 := by unfold btL; rw [hq]; rfl
        rw [e0, e1, e2] at sk ⊢
        rw [if_neg (nI_nm1 (by omega))]
        by_cases c2 : q.2.1 < sngR (hR h) (unrk (hN h) x)
        · rw [if_neg (nI_nlt (by omega) (by omega)), if_neg (fun c => by have := (nI_eq (by omega) (by omega)).mp c; omega), if_pos ⟨c1, Or.inr (Or.inl c2)⟩]
          exact tk
        · by_cases c3 : sngR (hR h) (unrk (hN h) x) = q.2.1
          · rw [if_neg (nI_nlt (by omega) (by omega)), if_pos (by rw [c3])]
            by_cases c4 : stp (unrk (hN h) x) B < q.2.2.1
            · rw [if_pos (nI_lt c4 (by omega)), if_pos ⟨c1, Or.inr (Or.inr ⟨c3, c4⟩)⟩]
              exact tk
            · rw [if_neg (nI_nlt (by omega) (by omega)), if_neg (fun c => by
                rcases c.2 with c | c | c
                · cases c
                · exact c2 c
                · exact c4 c.2)]
              exact sk
          · rw [if_pos (nI_lt (by omega) (by omega)), if_neg (fun c => by
              rcases c.2 with c | c | c
              · cases c
              · exact c2 c
              · exact c3 c.1)]
            exact sk
    · rw [if_pos (nI_lt (by omega) (by omega)), if_neg (fun c => c1 c.1)]
      exact sk
theorem risWhole_e (N : NW (sA st 14) h) (ok : okH h) {i : Nat} (hi : i < (hC h).length) : m_X12_isWhole F (some 179) (nI i) (ov g st) = some (if (hC h)[i].2.length = hN h then 1 else 0) := by
  have h7 := ok.1.2
  obtain ⟨-, hA, -⟩ := ok.2.2.1 _ (List.getElem_mem hi)
  have := okL_len hA
  unfold m_X12_isWhole
  rw [ck_e r_isO, bd_e (rsizeOf_e N ok hi), ck_e r_isO, bd_e (rlines_e N)]
  by_cases q : (hC h)[i].2.length = hN h
  · rw [if_pos (by rw [q]), ck_e (by decide), if_pos q]
  · rw [if_neg (fun e => q ((nI_eq (by omega) (by omega)).mp e)), ck_e (by decide), if_neg q]
theorem k_better (hF : 5041 ≤ F) (c k : Int32) : KA sk (m_X11_better F (some 100) c k) (m_X12_better F (some 179) c k) := by
  intro f n z st m C R
  obtain ⟨T, D, sT, sD, sX, tq, iq, C⟩ := C.x
  have K := C.2.1
  have H := C.2.2.2.1.1
  have ok := C.2.2.2.1.2.1
  have h2 := ok.1.1
  have h7 := ok.1.2
  have h10 := ok.2.1
  have h5 := fct_le (hN (mH m)) (by omega)
  have no : (∀ g, ∃ st', m_X12_better F (some 179) c k (ov g st) = some (-1, ov g st') ∧ RI st' m) → m_X11_better F (some 100) c k f n z = some (-1, f, n, z) → ∃ v f' n' z' m', m_X11_better F (some 100) c k f n z = some (v, f', n', z') ∧ n ≤ n' ∧ z ≤ z' ∧ (∀ a, 179 ≤ a → a < 204 → f' a = f a) ∧ CI sk f' n' z' m' ∧ ∀ g, ∃ st', m_X12_better F (some 179) c k (ov g st) = some (v, ov g st') ∧ RI st' m' := fun h1 h2 => ⟨-1, f, n, z, m, h2, Nat.le_refl _, Nat.le_refl _, fun _ _ _ => rfl, C.ci, h1⟩
  rcases outin (k := (hC (mH m)).length) (by omega) c with hc | ⟨i, hi, rfl⟩
  · refine no (fun g => ?_) ?_
    · obtain ⟨s1, q1, B1⟩ := rbeg (F := F) (g := g) (by omega) R 0
      refine ⟨s1, ?_, B1.1⟩
      unfold m_X12_better
      rw [wI_0, bd_some, ck_e r_isO, bd_e q1, ck_e r_isO, bd_e (risCopy_e B1.2.2.1 ok c), if_pos hc, if_pos rfl]
    · unfold m_X11_better
      rw [bd_e (gR_s K rfl), ck_e (isO_e H.1)]
      refine grow_r ?_
      rw [bd_e (wholeAt_no H hc), if_pos rfl]
  · by_cases hw : (hC (mH m))[i].2.length = hN (mH m)
    · have ew := wholeAt_yes (F := F) H ok hi
      rw [if_pos hw] at ew
      rcases outin (k := 22) (by omega) k with hk | ⟨k, hk, rfl⟩
      · refine no (fun g => ?_) ?_
        · obtain ⟨s1, q1, B1⟩ := rbeg (F := F) (g := g) (by omega) R 0
          refine ⟨s1, ?_, B1.1⟩
          unfold m_X12_better
          rw [wI_0, bd_some, ck_e r_isO, bd_e q1, ck_e r_isO, bd_e (risCopy_e B1.2.2.1 ok _), if_neg (inin (by omega) hi), if_neg (by decide), ck_e r_isO, bd_e (risWhole_e B1.2.2.1 ok hi), if_pos hw, if_neg (by decide), bd_e (risIn (k := 21) (M := 21) (by omega) rfl k), if_pos hk, if_pos rfl]
        · unfold m_X11_better
          rw [bd_e (gR_s K rfl), ck_e (isO_e H.1)]
          refine grow_r ?_
          rw [bd_e ew, if_neg (by simp)]
          refine grow_r ?_
          rw [bd_e (isW_e (k := 21) (M := 21) (by omega) rfl k), if_pos hk, if_pos rfl]
      · obtain ⟨o, f', n', z', tq', e1, hn, hz, C', eo, O, ho, fr⟩ := orders_e (F := F) hF C
        obtain ⟨-, hA, hA2, hA3⟩ := ok.2.2.1 _ (List.getElem_mem hi)
        have H' := C'.2.2.2.1.1
        refine ⟨btV (btS k (fun x => sngR (hR (mH m)) (unrk (hN (mH m)) x)) (fun x => stp (unrk (hN (mH m)) x) (hC (mH m))[i].2) (fct (hN (mH m))) 0 (false, 0, 0, 0)), f', n', z', m, ?_, hn, hz, fun a q1 q2 => fr a q2 (by omega), C'.ci, fun g => ?_⟩
        · unfold m_X11_better
          rw [bd_e (gR_s K rfl), ck_e (isO_e H.1)]
          refine grow_s ?_ hn hz
          rw [bd_e ew, if_neg (by simp)]
          refine grow_s ?_ hn hz
          rw [bd_e (isW_e (k := 21) (M := 21) (by omega) rfl _), if_neg (inin (by omega) hk), if_neg (by decide), ck_e (isO_e K), bd4_e e1, ck_e (decide_eq_true ⟨hn, hz⟩)]
          refine grow_r ?_
          exact better_L C'.2.1 H' ok O (by omega) hA2 (H'.copy hi) hk n' z' (fct (hN (mH m))) 0 F (false, 0, 0, 0) (by omega) (by omega) (by decide) (by decide)
        · obtain ⟨s1, q1, B1⟩ := rbeg (F := F) (g := g) (by omega) R 0
          obtain ⟨s2, q2, r2, pb⟩ := rcopy27 (F := F) (g := g) (by omega) B1.2.2.1 ok hi
          have B2 := B1.cg (r2.cg.mono (by simp) (by decide) (by simp))
          obtain ⟨s3, i1, i2⟩ := rbetter_L (F := F) (g := g) B2.2.2.1 ok (by omega) hA hA2 pb hk (fct (hN (mH m))) 0 F (false, 0, 0, 0) s2 (by omega) (by omega) (by decide) (by decide) (by decide) (Rs.refl _ _)
          refine ⟨s3, ?_, (B2.cg (i2.cg.mono (by simp) (by decide) (by simp))).1⟩
          unfold m_X12_better
          rw [wI_0, bd_some, ck_e r_isO, bd_e q1, ck_e r_isO, bd_e (risCopy_e B1.2.2.1 ok _), if_neg (inin (by omega) hi), if_neg (by decide), ck_e r_isO, bd_e (risWhole_e B1.2.2.1 ok hi), if_pos hw, if_neg (by decide), bd_e (risIn (k := 21) (M := 21) (by omega) rfl _), if_neg (inin (by omega) hk), if_neg (by decide), rR_27, bd_some, ck_e r_isO, bd_e q2]
          exact i1
    · have ew := wholeAt_yes (F := F) H ok hi
      rw [if_neg hw] at ew
      refine no (fun g => ?_) ?_
      · obtain ⟨s1, q1, B1⟩ := rbeg (F := F) (g := g) (by omega) R 0
        refine ⟨s1, ?_, B1.1⟩
        unfold m_X12_better
        rw [wI_0, bd_some, ck_e r_isO, bd_e q1, ck_e r_isO, bd_e (risCopy_e B1.2.2.1 ok _), if_neg (inin (by omega) hi), if_neg (by decide), ck_e r_isO, bd_e (risWhole_e B1.2.2.1 ok hi), if_neg hw, if_pos rfl]
      · unfold m_X11_better
        rw [bd_e (gR_s K rfl), ck_e (isO_e H.1)]
        refine grow_r ?_
        rw [bd_e ew, if_pos rfl]
end C6
