/-! ways, firsts, again -/
variable {sk : Nat}
theorem nI_bv (y : Int32) : nI y.toBitVec.toNat = y := by
  apply Int32.toBitVec_inj.mp
  show BitVec.ofNat 32 y.toBitVec.toNat = y.toBitVec
  simp
section C8
variable {F : Nat} {g : Hp} {st : RS} {h : HS}
/-- the W of the HOUSE, as ints -/
abbrev wI (h : HS) : Nat → Int32 := fun p => nI (hW h p)
theorem cspread (hF : 5041 ≤ F) {f : Hp} {n z : Nat} {m : MS} {T D sT sD sX : Nat} {tq iq : Nat → Option Nat} (C : CIx sk f n z m T D sT sD sX tq iq) {o : Nat} (eo : tq (hN (mH m)) = some o) (O : OAt f o (hN (mH m))) (ho : 204 ≤ o) {x k : Nat} (hx : x < fct (hN (mH m))) (hk : k < 20) : gR f (some 100) 9 2 = some (some T) ∧ gR f (some T) 3 5 = some (some (T + 3)) ∧ ∃ f', m_X6_spread F (some o) (nI x) (nI k) (some (T + 3)) f = some f' ∧ OW f' o (hN (mH m)) (sprK (hN (mH m)) (wI (mH m)) x k) ∧ OAt f' o (hN (mH m)) ∧ CIx sk f' n z m T D sT sD sX tq iq ∧ ∀ a, a < 204 → f' a = f a := by
  have ok := C.2.2.2.1.2.1
  have hT := C.td
  have H := C.2.2.2.1.1
  have h2 := ok.1.1
  have h7 := ok.1.2
  obtain ⟨w, w1, w2⟩ := H.2.2.2.1
  obtain ⟨f', e1, e2, e3⟩ := spread_e (F := F) h2 h7 hF (by omega) O (w := T + 3) (g := w) (W := wI (mH m)) w1 w2 (by omega) hx (k := k) (by omega) (by omega)
  have O' := O.re e2 e3
  exact ⟨gR_s C.2.1 rfl, gR_s H.1 rfl, f', e1, e2, O', C.ord (by omega) eo O' (fun a ha => e3 a (by omega) (by omega) (by omega)), fun a ha => e3 a (by omega) (by omega) (by omega)⟩
theorem rspread (hF : 5041 ≤ F) {m : MS} (ok : okH (mH m)) (B : RB st m) {x k : Nat} (hx : x < fct (hN (mH m))) (hk : k < 20) : ∃ st', m_X12_layWays F (some 179) (nI x) (nI k) 0 (ov g st) = some (ov g st') ∧ Cg [39] [24, 25, 38] [35, 36] st st' ∧ RB st' m ∧ agr (fct (hN (mH m))) (sL st' 35) (sprK (hN (mH m)) (wI (mH m)) x k) := by
  have h2 := ok.1.1
  have h7 := ok.1.2
  obtain ⟨st', e1, e2, e3, e4⟩ := layWays_e (F := F) (g := g) (st := st) (h := mH m) B.2.2.1 h2 h7 hF B.1.2.2.2.2.1 (v3 := 0) (W := wI (mH m)) (fun p hp => by rw [if_pos rfl]; exact B.2.2.1.2.2.2.2.2.2.2.1 p hp) hx (k := k) (by omega) (by omega)
  exact ⟨st', e1, e2, B.cg2 (e2.mono (by simp) (by simp) (by decide)) e3, e4⟩
theorem k_ways (hF : 5041 ≤ F) (x y k : Int32) : KA sk (m_X11_ways F (some 100) x y k) (m_X12_ways F (some 179) x y k) := by
  intro f n z st m C R
  obtain ⟨T, D, sT, sD, sX, tq, iq, C⟩ := C.x
  obtain ⟨o, f', n', z', tq', e1, hn, hz, C', eo, O, ho, fr⟩ := orders_e (F := F) hF C
  have K := C.2.1
  have ok := C.2.2.2.1.2.1
  have h2 := ok.1.1
  have h7 := ok.1.2
  have h5 := fct_le (hN (mH m)) (by omega)
  have no : (∀ g, ∃ st', m_X12_ways F (some 179) x y k (ov g st) = some (-1, ov g st') ∧ RI st' m) → m_X11_ways F (some 100) x y k f n z = some (-1, f', n', z') → ∃ v f' n' z' m', m_X11_ways F (some 100) x y k f n z = some (v, f', n', z') ∧ n ≤ n' ∧ z ≤ z' ∧ (∀ a, 179 ≤ a → a < 204 → f' a = f a) ∧ CI sk f' n' z' m' ∧ ∀ g, ∃ st', m_X12_ways F (some 179) x y k (ov g st) = some (v, ov g st') ∧ RI st' m' := fun h1 h2 => ⟨-1, f', n', z', m, h2, hn, hz, fun a q1 q2 => fr a q2 (by omega), C'.ci, h1⟩
  rcases outin (k := fct (hN (mH m))) (by omega) x with hx | ⟨i, hi, rfl⟩
  · refine no (fun g => ?_) ?_
    · obtain ⟨s1, q1, B1⟩ := rbeg (F := F) (g := g) (by omega) R 0
      refine ⟨s1, ?_, B1.1⟩
      unfold m_X12_ways
      rw [wI_0, bd_some, ck_e r_isO, bd_e q1, ck_e r_isO, bd_e (risOrder_e B1.2.2.1 (by omega) h7 (by omega) x), if_pos hx, if_pos rfl]
    · unfold m_X11_ways
      rw [ck_e (isO_e K), bd4_e e1, ck_e (decide_eq_true ⟨hn, hz⟩)]
      refine grow_r ?_
      rw [ck_e O.O]
      refine grow_r ?_
      rw [bd_e (ohas_e O x), if_pos hx, if_pos rfl]
  · rcases outin (k := fct (hN (mH m))) (by omega) y with hy | ⟨j, hj, rfl⟩
    · refine no (fun g => ?_) ?_
      · obtain ⟨s1, q1, B1⟩ := rbeg (F := F) (g := g) (by omega) R 0
        refine ⟨s1, ?_, B1.1⟩
        unfold m_X12_ways
        rw [wI_0, bd_some, ck_e r_isO, bd_e q1, ck_e r_isO, bd_e (risOrder_e B1.2.2.1 (by omega) h7 (by omega) _), if_neg (inin (by omega) hi), if_neg (by decide), ck_e r_isO, bd_e (risOrder_e B1.2.2.1 (by omega) h7 (by omega) y), if_pos hy, if_pos rfl]
      · unfold m_X11_ways
        rw [ck_e (isO_e K), bd4_e e1, ck_e (decide_eq_true ⟨hn, hz⟩)]
        refine grow_r ?_
        rw [ck_e O.O]
        refine grow_r ?_
        rw [bd_e (ohas_e O _), if_neg (inin (by omega) hi), if_neg (by decide), ck_e O.O]
        refine grow_r ?_
        rw [bd_e (ohas_e O y), if_pos hy, if_pos rfl]
    · rcases outin (k := 11) (by omega) k with hk | ⟨k, hk, rfl⟩
      · refine no (fun g => ?_) ?_
        · obtain ⟨s1, q1, B1⟩ := rbeg (F := F) (g := g) (by omega) R 0
          refine ⟨s1, ?_, B1.1⟩
          unfold m_X12_ways
          rw [wI_0, bd_some, ck_e r_isO, bd_e q1, ck_e r_isO, bd_e (risOrder_e B1.2.2.1 (by omega) h7 (by omega) _), if_neg (inin (by omega) hi), if_neg (by decide), ck_e r_isO, bd_e (risOrder_e B1.2.2.1 (by omega) h7 (by omega) _), if_neg (inin (by omega) hj), if_neg (by decide), bd_e (risIn (k := 10) (M := 10) (by omega) rfl k), if_pos hk, if_pos rfl]
        · unfold m_X11_ways
          rw [ck_e (isO_e K), bd4_e e1, ck_e (decide_eq_true ⟨hn, hz⟩)]
          refine grow_r ?_
          rw [ck_e O.O]
          refine grow_r ?_
          rw [bd_e (ohas_e O _), if_neg (inin (by omega) hi), if_neg (by decide), ck_e O.O]
          refine grow_r ?_
          rw [bd_e (ohas_e O _), if_neg (inin (by omega) hj), if_neg (by decide)]
          refine grow_r ?_
          rw [bd_e (isW_e (k := 10) (M := 10) (by omega) rfl k), if_pos hk, if_pos rfl]
      · obtain ⟨g1, g2, f2, e2, w2, O2, C2, fr2⟩ := cspread (F := F) hF C' eo O ho hi (k := k) (by omega)
        refine ⟨sprK (hN (mH m)) (wI (mH m)) i k j, f2, n', z', m, ?_, hn, hz, fun a q1 q2 => (fr2 a q2).trans (fr a q2 (by omega)), C2.ci, fun g => ?_⟩
        · unfold m_X11_ways
          rw [ck_e (isO_e K), bd4_e e1, ck_e (decide_eq_true ⟨hn, hz⟩)]
          refine grow_r ?_
          rw [ck_e O.O]
          refine grow_r ?_
          rw [bd_e (ohas_e O _), if_neg (inin (by omega) hi), if_neg (by decide), ck_e O.O]
          refine grow_r ?_
          rw [bd_e (ohas_e O _), if_neg (inin (by omega) hj), if_neg (by decide)]
          refine grow_r ?_
          rw [bd_e (isW_e (k := 10) (M := 10) (by omega) rfl _), if_neg (inin (by omega) hk), if_neg (by decide), bd_e g1, bd_e g2, ck_e O.O]
          refine grow_r ?_
          rw [bd_e e2, w2.now h7 hj]
        · obtain ⟨s1, q1, B1⟩ := rbeg (F := F) (g := g) (by omega) R 0
          obtain ⟨s2, q2, r2, B2, a2⟩ := rspread (F := F) (g := g) hF ok B1 hi (k := k) (by omega)
          refine ⟨s2, ?_, B2.1⟩
          unfold m_X12_ways
          rw [wI_0, bd_some, ck_e r_isO, bd_e q1, ck_e r_isO, bd_e (risOrder_e B1.2.2.1 (by omega) h7 (by omega) _), if_neg (inin (by omega) hi), if_neg (by decide), ck_e r_isO, bd_e (risOrder_e B1.2.2.1 (by omega) h7 (by omega) _), if_neg (inin (by omega) hj), if_neg (by decide), bd_e (risIn (k := 10) (M := 10) (by omega) rfl _), if_neg (inin (by omega) hk), if_neg (by decide), ck_e r_isO, bd_e q2, rR_35, bd_some, rE_35 (by omega), bd_some, a2 j hj]
theorem k_again (hF : 5041 ≤ F) (k : Int32) : KA sk (m_X11_again F (some 100) k) (m_X12_again F (some 179) k) := by
  intro f n z st m C R
  obtain ⟨T, D, sT, sD, sX, tq, iq, C⟩ := C.x
  have K := C.2.1
  have ok := C.2.2.2.1.2.1
  have h2 := ok.1.1
  have h7 := ok.1.2
  have h5 := fct_le (hN (mH m)) (by omega)
  have h0 := fct_pos (hN (mH m))
  rcases outin (k := 11) (by omega) k with hk | ⟨k, hk, rfl⟩
  · refine ⟨-1, f, n, z, m, ?_, Nat.le_refl _, Nat.le_refl _, fun _ _ _ => rfl, C.ci, fun g => ?_⟩
    · unfold m_X11_again
      refine grow_r ?_
      rw [bd_e (isW_e (k := 10) (M := 10) (by omega) rfl k), if_pos hk, if_pos rfl]
    · obtain ⟨s1, q1, B1⟩ := rbeg (F := F) (g := g) (by omega) R 0
      refine ⟨s1, ?_, B1.1⟩
      unfold m_X12_again
      rw [wI_0, bd_some, ck_e r_isO, bd_e q1, bd_e (risIn (k := 10) (M := 10) (by omega) rfl k), if_pos hk, if_pos rfl]
  · obtain ⟨o, f', n', z', tq', e1, hn, hz, C', eo, O, ho, fr⟩ := orders_e (F := F) hF C
    obtain ⟨f2, e2, w2, e3⟩ := spread_e (F := F) h2 h7 hF (by omega) O (w := 31) (g := fun _ => 1) (W := fun _ => 1) C'.1.lik (fun _ _ => rfl) (by omega) (x := 0) h0 (k := k) (by omega) (by omega)
    have O2 := O.re w2 e3
    refine ⟨(sprK (hN (mH m)) (fun _ => 1) 0 k 0).toInt32, f2, n', z', m, ?_, hn, hz, fun a q1 q2 => (e3 a (by omega) (by omega) (by omega)).trans (fr a q2 (by omega)), (C'.ord (by omega) eo O2 (fun a ha => e3 a (by omega) (by omega) (by omega))).ci, fun g => ?_⟩
    · unfold m_X11_again
      refine grow_s ?_ hn hz
      rw [bd_e (isW_e (k := 10) (M := 10) (by omega) rfl _), if_neg (inin (by omega) hk), if_neg (by decide), ck_e (isO_e K), bd4_e e1, ck_e (decide_eq_true ⟨hn, hz⟩)]
      refine grow_r ?_
      rw [ck_e O.O]
      refine grow_r ?_
      rw [bd_e (show m_X6_spread F (some o) 0 (nI k) (some 31) f' = _ from e2)]
      exact w2.now h7 (x := 0) h0
    · obtain ⟨s1, q1, B1⟩ := rbeg (F := F) (g := g) (by omega) R 0
      obtain ⟨s2, q2, r2, n2, a2⟩ := layWays_e (F := F) (g := g) (st := s1) (h := mH m) B1.2.2.1 h2 h7 hF B1.1.2.2.2.2.1 (v3 := 1) (W := fun _ => 1) (fun p hp => if_neg (by decide)) (x := 0) h0 (k := k) (by omega) (by omega)
      refine ⟨s2, ?_, (B1.cg2 (r2.mono (by simp) (by simp) (by decide)) n2).1⟩
      unfold m_X12_again
      rw [wI_0, bd_some, ck_e r_isO, bd_e q1, bd_e (risIn (k := 10) (M := 10) (by omega) rfl _), if_neg (inin (by omega) hk), if_neg (by decide), ck_e r_isO, bd_e (show m_X12_layWays F (some 179) 0 (nI k) 1 (ov g s1) = _ from q2), rR_35, bd_some]
      rw [show ldJ (ov g s2) (some 197) 0 = some (sL s2 35 0) from rE_35 (j := 0) (by omega), bd_some, a2 0 h0]
/-- how many are above 0 -/
theorem firsts_L {f : Hp} {o N : Nat} {M : Nat → Int64} (h7 : N ≤ 7) (W : OW f o N M) (O : OAt f o N) (n z : Nat) : ∀ (d x w q : Nat), x + d = fct N → d < w → m_X11_firsts_L43 F w (some o) (nI q) (nI x) f n z = some (nI (q + ckR (fun x => decide (0 < M x)) d x), f, n, z) := by
  have h5 := fct_le N (by omega)
  intro d
  induction d with
  | zero =>
    intro x w q hx hw
    obtain ⟨w, rfl⟩ : ∃ j, w = j + 1 := ⟨w - 1, by omega⟩
    show m_X11_firsts_b43 F _ _ _ _ _ _ _ = some (nI (q + 0), f, n, z)
    unfold m_X11_firsts_b43
    rw [bd_e O.total, if_pos (nI_le (by omega) (by omega)), Nat.add_zero]
  | succ d ih =>
    intro x w q hx hw
    obtain ⟨w, rfl⟩ : ∃ j, w = j + 1 := ⟨w - 1, by omega⟩
    have hxl : x < fct N := by omega
    show m_X11_firsts_b43 F _ _ _ _ _ _ _ = some (nI (q + ((if decide (0 < M x) = true then 1 else 0) + ckR _ d (x + 1))), f, n, z)
    unfold m_X11_firsts_b43
    rw [bd_e O.total, if_neg (nI_ge hxl (by omega)), W.now h7 hxl]
    by_cases c : 0 < M x
    · rw [if_neg (fun e => by rw [lg_cmp_le] at e; exact absurd c (Int64.not_lt.mpr e)), nm_e2, nm_e2, nI_1, nI_1, decide_eq_true c, if_pos rfl, ← Nat.add_assoc]
      exact ih (x + 1) w (q + 1) (by omega) (by omega)
    · rw [if_pos (by rw [lg_cmp_le]; exact Int64.not_lt.mp c), nm_e2, nI_1, decide_eq_false c, if_neg (by decide), Nat.zero_add]
      exact ih (x + 1) w q (by omega) (by omega)
theorem rfirsts_L (N : NW (sA st 14) h) (h2 : 1 ≤ hN h) (h7 : hN h ≤ 7) (hF : 8 ≤ F) {M : Nat → Int64} (hM : agr (fct (hN h)) (sL st 35) M) : ∀ (d x w q : Nat), x + d = fct (hN h) → d < w → m_X12_firsts_L41 F w (some 179) (nI q) (nI x) (ov g st) = some (nI (q + ckR (fun x => decide (0 < M x)) d x), ov g st) := by
  have h5 := fct_le (hN h) (by omega)
  intro d
  induction d with
  | zero =>
    intro x w q hx hw
    obtain ⟨w, rfl⟩ : ∃ j, w = j + 1 := ⟨w - 1, by omega⟩
    show m_X12_firsts_b41 F _ _ _ _ _ = some (nI (q + 0), _)
    unfold m_X12_firsts_b41
    rw [ck_e r_isO, bd_e (rorders_e N h2 h7 hF), if_pos (nI_le (by omega) (by omega)), Nat.add_zero]
  | succ d ih =>
    intro x w q hx hw
    obtain ⟨w, rfl⟩ : ∃ j, w = j + 1 := ⟨w - 1, by omega⟩
    have hxl : x < fct (hN h) := by omega
    show m_X12_firsts_b41 F _ _ _ _ _ = some (nI (q + ((if decide (0 < M x) = true then 1 else 0) + ckR _ d (x + 1))), _)
    unfold m_X12_firsts_b41
    rw [ck_e r_isO, bd_e (rorders_e N h2 h7 hF), if_neg (nI_ge hxl (by omega)), rR_35, bd_some, rE_35 (by omega), bd_some, hM x hxl]
    by_cases c : 0 < M x
    · rw [if_neg (fun e => by rw [lg_cmp_le] at e; exact absurd c (Int64.not_lt.mpr e)), nm_e2, nm_e2, nI_1, nI_1, decide_eq_true c, if_pos rfl, ← Nat.add_assoc]
      exact ih (x + 1) w (q + 1) (by omega) (by omega)
    · rw [if_pos (by rw [lg_cmp_le]; exact Int64.not_lt.mp c), nm_e2, nI_1, decide_eq_false c, if_neg (by decide), Nat.zero_add]
      exact ih (x + 1) w q (by omega) (by omega)
theorem k_firsts (hF : 5041 ≤ F) (y k : Int32) : KA sk (m_X11_firsts F (some 100) y k) (m_X12_firsts F (some 179) y k) := by
  intro f n z st m C R
  obtain ⟨T, D, sT, sD, sX, tq, iq, C⟩ := C.x
  obtain ⟨o, f', n', z', tq', e1, hn, hz, C', eo, O, ho, fr⟩ := orders_e (F := F) hF C
  have K := C.2.1
  have ok := C.2.2.2.1.2.1
  have h2 := ok.1.1
  have h7 := ok.1.2
  have h5 := fct_le (hN (mH m)) (by omega)
  have no : (∀ g, ∃ st', m_X12_firsts F (some 179) y k (ov g st) = some (-1, ov g st') ∧ RI st' m) → m_X11_firsts F (some 100) y k f n z = some (-1, f', n', z') → ∃ v f' n' z' m', m_X11_firsts F (some 100) y k f n z = some (v, f', n', z') ∧ n ≤ n' ∧ z ≤ z' ∧ (∀ a, 179 ≤ a → a < 204 → f' a = f a) ∧ CI sk f' n' z' m' ∧ ∀ g, ∃ st', m_X12_firsts F (some 179) y k (ov g st) = some (v, ov g st') ∧ RI st' m' := fun h1 h2 => ⟨-1, f', n', z', m, h2, hn, hz, fun a q1 q2 => fr a q2 (by omega), C'.ci, h1⟩
  rcases outin (k := fct (hN (mH m))) (by omega) y with hy | ⟨j, hj, rfl⟩
  · refine no (fun g => ?_) ?_
    · obtain ⟨s1, q1, B1⟩ := rbeg (F := F) (g := g) (by omega) R 0
      refine ⟨s1, ?_, B1.1⟩
      unfold m_X12_firsts
      rw [wI_0, bd_some, ck_e r_isO, bd_e q1, ck_e r_isO, bd_e (risOrder_e B1.2.2.1 (by omega) h7 (by omega) y), if_pos hy, if_pos rfl]
    · unfold m_X11_firsts
      rw [ck_e (isO_e K), bd4_e e1, ck_e (decide_eq_true ⟨hn, hz⟩)]
      refine grow_r ?_
      rw [ck_e O.O]
      refine grow_r ?_
      rw [bd_e (ohas_e O y), if_pos hy, if_pos rfl]
  · rcases outin (k := 11) (by omega) k with hk | ⟨k, hk, rfl⟩
    · refine no (fun g => ?_) ?_
      · obtain ⟨s1, q1, B1⟩ := rbeg (F := F) (g := g) (by omega) R 0
        refine ⟨s1, ?_, B1.1⟩
        unfold m_X12_firsts
        rw [wI_0, bd_some, ck_e r_isO, bd_e q1, ck_e r_isO, bd_e (risOrder_e B1.2.2.1 (by omega) h7 (by omega) _), if_neg (inin (by omega) hj), if_neg (by decide), bd_e (risIn (k := 10) (M := 10) (by omega) rfl k), if_pos hk, if_pos rfl]
      · unfold m_X11_firsts
        rw [ck_e (isO_e K), bd4_e e1, ck_e (decide_eq_true ⟨hn, hz⟩)]
        refine grow_r ?_
        rw [ck_e O.O]
        refine grow_r ?_
        rw [bd_e (ohas_e O _), if_neg (inin (by omega) hj), if_neg (by decide)]
        refine grow_r ?_
        rw [bd_e (isW_e (k := 10) (M := 10) (by omega) rfl k), if_pos hk, if_pos rfl]
    · obtain ⟨g1, g2, f2, e2, w2, O2, C2, fr2⟩ := cspread (F := F) hF C' eo O ho hj (k := k) (by omega)
      refine ⟨nI (0 + ckR (fun x => decide (0 < sprK (hN (mH m)) (wI (mH m)) j k x)) (fct (hN (mH m))) 0), f2, n', z', m, ?_, hn, hz, fun a q1 q2 => (fr2 a q2).trans (fr a q2 (by omega)), C2.ci, fun g => ?_⟩
      · unfold m_X11_firsts
        rw [ck_e (isO_e K), bd4_e e1, ck_e (decide_eq_true ⟨hn, hz⟩)]
        refine grow_r ?_
        rw [ck_e O.O]
        refine grow_r ?_
        rw [bd_e (ohas_e O _), if_neg (inin (by omega) hj), if_neg (by decide)]
        refine grow_r ?_
        rw [bd_e (isW_e (k := 10) (M := 10) (by omega) rfl _), if_neg (inin (by omega) hk), if_neg (by decide), bd_e g1, bd_e g2, ck_e O.O]
        refine grow_r ?_
        rw [bd_e e2]
        exact firsts_L (F := F) h7 w2 O2 n' z' (fct (hN (mH m))) 0 F 0 (by omega) (by omega)
      · obtain ⟨s1, q1, B1⟩ := rbeg (F := F) (g := g) (by omega) R 0
        obtain ⟨s2, q2, r2, B2, a2⟩ := rspread (F := F) (g := g) hF ok B1 hj (k := k) (by omega)
        refine ⟨s2, ?_, B2.1⟩
        unfold m_X12_firsts
        rw [wI_0, bd_some, ck_e r_isO, bd_e q1, ck_e r_isO, bd_e (risOrder_e B1.2.2.1 (by omega) h7 (by omega) _), if_neg (inin (by omega) hj), if_neg (by decide), bd_e (risIn (k := 10) (M := 10) (by omega) rfl _), if_neg (inin (by omega) hk), if_neg (by decide), ck_e r_isO, bd_e q2]
        exact rfirsts_L (F := F) (g := g) B2.2.2.1 (by omega) h7 (by omega) a2 (fct (hN (mH m))) 0 F 0 (by omega) (by omega)
end C8
