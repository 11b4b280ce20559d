/-! drawn -/
variable {sk : Nat}
def stN (v : Int32) : Int32 := (12345 : Int32) + (1103515245 : Int32) * v
/-- the draw of n -/
def dwN (v : Int32) (n : Nat) : Nat := (v.toBitVec.toNat / 256) % n
/-- the order DRAWN -/
def drM (W : Nat → Nat) (N : Nat) : Nat → List Nat → Int32 → List Nat
  | 0, M, _ => M
  | k + 1, M, v => drM W N k (swp (drw W (dwN (stN v) (sumW W (N - 1))) (N - 1) 0) M) (stN v)
theorem drM_s (W : Nat → Nat) (N k : Nat) (M : List Nat) {v v' : Int32} (h : v' = stN v) : drM W N (k + 1) M v = drM W N k (swp (drw W (dwN v' (sumW W (N - 1))) (N - 1) 0) M) v' := by
  subst h
  rfl
theorem stN_e (v : Int32) : v * (1103515245 : Int32) + (12345 : Int32) = stN v := by
  unfold stN
  rw [Int32.add_comm, Int32.mul_comm]
theorem ius8 (v : Int32) : ius v (8 : Int32) = nI (v.toBitVec.toNat / 256) := by
  have h := nI_ushr (n := v.toBitVec.toNat) (k := 8) v.toBitVec.isLt (by decide)
  rw [nI_bv] at h
  exact h
theorem dw_e (v : Int32) {n : Nat} (h0 : 0 < n) (hn : n < 2 ^ 20) : irm (ius v (8 : Int32)) (nI n) = nI (dwN v n) := by
  have := v.toBitVec.isLt
  rw [ius8, irm_e (by omega) h0 (by omega)]
  rfl
theorem drw_lt {W : Nat → Nat} {t : Nat} : ∀ d p, t < sumW W (p + d) → sumW W p ≤ t → p ≤ drw W t d p ∧ drw W t d p < p + d ∧ sumW W (drw W t d p) ≤ t ∧ t < sumW W (drw W t d p + 1)
  | 0, p, h1, h2 => by rw [Nat.add_zero] at h1; omega
  | d + 1, p, h1, h2 => by
    unfold drw
    by_cases c : t < sumW W (p + 1)
    · rw [if_pos c]; exact ⟨Nat.le_refl _, by omega, h2, c⟩
    · rw [if_neg c]
      have := drw_lt (W := W) (t := t) d (p + 1) (by rw [show p + 1 + d = p + (d + 1) by omega]; exact h1) (by omega)
      exact ⟨by omega, by omega, this.2.2⟩
section C9
variable {F : Nat} {g : Hp} {st : RS} {h : HS}
theorem drawn_L {f : Hp} {T D sX s o : Nat} {tl lf : Int32} {ll : Int64} (K : KAt f T D sX tl lf ll) (H : HAt f T s h) (ok : okH h) (O : OAt f o (hN h)) (hF : 8 ≤ F) (h0 : 0 < sumW (hW h) (hN h - 1)) {k : Nat} (hk : k < 2 ^ 20) (n z : Nat) : ∀ (d i w : Nat) (M : List Nat) (v : Int32), i + d = k → d < w → okP (hN h) M → m_X11_drawn_L49 F w (some 100) (nI k) (some o) (nI (sumW (hW h) (hN h - 1))) (nI (rkT M)) v (nI i) f n z = some (nI (rkT (drM (hW h) (hN h) d M v)), f, n, z) := by
  have h2 := ok.1.1
  have h7 := ok.1.2
  have h5 := fct_le (hN h) (by omega)
  have hs := sumW_le ok.2.2.2.2.2.1 (hN h - 1)
  intro d
  induction d with
  | zero =>
    intro i w M v hi hw hM
    obtain ⟨w, rfl⟩ : ∃ j, w = j + 1 := ⟨w - 1, by omega⟩
    show m_X11_drawn_b49 F _ _ _ _ _ _ _ _ _ _ _ = _
    unfold m_X11_drawn_b49
    rw [if_pos (nI_le (by omega) (by omega))]
    rfl
  | succ d ih =>
    intro i w M v hi hw hM
    obtain ⟨w, rfl⟩ : ∃ j, w = j + 1 := ⟨w - 1, by omega⟩
    obtain ⟨v', hv⟩ : ∃ v', v' = stN v := ⟨_, rfl⟩
    rw [drM_s _ _ _ _ hv]
    have hdw : dwN v' (sumW (hW h) (hN h - 1)) < sumW (hW h) (hN h - 1) := Nat.mod_lt _ h0
    have hp := drw_lt (W := hW h) (t := dwN v' (sumW (hW h) (hN h - 1))) (hN h - 1) 0 (by rw [Nat.zero_add]; exact hdw) (Nat.zero_le _)
    have hex := exchanged_e (F := F) O h2 h7 hM.rk (p := drw (hW h) (dwN v' (sumW (hW h) (hN h - 1))) (hN h - 1) 0) (by omega)
    have hxe : exN (hN h) (rkT M) (drw (hW h) (dwN v' (sumW (hW h) (hN h - 1))) (hN h - 1) 0) = rkT (swp (drw (hW h) (dwN v' (sumW (hW h) (hN h - 1))) (hN h - 1) 0) M) := by
      unfold exN
      rw [unrk_rk hM]
    rw [hxe] at hex
    show m_X11_drawn_b49 F _ _ _ _ _ _ _ _ _ _ _ = _
    unfold m_X11_drawn_b49
    rw [if_neg (nI_ge (by omega) (by omega)), nm_e2, bd_e (gR_s K rfl), ck_e (decide_eq_true (nI_ne0 h0 (by omega))), ck_e (isO_e H.1)]
    refine grow_r ?_
    rw [stN_e, ← hv, dw_e _ h0 (by omega), bd_e (placeDrawn_e H ok hF (by omega)), ck_e O.O]
    refine grow_r ?_
    rw [bd_e hex, nm_e2, nI_1]
    exact ih (i + 1) w _ v' (by omega) (by omega) hM.swp
theorem rall_L (N : NW (sA st 14) h) (ok : okH h) : ∀ (d p w : Nat), p + d = hN h - 1 → d < w → m_X12_allLikely_L4 F w (some 179) (nI (sumW (hW h) p)) (nI p) (ov g st) = some (nI (sumW (hW h) (hN h - 1))) := by
  have h2 := ok.1.1
  have h7 := ok.1.2
  intro d
  induction d with
  | zero =>
    intro p w hp hw
    obtain ⟨w, rfl⟩ : ∃ j, w = j + 1 := ⟨w - 1, by omega⟩
    show m_X12_allLikely_b4 F _ _ _ _ _ = _
    unfold m_X12_allLikely_b4
    rw [ck_e r_isO, bd_e (rlines_e N), nI_m1 (by omega), if_pos (nI_le (by omega) (by omega)), show p = hN h - 1 by omega]
  | succ d ih =>
    intro p w hp hw
    obtain ⟨w, rfl⟩ : ∃ j, w = j + 1 := ⟨w - 1, by omega⟩
    have e2 : (102 : Int32) + nI p = nI (102 + p) := by rw [← nI_add]; rfl
    show m_X12_allLikely_b4 F _ _ _ _ _ = _
    unfold m_X12_allLikely_b4
    rw [ck_e r_isO, bd_e (rlines_e N), nI_m1 (by omega), if_neg (nI_ge (by omega) (by omega)), q14 (by omega) e2, N.2.2.2.2.2.2.2.1 p (by omega), nm_e2, nm_e2, nI_add, nI_1]
    exact ih (p + 1) w (by omega) (by omega)
theorem rall_e (N : NW (sA st 14) h) (ok : okH h) (hF : 8 ≤ F) : m_X12_allLikely F (some 179) (ov g st) = some (nI (sumW (hW h) (hN h - 1))) :=
  rall_L (F := F) (g := g) N ok (hN h - 1) 0 F (by omega) (by have := ok.1.2; omega)
/-- the place is found, and the lines change -/
theorem rdrawn_80 (N : NW (sA st 14) h) (ok : okH h) {M : List Nat} (hM : okP (hN h) M) (hr : RW (sA st 24) M) {t : Nat} (ht : t < sumW (hW h) (hN h - 1)) {rc : Option Nat → Int32 → Int32 → Int32 → Hp → Option (Int32 × Hp)} {v2 v4 v5 : Int32} : ∀ (d p w : Nat), p + d = hN h - 1 → d < w → sumW (hW h) p ≤ t → ∃ st', m_X12_drawn_L80 F rc w (some 179) v2 v4 v5 (nI (t - sumW (hW h) p)) (nI p) (ov g st) = rc (some 179) v2 v4 (v5 + 1) (ov g st') ∧ Rs [24] st st' ∧ RW (sA st' 24) (swp (drw (hW h) t d p) M) := by
  have h2 := ok.1.1
  have h7 := ok.1.2
  have hs := sumW_le ok.2.2.2.2.2.1 (hN h - 1)
  intro d
  induction d with
  | zero =>
    intro p w hp hw hle
    rw [show hN h - 1 = p by omega] at ht
    omega
  | succ d ih =>
    intro p w hp hw hle
    obtain ⟨w, rfl⟩ : ∃ j, w = j + 1 := ⟨w - 1, by omega⟩
    have e2 : (102 : Int32) + nI p = nI (102 + p) := by rw [← nI_add]; rfl
    have h9 := ok.2.2.2.2.2.1 p
    have hsp : sumW (hW h) (p + 1) = sumW (hW h) p + hW h p := rfl
    have hl : M.length = hN h := hM.2.2
    have hpl : p + 1 < M.length := by omega
    show ∃ st', m_X12_drawn_b80 F _ _ _ _ _ _ _ _ _ = _ ∧ _
    unfold m_X12_drawn_b80
    rw [q14 (by omega) e2, N.2.2.2.2.2.2.2.1 p (by omega)]
    by_cases c : t < sumW (hW h) (p + 1)
    · refine ⟨uA (uA st 24 p (nI M[p + 1])) 24 (p + 1) (nI M[p]), ?_, (Rs.uA (by simp)).trans (Rs.uA (by simp)), ?_⟩
      · rw [if_pos (nI_lt (by omega) (by omega))]
        unfold m_X12_drawn_B116
        rw [rR_24, bd_some, rE_24 (by omega), bd_some, bd_some, bd_some, nI_1, rE_24 (by omega), bd_some, hr p (by omega), hr (p + 1) hpl, wE_24 (by omega), bd_some, rR_24, bd_some, wE_24 (by omega), bd_some, nm_e2]
      · unfold drw
        rw [if_pos c]
        intro i hi
        have hi' : i < M.length := by rw [hl]; rw [hM.swp.2.2] at hi; exact hi
        have es := swp_at p _ hpl i
        rw [getD_e hi] at es
        rw [es, sA_uA, if_pos rfl, sA_uA, if_pos rfl]
        by_cases c1 : i = p
        · rw [if_pos c1, c1, upd_n (by omega), upd_s, getD_e hpl]
        · rw [if_neg c1]
          by_cases c2 : i = p + 1
          · rw [if_pos c2, c2, upd_s, getD_e (by omega)]
          · rw [if_neg c2, upd_n c2, upd_n c1, getD_e hi']
            exact hr i hi'
    · obtain ⟨st', i1, i2, i3⟩ := ih (p + 1) w (by omega) (by omega) (by omega)
      refine ⟨st', ?_, i2, ?_⟩
      · rw [if_neg (nI_nlt (by omega) (by omega)), q14 (by omega) e2, N.2.2.2.2.2.2.2.1 p (by omega), nI_sub (by omega), nm_e2, nm_e2, nI_1, show t - sumW (hW h) p - hW h p = t - sumW (hW h) (p + 1) by omega]
        exact i1
      · unfold drw
        rw [if_neg c]
        exact i3
theorem rdrawn_47 (N : NW (sA st 14) h) (ok : okH h) (hF : 8 ≤ F) (h0 : 0 < sumW (hW h) (hN h - 1)) {k : Nat} (hk : k < 2 ^ 20) : ∀ (d i w : Nat) (M : List Nat) (v : Int32) (st' : RS), i + d = k → d < w → okP (hN h) M → RW (sA st' 24) M → Rs [24] st st' → ∃ st'', m_X12_drawn_L47 F w (some 179) (nI k) v (nI i) (ov g st') = some (nI (rkT (drM (hW h) (hN h) d M v)), ov g st'') ∧ Rs [24] st st'' := by
  have h2 := ok.1.1
  have h7 := ok.1.2
  have hs := sumW_le ok.2.2.2.2.2.1 (hN h - 1)
  intro d
  induction d with
  | zero =>
    intro i w M v st' hi hw hM hr C
    obtain ⟨w, rfl⟩ : ∃ j, w = j + 1 := ⟨w - 1, by omega⟩
    refine ⟨st', ?_, C⟩
    show m_X12_drawn_b47 F _ _ _ _ _ _ = _
    unfold m_X12_drawn_b47
    rw [if_pos (nI_le (by omega) (by omega)), ck_e r_isO, bd_e (rnumberOf_e hF hr (hM.L h7) (by rw [C.A (by decide)]; exact N) hM.2.2 h7)]
    rfl
  | succ d ih =>
    intro i w M v st' hi hw hM hr C
    obtain ⟨w, rfl⟩ : ∃ j, w = j + 1 := ⟨w - 1, by omega⟩
    have N' : NW (sA st' 14) h := by rw [C.A (by decide)]; exact N
    obtain ⟨v', hv⟩ : ∃ v', v' = stN v := ⟨_, rfl⟩
    rw [drM_s _ _ _ _ hv]
    have hdw : dwN v' (sumW (hW h) (hN h - 1)) < sumW (hW h) (hN h - 1) := Nat.mod_lt _ h0
    obtain ⟨s2, a1, a2, a3⟩ := rdrawn_80 (F := F) (g := g) N' ok hM hr hdw (rc := m_X12_drawn_L47 F w) (v2 := nI k) (v4 := v') (v5 := nI i) (hN h - 1) 0 F (by omega) (by omega) (Nat.zero_le _)
    obtain ⟨st'', i1, i2⟩ := ih (i + 1) w _ v' s2 (by omega) (by omega) hM.swp a3 (C.trans a2)
    refine ⟨st'', ?_, i2⟩
    show m_X12_drawn_b47 F _ _ _ _ _ _ = _
    unfold m_X12_drawn_b47
    rw [if_neg (nI_ge (by omega) (by omega)), nm_e2, ck_e r_isO, bd_e (rall_e N' ok hF), ck_e (decide_eq_true (nI_ne0 h0 (by omega))), nm_e2, stN_e, ← hv, dw_e _ h0 (by omega)]
    refine Eq.trans a1 ?_
    rw [nI_1]
    exact i1
theorem k_drawn (hF : 5041 ≤ F) (x k seed : Int32) : KA sk (m_X11_drawn F (some 100) x k seed) (m_X12_drawn F (some 179) x k seed) := by
  intro f n z st m C R
  obtain ⟨T, D, sT, sD, sX, tq, iq, C⟩ := C.x
  obtain ⟨o, f', n', z', tq', e1, hn, hz, C', eo, O, ho, fr⟩ := orders_e (F := F) hF C
  have K := C.2.1
  have ok := C.2.2.2.1.2.1
  have K' := C'.2.1
  have H' := C'.2.2.2.1.1
  have h2 := ok.1.1
  have h7 := ok.1.2
  have h5 := fct_le (hN (mH m)) (by omega)
  have hs := sumW_le ok.2.2.2.2.2.1 (hN (mH m) - 1)
  have ea : m_X4_allWeights F (some T) f' = some (nI (sumW (hW (mH m)) (hN (mH m) - 1))) := allWeights_e H' ok (by omega)
  have no : (∀ g, ∃ st', m_X12_drawn F (some 179) x k seed (ov g st) = some (-1, ov g st') ∧ RI st' m) → m_X11_drawn F (some 100) x k seed f n z = some (-1, f', n', z') → ∃ v f' n' z' m', m_X11_drawn F (some 100) x k seed f n z = some (v, f', n', z') ∧ n ≤ n' ∧ z ≤ z' ∧ (∀ a, 179 ≤ a → a < 204 → f' a = f a) ∧ CI sk f' n' z' m' ∧ ∀ g, ∃ st', m_X12_drawn F (some 179) x k seed (ov g st) = some (v, ov g st') ∧ RI st' m' := fun h1 h2 => ⟨-1, f', n', z', m, h2, hn, hz, fun a q1 q2 => fr a q2 (by omega), C'.ci, h1⟩
  rcases outin (k := fct (hN (mH m))) (by omega) x with hx | ⟨i, hi, rfl⟩
  · refine no (fun g => ?_) ?_
    · obtain ⟨s1, q1, B1⟩ := rbeg (F := F) (g := g) (by omega) R 0
      refine ⟨s1, ?_, B1.1⟩
      unfold m_X12_drawn
      rw [wI_0, bd_some, ck_e r_isO, bd_e q1, ck_e r_isO, bd_e (risOrder_e B1.2.2.1 (by omega) h7 (by omega) x), if_pos hx, if_pos rfl]
    · unfold m_X11_drawn
      rw [ck_e (isO_e K), bd4_e e1, ck_e (decide_eq_true ⟨hn, hz⟩)]
      refine grow_r ?_
      rw [bd_e (gR_s K' rfl), ck_e (isO_e H'.1)]
      refine grow_r ?_
      rw [bd_e ea, ck_e O.O]
      refine grow_r ?_
      rw [bd_e (ohas_e O x), if_pos hx, if_pos rfl]
  · rcases outin (k := 101) (by omega) k with hk | ⟨k, hk, rfl⟩
    · refine no (fun g => ?_) ?_
      · obtain ⟨s1, q1, B1⟩ := rbeg (F := F) (g := g) (by omega) R 0
        refine ⟨s1, ?_, B1.1⟩
        unfold m_X12_drawn
        rw [wI_0, bd_some, ck_e r_isO, bd_e q1, ck_e r_isO, bd_e (risOrder_e B1.2.2.1 (by omega) h7 (by omega) _), if_neg (inin (by omega) hi), if_neg (by decide), bd_e (risIn (k := 100) (M := 100) (by omega) rfl k), if_pos hk, if_pos rfl]
      · unfold m_X11_drawn
        rw [ck_e (isO_e K), bd4_e e1, ck_e (decide_eq_true ⟨hn, hz⟩)]
        refine grow_r ?_
        rw [bd_e (gR_s K' rfl), ck_e (isO_e H'.1)]
        refine grow_r ?_
        rw [bd_e ea, ck_e O.O]
        refine grow_r ?_
        rw [bd_e (ohas_e O _), if_neg (inin (by omega) hi), if_neg (by decide)]
        refine grow_r ?_
        rw [bd_e (isW_e (k := 100) (M := 100) (by omega) rfl k), if_pos hk, if_pos rfl]
    · by_cases h0 : sumW (hW (mH m)) (hN (mH m) - 1) = 0
      · refine no (fun g => ?_) ?_
        · obtain ⟨s1, q1, B1⟩ := rbeg (F := F) (g := g) (by omega) R 0
          refine ⟨s1, ?_, B1.1⟩
          unfold m_X12_drawn
          rw [wI_0, bd_some, ck_e r_isO, bd_e q1, ck_e r_isO, bd_e (risOrder_e B1.2.2.1 (by omega) h7 (by omega) _), if_neg (inin (by omega) hi), if_neg (by decide), bd_e (risIn (k := 100) (M := 100) (by omega) rfl _), if_neg (inin (by omega) hk), if_neg (by decide), ck_e r_isO, bd_e (rall_e B1.2.2.1 ok (by omega)), if_pos (by rw [h0]; rfl)]
        · unfold m_X11_drawn
          rw [ck_e (isO_e K), bd4_e e1, ck_e (decide_eq_true ⟨hn, hz⟩)]
          refine grow_r ?_
          rw [bd_e (gR_s K' rfl), ck_e (isO_e H'.1)]
          refine grow_r ?_
          rw [bd_e ea, ck_e O.O]
          refine grow_r ?_
          rw [bd_e (ohas_e O _), if_neg (inin (by omega) hi), if_neg (by decide)]
          refine grow_r ?_
          rw [bd_e (isW_e (k := 100) (M := 100) (by omega) rfl _), if_neg (inin (by omega) hk), if_neg (by decide), if_neg (by rw [h0]; decide)]
      · have hp : 0 < sumW (hW (mH m)) (hN (mH m) - 1) := by omega
        have hP := unrk_ok hi
        refine ⟨nI (rkT (drM (hW (mH m)) (hN (mH m)) k (unrk (hN (mH m)) i) seed)), f', n', z', m, ?_, hn, hz, fun a q1 q2 => fr a q2 (by omega), C'.ci, fun g => ?_⟩
        · unfold m_X11_drawn
          rw [ck_e (isO_e K), bd4_e e1, ck_e (decide_eq_true ⟨hn, hz⟩)]
          refine grow_r ?_
          rw [bd_e (gR_s K' rfl), ck_e (isO_e H'.1)]
          refine grow_r ?_
          rw [bd_e ea, ck_e O.O]
          refine grow_r ?_
          rw [bd_e (ohas_e O _), if_neg (inin (by omega) hi), if_neg (by decide)]
          refine grow_r ?_
          rw [bd_e (isW_e (k := 100) (M := 100) (by omega) rfl _), if_neg (inin (by omega) hk), if_neg (by decide), if_pos (show 0 < nI (sumW (hW (mH m)) (hN (mH m) - 1)) from nI_lt (a := 0) hp (by omega))]
          have := drawn_L (F := F) K' H' ok O (by omega) hp (k := k) (by omega) n' z' k 0 F (unrk (hN (mH m)) i) seed (by omega) (by omega) hP
          rw [rk_unrk hi] at this
          exact this
        · obtain ⟨s1, q1, B1⟩ := rbeg (F := F) (g := g) (by omega) R 0
          obtain ⟨s2, q2, r2, y2⟩ := rlay_e (F := F) (g := g) B1.2.2.1 (by omega) h7 (by omega) hi
          obtain ⟨s3, i1, i2⟩ := rdrawn_47 (F := F) (g := g) (st := s2) (h := mH m) (by rw [r2.A (by decide)]; exact B1.2.2.1) ok (by omega) hp (k := k) (by omega) k 0 F (unrk (hN (mH m)) i) seed s2 (by omega) (by omega) hP (fun j hj => (y2 j hj).1) (Rs.refl _ _)
          refine ⟨s3, ?_, (B1.cg (((r2.mono (K' := [24, 25]) (by simp)).trans (i2.mono (by simp))).cg.mono (by simp) (by decide) (by simp))).1⟩
          unfold m_X12_drawn
          rw [wI_0, bd_some, ck_e r_isO, bd_e q1, ck_e r_isO, bd_e (risOrder_e B1.2.2.1 (by omega) h7 (by omega) _), if_neg (inin (by omega) hi), if_neg (by decide), bd_e (risIn (k := 100) (M := 100) (by omega) rfl _), if_neg (inin (by omega) hk), if_neg (by decide), ck_e r_isO, bd_e (rall_e B1.2.2.1 ok (by omega)), if_neg (nI_ne0 hp (by omega)), ck_e r_isO, bd_e q2]
          exact i1
end C9
