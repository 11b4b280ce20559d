/-! the calls that throw: 'along' -/
variable {sk : Nat}
def m_X11_along (F : Nat) (u0 : Option Nat) (u1 : Int32) (u2 : Int32) (u3 : Int32) (f : Hp) (n z : Nat) : Option ((Option Int64) × Hp × Nat × Nat) :=
chk (isO f u0 9) <|
bd4 (m_X11_orders F u0 f n z) fun x4 f3 n5 z6 =>
chk (decide (n ≤ n5 ∧ z ≤ z6)) <|
chk (isO f3 x4 5) <|
(m_X6_has F x4 u1 f3).bind fun x7 =>
if x7 = 0 then
(some (none, f3, n5, z6))
else
((m_X11_isWithin F u2 (10 : Int32) f3).bind fun x8 =>
if x8 = 0 then
(some (none, f3, n5, z6))
else
(if u3 < 0 then
(some (none, f3, n5, z6))
else
(if (1 : Int32) < u3 then
(some (none, f3, n5, z6))
else
((gR f3 u0 9 2).bind fun x9 =>
(gR f3 x9 3 5).bind fun x10 =>
chk (isO f3 x4 5) <|
(m_X6_spread F x4 u1 u2 x10 f3).bind fun f11 =>
chk (isO f11 x4 5) <|
(m_X6_allWays F x4 f11).bind fun x12 =>
if (lg_cmp x12 (0 : Int64)) ≤ 0 then
(some (none, f11, n5, z6))
else
(chk (isO f11 x4 5) <|
(m_X6_allWaysFar F x4 u1 f11).bind fun x13 =>
(m_X11_commonDivisor F x13 x12 f11).bind fun x14 =>
if (lg_cmp x14 (0 : Int64)) ≤ 0 then
(some (none, f11, n5, z6))
else
(if u3 = 0 then
(chk (decide (¬ x14 = 0)) <|
some (some (x13 / x14), f11, n5, z6))
else
(chk (decide (¬ x14 = 0)) <|
some (some (x12 / x14), f11, n5, z6))))))))
section KALONG
variable {F : Nat} {g : Hp} {st : RS} {h : HS}
theorem ralong_63 (hF : 5041 ≤ F) (N0 : NW (sA st 14) h) (ok : okH h) {y : Nat} (hy : y < fct (hN h)) {M : Nat → Int64} (P : PL (sA st 26) (unrk (hN h) y)) (aM : agr (fct (hN h)) (sL st 35) M) {v3 : Int32} : ∀ (d x z : Nat) (st' : RS), x + d = fct (hN h) → d < z → Cg [] [24, 25, 27] [] st st' → ∃ s1, m_X12_along_L63 F z (some 179) v3 (smJ (farJ (hN h) y M) x) (smJ M x) (nI x) (ov g st') = m_X12_along_B133 F (some 179) v3 (smJ (farJ (hN h) y M) (fct (hN h))) (smJ M (fct (hN h))) (ov g s1) ∧ Cg [] [24, 25, 27] [] st s1 := by
  have h2 := ok.1.1
  have h7 := ok.1.2
  have h5 := fct_le (hN h) (by omega)
  intro d
  induction d with
  | zero =>
    intro x z st' hx hz c
    obtain ⟨z, rfl⟩ : ∃ j, z = j + 1 := ⟨z - 1, by omega⟩
    have N : NW (sA st' 14) h := by rw [c.A (by decide)]; exact N0
    refine ⟨st', ?_, c⟩
    show m_X12_along_b63 F _ _ _ _ _ _ _ = _
    unfold m_X12_along_b63
    rw [ck_e r_isO, bd_e (rorders_e N (by omega) h7 (by omega)), if_pos (nI_le (by omega) (by omega)), show x = fct (hN h) by omega]
  | succ d ih =>
    intro x z st' hx hz c
    obtain ⟨z, rfl⟩ : ∃ j, z = j + 1 := ⟨z - 1, by omega⟩
    have xl : x < fct (hN h) := by omega
    have N : NW (sA st' 14) h := by rw [c.A (by decide)]; exact N0
    have e35 : sL st' 35 x = M x := by rw [c.L (by decide)]; exact aM x xl
    show ∃ s1, m_X12_along_b63 F _ _ _ _ _ _ _ = _ ∧ _
    unfold m_X12_along_b63
    rw [ck_e r_isO, bd_e (rorders_e N (by omega) h7 (by omega)), if_neg (nI_ge xl (by omega)), rR_35, bd_some, rE_35 (by omega), bd_some, e35]
    by_cases e0 : M x = 0
    · rw [if_pos ((lg_cmp_eq _ _).mpr e0), nm_e2, nI_1]
      have f1 : smJ (farJ (hN h) y M) (x + 1) = smJ (farJ (hN h) y M) x := by
        show smJ (farJ (hN h) y M) x + M x * _ = _
        rw [e0, Int64.zero_mul, Int64.add_zero]
      have f2 : smJ M (x + 1) = smJ M x := by
        show smJ M x + M x = _
        rw [e0, Int64.add_zero]
      rw [← f1, ← f2]
      exact ih (x + 1) z st' (by omega) (by omega) c
    · obtain ⟨s2, q1, q2, q3, -⟩ := rlay27 (F := F) (g := g) (st := st') (by omega) N (by omega) h7 xl
      have c2 : Cg [] [24, 25, 27] [] st s2 := c.trans q2.cg
      have N2 : NW (sA s2 14) h := by rw [c2.A (by decide)]; exact N0
      have P2 : PL (sA s2 26) (unrk (hN h) y) := by rw [c2.A (by decide)]; exact P
      have e35' : sL s2 35 x = M x := by rw [c2.L (by decide)]; exact aM x xl
      have o1 := unrk_ok hy
      have o2 := unrk_ok xl
      have ss := rsteps_e (F := F) (g := g) N2 h7 (by omega) (A := unrk (hN h) y) (B := unrk (hN h) x) (okP.L o1 h7) (okP.L o2 h7) o1.2.1 P2 q3
      rw [if_neg (fun e => e0 ((lg_cmp_eq _ _).mp e)), rR_27, bd_some, ck_e r_isO, bd_e q1, rR_35, bd_some, rE_35 (by omega), bd_some, e35', ck_e r_isO, bd_e ss]
      simp only [nm_e2, rR_35, bd_some, rE_35 (show x < 5040 by omega), e35', nI_1]
      rw [stp_comm]
      exact ih (x + 1) z s2 (by omega) (by omega) c2
theorem k_along (hF : 5041 ≤ F) (x k w : Int32) {f : Hp} {n z : Nat} {st : RS} {m : MS} (C : CI sk f n z m) (R : RI st m) : ∃ o f' n' z', m_X11_along F (some 100) x k w f n z = some (o, f', n', z') ∧ n ≤ n' ∧ z ≤ z' ∧ (∀ a, 179 ≤ a → a < 204 → f' a = f a) ∧ CI sk f' n' z' m ∧ ∀ g, ∃ v st', m_X12_along F (some 179) x k w (ov g st) = some (v, ov g st') ∧ RI st' m ∧ sI st' 0 = thI o ∧ ∀ y, o = some y → v = y := by
  obtain ⟨T, D, sT, sD, sX, tq, iq, C⟩ := C.x
  obtain ⟨o, f', n', z', tq', e1, hn, hz, C', eo, O, ho, fr⟩ := orders_e (F := F) hF C
  have K := C.2.1
  have ok := C.2.2.2.1.2.1
  have h2 := ok.1.1
  have h7 := ok.1.2
  have h5 := fct_le (hN (mH m)) (by omega)
  have thr : ∀ s1, RB s1 m → RI (uI s1 0 1) m ∧ sI (uI s1 0 1) 0 = thI (none : Option Int64) := fun s1 B1 => ⟨B1.1.cg (Cg.uI (by decide)), by rw [sI_uI, if_pos rfl]; rfl⟩
  have no : (∀ g, ∃ s1, RB s1 m ∧ m_X12_along F (some 179) x k w (ov g st) = some (0, ov g (uI s1 0 1))) → m_X11_along F (some 100) x k w f n z = some (none, f', n', z') → ∃ o f' n' z', m_X11_along F (some 100) x k w f n z = some (o, f', n', z') ∧ n ≤ n' ∧ z ≤ z' ∧ (∀ a, 179 ≤ a → a < 204 → f' a = f a) ∧ CI sk f' n' z' m ∧ ∀ g, ∃ v st', m_X12_along F (some 179) x k w (ov g st) = some (v, ov g st') ∧ RI st' m ∧ sI st' 0 = thI o ∧ ∀ y, o = some y → v = y := fun q1 q2 => ⟨none, f', n', z', q2, hn, hz, fun a u1 u2 => fr a u2 (by omega), C'.ci, fun g => by
    obtain ⟨s1, B1, e⟩ := q1 g
    exact ⟨0, _, e, (thr s1 B1).1, (thr s1 B1).2, fun y hy => by cases hy⟩⟩
  rcases outin (k := fct (hN (mH m))) (by omega) x with hx | ⟨i, hi, rfl⟩
  · refine no (fun g => ?_) ?_
    · obtain ⟨s1, q1, B1⟩ := rbeg0 (F := F) (g := g) (by omega) R
      refine ⟨s1, B1, ?_⟩
      unfold m_X12_along
      rw [ck_e r_isO, bd_e q1, ck_e r_isO, bd_e (risOrder_e B1.2.2.1 (by omega) h7 (by omega) x), if_pos hx, if_pos rfl, wI_0, bd_some]
    · unfold m_X11_along
      rw [ck_e (isO_e K), bd4_e e1, ck_e (decide_eq_true ⟨hn, hz⟩), ck_e O.O, bd_e (ohas_e O x), if_pos hx, if_pos rfl]
  · rcases outin (k := 11) (by omega) k with hk | ⟨j, hj, rfl⟩
    · refine no (fun g => ?_) ?_
      · obtain ⟨s1, q1, B1⟩ := rbeg0 (F := F) (g := g) (by omega) R
        refine ⟨s1, B1, ?_⟩
        unfold m_X12_along
        rw [ck_e r_isO, bd_e q1, ck_e r_isO, bd_e (risOrder_e B1.2.2.1 (by omega) h7 (by omega) _), if_neg (inin (by omega) hi), if_neg (by decide), bd_e (risIn (k := 10) (M := 10) (by omega) rfl k), if_pos hk, if_pos rfl, wI_0, bd_some]
      · unfold m_X11_along
        rw [ck_e (isO_e K), bd4_e e1, ck_e (decide_eq_true ⟨hn, hz⟩), ck_e O.O, bd_e (ohas_e O _), if_neg (inin (by omega) hi), if_neg (by decide), bd_e (isW_e (k := 10) (M := 10) (by omega) rfl k), if_pos hk, if_pos rfl]
    · rcases outin (k := 2) (by omega) w with hw | ⟨l, hl, rfl⟩
      · refine no (fun g => ?_) ?_
        · obtain ⟨s1, q1, B1⟩ := rbeg0 (F := F) (g := g) (by omega) R
          refine ⟨s1, B1, ?_⟩
          unfold m_X12_along
          rw [ck_e r_isO, bd_e q1, ck_e r_isO, bd_e (risOrder_e B1.2.2.1 (by omega) h7 (by omega) _), if_neg (inin (by omega) hi), if_neg (by decide), bd_e (risIn (k := 10) (M := 10) (by omega) rfl _), if_neg (inin (by omega) hj), if_neg (by decide), bd_e (risIn (k := 1) (M := 1) (by omega) rfl w), if_pos hw, if_pos rfl, wI_0, bd_some]
        · unfold m_X11_along
          rw [ck_e (isO_e K), bd4_e e1, ck_e (decide_eq_true ⟨hn, hz⟩), ck_e O.O, bd_e (ohas_e O _), if_neg (inin (by omega) hi), if_neg (by decide), bd_e (isW_e (k := 10) (M := 10) (by omega) rfl _), if_neg (inin (by omega) hj), if_neg (by decide)]
          by_cases q : w < 0
          · rw [if_pos q]
          · rw [if_neg q]
            have q2 := hw.resolve_left q
            rw [if_pos (show (1 : Int32) < w from Int32.lt_of_lt_of_le (show (1 : Int32) < nI 2 by decide) q2)]
      · obtain ⟨g1, g2, f2, e2, w2, O2, C2, fr2⟩ := cspread (F := F) hF C' eo O ho hi (k := j) (by omega)
        obtain ⟨b, a, eb, ea, b62, a63⟩ := below_n (N := hN (mH m)) (W := hW (mH m)) (Wi := wI (mH m)) (fun _ _ => rfl) ok.2.2.2.2.2.1 h7 hi (k := j) (by omega)
        have aw := allWays_e (F := F) w2 O2 h7 hF
        have af := allWaysFar_e (F := F) w2 O2 h7 hF hi
        rw [eb] at aw
        rw [ea] at af
        have cl : ∀ u, (if (lg_cmp (lN b) (0 : Int64)) ≤ 0 then some (none, f2, n', z') else (chk (isO f2 (some o) 5) <| (m_X6_allWaysFar F (some o) (nI i) f2).bind fun x13 => (m_X11_commonDivisor F x13 (lN b) f2).bind fun x14 => if (lg_cmp x14 (0 : Int64)) ≤ 0 then (some (none, f2, n', z')) else (if nI l = 0 then (chk (decide (¬ x14 = 0)) <| some (some (x13 / x14), f2, n', z')) else (chk (decide (¬ x14 = 0)) <| some (some (lN b / x14), f2, n', z'))))) = u → m_X11_along F (some 100) (nI i) (nI j) (nI l) f n z = u := fun u hu => by
          unfold m_X11_along
          rw [ck_e (isO_e K), bd4_e e1, ck_e (decide_eq_true ⟨hn, hz⟩), ck_e O.O, bd_e (ohas_e O _), if_neg (inin (by omega) hi), if_neg (by decide), bd_e (isW_e (k := 10) (M := 10) (by omega) rfl _), if_neg (inin (by omega) hj), if_neg (by decide), if_neg (nI_pos (by omega)), if_neg (show ¬ (1 : Int32) < nI l from nI_nlt (a := 1) (by omega) (by omega)), bd_e g1, bd_e g2, ck_e O.O, bd_e e2, ck_e O2.O, bd_e aw]
          exact hu
        have rf : ∀ g, ∃ s5, RB s5 m ∧ m_X12_along F (some 179) (nI i) (nI j) (nI l) (ov g st) = m_X12_along_B133 F (some 179) (nI l) (lN a) (lN b) (ov g s5) := fun g => by
          obtain ⟨s1, q1, B1⟩ := rbeg0 (F := F) (g := g) (by omega) R
          obtain ⟨s2, q2, r2, B2, a2⟩ := rspread (F := F) (g := g) hF ok B1 hi (k := j) (by omega)
          obtain ⟨s3, q3, r3, P3, -⟩ := rlay26 (F := F) (g := g) (st := s2) (by omega) B2.2.2.1 (by omega) h7 hi
          have B3 : RB s3 m := B2.cg (r3.cg.mono (by decide) (by decide) (by decide))
          obtain ⟨s4, q4, r4⟩ := ralong_63 (F := F) (g := g) (st := s3) (h := mH m) hF B3.2.2.1 ok hi P3 (M := sprK (hN (mH m)) (wI (mH m)) i j) (fun q hq => by rw [r3.cg.L (by decide)]; exact a2 q hq) (v3 := nI l) (fct (hN (mH m))) 0 F s3 (by omega) (by omega) (Cg.refl _ _ _ _)
          rw [eb, ea] at q4
          refine ⟨s4, B3.cg (r4.mono (by decide) (by decide) (by decide)), ?_⟩
          unfold m_X12_along
          rw [ck_e r_isO, bd_e q1, ck_e r_isO, bd_e (risOrder_e B1.2.2.1 (by omega) h7 (by omega) _), if_neg (inin (by omega) hi), if_neg (by decide), bd_e (risIn (k := 10) (M := 10) (by omega) rfl _), if_neg (inin (by omega) hj), if_neg (by decide), bd_e (risIn (k := 1) (M := 1) (by omega) rfl _), if_neg (inin (by omega) hl), if_neg (by decide), ck_e r_isO, bd_e q2, rR_26, bd_some, ck_e r_isO, bd_e q3]
          exact q4
        have fr3 : ∀ a, 179 ≤ a → a < 204 → f2 a = f a := fun a u1 u2 => (fr2 a u2).trans (fr a u2 (by omega))
        rcases Nat.eq_zero_or_pos b with b0 | b0
        · refine ⟨none, f2, n', z', cl _ (if_pos ((lN_le0 (by omega)).mpr b0)), hn, hz, fr3, C2.ci, fun g => ?_⟩
          obtain ⟨s5, B5, e5⟩ := rf g
          refine ⟨0, _, ?_, (thr s5 B5).1, (thr s5 B5).2, fun y hy => by cases hy⟩
          rw [e5]
          unfold m_X12_along_B133
          rw [if_pos ((lg_cmp_eq _ _).mpr (by rw [b0]; rfl)), wI_0, bd_some]
        · have gp : 0 < Nat.gcd a b := Nat.gcd_pos_of_pos_right a b0
          have gl : Nat.gcd a b ≤ b := Nat.gcd_le_right a b0
          have cg := cgcd_L (F := F) (f := f2) 62 0 F a b b62 a63 (by decide) (by decide) (by omega)
          refine ⟨some (if nI l = 0 then lN a / lN (Nat.gcd a b) else lN b / lN (Nat.gcd a b)), f2, n', z', cl _ ?_, hn, hz, fr3, C2.ci, fun g => ?_⟩
          · rw [if_neg (fun e => by have := (lN_le0 (by omega)).mp e; omega), ck_e O2.O, bd_e af, bd_e (show m_X11_commonDivisor F (lN a) (lN b) f2 = _ from cg), if_neg (fun e => by have := (lN_le0 (by omega)).mp e; omega), ck_e (decide_eq_true (lN_ne0 (by omega) gp)), ck_e (decide_eq_true (lN_ne0 (by omega) gp))]
            by_cases l0 : nI l = 0
            · rw [if_pos l0, if_pos l0]
            · rw [if_neg l0, if_neg l0]
          · obtain ⟨s5, B5, e5⟩ := rf g
            refine ⟨_, _, e5.trans ?_, (B5.cg (Cg.uI (by decide)) : RB (uI s5 0 0) m).1, by rw [sI_uI, if_pos rfl]; rfl, fun y hy => by cases hy; rfl⟩
            unfold m_X12_along_B133
            rw [if_neg (fun e => lN_ne0 (by omega) b0 ((lg_cmp_eq _ _).mp e)), wI_0, bd_some, rgcd_L (F := F) 63 F b a a63 (by omega) (by decide) (by omega), Nat.gcd_comm]
            unfold m_X12_along_B185
            rw [ck_e (decide_eq_true (lN_ne0 (by omega) gp)), ck_e (decide_eq_true (lN_ne0 (by omega) gp))]
            by_cases l0 : nI l = 0
            · rw [if_pos l0, if_pos l0]
            · rw [if_neg l0, if_neg l0]
end KALONG
