/-! missing -/
variable {sk : Nat}
section C13
variable {F : Nat} {g : Hp} {st : RS} {h : HS} {f : Hp} {T D sX s mb o : Nat} {tl lf : Int32} {ll : Int64} {B : Nat → Nat} {q1 q2 q3 q4 q5 q6 : Nat → Int32}
/-- the TREE's sum with the whole order A as if told last -/
def msV (h : HS) (fm : List Nat) (A : List Nat) : Nat := (prm (dst (cLs h fm ++ [A])) (fm.length + 1) fm.length).2.1
theorem cLs_len (h : HS) (fm : List Nat) : (cLs h fm).length = fm.length := by unfold cLs; rw [List.length_map]
theorem dst_l {h : HS} {fm : List Nat} {A : List Nat} {a b : Nat} (ha : a < fm.length) (hb : b < fm.length) : dst (cLs h fm ++ [A]) a b = dst (cLs h fm) a b := by
  have l := cLs_len h fm
  have e : ∀ i, i < fm.length → (cLs h fm ++ [A]).getD i [] = (cLs h fm).getD i [] := fun i hi => by
    rw [List.getD_eq_getElem?_getD, List.getD_eq_getElem?_getD, List.getElem?_append_left (by omega)]
  unfold dst
  rw [e a ha, e b hb]
theorem dst_r {h : HS} {fm : List Nat} {A : List Nat} {b : Nat} (hb : b < fm.length) : dst (cLs h fm ++ [A]) fm.length b = stp A (cL h fm[b]) + 3 * fal A (cL h fm[b]) := by
  have l := cLs_len h fm
  have e : (cLs h fm ++ [A]).getD b [] = (cLs h fm).getD b [] := by
    rw [List.getD_eq_getElem?_getD, List.getD_eq_getElem?_getD, List.getElem?_append_left (by omega)]
  have e2 : (cLs h fm ++ [A]).getD fm.length [] = A := by
    rw [List.getD_eq_getElem?_getD, List.getElem?_append_right (by omega), l, Nat.sub_self]
    rfl
  unfold dst
  rw [e, e2, cLs_at hb]
theorem dF.lay {q : Nat → Int32} {fm : List Nat} (A : List Nat) (k : dF q (dst (cLs h fm)) fm.length 0) : dF q (dst (cLs h fm ++ [A])) fm.length 0 := fun a b hab => by
  have : a < fm.length ∧ b < fm.length ∧ a ≠ b := by omega
  rw [dst_l this.1 this.2.1]
  exact k a b hab
theorem dF.un {q : Nat → Int32} {fm : List Nat} {A : List Nat} {y : Nat} (k : dF q (dst (cLs h fm ++ [A])) fm.length y) : dF q (dst (cLs h fm)) fm.length 0 := fun a b hab => by
  have : a < fm.length ∧ b < fm.length ∧ a ≠ b := by omega
  rw [← dst_l (A := A) this.1 this.2.1]
  exact k a b (by omega)
theorem msV_le (h : HS) (fm : List Nat) (A : List Nat) : msV h fm A ≤ 100 * fm.length := (prm_ok (dst_le (cLs h fm ++ [A])) (n := fm.length + 1) fm.length (by omega)).2.2.2.2.1
theorem trD_le (h : HS) {fm : List Nat} (hp : 0 < fm.length) : trD h fm ≤ 100 * fm.length := by
  have := (prm_ok (dst_le (cLs h fm)) (n := fm.length) (fm.length - 1) (by omega)).2.2.2.2.1
  unfold trD
  omega
/-- the class lays an order with them -/
theorem sw_L {fm : List Nat} (hF : 12 ≤ F) (h0n : 0 < fm.length) (hl : fm.length ≤ 9) (ok : okH h) (hT : T < 171 - 29) (hin : allIn h fm) {x : Nat} (hx : x < fct (hN h)) (ho : 204 ≤ o) (hq1 : ∀ i (hi : i < fm.length), q1 i = nI fm[i]) : ∀ (d y z : Nat) (f : Hp) (q3 : Nat → Int32), y + d = fm.length → d < z → FR f fm.length q1 q2 q3 q4 q5 q6 → HAt f T s h → OAt f o (hN h) → dF q3 (dst (cLs h fm ++ [unrk (hN h) x])) fm.length y → ∃ f' r3 r4 r5 r6, m_X3_spanWith_L3 F z (some 171) (some T) (some o) (nI x) (nI y) f = some (nI (msV h fm (unrk (hN h) x)), f') ∧ FR f' fm.length q1 q2 r3 r4 r5 r6 ∧ FF f f' ∧ dF r3 (dst (cLs h fm)) fm.length 0 := by
  have h10 := ok.2.1
  have h7 := ok.1.2
  intro d
  induction d with
  | zero =>
    intro y z f q3 hy hz h0 H O hd
    obtain ⟨z, rfl⟩ : ∃ j, z = j + 1 := ⟨z - 1, by omega⟩
    obtain ⟨f', r4, r5, r6, e1, F1, g1, -⟩ := span_e (F := F) (dst_le (cLs h fm ++ [unrk (hN h) x])) (dst_comm _) (n := fm.length + 1) (by omega) (by omega) hF h0 (fun a b ha hb hab => hd a b (by omega))
    refine ⟨f', q3, r4, r5, r6, ?_, F1, g1, hd.un⟩
    show m_X3_spanWith_b3 F _ _ _ _ _ _ _ = _
    unfold m_X3_spanWith_b3
    rw [bd_e (gI_e h0.1 rfl), if_pos (nI_le (by omega) (by omega)), bd_e (gI_e h0.1 rfl), ck_e (isO_e h0.1), nI_1, bd2_e e1]
    rfl
  | succ d ih =>
    intro y z f q3 hy hz h0 H O hd
    obtain ⟨z, rfl⟩ : ∃ j, z = j + 1 := ⟨z - 1, by omega⟩
    have hyl : y < fm.length := by omega
    have cy := hin y hyl
    obtain ⟨-, hB, hB2, -⟩ := ok.2.2.1 _ (List.getElem_mem cy)
    have ed : stp (unrk (hN h) x) (hC h)[fm[y]].2 + 3 * fal (unrk (hN h) x) (hC h)[fm[y]].2 = dst (cLs h fm ++ [unrk (hN h) x]) fm.length y := by
      rw [dst_r hyl, cL_e cy]
    obtain ⟨f1, p1, p2, p3⟩ := putFar_e (F := F) h0 (a := fm.length) (b := y) (by omega) (by omega) (nI (dst (cLs h fm ++ [unrk (hN h) x]) fm.length y))
    obtain ⟨f', r3, r4, r5, r6, i1, i2, i3, i4⟩ := ih (y + 1) z f1 _ (by omega) (by omega) p2 (H.frame (fun a _ _ _ => p3 a (by omega)) ok) (O.frame (fun a _ _ => p3 a (by omega))) (hd.put (dst_comm _) (by omega) hyl)
    refine ⟨f', r3, r4, r5, r6, ?_, i2, p3.trans i3, i4⟩
    show m_X3_spanWith_b3 F _ _ _ _ _ _ _ = _
    unfold m_X3_spanWith_b3
    rw [bd_e (gI_e h0.1 rfl), if_neg (nI_ge hyl (by omega)), if_neg (lim9 (by omega)), bd_e (gR_s h0.1 rfl), bd_e (ldI_e h0.2.1 (by omega) (by omega)), hq1 y hyl, ck_e (isO_e H.1), bd_e (copyAt_yes H h10 cy), bd_e (gI_e h0.1 rfl), if_neg (by simp), ck_e O.O, bd_e (ofarTo_e O h7 hx hB.2 hB2 (H.copy cy)), ed, ck_e (isO_e h0.1), bd_e p1, nm_e2, nI_1]
    exact i1
/-- the least sum and its order -/
def msR (V : Nat → Nat) : Nat → Nat → Nat × Int32 → Nat × Int32
  | 0, _, q => q
  | d + 1, x, q => msR V d (x + 1) (if V x < q.1 then (V x, nI x) else q)
def msA (what : Int32) (q : Nat × Int32) : Int32 := if q.2 = -1 then -1 else if what = 0 then q.2 else nI q.1
theorem cms_L {fm : List Nat} (hF : 12 ≤ F) (h0n : 0 < fm.length) (hl : fm.length ≤ 9) (ok : okH h) (hT : T < 171 - 29) (hin : allIn h fm) (ho : 204 ≤ o) (hq1 : ∀ i (hi : i < fm.length), q1 i = nI fm[i]) (what : Int32) (n z0 : Nat) : ∀ (d x z : Nat) (f : Hp) (q3 q4 q5 q6 : Nat → Int32) (q : Nat × Int32), x + d = fct (hN h) → d < z → q.1 ≤ 1000 → KAt f T D sX tl lf ll → FR f fm.length q1 q2 q3 q4 q5 q6 → HAt f T s h → OAt f o (hN h) → dF q3 (dst (cLs h fm)) fm.length 0 → ∃ f' r3 r4 r5 r6, m_X11_missing_L61 F z (some 100) what (some o) (nI q.1) q.2 (nI x) f n z0 = some (msA what (msR (fun x => msV h fm (unrk (hN h) x)) d x q), f', n, z0) ∧ FR f' fm.length q1 q2 r3 r4 r5 r6 ∧ FF f f' := by
  have h7 := ok.1.2
  have h5 := fct_le (hN h) (by omega)
  intro d
  induction d with
  | zero =>
    intro x z f q3 q4 q5 q6 q hx hz hq K h0 H O hd
    obtain ⟨z, rfl⟩ : ∃ j, z = j + 1 := ⟨z - 1, by omega⟩
    refine ⟨f, q3, q4, q5, q6, ?_, h0, FF.refl _⟩
    show m_X11_missing_b61 F _ _ _ _ _ _ _ _ _ _ = _
    unfold m_X11_missing_b61 m_X11_missing_B105
    rw [bd_e O.total, if_pos (nI_le (by omega) (by omega))]
    unfold msR msA
    by_cases c : q.2 = -1
    · rw [if_pos c, if_pos c, c]
    · rw [if_neg c, if_neg c]
      by_cases w : what = 0
      · rw [if_pos w, if_pos w]
      · rw [if_neg w, if_neg w]
  | succ d ih =>
    intro x z f q3 q4 q5 q6 q hx hz hq K h0 H O hd
    obtain ⟨z, rfl⟩ : ∃ j, z = j + 1 := ⟨z - 1, by omega⟩
    have hxl : x < fct (hN h) := by omega
    obtain ⟨f1, r3, r4, r5, r6, e1, F1, g1, d1⟩ := sw_L (F := F) (q2 := q2) (q4 := q4) (q5 := q5) (q6 := q6) (s := s) hF h0n hl ok hT hin hxl ho hq1 fm.length 0 F f q3 (by omega) (by omega) h0 H O (hd.lay _)
    have hv := msV_le h fm (unrk (hN h) x)
    obtain ⟨f', s3, s4, s5, s6, i1, i2, i3⟩ := ih (x + 1) z f1 r3 r4 r5 r6 (if msV h fm (unrk (hN h) x) < q.1 then (msV h fm (unrk (hN h) x), nI x) else q) (by omega) (by omega) (by split <;> omega) (K.frame (g1 _ (by omega))) F1 (H.frame (fun a _ _ _ => g1 a (by omega)) ok) (O.frame (fun a _ _ => g1 a (by omega))) d1
    refine ⟨f', s3, s4, s5, s6, ?_, i2, g1.trans i3⟩
    refine Eq.trans ?_ i1
    show m_X11_missing_b61 F _ _ _ _ _ _ _ _ _ _ = _
    unfold m_X11_missing_b61
    rw [bd_e O.total, if_neg (nI_ge hxl (by omega)), bd_e (gR_s K rfl), bd_e (gR_s K rfl), ck_e (isO_e h0.1)]
    have inner : ∀ (k : Option (Int32 × Hp × Nat × Nat)) v, k = v → grow pr4 n z0 k = grow pr4 n z0 v := fun k v e => by rw [e]
    rw [show m_X3_spanWith F (some 171) (some T) (some o) (nI x) f = some (nI (msV h fm (unrk (hN h) x)), f1) from e1]
    rw [show ∀ (k : Int32 → Hp → Option (Int32 × Hp × Nat × Nat)), bd2 (some (nI (msV h fm (unrk (hN h) x)), f1)) k = k (nI (msV h fm (unrk (hN h) x))) f1 from fun k => rfl]
    by_cases c : msV h fm (unrk (hN h) x) < q.1
    · rw [if_neg (nI_ge c (by omega)), if_pos c, nm_e2, nI_1]
      rw [if_pos c] at i1
      exact (grow_r i1).trans i1.symm
    · rw [if_pos (nI_le (by omega) (by omega)), if_neg c, nm_e2, nI_1]
      rw [if_neg c] at i1
      exact (grow_r i1).trans i1.symm
/-! the reference -/
theorem dF.put2 {q3 : Nat → Int32} {Df : Nat → Nat → Nat} (hS : ∀ a b, Df a b = Df b a) {x y : Nat} (k : dF q3 Df x y) (hx : x < 10) (hy : y < x) : dF (upd (upd q3 (y * 10 + x) (nI (Df x y))) (x * 10 + y) (nI (Df x y))) Df x (y + 1) := by
  intro a b hab
  by_cases e1 : a * 10 + b = x * 10 + y
  · have ha : a = x := by omega
    have hb : b = y := by omega
    subst ha; subst hb
    rw [upd_s]
  · rw [upd_n e1]
    by_cases e2 : a * 10 + b = y * 10 + x
    · have ha : a = y := by omega
      have hb : b = x := by omega
      subst ha; subst hb
      rw [upd_s, hS]
    · rw [upd_n e2]
      exact k a b (by omega)
theorem dR_toF {q : Nat → Int32} {Df : Nat → Nat → Nat} {n : Nat} (k : dR q Df n) : dF q Df n 0 := fun a b hab => by
  rw [Nat.mul_comm a 10]
  exact k a b (by omega) (by omega) (by omega)
theorem dF_toR {q : Nat → Int32} {Df : Nat → Nat → Nat} {n : Nat} (k : dF q Df n n) : dR q Df (n + 1) := fun a b ha hb hab => by
  rw [Nat.mul_comm 10 a]
  exact k a b (by omega)
theorem rms_98 {fm : List Nat} (hF : 12 ≤ F) (hl : fm.length ≤ 9) (ok : okH h) (hin : allIn h fm) {A : List Nat} (hA : okP (hN h) A) (N : NW (sA st 14) h) (h33 : sI st 33 = nI fm.length) (h28 : ∀ i (hi : i < fm.length), sA st 28 i = nI fm[i]) (pa : PL (sA st 26) A) {rc : Option Nat → Int32 → Int32 → Int32 → Int32 → Hp → Option (Int32 × Hp)} {v1 v2 v3 v4 : Int32} : ∀ (d y z : Nat) (st' : RS), y + d = fm.length → d < z → Cg [] [27, 30] [] st st' → dF (sA st' 30) (dst (cLs h fm ++ [A])) fm.length y → ∃ st'', m_X12_missing_L98 F rc z (some 179) v1 v2 v3 v4 (nI y) (ov g st') = m_X12_missing_B177 F rc (some 179) v1 v2 v3 v4 (ov g st'') ∧ Cg [] [27, 30] [] st st'' ∧ dF (sA st'' 30) (dst (cLs h fm ++ [A])) fm.length fm.length := by
  have h10 := ok.2.1
  have h7 := ok.1.2
  intro d
  induction d with
  | zero =>
    intro y z st' hy hz C hd
    obtain ⟨z, rfl⟩ : ∃ j, z = j + 1 := ⟨z - 1, by omega⟩
    refine ⟨st', ?_, C, by rw [show fm.length = y by omega] at hd ⊢; exact hd⟩
    show m_X12_missing_b98 F _ _ _ _ _ _ _ _ _ = _
    unfold m_X12_missing_b98
    rw [rI_33, bd_some, C.I (by decide), h33, if_pos (nI_le (by omega) (by omega))]
  | succ d ih =>
    intro y z st' hy hz C hd
    obtain ⟨z, rfl⟩ : ∃ j, z = j + 1 := ⟨z - 1, by omega⟩
    have hyl : y < fm.length := by omega
    have cy := hin y hyl
    obtain ⟨-, hB, hB2, -⟩ := ok.2.2.1 _ (List.getElem_mem cy)
    have N' : NW (sA st' 14) h := by rw [C.A (by decide)]; exact N
    obtain ⟨s1, e1, r1, pb⟩ := rcopy27 (F := F) (g := g) (by omega) N' ok cy
    have N1 : NW (sA s1 14) h := by rw [r1.A (by decide)]; exact N'
    have pa1 : PL (sA s1 26) A := by rw [r1.A (by decide), C.A (by decide)]; exact pa
    have ef := rfar_e (F := F) (g := g) N1 h7 (by omega) (hA.L h7) hB hA.2.1 hB2 pa1 pb
    have ed : stp A (hC h)[fm[y]].2 + 3 * fal A (hC h)[fm[y]].2 = dst (cLs h fm ++ [A]) fm.length y := by rw [dst_r hyl, cL_e cy]
    rw [ed] at ef
    have a33 : sI s1 33 = nI fm.length := by rw [r1.I, C.I (by decide)]; exact h33
    have C1 : Cg [] [27, 30] [] st s1 := C.trans (r1.cg.mono (by decide) (by decide) (by decide))
    have hd1 : dF (sA s1 30) (dst (cLs h fm ++ [A])) fm.length y := by rw [r1.A (by decide)]; exact hd
    have k1 : 10 * y + fm.length = y * 10 + fm.length := by omega
    have k2 : 10 * fm.length + y = fm.length * 10 + y := by omega
    obtain ⟨st'', i1, i2, i3⟩ := ih (y + 1) z (uA (uA s1 30 (10 * y + fm.length) (nI (dst (cLs h fm ++ [A]) fm.length y))) 30 (10 * fm.length + y) (nI (dst (cLs h fm ++ [A]) fm.length y))) (by omega) (by omega) ((C1.trans (Cg.uA (by decide))).trans (Cg.uA (by decide))) (by
      rw [sA_uA, if_pos rfl, sA_uA, if_pos rfl, k1, k2]
      exact hd1.put2 (dst_comm _) (by omega) hyl)
    refine ⟨st'', ?_, i2, i3⟩
    show m_X12_missing_b98 F _ _ _ _ _ _ _ _ _ = _
    unfold m_X12_missing_b98
    rw [rI_33, bd_some, C.I (by decide), h33, if_neg (nI_ge hyl (by omega)), rR_28, bd_some, rE_28 (by omega), bd_some, C.A (k := 28) (by decide), h28 y hyl, rR_27, bd_some, ck_e r_isO, bd_e e1, rR_30, bd_some, rI_33, bd_some, a33, ck_e r_isO, bd_e ef, j10, wE_30 (by omega), bd_some, rR_30, bd_some, rI_33, bd_some, sI_uA, a33, bd_some, bd_some, j10, rE_30 (by omega), bd_some, sA_uA, if_pos rfl, upd_s, j10, wE_30 (by omega), bd_some, nm_e2, nI_1]
    exact i1
theorem rms_76 {fm : List Nat} (hF : 12 ≤ F) (h0n : 0 < fm.length) (hl : fm.length ≤ 9) (ok : okH h) (hin : allIn h fm) (N : NW (sA st 14) h) (h33 : sI st 33 = nI fm.length) (h28 : ∀ i (hi : i < fm.length), sA st 28 i = nI fm[i]) (what : Int32) : ∀ (d x z : Nat) (q : Nat × Int32) (st' : RS), x + d = fct (hN h) → d < z → q.1 ≤ 1000 → Cg [] [24, 25, 26, 27, 29, 30, 31] [] st st' → dF (sA st' 30) (dst (cLs h fm)) fm.length 0 → ∃ st'', m_X12_missing_L76 F z (some 179) what (nI q.1) q.2 (nI x) (ov g st') = some (msA what (msR (fun x => msV h fm (unrk (hN h) x)) d x q), ov g st'') ∧ Cg [] [24, 25, 26, 27, 29, 30, 31] [] st st'' := by
  have h2 := ok.1.1
  have h7 := ok.1.2
  have h5 := fct_le (hN h) (by omega)
  intro d
  induction d with
  | zero =>
    intro x z q st' hx hz hq C hd
    obtain ⟨z, rfl⟩ : ∃ j, z = j + 1 := ⟨z - 1, by omega⟩
    have N' : NW (sA st' 14) h := by rw [C.A (by decide)]; exact N
    refine ⟨st', ?_, C⟩
    show m_X12_missing_b76 F _ _ _ _ _ _ _ = _
    unfold m_X12_missing_b76 m_X12_missing_B210
    rw [ck_e r_isO, bd_e (rorders_e N' (by omega) h7 (by omega)), if_pos (nI_le (by omega) (by omega))]
    unfold msR msA
    by_cases c : q.2 = -1
    · rw [if_pos c, if_pos c]
    · rw [if_neg c, if_neg c]
      by_cases w : what = 0
      · rw [if_pos w, if_pos w]
      · rw [if_neg w, if_neg w]
  | succ d ih =>
    intro x z q st' hx hz hq C hd
    obtain ⟨z, rfl⟩ : ∃ j, z = j + 1 := ⟨z - 1, by omega⟩
    have hxl : x < fct (hN h) := by omega
    have N' : NW (sA st' 14) h := by rw [C.A (by decide)]; exact N
    obtain ⟨s1, e1, r1, pa, -⟩ := rlay26 (F := F) (g := g) (by omega) N' (by omega) h7 hxl
    have N1 : NW (sA s1 14) h := by rw [r1.A (by decide)]; exact N'
    have C1 : Cg [] [24, 25, 26, 27, 29, 30, 31] [] st s1 := C.trans (r1.cg.mono (by decide) (by decide) (by decide))
    have a33 : sI s1 33 = nI fm.length := by rw [C1.I (by decide)]; exact h33
    obtain ⟨s2, e2, c2, d2⟩ := rms_98 (F := F) (g := g) (st := s1) (rc := m_X12_missing_L76 F z) (v1 := what) (v2 := nI q.1) (v3 := q.2) (v4 := nI x) hF hl ok hin (unrk_ok hxl) N1 a33 (fun i hi => by rw [C1.A (by decide)]; exact h28 i hi) pa fm.length 0 F s1 (by omega) (by omega) (Cg.refl _ _ _ _) (by rw [r1.A (by decide)]; exact hd.lay _)
    have b33 : sI s2 33 = nI fm.length := by rw [c2.I (by decide)]; exact a33
    obtain ⟨s3, e3, c3, -⟩ := rjoins_e (F := F) (g := g) (st := s2) (dst_le (cLs h fm ++ [unrk (hN h) x])) (n := fm.length + 1) (by omega) (by omega) hF (dF_toR d2)
    have C3 : Cg [] [24, 25, 26, 27, 29, 30, 31] [] st s3 := C1.trans ((c2.mono (by decide) (by decide) (by decide)).trans (c3.mono (by decide) (by decide) (by decide)))
    have hv := msV_le h fm (unrk (hN h) x)
    obtain ⟨s4, i1, i2⟩ := ih (x + 1) z (if msV h fm (unrk (hN h) x) < q.1 then (msV h fm (unrk (hN h) x), nI x) else q) s3 (by omega) (by omega) (by split <;> omega) C3 (by rw [c3.A (by decide)]; exact d2.un)
    refine ⟨s4, ?_, i2⟩
    refine Eq.trans ?_ i1
    show m_X12_missing_b76 F _ _ _ _ _ _ _ = _
    unfold m_X12_missing_b76
    rw [ck_e r_isO, bd_e (rorders_e N' (by omega) h7 (by omega)), if_neg (nI_ge hxl (by omega)), rR_26, bd_some, ck_e r_isO, bd_e e1]
    refine Eq.trans e2 ?_
    unfold m_X12_missing_B177
    rw [rI_33, bd_some, b33, ck_e r_isO, nI_1, bd2_e e3]
    show (if nI (msV h fm (unrk (hN h) x)) < nI q.1 then _ else _) = _
    by_cases c : msV h fm (unrk (hN h) x) < q.1
    · rw [if_pos (nI_lt c (by omega)), if_pos c, nm_e2, nI_1]
      rfl
    · rw [if_neg (nI_nlt (by omega) (by omega)), if_neg c, nm_e2, nI_1]
theorem rms_29 {fm : List Nat} (hl : fm.length ≤ 9) (ok : okH h) (N : NW (sA st 14) h) (h33 : sI st 33 = nI fm.length) (h28 : ∀ i (hi : i < fm.length), sA st 28 i = nI fm[i]) {what : Int32} : ∀ (d i z : Nat), i + d = fm.length → d < z → ((∀ j (hj : j < fm.length), i ≤ j → fm[j] < (hC h).length) → m_X12_missing_L29 F z (some 179) what (nI i) (ov g st) = m_X12_missing_B58 F (some 179) what (ov g st)) ∧ ((∃ j, ∃ hj : j < fm.length, i ≤ j ∧ ¬ fm[j] < (hC h).length) → (∀ x ∈ fm, x < 256) → m_X12_missing_L29 F z (some 179) what (nI i) (ov g st) = some (-1, ov g st)) := by
  have h10 := ok.2.1
  intro d
  induction d with
  | zero =>
    intro i z hi hz
    obtain ⟨z, rfl⟩ : ∃ j, z = j + 1 := ⟨z - 1, by omega⟩
    refine ⟨fun _ => ?_, fun ⟨j, hj, q, _⟩ => by omega⟩
    show m_X12_missing_b29 F _ _ _ _ _ = _
    unfold m_X12_missing_b29
    rw [rI_33, bd_some, h33, if_pos (nI_le (by omega) (by omega))]
  | succ d ih =>
    intro i z hi hz
    obtain ⟨z, rfl⟩ : ∃ j, z = j + 1 := ⟨z - 1, by omega⟩
    have il : i < fm.length := by omega
    obtain ⟨i1, i2⟩ := ih (i + 1) z (by omega) (by omega)
    show (_ → m_X12_missing_b29 F _ _ _ _ _ = _) ∧ (_ → _ → m_X12_missing_b29 F _ _ _ _ _ = _)
    unfold m_X12_missing_b29
    rw [rI_33, bd_some, h33, if_neg (nI_ge il (by omega)), rR_28, bd_some, rE_28 (by omega), bd_some, h28 i il, ck_e r_isO, bd_e (risCopy_e N ok _)]
    by_cases q : fm[i] < (hC h).length
    · rw [if_neg (inin (by omega) q), if_neg (by decide), nm_e2, nI_1]
      refine ⟨fun w => i1 (fun j hj a => w j hj (by omega)), fun ⟨j, hj, a, b⟩ w => i2 ⟨j, hj, ?_, b⟩ w⟩
      by_cases e : j = i
      · subst e; exact absurd q b
      · omega
    · refine ⟨fun w => absurd (w i il (Nat.le_refl _)) q, fun _ w => ?_⟩
      have := w _ (List.getElem_mem il)
      rw [if_pos (Or.inr (nI_le (by omega) (by omega))), if_pos rfl]
theorem k_missing (hF : 5041 ≤ F) (what : Int32) : KA sk (m_X11_missing F (some 100) what) (m_X12_missing F (some 179) what) := by
  intro f n z st m C R
  obtain ⟨T, D, sT, sD, sX, tq, iq, X⟩ := C.x
  obtain ⟨S, K, ⟨tp, t7, -⟩, ⟨H, ok, -⟩, -, -, M, -⟩ := id X
  have td := X.td
  have h2 := ok.1.1
  have h7 := ok.1.2
  have l9 := M.1
  have l2 := M.2.1
  have l256 := M.2.2.1
  have e33 := R.2.2.2.2.2.2.1.1.1
  have e28 := R.2.2.2.2.2.2.1.1.2
  obtain ⟨q1, q2, q3, q4, q5, q6, W, w1, w2⟩ := M.fr
  have rbase : ∀ g, ∃ s1, m_X12_lay F (some 179) (ov g (uI st 0 0)) = some (ov g s1) ∧ RB s1 m := fun g => rbeg (F := F) (g := g) (by omega) R 0
  rcases outin (k := 2) (by omega) what with hw | ⟨w, hw, rfl⟩
  · refine ⟨-1, f, n, z, m, ?_, Nat.le_refl _, Nat.le_refl _, fun _ _ _ => rfl, C, fun g => ?_⟩
    · unfold m_X11_missing
      by_cases c : what < 0
      · rw [if_pos c]
      · obtain ⟨j, hj, rfl⟩ := (i_cases what).resolve_left c
        have : 1 < j := by
          rcases hw with a | a
          · exact absurd a c
          · exact Classical.byContradiction fun b => nI_ge (show j < 2 by omega) (by omega) a
        rw [if_neg c, if_pos (show (1 : Int32) < nI j from nI_lt (a := 1) this hj)]
    · obtain ⟨s1, q1, B1⟩ := rbase g
      refine ⟨s1, ?_, B1.1⟩
      unfold m_X12_missing
      rw [wI_0, bd_some, ck_e r_isO, bd_e q1, rI_33, bd_some]
      by_cases c : sI s1 33 = 0
      · rw [if_pos c]
      · rw [if_neg c, bd_e (risIn (k := 1) (M := 1) (by omega) rfl what), if_pos hw, if_pos rfl]
  · have c1 : ¬ nI w < 0 := nI_pos (by omega)
    have c2 : ¬ (1 : Int32) < nI w := nI_nlt (a := 1) (by omega) (by omega)
    by_cases z0 : (mM m).length = 0
    · refine ⟨-1, f, n, z, m, ?_, Nat.le_refl _, Nat.le_refl _, fun _ _ _ => rfl, C, fun g => ?_⟩
      · unfold m_X11_missing
        rw [if_neg c1, if_neg c2, bd_e (gR_s K rfl), bd_e (gI_e W.1 rfl), if_pos (by rw [z0]; rfl)]
      · obtain ⟨s1, q1, B1⟩ := rbase g
        refine ⟨s1, ?_, B1.1⟩
        unfold m_X12_missing
        rw [wI_0, bd_some, ck_e r_isO, bd_e q1, rI_33, bd_some, B1.1.2.2.2.2.2.2.1.1.1, if_pos (by rw [z0]; rfl)]
    · obtain ⟨v, f1, r3, m1, F1, g1, k1⟩ := measure_L2 (F := F) (fm := mM m) l9 ok (by omega) (by omega) l256 (mM m).length 0 F f q3 (by omega) (by omega) W H w1 (dF_0 _ _) (fun i hi q => absurd q (Nat.not_lt_zero _))
      have X1 : CIx sk f1 n z m T D sT sD sX tq iq := X.fam g1 (F1.fm l9 l2 l256 w1 w2)
      have ref : ∀ v, (∀ g s2, RB s2 m → ∃ s3, m_X12_missing_L29 F F (some 179) (nI w) (nI 0) (ov g s2) = some (v, ov g s3) ∧ RI s3 m) → ∀ g, ∃ st', m_X12_missing F (some 179) (nI w) (ov g st) = some (v, ov g st') ∧ RI st' m := by
        intro v hv g
        obtain ⟨s1, q1, B1⟩ := rbase g
        obtain ⟨s3, q3, r3⟩ := hv g _ B1
        refine ⟨s3, ?_, r3⟩
        unfold m_X12_missing
        rw [wI_0, bd_some, ck_e r_isO, bd_e q1, rI_33, bd_some, B1.1.2.2.2.2.2.2.1.1.1, if_neg (nI_ne0 (by omega) (by omega)), bd_e (risIn (k := 1) (M := 1) (by omega) rfl _), if_neg (inin (by omega) hw), if_neg (by decide)]
        exact q3
      have R29 := fun g s2 (B2 : RB s2 m) => rms_29 (F := F) (g := g) (st := s2) (fm := mM m) (what := nI w) l9 ok B2.2.2.1 B2.1.2.2.2.2.2.2.1.1.1 B2.1.2.2.2.2.2.2.1.1.2 (mM m).length 0 F (by omega) (by omega)
      have m1' : m_X3_measure F (some 171) (some T) f = some (v, f1) := m1
      rcases k1 with ⟨rfl, hin, k1⟩ | ⟨rfl, hin⟩
      · obtain ⟨o, f2, n2, z2, tq2, o1, hn, hz, X2, eo, O, ho, fr⟩ := orders_e (F := F) hF X1
        obtain ⟨S2, K2, -, ⟨H2, -⟩, -, -, M2, -⟩ := id X2
        have F2 : FR f2 (mM m).length q1 q2 r3 q4 q5 q6 := ⟨(fr _ (by omega) (by omega)).trans F1.1, (fr _ (by omega) (by omega)).trans F1.2.1, (fr _ (by omega) (by omega)).trans F1.2.2.1, (fr _ (by omega) (by omega)).trans F1.2.2.2.1, (fr _ (by omega) (by omega)).trans F1.2.2.2.2.1, (fr _ (by omega) (by omega)).trans F1.2.2.2.2.2.1, (fr _ (by omega) (by omega)).trans F1.2.2.2.2.2.2⟩
        obtain ⟨f3, r4, r5, r6, s1, F3, g3, -⟩ := span_e (F := F) (dst_le (cLs (mH m) (mM m))) (dst_comm _) (n := (mM m).length) (by omega) (by omega) (by omega) F2 (fun a b ha hb hab => k1 a b (Or.inl ⟨ha, hb, hab⟩))
        have X3 : CIx sk f3 n2 z2 m T D sT sD sX tq2 iq := X2.fam g3 (F3.fm l9 l2 l256 w1 w2)
        have O3 : OAt f3 o (hN (mH m)) := O.frame (fun a _ _ => g3 a (by omega))
        obtain ⟨S3, K3, -, ⟨H3, -⟩, -⟩ := id X3
        have ht := trD_le (mH m) (fm := mM m) (by omega)
        obtain ⟨f4, t3, t4, t5, t6, i1, F4, g4⟩ := cms_L (F := F) (fm := mM m) (q1 := q1) (q2 := q2) (by omega) (by omega) l9 ok (by omega) hin ho w1 (nI w) n2 z2 (fct (hN (mH m))) 0 F f3 r3 r4 r5 r6 (trD (mH m) (mM m), -1) (by omega) (by have := fct_le (hN (mH m)) (by omega); omega) (by omega) K3 F3 H3 O3 k1
        have X4 : CIx sk f4 n2 z2 m T D sT sD sX tq2 iq := X3.fam g4 (F4.fm l9 l2 l256 w1 w2)
        refine ⟨msA (nI w) (msR (fun x => msV (mH m) (mM m) (unrk (hN (mH m)) x)) (fct (hN (mH m))) 0 (trD (mH m) (mM m), -1)), f4, n2, z2, m, ?_, hn, hz, fun a a1 a2 => (g4 a (by omega)).trans ((g3 a (by omega)).trans ((fr a a2 (by omega)).trans (g1 a (by omega)))), X4.ci, ref _ (fun g s2 B2 => ?_)⟩
        · unfold m_X11_missing
          rw [if_neg c1, if_neg c2, bd_e (gR_s K rfl), bd_e (gI_e W.1 rfl), if_neg (nI_ne0 (by omega) (by omega)), bd_e (gR_s K rfl), bd_e (gR_s K rfl), ck_e (isO_e W.1)]
          refine grow_s ?_ hn hz
          rw [bd2_e m1', if_neg (by decide), ck_e (isO_e X1.2.1), bd4_e o1, ck_e (decide_eq_true ⟨hn, hz⟩)]
          refine grow_r ?_
          rw [bd_e (gR_s K2 rfl), bd_e (gR_s K2 rfl), bd_e (gI_e F2.1 rfl), ck_e (isO_e F2.1)]
          refine grow_r ?_
          rw [bd2_e s1]
          exact i1
        · have B33 := B2.1.2.2.2.2.2.2.1.1.1
          have B28 := B2.1.2.2.2.2.2.2.1.1.2
          obtain ⟨s3, a1, a2, a3⟩ := apart_e (F := F) (g := g) (by omega) B2.2.2.1 ok l9 hin B33 B28
          have b33 : sI s3 33 = nI (mM m).length := by rw [a2.I (by decide)]; exact B33
          obtain ⟨s4, b1, b2, -⟩ := rjoins_e (F := F) (g := g) (dst_le (cLs (mH m) (mM m))) (n := (mM m).length) (by omega) (by omega) (by omega) a3
          have C4 : Cg [] [26, 27, 29, 30, 31] [] s2 s4 := (a2.mono (by decide) (by decide) (by decide)).trans (b2.mono (by decide) (by decide) (by decide))
          obtain ⟨s5, d1, d2⟩ := rms_76 (F := F) (g := g) (st := s4) (h := mH m) (fm := mM m) (by omega) (by omega) l9 ok hin (by rw [C4.A (by decide)]; exact B2.2.2.1) (by rw [C4.I (by decide)]; exact B33) (fun i hi => by rw [C4.A (by decide)]; exact B28 i hi) (nI w) (fct (hN (mH m))) 0 F (trD (mH m) (mM m), -1) s4 (by omega) (by have := fct_le (hN (mH m)) (by omega); omega) (by omega) (Cg.refl _ _ _ _) (by rw [b2.A (by decide)]; exact dR_toF a3)
          refine ⟨s5, ?_, (B2.cg ((C4.mono (by decide) (by decide) (by decide)).trans (d2.mono (by decide) (by decide) (by decide)))).1⟩
          rw [(R29 g s2 B2).1 (fun j hj _ => hin j hj)]
          unfold m_X12_missing_B58
          rw [ck_e r_isO, bd_e a1, rI_33, bd_some, b33, ck_e r_isO, bd2_e b1]
          exact d1
      · refine ⟨-1, f1, n, z, m, ?_, Nat.le_refl _, Nat.le_refl _, fun a a1 _ => g1 a (by omega), X1.ci, ref _ (fun g s2 B2 => ⟨s2, (R29 g s2 B2).2 ?_ l256, B2.1⟩)⟩
        · unfold m_X11_missing
          rw [if_neg c1, if_neg c2, bd_e (gR_s K rfl), bd_e (gI_e W.1 rfl), if_neg (nI_ne0 (by omega) (by omega)), bd_e (gR_s K rfl), bd_e (gR_s K rfl), ck_e (isO_e W.1)]
          refine grow_r ?_
          rw [bd2_e m1', if_pos rfl]
        · refine Classical.byContradiction fun c => hin (fun i hi => Classical.byContradiction fun q => c ⟨i, hi, Nat.zero_le _, q⟩)
end C13
