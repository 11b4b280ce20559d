/-! likeliest -/
variable {sk : Nat}
/-- the greatest product and its order -/
def lkR (P : Nat → Int64) : Nat → Nat → Int64 × Int32 → Int64 × Int32
  | 0, _, q => q
  | d + 1, x, q => lkR P d (x + 1) (if 0 < lg_cmp (P x) q.1 then (P x, nI x) else q)
section C14
variable {F : Nat} {g : Hp} {st : RS} {h : HS} {f : Hp} {T D sX s o N : Nat} {tl lf : Int32} {ll : Int64}
theorem clk_L {M1 M2 q : Nat → Int64} (h7 : N ≤ 7) (W : OW f o N M2) (O : OAt f o N) (hk : f (o + 6) = rowJ (fct N) q) (hq : agr (fct N) q M1) (n z : Nat) : ∀ (d x w : Nat) (p : Int64 × Int32), x + d = fct N → d < w → m_X11_likeliest_L111 F w (some 100) (some o) p.1 p.2 (nI x) f n z = m_X11_likeliest_B162 F (some 100) (lkR (fun x => M1 x * M2 x) d x p).1 (lkR (fun x => M1 x * M2 x) d x p).2 f n z := by
  have h5 := fct_le N (by omega)
  intro d
  induction d with
  | zero =>
    intro x w p hx hw
    obtain ⟨w, rfl⟩ : ∃ j, w = j + 1 := ⟨w - 1, by omega⟩
    show m_X11_likeliest_b111 F _ _ _ _ _ _ _ _ _ = _
    unfold m_X11_likeliest_b111
    rw [bd_e O.total, if_pos (nI_le (by omega) (by omega))]
    rfl
  | succ d ih =>
    intro x w p hx hw
    obtain ⟨w, rfl⟩ : ∃ j, w = j + 1 := ⟨w - 1, by omega⟩
    have hxl : x < fct N := by omega
    have W' := W
    obtain ⟨a, b, hab, h0, -, -⟩ := W'
    show m_X11_likeliest_b111 F _ _ _ _ _ _ _ _ _ = _
    unfold m_X11_likeliest_b111
    rw [bd_e O.total, if_neg (nI_ge hxl (by omega)), bd_e (gR_s h0 rfl), bd_e (ldJ_e (show f (o + 6) = some (.inr (2, fct N, .inr (.inl q))) from hk) hxl (by omega)), W.now h7 hxl, nm_e2, hq x hxl]
    by_cases c : 0 < lg_cmp (M1 x * M2 x) p.1
    · rw [if_neg (Int32.not_le.mpr c), nm_e2, nI_1, show lkR (fun x => M1 x * M2 x) (d + 1) x p = lkR (fun x => M1 x * M2 x) d (x + 1) (M1 x * M2 x, nI x) from congrArg (lkR _ d (x + 1)) (if_pos c)]
      exact ih (x + 1) w (M1 x * M2 x, nI x) (by omega) (by omega)
    · rw [if_pos (Int32.not_lt.mp c), nm_e2, nI_1, show lkR (fun x => M1 x * M2 x) (d + 1) x p = lkR (fun x => M1 x * M2 x) d (x + 1) p from congrArg (lkR _ d (x + 1)) (if_neg c)]
      exact ih (x + 1) w p (by omega) (by omega)
theorem OAt.kp (O : OAt f o N) (q : Nat → Int64) : OAt (va_up f (o + 6) (rowJ (fct N) q)) o N := by
  obtain ⟨a, b, hab, h0, ⟨P, p1, p2⟩, ⟨T, t1, t2⟩, ⟨E, e1, e2⟩, ⟨q4, h4⟩, ⟨q5, h5⟩, -⟩ := O
  exact ⟨a, b, hab, (up_n (by omega)).trans h0, ⟨P, (up_n (by omega)).trans p1, p2⟩, ⟨T, (up_n (by omega)).trans t1, t2⟩, ⟨E, (up_n (by omega)).trans e1, e2⟩, ⟨q4, (up_n (by omega)).trans h4⟩, ⟨q5, (up_n (by omega)).trans h5⟩, ⟨q, up_s⟩⟩
theorem CIx.lk {n z : Nat} {m : MS} {sT sD : Nat} {tq iq : Nat → Option Nat} (C : CIx sk f n z m T D sT sD sX tq iq) (x : Int64) : CIx sk (va_up f 100 (some (.inl (9, kC T D sX (nI (mT m)) (nI (mF m)) x)))) n z (mB m, mT m, mH m, mP m, mF m, x, mM m, mS m, mI m) T D sT sD sX tq iq := by
  obtain ⟨h1, h2, ⟨h3, h3b⟩, h4, h5, h6, h7, h8⟩ := C
  exact ⟨h1.frame (fun a h => up_n (by omega)), up_s, ⟨h3.frame (up_n (by omega)), h3b⟩, h4.frame (fun a _ _ => up_n (by omega)), h5.frame (up_n (by omega)) (up_n (by omega)) (fun a h => up_n (by omega)), h6.frame (up_n (by omega)) (up_n (by omega)) (up_n (by omega)), h7.frame (fun a _ _ => up_n (by omega)), h8.frame (up_n (by omega))⟩
theorem RI.lk {m : MS} (R : RI st m) (x : Int64) : RI (uJ st 40 x) (mB m, mT m, mH m, mP m, mF m, x, mM m, mS m, mI m) := by
  obtain ⟨h1, h2, h4, h5, h6, h7, h8, h12⟩ := R
  exact ⟨h1, h2, h4, h5, h6, by rw [sJ_uJ, if_pos rfl], h8, h12⟩
/-! the reference -/
theorem rordOf_L (hF : 8 ≤ F) (N' : NW (sA st 14) h) (ok : okH h) {c : Nat} (hc : c < (hC h).length) (hw : (hC h)[c].2.length = hN h) : ∀ (d i z : Nat) (st' : RS), i + d = hN h → d < z → Rs [24] st st' → (∀ j (hj : j < (hC h)[c].2.length), j < i → sA st' 24 j = nI (hC h)[c].2[j]) → ∃ st'', m_X12_orderOf_L2 F z (some 179) (nI c) (nI i) (ov g st') = some (nI (rkT (hC h)[c].2), ov g st'') ∧ Rs [24] st st'' := by
  have h7 := ok.1.2
  obtain ⟨-, hA, hA2, -⟩ := ok.2.2.1 _ (List.getElem_mem hc)
  intro d
  induction d with
  | zero =>
    intro i z st' hi hz C hr
    obtain ⟨z, rfl⟩ : ∃ j, z = j + 1 := ⟨z - 1, by omega⟩
    have N1 : NW (sA st' 14) h := by rw [C.A (by decide)]; exact N'
    refine ⟨st', ?_, C⟩
    show m_X12_orderOf_b2 F _ _ _ _ _ = _
    unfold m_X12_orderOf_b2
    rw [ck_e r_isO, bd_e (rlines_e N1), if_pos (nI_le (by omega) (by omega)), ck_e r_isO, bd_e (rnumberOf_e hF (fun j hj => hr j hj (by omega)) hA N1 hw h7)]
  | succ d ih =>
    intro i z st' hi hz C hr
    obtain ⟨z, rfl⟩ : ∃ j, z = j + 1 := ⟨z - 1, by omega⟩
    have N1 : NW (sA st' 14) h := by rw [C.A (by decide)]; exact N'
    have il : i < (hC h)[c].2.length := by omega
    obtain ⟨st'', i1, i2⟩ := ih (i + 1) z (uA st' 24 i (nI (hC h)[c].2[i])) (by omega) (by omega) (C.trans (Rs.uA (by simp))) (fun j hj q => by
      rw [sA_uA, if_pos rfl]
      by_cases e : j = i
      · subst e; rw [upd_s]
      · rw [upd_n e]; exact hr j hj (by omega))
    refine ⟨st'', ?_, i2⟩
    show m_X12_orderOf_b2 F _ _ _ _ _ = _
    unfold m_X12_orderOf_b2
    rw [ck_e r_isO, bd_e (rlines_e N1), if_neg (nI_ge (by omega) (by omega)), rR_24, bd_some, ck_e r_isO, bd_e (rlineOf_e N1 ok hc il), wE_24 (by omega), bd_some, nm_e2, nI_1]
    exact i1
theorem rlk_54 (hF : 8 ≤ F) (N' : NW (sA st 14) h) (h2 : 1 ≤ hN h) (h7 : hN h ≤ 7) {v3 v4 : Int32} : ∀ (d x z : Nat) (st' : RS), x + d = fct (hN h) → d < z → Cg [] [] [37] st st' → (∀ j, j < x → sL st' 37 j = sL st 35 j) → ∃ st'', m_X12_likeliest_L54 F z (some 179) v3 v4 (nI x) (ov g st') = m_X12_likeliest_B83 F (some 179) v3 v4 (ov g st'') ∧ Cg [] [] [37] st st'' ∧ agr (fct (hN h)) (sL st'' 37) (sL st 35) := by
  have h5 := fct_le (hN h) (by omega)
  intro d
  induction d with
  | zero =>
    intro x z st' hx hz C hr
    obtain ⟨z, rfl⟩ : ∃ j, z = j + 1 := ⟨z - 1, by omega⟩
    have N1 : NW (sA st' 14) h := by rw [C.A (by decide)]; exact N'
    refine ⟨st', ?_, C, fun j hj => hr j (by omega)⟩
    show m_X12_likeliest_b54 F _ _ _ _ _ _ = _
    unfold m_X12_likeliest_b54
    rw [ck_e r_isO, bd_e (rorders_e N1 h2 h7 hF), if_pos (nI_le (by omega) (by omega))]
  | succ d ih =>
    intro x z st' hx hz C hr
    obtain ⟨z, rfl⟩ : ∃ j, z = j + 1 := ⟨z - 1, by omega⟩
    have N1 : NW (sA st' 14) h := by rw [C.A (by decide)]; exact N'
    have hxl : x < fct (hN h) := by omega
    obtain ⟨st'', i1, i2⟩ := ih (x + 1) z (uL st' 37 x (sL st 35 x)) (by omega) (by omega) (C.trans (Cg.uL (by decide))) (fun j q => by
      rw [sL_uL, if_pos rfl]
      by_cases e : j = x
      · subst e; rw [updL_s]
      · rw [updL_n e]; exact hr j (by omega))
    refine ⟨st'', ?_, i2⟩
    show m_X12_likeliest_b54 F _ _ _ _ _ _ = _
    unfold m_X12_likeliest_b54
    rw [ck_e r_isO, bd_e (rorders_e N1 h2 h7 hF), if_neg (nI_ge hxl (by omega)), rR_37, bd_some, rR_35, bd_some, rE_35 (by omega), bd_some, C.L (by decide), wE_37 (by omega), bd_some, nm_e2, nI_1]
    exact i1
theorem rlk_104 (hF : 8 ≤ F) (N' : NW (sA st 14) h) (h2 : 1 ≤ hN h) (h7 : hN h ≤ 7) {M1 M2 : Nat → Int64} (h37 : agr (fct (hN h)) (sL st 37) M1) (h35 : agr (fct (hN h)) (sL st 35) M2) : ∀ (d x z : Nat) (p : Int64 × Int32), x + d = fct (hN h) → d < z → m_X12_likeliest_L104 F z (some 179) p.2 p.1 (nI x) (ov g st) = m_X12_likeliest_B155 F (some 179) (lkR (fun x => M1 x * M2 x) d x p).2 (lkR (fun x => M1 x * M2 x) d x p).1 (ov g st) := by
  have h5 := fct_le (hN h) (by omega)
  intro d
  induction d with
  | zero =>
    intro x z p hx hz
    obtain ⟨z, rfl⟩ : ∃ j, z = j + 1 := ⟨z - 1, by omega⟩
    show m_X12_likeliest_b104 F _ _ _ _ _ _ = _
    unfold m_X12_likeliest_b104
    rw [ck_e r_isO, bd_e (rorders_e N' h2 h7 hF), if_pos (nI_le (by omega) (by omega))]
    rfl
  | succ d ih =>
    intro x z p hx hz
    obtain ⟨z, rfl⟩ : ∃ j, z = j + 1 := ⟨z - 1, by omega⟩
    have hxl : x < fct (hN h) := by omega
    show m_X12_likeliest_b104 F _ _ _ _ _ _ = _
    unfold m_X12_likeliest_b104
    rw [ck_e r_isO, bd_e (rorders_e N' h2 h7 hF), if_neg (nI_ge hxl (by omega)), rR_37, bd_some, rE_37 (by omega), bd_some, rR_35, bd_some, rE_35 (by omega), bd_some, nm_e2, h37 x hxl, h35 x hxl]
    by_cases c : 0 < lg_cmp (M1 x * M2 x) p.1
    · rw [if_pos c, nm_e2, nI_1, show lkR (fun x => M1 x * M2 x) (d + 1) x p = lkR (fun x => M1 x * M2 x) d (x + 1) (M1 x * M2 x, nI x) from congrArg (lkR _ d (x + 1)) (if_pos c)]
      exact ih (x + 1) z (M1 x * M2 x, nI x) (by omega) (by omega)
    · rw [if_neg c, nm_e2, nI_1, show lkR (fun x => M1 x * M2 x) (d + 1) x p = lkR (fun x => M1 x * M2 x) d (x + 1) p from congrArg (lkR _ d (x + 1)) (if_neg c)]
      exact ih (x + 1) z p (by omega) (by omega)
theorem okP_whole (ok : okH h) {i : Nat} (hi : i < (hC h).length) (hw : (hC h)[i].2.length = hN h) : okP (hN h) (hC h)[i].2 := by
  obtain ⟨-, hA, hA2, -⟩ := ok.2.2.1 _ (List.getElem_mem hi)
  exact ⟨hA.2, hA2, hw⟩
theorem k_likeliest (hF : 5041 ≤ F) (a k b m' : Int32) : KA sk (m_X11_likeliest F (some 100) a k b m') (m_X12_likeliest F (some 179) a k b m') := by
  intro f n z st m C R
  obtain ⟨T, D, sT, sD, sX, tq, iq, X⟩ := C.x
  obtain ⟨S, K, -, ⟨H, ok, -⟩, -⟩ := id X
  have td := X.td
  have h2 := ok.1.1
  have h7 := ok.1.2
  have h5 := fct_le (hN (mH m)) (by omega)
  have no : m_X11_likeliest F (some 100) a k b m' f n z = some (-2, f, n, z) → (¬ (isWh (mH m) a ∧ isWh (mH m) b) ∨ (k < 0 ∨ nI 6 ≤ k) ∨ (m' < 0 ∨ nI 6 ≤ m')) → ∃ v f' n' z' m'', m_X11_likeliest F (some 100) a k b m' f n z = some (v, f', n', z') ∧ n ≤ n' ∧ z ≤ z' ∧ (∀ a, 179 ≤ a → a < 204 → f' a = f a) ∧ CI sk f' n' z' m'' ∧ ∀ g, ∃ st', m_X12_likeliest F (some 179) a k b m' (ov g st) = some (v, ov g st') ∧ RI st' m'' := by
    intro e1 hr
    refine ⟨-2, f, n, z, m, e1, Nat.le_refl _, Nat.le_refl _, fun _ _ _ => rfl, C, fun g => ?_⟩
    obtain ⟨s1, q1, B1⟩ := rbeg (F := F) (g := g) (by omega) R 0
    refine ⟨s1, ?_, B1.1⟩
    unfold m_X12_likeliest
    rw [wI_0, bd_some, ck_e r_isO, bd_e q1, ck_e r_isO]
    by_cases w : isWh (mH m) a ∧ isWh (mH m) b
    · have hr := hr.resolve_left (fun c => c w)
      rw [bd_e (rareW_y (by omega) B1.2.2.1 ok w.1 w.2), if_neg (by decide), bd_e (risIn (k := 5) (M := 5) (by omega) rfl k)]
      by_cases c : k < 0 ∨ nI 6 ≤ k
      · rw [if_pos c, if_pos rfl]
      · rw [if_neg c, if_neg (by decide), bd_e (risIn (k := 5) (M := 5) (by omega) rfl m'), if_pos (hr.resolve_left c), if_pos rfl]
    · rw [bd_e (rareW_n (by omega) B1.2.2.1 ok w), if_pos rfl]
  rcases wholeAt_p (F := F) H ok a with ⟨wa, ea⟩ | ⟨i, hi, rfl, la, wa, ea⟩
  · refine no ?_ ?_
    · unfold m_X11_likeliest
      have eb : ∃ x, m_X4_wholeAt F (some T) b f = some x := by
        rcases wholeAt_p (F := F) H ok b with ⟨wb, eb⟩ | ⟨j, hj, rfl, lb, wb, eb⟩
        · exact ⟨_, eb⟩
        · exact ⟨_, eb⟩
      obtain ⟨x, eb⟩ := eb
      rw [bd_e (gR_s K rfl), ck_e (isO_e H.1)]
      refine grow_r ?_
      rw [bd_e ea, bd_e (gR_s K rfl), ck_e (isO_e H.1)]
      refine grow_r ?_
      rw [bd_e eb, if_pos rfl]
    · exact Or.inl (fun c => wa c.1)
  · rcases wholeAt_p (F := F) H ok b with ⟨wb, eb⟩ | ⟨j, hj, rfl, lb, wb, eb⟩
    · refine no ?_ ?_
      · unfold m_X11_likeliest
        rw [bd_e (gR_s K rfl), ck_e (isO_e H.1)]
        refine grow_r ?_
        rw [bd_e ea, bd_e (gR_s K rfl), ck_e (isO_e H.1)]
        refine grow_r ?_
        rw [bd_e eb, if_neg (by simp), if_pos rfl]
      · exact Or.inl (fun c => wb c.2)
    · rcases outin (k := 6) (by omega) k with hk | ⟨k, hk, rfl⟩
      · refine no ?_ ?_
        · unfold m_X11_likeliest
          rw [bd_e (gR_s K rfl), ck_e (isO_e H.1)]
          refine grow_r ?_
          rw [bd_e ea, bd_e (gR_s K rfl), ck_e (isO_e H.1)]
          refine grow_r ?_
          rw [bd_e eb, if_neg (by simp), if_neg (by simp)]
          refine grow_r ?_
          rw [bd_e (isW_e (k := 5) (M := 5) (by omega) rfl k), if_pos hk, if_pos rfl]
        · exact Or.inr (Or.inl hk)
      · rcases outin (k := 6) (by omega) m' with hm | ⟨l, hm, rfl⟩
        · refine no ?_ ?_
          · unfold m_X11_likeliest
            rw [bd_e (gR_s K rfl), ck_e (isO_e H.1)]
            refine grow_r ?_
            rw [bd_e ea, bd_e (gR_s K rfl), ck_e (isO_e H.1)]
            refine grow_r ?_
            rw [bd_e eb, if_neg (by simp), if_neg (by simp)]
            refine grow_r ?_
            rw [bd_e (isW_e (k := 5) (M := 5) (by omega) rfl _), if_neg (inin (by omega) hk), if_neg (by decide)]
            refine grow_r ?_
            rw [bd_e (isW_e (k := 5) (M := 5) (by omega) rfl m'), if_pos hm, if_pos rfl]
          · exact Or.inr (Or.inr hm)
        · have pa := okP_whole ok hi la
          have pb := okP_whole ok hj lb
          obtain ⟨o, f1, n1, z1, tq1, o1, hn, hz, X1, eo, O, ho, fr⟩ := orders_e (F := F) hF X
          obtain ⟨S1, K1, -, ⟨H1, -⟩, -⟩ := id X1
          have u1 := onumberOf_e (F := F) O S1 h7 (by omega) (H1.copy hi) (pa.L h7) la
          obtain ⟨g1, g2, f2, e2, w2, O2, X2, fr2⟩ := cspread (F := F) hF X1 eo O ho pa.rk (k := k) (by omega)
          obtain ⟨q, e3, a3⟩ := keep_e (F := F) w2 O2 h7 (by omega)
          have O3 := O2.kp q
          have X3 : CIx sk (va_up f2 (o + 6) (rowJ (fct (hN (mH m))) q)) n1 z1 m T D sT sD sX tq1 iq := X2.ord (by omega) eo O3 (fun a ha => up_n (by omega))
          obtain ⟨S3, K3, -, ⟨H3, -⟩, -⟩ := id X3
          have u3 := onumberOf_e (F := F) O3 S3 h7 (by omega) (H3.copy hj) (pb.L h7) lb
          obtain ⟨w, v1, v2⟩ := H3.2.2.2.1
          obtain ⟨f4, e4, w4, fr4⟩ := spread_e (F := F) h2 h7 hF (by omega) O3 (w := T + 3) (g := w) (W := wI (mH m)) v1 v2 (by omega) pb.rk (k := l) (by omega) (by omega)
          have O4 := O3.re w4 fr4
          have X4 : CIx sk f4 n1 z1 m T D sT sD sX tq1 iq := X3.ord (by omega) eo O4 (fun a ha => fr4 a (by omega) (by omega) (by omega))
          have k4 : f4 (o + 6) = rowJ (fct (hN (mH m))) q := (fr4 _ (by omega) (by omega) (by omega)).trans up_s
          have fin := clk_L (F := F) h7 w4 O4 k4 a3 n1 z1 (fct (hN (mH m))) 0 F (0, -1) (by omega) (by omega)
          generalize hp : lkR (fun x => sprK (hN (mH m)) (wI (mH m)) (rkT (hC (mH m))[i].2) k x * sprK (hN (mH m)) (wI (mH m)) (rkT (hC (mH m))[j].2) l x) (fct (hN (mH m))) 0 (0, -1) = p at fin
          have cls : ∀ v f', m_X11_likeliest_B162 F (some 100) p.1 p.2 f4 n1 z1 = some (v, f', n1, z1) → m_X11_likeliest F (some 100) (nI i) (nI k) (nI j) (nI l) f n z = some (v, f', n1, z1) := by
            intro v f' hv
            unfold m_X11_likeliest
            rw [bd_e (gR_s K rfl), ck_e (isO_e H.1)]
            refine grow_s ?_ hn hz
            rw [bd_e ea, bd_e (gR_s K rfl), ck_e (isO_e H.1)]
            refine grow_s ?_ hn hz
            rw [bd_e eb, if_neg (by simp), if_neg (by simp)]
            refine grow_s ?_ hn hz
            rw [bd_e (isW_e (k := 5) (M := 5) (by omega) rfl _), if_neg (inin (by omega) hk), if_neg (by decide)]
            refine grow_s ?_ hn hz
            rw [bd_e (isW_e (k := 5) (M := 5) (by omega) rfl _), if_neg (inin (by omega) hm), if_neg (by decide), ck_e (isO_e K), bd4_e o1, ck_e (decide_eq_true ⟨hn, hz⟩)]
            refine grow_r ?_
            rw [ck_e O.O]
            refine grow_r ?_
            rw [bd_e u1, bd_e g1, bd_e g2, ck_e O.O]
            refine grow_r ?_
            rw [bd_e e2, ck_e O2.O]
            refine grow_r ?_
            rw [bd_e e3, ck_e O3.O]
            refine grow_r ?_
            rw [bd_e u3, bd_e (gR_s K3 rfl), bd_e (gR_s H3.1 rfl), ck_e O3.O]
            refine grow_r ?_
            rw [bd_e e4]
            exact fin.trans hv
          have ref : ∀ v m1, (∀ g s1, RB s1 m → ∃ s2, m_X12_likeliest_B155 F (some 179) p.2 p.1 (ov g s1) = some (v, ov g s2) ∧ RI s2 m1) → ∀ g, ∃ st', m_X12_likeliest F (some 179) (nI i) (nI k) (nI j) (nI l) (ov g st) = some (v, ov g st') ∧ RI st' m1 := by
            intro v m1 hv g
            obtain ⟨s1, q1, B1⟩ := rbeg (F := F) (g := g) (by omega) R 0
            obtain ⟨s2, q2, r2⟩ := rordOf_L (F := F) (g := g) (by omega) B1.2.2.1 ok hi la (hN (mH m)) 0 F s1 (by omega) (by omega) (Rs.refl _ _) (fun _ _ c => absurd c (Nat.not_lt_zero _))
            have B2 : RB s2 m := B1.cg (r2.cg.mono (by decide) (by decide) (by decide))
            obtain ⟨s3, q3, r3, B3, a3⟩ := rspread (F := F) (g := g) hF ok B2 pa.rk (k := k) (by omega)
            obtain ⟨s4, q4, r4, a4⟩ := rlk_54 (F := F) (g := g) (v3 := nI j) (v4 := nI l) (by omega) B3.2.2.1 (by omega) h7 (fct (hN (mH m))) 0 F s3 (by omega) (by omega) (Cg.refl _ _ _ _) (fun _ c => absurd c (Nat.not_lt_zero _))
            have B4 : RB s4 m := B3.cg (r4.mono (by decide) (by decide) (by decide))
            obtain ⟨s5, q5, r5⟩ := rordOf_L (F := F) (g := g) (by omega) B4.2.2.1 ok hj lb (hN (mH m)) 0 F s4 (by omega) (by omega) (Rs.refl _ _) (fun _ _ c => absurd c (Nat.not_lt_zero _))
            have B5 : RB s5 m := B4.cg (r5.cg.mono (by decide) (by decide) (by decide))
            obtain ⟨s6, q6, r6, B6, a6⟩ := rspread (F := F) (g := g) hF ok B5 pb.rk (k := l) (by omega)
            have a37 : agr (fct (hN (mH m))) (sL s6 37) (sprK (hN (mH m)) (wI (mH m)) (rkT (hC (mH m))[i].2) k) := fun x hx => by
              rw [r6.L (by decide), r5.L, a4 x hx, a3 x hx]
            have fin := rlk_104 (F := F) (g := g) (by omega) B6.2.2.1 (by omega) h7 a37 a6 (fct (hN (mH m))) 0 F (0, -1) (by omega) (by omega)
            rw [hp] at fin
            obtain ⟨s7, q7, r7⟩ := hv g s6 B6
            refine ⟨s7, ?_, r7⟩
            unfold m_X12_likeliest
            rw [wI_0, bd_some, ck_e r_isO, bd_e q1, ck_e r_isO, bd_e (rareW_y (by omega) B1.2.2.1 ok wa wb), if_neg (by decide), bd_e (risIn (k := 5) (M := 5) (by omega) rfl _), if_neg (inin (by omega) hk), if_neg (by decide), bd_e (risIn (k := 5) (M := 5) (by omega) rfl _), if_neg (inin (by omega) hm), if_neg (by decide), ck_e r_isO, bd2_e (show m_X12_orderOf F (some 179) (nI i) (ov g s1) = _ from q2), ck_e r_isO, bd_e q3]
            refine Eq.trans q4 ?_
            unfold m_X12_likeliest_B83
            rw [ck_e r_isO, bd2_e (show m_X12_orderOf F (some 179) (nI j) (ov g s4) = _ from q5), ck_e r_isO, bd_e q6]
            exact fin.trans q7
          have frx : ∀ a, a < 204 → a ≠ 167 → f4 a = f a := fun a a1 a2 => (fr4 a (by omega) (by omega) (by omega)).trans ((up_n (by omega)).trans ((fr2 a a1).trans (fr a a1 a2)))
          by_cases c : p.2 = -1
          · refine ⟨p.2, f4, n1, z1, m, cls _ _ ?_, hn, hz, fun a a1 a2 => frx a a2 (by omega), X4.ci, ref _ _ (fun g s1 B1 => ⟨s1, ?_, B1.1⟩)⟩
            · unfold m_X11_likeliest_B162
              rw [if_pos c]
            · unfold m_X12_likeliest_B155
              rw [if_pos c]
          · refine ⟨p.2, va_up f4 100 (some (.inl (9, kC T D sX (nI (mT m)) (nI (mF m)) p.1))), n1, z1, (mB m, mT m, mH m, mP m, mF m, p.1, mM m, mS m, mI m), cls _ _ ?_, hn, hz, fun a a1 a2 => (up_n (by omega)).trans (frx a a2 (by omega)), (X4.lk p.1).ci, ref _ _ (fun g s1 B1 => ⟨uJ s1 40 p.1, ?_, B1.1.lk p.1⟩)⟩
            · unfold m_X11_likeliest_B162
              rw [if_neg c, bd_e (pV_e X4.2.1 (Nat.le_of_ble_eq_true rfl))]
              rfl
            · unfold m_X12_likeliest_B155
              rw [if_neg c, wJ_40, bd_some]
end C14
