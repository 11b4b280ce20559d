/-! order, song, sense, mended, join, better -/
variable {sk : Nat}
theorem grow_r {α : Type} {n z : Nat} {k : Option (α × Hp × Nat × Nat)} {v : α} {f : Hp} (hk : k = some (v, f, n, z)) : grow pr4 n z k = some (v, f, n, z) := grow_s hk (Nat.le_refl _) (Nat.le_refl _)
/-- the value least of all that may be taken, and its place -/
def srch (P : Nat → Bool) (v : Nat → Nat) : Nat → Nat → Nat × Nat → Nat × Nat
  | 0, _, s => s
  | d + 1, x, s => srch P v d (x + 1) (if P x && decide (v x < s.1) then (v x, x) else s)
def fI (s : Nat × Nat) : Int32 := if s.1 = 1000000 then (-1 : Int32) else nI s.2
def lI (s : Nat × Nat) : Int32 := if s.1 = 1000000 then (0 : Int32) else nI s.1
section C4
variable {F : Nat} {g : Hp} {st : RS} {h : HS}
theorem rlay26 (hF : 8 ≤ F) (N : NW (sA st 14) h) (h2 : 1 ≤ hN h) (h7 : hN h ≤ 7) {x : Nat} (hx : x < fct (hN h)) : ∃ st', m_X12_layOrder F (some 179) (nI x) (some 190) (ov g st) = some (ov g st') ∧ Rs [24, 25, 26] st st' ∧ PL (sA st' 26) (unrk (hN h) x) ∧ LY st' (unrk (hN h) x) := layOrder_e (F := F) (g := g) hF N h2 h7 hx (k := 26) (Or.inl rfl)
theorem rlay27 (hF : 8 ≤ F) (N : NW (sA st 14) h) (h2 : 1 ≤ hN h) (h7 : hN h ≤ 7) {x : Nat} (hx : x < fct (hN h)) : ∃ st', m_X12_layOrder F (some 179) (nI x) (some 191) (ov g st) = some (ov g st') ∧ Rs [24, 25, 27] st st' ∧ PL (sA st' 27) (unrk (hN h) x) ∧ LY st' (unrk (hN h) x) := layOrder_e (F := F) (g := g) hF N h2 h7 hx (k := 27) (Or.inr rfl)
theorem rcopy26 (hF : 8 ≤ F) (N : NW (sA st 14) h) (ok : okH h) {c : Nat} (hc : c < (hC h).length) : ∃ st', m_X12_layCopy F (some 179) (nI c) (some 190) (ov g st) = some (ov g st') ∧ Rs [26] st st' ∧ PL (sA st' 26) (hC h)[c].2 := layCopy_e (F := F) (g := g) hF N ok hc (k := 26) (Or.inl rfl)
theorem rcopy27 (hF : 8 ≤ F) (N : NW (sA st 14) h) (ok : okH h) {c : Nat} (hc : c < (hC h).length) : ∃ st', m_X12_layCopy F (some 179) (nI c) (some 191) (ov g st) = some (ov g st') ∧ Rs [27] st st' ∧ PL (sA st' 27) (hC h)[c].2 := layCopy_e (F := F) (g := g) hF N ok hc (k := 27) (Or.inr rfl)
theorem k_order (hF : 5041 ≤ F) (x i : Int32) : KA sk (m_X11_order F (some 100) x i) (m_X12_order F (some 179) x i) := by
  intro f n z st m C R
  obtain ⟨T, D, sT, sD, sX, tq, iq, C⟩ := C.x
  obtain ⟨o, f', n', z', tq', e1, hn, hz, C', eo, O, ho, fr⟩ := orders_e (F := F) hF C
  have K := C.2.1
  have ok := C.2.2.2.1.2.1
  have h2 := ok.1.1
  have h7 := ok.1.2
  have h5 := fct_le (hN (mH m)) (by omega)
  have cl : ∀ v, ((m_X6_has F (some o) x f').bind fun x10 => if x10 = 0 then (some ((-1 : Int32), f', n', z')) else (if i < 0 then (some ((-1 : Int32), f', n', z')) else ((gI f' (some o) 5 0).bind fun x13 => if i < x13 then ((gR f' (some o) 5 3).bind fun x15 => (ldI f' 1 x15 x).bind fun x16 => grow pr4 (n') (z') <| (m_X11_lineOf F x16 i f').bind fun x18 => some (x18, f', n', z')) else (some ((-1 : Int32), f', n', z'))))) = some (v, f', n', z') → m_X11_order F (some 100) x i f n z = some (v, f', n', z') := by
    intro v hv
    unfold m_X11_order
    rw [ck_e (isO_e K), bd4_e e1, ck_e (decide_eq_true ⟨hn, hz⟩)]
    refine grow_r ?_
    rw [ck_e O.O]
    exact grow_r hv
  have mk : ∀ v, m_X11_order F (some 100) x i f n z = some (v, f', n', z') → (∀ g, ∃ st', m_X12_order F (some 179) x i (ov g st) = some (v, ov g st') ∧ RI st' m) → ∃ v f' n' z' m', m_X11_order F (some 100) x i f n z = some (v, f', n', z') ∧ n ≤ n' ∧ z ≤ z' ∧ (∀ a, 179 ≤ a → a < 204 → f' a = f a) ∧ CI sk f' n' z' m' ∧ ∀ g, ∃ st', m_X12_order F (some 179) x i (ov g st) = some (v, ov g st') ∧ RI st' m' := fun v h1 h3 => ⟨v, f', n', z', m, h1, hn, hz, fun a q1 q2 => fr a q2 (by omega), C'.ci, h3⟩
  rcases outin (k := fct (hN (mH m))) (by omega) x with hx | ⟨j, hj, rfl⟩
  · refine mk (-1) (cl _ ?_) (fun g => ?_)
    · rw [bd_e (ohas_e O x), if_pos hx, if_pos rfl]
    · obtain ⟨s1, q1, B1⟩ := rbeg (F := F) (g := g) (by omega) R 0
      refine ⟨s1, ?_, B1.1⟩
      unfold m_X12_order
      rw [wI_0, bd_some, ck_e r_isO, bd_e q1, ck_e r_isO, bd_e (risOrder_e B1.2.2.1 (by omega) h7 (by omega) x), if_pos hx, if_pos rfl]
  · rcases outin (k := hN (mH m)) (by omega) i with hi | ⟨k, hk, rfl⟩
    · refine mk (-1) (cl _ ?_) (fun g => ?_)
      · rw [bd_e (ohas_e O _), if_neg (inin (by omega) hj), if_neg (by decide)]
        by_cases q : i < 0
        · rw [if_pos q]
        · rw [if_neg q, bd_e O.lines, if_neg]
          intro c
          rcases hi with hi | hi
          · exact q hi
          · exact absurd c (by rw [Int32.not_lt]; exact hi)
      · obtain ⟨s1, q1, B1⟩ := rbeg (F := F) (g := g) (by omega) R 0
        refine ⟨s1, ?_, B1.1⟩
        unfold m_X12_order
        rw [wI_0, bd_some, ck_e r_isO, bd_e q1, ck_e r_isO, bd_e (risOrder_e B1.2.2.1 (by omega) h7 (by omega) _), if_neg (inin (by omega) hj), if_neg (by decide)]
        by_cases q : i < 0
        · rw [if_pos q]
        · rw [if_neg q, ck_e r_isO, bd_e (rlines_e B1.2.2.1), if_neg]
          intro c
          rcases hi with hi | hi
          · exact q hi
          · exact absurd c (by rw [Int32.not_lt]; exact hi)
    · have hP := unrk_ok hj
      have hkl : k < (unrk (hN (mH m)) j).length := by rw [hP.2.2]; exact hk
      refine mk (nI (unrk (hN (mH m)) j)[k]) (cl _ ?_) (fun g => ?_)
      · rw [bd_e (ohas_e O _), if_neg (inin (by omega) hj), if_neg (by decide), if_neg (nI_pos (by omega)), bd_e O.lines, if_pos (nI_lt hk (by omega)), O.pk h7 hj]
        refine grow_r ?_
        rw [bd_e (lineOf_L F f' (hP.L h7) hkl)]
      · obtain ⟨s1, q1, B1⟩ := rbeg (F := F) (g := g) (by omega) R 0
        obtain ⟨s2, q2, r2, y2⟩ := rlay_e (F := F) (g := g) B1.2.2.1 (by omega) h7 (by omega) hj
        refine ⟨s2, ?_, (B1.cg (r2.cg.mono (by simp) (by decide) (by simp))).1⟩
        unfold m_X12_order
        rw [wI_0, bd_some, ck_e r_isO, bd_e q1, ck_e r_isO, bd_e (risOrder_e B1.2.2.1 (by omega) h7 (by omega) _), if_neg (inin (by omega) hj), if_neg (by decide), if_neg (nI_pos (by omega)), ck_e r_isO, bd_e (rlines_e B1.2.2.1), if_pos (nI_lt hk (by omega)), ck_e r_isO, bd_e q2, rR_24, bd_some, rE_24 (by omega), bd_some, (y2 k hkl).1]
theorem k_song (hF : 5041 ≤ F) (x : Int32) : KA sk (m_X11_song F (some 100) x) (m_X12_song F (some 179) x) := by
  intro f n z st m C R
  obtain ⟨T, D, sT, sD, sX, tq, iq, C⟩ := C.x
  obtain ⟨o, f', n', z', tq', e1, hn, hz, C', eo, O, ho, fr⟩ := orders_e (F := F) hF C
  have K := C.2.1
  have ok := C.2.2.2.1.2.1
  have K' := C'.2.1
  have H' := C'.2.2.2.1.1
  have h2 := ok.1.1
  have h7 := ok.1.2
  have h5 := fct_le (hN (mH m)) (by omega)
  rcases outin (k := fct (hN (mH m))) (by omega) x with hx | ⟨j, hj, rfl⟩
  · refine ⟨-1, f', n', z', m, ?_, hn, hz, fun a q1 q2 => fr a q2 (by omega), C'.ci, fun g => ?_⟩
    · unfold m_X11_song
      rw [ck_e (isO_e K), bd4_e e1, ck_e (decide_eq_true ⟨hn, hz⟩)]
      refine grow_r ?_
      rw [ck_e O.O]
      refine grow_r ?_
      rw [bd_e (ohas_e O x), if_pos hx, if_pos rfl]
    · obtain ⟨s1, q1, B1⟩ := rbeg (F := F) (g := g) (by omega) R 0
      refine ⟨s1, ?_, B1.1⟩
      unfold m_X12_song
      rw [wI_0, bd_some, ck_e r_isO, bd_e q1, ck_e r_isO, bd_e (risOrder_e B1.2.2.1 (by omega) h7 (by omega) x), if_pos hx, if_pos rfl]
  · have hP := unrk_ok hj
    have hs : m_X4_songOf F (some T) (nI (pkN (unrk (hN (mH m)) j))) (nI (hN (mH m))) f' = some (nI (sngR (hR (mH m)) (unrk (hN (mH m)) j))) := by
      have := songOf_e (F := F) H' ok (hP.L h7) (by omega)
      rw [hP.2.2] at this
      exact this
    refine ⟨nI (sngR (hR (mH m)) (unrk (hN (mH m)) j)), f', n', z', m, ?_, hn, hz, fun a q1 q2 => fr a q2 (by omega), C'.ci, fun g => ?_⟩
    · unfold m_X11_song
      rw [ck_e (isO_e K), bd4_e e1, ck_e (decide_eq_true ⟨hn, hz⟩)]
      refine grow_r ?_
      rw [ck_e O.O]
      refine grow_r ?_
      rw [bd_e (ohas_e O _), if_neg (inin (by omega) hj), if_neg (by decide), bd_e (gR_s K' rfl), O.pk h7 hj, bd_e O.lines, ck_e (isO_e H'.1)]
      refine grow_r ?_
      rw [bd_e hs]
    · obtain ⟨s1, q1, B1⟩ := rbeg (F := F) (g := g) (by omega) R 0
      obtain ⟨s2, q2, r2, pa, -⟩ := rlay26 (F := F) (g := g) (by omega) B1.2.2.1 (by omega) h7 hj
      refine ⟨s2, ?_, (B1.cg (r2.cg.mono (by simp) (by decide) (by simp))).1⟩
      unfold m_X12_song
      rw [wI_0, bd_some, ck_e r_isO, bd_e q1, ck_e r_isO, bd_e (risOrder_e B1.2.2.1 (by omega) h7 (by omega) _), if_neg (inin (by omega) hj), if_neg (by decide), rR_26, bd_some, ck_e r_isO, bd_e q2, rR_26, bd_some, ck_e r_isO, bd_e (rsongOf_e (by omega) (by rw [r2.A (by decide)]; exact B1.2.2.1) ok (hP.L h7) pa)]
/-! sense -/
def snR (P : Nat → Bool) (k : Int32) : Nat → Nat → Nat → Int32
  | 0, _, s => if k = -1 then nI s else -1
  | d + 1, x, s => if P x then (if nI s = k then nI x else snR P k d (x + 1) (s + 1)) else snR P k d (x + 1) s
theorem sense_L {f : Hp} {T D sX s o : Nat} {tl lf : Int32} {ll : Int64} (K : KAt f T D sX tl lf ll) (H : HAt f T s h) (ok : okH h) (O : OAt f o (hN h)) (hF : 16 ≤ F) (k : Int32) (n z : Nat) : ∀ (d x w q : Nat), x + d = fct (hN h) → d < w → m_X11_sense_L10 F w (some 100) k (some o) (nI q) (nI x) f n z = some (snR (fun x => keeps (hS h) (unrk (hN h) x)) k d x q, f, n, z) := by
  have h7 := ok.1.2
  have h5 := fct_le (hN h) (by omega)
  intro d
  induction d with
  | zero =>
    intro x w q hx hw
    obtain ⟨w, rfl⟩ : ∃ j, w = j + 1 := ⟨w - 1, by omega⟩
    show m_X11_sense_b10 F _ _ _ _ _ _ _ _ _ = _
    unfold m_X11_sense_b10 m_X11_sense_B57
    rw [bd_e O.total, if_pos (nI_le (by omega) (by omega))]
    show _ = some (if k = -1 then nI q else -1, f, n, z)
    by_cases c : k = -1
    · rw [if_pos c, if_pos c]
    · rw [if_neg c, if_neg c]
  | succ d ih =>
    intro x w q hx hw
    obtain ⟨w, rfl⟩ : ∃ j, w = j + 1 := ⟨w - 1, by omega⟩
    have hxl : x < fct (hN h) := by omega
    have hP := unrk_ok hxl
    have ek : m_X4_keepsSense F (some T) (nI (bitsOf 21 (tnB (unrk (hN h) x)))) (nI (bitsOf 21 (allP (hN h)))) f = some (if keeps (hS h) (unrk (hN h) x) then 1 else 0) := by
      rw [← allP_perm hP]
      exact keepsSense_e H ok hF
    show m_X11_sense_b10 F _ _ _ _ _ _ _ _ _ = some (if keeps (hS h) (unrk (hN h) x) = true then (if nI q = k then nI x else snR _ k d (x + 1) (q + 1)) else snR _ k d (x + 1) q, f, n, z)
    unfold m_X11_sense_b10
    rw [bd_e O.total, if_neg (nI_ge hxl (by omega)), bd_e (gR_s K rfl), O.tn h7 hxl, bd_e O.pairs, ck_e (isO_e H.1)]
    refine grow_r ?_
    rw [bd_e ek]
    by_cases c : keeps (hS h) (unrk (hN h) x) = true
    · rw [if_pos c, if_pos c, if_neg (by decide)]
      by_cases c2 : nI q = k
      · rw [if_pos c2, if_pos c2]
      · rw [if_neg c2, if_neg c2, nm_e2, nm_e2, nI_1, nI_1]
        exact ih (x + 1) w (q + 1) (by omega) (by omega)
    · rw [if_neg c, if_neg c, if_pos rfl, nm_e2, nI_1]
      exact ih (x + 1) w q (by omega) (by omega)
theorem rsense_L (N : NW (sA st 14) h) (ok : okH h) (hF : 16 ≤ F) (k : Int32) : ∀ (d x w q : Nat) (st' : RS), x + d = fct (hN h) → d < w → Rs [24, 25, 26] st st' → ∃ st'', m_X12_sense_L20 F w (some 179) k (nI q) (nI x) (ov g st') = some (snR (fun x => keeps (hS h) (unrk (hN h) x)) k d x q, ov g st'') ∧ Rs [24, 25, 26] st st'' := by
  have h2 := ok.1.1
  have h7 := ok.1.2
  have h5 := fct_le (hN h) (by omega)
  intro d
  induction d with
  | zero =>
    intro x w q st' hx hw C
    obtain ⟨w, rfl⟩ : ∃ j, w = j + 1 := ⟨w - 1, by omega⟩
    refine ⟨st', ?_, C⟩
    show m_X12_sense_b20 F _ _ _ _ _ _ = _
    unfold m_X12_sense_b20 m_X12_sense_B67
    rw [ck_e r_isO, bd_e (rorders_e (by rw [C.A (by decide)]; exact N) (by omega) h7 (by omega)), if_pos (nI_le (by omega) (by omega))]
    show _ = some (if k = -1 then nI q else -1, ov g st')
    by_cases c : k = -1
    · rw [if_pos c, if_pos c]
    · rw [if_neg c, if_neg c]
  | succ d ih =>
    intro x w q st' hx hw C
    obtain ⟨w, rfl⟩ : ∃ j, w = j + 1 := ⟨w - 1, by omega⟩
    have hxl : x < fct (hN h) := by omega
    have hP := unrk_ok hxl
    have N' : NW (sA st' 14) h := by rw [C.A (by decide)]; exact N
    obtain ⟨s2, q2, r2, pa, -⟩ := rlay26 (F := F) (g := g) (by omega) N' (by omega) h7 hxl
    have N2 : NW (sA s2 14) h := by rw [r2.A (by decide)]; exact N'
    have CC := C.trans r2
    show ∃ st'', m_X12_sense_b20 F _ _ _ _ _ _ = some (if keeps (hS h) (unrk (hN h) x) = true then (if nI q = k then nI x else snR _ k d (x + 1) (q + 1)) else snR _ k d (x + 1) q, _) ∧ _
    unfold m_X12_sense_b20
    rw [ck_e r_isO, bd_e (rorders_e N' (by omega) h7 (by omega)), if_neg (nI_ge hxl (by omega)), rR_26, bd_some, ck_e r_isO, bd_e q2, rR_26, bd_some, ck_e r_isO, bd_e (rhasSense_e hF N2 ok (hP.L h7) pa)]
    by_cases c : keeps (hS h) (unrk (hN h) x) = true
    · rw [if_pos c, if_pos c, if_neg (by decide)]
      by_cases c2 : nI q = k
      · rw [if_pos c2, if_pos c2]
        exact ⟨s2, rfl, CC⟩
      · rw [if_neg c2, if_neg c2, nm_e2, nm_e2, nI_1, nI_1]
        exact ih (x + 1) w (q + 1) s2 (by omega) (by omega) CC
    · rw [if_neg c, if_neg c, if_pos rfl, nm_e2, nI_1]
      exact ih (x + 1) w q s2 (by omega) (by omega) CC
theorem snR_no {P : Nat → Bool} {k : Int32} (hk : k < -1) : ∀ d x s, x + d < 2 ^ 20 → s ≤ x → snR P k d x s = -1
  | 0, x, s, _, _ => if_neg (fun e => by rw [e] at hk; exact absurd hk (by decide))
  | d + 1, x, s, h, hs => by
    show (if P x then _ else _) = _
    split
    · rw [if_neg (fun e => by
        have : nI s < 0 := by rw [e]; exact Int32.lt_trans hk (by decide)
        exact nI_pos (by omega) this)]
      exact snR_no hk d (x + 1) (s + 1) (by omega) (by omega)
    · exact snR_no hk d (x + 1) s (by omega) (by omega)
theorem k_sense (hF : 5041 ≤ F) (k : Int32) : KA sk (m_X11_sense F (some 100) k) (m_X12_sense F (some 179) k) := by
  intro f n z st m C R
  obtain ⟨T, D, sT, sD, sX, tq, iq, C⟩ := C.x
  obtain ⟨o, f', n', z', tq', e1, hn, hz, C', eo, O, ho, fr⟩ := orders_e (F := F) hF C
  have K := C.2.1
  have ok := C.2.2.2.1.2.1
  have h2 := ok.1.1
  have h7 := ok.1.2
  have h5 := fct_le (hN (mH m)) (by omega)
  refine ⟨snR (fun x => keeps (hS (mH m)) (unrk (hN (mH m)) x)) k (fct (hN (mH m))) 0 0, f', n', z', m, ?_, hn, hz, fun a q1 q2 => fr a q2 (by omega), C'.ci, fun g => ?_⟩
  · unfold m_X11_sense
    rw [ck_e (isO_e K), bd4_e e1, ck_e (decide_eq_true ⟨hn, hz⟩)]
    refine grow_r ?_
    exact sense_L C'.2.1 C'.2.2.2.1.1 ok O (by omega) k n' z' (fct (hN (mH m))) 0 F 0 (by omega) (by omega)
  · obtain ⟨s1, q1, B1⟩ := rbeg (F := F) (g := g) (by omega) R 0
    unfold m_X12_sense
    rw [wI_0, bd_some, ck_e r_isO, bd_e q1]
    by_cases c : (-1 : Int32) ≤ k
    · rw [if_pos c]
      obtain ⟨s2, i1, i2⟩ := rsense_L (F := F) (g := g) B1.2.2.1 ok (by omega) k (fct (hN (mH m))) 0 F 0 s1 (by omega) (by omega) (Rs.refl _ _)
      exact ⟨s2, i1, (B1.cg (i2.cg.mono (by simp) (by decide) (by simp))).1⟩
    · rw [if_neg c, snR_no (Int32.not_le.mp c) _ _ _ (by omega) (Nat.le_refl _)]
      exact ⟨s1, rfl, B1.1⟩
end C4
