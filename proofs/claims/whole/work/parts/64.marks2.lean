/-! marks -/
variable {sk : Nat}
def mkG (m : Nat) (i : Nat) : Int32 := nI (i % m)
/-- the fewest MARKS in turn, of m and more -/
def mkV (N k : Nat) : Nat → Nat → Int32
  | 0, _ => -1
  | d + 1, m => if mhR (mkG m) N k (fct N - 1) 1 = true then nI m else mkV N k d (m + 1)
section C18
variable {F : Nat} {g : Hp} {st : RS} {h : HS} {f : Hp} {T D sX s o : Nat} {tl lf : Int32} {ll : Int64}
theorem cmk_32 {rc : Option Nat → Int32 → Option Nat → Int32 → Hp → Nat → Nat → Option (Int32 × Hp × Nat × Nat)} {n z m : Nat} {k : Int32} {oo : Option Nat} (ok : okH h) (hT : T < 142) (h1 : 1 ≤ m) (hm : m < 100) : ∀ (d i w : Nat) (f : Hp) (q : Nat → Int32), i + d = hN h → d < w → KAt f T D sX tl lf ll → HAt f T s h → f 178 = some (.inr (1, 7, .inl q)) → (∀ j, j < i → q j = mkG m j) → ∃ f' q', m_X11_marks_L32 F rc w (some 100) k oo (nI m) (nI i) f n z = m_X11_marks_B68 F rc (some 100) k oo (nI m) f' n z ∧ (∀ a, a ≠ 178 → f' a = f a) ∧ f' 178 = some (.inr (1, 7, .inl q')) ∧ ∀ j, j < hN h → q' j = mkG m j := by
  have h7 := ok.1.2
  intro d
  induction d with
  | zero =>
    intro i w f q hi hw K H e hq
    obtain ⟨w, rfl⟩ : ∃ j, w = j + 1 := ⟨w - 1, by omega⟩
    refine ⟨f, q, ?_, fun _ _ => rfl, e, fun j hj => hq j (by omega)⟩
    show m_X11_marks_b32 F _ _ _ _ _ _ _ _ _ _ = _
    unfold m_X11_marks_b32
    rw [bd_e (gR_s K rfl), bd_e (gI_e H.1 rfl), if_pos (nI_le (by omega) (by omega))]
  | succ d ih =>
    intro i w f q hi hw K H e hq
    obtain ⟨w, rfl⟩ : ∃ j, w = j + 1 := ⟨w - 1, by omega⟩
    obtain ⟨f', q', i1, i2, i3, i4⟩ := ih (i + 1) w (va_up f 178 (some (.inr (1, 7, .inl (upd q i (mkG m i)))))) (upd q i (mkG m i)) (by omega) (by omega) (K.frame (up_n (by decide))) (H.frame (fun a _ _ _ => up_n (by omega)) ok) up_s (fun j hj => by
      by_cases c : j = i
      · rw [c, upd_s]
      · rw [upd_n c]; exact hq j (by omega))
    refine ⟨f', q', ?_, fun a ha => (i2 a ha).trans (up_n ha), i3, i4⟩
    refine Eq.trans ?_ i1
    show m_X11_marks_b32 F _ _ _ _ _ _ _ _ _ _ = _
    unfold m_X11_marks_b32
    rw [bd_e (gR_s K rfl), bd_e (gI_e H.1 rfl), if_neg (nI_ge (by omega) (by omega)), if_neg (lim7 (by omega)), bd_e (gR_s K rfl), ck_e (decide_eq_true (nI_ne0 (by omega) (by omega))), irm_e (by omega) (by omega) (by omega), bd_e (stI1 e (by omega) (by omega) (by decide)), nm_e2, nI_1]
    rfl
theorem cmk_18 {n z k : Nat} (hk : k < 10) (ok : okH h) (hF : 5041 ≤ F) (hT : T < 142) (ho : 204 ≤ o) : ∀ (d m w : Nat) (f : Hp) (q : Nat → Int32), m + d = hN h + 1 → 1 ≤ m → d < w → KAt f T D sX tl lf ll → HAt f T s h → OAt f o (hN h) → f 178 = some (.inr (1, 7, .inl q)) → ∃ f' q', m_X11_marks_L18 F w (some 100) (nI k) (some o) (nI m) f n z = some (mkV (hN h) k d m, f', n, z) ∧ (∀ a, a ≠ 178 → f' a = f a) ∧ f' 178 = some (.inr (1, 7, .inl q')) := by
  have h7 := ok.1.2
  have h2 := ok.1.1
  have h0 := fct_pos (hN h)
  intro d
  induction d with
  | zero =>
    intro m w f q hm h1 hw K H O e
    obtain ⟨w, rfl⟩ : ∃ j, w = j + 1 := ⟨w - 1, by omega⟩
    refine ⟨f, q, ?_, fun _ _ => rfl, e⟩
    show m_X11_marks_b18 F _ _ _ _ _ _ _ _ = _
    unfold m_X11_marks_b18
    rw [bd_e (gR_s K rfl), bd_e (gI_e H.1 rfl), if_pos (nI_lt (by omega) (by omega))]
    rfl
  | succ d ih =>
    intro m w f q hm h1 hw K H O e
    obtain ⟨w, rfl⟩ : ∃ j, w = j + 1 := ⟨w - 1, by omega⟩
    obtain ⟨f1, q1, e1, fr1, k1, k2⟩ := cmk_32 (F := F) (rc := m_X11_marks_L18 F w) (n := n) (z := z) (k := nI k) (oo := some o) ok hT h1 (by omega) (hN h) 0 F f q (by omega) (by omega) K H e (fun _ c => absurd c (Nat.not_lt_zero _))
    have K1 : KAt f1 T D sX tl lf ll := K.frame (fr1 _ (by decide))
    have H1 : HAt f1 T s h := H.frame (fun a _ _ _ => fr1 a (by omega)) ok
    have O1 : OAt f1 o (hN h) := O.frame (fun a _ _ => fr1 a (by omega))
    have mh := marksHold_e (F := F) O1 h7 hF k1 (k := k) (by omega)
    rw [mhR_ext k2 (fct (hN h) - 1) 1 (by omega)] at mh
    have st0 : m_X11_marks_L18 F (w + 1) (some 100) (nI k) (some o) (nI m) f n z = m_X11_marks_B68 F (m_X11_marks_L18 F w) (some 100) (nI k) (some o) (nI m) f1 n z := by
      show m_X11_marks_b18 F _ _ _ _ _ _ _ _ = _
      unfold m_X11_marks_b18
      rw [bd_e (gR_s K rfl), bd_e (gI_e H.1 rfl), if_neg (nI_nlt (by omega) (by omega))]
      exact e1
    rw [st0]
    show ∃ f' q', _ = some (if mhR (mkG m) (hN h) k (fct (hN h) - 1) 1 = true then nI m else mkV (hN h) k d (m + 1), f', n, z) ∧ _
    unfold m_X11_marks_B68
    rw [bd_e (gR_s K1 rfl), ck_e O1.O]
    by_cases c : mhR (mkG m) (hN h) k (fct (hN h) - 1) 1 = true
    · refine ⟨f1, q1, ?_, fr1, k1⟩
      rw [if_pos c]
      refine grow_r ?_
      rw [bd_e mh, if_pos c, if_neg (by decide)]
    · obtain ⟨f', q', i1, i2, i3⟩ := ih (m + 1) w f1 q1 (by omega) (by omega) (by omega) K1 H1 O1 k1
      refine ⟨f', q', ?_, fun a ha => (i2 a ha).trans (fr1 a ha), i3⟩
      rw [if_neg c]
      refine grow_r ?_
      rw [bd_e mh, if_neg c, if_pos rfl, nm_e2, nI_1]
      exact i1
theorem rmk_33 {rc : Option Nat → Int32 → Int32 → Hp → Option (Int32 × Hp)} {m : Nat} {k : Int32} (N : NW (sA st 14) h) (h7 : hN h ≤ 7) (h1 : 1 ≤ m) (hm : m < 100) : ∀ (d i w : Nat) (st' : RS), i + d = hN h → d < w → Rs [41] st st' → (∀ j, j < i → sA st' 41 j = mkG m j) → ∃ st'', m_X12_marks_L33 F rc w (some 179) k (nI m) (nI i) (ov g st') = m_X12_marks_B56 F rc (some 179) k (nI m) (ov g st'') ∧ Rs [41] st st'' ∧ ∀ j, j < hN h → sA st'' 41 j = mkG m j := by
  intro d
  induction d with
  | zero =>
    intro i w st' hi hw C hq
    obtain ⟨w, rfl⟩ : ∃ j, w = j + 1 := ⟨w - 1, by omega⟩
    have N' : NW (sA st' 14) h := by rw [C.A (by decide)]; exact N
    refine ⟨st', ?_, C, fun j hj => hq j (by omega)⟩
    show m_X12_marks_b33 F _ _ _ _ _ _ _ = _
    unfold m_X12_marks_b33
    rw [ck_e r_isO, bd_e (rlines_e N'), if_pos (nI_le (by omega) (by omega))]
  | succ d ih =>
    intro i w st' hi hw C hq
    obtain ⟨w, rfl⟩ : ∃ j, w = j + 1 := ⟨w - 1, by omega⟩
    have N' : NW (sA st' 14) h := by rw [C.A (by decide)]; exact N
    obtain ⟨st'', i1, i2⟩ := ih (i + 1) w (uA st' 41 i (mkG m i)) (by omega) (by omega) (C.trans (Rs.uA (by simp))) (fun j hj => by
      rw [sA_uA, if_pos rfl]
      by_cases c : j = i
      · rw [c, upd_s]
      · rw [upd_n c]; exact hq j (by omega))
    refine ⟨st'', ?_, i2⟩
    refine Eq.trans ?_ i1
    show m_X12_marks_b33 F _ _ _ _ _ _ _ = _
    unfold m_X12_marks_b33
    rw [ck_e r_isO, bd_e (rlines_e N'), if_neg (nI_ge (by omega) (by omega)), rR_41, bd_some, ck_e (decide_eq_true (nI_ne0 (by omega) (by omega))), irm_e (by omega) (by omega) (by omega), wE_41 (by omega), bd_some, nm_e2, nI_1]
    rfl
theorem rmk_23 {k : Nat} (hk : k < 10) (N : NW (sA st 14) h) (ok : okH h) (hF : 5041 ≤ F) : ∀ (d m w : Nat) (st' : RS), m + d = hN h → 1 ≤ m → d < w → Rs [24, 25, 26, 27, 41] st st' → ∃ st'', m_X12_marks_L23 F w (some 179) (nI k) (nI m) (ov g st') = some (mkV (hN h) k (d + 1) m, ov g st'') ∧ Rs [24, 25, 26, 27, 41] st st'' := by
  have h7 := ok.1.2
  have h2 := ok.1.1
  have h0 := fct_pos (hN h)
  intro d
  induction d with
  | zero =>
    intro m w st' hm h1 hw C
    obtain ⟨w, rfl⟩ : ∃ j, w = j + 1 := ⟨w - 1, by omega⟩
    have N' : NW (sA st' 14) h := by rw [C.A (by decide)]; exact N
    refine ⟨st', ?_, C⟩
    have full : mhR (mkG m) (hN h) k (fct (hN h) - 1) 1 = true := mhR_full h7 (fun i hi => by
      show nI (i % m) = nI i
      rw [Nat.mod_eq_of_lt (by omega)]) _ _ (by omega) (Nat.le_refl _)
    show m_X12_marks_b23 F _ _ _ _ _ = some (if mhR (mkG m) (hN h) k (fct (hN h) - 1) 1 = true then nI m else mkV (hN h) k 0 (m + 1), ov g st')
    unfold m_X12_marks_b23
    rw [ck_e r_isO, bd_e (rlines_e N'), if_pos (nI_le (by omega) (by omega)), ck_e r_isO, bd_e (rlines_e N'), if_pos full, show hN h = m by omega]
  | succ d ih =>
    intro m w st' hm h1 hw C
    obtain ⟨w, rfl⟩ : ∃ j, w = j + 1 := ⟨w - 1, by omega⟩
    have N' : NW (sA st' 14) h := by rw [C.A (by decide)]; exact N
    obtain ⟨s1, e1, r1, k1⟩ := rmk_33 (F := F) (g := g) (rc := m_X12_marks_L23 F w) (k := nI k) N' h7 h1 (by omega) (hN h) 0 F st' (by omega) (by omega) (Rs.refl _ _) (fun _ c => absurd c (Nat.not_lt_zero _))
    obtain ⟨s2, e2, r2⟩ := rnl_e (F := F) (g := g) (st := s1) (h := h) (gm := mkG m) (by rw [r1.A (by decide)]; exact N') hF (by omega) h7 k1
    have C2 : Rs [24, 25, 26, 27, 41] st s2 := C.trans ((r1.mono (by simp)).trans (r2.mono (by decide)))
    have st0 : m_X12_marks_L23 F (w + 1) (some 179) (nI k) (nI m) (ov g st') = m_X12_marks_B56 F (m_X12_marks_L23 F w) (some 179) (nI k) (nI m) (ov g s1) := by
      show m_X12_marks_b23 F _ _ _ _ _ = _
      unfold m_X12_marks_b23
      rw [ck_e r_isO, bd_e (rlines_e N'), if_neg (nI_ge (by omega) (by omega))]
      exact e1
    rw [st0]
    show ∃ st'', _ = some (if mhR (mkG m) (hN h) k (fct (hN h) - 1) 1 = true then nI m else mkV (hN h) k (d + 1) (m + 1), ov g st'') ∧ _
    unfold m_X12_marks_B56
    rw [ck_e r_isO, bd2_e e2]
    by_cases c : mhR (mkG m) (hN h) k (fct (hN h) - 1) 1 = true
    · exact ⟨s2, by rw [if_neg (fun e => (nl_cmp hk).mp e c), if_pos c], C2⟩
    · obtain ⟨s3, i1, i2⟩ := ih (m + 1) w s2 (by omega) (by omega) (by omega) C2
      exact ⟨s3, by rw [if_pos ((nl_cmp hk).mpr c), if_neg c, nm_e2, nI_1]; exact i1, i2⟩
theorem k_marks (hF : 5041 ≤ F) (k : Int32) : KA sk (m_X11_marks F (some 100) k) (m_X12_marks F (some 179) k) := by
  intro f n z st m C R
  obtain ⟨T, D, sT, sD, sX, tq, iq, X⟩ := C.x
  obtain ⟨S, K, -, ⟨H, ok, -⟩, -⟩ := id X
  have td := X.td
  have h2 := ok.1.1
  have h7 := ok.1.2
  rcases outin (k := 10) (by omega) k with hk | ⟨k, hk, rfl⟩
  · refine ⟨-1, f, n, z, m, ?_, Nat.le_refl _, Nat.le_refl _, fun _ _ _ => rfl, C, fun g => ?_⟩
    · unfold m_X11_marks
      refine grow_r ?_
      rw [bd_e (isW_e (k := 9) (M := 9) (by omega) rfl k), if_pos hk, if_pos rfl]
    · obtain ⟨s1, q1, B1⟩ := rbeg (F := F) (g := g) (by omega) R 0
      refine ⟨s1, ?_, B1.1⟩
      unfold m_X12_marks
      rw [wI_0, bd_some, ck_e r_isO, bd_e q1, bd_e (risIn (k := 9) (M := 9) (by omega) rfl k), if_pos hk, if_pos rfl]
  · obtain ⟨o, f1, n1, z1, tq1, o1, hn, hz, X1, eo, O, ho, fr⟩ := orders_e (F := F) hF X
    obtain ⟨S1, K1, -, ⟨H1, -⟩, -, -, -, ⟨q, eq⟩⟩ := id X1
    obtain ⟨f2, q2, e2, fr2, k2⟩ := cmk_18 (F := F) (n := n1) (z := z1) (k := k) hk ok hF (by omega) ho (hN (mH m)) 1 F f1 q (by omega) (by omega) (by omega) K1 H1 O eq
    refine ⟨mkV (hN (mH m)) k (hN (mH m)) 1, f2, n1, z1, m, ?_, hn, hz, fun a a1 a2 => (fr2 a (by omega)).trans (fr a a2 (by omega)), (X1.mr fr2 k2).ci, fun g => ?_⟩
    · unfold m_X11_marks
      refine grow_s ?_ hn hz
      rw [bd_e (isW_e (k := 9) (M := 9) (by omega) rfl _), if_neg (inin (by omega) hk), if_neg (by decide), ck_e (isO_e K), bd4_e o1, ck_e (decide_eq_true ⟨hn, hz⟩)]
      exact grow_r e2
    · obtain ⟨s1, q1, B1⟩ := rbeg (F := F) (g := g) (by omega) R 0
      obtain ⟨s2, r1, r2⟩ := rmk_23 (F := F) (g := g) (st := s1) (k := k) hk B1.2.2.1 ok hF (hN (mH m) - 1) 1 F s1 (by omega) (by omega) (by omega) (Rs.refl _ _)
      rw [show hN (mH m) - 1 + 1 = hN (mH m) by omega] at r1
      refine ⟨s2, ?_, (B1.cg (r2.cg.mono (by decide) (by decide) (by decide))).1⟩
      unfold m_X12_marks
      rw [wI_0, bd_some, ck_e r_isO, bd_e q1, bd_e (risIn (k := 9) (M := 9) (by omega) rfl _), if_neg (inin (by omega) hk), if_neg (by decide)]
      exact r1
end C18
