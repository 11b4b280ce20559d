/-! places of a COPY and of an order, laid in row 26 or 27; the number of a row; HOLDS, SONG -/
section RLAY2
variable {F : Nat} {g : Hp} {st : RS} {h : HS} {L : List Nat}
theorem wPl {st : RS} {k j : Nat} {x : Int32} (hk : k = 26 ∨ k = 27) (hj : j < 7) : stI (ov g st) 1 (some (164 + k)) (nI j) x = some (ov g (uA st k j x)) := by
  rcases hk with rfl | rfl
  · exact wE_26 hj
  · exact wE_27 hj
theorem rPl {st : RS} {k j : Nat} (hk : k = 26 ∨ k = 27) (hj : j < 7) : ldI (ov g st) 1 (some (164 + k)) (nI j) = some (sA st k j) := by
  rcases hk with rfl | rfl
  · exact rE_26 hj
  · exact rE_27 hj
theorem k14 {k : Nat} (hk : k = 26 ∨ k = 27) : (14 : Nat) ∉ [k] := by rcases hk with rfl | rfl <;> decide
theorem layCopy_L20 (N : NW (sA st 14) h) (ok : okH h) {c : Nat} (hc : c < (hC h).length) {k : Nat} (hk : k = 26 ∨ k = 27) : ∀ (d i z : Nat) (st' : RS), i + d = (hC h)[c].2.length → d < z → Rs [k] st st' → (∀ l, l < 7 → sA st' k l = if l ∈ (hC h)[c].2.take i then nI ((hC h)[c].2.idxOf l) else (-1 : Int32)) →
    ∃ st'', m_X12_layCopy_L20 F z (some 179) (nI c) (some (164 + k)) (nI i) (ov g st') = some (ov g st'') ∧ Rs [k] st st'' ∧ PL (sA st'' k) (hC h)[c].2 := by
  obtain ⟨hL, hlt, -⟩ := (ok.2.2.1 _ (List.getElem_mem hc)).2
  have h7 := okL_len hL
  intro d
  induction d with
  | zero =>
    intro i z st' hi hz hs hp
    obtain ⟨z, rfl⟩ : ∃ j, z = j + 1 := ⟨z - 1, by omega⟩
    refine ⟨st', ?_, hs, ?_⟩
    · show m_X12_layCopy_b20 F _ _ _ _ _ _ = _
      unfold m_X12_layCopy_b20
      rw [ck_e r_isO, bd_e (rsizeOf_e (by rw [hs.A (k14 hk)]; exact N) ok hc), if_pos (nI_le (by omega) (by omega))]
    · intro l hl
      rw [hp l hl, show i = (hC h)[c].2.length by omega, List.take_length]
      rfl
  | succ d ih =>
    intro i z st' hi hz hs hp
    obtain ⟨z, rfl⟩ : ∃ j, z = j + 1 := ⟨z - 1, by omega⟩
    have hil : i < (hC h)[c].2.length := by omega
    have N' : NW (sA st' 14) h := by rw [hs.A (k14 hk)]; exact N
    have hl7 : (hC h)[c].2[i] < 7 := hL.1 _ (List.getElem_mem hil)
    obtain ⟨st'', e1, e2, e3⟩ := ih (i + 1) z (uA st' k (hC h)[c].2[i] (nI i)) (by omega) (by omega) (hs.trans (Rs.uA (List.mem_singleton.mpr rfl))) (by
      intro l hl
      rw [sA_uA, if_pos rfl]
      by_cases e : l = (hC h)[c].2[i]
      · rw [e, upd_s, if_pos (by rw [List.take_add_one, List.getElem?_eq_getElem hil]; exact List.mem_append_right _ (List.mem_singleton.mpr rfl)), hL.2.idxOf_getElem i hil]
      · rw [upd_n e, hp l hl]
        by_cases q : l ∈ (hC h)[c].2.take i
        · rw [if_pos q, if_pos (by rw [List.take_add_one]; exact List.mem_append_left _ q)]
        · rw [if_neg q, if_neg (by
            rw [List.take_add_one, List.getElem?_eq_getElem hil]
            intro hm
            rcases List.mem_append.mp hm with h1 | h1
            · exact q h1
            · exact e (List.mem_singleton.mp h1))])
    refine ⟨st'', ?_, e2, e3⟩
    show m_X12_layCopy_b20 F _ _ _ _ _ _ = _
    unfold m_X12_layCopy_b20
    rw [ck_e r_isO, bd_e (rsizeOf_e N' ok hc), if_neg (nI_ge hil (by omega)), ck_e r_isO, bd_e (rlineOf_e N' ok hc hil), wPl hk hl7, bd_some, nm_e2, nI_1]
    exact e1
theorem layCopy_L2 (hF : 8 ≤ F) (N : NW (sA st 14) h) (ok : okH h) {c : Nat} (hc : c < (hC h).length) {k : Nat} (hk : k = 26 ∨ k = 27) : ∀ (d i z : Nat) (st' : RS), i + d = 7 → d < z → Rs [k] st st' → (∀ l, l < i → sA st' k l = (-1 : Int32)) →
    ∃ st'', m_X12_layCopy_L2 F z (some 179) (nI c) (some (164 + k)) (nI i) (ov g st') = some (ov g st'') ∧ Rs [k] st st'' ∧ PL (sA st'' k) (hC h)[c].2 := by
  have h7 := okL_len (ok.2.2.1 _ (List.getElem_mem hc)).2.1
  intro d
  induction d with
  | zero =>
    intro i z st' hi hz hs hp
    obtain ⟨z, rfl⟩ : ∃ j, z = j + 1 := ⟨z - 1, by omega⟩
    obtain ⟨st'', e1, e2, e3⟩ := layCopy_L20 (F := F) (g := g) N ok hc hk (hC h)[c].2.length 0 F st' (by omega) (by omega) hs (fun l hl => by rw [hp l (by omega)]; simp)
    refine ⟨st'', ?_, e2, e3⟩
    show m_X12_layCopy_b2 F _ _ _ _ _ _ = _
    unfold m_X12_layCopy_b2
    rw [if_pos (show (7 : Int32) ≤ nI i from nI_le (a := 7) (by omega) (by omega))]
    exact e1
  | succ d ih =>
    intro i z st' hi hz hs hp
    obtain ⟨z, rfl⟩ : ∃ j, z = j + 1 := ⟨z - 1, by omega⟩
    obtain ⟨st'', e1, e2, e3⟩ := ih (i + 1) z (uA st' k i (-1)) (by omega) (by omega) (hs.trans (Rs.uA (List.mem_singleton.mpr rfl))) (by
      intro l hl
      rw [sA_uA, if_pos rfl]
      by_cases e : l = i
      · rw [e, upd_s]
      · rw [upd_n e, hp l (by omega)])
    refine ⟨st'', ?_, e2, e3⟩
    show m_X12_layCopy_b2 F _ _ _ _ _ _ = _
    unfold m_X12_layCopy_b2
    rw [if_neg (show ¬ (7 : Int32) ≤ nI i from nI_ge (b := 7) (by omega) (by omega)), wPl hk (by omega), bd_some, nm_e2, nI_1]
    exact e1
theorem layCopy_e (hF : 8 ≤ F) (N : NW (sA st 14) h) (ok : okH h) {c : Nat} (hc : c < (hC h).length) {k : Nat} (hk : k = 26 ∨ k = 27) : ∃ st', m_X12_layCopy F (some 179) (nI c) (some (164 + k)) (ov g st) = some (ov g st') ∧ Rs [k] st st' ∧ PL (sA st' k) (hC h)[c].2 :=
  layCopy_L2 (F := F) (g := g) hF N ok hc hk 7 0 F st (by omega) (by omega) (Rs.refl _ _) (fun _ h => absurd h (Nat.not_lt_zero _))
theorem layCopies_e (hF : 8 ≤ F) (N : NW (sA st 14) h) (ok : okH h) {a b : Nat} (ha : a < (hC h).length) (hb : b < (hC h).length) : ∃ st', m_X12_layCopies F (some 179) (nI a) (nI b) (ov g st) = some (ov g st') ∧ Rs [26, 27] st st' ∧ PL (sA st' 26) (hC h)[a].2 ∧ PL (sA st' 27) (hC h)[b].2 := by
  obtain ⟨s1, e1, r1, p1⟩ := layCopy_e (F := F) (g := g) hF N ok ha (Or.inl rfl)
  obtain ⟨s2, e2, r2, p2⟩ := layCopy_e (F := F) (g := g) (st := s1) hF (by rw [r1.A (by decide)]; exact N) ok hb (Or.inr rfl)
  refine ⟨s2, ?_, (r1.mono (by decide)).trans (r2.mono (by decide)), by rw [r2.A (by decide)]; exact p1, p2⟩
  unfold m_X12_layCopies
  rw [rR_26, bd_some, ck_e r_isO, bd_e e1, rR_27, bd_some, ck_e r_isO, bd_e e2]
theorem layOrder_L (N : NW (sA st 14) h) (hP : okP (hN h) L) (h7 : hN h ≤ 7) (hY : LY st L) {k : Nat} (hk : k = 26 ∨ k = 27) : ∀ (d i z : Nat) (st' : RS), i + d = 7 → d < z → Rs [k] st st' → (∀ l, l < i → sA st' k l = pl L l) →
    ∃ st'', m_X12_layOrder_L7 F z (some 179) (some (164 + k)) (nI i) (ov g st') = some (ov g st'') ∧ Rs [k] st st'' ∧ PL (sA st'' k) L := by
  have k25 : (25 : Nat) ∉ [k] := by rcases hk with rfl | rfl <;> decide
  intro d
  induction d with
  | zero =>
    intro i z st' hi hz hs hp
    obtain ⟨z, rfl⟩ : ∃ j, z = j + 1 := ⟨z - 1, by omega⟩
    refine ⟨st', ?_, hs, fun l hl => hp l (by omega)⟩
    show m_X12_layOrder_b7 F _ _ _ _ _ = _
    unfold m_X12_layOrder_b7
    rw [if_pos (show (7 : Int32) ≤ nI i from nI_le (a := 7) (by omega) (by omega))]
  | succ d ih =>
    intro i z st' hi hz hs hp
    obtain ⟨z, rfl⟩ : ∃ j, z = j + 1 := ⟨z - 1, by omega⟩
    have N' : NW (sA st' 14) h := by rw [hs.A (k14 hk)]; exact N
    obtain ⟨st'', e1, e2, e3⟩ := ih (i + 1) z (uA st' k i (pl L i)) (by omega) (by omega) (hs.trans (Rs.uA (List.mem_singleton.mpr rfl))) (by
      intro l hl
      rw [sA_uA, if_pos rfl]
      by_cases e : l = i
      · rw [e, upd_s]
      · rw [upd_n e, hp l (by omega)])
    refine ⟨st'', ?_, e2, e3⟩
    show m_X12_layOrder_b7 F _ _ _ _ _ = _
    unfold m_X12_layOrder_b7
    rw [if_neg (show ¬ (7 : Int32) ≤ nI i from nI_ge (b := 7) (by omega) (by omega)), ck_e r_isO, bd_e (rlines_e N')]
    by_cases e : hN h ≤ i
    · have hn : i ∉ L := fun hm => by have := hP.2.1 i hm; omega
      rw [if_pos (nI_le e (by omega)), wPl hk (by omega), bd_some, nm_e2, nI_1, ← pl_no hn]
      exact e1
    · have hm : i ∈ L := hP.mem (by omega)
      have hix := List.idxOf_lt_length_iff.mpr hm
      have hr := (hY (L.idxOf i) hix).2
      rw [List.getElem_idxOf hix] at hr
      rw [if_neg (nI_ge (by omega) (by omega)), rR_25, bd_some, rE_25 (by omega), bd_some, hs.A k25, hr, ← pl_yes hm, wPl hk (by omega), bd_some, nm_e2, nI_1]
      exact e1
theorem layOrder_e (hF : 8 ≤ F) (N : NW (sA st 14) h) (h2 : 1 ≤ hN h) (h7 : hN h ≤ 7) {x : Nat} (hx : x < fct (hN h)) {k : Nat} (hk : k = 26 ∨ k = 27) : ∃ st', m_X12_layOrder F (some 179) (nI x) (some (164 + k)) (ov g st) = some (ov g st') ∧ Rs [24, 25, k] st st' ∧ PL (sA st' k) (unrk (hN h) x) ∧ LY st' (unrk (hN h) x) := by
  obtain ⟨s1, e1, r1, y1⟩ := rlay_e (F := F) (g := g) N h2 h7 hF hx
  have hP := unrk_ok hx
  obtain ⟨s2, e2, r2, p2⟩ := layOrder_L (F := F) (g := g) (st := s1) (by rw [r1.A (by decide)]; exact N) hP h7 y1 hk 7 0 F s1 (by omega) (by omega) (Rs.refl _ _) (fun _ h => absurd h (Nat.not_lt_zero _))
  refine ⟨s2, ?_, (r1.mono (by simp)).trans (r2.mono (by simp)), p2, ?_⟩
  · unfold m_X12_layOrder
    rw [ck_e r_isO, bd_e e1]
    exact e2
  · intro i hi
    rw [r2.A (by rcases hk with rfl | rfl <;> decide), r2.A (by rcases hk with rfl | rfl <;> decide)]
    exact y1 i hi
def RW (a : Nat → Int32) (L : List Nat) : Prop := ∀ i (hi : i < L.length), a i = nI L[i]
theorem numberOf_L19 (hr : RW (sA st 24) L) (hL : okL L) (N : NW (sA st 14) h) (hl : L.length = hN h) (h7 : hN h ≤ 7) {rc : Option Nat → Int32 → Int32 → Hp → Option Int32} {v1 : Int32} {i : Nat} (hi : i < hN h) : ∀ (d j z : Nat), j + d = L.length - (i + 1) → d < z → m_X12_numberOf_L19 F rc z (some 179) v1 (nI i) (nI (cnt j (fun j => decide (L.getD (i + 1 + j) 0 < L.getD i 0)))) (nI (i + 1 + j)) (ov g st) = m_X12_numberOf_B53 F rc (some 179) v1 (nI i) (nI (lowB L i)) (ov g st) := by
  intro d
  induction d with
  | zero =>
    intro j z hj hz
    obtain ⟨z, rfl⟩ : ∃ j, z = j + 1 := ⟨z - 1, by omega⟩
    show m_X12_numberOf_b19 F _ _ _ _ _ _ _ _ = _
    unfold m_X12_numberOf_b19
    rw [ck_e r_isO, bd_e (rlines_e N), if_pos (nI_le (by omega) (by omega))]
    have : j = L.length - (i + 1) := by omega
    rw [this]
    rfl
  | succ d ih =>
    intro j z hj hz
    obtain ⟨z, rfl⟩ : ∃ j, z = j + 1 := ⟨z - 1, by omega⟩
    have hs := ih (j + 1) z (by omega) (by omega)
    rw [cnt_s] at hs
    have h1 : i + 1 + j < L.length := by omega
    have a1 := hL.1 _ (List.getElem_mem h1)
    have a2 := hL.1 _ (List.getElem_mem (show i < L.length by omega))
    show m_X12_numberOf_b19 F _ _ _ _ _ _ _ _ = _
    unfold m_X12_numberOf_b19
    rw [ck_e r_isO, bd_e (rlines_e N), if_neg (nI_ge (by omega) (by omega)), rR_24, bd_some, rE_24 (by omega), bd_some, bd_some, rE_24 (by omega), bd_some, hr _ h1, hr i (by omega)]
    have hc : L.getD (i + 1 + j) 0 < L.getD i 0 ↔ L[i + 1 + j] < L[i] := by rw [getD_e h1, getD_e (show i < L.length by omega)]
    by_cases q : L[i] ≤ L[i + 1 + j]
    · rw [if_pos (nI_le q (by omega)), nm_e2, nI_1]
      rw [if_neg (by rw [decide_eq_true_eq, hc]; omega), Nat.add_zero] at hs
      exact hs
    · rw [if_neg (nI_ge (by omega) (by omega)), nm_e2, nm_e2, nI_1, nI_1]
      rw [if_pos (by rw [decide_eq_true_eq, hc]; omega)] at hs
      exact hs
theorem numberOf_L4 (hF : 8 ≤ F) (hr : RW (sA st 24) L) (hL : okL L) (N : NW (sA st 14) h) (hl : L.length = hN h) (h7 : hN h ≤ 7) : ∀ (d i z : Nat), i + d = hN h → d < z → m_X12_numberOf_L4 F z (some 179) (nI (rnkL i L)) (nI i) (ov g st) = some (nI (rkT L)) := by
  intro d
  induction d with
  | zero =>
    intro i z hi hz
    obtain ⟨z, rfl⟩ : ∃ j, z = j + 1 := ⟨z - 1, by omega⟩
    show m_X12_numberOf_b4 F _ _ _ _ _ = _
    unfold m_X12_numberOf_b4
    rw [ck_e r_isO, bd_e (rlines_e N), if_pos (nI_le (by omega) (by omega)), show i = L.length by omega, rnk_e]
  | succ d ih =>
    intro i z hi hz
    obtain ⟨z, rfl⟩ : ∃ j, z = j + 1 := ⟨z - 1, by omega⟩
    show m_X12_numberOf_b4 F _ _ _ _ _ = _
    unfold m_X12_numberOf_b4
    rw [ck_e r_isO, bd_e (rlines_e N), if_neg (nI_ge (by omega) (by omega)), nm_e2, nI_1]
    refine (numberOf_L19 (F := F) (g := g) hr hL N hl h7 (by omega) (L.length - (i + 1)) 0 F (by omega) (by omega)).trans ?_
    unfold m_X12_numberOf_B53
    rw [ck_e r_isO, bd_e (rlines_e N), nm_e2, nm_e2, nI_sub (by omega), nI_mul, nI_add, nI_1, ← hl]
    exact ih (i + 1) z (by omega) (by omega)
theorem rnumberOf_e (hF : 8 ≤ F) (hr : RW (sA st 24) L) (hL : okL L) (N : NW (sA st 14) h) (hl : L.length = hN h) (h7 : hN h ≤ 7) : m_X12_numberOf F (some 179) (ov g st) = some (nI (rkT L)) :=
  numberOf_L4 (F := F) (g := g) hF hr hL N hl h7 (hN h) 0 F (by omega) (by omega)
theorem r190 {j : Nat} (hj : j < 7) : ldI (ov g st) 1 (some 190) (nI j) = some (sA st 26 j) := rE_26 hj
def ksB (L : List Nat) (q : Nat × Nat) : Bool := !(decide (q.1 ∈ L) && decide (q.2 ∈ L) && decide (L.idxOf q.2 < L.idxOf q.1))
/-- whether the lines HOLD the SENSE -/
def keeps (S : List (Nat × Nat)) (L : List Nat) : Bool := S.all (ksB L)
theorem hasSense_L (N : NW (sA st 14) h) (ok : okH h) (hL : okL L) (pa : PL (sA st 26) L) : ∀ (d k z : Nat), k + d = (hS h).length → d < z → m_X12_hasSense_L2 F z (some 179) (some 190) (nI k) (ov g st) = some (if keeps ((hS h).drop k) L then 1 else 0) := by
  obtain ⟨⟨n1, n2⟩, -, -, -, -, -, s12, sS, -⟩ := ok
  intro d
  induction d with
  | zero =>
    intro k z hk hz
    obtain ⟨z, rfl⟩ : ∃ j, z = j + 1 := ⟨z - 1, by omega⟩
    show m_X12_hasSense_b2 F _ _ _ _ _ = _
    unfold m_X12_hasSense_b2
    rw [q14 (j := 3) (i := 3) (by omega) rfl, N.2.2.2.1, if_pos (nI_le (by omega) (by omega)), List.drop_eq_nil_of_le (by omega)]
    rfl
  | succ d ih =>
    intro k z hk hz
    obtain ⟨z, rfl⟩ : ∃ j, z = j + 1 := ⟨z - 1, by omega⟩
    have hkl : k < (hS h).length := by omega
    have hs := ih (k + 1) z (by omega) (by omega)
    obtain ⟨a1, a2, a3⟩ := sS _ (List.getElem_mem hkl)
    obtain ⟨w1, w2⟩ := N.2.2.2.2.2.2.2.2.1 k hkl
    have i1 : (110 : Int32) + (2 : Int32) * nI k = nI (110 + 2 * k) := by rw [← nI_add, ← nI_mul]; rfl
    have i2 : (110 : Int32) + (2 : Int32) * nI k + (1 : Int32) = nI (110 + 2 * k + 1) := by rw [i1, nI_1]
    rw [List.drop_eq_getElem_cons hkl]
    show m_X12_hasSense_b2 F _ _ _ _ _ = _
    unfold m_X12_hasSense_b2
    rw [q14 (j := 3) (i := 3) (by omega) rfl, N.2.2.2.1, if_neg (nI_ge hkl (by omega)), q14 (by omega) i1, w1, r190 (by omega), bd_some, q14 (by omega) i2, w2, r190 (by omega), bd_some, pa _ (by omega), pa _ (by omega)]
    show _ = some (if (ksB L (hS h)[k] && keeps ((hS h).drop (k + 1)) L) then 1 else 0)
    by_cases q1 : (hS h)[k].1 ∈ L
    · rw [if_neg (fun e => (pl_iff hL).mp e q1)]
      by_cases q2 : (hS h)[k].2 ∈ L
      · have x1 := idx7 hL q1
        have x2 := idx7 hL q2
        rw [if_neg (fun e => (pl_iff hL).mp e q2), pl_yes q1, pl_yes q2]
        by_cases q3 : L.idxOf (hS h)[k].1 ≤ L.idxOf (hS h)[k].2
        · rw [if_pos (nI_le q3 (by omega)), nm_e2, nI_1, hs]
          have : ksB L (hS h)[k] = true := by simp [ksB, q1, q2]; omega
          rw [this, Bool.true_and]
        · rw [if_neg (nI_ge (by omega) (by omega))]
          have : ksB L (hS h)[k] = false := by simp [ksB, q1, q2]; omega
          rw [this, Bool.false_and]
          rfl
      · rw [if_pos ((pl_iff hL).mpr q2), nm_e2, nI_1, hs]
        have : ksB L (hS h)[k] = true := by simp [ksB, q2]
        rw [this, Bool.true_and]
    · rw [if_pos ((pl_iff hL).mpr q1), nm_e2, nI_1, hs]
      have : ksB L (hS h)[k] = true := by simp [ksB, q1]
      rw [this, Bool.true_and]
theorem rhasSense_e (hF : 16 ≤ F) (N : NW (sA st 14) h) (ok : okH h) (hL : okL L) (pa : PL (sA st 26) L) : m_X12_hasSense F (some 179) (some 190) (ov g st) = some (if keeps (hS h) L then 1 else 0) :=
  hasSense_L (F := F) (g := g) N ok hL pa (hS h).length 0 F (by omega) (by have := ok.2.2.2.2.2.2.1; omega)
def sgB (L : List Nat) (q : Nat × Nat × Nat) : Nat := if q.1 ∈ L ∧ q.2.1 ∈ L ∧ L.idxOf q.2.1 = L.idxOf q.1 + 1 then q.2.2 else 0
/-- SONG of the lines -/
def sngR (R : List (Nat × Nat × Nat)) (L : List Nat) : Nat := (R.map (sgB L)).sum
theorem sgB_le {L : List Nat} {q : Nat × Nat × Nat} (h : q.2.2 ≤ 99) : sgB L q ≤ 99 := by unfold sgB; split <;> omega
theorem sngR_le {L : List Nat} : ∀ (R : List (Nat × Nat × Nat)), (∀ q ∈ R, q.2.2 ≤ 99) → sngR R L ≤ 99 * R.length
  | [], _ => Nat.le_refl _
  | q :: R, h => by
    have h1 := sngR_le R (fun x hx => h x (List.mem_cons_of_mem _ hx)) (L := L)
    have h2 := sgB_le (L := L) (h q List.mem_cons_self)
    show (sgB L q + sngR R L) ≤ 99 * (R.length + 1)
    omega
theorem songOf_L (N : NW (sA st 14) h) (ok : okH h) (hL : okL L) (pa : PL (sA st 26) L) : ∀ (d k z v : Nat), k + d = (hR h).length → d < z → m_X12_songOf_L4 F z (some 179) (some 190) (nI v) (nI k) (ov g st) = some (nI (v + sngR ((hR h).drop k) L)) := by
  obtain ⟨⟨n1, n2⟩, -, -, -, -, -, -, -, r12, rR, -⟩ := ok
  intro d
  induction d with
  | zero =>
    intro k z v hk hz
    obtain ⟨z, rfl⟩ : ∃ j, z = j + 1 := ⟨z - 1, by omega⟩
    show m_X12_songOf_b4 F _ _ _ _ _ _ = _
    unfold m_X12_songOf_b4
    rw [q14 (j := 4) (i := 4) (by omega) rfl, N.2.2.2.2.1, if_pos (nI_le (by omega) (by omega)), List.drop_eq_nil_of_le (by omega)]
    rfl
  | succ d ih =>
    intro k z v hk hz
    obtain ⟨z, rfl⟩ : ∃ j, z = j + 1 := ⟨z - 1, by omega⟩
    have hkl : k < (hR h).length := by omega
    have hs := ih (k + 1) z
    obtain ⟨a1, a2, a3, a4, a5⟩ := rR _ (List.getElem_mem hkl)
    obtain ⟨w1, w2, w3⟩ := N.2.2.2.2.2.2.2.2.2 k hkl
    have i1 : (134 : Int32) + (3 : Int32) * nI k = nI (134 + 3 * k) := by rw [← nI_add, ← nI_mul]; rfl
    have i2 : (134 : Int32) + (3 : Int32) * nI k + (1 : Int32) = nI (134 + 3 * k + 1) := by rw [i1, nI_1]
    have i3 : (134 : Int32) + (3 : Int32) * nI k + (2 : Int32) = nI (134 + 3 * k + 2) := by rw [i1, show (2 : Int32) = nI 2 from rfl, nI_add]
    rw [List.drop_eq_getElem_cons hkl]
    show m_X12_songOf_b4 F _ _ _ _ _ _ = _
    unfold m_X12_songOf_b4
    rw [q14 (j := 4) (i := 4) (by omega) rfl, N.2.2.2.2.1, if_neg (nI_ge hkl (by omega)), q14 (by omega) i1, w1, r190 (by omega), bd_some, q14 (by omega) i2, w2, r190 (by omega), bd_some, pa _ (by omega), pa _ (by omega)]
    show _ = some (nI (v + (sgB L (hR h)[k] + sngR ((hR h).drop (k + 1)) L)))
    have h0 : sgB L (hR h)[k] = 0 → m_X12_songOf_L4 F z (some 179) (some 190) (nI v) (nI (k + 1)) (ov g st) = some (nI (v + (sgB L (hR h)[k] + sngR ((hR h).drop (k + 1)) L))) := fun e => by
      rw [hs v (by omega) (by omega), e, Nat.zero_add]
    by_cases q1 : (hR h)[k].1 ∈ L
    · have x1 := idx7 hL q1
      rw [if_neg (fun e => (pl_iff hL).mp e q1), pl_yes q1, nI_1]
      by_cases q2 : (hR h)[k].2.1 ∈ L
      · have x2 := idx7 hL q2
        rw [pl_yes q2]
        by_cases q3 : L.idxOf (hR h)[k].2.1 = L.idxOf (hR h)[k].1 + 1
        · rw [if_pos (by rw [q3]), q14 (by omega) i3, w3, nm_e2, nm_e2, nI_add, nI_1, hs _ (by omega) (by omega)]
          have e : sgB L (hR h)[k] = (hR h)[k].2.2 := if_pos ⟨q1, q2, q3⟩
          rw [e, Nat.add_assoc]
        · rw [if_neg (fun e => q3 ((nI_eq (by omega) (by omega)).mp e)), nm_e2, nI_1]
          exact h0 (if_neg (fun q => q3 q.2.2))
      · rw [pl_no q2, if_neg (fun e => nI_nm1 (by omega) e.symm), nm_e2, nI_1]
        exact h0 (if_neg (fun q => q2 q.2.1))
    · rw [if_pos ((pl_iff hL).mpr q1), nm_e2, nI_1]
      exact h0 (if_neg (fun q => q1 q.1))
theorem rsongOf_e (hF : 16 ≤ F) (N : NW (sA st 14) h) (ok : okH h) (hL : okL L) (pa : PL (sA st 26) L) : m_X12_songOf F (some 179) (some 190) (ov g st) = some (nI (sngR (hR h) L)) := by
  have := songOf_L (F := F) (g := g) N ok hL pa (hR h).length 0 F 0 (by omega) (by have := ok.2.2.2.2.2.2.2.2.1; omega)
  rw [Nat.zero_add] at this
  exact this
end RLAY2
