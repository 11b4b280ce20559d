/-! places of a COPY and of an order, laid in row 26 or 27; the number of a row; HOLDS, SONG -/
section RLAY2
variable {F : Nat} {g : Hp} {st : RS} {h : HS}
theorem wPl {st : RS} {k j : Nat} {x : Int32} (hk : k = 26 ∨ k = 27) (hj : j < 7) : stI (ov g st) 1 (some (164 + k)) (nI j) x = some (ov g (uA st k j x)) := by
  rcases hk with rfl | rfl
  · exact wE_26 hj
  · exact wE_27 hj
theorem rPl {st : RS} {k j : Nat} (hk : k = 26 ∨ k = 27) (hj : j < 7) : ldI (ov g st) 1 (some (164 + k)) (nI j) = some (sA st k j) := by
  rcases hk with rfl | rfl
  · exact rE_26 hj
  · exact rE_27 hj
theorem k14 {k : Nat} (hk : k = 26 ∨ k = 27) : (14 : Nat) ∉ [k] := by rcases hk with rfl | rfl <;> decide
theorem layCopy_L20 (N : NW (sA st 14) h) (ok : okH h) {c : Nat} (hc : c < (hC h).length) {k : Nat} (hk : k = 26 ∨ k = 27) : ∀ (d i z : Nat) (st' : RS), i + d = (hC h)[c].2.length → d < z → Rs [k] st st' → (∀ l, l < 7 → sA st' k l = if l ∈ (hC h)[c].2.take i then nI ((hC h)[c].2.idxOf l) else (-1 : Int32)) →
    ∃ st'', m_X12_layCopy_L20 F z (some 179) (nI c) (some (164 + k)) (nI i) (ov g st') = some (ov g st'') ∧ Rs [k] st st'' ∧ PL (sA st'' k) (hC h)[c].2 := by
  obtain ⟨hL, hlt, -⟩ := (ok.2.2.1 _ (List.getElem_mem hc)).2
  have h7 := okL_len hL
  intro d
  induction d with
  | zero =>
    intro i z st' hi hz hs hp
    obtain ⟨z, rfl⟩ : ∃ j, z = j + 1 := ⟨z - 1, by omega⟩
    refine ⟨st', ?_, hs, ?_⟩
    · show m_X12_layCopy_b20 F _ _ _ _ _ _ = _
      unfold m_X12_layCopy_b20
      rw [ck_e r_isO, bd_e (rsizeOf_e (by rw [hs.A (k14 hk)]; exact N) ok hc), if_pos (nI_le (by omega) (by omega))]
    · intro l hl
      rw [hp l hl, show i = (hC h)[c].2.length by omega, List.take_length]
      rfl
  | succ d ih =>
    intro i z st' hi hz hs hp
    obtain ⟨z, rfl⟩ : ∃ j, z = j + 1 := ⟨z - 1, by omega⟩
    have hil : i < (hC h)[c].2.length := by omega
    have N' : NW (sA st' 14) h := by rw [hs.A (k14 hk)]; exact N
    have hl7 : (hC h)[c].2[i] < 7 := hL.1 _ (List.getElem_mem hil)
    obtain ⟨st'', e1, e2, e3⟩ := ih (i + 1) z (uA st' k (hC h)[c].2[i] (nI i)) (by omega) (by omega) (hs.trans (Rs.uA (List.mem_singleton.mpr rfl))) (by
      intro l hl
      rw [sA_uA, if_pos rfl, List.take_succ, List.getElem?_eq_getElem hil]
      by_cases e : l = (hC h)[c].2[i]
      · subst e
        rw [upd_s, if_pos (by simp), hL.2.idxOf_getElem i hil]
      · rw [upd_n e, hp l hl]
        by_cases q : l ∈ (hC h)[c].2.take i
        · rw [if_pos q, if_pos (List.mem_append_left _ q)]
        · rw [if_neg q, if_neg (by simp [q, e])])
    refine ⟨st'', ?_, e2, e3⟩
    show m_X12_layCopy_b20 F _ _ _ _ _ _ = _
    unfold m_X12_layCopy_b20
    rw [ck_e r_isO, bd_e (rsizeOf_e N' ok hc), if_neg (nI_ge hil (by omega)), ck_e r_isO, bd_e (rlineOf_e N' ok hc hil), wPl hk hl7, bd_some, nm_e2, nI_1]
    exact e1
theorem layCopy_L2 (hF : 8 ≤ F) (N : NW (sA st 14) h) (ok : okH h) {c : Nat} (hc : c < (hC h).length) {k : Nat} (hk : k = 26 ∨ k = 27) : ∀ (d i z : Nat) (st' : RS), i + d = 7 → d < z → Rs [k] st st' → (∀ l, l < i → sA st' k l = (-1 : Int32)) →
    ∃ st'', m_X12_layCopy_L2 F z (some 179) (nI c) (some (164 + k)) (nI i) (ov g st') = some (ov g st'') ∧ Rs [k] st st'' ∧ PL (sA st'' k) (hC h)[c].2 := by
  have h7 := okL_len (ok.2.2.1 _ (List.getElem_mem hc)).2.1
  intro d
  induction d with
  | zero =>
    intro i z st' hi hz hs hp
    obtain ⟨z, rfl⟩ : ∃ j, z = j + 1 := ⟨z - 1, by omega⟩
    obtain ⟨st'', e1, e2, e3⟩ := layCopy_L20 (F := F) (g := g) N ok hc hk (hC h)[c].2.length 0 F st' (by omega) (by omega) hs (fun l hl => by rw [hp l (by omega)]; simp)
    refine ⟨st'', ?_, e2, e3⟩
    show m_X12_layCopy_b2 F _ _ _ _ _ _ = _
    unfold m_X12_layCopy_b2
    rw [if_pos (show nI 7 ≤ nI i from nI_le (by omega) (by omega))]
    exact e1
  | succ d ih =>
    intro i z st' hi hz hs hp
    obtain ⟨z, rfl⟩ : ∃ j, z = j + 1 := ⟨z - 1, by omega⟩
    obtain ⟨st'', e1, e2, e3⟩ := ih (i + 1) z (uA st' k i (-1)) (by omega) (by omega) (hs.trans (Rs.uA (List.mem_singleton.mpr rfl))) (by
      intro l hl
      rw [sA_uA, if_pos rfl]
      by_cases e : l = i
      · rw [e, upd_s]
      · rw [upd_n e, hp l (by omega)])
    refine ⟨st'', ?_, e2, e3⟩
    show m_X12_layCopy_b2 F _ _ _ _ _ _ = _
    unfold m_X12_layCopy_b2
    rw [if_neg (show ¬ nI 7 ≤ nI i from nI_ge (by omega) (by omega)), wPl hk (by omega), bd_some, nm_e2, nI_1]
    exact e1
theorem layCopy_e (hF : 8 ≤ F) (N : NW (sA st 14) h) (ok : okH h) {c : Nat} (hc : c < (hC h).length) {k : Nat} (hk : k = 26 ∨ k = 27) : ∃ st', m_X12_layCopy F (some 179) (nI c) (some (164 + k)) (ov g st) = some (ov g st') ∧ Rs [k] st st' ∧ PL (sA st' k) (hC h)[c].2 :=
  layCopy_L2 (F := F) (g := g) hF N ok hc hk 7 0 F st (by omega) (by omega) (Rs.refl _ _) (fun _ h => absurd h (Nat.not_lt_zero _))
theorem layCopies_e (hF : 8 ≤ F) (N : NW (sA st 14) h) (ok : okH h) {a b : Nat} (ha : a < (hC h).length) (hb : b < (hC h).length) : ∃ st', m_X12_layCopies F (some 179) (nI a) (nI b) (ov g st) = some (ov g st') ∧ Rs [26, 27] st st' ∧ PL (sA st' 26) (hC h)[a].2 ∧ PL (sA st' 27) (hC h)[b].2 := by
  obtain ⟨s1, e1, r1, p1⟩ := layCopy_e (F := F) (g := g) hF N ok ha (Or.inl rfl)
  obtain ⟨s2, e2, r2, p2⟩ := layCopy_e (F := F) (g := g) (st := s1) hF (by rw [r1.A (by decide)]; exact N) ok hb (Or.inr rfl)
  refine ⟨s2, ?_, (r1.mono (by decide)).trans (r2.mono (by decide)), by rw [r2.A (by decide)]; exact p1, p2⟩
  unfold m_X12_layCopies
  rw [rR_26, bd_some, ck_e r_isO, bd_e e1, rR_27, bd_some, ck_e r_isO, bd_e e2]
theorem layOrder_L (N : NW (sA st 14) h) {L : List Nat} (hP : okP (hN h) L) (h7 : hN h ≤ 7) (hY : LY st L) {k : Nat} (hk : k = 26 ∨ k = 27) : ∀ (d i z : Nat) (st' : RS), i + d = 7 → d < z → Rs [k] st st' → (∀ l, l < i → sA st' k l = pl L l) →
    ∃ st'', m_X12_layOrder_L7 F z (some 179) (some (164 + k)) (nI i) (ov g st') = some (ov g st'') ∧ Rs [k] st st'' ∧ PL (sA st'' k) L := by
  have k25 : (25 : Nat) ∉ [k] := by rcases hk with rfl | rfl <;> decide
  intro d
  induction d with
  | zero =>
    intro i z st' hi hz hs hp
    obtain ⟨z, rfl⟩ : ∃ j, z = j + 1 := ⟨z - 1, by omega⟩
    refine ⟨st', ?_, hs, fun l hl => hp l (by omega)⟩
    show m_X12_layOrder_b7 F _ _ _ _ _ = _
    unfold m_X12_layOrder_b7
    rw [if_pos (show nI 7 ≤ nI i from nI_le (by omega) (by omega))]
  | succ d ih =>
    intro i z st' hi hz hs hp
    obtain ⟨z, rfl⟩ : ∃ j, z = j + 1 := ⟨z - 1, by omega⟩
    have N' : NW (sA st' 14) h := by rw [hs.A (k14 hk)]; exact N
    obtain ⟨st'', e1, e2, e3⟩ := ih (i + 1) z (uA st' k i (pl L i)) (by omega) (by omega) (hs.trans (Rs.uA (List.mem_singleton.mpr rfl))) (by
      intro l hl
      rw [sA_uA, if_pos rfl]
      by_cases e : l = i
      · rw [e, upd_s]
      · rw [upd_n e, hp l (by omega)])
    refine ⟨st'', ?_, e2, e3⟩
    show m_X12_layOrder_b7 F _ _ _ _ _ = _
    unfold m_X12_layOrder_b7
    rw [if_neg (show ¬ nI 7 ≤ nI i from nI_ge (by omega) (by omega)), ck_e r_isO, bd_e (rlines_e N')]
    by_cases e : hN h ≤ i
    · have hn : i ∉ L := fun hm => by have := hP.2.1 i hm; omega
      rw [if_pos (nI_le e (by omega)), wPl hk (by omega), bd_some, nm_e2, nI_1, ← pl_no hn]
      exact e1
    · have hm : i ∈ L := hP.mem (by omega)
      have hix := List.idxOf_lt_length_iff.mpr hm
      have hr := (hY (L.idxOf i) hix).2
      rw [List.getElem_idxOf hix] at hr
      rw [if_neg (nI_ge (by omega) (by omega)), rR_25, bd_some, rE_25 (by omega), bd_some, hs.A k25, hr, ← pl_yes hm, wPl hk (by omega), bd_some, nm_e2, nI_1]
      exact e1
theorem layOrder_e (hF : 8 ≤ F) (N : NW (sA st 14) h) (h2 : 1 ≤ hN h) (h7 : hN h ≤ 7) {x : Nat} (hx : x < fct (hN h)) {k : Nat} (hk : k = 26 ∨ k = 27) : ∃ st', m_X12_layOrder F (some 179) (nI x) (some (164 + k)) (ov g st) = some (ov g st') ∧ Rs [24, 25, k] st st' ∧ PL (sA st' k) (unrk (hN h) x) ∧ LY st' (unrk (hN h) x) := by
  obtain ⟨s1, e1, r1, y1⟩ := rlay_e (F := F) (g := g) N h2 h7 hF hx
  have hP := unrk_ok hx
  obtain ⟨s2, e2, r2, p2⟩ := layOrder_L (F := F) (g := g) (st := s1) (by rw [r1.A (by decide)]; exact N) hP h7 y1 hk 7 0 F s1 (by omega) (by omega) (Rs.refl _ _) (fun _ h => absurd h (Nat.not_lt_zero _))
  refine ⟨s2, ?_, (r1.mono (by simp)).trans (r2.mono (by simp)), p2, ?_⟩
  · unfold m_X12_layOrder
    rw [ck_e r_isO, bd_e e1]
    exact e2
  · intro i hi
    rw [r2.A (by rcases hk with rfl | rfl <;> decide), r2.A (by rcases hk with rfl | rfl <;> decide)]
    exact y1 i hi
/-- the number of a whole order: of each place how many lower lines are behind -/
def lowB (L : List Nat) (i : Nat) : Nat := cnt (L.length - (i + 1)) (fun j => decide (L.getD (i + 1 + j) 0 < L.getD i 0))
def rnkL : Nat → List Nat → Nat
  | 0, _ => 0
  | i + 1, L => rnkL i L * (L.length - i) + lowB L i
def rnk (L : List Nat) : Nat := rnkL L.length L
def RW (a : Nat → Int32) (L : List Nat) : Prop := ∀ i (hi : i < L.length), a i = nI L[i]
theorem lowB_le {L : List Nat} (i : Nat) : lowB L i ≤ L.length - (i + 1) := cnt_le _ _
theorem rnk_lt (L : List Nat) : ∀ i, i ≤ L.length → rnkL i L * fct (L.length - i) < fct L.length := by
  intro i
  induction i with
  | zero => intro _; simpa [rnkL] using fct_pos _
  | succ i ih =>
    intro hi
    have h1 := ih (by omega)
    have h2 := lowB_le (L := L) i
    obtain ⟨m, hm⟩ : ∃ m, L.length - i = m + 1 := ⟨L.length - i - 1, by omega⟩
    have hm2 : L.length - (i + 1) = m := by omega
    rw [hm] at h1
    simp only [rnkL]
    rw [hm2, hm]
    rw [hm2] at h2
    sorry
theorem numberOf_L19 (hr : RW (sA st 24) L) (hL : okL L) (N : NW (sA st 14) h) (hl : L.length = hN h) (h7 : hN h ≤ 7) {rc : Option Nat → Int32 → Int32 → Hp → Option Int32} {v1 : Int32} {i : Nat} (hi : i < hN h) : ∀ (d j z : Nat), j + d = L.length - (i + 1) → d < z → m_X12_numberOf_L19 F rc z (some 179) v1 (nI i) (nI (cnt j (fun j => decide (L.getD (i + 1 + j) 0 < L.getD i 0)))) (nI (i + 1 + j)) (ov g st) = m_X12_numberOf_B53 F rc (some 179) v1 (nI i) (nI (lowB L i)) (ov g st) := by
  intro d
  induction d with
  | zero =>
    intro j z hj hz
    obtain ⟨z, rfl⟩ : ∃ j, z = j + 1 := ⟨z - 1, by omega⟩
    show m_X12_numberOf_b19 F _ _ _ _ _ _ _ _ = _
    unfold m_X12_numberOf_b19
    rw [ck_e r_isO, bd_e (rlines_e N), if_pos (nI_le (by omega) (by omega))]
    have : j = L.length - (i + 1) := by omega
    rw [this]
    rfl
  | succ d ih =>
    intro j z hj hz
    obtain ⟨z, rfl⟩ : ∃ j, z = j + 1 := ⟨z - 1, by omega⟩
    have hs := ih (j + 1) z (by omega) (by omega)
    rw [cnt_s] at hs
    have h1 : i + 1 + j < L.length := by omega
    have a1 := hL.1 _ (List.getElem_mem h1)
    have a2 := hL.1 _ (List.getElem_mem (show i < L.length by omega))
    show m_X12_numberOf_b19 F _ _ _ _ _ _ _ _ = _
    unfold m_X12_numberOf_b19
    rw [ck_e r_isO, bd_e (rlines_e N), if_neg (nI_ge (by omega) (by omega)), rR_24, bd_some, rE_24 (by omega), bd_some, bd_some, rE_24 (by omega), bd_some, hr _ h1, hr i (by omega)]
    rw [getD_e h1, getD_e (show i < L.length by omega)] at hs
    by_cases q : L[i] ≤ L[i + 1 + j]
    · rw [if_pos (nI_le q (by omega)), nm_e2, nI_1]
      simpa [Nat.not_lt.mpr q] using hs
    · rw [if_neg (nI_ge (by omega) (by omega)), nm_e2, nm_e2, nI_1, nI_1]
      simpa [Nat.lt_of_not_le q] using hs
theorem numberOf_L4 (hF : 8 ≤ F) (hr : RW (sA st 24) L) (hL : okL L) (N : NW (sA st 14) h) (hl : L.length = hN h) (h7 : hN h ≤ 7) : ∀ (d i z : Nat), i + d = hN h → d < z → m_X12_numberOf_L4 F z (some 179) (nI (rnkL i L)) (nI i) (ov g st) = some (nI (rnk L)) := by
  intro d
  induction d with
  | zero =>
    intro i z hi hz
    obtain ⟨z, rfl⟩ : ∃ j, z = j + 1 := ⟨z - 1, by omega⟩
    show m_X12_numberOf_b4 F _ _ _ _ _ = _
    unfold m_X12_numberOf_b4
    rw [ck_e r_isO, bd_e (rlines_e N), if_pos (nI_le (by omega) (by omega)), show i = L.length by omega]
    rfl
  | succ d ih =>
    intro i z hi hz
    obtain ⟨z, rfl⟩ : ∃ j, z = j + 1 := ⟨z - 1, by omega⟩
    show m_X12_numberOf_b4 F _ _ _ _ _ = _
    unfold m_X12_numberOf_b4
    rw [ck_e r_isO, bd_e (rlines_e N), if_neg (nI_ge (by omega) (by omega)), nm_e2, nI_1]
    refine (numberOf_L19 (F := F) (g := g) hr hL N hl h7 (by omega) (L.length - (i + 1)) 0 F (by omega) (by omega)).trans ?_
    unfold m_X12_numberOf_B53
    rw [ck_e r_isO, bd_e (rlines_e N), nm_e2, nm_e2, nI_sub (by omega), nI_mul, nI_add, nI_1, ← hl]
    exact ih (i + 1) z (by omega) (by omega)
theorem rnumberOf_e (hF : 8 ≤ F) (hr : RW (sA st 24) L) (hL : okL L) (N : NW (sA st 14) h) (hl : L.length = hN h) (h7 : hN h ≤ 7) : m_X12_numberOf F (some 179) (ov g st) = some (nI (rnk L)) :=
  numberOf_L4 (F := F) (g := g) hF hr hL N hl h7 (hN h) 0 F (by omega) (by omega)
end RLAY2
