/-! the reference's neighbours and WAYS -/
/-- nothing but these fields, rows of ints, rows of longs has changed -/
def Cg (I A L : List Nat) (st st' : RS) : Prop := (∀ k, k ∉ I → sI st' k = sI st k) ∧ (∀ k, k ∉ I → sJ st' k = sJ st k) ∧ (∀ k, k ∉ A → sA st' k = sA st k) ∧ (∀ k, k ∉ L → sL st' k = sL st k)
theorem Cg.refl (I A L : List Nat) (st : RS) : Cg I A L st st := ⟨fun _ _ => rfl, fun _ _ => rfl, fun _ _ => rfl, fun _ _ => rfl⟩
theorem Cg.trans {I A L : List Nat} {a b c : RS} (h1 : Cg I A L a b) (h2 : Cg I A L b c) : Cg I A L a c := ⟨fun k hk => (h2.1 k hk).trans (h1.1 k hk), fun k hk => (h2.2.1 k hk).trans (h1.2.1 k hk), fun k hk => (h2.2.2.1 k hk).trans (h1.2.2.1 k hk), fun k hk => (h2.2.2.2 k hk).trans (h1.2.2.2 k hk)⟩
theorem Cg.mono {I A L I' A' L' : List Nat} {a b : RS} (h : Cg I A L a b) (hI : ∀ j, j ∈ I → j ∈ I') (hA : ∀ j, j ∈ A → j ∈ A') (hL : ∀ j, j ∈ L → j ∈ L') : Cg I' A' L' a b := ⟨fun k hk => h.1 k (fun q => hk (hI k q)), fun k hk => h.2.1 k (fun q => hk (hI k q)), fun k hk => h.2.2.1 k (fun q => hk (hA k q)), fun k hk => h.2.2.2 k (fun q => hk (hL k q))⟩
theorem Rs.cg {K : List Nat} {a b : RS} (h : Rs K a b) : Cg [] K [] a b := ⟨fun k _ => h.I k, fun k _ => h.J k, fun k hk => h.A hk, fun k _ => h.L k⟩
theorem Cg.uI {I A L : List Nat} {a : RS} {k : Nat} {x : Int32} (hk : k ∈ I) : Cg I A L a (uI a k x) := ⟨fun j hj => by rw [sI_uI, if_neg (fun e : j = k => hj (e ▸ hk))], fun j _ => sJ_uI, fun j _ => sA_uI, fun j _ => sL_uI⟩
theorem Cg.uJ {I A L : List Nat} {a : RS} {k : Nat} {x : Int64} (hk : k ∈ I) : Cg I A L a (uJ a k x) := ⟨fun j _ => sI_uJ, fun j hj => by rw [sJ_uJ, if_neg (fun e : j = k => hj (e ▸ hk))], fun j _ => sA_uJ, fun j _ => sL_uJ⟩
theorem Cg.uA {I A L : List Nat} {a : RS} {k i : Nat} {x : Int32} (hk : k ∈ A) : Cg I A L a (uA a k i x) := ⟨fun j _ => sI_uA, fun j _ => sJ_uA, fun j hj => by rw [sA_uA, if_neg (fun e : j = k => hj (e ▸ hk))], fun j _ => sL_uA⟩
theorem Cg.uL {I A L : List Nat} {a : RS} {k i : Nat} {x : Int64} (hk : k ∈ L) : Cg I A L a (uL a k i x) := ⟨fun j _ => sI_uL, fun j _ => sJ_uL, fun j _ => sA_uL, fun j hj => by rw [sL_uL, if_neg (fun e : j = k => hj (e ▸ hk))]⟩
theorem Cg.I {I A L : List Nat} {a b : RS} (h : Cg I A L a b) {k : Nat} (hk : k ∉ I) : sI b k = sI a k := h.1 k hk
theorem Cg.J {I A L : List Nat} {a b : RS} (h : Cg I A L a b) {k : Nat} (hk : k ∉ I) : sJ b k = sJ a k := h.2.1 k hk
theorem Cg.A {I A L : List Nat} {a b : RS} (h : Cg I A L a b) {k : Nat} (hk : k ∉ A) : sA b k = sA a k := h.2.2.1 k hk
theorem Cg.L {I A L : List Nat} {a b : RS} (h : Cg I A L a b) {k : Nat} (hk : k ∉ L) : sL b k = sL a k := h.2.2.2 k hk
section RWAYS
variable {F : Nat} {g : Hp} {st : RS} {h : HS}
/-- the neighbours that are laid -/
def NBr (a : Nat → Int32) (M x p0 : Nat) : Prop := ∀ y q, q < M - 1 → (y < x ∨ y = x ∧ q < p0) → a (6 * y + q) = nI (exN M y q)
def NBo (st : RS) : Prop := ∃ M, sI st 39 = nI M ∧ M ≤ 7 ∧ (2 ≤ M → NBr (sA st 38) M (fct M) 0)
theorem nb_L32 (N : NW (sA st 14) h) (h2 : 2 ≤ hN h) (h7 : hN h ≤ 7) (hF : 8 ≤ F) {rc : Option Nat → Int32 → Hp → Option Hp} {x : Nat} (hx : x < fct (hN h)) : ∀ (d p z : Nat) (st' : RS), p + d = hN h - 1 → d < z → Cg [39] [24, 25, 38] [] st st' → NBr (sA st' 38) (hN h) x p →
    ∃ st'', m_X12_layNeighbours_L32 F rc z (some 179) (nI x) (nI p) (ov g st') = rc (some 179) (nI (x + 1)) (ov g st'') ∧ Cg [39] [24, 25, 38] [] st st'' ∧ sI st'' 39 = sI st' 39 ∧ NBr (sA st'' 38) (hN h) (x + 1) 0 := by
  have h5 := fct_le (hN h) (by omega)
  have hP := unrk_ok hx
  intro d
  induction d with
  | zero =>
    intro p z st' hp hz C B
    obtain ⟨z, rfl⟩ : ∃ j, z = j + 1 := ⟨z - 1, by omega⟩
    refine ⟨st', ?_, C, rfl, fun y q hq hy => B y q hq (by omega)⟩
    show m_X12_layNeighbours_b32 F _ _ _ _ _ _ = _
    unfold m_X12_layNeighbours_b32
    rw [ck_e r_isO, bd_e (rlines_e (by rw [C.A (by decide)]; exact N)), nI_m1 (by omega), if_pos (nI_le (by omega) (by omega)), nm_e2, nI_1]
  | succ d ih =>
    intro p z st' hp hz C B
    obtain ⟨z, rfl⟩ : ∃ j, z = j + 1 := ⟨z - 1, by omega⟩
    have N' : NW (sA st' 14) h := by rw [C.A (by decide)]; exact N
    obtain ⟨s1, e1, r1, y1⟩ := rlay_e (F := F) (g := g) N' (by omega) h7 hF hx
    have hl : (unrk (hN h) x).length = hN h := hP.2.2
    have hpl : p + 1 < (unrk (hN h) x).length := by omega
    have y1p := (y1 p (by omega)).1
    have y1q := (y1 (p + 1) hpl).1
    have hsw := hP.swp (p := p)
    have N2 : NW (sA (uA (uA s1 24 p (nI (unrk (hN h) x)[p + 1])) 24 (p + 1) (nI (unrk (hN h) x)[p])) 14) h := by
      rw [sA_uA, if_neg (by decide), sA_uA, if_neg (by decide), r1.A (by decide)]; exact N'
    have hrw : RW (sA (uA (uA s1 24 p (nI (unrk (hN h) x)[p + 1])) 24 (p + 1) (nI (unrk (hN h) x)[p])) 24) (swp p (unrk (hN h) x)) := by
      intro i hi
      have hi' : i < (unrk (hN h) x).length := by rw [hl]; rw [hsw.2.2] at hi; exact hi
      have es := swp_at p _ hpl i
      rw [getD_e hi] at es
      rw [es, sA_uA, if_pos rfl, sA_uA, if_pos rfl]
      by_cases c1 : i = p
      · rw [if_pos c1, c1, upd_n (by omega), upd_s, getD_e hpl]
      · rw [if_neg c1]
        by_cases c2 : i = p + 1
        · rw [if_pos c2, c2, upd_s, getD_e (by omega)]
        · rw [if_neg c2, upd_n c2, upd_n c1, getD_e hi']
          exact (y1 i hi').1
    have en := rnumberOf_e (F := F) (g := g) hF hrw (hsw.L h7) N2 hsw.2.2 h7
    have ei : (6 : Int32) * nI x + nI p = nI (6 * x + p) := by rw [← nI_add, ← nI_mul]; rfl
    obtain ⟨st'', i1, i2, i4, i3⟩ := ih (p + 1) z (uA (uA (uA s1 24 p (nI (unrk (hN h) x)[p + 1])) 24 (p + 1) (nI (unrk (hN h) x)[p])) 38 (6 * x + p) (nI (exN (hN h) x p))) (by omega) (by omega) ((((C.trans (r1.cg.mono (by simp) (by simp) (by simp))).trans (Cg.uA (by decide))).trans (Cg.uA (by decide))).trans (Cg.uA (by decide))) (by
      intro y q hq hy
      rw [sA_uA, if_pos rfl]
      by_cases e : 6 * y + q = 6 * x + p
      · have h1 : y = x := by omega
        have h2 : q = p := by omega
        subst h1; subst h2
        rw [upd_s]
      · rw [upd_n e, sA_uA, if_neg (by decide), sA_uA, if_neg (by decide), r1.A (by decide)]
        exact B y q hq (by
          rcases hy with hy | ⟨hy, hq2⟩
          · exact Or.inl hy
          · refine Or.inr ⟨hy, ?_⟩
            rcases Nat.lt_or_ge q p with q1 | q1
            · exact q1
            · exfalso; apply e; rw [hy, show q = p by omega]))
    refine ⟨st'', ?_, i2, ?_, i3⟩
    · show m_X12_layNeighbours_b32 F _ _ _ _ _ _ = _
      unfold m_X12_layNeighbours_b32
      rw [ck_e r_isO, bd_e (rlines_e N'), nI_m1 (by omega), if_neg (nI_ge (by omega) (by omega)), ck_e r_isO, bd_e e1, rR_24, bd_some, rE_24 (by omega), bd_some, bd_some, bd_some, nI_1, rE_24 (by omega), bd_some, y1p, y1q, wE_24 (by omega), bd_some, rR_24, bd_some, wE_24 (by omega), bd_some, rR_38, bd_some, ck_e r_isO, bd_e en, ei, wE_38 (by omega), bd_some, nm_e2]
      exact i1
    · rw [i4, sI_uA, sI_uA, sI_uA, r1.I]
theorem nb_L22 (N : NW (sA st 14) h) (h2 : 2 ≤ hN h) (h7 : hN h ≤ 7) (hF : 8 ≤ F) : ∀ (d x z : Nat) (st' : RS), x + d = fct (hN h) → d < z → Cg [39] [24, 25, 38] [] st st' → NBr (sA st' 38) (hN h) x 0 →
    ∃ st'', m_X12_layNeighbours_L22 F z (some 179) (nI x) (ov g st') = some (ov g st'') ∧ Cg [39] [24, 25, 38] [] st st'' ∧ sI st'' 39 = sI st' 39 ∧ NBr (sA st'' 38) (hN h) (fct (hN h)) 0 := by
  have h5 := fct_le (hN h) (by omega)
  intro d
  induction d with
  | zero =>
    intro x z st' hx hz C B
    obtain ⟨z, rfl⟩ : ∃ j, z = j + 1 := ⟨z - 1, by omega⟩
    refine ⟨st', ?_, C, rfl, by rw [show fct (hN h) = x by omega]; exact B⟩
    show m_X12_layNeighbours_b22 F _ _ _ _ = _
    unfold m_X12_layNeighbours_b22
    rw [ck_e r_isO, bd_e (rorders_e (by rw [C.A (by decide)]; exact N) (by omega) h7 hF), if_pos (nI_le (by omega) (by omega))]
  | succ d ih =>
    intro x z st' hx hz C B
    obtain ⟨z, rfl⟩ : ∃ j, z = j + 1 := ⟨z - 1, by omega⟩
    obtain ⟨s1, a1, a2, a4, a3⟩ := nb_L32 (F := F) (g := g) N h2 h7 hF (rc := m_X12_layNeighbours_L22 F z) (x := x) (by omega) (hN h - 1) 0 F st' (by omega) (by omega) C B
    obtain ⟨st'', i1, i2, i4, i3⟩ := ih (x + 1) z s1 (by omega) (by omega) a2 a3
    refine ⟨st'', ?_, i2, i4.trans a4, i3⟩
    show m_X12_layNeighbours_b22 F _ _ _ _ = _
    unfold m_X12_layNeighbours_b22
    rw [ck_e r_isO, bd_e (rorders_e (by rw [C.A (by decide)]; exact N) (by omega) h7 hF), if_neg (nI_ge (by omega) (by omega))]
    exact a1.trans i1
theorem layNb_e (N : NW (sA st 14) h) (h2 : 2 ≤ hN h) (h7 : hN h ≤ 7) (hF : 5041 ≤ F) (B : NBo st) : ∃ st', m_X12_layNeighbours F (some 179) (ov g st) = some (ov g st') ∧ Cg [39] [24, 25, 38] [] st st' ∧ sI st' 39 = nI (hN h) ∧ NBr (sA st' 38) (hN h) (fct (hN h)) 0 := by
  have h5 := fct_le (hN h) (by omega)
  obtain ⟨M, b1, b2, b3⟩ := B
  unfold m_X12_layNeighbours
  rw [rI_39, bd_some, ck_e r_isO, bd_e (rlines_e N), b1]
  by_cases e : M = hN h
  · subst e
    rw [if_pos rfl]
    exact ⟨st, rfl, Cg.refl _ _ _ _, b1, b3 h2⟩
  · rw [if_neg (fun q => e ((nI_eq (by omega) (by omega)).mp q)), ck_e r_isO, bd_e (rlines_e N), wI_39, bd_some]
    obtain ⟨st', i1, i2, i4, i3⟩ := nb_L22 (F := F) (g := g) (st := st) N h2 h7 (by omega) (fct (hN h)) 0 F (uI st 39 (nI (hN h))) (by omega) (by omega) (Cg.uI (by decide)) (fun y q _ hy => by omega)
    refine ⟨st', i1, i2, ?_, i3⟩
    rw [i4, sI_uI, if_pos rfl]
/-! WAYS -/
theorem rw_102 (N : NW (sA st 14) h) (h2 : 2 ≤ hN h) (h7 : hN h ≤ 7) (B : NBr (sA st 38) (hN h) (fct (hN h)) 0) {rc44 : Option Nat → Int32 → Int32 → Int32 → Int32 → Hp → Option Hp} {rc77 : Option Nat → Int32 → Int32 → Int32 → Int32 → Int32 → Hp → Option Hp} {v2 v3 v4 v5 : Int32} {W : Nat → Int32} (hW : ∀ p, p < 6 → (if v3 = 0 then sA st 14 (102 + p) else 1) = W p) {y : Nat} (hy : y < fct (hN h)) : ∀ (d p z : Nat) (st' : RS) (m : Nat → Int64), p + d = hN h - 1 → d < z → Cg [] [] [36] st st' → agr (fct (hN h)) (sL st' 36) m →
    ∃ st'', m_X12_layWays_L102 F rc44 rc77 z (some 179) v2 v3 v4 v5 (nI y) (nI p) (ov g st') = rc77 (some 179) v2 v3 v4 v5 (nI (y + 1)) (ov g st'') ∧ Cg [] [] [36] st st'' ∧ agr (fct (hN h)) (sL st'' 36) (pasP (hN h) W (sL st 35 y) y d p m) := by
  have h5 := fct_le (hN h) (by omega)
  intro d
  induction d with
  | zero =>
    intro p z st' m hp hz C hm
    obtain ⟨z, rfl⟩ : ∃ j, z = j + 1 := ⟨z - 1, by omega⟩
    refine ⟨st', ?_, C, hm⟩
    show m_X12_layWays_b102 F _ _ _ _ _ _ _ _ _ _ _ = _
    unfold m_X12_layWays_b102
    rw [ck_e r_isO, bd_e (rlines_e (by rw [C.A (by decide)]; exact N)), nI_m1 (by omega), if_pos (nI_le (by omega) (by omega)), nm_e2, nI_1]
  | succ d ih =>
    intro p z st' m hp hz C hm
    obtain ⟨z, rfl⟩ : ∃ j, z = j + 1 := ⟨z - 1, by omega⟩
    have hex := exN_lt (p := p) hy
    have hb : sA st' 38 (6 * y + p) = nI (exN (hN h) y p) := by rw [C.A (by decide)]; exact B y p (by omega) (Or.inl hy)
    have ei : (6 : Int32) * nI y + nI p = nI (6 * y + p) := by rw [← nI_add, ← nI_mul]; rfl
    have e2 : (102 : Int32) + nI p = nI (102 + p) := by rw [← nI_add]; rfl
    have hw := hW p (by omega)
    obtain ⟨st'', i1, i2, i3⟩ := ih (p + 1) z (uL st' 36 (exN (hN h) y p) (sL st' 36 (exN (hN h) y p) + sL st 35 y * (W p).toInt64)) (vp_updL m (exN (hN h) y p) (m (exN (hN h) y p) + sL st 35 y * (W p).toInt64)) (by omega) (by omega) (C.trans (Cg.uL (by decide))) (by
      rw [sL_uL, if_pos rfl, hm _ hex]
      exact hm.upd _ _)
    refine ⟨st'', ?_, i2, i3⟩
    show m_X12_layWays_b102 F _ _ _ _ _ _ _ _ _ _ _ = _
    unfold m_X12_layWays_b102
    rw [ck_e r_isO, bd_e (rlines_e (by rw [C.A (by decide)]; exact N)), nI_m1 (by omega), if_neg (nI_ge (by omega) (by omega)), rR_36, bd_some, rR_38, bd_some, ei, rE_38 (by omega), bd_some, hb, rE_36 (by omega), bd_some, rR_35, bd_some, rE_35 (by omega), bd_some, show sL st' 35 = sL st 35 from C.L (by decide)]
    by_cases q : v3 = 0
    · rw [if_pos q] at hw
      rw [if_pos q, rR_14, bd_some, e2, rE_14 (by omega), bd_some, show sA st' 14 = sA st 14 from C.A (by decide), hw, wE_36 (by omega), bd_some, nm_e2, nI_1]
      exact i1
    · rw [if_neg q] at hw
      rw [← hw] at i1
      rw [if_neg q, wE_36 (by omega), bd_some, nm_e2, nI_1]
      exact i1
theorem rw_176 {rc44 : Option Nat → Int32 → Int32 → Int32 → Int32 → Hp → Option Hp} {v2 v3 v5 : Int32} {n : Nat} (hn : n ≤ 5040) : ∀ (d y z : Nat) (st' : RS), y + d = n → d < z → Cg [] [] [35] st st' → (∀ j, j < y → sL st' 35 j = sL st 36 j) →
    ∃ st'', m_X12_layWays_L176 F rc44 z (some 179) v2 v3 (nI n) v5 (nI y) (ov g st') = rc44 (some 179) v2 v3 (nI n) (v5 + 1) (ov g st'') ∧ Cg [] [] [35] st st'' ∧ ∀ j, j < n → sL st'' 35 j = sL st 36 j := by
  intro d
  induction d with
  | zero =>
    intro y z st' hy hz C hm
    obtain ⟨z, rfl⟩ : ∃ j, z = j + 1 := ⟨z - 1, by omega⟩
    refine ⟨st', ?_, C, by rw [show n = y by omega]; exact hm⟩
    show m_X12_layWays_b176 F _ _ _ _ _ _ _ _ _ = _
    unfold m_X12_layWays_b176
    rw [if_pos (nI_le (by omega) (by omega)), nm_e2]
  | succ d ih =>
    intro y z st' hy hz C hm
    obtain ⟨z, rfl⟩ : ∃ j, z = j + 1 := ⟨z - 1, by omega⟩
    obtain ⟨st'', i1, i2, i3⟩ := ih (y + 1) z (uL st' 35 y (sL st 36 y)) (by omega) (by omega) (C.trans (Cg.uL (by decide))) (fun j hj => by
      rw [sL_uL, if_pos rfl]
      by_cases e : j = y
      · rw [e, updL_s]
      · rw [updL_n e]; exact hm j (by omega))
    refine ⟨st'', ?_, i2, i3⟩
    show m_X12_layWays_b176 F _ _ _ _ _ _ _ _ _ = _
    unfold m_X12_layWays_b176
    rw [if_neg (nI_ge (by omega) (by omega)), rR_35, bd_some, rR_36, bd_some, rE_36 (by omega), bd_some, show sL st' 36 = sL st 36 from C.L (by decide), wE_35 (by omega), bd_some, nm_e2, nI_1]
    exact i1
theorem rw_77 (N : NW (sA st 14) h) (h2 : 2 ≤ hN h) (h7 : hN h ≤ 7) (hF : 5041 ≤ F) (B : NBr (sA st 38) (hN h) (fct (hN h)) 0) {rc44 : Option Nat → Int32 → Int32 → Int32 → Int32 → Hp → Option Hp} {v2 v3 v5 : Int32} {W : Nat → Int32} (hW : ∀ p, p < 6 → (if v3 = 0 then sA st 14 (102 + p) else 1) = W p) {nM : Nat → Int64} (hn : agr (fct (hN h)) (sL st 35) nM) : ∀ (d y z : Nat) (st' : RS) (m : Nat → Int64), y + d = fct (hN h) → d < z → Cg [] [] [36] st st' → agr (fct (hN h)) (sL st' 36) m →
    ∃ st'', m_X12_layWays_L77 F rc44 z (some 179) v2 v3 (nI (fct (hN h))) v5 (nI y) (ov g st') = rc44 (some 179) v2 v3 (nI (fct (hN h))) (v5 + 1) (ov g st'') ∧ Cg [] [] [35, 36] st st'' ∧ agr (fct (hN h)) (sL st'' 35) (sprX (hN h) W nM d y m) := by
  have h5 := fct_le (hN h) (by omega)
  intro d
  induction d with
  | zero =>
    intro y z st' m hy hz C hm
    obtain ⟨z, rfl⟩ : ∃ j, z = j + 1 := ⟨z - 1, by omega⟩
    obtain ⟨st'', i1, i2, i3⟩ := rw_176 (F := F) (g := g) (st := st') (rc44 := rc44) (v2 := v2) (v3 := v3) (v5 := v5) h5 (fct (hN h)) 0 F st' (by omega) (by omega) (Cg.refl _ _ _ _) (fun _ hj => absurd hj (Nat.not_lt_zero _))
    refine ⟨st'', ?_, (C.mono (by simp) (by simp) (by simp)).trans (i2.mono (by simp) (by simp) (by simp)), fun j hj => (i3 j hj).trans (hm j hj)⟩
    show m_X12_layWays_b77 F _ _ _ _ _ _ _ _ _ = _
    unfold m_X12_layWays_b77
    rw [if_pos (nI_le (by omega) (by omega))]
    exact i1
  | succ d ih =>
    intro y z st' m hy hz C hm
    obtain ⟨z, rfl⟩ : ∃ j, z = j + 1 := ⟨z - 1, by omega⟩
    have hyl : y < fct (hN h) := by omega
    have hny := hn y hyl
    by_cases e : nM y = 0
    · obtain ⟨st'', i1, i2, i3⟩ := ih (y + 1) z st' m (by omega) (by omega) C hm
      refine ⟨st'', ?_, i2, ?_⟩
      · show m_X12_layWays_b77 F _ _ _ _ _ _ _ _ _ = _
        unfold m_X12_layWays_b77
        rw [if_neg (nI_ge (by omega) (by omega)), rR_35, bd_some, rE_35 (by omega), bd_some, show sL st' 35 = sL st 35 from C.L (by decide), if_pos ((lg_cmp_eq _ _).mpr (by rw [hny, e])), nm_e2, nI_1]
        exact i1
      · show agr _ _ (sprX (hN h) W nM d (y + 1) (if nM y = 0 then m else _))
        rw [if_pos e]
        exact i3
    · obtain ⟨s1, a1, a2, a3⟩ := rw_102 (F := F) (g := g) (st := st) N h2 h7 B (rc44 := rc44) (rc77 := m_X12_layWays_L77 F rc44 z) (v2 := v2) (v3 := v3) (v4 := nI (fct (hN h))) (v5 := v5) hW hyl (hN h - 1) 0 F st' m (by omega) (by omega) C hm
      obtain ⟨st'', i1, i2, i3⟩ := ih (y + 1) z s1 _ (by omega) (by omega) a2 a3
      refine ⟨st'', ?_, i2, ?_⟩
      · show m_X12_layWays_b77 F _ _ _ _ _ _ _ _ _ = _
        unfold m_X12_layWays_b77
        rw [if_neg (nI_ge (by omega) (by omega)), rR_35, bd_some, rE_35 (by omega), bd_some, show sL st' 35 = sL st 35 from C.L (by decide), if_neg (fun c => e (by rw [← hny]; exact (lg_cmp_eq _ _).mp c))]
        exact a1.trans i1
      · show agr _ _ (sprX (hN h) W nM d (y + 1) (if nM y = 0 then m else _))
        rw [if_neg e, ← hny]
        exact i3
theorem rw_44 (N : NW (sA st 14) h) (h2 : 2 ≤ hN h) (h7 : hN h ≤ 7) (hF : 5041 ≤ F) (B : NBr (sA st 38) (hN h) (fct (hN h)) 0) {v3 : Int32} {W : Nat → Int32} (hW : ∀ p, p < 6 → (if v3 = 0 then sA st 14 (102 + p) else 1) = W p) {x k : Nat} (hk : k < 2 ^ 20) : ∀ (d i z : Nat) (st' : RS), i + d = k → d < z → Cg [] [] [35, 36] st st' → agr (fct (hN h)) (sL st' 35) (sprK (hN h) W x i) →
    ∃ st'', m_X12_layWays_L44 F z (some 179) (nI k) v3 (nI (fct (hN h))) (nI i) (ov g st') = some (ov g st'') ∧ Cg [] [] [35, 36] st st'' ∧ agr (fct (hN h)) (sL st'' 35) (sprK (hN h) W x k) := by
  have h5 := fct_le (hN h) (by omega)
  intro d
  induction d with
  | zero =>
    intro i z st' hi hz C hm
    obtain ⟨z, rfl⟩ : ∃ j, z = j + 1 := ⟨z - 1, by omega⟩
    refine ⟨st', ?_, C, by rw [show k = i by omega]; exact hm⟩
    show m_X12_layWays_b44 F _ _ _ _ _ _ _ = _
    unfold m_X12_layWays_b44
    rw [if_pos (nI_le (by omega) (by omega))]
  | succ d ih =>
    intro i z st' hi hz C hm
    obtain ⟨z, rfl⟩ : ∃ j, z = j + 1 := ⟨z - 1, by omega⟩
    have key : ∀ s2, Cg [] [] [36] st' s2 → (∀ j, j < fct (hN h) → sL s2 36 j = 0) → ∃ st'', m_X12_layWays_L77 F (m_X12_layWays_L44 F z) F (some 179) (nI k) v3 (nI (fct (hN h))) (nI i) 0 (ov g s2) = some (ov g st'') ∧ Cg [] [] [35, 36] st st'' ∧ agr (fct (hN h)) (sL st'' 35) (sprK (hN h) W x k) := by
      intro s2 C2 z2
      have CC := C.trans (C2.mono (I' := []) (A' := []) (L' := [35, 36]) (by simp) (by simp) (by simp))
      obtain ⟨s3, a1, a2, a3⟩ := rw_77 (F := F) (g := g) (st := s2) (h := h) (by rw [CC.A (by decide)]; exact N) h2 h7 hF (by rw [CC.A (by decide)]; exact B) (rc44 := m_X12_layWays_L44 F z) (v2 := nI k) (v3 := v3) (v5 := nI i) (W := W) (by rw [CC.A (by decide)]; exact hW) (nM := sprK (hN h) W x i) (by rw [C2.L (by decide)]; exact hm) (fct (hN h)) 0 F s2 (fun _ => 0) (by omega) (by omega) (Cg.refl _ _ _ _) z2
      obtain ⟨st'', i1, i2, i3⟩ := ih (i + 1) z s3 (by omega) (by omega) (CC.trans a2) a3
      refine ⟨st'', ?_, i2, i3⟩
      refine a1.trans ?_
      rw [nI_1]
      exact i1
    have hm0 : ∃ st'', m_X12_layWays_L53 F (m_X12_layWays_L44 F z) F (some 179) (nI k) v3 (nI (fct (hN h))) (nI i) (nI 0) (ov g st') = some (ov g st'') ∧ Cg [] [] [35, 36] st st'' ∧ agr (fct (hN h)) (sL st'' 35) (sprK (hN h) W x k) := by
      have hz0 : ∃ s2, Cg [] [] [36] st' s2 ∧ (∀ j, j < fct (hN h) → sL s2 36 j = 0) ∧ m_X12_layWays_L53 F (m_X12_layWays_L44 F z) F (some 179) (nI k) v3 (nI (fct (hN h))) (nI i) (nI 0) (ov g st') = m_X12_layWays_L77 F (m_X12_layWays_L44 F z) F (some 179) (nI k) v3 (nI (fct (hN h))) (nI i) 0 (ov g s2) := by
        have gen : ∀ (d y z' : Nat) (s1 : RS), y + d = fct (hN h) → d < z' → Cg [] [] [36] st' s1 → (∀ j, j < y → sL s1 36 j = 0) → ∃ s2, Cg [] [] [36] st' s2 ∧ (∀ j, j < fct (hN h) → sL s2 36 j = 0) ∧ m_X12_layWays_L53 F (m_X12_layWays_L44 F z) z' (some 179) (nI k) v3 (nI (fct (hN h))) (nI i) (nI y) (ov g s1) = m_X12_layWays_L77 F (m_X12_layWays_L44 F z) F (some 179) (nI k) v3 (nI (fct (hN h))) (nI i) 0 (ov g s2) := by
          intro d
          induction d with
          | zero =>
            intro y z' s1 hy hz' C1 hm1
            obtain ⟨z', rfl⟩ : ∃ j, z' = j + 1 := ⟨z' - 1, by omega⟩
            refine ⟨s1, C1, fun j hj => hm1 j (by omega), ?_⟩
            show m_X12_layWays_b53 F _ _ _ _ _ _ _ _ _ = _
            unfold m_X12_layWays_b53
            rw [if_pos (nI_le (by omega) (by omega))]
          | succ d ih2 =>
            intro y z' s1 hy hz' C1 hm1
            obtain ⟨z', rfl⟩ : ∃ j, z' = j + 1 := ⟨z' - 1, by omega⟩
            obtain ⟨s2, b1, b2, b3⟩ := ih2 (y + 1) z' (uL s1 36 y 0) (by omega) (by omega) (C1.trans (Cg.uL (by decide))) (fun j hj => by
              rw [sL_uL, if_pos rfl]
              by_cases e : j = y
              · rw [e, updL_s]
              · rw [updL_n e]; exact hm1 j (by omega))
            refine ⟨s2, b1, b2, ?_⟩
            show m_X12_layWays_b53 F _ _ _ _ _ _ _ _ _ = _
            unfold m_X12_layWays_b53
            rw [if_neg (nI_ge (by omega) (by omega)), rR_36, bd_some, wE_36 (by omega), bd_some, nm_e2, nI_1]
            exact b3
        exact gen (fct (hN h)) 0 F st' (by omega) (by omega) (Cg.refl _ _ _ _) (fun _ hj => absurd hj (Nat.not_lt_zero _))
      obtain ⟨s2, b1, b2, b3⟩ := hz0
      obtain ⟨st'', c1, c2, c3⟩ := key s2 b1 b2
      exact ⟨st'', b3.trans c1, c2, c3⟩
    obtain ⟨st'', c1, c2, c3⟩ := hm0
    refine ⟨st'', ?_, c2, c3⟩
    show m_X12_layWays_b44 F _ _ _ _ _ _ _ = _
    unfold m_X12_layWays_b44
    rw [if_neg (nI_ge (by omega) (by omega))]
    exact c1
theorem layWays_e (N : NW (sA st 14) h) (h2 : 2 ≤ hN h) (h7 : hN h ≤ 7) (hF : 5041 ≤ F) (B : NBo st) {v3 : Int32} {W : Nat → Int32} (hW : ∀ p, p < 6 → (if v3 = 0 then sA st 14 (102 + p) else 1) = W p) {x k : Nat} (hx : x < fct (hN h)) (hk : k < 2 ^ 20) (hkF : k < F) : ∃ st', m_X12_layWays F (some 179) (nI x) (nI k) v3 (ov g st) = some (ov g st') ∧ Cg [39] [24, 25, 38] [35, 36] st st' ∧ NBo st' ∧ agr (fct (hN h)) (sL st' 35) (sprK (hN h) W x k) := by
  have h5 := fct_le (hN h) (by omega)
  obtain ⟨s1, a1, a2, a3, a4⟩ := layNb_e (F := F) (g := g) N h2 h7 hF B
  have N1 : NW (sA s1 14) h := by rw [a2.A (by decide)]; exact N
  have gen : ∀ (d y z : Nat) (s2 : RS), y + d = fct (hN h) → d < z → Cg [] [] [35] s1 s2 → (∀ j, j < y → sL s2 35 j = 0) → ∃ st', m_X12_layWays_L13 F z (some 179) (nI x) (nI k) v3 (nI (fct (hN h))) (nI y) (ov g s2) = some (ov g st') ∧ Cg [] [] [35, 36] s1 st' ∧ agr (fct (hN h)) (sL st' 35) (sprK (hN h) W x k) := by
    intro d
    induction d with
    | zero =>
      intro y z s2 hy hz C hm
      obtain ⟨z, rfl⟩ : ∃ j, z = j + 1 := ⟨z - 1, by omega⟩
      obtain ⟨st', i1, i2, i3⟩ := rw_44 (F := F) (g := g) (st := s1) (h := h) N1 h2 h7 hF a4 (v3 := v3) (W := W) (by rw [a2.A (by decide)]; exact hW) (x := x) hk k 0 F (uL s2 35 x 1) (by omega) hkF ((C.mono (by simp) (by simp) (by simp)).trans (Cg.uL (by decide))) (fun j hj => by
        rw [sL_uL, if_pos rfl]
        show vp_updL _ x 1 j = vp_updL (fun _ => 0) x 1 j
        by_cases e : j = x
        · rw [e, updL_s, updL_s]
        · rw [updL_n e, updL_n e]; exact hm j (by omega))
      refine ⟨st', ?_, i2, i3⟩
      show m_X12_layWays_b13 F _ _ _ _ _ _ _ _ = _
      unfold m_X12_layWays_b13
      rw [if_pos (nI_le (by omega) (by omega)), rR_35, bd_some, wE_35 (by omega), bd_some]
      exact i1
    | succ d ih =>
      intro y z s2 hy hz C hm
      obtain ⟨z, rfl⟩ : ∃ j, z = j + 1 := ⟨z - 1, by omega⟩
      obtain ⟨st', i1, i2, i3⟩ := ih (y + 1) z (uL s2 35 y 0) (by omega) (by omega) (C.trans (Cg.uL (by decide))) (fun j hj => by
        rw [sL_uL, if_pos rfl]
        by_cases e : j = y
        · rw [e, updL_s]
        · rw [updL_n e]; exact hm j (by omega))
      refine ⟨st', ?_, i2, i3⟩
      show m_X12_layWays_b13 F _ _ _ _ _ _ _ _ = _
      unfold m_X12_layWays_b13
      rw [if_neg (nI_ge (by omega) (by omega)), rR_35, bd_some, wE_35 (by omega), bd_some, nm_e2, nI_1]
      exact i1
  obtain ⟨st', i1, i2, i3⟩ := gen (fct (hN h)) 0 F s1 (by omega) (by omega) (Cg.refl _ _ _ _) (fun _ hj => absurd hj (Nat.not_lt_zero _))
  refine ⟨st', ?_, (a2.mono (by simp) (by simp) (by simp)).trans (i2.mono (by simp) (by simp) (by simp)), ⟨hN h, ?_, h7, fun _ => ?_⟩, i3⟩
  · unfold m_X12_layWays
    rw [ck_e r_isO, bd_e a1, ck_e r_isO, bd_e (rorders_e N1 (by omega) h7 (by omega))]
    exact i1
  · rw [i2.I (by decide)]; exact a3
  · rw [i2.A (by decide)]; exact a4
end RWAYS
