/-! the reference reads a SENTENCE: leaves -/
theorem wm_hi : ∀ k, k < 20 → 9 ≤ k → wm k = k + 1 := by decide +kernel
section SENT7
variable {F : Nat} {g : Hp} {B : Nat → Nat} {n R : Nat} {s0 st : RS} {h : HS} {o c r : Nat} {t : Tok}
theorem USs.n14 (C : USs B n R s0 st o t c r) (N0 : NW (sA s0 14) h) : NW (sA st 14) h := by
  rw [C.1.1.A (by decide)]
  exact N0
theorem USs.u13 (C : USs B n R s0 st o t c r) {x : Int32} : USs B n R s0 (uI st 13 x) o t c r := by
  obtain ⟨T, ⟨c1, c3, c5⟩, c4⟩ := C
  exact ⟨T.u13, ⟨by rw [sI_o (by decide)]; exact c1, by rw [sI_o (by decide)]; exact c3, by rw [sI_o (by decide)]; exact c5⟩, c4⟩
theorem USs.tk (C : USs B n R s0 st o t c r) {st' : RS} {t' : Tok} (T : TRs B n R s0 st' t') (e : Cg [5, 6, 7, 8, 9, 12, 13] [] [] st st') : USs B n R s0 st' o t' c r := by
  obtain ⟨-, ⟨c1, c3, c5⟩, c4⟩ := C
  exact ⟨T, ⟨by rw [e.I (by decide)]; exact c1, by rw [e.I (by decide)]; exact c3, by rw [e.I (by decide)]; exact c5⟩, c4⟩
theorem umeas (hF : 742 ≤ F) {nd : Nat → Int32} {o0 c0 : Nat} (ho : o = o0 + 1) (C : USs B n R s0 st o t c0 r) (l0 : c0 ≤ 2 * o0) (f : ∀ j, j < 4 * c0 → sA st 42 j = nd j) {v : Nat} (hv : 16 ≤ v ∧ v ≤ 19) {a a' : Int32} (h1 : v = 16 ∨ v = 17 → a = a') (h2 : 18 ≤ v → a = 0) : URs B n R s0 g nd c0 o0 r (m_X12_readCompare_B67 F (some 179) (nI v) a (ov g st)) (mMeas B n R (v + 1) a' o t) := by
  unfold m_X12_readCompare_B67 mMeas
  rw [ck_e r_isO, bd_e (usign C.1 (c := 60) (K := 60) (by decide) rfl)]
  have good : tK t = 4 ∧ (tS t = 60 ∨ tS t = 61 ∨ tS t = 62) → URs B n R s0 g nd c0 o0 r (m_X12_readCompare_B100 F (some 179) (nI v) a (ov g st)) (match mNum (nxT B n R t) 0 99 with
      | .inl q => .inl q
      | .inr x => .inr ([(v + 1, a', 0, nI (tS t), nI x)], o, nxT B n R (nxT B n R t))) := by
    intro w
    obtain ⟨s1, e1, C1, cg1⟩ := C.go (F := F) (g := g) hF (by omega)
    have e9 := C.1.2.2.1.1.2.2.2.2.2.2.1 w.1
    unfold m_X12_readCompare_B100
    rw [rI_9, bd_some, e9, ck_e r_isO, bd_e e1, ck_e r_isO]
    rcases unum (F := F) (g := g) hF C1.1 (lo := 0) (hi := 99) (L := 0) (H := 99) (by decide) (by decide) rfl rfl with ⟨q, s2, j1, j2, j3⟩ | ⟨x, s2, j1, j2, j3, j4, j5, j6, C2, j7, j8⟩
    · rw [j1, bd2_e j2, if_pos rfl, ck_e (by decide)]
      exact Or.inl ⟨q, s2, rfl, rfl, j3⟩
    · have C2' := C1.tk C2 j8
      rw [j1, bd2_e j2, if_neg (by decide), rI_13, bd_some, j7, ck_e r_isO, show nI v - (16 : Int32) + (8 : Int32) = nI (v - 8) by rw [show (16 : Int32) = nI 16 from rfl, show (8 : Int32) = nI 8 from rfl, nI_sub hv.1, nI_add]; congr 1; omega]
      obtain ⟨s3, i1, i2⟩ := uleaf (F := F) (g := g) (nd := nd) (β := Int32 × Hp) ho C2' l0 (fun j hj => by rw [j8.A (by decide), cg1.A (by decide)]; exact f j hj) (w := nI (v - 8)) (a := a) (b := nI x) (x := nI (tS t)) (e := (v + 1, a', 0, nI (tS t), nI x)) ⟨v - 8, by omega, by omega, rfl, show v + 1 = v - 8 + 9 by omega, fun e => absurd e (by omega), fun e => absurd e (by omega), fun e => h1 (by omega), fun e => h2 (by omega), fun _ => ⟨rfl, rfl⟩⟩
      have i1 := i1 (fun _ z => chk (okZ (1 : Int32)) <| some ((1 : Int32), z))
      refine Or.inr ⟨_, o, _, s3, c0, rfl, ?_, i2⟩
      rw [i1, ck_e (by decide)]
  by_cases e1 : tK t = 4 ∧ tS t = 60
  · rw [if_pos e1, if_neg (by decide), if_pos (show tK t = 4 ∧ (tS t = 60 ∨ tS t = 61 ∨ tS t = 62) from ⟨e1.1, Or.inl e1.2⟩)]
    exact good ⟨e1.1, Or.inl e1.2⟩
  rw [if_neg e1, if_pos rfl, ck_e r_isO, bd_e (usign C.1 (c := 61) (K := 61) (by decide) rfl)]
  by_cases e2 : tK t = 4 ∧ tS t = 61
  · rw [if_pos e2, if_neg (by decide), if_pos (show tK t = 4 ∧ (tS t = 60 ∨ tS t = 61 ∨ tS t = 62) from ⟨e2.1, Or.inr (Or.inl e2.2)⟩)]
    exact good ⟨e2.1, Or.inr (Or.inl e2.2)⟩
  rw [if_neg e2, if_pos rfl, ck_e r_isO, bd_e (usign C.1 (c := 62) (K := 62) (by decide) rfl)]
  by_cases e3 : tK t = 4 ∧ tS t = 62
  · rw [if_pos e3, if_neg (by decide), if_pos (show tK t = 4 ∧ (tS t = 60 ∨ tS t = 61 ∨ tS t = 62) from ⟨e3.1, Or.inr (Or.inr e3.2)⟩)]
    exact good ⟨e3.1, Or.inr (Or.inr e3.2)⟩
  rw [if_neg e3, if_pos rfl, if_neg (show ¬ (tK t = 4 ∧ (tS t = 60 ∨ tS t = 61 ∨ tS t = 62)) from fun c => by
    rcases c.2 with q | q | q
    · exact e1 ⟨c.1, q⟩
    · exact e2 ⟨c.1, q⟩
    · exact e3 ⟨c.1, q⟩)]
  exact URs.bad C (k := 1) (K := 1) (by decide) (by decide) rfl (fun _ => rfl)
theorem uhas (hF : 742 ≤ F) {nd : Nat → Int32} {o0 c0 : Nat} (ho : o = o0 + 1) (C : USs B n R s0 st o t c0 r) (N0 : NW (sA s0 14) h) (n7 : hN h ≤ 7) (l0 : c0 ≤ 2 * o0) (f : ∀ j, j < 4 * c0 → sA st 42 j = nd j) : URs B n R s0 g nd c0 o0 r (m_X12_readLetters F (some 179) (14 : Int32) (ov g st)) (match mLet t (hN h) with
    | .inl q => .inl q
    | .inr a => .inr ([(15, nI a, 0, 0, 0)], o, nxT B n R t)) := by
  unfold m_X12_readLetters
  rw [ck_e r_isO, bd_e (rlines_e (C.n14 N0)), ck_e r_isO]
  rcases ulet (F := F) (g := g) C.1 n7 with ⟨q, s1, j1, j2, j3⟩ | ⟨a, j1, j2, j3, j4⟩
  · rw [j1, bd2_e j2, if_pos rfl, ck_e (by decide)]
    exact Or.inl ⟨q, s1, rfl, rfl, j3⟩
  · obtain ⟨s2, e2, C2, cg2⟩ := (C.u13 (x := nI a)).go (F := F) (g := g) hF (by omega)
    rw [j1, bd2_e j2, if_neg (by decide), rI_13, bd_some, sI_uI, if_pos rfl, ck_e r_isO, bd_e e2, if_neg (by decide)]
    unfold m_X12_readLetters_B45 m_X12_readLetters_B60
    rw [if_pos rfl, rI_13, bd_some, ck_e r_isO]
    obtain ⟨s3, i1, i2⟩ := uleaf (F := F) (g := g) (nd := nd) (β := Int32 × Hp) ho C2 l0 (fun j hj => by rw [cg2.A (by decide)]; exact f j hj) (w := 6) (a := nI a) (b := sI s2 13) (x := 0) (e := (15, nI a, 0, 0, 0)) ⟨6, by decide, by decide, rfl, rfl, fun _ => rfl, fun e => absurd e (by decide), fun e => absurd e (by decide), fun e => absurd e (by decide), fun e => absurd e (by decide)⟩
    have i1 := i1 (fun _ z => chk (okZ (1 : Int32)) <| some ((1 : Int32), z))
    refine Or.inr ⟨_, o, _, s3, c0, rfl, ?_, i2⟩
    rw [i1, ck_e (by decide)]
theorem uahead (hF : 742 ≤ F) {nd : Nat → Int32} {o0 c0 : Nat} (ho : o = o0 + 1) (C : USs B n R s0 st o t c0 r) (N0 : NW (sA s0 14) h) (n7 : hN h ≤ 7) (l0 : c0 ≤ 2 * o0) (f : ∀ j, j < 4 * c0 → sA st 42 j = nd j) : URs B n R s0 g nd c0 o0 r (m_X12_readLetters F (some 179) (15 : Int32) (ov g st)) (match mLet t (hN h) with
    | .inl q => .inl q
    | .inr a =>
      match mLet (nxT B n R t) (hN h) with
      | .inl q => .inl q
      | .inr b => .inr ([(16, nI a, nI b, 0, 0)], o, nxT B n R (nxT B n R t))) := by
  unfold m_X12_readLetters
  rw [ck_e r_isO, bd_e (rlines_e (C.n14 N0)), ck_e r_isO]
  rcases ulet (F := F) (g := g) C.1 n7 with ⟨q, s1, j1, j2, j3⟩ | ⟨a, j1, j2, j3, j4⟩
  · rw [j1, bd2_e j2, if_pos rfl, ck_e (by decide)]
    exact Or.inl ⟨q, s1, rfl, rfl, j3⟩
  · obtain ⟨s2, e2, C2, cg2⟩ := (C.u13 (x := nI a)).go (F := F) (g := g) hF (by omega)
    rw [j1, bd2_e j2, if_neg (by decide), rI_13, bd_some, sI_uI, if_pos rfl, ck_e r_isO, bd_e e2, if_pos rfl, ck_e r_isO, bd_e (rlines_e (C2.n14 N0)), ck_e r_isO]
    rcases ulet (F := F) (g := g) C2.1 n7 with ⟨q, s3, k1, k2, k3⟩ | ⟨b, k1, k2, k3, k4⟩
    · rw [k1, bd2_e k2, if_pos rfl, ck_e (by decide)]
      exact Or.inl ⟨q, s3, rfl, rfl, k3⟩
    · obtain ⟨s4, e4, C4, cg4⟩ := (C2.u13 (x := nI b)).go (F := F) (g := g) hF (by omega)
      rw [k1, bd2_e k2, if_neg (by decide), ck_e r_isO, bd_e e4]
      unfold m_X12_readLetters_B45 m_X12_readLetters_B60
      rw [if_neg (by decide), rI_13, bd_some, ck_e r_isO, cg4.I (by decide), sI_uI, if_pos rfl]
      obtain ⟨s3, i1, i2⟩ := uleaf (F := F) (g := g) (nd := nd) (β := Int32 × Hp) ho C4 l0 (fun j hj => by rw [cg4.A (by decide), sA_uI, cg2.A (by decide)]; exact f j hj) (w := 7) (a := nI a) (b := nI b) (x := 0) (e := (16, nI a, nI b, 0, 0)) ⟨7, by decide, by decide, rfl, rfl, fun e => absurd e (by decide), fun _ => ⟨rfl, rfl⟩, fun e => absurd e (by decide), fun e => absurd e (by decide), fun e => absurd e (by decide)⟩
      have i1 := i1 (fun _ z => chk (okZ (1 : Int32)) <| some ((1 : Int32), z))
      refine Or.inr ⟨_, o, _, s3, c0, rfl, ?_, i2⟩
      rw [i1, ck_e (by decide)]
theorem uL21 (C : USs B n R s0 st o t c r) (N0 : NW (sA s0 14) h) (M0 : NMr (sL s0 17) h) (ok : okH h) (kt : tK t = 2) {v : Int32} : ∀ (d i z : Nat), i + d = (hC h).length → d < z → m_X12_readCompare_L21 F z (some 179) v (nI i) (ov g st) = m_X12_readCompare_B49 F (some 179) v (nI ((fix' (fun c : List Nat × List Nat => decide (c.1 = tL t)) ((hC h).drop i) i).getD (hC h).length)) (ov g st) := by
  have N := C.n14 N0
  have nm := (C.1.name kt).1
  have l10 := ok.2.1
  intro d
  induction d with
  | zero =>
    intro i z hi hz
    obtain ⟨z, rfl⟩ : ∃ j, z = j + 1 := ⟨z - 1, by omega⟩
    show m_X12_readCompare_b21 F _ _ _ _ _ = _
    unfold m_X12_readCompare_b21
    rw [ck_e r_isO, bd_e (rcopies_e N), if_pos (nI_le (by omega) (by omega)), List.drop_eq_nil_of_le (by omega), show i = (hC h).length by omega]
    rfl
  | succ d ih =>
    intro i z hi hz
    obtain ⟨z, rfl⟩ : ∃ j, z = j + 1 := ⟨z - 1, by omega⟩
    have il : i < (hC h).length := by omega
    have m17 : sL st 17 i = lN (code27 (hC h)[i].1) := by rw [C.1.1.L (by decide)]; exact M0 i il
    show m_X12_readCompare_b21 F _ _ _ _ _ = _
    unfold m_X12_readCompare_b21
    rw [ck_e r_isO, bd_e (rcopies_e N), if_neg (nI_ge il (by omega)), rR_17, bd_some, rE_17 (by omega), bd_some, bd_e (C.1.c27 kt), m17, List.drop_eq_getElem_cons il]
    unfold fix'
    by_cases e : (hC h)[i].1 = tL t
    · rw [if_pos ((lg_cmp_eq _ _).mpr (by rw [e])), decide_eq_true e, if_pos rfl]
      rfl
    · rw [if_neg (fun q => e ((c27_inj (ok.2.2.1 _ (List.getElem_mem il)).1 nm).mp ((lg_cmp_eq _ _).mp q))), decide_eq_false e, if_neg (show ¬ false = true by decide), nm_e2, nI_1]
      exact ih (i + 1) z (by omega) (by omega)
theorem ufar (hF : 742 ≤ F) {nd : Nat → Int32} {o0 c0 : Nat} (ho : o = o0 + 1) (C : USs B n R s0 st o t c0 r) (N0 : NW (sA s0 14) h) (M0 : NMr (sL s0 17) h) (ok : okH h) (l0 : c0 ≤ 2 * o0) (f : ∀ j, j < 4 * c0 → sA st 42 j = nd j) {v : Nat} (hv : v = 16 ∨ v = 17) : URs B n R s0 g nd c0 o0 r (m_X12_readCompare F (some 179) (nI v) (ov g st)) (if tK t = 2 ∧ kwF (tL t) = 0 then
      match mCp h (tL t) with
      | none => .inl (3, tA t)
      | some c => mMeas B n R (v + 1) (nI c) o (nxT B n R t)
    else .inl (1, tA t)) := by
  have l10 := ok.2.1
  unfold m_X12_readCompare
  rw [if_neg (show ¬ (18 : Int32) ≤ nI v from nI_ge (b := 18) (by omega) (by omega)), ck_e r_isO, bd_e (uisN (by omega) C.1)]
  by_cases w : tK t = 2 ∧ kwF (tL t) = 0
  · rw [if_pos w, if_pos w, if_neg (show ¬ (1 : Int32) = 0 by decide), show m_X12_readCompare_L21 F F (some 179) (nI v) 0 (ov g st) = _ from uL21 (F := F) (g := g) C N0 M0 ok w.1 (hC h).length 0 F (by omega) (by omega)]
    rw [List.drop_zero]
    show URs B n R s0 g nd c0 o0 r (m_X12_readCompare_B49 F (some 179) (nI v) (nI ((mCp h (tL t)).getD (hC h).length)) (ov g st)) _
    unfold m_X12_readCompare_B49
    rw [ck_e r_isO, bd_e (rcopies_e (C.n14 N0))]
    cases e : mCp h (tL t) with
    | none =>
      rw [if_pos (show nI ((none : Option Nat).getD (hC h).length) = nI (hC h).length from rfl)]
      exact URs.bad C (k := 3) (K := 3) (by decide) (by decide) rfl (by omega)
    | some c =>
      have cl := fix_lt e
      have c10 : c < (hC h).length := by omega
      obtain ⟨s1, e1, C1, cg1⟩ := C.go (F := F) (g := g) hF (by omega)
      rw [if_neg (show ¬ nI ((some c).getD (hC h).length) = nI (hC h).length from fun q => by have := (nI_eq (a := c) (by omega) (by omega)).mp q; omega), ck_e r_isO, bd_e e1]
      exact umeas hF ho C1 l0 (fun j hj => by rw [cg1.A (by decide)]; exact f j hj) (by omega) (fun _ => rfl) (fun e => by omega)
  · rw [if_neg w, if_neg w, if_pos rfl]
    exact URs.bad C (k := 1) (K := 1) (by decide) (by decide) rfl (fun _ => rfl)
end SENT7
