/-! the reference reads a HOUSE: TOKENS -/
def RSt (B : Nat → Nat) (n R : Nat) (s0 st : RS) (h : HS) (t : Tok) (lc : Bool) (pt : Nat) : Prop :=
  Cg sI0 sA0 sL0 s0 st ∧ (∀ i, i < 740 → sA st 1 i = nI (B i) ∧ B i < 256) ∧ (TKr st n R t ∧ isT B n R t) ∧ (NW (sA st 15) h ∧ okH h) ∧
  ((∀ c (hc : c < (hC h).length), sL st 18 c = lN (code27 (hC h)[c].1)) ∧ ∀ d (hd : d < (hD h).length), sL st 18 (10 + d) = lN (code27 (hD h)[d].2.2)) ∧
  (sI st 22 = if lc then 1 else 0) ∧ sI st 23 = nI pt ∧ True ∧ (n ≤ 740 ∧ R ≤ 740 ∧ pt < 256)
def RF (s0 st : RS) (q : Flt) : Prop := Cg (10 :: sI0) sA0 sL0 s0 st ∧ sI st 10 = nI q.1 ∧ sI st 11 = nI q.2 ∧ 1 ≤ q.1 ∧ q.1 ≤ 4
abbrev tc6 : List Nat := [5, 6, 7, 8, 9, 12]
section RREAD
variable {F : Nat} {g : Hp} {B : Nat → Nat} {n R : Nat} {s0 st : RS} {h : HS} {t : Tok} {lc : Bool} {pt : Nat}
theorem RSt.k4 (C : RSt B n R s0 st h t lc pt) : tK t ≤ 4 := by
  obtain ⟨p, o⟩ := C.2.2.1.2.o
  exact o.1
theorem RSt.kind (C : RSt B n R s0 st h t lc pt) : gI (ov g st) (some 179) 10 7 = some (nI (tK t)) := by
  rw [rI_7, C.2.2.1.1.2.2.2.1]
theorem RSt.name (C : RSt B n R s0 st h t lc pt) (k : tK t = 2) : okName (tL t) ∧ tL t ≠ [] := by
  obtain ⟨p, o⟩ := C.2.2.1.2.o
  exact ⟨(o.2.2.2.1 k).1, (o.2.2.2.1 k).2.1⟩
theorem RSt.c27 (C : RSt B n R s0 st h t lc pt) (k : tK t = 2) : gJ (ov g st) (some 179) 10 12 = some (lN (code27 (tL t))) := by
  rw [rJ_12, C.2.2.1.1.2.2.2.2.1 k]
theorem RSt.tk (C : RSt B n R s0 st h t lc pt) {st' : RS} {t' : Tok} (c : Cg [5, 6, 7, 8, 9, 12] [] [] st st') (T : TKr st' n R t') (i : isT B n R t') : RSt B n R s0 st' h t' lc pt := by
  obtain ⟨c1, c2, -, ⟨c3, ok⟩, ⟨c4, c5⟩, c6, c7, c8⟩ := C
  refine ⟨c1.trans (c.mono (by decide) (by decide) (by decide)), fun i hi => ?_, ⟨T, i⟩, ⟨?_, ok⟩, ⟨fun j hj => ?_, fun j hj => ?_⟩, ?_, ?_, c8⟩
  · rw [c.A (by decide)]; exact c2 i hi
  · rw [c.A (by decide)]; exact c3
  · rw [c.L (by decide)]; exact c4 j hj
  · rw [c.L (by decide)]; exact c5 j hj
  · rw [c.I (by decide)]; exact c6
  · rw [c.I (by decide)]; exact c7
theorem TKr.cg {st' : RS} {I A L : List Nat} (T : TKr st n R t) (c : Cg I A L st st') (h : ∀ k, k ∈ [3, 4, 5, 6, 7, 8, 9, 12] → k ∉ I) : TKr st' n R t := by
  obtain ⟨a1, a2, a3, a4, a5, a6, a7, a8⟩ := T
  unfold TKr
  rw [c.I (h 3 (by decide)), c.I (h 4 (by decide)), c.I (h 6 (by decide)), c.I (h 7 (by decide)), c.J (h 12 (by decide)), c.I (h 8 (by decide)), c.I (h 9 (by decide)), c.I (h 5 (by decide))]
  exact ⟨a1, a2, a3, a4, a5, a6, a7, a8⟩
theorem RSt.u13 (C : RSt B n R s0 st h t lc pt) {x : Int32} : RSt B n R s0 (uI st 13 x) h t lc pt := by
  obtain ⟨c1, c2, ⟨T, i⟩, c3, c4, c6, c7, c8⟩ := C
  exact ⟨c1.trans (Cg.uI (by decide)), c2, ⟨T.cg (I := [13]) (A := []) (L := []) (Cg.uI (by decide)) (by decide), i⟩, c3, c4, by rw [sI_o (by decide)]; exact c6, by rw [sI_o (by decide)]; exact c7, c8⟩
theorem rgo_s (hF : 742 ≤ F) (C : RSt B n R s0 st h t lc pt) (k : 2 ≤ tK t) : ∃ st', m_X12_go F (some 179) (ov g st) = some (ov g st') ∧ RSt B n R s0 st' h (nxT B n R t) lc pt ∧ Cg [5, 6, 7, 8, 9, 12] [] [] st st' := by
  obtain ⟨a1, a2, a3, a4, a5, a6, a7, a8⟩ := C.2.2.1.1
  obtain ⟨p, o⟩ := C.2.2.1.2.o
  obtain ⟨n7, r7, -⟩ := C.2.2.2.2.2.2.2.2
  obtain ⟨st', e1, e2, e3⟩ := rgo_e (F := F) (g := g) (st := st) (B := B) hF n7 r7 (p := tB t) (o.2.2.1 k).2.2 C.2.1 a1 a2 (a8 k)
  exact ⟨st', e1, C.tk e3 e2 (C.2.2.1.2.nx k), e3⟩
theorem rbad_s (C : RSt B n R s0 st h t lc pt) {k : Nat} (k1 : 1 ≤ k) (k4 : k ≤ 4) {K : Int32} (hK : K = nI k) (kk : tK t = 1 → k = 1) : ∃ st', m_X12_bad F (some 179) K (ov g st) = some (0, ov g st') ∧ RF s0 st' (k, tA t) := by
  subst hK
  have t4 := C.k4
  have a6 := C.2.2.1.1.2.2.1
  refine ⟨uI (uI st 10 (nI k)) 11 (nI (tA t)), ?_, (C.1.mono (by decide) (by decide) (by decide)).trans ((Cg.uI (by decide)).trans (Cg.uI (by decide))), by rw [sI_o (by decide), sI_uI, if_pos rfl], by rw [sI_uI, if_pos rfl], k1, k4⟩
  unfold m_X12_bad
  rw [bd_e C.kind]
  by_cases c : tK t = 1
  · rw [if_pos (show nI (tK t) = (1 : Int32) by rw [c]; rfl), wI_10, bd_some, rI_6, bd_some, wI_11, bd_some, ck_e (by decide), sI_o (by decide), a6, kk c]
    rfl
  · rw [if_neg (show ¬ nI (tK t) = (1 : Int32) from fun e => c ((nI_is1 (by omega)).mp e)), wI_10, bd_some, rI_6, bd_some, wI_11, bd_some, ck_e (by decide), sI_o (by decide), a6]
/-- a call that ends badly -/
theorem rbad (C : RSt B n R s0 st h t lc pt) {k : Nat} (k1 : 1 ≤ k) (k4 : k ≤ 4) {K : Int32} (hK : K = nI k) (kk : tK t = 1 → k = 1) : ∃ st', (chk (isO (ov g st) (some 179) 10) <| bd2 (m_X12_bad F (some 179) K (ov g st)) fun a b => chk (okZ a) <| some (a, b)) = some (0, ov g st') ∧ RF s0 st' (k, tA t) := by
  obtain ⟨st', e1, e2⟩ := rbad_s (F := F) (g := g) C k1 k4 hK kk
  refine ⟨st', ?_, e2⟩
  rw [ck_e r_isO, bd2_e e1, ck_e (by decide)]
theorem risW_e (C : RSt B n R s0 st h t lc pt) {k : Nat} (hk : k < 20) : m_X12_isWord F (some 179) (nI k) (ov g st) = some (if kyF t = wm k then 1 else 0) := by
  have t4 := C.k4
  have w := wm_lt k hk
  have ky := kyF_iff t (k := wm k) (by omega)
  unfold m_X12_isWord
  rw [bd_e C.kind]
  by_cases c : tK t = 2
  · have nm := (C.name c).1
    rw [if_pos (show nI (tK t) = (2 : Int32) by rw [c]; rfl), bd_e (C.c27 c), bd_e (rword_e hk)]
    by_cases e : tL t = wd (wm k)
    · rw [if_pos ((lg_cmp_eq _ _).mpr (by rw [e])), ck_e (by decide), if_pos (ky.mpr ⟨c, (kwF_iff w.1 w.2).mpr e⟩)]
    · rw [if_neg (fun q => e ((c27_inj nm (wd_name w.2)).mp ((lg_cmp_eq _ _).mp q))), ck_e (by decide), if_neg (fun q => e ((kwF_iff w.1 w.2).mp (ky.mp q).2))]
  · rw [if_neg (show ¬ nI (tK t) = (2 : Int32) from fun e => c ((nI_eq (b := 2) (by omega) (by omega)).mp e)), ck_e (by decide), if_neg (fun q => c (ky.mp q).1)]
theorem wm_sur : ∀ j, 1 ≤ j → j < 21 → ∃ k, k < 20 ∧ wm k = j := by
  intro j h1 h2
  have : ∀ j, j < 21 → 1 ≤ j → (List.range 20).any (fun k => decide (wm k = j)) = true := by decide +kernel
  have := this j h2 h1
  rw [List.any_eq_true] at this
  obtain ⟨k, k1, k2⟩ := this
  exact ⟨k, List.mem_range.mp k1, of_decide_eq_true k2⟩
theorem risN_L (C : RSt B n R s0 st h t lc pt) (k : tK t = 2) : ∀ (d i z : Nat), i + d = 20 → d < z → (∀ j, j < i → tL t ≠ wd (wm j)) → m_X12_isName_L12 F z (some 179) (nI i) (ov g st) = some (if kwF (tL t) = 0 then 1 else 0) := by
  have nm := (C.name k).1
  intro d
  induction d with
  | zero =>
    intro i z hi hz hj
    obtain ⟨z, rfl⟩ : ∃ j, z = j + 1 := ⟨z - 1, by omega⟩
    show m_X12_isName_b12 F _ _ _ _ = _
    unfold m_X12_isName_b12
    rw [if_pos (show (19 : Int32) < nI i from nI_lt (a := 19) (by omega) (by omega)), ck_e (by decide), if_pos (kwF_0.mpr (fun j h1 h2 e => by
      obtain ⟨k, k1, k2⟩ := wm_sur j h1 h2
      exact hj k (by omega) (by rw [k2]; exact e)))]
  | succ d ih =>
    intro i z hi hz hj
    obtain ⟨z, rfl⟩ : ∃ j, z = j + 1 := ⟨z - 1, by omega⟩
    have w := wm_lt i (by omega)
    show m_X12_isName_b12 F _ _ _ _ = _
    unfold m_X12_isName_b12
    rw [if_neg (show ¬ (19 : Int32) < nI i from nI_nlt (a := 19) (by omega) (by omega)), bd_e (C.c27 k), bd_e (rword_e (by omega))]
    by_cases e : tL t = wd (wm i)
    · rw [if_pos ((lg_cmp_eq _ _).mpr (by rw [e])), ck_e (by decide), if_neg (show ¬ kwF (tL t) = 0 from fun q => kwF_0.mp q _ w.1 w.2 e)]
    · rw [if_neg (fun q => e ((c27_inj nm (wd_name w.2)).mp ((lg_cmp_eq _ _).mp q))), nm_e2, nI_1]
      exact ih (i + 1) z (by omega) (by omega) (fun j h => by
        by_cases q : j = i
        · rw [q]; exact e
        · exact hj j (by omega))
theorem risN_e (hF : 22 ≤ F) (C : RSt B n R s0 st h t lc pt) : m_X12_isName F (some 179) (ov g st) = some (if tK t = 2 ∧ kwF (tL t) = 0 then 1 else 0) := by
  have t4 := C.k4
  unfold m_X12_isName
  rw [bd_e C.kind]
  by_cases c : tK t = 2
  · rw [if_pos (show nI (tK t) = (2 : Int32) by rw [c]; rfl)]
    refine (risN_L (F := F) (g := g) C c 20 0 F (by omega) (by omega) (fun _ h => absurd h (Nat.not_lt_zero _))).trans ?_
    by_cases e : kwF (tL t) = 0
    · rw [if_pos e, if_pos ⟨c, e⟩]
    · rw [if_neg e, if_neg (fun q => e q.2)]
  · rw [if_neg (show ¬ nI (tK t) = (2 : Int32) from fun e => c ((nI_eq (b := 2) (by omega) (by omega)).mp e)), ck_e (by decide), if_neg (fun q => c q.1)]
theorem any_drop {α : Type} (p : α → Bool) {l : List α} {i : Nat} (hi : i < l.length) : (l.drop i).any p = (p l[i] || (l.drop (i + 1)).any p) := by
  rw [List.drop_eq_getElem_cons hi, List.any_cons]
theorem rfind_36 (C : RSt B n R s0 st h t lc pt) (k : tK t = 2) : ∀ (d i z : Nat), i + d = (hD h).length → d < z → ∃ v, m_X12_findRead_L36 F z (some 179) (nI i) (ov g st) = some v ∧ (v = -1 ↔ ((hD h).drop i).any (fun d => decide (d.2.2 = tL t)) = false) := by
  have nm := (C.name k).1
  obtain ⟨N, ok⟩ := C.2.2.2.1
  have l6 := ok.2.2.2.1
  intro d
  induction d with
  | zero =>
    intro i z hi hz
    obtain ⟨z, rfl⟩ : ∃ j, z = j + 1 := ⟨z - 1, by omega⟩
    refine ⟨-1, ?_, ⟨fun _ => ?_, fun _ => rfl⟩⟩
    · show m_X12_findRead_b36 F _ _ _ _ = _
      unfold m_X12_findRead_b36
      rw [rR_15, bd_some, show ldI (ov g st) 1 (some 182) (2 : Int32) = _ from rE_15 (j := 2) (by omega), bd_some, N.2.2.1, if_pos (nI_le (by omega) (by omega))]
    · rw [List.drop_eq_nil_of_le (by omega)]
      rfl
  | succ d ih =>
    intro i z hi hz
    obtain ⟨z, rfl⟩ : ∃ j, z = j + 1 := ⟨z - 1, by omega⟩
    have il : i < (hD h).length := by omega
    have e18 := C.2.2.2.2.1.2 i il
    have st1 : m_X12_findRead_L36 F (z + 1) (some 179) (nI i) (ov g st) = if lg_cmp (lN (code27 (hD h)[i].2.2)) (lN (code27 (tL t))) = 0 then some (nI (10 + i)) else m_X12_findRead_L36 F z (some 179) (nI (i + 1)) (ov g st) := by
      show m_X12_findRead_b36 F _ _ _ _ = _
      unfold m_X12_findRead_b36
      rw [rR_15, bd_some, show ldI (ov g st) 1 (some 182) (2 : Int32) = _ from rE_15 (j := 2) (by omega), bd_some, N.2.2.1, if_neg (nI_ge il (by omega)), rR_18, bd_some, show (10 : Int32) = nI 10 from rfl, nI_add, rE_18 (by omega), bd_some, bd_e (C.c27 k), e18, nm_e2, nI_1]
    rw [any_drop _ il]
    by_cases e : (hD h)[i].2.2 = tL t
    · refine ⟨nI (10 + i), by rw [st1, if_pos ((lg_cmp_eq _ _).mpr (by rw [e]))], ?_⟩
      rw [decide_eq_true e, Bool.true_or]
      exact ⟨fun q => absurd q (nI_nm1 (by omega)), fun q => absurd q (by decide)⟩
    · obtain ⟨v, v1, v2⟩ := ih (i + 1) z (by omega) (by omega)
      refine ⟨v, by rw [st1, if_neg (fun q => e ((c27_inj (ok.2.2.2.2.1 _ (List.getElem_mem il)).1 nm).mp ((lg_cmp_eq _ _).mp q))), v1], ?_⟩
      rw [decide_eq_false e, Bool.false_or]
      exact v2
theorem rfind_2 (hF : 8 ≤ F) (C : RSt B n R s0 st h t lc pt) (k : tK t = 2) : ∀ (d i z : Nat), i + d = (hC h).length → d < z → ∃ v, m_X12_findRead_L2 F z (some 179) (nI i) (ov g st) = some v ∧ (v = -1 ↔ (((hC h).drop i).any (fun c => decide (c.1 = tL t)) || (hD h).any (fun d => decide (d.2.2 = tL t))) = false) := by
  have nm := (C.name k).1
  obtain ⟨N, ok⟩ := C.2.2.2.1
  have l10 := ok.2.1
  have l6 := ok.2.2.2.1
  intro d
  induction d with
  | zero =>
    intro i z hi hz
    obtain ⟨z, rfl⟩ : ∃ j, z = j + 1 := ⟨z - 1, by omega⟩
    obtain ⟨v, v1, v2⟩ := rfind_36 (F := F) (g := g) C k (hD h).length 0 F (by omega) (by omega)
    refine ⟨v, ?_, ?_⟩
    · show m_X12_findRead_b2 F _ _ _ _ = _
      unfold m_X12_findRead_b2
      rw [rR_15, bd_some, show ldI (ov g st) 1 (some 182) (1 : Int32) = _ from rE_15 (j := 1) (by omega), bd_some, N.2.1, if_pos (nI_le (by omega) (by omega))]
      exact v1
    · rw [List.drop_eq_nil_of_le (by omega)]
      exact v2
  | succ d ih =>
    intro i z hi hz
    obtain ⟨z, rfl⟩ : ∃ j, z = j + 1 := ⟨z - 1, by omega⟩
    have il : i < (hC h).length := by omega
    have e18 := C.2.2.2.2.1.1 i il
    have st1 : m_X12_findRead_L2 F (z + 1) (some 179) (nI i) (ov g st) = if lg_cmp (lN (code27 (hC h)[i].1)) (lN (code27 (tL t))) = 0 then some (nI i) else m_X12_findRead_L2 F z (some 179) (nI (i + 1)) (ov g st) := by
      show m_X12_findRead_b2 F _ _ _ _ = _
      unfold m_X12_findRead_b2
      rw [rR_15, bd_some, show ldI (ov g st) 1 (some 182) (1 : Int32) = _ from rE_15 (j := 1) (by omega), bd_some, N.2.1, if_neg (nI_ge il (by omega)), rR_18, bd_some, rE_18 (by omega), bd_some, bd_e (C.c27 k), e18, nm_e2, nI_1]
    rw [any_drop _ il]
    by_cases e : (hC h)[i].1 = tL t
    · refine ⟨nI i, by rw [st1, if_pos ((lg_cmp_eq _ _).mpr (by rw [e]))], ?_⟩
      rw [decide_eq_true e, Bool.true_or, Bool.true_or]
      exact ⟨fun q => absurd q (nI_nm1 (by omega)), fun q => absurd q (by decide)⟩
    · obtain ⟨v, v1, v2⟩ := ih (i + 1) z (by omega) (by omega)
      refine ⟨v, by rw [st1, if_neg (fun q => e ((c27_inj (ok.2.2.1 _ (List.getElem_mem il)).1 nm).mp ((lg_cmp_eq _ _).mp q))), v1], ?_⟩
      rw [decide_eq_false e, Bool.false_or]
      exact v2
theorem rfind_e (hF : 16 ≤ F) (C : RSt B n R s0 st h t lc pt) (k : tK t = 2) : ∃ v, m_X12_findRead F (some 179) (ov g st) = some v ∧ (v = -1 ↔ nmB h (tL t) = false) := by
  have l10 := C.2.2.2.1.2.2.1
  exact rfind_2 (F := F) (g := g) (by omega) C k (hC h).length 0 F (by omega) (by omega)
/-- a new NAME -/
theorem rnew_s (hF : 742 ≤ F) (C : RSt B n R s0 st h t lc pt) {j : Nat} (hj : j < 16) : (∃ q st', mName h t = some q ∧ m_X12_readNew F (some 179) (nI j) (ov g st) = some (0, ov g st') ∧ RF s0 st' q) ∨ (mName h t = none ∧ tK t = 2 ∧ ∃ st', m_X12_readNew F (some 179) (nI j) (ov g st) = some (1, ov g st') ∧ ∃ s1, s1 = uL st 18 j (lN (code27 (tL t))) ∧ Cg [5, 6, 7, 8, 9, 12] [] [] s1 st' ∧ TKr st' n R (nxT B n R t)) := by
  unfold mName m_X12_readNew
  rw [ck_e r_isO, bd_e (risN_e (by omega) C)]
  by_cases w : tK t = 2 ∧ kwF (tL t) = 0
  · rw [if_pos w, if_pos w, if_neg (show ¬ (1 : Int32) = 0 by decide), ck_e r_isO]
    obtain ⟨v, v1, v2⟩ := rfind_e (F := F) (g := g) (by omega) C w.1
    rw [bd_e v1]
    cases e : nmB h (tL t)
    · rw [if_pos (v2.mpr e), rR_18, bd_some, bd_e (C.c27 w.1), wE_18 hj, bd_some, ck_e r_isO]
      obtain ⟨a1, a2, a3, a4, a5, a6, a7, a8⟩ := C.2.2.1.1
      obtain ⟨p, o⟩ := C.2.2.1.2.o
      obtain ⟨n7, r7, -⟩ := C.2.2.2.2.2.2.2.2
      obtain ⟨st', e1, e2, e3⟩ := rgo_e (F := F) (g := g) (st := uL st 18 j (lN (code27 (tL t)))) (B := B) hF n7 r7 (p := tB t) (o.2.2.1 (by omega)).2.2 C.2.1 a1 a2 (a8 (by omega))
      rw [bd_e e1, ck_e (by decide)]
      exact Or.inr ⟨by rw [if_neg (show ¬ false = true by decide)], w.1, st', rfl, _, rfl, e3, e2⟩
    · rw [if_neg (show ¬ v = -1 from fun q => by rw [v2.mp q] at e; exact absurd e (by decide))]
      obtain ⟨st', i1, i2⟩ := rbad (F := F) (g := g) C (k := 3) (K := 3) (by decide) (by decide) rfl (by omega)
      exact Or.inl ⟨_, st', by rw [if_pos rfl], i1, i2⟩
  · rw [if_neg w, if_neg w, if_pos rfl]
    obtain ⟨st', i1, i2⟩ := rbad (F := F) (g := g) C (k := 1) (K := 1) (by decide) (by decide) rfl (by omega)
    exact Or.inl ⟨_, st', rfl, i1, i2⟩
theorem risIn_e {x lo hi : Nat} (hx : x < 1000) (hl : lo < 1000) (hh : hi < 1000) {f : Hp} : m_X12_isIn F (nI x) (nI lo) (nI hi) f = some (if lo ≤ x ∧ x ≤ hi then 1 else 0) := by
  unfold m_X12_isIn
  by_cases a1 : x < lo
  · rw [if_pos (nI_lt a1 (by omega)), ck_e (by decide), if_neg (by omega)]
  · rw [if_neg (nI_nlt (by omega) (by omega))]
    by_cases a2 : hi < x
    · rw [if_pos (nI_lt a2 (by omega)), ck_e (by decide), if_neg (by omega)]
    · rw [if_neg (nI_nlt (by omega) (by omega)), ck_e (by decide), if_pos (by omega)]
theorem RSt.v100 (C : RSt B n R s0 st h t lc pt) (k : tK t = 3) : sI st 8 = nI (tV t) ∧ tV t < 100 := by
  obtain ⟨p, o⟩ := C.2.2.1.2.o
  exact ⟨C.2.2.1.1.2.2.2.2.2.1 k, o.2.2.2.2.1 k⟩
theorem rnum_s (hF : 742 ≤ F) (C : RSt B n R s0 st h t lc pt) {lo hi : Nat} (hl : lo < 1000) (hh : hi < 1000) {L H : Int32} (eL : L = nI lo) (eH : H = nI hi) : (∃ q st', mNum t lo hi = .inl q ∧ m_X12_readNumber F (some 179) L H (ov g st) = some (0, ov g st') ∧ RF s0 st' q) ∨ ∃ v st', mNum t lo hi = .inr v ∧ m_X12_readNumber F (some 179) L H (ov g st) = some (1, ov g st') ∧ lo ≤ v ∧ v ≤ hi ∧ v < 100 ∧ tK t = 3 ∧ RSt B n R s0 st' h (nxT B n R t) lc pt ∧ sI st' 13 = nI v ∧ Cg [5, 6, 7, 8, 9, 12, 13] [] [] st st' := by
  subst eL; subst eH
  have t4 := C.k4
  unfold mNum m_X12_readNumber
  rw [bd_e C.kind]
  by_cases k : tK t = 3
  · obtain ⟨v8, v100⟩ := C.v100 k
    rw [if_pos k, if_pos (show nI (tK t) = (3 : Int32) by rw [k]; rfl), rI_8, bd_some, v8, bd_e (risIn_e (by omega) hl hh)]
    by_cases w : lo ≤ tV t ∧ tV t ≤ hi
    · have C1 := C.u13 (x := nI (tV t))
      obtain ⟨st', i1, i2, i3⟩ := rgo_s (F := F) (g := g) hF C1 (by omega)
      rw [if_pos w, if_pos w, if_neg (show ¬ (1 : Int32) = 0 by decide), bd_some, wI_13, bd_some, ck_e r_isO, bd_e i1, ck_e (by decide)]
      exact Or.inr ⟨_, st', rfl, rfl, w.1, w.2, v100, k, i2, by rw [i3.I (by decide), sI_uI, if_pos rfl], (Cg.uI (by decide)).trans (i3.mono (by decide) (by decide) (by decide))⟩
    · obtain ⟨st', i1, i2⟩ := rbad (F := F) (g := g) C (k := 2) (K := 2) (by decide) (by decide) rfl (by omega)
      rw [if_neg w, if_neg w, if_pos rfl]
      exact Or.inl ⟨_, st', rfl, i1, i2⟩
  · obtain ⟨st', i1, i2⟩ := rbad (F := F) (g := g) C (k := 1) (K := 1) (by decide) (by decide) rfl (by omega)
    rw [if_neg k, if_neg (show ¬ nI (tK t) = (3 : Int32) from fun e => k ((nI_eq (b := 3) (by omega) (by omega)).mp e))]
    exact Or.inl ⟨_, st', rfl, i1, i2⟩
theorem rlet_s (C : RSt B n R s0 st h t lc pt) {N : Nat} (hN : N ≤ 7) : (∃ q st', mLet t N = .inl q ∧ m_X12_readLetter F (some 179) (nI N) (ov g st) = some (0, ov g st') ∧ RF s0 st' q) ∨ ∃ v, mLet t N = .inr v ∧ m_X12_readLetter F (some 179) (nI N) (ov g st) = some (1, ov g (uI st 13 (nI v))) ∧ v < N ∧ tK t = 2 := by
  have t4 := C.k4
  unfold mLet m_X12_readLetter
  rw [bd_e C.kind]
  by_cases k : tK t = 2
  · obtain ⟨a1, a2, a3, a4, a5, a6, a7, a8⟩ := C.2.2.1.1
    obtain ⟨p, o⟩ := C.2.2.1.2.o
    obtain ⟨o1, o2, o3, o4⟩ := o.2.2.2.1 k
    obtain ⟨u1, u2, u3⟩ := o.2.2.1 (by omega)
    have n7 := C.2.2.2.2.2.2.2.2.1
    have eB : ldI (ov g st) 1 (some 180) (nI (tA t)) = some (nI (B (tA t))) := by rw [rE_1 (by omega), (C.2.1 _ (by omega)).1]
    rw [if_pos k, if_pos (show nI (tK t) = (2 : Int32) by rw [k]; rfl), rI_5, bd_some, rI_6, bd_some, a8 (by omega), a3, nI_sub (by omega)]
    by_cases w : tB t - tA t = 1
    · rw [if_pos (show nI (tB t - tA t) = (1 : Int32) by rw [w]; rfl), rR_1, bd_some, bd_some, bd_e eB]
      have l0 : 0 < (tL t).length := by omega
      have e0 := o4 0 l0
      have g0 : (tL t).getD 0 0 = (tL t)[0] := by rw [List.getD_eq_getElem?_getD, List.getElem?_eq_getElem l0, Option.getD_some]
      rw [Nat.add_zero] at e0
      have lb := o1.2 _ (List.getElem_mem l0)
      have eX : nI (B (tA t)) - (97 : Int32) = nI ((tL t)[0] - 1) := by rw [e0, show (97 : Int32) = nI 97 from rfl, nI_sub (by omega)]; rfl
      rw [eX, g0]
      by_cases w2 : (tL t)[0] ≤ N
      · rw [if_pos (show (tL t).length = 1 ∧ (tL t)[0] ≤ N from ⟨by omega, w2⟩), if_pos (nI_lt (by omega) (by omega)), bd_some, bd_some, bd_e eB, eX, wI_13, bd_some, ck_e (by decide)]
        exact Or.inr ⟨_, rfl, rfl, by omega, k⟩
      · obtain ⟨st', i1, i2⟩ := rbad (F := F) (g := g) C (k := 2) (K := 2) (by decide) (by decide) rfl (by omega)
        rw [if_neg (show ¬ ((tL t).length = 1 ∧ (tL t)[0] ≤ N) from fun c => w2 c.2), if_neg (nI_nlt (by omega) (by omega))]
        exact Or.inl ⟨_, st', rfl, i1, i2⟩
    · obtain ⟨st', i1, i2⟩ := rbad (F := F) (g := g) C (k := 2) (K := 2) (by decide) (by decide) rfl (by omega)
      rw [if_neg (show ¬ ((tL t).length = 1 ∧ (tL t).getD 0 0 ≤ N) from fun c => by omega), if_neg (show ¬ nI (tB t - tA t) = (1 : Int32) from fun e => w ((nI_is1 (by omega)).mp e))]
      exact Or.inl ⟨_, st', rfl, i1, i2⟩
  · obtain ⟨st', i1, i2⟩ := rbad (F := F) (g := g) C (k := 1) (K := 1) (by decide) (by decide) rfl (by omega)
    rw [if_neg k, if_neg (show ¬ nI (tK t) = (2 : Int32) from fun e => k ((nI_eq (b := 2) (by omega) (by omega)).mp e))]
    exact Or.inl ⟨_, st', rfl, i1, i2⟩
end RREAD
