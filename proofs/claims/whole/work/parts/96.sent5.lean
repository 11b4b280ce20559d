/-! the reference's TOKENS alone -/
def TRs (B : Nat → Nat) (n R : Nat) (s0 st : RS) (t : Tok) : Prop := Cg sI0 sA0 sL0 s0 st ∧ (∀ i, i < 740 → sA st 1 i = nI (B i) ∧ B i < 256) ∧ (TKr st n R t ∧ isT B n R t) ∧ n ≤ 740 ∧ R ≤ 740
section TRSX
variable {F : Nat} {g : Hp} {B : Nat → Nat} {n R : Nat} {s0 st : RS} {t : Tok}
theorem TRs.k4 (C : TRs B n R s0 st t) : tK t ≤ 4 := by
  obtain ⟨p, o⟩ := C.2.2.1.2.o
  exact o.1
theorem TRs.kind (C : TRs B n R s0 st t) : gI (ov g st) (some 179) 10 7 = some (nI (tK t)) := by
  rw [rI_7, C.2.2.1.1.2.2.2.1]
theorem TRs.name (C : TRs B n R s0 st t) (k : tK t = 2) : okName (tL t) ∧ tL t ≠ [] := by
  obtain ⟨p, o⟩ := C.2.2.1.2.o
  exact ⟨(o.2.2.2.1 k).1, (o.2.2.2.1 k).2.1⟩
theorem TRs.c27 (C : TRs B n R s0 st t) (k : tK t = 2) : gJ (ov g st) (some 179) 10 12 = some (lN (code27 (tL t))) := by
  rw [rJ_12, C.2.2.1.1.2.2.2.2.1 k]
theorem TRs.cg (C : TRs B n R s0 st t) {st' : RS} {I A L : List Nat} (c : Cg I A L st st') (h1 : ∀ k, k ∈ [3, 4, 5, 6, 7, 8, 9, 12] → k ∉ I) (h2 : 1 ∉ A) (hI : ∀ j, j ∈ I → j ∈ sI0) (hA : ∀ j, j ∈ A → j ∈ sA0) (hL : ∀ j, j ∈ L → j ∈ sL0) : TRs B n R s0 st' t := by
  obtain ⟨c1, c2, ⟨T, i⟩, c3⟩ := C
  exact ⟨c1.trans (c.mono hI hA hL), fun i hi => by rw [c.A h2]; exact c2 i hi, ⟨T.cg c h1, i⟩, c3⟩
theorem TRs.u13 (C : TRs B n R s0 st t) {x : Int32} : TRs B n R s0 (uI st 13 x) t := C.cg (I := [13]) (A := []) (L := []) (Cg.uI (by decide)) (by decide) (by decide) (by decide) (by decide) (by decide)
theorem ugo (hF : 742 ≤ F) (C : TRs B n R s0 st t) (k : 2 ≤ tK t) : ∃ st', m_X12_go F (some 179) (ov g st) = some (ov g st') ∧ TRs B n R s0 st' (nxT B n R t) ∧ Cg [5, 6, 7, 8, 9, 12] [] [] st st' := by
  obtain ⟨a1, a2, a3, a4, a5, a6, a7, a8⟩ := C.2.2.1.1
  obtain ⟨p, o⟩ := C.2.2.1.2.o
  obtain ⟨n7, r7⟩ := C.2.2.2
  obtain ⟨st', e1, e2, e3⟩ := rgo_e (F := F) (g := g) (st := st) (B := B) hF n7 r7 (p := tB t) (o.2.2.1 k).2.2 C.2.1 a1 a2 (a8 k)
  exact ⟨st', e1, ⟨C.1.trans (e3.mono (by decide) (by decide) (by decide)), fun i hi => by rw [e3.A (by decide)]; exact C.2.1 i hi, ⟨e2, C.2.2.1.2.nx k⟩, n7, r7⟩, e3⟩
theorem ubad_s (C : TRs B n R s0 st t) {k : Nat} (k1 : 1 ≤ k) (k4 : k ≤ 4) {K : Int32} (hK : K = nI k) (kk : tK t = 1 → k = 1) : ∃ st', m_X12_bad F (some 179) K (ov g st) = some (0, ov g st') ∧ RF s0 st' (k, tA t) := by
  subst hK
  have t4 := C.k4
  have a6 := C.2.2.1.1.2.2.1
  refine ⟨uI (uI st 10 (nI k)) 11 (nI (tA t)), ?_, (C.1.mono (by decide) (by decide) (by decide)).trans ((Cg.uI (by decide)).trans (Cg.uI (by decide))), by rw [sI_o (by decide), sI_uI, if_pos rfl], by rw [sI_uI, if_pos rfl], k1, k4⟩
  unfold m_X12_bad
  rw [bd_e C.kind]
  by_cases c : tK t = 1
  · rw [if_pos (show nI (tK t) = (1 : Int32) by rw [c]; rfl), wI_10, bd_some, rI_6, bd_some, wI_11, bd_some, ck_e (by decide), sI_o (by decide), a6, kk c]
    rfl
  · rw [if_neg (show ¬ nI (tK t) = (1 : Int32) from fun e => c ((nI_is1 (by omega)).mp e)), wI_10, bd_some, rI_6, bd_some, wI_11, bd_some, ck_e (by decide), sI_o (by decide), a6]
theorem ubad (C : TRs B n R s0 st t) {k : Nat} (k1 : 1 ≤ k) (k4 : k ≤ 4) {K : Int32} (hK : K = nI k) (kk : tK t = 1 → k = 1) : ∃ st', (chk (isO (ov g st) (some 179) 10) <| bd2 (m_X12_bad F (some 179) K (ov g st)) fun a b => chk (okZ a) <| some (a, b)) = some (0, ov g st') ∧ RF s0 st' (k, tA t) := by
  obtain ⟨st', e1, e2⟩ := ubad_s (F := F) (g := g) C k1 k4 hK kk
  refine ⟨st', ?_, e2⟩
  rw [ck_e r_isO, bd2_e e1, ck_e (by decide)]
theorem uisW (C : TRs B n R s0 st t) {k : Nat} (hk : k < 20) : m_X12_isWord F (some 179) (nI k) (ov g st) = some (if kyF t = wm k then 1 else 0) := by
  have t4 := C.k4
  have w := wm_lt k hk
  have ky := kyF_iff t (k := wm k) (by omega)
  unfold m_X12_isWord
  rw [bd_e C.kind]
  by_cases c : tK t = 2
  · have nm := (C.name c).1
    rw [if_pos (show nI (tK t) = (2 : Int32) by rw [c]; rfl), bd_e (C.c27 c), bd_e (rword_e hk)]
    by_cases e : tL t = wd (wm k)
    · rw [if_pos ((lg_cmp_eq _ _).mpr (by rw [e])), ck_e (by decide), if_pos (ky.mpr ⟨c, (kwF_iff w.1 w.2).mpr e⟩)]
    · rw [if_neg (fun q => e ((c27_inj nm (wd_name w.2)).mp ((lg_cmp_eq _ _).mp q))), ck_e (by decide), if_neg (fun q => e ((kwF_iff w.1 w.2).mp (ky.mp q).2))]
  · rw [if_neg (show ¬ nI (tK t) = (2 : Int32) from fun e => c ((nI_eq (b := 2) (by omega) (by omega)).mp e)), ck_e (by decide), if_neg (fun q => c (ky.mp q).1)]
theorem uisN_L (C : TRs B n R s0 st t) (k : tK t = 2) : ∀ (d i z : Nat), i + d = 20 → d < z → (∀ j, j < i → tL t ≠ wd (wm j)) → m_X12_isName_L12 F z (some 179) (nI i) (ov g st) = some (if kwF (tL t) = 0 then 1 else 0) := by
  have nm := (C.name k).1
  intro d
  induction d with
  | zero =>
    intro i z hi hz hj
    obtain ⟨z, rfl⟩ : ∃ j, z = j + 1 := ⟨z - 1, by omega⟩
    show m_X12_isName_b12 F _ _ _ _ = _
    unfold m_X12_isName_b12
    rw [if_pos (show (19 : Int32) < nI i from nI_lt (a := 19) (by omega) (by omega)), ck_e (by decide), if_pos (kwF_0.mpr (fun j h1 h2 e => by
      obtain ⟨k, k1, k2⟩ := wm_sur j h1 h2
      exact hj k (by omega) (by rw [k2]; exact e)))]
  | succ d ih =>
    intro i z hi hz hj
    obtain ⟨z, rfl⟩ : ∃ j, z = j + 1 := ⟨z - 1, by omega⟩
    have w := wm_lt i (by omega)
    show m_X12_isName_b12 F _ _ _ _ = _
    unfold m_X12_isName_b12
    rw [if_neg (show ¬ (19 : Int32) < nI i from nI_nlt (a := 19) (by omega) (by omega)), bd_e (C.c27 k), bd_e (rword_e (by omega))]
    by_cases e : tL t = wd (wm i)
    · rw [if_pos ((lg_cmp_eq _ _).mpr (by rw [e])), ck_e (by decide), if_neg (show ¬ kwF (tL t) = 0 from fun q => kwF_0.mp q _ w.1 w.2 e)]
    · rw [if_neg (fun q => e ((c27_inj nm (wd_name w.2)).mp ((lg_cmp_eq _ _).mp q))), nm_e2, nI_1]
      exact ih (i + 1) z (by omega) (by omega) (fun j h => by
        by_cases q : j = i
        · rw [q]; exact e
        · exact hj j (by omega))
theorem uisN (hF : 22 ≤ F) (C : TRs B n R s0 st t) : m_X12_isName F (some 179) (ov g st) = some (if tK t = 2 ∧ kwF (tL t) = 0 then 1 else 0) := by
  have t4 := C.k4
  unfold m_X12_isName
  rw [bd_e C.kind]
  by_cases c : tK t = 2
  · rw [if_pos (show nI (tK t) = (2 : Int32) by rw [c]; rfl)]
    refine (uisN_L (F := F) (g := g) C c 20 0 F (by omega) (by omega) (fun _ h => absurd h (Nat.not_lt_zero _))).trans ?_
    by_cases e : kwF (tL t) = 0
    · rw [if_pos e, if_pos ⟨c, e⟩]
    · rw [if_neg e, if_neg (fun q => e q.2)]
  · rw [if_neg (show ¬ nI (tK t) = (2 : Int32) from fun e => c ((nI_eq (b := 2) (by omega) (by omega)).mp e)), ck_e (by decide), if_neg (fun q => c q.1)]
theorem TRs.v100 (C : TRs B n R s0 st t) (k : tK t = 3) : sI st 8 = nI (tV t) ∧ tV t < 100 := by
  obtain ⟨p, o⟩ := C.2.2.1.2.o
  exact ⟨C.2.2.1.1.2.2.2.2.2.1 k, o.2.2.2.2.1 k⟩
theorem unum (hF : 742 ≤ F) (C : TRs B n R s0 st t) {lo hi : Nat} (hl : lo < 1000) (hh : hi < 1000) {L H : Int32} (eL : L = nI lo) (eH : H = nI hi) : (∃ q st', mNum t lo hi = .inl q ∧ m_X12_readNumber F (some 179) L H (ov g st) = some (0, ov g st') ∧ RF s0 st' q) ∨ ∃ v st', mNum t lo hi = .inr v ∧ m_X12_readNumber F (some 179) L H (ov g st) = some (1, ov g st') ∧ lo ≤ v ∧ v ≤ hi ∧ v < 100 ∧ tK t = 3 ∧ TRs B n R s0 st' (nxT B n R t) ∧ sI st' 13 = nI v ∧ Cg [5, 6, 7, 8, 9, 12, 13] [] [] st st' := by
  subst eL; subst eH
  have t4 := C.k4
  unfold mNum m_X12_readNumber
  rw [bd_e C.kind]
  by_cases k : tK t = 3
  · obtain ⟨v8, v100⟩ := C.v100 k
    rw [if_pos k, if_pos (show nI (tK t) = (3 : Int32) by rw [k]; rfl), rI_8, bd_some, v8, bd_e (risIn_e (by omega) hl hh)]
    by_cases w : lo ≤ tV t ∧ tV t ≤ hi
    · have C1 := C.u13 (x := nI (tV t))
      obtain ⟨st', i1, i2, i3⟩ := ugo (F := F) (g := g) hF C1 (by omega)
      rw [if_pos w, if_pos w, if_neg (show ¬ (1 : Int32) = 0 by decide), bd_some, wI_13, bd_some, ck_e r_isO, bd_e i1, ck_e (by decide)]
      exact Or.inr ⟨_, st', rfl, rfl, w.1, w.2, v100, k, i2, by rw [i3.I (by decide), sI_uI, if_pos rfl], (Cg.uI (by decide)).trans (i3.mono (by decide) (by decide) (by decide))⟩
    · obtain ⟨st', i1, i2⟩ := ubad (F := F) (g := g) C (k := 2) (K := 2) (by decide) (by decide) rfl (by omega)
      rw [if_neg w, if_neg w, if_pos rfl]
      exact Or.inl ⟨_, st', rfl, i1, i2⟩
  · obtain ⟨st', i1, i2⟩ := ubad (F := F) (g := g) C (k := 1) (K := 1) (by decide) (by decide) rfl (by omega)
    rw [if_neg k, if_neg (show ¬ nI (tK t) = (3 : Int32) from fun e => k ((nI_eq (b := 3) (by omega) (by omega)).mp e))]
    exact Or.inl ⟨_, st', rfl, i1, i2⟩
theorem ulet (C : TRs B n R s0 st t) {N : Nat} (hN : N ≤ 7) : (∃ q st', mLet t N = .inl q ∧ m_X12_readLetter F (some 179) (nI N) (ov g st) = some (0, ov g st') ∧ RF s0 st' q) ∨ ∃ v, mLet t N = .inr v ∧ m_X12_readLetter F (some 179) (nI N) (ov g st) = some (1, ov g (uI st 13 (nI v))) ∧ v < N ∧ tK t = 2 := by
  have t4 := C.k4
  unfold mLet m_X12_readLetter
  rw [bd_e C.kind]
  by_cases k : tK t = 2
  · obtain ⟨a1, a2, a3, a4, a5, a6, a7, a8⟩ := C.2.2.1.1
    obtain ⟨p, o⟩ := C.2.2.1.2.o
    obtain ⟨o1, o2, o3, o4⟩ := o.2.2.2.1 k
    obtain ⟨u1, u2, u3⟩ := o.2.2.1 (by omega)
    have n7 := C.2.2.2.1
    have eB : ldI (ov g st) 1 (some 180) (nI (tA t)) = some (nI (B (tA t))) := by rw [rE_1 (by omega), (C.2.1 _ (by omega)).1]
    rw [if_pos k, if_pos (show nI (tK t) = (2 : Int32) by rw [k]; rfl), rI_5, bd_some, rI_6, bd_some, a8 (by omega), a3, nI_sub (by omega)]
    by_cases w : tB t - tA t = 1
    · rw [if_pos (show nI (tB t - tA t) = (1 : Int32) by rw [w]; rfl), rR_1, bd_some, bd_some, bd_e eB]
      have l0 : 0 < (tL t).length := by omega
      have e0 := o4 0 l0
      have g0 : (tL t).getD 0 0 = (tL t)[0] := by rw [List.getD_eq_getElem?_getD, List.getElem?_eq_getElem l0, Option.getD_some]
      rw [Nat.add_zero] at e0
      have lb := o1.2 _ (List.getElem_mem l0)
      have eX : nI (B (tA t)) - (97 : Int32) = nI ((tL t)[0] - 1) := by rw [e0, show (97 : Int32) = nI 97 from rfl, nI_sub (by omega)]; rfl
      rw [eX, g0]
      by_cases w2 : (tL t)[0] ≤ N
      · rw [if_pos (show (tL t).length = 1 ∧ (tL t)[0] ≤ N from ⟨by omega, w2⟩), if_pos (nI_lt (by omega) (by omega)), bd_some, bd_some, bd_e eB, eX, wI_13, bd_some, ck_e (by decide)]
        exact Or.inr ⟨_, rfl, rfl, by omega, k⟩
      · obtain ⟨st', i1, i2⟩ := ubad (F := F) (g := g) C (k := 2) (K := 2) (by decide) (by decide) rfl (by omega)
        rw [if_neg (show ¬ ((tL t).length = 1 ∧ (tL t)[0] ≤ N) from fun c => w2 c.2), if_neg (nI_nlt (by omega) (by omega))]
        exact Or.inl ⟨_, st', rfl, i1, i2⟩
    · obtain ⟨st', i1, i2⟩ := ubad (F := F) (g := g) C (k := 2) (K := 2) (by decide) (by decide) rfl (by omega)
      rw [if_neg (show ¬ ((tL t).length = 1 ∧ (tL t).getD 0 0 ≤ N) from fun c => by omega), if_neg (show ¬ nI (tB t - tA t) = (1 : Int32) from fun e => w ((nI_is1 (by omega)).mp e))]
      exact Or.inl ⟨_, st', rfl, i1, i2⟩
  · obtain ⟨st', i1, i2⟩ := ubad (F := F) (g := g) C (k := 1) (K := 1) (by decide) (by decide) rfl (by omega)
    rw [if_neg k, if_neg (show ¬ nI (tK t) = (2 : Int32) from fun e => k ((nI_eq (b := 2) (by omega) (by omega)).mp e))]
    exact Or.inl ⟨_, st', rfl, i1, i2⟩
theorem usign (C : TRs B n R s0 st t) {c : Nat} (c7 : c < 128) {K : Int32} (hK : K = nI c) : m_X12_isSign F (some 179) K (ov g st) = some (if tK t = 4 ∧ tS t = c then 1 else 0) := by
  subst hK
  have t4 := C.k4
  unfold m_X12_isSign
  rw [bd_e C.kind]
  by_cases k : tK t = 4
  · obtain ⟨p, o⟩ := C.2.2.1.2.o
    have s7 := (o.2.2.2.2.2 k).1
    rw [if_pos (show nI (tK t) = (4 : Int32) by rw [k]; rfl), rI_9, bd_some, C.2.2.1.1.2.2.2.2.2.2.1 k]
    by_cases e : tS t = c
    · rw [if_pos (by rw [e]), ck_e (by decide), if_pos ⟨k, e⟩]
    · rw [if_neg (show ¬ nI (tS t) = nI c from fun q => e ((nI_eq (by omega) (by omega)).mp q)), ck_e (by decide), if_neg (fun q => e q.2)]
  · rw [if_neg (show ¬ nI (tK t) = (4 : Int32) from fun e => k ((nI_eq (b := 4) (by omega) (by omega)).mp e)), ck_e (by decide), if_neg (fun q => k q.1)]
end TRSX
