/-! the reference reads a SENTENCE: all -/
section SENT8
variable {F : Nat} {g : Hp} {B : Nat → Nat} {n R : Nat} {s0 st : RS} {h : HS} {o c r : Nat} {t : Tok}
theorem uOr_L (hF : 742 ≤ F) {rg : Nat → Option Nat → Int32 → Int32 → Hp → Option (Int32 × Hp)} {mf : Nat → Tok → MRs} (hr : ∀ st o t c nd, USs B n R s0 st o t c r → (∀ j, j < 4 * c → sA st 42 j = nd j) → URs B n R s0 g nd c o r (rg 1 (some 179) 0 0 (ov g st)) (mf o t)) {nd : Nat → Int32} {c0 o0 : Nat} (l0 : c0 ≤ 2 * o0) : ∀ (k z : Nat) (st : RS) (Q : SN) (o : Nat) (t : Tok) (rt : Nat), k < z → USs B n R s0 st o t (c0 + Q.length) r → 21 ≤ k + o → Q.length + 1 + 2 * o0 ≤ 2 * o → 1 ≤ Q.length → (c0 ≤ rt ∧ rt < c0 + Q.length ∧ NdR (sA st 42) (rt + 1) rt Q) → (∀ j, j < 4 * c0 → sA st 42 j = nd j) → URs B n R s0 g nd c0 o0 r (m_X12_readOr_L14 F rg z (some 179) (nI rt) (ov g st)) (mLp B n R mf 10 k Q o t) := by
  intro k
  induction k with
  | zero =>
    intro z st Q o t rt hz C ho
    have := C.2.2.2.1
    omega
  | succ k ih =>
    intro z st Q o t rt hz C ho lQ q1 hrt fr
    obtain ⟨z, rfl⟩ : ∃ j, z = j + 1 := ⟨z - 1, by omega⟩
    show URs B n R s0 g nd c0 o0 r (m_X12_readOr_b14 F _ _ _ _ _) (if kyF t = 10 then _ else _)
    unfold m_X12_readOr_b14
    rw [ck_e r_isO, bd_e (show m_X12_isWord F (some 179) (9 : Int32) (ov g st) = _ from uisW C.1 (k := 9) (by decide))]
    by_cases e : kyF t = 10
    · obtain ⟨kt, -⟩ := (kyF_iff t (by decide)).mp e
      obtain ⟨s1, e1, C1, cg1⟩ := C.go (F := F) (g := g) hF (by omega)
      rw [if_pos (show kyF t = wm 9 from e), if_neg (by decide), if_pos e, ck_e r_isO, bd_e e1, ck_e r_isO]
      rcases hr s1 o _ _ (sA s1 42) C1 (fun _ _ => rfl) with ⟨q, s2, j1, j2, j3⟩ | ⟨Q2, o2, t2, s2, k2, j1, j2, C2, ⟨j3, j4, j5, j6⟩, j7, j8, j9⟩
      · rw [j1, bd2_e j2, if_pos rfl, ck_e (by decide)]
        exact Or.inl ⟨q, s2, rfl, rfl, j3⟩
      · have o20 := C2.2.2.2.1
        obtain ⟨s3, e3, C3, ⟨v1, v2, v3, v4⟩, f3⟩ := ulays (F := F) (g := g) C2 (by omega) (by omega) (3 : Int32) (nI rt) (nI k2) 0
        rw [j1, bd2_e j2, if_neg (by decide), rI_46, bd_some, j3, ck_e r_isO, bd2_e e3]
        have f13 : ∀ j, j < 4 * (c0 + Q.length) → sA s3 42 j = sA st 42 j := fun j hj => by rw [f3 j (by omega), j7 j hj, cg1.A (by decide)]
        have ll : (Q ++ Q2 ++ [e5 10]).length = Q.length + Q2.length + 1 := by rw [List.length_append, List.length_append]; rfl
        refine ih z s3 (Q ++ Q2 ++ [e5 10]) o2 t2 (c0 + Q.length + Q2.length) (by omega) ?_ (by omega) (by rw [ll]; omega) (by rw [ll]; omega) ⟨by omega, by rw [ll]; omega, Or.inr (Or.inr (Or.inl ⟨rt, k2, Q, Q2, by omega, by omega, v1, v2, v3, ?_, ?_, rfl⟩))⟩ (fun j hj => by rw [f13 j (by omega)]; exact fr j hj)
        · rw [ll, show c0 + (Q.length + Q2.length + 1) = c0 + Q.length + Q2.length + 1 by omega]
          exact C3
        · exact NdR.mono (by omega) (NdR.fr f13 _ _ _ hrt.2.1 hrt.2.2)
        · exact NdR.mono (by omega) (NdR.fr f3 _ _ _ j5 j6)
    · rw [if_neg (show ¬ kyF t = wm 9 from e), if_pos rfl, if_neg e, wI_46, bd_some, ck_e (by decide)]
      exact Or.inr ⟨Q, o, t, _, rt, rfl, rfl, C.u46, ⟨by rw [sI_uI, if_pos rfl], hrt⟩, fr, lQ, q1⟩
theorem uOr_e (hF : 742 ≤ F) {rg : Nat → Option Nat → Int32 → Int32 → Hp → Option (Int32 × Hp)} {mf : Nat → Tok → MRs} (hr : ∀ st o t c nd, USs B n R s0 st o t c r → (∀ j, j < 4 * c → sA st 42 j = nd j) → URs B n R s0 g nd c o r (rg 1 (some 179) 0 0 (ov g st)) (mf o t)) {nd : Nat → Int32} (C : USs B n R s0 st o t c r) (fr : ∀ j, j < 4 * c → sA st 42 j = nd j) : URs B n R s0 g nd c o r (b_X12_readOr F rg (some 179) (ov g st)) (mSq B n R mf 10 o t) := by
  unfold b_X12_readOr mSq
  rw [ck_e r_isO]
  rcases hr st o t c nd C fr with ⟨q, s2, j1, j2, j3⟩ | ⟨Q2, o2, t2, s2, k2, j1, j2, C2, ⟨j3, j4, j5, j6⟩, j7, j8, j9⟩
  · rw [j1, bd2_e j2, if_pos rfl, ck_e (by decide)]
    exact Or.inl ⟨q, s2, rfl, rfl, j3⟩
  · rw [j1, bd2_e j2, if_neg (by decide), rI_46, bd_some, j3]
    exact uOr_L hF hr C.2.2.1 21 F s2 Q2 o2 t2 k2 (by omega) C2 (by omega) j8 j9 ⟨j4, j5, j6⟩ j7
theorem uAnd_L (hF : 742 ≤ F) {rg : Nat → Option Nat → Int32 → Int32 → Hp → Option (Int32 × Hp)} {mf : Nat → Tok → MRs} (hr : ∀ st o t c nd, USs B n R s0 st o t c r → (∀ j, j < 4 * c → sA st 42 j = nd j) → URs B n R s0 g nd c o r (rg 2 (some 179) 0 0 (ov g st)) (mf o t)) {nd : Nat → Int32} {c0 o0 : Nat} (l0 : c0 ≤ 2 * o0) : ∀ (k z : Nat) (st : RS) (Q : SN) (o : Nat) (t : Tok) (rt : Nat), k < z → USs B n R s0 st o t (c0 + Q.length) r → 21 ≤ k + o → Q.length + 1 + 2 * o0 ≤ 2 * o → 1 ≤ Q.length → (c0 ≤ rt ∧ rt < c0 + Q.length ∧ NdR (sA st 42) (rt + 1) rt Q) → (∀ j, j < 4 * c0 → sA st 42 j = nd j) → URs B n R s0 g nd c0 o0 r (m_X12_readAnd_L14 F rg z (some 179) (nI rt) (ov g st)) (mLp B n R mf 11 k Q o t) := by
  intro k
  induction k with
  | zero =>
    intro z st Q o t rt hz C ho
    have := C.2.2.2.1
    omega
  | succ k ih =>
    intro z st Q o t rt hz C ho lQ q1 hrt fr
    obtain ⟨z, rfl⟩ : ∃ j, z = j + 1 := ⟨z - 1, by omega⟩
    show URs B n R s0 g nd c0 o0 r (m_X12_readAnd_b14 F _ _ _ _ _) (if kyF t = 11 then _ else _)
    unfold m_X12_readAnd_b14
    rw [ck_e r_isO, bd_e (show m_X12_isWord F (some 179) (10 : Int32) (ov g st) = _ from uisW C.1 (k := 10) (by decide))]
    by_cases e : kyF t = 11
    · obtain ⟨kt, -⟩ := (kyF_iff t (by decide)).mp e
      obtain ⟨s1, e1, C1, cg1⟩ := C.go (F := F) (g := g) hF (by omega)
      rw [if_pos (show kyF t = wm 10 from e), if_neg (by decide), if_pos e, ck_e r_isO, bd_e e1, ck_e r_isO]
      rcases hr s1 o _ _ (sA s1 42) C1 (fun _ _ => rfl) with ⟨q, s2, j1, j2, j3⟩ | ⟨Q2, o2, t2, s2, k2, j1, j2, C2, ⟨j3, j4, j5, j6⟩, j7, j8, j9⟩
      · rw [j1, bd2_e j2, if_pos rfl, ck_e (by decide)]
        exact Or.inl ⟨q, s2, rfl, rfl, j3⟩
      · have o20 := C2.2.2.2.1
        obtain ⟨s3, e3, C3, ⟨v1, v2, v3, v4⟩, f3⟩ := ulays (F := F) (g := g) C2 (by omega) (by omega) (2 : Int32) (nI rt) (nI k2) 0
        rw [j1, bd2_e j2, if_neg (by decide), rI_46, bd_some, j3, ck_e r_isO, bd2_e e3]
        have f13 : ∀ j, j < 4 * (c0 + Q.length) → sA s3 42 j = sA st 42 j := fun j hj => by rw [f3 j (by omega), j7 j hj, cg1.A (by decide)]
        have ll : (Q ++ Q2 ++ [e5 11]).length = Q.length + Q2.length + 1 := by rw [List.length_append, List.length_append]; rfl
        refine ih z s3 (Q ++ Q2 ++ [e5 11]) o2 t2 (c0 + Q.length + Q2.length) (by omega) ?_ (by omega) (by rw [ll]; omega) (by rw [ll]; omega) ⟨by omega, by rw [ll]; omega, Or.inr (Or.inl ⟨rt, k2, Q, Q2, by omega, by omega, v1, v2, v3, ?_, ?_, rfl⟩)⟩ (fun j hj => by rw [f13 j (by omega)]; exact fr j hj)
        · rw [ll, show c0 + (Q.length + Q2.length + 1) = c0 + Q.length + Q2.length + 1 by omega]
          exact C3
        · exact NdR.mono (by omega) (NdR.fr f13 _ _ _ hrt.2.1 hrt.2.2)
        · exact NdR.mono (by omega) (NdR.fr f3 _ _ _ j5 j6)
    · rw [if_neg (show ¬ kyF t = wm 10 from e), if_pos rfl, if_neg e, wI_46, bd_some, ck_e (by decide)]
      exact Or.inr ⟨Q, o, t, _, rt, rfl, rfl, C.u46, ⟨by rw [sI_uI, if_pos rfl], hrt⟩, fr, lQ, q1⟩
theorem uAnd_e (hF : 742 ≤ F) {rg : Nat → Option Nat → Int32 → Int32 → Hp → Option (Int32 × Hp)} {mf : Nat → Tok → MRs} (hr : ∀ st o t c nd, USs B n R s0 st o t c r → (∀ j, j < 4 * c → sA st 42 j = nd j) → URs B n R s0 g nd c o r (rg 2 (some 179) 0 0 (ov g st)) (mf o t)) {nd : Nat → Int32} (C : USs B n R s0 st o t c r) (fr : ∀ j, j < 4 * c → sA st 42 j = nd j) : URs B n R s0 g nd c o r (b_X12_readAnd F rg (some 179) (ov g st)) (mSq B n R mf 11 o t) := by
  unfold b_X12_readAnd mSq
  rw [ck_e r_isO]
  rcases hr st o t c nd C fr with ⟨q, s2, j1, j2, j3⟩ | ⟨Q2, o2, t2, s2, k2, j1, j2, C2, ⟨j3, j4, j5, j6⟩, j7, j8, j9⟩
  · rw [j1, bd2_e j2, if_pos rfl, ck_e (by decide)]
    exact Or.inl ⟨q, s2, rfl, rfl, j3⟩
  · rw [j1, bd2_e j2, if_neg (by decide), rI_46, bd_some, j3]
    exact uAnd_L hF hr C.2.2.1 21 F s2 Q2 o2 t2 k2 (by omega) C2 (by omega) j8 j9 ⟨j4, j5, j6⟩ j7
def mNot (m : MRs) : MRs := match m with
  | .inl q => .inl q
  | .inr q => .inr (q.1 ++ [e5 12], q.2.1, q.2.2)
def mBr (B : Nat → Nat) (n R : Nat) (m : MRs) : MRs := match m with
  | .inl q => .inl q
  | .inr q => if tK q.2.2 = 4 ∧ tS q.2.2 = 41 then .inr (q.1, q.2.1, nxT B n R q.2.2) else .inl (1, tA q.2.2)
theorem unot (hF : 742 ≤ F) {rg : Nat → Option Nat → Int32 → Int32 → Hp → Option (Int32 × Hp)} {m : MRs} {nd : Nat → Int32} {c o0 : Nat} (ho : o = o0 + 1) (l0 : c ≤ 2 * o0) (hr : URs B n R s0 g nd c o r (rg 2 (some 179) 0 0 (ov g st)) m) : URs B n R s0 g nd c o0 r (b_X12_readNot F rg (some 179) (ov g st)) (mNot m) := by
  unfold b_X12_readNot
  rw [ck_e r_isO]
  rcases hr with ⟨q, s2, j1, j2, j3⟩ | ⟨Q2, o2, t2, s2, k2, j1, j2, C2, ⟨j3, j4, j5, j6⟩, j7, j8, j9⟩
  · rw [j1, bd2_e j2, if_pos rfl, ck_e (by decide)]
    exact Or.inl ⟨q, s2, rfl, rfl, j3⟩
  · have o20 := C2.2.2.2.1
    obtain ⟨s3, e3, C3, ⟨v1, v2, v3, v4⟩, f3⟩ := ulays (F := F) (g := g) C2 (by omega) (by omega) (1 : Int32) (nI k2) 0 0
    have ll : (Q2 ++ [e5 12]).length = Q2.length + 1 := by rw [List.length_append]; rfl
    rw [j1, bd2_e j2, if_neg (by decide), rI_46, bd_some, j3, ck_e r_isO, bd2_e e3, wI_46, bd_some, ck_e (by decide)]
    refine Or.inr ⟨Q2 ++ [e5 12], o2, t2, _, c + Q2.length, rfl, rfl, ?_, ⟨by rw [sI_uI, if_pos rfl], by omega, by rw [ll]; omega, Or.inl ⟨k2, Q2, by omega, v1, v2, NdR.mono (by omega) (NdR.fr f3 _ _ _ j5 j6), rfl⟩⟩, fun j hj => ?_, by rw [ll]; omega, by rw [ll]; omega⟩
    · rw [ll, show c + (Q2.length + 1) = c + Q2.length + 1 by omega]
      exact C3.u46
    · rw [sA_uI, f3 j (by omega)]
      exact j7 j hj
theorem ubr (hF : 742 ≤ F) {rg : Nat → Option Nat → Int32 → Int32 → Hp → Option (Int32 × Hp)} {m : MRs} {nd : Nat → Int32} {c o0 : Nat} (ho : o = o0 + 1) (hr : URs B n R s0 g nd c o r (rg 0 (some 179) 0 0 (ov g st)) m) : URs B n R s0 g nd c o0 r (b_X12_readBracket F rg (some 179) (ov g st)) (mBr B n R m) := by
  unfold b_X12_readBracket
  rw [ck_e r_isO]
  rcases hr with ⟨q, s2, j1, j2, j3⟩ | ⟨Q2, o2, t2, s2, k2, j1, j2, C2, j3, j7, j8, j9⟩
  · rw [j1, bd2_e j2, if_pos rfl, ck_e (by decide)]
    exact Or.inl ⟨q, s2, rfl, rfl, j3⟩
  · rw [j1, bd2_e j2, if_neg (by decide), ck_e r_isO, bd_e (usign C2.1 (c := 41) (K := 41) (by decide) rfl)]
    show URs B n R s0 g nd c o0 r _ (if tK t2 = 4 ∧ tS t2 = 41 then .inr (Q2, o2, nxT B n R t2) else .inl (1, tA t2))
    by_cases w : tK t2 = 4 ∧ tS t2 = 41
    · obtain ⟨s3, e3, C3, cg3⟩ := C2.go (F := F) (g := g) hF (by omega)
      rw [if_pos w, if_pos w, if_neg (by decide), ck_e r_isO, bd_e e3, ck_e (by decide)]
      refine Or.inr ⟨Q2, o2, _, s3, k2, rfl, rfl, C3, ?_, fun j hj => by rw [cg3.A (by decide)]; exact j7 j hj, by omega, j9⟩
      rw [cg3.I (by decide), cg3.A (by decide)]
      exact j3
    · rw [if_neg w, if_neg w, if_pos rfl]
      exact URs.bad C2 (k := 1) (K := 1) (by decide) (by decide) rfl (fun _ => rfl)
/-- one level up -/
theorem u173 {rg : Nat → Option Nat → Int32 → Int32 → Hp → Option (Int32 × Hp)} {m : MRs} {nd : Nat → Int32} {c o0 : Nat} {x : Option (Int32 × Hp)} (hr : URs B n R s0 g nd c o0 r x m) (hr8 : r + 1 ≤ 8) : URs B n R s0 g nd c o0 (r + 1) (bd2 x fun y f => m_X12_readOne_B173 F rg (some 179) y f) m := by
  rcases hr with ⟨q, s2, j1, j2, j3⟩ | ⟨Q2, o2, t2, s2, k2, j1, j2, C2, j3, j7, j8⟩
  · obtain ⟨r1, r2, r3, r4⟩ := j3
    rw [bd2_e j2]
    unfold m_X12_readOne_B173
    rw [rI_45, bd_some, wI_45, bd_some, ck_e (by decide)]
    exact Or.inl ⟨q, _, j1, rfl, r1.trans (Cg.uI (by decide)), by rw [sI_o (by decide)]; exact r2, by rw [sI_o (by decide)]; exact r3, r4⟩
  · obtain ⟨T, ⟨c1, c3, c5⟩, c4⟩ := C2
    rw [bd2_e j2]
    unfold m_X12_readOne_B173
    rw [rI_45, bd_some, c5, nI_m1 (by omega), wI_45, bd_some, ck_e (by decide)]
    exact Or.inr ⟨Q2, o2, t2, _, k2, j1, rfl, ⟨T.cg (I := [45]) (A := []) (L := []) (Cg.uI (by decide)) (by decide) (by decide) (by decide) (by decide) (by decide), ⟨by rw [sI_o (by decide)]; exact c1, by rw [sI_o (by decide)]; exact c3, by rw [sI_uI, if_pos rfl]; rfl⟩, c4.1, c4.2.1, hr8⟩, by rw [sI_o (by decide), sA_uI]; exact j3, j7, j8⟩
theorem uL10 (C : USs B n R s0 st o t c r) {rg : Nat → Option Nat → Int32 → Int32 → Hp → Option (Int32 × Hp)} {v1 : Int32} : ∀ (d i z : Nat), i + d = 20 → d < z → 11 ≤ i → (12 ≤ kyF t → i < kyF t) → m_X12_readOne_L10 F rg z (some 179) v1 (nI i) (ov g st) = m_X12_readOne_B30 F rg (some 179) v1 (nI (if 12 ≤ kyF t then kyF t - 1 else 20)) (ov g st) := by
  have kl := kyF_lt t
  intro d
  induction d with
  | zero =>
    intro i z hi hz h11 hk
    obtain ⟨z, rfl⟩ : ∃ j, z = j + 1 := ⟨z - 1, by omega⟩
    show m_X12_readOne_b10 F _ _ _ _ _ _ = _
    unfold m_X12_readOne_b10
    rw [if_pos (show (19 : Int32) < nI i from nI_lt (a := 19) (by omega) (by omega)), if_neg (by omega), show i = 20 by omega]
  | succ d ih =>
    intro i z hi hz h11 hk
    obtain ⟨z, rfl⟩ : ∃ j, z = j + 1 := ⟨z - 1, by omega⟩
    show m_X12_readOne_b10 F _ _ _ _ _ _ = _
    unfold m_X12_readOne_b10
    rw [if_neg (show ¬ (19 : Int32) < nI i from nI_nlt (a := 19) (by omega) (by omega)), ck_e r_isO, bd_e (uisW C.1 (by omega)), wm_hi i (by omega) (by omega)]
    by_cases e : kyF t = i + 1
    · rw [if_pos e, if_neg (by decide), if_pos (by omega), show kyF t - 1 = i by omega]
    · rw [if_neg e, if_pos rfl, nm_e2, nI_1]
      exact ih (i + 1) z (by omega) (by omega) (by omega) (fun q => by have := hk q; omega)
theorem uB46 (hF : 742 ≤ F) {rg : Nat → Option Nat → Int32 → Int32 → Hp → Option (Int32 × Hp)} (N0 : NW (sA s0 14) h) (M0 : NMr (sL s0 17) h) (ok : okH h) (h3 : ∀ r', r = r' + 1 → ∀ st o t c nd o0, o = o0 + 1 → c ≤ 2 * o0 → USs B n R s0 st o t c r' → (∀ j, j < 4 * c → sA st 42 j = nd j) → URs B n R s0 g nd c o0 r' (rg 3 (some 179) 0 0 (ov g st)) (mNot (mOne B n R h r' o t))) (h4 : ∀ r', r = r' + 1 → ∀ st o t c nd o0, o = o0 + 1 → c ≤ 2 * o0 → USs B n R s0 st o t c r' → (∀ j, j < 4 * c → sA st 42 j = nd j) → URs B n R s0 g nd c o0 r' (rg 4 (some 179) 0 0 (ov g st)) (mBr B n R (mCond B n R h r' o t))) {nd : Nat → Int32} (C : USs B n R s0 st o t c r) (fr : ∀ j, j < 4 * c → sA st 42 j = nd j) (st0 : 12 ≤ kyF t ∨ tK t = 4 ∧ tS t = 40) : URs B n R s0 g nd c o r (m_X12_readOne_B46 F rg (some 179) (if tK t = 4 ∧ tS t = 40 then 1 else 0) (nI (if 12 ≤ kyF t then kyF t - 1 else 20)) (ov g st)) (mOne B n R h r o t) := by
  obtain ⟨T, ⟨c1, c3, c5⟩, c4, o20, r8⟩ := id C
  have n7 := ok.1.2
  have kl := kyF_lt t
  have kt : 2 ≤ tK t := by
    rcases st0 with q | q
    · have := ((kyF_iff t (k := kyF t) (by omega)).mp rfl).1
      omega
    · omega
  unfold m_X12_readOne_B46
  rw [rI_44, bd_some, c3]
  by_cases e20 : o = 20
  · rw [if_pos (show nI o = (20 : Int32) by rw [e20]; rfl), mOne_20 st0 (Or.inr e20)]
    exact URs.bad C (k := 4) (K := 4) (by decide) (by decide) rfl (by omega)
  rw [if_neg (show ¬ nI o = (20 : Int32) from fun e => e20 ((nI_eq (b := 20) (by omega) (by omega)).mp e)), rI_45, bd_some, c5]
  cases r with
  | zero =>
    rw [if_pos (by rfl), mOne_20 st0 (Or.inl rfl)]
    exact URs.bad C (k := 4) (K := 4) (by decide) (by decide) rfl (by omega)
  | succ r =>
    rw [if_neg (show ¬ nI (8 - (r + 1)) = (8 : Int32) from fun e => by have := (nI_eq (b := 8) (by omega) (by omega)).mp e; omega), bd_some, nI_1, wI_44, bd_some, rI_45, bd_some, sI_o (by decide), c5, nI_1, wI_45, bd_some, ck_e r_isO]
    have C1 : USs B n R s0 (uI (uI st 44 (nI (o + 1))) 45 (nI (8 - (r + 1) + 1))) (o + 1) t c r := by
      refine ⟨T.cg (I := [44, 45]) (A := []) (L := []) ((Cg.uI (by decide)).trans (Cg.uI (by decide))) (by decide) (by decide) (by decide) (by decide) (by decide), ⟨by rw [sI_o (by decide), sI_o (by decide)]; exact c1, by rw [sI_o (by decide), sI_uI, if_pos rfl], by rw [sI_uI, if_pos rfl]; congr 1; omega⟩, by omega, by omega, by omega⟩
    obtain ⟨s2, e2, C2, cg2⟩ := C1.go (F := F) (g := g) hF kt
    have fr2 : ∀ j, j < 4 * c → sA s2 42 j = nd j := fun j hj => by rw [cg2.A (by decide), sA_uI, sA_uI]; exact fr j hj
    have h3 := h3 r rfl s2 (o + 1) _ c nd o rfl c4 C2 fr2
    have h4 := h4 r rfl s2 (o + 1) _ c nd o rfl c4 C2 fr2
    have k4 : tK t = 4 → kyF t = 0 := fun q => by unfold kyF; rw [if_neg (by omega)]
    rw [bd_e e2, mOne_s st0 e20]
    by_cases s4 : tK t = 4 ∧ tS t = 40
    · have k0 := k4 s4.1
      rw [if_pos s4, if_neg (show ¬ (1 : Int32) = 0 by decide), k0, if_neg (by decide), if_pos rfl, ck_e r_isO]
      exact u173 h4 r8
    rw [if_neg s4, if_pos rfl]
    have k12 : 12 ≤ kyF t := st0.resolve_right s4
    generalize kyF t = k at *
    rw [if_pos k12]
    by_cases e12 : k = 12
    · subst e12
      rw [if_pos rfl, if_pos (by decide), ck_e r_isO]
      exact u173 h3 r8
    rw [if_neg e12, if_neg (show ¬ k = 0 by omega), if_neg (show ¬ nI (k - 1) = (11 : Int32) from fun e => by have := (nI_eq (b := 11) (by omega) (by omega)).mp e; omega)]
    unfold mLeaf
    -- 'whole', 'holds'
    have plain : ∀ w v : Nat, 4 ≤ w → w ≤ 5 → v = w + 9 → URs B n R s0 g nd c o (r + 1) (m_X12_readOne_B141 F rg (some 179) (1 : Int32) (some 179) (some 179) (nI w) (ov g s2)) (.inr ([e5 v], o + 1, nxT B n R t)) := by
      intro w v w4 w5 hv
      obtain ⟨s3, i1, i2, i3, i4⟩ := uleaf (F := F) (g := g) (nd := nd) (β := Int32 × Hp) rfl C2 c4 fr2 (w := nI w) (a := 0) (b := 0) (x := 0) (e := e5 v) ⟨w, w4, by omega, rfl, hv, fun e => absurd e (by omega), fun e => absurd e (by omega), fun e => absurd e (by omega), fun _ => rfl, fun e => absurd e (by omega)⟩
      have u := u173 (F := F) (rg := rg) (r := r) (x := some (1, ov g s3)) (Or.inr ⟨[e5 v], o + 1, nxT B n R t, s3, c, rfl, rfl, i2, i3, i4⟩) r8
      unfold m_X12_readOne_B141
      rw [ck_e r_isO]
      have i1 := i1 (fun _ z => m_X12_readOne_B173 F rg (some 179) 1 z)
      rw [i1]
      exact u
    by_cases e13 : k = 13
    · subst e13
      rw [if_pos (show 13 = 13 ∨ 13 = 14 from Or.inl rfl), if_neg (by decide), if_pos (by decide)]
      exact plain 4 13 (by decide) (by decide) rfl
    by_cases e14 : k = 14
    · subst e14
      rw [if_pos (show 14 = 13 ∨ 14 = 14 from Or.inr rfl), if_neg (by decide), if_neg (by decide)]
      exact plain 5 14 (by decide) (by decide) rfl
    rw [if_neg (show ¬ (k = 13 ∨ k = 14) by omega), if_pos (show (13 : Int32) < nI (k - 1) from nI_lt (a := 13) (by omega) (by omega))]
    by_cases e15 : k = 15
    · subst e15
      rw [if_pos rfl, if_neg (by decide), ck_e r_isO]
      exact u173 (F := F) (rg := rg) (uhas hF rfl C2 N0 n7 c4 fr2) r8
    rw [if_neg e15]
    by_cases e16 : k = 16
    · subst e16
      rw [if_pos rfl, if_neg (by decide), ck_e r_isO]
      exact u173 (F := F) (rg := rg) (uahead hF rfl C2 N0 n7 c4 fr2) r8
    rw [if_neg e16, if_pos (show (15 : Int32) < nI (k - 1) from nI_lt (a := 15) (by omega) (by omega)), ck_e r_isO]
    by_cases e17 : k = 17 ∨ k = 18
    · rw [if_pos e17]
      have uf := ufar (F := F) (g := g) hF rfl C2 N0 M0 ok c4 fr2 (v := k - 1) (by omega)
      rw [show k - 1 + 1 = k by omega] at uf
      exact u173 (F := F) (rg := rg) uf r8
    · rw [if_neg e17]
      have um := umeas (F := F) (g := g) hF rfl C2 c4 fr2 (v := k - 1) (by omega) (a := 0) (a' := -1) (fun e => absurd e (by omega)) (fun _ => rfl)
      rw [show k - 1 + 1 = k by omega] at um
      have uc : m_X12_readCompare F (some 179) (nI (k - 1)) (ov g s2) = m_X12_readCompare_B67 F (some 179) (nI (k - 1)) 0 (ov g s2) := by
        unfold m_X12_readCompare
        rw [if_pos (show (18 : Int32) ≤ nI (k - 1) from nI_le (a := 18) (by omega) (by omega))]
      rw [uc]
      exact u173 (F := F) (rg := rg) um r8
theorem uone (hF : 742 ≤ F) {rg : Nat → Option Nat → Int32 → Int32 → Hp → Option (Int32 × Hp)} (N0 : NW (sA s0 14) h) (M0 : NMr (sL s0 17) h) (ok : okH h) (h3 : ∀ r', r = r' + 1 → ∀ st o t c nd o0, o = o0 + 1 → c ≤ 2 * o0 → USs B n R s0 st o t c r' → (∀ j, j < 4 * c → sA st 42 j = nd j) → URs B n R s0 g nd c o0 r' (rg 3 (some 179) 0 0 (ov g st)) (mNot (mOne B n R h r' o t))) (h4 : ∀ r', r = r' + 1 → ∀ st o t c nd o0, o = o0 + 1 → c ≤ 2 * o0 → USs B n R s0 st o t c r' → (∀ j, j < 4 * c → sA st 42 j = nd j) → URs B n R s0 g nd c o0 r' (rg 4 (some 179) 0 0 (ov g st)) (mBr B n R (mCond B n R h r' o t))) {nd : Nat → Int32} (C : USs B n R s0 st o t c r) (fr : ∀ j, j < 4 * c → sA st 42 j = nd j) : URs B n R s0 g nd c o r (b_X12_readOne F rg (some 179) (ov g st)) (mOne B n R h r o t) := by
  have kl := kyF_lt t
  have L := uL10 (F := F) (g := g) C (rg := rg) (v1 := if tK t = 4 ∧ tS t = 40 then 1 else 0) 9 11 F (by decide) (by omega) (by decide) (fun q => by omega)
  unfold b_X12_readOne
  rw [ck_e r_isO, bd_e (usign C.1 (c := 40) (K := 40) (by decide) rfl), show m_X12_readOne_L10 F rg F (some 179) (if tK t = 4 ∧ tS t = 40 then (1 : Int32) else 0) (11 : Int32) (ov g st) = _ from L]
  unfold m_X12_readOne_B30
  by_cases s4 : tK t = 4 ∧ tS t = 40
  · have u := uB46 hF N0 M0 ok h3 h4 C fr (Or.inr s4)
    rw [if_pos s4] at u ⊢
    rw [if_neg (show ¬ (1 : Int32) = 0 by decide)]
    exact u
  · by_cases k12 : 12 ≤ kyF t
    · have u := uB46 hF N0 M0 ok h3 h4 C fr (Or.inl k12)
      rw [if_neg s4, if_pos k12] at u ⊢
      rw [if_pos (show (0 : Int32) = 0 from rfl), if_pos (show nI (kyF t - 1) ≤ (19 : Int32) from nI_le (b := 19) (by omega) (by omega))]
      exact u
    · rw [if_neg s4, if_neg k12, if_pos (show (0 : Int32) = 0 from rfl), if_neg (by decide), mOne_n (by omega)]
      exact URs.bad C (k := 1) (K := 1) (by decide) (by decide) rfl (fun _ => rfl)
theorem u_all (hF : 742 ≤ F) (N0 : NW (sA s0 14) h) (M0 : NMr (sL s0 17) h) (ok : okH h) : ∀ (r d : Nat), 4 * r + 1 ≤ d → ∀ st o t c nd, USs B n R s0 st o t c r → (∀ j, j < 4 * c → sA st 42 j = nd j) → URs B n R s0 g nd c o r (mg_1 F d 2 (some 179) 0 0 (ov g st)) (mOne B n R h r o t) := by
  intro r
  induction r with
  | zero =>
    intro d hd st o t c nd C fr
    obtain ⟨d, rfl⟩ : ∃ j, d = j + 1 := ⟨d - 1, by omega⟩
    show URs B n R s0 g nd c o 0 (b_X12_readOne F (mg_1 F d) (some 179) (ov g st)) _
    exact uone hF N0 M0 ok (fun r' e => absurd e (by omega)) (fun r' e => absurd e (by omega)) C fr
  | succ r ih =>
    intro d hd st o t c nd C fr
    obtain ⟨d, rfl⟩ : ∃ j, d = j + 4 := ⟨d - 4, by omega⟩
    show URs B n R s0 g nd c o (r + 1) (b_X12_readOne F (mg_1 F (d + 3)) (some 179) (ov g st)) _
    refine uone hF N0 M0 ok (fun r' e => ?_) (fun r' e => ?_) C fr
    · cases e
      intro st o t c nd o0 ho l0 C fr
      show URs B n R s0 g nd c o0 r (b_X12_readNot F (mg_1 F (d + 2)) (some 179) (ov g st)) _
      exact unot hF ho l0 (ih (d + 2) (by omega) st o t c nd C fr)
    · cases e
      intro st o t c nd o0 ho l0 C fr
      show URs B n R s0 g nd c o0 r (b_X12_readBracket F (mg_1 F (d + 2)) (some 179) (ov g st)) _
      refine ubr hF ho ?_
      show URs B n R s0 g nd c o r (b_X12_readOr F (mg_1 F (d + 1)) (some 179) (ov g st)) _
      refine uOr_e hF (fun st o t c nd C fr => ?_) C fr
      show URs B n R s0 g nd c o r (b_X12_readAnd F (mg_1 F d) (some 179) (ov g st)) _
      exact uAnd_e hF (fun st o t c nd C fr => ih d (by omega) st o t c nd C fr) C fr
theorem u_top (hF : 742 ≤ F) (N0 : NW (sA s0 14) h) (M0 : NMr (sL s0 17) h) (ok : okH h) {nd : Nat → Int32} (C : USs B n R s0 st o t c 8) (fr : ∀ j, j < 4 * c → sA st 42 j = nd j) : URs B n R s0 g nd c o 8 (m_X12_readOr F 60 (some 179) (ov g st)) (mCond B n R h 8 o t) := by
  show URs B n R s0 g nd c o 8 (b_X12_readOr F (mg_1 F 59) (some 179) (ov g st)) _
  refine uOr_e hF (fun st o t c nd C fr => ?_) C fr
  show URs B n R s0 g nd c o 8 (b_X12_readAnd F (mg_1 F 58) (some 179) (ov g st)) _
  exact uAnd_e hF (fun st o t c nd C fr => u_all hF N0 M0 ok 8 58 (by decide) st o t c nd C fr) C fr
end SENT8
