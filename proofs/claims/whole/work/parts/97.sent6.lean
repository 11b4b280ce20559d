/-! the reference reads a SENTENCE -/
theorem NdR.mono {nd : Nat → Int32} : ∀ {n n' k : Nat} {Q : SN}, n ≤ n' → NdR nd n k Q → NdR nd n' k Q
  | 0, _, _, _, _, H => H.elim
  | n + 1, 0, _, _, h, _ => absurd h (by omega)
  | n + 1, n' + 1, k, Q, h, H => by
    rcases H with ⟨x, Q1, h1, h2, h3, h4, h5⟩ | ⟨x, y, Q1, Q2, h1, h1', h2, h3, h4, h5, h6, h7⟩ | ⟨x, y, Q1, Q2, h1, h1', h2, h3, h4, h5, h6, h7⟩ | ⟨e, h1, h2⟩
    · exact Or.inl ⟨x, Q1, h1, h2, h3, NdR.mono (by omega) h4, h5⟩
    · exact Or.inr (Or.inl ⟨x, y, Q1, Q2, h1, h1', h2, h3, h4, NdR.mono (by omega) h5, NdR.mono (by omega) h6, h7⟩)
    · exact Or.inr (Or.inr (Or.inl ⟨x, y, Q1, Q2, h1, h1', h2, h3, h4, NdR.mono (by omega) h5, NdR.mono (by omega) h6, h7⟩))
    · exact Or.inr (Or.inr (Or.inr ⟨e, h1, h2⟩))
theorem NdR.fr {nd nd' : Nat → Int32} {c : Nat} (fr : ∀ i, i < 4 * c → nd' i = nd i) : ∀ (n k : Nat) (Q : SN), k < c → NdR nd n k Q → NdR nd' n k Q
  | 0, _, _, _, H => H
  | n + 1, k, Q, hk, H => by
    rcases H with ⟨x, Q1, h1, h2, h3, h4, h5⟩ | ⟨x, y, Q1, Q2, h1, h1', h2, h3, h4, h5, h6, h7⟩ | ⟨x, y, Q1, Q2, h1, h1', h2, h3, h4, h5, h6, h7⟩ | ⟨e, h1, h2⟩
    · exact Or.inl ⟨x, Q1, h1, by rw [fr _ (by omega)]; exact h2, by rw [fr _ (by omega)]; exact h3, NdR.fr fr n x Q1 (by omega) h4, h5⟩
    · exact Or.inr (Or.inl ⟨x, y, Q1, Q2, h1, h1', by rw [fr _ (by omega)]; exact h2, by rw [fr _ (by omega)]; exact h3, by rw [fr _ (by omega)]; exact h4, NdR.fr fr n x Q1 (by omega) h5, NdR.fr fr n y Q2 (by omega) h6, h7⟩)
    · exact Or.inr (Or.inr (Or.inl ⟨x, y, Q1, Q2, h1, h1', by rw [fr _ (by omega)]; exact h2, by rw [fr _ (by omega)]; exact h3, by rw [fr _ (by omega)]; exact h4, NdR.fr fr n x Q1 (by omega) h5, NdR.fr fr n y Q2 (by omega) h6, h7⟩))
    · exact Or.inr (Or.inr (Or.inr ⟨e, by rw [fr _ (by omega), fr _ (by omega), fr _ (by omega), fr _ (by omega)]; exact h1, h2⟩))
section SENT6
variable {F : Nat} {g : Hp} {B : Nat → Nat} {n R : Nat} {s0 st : RS} {h : HS} {o c r : Nat} {t : Tok}
def USs (B : Nat → Nat) (n R : Nat) (s0 st : RS) (o : Nat) (t : Tok) (c r : Nat) : Prop := TRs B n R s0 st t ∧ (sI st 43 = nI c ∧ sI st 44 = nI o ∧ sI st 45 = nI (8 - r)) ∧ c ≤ 2 * o ∧ o ≤ 20 ∧ r ≤ 8
/-- what a reader of a part answers: o0 ones, c0 nodes before it -/
def URs (B : Nat → Nat) (n R : Nat) (s0 : RS) (g : Hp) (nd : Nat → Int32) (c0 o0 r : Nat) (x : Option (Int32 × Hp)) (m : MRs) : Prop :=
  (∃ q st', m = .inl q ∧ x = some (0, ov g st') ∧ RF s0 st' q) ∨
  ∃ Q o' t' st' k, m = .inr (Q, o', t') ∧ x = some (1, ov g st') ∧ USs B n R s0 st' o' t' (c0 + Q.length) r ∧ (sI st' 46 = nI k ∧ c0 ≤ k ∧ k < c0 + Q.length ∧ NdR (sA st' 42) (k + 1) k Q) ∧ (∀ j, j < 4 * c0 → sA st' 42 j = nd j) ∧ Q.length + 1 + 2 * o0 ≤ 2 * o' ∧ 1 ≤ Q.length
theorem USs.go (hF : 742 ≤ F) (C : USs B n R s0 st o t c r) (k : 2 ≤ tK t) : ∃ st', m_X12_go F (some 179) (ov g st) = some (ov g st') ∧ USs B n R s0 st' o (nxT B n R t) c r ∧ Cg [5, 6, 7, 8, 9, 12] [] [] st st' := by
  obtain ⟨st', e1, e2, e3⟩ := ugo (F := F) (g := g) hF C.1 k
  obtain ⟨-, ⟨c1, c2, c3⟩, c4⟩ := C
  exact ⟨st', e1, ⟨e2, ⟨by rw [e3.I (by decide)]; exact c1, by rw [e3.I (by decide)]; exact c2, by rw [e3.I (by decide)]; exact c3⟩, c4⟩, e3⟩
/-- a node is laid -/
theorem ulays (C : USs B n R s0 st o t c r) (c40 : c < 60) (c2 : c + 1 ≤ 2 * o) (w a b x : Int32) : ∃ st', m_X12_lays F (some 179) w a b x (ov g st) = some (nI c, ov g st') ∧ USs B n R s0 st' o t (c + 1) r ∧ (sA st' 42 (4 * c) = w ∧ sA st' 42 (4 * c + 1) = a ∧ sA st' 42 (4 * c + 2) = b ∧ sA st' 42 (4 * c + 3) = x) ∧ ∀ j, j < 4 * c → sA st' 42 j = sA st 42 j := by
  obtain ⟨T, ⟨c1, c3, c5⟩, c4⟩ := C
  have cg : Cg [43] [42] [] st (uI (uA (uA (uA (uA st 42 (4 * c) w) 42 (4 * c + 1) a) 42 (4 * c + 2) b) 42 (4 * c + 3) x) 43 (nI (c + 1))) := (Cg.uA (by decide)).trans ((Cg.uA (by decide)).trans ((Cg.uA (by decide)).trans ((Cg.uA (by decide)).trans (Cg.uI (by decide)))))
  refine ⟨_, ?_, ⟨T.cg cg (by decide) (by decide) (by decide) (by decide) (by decide), ⟨by rw [sI_uI, if_pos rfl], by rw [cg.I (by decide)]; exact c3, by rw [cg.I (by decide)]; exact c5⟩, c2, c4.2⟩, ⟨?_, ?_, ?_, ?_⟩, fun j hj => ?_⟩
  · unfold m_X12_lays
    rw [rI_43, bd_some, c1, nm_e2, show (4 : Int32) = nI 4 from rfl, nI_mul, rR_42, bd_some, wE_42 (by omega), bd_some, rR_42, bd_some, nI_1, wE_42 (by omega), bd_some, rR_42, bd_some, show nI (4 * c) + (2 : Int32) = nI (4 * c + 2) by rw [show (2 : Int32) = nI 2 from rfl, nI_add], wE_42 (by omega), bd_some, rR_42, bd_some, show nI (4 * c) + (3 : Int32) = nI (4 * c + 3) by rw [show (3 : Int32) = nI 3 from rfl, nI_add], wE_42 (by omega), bd_some, rI_43, bd_some, sI_uA, sI_uA, sI_uA, sI_uA, c1, nI_1, wI_43, bd_some, rI_43, bd_some, sI_uI, if_pos rfl, nI_m1 (by omega)]
    rfl
  · rw [sA_uI, uA_v, if_neg (by omega), uA_v, if_neg (by omega), uA_v, if_neg (by omega), uA_v, if_pos rfl]
  · rw [sA_uI, uA_v, if_neg (by omega), uA_v, if_neg (by omega), uA_v, if_pos rfl]
  · rw [sA_uI, uA_v, if_neg (by omega), uA_v, if_pos rfl]
  · rw [sA_uI, uA_v, if_pos rfl]
  · rw [sA_uI, uA_v, if_neg (by omega), uA_v, if_neg (by omega), uA_v, if_neg (by omega), uA_v, if_neg (by omega)]
theorem USs.u46 (C : USs B n R s0 st o t c r) {x : Int32} : USs B n R s0 (uI st 46 x) o t c r := by
  obtain ⟨T, ⟨c1, c3, c5⟩, c4⟩ := C
  exact ⟨T.cg (I := [46]) (A := []) (L := []) (Cg.uI (by decide)) (by decide) (by decide) (by decide) (by decide) (by decide), ⟨by rw [sI_o (by decide)]; exact c1, by rw [sI_o (by decide)]; exact c3, by rw [sI_o (by decide)]; exact c5⟩, c4⟩
theorem URs.bad {nd : Nat → Int32} {c0 o0 : Nat} (C : USs B n R s0 st o t c r) {k : Nat} (k1 : 1 ≤ k) (k4 : k ≤ 4) {K : Int32} (hK : K = nI k) (kk : tK t = 1 → k = 1) {r' : Nat} : URs B n R s0 g nd c0 o0 r' (chk (isO (ov g st) (some 179) 10) <| bd2 (m_X12_bad F (some 179) K (ov g st)) fun a b => chk (okZ a) <| some (a, b)) (.inl (k, tA t)) := by
  obtain ⟨st', i1, i2⟩ := ubad (F := F) (g := g) C.1 k1 k4 hK kk
  exact Or.inl ⟨_, st', rfl, i1, i2⟩
/-- a leaf is laid -/
theorem uleaf {nd : Nat → Int32} {o0 c0 : Nat} (ho : o = o0 + 1) (C : USs B n R s0 st o t c0 r) (l0 : c0 ≤ 2 * o0) (f : ∀ j, j < 4 * c0 → sA st 42 j = nd j) {w a b x : Int32} {e : E5} (lf : leafR w a b x e) {β : Type} : ∃ st', (∀ K : Int32 → Hp → Option β, bd2 (m_X12_lays F (some 179) w a b x (ov g st)) (fun y z => (pV z (some 179) 10 46 (.int y)).bind fun z => K y z) = K (nI c0) (ov g st')) ∧ USs B n R s0 st' o t (c0 + [e].length) r ∧ (sI st' 46 = nI c0 ∧ c0 ≤ c0 ∧ c0 < c0 + [e].length ∧ NdR (sA st' 42) (c0 + 1) c0 [e]) ∧ (∀ j, j < 4 * c0 → sA st' 42 j = nd j) ∧ [e].length + 1 + 2 * o0 ≤ 2 * o ∧ 1 ≤ [e].length := by
  have o20 := C.2.2.2.1
  obtain ⟨s1, e1, C1, ⟨v1, v2, v3, v4⟩, fr⟩ := ulays (F := F) (g := g) C (by omega) (by omega) w a b x
  refine ⟨uI s1 46 (nI c0), fun K => ?_, C1.u46, ⟨by rw [sI_uI, if_pos rfl], Nat.le_refl _, Nat.lt_succ_self _, Or.inr (Or.inr (Or.inr ⟨e, ?_, rfl⟩))⟩, fun j hj => ?_, ?_, Nat.le_refl _⟩
  · rw [bd2_e e1, wI_46, bd_some]
  · rw [sA_uI, v1, v2, v3, v4]
    exact lf
  · rw [sA_uI, fr j hj]
    exact f j hj
  · show 1 + 1 + 2 * o0 ≤ 2 * o
    omega
end SENT6
