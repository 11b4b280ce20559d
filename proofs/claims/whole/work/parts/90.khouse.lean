/-! the call 'house' -/
section KHOUSE
variable {F : Nat} {g : Hp} {B : Nat → Nat} {n R : Nat} {s0 st : RS} {h : HS} {t : Tok} {lc : Bool} {pt : Nat}
def RRn (B : Nat → Nat) (n R : Nat) (s0 : RS) (g : Hp) (o : Option (Int32 × Hp)) (m : Flt ⊕ (HS × Tok × Bool × Nat)) : Prop :=
  (∃ q st', m = .inl q ∧ o = some (0, ov g st') ∧ RF s0 st' q) ∨ ∃ h' t' lc' pt' st', m = .inr (h', t', lc', pt') ∧ o = some (1, ov g st') ∧ RSt B n R s0 st' h' t' lc' pt'
theorem rsign_e (C : RSt B n R s0 st h t lc pt) {c : Nat} (c7 : c < 128) {K : Int32} (hK : K = nI c) : m_X12_isSign F (some 179) K (ov g st) = some (if tK t = 4 ∧ tS t = c then 1 else 0) := by
  subst hK
  have t4 := C.k4
  unfold m_X12_isSign
  rw [bd_e C.kind]
  by_cases k : tK t = 4
  · obtain ⟨p, o⟩ := C.2.2.1.2.o
    have s7 := (o.2.2.2.2.2 k).1
    rw [if_pos (show nI (tK t) = (4 : Int32) by rw [k]; rfl), rI_9, bd_some, C.2.2.1.1.2.2.2.2.2.2.1 k]
    by_cases e : tS t = c
    · rw [if_pos (by rw [e]), ck_e (by decide), if_pos ⟨k, e⟩]
    · rw [if_neg (show ¬ nI (tS t) = nI c from fun q => e ((nI_eq (by omega) (by omega)).mp q)), ck_e (by decide), if_neg (fun q => e q.2)]
  · rw [if_neg (show ¬ nI (tK t) = (4 : Int32) from fun e => k ((nI_eq (b := 4) (by omega) (by omega)).mp e)), ck_e (by decide), if_neg (fun q => k q.1)]
theorem rend_s (hF : 742 ≤ F) (C : RSt B n R s0 st h t lc pt) : RRn B n R s0 g (m_X12_readEnd F (some 179) (ov g st)) (if tK t = 4 ∧ tS t = 59 then .inr (h, nxT B n R t, lc, pt) else .inl (1, tA t)) := by
  unfold m_X12_readEnd
  rw [ck_e r_isO, bd_e (rsign_e C (c := 59) (K := 59) (by decide) rfl)]
  by_cases w : tK t = 4 ∧ tS t = 59
  · obtain ⟨s1, e1, C1, -⟩ := rgo_s (F := F) (g := g) hF C (by omega)
    rw [if_pos w, if_pos w, if_neg (by decide), ck_e r_isO, bd_e e1, ck_e (by decide)]
    exact Or.inr ⟨_, _, _, _, s1, rfl, rfl, C1⟩
  · obtain ⟨s1, i1, i2⟩ := rbad (F := F) (g := g) C (k := 1) (K := 1) (by decide) (by decide) rfl (fun _ => rfl)
    rw [if_neg w, if_neg w, if_pos rfl]
    exact Or.inl ⟨_, s1, rfl, i1, i2⟩
def sgn (B : Nat → Nat) (n R : Nat) (m : Flt ⊕ (HS × Tok × Bool × Nat)) : Flt ⊕ (HS × Tok × Bool × Nat) :=
  match m with
  | .inl q => .inl q
  | .inr q => if tK q.2.1 = 4 ∧ tS q.2.1 = 59 then .inr (q.1, nxT B n R q.2.1, q.2.2.1, q.2.2.2) else .inl (1, tA q.2.1)
theorem mLine_sgn : mLine B n R h t lc pt = sgn B n R (mLine0 B n R h t lc pt) := rfl
/-- the end of a LINE of the kind v1 -/
theorem rl115 (hF : 742 ≤ F) {v : Int32} {m : Flt ⊕ (HS × Tok × Bool × Nat)} (c : (∃ q, m = .inl q ∧ v = 0 ∧ RF s0 st q) ∨ ∃ h' t' lc' pt', m = .inr (h', t', lc', pt') ∧ v = 1 ∧ RSt B n R s0 st h' t' lc' pt') : RRn B n R s0 g (m_X12_readLine_B115 F (some 179) v (ov g st)) (sgn B n R m) := by
  unfold m_X12_readLine_B115
  rcases c with ⟨q, rfl, rfl, r⟩ | ⟨h', t', lc', pt', rfl, rfl, C⟩
  · rw [if_pos rfl, ck_e (by decide)]
    exact Or.inl ⟨q, st, rfl, rfl, r⟩
  · rw [if_neg (by decide), ck_e r_isO]
    rcases rend_s (F := F) (g := g) hF C with ⟨q, s1, e1, e2, e3⟩ | ⟨h2, t2, l2, p2, s1, e1, e2, e3⟩
    · rw [bd2_e e2, if_pos rfl, ck_e (by decide)]
      exact Or.inl ⟨q, s1, e1, rfl, e3⟩
    · rw [bd2_e e2, if_neg (by decide), ck_e (by decide)]
      exact Or.inr ⟨h2, t2, l2, p2, s1, e1, rfl, e3⟩
theorem RF.u22 {q : Flt} {x : Int32} (r : RF s0 st q) : RF s0 (uI st 22 x) q := by
  obtain ⟨r1, r2, r3, r4⟩ := r
  exact ⟨r1.trans (Cg.uI (by decide)), by rw [sI_o (by decide)]; exact r2, by rw [sI_o (by decide)]; exact r3, r4⟩
theorem RSt.u22 (C : RSt B n R s0 st h t lc pt) : RSt B n R s0 (uI st 22 1) h t true pt := by
  obtain ⟨c1, c2, ⟨T, i⟩, c3, c4, c6, c7, c8⟩ := C
  exact ⟨c1.trans (Cg.uI (by decide)), c2, ⟨T.cg (I := [22]) (A := []) (L := []) (Cg.uI (by decide)) (by decide), i⟩, c3, c4, by rw [sI_uI, if_pos rfl, if_pos rfl], by rw [sI_o (by decide)]; exact c7, c8⟩
/-- after a reader that shuts 'lines' out -/
theorem rl104 (hF : 742 ≤ F) {v1 : Int32} (hv : v1 ≠ 2) {o : Option (Int32 × Hp)} {m : Flt ⊕ (HS × Tok)} (c : RRd B n R s0 g lc pt o m) : RRn B n R s0 g (bd2 o fun x f => m_X12_readLine_B104 F (some 179) v1 x f) (sgn B n R (m.map id fun q => (q.1, q.2, true, pt))) := by
  rcases c with ⟨q, s1, rfl, rfl, r⟩ | ⟨h', t', s1, rfl, rfl, C⟩
  · rw [bd2_e rfl]
    unfold m_X12_readLine_B104
    rw [if_neg hv, wI_22, bd_some]
    exact rl115 hF (Or.inl ⟨q, rfl, rfl, r.u22⟩)
  · rw [bd2_e rfl]
    unfold m_X12_readLine_B104
    rw [if_neg hv, wI_22, bd_some]
    exact rl115 hF (Or.inr ⟨h', t', true, pt, rfl, rfl, C.u22⟩)
theorem rline_b (C : RSt B n R s0 st h t lc pt) {i : Nat} (hi : i < 6) {z : Nat} {K : Int32} (hK : K = nI i) : m_X12_readLine_L2 F (z + 1) (some 179) K (ov g st) = if kyF t = wm i then m_X12_readLine_B21 F (some 179) K (ov g st) else m_X12_readLine_L2 F z (some 179) (nI (i + 1)) (ov g st) := by
  subst hK
  show m_X12_readLine_b2 F _ _ _ _ = _
  unfold m_X12_readLine_b2
  rw [if_neg (show ¬ (5 : Int32) < nI i from nI_nlt (a := 5) (by omega) (by omega)), ck_e r_isO, bd_e (risW_e C (by omega))]
  by_cases e : kyF t = wm i
  · rw [if_pos e, if_neg (by decide), if_pos e]
  · rw [if_neg e, if_pos rfl, if_neg e, nm_e2, nI_1]
theorem rline_s (hF : 742 ≤ F) (C : RSt B n R s0 st h t lc pt) (l : lcI lc h) : RRn B n R s0 g (m_X12_readLine F (some 179) (ov g st)) (mLine B n R h t lc pt) := by
  obtain ⟨z, rfl⟩ : ∃ z, F = z + 7 := ⟨F - 7, by omega⟩
  rw [mLine_sgn]
  unfold m_X12_readLine
  rw [rline_b (z := z + 6) (K := 0) C (i := 0) (by decide) rfl]
  by_cases e1 : kyF t = 1
  · obtain ⟨k, e⟩ := (kyF_iff t (by decide)).mp e1
    rw [if_pos (show kyF t = wm 0 from e1)]
    have m : mLine0 B n R h t lc pt = (mLines B n R h t lc).map id (fun q => (q.1, q.2, true, pt)) := by unfold mLine0; rw [if_pos k, e]; rfl
    rw [m]
    unfold m_X12_readLine_B21
    rw [if_pos (by decide), if_pos rfl, ck_e r_isO]
    exact rl104 hF (by decide) (rlines_s hF C k l)
  rw [if_neg (show ¬ kyF t = wm 0 from e1), rline_b (z := z + 5) C (i := 0 + 1) (by decide) rfl]
  by_cases e2 : kyF t = 2
  · obtain ⟨k, e⟩ := (kyF_iff t (by decide)).mp e2
    rw [if_pos (show kyF t = wm (0 + 1) from e2)]
    have m : mLine0 B n R h t lc pt = (mCopy B n R h t).map id (fun q => (q.1, q.2, true, pt)) := by unfold mLine0; rw [if_pos k, e]; rfl
    rw [m]
    unfold m_X12_readLine_B21
    rw [if_pos (by decide), if_neg (by decide), if_pos (by decide), ck_e r_isO]
    exact rl104 hF (by decide) (rcopy_s hF C k)
  rw [if_neg (show ¬ kyF t = wm (0 + 1) from e2), rline_b (z := z + 4) C (i := 0 + 1 + 1) (by decide) rfl]
  by_cases e3 : kyF t = 3
  · obtain ⟨k, e⟩ := (kyF_iff t (by decide)).mp e3
    rw [if_pos (show kyF t = wm (0 + 1 + 1) from e3)]
    have m : mLine0 B n R h t lc pt = (mDesk B n R h t).map id (fun q => (q.1, q.2, lc, pt)) := by unfold mLine0; rw [if_pos k, e]; rfl
    rw [m]
    unfold m_X12_readLine_B21
    rw [if_pos (by decide), if_neg (by decide), if_neg (by decide), if_pos (by decide), ck_e r_isO]
    rcases rdesk_s (F := z + 7) (g := g) hF C k with ⟨q, s1, c1, c2, c3⟩ | ⟨h', t', s1, c1, c2, c3⟩
    · rw [c1, bd2_e c2]
      unfold m_X12_readLine_B104
      rw [if_pos (by decide)]
      exact rl115 hF (Or.inl ⟨q, rfl, rfl, c3⟩)
    · rw [c1, bd2_e c2]
      unfold m_X12_readLine_B104
      rw [if_pos (by decide)]
      exact rl115 hF (Or.inr ⟨h', t', lc, pt, rfl, rfl, c3⟩)
  rw [if_neg (show ¬ kyF t = wm (0 + 1 + 1) from e3), rline_b (z := z + 3) C (i := 0 + 1 + 1 + 1) (by decide) rfl]
  by_cases e7 : kyF t = 7
  · obtain ⟨k, e⟩ := (kyF_iff t (by decide)).mp e7
    rw [if_pos (show kyF t = wm (0 + 1 + 1 + 1) from e7)]
    have m : mLine0 B n R h t lc pt = (mLikely B n R h t pt).map id (fun q => (q.1, q.2.1, true, q.2.2)) := by unfold mLine0; rw [if_pos k, e]; rfl
    rw [m]
    unfold m_X12_readLine_B21
    rw [if_pos (by decide), if_neg (by decide), if_neg (by decide), if_neg (by decide), if_pos (by decide), ck_e r_isO]
    rcases rlik_s (F := z + 7) (g := g) hF C k with ⟨q, s1, c1, c2, c3⟩ | ⟨h', t', pt', s1, c1, c2, c3⟩
    · rw [c1, bd2_e c2]
      unfold m_X12_readLine_B104
      rw [if_neg (by decide), wI_22, bd_some]
      exact rl115 hF (Or.inl ⟨q, rfl, rfl, c3.u22⟩)
    · rw [c1, bd2_e c2]
      unfold m_X12_readLine_B104
      rw [if_neg (by decide), wI_22, bd_some]
      exact rl115 hF (Or.inr ⟨h', t', true, pt', rfl, rfl, c3.u22⟩)
  rw [if_neg (show ¬ kyF t = wm (0 + 1 + 1 + 1) from e7), rline_b (z := z + 2) C (i := 0 + 1 + 1 + 1 + 1) (by decide) rfl]
  by_cases e8 : kyF t = 8
  · obtain ⟨k, e⟩ := (kyF_iff t (by decide)).mp e8
    rw [if_pos (show kyF t = wm (0 + 1 + 1 + 1 + 1) from e8)]
    have m : mLine0 B n R h t lc pt = (mSense B n R h t).map id (fun q => (q.1, q.2, true, pt)) := by unfold mLine0; rw [if_pos k, e]; rfl
    rw [m]
    unfold m_X12_readLine_B21
    rw [if_pos (by decide), if_neg (by decide), if_neg (by decide), if_neg (by decide), if_neg (by decide), if_pos (by decide), ck_e r_isO]
    exact rl104 hF (by decide) (rsense_s hF C k)
  rw [if_neg (show ¬ kyF t = wm (0 + 1 + 1 + 1 + 1) from e8), rline_b (z := z + 1) C (i := 0 + 1 + 1 + 1 + 1 + 1) (by decide) rfl]
  by_cases e9 : kyF t = 9
  · obtain ⟨k, e⟩ := (kyF_iff t (by decide)).mp e9
    rw [if_pos (show kyF t = wm (0 + 1 + 1 + 1 + 1 + 1) from e9)]
    have m : mLine0 B n R h t lc pt = (mRhyme B n R h t).map id (fun q => (q.1, q.2, true, pt)) := by unfold mLine0; rw [if_pos k, e]; rfl
    rw [m]
    unfold m_X12_readLine_B21
    rw [if_pos (by decide), if_neg (by decide), if_neg (by decide), if_neg (by decide), if_neg (by decide), if_neg (by decide), ck_e r_isO]
    exact rl104 hF (by decide) (rrhyme_s hF C k)
  rw [if_neg (show ¬ kyF t = wm (0 + 1 + 1 + 1 + 1 + 1) from e9), mLine0_d e1 e2 e3 e7 e8 e9]
  show RRn B n R s0 g (m_X12_readLine_b2 (z + 7) _ _ _ _) _
  unfold m_X12_readLine_b2 m_X12_readLine_B21
  rw [if_pos (by decide), if_neg (by decide)]
  obtain ⟨s1, i1, i2⟩ := rbad (F := z + 7) (g := g) C (k := 1) (K := 1) (by decide) (by decide) rfl (fun _ => rfl)
  exact Or.inl ⟨_, s1, rfl, i1, i2⟩
theorem mDesk_h {q : HS × Tok} (e : mDesk B n R h t = .inr q) : ∃ d, q.1 = adD h d := by
  unfold mDesk at e
  split at e
  · cases e
  · split at e
    · cases e
    · split at e
      · cases e; exact ⟨_, rfl⟩
      · split at e
        · split at e
          · cases e
          · cases e; exact ⟨_, rfl⟩
        · split at e
          · cases e; exact ⟨_, rfl⟩
          · cases e
theorem mLine0_l {q : HS × Tok × Bool × Nat} (e : mLine0 B n R h t lc pt = .inr q) (l : lcI lc h) : lcI q.2.2.1 q.1 := by
  unfold mLine0 at e
  split at e
  · split at e
    · obtain ⟨b, e1, rfl⟩ := map_inr e; exact lcI_t
    · obtain ⟨b, e1, rfl⟩ := map_inr e; exact lcI_t
    · obtain ⟨b, e1, rfl⟩ := map_inr e
      obtain ⟨d, e2⟩ := mDesk_h e1
      show lcI lc b.1
      rw [e2]
      exact l
    · obtain ⟨b, e1, rfl⟩ := map_inr e; exact lcI_t
    · obtain ⟨b, e1, rfl⟩ := map_inr e; exact lcI_t
    · obtain ⟨b, e1, rfl⟩ := map_inr e; exact lcI_t
    · cases e
  · cases e
theorem mLine_l {q : HS × Tok × Bool × Nat} (e : mLine B n R h t lc pt = .inr q) (l : lcI lc h) : lcI q.2.2.1 q.1 := by
  rw [mLine_sgn] at e
  cases e0 : mLine0 B n R h t lc pt with
  | inl p => rw [e0] at e; cases e
  | inr p =>
    rw [e0] at e
    have := mLine0_l e0 l
    unfold sgn at e
    simp only at e
    split at e
    · cases e; exact this
    · cases e
theorem rhouse_L (hF : 742 ≤ F) : ∀ (d k z : Nat) (st : RS) (h : HS) (t : Tok) (lc : Bool) (pt : Nat), d < z → RSt B n R s0 st h t lc pt → lcI lc h → mHouse B n R d k h t lc pt ≠ .inl (0, 0) → (∃ q s1, mHouse B n R d k h t lc pt = .inl q ∧ m_X12_house_L26 F z (some 179) (nI k) (ov g st) = some (-1 - nI q.2, ov g s1) ∧ RF s0 s1 q) ∨ ∃ k' h' t' lc' pt' s1, mHouse B n R d k h t lc pt = .inr (k', h') ∧ m_X12_house_L26 F z (some 179) (nI k) (ov g st) = m_X12_house_L55 F F (some 179) (nI k') 0 (ov g s1) ∧ RSt B n R s0 s1 h' t' lc' pt' := by
  intro d
  induction d with
  | zero => intro k z st h t lc pt hz C l ne; exact absurd rfl ne
  | succ d ih =>
    intro k z st h t lc pt hz C l ne
    obtain ⟨z, rfl⟩ : ∃ j, z = j + 1 := ⟨z - 1, by omega⟩
    have t4 := C.k4
    have st1 : m_X12_house_L26 F (z + 1) (some 179) (nI k) (ov g st) = if nI (tK t) = 0 then m_X12_house_L55 F F (some 179) (nI k) 0 (ov g st) else bd2 (m_X12_readLine F (some 179) (ov g st)) fun x4 f5 => if x4 = 0 then ((gI f5 (some 179) 10 11).bind fun x8 => some (((-1 : Int32) - x8), f5)) else m_X12_house_L26 F z (some 179) (nI (k + 1)) f5 := by
      show m_X12_house_b26 F _ _ _ _ = _
      unfold m_X12_house_b26
      rw [bd_e C.kind, ck_e r_isO]
      simp only [nm_e2, nI_1]
    by_cases k0 : tK t = 0
    · refine Or.inr ⟨k, h, t, lc, pt, st, ?_, ?_, C⟩
      · unfold mHouse
        rw [if_pos k0]
      · rw [st1, if_pos (show nI (tK t) = 0 by rw [k0]; rfl)]
    · rw [if_neg (nI_ne0 (by omega) (by omega))] at st1
      have mt : mHouse B n R (d + 1) k h t lc pt = match mLine B n R h t lc pt with
        | .inl q => .inl q
        | .inr q => mHouse B n R d (k + 1) q.1 q.2.1 q.2.2.1 q.2.2.2 := by
        show (if tK t = 0 then _ else _) = _
        rw [if_neg k0]
        rfl
      rcases rline_s (F := F) (g := g) hF C l with ⟨q, s1, c1, c2, c3⟩ | ⟨h', t', lc', pt', s1, c1, c2, C1⟩
      · rw [c1] at mt
        rw [bd2_e c2, if_pos rfl, rI_11, bd_some, c3.2.2.1] at st1
        exact Or.inl ⟨q, s1, mt, st1, c3⟩
      · have l' := mLine_l c1 l
        rw [c1] at mt
        rw [bd2_e c2, if_neg (by decide)] at st1
        rw [mt] at ne
        rw [st1, mt]
        exact ih (k + 1) z s1 h' t' lc' pt' (by omega) C1 l' ne
end KHOUSE
