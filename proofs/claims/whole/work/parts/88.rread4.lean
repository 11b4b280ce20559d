/-! the reference reads a LINE: DESKS, 'likely', 'sense', 'rhyme', 'lines' -/
section RREAD4
variable {F : Nat} {g : Hp} {B : Nat → Nat} {n R : Nat} {s0 st : RS} {h : HS} {t : Tok} {lc : Bool} {pt : Nat}
theorem rd15 {j : Nat} (hj : j < 170) {K : Int32} (e : K = nI j) {β : Type} {k : Int32 → Option β} : ((gR (ov g st) (some 179) 10 15).bind fun x => (ldI (ov g st) 1 x K).bind k) = k (sA st 15 j) := by
  rw [e, rR_15, bd_some, rE_15 hj, bd_some]
theorem wr15 {j : Nat} (hj : j < 170) {K : Int32} (e : K = nI j) {x : Int32} {β : Type} {k : Hp → Option β} : (stI (ov g st) 1 (some 182) K x).bind k = k (ov g (uA st 15 j x)) := by
  rw [e, wE_15 hj, bd_some]
theorem uA_v {s : RS} {k i j : Nat} {x : Int32} : sA (uA s k i x) k j = if j = i then x else sA s k j := by
  rw [sA_uA, if_pos rfl]
  by_cases q : j = i
  · rw [if_pos q, q, upd_s]
  · rw [if_neg q, upd_n q]
theorem rdesk_end (C : RSt B n R s0 st h t lc pt) (l6 : (hD h).length < 6) {d : Nat × Nat × List Nat} (e1 : sA st 15 (90 + 2 * (hD h).length) = nI d.1) (e2 : d.1 = 1 → sA st 15 (90 + 2 * (hD h).length + 1) = nI d.2.1) (e3 : sL st 18 (10 + (hD h).length) = lN (code27 d.2.2)) (h1 : okName d.2.2) (h2 : d.1 < 3) (h3 : d.1 = 1 → 1 ≤ d.2.1 ∧ d.2.1 ≤ 9) : ∃ st', m_X12_readDesk_B138 F (some 179) (ov g st) = some (1, ov g st') ∧ RSt B n R s0 st' (adD h d) t lc pt := by
  obtain ⟨N, ok⟩ := C.2.2.2.1
  refine ⟨uA st 15 2 (nI ((hD h).length + 1)), ?_, C.hs (Cg.uA (by decide)) (N.addD' ok l6 ?_ ?_ (fun q => ?_) (fun j q1 _ _ => ?_)) (ok.addD l6 h1 h2 h3) C.2.2.2.2.1.1 (fun j hj => ?_)⟩
  · unfold m_X12_readDesk_B138
    rw [rR_15, bd_some, show ldI (ov g st) 1 (some 182) (2 : Int32) = _ from rE_15 (j := 2) (by omega), bd_some, N.2.2.1, nI_1, wr15 (K := 2) (j := 2) (by omega) rfl, ck_e (by decide)]
  · rw [uA_v, if_pos rfl]
  · rw [uA_v, if_neg (by omega)]; exact e1
  · rw [uA_v, if_neg (by omega)]; exact e2 q
  · rw [uA_v, if_neg q1]
  · by_cases e : j < (hD h).length
    · have ee : (hD (adD h d))[j] = (hD h)[j] := gE_l hj e
      rw [ee]; exact C.2.2.2.2.1.2 j e
    · have ee : (hD (adD h d))[j] = d := gE_r hj e
      have ej : j = (hD h).length := by rw [show (hD (adD h d)).length = (hD h).length + 1 from len1 _ _] at hj; omega
      rw [ee, ej]; exact e3
theorem rdesk_s (hF : 742 ≤ F) (C : RSt B n R s0 st h t lc pt) (k : tK t = 2) : RRd B n R s0 g lc pt (m_X12_readDesk F (some 179) (ov g st)) (mDesk B n R h t) := by
  obtain ⟨N, ok⟩ := C.2.2.2.1
  unfold m_X12_readDesk mDesk
  rw [rd15 (K := 2) (j := 2) (by omega) rfl, N.2.2.1]
  by_cases l6 : (hD h).length = 6
  · rw [if_pos l6, l6, if_pos (by decide)]
    obtain ⟨st', i1, i2⟩ := rbad (F := F) (g := g) C (k := 4) (K := 4) (by decide) (by decide) rfl (by omega)
    exact Or.inl ⟨_, st', rfl, i1, i2⟩
  · have l6' : (hD h).length < 6 := by have := ok.2.2.2.1; omega
    obtain ⟨s1, e1, C1, -⟩ := rgo_s (F := F) (g := g) hF C (by omega)
    rw [if_neg l6, if_neg (show ¬ nI (hD h).length = (6 : Int32) from fun e => l6 ((nI_eq (b := 6) (by omega) (by omega)).mp e)), ck_e r_isO, bd_e e1, ck_e r_isO, show (10 : Int32) + nI (hD h).length = nI (10 + (hD h).length) by rw [show (10 : Int32) = nI 10 from rfl, nI_add]]
    rcases rnew_s (F := F) (g := g) hF C1 (j := 10 + (hD h).length) (by omega) with ⟨q, st', j1, j2, j3⟩ | ⟨j1, j2, s2, j3, s1', rfl, j4, j5⟩
    · rw [j1, bd2_e j2, if_pos rfl, ck_e (by decide)]
      exact Or.inl ⟨q, st', rfl, rfl, j3⟩
    · have nm := (C1.name j2).1
      obtain ⟨C2, n2⟩ := C1.nm (j := 10 + (hD h).length) (fun _ => by omega) (fun _ => Nat.le_refl _) j4 j5 (C1.2.2.1.2.nx (by omega))
      have w6 := risW_e (F := F) (g := g) C2 (k := 6) (by decide)
      have w7 := risW_e (F := F) (g := g) C2 (k := 7) (by decide)
      have w8 := risW_e (F := F) (g := g) C2 (k := 8) (by decide)
      have q1 := kyF_iff (nxT B n R (nxT B n R t)) (k := 4) (by decide)
      have q2 := kyF_iff (nxT B n R (nxT B n R t)) (k := 5) (by decide)
      have q3 := kyF_iff (nxT B n R (nxT B n R t)) (k := 6) (by decide)
      have k2 : kyF (nxT B n R (nxT B n R t)) ≠ 0 → tK (nxT B n R (nxT B n R t)) = 2 := fun e => ((kyF_iff _ e).mp rfl).1
      rw [j1, bd2_e j3, if_neg (by decide), ck_e r_isO, bd_e (show m_X12_isWord F (some 179) (6 : Int32) (ov g s2) = _ from w6)]
      show RRd B n R s0 g lc pt _ (if _ then _ else _)
      simp only [← q1, ← q2, ← q3]
      generalize tL (nxT B n R t) = L0 at *
      generalize nxT B n R (nxT B n R t) = t2 at *
      -- the ways that read no number
      have plain : ∀ w, w < 3 → w ≠ 1 → kyF t2 ≠ 0 → RRd B n R s0 g lc pt (m_X12_readDesk_B76 F (some 179) (nI (hD h).length) (nI w) (ov g s2)) (.inr (adD h (w, 0, L0), nxT B n R t2)) := by
        intro w w3 w1 kk
        obtain ⟨s3, e3, C3, c3⟩ := rgo_s (F := F) (g := g) hF C2 (by have := k2 kk; omega)
        have C4 : RSt B n R s0 (uA s3 15 (90 + 2 * (hD h).length) (nI w)) h (nxT B n R t2) lc pt := C3.same (Cg.uA (by decide)) (fun j q1 q2 q3 q4 q5 => by rw [uA_v, if_neg (by omega)])
        obtain ⟨s5, e5, C5⟩ := rdesk_end (F := F) (g := g) C4 l6' (d := (w, 0, L0)) (by rw [uA_v, if_pos rfl]) (fun e => absurd e w1) (by rw [sL_uA, c3.L (by decide)]; exact n2) nm w3 (fun e => absurd e w1)
        refine Or.inr ⟨_, _, s5, rfl, ?_, C5⟩
        unfold m_X12_readDesk_B76
        rw [if_neg (nI_nm1 (by omega)), ck_e r_isO, bd_e e3, rR_15, bd_some, show (90 : Int32) + ((2 : Int32) * nI (hD h).length) = nI (90 + 2 * (hD h).length) by rw [show (2 : Int32) = nI 2 from rfl, show (90 : Int32) = nI 90 from rfl, nI_mul, nI_add], wr15 (by omega) rfl, if_neg (show ¬ nI w = (1 : Int32) from fun e => w1 ((nI_is1 (by omega)).mp e))]
        exact e5
      by_cases e4 : kyF t2 = 4
      · rw [if_pos (show kyF t2 = wm 6 from e4), if_neg (by decide), if_pos e4]
        exact plain 0 (by decide) (by decide) (by omega)
      · rw [if_neg (show ¬ kyF t2 = wm 6 from e4), if_pos rfl, if_neg e4, ck_e r_isO, bd_e (show m_X12_isWord F (some 179) (7 : Int32) (ov g s2) = _ from w7)]
        by_cases e5 : kyF t2 = 5
        · rw [if_pos (show kyF t2 = wm 7 from e5), if_neg (by decide), if_pos e5]
          obtain ⟨s3, e3, C3, c3⟩ := rgo_s (F := F) (g := g) hF C2 (by have := k2 (by omega); omega)
          have C4 : RSt B n R s0 (uA s3 15 (90 + 2 * (hD h).length) (nI 1)) h (nxT B n R t2) lc pt := C3.same (Cg.uA (by decide)) (fun j q1 q2 q3 q4 q5 => by rw [uA_v, if_neg (by omega)])
          have st1 : m_X12_readDesk_B76 F (some 179) (nI (hD h).length) (1 : Int32) (ov g s2) = bd2 (m_X12_readNumber F (some 179) (1 : Int32) (9 : Int32) (ov g (uA s3 15 (90 + 2 * (hD h).length) (nI 1)))) fun x8 f9 => if x8 = 0 then (chk (okZ (0 : Int32)) <| some ((0 : Int32), f9)) else ((gR f9 (some 179) 10 15).bind fun x11 => (gI f9 (some 179) 10 13).bind fun x12 => (stI f9 1 x11 (nI (90 + 2 * (hD h).length + 1)) x12).bind fun f13 => m_X12_readDesk_B138 F (some 179) f13) := by
            unfold m_X12_readDesk_B76
            rw [if_neg (by decide), ck_e r_isO, bd_e e3, rR_15, bd_some, show (90 : Int32) + ((2 : Int32) * nI (hD h).length) = nI (90 + 2 * (hD h).length) by rw [show (2 : Int32) = nI 2 from rfl, show (90 : Int32) = nI 90 from rfl, nI_mul, nI_add], wr15 (by omega) rfl, if_pos rfl, ck_e r_isO, nI_1]
            rfl
          rw [st1]
          rcases rnum_s (F := F) (g := g) hF C4 (lo := 1) (hi := 9) (L := 1) (H := 9) (by decide) (by decide) rfl rfl with ⟨q, s5, j1, j2, j3⟩ | ⟨v, s5, j1, j2, j3, j4, j5, j6, C5, j7, j8⟩
          · rw [j1, bd2_e j2, if_pos rfl, ck_e (by decide)]
            exact Or.inl ⟨q, s5, rfl, rfl, j3⟩
          · rw [j1, bd2_e j2, if_neg (by decide), rR_15, bd_some, rI_13, bd_some, j7, wr15 (by omega) rfl]
            have C6 : RSt B n R s0 (uA s5 15 (90 + 2 * (hD h).length + 1) (nI v)) h (nxT B n R (nxT B n R t2)) lc pt := C5.same (Cg.uA (by decide)) (fun j q1 q2 q3 q4 q5 => by rw [uA_v, if_neg (by omega)])
            obtain ⟨s7, e7, C7⟩ := rdesk_end (F := F) (g := g) C6 l6' (d := (1, v, L0)) (by rw [uA_v, if_neg (by omega), j8.A (by decide), uA_v, if_pos rfl]) (fun _ => by rw [uA_v, if_pos rfl]) (by rw [sL_uA, j8.L (by decide), sL_uA, c3.L (by decide)]; exact n2) nm (show 1 < 3 by decide) (fun _ => ⟨j3, j4⟩)
            exact Or.inr ⟨_, _, s7, rfl, e7, C7⟩
        · rw [if_neg (show ¬ kyF t2 = wm 7 from e5), if_pos rfl, if_neg e5, ck_e r_isO, bd_e (show m_X12_isWord F (some 179) (8 : Int32) (ov g s2) = _ from w8)]
          by_cases e6 : kyF t2 = 6
          · rw [if_pos (show kyF t2 = wm 8 from e6), if_neg (by decide), if_pos e6]
            exact plain 2 (by decide) (by decide) (by omega)
          · rw [if_neg (show ¬ kyF t2 = wm 8 from e6), if_pos rfl, if_neg e6]
            unfold m_X12_readDesk_B76
            rw [if_pos rfl]
            obtain ⟨st', i1, i2⟩ := rbad (F := F) (g := g) C2 (k := 1) (K := 1) (by decide) (by decide) rfl (fun _ => rfl)
            exact Or.inl ⟨_, st', rfl, i1, i2⟩
/-- what 'likely' answers -/
def RRl (B : Nat → Nat) (n R : Nat) (s0 : RS) (g : Hp) (lc : Bool) (o : Option (Int32 × Hp)) (m : Flt ⊕ (HS × Tok × Nat)) : Prop :=
  (∃ q st', m = .inl q ∧ o = some (0, ov g st') ∧ RF s0 st' q) ∨ ∃ h' t' pt' st', m = .inr (h', t', pt') ∧ o = some (1, ov g st') ∧ RSt B n R s0 st' h' t' lc pt'
theorem rlik_s (hF : 742 ≤ F) (C : RSt B n R s0 st h t lc pt) (k : tK t = 2) : RRl B n R s0 g lc (m_X12_readLikely F (some 179) (ov g st)) (mLikely B n R h t pt) := by
  obtain ⟨s1, e1, C1, -⟩ := rgo_s (F := F) (g := g) hF C (by omega)
  obtain ⟨N, ok⟩ := C1.2.2.2.1
  have n7 := ok.1.2
  have n2 := ok.1.1
  have t4 := C1.k4
  have p8 := C1.2.2.2.2.2.2.2.2.2.2
  have e23 := C1.2.2.2.2.2.2.1
  unfold m_X12_readLikely mLikely
  rw [ck_e r_isO, bd_e e1, bd_e C1.kind]
  unfold mNum
  by_cases k3 : tK (nxT B n R t) = 3
  · obtain ⟨v8, v100⟩ := C1.v100 k3
    rw [if_pos k3, if_pos (show nI (tK (nxT B n R t)) = (3 : Int32) by rw [k3]; rfl), rI_8, bd_some, v8, rd15 (K := 0) (j := 0) (by omega) rfl, N.1, nI_m1 (by omega), bd_e (show m_X12_isIn F (nI (tV (nxT B n R t))) (1 : Int32) (nI (hN h - 1)) (ov g s1) = _ from risIn_e (lo := 1) (by omega) (by omega) (by omega))]
    generalize tV (nxT B n R t) = p at *
    by_cases w : 1 ≤ p ∧ p ≤ hN h - 1
    · rw [if_pos w, if_pos w, if_neg (show ¬ (1 : Int32) = 0 by decide), rI_23, bd_some, e23, bd_some, bd_e (has_e F _ (by omega) (by omega))]
      show RRl B n R s0 g lc _ (if pt.testBit p = true then _ else _)
      cases e : pt.testBit p
      · have e2 : nI pt ||| ((1 : Int32) <<< (nI p &&& 31)) = nI (pt ||| 2 ^ p) := by
          rw [show (1 : Int32) = nI 1 from rfl, nI_shl (by omega) (by rw [Nat.one_mul]; exact Nat.pow_lt_pow_right (by decide) (by omega)), Nat.one_mul, nI_or]
        have l8 : pt ||| 2 ^ p < 256 := Nat.or_lt_two_pow (n := 8) p8 (Nat.pow_lt_pow_right (by decide) (by omega))
        rw [if_pos (show (if false = true then (1 : Int32) else 0) = 0 by decide), if_neg (show ¬ false = true by decide), bd_some, bd_some, e2, wI_23, bd_some, rI_8, bd_some, sI_o (by decide), v8, ck_e r_isO]
        have C2 : RSt B n R s0 (uI s1 23 (nI (pt ||| 2 ^ p))) h (nxT B n R t) lc (pt ||| 2 ^ p) := by
          obtain ⟨c1, c2, ⟨T, i⟩, c3, c4, c6, c7, c8, c9, c10, -⟩ := C1
          exact ⟨c1.trans (Cg.uI (by decide)), c2, ⟨T.cg (I := [23]) (A := []) (L := []) (Cg.uI (by decide)) (by decide), i⟩, c3, c4, by rw [sI_o (by decide)]; exact c6, by rw [sI_uI, if_pos rfl], trivial, c9, c10, l8⟩
        obtain ⟨s3, e3, C3, -⟩ := rgo_s (F := F) (g := g) hF C2 (by omega)
        rw [bd_e e3, ck_e r_isO]
        rcases rnum_s (F := F) (g := g) hF C3 (lo := 0) (hi := 9) (L := 0) (H := 9) (by decide) (by decide) rfl rfl with ⟨q, s5, j1, j2, j3⟩ | ⟨v, s5, j1, j2, j3, j4, j5, j6, C5, j7, j8⟩
        · unfold mNum at j1
          rw [j1, bd2_e j2, if_pos rfl, ck_e (by decide)]
          exact Or.inl ⟨q, s5, rfl, rfl, j3⟩
        · unfold mNum at j1
          rw [j1, bd2_e j2, if_neg (by decide), rR_15, bd_some, rI_13, bd_some, j7, wr15 (j := 102 + (p - 1)) (by omega) (by rw [show (102 : Int32) = nI 102 from rfl, nI_add, nI_m1 (by omega)]; congr 1; omega), ck_e (by decide)]
          obtain ⟨N5, ok5⟩ := C5.2.2.2.1
          exact Or.inr ⟨_, _, _, _, rfl, rfl, C5.hs (Cg.uA (by decide)) (N5.stW' ok (by omega) (by rw [uA_v, if_pos rfl]) (fun j q => by rw [uA_v, if_neg q])) (ok.stW j4) C5.2.2.2.2.1.1 C5.2.2.2.2.1.2⟩
      · rw [if_neg (show ¬ (if true = true then (1 : Int32) else 0) = 0 by decide), if_pos (show true = true from rfl)]
        obtain ⟨st', i1, i2⟩ := rbad (F := F) (g := g) C1 (k := 3) (K := 3) (by decide) (by decide) rfl (by omega)
        exact Or.inl ⟨_, st', rfl, i1, i2⟩
    · rw [if_neg w, if_neg w, if_pos rfl]
      obtain ⟨st', i1, i2⟩ := rbad (F := F) (g := g) C1 (k := 2) (K := 2) (by decide) (by decide) rfl (by omega)
      exact Or.inl ⟨_, st', rfl, i1, i2⟩
  · rw [if_neg k3, if_neg (show ¬ nI (tK (nxT B n R t)) = (3 : Int32) from fun e => k3 ((nI_eq (b := 3) (by omega) (by omega)).mp e))]
    obtain ⟨st', i1, i2⟩ := rbad (F := F) (g := g) C1 (k := 1) (K := 1) (by decide) (by decide) rfl (fun _ => rfl)
    exact Or.inl ⟨_, st', rfl, i1, i2⟩
theorem rlines_s (hF : 742 ≤ F) (C : RSt B n R s0 st h t lc pt) (k : tK t = 2) (l : lcI lc h) : RRd B n R s0 g lc pt (m_X12_readLines F (some 179) (ov g st)) (mLines B n R h t lc) := by
  have e22 := C.2.2.2.2.2.1
  unfold m_X12_readLines mLines
  rw [rI_22, bd_some, e22]
  cases lc
  · obtain ⟨c1, c2, c3⟩ := l rfl
    rw [if_pos (show (if false = true then (1 : Int32) else 0) = 0 by decide), if_neg (show ¬ false = true by decide)]
    obtain ⟨s1, e1, C1, -⟩ := rgo_s (F := F) (g := g) hF C (by omega)
    rw [ck_e r_isO, bd_e e1, ck_e r_isO]
    rcases rnum_s (F := F) (g := g) hF C1 (lo := 2) (hi := 7) (L := 2) (H := 7) (by decide) (by decide) rfl rfl with ⟨q, s5, j1, j2, j3⟩ | ⟨v, s5, j1, j2, j3, j4, j5, j6, C5, j7, j8⟩
    · rw [j1, bd2_e j2, if_pos rfl, ck_e (by decide)]
      exact Or.inl ⟨q, s5, rfl, rfl, j3⟩
    · rw [j1, bd2_e j2, if_neg (by decide), rR_15, bd_some, rI_13, bd_some, j7, wr15 (K := 0) (j := 0) (by omega) rfl, ck_e (by decide)]
      obtain ⟨N5, ok5⟩ := C5.2.2.2.1
      exact Or.inr ⟨_, _, _, rfl, rfl, C5.hs (Cg.uA (by decide)) (N5.stN'' (by rw [uA_v, if_pos rfl]) (fun j q => by rw [uA_v, if_neg q])) (ok5.stN j3 j4 c1 c2 c3) C5.2.2.2.2.1.1 C5.2.2.2.2.1.2⟩
  · rw [if_neg (show ¬ (if true = true then (1 : Int32) else 0) = 0 by decide), if_pos (show true = true from rfl)]
    obtain ⟨st', i1, i2⟩ := rbad (F := F) (g := g) C (k := 3) (K := 3) (by decide) (by decide) rfl (by omega)
    exact Or.inl ⟨_, st', rfl, i1, i2⟩
end RREAD4
