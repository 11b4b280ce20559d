/-! woven -/
variable {sk : Nat}
/-- how many pieces, from a place on -/
def wvR (A B C : List Nat) : Nat → Nat → Nat → Int32
  | 0, _, n => nI n
  | d + 1, i, n => if C.length ≤ i then nI n else if i < max (pcE A C (C.length - i) i 0) (pcE B C (C.length - i) i 0) then wvR A B C d (max (pcE A C (C.length - i) i 0) (pcE B C (C.length - i) i 0)) (n + 1) else -1
theorem pcE_b (A C : List Nat) : ∀ d i p, i ≤ pcE A C d i p ∧ pcE A C d i p ≤ i + d
  | 0, i, _ => ⟨Nat.le_refl _, Nat.le_refl _⟩
  | d + 1, i, p => by
    have h := pcE_b A C d (i + 1) (A.idxOf (C.getD i 0) + 1)
    unfold pcE
    split
    · omega
    · omega
theorem imax_n {a b : Nat} (ha : a < 2 ^ 31) (hb : b < 2 ^ 31) : imax (nI a) (nI b) = nI (max a b) := by
  unfold imax
  by_cases q : a < b
  · rw [if_pos (nI_lt q hb), Nat.max_eq_right (by omega)]
  · rw [if_neg (nI_nlt (by omega) ha), Nat.max_eq_left (by omega)]
section C16
variable {F : Nat} {g : Hp} {st : RS} {h : HS} {f : Hp}
theorem cwoven_L {a b c : Nat} {na nb nc : Int64} {A B C : List Nat} (hA : okL A) (hB : okL B) (hC : okL C) (ha : f a = some (.inl (0, cC na A))) (hb : f b = some (.inl (0, cC nb B))) (hc : f c = some (.inl (0, cC nc C))) (hF : 8 ≤ F) : ∀ (d k z i n : Nat), k + d = 7 → d < z → i ≤ C.length → n ≤ k → m_X11_woven_L57 F z (some a) (some b) (some c) (nI n) (nI i) (nI k) f = some (wvR A B C d i n) := by
  have h7 := okL_len hC
  intro d
  induction d with
  | zero =>
    intro k z i n hk hz hi hn
    obtain ⟨z, rfl⟩ : ∃ j, z = j + 1 := ⟨z - 1, by omega⟩
    show m_X11_woven_b57 F _ _ _ _ _ _ _ _ = _
    unfold m_X11_woven_b57
    rw [if_pos (show (7 : Int32) ≤ nI k from nI_le (a := 7) (by omega) (by omega))]
    rfl
  | succ d ih =>
    intro k z i n hk hz hi hn
    obtain ⟨z, rfl⟩ : ∃ j, z = j + 1 := ⟨z - 1, by omega⟩
    have p1 := pcE_b A C (C.length - i) i 0
    have p2 := pcE_b B C (C.length - i) i 0
    show m_X11_woven_b57 F _ _ _ _ _ _ _ _ = some (if C.length ≤ i then nI n else if i < max (pcE A C (C.length - i) i 0) (pcE B C (C.length - i) i 0) then wvR A B C d (max (pcE A C (C.length - i) i 0) (pcE B C (C.length - i) i 0)) (n + 1) else -1)
    unfold m_X11_woven_b57
    rw [if_neg (show ¬ (7 : Int32) ≤ nI k from nI_ge (b := 7) (by omega) (by omega)), bd_e (gI_e hc rfl)]
    by_cases q : C.length ≤ i
    · rw [if_pos (nI_le q (by omega)), if_pos q]
    · rw [if_neg (nI_ge (by omega) (by omega)), if_neg q, ck_e (isO_e ha), bd_e (pieceEnd_e hA hC ha hc hF hi), ck_e (isO_e hb), bd_e (pieceEnd_e hB hC hb hc hF hi), nm_e2, imax_n (by omega) (by omega)]
      by_cases w : i < max (pcE A C (C.length - i) i 0) (pcE B C (C.length - i) i 0)
      · rw [if_pos (nI_lt w (by omega)), if_pos w, nm_e2, nm_e2, nI_1, nI_1]
        exact ih (k + 1) z _ (n + 1) (by omega) (by omega) (by omega) (by omega)
      · rw [if_neg (nI_nlt (by omega) (by omega)), if_neg w]
theorem rreach_L (N : NW (sA st 14) h) (ok : okH h) {c : Nat} (hc : c < (hC h).length) {A : List Nat} (hA : okL A) (pa : PL (sA st 26) A) {i0 : Nat} : ∀ (d i p z : Nat), i + d = (hC h)[c].2.length → d < z → (i = i0 ∧ p = 0 ∨ i0 < i ∧ (hC h)[c].2.getD (i - 1) 0 ∈ A ∧ p = A.idxOf ((hC h)[c].2.getD (i - 1) 0) + 1) → m_X12_reaches_L12 F z (some 179) (nI c) (nI i0) (nI i) (ov g st) = some (nI (pcE A (hC h)[c].2 d i p), ov g st) := by
  have h10 := ok.2.1
  obtain ⟨-, hC', hC2, -⟩ := ok.2.2.1 _ (List.getElem_mem hc)
  have l7 := okL_len hC'
  intro d
  induction d with
  | zero =>
    intro i p z hi hz hp
    obtain ⟨z, rfl⟩ : ∃ j, z = j + 1 := ⟨z - 1, by omega⟩
    show m_X12_reaches_b12 F _ _ _ _ _ _ = _
    unfold m_X12_reaches_b12
    rw [ck_e r_isO, bd_e (rsizeOf_e N ok hc), if_pos (nI_le (by omega) (by omega))]
    rfl
  | succ d ih =>
    intro i p z hi hz hp
    obtain ⟨z, rfl⟩ : ∃ j, z = j + 1 := ⟨z - 1, by omega⟩
    have il : i < (hC h)[c].2.length := by omega
    have l1 := hC'.1 _ (List.getElem_mem il)
    have e0 : (hC h)[c].2.getD i 0 = (hC h)[c].2[i] := getD_e il
    show m_X12_reaches_b12 F _ _ _ _ _ _ = some (nI (if (hC h)[c].2.getD i 0 ∈ A ∧ p ≤ A.idxOf ((hC h)[c].2.getD i 0) then pcE A (hC h)[c].2 d (i + 1) (A.idxOf ((hC h)[c].2.getD i 0) + 1) else i), ov g st)
    unfold m_X12_reaches_b12
    rw [ck_e r_isO, bd_e (rsizeOf_e N ok hc), if_neg (nI_ge il (by omega)), rR_26, bd_some, ck_e r_isO, bd_e (rlineOf_e N ok hc il), rE_26 (by omega), bd_some, pa _ l1, e0]
    by_cases q : (hC h)[c].2[i] ∈ A
    · have x1 := idx7 hA q
      rw [pl_yes q, if_neg (nI_nm1 (by omega))]
      have nxt := ih (i + 1) (A.idxOf (hC h)[c].2[i] + 1) z (by omega) (by omega) (Or.inr ⟨by omega, by rw [Nat.add_sub_cancel, e0]; exact q, by rw [Nat.add_sub_cancel, e0]⟩)
      rcases hp with ⟨hp, rfl⟩ | ⟨h1, h2, h3⟩
      · rw [if_pos (by rw [hp]), nm_e2, nI_1, nxt, if_pos ⟨q, Nat.zero_le _⟩]
      · have i1l : i - 1 < (hC h)[c].2.length := by omega
        have e1 : (hC h)[c].2.getD (i - 1) 0 = (hC h)[c].2[i - 1] := getD_e i1l
        rw [e1] at h2 h3
        have l2 := hC'.1 _ (List.getElem_mem i1l)
        have x2 := idx7 hA h2
        rw [if_neg (fun e => by have := (nI_eq (by omega) (by omega)).mp e; omega)]
        simp only [bd_some]
        rw [ck_e r_isO, bd_e (rlineOf_e N ok hc il), rE_26 (by omega), bd_some, pa _ l1, ck_e r_isO, nI_m1 (by omega), bd_e (rlineOf_e N ok hc i1l), rE_26 (by omega), bd_some, pa _ l2, pl_yes q, pl_yes h2]
        by_cases w : p ≤ A.idxOf (hC h)[c].2[i]
        · rw [if_neg (nI_ge (by omega) (by omega)), nm_e2, nI_1, nxt, if_pos ⟨q, w⟩]
        · rw [if_pos (nI_le (by omega) (by omega)), if_neg (fun e => w e.2)]
    · rw [pl_no q, if_pos rfl, if_neg (fun e => q e.1)]
theorem rreach_e (hF : 8 ≤ F) (N : NW (sA st 14) h) (ok : okH h) {c a i : Nat} (hc : c < (hC h).length) (ha : a < (hC h).length) (hi : i ≤ (hC h)[c].2.length) : ∃ st', m_X12_reaches F (some 179) (nI c) (nI i) (nI a) (ov g st) = some (nI (pcE (hC h)[a].2 (hC h)[c].2 ((hC h)[c].2.length - i) i 0), ov g st') ∧ Rs [26] st st' := by
  obtain ⟨-, hA, -, -⟩ := ok.2.2.1 _ (List.getElem_mem ha)
  obtain ⟨-, hC', -, -⟩ := ok.2.2.1 _ (List.getElem_mem hc)
  have l7 := okL_len hC'
  obtain ⟨s1, e1, r1, pa⟩ := rcopy26 (F := F) (g := g) hF N ok ha
  refine ⟨s1, ?_, r1⟩
  unfold m_X12_reaches
  rw [rR_26, bd_some, ck_e r_isO, bd_e e1]
  exact rreach_L (F := F) (g := g) (by rw [r1.A (by decide)]; exact N) ok hc hA pa _ i 0 F (by omega) (by omega) (Or.inl ⟨rfl, rfl⟩)
theorem rwoven_L (hF : 8 ≤ F) (N : NW (sA st 14) h) (ok : okH h) {a b c : Nat} (ha : a < (hC h).length) (hb : b < (hC h).length) (hc : c < (hC h).length) : ∀ (d i n z : Nat) (st' : RS), (hC h)[c].2.length ≤ i + d → i ≤ (hC h)[c].2.length → d < z → Rs [26] st st' → ∃ st'', m_X12_woven_L42 F z (some 179) (nI a) (nI b) (nI c) (nI i) (nI n) (ov g st') = some (wvR (hC h)[a].2 (hC h)[b].2 (hC h)[c].2 d i n, ov g st'') ∧ Rs [26] st st'' := by
  obtain ⟨-, hC', -, -⟩ := ok.2.2.1 _ (List.getElem_mem hc)
  have l7 := okL_len hC'
  intro d
  induction d with
  | zero =>
    intro i n z st' hd hi hz C
    obtain ⟨z, rfl⟩ : ∃ j, z = j + 1 := ⟨z - 1, by omega⟩
    have N' : NW (sA st' 14) h := by rw [C.A (by decide)]; exact N
    refine ⟨st', ?_, C⟩
    show m_X12_woven_b42 F _ _ _ _ _ _ _ _ = _
    unfold m_X12_woven_b42
    rw [ck_e r_isO, bd_e (rsizeOf_e N' ok hc), if_pos (nI_le (by omega) (by omega))]
    rfl
  | succ d ih =>
    intro i n z st' hd hi hz C
    obtain ⟨z, rfl⟩ : ∃ j, z = j + 1 := ⟨z - 1, by omega⟩
    have N' : NW (sA st' 14) h := by rw [C.A (by decide)]; exact N
    by_cases q : (hC h)[c].2.length ≤ i
    · refine ⟨st', ?_, C⟩
      show m_X12_woven_b42 F _ _ _ _ _ _ _ _ = _
      unfold m_X12_woven_b42 wvR
      rw [ck_e r_isO, bd_e (rsizeOf_e N' ok hc), if_pos (nI_le q (by omega)), if_pos q]
    · obtain ⟨s1, e1, r1⟩ := rreach_e (F := F) (g := g) hF N' ok hc ha hi
      have N1 : NW (sA s1 14) h := by rw [r1.A (by decide)]; exact N'
      obtain ⟨s2, e2, r2⟩ := rreach_e (F := F) (g := g) hF N1 ok hc hb hi
      have p1 := pcE_b (hC h)[a].2 (hC h)[c].2 ((hC h)[c].2.length - i) i 0
      have p2 := pcE_b (hC h)[b].2 (hC h)[c].2 ((hC h)[c].2.length - i) i 0
      generalize hx : pcE (hC h)[a].2 (hC h)[c].2 ((hC h)[c].2.length - i) i 0 = x at *
      generalize hy : pcE (hC h)[b].2 (hC h)[c].2 ((hC h)[c].2.length - i) i 0 = y at *
      have em : (if nI x ≤ nI y then m_X12_woven_B86 F (m_X12_woven_L42 F z) (some 179) (nI a) (nI b) (nI c) (nI i) (nI n) (nI y) (ov g s2) else m_X12_woven_B86 F (m_X12_woven_L42 F z) (some 179) (nI a) (nI b) (nI c) (nI i) (nI n) (nI x) (ov g s2)) = m_X12_woven_B86 F (m_X12_woven_L42 F z) (some 179) (nI a) (nI b) (nI c) (nI i) (nI n) (nI (max x y)) (ov g s2) := by
        by_cases w : x ≤ y
        · rw [if_pos (nI_le w (by omega)), Nat.max_eq_right w]
        · rw [if_neg (nI_ge (by omega) (by omega)), Nat.max_eq_left (by omega)]
      have st1 : m_X12_woven_L42 F (z + 1) (some 179) (nI a) (nI b) (nI c) (nI i) (nI n) (ov g st') = m_X12_woven_B86 F (m_X12_woven_L42 F z) (some 179) (nI a) (nI b) (nI c) (nI i) (nI n) (nI (max x y)) (ov g s2) := by
        show m_X12_woven_b42 F _ _ _ _ _ _ _ _ = _
        unfold m_X12_woven_b42
        rw [ck_e r_isO, bd_e (rsizeOf_e N' ok hc), if_neg (nI_ge (by omega) (by omega)), ck_e r_isO, bd2_e e1, ck_e r_isO, bd2_e e2]
        exact em
      have C2 := C.trans (r1.trans r2)
      have un : wvR (hC h)[a].2 (hC h)[b].2 (hC h)[c].2 (d + 1) i n = if i < max x y then wvR (hC h)[a].2 (hC h)[b].2 (hC h)[c].2 d (max x y) (n + 1) else -1 := by
        show (if (hC h)[c].2.length ≤ i then nI n else if i < max (pcE (hC h)[a].2 (hC h)[c].2 ((hC h)[c].2.length - i) i 0) (pcE (hC h)[b].2 (hC h)[c].2 ((hC h)[c].2.length - i) i 0) then wvR (hC h)[a].2 (hC h)[b].2 (hC h)[c].2 d (max (pcE (hC h)[a].2 (hC h)[c].2 ((hC h)[c].2.length - i) i 0) (pcE (hC h)[b].2 (hC h)[c].2 ((hC h)[c].2.length - i) i 0)) (n + 1) else -1) = _
        rw [if_neg q, hx, hy]
      rw [st1, un]
      unfold m_X12_woven_B86
      by_cases w : i < max x y
      · obtain ⟨s3, i1, i2⟩ := ih (max x y) (n + 1) z s2 (by omega) (by omega) (by omega) C2
        refine ⟨s3, ?_, i2⟩
        rw [if_neg (fun e => by have := (nI_eq (by omega) (by omega)).mp e; omega), if_pos w, nm_e2, nI_1]
        exact i1
      · refine ⟨s2, ?_, C2⟩
        rw [if_pos (by rw [show max x y = i by omega]), if_neg w]
theorem k_woven (hF : 200 ≤ F) (a b c : Int32) : KR sk (m_X11_woven F (some 100) a b c) (m_X12_woven F (some 179) a b c) := by
  intro f n z st m C R
  obtain ⟨T, D, sT, sD, sX, tq, iq, S, K, -, ⟨H, ok, -⟩, -⟩ := C
  have h10 := ok.2.1
  have h7 := ok.1.2
  have any : ∀ x, ∃ y, m_X4_copyAt F (some T) x f = some y := fun x => by
    rcases outin (k := (hC (mH m)).length) (by omega) x with hi | ⟨j, hj, rfl⟩
    · exact ⟨_, copyAt_no H hi⟩
    · exact ⟨_, copyAt_yes H h10 hj⟩
  obtain ⟨ya, ea⟩ := any a
  obtain ⟨yb, eb⟩ := any b
  obtain ⟨yc, ec⟩ := any c
  have cl0 : m_X11_woven F (some 100) a b c f = if ya = none then some (-2) else if yb = none then some (-2) else if yc = none then some (-2) else m_X11_woven_L57 F F ya yb yc 0 0 0 f := by
    unfold m_X11_woven
    rw [bd_e (gR_s K rfl), ck_e (isO_e H.1), bd_e ea, bd_e (gR_s K rfl), ck_e (isO_e H.1), bd_e eb, bd_e (gR_s K rfl), ck_e (isO_e H.1), bd_e ec]
  have base : ∀ g, ∃ s1, m_X12_lay F (some 179) (ov g (uI st 0 0)) = some (ov g s1) ∧ RB s1 m := fun g => rbeg (F := F) (g := g) hF R 0
  rcases outin (k := (hC (mH m)).length) (by omega) a with ha | ⟨i, hi, rfl⟩
  · refine ⟨-2, ?_, fun g => ?_⟩
    · rw [cl0, if_pos (by rw [copyAt_no H ha] at ea; exact (Option.some.inj ea).symm)]
    · obtain ⟨s1, e1, B1⟩ := base g
      refine ⟨s1, ?_, B1.1⟩
      unfold m_X12_woven
      rw [wI_0, bd_some, ck_e r_isO, bd_e e1, ck_e r_isO, bd_e (risCopy_e B1.2.2.1 ok _), if_pos ha, if_pos rfl]
  · have ya' : ya = some (T + 13 + i) := by rw [copyAt_yes H h10 hi] at ea; exact (Option.some.inj ea).symm
    rcases outin (k := (hC (mH m)).length) (by omega) b with hb | ⟨j, hj, rfl⟩
    · refine ⟨-2, ?_, fun g => ?_⟩
      · rw [cl0, ya', if_neg (by simp), if_pos (by rw [copyAt_no H hb] at eb; exact (Option.some.inj eb).symm)]
      · obtain ⟨s1, e1, B1⟩ := base g
        refine ⟨s1, ?_, B1.1⟩
        unfold m_X12_woven
        rw [wI_0, bd_some, ck_e r_isO, bd_e e1, ck_e r_isO, bd_e (risCopy_e B1.2.2.1 ok _), if_neg (inin (by omega) hi), if_neg (by decide), ck_e r_isO, bd_e (risCopy_e B1.2.2.1 ok _), if_pos hb, if_pos rfl]
    · have yb' : yb = some (T + 13 + j) := by rw [copyAt_yes H h10 hj] at eb; exact (Option.some.inj eb).symm
      rcases outin (k := (hC (mH m)).length) (by omega) c with hc | ⟨k, hk, rfl⟩
      · refine ⟨-2, ?_, fun g => ?_⟩
        · rw [cl0, ya', if_neg (by simp), yb', if_neg (by simp), if_pos (by rw [copyAt_no H hc] at ec; exact (Option.some.inj ec).symm)]
        · obtain ⟨s1, e1, B1⟩ := base g
          refine ⟨s1, ?_, B1.1⟩
          unfold m_X12_woven
          rw [wI_0, bd_some, ck_e r_isO, bd_e e1, ck_e r_isO, bd_e (risCopy_e B1.2.2.1 ok _), if_neg (inin (by omega) hi), if_neg (by decide), ck_e r_isO, bd_e (risCopy_e B1.2.2.1 ok _), if_neg (inin (by omega) hj), if_neg (by decide), ck_e r_isO, bd_e (risCopy_e B1.2.2.1 ok _), if_pos hc, if_pos rfl]
      · have yc' : yc = some (T + 13 + k) := by rw [copyAt_yes H h10 hk] at ec; exact (Option.some.inj ec).symm
        obtain ⟨-, hA, -, -⟩ := ok.2.2.1 _ (List.getElem_mem hi)
        obtain ⟨-, hB, -, -⟩ := ok.2.2.1 _ (List.getElem_mem hj)
        obtain ⟨-, hCC, -, -⟩ := ok.2.2.1 _ (List.getElem_mem hk)
        have l7 := okL_len hCC
        refine ⟨wvR (hC (mH m))[i].2 (hC (mH m))[j].2 (hC (mH m))[k].2 7 0 0, ?_, fun g => ?_⟩
        · rw [cl0, ya', if_neg (by simp), yb', if_neg (by simp), yc', if_neg (by simp)]
          exact cwoven_L (F := F) hA hB hCC (H.copy hi) (H.copy hj) (H.copy hk) (by omega) 7 0 F 0 0 (by omega) (by omega) (Nat.zero_le _) (Nat.zero_le _)
        · obtain ⟨s1, e1, B1⟩ := base g
          obtain ⟨s2, e2, r2⟩ := rwoven_L (F := F) (g := g) (by omega) B1.2.2.1 ok hi hj hk 7 0 0 F s1 (by omega) (Nat.zero_le _) (by omega) (Rs.refl _ _)
          refine ⟨s2, ?_, (B1.cg (r2.cg.mono (by simp) (by decide) (by simp))).1⟩
          unfold m_X12_woven
          rw [wI_0, bd_some, ck_e r_isO, bd_e e1, ck_e r_isO, bd_e (risCopy_e B1.2.2.1 ok _), if_neg (inin (by omega) hi), if_neg (by decide), ck_e r_isO, bd_e (risCopy_e B1.2.2.1 ok _), if_neg (inin (by omega) hj), if_neg (by decide), ck_e r_isO, bd_e (risCopy_e B1.2.2.1 ok _), if_neg (inin (by omega) hk), if_neg (by decide)]
          exact e2
end C16
