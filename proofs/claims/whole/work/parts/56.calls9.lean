/-! the tape's COPIES: judge -/
variable {sk : Nat}
/-- the first place of a row of COPIES that isn't made from the one ahead -/
def jdR (mk : Nat → Bool) : Nat → Nat → Int32
  | 0, _ => 0
  | d + 1, i => if mk i then jdR mk d (i + 1) else nI i
section C10
variable {F : Nat} {g : Hp} {st : RS} {h : HS} {f : Hp} {T D sX s : Nat} {tl lf : Int32} {ll : Int64} {B : Nat → Nat}
theorem areC_L (K : KAt f T D sX tl lf ll) (P : TP f B) (H : HAt f T s h) (ok : okH h) {n : Nat} (hn : n ≤ 740) : ∀ (d i z : Nat), i + d = n → d < z → (∀ j, j < i → B j < (hC h).length) → (m_X11_areCopies_L2 F z (some 100) (nI n) (nI i) f = some 1 ∧ ∀ j, j < n → B j < (hC h).length) ∨ (m_X11_areCopies_L2 F z (some 100) (nI n) (nI i) f = some 0 ∧ ∃ j, j < n ∧ ¬ B j < (hC h).length) := by
  have h10 := ok.2.1
  intro d
  induction d with
  | zero =>
    intro i z hi hz hj
    obtain ⟨z, rfl⟩ : ∃ j, z = j + 1 := ⟨z - 1, by omega⟩
    refine Or.inl ⟨?_, fun j q => hj j (by omega)⟩
    show m_X11_areCopies_b2 F _ _ _ _ _ = _
    unfold m_X11_areCopies_b2
    rw [if_pos (nI_le (by omega) (by omega)), ck_e (by decide)]
  | succ d ih =>
    intro i z hi hz hj
    obtain ⟨z, rfl⟩ : ∃ j, z = j + 1 := ⟨z - 1, by omega⟩
    obtain ⟨t, t1, t2⟩ := id P
    have hb := (t2 i (by omega)).1
    show (m_X11_areCopies_b2 F _ _ _ _ _ = _ ∧ _) ∨ (m_X11_areCopies_b2 F _ _ _ _ _ = _ ∧ _)
    unfold m_X11_areCopies_b2
    rw [if_neg (nI_ge (by omega) (by omega)), ck_e (isO_e K), bd_e (byteAt_e K P (by omega)), bd_e (gR_s K rfl), bd_e (gI_e H.1 rfl)]
    by_cases q : B i < (hC h).length
    · rw [if_pos (nI_lt q (by omega)), nm_e2, nI_1]
      refine ih (i + 1) z (by omega) (by omega) (fun j h1 => ?_)
      by_cases e : j = i
      · rw [e]; exact q
      · exact hj j (by omega)
    · refine Or.inr ⟨?_, i, by omega, q⟩
      rw [if_neg (nI_nlt (by omega) (by omega)), ck_e (by decide)]
theorem areC_e (K : KAt f T D sX tl lf ll) (P : TP f B) (H : HAt f T s h) (ok : okH h) {n : Nat} (hn : n ≤ 740) (hF : 741 ≤ F) : (m_X11_areCopies F (some 100) (nI n) f = some 1 ∧ ∀ j, j < n → B j < (hC h).length) ∨ (m_X11_areCopies F (some 100) (nI n) f = some 0 ∧ ∃ j, j < n ∧ ¬ B j < (hC h).length) :=
  areC_L K P H ok hn n 0 F (by omega) (by omega) (fun _ q => absurd q (Nat.not_lt_zero _))
theorem cjudge_L (S : St4 f) (K : KAt f T D sX tl lf ll) (P : TP f B) (H : HAt f T s h) (ok : okH h) {n : Nat} (hn : n ≤ 740) (hB : ∀ j, j < n → B j < (hC h).length) {k : Nat} (hk : k < (hD h).length) : ∀ (d i z : Nat), i + d = n → 1 ≤ i → d < z → m_X11_judge_L36 F z (some 100) (nI n) (some (T + 23 + k)) (nI i) f = some (jdR (fun i => mkB h k (cL h (B (i - 1))) (cL h (B i))) d i, f) := by
  have h10 := ok.2.1
  obtain ⟨lim, hdk, -⟩ := H.desk hk
  intro d
  induction d with
  | zero =>
    intro i z hi h1 hz
    obtain ⟨z, rfl⟩ : ∃ j, z = j + 1 := ⟨z - 1, by omega⟩
    show m_X11_judge_b36 F _ _ _ _ _ _ = _
    unfold m_X11_judge_b36
    rw [if_pos (nI_le (by omega) (by omega))]
    rfl
  | succ d ih =>
    intro i z hi h1 hz
    obtain ⟨z, rfl⟩ : ∃ j, z = j + 1 := ⟨z - 1, by omega⟩
    have b1 := hB (i - 1) (by omega)
    have b2 := hB i (by omega)
    show m_X11_judge_b36 F _ _ _ _ _ _ = some (if mkB h k (cL h (B (i - 1))) (cL h (B i)) then _ else _, f)
    unfold m_X11_judge_b36
    rw [if_neg (nI_ge (by omega) (by omega)), bd_e (gR_s K rfl), ck_e (isO_e K), nI_m1 h1, bd_e (byteAt_e K P (by omega)), ck_e (isO_e H.1), bd_e (copyAt_yes H h10 b1), bd_e (gR_s K rfl), ck_e (isO_e K), bd_e (byteAt_e K P (by omega)), ck_e (isO_e H.1), bd_e (copyAt_yes H h10 b2), if_neg (by simp), if_neg (by simp), ck_e (isO_e hdk), bd_e (cmake_e S H ok b1 b2 hk)]
    by_cases q : mkB h k (cL h (B (i - 1))) (cL h (B i)) = true
    · rw [if_pos q, if_pos q, if_neg (by decide), nm_e2, nI_1]
      exact ih (i + 1) z (by omega) (by omega) (by omega)
    · rw [if_neg q, if_neg q, if_pos rfl]
theorem rjudge_31 (N : NW (sA st 14) h) (ok : okH h) (P : ∀ i, i < 740 → sA st 1 i = nI (B i) ∧ B i < 256) {n : Nat} (hn : n ≤ 740) {v1 : Int32} : ∀ (d i z : Nat), i + d = n → d < z → ((∀ j, i ≤ j → j < n → B j < (hC h).length) → m_X12_judge_L31 F z (some 179) v1 (nI n) (nI i) (ov g st) = m_X12_judge_L59 F F (some 179) v1 (nI n) 1 (ov g st)) ∧ ((∃ j, i ≤ j ∧ j < n ∧ ¬ B j < (hC h).length) → m_X12_judge_L31 F z (some 179) v1 (nI n) (nI i) (ov g st) = some (-1, ov g st)) := by
  have h10 := ok.2.1
  intro d
  induction d with
  | zero =>
    intro i z hi hz
    obtain ⟨z, rfl⟩ : ∃ j, z = j + 1 := ⟨z - 1, by omega⟩
    refine ⟨fun _ => ?_, fun ⟨j, q1, q2, _⟩ => by omega⟩
    show m_X12_judge_b31 F _ _ _ _ _ _ = _
    unfold m_X12_judge_b31
    rw [if_pos (nI_le (by omega) (by omega))]
  | succ d ih =>
    intro i z hi hz
    obtain ⟨z, rfl⟩ : ∃ j, z = j + 1 := ⟨z - 1, by omega⟩
    obtain ⟨p1, p2⟩ := P i (by omega)
    obtain ⟨i1, i2⟩ := ih (i + 1) z (by omega) (by omega)
    show (_ → m_X12_judge_b31 F _ _ _ _ _ _ = _) ∧ (_ → m_X12_judge_b31 F _ _ _ _ _ _ = _)
    unfold m_X12_judge_b31
    rw [if_neg (nI_ge (by omega) (by omega)), rR_1, bd_some, rE_1 (by omega), bd_some, p1, ck_e r_isO, bd_e (risCopy_e N ok _)]
    by_cases q : B i < (hC h).length
    · rw [if_neg (inin (by omega) q), if_neg (by decide), nm_e2, nI_1]
      refine ⟨fun w => i1 (fun j a b => w j (by omega) b), fun ⟨j, a, b, c⟩ => i2 ⟨j, ?_, b, c⟩⟩
      by_cases e : j = i
      · subst e; exact absurd q c
      · omega
    · rw [if_pos (Or.inr (nI_le (by omega) (by omega))), if_pos rfl]
      exact ⟨fun w => absurd (w i (Nat.le_refl _) (by omega)) q, fun _ => rfl⟩
theorem rjudge_59 (hF : 8 ≤ F) (N : NW (sA st 14) h) (ok : okH h) (P : ∀ i, i < 740 → sA st 1 i = nI (B i) ∧ B i < 256) {n : Nat} (hn : n ≤ 740) (hB : ∀ j, j < n → B j < (hC h).length) {k : Nat} (hk : k < (hD h).length) : ∀ (d i z : Nat) (st' : RS), i + d = n → 1 ≤ i → d < z → Rs [26, 27] st st' → ∃ st'', m_X12_judge_L59 F z (some 179) (nI k) (nI n) (nI i) (ov g st') = some (jdR (fun i => mkB h k (cL h (B (i - 1))) (cL h (B i))) d i, ov g st'') ∧ Rs [26, 27] st st'' := by
  intro d
  induction d with
  | zero =>
    intro i z st' hi h1 hz C
    obtain ⟨z, rfl⟩ : ∃ j, z = j + 1 := ⟨z - 1, by omega⟩
    refine ⟨st', ?_, C⟩
    show m_X12_judge_b59 F _ _ _ _ _ _ = _
    unfold m_X12_judge_b59
    rw [if_pos (nI_le (by omega) (by omega))]
    rfl
  | succ d ih =>
    intro i z st' hi h1 hz C
    obtain ⟨z, rfl⟩ : ∃ j, z = j + 1 := ⟨z - 1, by omega⟩
    have b1 := hB (i - 1) (by omega)
    have b2 := hB i (by omega)
    have N' : NW (sA st' 14) h := by rw [C.A (by decide)]; exact N
    obtain ⟨s1, e1, r1⟩ := rmake_e (F := F) (g := g) hF N' ok b1 b2 hk
    obtain ⟨s2, e2, r2⟩ := ih (i + 1) z s1 (by omega) (by omega) (by omega) (C.trans r1)
    have ha : sA st' 1 = sA st 1 := C.A (by decide)
    show ∃ st'', m_X12_judge_b59 F _ _ _ _ _ _ = some (if mkB h k (cL h (B (i - 1))) (cL h (B i)) then _ else _, _) ∧ _
    unfold m_X12_judge_b59
    rw [if_neg (nI_ge (by omega) (by omega)), rR_1, bd_some, nI_m1 h1, rE_1 (by omega), bd_some, bd_some, rE_1 (by omega), bd_some, ha, (P (i - 1) (by omega)).1, (P i (by omega)).1, ck_e r_isO, bd2_e e1]
    by_cases q : mkB h k (cL h (B (i - 1))) (cL h (B i)) = true
    · rw [if_pos q, if_pos q, if_neg (by decide), nm_e2, nI_1]
      exact ⟨s2, e2, r2⟩
    · rw [if_neg q, if_neg q, if_pos rfl]
      exact ⟨s1, rfl, C.trans r1⟩
theorem bytes_P {f : Hp} {B : Nat → Nat} (P : TP f B) {st : RS} {m : MS} (R : RI st m) (e : mB m = B) : ∀ i, i < 740 → sA st 1 i = nI (B i) ∧ B i < 256 := by
  obtain ⟨t, t1, t2⟩ := P
  intro i hi
  exact ⟨by rw [← e]; exact R.2.1.1 i hi, (t2 i hi).1⟩
theorem k_judge (hF : 5041 ≤ F) (d : Int32) : KW sk (m_X11_judge F (some 100) d) (m_X12_judge F (some 179) d) := by
  intro f n z st m C R
  obtain ⟨f', e1, C', fr⟩ := take_e (F := F) C
  obtain ⟨_, _, _, _, _, _, _, -, K0, ⟨-, t7, -⟩, -⟩ := C
  obtain ⟨T, D, sT, sD, sX, tq, iq, S, K, ⟨tp, -⟩, ⟨H, ok, -⟩, -⟩ := id C'
  have h10 : (hC (mH m)).length ≤ 10 := ok.2.1
  have h6 : (hD (mH m)).length ≤ 6 := ok.2.2.2.1
  unfold m_X11_judge
  rw [ck_e (isO_e K0), bd2_e e1, bd_e (gR_s K rfl), ck_e (isO_e H.1)]
  rcases outin (k := (hD (mH m)).length) (by omega) d with hd | ⟨k, hk, rfl⟩
  · refine ⟨-1, f', mt0 m, ?_, fun a h1 _ => fr a (by omega), C', fun g => ?_⟩
    · rw [bd_e (deskAt_no H hd), if_pos rfl]
    · obtain ⟨s1, q1, B1⟩ := rbeg (F := F) (g := g) (by omega) R 0
      obtain ⟨q2, B2⟩ := rtake_e (F := F) (g := g) B1
      refine ⟨_, ?_, B2.1⟩
      unfold m_X12_judge
      rw [wI_0, bd_some, ck_e r_isO, bd_e q1, ck_e r_isO, bd2_e q2]
      by_cases q : mT m < 2
      · rw [if_pos (show nI (mT m) < (2 : Int32) from nI_lt (b := 2) q (by omega))]
      · rw [if_neg (show ¬ nI (mT m) < (2 : Int32) from nI_nlt (b := 2) (by omega) (by omega)), ck_e r_isO, bd_e (risDesk_e B2.2.2.1 d), if_pos hd, if_pos rfl]
  · rw [bd_e (deskAt_yes H h6 hk), if_neg (by simp)]
    by_cases q : mT m < 2
    · refine ⟨-1, f', mt0 m, ?_, fun a h1 _ => fr a (by omega), C', fun g => ?_⟩
      · rw [if_pos (show nI (mT m) < (2 : Int32) from nI_lt (b := 2) q (by omega))]
      · obtain ⟨s1, q1, B1⟩ := rbeg (F := F) (g := g) (by omega) R 0
        obtain ⟨q2, B2⟩ := rtake_e (F := F) (g := g) B1
        refine ⟨_, ?_, B2.1⟩
        unfold m_X12_judge
        rw [wI_0, bd_some, ck_e r_isO, bd_e q1, ck_e r_isO, bd2_e q2, if_pos (show nI (mT m) < (2 : Int32) from nI_lt (b := 2) q (by omega))]
    · have nq : ¬ nI (mT m) < (2 : Int32) := nI_nlt (b := 2) (by omega) (by omega)
      have ref : ∀ v, (∀ g s2, RB s2 (mt0 m) → ∃ s3, m_X12_judge_L31 F F (some 179) (nI k) (nI (mT m)) 0 (ov g s2) = some (v, ov g s3) ∧ Rs [26, 27] s2 s3) → ∀ g, ∃ st', m_X12_judge F (some 179) (nI k) (ov g st) = some (v, ov g st') ∧ RI st' (mt0 m) := by
        intro v hv g
        obtain ⟨s1, q1, B1⟩ := rbeg (F := F) (g := g) (by omega) R 0
        obtain ⟨q2, B2⟩ := rtake_e (F := F) (g := g) B1
        obtain ⟨s3, q3, r3⟩ := hv g _ B2
        refine ⟨s3, ?_, (B2.cg (r3.cg.mono (by simp) (by decide) (by simp))).1⟩
        unfold m_X12_judge
        rw [wI_0, bd_some, ck_e r_isO, bd_e q1, ck_e r_isO, bd2_e q2, if_neg nq, ck_e r_isO, bd_e (risDesk_e B2.2.2.1 _), if_neg (inin (by omega) hk), if_neg (by decide)]
        exact q3
      rw [if_neg nq, ck_e (isO_e K)]
      rcases areC_e (F := F) K tp H ok t7 (by omega) with ⟨q1, q2⟩ | ⟨q1, j, q2, q3⟩
      · refine ⟨jdR (fun i => mkB (mH m) k (cL (mH m) (mB m (i - 1))) (cL (mH m) (mB m i))) (mT m - 1) 1, f', mt0 m, ?_, fun a h1 _ => fr a (by omega), C', ref _ (fun g s2 B2 => ?_)⟩
        · rw [bd_e q1, if_neg (by decide)]
          exact cjudge_L (F := F) S K tp H ok t7 q2 hk (mT m - 1) 1 F (by omega) (by omega) (by omega)
        · obtain ⟨s3, e3, r3⟩ := rjudge_59 (F := F) (g := g) (by omega) B2.2.2.1 ok (bytes_P tp B2.1 rfl) t7 q2 hk (mT m - 1) 1 F s2 (by omega) (by omega) (by omega) (Rs.refl _ _)
          refine ⟨s3, ?_, r3⟩
          rw [← e3]
          exact (rjudge_31 (F := F) (g := g) B2.2.2.1 ok (bytes_P tp B2.1 rfl) t7 (mT m) 0 F (by omega) (by omega)).1 (fun j _ b => q2 j b)
      · refine ⟨-1, f', mt0 m, ?_, fun a h1 _ => fr a (by omega), C', ref _ (fun g s2 B2 => ⟨s2, ?_, Rs.refl _ _⟩)⟩
        · rw [bd_e q1, if_pos rfl]
        · exact (rjudge_31 (F := F) (g := g) B2.2.2.1 ok (bytes_P tp B2.1 rfl) t7 (mT m) 0 F (by omega) (by omega)).2 ⟨j, Nat.zero_le _, q2, q3⟩
end C10
