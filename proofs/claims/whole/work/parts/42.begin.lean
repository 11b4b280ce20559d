/-! how the reference's calls begin; the first, small calls -/
variable {sk : Nat}
def stdF (i : Nat) : Int32 := if i = 0 then 4 else if 102 ≤ i ∧ i < 109 then 1 else 0
theorem sI_o {st : RS} {k l : Nat} {x : Int32} (h : l ≠ k) : sI (uI st k x) l = sI st l := by rw [sI_uI, if_neg h]
section STD
variable {F : Nat} {g : Hp} {st : RS}
theorem wSt {k j : Nat} {x : Int32} (hk : k = 14 ∨ k = 15) (hj : j < 170) : stI (ov g st) 1 (some (167 + k)) (nI j) x = some (ov g (uA st k j x)) := by
  rcases hk with rfl | rfl
  · exact wE_14 (by omega)
  · exact wE_15 hj
theorem std_25 {k : Nat} (hk : k = 14 ∨ k = 15) : ∀ (d p z : Nat) (st' : RS), p + d = 7 → d < z → Rs [k] st st' → (∀ i, i < 170 → sA st' k i = if i = 0 then 4 else if 102 ≤ i ∧ i < 102 + p then 1 else 0) → (∀ i, 170 ≤ i → sA st' k i = sA st k i) →
    ∃ st'', m_X12_standard_L25 F z (some (167 + k)) (nI p) (ov g st') = some (ov g st'') ∧ Rs [k] st st'' ∧ (∀ i, i < 170 → sA st'' k i = stdF i) ∧ ∀ i, 170 ≤ i → sA st'' k i = sA st k i := by
  intro d
  induction d with
  | zero =>
    intro p z st' hp hz C h1 h2
    obtain ⟨z, rfl⟩ : ∃ j, z = j + 1 := ⟨z - 1, by omega⟩
    refine ⟨st', ?_, C, fun i hi => ?_, h2⟩
    · show m_X12_standard_b25 F _ _ _ _ = _
      unfold m_X12_standard_b25
      rw [if_pos (show (7 : Int32) ≤ nI p from nI_le (a := 7) (by omega) (by omega))]
    · rw [h1 i hi, show p = 7 by omega]; rfl
  | succ d ih =>
    intro p z st' hp hz C h1 h2
    obtain ⟨z, rfl⟩ : ∃ j, z = j + 1 := ⟨z - 1, by omega⟩
    have e2 : (102 : Int32) + nI p = nI (102 + p) := by rw [← nI_add]; rfl
    obtain ⟨st'', i1, i2⟩ := ih (p + 1) z (uA st' k (102 + p) 1) (by omega) (by omega) (C.trans (Rs.uA (by simp))) (fun i hi => by
      rw [sA_uA, if_pos rfl]
      by_cases e : i = 102 + p
      · rw [e, upd_s, if_neg (by omega), if_pos (by omega)]
      · rw [upd_n e, h1 i hi]
        by_cases e0 : i = 0
        · rw [if_pos e0, if_pos e0]
        · rw [if_neg e0, if_neg e0]
          by_cases e1 : 102 ≤ i ∧ i < 102 + p
          · rw [if_pos e1, if_pos (by omega)]
          · rw [if_neg e1, if_neg (by omega)]) (fun i hi => by rw [sA_uA, if_pos rfl, upd_n (by omega)]; exact h2 i hi)
    refine ⟨st'', ?_, i2⟩
    show m_X12_standard_b25 F _ _ _ _ = _
    unfold m_X12_standard_b25
    rw [if_neg (show ¬ (7 : Int32) ≤ nI p from nI_ge (b := 7) (by omega) (by omega)), e2, wSt hk (by omega), bd_some, nm_e2, nI_1]
    exact i1
theorem std_2 (hF : 8 ≤ F) {k : Nat} (hk : k = 14 ∨ k = 15) : ∀ (d j z : Nat) (st' : RS), j + d = 170 → d < z → Rs [k] st st' → (∀ i, i < j → sA st' k i = 0) → (∀ i, 170 ≤ i → sA st' k i = sA st k i) →
    ∃ st'', m_X12_standard_L2 F z (some (167 + k)) (nI j) (ov g st') = some (ov g st'') ∧ Rs [k] st st'' ∧ (∀ i, i < 170 → sA st'' k i = stdF i) ∧ ∀ i, 170 ≤ i → sA st'' k i = sA st k i := by
  intro d
  induction d with
  | zero =>
    intro j z st' hj hz C h1 h2
    obtain ⟨z, rfl⟩ : ∃ j, z = j + 1 := ⟨z - 1, by omega⟩
    obtain ⟨st'', i1, i2⟩ := std_25 (F := F) (g := g) (st := st) hk 7 0 F (uA st' k 0 4) (by omega) (by omega) (C.trans (Rs.uA (by simp))) (fun i hi => by
      rw [sA_uA, if_pos rfl]
      by_cases e : i = 0
      · rw [e, upd_s, if_pos rfl]
      · rw [upd_n e, h1 i (by omega), if_neg e, if_neg (by omega)]) (fun i hi => by rw [sA_uA, if_pos rfl, upd_n (by omega)]; exact h2 i hi)
    refine ⟨st'', ?_, i2⟩
    show m_X12_standard_b2 F _ _ _ _ = _
    unfold m_X12_standard_b2
    rw [if_pos (show (170 : Int32) ≤ nI j from nI_le (a := 170) (by omega) (by omega)), show (0 : Int32) = nI 0 from rfl, wSt hk (by omega), bd_some]
    exact i1
  | succ d ih =>
    intro j z st' hj hz C h1 h2
    obtain ⟨z, rfl⟩ : ∃ j, z = j + 1 := ⟨z - 1, by omega⟩
    obtain ⟨st'', i1, i2⟩ := ih (j + 1) z (uA st' k j 0) (by omega) (by omega) (C.trans (Rs.uA (by simp))) (fun i hi => by
      rw [sA_uA, if_pos rfl]
      by_cases e : i = j
      · rw [e, upd_s]
      · rw [upd_n e, h1 i (by omega)]) (fun i hi => by rw [sA_uA, if_pos rfl, upd_n (by omega)]; exact h2 i hi)
    refine ⟨st'', ?_, i2⟩
    show m_X12_standard_b2 F _ _ _ _ = _
    unfold m_X12_standard_b2
    rw [if_neg (show ¬ (170 : Int32) ≤ nI j from nI_ge (b := 170) (by omega) (by omega)), wSt hk (by omega), bd_some, nm_e2, nI_1]
    exact i1
theorem std_e (hF : 200 ≤ F) {k : Nat} (hk : k = 14 ∨ k = 15) : ∃ st'', m_X12_standard F (some (167 + k)) (ov g st) = some (ov g st'') ∧ Rs [k] st st'' ∧ (∀ i, i < 170 → sA st'' k i = stdF i) ∧ ∀ i, 170 ≤ i → sA st'' k i = sA st k i :=
  std_2 (F := F) (g := g) (st := st) (by omega) hk 170 0 F st (by omega) (by omega) (Rs.refl _ _) (fun _ h => absurd h (Nat.not_lt_zero _)) (fun _ _ => rfl)
theorem NW_std {a : Nat → Int32} (h : ∀ i, i < 170 → a i = stdF i) : NW a h00 := by
  refine ⟨by rw [h _ (by omega)]; rfl, by rw [h _ (by omega)]; rfl, by rw [h _ (by omega)]; rfl, by rw [h _ (by omega)]; rfl, by rw [h _ (by omega)]; rfl, fun c hc => absurd hc (Nat.not_lt_zero _), fun c hc => absurd hc (Nat.not_lt_zero _), fun p hp => ?_, fun c hc => absurd hc (Nat.not_lt_zero _), fun c hc => absurd hc (Nat.not_lt_zero _)⟩
  rw [h _ (by omega)]
  unfold stdF
  rw [if_neg (by omega), if_pos (by omega)]
  rfl
theorem ok_h00 : okH h00 := ⟨by decide, by decide, fun c hc => absurd hc List.not_mem_nil, by decide, fun c hc => absurd hc List.not_mem_nil, fun i => by show 1 ≤ 9; decide, by decide, fun c hc => absurd hc List.not_mem_nil, by decide, fun c hc => absurd hc List.not_mem_nil, by decide⟩
end STD
section BEG
variable {F : Nat} {g : Hp} {st : RS} {m : MS}
theorem rbeg0 (hF : 200 ≤ F) (R : RI st m) : ∃ s1, m_X12_lay F (some 179) (ov g st) = some (ov g s1) ∧ RB s1 m := by
  have R0 := R
  obtain ⟨h1, hrest⟩ := R
  unfold m_X12_lay
  rw [rI_21, bd_some]
  rcases h1 with ⟨e, W⟩ | ⟨e, z, hh, hP⟩
  · rw [e, if_neg (by decide)]
    exact ⟨st, rfl, R0, e, W⟩
  · rw [e, if_pos rfl, wZ_21 (Or.inr rfl), bd_some, rR_14, bd_some]
    obtain ⟨s1, e1, r1, s2, s3⟩ := std_e (F := F) (g := g) (st := uI st 21 1) hF (k := 14) (Or.inl rfl)
    have W : NWS (sA s1 14) (mH m) (mP m) := by
      rw [hh, hP]
      refine ⟨NW_std s2, Or.inl ⟨rfl, ?_⟩⟩
      rw [s3 _ (Nat.le_refl _), sA_uI]
      exact z _
    have e21 : sI s1 21 = 1 := by rw [r1.I, sI_uI, if_pos rfl]
    have I' : ∀ k, k ≠ 21 → sI s1 k = sI st k := fun k hk => by rw [r1.I, sI_uI, if_neg hk]
    have J' : ∀ k, sJ s1 k = sJ st k := fun k => by rw [r1.J, sJ_uI]
    have A' : ∀ k, k ≠ 14 → sA s1 k = sA st k := fun k hk => by rw [r1.A (by simpa using hk), sA_uI]
    have L' : ∀ k, sL s1 k = sL st k := fun k => by rw [r1.L, sL_uI]
    refine ⟨s1, ?_, ⟨⟨Or.inl ⟨e21, W⟩, ?_⟩, e21, W⟩⟩
    · rw [bd_e (show m_X12_standard F (some 181) _ = _ from e1)]
    · unfold NBo
      rw [I' 2 (by decide), I' 10 (by decide), I' 33 (by decide), I' 34 (by decide), I' 39 (by decide), J' 40, A' 1 (by decide), A' 28 (by decide), A' 32 (by decide), A' 20 (by decide), A' 16 (by decide), A' 38 (by decide), L' 17, L' 19]
      exact hrest
theorem rbeg (hF : 200 ≤ F) (R : RI st m) (x : Int32) : ∃ s1, m_X12_lay F (some 179) (ov g (uI st 0 x)) = some (ov g s1) ∧ RB s1 m :=
  rbeg0 hF (R.cg (Cg.uI (by decide)))
/-- an int is outside of 0 .. k - 1, or one of these -/
theorem outin {k : Nat} (hk : k < 2 ^ 31) (c : Int32) : (c < 0 ∨ nI k ≤ c) ∨ ∃ j, j < k ∧ c = nI j := by
  rcases i_cases c with h | ⟨j, hj, e⟩
  · exact Or.inl (Or.inl h)
  · rcases Nat.lt_or_ge j k with q | q
    · exact Or.inr ⟨j, q, e⟩
    · exact Or.inl (Or.inr (by rw [e]; exact nI_le q hj))
theorem inin {k j : Nat} (hk : k < 2 ^ 31) (h : j < k) : ¬ (nI j < 0 ∨ nI k ≤ nI j) := by
  rintro (q | q)
  · exact nI_pos (by omega) q
  · exact nI_ge h hk q
end BEG
/-! a call that reads, writes, makes -/
def KR {α : Type} (sk : Nat) (c : Hp → Option α) (r : Hp → Option (α × Hp)) : Prop := ∀ f n z st m, CI sk f n z m → RI st m → ∃ v, c f = some v ∧ ∀ g, ∃ st', r (ov g st) = some (v, ov g st') ∧ RI st' m
def KW {α : Type} (sk : Nat) (c : Hp → Option (α × Hp)) (r : Hp → Option (α × Hp)) : Prop := ∀ f n z st m, CI sk f n z m → RI st m → ∃ v f' m', c f = some (v, f') ∧ (∀ a, 179 ≤ a → a < 204 → f' a = f a) ∧ CI sk f' n z m' ∧ ∀ g, ∃ st', r (ov g st) = some (v, ov g st') ∧ RI st' m'
def KA {α : Type} (sk : Nat) (c : Hp → Nat → Nat → Option (α × Hp × Nat × Nat)) (r : Hp → Option (α × Hp)) : Prop := ∀ f n z st m, CI sk f n z m → RI st m → ∃ v f' n' z' m', c f n z = some (v, f', n', z') ∧ n ≤ n' ∧ z ≤ z' ∧ (∀ a, 179 ≤ a → a < 204 → f' a = f a) ∧ CI sk f' n' z' m' ∧ ∀ g, ∃ st', r (ov g st) = some (v, ov g st') ∧ RI st' m'
section CALLS1
variable {F : Nat}
theorem k_fault : KR sk (m_X11_fault F (some 100)) (m_X12_fault F (some 179)) := by
  intro f n z st m C R
  obtain ⟨T, D, sT, sD, sX, tq, iq, S, K, -⟩ := C
  refine ⟨nI (mF m), ?_, fun g => ⟨uI st 0 0, ?_, R.cg (Cg.uI (by decide))⟩⟩
  · unfold m_X11_fault
    rw [bd_e (gI_e K rfl)]
  · unfold m_X12_fault
    rw [wI_0, bd_some, rI_10, bd_some, sI_o (by decide), R.2.2.1]
theorem k_likely : KR sk (m_X11_likely F (some 100)) (m_X12_likely F (some 179)) := by
  intro f n z st m C R
  obtain ⟨T, D, sT, sD, sX, tq, iq, S, K, -⟩ := C
  refine ⟨mL m, ?_, fun g => ⟨uI st 0 0, ?_, R.cg (Cg.uI (by decide))⟩⟩
  · unfold m_X11_likely
    rw [bd_e (gJ_e K rfl)]
  · unfold m_X12_likely
    rw [wI_0, bd_some, rJ_40, bd_some, sJ_uI, R.2.2.2.2.2.1]
theorem k_from (i : Int32) : KR sk (m_X11_from F (some 100) i) (m_X12_from F (some 179) i) := by
  intro f n z st m C R
  obtain ⟨T, D, sT, sD, sX, tq, iq, S, K, -, -, -, -, M, -⟩ := C
  obtain ⟨l1, l2, l3, h0, -, ⟨q, a1, a2⟩, -⟩ := M
  have e34 := R.2.2.2.2.2.2.1.2.1
  have e32 := R.2.2.2.2.2.2.1.2.2
  unfold m_X11_from m_X3_sourceOf
  rw [bd_e (gR_s K rfl), ck_e (isO_e h0)]
  rcases outin (k := (mM m).length) (by omega) i with hi | ⟨j, hj, rfl⟩
  · refine ⟨-1, ?_, fun g => ⟨uI st 0 0, ?_, R.cg (Cg.uI (by decide))⟩⟩
    · rcases hi with q | q
      · rw [if_pos q, bd_some]
      · by_cases q0 : i < 0
        · rw [if_pos q0, bd_some]
        · rw [if_neg q0, bd_e (gI_e h0 rfl), if_pos q, bd_some]
    · unfold m_X12_from
      rw [wI_0, bd_some]
      rcases hi with q | q
      · rw [if_pos q]
      · by_cases q0 : i < 0
        · rw [if_pos q0]
        · rw [if_neg q0, rI_34, bd_some, sI_o (by decide), e34, if_pos q]
  · refine ⟨(mS m)[j], ?_, fun g => ⟨uI st 0 0, ?_, R.cg (Cg.uI (by decide))⟩⟩
    · rw [if_neg (nI_pos (by omega)), bd_e (gI_e h0 rfl), if_neg (nI_ge hj (by omega)), if_neg (lim10 (by omega)), bd_e (gR_s h0 rfl), bd_e (ldI_e a1 (by omega) (by omega)), a2 j (by omega), bd_some]
    · unfold m_X12_from
      rw [wI_0, bd_some, if_neg (nI_pos (by omega)), rI_34, bd_some, sI_o (by decide), e34, if_neg (nI_ge hj (by omega)), rR_32, bd_some, rE_32 (by omega), bd_some, sA_uI, e32 j (by omega)]
theorem k_end (a : Int32) : KW sk (m_X11_end F (some 100) a) (m_X12_end F (some 179) a) := by
  intro f n z st m C R
  obtain ⟨T, D, sT, sD, sX, tq, iq, S, K, ⟨tp, t7, fl⟩, H, Z, TK, M, MR⟩ := C
  have C : CI sk f n z m := ⟨T, D, sT, sD, sX, tq, iq, S, K, ⟨tp, t7, fl⟩, H, Z, TK, M, MR⟩
  have e2 := R.2.1.2
  have R1 : RI (uI st 0 0) m := R.cg (Cg.uI (by decide))
  unfold m_X11_end
  rcases outin (k := mT m + 1) (by omega) a with hi | ⟨j, hj, rfl⟩
  · refine ⟨0, f, m, ?_, fun _ _ _ => rfl, C, fun g => ⟨uI st 0 0, ?_, R1⟩⟩
    · by_cases q0 : a < 0
      · rw [if_pos q0, ck_e (by decide)]
      · rw [if_neg q0, bd_e (gI_e K rfl), if_neg, ck_e (by decide)]
        rcases hi with q | q
        · exact absurd q q0
        · obtain ⟨j, hj, rfl⟩ := (i_cases a).resolve_left q0
          intro c
          rcases Nat.lt_or_ge j (mT m + 1) with q1 | q1
          · exact nI_ge q1 (by omega) q
          · exact nI_ge (show mT m < j by omega) hj c
    · unfold m_X12_end
      rw [wI_0, bd_some]
      by_cases q0 : a < 0
      · rw [if_pos q0, ck_e (by decide)]
      · rw [if_neg q0, rI_2, bd_some, sI_o (by decide), e2, if_neg, ck_e (by decide)]
        rcases hi with q | q
        · exact absurd q q0
        · obtain ⟨j, hj, rfl⟩ := (i_cases a).resolve_left q0
          intro c
          rcases Nat.lt_or_ge j (mT m + 1) with q1 | q1
          · exact nI_ge q1 (by omega) q
          · exact nI_ge (show mT m < j by omega) hj c
  · obtain ⟨B, tl, h, P, lf, ll, fm, fs, im⟩ := m
    refine ⟨1, va_up f 100 (some (.inl (9, kC T D sX (nI j) (nI lf) ll))), (B, j, h, P, lf, ll, fm, fs, im), ?_, fun a h1 _ => up_n (by omega), ⟨T, D, sT, sD, sX, tq, iq, S.frame (fun a _ => up_n (by omega)), up_s, ⟨tp.frame (up_n (by omega)), Nat.le_trans (Nat.le_of_lt_succ hj) t7, fl⟩, H.frame (fun a _ _ => up_n (by omega)), Z.frame (up_n (by omega)) (up_n (by omega)) (fun a _ => up_n (by omega)), TK.frame (up_n (by omega)) (up_n (by omega)) (up_n (by omega)), M.frame (fun a _ _ => up_n (by omega)), MR.frame (up_n (by omega))⟩, fun g => ⟨uI (uI st 0 0) 2 (nI j), ?_, ?_⟩⟩
    · have hj' : j < tl + 1 := hj
      have t7' : tl ≤ 740 := t7
      rw [if_neg (nI_pos (by omega)), bd_e (gI_e K rfl), if_pos (show nI j ≤ nI tl from nI_le (by omega) (by omega)), bd_e (pV_e K (Nat.le_of_ble_eq_true rfl)), ck_e (by decide)]
      rfl
    · have hj' : j < tl + 1 := hj
      have t7' : tl ≤ 740 := t7
      unfold m_X12_end
      rw [wI_0, bd_some, if_neg (nI_pos (by omega)), rI_2, bd_some, sI_o (by decide), e2, if_pos (show nI j ≤ nI tl from nI_le (by omega) (by omega)), wI_2, bd_some, ck_e (by decide)]
    · obtain ⟨h1, ⟨h2, h3⟩, h4, h5, h6, h7, h8, h9⟩ := R1
      refine ⟨?_, ⟨?_, ?_⟩, ?_, ?_, ?_, ?_, ?_, ?_⟩
      · rw [sI_o (by decide)]; exact h1
      · exact h2
      · rw [sI_uI, if_pos rfl]
      · rw [sI_o (by decide)]; exact h4
      · exact h5
      · exact h6.cg (Cg.uI (I := [2]) (A := []) (L := []) (by simp)) (by decide) (by decide)
      · exact h7
      · rw [sI_o (by decide), sI_o (by decide)]; exact h8
      · exact h9
end CALLS1
