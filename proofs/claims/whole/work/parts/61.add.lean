/-! a COPY more -/
variable {sk : Nat}
abbrev adC (h : HS) (c : List Nat × List Nat) : HS := (hN h, hC h ++ [c], hD h, hW h, hS h, hR h)
theorem len1 {α : Type} (A : List α) (x : α) : (A ++ [x]).length = A.length + 1 := by rw [List.length_append]; rfl
theorem gE_l {α : Type} {A : List α} {x : α} {i : Nat} (h : i < (A ++ [x]).length) (hi : i < A.length) : (A ++ [x])[i] = A[i] := List.getElem_append_left hi
theorem gE_r {α : Type} {A : List α} {x : α} {i : Nat} (h : i < (A ++ [x]).length) (hi : ¬ i < A.length) : (A ++ [x])[i] = x := by
  have e : i = A.length := by rw [len1] at h; omega
  subst e
  simp
/-- the cell of a HOUSE, its counts told -/
def hcell (b s n c d e r : Nat) : List Value := [.int (nI n), .int (nI c), .ref (b + 1), .int (nI d), .ref (b + 2), .ref (b + 3), .int (nI e), .ref (b + 4), .ref (b + 5), .int (nI r), .ref (b + 6), .ref s]
theorem HAt.cell {f : Hp} {b s : Nat} {h : HS} (H : HAt f b s h) : f b = some (.inl (3, hcell b s (hN h) (hC h).length (hD h).length (hS h).length (hR h).length)) := H.1
section ADDC
variable {f f' : Hp} {b s : Nat} {h : HS}
/-- the cell of the next COPY is another -/
theorem HAt.slot (H : HAt f b s h) (ok : okH h) (l10 : (hC h).length < 10) (fr : ∀ a, b ≤ a → a < b + 29 → (a < b + 7 ∨ b + 13 ≤ a) → a ≠ b + 13 + (hC h).length → f' a = f a) (c : cAny f' (b + 13 + (hC h).length)) : HAt f' b s h := by
  obtain ⟨h0, ⟨q1, a1, b1⟩, ⟨q2, a2, b2⟩, ⟨q3, a3, b3⟩, ⟨q4, a4, b4⟩, ⟨q5, a5, b5⟩, ⟨q6, a6, b6⟩, h7, h8, h9, h10⟩ := H
  have l2 := ok.2.2.2.1
  refine ⟨?_, ⟨q1, ?_, b1⟩, ⟨q2, ?_, b2⟩, ⟨q3, ?_, b3⟩, ⟨q4, ?_, b4⟩, ⟨q5, ?_, b5⟩, ⟨q6, ?_, b6⟩, fun c hc => ?_, fun i i1 i2 => ?_, fun d hd => ?_, fun d i1 i2 => ?_⟩
  · rw [fr _ (by omega) (by omega) (by omega) (by omega)]; exact h0
  · rw [fr _ (by omega) (by omega) (by omega) (by omega)]; exact a1
  · rw [fr _ (by omega) (by omega) (by omega) (by omega)]; exact a2
  · rw [fr _ (by omega) (by omega) (by omega) (by omega)]; exact a3
  · rw [fr _ (by omega) (by omega) (by omega) (by omega)]; exact a4
  · rw [fr _ (by omega) (by omega) (by omega) (by omega)]; exact a5
  · rw [fr _ (by omega) (by omega) (by omega) (by omega)]; exact a6
  · rw [fr _ (by omega) (by omega) (by omega) (by omega)]; exact h7 c hc
  · by_cases e : i = (hC h).length
    · rw [e]; exact c
    · obtain ⟨n0, i1', i2', i3, i4, i5, q⟩ := h8 i i1 i2
      exact ⟨n0, i1', i2', i3, i4, i5, by rw [fr _ (by omega) (by omega) (by omega) (by omega)]; exact q⟩
  · exact (h9 d hd).frame (fr _ (by omega) (by omega) (by omega) (by omega))
  · obtain ⟨w, lim, nm, q, hw⟩ := h10 d i1 i2
    exact ⟨w, lim, nm, by rw [fr _ (by omega) (by omega) (by omega) (by omega)]; exact q, hw⟩
theorem HAt.addC {c : List Nat × List Nat} (H : HAt f b s h) (ok : okH h) (l10 : (hC h).length < 10) (fr : ∀ a, b ≤ a → a < b + 29 → (a < b + 7 ∨ b + 13 ≤ a) → a ≠ b → a ≠ b + 13 + (hC h).length → f' a = f a) (e0 : f' b = some (.inl (3, hcell b s (hN h) ((hC h).length + 1) (hD h).length (hS h).length (hR h).length))) (e1 : f' (b + 13 + (hC h).length) = some (.inl (0, cC (lN (code32 c.1)) c.2))) : HAt f' b s (adC h c) := by
  obtain ⟨h0, ⟨q1, a1, b1⟩, ⟨q2, a2, b2⟩, ⟨q3, a3, b3⟩, ⟨q4, a4, b4⟩, ⟨q5, a5, b5⟩, ⟨q6, a6, b6⟩, h7, h8, h9, h10⟩ := H
  have l2 := ok.2.2.2.1
  have ll : (hC (adC h c)).length = (hC h).length + 1 := len1 _ _
  refine ⟨?_, ⟨q1, ?_, b1⟩, ⟨q2, ?_, b2⟩, ⟨q3, ?_, b3⟩, ⟨q4, ?_, b4⟩, ⟨q5, ?_, b5⟩, ⟨q6, ?_, b6⟩, fun i hi => ?_, fun i i1 i2 => ?_, fun d hd => ?_, fun d i1 i2 => ?_⟩
  · rw [ll]; exact e0
  · rw [fr _ (by omega) (by omega) (by omega) (by omega) (by omega)]; exact a1
  · rw [fr _ (by omega) (by omega) (by omega) (by omega) (by omega)]; exact a2
  · rw [fr _ (by omega) (by omega) (by omega) (by omega) (by omega)]; exact a3
  · rw [fr _ (by omega) (by omega) (by omega) (by omega) (by omega)]; exact a4
  · rw [fr _ (by omega) (by omega) (by omega) (by omega) (by omega)]; exact a5
  · rw [fr _ (by omega) (by omega) (by omega) (by omega) (by omega)]; exact a6
  · by_cases e : i < (hC h).length
    · have ee : (hC (adC h c))[i] = (hC h)[i] := gE_l hi e
      rw [ee, fr _ (by omega) (by omega) (by omega) (by omega) (by omega)]; exact h7 i e
    · have ee : (hC (adC h c))[i] = c := gE_r hi e
      rw [ee, show i = (hC h).length by omega]; exact e1
  · obtain ⟨n0, i1', i2', i3, i4, i5, q⟩ := h8 i (by omega) i2
    exact ⟨n0, i1', i2', i3, i4, i5, by rw [fr _ (by omega) (by omega) (by omega) (by omega) (by omega)]; exact q⟩
  · exact (h9 d hd).frame (fr _ (by have : d < (hD h).length := hd; omega) (by have : d < (hD h).length := hd; omega) (by omega) (by omega) (by omega))
  · obtain ⟨w, lim, nm, q, hw⟩ := h10 d i1 i2
    exact ⟨w, lim, nm, by rw [fr _ (by omega) (by omega) (by omega) (by omega) (by omega)]; exact q, hw⟩
theorem okH.addC {c : List Nat × List Nat} (ok : okH h) (l10 : (hC h).length < 10) (h1 : okName c.1) (h2 : okL c.2) (h3 : ∀ x ∈ c.2, x < hN h) (h4 : 1 ≤ c.2.length) : okH (adC h c) := by
  obtain ⟨a1, a2, a3, a4⟩ := ok
  refine ⟨a1, ?_, fun d hd => ?_, a4⟩
  · rw [show (hC (adC h c)).length = (hC h).length + 1 from len1 _ _]; exact l10
  · rcases List.mem_append.mp hd with q | q
    · exact a3 d q
    · rw [List.mem_singleton.mp q]; exact ⟨h1, h2, h3, h4⟩
theorem NW.addC {nw nw' : Nat → Int32} {c : List Nat × List Nat} (N : NW nw h) (ok : okH h) (l10 : (hC h).length < 10) (e1 : nw' 1 = nI ((hC h).length + 1)) (e2 : nw' (10 + 8 * (hC h).length) = nI c.2.length) (e3 : ∀ i (hi : i < c.2.length), nw' (10 + 8 * (hC h).length + 1 + i) = nI c.2[i]) (fr : ∀ j, j ≠ 1 → ¬ (10 + 8 * (hC h).length ≤ j ∧ j < 18 + 8 * (hC h).length) → nw' j = nw j) : NW nw' (adC h c) := by
  obtain ⟨n0, n1, n2, n3, n4, n5, n6, n7, n8, n9⟩ := N
  have ll : (hC (adC h c)).length = (hC h).length + 1 := len1 _ _
  refine ⟨?_, ?_, ?_, ?_, ?_, fun i hi => ?_, fun d hd => ?_, fun p hp => ?_, fun k hk => ?_, fun k hk => ?_⟩
  · rw [fr _ (by omega) (by omega)]; exact n0
  · rw [ll]; exact e1
  · rw [fr _ (by omega) (by omega)]; exact n2
  · rw [fr _ (by omega) (by omega)]; exact n3
  · rw [fr _ (by omega) (by omega)]; exact n4
  · by_cases e : i < (hC h).length
    · obtain ⟨u1, u2⟩ := n5 i e
      have hl := okL_len (ok.2.2.1 _ (List.getElem_mem e)).2.1
      have ee : (hC (adC h c))[i] = (hC h)[i] := gE_l hi e
      rw [ee]
      exact ⟨by rw [fr _ (by omega) (by omega)]; exact u1, fun j hj => by rw [fr _ (by omega) (by omega)]; exact u2 j hj⟩
    · have ee : (hC (adC h c))[i] = c := gE_r hi e
      rw [ee, show i = (hC h).length by omega]
      exact ⟨e2, e3⟩
  · obtain ⟨u1, u2⟩ := n6 d hd
    have : d < (hD h).length := hd
    exact ⟨by rw [fr _ (by omega) (by omega)]; exact u1, fun q => by rw [fr _ (by omega) (by omega)]; exact u2 q⟩
  · rw [fr _ (by omega) (by omega)]; exact n7 p hp
  · obtain ⟨u1, u2⟩ := n8 k hk
    exact ⟨by rw [fr _ (by omega) (by omega)]; exact u1, by rw [fr _ (by omega) (by omega)]; exact u2⟩
  · obtain ⟨u1, u2, u3⟩ := n9 k hk
    exact ⟨by rw [fr _ (by omega) (by omega)]; exact u1, by rw [fr _ (by omega) (by omega)]; exact u2, by rw [fr _ (by omega) (by omega)]; exact u3⟩
theorem okS.addC {c : List Nat × List Nat} {P : SN} (o : okS h P) : okS (adC h c) P := fun e he => by
  obtain ⟨a1, a2, a3, a4⟩ := o e he
  refine ⟨a1, a2, a3, fun w => ?_⟩
  obtain ⟨i, i1, i2⟩ := a4 w
  exact ⟨i, by rw [show (hC (adC h c)).length = (hC h).length + 1 from len1 _ _]; omega, i2⟩
/-- what a change of one HOUSE alone leaves -/
theorem CIx.house {n z : Nat} {m : MS} {T D sT sD sX : Nat} {tq iq : Nat → Option Nat} (C : CIx sk f n z m T D sT sD sX tq iq) (fr : ∀ a, a < T ∨ T + 7 ≤ a ∧ a < T + 13 ∨ T + 29 ≤ a → f' a = f a) {h' : HS} (H' : HAt f' T sT h') (ok' : okH h') (os' : okS h' (mP m)) : CIx sk f' n z (mB m, mT m, h', mP m, mF m, mL m, mM m, mS m, mI m) T D sT sD sX tq iq := by
  obtain ⟨h1, h2, ⟨h3, h3b⟩, ⟨-, -, c3, c4, ⟨hd, c5, c6⟩, ⟨P1, c7⟩, ⟨P2, c8⟩, td, ss⟩, h5, h6, h7, h8⟩ := C
  have td' := td
  have ss' := ss
  unfold TD at td'
  unfold SS at ss'
  exact ⟨h1.frame (fun a q => fr a (by omega)), h2.frame (fr _ (by omega)), ⟨h3.frame (fr _ (by omega)), h3b⟩, ⟨H', ok', c3.frame (fun a q1 q2 => fr a (by omega)), os', ⟨hd, c5.frame (fun a q1 q2 q3 => fr a (by omega)) c6, c6⟩, ⟨P1, c7.frame (fun a q1 q2 => fr a (by omega))⟩, ⟨P2, c8.frame (fun a q1 q2 => fr a (by omega))⟩, td, ss⟩, h5.frame (fr _ (by omega)) (fr _ (by omega)) (fun a q => fr a (by omega)), h6.frame (fr _ (by omega)) (fr _ (by omega)) (fr _ (by omega)), h7.frame (fun a q1 q2 => fr a (by omega)), h8.frame (fr _ (by omega))⟩
theorem nextCopy_n {F : Nat} (H : HAt f b s h) (e : (hC h).length = 10) : m_X4_nextCopy F (some b) f = some (none, f) := by
  unfold m_X4_nextCopy
  rw [bd_e (gI_e H.1 rfl), e, if_neg (by decide)]
theorem nextCopy_y {F : Nat} (H : HAt f b s h) (ok : okH h) (l10 : (hC h).length < 10) : m_X4_nextCopy F (some b) f = some (some (b + 13 + (hC h).length), va_up f (b + 13 + (hC h).length) (some (.inl (0, cC 0 [])))) := by
  obtain ⟨q, r1, r2⟩ := H.2.1
  obtain ⟨n0, i1, i2, i3, i4, i5, e⟩ := H.2.2.2.2.2.2.2.2.1 _ (Nat.le_refl _) l10
  have c0 : va_up f (b + 13 + (hC h).length) (some (.inl (0, cC 0 []))) b = f b := up_n (by omega)
  have c1 : va_up f (b + 13 + (hC h).length) (some (.inl (0, cC 0 []))) (b + 1) = f (b + 1) := up_n (by omega)
  unfold m_X4_nextCopy
  rw [bd_e (gI_e H.1 rfl), if_pos (show nI (hC h).length < (10 : Int32) from nI_lt (b := 10) l10 (by omega)), bd_e (gR_s H.1 rfl), bd_e (gI_e H.1 rfl), bd_e (ldR_e r1 l10 (by omega)), r2 _ l10, ck_e (isO_e e), bd_e (cclear_e F e rfl), bd_e (gR_s (c0.trans H.1) rfl), bd_e (gI_e (c0.trans H.1) rfl), bd_e (ldR_e (c1.trans r1) l10 (by omega)), r2 _ l10]
end ADDC
/-! add -/
/-- the first n bytes are unlike lines -/
def okT (B : Nat → Nat) (N n : Nat) : Prop := ∀ j, j < n → B j < N ∧ ∀ b, b < j → B b ≠ B j
theorem tpL_s (B : Nat → Nat) (n : Nat) : tpL B (n + 1) = tpL B n ++ [B n] := by
  unfold tpL
  rw [List.range_succ, List.map_append]
  rfl
theorem okT.nd {B : Nat → Nat} {N : Nat} : ∀ {n : Nat}, okT B N n → (tpL B n).Nodup
  | 0, _ => List.Pairwise.nil
  | n + 1, h => by
    rw [tpL_s, List.nodup_append]
    refine ⟨okT.nd (fun j hj => h j (by omega)), by simp, fun a ha b hb => ?_⟩
    rw [List.mem_singleton] at hb
    subst hb
    obtain ⟨i, i1, rfl⟩ := tpL_mem ha
    exact (h n (by omega)).2 i i1
theorem okT.lt {B : Nat → Nat} {N n : Nat} (h : okT B N n) : ∀ x ∈ tpL B n, x < N := fun x hx => by
  obtain ⟨i, i1, rfl⟩ := tpL_mem hx
  exact (h i i1).1
theorem okT.len {B : Nat → Nat} {N n : Nat} (h : okT B N n) : n ≤ N := by
  have := nd_le N (tpL B n) h.lt h.nd
  rw [tpL_len] at this
  exact this
theorem mem_tpL {B : Nat → Nat} {n i : Nat} (h : i < n) : B i ∈ tpL B n := by
  unfold tpL
  exact List.mem_map.mpr ⟨i, List.mem_range.mpr h, rfl⟩
section C15
variable {F : Nat} {g : Hp} {st : RS} {h : HS} {f : Hp} {T D sX s : Nat} {tl lf : Int32} {ll : Int64} {B : Nat → Nat}
theorem cadd_26 (hF : 8 ≤ F) (ok : okH h) (l10 : (hC h).length < 10) (hT : 102 ≤ T) (hT2 : T < 142) {n : Nat} (hn : n ≤ 740) : ∀ (d i z : Nat) (f : Hp), i + d = n → d < z → KAt f T D sX tl lf ll → TP f B → HAt f T s h → okT B (hN h) i → f (T + 13 + (hC h).length) = some (.inl (0, cC 0 (tpL B i))) → ∃ f', (∀ a, a ≠ T + 13 + (hC h).length → f' a = f a) ∧ ((okT B (hN h) n ∧ f' (T + 13 + (hC h).length) = some (.inl (0, cC 0 (tpL B n))) ∧ m_X11_add_L26 F z (some 100) (nI n) (some (T + 13 + (hC h).length)) (nI i) f = m_X11_add_B73 F (some 100) f') ∨ (¬ okT B (hN h) n ∧ cAny f' (T + 13 + (hC h).length) ∧ m_X11_add_L26 F z (some 100) (nI n) (some (T + 13 + (hC h).length)) (nI i) f = some (-1, f'))) := by
  have h7 := ok.1.2
  intro d
  induction d with
  | zero =>
    intro i z f hi hz K P H hv hc
    obtain ⟨z, rfl⟩ : ∃ j, z = j + 1 := ⟨z - 1, by omega⟩
    have e : i = n := by omega
    subst e
    refine ⟨f, fun _ _ => rfl, Or.inl ⟨hv, hc, ?_⟩⟩
    show m_X11_add_b26 F _ _ _ _ _ _ = _
    unfold m_X11_add_b26
    rw [if_pos (nI_le (by omega) (by omega))]
  | succ d ih =>
    intro i z f hi hz K P H hv hc
    obtain ⟨z, rfl⟩ : ∃ j, z = j + 1 := ⟨z - 1, by omega⟩
    have b1 : B i < 256 := by obtain ⟨t, t1, t2⟩ := id P; exact (t2 i (by omega)).1
    have any : cAny f (T + 13 + (hC h).length) := ⟨_, _, _, _, _, _, hc⟩
    have fail : (¬ okT B (hN h) (i + 1)) → m_X11_add_L26 F (z + 1) (some 100) (nI n) (some (T + 13 + (hC h).length)) (nI i) f = some (-1, f) → ∃ f', (∀ a, a ≠ T + 13 + (hC h).length → f' a = f a) ∧ ((okT B (hN h) n ∧ f' (T + 13 + (hC h).length) = some (.inl (0, cC 0 (tpL B n))) ∧ m_X11_add_L26 F (z + 1) (some 100) (nI n) (some (T + 13 + (hC h).length)) (nI i) f = m_X11_add_B73 F (some 100) f') ∨ (¬ okT B (hN h) n ∧ cAny f' (T + 13 + (hC h).length) ∧ m_X11_add_L26 F (z + 1) (some 100) (nI n) (some (T + 13 + (hC h).length)) (nI i) f = some (-1, f'))) := fun q e => ⟨f, fun _ _ => rfl, Or.inr ⟨fun c => q (fun j hj => c j (by omega)), any, e⟩⟩
    have st0 : m_X11_add_L26 F (z + 1) (some 100) (nI n) (some (T + 13 + (hC h).length)) (nI i) f = if nI (hN h) ≤ nI (B i) then some (-1, f) else (chk (isO f (some (T + 13 + (hC h).length)) 0) <| (m_X1_hasLine F (some (T + 13 + (hC h).length)) (nI (B i)) f).bind fun x8 => if x8 = 0 then (chk (isO f (some (T + 13 + (hC h).length)) 0) <| (m_X1_append F (some (T + 13 + (hC h).length)) (nI (B i)) f).bind fun f11 => nmd (nI i + (1 : Int32)) fun y12 => m_X11_add_L26 F z (some 100) (nI n) (some (T + 13 + (hC h).length)) y12 f11) else (some ((-1 : Int32), f))) := by
      show m_X11_add_b26 F _ _ _ _ _ _ = _
      unfold m_X11_add_b26
      rw [if_neg (nI_ge (by omega) (by omega)), ck_e (isO_e K), bd_e (byteAt_e K P (by omega)), bd_e (gR_s K rfl), bd_e (gI_e H.1 rfl)]
    by_cases q : B i < hN h
    · rw [if_neg (nI_ge q (by omega)), ck_e (isO_e hc), bd_e (hasLine_e F hc (by omega))] at st0
      by_cases q2 : B i ∈ tpL B i
      · refine fail (fun c => ?_) ?_
        · obtain ⟨j, j1, j2⟩ := tpL_mem q2
          exact (c i (by omega)).2 j j1 j2
        · rw [st0, if_pos q2, if_neg (by decide)]
      · have hv1 : okT B (hN h) (i + 1) := fun j hj => by
          by_cases e : j = i
          · subst e
            exact ⟨q, fun b hb e => q2 (e ▸ mem_tpL hb)⟩
          · exact hv j (by omega)
        have hl := hv1.len
        have okl : okL (tpL B i) := ⟨fun x hx => Nat.lt_of_lt_of_le (hv.lt x hx) h7, hv.nd⟩
        rw [if_neg q2, if_pos rfl, ck_e (isO_e hc), bd_e (append_e hF hc okl (by omega) q2 (by rw [tpL_len]; omega)), nm_e2, nI_1, ← tpL_s] at st0
        obtain ⟨f', i1, i2⟩ := ih (i + 1) z (va_up f (T + 13 + (hC h).length) (some (.inl (0, cC 0 (tpL B (i + 1)))))) (by omega) (by omega) (K.frame (up_n (by omega))) (P.frame (up_n (by omega))) (H.slot ok l10 (fun a _ _ _ h4 => up_n h4) ⟨_, _, _, _, _, _, up_s⟩) hv1 up_s
        exact ⟨f', fun a ha => (i1 a ha).trans (up_n ha), by rw [st0]; exact i2⟩
    · exact fail (fun c => q (c i (by omega)).1) (by rw [st0, if_pos (nI_le (by omega) (by omega))])
theorem radd_41 (N : NW (sA st 14) h) (ok : okH h) (P : ∀ i, i < 740 → sA st 1 i = nI (B i) ∧ B i < 256) {n : Nat} (hn : n ≤ 740) : ∀ (d i z : Nat), i + d = n → d < z → okT B (hN h) i → (okT B (hN h) n → m_X12_add_L41 F z (some 179) (nI n) (nI (bitsOf 10 (sB B i))) (nI i) (ov g st) = m_X12_add_B91 F (some 179) (nI n) (ov g st)) ∧ (¬ okT B (hN h) n → m_X12_add_L41 F z (some 179) (nI n) (nI (bitsOf 10 (sB B i))) (nI i) (ov g st) = some (-1, ov g st)) := by
  have h7 := ok.1.2
  intro d
  induction d with
  | zero =>
    intro i z hi hz hv
    obtain ⟨z, rfl⟩ : ∃ j, z = j + 1 := ⟨z - 1, by omega⟩
    have e : i = n := by omega
    subst e
    refine ⟨fun _ => ?_, fun c => absurd hv c⟩
    show m_X12_add_b41 F _ _ _ _ _ _ = _
    unfold m_X12_add_b41
    rw [if_pos (nI_le (by omega) (by omega))]
  | succ d ih =>
    intro i z hi hz hv
    obtain ⟨z, rfl⟩ : ∃ j, z = j + 1 := ⟨z - 1, by omega⟩
    obtain ⟨p1, p2⟩ := P i (by omega)
    show (_ → m_X12_add_b41 F _ _ _ _ _ _ = _) ∧ (_ → m_X12_add_b41 F _ _ _ _ _ _ = _)
    unfold m_X12_add_b41
    rw [if_neg (nI_ge (by omega) (by omega)), rR_1, bd_some, rE_1 (by omega), bd_some, p1, ck_e r_isO, bd_e (rlines_e N)]
    by_cases q : B i < hN h
    · have hb := bitsOf_lt 10 (sB B i)
      rw [if_neg (nI_ge q (by omega))]
      simp only [bd_some]
      rw [rE_1 (by omega)]
      simp only [bd_some]
      rw [p1, bd_e (has_e F _ (Nat.lt_trans hb (by decide)) (by omega)), bitsOf_test, decide_eq_true (show B i < 10 by omega), Bool.true_and]
      by_cases q' : ∀ b, b < i → B b ≠ B i
      · have hv1 : okT B (hN h) (i + 1) := fun j hj => by
          by_cases e : j = i
          · subst e; exact ⟨q, q'⟩
          · exact hv j (by omega)
        rw [sB_no q', if_pos (by decide), nm_e2, nm_e2, nI_1, bits_put (by omega) (show B i < 10 by omega)]
        exact ih (i + 1) z (by omega) (by omega) hv1
      · have e : sB B i (B i) = true := (sB_iff B (B i) i).mpr (Classical.byContradiction fun c => q' (fun b h1 h2 => c ⟨b, h1, h2⟩))
        rw [e, if_neg (by decide)]
        exact ⟨fun w => absurd (w i (by omega)).2 q', fun _ => rfl⟩
    · rw [if_pos (nI_le (by omega) (by omega))]
      exact ⟨fun w => absurd (w i (by omega)).1 q, fun _ => rfl⟩
theorem radd_112 (P : ∀ i, i < 740 → sA st 1 i = nI (B i) ∧ B i < 256) {n c : Nat} (hn : n ≤ 7) (hc : c < 10) : ∀ (d i z : Nat) (st' : RS), i + d = n → d < z → Rs [14] st st' → (∀ j, j < i → sA st' 14 (10 + 8 * c + 1 + j) = nI (B j)) → (∀ j, ¬ (10 + 8 * c + 1 ≤ j ∧ j < 10 + 8 * c + 1 + i) → sA st' 14 j = sA st 14 j) → ∃ st'', m_X12_add_L112 F z (some 179) (nI n) (nI (10 + 8 * c)) (nI i) (ov g st') = m_X12_add_B142 F (some 179) (ov g st'') ∧ Rs [14] st st'' ∧ (∀ j, j < n → sA st'' 14 (10 + 8 * c + 1 + j) = nI (B j)) ∧ (∀ j, ¬ (10 + 8 * c + 1 ≤ j ∧ j < 10 + 8 * c + 1 + n) → sA st'' 14 j = sA st 14 j) := by
  intro d
  induction d with
  | zero =>
    intro i z st' hi hz C h1 h2
    obtain ⟨z, rfl⟩ : ∃ j, z = j + 1 := ⟨z - 1, by omega⟩
    have e : i = n := by omega
    subst e
    refine ⟨st', ?_, C, h1, h2⟩
    show m_X12_add_b112 F _ _ _ _ _ _ = _
    unfold m_X12_add_b112
    rw [if_pos (nI_le (by omega) (by omega))]
  | succ d ih =>
    intro i z st' hi hz C h1 h2
    obtain ⟨z, rfl⟩ : ∃ j, z = j + 1 := ⟨z - 1, by omega⟩
    have a1 : sA st' 1 = sA st 1 := C.A (by decide)
    have ix : nI (10 + 8 * c) + (1 : Int32) + nI i = nI (10 + 8 * c + 1 + i) := by rw [nI_1, nI_add]
    obtain ⟨st'', i1, i2⟩ := ih (i + 1) z (uA st' 14 (10 + 8 * c + 1 + i) (nI (B i))) (by omega) (by omega) (C.trans (Rs.uA (by simp))) (fun j hj => by
      rw [sA_uA, if_pos rfl]
      by_cases e : j = i
      · subst e; rw [upd_s]
      · rw [upd_n (by omega)]; exact h1 j (by omega)) (fun j hj => by
      rw [sA_uA, if_pos rfl, upd_n (by omega)]
      exact h2 j (by omega))
    refine ⟨st'', ?_, i2⟩
    show m_X12_add_b112 F _ _ _ _ _ _ = _
    unfold m_X12_add_b112
    rw [if_neg (nI_ge (by omega) (by omega)), rR_14, bd_some, rR_1, bd_some, rE_1 (by omega), bd_some, a1, (P i (by omega)).1, ix, wE_14 (by omega), bd_some, nm_e2, nI_1]
    exact i1
theorem RI.hs {m : MS} (R : RI st m) {st' : RS} (C : Cg sI0 (14 :: sA0) (17 :: sL0) st st') (e21 : sI st 21 = 1) {h' : HS} (W : NWS (sA st' 14) h' (mP m)) (M : NMr (sL st' 17) h') : RI st' (mB m, mT m, h', mP m, mF m, mL m, mM m, mS m, mI m) := by
  obtain ⟨-, ⟨h2, h3⟩, h4, -, h6, h7, ⟨⟨h8, h9⟩, h10, h11⟩, h12⟩ := R
  refine ⟨Or.inl ⟨?_, W⟩, ⟨?_, ?_⟩, ?_, M, h6.cg C (by decide) (by decide), ?_, ⟨⟨?_, ?_⟩, ?_, ?_⟩, ?_⟩
  · rw [C.I (by decide)]; exact e21
  · rw [C.A (by decide)]; exact h2
  · rw [C.I (by decide)]; exact h3
  · rw [C.I (by decide)]; exact h4
  · rw [C.J (by decide)]; exact h7
  · rw [C.I (by decide)]; exact h8
  · rw [C.A (by decide)]; exact h9
  · rw [C.I (by decide)]; exact h10
  · rw [C.A (by decide)]; exact h11
  · rw [C.A (by decide), C.A (by decide), C.L (by decide)]; exact h12
theorem radd_91 {m : MS} (R : RB st m) (ok : okH (mH m)) (P : ∀ i, i < 740 → sA st 1 i = nI (B i) ∧ B i < 256) (l10 : (hC (mH m)).length < 10) {n : Nat} (hF : 8 ≤ F) (hv : okT B (hN (mH m)) n) : ∃ st', m_X12_add_B91 F (some 179) (nI n) (ov g st) = some (nI (hC (mH m)).length, ov g st') ∧ RI st' (mB m, mT m, adC (mH m) ([], tpL B n), mP m, mF m, mL m, mM m, mS m, mI m) := by
  have hN7 := ok.1.2
  have hl := hv.len
  obtain ⟨R1, e21, W⟩ := R
  obtain ⟨N, W2⟩ := W
  have ix : (10 : Int32) + (8 : Int32) * nI (hC (mH m)).length = nI (10 + 8 * (hC (mH m)).length) := by rw [← nI_add, ← nI_mul]; rfl
  obtain ⟨s1, e1, c1, k1, k2⟩ := radd_112 (F := F) (g := g) (st := uA st 14 (10 + 8 * (hC (mH m)).length) (nI n)) (B := B) P (n := n) (c := (hC (mH m)).length) (by omega) l10 n 0 F _ (by omega) (by omega) (Rs.refl _ _) (fun _ q => absurd q (Nat.not_lt_zero _)) (fun _ _ => rfl)
  have v14 : ∀ j, sA (uA st 14 (10 + 8 * (hC (mH m)).length) (nI n)) 14 j = if j = 10 + 8 * (hC (mH m)).length then nI n else sA st 14 j := fun j => by
    rw [sA_uA, if_pos rfl]
    by_cases e : j = 10 + 8 * (hC (mH m)).length
    · rw [e, upd_s, if_pos rfl]
    · rw [upd_n e, if_neg e]
  have s1_1 : sA s1 14 1 = nI (hC (mH m)).length := by rw [k2 _ (by omega), v14, if_neg (by omega)]; exact N.2.1
  have rc : ∀ (s' : RS), sA s' 14 1 = nI (hC (mH m)).length → m_X12_copies F (some 179) (ov g s') = some (nI (hC (mH m)).length) := fun s' e => by
    unfold m_X12_copies
    rw [q14 (j := 1) (i := 1) (by omega) rfl, e]
  have rc2 : ∀ (s' : RS), sA s' 14 1 = nI ((hC (mH m)).length + 1) → m_X12_copies F (some 179) (ov g s') = some (nI ((hC (mH m)).length + 1)) := fun s' e => by
    unfold m_X12_copies
    rw [q14 (j := 1) (i := 1) (by omega) rfl, e]
  have s2v : ∀ j, sA (uA (uL s1 17 (hC (mH m)).length 0) 14 1 (nI ((hC (mH m)).length + 1))) 14 j = if j = 1 then nI ((hC (mH m)).length + 1) else sA s1 14 j := fun j => by
    rw [sA_uA, if_pos rfl]
    by_cases e : j = 1
    · rw [e, upd_s, if_pos rfl]
    · rw [upd_n e, if_neg e, sA_uL]
  refine ⟨uA (uL s1 17 (hC (mH m)).length 0) 14 1 (nI ((hC (mH m)).length + 1)), ?_, ?_⟩
  · unfold m_X12_add_B91
    rw [ck_e r_isO, bd_e (rcopies_e N), nm_e2, ix, rR_14, bd_some, wE_14 (by omega), bd_some]
    refine Eq.trans e1 ?_
    unfold m_X12_add_B142
    rw [rR_17, bd_some, ck_e r_isO, bd_e (rc s1 s1_1), wE_17 (by omega), bd_some, rR_14, bd_some, show ldI (ov g (uL s1 17 (hC (mH m)).length 0)) 1 (some 181) (1 : Int32) = some (sA (uL s1 17 (hC (mH m)).length 0) 14 1) from rE_14 (j := 1) (by omega), bd_some, sA_uL, s1_1, nI_1, show ∀ x, stI (ov g (uL s1 17 (hC (mH m)).length 0)) 1 (some 181) (1 : Int32) x = some (ov g (uA (uL s1 17 (hC (mH m)).length 0) 14 1 x)) from fun x => wE_14 (j := 1) (by omega), bd_some, ck_e r_isO, bd_e (rc2 _ (by rw [s2v, if_pos rfl])), nI_m1 (by omega), Nat.add_sub_cancel]
  · have fr : ∀ j, j ≠ 1 → ¬ (10 + 8 * (hC (mH m)).length ≤ j ∧ j < 18 + 8 * (hC (mH m)).length) → sA (uA (uL s1 17 (hC (mH m)).length 0) 14 1 (nI ((hC (mH m)).length + 1))) 14 j = sA st 14 j := fun j j1 j2 => by
      rw [s2v, if_neg j1, k2 _ (by omega), v14, if_neg (by omega)]
    refine R1.hs ?_ e21 ⟨N.addC ok l10 ?_ ?_ ?_ fr, ?_⟩ (fun i hi => ?_)
    · exact ((Cg.uA (by decide)).trans (c1.cg.mono (by decide) (by decide) (by decide))).trans ((Cg.uL (by decide)).trans (Cg.uA (by decide)))
    · rw [s2v, if_pos rfl]
    · rw [s2v, if_neg (by omega), k2 _ (by omega), v14, if_pos rfl, tpL_len]
    · intro i hi
      have hi' : i < n := by rw [← tpL_len B n]; exact hi
      rw [s2v, if_neg (by omega), k1 i hi', tpL_at]
    · rcases W2 with ⟨p1, p2⟩ | ⟨p1, p2, t, p3, p4, p5⟩
      · exact Or.inl ⟨p1, by rw [fr _ (by omega) (by omega)]; exact p2⟩
      · refine Or.inr ⟨p1, by rw [fr _ (by omega) (by omega)]; exact p2, t, p3, by rw [fr _ (by omega) (by omega)]; exact p4, ?_⟩
        rw [show (fun i => sA (uA (uL s1 17 (hC (mH m)).length 0) 14 1 (nI ((hC (mH m)).length + 1))) 14 (172 + i)) = fun i => sA st 14 (172 + i) from funext fun i => fr _ (by omega) (by omega)]
        exact p5
    · have M := R1.2.2.2.1
      rw [sL_uA, sL_uL, if_pos rfl]
      by_cases e : i < (hC (mH m)).length
      · have ee : (hC (adC (mH m) ([], tpL B n)))[i] = (hC (mH m))[i] := gE_l hi e
        rw [ee, updL_n (by omega), c1.L, sL_uA]
        exact M i e
      · have ee : (hC (adC (mH m) ([], tpL B n)))[i] = ([], tpL B n) := gE_r hi e
        have ei : i = (hC (mH m)).length := by rw [show (hC (adC (mH m) ([], tpL B n))).length = (hC (mH m)).length + 1 from len1 _ _] at hi; omega
        rw [ee, ei, updL_s]
        rfl
theorem k_add (hF : 5041 ≤ F) : KW sk (m_X11_add F (some 100)) (m_X12_add F (some 179)) := by
  intro f n z st m C R
  obtain ⟨f1, e1, C1, fr1⟩ := take_e (F := F) C
  obtain ⟨_, _, _, _, _, _, _, -, K0, ⟨-, t7, -⟩, -⟩ := C
  obtain ⟨T, D, sT, sD, sX, tq, iq, X⟩ := C1.x
  obtain ⟨S, K, ⟨tp, -⟩, ⟨H, ok, -, os, -⟩, -⟩ := id X
  have td := X.td
  have tp : TP f1 (mB m) := tp
  have H : HAt f1 T sT (mH m) := H
  have ok : okH (mH m) := ok
  have os : okS (mH m) (mP m) := os
  have h10 := ok.2.1
  have h2 := ok.1.1
  have h7 := ok.1.2
  have ref : ∀ v m', (∀ g s2, RB s2 (mt0 m) → ∃ s3, (if (if 1 ≤ mT m ∧ mT m ≤ hN (mH m) then (1 : Int32) else 0) = 0 then some ((-1 : Int32), ov g s2) else if nI (hC (mH m)).length = (10 : Int32) then some ((-1 : Int32), ov g s2) else m_X12_add_L41 F F (some 179) (nI (mT m)) (nI (bitsOf 10 (sB (mB m) 0))) (nI 0) (ov g s2)) = some (v, ov g s3) ∧ RI s3 m') → ∀ g, ∃ st', m_X12_add F (some 179) (ov g st) = some (v, ov g st') ∧ RI st' m' := by
    intro v m' hv g
    obtain ⟨s1, q1, B1⟩ := rbeg (F := F) (g := g) (by omega) R 0
    obtain ⟨q2, B2⟩ := rtake_e (F := F) (g := g) B1
    obtain ⟨s3, q3, r3⟩ := hv g _ B2
    refine ⟨s3, ?_, r3⟩
    rw [sB0] at q3
    unfold m_X12_add
    rw [wI_0, bd_some, ck_e r_isO, bd_e q1, ck_e r_isO, bd2_e q2, ck_e r_isO, bd_e (rlines_e B2.2.2.1), bd_e (risInA (a := 1) (k := hN (mH m)) (A := 1) (by omega) rfl rfl (by omega) (by omega)), ck_e r_isO, bd_e (rcopies_e B2.2.2.1)]
    exact q3
  have R41 := fun g s2 (B2 : RB s2 (mt0 m)) => radd_41 (F := F) (g := g) (st := s2) (h := mH m) B2.2.2.1 ok (bytes_P tp B2.1 rfl) t7 (mT m) 0 F (by omega) (by omega) (fun _ q => absurd q (Nat.not_lt_zero _))
  by_cases l10 : (hC (mH m)).length = 10
  · refine ⟨-1, f1, mt0 m, ?_, fun a h1 _ => fr1 a (by omega), C1, ref _ _ (fun g s2 B2 => ⟨s2, ?_, B2.1⟩)⟩
    · unfold m_X11_add
      rw [ck_e (isO_e K0), bd2_e e1, bd_e (gR_s K rfl), ck_e (isO_e H.1), bd2_e (nextCopy_n H l10), if_pos rfl]
    · by_cases q : 1 ≤ mT m ∧ mT m ≤ hN (mH m)
      · rw [if_pos q, if_neg (by decide), l10, if_pos (by rfl)]
      · rw [if_neg q, if_pos rfl]
  · have l10 : (hC (mH m)).length < 10 := by omega
    have n10 : nI (hC (mH m)).length ≠ (10 : Int32) := fun e => by have := (nI_eq (b := 10) (by omega) (by omega)).mp e; omega
    have cl0 : m_X11_add F (some 100) f = if (1 : Int32) ≤ nI (mT m) then m_X11_add_L26 F F (some 100) (nI (mT m)) (some (T + 13 + (hC (mH m)).length)) 0 (va_up f1 (T + 13 + (hC (mH m)).length) (some (.inl (0, cC 0 [])))) else some (-1, va_up f1 (T + 13 + (hC (mH m)).length) (some (.inl (0, cC 0 [])))) := by
      unfold m_X11_add
      rw [ck_e (isO_e K0), bd2_e e1, bd_e (gR_s K rfl), ck_e (isO_e H.1), bd2_e (nextCopy_y H ok l10), if_neg (by simp)]
    have H2 : HAt (va_up f1 (T + 13 + (hC (mH m)).length) (some (.inl (0, cC 0 [])))) T sT (mH m) := H.slot ok l10 (fun a _ _ _ h4 => up_n h4) ⟨_, _, _, _, _, _, up_s⟩
    have bad : ∀ f', (∀ a, a ≠ T + 13 + (hC (mH m)).length → f' a = f1 a) → cAny f' (T + 13 + (hC (mH m)).length) → CIx sk f' n z (mt0 m) T D sT sD sX tq iq := fun f' fr c => X.house (fun a ha => fr a (by omega)) (H.slot ok l10 (fun a _ _ _ h4 => fr a h4) c) ok os
    by_cases q0 : 1 ≤ mT m
    · rw [if_pos (show (1 : Int32) ≤ nI (mT m) from nI_le (a := 1) q0 (by omega))] at cl0
      obtain ⟨f', i1, i2⟩ := cadd_26 (F := F) (B := mB m) (tl := nI 0) (lf := nI (mF m)) (ll := mL m) (D := D) (sX := sX) (s := sT) (by omega) ok l10 (by omega) (by omega) t7 (mT m) 0 F (va_up f1 (T + 13 + (hC (mH m)).length) (some (.inl (0, cC 0 [])))) (by omega) (by omega) (KAt.frame K (up_n (by omega))) (tp.frame (up_n (by omega))) H2 (fun _ q => absurd q (Nat.not_lt_zero _)) up_s
      have fr : ∀ a, a ≠ T + 13 + (hC (mH m)).length → f' a = f1 a := fun a ha => (i1 a ha).trans (up_n ha)
      rcases i2 with ⟨hv, i3, i4⟩ | ⟨hv, i3, i4⟩
      · have hl := hv.len
        have cell : f' T = some (.inl (3, hcell T sT (hN (mH m)) (hC (mH m)).length (hD (mH m)).length (hS (mH m)).length (hR (mH m)).length)) := (fr _ (by omega)).trans H.cell
        have K' : KAt f' T D sX (nI 0) (nI (mF m)) (mL m) := KAt.frame K (fr _ (by omega))
        have frc : ∀ (c : Option AC) a, a ≠ T → a ≠ T + 13 + (hC (mH m)).length → va_up f' T c a = f1 a := fun c a h1 h2 => (up_n h1).trans (fr a h2)
        have okl : okL (tpL (mB m) (mT m)) := ⟨fun x hx => Nat.lt_of_lt_of_le (hv.lt x hx) h7, hv.nd⟩
        have X' : CIx sk (va_up f' T (some (.inl (3, hcell T sT (hN (mH m)) ((hC (mH m)).length + 1) (hD (mH m)).length (hS (mH m)).length (hR (mH m)).length)))) n z (mB m, 0, adC (mH m) ([], tpL (mB m) (mT m)), mP m, mF m, mL m, mM m, mS m, mI m) T D sT sD sX tq iq := X.house (fun a ha => frc _ a (by omega) (by omega)) (H.addC ok l10 (fun a _ _ _ h4 h5 => frc _ a h4 h5) up_s ((up_n (by omega)).trans i3)) (ok.addC l10 ⟨by simp, fun l hl => absurd hl List.not_mem_nil⟩ okl hv.lt (by rw [tpL_len]; exact q0)) os.addC
        refine ⟨nI (hC (mH m)).length, _, _, ?_, fun a h1 _ => (frc _ a (by omega) (by omega)).trans (fr1 a (by omega)), X'.ci, ref _ _ (fun g s2 B2 => ?_)⟩
        · rw [cl0]
          refine Eq.trans i4 ?_
          unfold m_X11_add_B73
          have K2 : KAt (va_up f' T (some (.inl (3, hcell T sT (hN (mH m)) ((hC (mH m)).length + 1) (hD (mH m)).length (hS (mH m)).length (hR (mH m)).length)))) T D sX (nI 0) (nI (mF m)) (mL m) := KAt.frame K' (up_n (by omega))
          rw [bd_e (gR_s K' rfl), bd_e (gI_e cell rfl), nI_1, bd_e (show pV f' (some T) 3 1 (.int (nI ((hC (mH m)).length + 1))) = some (va_up f' T (some (.inl (3, hcell T sT (hN (mH m)) ((hC (mH m)).length + 1) (hD (mH m)).length (hS (mH m)).length (hR (mH m)).length)))) from pV_e cell (Nat.le_of_ble_eq_true rfl)), bd_e (gR_s K2 rfl), bd_e (gI_e up_s rfl), nI_m1 (by omega), Nat.add_sub_cancel]
        · obtain ⟨s3, r1, r2⟩ := radd_91 (F := F) (g := g) (B := mB m) B2 ok (bytes_P tp B2.1 rfl) l10 (by omega) hv
          refine ⟨s3, ?_, r2⟩
          rw [if_pos (show 1 ≤ mT m ∧ mT m ≤ hN (mH m) from ⟨q0, hl⟩), if_neg (by decide), if_neg n10, (R41 g s2 B2).1 hv]
          exact r1
      · refine ⟨-1, f', mt0 m, ?_, fun a h1 _ => (fr a (by omega)).trans (fr1 a (by omega)), (bad f' fr i3).ci, ref _ _ (fun g s2 B2 => ⟨s2, ?_, B2.1⟩)⟩
        · rw [cl0]; exact i4
        · by_cases q : 1 ≤ mT m ∧ mT m ≤ hN (mH m)
          · rw [if_pos q, if_neg (by decide), if_neg n10]
            exact (R41 g s2 B2).2 hv
          · rw [if_neg q, if_pos rfl]
    · rw [if_neg (show ¬ (1 : Int32) ≤ nI (mT m) from nI_ge (b := 1) (by omega) (by omega))] at cl0
      refine ⟨-1, _, mt0 m, cl0, fun a h1 _ => (up_n (by omega)).trans (fr1 a (by omega)), (bad _ (fun a ha => up_n ha) ⟨_, _, _, _, _, _, up_s⟩).ci, ref _ _ (fun g s2 B2 => ⟨s2, ?_, B2.1⟩)⟩
      rw [if_neg (show ¬ (1 ≤ mT m ∧ mT m ≤ hN (mH m)) from fun c => q0 c.1), if_pos rfl]
end C15
