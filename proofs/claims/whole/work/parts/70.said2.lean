/-! said: the reference -/
variable {sk : Nat}
section SAID2
variable {F : Nat} {g : Hp} {st : RS} {h : HS} {f : Hp} {T D sX s : Nat} {tl lf : Int32} {ll : Int64} {P : SN}
theorem rval_e (hF : 16 ≤ F) (N : NW (sA st 14) h) (ok : okH h) {c : Nat} (hc : c < (hC h).length) {e : E5} (oe : okE5 h e) {k' : Nat} (hk : 8 ≤ k') (hk2 : k' ≤ 11) (ek : e.1 = k' + 9) {a : Int32} (h1 : k' = 8 ∨ k' = 9 → a = e.2.1) (h2 : 10 ≤ k' → a = 0) : ∃ st', m_X12_valueOf F (some 179) (nI k') a (nI c) (ov g st) = some (nI (msE h (hC h)[c].2 e), ov g st') ∧ Rs [26, 27] st st' := by
  have h10 := ok.2.1
  have h7 := ok.1.2
  obtain ⟨-, hA, hA2, -⟩ := ok.2.2.1 _ (List.getElem_mem hc)
  obtain ⟨-, -, -, e17⟩ := oe
  have of : ∃ j, ∃ hj : j < (hC h).length, a = nI j ∧ (k' = 8 ∨ k' = 9 → e.2.1 = nI j) := by
    by_cases q : k' = 8 ∨ k' = 9
    · obtain ⟨j, j1, j2⟩ := e17 (by omega)
      exact ⟨j, j1, (h1 q).trans j2, fun _ => j2⟩
    · exact ⟨0, by omega, h2 (by omega), fun w => absurd w q⟩
  obtain ⟨j, hj, ea, eq⟩ := of
  obtain ⟨-, hB, hB2, -⟩ := ok.2.2.1 _ (List.getElem_mem hj)
  obtain ⟨s1, e1, r1, pa, pb⟩ := layCopies_e (F := F) (g := g) (by omega) N ok hc hj
  have N1 : NW (sA s1 14) h := by rw [r1.A (by decide)]; exact N
  refine ⟨s1, ?_, r1⟩
  unfold m_X12_valueOf msE
  rw [ck_e r_isO, ea, bd_e e1]
  by_cases c1 : k' = 8
  · rw [if_pos (by rw [c1]; rfl), if_pos (by omega), ck_e r_isO, bd_e (rfar_e N1 h7 (by omega) hA hB hA2 hB2 pa pb), eq (Or.inl c1), nI_cl (by omega), cL_e hj]
  rw [if_neg (show ¬ nI k' = (8 : Int32) from fun q => c1 ((nI_eq (b := 8) (by omega) (by omega)).mp q)), if_neg (show ¬ e.1 = 17 by omega)]
  by_cases c2 : k' = 9
  · rw [if_pos (by rw [c2]; rfl), if_pos (by omega), ck_e r_isO, bd_e (rsteps_e N1 h7 (by omega) hA hB hA2 pa pb), eq (Or.inr c2), nI_cl (by omega), cL_e hj]
  rw [if_neg (show ¬ nI k' = (9 : Int32) from fun q => c2 ((nI_eq (b := 9) (by omega) (by omega)).mp q)), if_neg (show ¬ e.1 = 18 by omega)]
  by_cases c3 : k' = 10
  · rw [if_pos (by rw [c3]; rfl), if_pos (by omega), rR_26, bd_some, ck_e r_isO, bd_e (rsongOf_e hF N1 ok hA pa)]
  · rw [if_neg (show ¬ nI k' = (10 : Int32) from fun q => c3 ((nI_eq (b := 10) (by omega) (by omega)).mp q)), if_neg (show ¬ e.1 = 19 by omega), ck_e r_isO, bd_e (rsizeOf_e N1 ok hc)]
theorem rleaf_e (hF : 16 ≤ F) (N : NW (sA st 14) h) (ok : okH h) {c : Nat} (hc : c < (hC h).length) {e : E5} (oe : okE5 h e) {k : Nat} (hk : k < 60) (L : leafR (sA st 14 (172 + 4 * k)) (sA st 14 (172 + 4 * k + 1)) (sA st 14 (172 + 4 * k + 2)) (sA st 14 (172 + 4 * k + 3)) e) : ∃ st', m_X12_isPlain F (some 179) (nI (172 + 4 * k)) (nI c) (ov g st) = some (if lfT h (hC h)[c].2 e then 1 else 0, ov g st') ∧ Rs [26, 27] st st' := by
  obtain ⟨-, hA, hA2, -⟩ := ok.2.2.1 _ (List.getElem_mem hc)
  obtain ⟨k', k1, k2, kw, ek, L6, L7, L8, L10, L11⟩ := L
  have oe' := oe
  obtain ⟨-, e15, e16, -⟩ := oe'
  obtain ⟨s1, q1, r1, pa⟩ := rcopy26 (F := F) (g := g) (by omega) N ok hc
  have N1 : NW (sA s1 14) h := by rw [r1.A (by decide)]; exact N
  have a14 : sA s1 14 = sA st 14 := r1.A (by decide)
  have i1 : nI (172 + 4 * k) + (1 : Int32) = nI (172 + 4 * k + 1) := nI_1 _
  have i2 : nI (172 + 4 * k) + (2 : Int32) = nI (172 + 4 * k + 2) := nI_add _ 2
  have i3 : nI (172 + 4 * k) + (3 : Int32) = nI (172 + 4 * k + 3) := nI_add _ 3
  have nd : ∀ j, k' ≠ j → j < 30 → ¬ nI k' = nI j := fun j h1 h2 q => h1 ((nI_eq (by omega) (by omega)).mp q)
  unfold m_X12_isPlain
  rw [q14 (by omega) i1, q14 (by omega) i2, rR_26, bd_some, ck_e r_isO, bd_e q1, q14 (j := 172 + 4 * k) (by omega) rfl, a14, kw]
  unfold lfT
  by_cases c1 : k' = 4
  · refine ⟨s1, ?_, r1.mono (by simp)⟩
    rw [if_pos (by rw [c1]; rfl), if_pos (show e.1 = 13 by omega), ck_e r_isO, bd_e (risWhole_e N1 ok hc)]
    by_cases q : (hC h)[c].2.length = hN h
    · rw [if_pos q, ck_e (by decide), decide_eq_true q]; rfl
    · rw [if_neg q, ck_e (by decide), decide_eq_false q]; rfl
  rw [if_neg (show ¬ nI k' = (4 : Int32) from nd 4 c1 (by omega)), if_neg (show ¬ e.1 = 13 by omega)]
  by_cases c2 : k' = 5
  · refine ⟨s1, ?_, r1.mono (by simp)⟩
    rw [if_pos (by rw [c2]; rfl), if_pos (show e.1 = 14 by omega), rR_26, bd_some, ck_e r_isO, bd_e (rhasSense_e hF N1 ok hA pa)]
    cases keeps (hS h) (hC h)[c].2 <;> rw [ck_e (by decide)]
  rw [if_neg (show ¬ nI k' = (5 : Int32) from nd 5 c2 (by omega)), if_neg (show ¬ e.1 = 14 by omega)]
  by_cases c3 : k' = 6
  · refine ⟨s1, ?_, r1.mono (by simp)⟩
    obtain ⟨l, l1, l2⟩ := e15 (by omega)
    rw [if_pos (by rw [c3]; rfl), if_pos (show e.1 = 15 by omega), rR_26, bd_some, L6 c3, l2, rE_26 l1, bd_some, pa l l1, nI_cl (by omega)]
    by_cases q : l ∈ (hC h)[c].2
    · have := idx7 hA q
      rw [pl_yes q, if_neg (nI_nm1 (by omega)), ck_e (by decide), decide_eq_true q]; rfl
    · rw [pl_no q, if_pos rfl, ck_e (by decide), decide_eq_false q]; rfl
  rw [if_neg (show ¬ nI k' = (6 : Int32) from nd 6 c3 (by omega)), if_neg (show ¬ e.1 = 15 by omega)]
  by_cases c4 : k' = 7
  · refine ⟨s1, ?_, r1.mono (by simp)⟩
    obtain ⟨l, m, l1, l2, l3, l4⟩ := e16 (by omega)
    obtain ⟨u1, u2⟩ := L7 c4
    rw [if_pos (by rw [c4]; rfl), if_pos (show e.1 = 16 by omega), rR_26, bd_some, u1, u2, l3, l4, rE_26 l1, bd_some, pa l l1, nI_cl (by omega), nI_cl (by omega)]
    by_cases q : l ∈ (hC h)[c].2
    · have x1 := idx7 hA q
      rw [pl_yes q, if_neg (nI_nm1 (by omega))]
      simp only [bd_some]
      rw [rE_26 l2, bd_some, pa m l2]
      by_cases q2 : m ∈ (hC h)[c].2
      · have x2 := idx7 hA q2
        rw [pl_yes q2, if_neg (nI_nm1 (by omega)), rE_26 l1, bd_some, pa l l1, pl_yes q, bd_some]
        by_cases w : (hC h)[c].2.idxOf l < (hC h)[c].2.idxOf m
        · rw [if_neg (nI_ge w (by omega)), ck_e (by decide), decide_eq_true ⟨q, q2, w⟩]; rfl
        · rw [if_pos (nI_le (by omega) (by omega)), ck_e (by decide), decide_eq_false (fun z => w z.2.2)]; rfl
      · rw [pl_no q2, if_pos rfl, ck_e (by decide), decide_eq_false (fun z => q2 z.2.1)]; rfl
    · rw [pl_no q, if_pos rfl, ck_e (by decide), decide_eq_false (fun z => q z.1)]; rfl
  rw [if_neg (show ¬ nI k' = (7 : Int32) from nd 7 c4 (by omega)), if_neg (show ¬ e.1 = 16 by omega)]
  obtain ⟨s2, q2, r2⟩ := rval_e (F := F) (g := g) hF N1 ok hc oe (k' := k') (by omega) k2 ek (a := sA st 14 (172 + 4 * k + 1)) L8 L10
  obtain ⟨L11, L12⟩ := L11 (by omega)
  have b14 : sA s2 14 = sA st 14 := (r2.A (by decide)).trans a14
  refine ⟨s2, ?_, (r1.mono (by simp)).trans r2⟩
  rw [q14 (j := 172 + 4 * k) (by omega) rfl, a14, kw, ck_e r_isO, bd2_e q2, q14 (by omega) i3, b14, L12, L11]
  unfold cmpI
  by_cases w1 : e.2.2.2.1 = 60
  · rw [if_pos w1, if_pos w1]
    by_cases q : e.2.2.2.2 ≤ nI (msE h (hC h)[c].2 e)
    · rw [if_pos q, ck_e (by decide), decide_eq_true q]; rfl
    · rw [if_neg q, ck_e (by decide), decide_eq_false q]; rfl
  · rw [if_neg w1, if_neg w1, q14 (by omega) i3, b14, L12]
    by_cases w2 : e.2.2.2.1 = 61
    · rw [if_pos w2, if_pos w2]
      by_cases q : nI (msE h (hC h)[c].2 e) = e.2.2.2.2
      · rw [if_pos q, ck_e (by decide), decide_eq_true q]; rfl
      · rw [if_neg q, ck_e (by decide), decide_eq_false q]; rfl
    · rw [if_neg w2, if_neg w2]
      by_cases q : nI (msE h (hC h)[c].2 e) ≤ e.2.2.2.2
      · rw [if_pos q, ck_e (by decide), decide_eq_true q]; rfl
      · rw [if_neg q, ck_e (by decide), decide_eq_false q]; rfl
theorem NdR_str {nd : Nat → Int32} : ∀ (n k : Nat) (Q : SN), NdR nd n k Q → (∀ j, htE Q j = j + 1 ∧ hgE Q j (j + lvE Q)) ∧ 1 ≤ lvE Q ∧ 2 * lvE Q ≤ Q.length + 1
  | 0, _, _, H => H.elim
  | n + 1, k, Q, H => by
    have bin : ∀ (Q1 Q2 : SN) (w : Nat), w < 12 → (∀ j, htE Q1 j = j + 1 ∧ hgE Q1 j (j + lvE Q1)) ∧ 1 ≤ lvE Q1 ∧ 2 * lvE Q1 ≤ Q1.length + 1 → (∀ j, htE Q2 j = j + 1 ∧ hgE Q2 j (j + lvE Q2)) ∧ 1 ≤ lvE Q2 ∧ 2 * lvE Q2 ≤ Q2.length + 1 → (∀ j, htE (Q1 ++ Q2 ++ [e5 w]) j = j + 1 ∧ hgE (Q1 ++ Q2 ++ [e5 w]) j (j + lvE (Q1 ++ Q2 ++ [e5 w]))) ∧ 1 ≤ lvE (Q1 ++ Q2 ++ [e5 w]) ∧ 2 * lvE (Q1 ++ Q2 ++ [e5 w]) ≤ (Q1 ++ Q2 ++ [e5 w]).length + 1 := by
      rintro Q1 Q2 w hw ⟨a1, a2, a3⟩ ⟨b1, b2, b3⟩
      have l1 : lvE [e5 w] = 0 := by
        show (if 13 ≤ w then 1 else 0) + 0 = 0
        rw [if_neg (by omega)]
      have lv : lvE (Q1 ++ Q2 ++ [e5 w]) = lvE Q1 + lvE Q2 := by rw [lvE_app, lvE_app, l1, Nat.add_zero]
      have h1 : ∀ j, htE [e5 w] j = j - 1 := fun j => by
        show (if 13 ≤ w then j + 1 else if w = 12 then j else j - 1) = j - 1
        rw [if_neg (by omega), if_neg (by omega)]
      refine ⟨fun j => ⟨?_, ?_⟩, by rw [lv]; omega, by rw [lv, List.length_append, List.length_append]; show _ ≤ Q1.length + Q2.length + 1 + 1; omega⟩
      · rw [htE_app, htE_app, (a1 j).1, (b1 _).1, h1]; omega
      · rw [lv]
        refine hgE_app _ _ _ _ (hgE_app _ _ _ _ (hgE_mono _ _ _ _ (by omega) (a1 j).2) ?_) ?_
        · rw [(a1 j).1]
          exact hgE_mono _ _ _ _ (by omega) (b1 (j + 1)).2
        · rw [htE_app, (a1 j).1, (b1 _).1]
          show if 13 ≤ w then _ else if w = 12 then _ else 2 ≤ j + 1 + 1 ∧ True
          rw [if_neg (by omega), if_neg (by omega)]
          exact ⟨by omega, trivial⟩
    rcases H with ⟨x, Q1, h1, h2, h3, h4, rfl⟩ | ⟨x, y, Q1, Q2, h1, h1', h2, h3, h4, h5, h6, rfl⟩ | ⟨x, y, Q1, Q2, h1, h1', h2, h3, h4, h5, h6, rfl⟩ | ⟨e, ⟨k', k1, k2, kw, ek, -⟩, rfl⟩
    · obtain ⟨a1, a2, a3⟩ := NdR_str n x Q1 h4
      have lv : lvE (Q1 ++ [e5 12]) = lvE Q1 := by rw [lvE_app]; rfl
      refine ⟨fun j => ⟨?_, ?_⟩, by rw [lv]; exact a2, by rw [lv, List.length_append]; show _ ≤ Q1.length + 1 + 1; omega⟩
      · rw [htE_app, (a1 j).1]; rfl
      · rw [lv]
        refine hgE_app _ _ _ _ (a1 j).2 ?_
        rw [(a1 j).1]
        exact ⟨Nat.le_add_left 1 j, trivial⟩
    · exact bin Q1 Q2 11 (by decide) (NdR_str n x Q1 h5) (NdR_str n y Q2 h6)
    · exact bin Q1 Q2 10 (by decide) (NdR_str n x Q1 h5) (NdR_str n y Q2 h6)
    · have l1 : lvE [e] = 1 := by
        show (if 13 ≤ e.1 then 1 else 0) + 0 = 1
        rw [if_pos (by omega)]
      refine ⟨fun j => ⟨?_, ?_⟩, by rw [l1]; exact Nat.le_refl _, by rw [l1]; exact Nat.le_refl _⟩
      · show (if 13 ≤ e.1 then j + 1 else _) = j + 1
        rw [if_pos (by omega)]
      · rw [l1]
        show if 13 ≤ e.1 then j + 1 ≤ j + 1 ∧ True else _
        rw [if_pos (by omega)]
        exact ⟨Nat.le_refl _, trivial⟩
/-- both sides evaluate alike -/
theorem rso_e (hF : 16 ≤ F) (N : NW (sA st 14) h) (ok : okH h) {c : Nat} (hc : c < (hC h).length) : ∀ (n k : Nat) (Q : SN), NdR (fun i => sA st 14 (172 + i)) n k Q → k < 60 → (∀ e ∈ Q, okE5 h e) → ∃ b : Bool, (∀ v, rnE (lfT h (hC h)[c].2) Q v = 2 * v + b.toNat) ∧ ∀ (d z : Nat) (st' : RS), n ≤ d → Rs [26, 27] st st' → ∃ st'', mg_2 F d z (some 179) (nI k) (nI c) (ov g st') = some (if b then 1 else 0, ov g st'') ∧ Rs [26, 27] st st''
  | 0, _, _, H, _, _ => H.elim
  | n + 1, k, Q, H, hk, oq => by
    have i0 : (172 : Int32) + (4 : Int32) * nI k = nI (172 + 4 * k) := by rw [← nI_add, ← nI_mul]; rfl
    have i1 : nI (172 + 4 * k) + (1 : Int32) = nI (172 + (4 * k + 1)) := by rw [nI_1]; rfl
    have i2 : nI (172 + 4 * k) + (2 : Int32) = nI (172 + (4 * k + 2)) := nI_add _ 2
    have b01 : ∀ b : Bool, ((if b then (1 : Int32) else 0) = 0) ↔ b = false := fun b => by cases b <;> decide
    rcases H with ⟨x, Q1, h1, h2, h3, h4, rfl⟩ | ⟨x, y, Q1, Q2, h1, h1', h2, h3, h4, h5, h6, rfl⟩ | ⟨x, y, Q1, Q2, h1, h1', h2, h3, h4, h5, h6, rfl⟩ | ⟨e, hL, rfl⟩
    · obtain ⟨b, e1, e2⟩ := rso_e hF N ok hc n x Q1 h4 (by omega) (fun e he => oq e (List.mem_append_left _ he))
      refine ⟨!b, fun v => ?_, fun d z st' hd C => ?_⟩
      · rw [rnE_app, e1]
        show 2 * ((2 * v + b.toNat) / 2) + (1 - (2 * v + b.toNat) % 2) = _
        cases b <;> simp <;> omega
      · obtain ⟨d, rfl⟩ : ∃ j, d = j + 1 := ⟨d - 1, by omega⟩
        obtain ⟨s2, q1, q2⟩ := e2 d 0 st' (by omega) C
        have a14 : sA st' 14 = sA st 14 := C.A (by decide)
        have h2 : sA st 14 (172 + 4 * k) = 1 := h2
        have h3 : sA st 14 (172 + (4 * k + 1)) = nI x := h3
        refine ⟨s2, ?_, q2⟩
        show b_X12_isSo F (mg_2 F d) (some 179) (nI k) (nI c) (ov g st') = _
        unfold b_X12_isSo
        rw [nm_e2, i0, q14 (by omega) i1, q14 (by omega) i2, q14 (j := 172 + 4 * k) (by omega) rfl, a14, h2, if_pos rfl, h3, ck_e r_isO, bd2_e q1]
        cases b
        · rw [if_pos ((b01 _).mpr rfl), ck_e (by decide)]; rfl
        · rw [if_neg (fun w => absurd ((b01 _).mp w) (by decide)), ck_e (by decide)]; rfl
    · obtain ⟨b, e1, e2⟩ := rso_e hF N ok hc n x Q1 h5 (by omega) (fun e he => oq e (List.mem_append_left _ (List.mem_append_left _ he)))
      obtain ⟨b', e1', e2'⟩ := rso_e hF N ok hc n y Q2 h6 (by omega) (fun e he => oq e (List.mem_append_left _ (List.mem_append_right _ he)))
      refine ⟨b && b', fun v => ?_, fun d z st' hd C => ?_⟩
      · rw [rnE_app, rnE_app, e1, e1']
        show 2 * ((2 * (2 * v + b.toNat) + b'.toNat) / 4) + ((2 * (2 * v + b.toNat) + b'.toNat) / 2 % 2) * ((2 * (2 * v + b.toNat) + b'.toNat) % 2) = _
        have t1 : (2 * (2 * v + b.toNat) + b'.toNat) / 2 % 2 = b.toNat := by cases b <;> cases b' <;> simp <;> omega
        have t2 : (2 * (2 * v + b.toNat) + b'.toNat) % 2 = b'.toNat := by cases b' <;> simp <;> omega
        have t3 : (2 * (2 * v + b.toNat) + b'.toNat) / 4 = v := by cases b <;> cases b' <;> simp <;> omega
        rw [t1, t2, t3]
        cases b <;> cases b' <;> rfl
      · obtain ⟨d, rfl⟩ : ∃ j, d = j + 1 := ⟨d - 1, by omega⟩
        obtain ⟨s2, q1, q2⟩ := e2 d 0 st' (by omega) C
        obtain ⟨s3, q3, q4⟩ := e2' d 0 s2 (by omega) q2
        have a14 : sA st' 14 = sA st 14 := C.A (by decide)
        have h2 : sA st 14 (172 + 4 * k) = 2 := h2
        have h3 : sA st 14 (172 + (4 * k + 1)) = nI x := h3
        have h4 : sA st 14 (172 + (4 * k + 2)) = nI y := h4
        have st0 : ∀ s9, (if (if b then (1 : Int32) else 0) = 0 then (chk (okZ (0 : Int32)) <| some ((0 : Int32), ov g s2)) else (chk (isO (ov g s2) (some 179) 10) <| bd2 (mg_2 F d 0 (some 179) (nI y) (nI c) (ov g s2)) fun x22 f23 => if x22 = 0 then (chk (okZ (0 : Int32)) <| some ((0 : Int32), f23)) else (chk (okZ (1 : Int32)) <| some ((1 : Int32), f23)))) = some (if b && b' then 1 else 0, ov g s9) → mg_2 F (d + 1) z (some 179) (nI k) (nI c) (ov g st') = some (if b && b' then 1 else 0, ov g s9) := fun s9 w => by
          show b_X12_isSo F (mg_2 F d) (some 179) (nI k) (nI c) (ov g st') = _
          unfold b_X12_isSo
          rw [nm_e2, i0, q14 (by omega) i1, q14 (by omega) i2, q14 (j := 172 + 4 * k) (by omega) rfl, a14, h2, if_neg (by decide), if_pos rfl, h3, h4, ck_e r_isO, bd2_e q1]
          exact w
        cases b
        · refine ⟨s2, st0 s2 ?_, q2⟩
          rw [if_pos ((b01 _).mpr rfl), ck_e (by decide)]; rfl
        · refine ⟨s3, st0 s3 ?_, q4⟩
          rw [if_neg (fun w => absurd ((b01 _).mp w) (by decide)), ck_e r_isO, bd2_e q3]
          cases b'
          · rw [if_pos ((b01 _).mpr rfl), ck_e (by decide)]; rfl
          · rw [if_neg (fun w => absurd ((b01 _).mp w) (by decide)), ck_e (by decide)]; rfl
    · obtain ⟨b, e1, e2⟩ := rso_e hF N ok hc n x Q1 h5 (by omega) (fun e he => oq e (List.mem_append_left _ (List.mem_append_left _ he)))
      obtain ⟨b', e1', e2'⟩ := rso_e hF N ok hc n y Q2 h6 (by omega) (fun e he => oq e (List.mem_append_left _ (List.mem_append_right _ he)))
      refine ⟨b || b', fun v => ?_, fun d z st' hd C => ?_⟩
      · rw [rnE_app, rnE_app, e1, e1']
        show 2 * ((2 * (2 * v + b.toNat) + b'.toNat) / 4) + max ((2 * (2 * v + b.toNat) + b'.toNat) / 2 % 2) ((2 * (2 * v + b.toNat) + b'.toNat) % 2) = _
        have t1 : (2 * (2 * v + b.toNat) + b'.toNat) / 2 % 2 = b.toNat := by cases b <;> cases b' <;> simp <;> omega
        have t2 : (2 * (2 * v + b.toNat) + b'.toNat) % 2 = b'.toNat := by cases b' <;> simp <;> omega
        have t3 : (2 * (2 * v + b.toNat) + b'.toNat) / 4 = v := by cases b <;> cases b' <;> simp <;> omega
        rw [t1, t2, t3]
        cases b <;> cases b' <;> rfl
      · obtain ⟨d, rfl⟩ : ∃ j, d = j + 1 := ⟨d - 1, by omega⟩
        obtain ⟨s2, q1, q2⟩ := e2 d 0 st' (by omega) C
        obtain ⟨s3, q3, q4⟩ := e2' d 0 s2 (by omega) q2
        have a14 : sA st' 14 = sA st 14 := C.A (by decide)
        have h2 : sA st 14 (172 + 4 * k) = 3 := h2
        have h3 : sA st 14 (172 + (4 * k + 1)) = nI x := h3
        have h4 : sA st 14 (172 + (4 * k + 2)) = nI y := h4
        have st0 : ∀ s9, (if (if b then (1 : Int32) else 0) = 0 then (chk (isO (ov g s2) (some 179) 10) <| bd2 (mg_2 F d 0 (some 179) (nI y) (nI c) (ov g s2)) fun x22 f23 => if x22 = 0 then (chk (okZ (0 : Int32)) <| some ((0 : Int32), f23)) else (chk (okZ (1 : Int32)) <| some ((1 : Int32), f23))) else (chk (okZ (1 : Int32)) <| some ((1 : Int32), ov g s2))) = some (if b || b' then 1 else 0, ov g s9) → mg_2 F (d + 1) z (some 179) (nI k) (nI c) (ov g st') = some (if b || b' then 1 else 0, ov g s9) := fun s9 w => by
          show b_X12_isSo F (mg_2 F d) (some 179) (nI k) (nI c) (ov g st') = _
          unfold b_X12_isSo
          rw [nm_e2, i0, q14 (by omega) i1, q14 (by omega) i2, q14 (j := 172 + 4 * k) (by omega) rfl, a14, h2, if_neg (by decide), if_neg (by decide), if_pos rfl, h3, h4, ck_e r_isO, bd2_e q1]
          exact w
        cases b
        · refine ⟨s3, st0 s3 ?_, q4⟩
          rw [if_pos ((b01 _).mpr rfl), ck_e r_isO, bd2_e q3]
          cases b'
          · rw [if_pos ((b01 _).mpr rfl), ck_e (by decide)]; rfl
          · rw [if_neg (fun w => absurd ((b01 _).mp w) (by decide)), ck_e (by decide)]; rfl
        · refine ⟨s2, st0 s2 ?_, q2⟩
          rw [if_neg (fun w => absurd ((b01 _).mp w) (by decide)), ck_e (by decide)]; rfl
    · have oe := oq e (List.mem_singleton.mpr rfl)
      have hL' := hL
      obtain ⟨k', k1, k2, kw, ek, -⟩ := hL'
      refine ⟨lfT h (hC h)[c].2 e, fun v => ?_, fun d z st' hd C => ?_⟩
      · show stE (lfT h (hC h)[c].2) v e = _
        unfold stE
        rw [if_neg (by omega), if_neg (by omega), if_neg (by omega)]
      · obtain ⟨d, rfl⟩ : ∃ j, d = j + 1 := ⟨d - 1, by omega⟩
        have a14 : sA st' 14 = sA st 14 := C.A (by decide)
        obtain ⟨s2, q1, q2⟩ := rleaf_e (F := F) (g := g) (st := st') hF (by rw [a14]; exact N) ok hc oe hk (by rw [a14]; exact hL)
        refine ⟨s2, ?_, C.trans q2⟩
        show b_X12_isSo F (mg_2 F d) (some 179) (nI k) (nI c) (ov g st') = _
        unfold b_X12_isSo
        have kw' : sA st 14 (172 + 4 * k) = nI k' := kw
        have nd : ∀ j, k' ≠ j → j < 30 → ¬ nI k' = nI j := fun j h1 h2 q => h1 ((nI_eq (by omega) (by omega)).mp q)
        rw [nm_e2, i0, q14 (by omega) i1, q14 (by omega) i2, q14 (j := 172 + 4 * k) (by omega) rfl, a14, kw', if_neg (show ¬ nI k' = (1 : Int32) from nd 1 (by omega) (by omega)), if_neg (show ¬ nI k' = (2 : Int32) from nd 2 (by omega) (by omega)), if_neg (show ¬ nI k' = (3 : Int32) from nd 3 (by omega) (by omega)), ck_e r_isO, bd2_e q1]
        cases lfT h (hC h)[c].2 e <;> rw [ck_e (by decide)]
/-- the COPIES of which it may be said, from i on -/
def sdR (t : Nat → Bool) : Nat → Nat → Int32 → Int32
  | 0, _, v => v
  | d + 1, i, v => sdR t d (i + 1) (if t i then v ||| ((1 : Int32) <<< (nI i &&& 31)) else v)
theorem csaid_L {t : Nat → Bool} (K : KAt f T D sX tl lf ll) (H : HAt f T s h) (ok : okH h) (A : SAt f s P) (ht : ∀ c, c < (hC h).length → m_X7_isTrueOf F (some s) (some (T + 13 + c)) (some T) f = some (if t c then 1 else 0)) : ∀ (d i z : Nat) (v : Int32), i + d = (hC h).length → d < z → m_X11_said_L19 F z (some 100) v (nI i) f = some (sdR t d i v) := by
  have h10 := ok.2.1
  intro d
  induction d with
  | zero =>
    intro i z v hi hz
    obtain ⟨z, rfl⟩ : ∃ j, z = j + 1 := ⟨z - 1, by omega⟩
    show m_X11_said_b19 F _ _ _ _ _ = _
    unfold m_X11_said_b19
    rw [bd_e (gR_s K rfl), bd_e (gI_e H.1 rfl), if_pos (nI_le (by omega) (by omega))]
    rfl
  | succ d ih =>
    intro i z v hi hz
    obtain ⟨z, rfl⟩ : ∃ j, z = j + 1 := ⟨z - 1, by omega⟩
    show m_X11_said_b19 F _ _ _ _ _ = some (sdR t d (i + 1) (if t i then v ||| ((1 : Int32) <<< (nI i &&& 31)) else v))
    unfold m_X11_said_b19
    rw [bd_e (gR_s K rfl), bd_e (gI_e H.1 rfl), if_neg (nI_ge (by omega) (by omega)), if_neg (lim10 (by omega)), bd_e (gR_s K rfl), bd_e (gR_s H.1 rfl), bd_e (gR_s K rfl), copyRow H ok (by omega), bd_e (gR_s K rfl), ck_e (isO_e A.2.1), bd_e (ht i (by omega))]
    cases t i
    · rw [if_neg (show ¬ false = true by decide), if_neg (show ¬ false = true by decide), if_pos rfl, nm_e2, nI_1]
      exact ih (i + 1) z _ (by omega) (by omega)
    · rw [if_pos rfl, if_pos rfl, if_neg (by decide), nm_e2, nm_e2, nI_1]
      exact ih (i + 1) z _ (by omega) (by omega)
theorem rsaid_L {t : Nat → Bool} (N : NW (sA st 14) h) (ok : okH h) {tp : Nat} (h171 : sA st 14 171 = nI tp) (ht : ∀ c, c < (hC h).length → ∀ (z : Nat) (st' : RS), Rs [26, 27] st st' → ∃ st'', mg_2 F 60 z (some 179) (nI tp) (nI c) (ov g st') = some (if t c then 1 else 0, ov g st'') ∧ Rs [26, 27] st st'') : ∀ (d i z : Nat) (v : Int32) (st' : RS), i + d = (hC h).length → d < z → Rs [26, 27] st st' → ∃ st'', m_X12_said_L26 F z (some 179) v (nI i) (ov g st') = some (sdR t d i v, ov g st'') ∧ Rs [26, 27] st st'' := by
  have h10 := ok.2.1
  intro d
  induction d with
  | zero =>
    intro i z v st' hi hz C
    obtain ⟨z, rfl⟩ : ∃ j, z = j + 1 := ⟨z - 1, by omega⟩
    have N' : NW (sA st' 14) h := by rw [C.A (by decide)]; exact N
    refine ⟨st', ?_, C⟩
    show m_X12_said_b26 F _ _ _ _ _ = _
    unfold m_X12_said_b26
    rw [ck_e r_isO, bd_e (rcopies_e N'), if_pos (nI_le (by omega) (by omega))]
    rfl
  | succ d ih =>
    intro i z v st' hi hz C
    obtain ⟨z, rfl⟩ : ∃ j, z = j + 1 := ⟨z - 1, by omega⟩
    have N' : NW (sA st' 14) h := by rw [C.A (by decide)]; exact N
    have a14 : sA st' 14 = sA st 14 := C.A (by decide)
    obtain ⟨s1, e1, r1⟩ := ht i (by omega) 0 st' C
    obtain ⟨s2, i1, i2⟩ := ih (i + 1) z (if t i then v ||| ((1 : Int32) <<< (nI i &&& 31)) else v) s1 (by omega) (by omega) r1
    refine ⟨s2, Eq.trans ?_ i1, i2⟩
    show m_X12_said_b26 F _ _ _ _ _ = _
    unfold m_X12_said_b26
    rw [ck_e r_isO, bd_e (rcopies_e N'), if_neg (nI_ge (by omega) (by omega)), q14 (j := 171) (i := 171) (by omega) rfl, a14, h171, ck_e r_isO, bd2_e (show m_X12_isSo F 60 (some 179) (nI tp) (nI i) (ov g st') = _ from e1)]
    cases t i
    · rw [if_neg (show ¬ false = true by decide), if_neg (show ¬ false = true by decide), if_pos rfl, nm_e2, nI_1]
    · rw [if_pos rfl, if_pos rfl, if_neg (by decide), nm_e2, nm_e2, nI_1]
theorem k_said (hF : 5041 ≤ F) : KR sk (m_X11_said F (some 100)) (m_X12_said F (some 179)) := by
  intro f n z st m C R
  obtain ⟨T, D, sT, sD, sX, tq, iq, S, K, -, ⟨H, ok, A, os, -⟩, -⟩ := C
  have h10 := ok.2.1
  have hp := A.1
  have c0 : m_X11_said F (some 100) f = if nI (mP m).length = 0 then some (-1) else m_X11_said_L19 F F (some 100) 0 0 f := by
    unfold m_X11_said
    rw [bd_e (gR_s K rfl), bd_e (gR_s H.1 rfl), bd_e (gI_e A.2.1 rfl)]
  by_cases q : mP m = []
  · refine ⟨-1, by rw [c0, q, if_pos (by rfl)], fun g => ?_⟩
    obtain ⟨s1, e1, B1⟩ := rbeg (F := F) (g := g) (by omega) R 0
    refine ⟨s1, ?_, B1.1⟩
    have v170 : sA s1 14 170 = 0 := by
      rcases B1.2.2.2 with ⟨-, w⟩ | ⟨w, -⟩
      · exact w
      · exact absurd q w
    unfold m_X12_said
    rw [wI_0, bd_some, ck_e r_isO, bd_e e1, q14 (j := 170) (i := 170) (by omega) rfl, v170, if_pos rfl]
  · have hl : 0 < (mP m).length := by
      cases hh : mP m with
      | nil => exact absurd hh q
      | cons a l => exact Nat.succ_pos _
    -- the truths, told by the reference's row at its beginning
    obtain ⟨s0, -, B0⟩ := rbeg (F := F) (g := f) (by omega) R 0
    have ev : ∀ (s1 : RS), RB s1 m → ∀ c, c < (hC (mH m)).length → ∃ b : Bool, rnE (lfT (mH m) (cL (mH m) c)) (mP m) 0 = b.toNat ∧ hgE (mP m) 0 20 ∧ ∀ g, ∀ tp, sA s1 14 171 = nI tp → tp < 60 → ∀ (z : Nat) (st' : RS), Rs [26, 27] s1 st' → ∃ st'', mg_2 F 60 z (some 179) (nI tp) (nI c) (ov g st') = some (if b then 1 else 0, ov g st'') ∧ Rs [26, 27] s1 st'' := by
      intro s1 B1 c hc
      rcases B1.2.2.2 with ⟨w, -⟩ | ⟨-, w1, tp, w2, w3, w4⟩
      · exact absurd w q
      · obtain ⟨str, st1, st2⟩ := NdR_str 60 tp (mP m) w4
        obtain ⟨b, e1, -⟩ := rso_e (F := F) (g := f) (by omega) B1.2.2.1 ok hc 60 tp (mP m) w4 w2 os
        refine ⟨b, ?_, hgE_mono _ _ _ _ (by omega) (str 0).2, fun g tp' h1 h2 z st' C => ?_⟩
        · rw [cL_e hc, e1]; omega
        · have et : tp' = tp := by
            rw [w3] at h1
            exact ((nI_eq (by omega) (by omega)).mp h1).symm
          subst et
          obtain ⟨b', e1', e2'⟩ := rso_e (F := F) (g := g) (by omega) B1.2.2.1 ok hc 60 tp' (mP m) w4 w2 os
          have eb : b = b' := by
            have h1 := e1 0
            rw [e1' 0] at h1
            revert h1
            cases b <;> cases b' <;> simp
          subst eb
          exact e2' 60 z st' (Nat.le_refl _) C
    let t : Nat → Bool := fun c => decide (rnE (lfT (mH m) (cL (mH m) c)) (mP m) 0 % 2 = 1)
    have tb : ∀ c (b : Bool), rnE (lfT (mH m) (cL (mH m) c)) (mP m) 0 = b.toNat → t c = b := fun c b e => by
      show decide (_ % 2 = 1) = b
      rw [e]
      cases b <;> rfl
    refine ⟨sdR t (hC (mH m)).length 0 0, ?_, fun g => ?_⟩
    · rw [c0, if_neg (nI_ne0 hl (by omega))]
      refine csaid_L (F := F) K H ok A (fun c hc => ?_) _ 0 F 0 (by omega) (by omega)
      obtain ⟨b, e1, e2, -⟩ := ev s0 B0 c hc
      have e3 := ctrue_L (F := F) (by omega) S A H ok os hc (mP m).length 0 F 0 0 (by omega) (by omega) (by decide) (by rw [List.drop_zero]; exact e2) (by omega)
      rw [List.drop_zero, ← cL_e hc, e1] at e3
      rw [tb c b e1]
      refine Eq.trans e3 ?_
      cases b <;> rfl
    · obtain ⟨s1, r1, B1⟩ := rbeg (F := F) (g := g) (by omega) R 0
      have ev1 := ev s1 B1
      rcases B1.2.2.2 with ⟨w, -⟩ | ⟨-, w1, tp, w2, w3, w4⟩
      · exact absurd w q
      · obtain ⟨s2, i1, i2⟩ := rsaid_L (F := F) (g := g) (st := s1) (h := mH m) (t := t) B1.2.2.1 ok w3 (fun c hc z st' C => by
          obtain ⟨b, e1, -, e3⟩ := ev1 c hc
          rw [tb c b e1]
          exact e3 g tp w3 w2 z st' C) (hC (mH m)).length 0 F 0 s1 (by omega) (by omega) (Rs.refl _ _)
        refine ⟨s2, ?_, (B1.cg (i2.cg.mono (by simp) (by decide) (by simp))).1⟩
        unfold m_X12_said
        rw [wI_0, bd_some, ck_e r_isO, bd_e r1, q14 (j := 170) (i := 170) (by omega) rfl, w1, if_neg (by decide)]
        exact i1
end SAID2
