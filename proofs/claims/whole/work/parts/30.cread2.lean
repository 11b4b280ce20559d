/-! the class's reads of its HOUSE, further -/
theorem and_bit {P : Nat → Bool} {p : Nat} (hp : p < 21) : nI (bitsOf 21 P) &&& nI (2 ^ p) = 0 ↔ P p = false := by
  have e : bitsOf 21 P &&& 2 ^ p = if P p then 2 ^ p else 0 := by
    rw [bitsOf_one hp, bitsOf_and]
    cases hP : P p
    · rw [if_neg (by simp), bitsOf_none 21]
      refine bitsOf_ext (fun i _ => ?_)
      by_cases q : i = p
      · rw [q, hP]; rfl
      · simp [q]
    · rw [if_pos rfl]
      refine bitsOf_ext (fun i _ => ?_)
      by_cases q : i = p
      · rw [q, hP]; rfl
      · simp [q]
  rw [nI_and, e]
  have h2 : 2 ^ p ≤ 2 ^ 20 := Nat.pow_le_pow_right (by decide) (by omega)
  have h3 : 0 < 2 ^ p := Nat.two_pow_pos p
  cases P p
  · rw [if_neg (by simp)]
    exact ⟨fun _ => rfl, fun _ => rfl⟩
  · rw [if_pos rfl]
    exact ⟨fun q => absurd q (nI_ne0 h3 (by omega)), fun q => by cases q⟩
section HREAD2
variable {F : Nat} {f : Hp} {b s : Nat} {h : HS} {L : List Nat}
theorem keepsSense_L (H : HAt f b s h) (ok : okH h) : ∀ (d k z : Nat), k + d = (hS h).length → d < z → m_X4_keepsSense_L2 F z (some b) (nI (bitsOf 21 (tnB L))) (nI (bitsOf 21 (prB L))) (nI k) f = some (if keeps ((hS h).drop k) L then 1 else 0) := by
  obtain ⟨⟨n1, n2⟩, -, -, -, -, -, s12, sS, -⟩ := ok
  obtain ⟨w1, hw1, hw2⟩ := H.2.2.2.2.1
  obtain ⟨w3, hw3, hw4⟩ := H.2.2.2.2.2.1
  intro d
  induction d with
  | zero =>
    intro k z hk hz
    obtain ⟨z, rfl⟩ : ∃ j, z = j + 1 := ⟨z - 1, by omega⟩
    show m_X4_keepsSense_b2 F _ _ _ _ _ _ = _
    unfold m_X4_keepsSense_b2
    rw [bd_e (gI_e H.1 rfl), if_pos (nI_le (by omega) (by omega)), List.drop_eq_nil_of_le (by omega)]
    rfl
  | succ d ih =>
    intro k z hk hz
    obtain ⟨z, rfl⟩ : ∃ j, z = j + 1 := ⟨z - 1, by omega⟩
    have hkl : k < (hS h).length := by omega
    have hs := ih (k + 1) z (by omega) (by omega)
    obtain ⟨a1, a2, a3⟩ := sS _ (List.getElem_mem hkl)
    have hp := pix_lt _ (by omega : (hS h)[k].1 < 7) _ (by omega : (hS h)[k].2 < 7) a3
    have hk2 := ks_bit (L := L) (by omega : (hS h)[k].1 < 7) (by omega : (hS h)[k].2 < 7) a3
    have hB : ∀ (t : Bool) (s0 : Int32), tnB L (pix (hS h)[k].1 (hS h)[k].2) = t → (s0 = if t then 1 else 0) → m_X4_keepsSense_B45 F (m_X4_keepsSense_L2 F z) (some b) (nI (bitsOf 21 (tnB L))) (nI (bitsOf 21 (prB L))) (nI k) (nI (2 ^ pix (hS h)[k].1 (hS h)[k].2)) s0 f = some (if keeps ((hS h).drop k) L then 1 else 0) := by
      intro t s0 ht hs0
      rw [List.drop_eq_getElem_cons hkl]
      show _ = some (if (ksB L (hS h)[k] && keeps ((hS h).drop (k + 1)) L) then 1 else 0)
      rw [show ksB L (hS h)[k] = ksB L ((hS h)[k].1, (hS h)[k].2) from rfl, hk2, ht]
      unfold m_X4_keepsSense_B45
      rw [bd_e (gR_s H.1 rfl), bd_e (ldI_e hw1 (by omega) (by omega)), bd_e (gR_s H.1 rfl), bd_e (ldI_e hw3 (by omega) (by omega)), hw2 k hkl, hw4 k hkl]
      have hB67 : ∀ (e : Bool) (s1 : Int32), decide ((hS h)[k].2 < (hS h)[k].1) = e → (s1 = if e then 1 else 0) → m_X4_keepsSense_B67 F (m_X4_keepsSense_L2 F z) (some b) (nI (bitsOf 21 (tnB L))) (nI (bitsOf 21 (prB L))) (nI k) (nI (2 ^ pix (hS h)[k].1 (hS h)[k].2)) s0 s1 f = some (if (!(prB L (pix (hS h)[k].1 (hS h)[k].2) && (t != e)) && keeps ((hS h).drop (k + 1)) L) then 1 else 0) := by
        intro e s1 he hs1
        unfold m_X4_keepsSense_B67
        cases hpr : prB L (pix (hS h)[k].1 (hS h)[k].2)
        · rw [if_pos ((and_bit hp).mpr hpr), nm_e2, nI_1, hs]
          simp
        · rw [if_neg (fun q => by rw [(and_bit hp).mp q] at hpr; cases hpr)]
          cases t <;> cases e <;> subst hs0 <;> subst hs1
          · rw [if_pos rfl, nm_e2, nI_1, hs]; simp
          · rw [if_neg (by decide)]; simp; rfl
          · rw [if_neg (by decide)]; simp; rfl
          · rw [if_pos rfl, nm_e2, nI_1, hs]; simp
      by_cases q : (hS h)[k].1 ≤ (hS h)[k].2
      · rw [if_pos (nI_le q (by omega)), decide_eq_false (by omega : ¬ (hS h)[k].2 < (hS h)[k].1)]
        exact hB67 false 0 (decide_eq_false (by omega)) rfl
      · rw [if_neg (nI_ge (by omega) (by omega)), decide_eq_true (by omega : (hS h)[k].2 < (hS h)[k].1)]
        exact hB67 true 1 (decide_eq_true (by omega)) rfl
    show m_X4_keepsSense_b2 F _ _ _ _ _ _ = _
    unfold m_X4_keepsSense_b2
    rw [bd_e (gI_e H.1 rfl), if_neg (nI_ge hkl (by omega)), if_neg (lim12 (by omega)), bd_e (gR_s H.1 rfl), bd_e (ldI_e hw1 (by omega) (by omega)), bd_e (gR_s H.1 rfl), bd_e (ldI_e hw3 (by omega) (by omega)), hw2 k hkl, hw4 k hkl, bd_e (pairBit_e F f (by omega) (by omega) a3)]
    cases ht : tnB L (pix (hS h)[k].1 (hS h)[k].2)
    · rw [if_pos ((and_bit hp).mpr ht)]
      exact hB false 0 ht rfl
    · rw [if_neg (fun q => by rw [(and_bit hp).mp q] at ht; cases ht)]
      exact hB true 1 ht rfl
theorem keepsSense_e (H : HAt f b s h) (ok : okH h) (hF : 16 ≤ F) : m_X4_keepsSense F (some b) (nI (bitsOf 21 (tnB L))) (nI (bitsOf 21 (prB L))) f = some (if keeps (hS h) L then 1 else 0) :=
  keepsSense_L (F := F) H ok (hS h).length 0 F (by omega) (by have := ok.2.2.2.2.2.2.1; omega)
theorem gainOf_e (H : HAt f b s h) {x y : Nat} (hx : x < 7) (hy : y < 7) : m_X4_gainOf F (some b) (nI x) (nI y) f = some (nI (gain (hR h) (x * 7 + y))) := by
  obtain ⟨w, hw1, hw2⟩ := H.2.2.2.2.2.2.1
  unfold m_X4_gainOf
  rw [nm_e2, show (7 : Int32) = nI 7 from rfl, nI_mul, nI_add, if_neg (nI_pos (by omega)), bd_e (gR_s H.1 rfl), bd_e (alen_e hw1 (by decide)), if_neg (nI_ge (by omega) (by omega)), bd_e (gR_s H.1 rfl), bd_e (ldI_e hw1 (by omega) (by omega)), hw2 _ (by omega)]
theorem songOf_L5 (H : HAt f b s h) (hL : okL L) : ∀ (d i z : Nat), i + d = L.length → 1 ≤ i → d < z → m_X4_songOf_L5 F z (some b) (nI (pkN L)) (nI L.length) (nI (sngL (hR h) L (i - 1))) (nI i) f = some (nI (sngL (hR h) L (L.length - 1))) := by
  have h7 := okL_len hL
  intro d
  induction d with
  | zero =>
    intro i z hi h1 hz
    obtain ⟨z, rfl⟩ : ∃ j, z = j + 1 := ⟨z - 1, by omega⟩
    show m_X4_songOf_b5 F _ _ _ _ _ _ _ = _
    unfold m_X4_songOf_b5
    rw [if_pos (nI_le (by omega) (by omega)), show i = L.length by omega]
  | succ d ih =>
    intro i z hi h1 hz
    obtain ⟨z, rfl⟩ : ∃ j, z = j + 1 := ⟨z - 1, by omega⟩
    have hil : i < L.length := by omega
    have l1 := hL.1 _ (List.getElem_mem (by omega : i - 1 < L.length))
    have l2 := hL.1 _ (List.getElem_mem hil)
    show m_X4_songOf_b5 F _ _ _ _ _ _ _ = _
    unfold m_X4_songOf_b5
    rw [if_neg (nI_ge hil (by omega)), nI_m1 h1, bd_e (lineOf_L F f hL (by omega : i - 1 < L.length)), bd_e (lineOf_L F f hL hil), ck_e (isO_e H.1), bd_e (gainOf_e H l1 l2), nm_e2, nm_e2, nI_add, nI_1]
    have e : sngL (hR h) L (i - 1) + gain (hR h) (L[i - 1] * 7 + L[i]) = sngL (hR h) L (i + 1 - 1) := by
      obtain ⟨j, rfl⟩ : ∃ j, i = j + 1 := ⟨i - 1, by omega⟩
      show _ = sngL (hR h) L (j + 1)
      simp only [sngL]
      rw [getD_e (by omega : j < L.length), getD_e hil]
      rfl
    rw [e]
    exact ih (i + 1) z (by omega) (by omega) (by omega)
theorem songOf_e (H : HAt f b s h) (ok : okH h) (hL : okL L) (hF : 8 ≤ F) : m_X4_songOf F (some b) (nI (pkN L)) (nI L.length) f = some (nI (sngR (hR h) L)) := by
  have h7 := okL_len hL
  rw [← sng_e hL (hR h) (fun q hq => by
    obtain ⟨r1, r2, -⟩ := ok.2.2.2.2.2.2.2.2.2.1 q hq
    have := ok.1.2
    exact ⟨by omega, by omega⟩)]
  by_cases h0 : L.length = 0
  · obtain ⟨z, hz⟩ : ∃ j, F = j + 1 := ⟨F - 1, by omega⟩
    unfold m_X4_songOf
    have : m_X4_songOf_L5 F F (some b) (nI (pkN L)) (nI L.length) 0 1 f = m_X4_songOf_b5 F (m_X4_songOf_L5 F z) (some b) (nI (pkN L)) (nI L.length) 0 1 f := by
      conv => lhs; rw [show m_X4_songOf_L5 F F = m_X4_songOf_L5 F (z + 1) by rw [← hz]]
      rfl
    rw [this]
    unfold m_X4_songOf_b5
    rw [h0, if_pos (by decide)]
    rfl
  · exact songOf_L5 (F := F) H hL (L.length - 1) 1 F (by omega) (by omega) (by omega)
/-- the place DRAWN: the first up to which the weights are above it -/
def drw (W : Nat → Nat) (t : Nat) : Nat → Nat → Nat
  | 0, _ => 0
  | d + 1, p => if t < sumW W (p + 1) then p else drw W t d (p + 1)
theorem placeDrawn_L (H : HAt f b s h) (ok : okH h) {t : Nat} (ht : t < 2 ^ 24) : ∀ (d p z : Nat), p + d = hN h - 1 → d < z → m_X4_placeDrawn_L4 F z (some b) (nI t) (nI (sumW (hW h) p)) (nI p) f = some (nI (drw (hW h) t d p)) := by
  obtain ⟨⟨n1, n2⟩, -, -, -, -, w9, -⟩ := ok
  obtain ⟨w, hw1, hw2⟩ := H.2.2.2.1
  intro d
  induction d with
  | zero =>
    intro p z hp hz
    obtain ⟨z, rfl⟩ : ∃ j, z = j + 1 := ⟨z - 1, by omega⟩
    show m_X4_placeDrawn_b4 F _ _ _ _ _ _ = _
    unfold m_X4_placeDrawn_b4
    rw [bd_e (gI_e H.1 rfl), nI_m1 (by omega), if_pos (nI_le (by omega) (by omega))]
    rfl
  | succ d ih =>
    intro p z hp hz
    obtain ⟨z, rfl⟩ : ∃ j, z = j + 1 := ⟨z - 1, by omega⟩
    have hb := sumW_le w9 (p + 1)
    show m_X4_placeDrawn_b4 F _ _ _ _ _ _ = _
    unfold m_X4_placeDrawn_b4
    rw [bd_e (gI_e H.1 rfl), nI_m1 (by omega), if_neg (nI_ge (by omega) (by omega)), bd_e (gR_s H.1 rfl), bd_e (alen_e hw1 (by decide)), if_neg (nI_ge (by omega) (by omega)), bd_e (gR_s H.1 rfl), bd_e (ldI_e hw1 (by omega) (by omega)), hw2 p (by omega), nm_e2, nI_add]
    show (if nI (sumW (hW h) (p + 1)) ≤ nI t then _ else _) = some (nI (if t < sumW (hW h) (p + 1) then p else drw (hW h) t d (p + 1)))
    by_cases q : t < sumW (hW h) (p + 1)
    · rw [if_neg (nI_ge q (by omega)), if_pos q]
    · rw [if_pos (nI_le (by omega) (by omega)), if_neg q, nm_e2, nI_1]
      exact ih (p + 1) z (by omega) (by omega)
theorem placeDrawn_e (H : HAt f b s h) (ok : okH h) (hF : 8 ≤ F) {t : Nat} (ht : t < 2 ^ 24) : m_X4_placeDrawn F (some b) (nI t) f = some (nI (drw (hW h) t (hN h - 1) 0)) :=
  placeDrawn_L (F := F) H ok ht (hN h - 1) 0 F (by omega) (by have := ok.1.2; omega)
theorem hasSense_L2 (H : HAt f b s h) (ok : okH h) {x y : Nat} (hx : x < 7) (hy : y < 7) : ∀ (d k z : Nat), k + d = (hS h).length → d < z → m_X4_hasSense_L2 F z (some b) (nI x) (nI y) (nI k) f = some (if (x, y) ∈ (hS h).drop k then 1 else 0) := by
  obtain ⟨⟨n1, n2⟩, -, -, -, -, -, s12, sS, -⟩ := ok
  obtain ⟨w1, hw1, hw2⟩ := H.2.2.2.2.1
  obtain ⟨w3, hw3, hw4⟩ := H.2.2.2.2.2.1
  intro d
  induction d with
  | zero =>
    intro k z hk hz
    obtain ⟨z, rfl⟩ : ∃ j, z = j + 1 := ⟨z - 1, by omega⟩
    show m_X4_hasSense_b2 F _ _ _ _ _ _ = _
    unfold m_X4_hasSense_b2
    rw [bd_e (gI_e H.1 rfl), if_pos (nI_le (by omega) (by omega)), List.drop_eq_nil_of_le (by omega)]
    rfl
  | succ d ih =>
    intro k z hk hz
    obtain ⟨z, rfl⟩ : ∃ j, z = j + 1 := ⟨z - 1, by omega⟩
    have hkl : k < (hS h).length := by omega
    have hs := ih (k + 1) z (by omega) (by omega)
    obtain ⟨a1, a2, a3⟩ := sS _ (List.getElem_mem hkl)
    rw [List.drop_eq_getElem_cons hkl]
    show m_X4_hasSense_b2 F _ _ _ _ _ _ = _
    unfold m_X4_hasSense_b2
    rw [bd_e (gI_e H.1 rfl), if_neg (nI_ge hkl (by omega)), if_neg (lim12 (by omega)), bd_e (gR_s H.1 rfl), bd_e (ldI_e hw1 (by omega) (by omega)), hw2 k hkl]
    have hno : (x, y) ≠ (hS h)[k] → m_X4_hasSense_L2 F z (some b) (nI x) (nI y) (nI (k + 1)) f = some (if (x, y) ∈ (hS h)[k] :: (hS h).drop (k + 1) then 1 else 0) := by
      intro q
      rw [hs]
      congr 1
      by_cases m : (x, y) ∈ (hS h).drop (k + 1)
      · rw [if_pos m, if_pos (List.mem_cons_of_mem _ m)]
      · rw [if_neg m, if_neg (fun e => (List.mem_cons.mp e).elim q m)]
    by_cases q1 : (hS h)[k].1 = x
    · rw [if_pos (by rw [q1]), bd_e (gR_s H.1 rfl), bd_e (ldI_e hw3 (by omega) (by omega)), hw4 k hkl]
      by_cases q2 : (hS h)[k].2 = y
      · rw [if_pos (by rw [q2]), if_pos (by rw [← q1, ← q2]; exact List.mem_cons_self)]
        rfl
      · rw [if_neg (fun e => q2 ((nI_eq (by omega) (by omega)).mp e)), nm_e2, nI_1]
        exact hno (fun e => q2 (by rw [← e]))
    · rw [if_neg (fun e => q1 ((nI_eq (by omega) (by omega)).mp e)), nm_e2, nI_1]
      exact hno (fun e => q1 (by rw [← e]))
theorem hasSense_e (H : HAt f b s h) (ok : okH h) (hF : 16 ≤ F) {x y : Nat} (hx : x < 7) (hy : y < 7) : m_X4_hasSense F (some b) (nI x) (nI y) f = some (if (x, y) ∈ hS h then 1 else 0) :=
  hasSense_L2 (F := F) H ok hx hy (hS h).length 0 F (by omega) (by have := ok.2.2.2.2.2.2.1; omega)
theorem isAhead_e {a x y : Nat} {nm : Int64} (hL : okL L) (h : f a = some (.inl (0, cC nm L))) (hx : x < 7) (hy : y < 7) : m_X1_isAhead F (some a) (nI x) (nI y) f = some (if x ∈ L ∧ y ∈ L ∧ L.idxOf x < L.idxOf y then 1 else 0) := by
  unfold m_X1_isAhead
  by_cases e : x = y
  · subst e
    rw [if_pos rfl, if_neg (by omega)]; rfl
  · have hp := pix_lt x hx y hy e
    rw [if_neg (fun q => e ((nI_eq (by omega) (by omega)).mp q)), ck_e (isO_e h), bd_e (hasLine_e F h hx)]
    by_cases q1 : x ∈ L
    · rw [if_pos q1, if_neg (by decide), ck_e (isO_e h), bd_e (hasLine_e F h hy)]
      by_cases q2 : y ∈ L
      · rw [if_pos q2, if_neg (by decide), bd_e (gI_e h rfl), bd_e (pairBit_e F f hx hy e)]
        have h41 : ∀ s0 : Int32, m_X1_isAhead_B41 F (nI x) (nI y) s0 f = some (if s0 = (if y < x then 1 else 0) then 1 else 0) := by
          intro s0
          unfold m_X1_isAhead_B41 m_X1_isAhead_B51
          by_cases q : x ≤ y
          · rw [if_pos (nI_le q (by omega)), if_neg (by omega : ¬ y < x)]
            by_cases q3 : s0 = 0
            · rw [if_pos q3, if_pos q3]; rfl
            · rw [if_neg q3, if_neg q3]; rfl
          · rw [if_neg (nI_ge (by omega) (by omega)), if_pos (by omega : y < x)]
            by_cases q3 : s0 = 1
            · rw [if_pos q3, if_pos q3]; rfl
            · rw [if_neg q3, if_neg q3]; rfl
        rw [h41, h41]
        have hne := idx_ne q1 q2 e
        have ht : tnB L (pix x y) = (if y < x then decide (L.idxOf x < L.idxOf y) else decide (L.idxOf y < L.idxOf x)) := by
          rcases Nat.lt_or_gt_of_ne e with c | c
          · rw [if_neg (by omega), pix_comm, tn_pix hy hx c]; simp [q1, q2]
          · rw [if_pos c, tn_pix hx hy c]; simp [q1, q2]
        by_cases c : y < x
        · rw [if_pos c] at ht ⊢
          by_cases c2 : L.idxOf x < L.idxOf y
          · rw [decide_eq_true c2] at ht
            rw [if_neg (fun q => by rw [(and_bit hp).mp q] at ht; cases ht), if_pos rfl, if_pos ⟨q1, q2, c2⟩]
          · rw [decide_eq_false c2] at ht
            rw [if_pos ((and_bit hp).mpr ht), if_neg (by decide), if_neg (fun q => c2 q.2.2)]
        · rw [if_neg c] at ht ⊢
          by_cases c2 : L.idxOf y < L.idxOf x
          · rw [decide_eq_true c2] at ht
            rw [if_neg (fun q => by rw [(and_bit hp).mp q] at ht; cases ht), if_neg (by decide), if_neg (by omega)]
          · rw [decide_eq_false c2] at ht
            rw [if_pos ((and_bit hp).mpr ht), if_pos rfl, if_pos ⟨q1, q2, by omega⟩]
      · rw [if_neg q2, if_pos rfl, if_neg (fun q => q2 q.2.1)]; rfl
    · rw [if_neg q1, if_pos rfl, if_neg (fun q => q1 q.1)]; rfl
/-- where the longest piece ends -/
def pcE (A C : List Nat) : Nat → Nat → Nat → Nat
  | 0, i, _ => i
  | d + 1, i, p => if C.getD i 0 ∈ A ∧ p ≤ A.idxOf (C.getD i 0) then pcE A C d (i + 1) (A.idxOf (C.getD i 0) + 1) else i
theorem pieceEnd_L {a c : Nat} {na nc : Int64} {A C : List Nat} (hA : okL A) (hC : okL C) (ha : f a = some (.inl (0, cC na A))) (hc : f c = some (.inl (0, cC nc C))) (hF : 8 ≤ F) : ∀ (d i p z : Nat) (v : Int32), i + d = C.length → p ≤ 7 → d < z → (v = if p = 0 then (-1 : Int32) else nI (p - 1)) → m_X1_pieceEnd_L5 F z (some a) (some c) v (nI i) f = some (nI (pcE A C d i p)) := by
  have h7 := okL_len hC
  intro d
  induction d with
  | zero =>
    intro i p z v hi hp hz hv
    obtain ⟨z, rfl⟩ : ∃ j, z = j + 1 := ⟨z - 1, by omega⟩
    show m_X1_pieceEnd_b5 F _ _ _ _ _ _ = _
    unfold m_X1_pieceEnd_b5
    rw [bd_e (gI_e hc rfl), if_pos (nI_le (by omega) (by omega)), bd_e (gI_e hc rfl), show C.length = i by omega]
    rfl
  | succ d ih =>
    intro i p z v hi hp hz hv
    obtain ⟨z, rfl⟩ : ∃ j, z = j + 1 := ⟨z - 1, by omega⟩
    have hil : i < C.length := by omega
    have l1 := hC.1 _ (List.getElem_mem hil)
    show m_X1_pieceEnd_b5 F _ _ _ _ _ _ = some (nI (if C.getD i 0 ∈ A ∧ p ≤ A.idxOf (C.getD i 0) then pcE A C d (i + 1) (A.idxOf (C.getD i 0) + 1) else i))
    unfold m_X1_pieceEnd_b5
    rw [bd_e (gI_e hc rfl), if_neg (nI_ge hil (by omega)), bd_e (gI_e hc rfl), bd_e (lineOf_L F f hC hil), ck_e (isO_e ha), bd_e (placeOf_e hF ha hA l1), getD_e hil]
    by_cases q : C[i] ∈ A
    · have hx := idx7 hA q
      rw [if_pos q]
      by_cases q2 : p ≤ A.idxOf C[i]
      · have hlt : v < nI (A.idxOf C[i]) := by
          rw [hv]
          by_cases p0 : p = 0
          · rw [if_pos p0]
            have h1 : (-1 : Int32) < 0 := by decide
            have h2 : (0 : Int32) ≤ nI (A.idxOf C[i]) := nI_pos' (by omega)
            exact Int32.lt_of_lt_of_le h1 h2
          · rw [if_neg p0]
            exact nI_lt (by omega) (by omega)
        rw [if_pos hlt, if_pos ⟨q, q2⟩, nm_e2, nI_1]
        exact ih (i + 1) (A.idxOf C[i] + 1) z _ (by omega) (by omega) (by omega) (by rw [if_neg (by omega)]; rfl)
      · rw [if_neg, if_neg (fun e => q2 e.2)]
        rw [hv, if_neg (by omega)]
        exact nI_nlt (by omega) (by omega)
    · rw [if_neg q, if_neg, if_neg (fun e => q e.1)]
      rw [hv]
      by_cases p0 : p = 0
      · rw [if_pos p0]; decide
      · rw [if_neg p0]
        intro e
        have h2 : (0 : Int32) ≤ nI (p - 1) := nI_pos' (by omega)
        have h3 := Int32.lt_of_le_of_lt h2 e
        exact absurd h3 (by decide)
theorem pieceEnd_e {a c i : Nat} {na nc : Int64} {A C : List Nat} (hA : okL A) (hC : okL C) (ha : f a = some (.inl (0, cC na A))) (hc : f c = some (.inl (0, cC nc C))) (hF : 8 ≤ F) (hi : i ≤ C.length) : m_X1_pieceEnd F (some a) (some c) (nI i) f = some (nI (pcE A C (C.length - i) i 0)) :=
  pieceEnd_L (F := F) hA hC ha hc hF (C.length - i) i 0 F _ (by omega) (by omega) (by have := okL_len hC; omega) rfl
end HREAD2
