/-! a HOUSE told by mathematical values: N, COPIES (letters of the name, lines), DESKS (way, limit, letters of the name), W by place, 'sense', 'rhyme' -/
abbrev HS : Type := Nat × List (List Nat × List Nat) × List (Nat × Nat × List Nat) × (Nat → Nat) × List (Nat × Nat) × List (Nat × Nat × Nat)
abbrev hN (h : HS) : Nat := h.1
abbrev hC (h : HS) : List (List Nat × List Nat) := h.2.1
abbrev hD (h : HS) : List (Nat × Nat × List Nat) := h.2.2.1
abbrev hW (h : HS) : Nat → Nat := h.2.2.2.1
abbrev hS (h : HS) : List (Nat × Nat) := h.2.2.2.2.1
abbrev hR (h : HS) : List (Nat × Nat × Nat) := h.2.2.2.2.2
def code32 (nm : List Nat) : Nat := nm.foldl (fun c l => c * 32 + l) 0
def gain (R : List (Nat × Nat × Nat)) (x : Nat) : Nat := (R.map (fun q => if q.1 * 7 + q.2.1 = x then q.2.2 else 0)).sum
def cAny (f : Hp) (a : Nat) : Prop := ∃ n0 i1 i2 i3 i4 i5, f a = some (.inl (0, [.long n0, .int i1, .int i2, .int i3, .int i4, .int i5]))
def dAt (f : Hp) (a : Nat) (d : Nat × Nat × List Nat) : Prop := ∃ lim : Int32, f a = some (.inl (1, [.ref (4 + d.1), .int lim, .long (lN (code32 d.2.2))])) ∧ (d.1 = 1 → lim = nI d.2.1)
def dAny (f : Hp) (a : Nat) : Prop := ∃ (w : Nat) (lim : Int32) (nm : Int64), f a = some (.inl (1, [.ref w, .int lim, .long nm])) ∧ w < 21
/-- the HOUSE h lies at b .. b + 28, its SENTENCE at s -/
def HAt (f : Hp) (b s : Nat) (h : HS) : Prop :=
  f b = some (.inl (3, [.int (nI (hN h)), .int (nI (hC h).length), .ref (b + 1), .int (nI (hD h).length), .ref (b + 2), .ref (b + 3), .int (nI (hS h).length), .ref (b + 4), .ref (b + 5), .int (nI (hR h).length), .ref (b + 6), .ref s])) ∧
  (∃ q, f (b + 1) = some (.inr (4, 10, .inr (.inr (.inr (.inr q))))) ∧ ∀ i, i < 10 → q i = some (b + 13 + i)) ∧
  (∃ q, f (b + 2) = some (.inr (5, 6, .inr (.inr (.inr (.inr q))))) ∧ ∀ i, i < 6 → q i = some (b + 23 + i)) ∧
  (∃ w, f (b + 3) = some (.inr (1, 6, .inl w)) ∧ ∀ i, i < 6 → w i = nI (hW h i)) ∧
  (∃ w, f (b + 4) = some (.inr (1, 12, .inl w)) ∧ ∀ i (hi : i < (hS h).length), w i = nI (hS h)[i].1) ∧
  (∃ w, f (b + 5) = some (.inr (1, 12, .inl w)) ∧ ∀ i (hi : i < (hS h).length), w i = nI (hS h)[i].2) ∧
  (∃ w, f (b + 6) = some (.inr (1, 49, .inl w)) ∧ ∀ x, x < 49 → w x = nI (gain (hR h) x)) ∧
  (∀ c (hc : c < (hC h).length), f (b + 13 + c) = some (.inl (0, cC (lN (code32 (hC h)[c].1)) (hC h)[c].2))) ∧
  (∀ c, (hC h).length ≤ c → c < 10 → cAny f (b + 13 + c)) ∧
  (∀ d (hd : d < (hD h).length), dAt f (b + 23 + d) (hD h)[d]) ∧
  (∀ d, (hD h).length ≤ d → d < 6 → dAny f (b + 23 + d))
def okName (nm : List Nat) : Prop := nm.length ≤ 7 ∧ ∀ l ∈ nm, 1 ≤ l ∧ l ≤ 26
/-- what every HOUSE that may stand keeps to -/
def okH (h : HS) : Prop :=
  (2 ≤ hN h ∧ hN h ≤ 7) ∧ (hC h).length ≤ 10 ∧ (∀ c ∈ hC h, okName c.1 ∧ okL c.2 ∧ (∀ x ∈ c.2, x < hN h) ∧ 1 ≤ c.2.length) ∧ (hD h).length ≤ 6 ∧ (∀ d ∈ hD h, okName d.2.2 ∧ d.1 < 3 ∧ (d.1 = 1 → 1 ≤ d.2.1 ∧ d.2.1 ≤ 9)) ∧
  (∀ i, hW h i ≤ 9) ∧ (hS h).length ≤ 12 ∧ (∀ q ∈ hS h, q.1 < hN h ∧ q.2 < hN h ∧ q.1 ≠ q.2) ∧ (hR h).length ≤ 12 ∧ (∀ q ∈ hR h, q.1 < hN h ∧ q.2.1 < hN h ∧ q.1 ≠ q.2.1 ∧ 1 ≤ q.2.2 ∧ q.2.2 ≤ 99) ∧ ((hR h).map (fun q => (q.1, q.2.1))).Nodup
/-- what the class looks at behind a count: never met -/
theorem lim6 {c : Nat} (h : c < 6) : ¬ (6 : Int32) ≤ nI c := nI_ge h (by decide)
theorem lim7 {c : Nat} (h : c < 7) : ¬ (7 : Int32) ≤ nI c := nI_ge h (by decide)
theorem lim9 {c : Nat} (h : c < 9) : ¬ (9 : Int32) ≤ nI c := nI_ge h (by decide)
theorem lim10 {c : Nat} (h : c < 10) : ¬ (10 : Int32) ≤ nI c := nI_ge h (by decide)
theorem lim12 {c : Nat} (h : c < 12) : ¬ (12 : Int32) ≤ nI c := nI_ge h (by decide)
theorem lim40 {c : Nat} (h : c < 40) : ¬ (40 : Int32) ≤ nI c := nI_ge h (by decide)
section HREAD
variable {F : Nat} {f : Hp} {b s : Nat} {h : HS}
theorem copyAt_no (H : HAt f b s h) {c : Int32} (hc : c < 0 ∨ nI (hC h).length ≤ c) : m_X4_copyAt F (some b) c f = some none := by
  unfold m_X4_copyAt
  by_cases h0 : c < 0
  · rw [if_pos h0]
  · rw [if_neg h0, bd_e (gI_e H.1 rfl), if_pos (hc.resolve_left h0)]
theorem copyAt_yes (H : HAt f b s h) (h10 : (hC h).length ≤ 10) {c : Nat} (hc : c < (hC h).length) : m_X4_copyAt F (some b) (nI c) f = some (some (b + 13 + c)) := by
  obtain ⟨q, hq1, hq2⟩ := H.2.1
  unfold m_X4_copyAt
  rw [if_neg (nI_pos (by omega)), bd_e (gI_e H.1 rfl), if_neg (nI_ge hc (by omega)), if_neg (lim10 (by omega)), bd_e (gR_s H.1 rfl), bd_e (ldR_e hq1 (by omega) (by omega)), hq2 c (by omega)]
theorem deskAt_no (H : HAt f b s h) {c : Int32} (hc : c < 0 ∨ nI (hD h).length ≤ c) : m_X4_deskAt F (some b) c f = some none := by
  unfold m_X4_deskAt
  by_cases h0 : c < 0
  · rw [if_pos h0]
  · rw [if_neg h0, bd_e (gI_e H.1 rfl), if_pos (hc.resolve_left h0)]
theorem deskAt_yes (H : HAt f b s h) (h6 : (hD h).length ≤ 6) {c : Nat} (hc : c < (hD h).length) : m_X4_deskAt F (some b) (nI c) f = some (some (b + 23 + c)) := by
  obtain ⟨q, hq1, hq2⟩ := H.2.2.1
  unfold m_X4_deskAt
  rw [if_neg (nI_pos (by omega)), bd_e (gI_e H.1 rfl), if_neg (nI_ge hc (by omega)), if_neg (lim6 (by omega)), bd_e (gR_s H.1 rfl), bd_e (ldR_e hq1 (by omega) (by omega)), hq2 c (by omega)]
theorem HAt.copy (H : HAt f b s h) {c : Nat} (hc : c < (hC h).length) : f (b + 13 + c) = some (.inl (0, cC (lN (code32 (hC h)[c].1)) (hC h)[c].2)) := H.2.2.2.2.2.2.2.1 c hc
theorem HAt.desk (H : HAt f b s h) {d : Nat} (hd : d < (hD h).length) : dAt f (b + 23 + d) (hD h)[d] := H.2.2.2.2.2.2.2.2.2.1 d hd
theorem wholeAt_no (H : HAt f b s h) {c : Int32} (hc : c < 0 ∨ nI (hC h).length ≤ c) : m_X4_wholeAt F (some b) c f = some none := by
  unfold m_X4_wholeAt
  rw [ck_e (isO_e H.1), bd_e (copyAt_no H hc), if_pos rfl]
theorem wholeAt_yes (H : HAt f b s h) (ok : okH h) {c : Nat} (hc : c < (hC h).length) : m_X4_wholeAt F (some b) (nI c) f = some (if (hC h)[c].2.length = hN h then some (b + 13 + c) else none) := by
  obtain ⟨⟨n1, n2⟩, c1, c2, -⟩ := ok
  have hl := okL_len (c2 _ (List.getElem_mem hc)).2.1
  unfold m_X4_wholeAt
  rw [ck_e (isO_e H.1), bd_e (copyAt_yes H c1 hc), if_neg (by simp), bd_e (gI_e (H.copy hc) rfl), bd_e (gI_e H.1 rfl)]
  by_cases e : (hC h)[c].2.length = hN h
  · rw [if_pos (by rw [e]), if_pos e]
  · rw [if_neg (fun q => e ((nI_eq (by omega) (by omega)).mp q)), if_neg e]
/-- W of all places together, of the first i -/
def sumW (W : Nat → Nat) : Nat → Nat
  | 0 => 0
  | i + 1 => sumW W i + W i
theorem sumW_le {W : Nat → Nat} (h9 : ∀ i, W i ≤ 9) (i : Nat) : sumW W i ≤ 9 * i := by
  induction i with
  | zero => exact Nat.le_refl _
  | succ i ih => have := h9 i; simp only [sumW]; omega
theorem nI_m1 {n : Nat} (h : 1 ≤ n) : nI n - (1 : Int32) = nI (n - 1) := nI_sub (b := 1) h
theorem alen_e {a t n : Nat} {x : (Nat → Int32) ⊕ (Nat → Int64) ⊕ (Nat → UInt32) ⊕ (Nat → UInt64) ⊕ (Nat → Option Nat)} (h : f a = some (.inr (t, n, x))) (ht : t < 9) : alen f t (some a) = some (nI n) := by
  simp only [alen, h, ht, and_self, if_true]
  rfl
theorem allWeights_L (H : HAt f b s h) (ok : okH h) : ∀ (d i k : Nat), i + d = hN h - 1 → d < k → m_X4_allWeights_L4 F k (some b) (nI (sumW (hW h) i)) (nI i) f = some (nI (sumW (hW h) (hN h - 1))) := by
  obtain ⟨⟨n1, n2⟩, -, -, -, -, w9, -⟩ := ok
  obtain ⟨w, hw1, hw2⟩ := H.2.2.2.1
  intro d
  induction d with
  | zero =>
    intro i k hi hk
    obtain ⟨k, rfl⟩ : ∃ j, k = j + 1 := ⟨k - 1, by omega⟩
    show m_X4_allWeights_b4 F _ _ _ _ _ = _
    unfold m_X4_allWeights_b4
    rw [bd_e (gI_e H.1 rfl), nI_m1 (by omega), if_pos (nI_le (by omega) (by omega)), show i = hN h - 1 by omega]
  | succ d ih =>
    intro i k hi hk
    obtain ⟨k, rfl⟩ : ∃ j, k = j + 1 := ⟨k - 1, by omega⟩
    show m_X4_allWeights_b4 F _ _ _ _ _ = _
    unfold m_X4_allWeights_b4
    rw [bd_e (gI_e H.1 rfl), nI_m1 (by omega), if_neg (nI_ge (by omega) (by omega)), bd_e (gR_s H.1 rfl), bd_e (alen_e hw1 (by decide)), if_neg (nI_ge (by omega) (by omega)), bd_e (gR_s H.1 rfl), bd_e (ldI_e hw1 (by omega) (by omega)), hw2 i (by omega), nm_e2, nm_e2, nI_add, nI_1]
    exact ih (i + 1) k (by omega) (by omega)
theorem allWeights_e (H : HAt f b s h) (ok : okH h) (hF : 8 ≤ F) : m_X4_allWeights F (some b) f = some (nI (sumW (hW h) (hN h - 1))) := by
  have h1 := allWeights_L (F := F) H ok (hN h - 1) 0 F (by omega) (by have := ok.1.2; omega)
  exact h1
end HREAD
