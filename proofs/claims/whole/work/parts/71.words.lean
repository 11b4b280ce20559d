/-! words and their numbers -/
theorem lN_int {n : Nat} (h : n < 2 ^ 62) : (lN n).toInt = (n : Int) := lg_ofNat_toInt (by omega)
theorem lN_eqL {a b : Nat} (ha : a < 2 ^ 62) (hb : b < 2 ^ 62) : lN a = lN b ↔ a = b := by
  constructor
  · intro e
    have h := congrArg Int64.toInt e
    rw [lN_int ha, lN_int hb] at h
    omega
  · intro e; rw [e]
theorem lN_leL {a b : Nat} (ha : a < 2 ^ 62) (hb : b < 2 ^ 62) : lN a ≤ lN b ↔ a ≤ b := by
  rw [Int64.le_iff_toInt_le, lN_int ha, lN_int hb]
  omega
def cdR (b : Nat) : List Nat → Nat
  | [] => 0
  | x :: M => cdR b M * b + x
def cdN (b : Nat) (nm : List Nat) : Nat := nm.foldl (fun c l => c * b + l) 0
theorem cdN_app (b : Nat) (L : List Nat) (x : Nat) : cdN b (L ++ [x]) = cdN b L * b + x := by
  unfold cdN
  rw [List.foldl_append]
  rfl
theorem cdN_rev (b : Nat) : ∀ M : List Nat, cdN b M.reverse = cdR b M
  | [] => rfl
  | x :: M => by
    rw [List.reverse_cons, cdN_app, cdN_rev b M]
    rfl
theorem cdR_inj {b : Nat} : ∀ M M' : List Nat, (∀ x ∈ M, 1 ≤ x ∧ x < b) → (∀ x ∈ M', 1 ≤ x ∧ x < b) → cdR b M = cdR b M' → M = M'
  | [], [], _, _, _ => rfl
  | [], x :: M', _, h, e => by
    have := (h x List.mem_cons_self).1
    have e' : 0 = cdR b M' * b + x := e
    omega
  | x :: M, [], h, _, e => by
    have := (h x List.mem_cons_self).1
    have e' : cdR b M * b + x = 0 := e
    omega
  | x :: M, x' :: M', h, h', e => by
    have h1 := h x List.mem_cons_self
    have h2 := h' x' List.mem_cons_self
    have e' : cdR b M * b + x = cdR b M' * b + x' := e
    have ec : cdR b M = cdR b M' := by
      rcases Nat.lt_trichotomy (cdR b M) (cdR b M') with q | q | q
      · have := Nat.mul_le_mul_right b (show cdR b M + 1 ≤ cdR b M' from q)
        rw [Nat.succ_mul] at this
        omega
      · exact q
      · have := Nat.mul_le_mul_right b (show cdR b M' + 1 ≤ cdR b M from q)
        rw [Nat.succ_mul] at this
        omega
    have ex : x = x' := by rw [ec] at e'; omega
    rw [ex, cdR_inj M M' (fun y hy => h y (List.mem_cons_of_mem _ hy)) (fun y hy => h' y (List.mem_cons_of_mem _ hy)) ec]
theorem cdR_lt {b : Nat} : ∀ M : List Nat, (∀ x ∈ M, x < b) → cdR b M < b ^ M.length
  | [], _ => by show 0 < b ^ 0; rw [Nat.pow_zero]; exact Nat.one_pos
  | x :: M, h => by
    have h1 := h x List.mem_cons_self
    have ih := cdR_lt M (fun y hy => h y (List.mem_cons_of_mem _ hy))
    show cdR b M * b + x < b ^ (M.length + 1)
    have := Nat.mul_le_mul_right b (show cdR b M + 1 ≤ b ^ M.length from ih)
    rw [Nat.succ_mul] at this
    rw [Nat.pow_succ]
    omega
theorem cdN_lt {b : Nat} {L : List Nat} (h : ∀ x ∈ L, x < b) : cdN b L < b ^ L.length := by
  have := cdR_lt L.reverse (fun x hx => h x (List.mem_reverse.mp hx))
  rw [← cdN_rev, List.reverse_reverse, List.length_reverse] at this
  exact this
theorem cdN_inj {b : Nat} {L L' : List Nat} (h : ∀ x ∈ L, 1 ≤ x ∧ x < b) (h' : ∀ x ∈ L', 1 ≤ x ∧ x < b) (e : cdN b L = cdN b L') : L = L' := by
  have := cdR_inj L.reverse L'.reverse (fun x hx => h x (List.mem_reverse.mp hx)) (fun x hx => h' x (List.mem_reverse.mp hx)) (by rw [← cdN_rev, ← cdN_rev, List.reverse_reverse, List.reverse_reverse]; exact e)
  rw [← List.reverse_reverse L, this, List.reverse_reverse]
theorem c32_lt {L : List Nat} (h : okName L) : code32 L < 2 ^ 35 := by
  have h1 : cdN 32 L < 32 ^ L.length := cdN_lt (fun x hx => by have := h.2 x hx; omega)
  have h2 : 32 ^ L.length ≤ 32 ^ 7 := Nat.pow_le_pow_right (by decide) h.1
  exact Nat.lt_of_lt_of_le h1 (Nat.le_trans h2 (by decide))
theorem c27_lt {L : List Nat} (h : okName L) : code27 L < 2 ^ 35 := by
  have h1 : cdN 27 L < 27 ^ L.length := cdN_lt (fun x hx => by have := h.2 x hx; omega)
  have h2 : 27 ^ L.length ≤ 27 ^ 7 := Nat.pow_le_pow_right (by decide) h.1
  exact Nat.lt_of_lt_of_le h1 (Nat.le_trans h2 (by decide))
theorem c32_inj {L L' : List Nat} (h : okName L) (h' : okName L') : lN (code32 L) = lN (code32 L') ↔ L = L' := by
  have a := c32_lt h
  have b := c32_lt h'
  rw [lN_eqL (by omega) (by omega)]
  exact ⟨fun e => cdN_inj (b := 32) (fun x hx => by have := h.2 x hx; omega) (fun x hx => by have := h'.2 x hx; omega) e, fun e => by rw [e]⟩
theorem c27_inj {L L' : List Nat} (h : okName L) (h' : okName L') : lN (code27 L) = lN (code27 L') ↔ L = L' := by
  have a := c27_lt h
  have b := c27_lt h'
  rw [lN_eqL (by omega) (by omega)]
  exact ⟨fun e => cdN_inj (b := 27) (fun x hx => by have := h.2 x hx; omega) (fun x hx => by have := h'.2 x hx; omega) e, fun e => by rw [e]⟩
/-- the words that the texts are made of, by the class's numbers -/
def wd (j : Nat) : List Nat := match j with
  | 1 => [12, 9, 14, 5, 19] | 2 => [3, 15, 16, 25] | 3 => [4, 5, 19, 11] | 4 => [19, 23, 1, 16] | 5 => [13, 15, 19, 20]
  | 6 => [4, 18, 15, 16, 19] | 7 => [12, 9, 11, 5, 12, 25] | 8 => [19, 5, 14, 19, 5] | 9 => [18, 8, 25, 13, 5] | 10 => [15, 18]
  | 11 => [1, 14, 4] | 12 => [14, 15, 20] | 13 => [23, 8, 15, 12, 5] | 14 => [8, 15, 12, 4, 19] | 15 => [8, 1, 19]
  | 16 => [1, 8, 5, 1, 4] | 17 => [6, 1, 18] | 18 => [19, 20, 5, 16, 19] | 19 => [19, 15, 14, 7] | 20 => [19, 9, 26, 5] | _ => []
theorem wd_ok : ∀ j, j < 21 → (wd j).length ≤ 7 ∧ ∀ l ∈ wd j, 1 ≤ l ∧ l ≤ 26 := by decide +kernel
theorem wd_name {j : Nat} (h : j < 21) : okName (wd j) := wd_ok j h
theorem wd_c : ∀ j, j < 21 → wordC j = lN (code32 (wd j)) := by decide +kernel
theorem wd_inj : ∀ i, i < 21 → ∀ j, j < 21 → wd i = wd j → i = j := by decide +kernel
def kwS : Nat → Nat → List Nat → Nat
  | 0, _, _ => 0
  | d + 1, j, L => if L = wd j then j else kwS d (j + 1) L
/-- the number of a word, 0 for another one -/
def kwF (L : List Nat) : Nat := kwS 20 1 L
theorem kwS_p (L : List Nat) : ∀ d j, (kwS d j L = 0 ∧ ∀ i, j ≤ i → i < j + d → L ≠ wd i) ∨ (j ≤ kwS d j L ∧ kwS d j L < j + d ∧ L = wd (kwS d j L))
  | 0, j => Or.inl ⟨rfl, fun i h1 h2 => by omega⟩
  | d + 1, j => by
    by_cases q : L = wd j
    · have e : kwS (d + 1) j L = j := if_pos q
      rw [e]
      exact Or.inr ⟨Nat.le_refl _, by omega, q⟩
    · have e : kwS (d + 1) j L = kwS d (j + 1) L := if_neg q
      rw [e]
      rcases kwS_p L d (j + 1) with ⟨h1, h2⟩ | ⟨h1, h2, h3⟩
      · refine Or.inl ⟨h1, fun i i1 i2 => ?_⟩
        by_cases w : i = j
        · rw [w]; exact q
        · exact h2 i (by omega) (by omega)
      · exact Or.inr ⟨by omega, by omega, h3⟩
theorem kwF_lt (L : List Nat) : kwF L < 21 := by
  rcases kwS_p L 20 1 with ⟨h1, -⟩ | ⟨-, h2, -⟩
  · show kwS 20 1 L < 21; omega
  · show kwS 20 1 L < 21; omega
theorem kwF_iff {L : List Nat} {j : Nat} (h1 : 1 ≤ j) (h2 : j < 21) : kwF L = j ↔ L = wd j := by
  rcases kwS_p L 20 1 with ⟨e, h⟩ | ⟨a, b, h⟩
  · refine ⟨fun q => ?_, fun q => absurd q (h j h1 (by omega))⟩
    have : kwS 20 1 L = j := q
    omega
  · refine ⟨fun q => ?_, fun q => ?_⟩
    · have q' : kwS 20 1 L = j := q
      rw [← q']; exact h
    · have : wd (kwS 20 1 L) = wd j := by rw [← h]; exact q
      show kwS 20 1 L = j
      exact wd_inj _ (by omega) _ h2 this
theorem kwF_0 {L : List Nat} : kwF L = 0 ↔ ∀ j, 1 ≤ j → j < 21 → L ≠ wd j := by
  constructor
  · intro e j h1 h2 q
    have := (kwF_iff h1 h2).mpr q
    omega
  · intro h
    rcases kwS_p L 20 1 with ⟨e, -⟩ | ⟨a, b, q⟩
    · exact e
    · exact absurd q (h _ a (by omega))
section WORDS
variable {F : Nat} {f g : Hp} {st : RS} {L : List Nat}
theorem cword_L (S : St4 f) (ok : okName L) (hne : L ≠ []) : ∀ (d i z : Nat), i + d = 21 → d < z → (∀ j, 1 ≤ j → j < i → L ≠ wd j) → m_X9_wordOf_L10 F z (lN (code32 L)) (some 32) (nI 21) (nI i) f = some (some (kwF L)) := by
  intro d
  induction d with
  | zero =>
    intro i z hi hz hj
    obtain ⟨z, rfl⟩ : ∃ j, z = j + 1 := ⟨z - 1, by omega⟩
    show m_X9_wordOf_b10 F _ _ _ _ _ _ = _
    unfold m_X9_wordOf_b10
    rw [if_pos (nI_le (by omega) (by omega)), kwF_0.mpr (fun j h1 h2 => hj j h1 (by omega))]
  | succ d ih =>
    intro i z hi hz hj
    obtain ⟨z, rfl⟩ : ∃ j, z = j + 1 := ⟨z - 1, by omega⟩
    have e : enI (some i) = some i := if_pos (show i < 21 by omega)
    show m_X9_wordOf_b10 F _ _ _ _ _ _ = _
    unfold m_X9_wordOf_b10
    rw [if_neg (nI_ge (by omega) (by omega)), bd_e (ldR_e S.wrd (show i < 21 by omega) (by omega)), bd_e e, wd_c i (by omega)]
    by_cases q : L = wd i
    · have i0 : 1 ≤ i := by
        refine Nat.one_le_iff_ne_zero.mpr (fun h => hne ?_)
        rw [q, h]; rfl
      rw [if_pos ((lg_cmp_eq _ _).mpr (by rw [q])), (kwF_iff i0 (by omega)).mpr q]
    · rw [if_neg (fun c => q ((c32_inj (wd_name (by omega)) ok).mp ((lg_cmp_eq _ _).mp c)).symm), nm_e2, nI_1]
      exact ih (i + 1) z (by omega) (by omega) (fun j h1 h2 => by
        by_cases w : j = i
        · rw [w]; exact q
        · exact hj j h1 (by omega))
theorem cword_e (hF : 22 ≤ F) (S : St4 f) (ok : okName L) (hne : L ≠ []) : m_X9_wordOf F (lN (code32 L)) f = some (some (kwF L)) := by
  unfold m_X9_wordOf
  rw [bd_e (alen_e S.wrd (by decide))]
  exact cword_L S ok hne 21 0 F (by omega) (by omega) (fun j h1 h2 => absurd h2 (Nat.not_lt_zero _))
/-- the reference's numbers of the words -/
def wm (k : Nat) : Nat := match k with | 0 => 1 | 1 => 2 | 2 => 3 | 3 => 7 | 4 => 8 | 5 => 9 | 6 => 4 | 7 => 5 | 8 => 6 | k => k + 1
theorem wm_lt : ∀ k, k < 20 → 1 ≤ wm k ∧ wm k < 21 := by decide +kernel
theorem rword_e {k : Nat} (hk : k < 20) : m_X12_wordOf F (nI k) f = some (lN (code27 (wd (wm k)))) := by
  match k, hk with
  | 0, _ => rfl
  | 1, _ => rfl
  | 2, _ => rfl
  | 3, _ => rfl
  | 4, _ => rfl
  | 5, _ => rfl
  | 6, _ => rfl
  | 7, _ => rfl
  | 8, _ => rfl
  | 9, _ => rfl
  | 10, _ => rfl
  | 11, _ => rfl
  | 12, _ => rfl
  | 13, _ => rfl
  | 14, _ => rfl
  | 15, _ => rfl
  | 16, _ => rfl
  | 17, _ => rfl
  | 18, _ => rfl
  | 19, _ => rfl
  | k + 20, h => omega
end WORDS
