/-! pairs, lines, SENSE and SONG of whole orders and copies: the class's way is the reference's -/
theorem prB_perm {N : Nat} {A : List Nat} (hA : okP N A) (k : Nat) : prB A k = (decide (hiT k < N) && decide (loT k < N)) := by
  unfold prB
  by_cases h1 : hiT k < N <;> by_cases h2 : loT k < N
  · simp [h1, h2, hA.mem h1, hA.mem h2]
  · have : loT k ∉ A := fun q => h2 (hA.2.1 _ q)
    simp [h2, this]
  · have : hiT k ∉ A := fun q => h1 (hA.2.1 _ q)
    simp [h1, this]
  · have : hiT k ∉ A := fun q => h1 (hA.2.1 _ q)
    simp [h1, this]
theorem prB_sub {N : Nat} {A B : List Nat} (hA : okP N A) (hB : ∀ x ∈ B, x < N) {k : Nat} (h : prB B k = true) : prB A k = true := by
  unfold prB at h
  rw [Bool.and_eq_true, decide_eq_true_eq, decide_eq_true_eq] at h
  rw [prB_perm hA, decide_eq_true (hB _ h.1), decide_eq_true (hB _ h.2)]
  rfl
theorem stp_perm {N : Nat} {A B : List Nat} (hA : okP N A) (hB : ∀ x ∈ B, x < N) : cnt 21 (fun k => (tnB A k != tnB B k) && prB B k) = stp A B := by
  refine cnt_ext (fun k _ => ?_)
  cases h : prB B k
  · simp
  · simp [prB_sub hA hB h]
theorem cnt_not {L : List Nat} (hL : L.Nodup) {N : Nat} (hlt : ∀ x ∈ L, x < N) : cnt N (fun l => decide (l ∉ L)) + L.length = N := by
  have e2 : ∀ m, cnt m (fun l => decide (l ∉ L)) + cnt m (fun l => decide (l ∈ L)) = m := by
    intro m
    induction m with
    | zero => rfl
    | succ m ihm =>
      rw [cnt_s, cnt_s]
      by_cases q : m ∈ L
      · rw [if_neg (by simp [q]), if_pos (by simp [q])]; omega
      · rw [if_pos (by simp [q]), if_neg (by simp [q])]; omega
  have e3 : blw N L = L.length := by
    unfold blw
    rw [List.countP_eq_length]
    exact fun a ha => decide_eq_true (hlt a ha)
  have e4 := e2 N
  rw [cnt_blw hL, e3] at e4
  exact e4
theorem fal_perm {N : Nat} {A B : List Nat} (h7 : N ≤ 7) (hA : okP N A) (hB : B.Nodup) (hlt : ∀ x ∈ B, x < N) : fal A B = N - B.length := by
  rw [← cnt_fal h7 hA.2.1 hlt]
  have h1 := cnt_not hB hlt
  have h2 : cnt N (flB A B) = cnt N (fun l => decide (l ∉ B)) := cnt_ext (fun l hl => by
    unfold flB lnB
    rw [decide_eq_true (hA.mem hl)]
    by_cases q : l ∈ B <;> simp [q])
  rw [h2]
  omega
def allP (N : Nat) (k : Nat) : Bool := decide (hiT k < N) && decide (loT k < N)
theorem allP_perm {N : Nat} {A : List Nat} (hA : okP N A) : bitsOf 21 (prB A) = bitsOf 21 (allP N) := bitsOf_ext (fun k _ => prB_perm hA k)
/-! SENSE by bits -/
theorem pix_hl : ∀ a, a < 7 → ∀ b, b < 7 → a ≠ b → (hiT (pix a b) = max a b ∧ loT (pix a b) = min a b) := by decide +kernel
theorem pr_pix {L : List Nat} {a b : Nat} (ha : a < 7) (hb : b < 7) (hab : a ≠ b) : prB L (pix a b) = (decide (a ∈ L) && decide (b ∈ L)) := by
  obtain ⟨h1, h2⟩ := pix_hl a ha b hb hab
  unfold prB
  rw [h1, h2]
  rcases Nat.lt_or_gt_of_ne hab with h | h
  · rw [Nat.max_eq_right (by omega), Nat.min_eq_left (by omega), Bool.and_comm]
  · rw [Nat.max_eq_left (by omega), Nat.min_eq_right (by omega)]
theorem tn_pix {L : List Nat} {a b : Nat} (ha : a < 7) (hb : b < 7) (hab : b < a) : tnB L (pix a b) = (decide (a ∈ L) && decide (b ∈ L) && decide (L.idxOf a < L.idxOf b)) := by
  obtain ⟨h1, h2⟩ := pix_hl a ha b hb (by omega)
  unfold tnB
  rw [pr_pix ha hb (by omega), h1, h2, Nat.max_eq_left (by omega), Nat.min_eq_right (by omega)]
theorem pix_comm (a b : Nat) : pix a b = pix b a := by unfold pix; rw [Nat.max_comm, Nat.min_comm]
theorem idx_ne {L : List Nat} {a b : Nat} (ha : a ∈ L) (hb : b ∈ L) (hab : a ≠ b) : L.idxOf a ≠ L.idxOf b := fun e => by
  have h1 := List.getElem_idxOf (List.idxOf_lt_length_iff.mpr ha)
  have h2 := List.getElem_idxOf (List.idxOf_lt_length_iff.mpr hb)
  apply hab
  rw [← h1, ← h2]
  congr 1
/-- the class's test of one pair: both there, and the higher line ahead just if it is due so -/
theorem ks_bit {L : List Nat} {a b : Nat} (ha : a < 7) (hb : b < 7) (hab : a ≠ b) : ksB L (a, b) = !(prB L (pix a b) && (tnB L (pix a b) != decide (b < a))) := by
  rw [pr_pix ha hb hab]
  unfold ksB
  by_cases q1 : a ∈ L <;> by_cases q2 : b ∈ L
  · have hne := idx_ne q1 q2 hab
    rcases Nat.lt_or_gt_of_ne hab with h | h
    · rw [pix_comm, tn_pix hb ha h]
      have e : ¬ b < a := by omega
      simp [q1, q2, e]
    · rw [tn_pix ha hb h]
      simp [q1, q2, h]
      by_cases q : L.idxOf a < L.idxOf b
      · rw [decide_eq_false (by omega), decide_eq_true q]; rfl
      · rw [decide_eq_true (by omega), decide_eq_false q]; rfl
  · simp [q1, q2]
  · simp [q1, q2]
  · simp [q1, q2]
/-! SONG by neighbours -/
def sngL (R : List (Nat × Nat × Nat)) (L : List Nat) : Nat → Nat
  | 0 => 0
  | i + 1 => sngL R L i + gain R (L.getD i 0 * 7 + L.getD (i + 1) 0)
theorem sng_1 {L : List Nat} (hL : okL L) {a b g : Nat} (ha : a < 7) (hb : b < 7) : ∀ n, n < L.length → sngL [(a, b, g)] L n = if a ∈ L ∧ L.idxOf a < n ∧ b ∈ L ∧ L.idxOf b = L.idxOf a + 1 then g else 0 := by
  intro n
  induction n with
  | zero => intro _; simp [sngL]
  | succ n ih =>
    intro hn
    have l1 := hL.1 _ (List.getElem_mem (by omega : n < L.length))
    have l2 := hL.1 _ (List.getElem_mem hn)
    have i1 := hL.2.idxOf_getElem n (by omega)
    have i2 := hL.2.idxOf_getElem (n + 1) hn
    have m1 := List.getElem_mem (l := L) (by omega : n < L.length)
    have m2 := List.getElem_mem (l := L) hn
    simp only [sngL]
    rw [ih (by omega), getD_e (by omega : n < L.length), getD_e hn]
    have hg : gain [(a, b, g)] (L[n] * 7 + L[n + 1]) = if a = L[n] ∧ b = L[n + 1] then g else 0 := by
      unfold gain
      simp only [List.map_cons, List.map_nil, List.sum_cons, List.sum_nil, Nat.add_zero]
      by_cases q : a = L[n] ∧ b = L[n + 1]
      · rw [if_pos q, if_pos (by omega)]
      · rw [if_neg q, if_neg (by omega)]
    rw [hg]
    by_cases q : a = L[n] ∧ b = L[n + 1]
    · have ia : L.idxOf a = n := by rw [q.1]; exact i1
      have ib : L.idxOf b = n + 1 := by rw [q.2]; exact i2
      rw [if_pos q, if_neg (by omega), if_pos ⟨by rw [q.1]; exact m1, by omega, by rw [q.2]; exact m2, by omega⟩]
      omega
    · rw [if_neg q, Nat.add_zero]
      by_cases c : a ∈ L ∧ L.idxOf a < n ∧ b ∈ L ∧ L.idxOf b = L.idxOf a + 1
      · rw [if_pos c, if_pos ⟨c.1, by omega, c.2.2.1, c.2.2.2⟩]
      · rw [if_neg c, if_neg]
        rintro ⟨c1, c2, c3, c4⟩
        have e1 : L.idxOf a = n := by
          apply Classical.byContradiction
          intro e
          exact c ⟨c1, by omega, c3, c4⟩
        apply q
        have g1 := List.getElem_idxOf (List.idxOf_lt_length_iff.mpr c1)
        have g2 := List.getElem_idxOf (List.idxOf_lt_length_iff.mpr c3)
        constructor
        · rw [← g1]; congr 1
        · rw [← g2]; congr 1; omega
theorem gain_cons (q : Nat × Nat × Nat) (R : List (Nat × Nat × Nat)) (x : Nat) : gain (q :: R) x = gain [q] x + gain R x := by
  unfold gain
  simp
theorem sngL_cons (q : Nat × Nat × Nat) (R : List (Nat × Nat × Nat)) (L : List Nat) : ∀ n, sngL (q :: R) L n = sngL [q] L n + sngL R L n := by
  intro n
  induction n with
  | zero => rfl
  | succ n ih =>
    simp only [sngL]
    rw [ih, gain_cons]
    omega
theorem sng_e {L : List Nat} (hL : okL L) : ∀ (R : List (Nat × Nat × Nat)), (∀ q ∈ R, q.1 < 7 ∧ q.2.1 < 7) → sngL R L (L.length - 1) = sngR R L := by
  intro R
  induction R with
  | nil =>
    intro _
    have : ∀ n, sngL [] L n = 0 := by
      intro n
      induction n with
      | zero => rfl
      | succ n ih => simp only [sngL]; rw [ih]; rfl
    rw [this]
    rfl
  | cons q R ih =>
    intro h
    rw [sngL_cons, ih (fun x hx => h x (List.mem_cons_of_mem _ hx))]
    obtain ⟨a, b, g⟩ := q
    obtain ⟨ha, hb⟩ := h _ List.mem_cons_self
    show _ = sgB L (a, b, g) + sngR R L
    congr 1
    by_cases h0 : L.length = 0
    · have : L = [] := List.eq_nil_of_length_eq_zero h0
      subst this
      rfl
    · rw [sng_1 hL ha hb _ (by omega)]
      unfold sgB
      by_cases c : a ∈ L ∧ b ∈ L ∧ L.idxOf b = L.idxOf a + 1
      · have h1 := List.idxOf_lt_length_iff.mpr c.2.1
        have h2 : L.idxOf b = L.idxOf a + 1 := c.2.2
        rw [if_pos c, if_pos ⟨c.1, (show L.idxOf a < L.length - 1 by omega), c.2.1, c.2.2⟩]
      · rw [if_neg c, if_neg (fun q => c ⟨q.1, q.2.2.1, q.2.2.2⟩)]
