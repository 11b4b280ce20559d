/-! a COPY's cell, told by its lines -/
def pix (a b : Nat) : Nat := max a b * (max a b - 1) / 2 + min a b
def hiT (k : Nat) : Nat := if k < 1 then 1 else if k < 3 then 2 else if k < 6 then 3 else if k < 10 then 4 else if k < 15 then 5 else 6
def loT (k : Nat) : Nat := k - hiT k * (hiT k - 1) / 2
theorem pix_iff0 : ∀ y, y < 7 → ∀ x, x < 7 → ∀ k, k < 21 → y ≠ x → decide (pix y x = k) = (decide (y = hiT k) && decide (x = loT k) || decide (y = loT k) && decide (x = hiT k)) := by decide +kernel
theorem pix_iff (y : Nat) (hy : y < 7) (x : Nat) (hx : x < 7) (h : y ≠ x) (k : Nat) (hk : k < 21) : pix y x = k ↔ (y = hiT k ∧ x = loT k) ∨ (y = loT k ∧ x = hiT k) := by
  have h1 := pix_iff0 y hy x hx k hk h
  rw [Bool.eq_iff_iff] at h1
  simpa using h1
theorem pix_lt : ∀ y, y < 7 → ∀ x, x < 7 → y ≠ x → pix y x < 21 := by decide +kernel
theorem hl_lt : ∀ k, k < 21 → loT k < hiT k ∧ hiT k < 7 := by decide +kernel
def prB (L : List Nat) (k : Nat) : Bool := decide (hiT k ∈ L) && decide (loT k ∈ L)
def tnB (L : List Nat) (k : Nat) : Bool := prB L k && decide (L.idxOf (hiT k) < L.idxOf (loT k))
def lnB (L : List Nat) (k : Nat) : Bool := decide (k ∈ L)
def pkN : List Nat → Nat
  | [] => 0
  | l :: L => l + 16 * pkN L
/-- lines of a copy: less than 7 each, unlike -/
def okL (L : List Nat) : Prop := (∀ x ∈ L, x < 7) ∧ L.Nodup
def cC (nm : Int64) (L : List Nat) : List Value := [.long nm, .int (nI L.length), .int (nI (pkN L)), .int (nI (bitsOf 7 (lnB L))), .int (nI (bitsOf 21 (prB L))), .int (nI (bitsOf 21 (tnB L)))]
theorem nd_le : ∀ (n : Nat) (L : List Nat), (∀ x ∈ L, x < n) → L.Nodup → L.length ≤ n := by
  intro n
  induction n with
  | zero =>
    intro L h _
    cases L with
    | nil => exact Nat.le_refl _
    | cons x L => exact absurd (h x List.mem_cons_self) (Nat.not_lt_zero _)
  | succ n ih =>
    intro L h hd
    by_cases hn : n ∈ L
    · have h1 := ih (L.erase n) (fun x hx => by
        have h2 := (List.Nodup.mem_erase_iff hd).mp hx
        have h3 := h x h2.2
        have h4 := h2.1
        omega) (hd.erase n)
      rw [List.length_erase_of_mem hn] at h1
      omega
    · have h1 := ih L (fun x hx => by
        have h3 := h x hx
        have h4 : x ≠ n := fun e => hn (e ▸ hx)
        omega) hd
      omega
theorem okL_len {L : List Nat} (h : okL L) : L.length ≤ 7 := nd_le 7 L h.1 h.2
theorem pkN_lt {L : List Nat} (h : ∀ x ∈ L, x < 16) : pkN L < 16 ^ L.length := by
  induction L with
  | nil => exact Nat.one_pos
  | cons l L ih =>
    have h1 := ih (fun x hx => h x (List.mem_cons_of_mem _ hx))
    have h2 := h l List.mem_cons_self
    simp only [pkN, List.length_cons, Nat.pow_succ]
    omega
theorem pkN_at {L : List Nat} (h : ∀ x ∈ L, x < 16) {i : Nat} (hi : i < L.length) : pkN L / 16 ^ i % 16 = L[i] := by
  induction L generalizing i with
  | nil => cases hi
  | cons l L ih =>
    have h2 := h l List.mem_cons_self
    cases i with
    | zero => simp only [pkN, Nat.pow_zero, Nat.div_one, List.getElem_cons_zero]; omega
    | succ i =>
      have h3 := ih (fun x hx => h x (List.mem_cons_of_mem _ hx)) (i := i) (by simpa using hi)
      simp only [pkN, List.getElem_cons_succ]
      rw [Nat.pow_succ, Nat.mul_comm (16 ^ i) 16, ← Nat.div_div_eq_div_mul, show (l + 16 * pkN L) / 16 = pkN L by omega]
      exact h3
theorem pkN_app (L : List Nat) (x : Nat) : pkN (L ++ [x]) = pkN L + x * 16 ^ L.length := by
  induction L with
  | nil => simp [pkN]
  | cons l L ih =>
    simp only [List.cons_append, pkN, ih, List.length_cons, Nat.pow_succ]
    rw [Nat.mul_add, ← Nat.mul_assoc, Nat.mul_comm 16 x, Nat.mul_assoc, Nat.mul_comm 16 (16 ^ L.length)]
    omega
theorem lineOf_e (F : Nat) (f : Hp) {q i : Nat} (hq : q < 2 ^ 32) (hi : i < 8) : m_X11_lineOf F (nI q) (nI i) f = some (nI (q / 16 ^ i % 16)) := by
  unfold m_X11_lineOf
  have k4 : (4 : Int32) = nI 4 := rfl
  have k15 : (15 : Int32) = nI 15 := rfl
  rw [k4, k15, nI_mul, nI_ushr hq (by omega), nI_and]
  rw [show (15 : Nat) = 2 ^ 4 - 1 from rfl, Nat.and_two_pow_sub_one_eq_mod, show (2 : Nat) ^ (4 * i) = 16 ^ i by rw [Nat.pow_mul]]
theorem lineOf_L (F : Nat) (f : Hp) {L : List Nat} (h : okL L) {i : Nat} (hi : i < L.length) : m_X11_lineOf F (nI (pkN L)) (nI i) f = some (nI L[i]) := by
  have h7 := okL_len h
  have h16 : ∀ x ∈ L, x < 16 := fun x hx => Nat.lt_trans (h.1 x hx) (by decide)
  have h1 : pkN L < 2 ^ 32 := by
    have h2 := pkN_lt h16
    have h3 : 16 ^ L.length ≤ 16 ^ 7 := Nat.pow_le_pow_right (by decide) h7
    exact Nat.lt_of_lt_of_le h2 (Nat.le_trans h3 (by decide))
  rw [lineOf_e F f h1 (by omega), pkN_at h16 hi]
theorem pairBit_k : ∀ a, a < 7 → ∀ b, b < 7 → a ≠ b → (1 : Int32) <<< ((((imax (nI a) (nI b) * (imax (nI a) (nI b) - (1 : Int32))) / (2 : Int32)) + (imin (nI a) (nI b))) &&& 31) = nI (2 ^ pix a b) := by decide +kernel
theorem pairBit_e (F : Nat) (f : Hp) {a b : Nat} (ha : a < 7) (hb : b < 7) (hab : a ≠ b) : m_X11_pairBit F (nI a) (nI b) f = some (nI (2 ^ pix a b)) := by
  unfold m_X11_pairBit
  simp only [nm_e2]
  rw [ck_e (by decide), pairBit_k a ha b hb hab]
theorem bit_ne {m x : Nat} (hm : m < 2 ^ 31) (hx : x < 32) : ((ius (nI m) (nI x)) &&& (1 : Int32)) = nI (m.testBit x).toNat := by
  have k1 : (1 : Int32) = nI 1 := rfl
  rw [k1, nI_ushr (by omega) hx, nI_and, Nat.toNat_testBit]
  congr 1
  exact Nat.and_one_is_mod _
theorem hasLine_e (F : Nat) {f : Hp} {a x : Nat} {nm : Int64} {L : List Nat} (h : f a = some (.inl (0, cC nm L))) (hx : x < 7) : m_X1_hasLine F (some a) (nI x) f = some (if x ∈ L then 1 else 0) := by
  unfold m_X1_hasLine
  rw [bd_e (gI_e h rfl)]
  have h31 : bitsOf 7 (lnB L) < 2 ^ 31 := Nat.lt_trans (bitsOf_lt 7 _) (by decide)
  rw [bit_ne h31 (by omega), bitsOf_test]
  by_cases hl : x ∈ L
  · simp [hx, lnB, hl, chk, okZ, nI_ne0]
  · simp [hx, lnB, hl, chk, okZ, nI_0]
/-- what the loop of append has added of the first i lines -/
def adB (L : List Nat) (x i k : Nat) : Bool := (L.take i).any (fun y => pix y x == k)
def adT (L : List Nat) (x i k : Nat) : Bool := (L.take i).any (fun y => pix y x == k && decide (x < y))
theorem take_any {L : List Nat} {i : Nat} (hi : i < L.length) (P : Nat → Bool) : (L.take (i + 1)).any P = ((L.take i).any P || P L[i]) := by
  rw [List.take_succ, List.any_append, List.getElem?_eq_getElem hi]
  simp
def cM (nm : Int64) (L : List Nat) (x i : Nat) : List Value := [.long nm, .int (nI L.length), .int (nI (pkN L)), .int (nI (bitsOf 7 (lnB L))), .int (nI (bitsOf 21 (fun k => prB L k || adB L x i k))), .int (nI (bitsOf 21 (fun k => tnB L k || adT L x i k)))]
theorem ad_one {L : List Nat} {x i : Nat} (hL : okL L) (hx : x < 7) (hxL : x ∉ L) (hi : i < L.length) : 2 ^ pix L[i] x = bitsOf 21 (fun k => pix L[i] x == k) := by
  have h1 : L[i] ∈ L := List.getElem_mem hi
  have h2 : L[i] ≠ x := fun e => hxL (e ▸ h1)
  rw [bitsOf_one (pix_lt _ (hL.1 _ h1) _ hx h2)]
  exact bitsOf_ext fun k _ => by
    by_cases h : k = pix L[i] x
    · rw [← h]
    · rw [beq_eq_false_iff_ne.mpr h, beq_eq_false_iff_ne.mpr (Ne.symm h)]
theorem pr_app {L : List Nat} {x k : Nat} (hL : okL L) (hx : x < 7) (hxL : x ∉ L) (hk : k < 21) : (prB L k || adB L x L.length k) = prB (L ++ [x]) k := by
  unfold prB adB
  rw [List.take_length]
  obtain ⟨h1, h2⟩ := hl_lt k hk
  have h3 : L.any (fun y => pix y x == k) = (decide (hiT k ∈ L ∧ x = loT k) || decide (loT k ∈ L ∧ x = hiT k)) := by
    rw [Bool.eq_iff_iff]
    simp only [List.any_eq_true, beq_iff_eq, Bool.or_eq_true, decide_eq_true_eq]
    constructor
    · rintro ⟨y, hy, e⟩
      have hne : y ≠ x := fun e => hxL (e ▸ hy)
      rcases (pix_iff y (hL.1 y hy) x hx hne k hk).mp e with ⟨rfl, e2⟩ | ⟨rfl, e2⟩
      · exact Or.inl ⟨hy, e2⟩
      · exact Or.inr ⟨hy, e2⟩
    · rintro (⟨hy, e⟩ | ⟨hy, e⟩)
      · exact ⟨_, hy, (pix_iff _ (hL.1 _ hy) x hx (fun e => hxL (e ▸ hy)) k hk).mpr (Or.inl ⟨rfl, e⟩)⟩
      · exact ⟨_, hy, (pix_iff _ (hL.1 _ hy) x hx (fun e => hxL (e ▸ hy)) k hk).mpr (Or.inr ⟨rfl, e⟩)⟩
  rw [h3, Bool.eq_iff_iff]
  simp only [Bool.or_eq_true, Bool.and_eq_true, decide_eq_true_eq, List.mem_append, List.mem_singleton]
  constructor
  · rintro (⟨q1, q2⟩ | ⟨q1, q2⟩ | ⟨q1, q2⟩)
    · exact ⟨Or.inl q1, Or.inl q2⟩
    · exact ⟨Or.inl q1, Or.inr q2.symm⟩
    · exact ⟨Or.inr q2.symm, Or.inl q1⟩
  · rintro ⟨q1 | q1, q2 | q2⟩
    · exact Or.inl ⟨q1, q2⟩
    · exact Or.inr (Or.inl ⟨q1, q2.symm⟩)
    · exact Or.inr (Or.inr ⟨q2, q1.symm⟩)
    · omega
theorem tn_app {L : List Nat} {x k : Nat} (hL : okL L) (hx : x < 7) (hxL : x ∉ L) (hk : k < 21) : (tnB L k || adT L x L.length k) = tnB (L ++ [x]) k := by
  unfold tnB prB adT
  rw [List.take_length]
  obtain ⟨h1, h2⟩ := hl_lt k hk
  have h3 : L.any (fun y => pix y x == k && decide (x < y)) = decide (hiT k ∈ L ∧ x = loT k) := by
    rw [Bool.eq_iff_iff]
    simp only [List.any_eq_true, beq_iff_eq, Bool.and_eq_true, decide_eq_true_eq]
    constructor
    · rintro ⟨y, hy, e, hlt⟩
      have hne : y ≠ x := fun e => hxL (e ▸ hy)
      rcases (pix_iff y (hL.1 y hy) x hx hne k hk).mp e with ⟨rfl, e2⟩ | ⟨rfl, e2⟩
      · exact ⟨hy, e2⟩
      · omega
    · rintro ⟨hy, e⟩
      exact ⟨_, hy, (pix_iff _ (hL.1 _ hy) x hx (fun e => hxL (e ▸ hy)) k hk).mpr (Or.inl ⟨rfl, e⟩), by omega⟩
  have hidx : ∀ y, y ∈ L → (L ++ [x]).idxOf y = L.idxOf y := fun y hy => by rw [List.idxOf_append, if_pos hy]
  have hidx2 : (L ++ [x]).idxOf x = L.length := by
    rw [List.idxOf_append, if_neg hxL]
    simp
  rw [h3, Bool.eq_iff_iff]
  simp only [Bool.or_eq_true, Bool.and_eq_true, decide_eq_true_eq, List.mem_append, List.mem_singleton]
  constructor
  · rintro (⟨⟨q1, q2⟩, q3⟩ | ⟨q1, q2⟩)
    · exact ⟨⟨Or.inl q1, Or.inl q2⟩, by rw [hidx _ q1, hidx _ q2]; exact q3⟩
    · refine ⟨⟨Or.inl q1, Or.inr q2.symm⟩, ?_⟩
      rw [hidx _ q1, ← q2, hidx2]
      exact List.idxOf_lt_length_iff.mpr q1
  · rintro ⟨⟨q1 | q1, q2 | q2⟩, q3⟩
    · rw [hidx _ q1, hidx _ q2] at q3
      exact Or.inl ⟨⟨q1, q2⟩, q3⟩
    · exact Or.inr ⟨q1, q2.symm⟩
    · rw [hidx _ q2, q1, hidx2] at q3
      have := List.idxOf_lt_length_iff.mpr q2
      omega
    · omega
theorem ln_app {L : List Nat} {x : Nat} (hx : x < 7) : bitsOf 7 (lnB L) ||| 2 ^ x = bitsOf 7 (lnB (L ++ [x])) := by
  rw [bitsOf_one hx, bitsOf_or]
  exact bitsOf_ext fun k _ => by
    unfold lnB
    by_cases h : k = x
    · simp [h]
    · by_cases h2 : k ∈ L <;> simp [h, h2]
theorem ofs1 {L : List Nat} {x : Nat} (h : okL L) (hx : x < 7) (hlen : L.length < 7) : nI (pkN L) ||| (nI x <<< (((4 : Int32) * nI L.length) &&& 31)) = nI (pkN (L ++ [x])) := by
  have k4 : (4 : Int32) = nI 4 := rfl
  have h1 := pkN_lt (fun y hy => Nat.lt_trans (h.1 y hy) (by decide : (7 : Nat) < 16))
  have h2 : x * 2 ^ (4 * L.length) < 2 ^ 32 := by
    have h3 : 2 ^ (4 * L.length) ≤ 2 ^ 24 := Nat.pow_le_pow_right (by decide) (by omega)
    have h4 : x * 2 ^ (4 * L.length) ≤ 7 * 2 ^ 24 := Nat.mul_le_mul (by omega) h3
    exact Nat.lt_of_le_of_lt h4 (by decide)
  rw [k4, nI_mul, nI_shl (by omega) h2, nI_or, pkN_app]
  congr 1
  rw [show (2 : Nat) ^ (4 * L.length) = 16 ^ L.length by rw [Nat.pow_mul]]
  have h5 : 2 ^ (4 * L.length) = 16 ^ L.length := by rw [Nat.pow_mul]
  have h6 := Nat.two_pow_add_eq_or_of_lt (i := 4 * L.length) (b := pkN L) (by rw [h5]; exact h1) x
  rw [h5] at h6
  rw [Nat.or_comm, Nat.mul_comm x, ← h6, Nat.add_comm]
theorem append_B (F : Nat) {g : Hp} {a x : Nat} {nm : Int64} {L : List Nat} (hL : okL L) (hx : x < 7) (hxL : x ∉ L) (hlen : L.length < 7) : m_X1_append_B59 F (some a) (nI x) (va_up g a (some (.inl (0, cM nm L x L.length)))) = some (va_up g a (some (.inl (0, cC nm (L ++ [x]))))) := by
  unfold m_X1_append_B59
  have k1 : (1 : Int32) = nI 1 := rfl
  rw [bd_e (gI_u rfl), bd_e (gI_u rfl), bd_e (pV_u (Nat.le_of_ble_eq_true rfl)), bd_e (gI_u rfl), bd_e (pV_u (Nat.le_of_ble_eq_true rfl)), bd_e (gI_u rfl), bd_e (pV_u (Nat.le_of_ble_eq_true rfl))]
  rw [ofs1 hL hx hlen, nI_1, k1, nI_shl (n := 1) (by omega) (by rw [Nat.one_mul]; exact Nat.pow_lt_pow_right (by decide) (by omega)), Nat.one_mul, nI_or, ln_app hx]
  have e1 : bitsOf 21 (fun k => prB L k || adB L x L.length k) = bitsOf 21 (prB (L ++ [x])) := bitsOf_ext fun k hk => pr_app hL hx hxL hk
  have e2 : bitsOf 21 (fun k => tnB L k || adT L x L.length k) = bitsOf 21 (tnB (L ++ [x])) := bitsOf_ext fun k hk => tn_app hL hx hxL hk
  unfold cM
  rw [e1, e2]
  unfold cC
  rw [List.length_append]
  rfl
theorem cM_0 (nm : Int64) (L : List Nat) (x : Nat) : cM nm L x 0 = cC nm L := by
  unfold cM cC
  have e1 : bitsOf 21 (fun k => prB L k || adB L x 0 k) = bitsOf 21 (prB L) := bitsOf_ext fun k _ => by simp [adB]
  have e2 : bitsOf 21 (fun k => tnB L k || adT L x 0 k) = bitsOf 21 (tnB L) := bitsOf_ext fun k _ => by simp [adT]
  rw [e1, e2]
theorem append_L (F : Nat) {g : Hp} {a x : Nat} {nm : Int64} {L : List Nat} (hL : okL L) (hx : x < 7) (hxL : x ∉ L) (hlen : L.length < 7) : ∀ (d i k : Nat), i + d = L.length → d < k → m_X1_append_L2 F k (some a) (nI x) (nI i) (va_up g a (some (.inl (0, cM nm L x i)))) = some (va_up g a (some (.inl (0, cC nm (L ++ [x]))))) := by
  intro d
  induction d with
  | zero =>
    intro i k hi hk
    obtain ⟨k, rfl⟩ : ∃ j, k = j + 1 := ⟨k - 1, by omega⟩
    have : i = L.length := by omega
    subst this
    show m_X1_append_b2 F _ _ _ _ _ = _
    unfold m_X1_append_b2
    rw [bd_e (gI_u rfl), if_pos (nI_le (Nat.le_refl _) (by omega))]
    exact append_B F hL hx hxL hlen
  | succ d ih =>
    intro i k hi hk
    obtain ⟨k, rfl⟩ : ∃ j, k = j + 1 := ⟨k - 1, by omega⟩
    have hil : i < L.length := by omega
    have hm : L[i] ∈ L := List.getElem_mem hil
    have h7 : L[i] < 7 := hL.1 _ hm
    have hne : L[i] ≠ x := fun e => hxL (e ▸ hm)
    show m_X1_append_b2 F _ _ _ _ _ = _
    unfold m_X1_append_b2
    rw [bd_e (gI_u rfl), if_neg (nI_ge hil (by omega)), bd_e (gI_u rfl), bd_e (lineOf_L F _ hL hil), bd_e (pairBit_e F _ h7 hx hne), bd_e (gI_u rfl), nI_or, ad_one hL hx hxL hil, bitsOf_or, bd_e (pV_u (Nat.le_of_ble_eq_true rfl))]
    have e1 : bitsOf 21 (fun k => (prB L k || adB L x i k) || pix L[i] x == k) = bitsOf 21 (fun k => prB L k || adB L x (i + 1) k) := bitsOf_ext fun k _ => by
      simp only [adB]
      rw [take_any hil, Bool.or_assoc]
    rw [e1]
    by_cases hlt : L[i] ≤ x
    · rw [if_pos (nI_le hlt (by omega)), nm_e2, nI_1]
      have e2 : bitsOf 21 (fun k => tnB L k || adT L x i k) = bitsOf 21 (fun k => tnB L k || adT L x (i + 1) k) := bitsOf_ext fun k _ => by
        simp only [adT]
        rw [take_any hil]
        simp [Nat.not_lt.mpr hlt]
      have e3 : (cM nm L x i).set 4 (.int (nI (bitsOf 21 fun k => prB L k || adB L x (i + 1) k))) = cM nm L x (i + 1) := by
        unfold cM
        rw [e2]
        rfl
      rw [e3]
      exact ih (i + 1) k (by omega) (by omega)
    · rw [if_neg (nI_ge (by omega) (by omega)), bd_e (gI_u rfl), nI_or, bitsOf_or, bd_e (pV_u (Nat.le_of_ble_eq_true rfl)), nm_e2, nI_1]
      have e2 : bitsOf 21 (fun k => (tnB L k || adT L x i k) || pix L[i] x == k) = bitsOf 21 (fun k => tnB L k || adT L x (i + 1) k) := bitsOf_ext fun k _ => by
        simp only [adT]
        rw [take_any hil, Bool.or_assoc]
        simp [Nat.lt_of_not_le hlt]
      rw [e2]
      have e3 : ((cM nm L x i).set 4 (.int (nI (bitsOf 21 fun k => prB L k || adB L x (i + 1) k)))).set 5 (.int (nI (bitsOf 21 fun k => tnB L k || adT L x (i + 1) k))) = cM nm L x (i + 1) := rfl
      rw [e3]
      exact ih (i + 1) k (by omega) (by omega)
theorem append_e {F : Nat} (hF : 8 ≤ F) {f : Hp} {a x : Nat} {nm : Int64} {L : List Nat} (h : f a = some (.inl (0, cC nm L))) (hL : okL L) (hx : x < 7) (hxL : x ∉ L) (hlen : L.length < 7) : m_X1_append F (some a) (nI x) f = some (va_up f a (some (.inl (0, cC nm (L ++ [x]))))) := by
  have h1 := append_L F (g := f) (a := a) (nm := nm) hL hx hxL hlen L.length 0 F (by omega) (by omega)
  rw [cM_0, up_id h] at h1
  exact h1
theorem cC_nil (nm : Int64) : cC nm [] = [.long nm, .int 0, .int 0, .int 0, .int 0, .int 0] := rfl
theorem cclear_e (F : Nat) {f : Hp} {a : Nat} {fs : List Value} (h : f a = some (.inl (0, fs))) (hl : fs.length = 6) : m_X1_clear F (some a) f = some (va_up f a (some (.inl (0, cC 0 [])))) := by
  unfold m_X1_clear
  match fs, hl with
  | [v0, v1, v2, v3, v4, v5], _ =>
    rw [bd_e (pV_e h (by simp)), bd_e (pV_u (by simp)), bd_e (pV_u (by simp)), bd_e (pV_u (by simp)), bd_e (pV_u (by simp)), bd_e (pV_u (by simp))]
    rfl
theorem cbecome_e (F : Nat) {f : Hp} {a b : Nat} {fs : List Value} {n0 : Int64} {i1 i2 i3 i4 i5 : Int32} (h : f a = some (.inl (0, fs))) (hl : fs.length = 6) (hab : b ≠ a) (hb : f b = some (.inl (0, [.long n0, .int i1, .int i2, .int i3, .int i4, .int i5]))) : m_X1_become F (some a) (some b) f = some (va_up f a (some (.inl (0, [.long n0, .int i1, .int i2, .int i3, .int i4, .int i5])))) := by
  unfold m_X1_become
  match fs, hl with
  | [v0, v1, v2, v3, v4, v5], _ =>
    rw [bd_e (gJ_e hb rfl), bd_e (pV_e h (by simp))]
    rw [gI_o hab, bd_e (gI_e hb rfl), bd_e (pV_u (by simp))]
    rw [gI_o hab, bd_e (gI_e hb rfl), bd_e (pV_u (by simp))]
    rw [gI_o hab, bd_e (gI_e hb rfl), bd_e (pV_u (by simp))]
    rw [gI_o hab, bd_e (gI_e hb rfl), bd_e (pV_u (by simp))]
    rw [gI_o hab, bd_e (gI_e hb rfl), bd_e (pV_u (by simp))]
    rfl
/-- STEPS of two rows of lines; lines that one has alone; FAR -/
def stp (A B : List Nat) : Nat := cnt 21 (fun k => (tnB A k != tnB B k) && prB A k && prB B k)
def fal (A B : List Nat) : Nat := cnt 7 (fun k => lnB A k != lnB B k)
theorem cnt_false (d : Nat) : cnt d (fun _ => false) = 0 := by
  induction d with
  | zero => rfl
  | succ d ih => simp [cnt, ih]
theorem cnt_bits {n m : Nat} (h : n ≤ m) (P : Nat → Bool) : cnt m (bitsOf n P).testBit = cnt n P := by
  obtain ⟨d, rfl⟩ : ∃ d, m = n + d := ⟨m - n, by omega⟩
  rw [cnt_add]
  have e1 : cnt n (bitsOf n P).testBit = cnt n P := cnt_ext fun i hi => by rw [bitsOf_test]; simp [hi]
  have e2 : cnt d (fun i => (bitsOf n P).testBit (n + i)) = cnt d (fun _ => false) := cnt_ext fun i _ => by
    rw [bitsOf_test, decide_eq_false (by omega), Bool.false_and]
  rw [e1, e2, cnt_false, Nat.add_zero]
theorem pop_b (F : Nat) (f : Hp) {n : Nat} (h : n ≤ 24) (P : Nat → Bool) : m_J6_bitCount_0f7a4 F (nI (bitsOf n P)) f = some (nI (cnt n P)) := by
  rw [pop_e F f (Nat.lt_of_lt_of_le (bitsOf_lt n P) (Nat.pow_le_pow_right (by decide) h)), cnt_bits h]
theorem stepsTo_e (F : Nat) {f : Hp} {a b : Nat} {na nb : Int64} {A B : List Nat} (ha : f a = some (.inl (0, cC na A))) (hb : f b = some (.inl (0, cC nb B))) : m_X1_stepsTo F (some a) (some b) f = some (nI (stp A B)) := by
  unfold m_X1_stepsTo
  rw [bd_e (gI_e ha rfl), bd_e (gI_e hb rfl), bd_e (gI_e ha rfl), bd_e (gI_e hb rfl), nI_xor, nI_and, nI_and, bitsOf_xor, bitsOf_and, bitsOf_and, bd_e (pop_b F f (by decide) _)]
  rfl
theorem fallenTo_e (F : Nat) {f : Hp} {a b : Nat} {na nb : Int64} {A B : List Nat} (ha : f a = some (.inl (0, cC na A))) (hb : f b = some (.inl (0, cC nb B))) : m_X1_fallenTo F (some a) (some b) f = some (nI (fal A B)) := by
  unfold m_X1_fallenTo
  rw [bd_e (gI_e ha rfl), bd_e (gI_e hb rfl), nI_xor, bitsOf_xor, bd_e (pop_b F f (by decide) _)]
  rfl
theorem farTo_e (F : Nat) {f : Hp} {a b : Nat} {na nb : Int64} {A B : List Nat} (ha : f a = some (.inl (0, cC na A))) (hb : f b = some (.inl (0, cC nb B))) : m_X1_farTo F (some a) (some b) f = some (nI (stp A B + 3 * fal A B)) := by
  unfold m_X1_farTo
  rw [ck_e (isO_e ha), bd_e (stepsTo_e F ha hb), ck_e (isO_e ha), bd_e (fallenTo_e F ha hb)]
  rw [show (3 : Int32) = nI 3 from rfl, nI_mul, nI_add]
theorem placeOf_L (F : Nat) {f : Hp} {a x : Nat} {nm : Int64} {L : List Nat} (h : f a = some (.inl (0, cC nm L))) (hL : okL L) (hx : x < 7) : ∀ (d i k : Nat), i + d = L.length → d < k → (∀ j, j < i → ∀ hj : j < L.length, L[j] ≠ x) → m_X1_placeOf_L2 F k (some a) (nI x) (nI i) f = some (if x ∈ L then nI (L.idxOf x) else (-1 : Int32)) := by
  have h7 := okL_len hL
  intro d
  induction d with
  | zero =>
    intro i k hi hk hno
    obtain ⟨k, rfl⟩ : ∃ j, k = j + 1 := ⟨k - 1, by omega⟩
    show m_X1_placeOf_b2 F _ _ _ _ _ = _
    unfold m_X1_placeOf_b2
    rw [bd_e (gI_e h rfl), if_pos (nI_le (by omega) (by omega))]
    have : x ∉ L := fun hm => by
      obtain ⟨j, hj, e⟩ := List.getElem_of_mem hm
      exact hno j (by omega) hj e
    rw [if_neg this]
  | succ d ih =>
    intro i k hi hk hno
    obtain ⟨k, rfl⟩ : ∃ j, k = j + 1 := ⟨k - 1, by omega⟩
    have hil : i < L.length := by omega
    have h8 : L[i] < 7 := hL.1 _ (List.getElem_mem hil)
    show m_X1_placeOf_b2 F _ _ _ _ _ = _
    unfold m_X1_placeOf_b2
    rw [bd_e (gI_e h rfl), if_neg (nI_ge hil (by omega)), bd_e (gI_e h rfl), bd_e (lineOf_L F _ hL hil)]
    by_cases e : L[i] = x
    · rw [if_pos (by rw [e]), if_pos (e ▸ List.getElem_mem hil)]
      congr 2
      subst e
      exact (List.Nodup.idxOf_getElem hL.2 i hil).symm
    · rw [if_neg (fun q => e ((nI_eq (by omega) (by omega)).mp q)), nm_e2, nI_1]
      refine ih (i + 1) k (by omega) (by omega) (fun j hj hjl => ?_)
      by_cases hji : j = i
      · subst hji; exact e
      · exact hno j (by omega) hjl
theorem placeOf_e {F : Nat} (hF : 8 ≤ F) {f : Hp} {a x : Nat} {nm : Int64} {L : List Nat} (h : f a = some (.inl (0, cC nm L))) (hL : okL L) (hx : x < 7) : m_X1_placeOf F (some a) (nI x) f = some (if x ∈ L then nI (L.idxOf x) else (-1 : Int32)) := by
  have h7 := okL_len hL
  exact placeOf_L F h hL hx L.length 0 F (by omega) (by omega) (fun j hj => absurd hj (Nat.not_lt_zero _))
