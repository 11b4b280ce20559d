/-! the reference's reads of its HOUSE; its places of lines -/
def NW (nw : Nat → Int32) (h : HS) : Prop :=
  nw 0 = nI (hN h) ∧ nw 1 = nI (hC h).length ∧ nw 2 = nI (hD h).length ∧ nw 3 = nI (hS h).length ∧ nw 4 = nI (hR h).length ∧
  (∀ c (hc : c < (hC h).length), nw (10 + 8 * c) = nI (hC h)[c].2.length ∧ ∀ i (hi : i < (hC h)[c].2.length), nw (10 + 8 * c + 1 + i) = nI (hC h)[c].2[i]) ∧
  (∀ d (hd : d < (hD h).length), nw (90 + 2 * d) = nI (hD h)[d].1 ∧ ((hD h)[d].1 = 1 → nw (90 + 2 * d + 1) = nI (hD h)[d].2.1)) ∧
  (∀ p, p < 6 → nw (102 + p) = nI (hW h p)) ∧
  (∀ k (hk : k < (hS h).length), nw (110 + 2 * k) = nI (hS h)[k].1 ∧ nw (110 + 2 * k + 1) = nI (hS h)[k].2) ∧
  (∀ k (hk : k < (hR h).length), nw (134 + 3 * k) = nI (hR h)[k].1 ∧ nw (134 + 3 * k + 1) = nI (hR h)[k].2.1 ∧ nw (134 + 3 * k + 2) = nI (hR h)[k].2.2)
/-- the place of a line, -1 without -/
def pl (L : List Nat) (l : Nat) : Int32 := if l ∈ L then nI (L.idxOf l) else (-1 : Int32)
def PL (a : Nat → Int32) (L : List Nat) : Prop := ∀ l, l < 7 → a l = pl L l
theorem pl_yes {L : List Nat} {l : Nat} (h : l ∈ L) : pl L l = nI (L.idxOf l) := if_pos h
theorem pl_no {L : List Nat} {l : Nat} (h : l ∉ L) : pl L l = (-1 : Int32) := if_neg h
theorem nI_nm1 {n : Nat} (h : n < 2 ^ 31) : nI n ≠ (-1 : Int32) := fun e => by
  have h1 : nI n < 0 := by rw [e]; decide
  exact nI_pos h h1
theorem idx7 {L : List Nat} (h : okL L) {l : Nat} (hl : l ∈ L) : L.idxOf l < 7 := Nat.lt_of_lt_of_le (List.idxOf_lt_length_iff.mpr hl) (okL_len h)
theorem pl_iff {L : List Nat} (h : okL L) {l : Nat} : pl L l = (-1 : Int32) ↔ l ∉ L := by
  by_cases hl : l ∈ L
  · rw [pl_yes hl]
    have := idx7 h hl
    exact ⟨fun e => absurd e (nI_nm1 (by omega)), fun e => absurd hl e⟩
  · exact ⟨fun _ => hl, fun _ => pl_no hl⟩
theorem bd_some {α β : Type} {x : α} {k : α → Option β} : (some x).bind k = k x := rfl
section RD
variable {F : Nat} {g : Hp} {st : RS} {h : HS} {β : Type}
theorem q14 {j : Nat} {i : Int32} {K : Int32 → Option β} (hj : j < 412) (hi : i = nI j) : ((gR (ov g st) (some 179) 10 14).bind fun x => (ldI (ov g st) 1 x i).bind K) = K (sA st 14 j) := by
  rw [rR_14, bd_some, hi, rE_14 hj, bd_some]
theorem q26 {j : Nat} {K : Int32 → Option β} (hj : j < 7) : ((gR (ov g st) (some 179) 10 26).bind fun x => (ldI (ov g st) 1 x (nI j)).bind K) = K (sA st 26 j) := by
  rw [rR_26, bd_some, rE_26 hj, bd_some]
theorem q27 {j : Nat} {K : Int32 → Option β} (hj : j < 7) : ((gR (ov g st) (some 179) 10 27).bind fun x => (ldI (ov g st) 1 x (nI j)).bind K) = K (sA st 27 j) := by
  rw [rR_27, bd_some, rE_27 hj, bd_some]
theorem rlines_e (N : NW (sA st 14) h) : m_X12_lines F (some 179) (ov g st) = some (nI (hN h)) := by
  unfold m_X12_lines
  rw [q14 (j := 0) (i := 0) (by omega) rfl, N.1]
theorem rcopies_e (N : NW (sA st 14) h) : m_X12_copies F (some 179) (ov g st) = some (nI (hC h).length) := by
  unfold m_X12_copies
  rw [q14 (j := 1) (i := 1) (by omega) rfl, N.2.1]
theorem rsizeOf_e (N : NW (sA st 14) h) (ok : okH h) {c : Nat} (hc : c < (hC h).length) : m_X12_sizeOf F (some 179) (nI c) (ov g st) = some (nI (hC h)[c].2.length) := by
  have h10 := ok.2.1
  unfold m_X12_sizeOf
  rw [q14 (j := 10 + 8 * c) (i := 10 + 8 * nI c) (by omega) (by rw [← nI_add, ← nI_mul]; rfl), (N.2.2.2.2.2.1 c hc).1]
theorem rlineOf_e (N : NW (sA st 14) h) (ok : okH h) {c : Nat} (hc : c < (hC h).length) {i : Nat} (hi : i < (hC h)[c].2.length) : m_X12_lineOf F (some 179) (nI c) (nI i) (ov g st) = some (nI (hC h)[c].2[i]) := by
  have h10 := ok.2.1
  have h7 := okL_len (ok.2.2.1 _ (List.getElem_mem hc)).2.1
  unfold m_X12_lineOf
  rw [q14 (j := 10 + 8 * c + 1 + i) (i := 10 + 8 * nI c + 1 + nI i) (by omega) (by rw [← nI_add, ← nI_add, ← nI_add, ← nI_mul]; rfl), (N.2.2.2.2.2.1 c hc).2 i hi]
theorem nI_lt0 {n : Nat} (h : n < 2 ^ 31) : ¬ nI n < 0 := nI_pos h
/-- any int is a negative one, or a number -/
theorem i_cases (x : Int32) : x < 0 ∨ ∃ n, n < 2 ^ 31 ∧ x = nI n := by
  by_cases h : x < 0
  · exact Or.inl h
  · refine Or.inr ⟨x.toNatClampNeg, ?_, ?_⟩
    · have h1 := x.toInt_lt
      have h2 : x.toInt.toNat = x.toNatClampNeg := rfl
      omega
    · have h0 : (0 : Int) ≤ x.toInt := by
        have := Int32.not_lt.mp h
        simpa using Int32.le_iff_toInt_le.mp this
      have h1 := x.toInt_lt
      apply Int32.toInt_inj.mp
      have h3 : (nI x.toNatClampNeg).toInt = (x.toNatClampNeg : Int) := nI_toInt (by have h2 : x.toInt.toNat = x.toNatClampNeg := rfl; omega)
      rw [h3]
      show x.toInt = ((x.toInt.toNat : Nat) : Int)
      omega
theorem risCopy_e (N : NW (sA st 14) h) (ok : okH h) (c : Int32) : m_X12_isCopy F (some 179) c (ov g st) = some (if c < 0 ∨ nI (hC h).length ≤ c then 0 else 1) := by
  have h10 := ok.2.1
  unfold m_X12_isCopy
  by_cases h0 : c < 0
  · rw [if_pos h0, if_pos (Or.inl h0)]; rfl
  · rw [if_neg h0, ck_e r_isO, bd_e (rcopies_e N)]
    by_cases h1 : nI (hC h).length ≤ c
    · rw [if_pos h1, if_pos (Or.inr h1)]; rfl
    · rw [if_neg h1, if_neg (fun h => h.elim h0 h1)]; rfl
theorem risDesk_e (N : NW (sA st 14) h) (c : Int32) : m_X12_isDesk F (some 179) c (ov g st) = some (if c < 0 ∨ nI (hD h).length ≤ c then 0 else 1) := by
  unfold m_X12_isDesk
  by_cases h0 : c < 0
  · rw [if_pos h0, if_pos (Or.inl h0)]; rfl
  · rw [if_neg h0, q14 (j := 2) (i := 2) (by omega) rfl, N.2.2.1]
    by_cases h1 : nI (hD h).length ≤ c
    · rw [if_pos h1, if_pos (Or.inr h1)]; rfl
    · rw [if_neg h1, if_neg (fun h => h.elim h0 h1)]; rfl
end RD
/-! steps, fallen, far of two rows of places -/
section STP
variable {F : Nat} {g : Hp} {st : RS} {h : HS}
def tri (l : Nat) : Nat := l * (l - 1) / 2
theorem tri_s : ∀ l, l < 8 → tri (l + 1) = tri l + l := by decide +kernel
theorem tri_hl : ∀ l, l < 7 → ∀ m, m < l → hiT (tri l + m) = l ∧ loT (tri l + m) = m ∧ tri l + m < 21 := by decide +kernel
theorem tri_mono : ∀ l, l < 8 → tri l ≤ 21 := by decide +kernel
def stB (A B : List Nat) (k : Nat) : Bool := (tnB A k != tnB B k) && prB A k && prB B k
theorem cnt_s (n : Nat) (P : Nat → Bool) : cnt (n + 1) P = cnt n P + if P n then 1 else 0 := rfl
theorem cnt_ze {P : Nat → Bool} : ∀ (d n : Nat), (∀ i, n ≤ i → i < n + d → P i = false) → cnt (n + d) P = cnt n P := by
  intro d
  induction d with
  | zero => intro n _; rfl
  | succ d ih =>
    intro n hP
    rw [show n + (d + 1) = (n + d) + 1 from rfl, cnt_s, hP (n + d) (by omega) (by omega), ih n (fun i h1 h2 => hP i h1 (by omega))]
    rfl
theorem stB_at {A B : List Nat} (hA : okL A) (hB : okL B) {l m : Nat} (hl : l < 7) (hm : m < l) : stB A B (tri l + m) = (decide (l ∈ A) && decide (m ∈ A) && decide (l ∈ B) && decide (m ∈ B) && (decide (A.idxOf l < A.idxOf m) != decide (B.idxOf l < B.idxOf m))) := by
  obtain ⟨h1, h2, h3⟩ := tri_hl l hl m hm
  unfold stB tnB prB
  rw [h1, h2]
  by_cases a1 : l ∈ A <;> by_cases a2 : m ∈ A <;> by_cases b1 : l ∈ B <;> by_cases b2 : m ∈ B <;> simp [a1, a2, b1, b2]
theorem steps_in (hN' : NW (sA st 14) h) (h7 : hN h ≤ 7) {A B : List Nat} (hA : okL A) (hB : okL B) (pa : PL (sA st 26) A) (pb : PL (sA st 27) B) {rc : Option Nat → Int32 → Int32 → Hp → Option Int32} {l : Nat} (hl : l < 7) (la : l ∈ A) (lb : l ∈ B) {r : Option Int32}
    (hrc : rc (some 179) (nI (cnt (tri (l + 1)) (stB A B))) (nI (l + 1)) (ov g st) = r) : ∀ (d m k : Nat), m + d = l → d < k → m_X12_steps_L37 F rc k (some 179) (nI (cnt (tri l + m) (stB A B))) (nI l) (nI m) (ov g st) = r := by
  have hia := idx7 hA la
  have hib := idx7 hB lb
  intro d
  induction d with
  | zero =>
    intro m k hm hk
    obtain ⟨k, rfl⟩ : ∃ j, k = j + 1 := ⟨k - 1, by omega⟩
    have : m = l := by omega
    subst this
    show m_X12_steps_b37 F rc _ _ _ _ _ _ = _
    unfold m_X12_steps_b37
    rw [if_pos (nI_le (Nat.le_refl _) (by omega)), nm_e2, nI_1, ← tri_s m (by omega)]
    exact hrc
  | succ d ih =>
    intro m k hm hk
    obtain ⟨k, rfl⟩ : ∃ j, k = j + 1 := ⟨k - 1, by omega⟩
    have hml : m < l := by omega
    have hs := ih (m + 1) k (by omega) (by omega)
    rw [show tri l + (m + 1) = (tri l + m) + 1 from rfl, cnt_s, stB_at hA hB hl hml] at hs
    simp only [la, lb] at hs
    have hc : cnt (tri l + m) (stB A B) ≤ tri l + m := cnt_le _ _
    have h21 := (tri_hl l hl m hml).2.2
    show m_X12_steps_b37 F rc _ _ _ _ _ _ = _
    unfold m_X12_steps_b37
    rw [if_neg (nI_ge hml (by omega)), q26 (by omega), pa m (by omega)]
    by_cases ma : m ∈ A
    · rw [if_neg (fun e => (pl_iff hA).mp e ma), q27 (by omega), pb m (by omega)]
      by_cases mb : m ∈ B
      · have hma := idx7 hA ma
        have hmb := idx7 hB mb
        rw [if_neg (fun e => (pl_iff hB).mp e mb), q26 (by omega), pa l hl, q26 (by omega), pa m (by omega), pl_yes ma, pl_yes la]
        have hB82 : ∀ s0 : Int32, m_X12_steps_B82 F rc (m_X12_steps_L37 F rc k) (some 179) (nI (cnt (tri l + m) (stB A B))) (nI l) (nI m) s0 (ov g st) = m_X12_steps_B102 F rc (m_X12_steps_L37 F rc k) (some 179) (nI (cnt (tri l + m) (stB A B))) (nI l) (nI m) s0 (if B.idxOf l < B.idxOf m then 1 else 0) (ov g st) := by
          intro s0
          unfold m_X12_steps_B82
          rw [q27 (by omega), pb l hl, q27 (by omega), pb m (by omega), pl_yes mb, pl_yes lb]
          by_cases hb : B.idxOf m ≤ B.idxOf l
          · rw [if_pos (nI_le hb (by omega)), if_neg (by omega)]
          · rw [if_neg (nI_ge (by omega) (by omega)), if_pos (by omega)]
        have ifB : ∀ q : Prop, [Decidable q] → ∀ x y : Int32, (if q then m_X12_steps_B82 F rc (m_X12_steps_L37 F rc k) (some 179) (nI (cnt (tri l + m) (stB A B))) (nI l) (nI m) x (ov g st) else m_X12_steps_B82 F rc (m_X12_steps_L37 F rc k) (some 179) (nI (cnt (tri l + m) (stB A B))) (nI l) (nI m) y (ov g st)) = m_X12_steps_B82 F rc (m_X12_steps_L37 F rc k) (some 179) (nI (cnt (tri l + m) (stB A B))) (nI l) (nI m) (if q then x else y) (ov g st) := by
          intro q _ x y
          by_cases hq : q
          · rw [if_pos hq, if_pos hq]
          · rw [if_neg hq, if_neg hq]
        rw [ifB, hB82]
        have hc2 : (if nI (A.idxOf m) ≤ nI (A.idxOf l) then (0 : Int32) else 1) = if A.idxOf l < A.idxOf m then 1 else 0 := by
          by_cases hb : A.idxOf m ≤ A.idxOf l
          · rw [if_pos (nI_le hb (by omega)), if_neg (by omega)]
          · rw [if_neg (nI_ge (by omega) (by omega)), if_pos (by omega)]
        rw [hc2]
        unfold m_X12_steps_B102
        simp only [ma, mb] at hs
        by_cases a1 : A.idxOf l < A.idxOf m <;> by_cases b1 : B.idxOf l < B.idxOf m
        · rw [if_pos a1, if_pos b1, if_pos rfl, nm_e2, nI_1]
          simpa [a1, b1] using hs
        · rw [if_pos a1, if_neg b1, if_neg (by decide), nm_e2, nm_e2, nI_1, nI_1]
          simpa [a1, b1] using hs
        · rw [if_neg a1, if_pos b1, if_neg (by decide), nm_e2, nm_e2, nI_1, nI_1]
          simpa [a1, b1] using hs
        · rw [if_neg a1, if_neg b1, if_pos rfl, nm_e2, nI_1]
          simpa [a1, b1] using hs
      · rw [if_pos ((pl_iff hB).mpr mb), nm_e2, nI_1]
        simpa [mb] using hs
    · rw [if_pos ((pl_iff hA).mpr ma), nm_e2, nI_1]
      simpa [ma] using hs
theorem rsteps_L (hN' : NW (sA st 14) h) (h7 : hN h ≤ 7) (hF : 8 ≤ F) {A B : List Nat} (hA : okL A) (hB : okL B) (pa : PL (sA st 26) A) (pb : PL (sA st 27) B) : ∀ (d l k : Nat), l + d = hN h → d < k → m_X12_steps_L4 F k (some 179) (nI (cnt (tri l) (stB A B))) (nI l) (ov g st) = some (nI (cnt (tri (hN h)) (stB A B))) := by
  intro d
  induction d with
  | zero =>
    intro l k hl hk
    obtain ⟨k, rfl⟩ : ∃ j, k = j + 1 := ⟨k - 1, by omega⟩
    show m_X12_steps_b4 F _ _ _ _ _ = _
    unfold m_X12_steps_b4
    rw [ck_e r_isO, bd_e (rlines_e hN'), if_pos (nI_le (by omega) (by omega)), show l = hN h by omega]
  | succ d ih =>
    intro l k hl hk
    obtain ⟨k, rfl⟩ : ∃ j, k = j + 1 := ⟨k - 1, by omega⟩
    have hs := ih (l + 1) k (by omega) (by omega)
    have hz : (l ∉ A ∨ l ∉ B) → cnt (tri (l + 1)) (stB A B) = cnt (tri l) (stB A B) := by
      intro ho
      rw [tri_s l (by omega)]
      refine cnt_ze l (tri l) (fun i h1 h2 => ?_)
      obtain ⟨m, rfl⟩ : ∃ m, i = tri l + m := ⟨i - tri l, by omega⟩
      rw [stB_at hA hB (by omega) (by omega)]
      rcases ho with h | h <;> simp [h]
    show m_X12_steps_b4 F _ _ _ _ _ = _
    unfold m_X12_steps_b4
    rw [ck_e r_isO, bd_e (rlines_e hN'), if_neg (nI_ge (by omega) (by omega)), q26 (by omega), pa l (by omega)]
    by_cases la : l ∈ A
    · rw [if_neg (fun e => (pl_iff hA).mp e la), q27 (by omega), pb l (by omega)]
      by_cases lb : l ∈ B
      · rw [if_neg (fun e => (pl_iff hB).mp e lb)]
        exact steps_in hN' h7 hA hB pa pb (by omega) la lb hs l 0 F (by omega) (by omega)
      · rw [if_pos ((pl_iff hB).mpr lb), nm_e2, nI_1]
        rw [hz (Or.inr lb)] at hs
        exact hs
    · rw [if_pos ((pl_iff hA).mpr la), nm_e2, nI_1]
      rw [hz (Or.inl la)] at hs
      exact hs
theorem cnt_tri {A B : List Nat} (hA : okL A) (hB : okL B) {N : Nat} (h7 : N ≤ 7) (lt : ∀ x ∈ A, x < N) : cnt (tri N) (stB A B) = stp A B := by
  have h1 : ∀ n, n ≤ 7 → N ≤ n → cnt (tri n) (stB A B) = cnt (tri N) (stB A B) := by
    intro n
    induction n with
    | zero => intro _ hn; rw [show N = 0 by omega]
    | succ n ih =>
      intro hn hN
      by_cases e : N = n + 1
      · rw [e]
      · rw [← ih (by omega) (by omega), tri_s n (by omega)]
        refine cnt_ze n (tri n) (fun i h1 h2 => ?_)
        obtain ⟨m, rfl⟩ : ∃ m, i = tri n + m := ⟨i - tri n, by omega⟩
        rw [stB_at hA hB (by omega) (by omega)]
        have : n ∉ A := fun hm => by have := lt n hm; omega
        simp [this]
  rw [← h1 7 (Nat.le_refl _) h7]
  rfl
theorem rsteps_e (hN' : NW (sA st 14) h) (h7 : hN h ≤ 7) (hF : 8 ≤ F) {A B : List Nat} (hA : okL A) (hB : okL B) (lt : ∀ x ∈ A, x < hN h) (pa : PL (sA st 26) A) (pb : PL (sA st 27) B) : m_X12_steps F (some 179) (ov g st) = some (nI (stp A B)) := by
  have h1 := rsteps_L (g := g) hN' h7 hF hA hB pa pb (hN h) 0 F (by omega) (by omega)
  rw [cnt_tri hA hB h7 lt] at h1
  exact h1
def flB (A B : List Nat) (k : Nat) : Bool := lnB A k != lnB B k
theorem rfallen_L (hN' : NW (sA st 14) h) (h7 : hN h ≤ 7) {A B : List Nat} (hA : okL A) (hB : okL B) (pa : PL (sA st 26) A) (pb : PL (sA st 27) B) : ∀ (d l k : Nat), l + d = hN h → d < k → m_X12_fallen_L4 F k (some 179) (nI (cnt l (flB A B))) (nI l) (ov g st) = some (nI (cnt (hN h) (flB A B))) := by
  intro d
  induction d with
  | zero =>
    intro l k hl hk
    obtain ⟨k, rfl⟩ : ∃ j, k = j + 1 := ⟨k - 1, by omega⟩
    show m_X12_fallen_b4 F _ _ _ _ _ = _
    unfold m_X12_fallen_b4
    rw [ck_e r_isO, bd_e (rlines_e hN'), if_pos (nI_le (by omega) (by omega)), show l = hN h by omega]
  | succ d ih =>
    intro l k hl hk
    obtain ⟨k, rfl⟩ : ∃ j, k = j + 1 := ⟨k - 1, by omega⟩
    have hs := ih (l + 1) k (by omega) (by omega)
    rw [cnt_s] at hs
    show m_X12_fallen_b4 F _ _ _ _ _ = _
    unfold m_X12_fallen_b4
    rw [ck_e r_isO, bd_e (rlines_e hN'), if_neg (nI_ge (by omega) (by omega)), q26 (by omega), pa l (by omega)]
    have h27 : ∀ s0 : Int32, m_X12_fallen_B27 F (m_X12_fallen_L4 F k) (some 179) (nI (cnt l (flB A B))) (nI l) s0 (ov g st) = m_X12_fallen_B42 F (m_X12_fallen_L4 F k) (some 179) (nI (cnt l (flB A B))) (nI l) s0 (if l ∈ B then 0 else 1) (ov g st) := by
      intro s0
      unfold m_X12_fallen_B27
      rw [q27 (by omega), pb l (by omega)]
      by_cases lb : l ∈ B
      · rw [if_neg (fun e => (pl_iff hB).mp e lb), if_pos lb]
      · rw [if_pos ((pl_iff hB).mpr lb), if_neg lb]
    rw [h27, h27]
    unfold m_X12_fallen_B42
    by_cases la : l ∈ A <;> by_cases lb : l ∈ B
    · rw [if_neg (fun e => (pl_iff hA).mp e la), if_pos lb, if_pos rfl, nm_e2, nI_1]
      simpa [flB, lnB, la, lb] using hs
    · rw [if_neg (fun e => (pl_iff hA).mp e la), if_neg lb, if_neg (by decide), nm_e2, nm_e2, nI_1, nI_1]
      simpa [flB, lnB, la, lb] using hs
    · rw [if_pos ((pl_iff hA).mpr la), if_pos lb, if_neg (by decide), nm_e2, nm_e2, nI_1, nI_1]
      simpa [flB, lnB, la, lb] using hs
    · rw [if_pos ((pl_iff hA).mpr la), if_neg lb, if_pos rfl, nm_e2, nI_1]
      simpa [flB, lnB, la, lb] using hs
theorem cnt_fal {A B : List Nat} {N : Nat} (h7 : N ≤ 7) (la : ∀ x ∈ A, x < N) (lb : ∀ x ∈ B, x < N) : cnt N (flB A B) = fal A B := by
  show _ = cnt 7 (flB A B)
  rw [show (7 : Nat) = N + (7 - N) by omega, cnt_ze]
  intro i h1 _
  have h2 : i ∉ A := fun hm => by have := la i hm; omega
  have h3 : i ∉ B := fun hm => by have := lb i hm; omega
  simp [flB, lnB, h2, h3]
theorem rfallen_e (hN' : NW (sA st 14) h) (h7 : hN h ≤ 7) (hF : 8 ≤ F) {A B : List Nat} (hA : okL A) (hB : okL B) (la : ∀ x ∈ A, x < hN h) (lb : ∀ x ∈ B, x < hN h) (pa : PL (sA st 26) A) (pb : PL (sA st 27) B) : m_X12_fallen F (some 179) (ov g st) = some (nI (fal A B)) := by
  have h1 := rfallen_L (F := F) (g := g) hN' h7 hA hB pa pb (hN h) 0 F (by omega) (by omega)
  rw [cnt_fal h7 la lb] at h1
  exact h1
theorem rfar_e (hN' : NW (sA st 14) h) (h7 : hN h ≤ 7) (hF : 8 ≤ F) {A B : List Nat} (hA : okL A) (hB : okL B) (la : ∀ x ∈ A, x < hN h) (lb : ∀ x ∈ B, x < hN h) (pa : PL (sA st 26) A) (pb : PL (sA st 27) B) : m_X12_far F (some 179) (ov g st) = some (nI (stp A B + 3 * fal A B)) := by
  unfold m_X12_far
  rw [ck_e r_isO, bd_e (rsteps_e hN' h7 hF hA hB la pa pb), ck_e r_isO, bd_e (rfallen_e hN' h7 hF hA hB la lb pa pb)]
  rw [show (3 : Int32) = nI 3 from rfl, nI_mul, nI_add]
end STP
