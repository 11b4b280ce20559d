/-! tree -/
theorem RI.fam {st st' : RS} {m : MS} (R : RI st m) (C : Cg (33 :: 34 :: sI0) (28 :: 32 :: sA0) sL0 st st') {fm : List Nat} {fs : List Int32} (e33 : sI st' 33 = nI fm.length) (e28 : ∀ i (hi : i < fm.length), sA st' 28 i = nI fm[i]) (e34 : sI st' 34 = nI fm.length) (e32 : ∀ i (hi : i < fs.length), sA st' 32 i = fs[i]) : RI st' (mB m, mT m, mH m, mP m, mF m, mL m, fm, fs, mI m) := by
  obtain ⟨h1, ⟨h2, h3⟩, h4, h5, h6, h7, -, h12⟩ := R
  refine ⟨?_, ⟨?_, ?_⟩, ?_, ?_, h6.cg C (by decide) (by decide), ?_, ⟨⟨e33, e28⟩, e34, e32⟩, ?_⟩
  · rw [C.I (by decide), C.A (by decide)]; exact h1
  · rw [C.A (by decide)]; exact h2
  · rw [C.I (by decide)]; exact h3
  · rw [C.I (by decide)]; exact h4
  · rw [C.L (by decide)]; exact h5
  · rw [C.J (by decide)]; exact h7
  · rw [C.A (by decide), C.A (by decide), C.L (by decide)]; exact h12
/-- the numbers told so far -/
def sB (B : Nat → Nat) : Nat → Nat → Bool
  | 0, _ => false
  | i + 1, l => sB B i l || l == B i
theorem sB_iff (B : Nat → Nat) (l : Nat) : ∀ i, sB B i l = true ↔ ∃ j, j < i ∧ B j = l
  | 0 => by simp [sB]
  | i + 1 => by
    unfold sB
    rw [Bool.or_eq_true, sB_iff B l i, beq_iff_eq]
    constructor
    · rintro (⟨j, h1, h2⟩ | h)
      · exact ⟨j, by omega, h2⟩
      · exact ⟨i, by omega, h.symm⟩
    · rintro ⟨j, h1, h2⟩
      by_cases e : j = i
      · subst e; exact Or.inr h2.symm
      · exact Or.inl ⟨j, by omega, h2⟩
theorem sB_no {B : Nat → Nat} {l i : Nat} (h : ∀ j, j < i → B j ≠ l) : sB B i l = false := by
  cases e : sB B i l with
  | false => rfl
  | true =>
    obtain ⟨j, h1, h2⟩ := (sB_iff B l i).mp e
    exact absurd h2 (h j h1)
theorem bits_put {k x : Nat} (hk : k ≤ 31) (hx : x < k) (P : Nat → Bool) : nI (bitsOf k P) ||| ((1 : Int32) <<< (nI x &&& 31)) = nI (bitsOf k (fun l => P l || l == x)) := by
  have h2 : 2 ^ x < 2 ^ 31 := Nat.pow_lt_pow_right (by decide) (by omega)
  have e := nI_shl (n := 1) (k := x) (by omega) (by omega)
  have e1 : (1 : Int32) <<< (nI x &&& 31) = nI (2 ^ x) := by rw [← Nat.one_mul (2 ^ x)]; exact e
  rw [e1, nI_or, bitsOf_one hx, bitsOf_or]
section C11
variable {F : Nat} {g : Hp} {st : RS} {h : HS} {f : Hp} {T D sX s mb : Nat} {tl lf : Int32} {ll : Int64} {B : Nat → Nat} {q1 q2 q3 q4 q5 q6 : Nat → Int32}
theorem unl_9 (K : KAt f T D sX tl lf ll) (P : TP f B) {n i : Nat} (hn : n ≤ 740) (hi : i < n) {rc : Option Nat → Int32 → Int32 → Hp → Option Int32} : ∀ (d j z : Nat), j + d = i → d < z → (∀ b, b < j → B i ≠ B b) → (m_X11_areUnlike_L9 F rc z (some 100) (nI n) (nI i) (nI j) f = rc (some 100) (nI n) (nI (i + 1)) f ∧ ∀ b, b < i → B i ≠ B b) ∨ (m_X11_areUnlike_L9 F rc z (some 100) (nI n) (nI i) (nI j) f = some 0 ∧ ∃ b, b < i ∧ B i = B b) := by
  intro d
  induction d with
  | zero =>
    intro j z hj hz hb
    obtain ⟨z, rfl⟩ : ∃ j, z = j + 1 := ⟨z - 1, by omega⟩
    refine Or.inl ⟨?_, fun b q => hb b (by omega)⟩
    show m_X11_areUnlike_b9 F _ _ _ _ _ _ _ = _
    unfold m_X11_areUnlike_b9
    rw [if_pos (nI_le (by omega) (by omega)), nm_e2, nI_1]
  | succ d ih =>
    intro j z hj hz hb
    obtain ⟨z, rfl⟩ : ∃ j, z = j + 1 := ⟨z - 1, by omega⟩
    obtain ⟨t, t1, t2⟩ := id P
    have h1 := (t2 i (by omega)).1
    have h2 := (t2 j (by omega)).1
    show (m_X11_areUnlike_b9 F _ _ _ _ _ _ _ = _ ∧ _) ∨ (m_X11_areUnlike_b9 F _ _ _ _ _ _ _ = _ ∧ _)
    unfold m_X11_areUnlike_b9
    rw [if_neg (nI_ge (by omega) (by omega)), ck_e (isO_e K), bd_e (byteAt_e K P (by omega)), ck_e (isO_e K), bd_e (byteAt_e K P (by omega))]
    by_cases q : B i = B j
    · refine Or.inr ⟨?_, j, by omega, q⟩
      rw [if_pos (by rw [q]), ck_e (by decide)]
    · rw [if_neg (fun e => q ((nI_eq (by omega) (by omega)).mp e)), nm_e2, nI_1]
      refine ih (j + 1) z (by omega) (by omega) (fun b h3 => ?_)
      by_cases e : b = j
      · rw [e]; exact q
      · exact hb b (by omega)
theorem unl_2 (K : KAt f T D sX tl lf ll) (P : TP f B) {n : Nat} (hn : n ≤ 740) (hF : 741 ≤ F) : ∀ (d i z : Nat), i + d = n → d < z → (∀ a, a < i → ∀ b, b < a → B a ≠ B b) → (m_X11_areUnlike_L2 F z (some 100) (nI n) (nI i) f = some 1 ∧ ∀ a, a < n → ∀ b, b < a → B a ≠ B b) ∨ (m_X11_areUnlike_L2 F z (some 100) (nI n) (nI i) f = some 0 ∧ ∃ a, a < n ∧ ∃ b, b < a ∧ B a = B b) := by
  intro d
  induction d with
  | zero =>
    intro i z hi hz hb
    obtain ⟨z, rfl⟩ : ∃ j, z = j + 1 := ⟨z - 1, by omega⟩
    refine Or.inl ⟨?_, fun a q => hb a (by omega)⟩
    show m_X11_areUnlike_b2 F _ _ _ _ _ = _
    unfold m_X11_areUnlike_b2
    rw [if_pos (nI_le (by omega) (by omega)), ck_e (by decide)]
  | succ d ih =>
    intro i z hi hz hb
    obtain ⟨z, rfl⟩ : ∃ j, z = j + 1 := ⟨z - 1, by omega⟩
    show (m_X11_areUnlike_b2 F _ _ _ _ _ = _ ∧ _) ∨ (m_X11_areUnlike_b2 F _ _ _ _ _ = _ ∧ _)
    unfold m_X11_areUnlike_b2
    rw [if_neg (nI_ge (by omega) (by omega))]
    rcases unl_9 (F := F) (rc := m_X11_areUnlike_L2 F z) K P hn (show i < n by omega) i 0 F (by omega) (by omega) (fun _ q => absurd q (Nat.not_lt_zero _)) with ⟨e1, e2⟩ | ⟨e1, b, e2, e3⟩
    · rw [show (0 : Int32) = nI 0 from rfl, e1]
      refine ih (i + 1) z (by omega) (by omega) (fun a h1 => ?_)
      by_cases e : a = i
      · rw [e]; exact e2
      · exact hb a (by omega)
    · exact Or.inr ⟨e1, i, by omega, b, e2, e3⟩
theorem unl_e (K : KAt f T D sX tl lf ll) (P : TP f B) {n : Nat} (hn : n ≤ 740) (hF : 741 ≤ F) : (m_X11_areUnlike F (some 100) (nI n) f = some 1 ∧ ∀ a, a < n → ∀ b, b < a → B a ≠ B b) ∨ (m_X11_areUnlike F (some 100) (nI n) f = some 0 ∧ ∃ a, a < n ∧ ∃ b, b < a ∧ B a = B b) :=
  unl_2 K P hn hF n 0 F (by omega) (by omega) (fun _ q => absurd q (Nat.not_lt_zero _))
theorem admit_e (h0 : FR f mb q1 q2 q3 q4 q5 q6) (hm : mb < 9) (x : Int32) : ∃ f', m_X3_admit F (some 171) x f = some f' ∧ FR f' (mb + 1) (upd q1 mb x) q2 q3 q4 q5 q6 ∧ FF f f' := by
  have h1 := h0.u1 (upd q1 mb x)
  refine ⟨va_up (va_up f 172 (some (.inr (1, 10, .inl (upd q1 mb x))))) 171 (some (.inl (2, [.int (nI (mb + 1)), .ref 172, .ref 173, .ref 174, .ref 175, .ref 176, .ref 177]))), ?_, ⟨up_s, (up_n (by decide)).trans h1.2.1, (up_n (by decide)).trans h1.2.2.1, (up_n (by decide)).trans h1.2.2.2.1, (up_n (by decide)).trans h1.2.2.2.2.1, (up_n (by decide)).trans h1.2.2.2.2.2.1, (up_n (by decide)).trans h1.2.2.2.2.2.2⟩, (FF.up (by decide) (by decide)).trans (FF.up (by decide) (by decide))⟩
  unfold m_X3_admit
  rw [bd_e (gI_e h0.1 rfl), if_neg (show ¬ (9 : Int32) ≤ nI mb from nI_ge (b := 9) hm (by omega)), bd_e (gR_s h0.1 rfl), bd_e (gI_e h0.1 rfl), bd_e (stI1 h0.2.1 (by omega) (by omega) (by decide)), bd_e (gI_e h1.1 rfl), bd_e (pV_e h1.1 (Nat.le_of_ble_eq_true rfl)), nI_1]
  rfl
theorem ctree_43 {n : Nat} (hn : n ≤ 9) : ∀ (d i z : Nat) (f : Hp) (q1 : Nat → Int32), i + d = n → d < z → KAt f T D sX tl lf ll → TP f B → FR f i q1 q2 q3 q4 q5 q6 → (∀ j, j < i → q1 j = nI (B j)) → ∃ f' r1, m_X11_tree_L43 F z (some 100) (nI n) (nI i) f = m_X11_tree_B66 F (some 100) f' ∧ FR f' n r1 q2 q3 q4 q5 q6 ∧ FF f f' ∧ ∀ j, j < n → r1 j = nI (B j) := by
  intro d
  induction d with
  | zero =>
    intro i z f q1 hi hz K P h0 hq
    obtain ⟨z, rfl⟩ : ∃ j, z = j + 1 := ⟨z - 1, by omega⟩
    have e : i = n := by omega
    subst e
    refine ⟨f, q1, ?_, h0, FF.refl _, hq⟩
    show m_X11_tree_b43 F _ _ _ _ _ = _
    unfold m_X11_tree_b43
    rw [if_pos (nI_le (by omega) (by omega))]
  | succ d ih =>
    intro i z f q1 hi hz K P h0 hq
    obtain ⟨z, rfl⟩ : ∃ j, z = j + 1 := ⟨z - 1, by omega⟩
    obtain ⟨f1, e1, p1, p2⟩ := admit_e (F := F) h0 (by omega) (nI (B i))
    obtain ⟨f', r1, e2, a1, a2, a3⟩ := ih (i + 1) z f1 _ (by omega) (by omega) (K.frame (p2 _ (by omega))) (P.frame (p2 _ (by omega))) p1 (fun j hj => by
      by_cases e : j = i
      · rw [e, upd_s]
      · rw [upd_n e]; exact hq j (by omega))
    refine ⟨f', r1, ?_, a1, p2.trans a2, a3⟩
    show m_X11_tree_b43 F _ _ _ _ _ = _
    unfold m_X11_tree_b43
    rw [if_neg (nI_ge (by omega) (by omega)), bd_e (gR_s K rfl), ck_e (isO_e K), bd_e (byteAt_e K P (by omega)), ck_e (isO_e h0.1), bd_e e1, nm_e2, nI_1]
    exact e2
/-- from which each was copied -/
def srcI (fm : List Nat) (p : Nat → Nat) (j : Nat) : Int32 := if j = 0 then (-1 : Int32) else nI (fm.getD (p j) 0)
theorem settle_L {fm : List Nat} (hn : fm.length ≤ 9) {p : Nat → Nat} (hp : ∀ j, j < fm.length → p j < fm.length) (hq1 : ∀ i (hi : i < fm.length), q1 i = nI fm[i]) (hq4 : ∀ j, j < fm.length → q4 j = nI (p j)) {v : Int32} : ∀ (d i z : Nat) (f : Hp) (q2 : Nat → Int32), i + d = fm.length → d < z → FR f fm.length q1 q2 q3 q4 q5 q6 → (∀ j, j < i → q2 j = srcI fm p j) → ∃ f' r2, m_X3_settle_L11 F z (some 171) v (nI i) f = some (v, f') ∧ FR f' fm.length q1 r2 q3 q4 q5 q6 ∧ FF f f' ∧ ∀ j, j < fm.length → r2 j = srcI fm p j := by
  intro d
  induction d with
  | zero =>
    intro i z f q2 hi hz h0 hq
    obtain ⟨z, rfl⟩ : ∃ j, z = j + 1 := ⟨z - 1, by omega⟩
    refine ⟨f, q2, ?_, h0, FF.refl _, fun j hj => hq j (by omega)⟩
    show m_X3_settle_b11 F _ _ _ _ _ = _
    unfold m_X3_settle_b11
    rw [bd_e (gI_e h0.1 rfl), if_pos (nI_le (by omega) (by omega))]
  | succ d ih =>
    intro i z f q2 hi hz h0 hq
    obtain ⟨z, rfl⟩ : ∃ j, z = j + 1 := ⟨z - 1, by omega⟩
    have h2 := h0.u2 (upd q2 i (srcI fm p i))
    obtain ⟨f', r2, e2, a1, a2, a3⟩ := ih (i + 1) z _ _ (by omega) (by omega) h2 (fun j hj => by
      by_cases e : j = i
      · rw [e, upd_s]
      · rw [upd_n e]; exact hq j (by omega))
    refine ⟨f', r2, ?_, a1, (FF.up (by decide) (by decide)).trans a2, a3⟩
    show m_X3_settle_b11 F _ _ _ _ _ = _
    unfold m_X3_settle_b11
    rw [bd_e (gI_e h0.1 rfl), if_neg (nI_ge (by omega) (by omega)), if_neg (lim9 (by omega)), bd_e (gR_s h0.1 rfl)]
    by_cases e0 : i = 0
    · rw [if_pos (show nI i = 0 by rw [e0]; rfl), bd_e (stI1 h0.2.2.1 (by omega) (by omega) (by decide)), nm_e2, nI_1, ← e2]
      rw [show srcI fm p i = -1 from if_pos e0]
    · have hpi := hp i (by omega)
      have es : srcI fm p i = nI fm[p i] := by
        unfold srcI
        rw [if_neg e0, List.getD_eq_getElem?_getD, List.getElem?_eq_getElem hpi]
        rfl
      have ena : m_X3_numberAt F (some 171) (nI (p i)) f = some (nI fm[p i]) := by
        unfold m_X3_numberAt
        rw [if_neg (nI_pos (by omega)), if_neg (lim10 (by omega)), bd_e (gR_s h0.1 rfl), bd_e (ldI_e h0.2.1 (by omega) (by omega)), hq1 _ hpi]
      rw [if_neg (nI_ne0 (by omega) (by omega)), bd_e (gR_s h0.1 rfl), bd_e (ldI_e h0.2.2.2.2.1 (by omega) (by omega)), hq4 i (by omega), ck_e (isO_e h0.1), bd_e ena, bd_e (stI1 h0.2.2.1 (by omega) (by omega) (by decide)), nm_e2, nI_1, ← e2, es]
theorem prm_par {D : Nat → Nat → Nat} (hD : ∀ a b, D a b ≤ 100) {n : Nat} (h0 : 0 < n) : ∀ x, x < n → (prm D n (n - 1)).2.2 x < n := by
  obtain ⟨p1, p2, p3, p4, p5, p6⟩ := prm_ok hD (n := n) (n - 1) (by omega)
  exact fun x hx => p6 x (nd_full n _ p2 p1 (by omega) x hx)
theorem rtree_30 (N : NW (sA st 14) h) (ok : okH h) (P : ∀ i, i < 740 → sA st 1 i = nI (B i) ∧ B i < 256) {n : Nat} (hn : n ≤ 740) : ∀ (d i z : Nat), i + d = n → d < z → ((∀ j, i ≤ j → j < n → B j < (hC h).length ∧ ∀ b, b < j → B b ≠ B j) → m_X12_tree_L30 F z (some 179) (nI n) (nI (bitsOf 10 (sB B i))) (nI i) (ov g st) = m_X12_tree_L87 F F (some 179) (nI n) 0 (ov g (uI st 33 (nI n)))) ∧ ((∃ j, i ≤ j ∧ j < n ∧ ¬ (B j < (hC h).length ∧ ∀ b, b < j → B b ≠ B j)) → m_X12_tree_L30 F z (some 179) (nI n) (nI (bitsOf 10 (sB B i))) (nI i) (ov g st) = some (-1, ov g st)) := by
  have h10 := ok.2.1
  intro d
  induction d with
  | zero =>
    intro i z hi hz
    obtain ⟨z, rfl⟩ : ∃ j, z = j + 1 := ⟨z - 1, by omega⟩
    refine ⟨fun _ => ?_, fun ⟨j, q1, q2, _⟩ => by omega⟩
    show m_X12_tree_b30 F _ _ _ _ _ _ = _
    unfold m_X12_tree_b30
    rw [if_pos (nI_le (by omega) (by omega)), wI_33, bd_some]
  | succ d ih =>
    intro i z hi hz
    obtain ⟨z, rfl⟩ : ∃ j, z = j + 1 := ⟨z - 1, by omega⟩
    obtain ⟨p1, p2⟩ := P i (by omega)
    obtain ⟨i1, i2⟩ := ih (i + 1) z (by omega) (by omega)
    show (_ → m_X12_tree_b30 F _ _ _ _ _ _ = _) ∧ (_ → m_X12_tree_b30 F _ _ _ _ _ _ = _)
    unfold m_X12_tree_b30
    rw [if_neg (nI_ge (by omega) (by omega)), rR_1, bd_some, rE_1 (by omega), bd_some, p1, ck_e r_isO, bd_e (risCopy_e N ok _)]
    by_cases q : B i < (hC h).length
    · have hb := bitsOf_lt 10 (sB B i)
      rw [if_neg (inin (by omega) q), if_neg (by decide)]
      simp only [bd_some]
      rw [rE_1 (by omega)]
      simp only [bd_some]
      rw [p1, bd_e (has_e F _ (Nat.lt_trans hb (by decide)) (by omega)), bitsOf_test, decide_eq_true (show B i < 10 by omega), Bool.true_and]
      by_cases q' : ∀ b, b < i → B b ≠ B i
      · rw [sB_no q', if_pos (by decide), nm_e2, nm_e2, nI_1, bits_put (by omega) (show B i < 10 by omega)]
        refine ⟨fun w => i1 (fun j a b => w j (by omega) b), fun ⟨j, a, b, c⟩ => i2 ⟨j, ?_, b, c⟩⟩
        by_cases e : j = i
        · subst e; exact absurd ⟨q, q'⟩ c
        · omega
      · have e : sB B i (B i) = true := (sB_iff B (B i) i).mpr (Classical.byContradiction fun c => q' (fun b h1 h2 => c ⟨b, h1, h2⟩))
        rw [e, if_neg (by decide)]
        exact ⟨fun w => absurd (w i (Nat.le_refl _) (by omega)).2 q', fun _ => rfl⟩
    · rw [if_pos (Or.inr (nI_le (by omega) (by omega))), if_pos rfl]
      exact ⟨fun w => absurd (w i (Nat.le_refl _) (by omega)).1 q, fun _ => rfl⟩
theorem rtree_87 (P : ∀ i, i < 740 → sA st 1 i = nI (B i) ∧ B i < 256) {n : Nat} (hn : n ≤ 9) : ∀ (d i z : Nat) (st' : RS), i + d = n → d < z → Rs [28] st st' → (∀ j, j < i → sA st' 28 j = nI (B j)) → ∃ st'', m_X12_tree_L87 F z (some 179) (nI n) (nI i) (ov g st') = m_X12_tree_B110 F (some 179) (nI n) (ov g st'') ∧ Rs [28] st st'' ∧ ∀ j, j < n → sA st'' 28 j = nI (B j) := by
  intro d
  induction d with
  | zero =>
    intro i z st' hi hz C hj
    obtain ⟨z, rfl⟩ : ∃ j, z = j + 1 := ⟨z - 1, by omega⟩
    refine ⟨st', ?_, C, fun j q => hj j (by omega)⟩
    show m_X12_tree_b87 F _ _ _ _ _ = _
    unfold m_X12_tree_b87
    rw [if_pos (nI_le (by omega) (by omega))]
  | succ d ih =>
    intro i z st' hi hz C hj
    obtain ⟨z, rfl⟩ : ∃ j, z = j + 1 := ⟨z - 1, by omega⟩
    obtain ⟨st'', i1, i2⟩ := ih (i + 1) z (uA st' 28 i (nI (B i))) (by omega) (by omega) (C.trans (Rs.uA (by simp))) (fun j q => by
      rw [sA_uA, if_pos rfl]
      by_cases e : j = i
      · rw [e, upd_s]
      · rw [upd_n e]; exact hj j (by omega))
    refine ⟨st'', ?_, i2⟩
    have ha : sA st' 1 = sA st 1 := C.A (by decide)
    show m_X12_tree_b87 F _ _ _ _ _ = _
    unfold m_X12_tree_b87
    rw [if_neg (nI_ge (by omega) (by omega)), rR_28, bd_some, rR_1, bd_some, rE_1 (by omega), bd_some, ha, (P i (by omega)).1, wE_28 (by omega), bd_some, nm_e2, nI_1]
    exact i1
theorem rtree_128 {fm : List Nat} (hn : fm.length ≤ 9) {p : Nat → Nat} (hp : ∀ j, j < fm.length → p j < fm.length) (h28 : ∀ i (hi : i < fm.length), sA st 28 i = nI fm[i]) (h29 : ∀ x, x < fm.length → sA st 29 x = if x = 0 then (-1 : Int32) else nI (p x)) {v : Int32} : ∀ (d i z : Nat) (st' : RS), i + d = fm.length → d < z → Rs [32] st st' → (∀ j, j < i → sA st' 32 j = srcI fm p j) → ∃ st'', m_X12_tree_L128 F z (some 179) (nI fm.length) v (nI i) (ov g st') = some (v, ov g st'') ∧ Rs [32] st st'' ∧ ∀ j, j < fm.length → sA st'' 32 j = srcI fm p j := by
  intro d
  induction d with
  | zero =>
    intro i z st' hi hz C hj
    obtain ⟨z, rfl⟩ : ∃ j, z = j + 1 := ⟨z - 1, by omega⟩
    refine ⟨st', ?_, C, fun j q => hj j (by omega)⟩
    show m_X12_tree_b128 F _ _ _ _ _ _ = _
    unfold m_X12_tree_b128
    rw [if_pos (nI_le (by omega) (by omega))]
  | succ d ih =>
    intro i z st' hi hz C hj
    obtain ⟨z, rfl⟩ : ∃ j, z = j + 1 := ⟨z - 1, by omega⟩
    obtain ⟨st'', i1, i2⟩ := ih (i + 1) z (uA st' 32 i (srcI fm p i)) (by omega) (by omega) (C.trans (Rs.uA (by simp))) (fun j q => by
      rw [sA_uA, if_pos rfl]
      by_cases e : j = i
      · rw [e, upd_s]
      · rw [upd_n e]; exact hj j (by omega))
    refine ⟨st'', ?_, i2⟩
    have ha : sA st' 28 = sA st 28 := C.A (by decide)
    have hb : sA st' 29 = sA st 29 := C.A (by decide)
    have il : i < fm.length := by omega
    show m_X12_tree_b128 F _ _ _ _ _ _ = _
    unfold m_X12_tree_b128
    rw [if_neg (nI_ge (by omega) (by omega)), rR_32, bd_some, rR_29, bd_some, rE_29 (by omega), bd_some, hb, h29 i il]
    by_cases e0 : i = 0
    · rw [if_pos e0, if_pos rfl, wE_32 (by omega), bd_some, nm_e2, nI_1, ← i1]
      rw [show srcI fm p i = -1 from if_pos e0]
    · have hpi := hp i il
      have es : srcI fm p i = nI fm[p i] := by
        unfold srcI
        rw [if_neg e0, List.getD_eq_getElem?_getD, List.getElem?_eq_getElem hpi]
        rfl
      rw [if_neg e0, if_neg (nI_nm1 (by omega)), rR_28, bd_some, bd_some, rE_29 (by omega), bd_some, hb, h29 i il, if_neg e0, rE_28 (by omega), bd_some, ha, h28 _ hpi, wE_32 (by omega), bd_some, nm_e2, nI_1, ← i1, es]
end C11
