/-! the class's reads of its HOUSE and its DESKS -/
def St4 (f : Hp) : Prop := ∀ a, a < 100 → f a = stat a
theorem St4.fac {f : Hp} (h : St4 f) : f 30 = some (.inr (1, 8, .inl facF)) := (h 30 (by omega)).trans rfl
theorem St4.lik {f : Hp} (h : St4 f) : f 31 = some (.inr (1, 6, .inl fun _ => 1)) := (h 31 (by omega)).trans rfl
theorem St4.wrd {f : Hp} (h : St4 f) : f 32 = some (.inr (8, 21, .inr (.inr (.inr (.inr (fun j => some j)))))) := (h 32 (by omega)).trans rfl
theorem St4.swm {f : Hp} (h : St4 f) : f 33 = some (.inr (1, 21, .inl swMap)) := (h 33 (by omega)).trans rfl
theorem cnt_0 {n : Nat} {P : Nat → Bool} : cnt n P = 0 ↔ ∀ k, k < n → P k = false := by
  induction n with
  | zero => exact ⟨fun _ k h => absurd h (Nat.not_lt_zero k), fun _ => rfl⟩
  | succ n ih =>
    rw [cnt_s]
    constructor
    · intro h k hk
      cases hP : P n
      · rw [hP] at h
        by_cases e : k = n
        · rw [e]; exact hP
        · exact ih.mp (by simpa using h) k (by omega)
      · rw [hP] at h; simp at h
    · intro h
      rw [ih.mpr (fun k hk => h k (by omega)), h n (by omega)]
      rfl
theorem bitsOf_inj {n : Nat} {P Q : Nat → Bool} (h : bitsOf n P = bitsOf n Q) : ∀ k, k < n → P k = Q k := fun k hk => by
  have := congrArg (fun x => x.testBit k) h
  simp only [bitsOf_test, decide_eq_true hk, Bool.true_and] at this
  exact this
theorem ln_eq {A B : List Nat} : bitsOf 7 (lnB A) = bitsOf 7 (lnB B) ↔ fal A B = 0 := by
  constructor
  · intro h
    exact cnt_0.mpr (fun k hk => by rw [bitsOf_inj h k hk]; simp)
  · intro h
    exact bitsOf_ext (fun k hk => by simpa using cnt_0.mp h k hk)
theorem cnt_split (A B : List Nat) : ∀ n, fal A B = fal A B ∧ cnt n (flB A B) + 2 * cnt n (fun k => lnB A k && lnB B k) = cnt n (lnB A) + cnt n (lnB B) := by
  intro n
  refine ⟨rfl, ?_⟩
  induction n with
  | zero => rfl
  | succ n ih =>
    rw [cnt_s, cnt_s, cnt_s, cnt_s, show flB A B n = (lnB A n != lnB B n) from rfl]
    cases lnB A n <;> cases lnB B n <;> simp <;> omega
theorem cnt_len {A : List Nat} (hA : okL A) : cnt 7 (lnB A) = A.length := by
  have h1 := cnt_not hA.2 hA.1
  have h2 := cnt_blw hA.2 7
  have e3 : blw 7 A = A.length := by
    unfold blw
    rw [List.countP_eq_length]
    exact fun a ha => decide_eq_true (hA.1 a ha)
  exact h2.trans e3
/-- B is A less one line just if one line lies in one of them alone -/
theorem drop_fal {A B : List Nat} (hA : okL A) (hB : okL B) (hl : B.length + 1 = A.length) : fal A B = 1 ↔ ∀ k, k < 7 → (lnB B k && !lnB A k) = false := by
  have h1 := (cnt_split A B 7).2
  rw [cnt_len hA, cnt_len hB] at h1
  have h2 : cnt 7 (fun k => lnB A k && lnB B k) + cnt 7 (fun k => lnB B k && !lnB A k) = cnt 7 (lnB B) := by
    have : ∀ n, cnt n (fun k => lnB A k && lnB B k) + cnt n (fun k => lnB B k && !lnB A k) = cnt n (lnB B) := by
      intro n
      induction n with
      | zero => rfl
      | succ n ih =>
        rw [cnt_s, cnt_s, cnt_s]
        cases lnB A n <;> cases lnB B n <;> simp <;> omega
    exact this 7
  rw [cnt_len hB] at h2
  rw [← cnt_0 (n := 7) (P := fun k => lnB B k && !lnB A k)]
  have h3 : fal A B = cnt 7 (flB A B) := rfl
  omega
theorem not_k : ∀ m, m < 128 → ∀ n, n < 128 → ((nI m &&& (nI n ^^^ (-1 : Int32))) = 0 ↔ m &&& (127 ^^^ n) = 0) := by decide +kernel
theorem ln_sub {A B : List Nat} : (nI (bitsOf 7 (lnB B)) &&& (nI (bitsOf 7 (lnB A)) ^^^ (-1 : Int32))) = 0 ↔ ∀ k, k < 7 → (lnB B k && !lnB A k) = false := by
  rw [not_k _ (bitsOf_lt 7 _) _ (bitsOf_lt 7 _)]
  have e : bitsOf 7 (lnB B) &&& (127 ^^^ bitsOf 7 (lnB A)) = bitsOf 7 (fun k => lnB B k && !lnB A k) := by
    refine bitsOf_eq (Nat.lt_of_le_of_lt Nat.and_le_left (bitsOf_lt 7 _)) (fun i hi => ?_)
    have h127 : (127 : Nat).testBit i = true := by
      rw [show (127 : Nat) = 2 ^ 7 - 1 from rfl, Nat.testBit_two_pow_sub_one]
      exact decide_eq_true hi
    rw [Nat.testBit_and, bitsOf_test, Nat.testBit_xor, h127, bitsOf_test]
    simp [hi]
  rw [e]
  constructor
  · intro h k hk
    have := congrArg (fun x => x.testBit k) h
    simpa [bitsOf_test, hk] using this
  · intro h
    rw [bitsOf_none 7]
    exact bitsOf_ext h
def makB (w lim : Nat) (A B : List Nat) : Bool := if w = 0 then decide (fal A B = 0) && decide (stp A B = 1) else if w = 1 then decide (fal A B = 0) && decide (stp A B ≤ lim) else decide (B.length + 1 = A.length) && decide (fal A B = 1) && decide (stp A B = 0)
def fewI (w lim n : Nat) : Int32 := if w = 0 then nI n else if w = 1 then nI ((n + lim - 1) / lim) else if n = 0 then 0 else (-1 : Int32)
def takI (w lim n : Nat) (k : Int32) : Bool := if w = 0 then !decide (k < nI n) && decide (irm (k - nI n) 2 = 0) else if w = 1 then !decide (k < fewI 1 lim n) else decide (k = 0) && decide (n = 0)
theorem stp_le (A B : List Nat) : stp A B ≤ 21 := cnt_le _ _
theorem fal_le (A B : List Nat) : fal A B ≤ 7 := cnt_le _ _
theorem nI_is1 {n : Nat} (h : n < 2 ^ 31) : nI n = (1 : Int32) ↔ n = 1 := nI_eq h (by decide)
def swv : Nat → Int32
  | 0 => 1
  | 1 => 2
  | _ => 9
section DESK
variable {F : Nat} {f : Hp}
theorem way_e (S : St4 f) {a : Nat} {d : Nat × Nat × List Nat} (D : dAt f a d) (hw : d.1 < 3) {β : Type} {K : Int32 → Option β} : ((gR f (some a) 1 0).bind fun x1 => (enI x1).bind fun i2 => (ldI f 1 (some 33) (nI i2)).bind K) = K (swv d.1) := by
  obtain ⟨lim, h1, -⟩ := D
  rw [gR_s h1 rfl, bd_some]
  have e : enI (some (4 + d.1)) = some (4 + d.1) := if_pos (by omega)
  rw [e, bd_some, ldI_e S.swm (by omega) (by omega), bd_some]
  match d.1, hw with
  | 0, _ => rfl
  | 1, _ => rfl
  | 2, _ => rfl
theorem mayMake_e (S : St4 f) {a b c : Nat} {d : Nat × Nat × List Nat} (D : dAt f a d) (hw : d.1 < 3) (hlim : d.1 = 1 → d.2.1 ≤ 9) {na nb : Int64} {A B : List Nat} (hA : okL A) (hB : okL B) (ha : f b = some (.inl (0, cC na A))) (hb : f c = some (.inl (0, cC nb B))) : m_X2_mayMake F (some a) (some b) (some c) f = some (if makB d.1 d.2.1 A B then 1 else 0) := by
  have l1 := okL_len hA
  have l2 := okL_len hB
  have hs := stp_le A B
  have b1 := bitsOf_lt 7 (lnB A)
  have b2 := bitsOf_lt 7 (lnB B)
  have key : ∀ s0 : Int32, (s0 = if fal A B = 0 then 1 else 0) → m_X2_mayMake_B22 F (some a) (some b) (some c) (nI (stp A B)) s0 f = some (if makB d.1 d.2.1 A B then 1 else 0) := by
    intro s0 hs0
    unfold m_X2_mayMake_B22
    rw [way_e S D hw]
    match hd : d.1, hw with
    | 0, _ =>
      rw [show swv 0 = 1 from rfl, if_pos rfl]
      by_cases q : fal A B = 0
      · rw [hs0, if_pos q, if_neg (by decide)]
        by_cases q2 : stp A B = 1
        · rw [if_pos (by rw [q2]; rfl)]
          simp [makB, q, q2]; rfl
        · rw [if_neg (fun e => q2 ((nI_is1 (by omega)).mp e))]
          simp [makB, q, q2]; rfl
      · rw [hs0, if_neg q, if_pos rfl]
        simp [makB, q]; rfl
    | 1, _ =>
      obtain ⟨lim, h1, h2⟩ := D
      have hl := hlim hd
      rw [show swv 1 = 2 from rfl, if_neg (show ¬ (2 : Int32) = 1 by decide), if_pos rfl]
      by_cases q : fal A B = 0
      · rw [hs0, if_pos q, if_neg (by decide), bd_e (gI_e h1 rfl), h2 hd]
        by_cases q2 : stp A B ≤ d.2.1
        · rw [if_neg (nI_nlt q2 (by omega))]
          simp [makB, q, q2]; rfl
        · rw [if_pos (nI_lt (by omega) (by omega))]
          simp [makB, q, q2]; rfl
      · rw [hs0, if_neg q, if_pos rfl]
        simp [makB, q]; rfl
    | 2, _ =>
      rw [show swv 2 = 9 from rfl, if_neg (show ¬ (9 : Int32) = 1 by decide), if_neg (show ¬ (9 : Int32) = 2 by decide)]
      by_cases q : stp A B = 0
      · rw [if_pos (by rw [q]; rfl), bd_e (gI_e hb rfl), bd_e (gI_e ha rfl)]
        by_cases q2 : B.length + 1 = A.length
        · rw [if_pos (by rw [nI_m1 (by omega)]; congr 1; omega), bd_e (gI_e hb rfl), bd_e (gI_e ha rfl)]
          by_cases q3 : fal A B = 1
          · rw [if_pos (ln_sub.mpr ((drop_fal hA hB q2).mp q3))]
            simp [makB, q, q2, q3]; rfl
          · rw [if_neg (fun e => q3 ((drop_fal hA hB q2).mpr (ln_sub.mp e)))]
            simp [makB, q, q2, q3]; rfl
        · rw [if_neg]
          · simp [makB, q, q2]; rfl
          · intro e
            by_cases z : A.length = 0
            · rw [z] at e
              have : nI B.length = (-1 : Int32) := e
              exact nI_nm1 (by omega) this
            · rw [nI_m1 (by omega)] at e
              have := (nI_eq (by omega) (by omega)).mp e
              omega
      · rw [if_neg (nI_ne0 (by omega) (by omega))]
        simp [makB, q]; rfl
  unfold m_X2_mayMake
  rw [ck_e (isO_e ha), bd_e (stepsTo_e F ha hb), bd_e (gI_e ha rfl), bd_e (gI_e hb rfl)]
  by_cases q : fal A B = 0
  · rw [if_pos (by rw [ln_eq.mpr q])]
    exact key 1 (by rw [if_pos q])
  · rw [if_neg (fun e => q (ln_eq.mp ((nI_eq (by omega) (by omega)).mp e)))]
    exact key 0 (by rw [if_neg q])
theorem fewestFor_e (S : St4 f) {a n : Nat} {d : Nat × Nat × List Nat} (D : dAt f a d) (hw : d.1 < 3) (hlim : d.1 = 1 → 1 ≤ d.2.1 ∧ d.2.1 ≤ 9) (hn : n < 2 ^ 20) : m_X2_fewestFor F (some a) (nI n) f = some (fewI d.1 d.2.1 n) := by
  unfold m_X2_fewestFor
  rw [way_e S D hw]
  match hd : d.1, hw with
  | 0, _ => rw [show swv 0 = 1 from rfl, if_pos rfl]; rfl
  | 1, _ =>
    obtain ⟨lim, h1, h2⟩ := D
    obtain ⟨l1, l2⟩ := hlim hd
    rw [show swv 1 = 2 from rfl, if_neg (show ¬ (2 : Int32) = 1 by decide), if_pos rfl, bd_e (gI_e h1 rfl), h2 hd, if_neg (show ¬ nI d.2.1 ≤ 0 from nI_ge (a := 0) (by omega) (by omega)), bd_e (gI_e h1 rfl), bd_e (gI_e h1 rfl), h2 hd, ck_e (decide_eq_true (nI_ne0 (by omega) (by omega))), nI_add, nI_m1 (by omega), pk_div (by omega) (by omega) (by omega)]
    rfl
  | 2, _ =>
    rw [show swv 2 = 9 from rfl, if_neg (show ¬ (9 : Int32) = 1 by decide), if_neg (show ¬ (9 : Int32) = 2 by decide)]
    by_cases q : n = 0
    · rw [if_pos (by rw [q]; rfl)]
      simp [fewI, q]
    · rw [if_neg (nI_ne0 (by omega) (by omega))]
      simp [fewI, q]
theorem mayTake_e (S : St4 f) {a n : Nat} {d : Nat × Nat × List Nat} (D : dAt f a d) (hw : d.1 < 3) (hlim : d.1 = 1 → 1 ≤ d.2.1 ∧ d.2.1 ≤ 9) (hn : n < 2 ^ 20) (k : Int32) : m_X2_mayTake F (some a) (nI n) k f = some (if takI d.1 d.2.1 n k then 1 else 0) := by
  have hf := fewestFor_e (F := F) S D hw hlim hn
  have hO : isO f (some a) 1 = true := by
    obtain ⟨lim, h1, -⟩ := D
    exact isO_e h1
  unfold m_X2_mayTake
  rw [way_e S D hw]
  match hd : d.1, hw with
  | 0, _ =>
    rw [show swv 0 = 1 from rfl, if_pos rfl]
    by_cases q : k < nI n
    · rw [if_pos q]
      simp [takI, q]; rfl
    · rw [if_neg q, ck_e (by decide)]
      by_cases q2 : irm (k - nI n) 2 = 0
      · rw [if_pos q2]
        simp [takI, q, q2]; rfl
      · rw [if_neg q2]
        simp [takI, q, q2]; rfl
  | 1, _ =>
    rw [hd] at hf
    rw [show swv 1 = 2 from rfl, if_neg (show ¬ (2 : Int32) = 1 by decide), if_pos rfl, ck_e hO, bd_e hf]
    by_cases q : k < fewI 1 d.2.1 n
    · rw [if_pos q]
      simp [takI, q]; rfl
    · rw [if_neg q]
      simp [takI, q]; rfl
  | 2, _ =>
    rw [show swv 2 = 9 from rfl, if_neg (show ¬ (9 : Int32) = 1 by decide), if_neg (show ¬ (9 : Int32) = 2 by decide)]
    by_cases q : k = 0
    · rw [if_pos q]
      by_cases q2 : n = 0
      · rw [if_pos (by rw [q2]; rfl)]
        simp [takI, q, q2]; rfl
      · rw [if_neg (nI_ne0 (by omega) (by omega))]
        simp [takI, q, q2]; rfl
    · rw [if_neg q]
      simp [takI, q]; rfl
end DESK
