/-! names -/
def fix' {α : Type} (p : α → Bool) : List α → Nat → Option Nat
  | [], _ => none
  | x :: xs, k => if p x then some k else fix' p xs (k + 1)
def oN (o : Option Nat) : Int32 := match o with
  | some c => nI c
  | none => (-1 : Int32)
theorem fix_lt {α : Type} {p : α → Bool} : ∀ {l : List α} {k c : Nat}, fix' p l k = some c → k ≤ c ∧ c < k + l.length ∧ ∃ x, l[c - k]? = some x ∧ p x = true
  | [], _, _, h => by cases h
  | x :: xs, k, c, h => by
    unfold fix' at h
    split at h
    · rename_i hp
      cases h
      exact ⟨Nat.le_refl _, by simp, x, by simp, hp⟩
    · obtain ⟨h1, h2, y, h3, h4⟩ := fix_lt h
      refine ⟨by omega, by simp; omega, y, ?_, h4⟩
      rw [show c - k = (c - (k + 1)) + 1 by omega, List.getElem?_cons_succ]
      exact h3
def cNm (h : HS) (x : Int64) : Option Nat := fix' (fun c => decide (lN (code32 c.1) = x)) (hC h) 0
section NAMES
variable {F : Nat} {f : Hp} {b s : Nat} {h : HS}
theorem copyNamed_L (H : HAt f b s h) (h10 : (hC h).length ≤ 10) {x : Int64} : ∀ (d c z : Nat), c + d = (hC h).length → d < z → m_X4_copyNamed_L2 F z (some b) x (nI c) f = some (oN (fix' (fun c => decide (lN (code32 c.1) = x)) ((hC h).drop c) c)) := by
  obtain ⟨q, hq1, hq2⟩ := H.2.1
  intro d
  induction d with
  | zero =>
    intro c z hc hz
    obtain ⟨z, rfl⟩ : ∃ j, z = j + 1 := ⟨z - 1, by omega⟩
    show m_X4_copyNamed_b2 F _ _ _ _ _ = _
    unfold m_X4_copyNamed_b2
    rw [bd_e (gI_e H.1 rfl), if_pos (nI_le (by omega) (by omega)), List.drop_eq_nil_of_le (by omega)]
    rfl
  | succ d ih =>
    intro c z hc hz
    obtain ⟨z, rfl⟩ : ∃ j, z = j + 1 := ⟨z - 1, by omega⟩
    have hcl : c < (hC h).length := by omega
    have hs := ih (c + 1) z (by omega) (by omega)
    rw [List.drop_eq_getElem_cons hcl]
    show m_X4_copyNamed_b2 F _ _ _ _ _ = some (oN (if decide (lN (code32 (hC h)[c].1) = x) then some c else fix' _ ((hC h).drop (c + 1)) (c + 1)))
    unfold m_X4_copyNamed_b2
    rw [bd_e (gI_e H.1 rfl), if_neg (nI_ge hcl (by omega)), if_neg (lim10 (by omega)), bd_e (gR_s H.1 rfl), bd_e (ldR_e hq1 (by omega) (by omega)), hq2 c (by omega), bd_e (gJ_e (H.copy hcl) rfl)]
    by_cases e : lN (code32 (hC h)[c].1) = x
    · rw [if_pos ((lg_cmp_eq _ _).mpr e), if_pos (decide_eq_true e)]
      rfl
    · rw [if_neg (fun q => e ((lg_cmp_eq _ _).mp q)), if_neg (by simp [e]), nm_e2, nI_1]
      exact hs
theorem copyNamed_e (H : HAt f b s h) (h10 : (hC h).length ≤ 10) (hF : 16 ≤ F) (x : Int64) : m_X4_copyNamed F (some b) x f = some (oN (cNm h x)) :=
  copyNamed_L (F := F) H h10 (hC h).length 0 F (by omega) (by omega)
def isNm (h : HS) (x : Int64) : Bool := (hD h).any (fun d => decide (lN (code32 d.2.2) = x)) || (cNm h x).isSome
theorem isNamed_L (H : HAt f b s h) (ok : okH h) (hF : 16 ≤ F) {x : Int64} : ∀ (d c z : Nat), c + d = (hD h).length → d < z → m_X4_isNamed_L2 F z (some b) x (nI c) f = some (if ((hD h).drop c).any (fun d => decide (lN (code32 d.2.2) = x)) || (cNm h x).isSome then 1 else 0) := by
  obtain ⟨q, hq1, hq2⟩ := H.2.2.1
  have h6 := ok.2.2.2.1
  have h10 := ok.2.1
  intro d
  induction d with
  | zero =>
    intro c z hc hz
    obtain ⟨z, rfl⟩ : ∃ j, z = j + 1 := ⟨z - 1, by omega⟩
    show m_X4_isNamed_b2 F _ _ _ _ _ = _
    unfold m_X4_isNamed_b2
    rw [bd_e (gI_e H.1 rfl), if_pos (nI_le (by omega) (by omega)), List.drop_eq_nil_of_le (by omega)]
    unfold m_X4_isNamed_B38
    rw [ck_e (isO_e H.1), bd_e (copyNamed_e H h10 hF x)]
    cases hq : cNm h x with
    | none => rw [if_pos (show oN none = (-1 : Int32) from rfl)]; rfl
    | some c =>
      have := fix_lt hq
      rw [if_neg (show ¬ oN (some c) = (-1 : Int32) from nI_nm1 (by omega))]
      rfl
  | succ d ih =>
    intro c z hc hz
    obtain ⟨z, rfl⟩ : ∃ j, z = j + 1 := ⟨z - 1, by omega⟩
    have hcl : c < (hD h).length := by omega
    have hs := ih (c + 1) z (by omega) (by omega)
    obtain ⟨lim, hd, -⟩ := H.desk hcl
    rw [List.drop_eq_getElem_cons hcl]
    show m_X4_isNamed_b2 F _ _ _ _ _ = _
    unfold m_X4_isNamed_b2
    rw [bd_e (gI_e H.1 rfl), if_neg (nI_ge hcl (by omega)), if_neg (lim6 (by omega)), bd_e (gR_s H.1 rfl), bd_e (ldR_e hq1 (by omega) (by omega)), hq2 c (by omega), bd_e (gJ_e hd rfl)]
    by_cases e : lN (code32 (hD h)[c].2.2) = x
    · rw [if_pos ((lg_cmp_eq _ _).mpr e), List.any_cons, decide_eq_true e]
      rfl
    · rw [if_neg (fun q => e ((lg_cmp_eq _ _).mp q)), nm_e2, nI_1, hs, List.any_cons, decide_eq_false e, Bool.false_or]
theorem isNamed_e (H : HAt f b s h) (ok : okH h) (hF : 16 ≤ F) (x : Int64) : m_X4_isNamed F (some b) x f = some (if isNm h x then 1 else 0) :=
  isNamed_L (F := F) H ok hF (hD h).length 0 F (by omega) (by have := ok.2.2.2.1; omega)
end NAMES
/-! all orders of N lines, as the class keeps them -/
def exN (N x p : Nat) : Nat := rkT (swp p (unrk N x))
theorem exN_lt {N x p : Nat} (hx : x < fct N) : exN N x p < fct N := (unrk_ok hx).swp.rk
theorem unrk_exN {N x p : Nat} (hx : x < fct N) : unrk N (exN N x p) = swp p (unrk N x) := unrk_rk (unrk_ok hx).swp
/-- the object at o, rows at o + 1 .. o + 6; those of the WAYS change places -/
def OAt (f : Hp) (o N : Nat) : Prop := ∃ a b, (a = o + 4 ∧ b = o + 5 ∨ a = o + 5 ∧ b = o + 4) ∧
  f o = some (.inl (5, [.int (nI N), .int (nI (fct N)), .int (nI (bitsOf 21 (allP N))), .ref (o + 1), .ref (o + 2), .ref (o + 3), .ref a, .ref b, .ref (o + 6)])) ∧
  (∃ P, f (o + 1) = some (.inr (1, fct N, .inl P)) ∧ ∀ x, x < fct N → P x = nI (pkN (unrk N x))) ∧
  (∃ T, f (o + 2) = some (.inr (1, fct N, .inl T)) ∧ ∀ x, x < fct N → T x = nI (bitsOf 21 (tnB (unrk N x)))) ∧
  (∃ E, f (o + 3) = some (.inr (1, fct N * (N - 1), .inl E)) ∧ ∀ x, x < fct N → ∀ p, p < N - 1 → E (x * (N - 1) + p) = nI (exN N x p)) ∧
  (∃ q, f (o + 4) = some (.inr (2, fct N, .inr (.inl q)))) ∧ (∃ q, f (o + 5) = some (.inr (2, fct N, .inr (.inl q)))) ∧ (∃ q, f (o + 6) = some (.inr (2, fct N, .inr (.inl q))))
section ORD
variable {F : Nat} {f : Hp} {o N : Nat}
theorem OAt.O (H : OAt f o N) : isO f (some o) 5 = true := by
  obtain ⟨a, b, -, h, -⟩ := H
  exact isO_e h
theorem OAt.lines (H : OAt f o N) : gI f (some o) 5 0 = some (nI N) := by
  obtain ⟨a, b, -, h, -⟩ := H
  exact gI_e h rfl
theorem OAt.total (H : OAt f o N) : gI f (some o) 5 1 = some (nI (fct N)) := by
  obtain ⟨a, b, -, h, -⟩ := H
  exact gI_e h rfl
theorem OAt.pairs (H : OAt f o N) : gI f (some o) 5 2 = some (nI (bitsOf 21 (allP N))) := by
  obtain ⟨a, b, -, h, -⟩ := H
  exact gI_e h rfl
theorem OAt.pk {β : Type} (H : OAt f o N) (h7 : N ≤ 7) {x : Nat} (hx : x < fct N) {K : Int32 → Option β} : ((gR f (some o) 5 3).bind fun r => (ldI f 1 r (nI x)).bind K) = K (nI (pkN (unrk N x))) := by
  obtain ⟨a, b, -, h, ⟨P, p1, p2⟩, -⟩ := H
  have := fct_le N (by omega)
  rw [gR_s h rfl, bd_some, ldI_e p1 hx (by omega), bd_some, p2 x hx]
theorem OAt.tn {β : Type} (H : OAt f o N) (h7 : N ≤ 7) {x : Nat} (hx : x < fct N) {K : Int32 → Option β} : ((gR f (some o) 5 4).bind fun r => (ldI f 1 r (nI x)).bind K) = K (nI (bitsOf 21 (tnB (unrk N x)))) := by
  obtain ⟨a, b, -, h, -, ⟨T, p1, p2⟩, -⟩ := H
  have := fct_le N (by omega)
  rw [gR_s h rfl, bd_some, ldI_e p1 hx (by omega), bd_some, p2 x hx]
theorem ohas_e (H : OAt f o N) (x : Int32) : m_X6_has F (some o) x f = some (if x < 0 ∨ nI (fct N) ≤ x then 0 else 1) := by
  unfold m_X6_has
  by_cases h0 : x < 0
  · rw [if_pos h0, if_pos (Or.inl h0)]; rfl
  · rw [if_neg h0, bd_e H.total]
    by_cases h1 : nI (fct N) ≤ x
    · rw [if_pos h1, if_pos (Or.inr h1)]; rfl
    · rw [if_neg h1, if_neg (fun h => h.elim h0 h1)]; rfl
theorem ostepsTo_e (H : OAt f o N) (h7 : N ≤ 7) {x : Nat} (hx : x < fct N) {c : Nat} {nc : Int64} {B : List Nat} (hB : ∀ y ∈ B, y < N) (hc : f c = some (.inl (0, cC nc B))) : m_X6_stepsTo F (some o) (nI x) (some c) f = some (nI (stp (unrk N x) B)) := by
  unfold m_X6_stepsTo
  rw [H.tn h7 hx, bd_e (gI_e hc rfl), bd_e (gI_e hc rfl), nI_xor, nI_and, bitsOf_xor, bitsOf_and, bd_e (pop_b F f (by decide) _), stp_perm (unrk_ok hx) hB]
theorem ofarTo_e (H : OAt f o N) (h7 : N ≤ 7) {x : Nat} (hx : x < fct N) {c : Nat} {nc : Int64} {B : List Nat} (hn : B.Nodup) (hB : ∀ y ∈ B, y < N) (hc : f c = some (.inl (0, cC nc B))) : m_X6_farTo F (some o) (nI x) (some c) f = some (nI (stp (unrk N x) B + 3 * fal (unrk N x) B)) := by
  have hl := nd_le N B hB hn
  unfold m_X6_farTo
  rw [ck_e H.O, bd_e (ostepsTo_e H h7 hx hB hc), bd_e H.lines, bd_e (gI_e hc rfl), nI_sub hl, show (3 : Int32) = nI 3 from rfl, nI_mul, nI_add, fal_perm h7 (unrk_ok hx) hn hB]
theorem exchanged_e (H : OAt f o N) (h2 : 2 ≤ N) (h7 : N ≤ 7) {x p : Nat} (hx : x < fct N) (hp : p < N - 1) : m_X6_exchanged F (some o) (nI x) (nI p) f = some (nI (exN N x p)) := by
  obtain ⟨a, b, -, h, -, -, ⟨E, e1, e2⟩, -⟩ := H
  have h5 := fct_le N (by omega)
  have hb : x * (N - 1) + p < fct N * (N - 1) := by
    have h1 : (x + 1) * (N - 1) ≤ fct N * (N - 1) := Nat.mul_le_mul_right _ hx
    rw [Nat.add_mul] at h1
    omega
  have hb2 : fct N * (N - 1) ≤ 5040 * 6 := Nat.mul_le_mul h5 (by omega)
  unfold m_X6_exchanged
  rw [bd_e (gI_e h rfl), nm_e2, nI_m1 (by omega), nI_mul, nI_add, if_neg (nI_pos (by omega)), bd_e (gR_s h rfl), bd_e (alen_e e1 (by decide)), if_neg (nI_ge hb (by omega)), bd_e (gR_s h rfl), bd_e (ldI_e e1 hb (by omega)), e2 x hx p hp]
theorem facF_e : ∀ n, n < 8 → facF n = nI (fct n) := by decide +kernel
theorem factorial_e (S : St4 f) {n : Nat} (h : n < 8) : m_X11_factorial F (nI n) f = some (nI (fct n)) := by
  unfold m_X11_factorial
  rw [if_neg (nI_pos (by omega)), bd_e (alen_e S.fac (by decide)), if_neg (nI_ge h (by decide)), bd_e (ldI_e S.fac h (by omega)), facF_e n h]
theorem lowerBehind_L {a i : Nat} {nm : Int64} {L : List Nat} (h : f a = some (.inl (0, cC nm L))) (hL : okL L) (hi : i < L.length) : ∀ (d j z : Nat), j + d = L.length - (i + 1) → d < z → m_X6_lowerBehind_L6 F z (some a) (nI i) (nI (cnt j (fun j => decide (L.getD (i + 1 + j) 0 < L.getD i 0)))) (nI (i + 1 + j)) f = some (nI (lowB L i)) := by
  have h7 := okL_len hL
  intro d
  induction d with
  | zero =>
    intro j z hj hz
    obtain ⟨z, rfl⟩ : ∃ j, z = j + 1 := ⟨z - 1, by omega⟩
    show m_X6_lowerBehind_b6 F _ _ _ _ _ _ = _
    unfold m_X6_lowerBehind_b6
    rw [bd_e (gI_e h rfl), if_pos (nI_le (by omega) (by omega)), show j = L.length - (i + 1) by omega]
    rfl
  | succ d ih =>
    intro j z hj hz
    obtain ⟨z, rfl⟩ : ∃ j, z = j + 1 := ⟨z - 1, by omega⟩
    have hs := ih (j + 1) z (by omega) (by omega)
    rw [cnt_s] at hs
    have h1 : i + 1 + j < L.length := by omega
    have a1 := hL.1 _ (List.getElem_mem h1)
    have a2 := hL.1 _ (List.getElem_mem hi)
    show m_X6_lowerBehind_b6 F _ _ _ _ _ _ = _
    unfold m_X6_lowerBehind_b6
    rw [bd_e (gI_e h rfl), if_neg (nI_ge (by omega) (by omega)), bd_e (gI_e h rfl), bd_e (lineOf_L F f hL h1), bd_e (gI_e h rfl), bd_e (lineOf_L F f hL hi)]
    have hc : L.getD (i + 1 + j) 0 < L.getD i 0 ↔ L[i + 1 + j] < L[i] := by rw [getD_e h1, getD_e hi]
    by_cases q : L[i] ≤ L[i + 1 + j]
    · rw [if_pos (nI_le q (by omega)), nm_e2, nI_1]
      rw [if_neg (by rw [decide_eq_true_eq, hc]; omega), Nat.add_zero] at hs
      exact hs
    · rw [if_neg (nI_ge (by omega) (by omega)), nm_e2, nm_e2, nI_1, nI_1]
      rw [if_pos (by rw [decide_eq_true_eq, hc]; omega)] at hs
      exact hs
theorem lowerBehind_e {a i : Nat} {nm : Int64} {L : List Nat} (h : f a = some (.inl (0, cC nm L))) (hL : okL L) (hi : i < L.length) (hF : 8 ≤ F) : m_X6_lowerBehind F (some a) (nI i) f = some (nI (lowB L i)) := by
  have h7 := okL_len hL
  unfold m_X6_lowerBehind
  rw [nm_e2, nI_1]
  exact lowerBehind_L (F := F) h hL hi (L.length - (i + 1)) 0 F (by omega) (by omega)
theorem onumberOf_L (H : OAt f o N) (S : St4 f) (h7 : N ≤ 7) (hF : 8 ≤ F) {a : Nat} {nm : Int64} {L : List Nat} (h : f a = some (.inl (0, cC nm L))) (hL : okL L) (hl : L.length = N) : ∀ (d i z : Nat), i + d = N → d < z → m_X6_numberOf_L4 F z (some o) (some a) (nI (rnkS i L)) (nI i) f = some (nI (rkT L)) := by
  intro d
  induction d with
  | zero =>
    intro i z hi hz
    obtain ⟨z, rfl⟩ : ∃ j, z = j + 1 := ⟨z - 1, by omega⟩
    show m_X6_numberOf_b4 F _ _ _ _ _ _ = _
    unfold m_X6_numberOf_b4
    rw [bd_e H.lines, if_pos (nI_le (by omega) (by omega)), show i = L.length by omega, rnkS_a]
  | succ d ih =>
    intro i z hi hz
    obtain ⟨z, rfl⟩ : ∃ j, z = j + 1 := ⟨z - 1, by omega⟩
    show m_X6_numberOf_b4 F _ _ _ _ _ _ = _
    unfold m_X6_numberOf_b4
    rw [bd_e H.lines, if_neg (nI_ge (by omega) (by omega)), bd_e (lowerBehind_e h hL (by omega) hF), bd_e H.lines, nI_m1 (by omega), nI_sub (by omega), bd_e (factorial_e S (by omega)), nm_e2, nm_e2, nI_mul, nI_add, nI_1, ← hl]
    have := ih (i + 1) z (by omega) (by omega)
    simp only [rnkS] at this
    exact this
theorem onumberOf_e (H : OAt f o N) (S : St4 f) (h7 : N ≤ 7) (hF : 8 ≤ F) {a : Nat} {nm : Int64} {L : List Nat} (h : f a = some (.inl (0, cC nm L))) (hL : okL L) (hl : L.length = N) : m_X6_numberOf F (some o) (some a) f = some (nI (rkT L)) :=
  onumberOf_L (F := F) H S h7 hF h hL hl N 0 F (by omega) (by omega)
end ORD
