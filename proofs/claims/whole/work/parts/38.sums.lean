/-! sums over all orders; marks; the greatest common divisor -/
def smJ (g : Nat → Int64) : Nat → Int64
  | 0 => 0
  | i + 1 => smJ g i + g i
theorem stp_pp {N : Nat} {A B : List Nat} (hA : okP N A) (hB : okP N B) : cnt 21 (fun k => tnB A k != tnB B k) = stp A B := by
  rw [← stp_perm hA hB.2.1]
  refine cnt_ext (fun k _ => ?_)
  have e := prB_perm hA k
  have e' := prB_perm hB k
  unfold tnB
  rw [e, e']
  cases (decide (hiT k < N) && decide (loT k < N)) <;> simp
theorem stp_comm (A B : List Nat) : stp A B = stp B A := by
  refine cnt_ext (fun k _ => ?_)
  cases tnB A k <;> cases tnB B k <;> cases prB A k <;> cases prB B k <;> rfl
theorem tn_0 : ∀ n, n < 8 → ∀ k, k < 21 → tnB (unrk n 0) k = false := by decide +kernel
section SUMS
variable {F : Nat} {f : Hp} {o N : Nat} {M : Nat → Int64}
theorem OW.now {β : Type} (W : OW f o N M) (h7 : N ≤ 7) {x : Nat} (hx : x < fct N) {K : Int64 → Option β} : ((gR f (some o) 5 6).bind fun r => (ldJ f r (nI x)).bind K) = K (M x) := by
  have h5 := fct_le N (by omega)
  obtain ⟨a, b, -, h0, ⟨q, ha, hq⟩, -⟩ := W
  rw [bd_e (gR_s h0 rfl), bd_e (ldJ_e ha hx (by omega)), hq x hx]
theorem allWays_L (W : OW f o N M) (H : OAt f o N) (h7 : N ≤ 7) : ∀ (d x z : Nat), x + d = fct N → d < z → m_X6_allWays_L4 F z (some o) (smJ M x) (nI x) f = some (smJ M (fct N)) := by
  have h5 := fct_le N (by omega)
  intro d
  induction d with
  | zero =>
    intro x z hx hz
    obtain ⟨z, rfl⟩ : ∃ j, z = j + 1 := ⟨z - 1, by omega⟩
    show m_X6_allWays_b4 F _ _ _ _ _ = _
    unfold m_X6_allWays_b4
    rw [bd_e H.total, if_pos (nI_le (by omega) (by omega)), show x = fct N by omega]
  | succ d ih =>
    intro x z hx hz
    obtain ⟨z, rfl⟩ : ∃ j, z = j + 1 := ⟨z - 1, by omega⟩
    show m_X6_allWays_b4 F _ _ _ _ _ = _
    unfold m_X6_allWays_b4
    rw [bd_e H.total, if_neg (nI_ge (by omega) (by omega)), W.now h7 (by omega), nm_e2, nm_e2, nI_1]
    exact ih (x + 1) z (by omega) (by omega)
theorem allWays_e (W : OW f o N M) (H : OAt f o N) (h7 : N ≤ 7) (hF : 5041 ≤ F) : m_X6_allWays F (some o) f = some (smJ M (fct N)) :=
  allWays_L W H h7 (fct N) 0 F (by omega) (by have := fct_le N (by omega); omega)
/-- WAYS times FAR -/
def farJ (N from' : Nat) (M : Nat → Int64) (x : Nat) : Int64 := M x * (nI (stp (unrk N x) (unrk N from'))).toInt64
theorem allWaysFar_L (W : OW f o N M) (H : OAt f o N) (h7 : N ≤ 7) {y : Nat} (hy : y < fct N) : ∀ (d x z : Nat), x + d = fct N → d < z → m_X6_allWaysFar_L5 F z (some o) (nI y) (smJ (farJ N y M) x) (nI x) f = some (smJ (farJ N y M) (fct N)) := by
  have h5 := fct_le N (by omega)
  intro d
  induction d with
  | zero =>
    intro x z hx hz
    obtain ⟨z, rfl⟩ : ∃ j, z = j + 1 := ⟨z - 1, by omega⟩
    show m_X6_allWaysFar_b5 F _ _ _ _ _ _ = _
    unfold m_X6_allWaysFar_b5
    rw [bd_e H.total, if_pos (nI_le (by omega) (by omega)), show x = fct N by omega]
  | succ d ih =>
    intro x z hx hz
    obtain ⟨z, rfl⟩ : ∃ j, z = j + 1 := ⟨z - 1, by omega⟩
    have hxl : x < fct N := by omega
    show m_X6_allWaysFar_b5 F _ _ _ _ _ _ = _
    unfold m_X6_allWaysFar_b5
    rw [bd_e H.total, if_neg (nI_ge (by omega) (by omega)), W.now h7 hxl, H.tn h7 hxl, H.tn h7 hy, nI_xor, bitsOf_xor, bd_e (pop_b F f (by omega) _), stp_pp (unrk_ok hxl) (unrk_ok hy), nm_e2, nm_e2, nI_1]
    exact ih (x + 1) z (by omega) (by omega)
theorem allWaysFar_e (W : OW f o N M) (H : OAt f o N) (h7 : N ≤ 7) (hF : 5041 ≤ F) {y : Nat} (hy : y < fct N) : m_X6_allWaysFar F (some o) (nI y) f = some (smJ (farJ N y M) (fct N)) :=
  allWaysFar_L W H h7 hy (fct N) 0 F (by omega) (by have := fct_le N (by omega); omega)
/-- what was told last is kept -/
theorem keep_e (W : OW f o N M) (H : OAt f o N) (h7 : N ≤ 7) (ho : 100 ≤ o) : ∃ q, m_X6_keep F (some o) f = some (va_up f (o + 6) (rowJ (fct N) q)) ∧ agr (fct N) q M := by
  have h5 := fct_le N (by omega)
  obtain ⟨-, -, -, -, -, -, -, -, -, ⟨q6, h6⟩⟩ := H
  obtain ⟨a, b, hab, h0, ⟨q, ha, hq⟩, -⟩ := W
  refine ⟨va_cpy q q6 0 0 (fct N), ?_, fun j hj => ?_⟩
  · unfold m_X6_keep
    have ea : aJ f (some a) = some (fct N, q) := by simp [aJ, ha, rowJ]
    have eb : aJ f (some (o + 6)) = some (fct N, q6) := by simp [aJ, h6]
    rw [bd_e (gR_s h0 rfl), bd_e (gR_s h0 rfl), bd_e (gI_e h0 rfl)]
    unfold cpJ
    rw [ea, eb]
    have e0 : ((0 : Int32).toNatClampNeg) = 0 := rfl
    show Option.bind (if _ then _ else _) _ = _
    rw [if_pos ⟨by decide, by decide, nI_pos (by omega), by rw [e0, nI_cl (by omega)]; omega, by rw [e0, nI_cl (by omega)]; omega, show 100 ≤ a by omega, show 100 ≤ o + 6 by omega⟩, bd_some, e0, nI_cl (by omega)]
    rfl
  · show (if 0 ≤ j ∧ j < 0 + fct N then q (0 + (j - 0)) else q6 j) = M j
    rw [if_pos ⟨Nat.zero_le _, by omega⟩, Nat.zero_add]
    exact hq j hj
/-! marks -/
def lkB (g : Nat → Int32) (L : List Nat) : Nat → Nat → Bool
  | 0, _ => true
  | d + 1, i => decide (g (L.getD i 0) = g i) && lkB g L d (i + 1)
theorem likeMarks_L (H : OAt f o N) (h7 : N ≤ 7) {w : Nat} {g : Nat → Int32} (hw : f w = some (.inr (1, 7, .inl g))) {x : Nat} (hx : x < fct N) : ∀ (d i z : Nat), i + d = N → d < z → m_X6_hasLikeMarks_L2 F z (some o) (some w) (nI x) (nI i) f = some (if lkB g (unrk N x) d i then 1 else 0) := by
  have hP := unrk_ok hx
  have hL := hP.L h7
  intro d
  induction d with
  | zero =>
    intro i z hi hz
    obtain ⟨z, rfl⟩ : ∃ j, z = j + 1 := ⟨z - 1, by omega⟩
    show m_X6_hasLikeMarks_b2 F _ _ _ _ _ _ = _
    unfold m_X6_hasLikeMarks_b2
    rw [bd_e H.lines, if_pos (nI_le (by omega) (by omega)), ck_e (by decide)]
    rfl
  | succ d ih =>
    intro i z hi hz
    obtain ⟨z, rfl⟩ : ∃ j, z = j + 1 := ⟨z - 1, by omega⟩
    have hil : i < (unrk N x).length := by rw [hP.2.2]; omega
    have hb := hL.1 _ (List.getElem_mem hil)
    show m_X6_hasLikeMarks_b2 F _ _ _ _ _ _ = _
    unfold m_X6_hasLikeMarks_b2
    rw [bd_e H.lines, if_neg (nI_ge (by omega) (by omega)), H.pk h7 hx, bd_e (lineOf_L F f hL hil), bd_e (alen_e hw (by decide)), if_neg (nI_ge (by omega) (by omega)), bd_e (alen_e hw (by decide)), if_neg (nI_ge hb (by omega)), bd_e (ldI_e hw hb (by omega)), bd_e (ldI_e hw (by omega) (by omega))]
    show _ = some (if (decide (g ((unrk N x).getD i 0) = g i) && lkB g (unrk N x) d (i + 1)) = true then 1 else 0)
    rw [getD_e hil]
    by_cases q : g (unrk N x)[i] = g i
    · rw [if_pos q, nm_e2, nI_1, ih (i + 1) z (by omega) (by omega), decide_eq_true q, Bool.true_and]
    · rw [if_neg q, ck_e (by decide), decide_eq_false q, Bool.false_and]
      rfl
theorem likeMarks_e (H : OAt f o N) (h7 : N ≤ 7) (hF : 8 ≤ F) {w : Nat} {g : Nat → Int32} (hw : f w = some (.inr (1, 7, .inl g))) {x : Nat} (hx : x < fct N) : m_X6_hasLikeMarks F (some o) (some w) (nI x) f = some (if lkB g (unrk N x) N 0 then 1 else 0) :=
  likeMarks_L H h7 hw hx N 0 F (by omega) (by omega)
/-- whether the marks HOLD k steps, of the orders from x on -/
def mhR (g : Nat → Int32) (N k : Nat) : Nat → Nat → Bool
  | 0, _ => true
  | d + 1, x => !(decide (stp (unrk N 0) (unrk N x) ≤ 2 * k) && lkB g (unrk N x) N 0) && mhR g N k d (x + 1)
theorem marksHold_L (H : OAt f o N) (h7 : N ≤ 7) (hF : 8 ≤ F) {w k : Nat} {g : Nat → Int32} (hw : f w = some (.inr (1, 7, .inl g))) (hk : k < 2 ^ 20) : ∀ (d x z : Nat), x + d = fct N → d < z → m_X6_marksHold_L2 F z (some o) (some w) (nI k) (nI x) f = some (if mhR g N k d x then 1 else 0) := by
  have h5 := fct_le N (by omega)
  have e2 : (2 : Int32) * nI k = nI (2 * k) := by rw [← nI_mul]; rfl
  intro d
  induction d with
  | zero =>
    intro x z hx hz
    obtain ⟨z, rfl⟩ : ∃ j, z = j + 1 := ⟨z - 1, by omega⟩
    show m_X6_marksHold_b2 F _ _ _ _ _ _ = _
    unfold m_X6_marksHold_b2
    rw [bd_e H.total, if_pos (nI_le (by omega) (by omega)), ck_e (by decide)]
    rfl
  | succ d ih =>
    intro x z hx hz
    obtain ⟨z, rfl⟩ : ∃ j, z = j + 1 := ⟨z - 1, by omega⟩
    have hxl : x < fct N := by omega
    have es : cnt 21 (tnB (unrk N x)) = stp (unrk N 0) (unrk N x) := by
      rw [← stp_pp (unrk_ok (fct_pos N)) (unrk_ok hxl)]
      refine cnt_ext (fun k hk => ?_)
      rw [tn_0 N (by omega) k hk]
      simp
    have hs := stp_le (unrk N 0) (unrk N x)
    have hi := ih (x + 1) z (by omega) (by omega)
    show m_X6_marksHold_b2 F _ _ _ _ _ _ = _
    unfold m_X6_marksHold_b2
    rw [bd_e H.total, if_neg (nI_ge (by omega) (by omega)), H.tn h7 hxl, bd_e (pop_b F f (by omega) _), es, e2]
    show _ = some (if (!(decide (stp (unrk N 0) (unrk N x) ≤ 2 * k) && lkB g (unrk N x) N 0) && mhR g N k d (x + 1)) = true then 1 else 0)
    by_cases q : stp (unrk N 0) (unrk N x) ≤ 2 * k
    · rw [if_neg (nI_nlt q (by omega)), ck_e H.O, bd_e (likeMarks_e H h7 hF hw hxl), decide_eq_true q, Bool.true_and]
      cases lkB g (unrk N x) N 0
      · rw [if_pos (by rfl), nm_e2, nI_1, hi]
        rfl
      · rw [if_neg (by decide), ck_e (by decide)]
        rfl
    · rw [if_pos (nI_lt (by omega) (by omega)), nm_e2, nI_1, hi, decide_eq_false q]
      rfl
theorem marksHold_e (H : OAt f o N) (h7 : N ≤ 7) (hF : 5041 ≤ F) {w k : Nat} {g : Nat → Int32} (hw : f w = some (.inr (1, 7, .inl g))) (hk : k < 2 ^ 20) : m_X6_marksHold F (some o) (some w) (nI k) f = some (if mhR g N k (fct N - 1) 1 then 1 else 0) :=
  marksHold_L H h7 (by omega) hw hk (fct N - 1) 1 F (by have := fct_pos N; omega) (by have := fct_le N (by omega); omega)
end SUMS
