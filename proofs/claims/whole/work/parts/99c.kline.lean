/-! the calls that throw: 'line' -/
variable {sk : Nat}
def m_X11_line (F : Nat) (u0 : Option Nat) (u1 : Int32) (u2 : Int32) (f : Hp) : Option (Option Int32) :=
(gR f u0 9 2).bind fun x1 =>
chk (isO f x1 3) <|
(m_X4_copyAt F x1 u1 f).bind fun x3 =>
if x3 = none then
(some none)
else
(if u2 < 0 then
(some none)
else
((gI f x3 0 1).bind fun x5 =>
if u2 < x5 then
((gI f x3 0 2).bind fun x6 =>
(m_X11_lineOf F x6 u2 f).bind fun x7 =>
some (some x7))
else
(some none)))
/-- whether it throws -/
def thI {α : Type} (o : Option α) : Int32 := match o with
  | none => 1
  | some _ => 0
section KLINE
variable {F : Nat} {g : Hp} {st : RS}
theorem k_line (hF : 200 ≤ F) (c i : Int32) {f : Hp} {n z : Nat} {st : RS} {m : MS} (C : CI sk f n z m) (R : RI st m) : ∃ o, m_X11_line F (some 100) c i f = some o ∧ ∀ g, ∃ v st', m_X12_line F (some 179) c i (ov g st) = some (v, ov g st') ∧ RI st' m ∧ sI st' 0 = thI o ∧ ∀ x, o = some x → v = x := by
  obtain ⟨T, D, sT, sD, sX, tq, iq, S, K, -, ⟨H, ok, -⟩, -⟩ := C
  have h10 := ok.2.1
  have cl : ∀ o, (m_X4_copyAt F (some T) c f).bind (fun x3 => if x3 = none then (some none) else (if i < 0 then (some none) else ((gI f x3 0 1).bind fun x5 => if i < x5 then ((gI f x3 0 2).bind fun x6 => (m_X11_lineOf F x6 i f).bind fun x7 => some (some x7)) else (some none)))) = some o → m_X11_line F (some 100) c i f = some o := fun o ho => by
    unfold m_X11_line
    rw [bd_e (gR_s K rfl), ck_e (isO_e H.1)]
    exact ho
  -- the reference refuses
  have bad : (∀ g s1, RB s1 m → m_X12_line F (some 179) c i (ov g st) = some (0, ov g (uI s1 0 1)) ∨ True) := fun _ _ _ => Or.inr trivial
  clear bad
  have no : ∀ s1, RB s1 m → RI (uI s1 0 1) m ∧ sI (uI s1 0 1) 0 = thI (none : Option Int32) := fun s1 B1 => ⟨B1.1.cg (Cg.uI (by decide)), by rw [sI_uI, if_pos rfl]; rfl⟩
  have ref : ∀ g, ∃ s1, RB s1 m ∧ m_X12_line F (some 179) c i (ov g st) = if (if c < 0 ∨ nI (hC (mH m)).length ≤ c then (0 : Int32) else 1) = 0 then some (0, ov g (uI s1 0 1)) else if i < 0 then some (0, ov g (uI s1 0 1)) else (m_X12_sizeOf F (some 179) c (ov g s1)).bind fun x14 => if i < x14 then (m_X12_lineOf F (some 179) c i (ov g (uI s1 0 0))).bind fun x18 => some (x18, ov g (uI s1 0 0)) else some (0, ov g (uI s1 0 1)) := fun g => by
    obtain ⟨s1, q1, B1⟩ := rbeg0 (F := F) (g := g) hF R
    refine ⟨s1, B1, ?_⟩
    have rf : ∀ s : RS, m_X12_refuse F (some 179) (ov g s) = some (0, ov g (uI s 0 1)) := fun s => by
      unfold m_X12_refuse
      rw [wI_0, bd_some]
    unfold m_X12_line
    rw [ck_e r_isO, bd_e q1, ck_e r_isO, bd_e (risCopy_e B1.2.2.1 ok c)]
    simp only [ck_e (r_isO), bd2_e (rf s1), wI_0, bd_some]
  rcases outin (k := (hC (mH m)).length) (by omega) c with hc | ⟨j, hj, rfl⟩
  · refine ⟨none, cl _ ?_, fun g => ?_⟩
    · rw [copyAt_no H hc, bd_some, if_pos rfl]
    · obtain ⟨s1, B1, e⟩ := ref g
      rw [if_pos hc, if_pos rfl] at e
      exact ⟨0, _, e, (no s1 B1).1, (no s1 B1).2, fun x hx => by cases hx⟩
  · have nm := ok.2.2.1 _ (List.getElem_mem hj)
    have l7 := okL_len nm.2.1
    have cell := H.2.2.2.2.2.2.2.1 j hj
    rcases outin (k := (hC (mH m))[j].2.length) (by omega) i with hi | ⟨k, hk, rfl⟩
    · refine ⟨none, cl _ ?_, fun g => ?_⟩
      · rw [copyAt_yes H h10 hj, bd_some, if_neg (by simp)]
        by_cases q : i < 0
        · rw [if_pos q]
        · rw [if_neg q, bd_e (gI_e cell rfl), if_neg (Int32.not_lt.mpr (hi.resolve_left q))]
      · obtain ⟨s1, B1, e⟩ := ref g
        rw [if_neg (inin (by omega) hj), if_neg (by decide)] at e
        by_cases q : i < 0
        · rw [if_pos q] at e
          exact ⟨0, _, e, (no s1 B1).1, (no s1 B1).2, fun x hx => by cases hx⟩
        · rw [if_neg q, bd_e (rsizeOf_e B1.2.2.1 ok hj), if_neg (Int32.not_lt.mpr (hi.resolve_left q))] at e
          exact ⟨0, _, e, (no s1 B1).1, (no s1 B1).2, fun x hx => by cases hx⟩
    · refine ⟨some (nI (hC (mH m))[j].2[k]), cl _ ?_, fun g => ?_⟩
      · rw [copyAt_yes H h10 hj, bd_some, if_neg (by simp), if_neg (nI_pos (by omega)), bd_e (gI_e cell rfl), if_pos (nI_lt hk (by omega)), bd_e (gI_e cell rfl), bd_e (lineOf_L F f nm.2.1 hk)]
      · obtain ⟨s1, B1, e⟩ := ref g
        have B2 : RB (uI s1 0 0) m := B1.cg (Cg.uI (by decide))
        rw [if_neg (inin (by omega) hj), if_neg (by decide), if_neg (nI_pos (by omega)), bd_e (rsizeOf_e B1.2.2.1 ok hj), if_pos (nI_lt hk (by omega)), bd_e (rlineOf_e B2.2.2.1 ok hj hk)] at e
        exact ⟨_, _, e, B2.1, by rw [sI_uI, if_pos rfl]; rfl, fun x hx => by cases hx; rfl⟩
end KLINE
/-! the greatest common divisor -/
theorem lN_div {a b : Nat} (ha : a < 2 ^ 63) (hb : b < 2 ^ 63) : lN a / lN b = lN (a / b) := by
  apply Int64.toInt_inj.mp
  have hq := Nat.div_le_self a b
  have e0 : (a : Int).tdiv (b : Int) = ((a / b : Nat) : Int) := (Int.ofNat_tdiv a b).symm
  have e1 : (lN a).toInt = a := lg_ofNat_toInt (by omega)
  have e2 : (lN b).toInt = b := lg_ofNat_toInt (by omega)
  have e3 : (lN (a / b)).toInt = ((a / b : Nat) : Int) := lg_ofNat_toInt (by omega)
  rw [Int64.toInt_div, e1, e2, e3, e0]
  generalize a / b = q at hq
  rw [Int.bmod_eq_of_le] <;> omega
theorem lrm_e {a b : Nat} (ha : a < 2 ^ 63) (hb : b < 2 ^ 63) : lrm (lN a) (lN b) = lN (a % b) := by
  unfold lrm
  have h := Nat.div_mul_le_self a b
  rw [lN_div ha hb, lN_mul, lN_sub h]
  congr 1
  have := Nat.div_add_mod a b
  rw [Nat.mul_comm] at this
  omega
theorem lN_le0 {b : Nat} (hb : b < 2 ^ 63) : lg_cmp (lN b) (0 : Int64) ≤ 0 ↔ b = 0 := by
  rw [lg_cmp_le, Int64.le_iff_toInt_le, show (lN b).toInt = b from lg_ofNat_toInt (by omega), show (0 : Int64).toInt = 0 from rfl]
  omega
theorem lN_ne0 {b : Nat} (hb : b < 2 ^ 63) (h : 0 < b) : ¬ lN b = 0 := fun e => by
  have e1 : (lN b).toInt = b := lg_ofNat_toInt (by omega)
  rw [e, show (0 : Int64).toInt = 0 from rfl] at e1
  omega
theorem half_mod {a b : Nat} (hb0 : 0 < b) (h : 0 < a % b) (m : Nat) (hb : b < 2 ^ (m + 1)) : b % (a % b) < 2 ^ m := by
  rw [Nat.pow_succ] at hb
  have h1 := Nat.mod_lt b h
  have h2 := Nat.mod_lt a hb0
  have h3 : a % b + b % (a % b) ≤ b := by
    have e := Nat.div_add_mod b (a % b)
    have d1 : 1 ≤ b / (a % b) := Nat.div_pos (by omega) h
    have := Nat.mul_le_mul_left (a % b) d1
    omega
  omega
section GCD
variable {F : Nat} {f : Hp}
theorem cgcd_L : ∀ (m i z a b : Nat), b < 2 ^ m → a < 2 ^ 63 → m ≤ 63 → i + 2 * m < 200 → 2 * m < z → m_X11_commonDivisor_L9 F z (lN a) (lN b) (nI i) f = some (lN (Nat.gcd a b)) := by
  intro m
  induction m with
  | zero =>
    intro i z a b hb ha _ hi hz
    obtain ⟨z, rfl⟩ : ∃ j, z = j + 1 := ⟨z - 1, by omega⟩
    have b0 : b = 0 := by rw [Nat.pow_zero] at hb; omega
    show m_X11_commonDivisor_b9 F _ _ _ _ _ = _
    unfold m_X11_commonDivisor_b9
    rw [if_neg (show ¬ (200 : Int32) ≤ nI i from nI_ge (b := 200) (by omega) (by omega)), if_pos ((lN_le0 (by omega)).mpr b0), b0, Nat.gcd_zero_right]
  | succ m ih =>
    intro i z a b hb ha hm hi hz
    have p63 : 2 ^ (m + 1) ≤ 2 ^ 63 := Nat.pow_le_pow_right (by omega) hm
    obtain ⟨z, rfl⟩ : ∃ j, z = j + 2 := ⟨z - 2, by omega⟩
    rcases Nat.eq_zero_or_pos b with b0 | b0
    · show m_X11_commonDivisor_b9 F _ _ _ _ _ = _
      unfold m_X11_commonDivisor_b9
      rw [if_neg (show ¬ (200 : Int32) ≤ nI i from nI_ge (b := 200) (by omega) (by omega)), if_pos ((lN_le0 (by omega)).mpr b0), b0, Nat.gcd_zero_right]
    have s1 : ∀ (i z a b : Nat), i < 200 → 0 < b → b < 2 ^ 63 → a < 2 ^ 63 → m_X11_commonDivisor_L9 F (z + 1) (lN a) (lN b) (nI i) f = m_X11_commonDivisor_L9 F z (lN b) (lN (a % b)) (nI (i + 1)) f := fun i z a b hi h0 hb ha => by
      show m_X11_commonDivisor_b9 F _ _ _ _ _ = _
      unfold m_X11_commonDivisor_b9
      rw [if_neg (show ¬ (200 : Int32) ≤ nI i from nI_ge (b := 200) (by omega) (by omega)), if_neg (fun e => by have := (lN_le0 hb).mp e; omega), ck_e (decide_eq_true (lN_ne0 hb h0)), lrm_e ha hb, nm_e2, nm_e2, nI_1]
    have lt := Nat.mod_lt a b0
    rw [s1 i (z + 1) a b (by omega) b0 (by omega) ha, show Nat.gcd a b = Nat.gcd b (a % b) by rw [Nat.gcd_comm a b, Nat.gcd_rec b a, Nat.gcd_comm]]
    rcases Nat.eq_zero_or_pos (a % b) with r0 | r0
    · show m_X11_commonDivisor_b9 F _ _ _ _ _ = _
      unfold m_X11_commonDivisor_b9
      rw [if_neg (show ¬ (200 : Int32) ≤ nI (i + 1) from nI_ge (b := 200) (by omega) (by omega)), if_pos ((lN_le0 (by omega)).mpr r0), r0, Nat.gcd_zero_right]
    · rw [s1 (i + 1) z b (a % b) (by omega) r0 (by omega) (by omega), ih (i + 1 + 1) z (a % b) (b % (a % b)) (half_mod b0 r0 m hb) (by omega) (by omega) (by omega) (by omega), Nat.gcd_comm b (a % b), Nat.gcd_rec (a % b) b, Nat.gcd_comm]
theorem rgcd_L {g : Hp} {st : RS} {v3 : Int32} {v4 v6 : Int64} : ∀ (m z a b : Nat), b < 2 ^ m → a < 2 ^ 63 → m ≤ 63 → 2 * m < z → m_X12_along_L160 F z v3 v4 v6 (lN a) (lN b) (ov g st) = m_X12_along_B185 F v3 v4 v6 (lN (Nat.gcd a b)) (ov g st) := by
  intro m
  induction m with
  | zero =>
    intro z a b hb ha _ hz
    obtain ⟨z, rfl⟩ : ∃ j, z = j + 1 := ⟨z - 1, by omega⟩
    have b0 : b = 0 := by rw [Nat.pow_zero] at hb; omega
    show m_X12_along_b160 F _ _ _ _ _ _ _ = _
    unfold m_X12_along_b160
    rw [if_pos ((lN_le0 (by omega)).mpr b0), b0, Nat.gcd_zero_right]
  | succ m ih =>
    intro z a b hb ha hm hz
    have p63 : 2 ^ (m + 1) ≤ 2 ^ 63 := Nat.pow_le_pow_right (by omega) hm
    obtain ⟨z, rfl⟩ : ∃ j, z = j + 2 := ⟨z - 2, by omega⟩
    rcases Nat.eq_zero_or_pos b with b0 | b0
    · show m_X12_along_b160 F _ _ _ _ _ _ _ = _
      unfold m_X12_along_b160
      rw [if_pos ((lN_le0 (by omega)).mpr b0), b0, Nat.gcd_zero_right]
    have s1 : ∀ (z a b : Nat), 0 < b → b < 2 ^ 63 → a < 2 ^ 63 → m_X12_along_L160 F (z + 1) v3 v4 v6 (lN a) (lN b) (ov g st) = m_X12_along_L160 F z v3 v4 v6 (lN b) (lN (a % b)) (ov g st) := fun z a b h0 hb ha => by
      show m_X12_along_b160 F _ _ _ _ _ _ _ = _
      unfold m_X12_along_b160
      rw [if_neg (fun e => by have := (lN_le0 hb).mp e; omega), ck_e (decide_eq_true (lN_ne0 hb h0)), lrm_e ha hb, nm_e2]
    have lt := Nat.mod_lt a b0
    rw [s1 (z + 1) a b b0 (by omega) ha, show Nat.gcd a b = Nat.gcd b (a % b) by rw [Nat.gcd_comm a b, Nat.gcd_rec b a, Nat.gcd_comm]]
    rcases Nat.eq_zero_or_pos (a % b) with r0 | r0
    · show m_X12_along_b160 F _ _ _ _ _ _ _ = _
      unfold m_X12_along_b160
      rw [if_pos ((lN_le0 (by omega)).mpr r0), r0, Nat.gcd_zero_right]
    · rw [s1 z b (a % b) r0 (by omega) (by omega), ih z (a % b) (b % (a % b)) (half_mod b0 r0 m hb) (by omega) (by omega) (by omega), Nat.gcd_comm b (a % b), Nat.gcd_rec (a % b) b, Nat.gcd_comm]
end GCD
