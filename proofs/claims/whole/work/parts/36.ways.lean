/-! WAYS: the class's spreading -/
/-- the WAYS of order x are passed on from place p -/
def pasP (N : Nat) (W : Nat → Int32) (v : Int64) (x : Nat) : Nat → Nat → (Nat → Int64) → Nat → Int64
  | 0, _, lt => lt
  | d + 1, p, lt => pasP N W v x d (p + 1) (vp_updL lt (exN N x p) (lt (exN N x p) + v * (W p).toInt64))
/-- those of the orders from x on -/
def sprX (N : Nat) (W : Nat → Int32) (nw : Nat → Int64) : Nat → Nat → (Nat → Int64) → Nat → Int64
  | 0, _, lt => lt
  | d + 1, x, lt => sprX N W nw d (x + 1) (if nw x = 0 then lt else pasP N W (nw x) x (N - 1) 0 lt)
def sprK (N : Nat) (W : Nat → Int32) (from' : Nat) : Nat → Nat → Int64
  | 0 => vp_updL (fun _ => 0) from' 1
  | k + 1 => sprX N W (sprK N W from' k) (fct N) 0 (fun _ => 0)
def agr (n : Nat) (f g : Nat → Int64) : Prop := ∀ j, j < n → f j = g j
theorem agr.upd {n : Nat} {f g : Nat → Int64} (h : agr n f g) (j : Nat) (x : Int64) : agr n (vp_updL f j x) (vp_updL g j x) := fun i hi => by
  by_cases e : i = j
  · rw [e, updL_s, updL_s]
  · rw [updL_n e, updL_n e]; exact h i hi
section WAYS
variable {F : Nat} {f : Hp} {o N : Nat}
/-- the object with its rows of WAYS at a and b -/
def objW (o N a b : Nat) : List Value := [.int (nI N), .int (nI (fct N)), .int (nI (bitsOf 21 (allP N))), .ref (o + 1), .ref (o + 2), .ref (o + 3), .ref a, .ref b, .ref (o + 6)]
def rowJ (n : Nat) (q : Nat → Int64) : Option AC := some (.inr (2, n, .inr (.inl q)))
theorem passOn_L {a b : Nat} (h2 : 2 ≤ N) (h7 : N ≤ 7) (hO : f o = some (.inl (5, objW o N a b))) (hE : ∃ E, f (o + 3) = some (.inr (1, fct N * (N - 1), .inl E)) ∧ ∀ x, x < fct N → ∀ p, p < N - 1 → E (x * (N - 1) + p) = nI (exN N x p)) {nw : Nat → Int64} (ha : f a = rowJ (fct N) nw) (hab : a ≠ b) (hbo : b ≠ o) (hb3 : b ≠ o + 3) (hb : 100 ≤ b) {w : Nat} {g W : Nat → Int32} (hw : f w = some (.inr (1, 6, .inl g))) (hW : ∀ p, p < 6 → g p = W p) (hwb : w ≠ b) {x : Nat} (hx : x < fct N) : ∀ (d p z : Nat) (q m : Nat → Int64), p + d = N - 1 → d < z → agr (fct N) q m → 
    ∃ q', m_X6_passOn_L2 F z (some o) (nI x) (some w) (nI p) (va_up f b (rowJ (fct N) q)) = some (va_up f b (rowJ (fct N) q')) ∧ agr (fct N) q' (pasP N W (nw x) x d p m) := by
  have h5 := fct_le N (by omega)
  obtain ⟨E, e1, e2⟩ := hE
  intro d
  induction d with
  | zero =>
    intro p z q m hp hz hq
    obtain ⟨z, rfl⟩ : ∃ j, z = j + 1 := ⟨z - 1, by omega⟩
    refine ⟨q, ?_, hq⟩
    show m_X6_passOn_b2 F _ _ _ _ _ _ = _
    unfold m_X6_passOn_b2
    rw [gI_o (Ne.symm hbo), bd_e (gI_e hO rfl), nI_m1 (by omega), if_pos (nI_le (by omega) (by omega))]
  | succ d ih =>
    intro p z q m hp hz hq
    obtain ⟨z, rfl⟩ : ∃ j, z = j + 1 := ⟨z - 1, by omega⟩
    have hb1 : x * (N - 1) + p < fct N * (N - 1) := by
      have h1 : (x + 1) * (N - 1) ≤ fct N * (N - 1) := Nat.mul_le_mul_right _ hx
      rw [Nat.add_mul] at h1
      omega
    have hb2 : fct N * (N - 1) ≤ 5040 * 6 := Nat.mul_le_mul h5 (by omega)
    have hex := exN_lt (p := p) hx
    have hpn : p < N - 1 := by omega
    obtain ⟨q', i1, i2⟩ := ih (p + 1) z (vp_updL q (exN N x p) (q (exN N x p) + nw x * (W p).toInt64)) (vp_updL m (exN N x p) (m (exN N x p) + nw x * (W p).toInt64)) (by omega) (by omega) (by
      rw [hq _ hex]
      exact hq.upd _ _)
    refine ⟨q', ?_, i2⟩
    have hO' : (va_up f b (rowJ (fct N) q)) o = some (.inl (5, objW o N a b)) := by rw [up_n (Ne.symm hbo)]; exact hO
    have hE' : (va_up f b (rowJ (fct N) q)) (o + 3) = some (.inr (1, fct N * (N - 1), .inl E)) := by rw [up_n (Ne.symm hb3)]; exact e1
    have hw' : (va_up f b (rowJ (fct N) q)) w = some (.inr (1, 6, .inl g)) := by rw [up_n hwb]; exact hw
    have ha' : (va_up f b (rowJ (fct N) q)) a = some (.inr (2, fct N, .inr (.inl nw))) := by rw [up_n hab]; exact ha
    have hb' : (va_up f b (rowJ (fct N) q)) b = some (.inr (2, fct N, .inr (.inl q))) := up_s
    have hexc : m_X6_exchanged F (some o) (nI x) (nI p) (va_up f b (rowJ (fct N) q)) = some (nI (exN N x p)) := by
      unfold m_X6_exchanged
      rw [bd_e (gI_e hO' rfl), nm_e2, nI_m1 (by omega), nI_mul, nI_add, if_neg (nI_pos (by omega)), bd_e (gR_s hO' rfl), bd_e (alen_e hE' (by decide)), if_neg (nI_ge hb1 (by omega)), bd_e (gR_s hO' rfl), bd_e (ldI_e hE' hb1 (by omega)), e2 x hx p hpn]
    have hhas : m_X6_has F (some o) (nI (exN N x p)) (va_up f b (rowJ (fct N) q)) = some 1 := by
      unfold m_X6_has
      rw [if_neg (nI_pos (by omega)), bd_e (gI_e hO' rfl), if_neg (nI_ge hex (by omega))]
      rfl
    show m_X6_passOn_b2 F _ _ _ _ _ _ = _
    unfold m_X6_passOn_b2
    rw [bd_e (gI_e hO' rfl), nI_m1 (by omega), if_neg (nI_ge hpn (by omega)), bd_e (alen_e hw' (by decide)), if_neg (nI_ge (by omega) (by omega)), ck_e (isO_e hO'), bd_e hexc, ck_e (isO_e hO'), bd_e hhas, if_neg (show ¬ (1 : Int32) = 0 by decide), bd_e (gR_s hO' rfl), bd_e (ldJ_e hb' hex (by omega)), bd_e (gR_s hO' rfl), bd_e (ldJ_e ha' hx (by omega)), bd_e (ldI_e hw' (by omega) (by omega)), hW p (by omega), bd_e (stJ_e hb' hex (by omega) hb), nm_e2, nI_1, up_up]
    exact i1
theorem passOn_e {a b : Nat} (h2 : 2 ≤ N) (h7 : N ≤ 7) (hF : 8 ≤ F) (hO : f o = some (.inl (5, objW o N a b))) (hE : ∃ E, f (o + 3) = some (.inr (1, fct N * (N - 1), .inl E)) ∧ ∀ x, x < fct N → ∀ p, p < N - 1 → E (x * (N - 1) + p) = nI (exN N x p)) {nw : Nat → Int64} (ha : f a = rowJ (fct N) nw) (hab : a ≠ b) (hbo : b ≠ o) (hb3 : b ≠ o + 3) (hb : 100 ≤ b) {w : Nat} {g W : Nat → Int32} (hw : f w = some (.inr (1, 6, .inl g))) (hW : ∀ p, p < 6 → g p = W p) (hwb : w ≠ b) {x : Nat} (hx : x < fct N) {q m : Nat → Int64} (hq : agr (fct N) q m) :
    ∃ q', m_X6_passOn F (some o) (nI x) (some w) (va_up f b (rowJ (fct N) q)) = some (va_up f b (rowJ (fct N) q')) ∧ agr (fct N) q' (pasP N W (nw x) x (N - 1) 0 m) := by
  obtain ⟨q', h1, h3⟩ := passOn_L (F := F) h2 h7 hO hE ha hab hbo hb3 hb hw hW hwb hx (N - 1) 0 F q m (by omega) (by omega) hq
  refine ⟨q', ?_, h3⟩
  unfold m_X6_passOn
  exact h1
theorem spread_L44 {a b : Nat} (h2 : 2 ≤ N) (h7 : N ≤ 7) (hF : 8 ≤ F) (hO : f o = some (.inl (5, objW o N a b))) (hE : ∃ E, f (o + 3) = some (.inr (1, fct N * (N - 1), .inl E)) ∧ ∀ x, x < fct N → ∀ p, p < N - 1 → E (x * (N - 1) + p) = nI (exN N x p)) {nw nM : Nat → Int64} (ha : f a = rowJ (fct N) nw) (hn : agr (fct N) nw nM) (hab : a ≠ b) (hbo : b ≠ o) (hb3 : b ≠ o + 3) (hb : 100 ≤ b) {w : Nat} {g W : Nat → Int32} (hw : f w = some (.inr (1, 6, .inl g))) (hW : ∀ p, p < 6 → g p = W p) (hwb : w ≠ b) {rc : Option Nat → Int32 → Option Nat → Int32 → Hp → Option Hp} {v2 v4 : Int32} : ∀ (d x z : Nat) (q m : Nat → Int64), x + d = fct N → d < z → agr (fct N) q m →
    ∃ q', m_X6_spread_L44 F rc z (some o) v2 (some w) v4 (nI x) (va_up f b (rowJ (fct N) q)) = rc (some o) v2 (some w) (v4 + 1) (va_up (va_up f b (rowJ (fct N) q')) o (some (.inl (5, objW o N b a)))) ∧ agr (fct N) q' (sprX N W nM d x m) := by
  have h5 := fct_le N (by omega)
  intro d
  induction d with
  | zero =>
    intro x z q m hx hz hq
    obtain ⟨z, rfl⟩ : ∃ j, z = j + 1 := ⟨z - 1, by omega⟩
    refine ⟨q, ?_, hq⟩
    have hO' : (va_up f b (rowJ (fct N) q)) o = some (.inl (5, objW o N a b)) := by rw [up_n (Ne.symm hbo)]; exact hO
    show m_X6_spread_b44 F _ _ _ _ _ _ _ _ = _
    unfold m_X6_spread_b44
    rw [bd_e (gI_e hO' rfl), if_pos (nI_le (by omega) (by omega))]
    unfold m_X6_spread_B78
    rw [bd_e (gR_s hO' rfl), bd_e (gR_s hO' rfl), bd_e (pV_e hO' (Nat.le_of_ble_eq_true rfl)), bd_e (pV_u (Nat.le_of_ble_eq_true rfl)), nm_e2]
    rfl
  | succ d ih =>
    intro x z q m hx hz hq
    obtain ⟨z, rfl⟩ : ∃ j, z = j + 1 := ⟨z - 1, by omega⟩
    have hxl : x < fct N := by omega
    have hO' : (va_up f b (rowJ (fct N) q)) o = some (.inl (5, objW o N a b)) := by rw [up_n (Ne.symm hbo)]; exact hO
    have ha' : (va_up f b (rowJ (fct N) q)) a = some (.inr (2, fct N, .inr (.inl nw))) := by rw [up_n hab]; exact ha
    have hnx := hn x hxl
    by_cases e : nM x = 0
    · obtain ⟨q', i1, i2⟩ := ih (x + 1) z q m (by omega) (by omega) hq
      refine ⟨q', ?_, ?_⟩
      · show m_X6_spread_b44 F _ _ _ _ _ _ _ _ = _
        unfold m_X6_spread_b44
        rw [bd_e (gI_e hO' rfl), if_neg (nI_ge hxl (by omega)), bd_e (gR_s hO' rfl), bd_e (ldJ_e ha' hxl (by omega)), if_pos ((lg_cmp_eq _ _).mpr (by rw [hnx, e])), nm_e2, nI_1]
        exact i1
      · show agr _ _ (sprX N W nM d (x + 1) (if nM x = 0 then m else _))
        rw [if_pos e]
        exact i2
    · obtain ⟨q1, p1, p2⟩ := passOn_e (F := F) h2 h7 hF hO hE ha hab hbo hb3 hb hw hW hwb hxl hq
      obtain ⟨q', i1, i2⟩ := ih (x + 1) z q1 (pasP N W (nM x) x (N - 1) 0 m) (by omega) (by omega) (by rw [← hnx]; exact p2)
      refine ⟨q', ?_, ?_⟩
      · show m_X6_spread_b44 F _ _ _ _ _ _ _ _ = _
        unfold m_X6_spread_b44
        rw [bd_e (gI_e hO' rfl), if_neg (nI_ge hxl (by omega)), bd_e (gR_s hO' rfl), bd_e (ldJ_e ha' hxl (by omega)), if_neg (fun c => e (by rw [← hnx]; exact (lg_cmp_eq _ _).mp c)), ck_e (isO_e hO'), bd_e p1, nm_e2, nI_1]
        exact i1
      · show agr _ _ (sprX N W nM d (x + 1) (if nM x = 0 then m else _))
        rw [if_neg e]
        exact i2
end WAYS
