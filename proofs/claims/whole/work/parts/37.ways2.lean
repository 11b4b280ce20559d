/-! WAYS: the class's spreading, whole; sums over them -/
section WAYS2
variable {F : Nat} {f : Hp} {o N : Nat}
/-- the row of WAYS told last is M -/
def OW (f : Hp) (o N : Nat) (M : Nat → Int64) : Prop := ∃ a b, (a = o + 4 ∧ b = o + 5 ∨ a = o + 5 ∧ b = o + 4) ∧ f o = some (.inl (5, objW o N a b)) ∧ (∃ q, f a = rowJ (fct N) q ∧ agr (fct N) q M) ∧ ∃ q, f b = rowJ (fct N) q
def OJ (f0 : Hp) (o N : Nat) (M : Nat → Int64) (f : Hp) : Prop := (∀ c, c ≠ o → c ≠ o + 4 → c ≠ o + 5 → f c = f0 c) ∧ OW f o N M
theorem spread_L27 (h2 : 2 ≤ N) (h7 : N ≤ 7) (hF : 5041 ≤ F) {f0 : Hp} (ho : 100 ≤ o) (hE : ∃ E, f0 (o + 3) = some (.inr (1, fct N * (N - 1), .inl E)) ∧ ∀ x, x < fct N → ∀ p, p < N - 1 → E (x * (N - 1) + p) = nI (exN N x p)) {w : Nat} {g W : Nat → Int32} (hw : f0 w = some (.inr (1, 6, .inl g))) (hW : ∀ p, p < 6 → g p = W p) (hwo : w < o ∨ o + 9 ≤ w) {x k : Nat} (hk : k < 2 ^ 20) : ∀ (d i z : Nat) (f : Hp), i + d = k → d < z → OJ f0 o N (sprK N W x i) f →
    ∃ f', m_X6_spread_L27 F z (some o) (nI k) (some w) (nI i) f = some f' ∧ OJ f0 o N (sprK N W x k) f' := by
  have h5 := fct_le N (by omega)
  obtain ⟨E, e1, e2⟩ := hE
  intro d
  induction d with
  | zero =>
    intro i z f hi hz J
    obtain ⟨z, rfl⟩ : ∃ j, z = j + 1 := ⟨z - 1, by omega⟩
    refine ⟨f, ?_, ?_⟩
    · show m_X6_spread_b27 F _ _ _ _ _ _ = _
      unfold m_X6_spread_b27
      rw [if_pos (nI_le (by omega) (by omega))]
    · rw [show k = i by omega]; exact J
  | succ d ih =>
    intro i z f hi hz J
    obtain ⟨z, rfl⟩ : ∃ j, z = j + 1 := ⟨z - 1, by omega⟩
    obtain ⟨fr, a, b, hab, hO, ⟨q, ha, hq⟩, ⟨r, hb⟩⟩ := J
    have n1 : a ≠ b := by omega
    have n2 : b ≠ o := by omega
    have n3 : b ≠ o + 3 := by omega
    have n4 : w ≠ b := by omega
    have n5 : a ≠ o := by omega
    have hO' : (va_up f b (rowJ (fct N) (fun j => if j < fct N then 0 else r j))) o = some (.inl (5, objW o N a b)) := by rw [up_n (Ne.symm n2)]; exact hO
    obtain ⟨q', s1, s2⟩ := spread_L44 (F := F) (f := f) h2 h7 (by omega) hO ⟨E, by rw [fr _ (by omega) (by omega) (by omega)]; exact e1, e2⟩ ha hq n1 n2 n3 (by omega) (w := w) (g := g) (W := W) (by rw [fr _ (by omega) (by omega) (by omega)]; exact hw) hW n4 (rc := m_X6_spread_L27 F z) (v2 := nI k) (v4 := nI i) (fct N) 0 F (fun j => if j < fct N then 0 else r j) (fun _ => 0) (by omega) (by omega) (fun j hj => if_pos hj)
    obtain ⟨f', i1, i2⟩ := ih (i + 1) z (va_up (va_up f b (rowJ (fct N) q')) o (some (.inl (5, objW o N b a)))) (by omega) (by omega) (by
      refine ⟨fun c c1 c2 c3 => ?_, b, a, by omega, up_s, ⟨q', ?_, s2⟩, ⟨q, ?_⟩⟩
      · rw [up_n c1, up_n (by omega)]; exact fr c c1 c2 c3
      · rw [up_n n2, up_s]
      · rw [up_n n5, up_n n1]; exact ha)
    refine ⟨f', ?_, i2⟩
    show m_X6_spread_b27 F _ _ _ _ _ _ = _
    unfold m_X6_spread_b27
    rw [if_neg (nI_ge (by omega) (by omega)), bd_e (gR_s hO rfl), bd_e (fillJ_e hb (by omega) (by omega) (by omega))]
    refine s1.trans ?_
    rw [nI_1]
    exact i1
theorem OAt.ow (H : OAt f o N) : ∃ M, OW f o N M := by
  obtain ⟨a, b, hab, h0, -, -, -, ⟨q4, h4⟩, ⟨q5, h5⟩, -⟩ := H
  rcases hab with ⟨rfl, rfl⟩ | ⟨rfl, rfl⟩
  · exact ⟨q4, _, _, Or.inl ⟨rfl, rfl⟩, h0, ⟨q4, h4, fun _ _ => rfl⟩, ⟨q5, h5⟩⟩
  · exact ⟨q5, _, _, Or.inr ⟨rfl, rfl⟩, h0, ⟨q5, h5, fun _ _ => rfl⟩, ⟨q4, h4⟩⟩
theorem OAt.re (H : OAt f o N) {f' : Hp} {M : Nat → Int64} (h : OW f' o N M) (fr : ∀ c, c ≠ o → c ≠ o + 4 → c ≠ o + 5 → f' c = f c) : OAt f' o N := by
  obtain ⟨-, -, -, -, ⟨P, p1, p2⟩, ⟨T, t1, t2⟩, ⟨E, e1, e2⟩, -, -, ⟨q6, h6⟩⟩ := H
  obtain ⟨a, b, hab, h0, ⟨q, ha, -⟩, ⟨r, hb⟩⟩ := h
  refine ⟨a, b, hab, h0, ⟨P, ?_, p2⟩, ⟨T, ?_, t2⟩, ⟨E, ?_, e2⟩, ?_, ?_, ⟨q6, ?_⟩⟩
  · rw [fr _ (by omega) (by omega) (by omega)]; exact p1
  · rw [fr _ (by omega) (by omega) (by omega)]; exact t1
  · rw [fr _ (by omega) (by omega) (by omega)]; exact e1
  · rcases hab with ⟨rfl, rfl⟩ | ⟨rfl, rfl⟩
    · exact ⟨q, ha⟩
    · exact ⟨r, hb⟩
  · rcases hab with ⟨rfl, rfl⟩ | ⟨rfl, rfl⟩
    · exact ⟨r, hb⟩
    · exact ⟨q, ha⟩
  · rw [fr _ (by omega) (by omega) (by omega)]; exact h6
theorem spread_e (h2 : 2 ≤ N) (h7 : N ≤ 7) (hF : 5041 ≤ F) (ho : 100 ≤ o) (H : OAt f o N) {w : Nat} {g W : Nat → Int32} (hw : f w = some (.inr (1, 6, .inl g))) (hW : ∀ p, p < 6 → g p = W p) (hwo : w < o ∨ o + 9 ≤ w) {x k : Nat} (hx : x < fct N) (hk : k < F) (hk2 : k < 2 ^ 20) : ∃ f', m_X6_spread F (some o) (nI x) (nI k) (some w) f = some f' ∧ OW f' o N (sprK N W x k) ∧ ∀ c, c ≠ o → c ≠ o + 4 → c ≠ o + 5 → f' c = f c := by
  have h5 := fct_le N (by omega)
  obtain ⟨M, a, b, hab, hO, ⟨q, ha, -⟩, ⟨r, hb⟩⟩ := H.ow
  obtain ⟨-, -, -, -, -, -, hE, -⟩ := H
  have n5 : a ≠ o := by omega
  have n6 : b ≠ a := by omega
  have hO1 : ∀ c, (va_up f a c) o = some (.inl (5, objW o N a b)) := fun c => by rw [up_n (Ne.symm n5)]; exact hO
  have hO2 : ∀ c d, (va_up (va_up f a c) a d) o = some (.inl (5, objW o N a b)) := fun c d => by rw [up_n (Ne.symm n5)]; exact hO1 c
  obtain ⟨f', i1, i2⟩ := spread_L27 (F := F) (f0 := f) (x := x) h2 h7 hF ho hE hw hW hwo hk2 k 0 F (va_up (va_up f a (rowJ (fct N) (fun j => if j < fct N then 0 else q j))) a (rowJ (fct N) (vp_updL (fun j => if j < fct N then 0 else q j) x 1))) (by omega) hk (by
    refine ⟨fun c c1 c2 c3 => ?_, a, b, hab, hO2 _ _, ⟨_, up_s, fun j hj => ?_⟩, ⟨r, ?_⟩⟩
    · rw [up_n (by omega), up_n (by omega)]
    · show vp_updL _ x 1 j = vp_updL (fun _ => 0) x 1 j
      by_cases e : j = x
      · rw [e, updL_s, updL_s]
      · rw [updL_n e, updL_n e]; exact if_pos hj
    · rw [up_n n6, up_n n6]; exact hb)
  refine ⟨f', ?_, i2.2, i2.1⟩
  have hs : ∀ v, m_X6_has F (some o) (nI x) (va_up f a v) = some 1 := fun v => by
    unfold m_X6_has
    rw [if_neg (nI_pos (by omega)), bd_e (gI_e (hO1 v) rfl), if_neg (nI_ge hx (by omega)), ck_e (by decide)]
  unfold m_X6_spread
  rw [bd_e (gR_s hO rfl), bd_e (fillJ_e ha (by omega) (by omega) (by omega)), ck_e (isO_e (hO1 _)), bd_e (hs _), if_neg (by decide), bd_e (gR_s (hO1 _) rfl), bd_e (stJ_e up_s hx (by omega) (by omega))]
  exact i1
end WAYS2
