/-! the class's FAMILY -/
def FR (f : Hp) (mb : Nat) (q1 q2 q3 q4 q5 q6 : Nat → Int32) : Prop := f 171 = some (.inl (2, [.int (nI mb), .ref 172, .ref 173, .ref 174, .ref 175, .ref 176, .ref 177])) ∧ f 172 = some (.inr (1, 10, .inl q1)) ∧ f 173 = some (.inr (1, 10, .inl q2)) ∧ f 174 = some (.inr (1, 100, .inl q3)) ∧ f 175 = some (.inr (1, 10, .inl q4)) ∧ f 176 = some (.inr (1, 10, .inl q5)) ∧ f 177 = some (.inr (3, 10, .inl q6))
/-- nothing but the FAMILY has changed -/
def FF (f f' : Hp) : Prop := ∀ a, a < 171 ∨ 178 ≤ a → f' a = f a
theorem FF.refl (f : Hp) : FF f f := fun _ _ => rfl
theorem FF.trans {f f' f'' : Hp} (h1 : FF f f') (h2 : FF f' f'') : FF f f'' := fun a h => (h2 a h).trans (h1 a h)
theorem FF.up {f : Hp} {a : Nat} {c : Option AC} (h1 : 171 ≤ a) (h2 : a < 178) : FF f (va_up f a c) := fun b h => up_n (by omega)
section FAM
variable {F : Nat} {f : Hp} {mb : Nat} {q1 q2 q3 q4 q5 q6 : Nat → Int32}
theorem FR.u1 (h : FR f mb q1 q2 q3 q4 q5 q6) (q : Nat → Int32) : FR (va_up f 172 (some (.inr (1, 10, .inl q)))) mb q q2 q3 q4 q5 q6 := ⟨(up_n (by decide)).trans h.1, up_s, (up_n (by decide)).trans h.2.2.1, (up_n (by decide)).trans h.2.2.2.1, (up_n (by decide)).trans h.2.2.2.2.1, (up_n (by decide)).trans h.2.2.2.2.2.1, (up_n (by decide)).trans h.2.2.2.2.2.2⟩
theorem FR.u2 (h : FR f mb q1 q2 q3 q4 q5 q6) (q : Nat → Int32) : FR (va_up f 173 (some (.inr (1, 10, .inl q)))) mb q1 q q3 q4 q5 q6 := ⟨(up_n (by decide)).trans h.1, (up_n (by decide)).trans h.2.1, up_s, (up_n (by decide)).trans h.2.2.2.1, (up_n (by decide)).trans h.2.2.2.2.1, (up_n (by decide)).trans h.2.2.2.2.2.1, (up_n (by decide)).trans h.2.2.2.2.2.2⟩
theorem FR.u3 (h : FR f mb q1 q2 q3 q4 q5 q6) (q : Nat → Int32) : FR (va_up f 174 (some (.inr (1, 100, .inl q)))) mb q1 q2 q q4 q5 q6 := ⟨(up_n (by decide)).trans h.1, (up_n (by decide)).trans h.2.1, (up_n (by decide)).trans h.2.2.1, up_s, (up_n (by decide)).trans h.2.2.2.2.1, (up_n (by decide)).trans h.2.2.2.2.2.1, (up_n (by decide)).trans h.2.2.2.2.2.2⟩
theorem FR.u4 (h : FR f mb q1 q2 q3 q4 q5 q6) (q : Nat → Int32) : FR (va_up f 175 (some (.inr (1, 10, .inl q)))) mb q1 q2 q3 q q5 q6 := ⟨(up_n (by decide)).trans h.1, (up_n (by decide)).trans h.2.1, (up_n (by decide)).trans h.2.2.1, (up_n (by decide)).trans h.2.2.2.1, up_s, (up_n (by decide)).trans h.2.2.2.2.2.1, (up_n (by decide)).trans h.2.2.2.2.2.2⟩
theorem FR.u5 (h : FR f mb q1 q2 q3 q4 q5 q6) (q : Nat → Int32) : FR (va_up f 176 (some (.inr (1, 10, .inl q)))) mb q1 q2 q3 q4 q q6 := ⟨(up_n (by decide)).trans h.1, (up_n (by decide)).trans h.2.1, (up_n (by decide)).trans h.2.2.1, (up_n (by decide)).trans h.2.2.2.1, (up_n (by decide)).trans h.2.2.2.2.1, up_s, (up_n (by decide)).trans h.2.2.2.2.2.2⟩
theorem FR.u6 (h : FR f mb q1 q2 q3 q4 q5 q6) (q : Nat → Int32) : FR (va_up f 177 (some (.inr (3, 10, .inl q)))) mb q1 q2 q3 q4 q5 q := ⟨(up_n (by decide)).trans h.1, (up_n (by decide)).trans h.2.1, (up_n (by decide)).trans h.2.2.1, (up_n (by decide)).trans h.2.2.2.1, (up_n (by decide)).trans h.2.2.2.2.1, (up_n (by decide)).trans h.2.2.2.2.2.1, up_s⟩
theorem i10 (a b : Nat) : nI a * (10 : Int32) + nI b = nI (a * 10 + b) := by rw [← nI_add, ← nI_mul]; rfl
theorem putFar_e (h : FR f mb q1 q2 q3 q4 q5 q6) {a b : Nat} (ha : a < 10) (hb : b < 10) (x : Int32) : ∃ f', m_X3_putFar F (some 171) (nI a) (nI b) x f = some f' ∧ FR f' mb q1 q2 (upd (upd q3 (a * 10 + b) x) (b * 10 + a) x) q4 q5 q6 ∧ FF f f' := by
  have h1 := h.u3 (upd q3 (a * 10 + b) x)
  refine ⟨_, ?_, h1.u3 _, (FF.up (by decide) (by decide)).trans (FF.up (by decide) (by decide))⟩
  unfold m_X3_putFar
  rw [if_neg (nI_pos (by omega)), if_neg (lim10 ha), if_neg (nI_pos (by omega)), if_neg (lim10 hb), bd_e (gR_s h.1 rfl), i10, bd_e (stI1 h.2.2.2.1 (by omega) (by omega) (by decide)), bd_e (gR_s h1.1 rfl), i10, bd_e (stI1 h1.2.2.2.1 (by omega) (by omega) (by decide))]
theorem reach_L {lt size : Nat} (hl : lt < 10) (hs : size ≤ 10) : ∀ (d i z : Nat) (f : Hp) (q4 q5 : Nat → Int32), i + d = size → d < z → FR f mb q1 q2 q3 q4 q5 q6 → ∃ f' r4 r5, m_X3_reachFrom_L2 F z (some 171) (nI lt) (nI size) (nI i) f = some f' ∧ FR f' mb q1 q2 q3 r4 r5 q6 ∧ FF f f' ∧ ∀ k, (if i ≤ k ∧ k < size ∧ q6 k = 0 ∧ ¬ q5 k ≤ q3 (lt * 10 + k) then r5 k = q3 (lt * 10 + k) ∧ r4 k = nI lt else r5 k = q5 k ∧ r4 k = q4 k) := by
  intro d
  induction d with
  | zero =>
    intro i z f q4 q5 hi hz h
    obtain ⟨z, rfl⟩ : ∃ j, z = j + 1 := ⟨z - 1, by omega⟩
    refine ⟨f, q4, q5, ?_, h, FF.refl _, fun k => ?_⟩
    · show m_X3_reachFrom_b2 F _ _ _ _ _ _ = _
      unfold m_X3_reachFrom_b2
      rw [if_pos (nI_le (by omega) (by omega))]
    · rw [if_neg (by omega)]; exact ⟨rfl, rfl⟩
  | succ d ih =>
    intro i z f q4 q5 hi hz h
    obtain ⟨z, rfl⟩ : ∃ j, z = j + 1 := ⟨z - 1, by omega⟩
    have h4 := h.u5 (upd q5 i (q3 (lt * 10 + i)))
    have h5 := h4.u4 (upd q4 i (nI lt))
    have step : m_X3_reachFrom_L2 F (z + 1) (some 171) (nI lt) (nI size) (nI i) f = if q6 i = 0 ∧ ¬ q5 i ≤ q3 (lt * 10 + i) then m_X3_reachFrom_L2 F z (some 171) (nI lt) (nI size) (nI (i + 1)) (va_up (va_up f 176 (some (.inr (1, 10, .inl (upd q5 i (q3 (lt * 10 + i))))))) 175 (some (.inr (1, 10, .inl (upd q4 i (nI lt)))))) else m_X3_reachFrom_L2 F z (some 171) (nI lt) (nI size) (nI (i + 1)) f := by
      show m_X3_reachFrom_b2 F _ _ _ _ _ _ = _
      unfold m_X3_reachFrom_b2
      rw [if_neg (nI_ge (by omega) (by omega)), if_neg (show ¬ (10 : Int32) ≤ nI i from nI_ge (b := 10) (by omega) (by omega)), bd_e (gR_s h.1 rfl), i10, bd_e (ldI_e h.2.2.2.1 (by omega) (by omega)), bd_e (gR_s h.1 rfl), bd_e (ldI_e h.2.2.2.2.2.2 (by omega) (by omega))]
      by_cases q : q6 i = 0
      · rw [if_pos q, bd_e (gR_s h.1 rfl), bd_e (ldI_e h.2.2.2.2.2.1 (by omega) (by omega))]
        by_cases q' : q5 i ≤ q3 (lt * 10 + i)
        · rw [if_pos q', nm_e2, nI_1, if_neg (fun c => c.2 q')]
        · rw [if_neg q', bd_e (gR_s h.1 rfl), bd_e (stI1 h.2.2.2.2.2.1 (by omega) (by omega) (by decide)), bd_e (gR_s h4.1 rfl), bd_e (stI1 h4.2.2.2.2.1 (by omega) (by omega) (by decide)), nm_e2, nI_1, if_pos ⟨q, q'⟩]
      · rw [if_neg q, nm_e2, nI_1, if_neg (fun c => q c.1)]
    by_cases q : q6 i = 0 ∧ ¬ q5 i ≤ q3 (lt * 10 + i)
    · rw [if_pos q] at step
      obtain ⟨f', r4, r5, e1, e2, e3, e4⟩ := ih (i + 1) z _ _ _ (by omega) (by omega) h5
      refine ⟨f', r4, r5, step.trans e1, e2, ((FF.up (by decide) (by decide)).trans (FF.up (by decide) (by decide))).trans e3, fun k => ?_⟩
      have e4 := e4 k
      by_cases e : k = i
      · subst e
        rw [if_neg (by omega), upd_s, upd_s] at e4
        rw [if_pos ⟨Nat.le_refl _, by omega, q⟩]
        exact e4
      · rw [upd_n e, upd_n e] at e4
        by_cases c : i ≤ k ∧ k < size ∧ q6 k = 0 ∧ ¬ q5 k ≤ q3 (lt * 10 + k)
        · rw [if_pos c]
          rw [if_pos ⟨by omega, c.2⟩] at e4
          exact e4
        · rw [if_neg c]
          rw [if_neg (fun c' => c ⟨by omega, c'.2⟩)] at e4
          exact e4
    · rw [if_neg q] at step
      obtain ⟨f', r4, r5, e1, e2, e3, e4⟩ := ih (i + 1) z _ _ _ (by omega) (by omega) h
      refine ⟨f', r4, r5, step.trans e1, e2, e3, fun k => ?_⟩
      have e4 := e4 k
      by_cases e : k = i
      · subst e
        rw [if_neg (by omega)] at e4
        rw [if_neg (fun c => q c.2.2)]
        exact e4
      · by_cases c : i ≤ k ∧ k < size ∧ q6 k = 0 ∧ ¬ q5 k ≤ q3 (lt * 10 + k)
        · rw [if_pos c]
          rw [if_pos ⟨by omega, c.2⟩] at e4
          exact e4
        · rw [if_neg c]
          rw [if_neg (fun c' => c ⟨by omega, c'.2⟩)] at e4
          exact e4
theorem range_s (n d : Nat) : List.range' n (d + 1) = n :: List.range' (n + 1) d := rfl
theorem next_L {D : Nat → Nat → Nat} {J : List Nat} {size : Nat} (hs : size ≤ 10) (h : FR f mb q1 q2 q3 q4 q5 q6) (h6 : ∀ k, k < size → q6 k = if k ∈ J then 1 else 0) (h5 : ∀ k, k < size → k ∉ J → q5 k = nI (gp D k J).1) (hg : ∀ k, (gp D k J).1 ≤ 1000000) : ∀ (d i z : Nat) (s : Nat × Nat × Nat), i + d = size → d < z → s.1 ≤ 1000000 → m_X3_nextToJoin_L8 F z (some 171) (nI size) (nI s.2.1) (nI s.1) (nI i) f = some (nI ((List.range' i d).foldl (nxS D J) s).2.1) := by
  intro d
  induction d with
  | zero =>
    intro i z s hi hz hs1
    obtain ⟨z, rfl⟩ : ∃ j, z = j + 1 := ⟨z - 1, by omega⟩
    show m_X3_nextToJoin_b8 F _ _ _ _ _ _ _ = _
    unfold m_X3_nextToJoin_b8
    rw [if_pos (nI_le (by omega) (by omega))]
    rfl
  | succ d ih =>
    intro i z s hi hz hs1
    obtain ⟨z, rfl⟩ : ∃ j, z = j + 1 := ⟨z - 1, by omega⟩
    have hil : i < size := by omega
    have hgi := hg i
    rw [range_s, List.foldl_cons]
    show m_X3_nextToJoin_b8 F _ _ _ _ _ _ _ = _
    unfold m_X3_nextToJoin_b8
    rw [if_neg (nI_ge (by omega) (by omega)), if_neg (show ¬ (10 : Int32) ≤ nI i from nI_ge (b := 10) (by omega) (by omega)), bd_e (gR_s h.1 rfl), bd_e (ldI_e h.2.2.2.2.2.2 (by omega) (by omega)), h6 i hil]
    unfold nxS
    by_cases q : i ∈ J
    · rw [if_pos q, if_neg (by decide), nm_e2, nI_1, if_pos q]
      exact ih (i + 1) z s (by omega) (by omega) hs1
    · rw [if_neg q, if_pos rfl, bd_e (gR_s h.1 rfl), bd_e (ldI_e h.2.2.2.2.2.1 (by omega) (by omega)), h5 i hil q, if_neg q]
      by_cases q2 : (gp D i J).1 < s.1
      · rw [if_neg (nI_ge q2 (by omega)), bd_e (gR_s h.1 rfl), bd_e (ldI_e h.2.2.2.2.2.1 (by omega) (by omega)), h5 i hil q, nm_e2, nI_1, if_pos q2]
        exact ih (i + 1) z ((gp D i J).1, i, (gp D i J).2) (by omega) (by omega) hgi
      · rw [if_pos (nI_le (by omega) (by omega)), nm_e2, nI_1, if_neg q2]
        exact ih (i + 1) z s (by omega) (by omega) hs1
theorem gp_le (D : Nat → Nat → Nat) (i : Nat) (J : List Nat) : (gp D i J).1 ≤ 1000000 := (gpS_p D i J (1000000, 0)).1
theorem range_0 (n : Nat) : List.range' 0 n = List.range n := (List.range_eq_range' (n := n)).symm
/-- between two rounds: all but the latest are done -/
def FJ (D : Nat → Nat → Nat) (n r : Nat) (J0 : List Nat) (lt : Nat) (q4 q5 q6 : Nat → Int32) : Prop :=
  (prm D n r).1 = J0 ++ [lt] ∧ (∀ k, k < 10 → q6 k = if k ∈ J0 then 1 else 0) ∧ (∀ k, k < n → k ∉ J0 → q5 k = nI (gp D k J0).1) ∧ (∀ k, k < n → k ∉ J0 ++ [lt] → q4 k = nI (gp D k J0).2) ∧ ∀ k, k ∈ (prm D n r).1 → q4 k = nI ((prm D n r).2.2 k)
theorem span_round {D : Nat → Nat → Nat} (hD : ∀ a b, D a b ≤ 100) (hS : ∀ a b, D a b = D b a) {n : Nat} (hn : n ≤ 10) (hF : 12 ≤ F) (hq3 : ∀ a b, a < n → b < n → a ≠ b → q3 (a * 10 + b) = nI (D a b)) : ∀ (d r z : Nat) (f : Hp) (J0 : List Nat) (lt : Nat) (q4 q5 q6 : Nat → Int32), r + 1 + d = n → d < z → FR f mb q1 q2 q3 q4 q5 q6 → FJ D n r J0 lt q4 q5 q6 →
    ∃ f' r4 r5 r6, m_X3_span_L44 F z (some 171) (nI n) (nI (prm D n r).2.1) (nI lt) (nI (r + 1)) f = some (nI (prm D n (n - 1)).2.1, f') ∧ FR f' mb q1 q2 q3 r4 r5 r6 ∧ FF f f' ∧ ∀ k, k < n → r4 k = nI ((prm D n (n - 1)).2.2 k) := by
  intro d
  induction d with
  | zero =>
    intro r z f J0 lt q4 q5 q6 hr hz h J
    obtain ⟨z, rfl⟩ : ∃ j, z = j + 1 := ⟨z - 1, by omega⟩
    obtain ⟨p1, p2, p3, p4, p5, p6⟩ := prm_ok (n := n) hD r (by omega)
    refine ⟨f, q4, q5, q6, ?_, h, FF.refl _, fun k hk => ?_⟩
    · show m_X3_span_b44 F _ _ _ _ _ _ _ = _
      unfold m_X3_span_b44
      rw [if_pos (nI_le (by omega) (by omega)), show n - 1 = r by omega]
    · rw [show n - 1 = r by omega]
      refine J.2.2.2.2 k ?_
      exact nd_full n _ p2 p1 (by omega) k hk
  | succ d ih =>
    intro r z f J0 lt q4 q5 q6 hr hz h J
    obtain ⟨z, rfl⟩ : ∃ j, z = j + 1 := ⟨z - 1, by omega⟩
    obtain ⟨p1, p2, p3, p4, p5, p6⟩ := prm_ok (n := n) hD r (by omega)
    obtain ⟨j1, j2, j3, j4, j5⟩ := J
    have hlt : lt < n := p2 lt (by rw [j1]; simp)
    have hJ : (prm D n r).1 ≠ [] := fun e => by rw [e] at p3; simp at p3
    have h6 := h.u6 (upd q6 lt 1)
    have hq6 : ∀ k, k < 10 → upd q6 lt 1 k = if k ∈ (prm D n r).1 then 1 else 0 := fun k hk => by
      rw [j1]
      by_cases e : k = lt
      · rw [e, upd_s, if_pos (by simp)]
      · rw [upd_n e, j2 k hk]
        by_cases e2 : k ∈ J0
        · rw [if_pos e2, if_pos (by simp [e2])]
        · rw [if_neg e2, if_neg (by simp [e2, e])]
    obtain ⟨f1, r4, r5, e1, F1, g1, k1⟩ := reach_L (F := F) (mb := mb) (q1 := q1) (q2 := q2) (q3 := q3) (q6 := upd q6 lt 1) (lt := lt) (size := n) (by omega) hn n 0 F _ q4 q5 (by omega) (by omega) h6
    have hgap : ∀ k, k < n → k ∉ (prm D n r).1 → r5 k = nI (gp D k (prm D n r).1).1 ∧ r4 k = nI (gp D k (prm D n r).1).2 := by
      intro k hk hkJ
      have hk0 : k ∉ J0 := fun q => hkJ (by rw [j1]; simp [q])
      have hkl : k ≠ lt := fun q => hkJ (by rw [j1]; simp [q])
      have kk := k1 k
      have u6 : upd q6 lt 1 k = 0 := by rw [hq6 k (by omega), if_neg hkJ]
      have hdk := hD k lt
      have hgl := gp_le D k J0
      rw [u6, j3 k hk hk0, j4 k hk (by rw [← j1]; exact hkJ), hq3 lt k hlt hk (Ne.symm hkl)] at kk
      have sy := hS lt k
      rw [j1, gp_app]
      unfold gpS
      by_cases c : D k lt < (gp D k J0).1
      · rw [if_pos c]
        rw [if_pos ⟨Nat.zero_le _, hk, rfl, nI_ge (by omega) (by omega)⟩, sy] at kk
        exact kk
      · rw [if_neg c]
        rw [if_neg (fun q => q.2.2.2 (nI_le (by omega) (by omega)))] at kk
        exact kk
    obtain ⟨n1, n2, n3, n4⟩ := nxt_ok hD hJ p1 (n := n) (by omega)
    have hgi := (hgap _ n1 n2).1
    have hnx := next_L (F := F) (D := D) (J := (prm D n r).1) hn F1 (fun k hk => hq6 k (by omega)) (fun k hk q => (hgap k hk q).1) (fun k => gp_le D k _) n 0 F (1000000, 0, 0) (by omega) (by omega) (Nat.le_refl _)
    rw [range_0] at hnx
    change _ = some (nI (nxt D n (prm D n r).1).2.1) at hnx
    obtain ⟨f', s4, s5, s6, i1, i2, i3, i4⟩ := ih (r + 1) z f1 (prm D n r).1 (nxt D n (prm D n r).1).2.1 r4 r5 (upd q6 lt 1) (by omega) (by omega) F1 (by
      refine ⟨rfl, hq6, fun k hk q => (hgap k hk q).1, fun k hk q => (hgap k hk (fun c => q (List.mem_append_left _ c))).2, fun k hk => ?_⟩
      show r4 k = nI (updN _ _ _ k)
      unfold updN
      by_cases e : k = (nxt D n (prm D n r).1).2.1
      · rw [if_pos e, e, n4]
        exact (hgap _ n1 n2).2
      · rw [if_neg e]
        have hkJ : k ∈ (prm D n r).1 := by
          rcases List.mem_append.mp hk with q | q
          · exact q
          · exact absurd (List.mem_singleton.mp q) e
        have kk := k1 k
        rw [hq6 k (by have := p2 k hkJ; omega), if_pos hkJ, if_neg (fun c => by have := c.2.2.1; revert this; decide)] at kk
        rw [kk.2]
        exact j5 k hkJ)
    refine ⟨f', s4, s5, s6, ?_, i2, ((FF.up (by decide) (by decide)).trans g1).trans i3, i4⟩
    show m_X3_span_b44 F _ _ _ _ _ _ _ = _
    unfold m_X3_span_b44
    have st3 : stI f 3 (some 177) (nI lt) 1 = some (va_up f 177 (some (.inr (3, 10, .inl (upd q6 lt 1))))) := stI_e h.2.2.2.2.2.2 (by omega) (by omega) (by decide)
    rw [if_neg (nI_ge (by omega) (by omega)), bd_e (gR_s h.1 rfl), bd_e st3, ck_e (isO_e h6.1), bd_e (show m_X3_reachFrom F (some 171) (nI lt) (nI n) _ = _ from e1), ck_e (isO_e F1.1), bd_e (show m_X3_nextToJoin F (some 171) (nI n) f1 = _ from hnx), bd_e (gR_s F1.1 rfl), bd_e (ldI_e F1.2.2.2.2.2.1 (show (nxt D n (prm D n r).1).2.1 < 10 by omega) (by omega)), hgi, nm_e2, nm_e2, nI_add, nI_1, ← n3]
    exact i1
theorem span_L11 {D : Nat → Nat → Nat} (hD : ∀ a b, D a b ≤ 100) (hS : ∀ a b, D a b = D b a) {n : Nat} (h0 : 0 < n) (hn : n ≤ 10) (hF : 12 ≤ F) (hq3 : ∀ a b, a < n → b < n → a ≠ b → q3 (a * 10 + b) = nI (D a b)) : ∀ (d i z : Nat) (f : Hp) (q4 q5 q6 : Nat → Int32), i + d = 10 → d < z → FR f mb q1 q2 q3 q4 q5 q6 → (∀ k, k < 10 → q5 k = 1000000) → (∀ k, k < i → q4 k = 0 ∧ q6 k = 0) →
    ∃ f' r4 r5 r6, m_X3_span_L11 F z (some 171) (nI n) (nI i) f = some (nI (prm D n (n - 1)).2.1, f') ∧ FR f' mb q1 q2 q3 r4 r5 r6 ∧ FF f f' ∧ ∀ k, k < n → r4 k = nI ((prm D n (n - 1)).2.2 k) := by
  intro d
  induction d with
  | zero =>
    intro i z f q4 q5 q6 hi hz h hq5 hz0
    obtain ⟨z, rfl⟩ : ∃ j, z = j + 1 := ⟨z - 1, by omega⟩
    show ∃ f' r4 r5 r6, m_X3_span_b11 F _ _ _ _ _ = _ ∧ _
    unfold m_X3_span_b11
    rw [if_pos (show (10 : Int32) ≤ nI i from nI_le (a := 10) (by omega) (by omega))]
    exact span_round (F := F) (mb := mb) (q1 := q1) (q2 := q2) (q3 := q3) hD hS hn hF hq3 (n - 1) 0 F f [] 0 q4 q5 q6 (by omega) (by omega) h ⟨rfl, fun k hk => by rw [(hz0 k (by omega)).2, if_neg (by simp)], fun k hk _ => hq5 k (by omega), fun k hk _ => (hz0 k (by omega)).1, fun k hk => by
      have : k = 0 := List.mem_singleton.mp hk
      subst this
      exact (hz0 0 (by omega)).1⟩
  | succ d ih =>
    intro i z f q4 q5 q6 hi hz h hq5 hz0
    obtain ⟨z, rfl⟩ : ∃ j, z = j + 1 := ⟨z - 1, by omega⟩
    have h6 := h.u6 (upd q6 i 0)
    have h4 := h6.u4 (upd q4 i 0)
    obtain ⟨f', r4, r5, r6, i1, i2, i3, i4⟩ := ih (i + 1) z _ _ _ _ (by omega) (by omega) h4 hq5 (fun k hk => by
      by_cases e : k = i
      · rw [e, upd_s, upd_s]; exact ⟨rfl, rfl⟩
      · rw [upd_n e, upd_n e]; exact hz0 k (by omega))
    refine ⟨f', r4, r5, r6, ?_, i2, ((FF.up (by decide) (by decide)).trans (FF.up (by decide) (by decide))).trans i3, i4⟩
    show m_X3_span_b11 F _ _ _ _ _ = _
    unfold m_X3_span_b11
    have st3 : stI f 3 (some 177) (nI i) 0 = some (va_up f 177 (some (.inr (3, 10, .inl (upd q6 i 0))))) := stI_e h.2.2.2.2.2.2 (by omega) (by omega) (by decide)
    rw [if_neg (show ¬ (10 : Int32) ≤ nI i from nI_ge (b := 10) (by omega) (by omega)), bd_e (gR_s h.1 rfl), bd_e st3, bd_e (gR_s h6.1 rfl), bd_e (stI1 h6.2.2.2.2.1 (by omega) (by omega) (by decide)), nm_e2, nI_1]
    exact i1
theorem span_e {D : Nat → Nat → Nat} (hD : ∀ a b, D a b ≤ 100) (hS : ∀ a b, D a b = D b a) {n : Nat} (h0 : 0 < n) (hn : n ≤ 10) (hF : 12 ≤ F) (h : FR f mb q1 q2 q3 q4 q5 q6) (hq3 : ∀ a b, a < n → b < n → a ≠ b → q3 (a * 10 + b) = nI (D a b)) : ∃ f' r4 r5 r6, m_X3_span F (some 171) (nI n) f = some (nI (prm D n (n - 1)).2.1, f') ∧ FR f' mb q1 q2 q3 r4 r5 r6 ∧ FF f f' ∧ ∀ k, k < n → r4 k = nI ((prm D n (n - 1)).2.2 k) := by
  have h5 := h.u5 (fun j => if j < 10 then 1000000 else q5 j)
  obtain ⟨f', r4, r5, r6, i1, i2, i3, i4⟩ := span_L11 (F := F) hD hS h0 hn hF hq3 10 0 F _ _ _ _ (by omega) (by omega) h5 (fun k hk => if_pos hk) (fun k hk => absurd hk (Nat.not_lt_zero _))
  refine ⟨f', r4, r5, r6, ?_, i2, (FF.up (by decide) (by decide)).trans i3, i4⟩
  unfold m_X3_span
  rw [bd_e (gR_s h.1 rfl), bd_e (fillI_e h.2.2.2.2.2.1 (by decide) (by decide) (by omega))]
  exact i1
/-! FARS of the copies -/
def dst (Ls : List (List Nat)) (a b : Nat) : Nat := stp (Ls.getD a []) (Ls.getD b []) + 3 * fal (Ls.getD a []) (Ls.getD b [])
theorem fal_comm (A B : List Nat) : fal A B = fal B A := by
  refine cnt_ext (fun k _ => ?_)
  cases lnB A k <;> cases lnB B k <;> rfl
theorem dst_le (Ls : List (List Nat)) (a b : Nat) : dst Ls a b ≤ 100 := by
  have h1 := stp_le (Ls.getD a []) (Ls.getD b [])
  have h2 := fal_le (Ls.getD a []) (Ls.getD b [])
  unfold dst
  omega
theorem dst_comm (Ls : List (List Nat)) (a b : Nat) : dst Ls a b = dst Ls b a := by
  unfold dst
  rw [stp_comm, fal_comm]
theorem far_e {f : Hp} {a b : Nat} {na nb : Int64} {A B : List Nat} (ha : f a = some (.inl (0, cC na A))) (hb : f b = some (.inl (0, cC nb B))) : m_X1_farTo F (some a) (some b) f = some (nI (stp A B + 3 * fal A B)) := farTo_e F ha hb
def cLs (h : HS) (fm : List Nat) : List (List Nat) := fm.map (cL h)
theorem cLs_at {h : HS} {fm : List Nat} {i : Nat} (hi : i < fm.length) : (cLs h fm).getD i [] = cL h fm[i] := by
  unfold cLs
  rw [List.getD_eq_getElem?_getD, List.getElem?_eq_getElem (by rw [List.length_map]; exact hi), List.getElem_map]
  rfl
/-- the FARS of the copies below x are there, and of x to those below y -/
def dF (q3 : Nat → Int32) (D : Nat → Nat → Nat) (x y : Nat) : Prop := ∀ a b, (a < x ∧ b < x ∧ a ≠ b ∨ a = x ∧ b < y ∧ b < x ∨ b = x ∧ a < y ∧ a < x) → q3 (a * 10 + b) = nI (D a b)
theorem dF.put {q3 : Nat → Int32} {D : Nat → Nat → Nat} (hS : ∀ a b, D a b = D b a) {x y : Nat} (h : dF q3 D x y) (hx : x < 10) (hy : y < x) : dF (upd (upd q3 (x * 10 + y) (nI (D x y))) (y * 10 + x) (nI (D x y))) D x (y + 1) := by
  intro a b hab
  by_cases e1 : a * 10 + b = y * 10 + x
  · have ha : a = y := by omega
    have hb : b = x := by omega
    subst ha; subst hb
    rw [upd_s, hS]
  · rw [upd_n e1]
    by_cases e2 : a * 10 + b = x * 10 + y
    · have ha : a = x := by omega
      have hb : b = y := by omega
      subst ha; subst hb
      rw [upd_s]
    · rw [upd_n e2]
      exact h a b (by omega)
section MEAS
variable {h : HS} {fm : List Nat} {T s : Nat}
theorem measure_L30 {rc : Option Nat → Option Nat → Int32 → Hp → Option (Int32 × Hp)} (hl : fm.length ≤ 9) (ok : okH h) {x : Nat} (hx : x < fm.length) (hc : ∀ i (hi : i < fm.length), i ≤ x → fm[i] < (hC h).length) (hT : T < 171 - 29) : ∀ (d y z : Nat) (f : Hp) (q3 : Nat → Int32), y + d = x → d < z → FR f fm.length q1 q2 q3 q4 q5 q6 → HAt f T s h → (∀ i (hi : i < fm.length), q1 i = nI fm[i]) → dF q3 (dst (cLs h fm)) x y →
    ∃ f' r3, m_X3_measure_L36 F rc z (some 171) (some T) (nI x) (some (T + 13 + fm[x])) (nI y) f = rc (some 171) (some T) (nI (x + 1)) f' ∧ FR f' fm.length q1 q2 r3 q4 q5 q6 ∧ FF f f' ∧ dF r3 (dst (cLs h fm)) (x + 1) 0 := by
  have h10 := ok.2.1
  intro d
  induction d with
  | zero =>
    intro y z f q3 hy hz h0 H hq1 hd
    obtain ⟨z, rfl⟩ : ∃ j, z = j + 1 := ⟨z - 1, by omega⟩
    refine ⟨f, q3, ?_, h0, FF.refl _, fun a b hab => hd a b (by omega)⟩
    show m_X3_measure_b36 F _ _ _ _ _ _ _ _ = _
    unfold m_X3_measure_b36
    rw [if_pos (nI_le (by omega) (by omega)), nm_e2, nI_1]
  | succ d ih =>
    intro y z f q3 hy hz h0 H hq1 hd
    obtain ⟨z, rfl⟩ : ∃ j, z = j + 1 := ⟨z - 1, by omega⟩
    have hyl : y < fm.length := by omega
    have cx := hc x hx (Nat.le_refl _)
    have cy := hc y hyl (by omega)
    obtain ⟨f1, p1, p2, p3⟩ := putFar_e (F := F) h0 (a := x) (b := y) (by omega) (by omega) (nI (dst (cLs h fm) x y))
    obtain ⟨f', r3, i1, i2, i3, i4⟩ := ih (y + 1) z f1 _ (by omega) (by omega) p2 (H.frame (fun a _ _ _ => p3 a (by omega)) ok) hq1 (hd.put (dst_comm _) (by omega) (by omega))
    refine ⟨f', r3, ?_, i2, p3.trans i3, i4⟩
    have ed : stp (hC h)[fm[x]].2 (hC h)[fm[y]].2 + 3 * fal (hC h)[fm[x]].2 (hC h)[fm[y]].2 = dst (cLs h fm) x y := by
      unfold dst
      rw [cLs_at hx, cLs_at hyl, cL_e cx, cL_e cy]
    show m_X3_measure_b36 F _ _ _ _ _ _ _ _ = _
    unfold m_X3_measure_b36
    rw [if_neg (nI_ge (by omega) (by omega)), bd_e (gR_s h0.1 rfl), bd_e (ldI_e h0.2.1 (by omega) (by omega)), hq1 y hyl, ck_e (isO_e H.1), bd_e (copyAt_yes H h10 cy), if_neg (by simp), ck_e (isO_e (H.copy cx)), bd_e (farTo_e F (H.copy cx) (H.copy cy)), ed, ck_e (isO_e h0.1), bd_e p1, nm_e2, nI_1]
    exact i1
/-- whether all copies are there yet -/
def allIn (h : HS) (fm : List Nat) : Prop := ∀ i (hi : i < fm.length), fm[i] < (hC h).length
theorem measure_L2 (hl : fm.length ≤ 9) (ok : okH h) (hT : T < 171 - 29) (hF : 12 ≤ F) (h256 : ∀ x ∈ fm, x < 256) : ∀ (d x z : Nat) (f : Hp) (q3 : Nat → Int32), x + d = fm.length → d < z → FR f fm.length q1 q2 q3 q4 q5 q6 → HAt f T s h → (∀ i (hi : i < fm.length), q1 i = nI fm[i]) → dF q3 (dst (cLs h fm)) x 0 → (∀ i (hi : i < fm.length), i < x → fm[i] < (hC h).length) →
    ∃ v f' r3, m_X3_measure_L2 F z (some 171) (some T) (nI x) f = some (v, f') ∧ FR f' fm.length q1 q2 r3 q4 q5 q6 ∧ FF f f' ∧ ((v = 1 ∧ allIn h fm ∧ dF r3 (dst (cLs h fm)) fm.length 0) ∨ (v = 0 ∧ ¬ allIn h fm)) := by
  have h10 := ok.2.1
  intro d
  induction d with
  | zero =>
    intro x z f q3 hx hz h0 H hq1 hd hc
    obtain ⟨z, rfl⟩ : ∃ j, z = j + 1 := ⟨z - 1, by omega⟩
    refine ⟨1, f, q3, ?_, h0, FF.refl _, Or.inl ⟨rfl, fun i hi => hc i hi (by omega), by rw [show fm.length = x by omega]; exact hd⟩⟩
    show m_X3_measure_b2 F _ _ _ _ _ = _
    unfold m_X3_measure_b2
    rw [bd_e (gI_e h0.1 rfl), if_pos (nI_le (by omega) (by omega)), ck_e (by decide)]
  | succ d ih =>
    intro x z f q3 hx hz h0 H hq1 hd hc
    obtain ⟨z, rfl⟩ : ∃ j, z = j + 1 := ⟨z - 1, by omega⟩
    have hxl : x < fm.length := by omega
    have h2 := h256 _ (List.getElem_mem hxl)
    show ∃ v f' r3, m_X3_measure_b2 F _ _ _ _ _ = _ ∧ _
    unfold m_X3_measure_b2
    rw [bd_e (gI_e h0.1 rfl), if_neg (nI_ge (by omega) (by omega)), if_neg (lim9 (by omega)), bd_e (gR_s h0.1 rfl), bd_e (ldI_e h0.2.1 (by omega) (by omega)), hq1 x hxl, ck_e (isO_e H.1)]
    by_cases q : fm[x] < (hC h).length
    · have hc' : ∀ i (hi : i < fm.length), i < x + 1 → fm[i] < (hC h).length := fun i hi h3 => by
        by_cases e : i = x
        · subst e; exact q
        · exact hc i hi (by omega)
      obtain ⟨f1, r3, e1, e2, e3, e4⟩ := measure_L30 (F := F) (rc := m_X3_measure_L2 F z) (q1 := q1) (q2 := q2) (q4 := q4) (q5 := q5) (q6 := q6) hl ok hxl (fun i hi h3 => hc' i hi (by omega)) hT x 0 F f q3 (by omega) (by omega) h0 H hq1 hd
      obtain ⟨v, f', s3, i1, i2, i3, i4⟩ := ih (x + 1) z f1 r3 (by omega) (by omega) e2 (H.frame (fun a _ _ _ => e3 a (by omega)) ok) hq1 e4 hc'
      refine ⟨v, f', s3, ?_, i2, e3.trans i3, i4⟩
      rw [bd_e (copyAt_yes H h10 q), if_neg (by simp)]
      exact e1.trans i1
    · refine ⟨0, f, q3, ?_, h0, FF.refl _, Or.inr ⟨rfl, fun c => q (c x hxl)⟩⟩
      rw [bd_e (copyAt_no H (Or.inr (nI_le (by omega) (by omega)))), if_pos rfl, ck_e (by decide)]
end MEAS
end FAM
