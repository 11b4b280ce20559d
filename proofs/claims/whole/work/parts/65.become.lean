/-! one HOUSE becomes as another one -/
def hcI (b s : Nat) (i0 i1 i3 i6 i9 : Int32) : List Value := [.int i0, .int i1, .ref (b + 1), .int i3, .ref (b + 2), .ref (b + 3), .int i6, .ref (b + 4), .ref (b + 5), .int i9, .ref (b + 6), .ref s]
def scI (s : Nat) (l : Int32) : List Value := [.int l, .ref (s + 1), .ref (s + 2), .ref (s + 3), .ref (s + 4), .ref (s + 5)]
def rwI (n : Nat) (q : Nat → Int32) : Option AC := some (.inr (1, n, .inl q))
def rwR (t n : Nat) (q : Nat → Option Nat) : Option AC := some (.inr (t, n, .inr (.inr (.inr (.inr q)))))
/-- a HOUSE's cells, whatever they hold -/
def HX (f : Hp) (b s : Nat) : Prop :=
  (∃ i0 i1 i3 i6 i9, f b = some (.inl (3, hcI b s i0 i1 i3 i6 i9))) ∧
  (∃ q, f (b + 1) = rwR 4 10 q ∧ ∀ i, i < 10 → q i = some (b + 13 + i)) ∧
  (∃ q, f (b + 2) = rwR 5 6 q ∧ ∀ i, i < 6 → q i = some (b + 23 + i)) ∧
  (∃ w, f (b + 3) = rwI 6 w) ∧ (∃ w, f (b + 4) = rwI 12 w) ∧ (∃ w, f (b + 5) = rwI 12 w) ∧ (∃ w, f (b + 6) = rwI 49 w) ∧
  (∀ c, c < 10 → cAny f (b + 13 + c)) ∧ (∀ d, d < 6 → dAny f (b + 23 + d))
def SX (f : Hp) (s : Nat) : Prop :=
  (∃ l, f s = some (.inl (6, scI s l))) ∧
  (∃ q, f (s + 1) = rwR 8 40 q ∧ ∀ i, i < 40 → ∃ w, q i = some w ∧ w < 21) ∧
  (∃ q, f (s + 2) = rwI 40 q) ∧ (∃ q, f (s + 3) = rwI 40 q) ∧ (∃ q, f (s + 4) = rwI 40 q) ∧ (∃ q, f (s + 5) = rwI 40 q)
theorem HAt.x {f : Hp} {b s : Nat} {h : HS} (H : HAt f b s h) (ok : okH h) : HX f b s := by
  obtain ⟨h0, ⟨q1, a1, b1⟩, ⟨q2, a2, b2⟩, ⟨q3, a3, b3⟩, ⟨q4, a4, b4⟩, ⟨q5, a5, b5⟩, ⟨q6, a6, b6⟩, h7, h8, h9, h10⟩ := H
  refine ⟨⟨_, _, _, _, _, h0⟩, ⟨q1, a1, b1⟩, ⟨q2, a2, b2⟩, ⟨q3, a3⟩, ⟨q4, a4⟩, ⟨q5, a5⟩, ⟨q6, a6⟩, fun c hc => ?_, fun d hd => ?_⟩
  · rcases Nat.lt_or_ge c (hC h).length with q | q
    · exact ⟨_, _, _, _, _, _, h7 c q⟩
    · exact h8 c q hc
  · rcases Nat.lt_or_ge d (hD h).length with q | q
    · obtain ⟨lim, e, -⟩ := h9 d q
      have := (ok.2.2.2.2.1 _ (List.getElem_mem q)).2.1
      exact ⟨_, lim, _, e, by omega⟩
    · exact h10 d q hd
theorem SAt.x {f : Hp} {s : Nat} {P : SN} (H : SAt f s P) : SX f s := by
  obtain ⟨-, h0, ⟨q1, a1, -, c1⟩, ⟨q2, a2, -⟩, ⟨q3, a3, -⟩, ⟨q4, a4, -⟩, ⟨q5, a5, -⟩⟩ := H
  exact ⟨⟨_, h0⟩, ⟨q1, a1, c1⟩, ⟨q2, a2⟩, ⟨q3, a3⟩, ⟨q4, a4⟩, ⟨q5, a5⟩⟩
section BEC
variable {F : Nat} {f : Hp} {a b s t : Nat}
theorem cpI_e {f : Hp} {a b n : Nat} {ga gb : Nat → Int32} (ha : f a = rwI n ga) (hb : f b = rwI n gb) (h1 : 100 ≤ a) (h2 : 100 ≤ b) (hn : n < 2 ^ 31) : ∃ q, cpI f 1 (some a) (0 : Int32) (some b) (0 : Int32) (nI n) = some (va_up f b (rwI n q)) ∧ ∀ j, j < n → q j = ga j := by
  refine ⟨va_cpy ga gb 0 0 n, ?_, fun j hj => ?_⟩
  · have ea : aI f 1 (some a) = some (n, ga) := by simp [aI, ha, rwI]
    have eb : aI f 1 (some b) = some (n, gb) := by simp [aI, hb, rwI]
    unfold cpI
    rw [ea, eb]
    have e0 : ((0 : Int32).toNatClampNeg) = 0 := rfl
    show (if _ then _ else _) = _
    rw [if_pos ⟨rfl, by decide, by decide, nI_pos hn, by rw [e0, nI_cl hn]; omega, by rw [e0, nI_cl hn]; omega, h1, h2⟩, e0, nI_cl hn]
    rfl
  · show (if 0 ≤ j ∧ j < 0 + n then ga (0 + (j - 0)) else gb j) = ga j
    rw [if_pos ⟨Nat.zero_le _, by omega⟩, Nat.zero_add]
    rfl
/-! the SENTENCE -/
def SRow (f : Hp) (s : Nat) (q1 : Nat → Option Nat) (q2 q3 q4 q5 : Nat → Int32) : Prop := f (s + 1) = rwR 8 40 q1 ∧ f (s + 2) = rwI 40 q2 ∧ f (s + 3) = rwI 40 q3 ∧ f (s + 4) = rwI 40 q4 ∧ f (s + 5) = rwI 40 q5
theorem cp1 {f : Hp} {t s a b k i : Nat} {ft fs : List Value} {qa qb : Nat → Int32} (hT : f t = some (.inl (6, ft))) (hS : f s = some (.inl (6, fs))) (ht : ft[k]? = some (.ref a)) (hs : fs[k]? = some (.ref b)) (ra : f a = rwI 40 qa) (rb : f b = rwI 40 qb) (hi : i < 40) (ha : 100 ≤ a) {K : Hp → Option Hp} : ((gR f (some t) 6 k).bind fun x6 => (gR f (some s) 6 k).bind fun x7 => (ldI f 1 x7 (nI i)).bind fun x8 => (stI f 1 x6 (nI i) x8).bind K) = K (va_up f a (rwI 40 (upd qa i (qb i)))) := by
  rw [bd_e (gR_s hT ht), bd_e (gR_s hS hs), bd_e (ldI_e rb hi (by omega)), bd_e (stI1 ra hi (by omega) ha)]
  rfl
theorem sbec_L (ht : 100 ≤ t) (dis : t + 6 ≤ s ∨ s + 6 ≤ t) {lt ls : Int32} {q1 : Nat → Option Nat} {q2 q3 q4 q5 : Nat → Int32} (hq : ∀ i, i < 40 → ∃ w, q1 i = some w ∧ w < 21) : ∀ (d i z : Nat) (f : Hp) (p1 : Nat → Option Nat) (p2 p3 p4 p5 : Nat → Int32), i + d = 40 → d < z → f t = some (.inl (6, scI t lt)) → f s = some (.inl (6, scI s ls)) → SRow f t p1 p2 p3 p4 p5 → SRow f s q1 q2 q3 q4 q5 → (∀ j, j < i → p1 j = q1 j ∧ p2 j = q2 j ∧ p3 j = q3 j ∧ p4 j = q4 j ∧ p5 j = q5 j) → ∃ f' r1 r2 r3 r4 r5, m_X7_become_L10 F z (some t) (some s) (nI i) f = some f' ∧ SRow f' t r1 r2 r3 r4 r5 ∧ (∀ j, j < 40 → r1 j = q1 j ∧ r2 j = q2 j ∧ r3 j = q3 j ∧ r4 j = q4 j ∧ r5 j = q5 j) ∧ ∀ x, x < t + 1 ∨ t + 6 ≤ x → f' x = f x := by
  intro d
  induction d with
  | zero =>
    intro i z f p1 p2 p3 p4 p5 hi hz hT hS rt rs hj
    obtain ⟨z, rfl⟩ : ∃ j, z = j + 1 := ⟨z - 1, by omega⟩
    refine ⟨f, p1, p2, p3, p4, p5, ?_, rt, fun j h => hj j (by omega), fun _ _ => rfl⟩
    show m_X7_become_b10 F _ _ _ _ _ = _
    unfold m_X7_become_b10
    rw [if_pos (show (40 : Int32) ≤ nI i from nI_le (a := 40) (by omega) (by omega))]
  | succ d ih =>
    intro i z f p1 p2 p3 p4 p5 hi hz hT hS rt rs hj
    obtain ⟨z, rfl⟩ : ∃ j, z = j + 1 := ⟨z - 1, by omega⟩
    obtain ⟨t1, t2, t3, t4, t5⟩ := rt
    obtain ⟨s1, s2, s3, s4, s5⟩ := rs
    have i40 : i < 40 := by omega
    obtain ⟨w, w1, w2⟩ := hq i i40
    generalize hf1 : va_up f (t + 1) (rwR 8 40 (va_up p1 i (q1 i))) = f1
    generalize hf2 : va_up f1 (t + 2) (rwI 40 (upd p2 i (q2 i))) = f2
    generalize hf3 : va_up f2 (t + 3) (rwI 40 (upd p3 i (q3 i))) = f3
    generalize hf4 : va_up f3 (t + 4) (rwI 40 (upd p4 i (q4 i))) = f4
    generalize hf5 : va_up f4 (t + 5) (rwI 40 (upd p5 i (q5 i))) = f5
    have fr1 : ∀ x, x ≠ t + 1 → f1 x = f x := fun x hx => by rw [← hf1]; exact up_n hx
    have fr2 : ∀ x, x ≠ t + 2 → f2 x = f1 x := fun x hx => by rw [← hf2]; exact up_n hx
    have fr3 : ∀ x, x ≠ t + 3 → f3 x = f2 x := fun x hx => by rw [← hf3]; exact up_n hx
    have fr4 : ∀ x, x ≠ t + 4 → f4 x = f3 x := fun x hx => by rw [← hf4]; exact up_n hx
    have fr5 : ∀ x, x ≠ t + 5 → f5 x = f4 x := fun x hx => by rw [← hf5]; exact up_n hx
    have c2 : ∀ x, x ≠ t + 1 → x ≠ t + 2 → f2 x = f x := fun x h1 h2 => (fr2 x h2).trans (fr1 x h1)
    have c3 : ∀ x, x ≠ t + 1 → x ≠ t + 2 → x ≠ t + 3 → f3 x = f x := fun x h1 h2 h3 => (fr3 x h3).trans (c2 x h1 h2)
    have c4 : ∀ x, x ≠ t + 1 → x ≠ t + 2 → x ≠ t + 3 → x ≠ t + 4 → f4 x = f x := fun x h1 h2 h3 h4 => (fr4 x h4).trans (c3 x h1 h2 h3)
    have c5 : ∀ x, x < t + 1 ∨ t + 6 ≤ x → f5 x = f x := fun x h => (fr5 x (by omega)).trans (c4 x (by omega) (by omega) (by omega) (by omega))
    obtain ⟨f', r1, r2, r3, r4, r5, i1, i2, i3, i4⟩ := ih (i + 1) z f5 (va_up p1 i (q1 i)) (upd p2 i (q2 i)) (upd p3 i (q3 i)) (upd p4 i (q4 i)) (upd p5 i (q5 i)) (by omega) (by omega) ((c5 _ (by omega)).trans hT) ((c5 _ (by omega)).trans hS)
      ⟨(fr5 _ (by omega)).trans ((fr4 _ (by omega)).trans ((fr3 _ (by omega)).trans ((fr2 _ (by omega)).trans (by rw [← hf1]; exact up_s)))), (fr5 _ (by omega)).trans ((fr4 _ (by omega)).trans ((fr3 _ (by omega)).trans (by rw [← hf2]; exact up_s))), (fr5 _ (by omega)).trans ((fr4 _ (by omega)).trans (by rw [← hf3]; exact up_s)), (fr5 _ (by omega)).trans (by rw [← hf4]; exact up_s), by rw [← hf5]; exact up_s⟩
      ⟨(c5 _ (by omega)).trans s1, (c5 _ (by omega)).trans s2, (c5 _ (by omega)).trans s3, (c5 _ (by omega)).trans s4, (c5 _ (by omega)).trans s5⟩ (fun j h => by
        by_cases e : j = i
        · subst e; exact ⟨up_s, upd_s, upd_s, upd_s, upd_s⟩
        · rw [up_n e, upd_n e, upd_n e, upd_n e, upd_n e]; exact hj j (by omega))
    refine ⟨f', r1, r2, r3, r4, r5, ?_, i2, i3, fun x hx => (i4 x hx).trans (c5 x hx)⟩
    have okr : okR f 8 (q1 i) = true := by rw [w1]; exact decide_eq_true w2
    show m_X7_become_b10 F _ _ _ _ _ = _
    unfold m_X7_become_b10
    rw [if_neg (show ¬ (40 : Int32) ≤ nI i from nI_ge (b := 40) i40 (by omega)), bd_e (gR_s hT rfl), bd_e (gR_s hS rfl), bd_e (ldR_e s1 i40 (by omega)), bd_e (show stR f 8 (some (t + 1)) (nI i) (q1 i) = some f1 from (stR_e t1 i40 (by omega) (by omega) okr).trans (congrArg some hf1)),
      cp1 (a := t + 2) (b := s + 2) (qa := p2) (qb := q2) ((fr1 _ (by omega)).trans hT) ((fr1 _ (by omega)).trans hS) rfl rfl ((fr1 _ (by omega)).trans t2) ((fr1 _ (by omega)).trans s2) i40 (by omega), hf2,
      cp1 (a := t + 3) (b := s + 3) (qa := p3) (qb := q3) ((c2 _ (by omega) (by omega)).trans hT) ((c2 _ (by omega) (by omega)).trans hS) rfl rfl ((c2 _ (by omega) (by omega)).trans t3) ((c2 _ (by omega) (by omega)).trans s3) i40 (by omega), hf3,
      cp1 (a := t + 4) (b := s + 4) (qa := p4) (qb := q4) ((c3 _ (by omega) (by omega) (by omega)).trans hT) ((c3 _ (by omega) (by omega) (by omega)).trans hS) rfl rfl ((c3 _ (by omega) (by omega) (by omega)).trans t4) ((c3 _ (by omega) (by omega) (by omega)).trans s4) i40 (by omega), hf4,
      cp1 (a := t + 5) (b := s + 5) (qa := p5) (qb := q5) ((c4 _ (by omega) (by omega) (by omega) (by omega)).trans hT) ((c4 _ (by omega) (by omega) (by omega) (by omega)).trans hS) rfl rfl ((c4 _ (by omega) (by omega) (by omega) (by omega)).trans t5) ((c4 _ (by omega) (by omega) (by omega) (by omega)).trans s5) i40 (by omega), hf5, nm_e2, nI_1]
    exact i1
theorem sbec_e (hF : 41 ≤ F) (ht : 100 ≤ t) (dis : t + 6 ≤ s ∨ s + 6 ≤ t) {P : SN} (X : SX f t) (A : SAt f s P) : ∃ f', m_X7_become F (some t) (some s) f = some f' ∧ SAt f' t P ∧ ∀ x, x < t ∨ t + 6 ≤ x → f' x = f x := by
  obtain ⟨⟨l, x0⟩, ⟨p1, x1, -⟩, ⟨p2, x2⟩, ⟨p3, x3⟩, ⟨p4, x4⟩, ⟨p5, x5⟩⟩ := X
  obtain ⟨pl, h0, ⟨q1, a1, b1, c1⟩, ⟨q2, a2, b2⟩, ⟨q3, a3, b3⟩, ⟨q4, a4, b4⟩, ⟨q5, a5, b5⟩⟩ := A
  obtain ⟨f', r1, r2, r3, r4, r5, i1, ⟨i2, i2b, i2c, i2d, i2e⟩, i3, i4⟩ := sbec_L (F := F) (s := s) ht dis (lt := nI P.length) (ls := nI P.length) (q2 := q2) (q3 := q3) (q4 := q4) (q5 := q5) c1 40 0 F (va_up f t (some (.inl (6, scI t (nI P.length))))) p1 p2 p3 p4 p5 (by omega) (by omega) up_s ((up_n (by omega)).trans h0) ⟨(up_n (by omega)).trans x1, (up_n (by omega)).trans x2, (up_n (by omega)).trans x3, (up_n (by omega)).trans x4, (up_n (by omega)).trans x5⟩ ⟨(up_n (by omega)).trans a1, (up_n (by omega)).trans a2, (up_n (by omega)).trans a3, (up_n (by omega)).trans a4, (up_n (by omega)).trans a5⟩ (fun _ c => absurd c (Nat.not_lt_zero _))
  refine ⟨f', ?_, ⟨pl, (i4 _ (by omega)).trans up_s, ⟨r1, i2, fun i hi => ?_, fun i hi => ?_⟩, ⟨r2, i2b, fun i hi => ?_⟩, ⟨r3, i2c, fun i hi => ?_⟩, ⟨r4, i2d, fun i hi => ?_⟩, ⟨r5, i2e, fun i hi => ?_⟩⟩, fun x hx => (i4 x (by omega)).trans (up_n (by omega))⟩
  · unfold m_X7_become
    rw [bd_e (gI_e h0 rfl), bd_e (show pV f (some t) 6 0 (.int (nI P.length)) = some (va_up f t (some (.inl (6, scI t (nI P.length))))) from pV_e x0 (Nat.le_of_ble_eq_true rfl))]
    exact i1
  · rw [(i3 i (by omega)).1]; exact b1 i hi
  · rw [(i3 i hi).1]; exact c1 i hi
  · rw [(i3 i (by omega)).2.1]; exact b2 i hi
  · rw [(i3 i (by omega)).2.2.1]; exact b3 i hi
  · rw [(i3 i (by omega)).2.2.2.1]; exact b4 i hi
  · rw [(i3 i (by omega)).2.2.2.2]; exact b5 i hi
/-! COPIES, DESKS -/
theorem hb_18 (dis : a + 29 ≤ b ∨ b + 29 ≤ a) {sa sb : Nat} {x0 x1 x3 x6 x9 y0 y1 y3 y6 y9 : Int32} {qa qb : Nat → Option Nat} (hqa : ∀ i, i < 10 → qa i = some (a + 13 + i)) (hqb : ∀ i, i < 10 → qb i = some (b + 13 + i)) : ∀ (d i z : Nat) (f : Hp), i + d = 10 → d < z → f a = some (.inl (3, hcI a sa x0 x1 x3 x6 x9)) → f b = some (.inl (3, hcI b sb y0 y1 y3 y6 y9)) → f (a + 1) = rwR 4 10 qa → f (b + 1) = rwR 4 10 qb → (∀ c, c < 10 → cAny f (a + 13 + c)) → (∀ c, c < 10 → cAny f (b + 13 + c)) → ∃ f', m_X4_become_L18 F z (some a) (some b) (nI i) f = m_X4_become_L55 F F (some a) (some b) 0 (va_up f' a (some (.inl (3, hcI a sa x0 x1 y3 x6 x9)))) ∧ (∀ j, i ≤ j → j < 10 → f' (a + 13 + j) = f (b + 13 + j)) ∧ ∀ x, x < a + 13 + i ∨ a + 23 ≤ x → f' x = f x := by
  intro d
  induction d with
  | zero =>
    intro i z f hi hz ha hb ra rb ca cb
    obtain ⟨z, rfl⟩ : ∃ j, z = j + 1 := ⟨z - 1, by omega⟩
    refine ⟨f, ?_, fun j h1 h2 => by omega, fun _ _ => rfl⟩
    show m_X4_become_b18 F _ _ _ _ _ = _
    unfold m_X4_become_b18
    rw [if_pos (show (10 : Int32) ≤ nI i from nI_le (a := 10) (by omega) (by omega)), bd_e (gI_e hb rfl), bd_e (show pV f (some a) 3 3 (.int y3) = some (va_up f a (some (.inl (3, hcI a sa x0 x1 y3 x6 x9)))) from pV_e ha (Nat.le_of_ble_eq_true rfl))]
  | succ d ih =>
    intro i z f hi hz ha hb ra rb ca cb
    obtain ⟨z, rfl⟩ : ∃ j, z = j + 1 := ⟨z - 1, by omega⟩
    have i10 : i < 10 := by omega
    obtain ⟨n0, i1, i2, i3, i4, i5, e⟩ := ca i i10
    obtain ⟨m0, j1, j2, j3, j4, j5, e'⟩ := cb i i10
    have fr : ∀ x, x ≠ a + 13 + i → va_up f (a + 13 + i) (some (.inl (0, [.long m0, .int j1, .int j2, .int j3, .int j4, .int j5]))) x = f x := fun x hx => up_n hx
    obtain ⟨f', k1, k2, k3⟩ := ih (i + 1) z _ (by omega) (by omega) ((fr _ (by omega)).trans ha) ((fr _ (by omega)).trans hb) ((fr _ (by omega)).trans ra) ((fr _ (by omega)).trans rb) (fun c hc => by
      by_cases q : c = i
      · subst q; exact ⟨_, _, _, _, _, _, up_s⟩
      · obtain ⟨u0, u1, u2, u3, u4, u5, u⟩ := ca c hc
        exact ⟨_, _, _, _, _, _, (fr _ (by omega)).trans u⟩) (fun c hc => by
      obtain ⟨u0, u1, u2, u3, u4, u5, u⟩ := cb c hc
      exact ⟨_, _, _, _, _, _, (fr _ (by omega)).trans u⟩)
    refine ⟨f', ?_, fun j h1 h2 => ?_, fun x hx => (k3 x (by omega)).trans (fr x (by omega))⟩
    · refine Eq.trans ?_ k1
      show m_X4_become_b18 F _ _ _ _ _ = _
      unfold m_X4_become_b18
      rw [if_neg (show ¬ (10 : Int32) ≤ nI i from nI_ge (b := 10) i10 (by omega)), bd_e (gR_s ha rfl), bd_e (ldR_e ra i10 (by omega)), hqa i i10, bd_e (gR_s hb rfl), bd_e (ldR_e rb i10 (by omega)), hqb i i10, ck_e (isO_e e), bd_e (cbecome_e F e rfl (by omega) e'), nm_e2, nI_1]
    · by_cases q : j = i
      · subst q
        exact ((k3 _ (by omega)).trans up_s).trans e'.symm
      · exact (k2 j (by omega) h2).trans (fr _ (by omega))
theorem dbecome_e {f : Hp} {a b w : Nat} {v0 : Nat} {l0 lim : Int32} {n0 nm : Int64} (h : f a = some (.inl (1, [.ref v0, .int l0, .long n0]))) (hab : b ≠ a) (hb : f b = some (.inl (1, [.ref w, .int lim, .long nm]))) : m_X2_become F (some a) (some b) f = some (va_up f a (some (.inl (1, [.ref w, .int lim, .long nm])))) := by
  have f1 : ∀ c, va_up f a c b = f b := fun c => up_n hab
  have e1 : pV f (some a) 1 0 (va_rf (some w)) = some (va_up f a (some (.inl (1, [.ref w, .int l0, .long n0])))) := pV_e h (Nat.le_of_ble_eq_true rfl)
  have e2 : pV (va_up f a (some (.inl (1, [.ref w, .int l0, .long n0])))) (some a) 1 1 (.int lim) = some (va_up f a (some (.inl (1, [.ref w, .int lim, .long n0])))) := pV_u (Nat.le_of_ble_eq_true rfl)
  have e3 : pV (va_up f a (some (.inl (1, [.ref w, .int lim, .long n0])))) (some a) 1 2 (.long nm) = some (va_up f a (some (.inl (1, [.ref w, .int lim, .long nm])))) := pV_u (Nat.le_of_ble_eq_true rfl)
  unfold m_X2_become
  rw [bd_e (gR_s hb rfl), bd_e e1, bd_e (gI_e ((f1 _).trans hb) rfl), bd_e e2, bd_e (gJ_e ((f1 _).trans hb) rfl), bd_e e3]
theorem hb_55 (dis : a + 29 ≤ b ∨ b + 29 ≤ a) {sa sb : Nat} {x0 x1 x3 x6 x9 y0 y1 y3 y6 y9 : Int32} {qa qb : Nat → Option Nat} (hqa : ∀ i, i < 6 → qa i = some (a + 23 + i)) (hqb : ∀ i, i < 6 → qb i = some (b + 23 + i)) : ∀ (d i z : Nat) (f : Hp), i + d = 6 → d < z → f a = some (.inl (3, hcI a sa x0 x1 x3 x6 x9)) → f b = some (.inl (3, hcI b sb y0 y1 y3 y6 y9)) → f (a + 2) = rwR 5 6 qa → f (b + 2) = rwR 5 6 qb → (∀ c, c < 6 → dAny f (a + 23 + c)) → (∀ c, c < 6 → dAny f (b + 23 + c)) → ∃ f', m_X4_become_L55 F z (some a) (some b) (nI i) f = m_X4_become_B82 F (some a) (some b) f' ∧ (∀ j, i ≤ j → j < 6 → f' (a + 23 + j) = f (b + 23 + j)) ∧ ∀ x, x < a + 23 + i ∨ a + 29 ≤ x → f' x = f x := by
  intro d
  induction d with
  | zero =>
    intro i z f hi hz ha hb ra rb ca cb
    obtain ⟨z, rfl⟩ : ∃ j, z = j + 1 := ⟨z - 1, by omega⟩
    refine ⟨f, ?_, fun j h1 h2 => by omega, fun _ _ => rfl⟩
    show m_X4_become_b55 F _ _ _ _ _ = _
    unfold m_X4_become_b55
    rw [if_pos (show (6 : Int32) ≤ nI i from nI_le (a := 6) (by omega) (by omega))]
  | succ d ih =>
    intro i z f hi hz ha hb ra rb ca cb
    obtain ⟨z, rfl⟩ : ∃ j, z = j + 1 := ⟨z - 1, by omega⟩
    have i6 : i < 6 := by omega
    obtain ⟨w0, l0, n0, e, -⟩ := ca i i6
    obtain ⟨w, lim, nm, e', hw⟩ := cb i i6
    have fr : ∀ x, x ≠ a + 23 + i → va_up f (a + 23 + i) (some (.inl (1, [.ref w, .int lim, .long nm]))) x = f x := fun x hx => up_n hx
    obtain ⟨f', k1, k2, k3⟩ := ih (i + 1) z _ (by omega) (by omega) ((fr _ (by omega)).trans ha) ((fr _ (by omega)).trans hb) ((fr _ (by omega)).trans ra) ((fr _ (by omega)).trans rb) (fun c hc => by
      by_cases q : c = i
      · subst q; exact ⟨_, _, _, up_s, hw⟩
      · obtain ⟨u0, u1, u2, u, uw⟩ := ca c hc
        exact ⟨_, _, _, (fr _ (by omega)).trans u, uw⟩) (fun c hc => by
      obtain ⟨u0, u1, u2, u, uw⟩ := cb c hc
      exact ⟨_, _, _, (fr _ (by omega)).trans u, uw⟩)
    refine ⟨f', ?_, fun j h1 h2 => ?_, fun x hx => (k3 x (by omega)).trans (fr x (by omega))⟩
    · refine Eq.trans ?_ k1
      show m_X4_become_b55 F _ _ _ _ _ = _
      unfold m_X4_become_b55
      rw [if_neg (show ¬ (6 : Int32) ≤ nI i from nI_ge (b := 6) i6 (by omega)), bd_e (gR_s ha rfl), bd_e (ldR_e ra i6 (by omega)), hqa i i6, bd_e (gR_s hb rfl), bd_e (ldR_e rb i6 (by omega)), hqb i i6, ck_e (isO_e e), bd_e (dbecome_e e (by omega) e'), nm_e2, nI_1]
    · by_cases q : j = i
      · subst q
        exact ((k3 _ (by omega)).trans up_s).trans e'.symm
      · exact (k2 j (by omega) h2).trans (fr _ (by omega))
end BEC
