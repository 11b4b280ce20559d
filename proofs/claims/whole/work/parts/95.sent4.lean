/-! the class reads a SENTENCE: all -/
section SENT4
variable {F : Nat} {B : Nat → Nat} {n R T sT sX : Nat} {h : HS} {f : Hp} {P : SN} {o : Nat} {t : Tok}
theorem CRs.fr {f0 : Hp} {o0 : Nat} {r : Option (Int32 × Hp)} {m : MRs} (c : CRs B n R T sT sX h f P o0 r m) (fr : FrS sX f0 f) : CRs B n R T sT sX h f0 P o0 r m := by
  rcases c with ⟨q, f', c1, c2, c3, c4⟩ | ⟨Q, o', t', f', c1, c2, c3, c4, c5⟩
  · exact Or.inl ⟨q, f', c1, c2, c3, fr.trans c4⟩
  · exact Or.inr ⟨Q, o', t', f', c1, c2, c3, fr.trans c4, c5⟩
theorem sCondition_L (hF : 742 ≤ F) {rg : Nat → Option Nat → Int32 → Int32 → Hp → Option (Int32 × Hp)} {v : Int32} {mf : Nat → Tok → MRs} (hr : ∀ f P o t, CSs B n R T sT sX h f P o t → CRs B n R T sT sX h f P o (rg 1 (some 170) v 0 f) (mf o t)) {P : SN} {o0 : Nat} (lP : P.length ≤ 2 * o0) : ∀ (k v2 z : Nat) (f : Hp) (Q : SN) (o : Nat) (t : Tok), v2 + k = 21 → k < z → CSs B n R T sT sX h f (P ++ Q) o t → v2 + 1 ≤ o → Q.length + 1 + 2 * o0 ≤ 2 * o → 1 ≤ Q.length → okS h Q → CRs B n R T sT sX h f P o0 (m_X8_readCondition_L12 F rg z (some 170) v (nI v2) f) (mLp B n R mf 10 k Q o t) := by
  intro k
  induction k with
  | zero =>
    intro v2 z f Q o t hv hz C ho
    have := C.2.2.2.2.2.2.2
    omega
  | succ k ih =>
    intro v2 z f Q o t hv hz C ho lQ q1 oq
    obtain ⟨z, rfl⟩ : ∃ j, z = j + 1 := ⟨z - 1, by omega⟩
    have o20 := C.2.2.2.2.2.2.2
    have kl := kyF_lt t
    show CRs B n R T sT sX h f P o0 (m_X8_readCondition_b12 F _ _ _ _ _ _) (if kyF t = 10 then _ else _)
    unfold m_X8_readCondition_b12
    rw [if_neg (show ¬ (20 : Int32) ≤ nI v2 from nI_ge (b := 20) (by omega) (by omega)), bd_e C.g0, bd_e C.1.key, ck_e (show (okE (some (kyF t)) && okE (some 10)) = true from by
      show (decide (kyF t < 21) && decide (10 < 21)) = true
      rw [decide_eq_true kl]; rfl)]
    by_cases e : kyF t = 10
    · obtain ⟨kt, -⟩ := (kyF_iff t (by decide)).mp e
      obtain ⟨f1, i1, C1, fr1⟩ := sadv hF C (by omega)
      rw [if_pos (by rw [e]), if_pos e, i1, ck_e C1.io]
      rcases hr f1 _ _ _ C1 with ⟨q, f2, j1, j2, j3, j4⟩ | ⟨Q2, o2, t2, f2, j1, j2, C2, j4, j5, j6, j7⟩
      · rw [j1, bd2_e j2, if_pos rfl, ck_e (by decide)]
        exact Or.inl ⟨q, f2, rfl, rfl, j3, fr1.trans j4⟩
      · have o20' := C2.2.2.2.2.2.2.2
        obtain ⟨f3, i3, C3, fr3⟩ := sputT (F := F) C2 (by rw [List.length_append, List.length_append]; omega) (by rw [List.length_append, List.length_append]; omega) (w := 10) (by decide) 0 0
        rw [j1, bd2_e j2, if_neg (by decide), i3, nm_e2, nI_1]
        have C3 : CSs B n R T sT sX h f3 (P ++ (Q ++ Q2 ++ [e5 10])) o2 t2 := by
          have e : P ++ (Q ++ Q2 ++ [e5 10]) = P ++ Q ++ Q2 ++ [(10, 0, 0, 0, 0)] := by
            simp only [List.append_assoc]
            rfl
          rw [e]; exact C3
        refine CRs.fr ?_ ((fr1.trans j4).trans fr3)
        refine ih (v2 + 1) z f3 (Q ++ Q2 ++ [e5 10]) o2 t2 (by omega) (by omega) C3 (by omega) ?_ ?_ ?_
        · rw [List.length_append, List.length_append]
          show Q.length + Q2.length + 1 + 1 + 2 * o0 ≤ 2 * o2
          omega
        · rw [List.length_append, List.length_append]
          show 1 ≤ Q.length + Q2.length + 1
          omega
        · intro x hx
          rcases List.mem_append.mp hx with hx | hx
          · rcases List.mem_append.mp hx with hx | hx
            · exact oq x hx
            · exact j7 x hx
          · exact okS_1 (okE_e5 (by decide) (by decide) (by decide) (by decide) (by decide) (by decide)) x hx
    · rw [if_neg (fun q => e (Option.some.inj q)), if_neg e, ck_e (by decide)]
      exact Or.inr ⟨Q, o, t, f, rfl, rfl, C, FrS.refl, lQ, q1, oq⟩
theorem sCondition_e (hF : 742 ≤ F) {rg : Nat → Option Nat → Int32 → Int32 → Hp → Option (Int32 × Hp)} {v : Int32} {mf : Nat → Tok → MRs} (hr : ∀ f P o t, CSs B n R T sT sX h f P o t → CRs B n R T sT sX h f P o (rg 1 (some 170) v 0 f) (mf o t)) (C : CSs B n R T sT sX h f P o t) : CRs B n R T sT sX h f P o (b_X8_readCondition F rg (some 170) v f) (mSq B n R mf 10 o t) := by
  unfold b_X8_readCondition mSq
  rw [ck_e C.io]
  rcases hr f _ _ _ C with ⟨q, f2, j1, j2, j3, j4⟩ | ⟨Q2, o2, t2, f2, j1, j2, C2, j4, j5, j6, j7⟩
  · rw [j1, bd2_e j2, if_pos rfl, ck_e (by decide)]
    exact Or.inl ⟨q, f2, rfl, rfl, j3, j4⟩
  · rw [j1, bd2_e j2, if_neg (by decide)]
    exact CRs.fr (sCondition_L hF hr C.2.2.2.2.2.2.1 21 0 F f2 Q2 o2 t2 (by omega) (by omega) C2 (by omega) j5 j6 j7) j4
theorem sAll_L (hF : 742 ≤ F) {rg : Nat → Option Nat → Int32 → Int32 → Hp → Option (Int32 × Hp)} {v : Int32} {mf : Nat → Tok → MRs} (hr : ∀ f P o t, CSs B n R T sT sX h f P o t → CRs B n R T sT sX h f P o (rg 2 (some 170) v 0 f) (mf o t)) {P : SN} {o0 : Nat} (lP : P.length ≤ 2 * o0) : ∀ (k v2 z : Nat) (f : Hp) (Q : SN) (o : Nat) (t : Tok), v2 + k = 21 → k < z → CSs B n R T sT sX h f (P ++ Q) o t → v2 + 1 ≤ o → Q.length + 1 + 2 * o0 ≤ 2 * o → 1 ≤ Q.length → okS h Q → CRs B n R T sT sX h f P o0 (m_X8_readAll_L12 F rg z (some 170) v (nI v2) f) (mLp B n R mf 11 k Q o t) := by
  intro k
  induction k with
  | zero =>
    intro v2 z f Q o t hv hz C ho
    have := C.2.2.2.2.2.2.2
    omega
  | succ k ih =>
    intro v2 z f Q o t hv hz C ho lQ q1 oq
    obtain ⟨z, rfl⟩ : ∃ j, z = j + 1 := ⟨z - 1, by omega⟩
    have o20 := C.2.2.2.2.2.2.2
    have kl := kyF_lt t
    show CRs B n R T sT sX h f P o0 (m_X8_readAll_b12 F _ _ _ _ _ _) (if kyF t = 11 then _ else _)
    unfold m_X8_readAll_b12
    rw [if_neg (show ¬ (20 : Int32) ≤ nI v2 from nI_ge (b := 20) (by omega) (by omega)), bd_e C.g0, bd_e C.1.key, ck_e (show (okE (some (kyF t)) && okE (some 11)) = true from by
      show (decide (kyF t < 21) && decide (11 < 21)) = true
      rw [decide_eq_true kl]; rfl)]
    by_cases e : kyF t = 11
    · obtain ⟨kt, -⟩ := (kyF_iff t (by decide)).mp e
      obtain ⟨f1, i1, C1, fr1⟩ := sadv hF C (by omega)
      rw [if_pos (by rw [e]), if_pos e, i1, ck_e C1.io]
      rcases hr f1 _ _ _ C1 with ⟨q, f2, j1, j2, j3, j4⟩ | ⟨Q2, o2, t2, f2, j1, j2, C2, j4, j5, j6, j7⟩
      · rw [j1, bd2_e j2, if_pos rfl, ck_e (by decide)]
        exact Or.inl ⟨q, f2, rfl, rfl, j3, fr1.trans j4⟩
      · have o20' := C2.2.2.2.2.2.2.2
        obtain ⟨f3, i3, C3, fr3⟩ := sputT (F := F) C2 (by rw [List.length_append, List.length_append]; omega) (by rw [List.length_append, List.length_append]; omega) (w := 11) (by decide) 0 0
        rw [j1, bd2_e j2, if_neg (by decide), i3, nm_e2, nI_1]
        have C3 : CSs B n R T sT sX h f3 (P ++ (Q ++ Q2 ++ [e5 11])) o2 t2 := by
          have e : P ++ (Q ++ Q2 ++ [e5 11]) = P ++ Q ++ Q2 ++ [(11, 0, 0, 0, 0)] := by
            simp only [List.append_assoc]
            rfl
          rw [e]; exact C3
        refine CRs.fr ?_ ((fr1.trans j4).trans fr3)
        refine ih (v2 + 1) z f3 (Q ++ Q2 ++ [e5 11]) o2 t2 (by omega) (by omega) C3 (by omega) ?_ ?_ ?_
        · rw [List.length_append, List.length_append]
          show Q.length + Q2.length + 1 + 1 + 2 * o0 ≤ 2 * o2
          omega
        · rw [List.length_append, List.length_append]
          show 1 ≤ Q.length + Q2.length + 1
          omega
        · intro x hx
          rcases List.mem_append.mp hx with hx | hx
          · rcases List.mem_append.mp hx with hx | hx
            · exact oq x hx
            · exact j7 x hx
          · exact okS_1 (okE_e5 (by decide) (by decide) (by decide) (by decide) (by decide) (by decide)) x hx
    · rw [if_neg (fun q => e (Option.some.inj q)), if_neg e, ck_e (by decide)]
      exact Or.inr ⟨Q, o, t, f, rfl, rfl, C, FrS.refl, lQ, q1, oq⟩
theorem sAll_e (hF : 742 ≤ F) {rg : Nat → Option Nat → Int32 → Int32 → Hp → Option (Int32 × Hp)} {v : Int32} {mf : Nat → Tok → MRs} (hr : ∀ f P o t, CSs B n R T sT sX h f P o t → CRs B n R T sT sX h f P o (rg 2 (some 170) v 0 f) (mf o t)) (C : CSs B n R T sT sX h f P o t) : CRs B n R T sT sX h f P o (b_X8_readAll F rg (some 170) v f) (mSq B n R mf 11 o t) := by
  unfold b_X8_readAll mSq
  rw [ck_e C.io]
  rcases hr f _ _ _ C with ⟨q, f2, j1, j2, j3, j4⟩ | ⟨Q2, o2, t2, f2, j1, j2, C2, j4, j5, j6, j7⟩
  · rw [j1, bd2_e j2, if_pos rfl, ck_e (by decide)]
    exact Or.inl ⟨q, f2, rfl, rfl, j3, j4⟩
  · rw [j1, bd2_e j2, if_neg (by decide)]
    exact CRs.fr (sAll_L hF hr C.2.2.2.2.2.2.1 21 0 F f2 Q2 o2 t2 (by omega) (by omega) C2 (by omega) j5 j6 j7) j4
theorem mOne_s {r : Nat} (st : 12 ≤ kyF t ∨ tK t = 4 ∧ tS t = 40) (o20 : o ≠ 20) : mOne B n R h (r + 1) o t = if kyF t = 12 then
        match mOne B n R h r (o + 1) (nxT B n R t) with
        | .inl q => .inl q
        | .inr q => .inr (q.1 ++ [e5 12], q.2.1, q.2.2) else
      if kyF t = 0 then
        match mCond B n R h r (o + 1) (nxT B n R t) with
        | .inl q => .inl q
        | .inr q => if tK q.2.2 = 4 ∧ tS q.2.2 = 41 then .inr (q.1, q.2.1, nxT B n R q.2.2) else .inl (1, tA q.2.2) else
      mLeaf B n R h (kyF t) (o + 1) (nxT B n R t) := by
  show (if _ then (if _ then _ else _) else _) = _
  rw [if_pos st, if_neg o20]
  rfl
theorem mOne_20 {r : Nat} (st : 12 ≤ kyF t ∨ tK t = 4 ∧ tS t = 40) (e : r = 0 ∨ o = 20) : mOne B n R h r o t = .inl (4, tA t) := by
  cases r with
  | zero =>
    show (if _ then _ else _) = _
    rw [if_pos st]
  | succ r =>
    show (if _ then (if _ then _ else _) else _) = _
    rw [if_pos st, if_pos (e.resolve_left (by omega))]
theorem mOne_n {r : Nat} (st : ¬ (12 ≤ kyF t ∨ tK t = 4 ∧ tS t = 40)) : mOne B n R h r o t = .inl (1, tA t) := by
  cases r with
  | zero =>
    show (if _ then _ else _) = _
    rw [if_neg st]
  | succ r =>
    show (if _ then (if _ then _ else _) else _) = _
    rw [if_neg st]
theorem sB34 (hF : 742 ≤ F) {rg : Nat → Option Nat → Int32 → Int32 → Hp → Option (Int32 × Hp)} {r v : Nat} (hv : v + r = 9) (h2 : ∀ r', r = r' + 1 → ∀ f P o t, CSs B n R T sT sX h f P o t → CRs B n R T sT sX h f P o (rg 2 (some 170) (nI (v + 1)) 0 f) (mOne B n R h r' o t)) (h0 : ∀ r', r = r' + 1 → ∀ f P o t, CSs B n R T sT sX h f P o t → CRs B n R T sT sX h f P o (rg 0 (some 170) (nI (v + 1)) 0 f) (mCond B n R h r' o t)) (C : CSs B n R T sT sX h f P o t) (st : 12 ≤ kyF t ∨ tK t = 4 ∧ tS t = 40) : CRs B n R T sT sX h f P o (m_X8_readOne_B34 F rg (some 170) (nI v) f) (mOne B n R h r o t) := by
  have o20 := C.2.2.2.2.2.2.2
  have lP := C.2.2.2.2.2.2.1
  have kl := kyF_lt t
  unfold m_X8_readOne_B34
  rw [bd_e C.g3]
  by_cases e20 : o = 20
  · rw [if_pos (show (20 : Int32) ≤ nI o from nI_le (a := 20) (by omega) (by omega)), mOne_20 st (Or.inr e20)]
    obtain ⟨f1, i1, i2, i3⟩ := sbad (F := F) C (k := 4) (by decide) (by decide) rfl
    exact Or.inl ⟨_, f1, rfl, i1, i2, i3⟩
  rw [if_neg (show ¬ (20 : Int32) ≤ nI o from nI_ge (b := 20) (by omega) (by omega))]
  cases r with
  | zero =>
    rw [if_neg (show ¬ nI v ≤ (8 : Int32) from nI_ge (a := 8) (by omega) (by omega)), mOne_20 st (Or.inl rfl)]
    obtain ⟨f1, i1, i2, i3⟩ := sbad (F := F) C (k := 4) (by decide) (by decide) rfl
    exact Or.inl ⟨_, f1, rfl, i1, i2, i3⟩
  | succ r =>
    have C0 := C
    obtain ⟨c1, ⟨c2, ok⟩, c3, c4, d1, d2, d3, d4⟩ := C
    have p1 : pV f (some 170) 7 3 (.int (nI (o + 1))) = some (va_up f 170 (some (.inl (7, [.ref 168, .ref sX, .ref T, .int (nI (o + 1))])))) := pV_e c3 (Nat.le_of_ble_eq_true rfl)
    generalize hf1 : va_up f 170 (some (.inl (7, [.ref 168, .ref sX, .ref T, .int (nI (o + 1))]))) = f1 at p1
    have fr1 : ∀ x, x ≠ 170 → f1 x = f x := fun x hx => by rw [← hf1]; exact up_n hx
    have C1 : CSs B n R T sT sX h f1 P (o + 1) t := by
      obtain ⟨⟨c11, c12⟩, ⟨⟨nx, code, sg, w, c13⟩, c14⟩, c15⟩ := c1
      exact ⟨⟨⟨c11.frame (fun a ha => fr1 a (by omega)), c12.frame (fr1 _ (by decide))⟩, ⟨⟨nx, code, sg, w, (fr1 _ (by decide)).trans c13.1, c13.2⟩, c14⟩, c15⟩, ⟨c2.frame (fun a _ _ _ => fr1 a (by omega)) ok, ok⟩, by rw [← hf1]; exact up_s, c4.frame (fun a _ _ => fr1 a (by omega)), d1, d2, by omega, by omega⟩
    have kt : 2 ≤ tK t := by
      rcases st with q | q
      · have := ((kyF_iff t (k := kyF t) (by omega)).mp rfl).1
        omega
      · omega
    obtain ⟨f2, i2, C2, fr2⟩ := sadv hF C1 kt
    have F2 : FrS sX f f2 := FrS.trans (f' := f1) (fun a _ a2 _ => fr1 a a2) fr2
    have e1 : enI (some (kyF t)) = some (kyF t) := if_pos kl
    rw [if_pos (show nI v ≤ (8 : Int32) from nI_le (b := 8) (by omega) (by omega)), bd_e C0.g3, nI_1, bd_e p1, bd_e C1.g0, bd_e C1.1.key, i2, bd_e e1, bd_e (ldI_e C2.1.1.1.swm (j := kyF t) (by omega) (by omega)), mOne_s st e20, nI_1]
    have h2 := h2 r rfl
    have h0 := h0 r rfl
    have kc : kyF t = 0 ∨ 12 ≤ kyF t := by
      rcases st with q | q
      · exact Or.inr q
      · left
        unfold kyF
        rw [if_neg (by omega)]
    generalize kyF t = k at *
    by_cases k12 : k = 12
    · subst k12
      rw [if_pos (by decide), if_pos rfl, ck_e C2.io]
      rcases h2 f2 _ _ _ C2 with ⟨q, f3, j1, j2, j3, j4⟩ | ⟨Q, o3, t3, f3, j1, j2, C3, j4, j5, j6, j7⟩
      · rw [j1, bd2_e j2, if_pos rfl, ck_e (by decide)]
        exact Or.inl ⟨q, f3, rfl, rfl, j3, F2.trans j4⟩
      · have o20' := C3.2.2.2.2.2.2.2
        obtain ⟨f4, i4, C4, fr4⟩ := sputT (F := F) C3 (by rw [List.length_append]; omega) (by rw [List.length_append]; omega) (w := 12) (by decide) 0 0
        rw [j1, bd2_e j2, if_neg (by decide), i4, ck_e (by decide)]
        refine Or.inr ⟨Q ++ [e5 12], o3, t3, f4, rfl, rfl, ?_, (F2.trans j4).trans fr4, ?_, ?_, ?_⟩
        · rw [← List.append_assoc]; exact C4
        · rw [List.length_append]
          show Q.length + 1 + 1 + 2 * o ≤ 2 * o3
          omega
        · rw [List.length_append]
          show 1 ≤ Q.length + 1
          omega
        · intro x hx
          rcases List.mem_append.mp hx with hx | hx
          · exact j7 x hx
          · exact okS_1 (okE_e5 (by decide) (by decide) (by decide) (by decide) (by decide) (by decide)) x hx
    rw [if_neg k12]
    by_cases k0 : k = 0
    · subst k0
      rw [if_neg (by decide), if_neg (by decide), if_neg (by decide), if_neg (by decide), if_neg (by decide), if_neg (by decide), if_neg (by decide), if_neg (by decide), if_neg (by decide), if_neg (by decide), if_neg (by decide), if_pos rfl, ck_e C2.io]
      rcases h0 f2 _ _ _ C2 with ⟨q, f3, j1, j2, j3, j4⟩ | ⟨Q, o3, t3, f3, j1, j2, C3, j4, j5, j6, j7⟩
      · rw [j1, bd2_e j2, if_pos rfl, ck_e (by decide)]
        exact Or.inl ⟨q, f3, rfl, rfl, j3, F2.trans j4⟩
      · rw [j1, bd2_e j2, if_neg (by decide), bd_e C3.g0, ck_e C3.1.isK]
        show CRs B n R T sT sX h f P o _ (if tK t3 = 4 ∧ tS t3 = 41 then .inr (Q, o3, nxT B n R t3) else .inl (1, tA t3))
        rcases tsign hF C3.1 (c := 41) (K := 41) (by decide) (by decide) rfl with ⟨k1, k2, f4, k3, k4, k5⟩ | ⟨k1, f4, k3, k4, k5⟩
        · rw [if_pos (show tK t3 = 4 ∧ tS t3 = 41 from ⟨k1, k2⟩), bd2_e k3, if_neg (by decide), ck_e (by decide)]
          exact Or.inr ⟨Q, o3, _, f4, rfl, rfl, C3.tk k5 k4, (F2.trans j4).trans (FrS.of k5), by omega, j6, j7⟩
        · rw [if_neg k1, bd2_e k3, if_pos rfl, ck_e (by decide)]
          exact Or.inl ⟨_, f4, rfl, rfl, C3.cf k5 k4, (F2.trans j4).trans (FrS.of k5)⟩
    rw [if_neg k0]
    have k13 : 13 ≤ k := by omega
    unfold mLeaf
    by_cases e13 : k = 13
    · subst e13
      rw [if_neg (by decide), if_neg (by decide), if_neg (by decide), if_pos (by decide), if_pos (show 13 = 13 ∨ 13 = 14 from Or.inl rfl)]
      obtain ⟨f4, i4, C4, fr4⟩ := sputT (F := F) C2 (by omega) (by omega) (w := 13) (by decide) 0 0
      rw [i4, ck_e (by decide)]
      exact Or.inr ⟨_, _, _, f4, rfl, rfl, C4, F2.trans fr4, by show 1 + 1 + 2 * o ≤ 2 * (o + 1); omega, Nat.le_refl _, okS_1 (okE_e5 (by decide) (by decide) (by decide) (by decide) (by decide) (by decide))⟩
    by_cases e14 : k = 14
    · subst e14
      rw [if_neg (by decide), if_neg (by decide), if_neg (by decide), if_neg (by decide), if_pos (by decide), if_pos (show 14 = 13 ∨ 14 = 14 from Or.inr rfl)]
      obtain ⟨f4, i4, C4, fr4⟩ := sputT (F := F) C2 (by omega) (by omega) (w := 14) (by decide) 0 0
      rw [i4, ck_e (by decide)]
      exact Or.inr ⟨_, _, _, f4, rfl, rfl, C4, F2.trans fr4, by show 1 + 1 + 2 * o ≤ 2 * (o + 1); omega, Nat.le_refl _, okS_1 (okE_e5 (by decide) (by decide) (by decide) (by decide) (by decide) (by decide))⟩
    rw [if_neg (show ¬ (k = 13 ∨ k = 14) by omega)]
    by_cases e15 : k = 15
    · subst e15
      rw [if_neg (by decide), if_neg (by decide), if_neg (by decide), if_neg (by decide), if_neg (by decide), if_pos (by decide), if_pos rfl, ck_e C2.io]
      exact (shas hF rfl F2 C2 d3).pass.1
    rw [if_neg e15]
    by_cases e16 : k = 16
    · subst e16
      rw [if_neg (by decide), if_neg (by decide), if_neg (by decide), if_neg (by decide), if_neg (by decide), if_neg (by decide), if_pos (by decide), if_pos rfl, ck_e C2.io]
      exact (sahead hF rfl F2 C2 d3).pass.1
    rw [if_neg e16]
    by_cases e17 : k = 17
    · subst e17
      rw [if_neg (by decide), if_neg (by decide), if_neg (by decide), if_neg (by decide), if_neg (by decide), if_neg (by decide), if_neg (by decide), if_pos (by decide), if_pos (show 17 = 17 ∨ 17 = 18 from Or.inl rfl), ck_e C2.io]
      exact sfar hF rfl F2 C2 d3 (k := 17) (Or.inl rfl)
    by_cases e18 : k = 18
    · subst e18
      rw [if_neg (by decide), if_neg (by decide), if_neg (by decide), if_neg (by decide), if_neg (by decide), if_neg (by decide), if_neg (by decide), if_neg (by decide), if_pos (by decide), if_pos (show 18 = 17 ∨ 18 = 18 from Or.inr rfl), ck_e C2.io]
      exact sfar hF rfl F2 C2 d3 (k := 18) (Or.inr rfl)
    rw [if_neg (show ¬ (k = 17 ∨ k = 18) by omega)]
    have okm : ∀ s v, okE5 h (k, (-1 : Int32), 0, s, v) := fun s v => ⟨⟨show 10 ≤ k by omega, show k ≤ 20 by omega⟩, fun e => absurd e (show ¬ k = 15 by omega), fun e => absurd e (show ¬ k = 16 by omega), fun e => absurd e (show ¬ (k = 17 ∨ k = 18) by omega)⟩
    have ms := (smeas hF rfl F2 C2 d3 (k := k) (a := -1) (by omega) okm).pass.1
    by_cases e19 : k = 19
    · subst e19
      rw [if_neg (by decide), if_neg (by decide), if_neg (by decide), if_neg (by decide), if_neg (by decide), if_neg (by decide), if_neg (by decide), if_neg (by decide), if_neg (by decide), if_pos (by decide), ck_e C2.io]
      exact ms
    · have e20 : k = 20 := by omega
      subst e20
      rw [if_neg (by decide), if_neg (by decide), if_neg (by decide), if_neg (by decide), if_neg (by decide), if_neg (by decide), if_neg (by decide), if_neg (by decide), if_neg (by decide), if_neg (by decide), if_pos (by decide), ck_e C2.io]
      exact ms
theorem sone (hF : 742 ≤ F) {rg : Nat → Option Nat → Int32 → Int32 → Hp → Option (Int32 × Hp)} {r v : Nat} (hv : v + r = 9) (h2 : ∀ r', r = r' + 1 → ∀ f P o t, CSs B n R T sT sX h f P o t → CRs B n R T sT sX h f P o (rg 2 (some 170) (nI (v + 1)) 0 f) (mOne B n R h r' o t)) (h0 : ∀ r', r = r' + 1 → ∀ f P o t, CSs B n R T sT sX h f P o t → CRs B n R T sT sX h f P o (rg 0 (some 170) (nI (v + 1)) 0 f) (mCond B n R h r' o t)) (C : CSs B n R T sT sX h f P o t) : CRs B n R T sT sX h f P o (b_X8_readOne F rg (some 170) (nI v) f) (mOne B n R h r o t) := by
  have kl := kyF_lt t
  have e1 : enI (some (kyF t)) = some (kyF t) := if_pos kl
  unfold b_X8_readOne
  rw [bd_e C.g0, bd_e C.1.key, bd_e e1]
  by_cases k12 : 12 ≤ kyF t
  · rw [if_neg (show ¬ wordS (kyF t) = 0 by unfold wordS; rw [if_pos k12]; decide)]
    exact sB34 hF hv h2 h0 C (Or.inl k12)
  · rw [if_pos (show wordS (kyF t) = 0 by unfold wordS; rw [if_neg k12]), bd_e C.g0, bd_e C.1.sign]
    by_cases s4 : tK t = 4 ∧ tS t = 40
    · rw [if_pos s4.1, s4.2, if_pos (by decide)]
      exact sB34 hF hv h2 h0 C (Or.inr s4)
    · rw [if_neg (show ¬ (if tK t = 4 then nI (tS t) else 0) = (40 : Int32) from fun e => by
        by_cases k : tK t = 4
        · have := C.1.s7 k
          rw [if_pos k] at e
          exact s4 ⟨k, (nI_eq (b := 40) (by omega) (by omega)).mp e⟩
        · rw [if_neg k] at e
          exact absurd e (by decide)), mOne_n (by omega)]
      obtain ⟨f1, i1, i2, i3⟩ := sbad (F := F) C (k := 1) (by decide) (by decide) rfl
      exact Or.inl ⟨_, f1, rfl, i1, i2, i3⟩
theorem s_all (hF : 742 ≤ F) : ∀ (r v d : Nat), v + r = 9 → 3 * r + 1 ≤ d → ∀ f P o t, CSs B n R T sT sX h f P o t → CRs B n R T sT sX h f P o (mg_0 F d 2 (some 170) (nI v) 0 f) (mOne B n R h r o t) := by
  intro r
  induction r with
  | zero =>
    intro v d hv hd f P o t C
    obtain ⟨d, rfl⟩ : ∃ j, d = j + 1 := ⟨d - 1, by omega⟩
    show CRs B n R T sT sX h f P o (b_X8_readOne F (mg_0 F d) (some 170) (nI v) f) _
    exact sone hF hv (fun r' e => absurd e (by omega)) (fun r' e => absurd e (by omega)) C
  | succ r ih =>
    intro v d hv hd f P o t C
    obtain ⟨d, rfl⟩ : ∃ j, d = j + 3 := ⟨d - 3, by omega⟩
    show CRs B n R T sT sX h f P o (b_X8_readOne F (mg_0 F (d + 2)) (some 170) (nI v) f) _
    have one : ∀ d, 3 * r + 1 ≤ d → ∀ f P o t, CSs B n R T sT sX h f P o t → CRs B n R T sT sX h f P o (mg_0 F d 2 (some 170) (nI (v + 1)) 0 f) (mOne B n R h r o t) := fun d hd => ih (v + 1) d (by omega) hd
    refine sone hF hv (fun r' e => ?_) (fun r' e => ?_) C
    · cases e
      exact one _ (by omega)
    · cases e
      intro f P o t C
      show CRs B n R T sT sX h f P o (b_X8_readCondition F (mg_0 F (d + 1)) (some 170) (nI (v + 1)) f) _
      refine sCondition_e hF (fun f P o t C => ?_) C
      show CRs B n R T sT sX h f P o (b_X8_readAll F (mg_0 F d) (some 170) (nI (v + 1)) f) _
      exact sAll_e hF (one d (by omega)) C
theorem s_top (hF : 742 ≤ F) (C : CSs B n R T sT sX h f P o t) : CRs B n R T sT sX h f P o (m_X8_readCondition F 60 (some 170) 1 f) (mCond B n R h 8 o t) := by
  show CRs B n R T sT sX h f P o (b_X8_readCondition F (mg_0 F 59) (some 170) 1 f) _
  refine sCondition_e hF (fun f P o t C => ?_) C
  show CRs B n R T sT sX h f P o (b_X8_readAll F (mg_0 F 58) (some 170) 1 f) _
  exact sAll_e hF (s_all hF 8 1 58 (by decide) (by decide)) C
end SENT4
