/-! the call 'sentence' -/
variable {sk : Nat}
theorem HAt.s {f f' : Hp} {b s s' : Nat} {h : HS} (H : HAt f b s h) (ok : okH h) (fr : ∀ a, b < a → a < b + 29 → (a < b + 7 ∨ b + 13 ≤ a) → f' a = f a) (e : f' b = some (.inl (3, hcell b s' (hN h) (hC h).length (hD h).length (hS h).length (hR h).length))) : HAt f' b s' h := by
  obtain ⟨h0, ⟨q1, a1, b1⟩, ⟨q2, a2, b2⟩, ⟨q3, a3, b3⟩, ⟨q4, a4, b4⟩, ⟨q5, a5, b5⟩, ⟨q6, a6, b6⟩, h7, h8, h9, h10⟩ := H
  have l10 := ok.2.1
  have l6 := ok.2.2.2.1
  refine ⟨e, ⟨q1, ?_, b1⟩, ⟨q2, ?_, b2⟩, ⟨q3, ?_, b3⟩, ⟨q4, ?_, b4⟩, ⟨q5, ?_, b5⟩, ⟨q6, ?_, b6⟩, fun i hi => ?_, fun i i1 i2 => ?_, fun d hd => ?_, fun d i1 i2 => ?_⟩
  · rw [fr _ (by omega) (by omega) (by omega)]; exact a1
  · rw [fr _ (by omega) (by omega) (by omega)]; exact a2
  · rw [fr _ (by omega) (by omega) (by omega)]; exact a3
  · rw [fr _ (by omega) (by omega) (by omega)]; exact a4
  · rw [fr _ (by omega) (by omega) (by omega)]; exact a5
  · rw [fr _ (by omega) (by omega) (by omega)]; exact a6
  · rw [fr _ (by omega) (by omega) (by omega)]; exact h7 i hi
  · obtain ⟨n0, i1', i2', i3, i4, i5, q⟩ := h8 i i1 i2
    exact ⟨n0, i1', i2', i3, i4, i5, by rw [fr _ (by omega) (by omega) (by omega)]; exact q⟩
  · exact (h9 d hd).frame (fr _ (by omega) (by omega) (by omega))
  · obtain ⟨w, lim, nm, q, hw⟩ := h10 d i1 i2
    exact ⟨w, lim, nm, by rw [fr _ (by omega) (by omega) (by omega)]; exact q, hw⟩
theorem csent_e {F : Nat} {f : Hp} {n z : Nat} {m : MS} (hF : 742 ≤ F) (C : CI sk f n z m) : ∃ v f' m', m_X11_sentence F (some 100) f = some (v, f') ∧ (∀ a, 179 ≤ a → a < 204 → f' a = f a) ∧ CI sk f' n z m' ∧ okH (mH m) ∧ ((∃ q, mSent (mB m) (mT m) 200 (mH m) = .inl q ∧ v = -1 - nI q.2 ∧ m' = (mB m, 0, mH m, mP m, q.1, mL m, mM m, mS m, mI m)) ∨ ∃ Q o t, mSent (mB m) (mT m) 200 (mH m) = .inr (Q, o, t) ∧ v = nI o ∧ m' = (mB m, 0, mH m, Q, 0, mL m, mM m, mS m, mI m)) := by
  obtain ⟨f1, e1, C1, fr1⟩ := take_e (F := F) C
  obtain ⟨_, _, _, _, _, _, _, -, K0, ⟨-, t7, -⟩, -⟩ := C
  obtain ⟨T, D, sT, sD, sX, tq, iq, X⟩ := C1.x
  obtain ⟨S, K, ⟨tp, t70, fl⟩, ⟨H, ok, sA, os, ⟨hd, HD, okD⟩, ⟨PD, sDA⟩, ⟨PX, sXA⟩, td0, ss⟩, Z, ⟨⟨i1, i2, i3, i4, i5, j6, w, i8, i9, i10, i11, w21, k1⟩, ⟨v1, v2, v3, v4, v5, k2⟩, ⟨u1, u2, u3, k3⟩⟩, M, Mr⟩ := X
  have ss' := ss
  unfold SS at ss'
  have td' := td0
  unfold TD at td'
  have tp : TP f1 (mB m) := tp
  have H : HAt f1 T sT (mH m) := H
  have ok : okH (mH m) := ok
  have sA : SAt f1 sT (mP m) := sA
  obtain ⟨f2, e2, T2, fr2⟩ := copen_e (F := F) hF S tp t7 (R := 200) (K := 200) (by decide) rfl k1
  have K2 : KAt f2 T D sX (nI 0) (nI (mF m)) (mL m) := KAt.frame K (fr2 _ (by decide))
  have k3' := (fr2 170 (by decide)).trans k3
  have p3 : pV f2 (some 170) 7 1 (va_rf (some sX)) = some (va_up f2 170 (some (.inl (7, [.ref 168, .ref sX, u2, .int u3])))) := pV_e k3' (Nat.le_of_ble_eq_true rfl)
  generalize hf3 : va_up f2 170 (some (.inl (7, [.ref 168, .ref sX, u2, .int u3]))) = f3 at p3
  have fr3 : ∀ x, x ≠ 170 → f3 x = f2 x := fun x hx => by rw [← hf3]; exact up_n hx
  have c3 : f3 170 = some (.inl (7, [.ref 168, .ref sX, u2, .int u3])) := by rw [← hf3]; exact up_s
  have SX3 : SAt f3 sX PX := sXA.frame (fun a _ _ => (fr3 a (by omega)).trans (fr2 a (by omega)))
  obtain ⟨-, t0, ⟨q1, a1, -, b1⟩, ⟨q2, a2, -⟩, ⟨q3, a3, -⟩, ⟨q4, a4, -⟩, ⟨q5, a5, -⟩⟩ := SX3
  have p4 : pV f3 (some sX) 6 0 (.int 0) = some (va_up f3 sX (some (.inl (6, scI sX 0)))) := pV_e t0 (Nat.le_of_ble_eq_true rfl)
  generalize hf4 : va_up f3 sX (some (.inl (6, scI sX 0))) = f4 at p4
  have fr4 : ∀ x, x ≠ sX → f4 x = f3 x := fun x hx => by rw [← hf4]; exact up_n hx
  have S4 : SAt f4 sX [] := ⟨by decide, by rw [← hf4]; exact up_s, ⟨q1, (fr4 _ (by omega)).trans a1, fun i hi => absurd hi (Nat.not_lt_zero _), b1⟩, ⟨q2, (fr4 _ (by omega)).trans a2, fun i hi => absurd hi (Nat.not_lt_zero _)⟩, ⟨q3, (fr4 _ (by omega)).trans a3, fun i hi => absurd hi (Nat.not_lt_zero _)⟩, ⟨q4, (fr4 _ (by omega)).trans a4, fun i hi => absurd hi (Nat.not_lt_zero _)⟩, ⟨q5, (fr4 _ (by omega)).trans a5, fun i hi => absurd hi (Nat.not_lt_zero _)⟩⟩
  have c4 := (fr4 170 (by omega)).trans c3
  have p5 : pV f4 (some 170) 7 2 (va_rf (some T)) = some (va_up f4 170 (some (.inl (7, [.ref 168, .ref sX, .ref T, .int u3])))) := pV_e c4 (Nat.le_of_ble_eq_true rfl)
  have p6 : pV (va_up f4 170 (some (.inl (7, [.ref 168, .ref sX, .ref T, .int u3])))) (some 170) 7 3 (.int 0) = some (va_up f4 170 (some (.inl (7, [.ref 168, .ref sX, .ref T, .int 0])))) := pV_u (Nat.le_of_ble_eq_true rfl)
  generalize hf6 : va_up f4 170 (some (.inl (7, [.ref 168, .ref sX, .ref T, .int 0]))) = f6 at p6
  have fr6 : ∀ x, x ≠ 170 → f6 x = f4 x := fun x hx => by rw [← hf6]; exact up_n hx
  have c6 : f6 170 = some (.inl (7, [.ref 168, .ref sX, .ref T, .int (nI 0)])) := by rw [← hf6]; exact up_s
  have g6 : ∀ x, x ≠ 168 → x ≠ 170 → x ≠ sX → f6 x = f1 x := fun x h1 h2 h3 => (fr6 x h2).trans ((fr4 x h3).trans ((fr3 x h2).trans (fr2 x h1)))
  have h168 : f6 168 = f2 168 := (fr6 168 (by decide)).trans ((fr4 168 (by omega)).trans (fr3 168 (by decide)))
  have C6 : CSs (mB m) (mT m) 200 T sT sX (mH m) f6 [] 0 (tokF (mB m) (mT m) 200 0) := by
    obtain ⟨nx, code, sg, v, T2a, T2b⟩ := T2
    exact ⟨⟨⟨S.frame (fun a ha => g6 a (by omega) (by omega) (by omega)), tp.frame (g6 _ (by decide) (by decide) (by omega))⟩, ⟨⟨nx, code, sg, v, h168.trans T2a, T2b⟩, 0, Nat.zero_le _, rfl⟩, t7, by decide⟩, ⟨H.frame (fun a _ _ _ => g6 a (by omega) (by omega) (by omega)) ok, ok⟩, c6, S4.frame (fun a _ _ => fr6 a (by omega)), by omega, by omega, Nat.le_refl _, by decide⟩
  have rd : ∀ y f9, m_X8_readCondition F 60 (some 170) 1 f6 = some (y, f9) → m_X11_sentence F (some 100) f = bd2 (if y = 0 then some ((-1 : Int32), f9) else ((gR f9 (some 170) 7 0).bind fun x11 => (gI f9 x11 8 5).bind fun x12 => if x12 = 0 then ((gI f9 (some 170) 7 3).bind fun x14 => some (x14, f9)) else ((gR f9 (some 170) 7 0).bind fun x15 => chk (isO f9 x15 8) <| bd2 (m_X9_fail F x15 (1 : Int32) f9) fun x17 f18 => some ((-1 : Int32), f18)))) fun x11 f12 => (gR f12 (some 100) 9 7).bind fun x13 => (gI f12 x13 8 10).bind fun x14 => (pV f12 (some 100) 9 12 (.int x14)).bind fun f15 => (gI f15 (some 100) 9 12).bind fun x16 => if x16 = 0 then ((gR f15 (some 100) 9 2).bind fun x18 => (gR f15 x18 3 11).bind fun x19 => (gR f15 (some 100) 9 2).bind fun x20 => (gR f15 (some 100) 9 4).bind fun x21 => (pV f15 x20 3 11 (va_rf x21)).bind fun f22 => (pV f22 (some 100) 9 4 (va_rf x19)).bind fun f23 => some (x11, f23)) else ((gR f15 (some 100) 9 7).bind fun x24 => (gI f15 x24 8 11).bind fun x25 => some (((-1 : Int32) - x25), f15)) := by
    intro y f9 ho
    unfold m_X11_sentence
    rw [bd_e (gR_s K0 rfl), ck_e (isO_e K0), bd2_e e1, ck_e (isO_e k1), bd_e (show m_X9_open F (some 168) (nI (mT m)) (200 : Int32) f1 = some f2 from e2), bd_e (gR_s K2 rfl), bd_e (gR_s K2 rfl), bd_e (gR_s K2 rfl), ck_e (isO_e k3')]
    unfold m_X8_read
    rw [bd_e p3, bd_e (gR_s c3 rfl), ck_e (isO_e t0)]
    unfold m_X7_clear
    rw [bd_e p4, bd_some, bd_e p5, bd_e p6, ck_e (isO_e c6), bd2_e ho]
  -- a fault
  have flt : ∀ q f9, CFs (mT m) 200 sX f9 q → FrS sX f6 f9 → m_X11_sentence F (some 100) f = bd2 (some ((-1 : Int32), f9)) (fun x11 f12 => (gR f12 (some 100) 9 7).bind fun x13 => (gI f12 x13 8 10).bind fun x14 => (pV f12 (some 100) 9 12 (.int x14)).bind fun f15 => (gI f15 (some 100) 9 12).bind fun x16 => if x16 = 0 then ((gR f15 (some 100) 9 2).bind fun x18 => (gR f15 x18 3 11).bind fun x19 => (gR f15 (some 100) 9 2).bind fun x20 => (gR f15 (some 100) 9 4).bind fun x21 => (pV f15 x20 3 11 (va_rf x21)).bind fun f22 => (pV f22 (some 100) 9 4 (va_rf x19)).bind fun f23 => some (x11, f23)) else ((gR f15 (some 100) 9 7).bind fun x24 => (gI f15 x24 8 11).bind fun x25 => some (((-1 : Int32) - x25), f15))) → mSent (mB m) (mT m) 200 (mH m) = .inl q → ∃ v f' m', m_X11_sentence F (some 100) f = some (v, f') ∧ (∀ a, 179 ≤ a → a < 204 → f' a = f a) ∧ CI sk f' n z m' ∧ okH (mH m) ∧ ((∃ q, mSent (mB m) (mT m) 200 (mH m) = .inl q ∧ v = -1 - nI q.2 ∧ m' = (mB m, 0, mH m, mP m, q.1, mL m, mM m, mS m, mI m)) ∨ ∃ Q o t, mSent (mB m) (mT m) 200 (mH m) = .inr (Q, o, t) ∧ v = nI o ∧ m' = (mB m, 0, mH m, Q, 0, mL m, mM m, mS m, mI m)) := by
    intro q f9 cf fr9 e7 ms
    obtain ⟨⟨⟨a, nx, k0, code, kw, sg, v, u168, kw21⟩, kq1, kq4⟩, ⟨P9, S9⟩, y1, y2, y3, u170⟩ := cf
    have g9 : ∀ x, x ≠ 168 → x ≠ 170 → (x < sX ∨ sX + 6 ≤ x) → f9 x = f1 x := fun x h1 h2 h3 => (fr9 x h1 h2 h3).trans (g6 x h1 h2 (by omega))
    have K9 : KAt f9 T D sX (nI 0) (nI (mF m)) (mL m) := KAt.frame K (g9 _ (by decide) (by decide) (by omega))
    have p8 : pV f9 (some 100) 9 12 (.int (nI q.1)) = some (va_up f9 100 (some (.inl (9, kC T D sX (nI 0) (nI q.1) (mL m))))) := pV_e K9 (Nat.le_of_ble_eq_true rfl)
    rw [bd2_e rfl, bd_e (gR_s K9 rfl), bd_e (gI_e u168 rfl), bd_e p8, bd_e (gI_e up_s rfl), if_neg (nI_ne0 (by omega) (by omega)), bd_e (gR_s up_s rfl), bd_e (gI_e ((up_n (by decide)).trans u168) rfl)] at e7
    have g8 : ∀ c x, x ≠ 100 → x ≠ 168 → x ≠ 170 → (x < sX ∨ sX + 6 ≤ x) → va_up f9 100 c x = f1 x := fun c x h0 h1 h2 h3 => (up_n h0).trans (g9 x h1 h2 h3)
    refine ⟨_, _, (mB m, 0, mH m, mP m, q.1, mL m, mM m, mS m, mI m), e7, fun a h1 _ => ?_, ⟨T, D, sT, sD, sX, tq, iq, S.frame (fun a ha => g8 _ a (by omega) (by omega) (by omega) (by omega)), up_s, ⟨tp.frame (g8 _ _ (by omega) (by omega) (by omega) (by omega)), Nat.zero_le _, kq4⟩, ⟨H.frame (fun a _ _ _ => g8 _ a (by omega) (by omega) (by omega) (by omega)) ok, ok, sA.frame (fun a _ _ => g8 _ a (by omega) (by omega) (by omega) (by omega)), os, ⟨hd, HD.frame (fun a _ _ _ => g8 _ a (by omega) (by omega) (by omega) (by omega)) okD, okD⟩, ⟨PD, sDA.frame (fun a _ _ => g8 _ a (by omega) (by omega) (by omega) (by omega))⟩, ⟨P9, S9.frame (fun a _ _ => up_n (by omega))⟩, td0, ss⟩, Z.frame (g8 _ _ (by omega) (by omega) (by omega) (by omega)) (g8 _ _ (by omega) (by omega) (by omega) (by omega)) (fun a _ => g8 _ a (by omega) (by omega) (by omega) (by omega)), ⟨⟨_, _, _, _, _, _, kw, _, _, _, _, kw21, (up_n (by decide)).trans u168⟩, ⟨_, _, _, _, _, (g8 _ _ (by omega) (by omega) (by omega) (by omega)).trans k2⟩, ⟨_, _, _, (up_n (by decide)).trans u170⟩⟩, M.frame (fun a _ _ => g8 _ a (by omega) (by omega) (by omega) (by omega)), Mr.frame (g8 _ _ (by omega) (by omega) (by omega) (by omega))⟩, ok, Or.inl ⟨q, ms, rfl, rfl⟩⟩
    exact (g8 _ a (by omega) (by omega) (by omega) (by omega)).trans (fr1 a (by omega))
  have mt : mSent (mB m) (mT m) 200 (mH m) = match mCond (mB m) (mT m) 200 (mH m) 8 0 (tokF (mB m) (mT m) 200 0) with
      | .inl q => .inl q
      | .inr q => if tK q.2.2 = 0 then .inr q else .inl (1, tA q.2.2) := rfl
  rcases s_top (F := F) hF C6 with ⟨q, f9, r1, r2, r3, r4⟩ | ⟨Q, o, t, f9, r1, r2, C9, r4, r5, r6, r7⟩
  · have e7 := rd _ _ r2
    rw [if_pos rfl] at e7
    rw [r1] at mt
    exact flt q f9 r3 r4 e7 mt
  · have e7 := rd _ _ r2
    have t4 := C9.1.k4
    have C9 : CSs (mB m) (mT m) 200 T sT sX (mH m) f9 Q o t := C9
    have mt : mSent (mB m) (mT m) 200 (mH m) = if tK t = 0 then .inr (Q, o, t) else .inl (1, tA t) := by rw [mt, r1]
    rw [if_neg (by decide), bd_e C9.g0, bd_e C9.1.kind] at e7
    by_cases k0 : tK t = 0
    · rw [if_pos k0] at mt
      rw [if_pos (show nI (tK t) = 0 by rw [k0]; rfl), bd_e C9.g3] at e7
      obtain ⟨nx, code, sg, v, u168, -⟩ := C9.1.2.1.1
      have kw21 : (if tK t = 2 then kwF (tL t) else 0) < 21 := kyF_lt t
      have u170 := C9.2.2.1
      obtain ⟨H9, -⟩ := C9.2.1
      have S9 := C9.2.2.2.1
      have g9 : ∀ x, x ≠ 168 → x ≠ 170 → (x < sX ∨ sX + 6 ≤ x) → f9 x = f1 x := fun x h1 h2 h3 => (r4 x h1 h2 h3).trans (g6 x h1 h2 (by omega))
      have K9 : KAt f9 T D sX (nI 0) (nI (mF m)) (mL m) := KAt.frame K (g9 _ (by decide) (by decide) (by omega))
      have p8 : pV f9 (some 100) 9 12 (.int 0) = some (va_up f9 100 (some (.inl (9, kC T D sX (nI 0) (nI 0) (mL m))))) := pV_e K9 (Nat.le_of_ble_eq_true rfl)
      generalize hf8 : va_up f9 100 (some (.inl (9, kC T D sX (nI 0) (nI 0) (mL m)))) = f8 at p8
      have fr8 : ∀ x, x ≠ 100 → f8 x = f9 x := fun x hx => by rw [← hf8]; exact up_n hx
      have c8 : f8 100 = some (.inl (9, kC T D sX (nI 0) (nI 0) (mL m))) := by rw [← hf8]; exact up_s
      have cT := (fr8 T (by omega)).trans H9.cell
      have p9 : pV f8 (some T) 3 11 (va_rf (some sX)) = some (va_up f8 T (some (.inl (3, hcell T sX (hN (mH m)) (hC (mH m)).length (hD (mH m)).length (hS (mH m)).length (hR (mH m)).length)))) := pV_e cT (Nat.le_of_ble_eq_true rfl)
      generalize hf10 : va_up f8 T (some (.inl (3, hcell T sX (hN (mH m)) (hC (mH m)).length (hD (mH m)).length (hS (mH m)).length (hR (mH m)).length))) = f10 at p9
      have fr10 : ∀ x, x ≠ T → f10 x = f8 x := fun x hx => by rw [← hf10]; exact up_n hx
      have c10 : f10 T = some (.inl (3, hcell T sX (hN (mH m)) (hC (mH m)).length (hD (mH m)).length (hS (mH m)).length (hR (mH m)).length)) := by rw [← hf10]; exact up_s
      have p11 : pV f10 (some 100) 9 4 (va_rf (some sT)) = some (va_up f10 100 (some (.inl (9, kC T D sT (nI 0) (nI 0) (mL m))))) := pV_e ((fr10 _ (by omega)).trans c8) (Nat.le_of_ble_eq_true rfl)
      rw [bd2_e rfl, bd_e (gR_s K9 rfl), bd_e (gI_e u168 rfl), bd_e p8, bd_e (gI_e c8 rfl), if_pos (by decide), bd_e (gR_s c8 rfl), bd_e (gR_s cT rfl), bd_e (gR_s c8 rfl), bd_e (gR_s c8 rfl), bd_e p9, bd_e p11] at e7
      have g12 : ∀ c x, x ≠ 100 → x ≠ T → va_up f10 100 c x = f9 x := fun c x h0 h1 => (up_n h0).trans ((fr10 x h1).trans (fr8 x h0))
      have g13 : ∀ c x, x ≠ 100 → x ≠ T → x ≠ 168 → x ≠ 170 → (x < sX ∨ sX + 6 ≤ x) → va_up f10 100 c x = f1 x := fun c x h0 h1 h2 h3 h4 => (g12 c x h0 h1).trans (g9 x h2 h3 h4)
      refine ⟨_, _, (mB m, 0, mH m, Q, 0, mL m, mM m, mS m, mI m), e7, fun a h1 _ => ?_, ⟨T, D, sX, sD, sT, tq, iq, S.frame (fun a ha => g13 _ a (by omega) (by omega) (by omega) (by omega) (by omega)), up_s, ⟨tp.frame (g13 _ _ (by omega) (by omega) (by omega) (by omega) (by omega)), Nat.zero_le _, Nat.zero_le _⟩, ⟨H9.s ok (fun a _ _ _ => g12 _ a (by omega) (by omega)) ((up_n (by omega)).trans c10), ok, S9.frame (fun a _ _ => g12 _ a (by omega) (by omega)), r7, ⟨hd, HD.frame (fun a _ _ _ => g13 _ a (by omega) (by omega) (by omega) (by omega) (by omega)) okD, okD⟩, ⟨PD, sDA.frame (fun a _ _ => g13 _ a (by omega) (by omega) (by omega) (by omega) (by omega))⟩, ⟨mP m, sA.frame (fun a _ _ => g13 _ a (by omega) (by omega) (by omega) (by omega) (by omega))⟩, td0, by unfold SS; omega⟩, Z.frame (g13 _ _ (by omega) (by omega) (by omega) (by omega) (by omega)) (g13 _ _ (by omega) (by omega) (by omega) (by omega) (by omega)) (fun a _ => g13 _ a (by omega) (by omega) (by omega) (by omega) (by omega)), ⟨⟨_, _, _, _, _, _, _, _, _, _, _, kw21, (g12 _ _ (by omega) (by omega)).trans u168⟩, ⟨_, _, _, _, _, (g13 _ _ (by omega) (by omega) (by omega) (by omega) (by omega)).trans k2⟩, ⟨_, _, _, (g12 _ _ (by omega) (by omega)).trans u170⟩⟩, M.frame (fun a _ _ => g13 _ a (by omega) (by omega) (by omega) (by omega) (by omega)), Mr.frame (g13 _ _ (by omega) (by omega) (by omega) (by omega) (by omega))⟩, ok, Or.inr ⟨Q, o, t, mt, rfl, rfl⟩⟩
      exact (g13 _ a (by omega) (by omega) (by omega) (by omega) (by omega)).trans (fr1 a (by omega))
    · rw [if_neg k0] at mt
      rw [if_neg (nI_ne0 (by omega) (by omega)), bd_e C9.g0, ck_e C9.1.isK] at e7
      obtain ⟨f10, i1, i2, i3⟩ := tfail (F := F) C9.1 (k := 1) (K := 1) (by decide) (by decide) rfl
      rw [bd2_e i1] at e7
      exact flt _ f10 (C9.cf i3 i2) (r4.trans (FrS.of i3)) e7 mt
