/-! the call 'house': the class -/
variable {sk : Nat}
def hE : HS := (4, [], [], fun _ => 1, [], [])
theorem okH_hE : okH hE := ⟨⟨by decide, by decide⟩, by decide, fun c hc => absurd hc List.not_mem_nil, by decide, fun c hc => absurd hc List.not_mem_nil, fun _ => show 1 ≤ 9 by decide, by decide, fun c hc => absurd hc List.not_mem_nil, by decide, fun c hc => absurd hc List.not_mem_nil, List.Pairwise.nil⟩
/-- what the text says -/
def mHs (B : Nat → Nat) (n : Nat) : Flt ⊕ (Nat × HS) := mHouse B n 700 741 0 hE (tokF B n 700 0) false 0
theorem clear_e {F : Nat} {f : Hp} {b s : Nat} {hd : HS} {P : SN} (hF : 50 ≤ F) (hb : 102 ≤ b) (hs : 102 ≤ s) (o : offR b s) (H : HAt f b s hd) (ok : okH hd) (S : SAt f s P) : ∃ f', m_X4_clear F (some b) f = some f' ∧ HAt f' b s hE ∧ SAt f' s [] ∧ ∀ a, (a < b ∨ b + 7 ≤ a ∧ a < b + 13 ∨ b + 29 ≤ a) → a ≠ s → f' a = f a := by
  unfold offR at o
  obtain ⟨⟨i0, i1, i3, i6, i9, e0⟩, ⟨p1, r1, m1⟩, ⟨p2, r2, m2⟩, ⟨v3, r3⟩, ⟨v4, r4⟩, ⟨v5, r5⟩, ⟨v6, r6⟩, cA, dA⟩ := H.x ok
  obtain ⟨-, t0, ⟨q1, a1, -, c1⟩, ⟨q2, a2, -⟩, ⟨q3, a3, -⟩, ⟨q4, a4, -⟩, ⟨q5, a5, -⟩⟩ := S
  have s1 : pV f (some b) 3 0 (.int 4) = some (va_up f b (some (.inl (3, hcI b s 4 i1 i3 i6 i9)))) := pV_e e0 (Nat.le_of_ble_eq_true rfl)
  have s2 : pV (va_up f b (some (.inl (3, hcI b s 4 i1 i3 i6 i9)))) (some b) 3 1 (.int 0) = some (va_up f b (some (.inl (3, hcI b s 4 0 i3 i6 i9)))) := pV_u (Nat.le_of_ble_eq_true rfl)
  have s3 : pV (va_up f b (some (.inl (3, hcI b s 4 0 i3 i6 i9)))) (some b) 3 3 (.int 0) = some (va_up f b (some (.inl (3, hcI b s 4 0 0 i6 i9)))) := pV_u (Nat.le_of_ble_eq_true rfl)
  generalize hf3 : va_up f b (some (.inl (3, hcI b s 4 0 0 i6 i9))) = f3 at s3
  have fr3 : ∀ x, x ≠ b → f3 x = f x := fun x hx => by rw [← hf3]; exact up_n hx
  have c3 : f3 b = some (.inl (3, hcI b s 4 0 0 i6 i9)) := by rw [← hf3]; exact up_s
  have s4 := fillI_e (F := F) (v := 1) ((fr3 (b + 3) (by omega)).trans r3) (by omega) (by decide) (by omega)
  generalize hf4 : va_up f3 (b + 3) (some (.inr (1, 6, .inl (fun j => if j < 6 then (1 : Int32) else v3 j)))) = f4 at s4
  have fr4 : ∀ x, x ≠ b + 3 → f4 x = f3 x := fun x hx => by rw [← hf4]; exact up_n hx
  have e4 : f4 (b + 3) = rwI 6 (fun j => if j < 6 then (1 : Int32) else v3 j) := by rw [← hf4]; exact up_s
  have s5 : pV f4 (some b) 3 6 (.int 0) = some (va_up f4 b (some (.inl (3, hcI b s 4 0 0 0 i9)))) := pV_e ((fr4 b (by omega)).trans c3) (Nat.le_of_ble_eq_true rfl)
  have s6 : pV (va_up f4 b (some (.inl (3, hcI b s 4 0 0 0 i9)))) (some b) 3 9 (.int 0) = some (va_up f4 b (some (.inl (3, hcI b s 4 0 0 0 0)))) := pV_u (Nat.le_of_ble_eq_true rfl)
  generalize hf6 : va_up f4 b (some (.inl (3, hcI b s 4 0 0 0 0))) = f6 at s6
  have fr6 : ∀ x, x ≠ b → f6 x = f4 x := fun x hx => by rw [← hf6]; exact up_n hx
  have c6 : f6 b = some (.inl (3, hcI b s 4 0 0 0 0)) := by rw [← hf6]; exact up_s
  have s7 := fillI_e (F := F) (v := 0) ((fr6 (b + 6) (by omega)).trans ((fr4 _ (by omega)).trans ((fr3 _ (by omega)).trans r6))) (by omega) (by decide) (by omega)
  generalize hf7 : va_up f6 (b + 6) (some (.inr (1, 49, .inl (fun j => if j < 49 then (0 : Int32) else v6 j)))) = f7 at s7
  have fr7 : ∀ x, x ≠ b + 6 → f7 x = f6 x := fun x hx => by rw [← hf7]; exact up_n hx
  have e7 : f7 (b + 6) = rwI 49 (fun j => if j < 49 then (0 : Int32) else v6 j) := by rw [← hf7]; exact up_s
  have g7 : ∀ x, x ≠ b → x ≠ b + 3 → x ≠ b + 6 → f7 x = f x := fun x h1 h2 h3 => (fr7 x h3).trans ((fr6 x h1).trans ((fr4 x h2).trans (fr3 x h1)))
  have c7 := (fr7 b (by omega)).trans c6
  have t7 := (g7 s (by omega) (by omega) (by omega)).trans t0
  have s8 : pV f7 (some s) 6 0 (.int 0) = some (va_up f7 s (some (.inl (6, scI s 0)))) := pV_e t7 (Nat.le_of_ble_eq_true rfl)
  generalize hf8 : va_up f7 s (some (.inl (6, scI s 0))) = f8 at s8
  have fr8 : ∀ x, x ≠ s → f8 x = f7 x := fun x hx => by rw [← hf8]; exact up_n hx
  have g8 : ∀ x, x ≠ b → x ≠ b + 3 → x ≠ b + 6 → x ≠ s → f8 x = f x := fun x h1 h2 h3 h4 => (fr8 x h4).trans (g7 x h1 h2 h3)
  refine ⟨f8, ?_, ⟨(fr8 b (by omega)).trans c7, ⟨p1, (g8 _ (by omega) (by omega) (by omega) (by omega)).trans r1, m1⟩, ⟨p2, (g8 _ (by omega) (by omega) (by omega) (by omega)).trans r2, m2⟩, ⟨_, (fr8 _ (by omega)).trans ((fr7 _ (by omega)).trans ((fr6 _ (by omega)).trans e4)), fun i hi => by rw [if_pos hi]; rfl⟩, ⟨v4, (g8 _ (by omega) (by omega) (by omega) (by omega)).trans r4, fun i hi => absurd hi (Nat.not_lt_zero _)⟩, ⟨v5, (g8 _ (by omega) (by omega) (by omega) (by omega)).trans r5, fun i hi => absurd hi (Nat.not_lt_zero _)⟩, ⟨_, (fr8 _ (by omega)).trans e7, fun i hi => by rw [if_pos hi]; rfl⟩, fun i hi => absurd hi (Nat.not_lt_zero _), fun c _ hc => ?_, fun i hi => absurd hi (Nat.not_lt_zero _), fun d _ hd => ?_⟩, ⟨by decide, ?_, ⟨q1, (g8 _ (by omega) (by omega) (by omega) (by omega)).trans a1, fun i hi => absurd hi (Nat.not_lt_zero _), c1⟩, ⟨q2, (g8 _ (by omega) (by omega) (by omega) (by omega)).trans a2, fun i hi => absurd hi (Nat.not_lt_zero _)⟩, ⟨q3, (g8 _ (by omega) (by omega) (by omega) (by omega)).trans a3, fun i hi => absurd hi (Nat.not_lt_zero _)⟩, ⟨q4, (g8 _ (by omega) (by omega) (by omega) (by omega)).trans a4, fun i hi => absurd hi (Nat.not_lt_zero _)⟩, ⟨q5, (g8 _ (by omega) (by omega) (by omega) (by omega)).trans a5, fun i hi => absurd hi (Nat.not_lt_zero _)⟩⟩, fun x h1 h2 => g8 x (by omega) (by omega) (by omega) h2⟩
  · unfold m_X4_clear
    rw [bd_e s1, bd_e s2, bd_e s3, bd_e (gR_s c3 rfl), bd_e s4, bd_e s5, bd_e s6, bd_e (gR_s c6 rfl), bd_e s7, bd_e (gR_s c7 rfl), ck_e (isO_e t7)]
    unfold m_X7_clear
    rw [bd_e s8, bd_some]
  · obtain ⟨n0, j1, j2, j3, j4, j5, e⟩ := cA c hc
    exact ⟨n0, j1, j2, j3, j4, j5, (g8 _ (by omega) (by omega) (by omega) (by omega)).trans e⟩
  · obtain ⟨w, lim, nm, e, hw⟩ := dA d hd
    exact ⟨w, lim, nm, (g8 _ (by omega) (by omega) (by omega) (by omega)).trans e, hw⟩
  · rw [← hf8]; exact up_s
theorem td_offD {f : Hp} {n z : Nat} {m : MS} {T D sT sD sX : Nat} {tq iq : Nat → Option Nat} (C : CIx sk f n z m T D sT sD sX tq iq) : (D = 102 ∨ D = 131) ∧ (sD = 109 ∨ sD = 138 ∨ sD = 160) ∧ offR D sD := by
  have td := C.td
  have ss : SS sT sD sX := C.2.2.2.1.2.2.2.2.2.2.2.2
  unfold SS at ss
  unfold TD at td
  unfold offR
  omega
/-- the TOKENS are opened -/
theorem copen_e {F : Nat} {f : Hp} {B : Nat → Nat} (hF : 742 ≤ F) (S : St4 f) (P : TP f B) {n : Nat} (hn : n ≤ 740) {R : Nat} (hR : R ≤ 740) {K : Int32} (hK : K = nI R) {i1 i2 i3 i4 i5 : Int32} {j6 : Int64} {w : Nat} {i8 i9 i10 i11 : Int32} (e : f 168 = some (.inl (8, [.ref 101, .int i1, .int i2, .int i3, .int i4, .int i5, .long j6, .ref w, .int i8, .int i9, .int i10, .int i11]))) : ∃ f', m_X9_open F (some 168) (nI n) K f = some f' ∧ TKc f' n R (tokF B n R 0) 0 0 ∧ ∀ x, x ≠ 168 → f' x = f x := by
  subst hK
  have em : imin (nI n) (nI 740) = nI n := by
    unfold imin
    by_cases q : nI 740 < nI n
    · exact absurd q (nI_nlt (a := 740) hn (by omega))
    · rw [if_neg q]
  obtain ⟨t, t1, t2⟩ := id P
  have p1 : pV f (some 168) 8 1 (.int (nI n)) = some (va_up f 168 (some (.inl (8, [.ref 101, .int (nI n), .int i2, .int i3, .int i4, .int i5, .long j6, .ref w, .int i8, .int i9, .int i10, .int i11])))) := pV_e e (Nat.le_of_ble_eq_true rfl)
  have p2 : pV (va_up f 168 (some (.inl (8, [.ref 101, .int (nI n), .int i2, .int i3, .int i4, .int i5, .long j6, .ref w, .int i8, .int i9, .int i10, .int i11])))) (some 168) 8 2 (.int (nI R)) = some (va_up f 168 (some (.inl (8, [.ref 101, .int (nI n), .int (nI R), .int i3, .int i4, .int i5, .long j6, .ref w, .int i8, .int i9, .int i10, .int i11])))) := pV_u (Nat.le_of_ble_eq_true rfl)
  have p3 : pV (va_up f 168 (some (.inl (8, [.ref 101, .int (nI n), .int (nI R), .int i3, .int i4, .int i5, .long j6, .ref w, .int i8, .int i9, .int i10, .int i11])))) (some 168) 8 4 (.int 0) = some (va_up f 168 (some (.inl (8, [.ref 101, .int (nI n), .int (nI R), .int i3, .int 0, .int i5, .long j6, .ref w, .int i8, .int i9, .int i10, .int i11])))) := pV_u (Nat.le_of_ble_eq_true rfl)
  have p4 : pV (va_up f 168 (some (.inl (8, [.ref 101, .int (nI n), .int (nI R), .int i3, .int 0, .int i5, .long j6, .ref w, .int i8, .int i9, .int i10, .int i11])))) (some 168) 8 10 (.int 0) = some (va_up f 168 (some (.inl (8, [.ref 101, .int (nI n), .int (nI R), .int i3, .int 0, .int i5, .long j6, .ref w, .int i8, .int i9, .int 0, .int i11])))) := pV_u (Nat.le_of_ble_eq_true rfl)
  have p5 : pV (va_up f 168 (some (.inl (8, [.ref 101, .int (nI n), .int (nI R), .int i3, .int 0, .int i5, .long j6, .ref w, .int i8, .int i9, .int 0, .int i11])))) (some 168) 8 11 (.int 0) = some (va_up f 168 (some (.inl (8, [.ref 101, .int (nI n), .int (nI R), .int i3, .int 0, .int i5, .long j6, .ref w, .int i8, .int i9, .int 0, .int 0])))) := pV_u (Nat.le_of_ble_eq_true rfl)
  generalize hf5 : va_up f 168 (some (.inl (8, [.ref 101, .int (nI n), .int (nI R), .int i3, .int 0, .int i5, .long j6, .ref w, .int i8, .int i9, .int 0, .int 0]))) = f5 at p5
  have fr5 : ∀ x, x ≠ 168 → f5 x = f x := fun x hx => by rw [← hf5]; exact up_n hx
  have c5 : f5 168 = some (.inl (8, [.ref 101, .int (nI n), .int (nI R), .int i3, .int 0, .int i5, .long j6, .ref w, .int i8, .int i9, .int 0, .int 0])) := by rw [← hf5]; exact up_s
  obtain ⟨a, k, e3, e5⟩ : ∃ a k, i3 = nI a ∧ i5 = nI k := ⟨i3.toBitVec.toNat, i5.toBitVec.toNat, (nI_bv i3).symm, (nI_bv i5).symm⟩
  subst e3
  subst e5
  obtain ⟨f', k1, k2, k3⟩ := cadv_e (F := F) (B := B) hF (S.frame (fun a ha => fr5 a (by omega))) (P.frame (fr5 _ (by decide))) (n := n) (R := R) hn hR (p := 0) (Nat.zero_le _) (a0 := a) (k0 := k) (kw := w) (code := j6) (sg := i8) (v := i9) (fk := 0) (fp := 0) c5
  refine ⟨f', ?_, k2, fun x hx => (k3 x hx).trans (fr5 x hx)⟩
  unfold m_X9_open
  rw [bd_e (gR_s e rfl), bd_e (alen_e t1 (by decide)), em, bd_e p1, bd_e p2, bd_e p3, bd_e p4, bd_e p5, ck_e (isO_e c5), bd_e k1]
theorem chouse_e {F : Nat} {f : Hp} {n z : Nat} {m : MS} (hF : 742 ≤ F) (C : CI sk f n z m) : ∃ v f' m', m_X11_house F (some 100) f = some (v, f') ∧ (∀ a, 179 ≤ a → a < 204 → f' a = f a) ∧ CI sk f' n z m' ∧ ((∃ q, mHs (mB m) (mT m) = .inl q ∧ v = -1 - nI q.2 ∧ m' = (mB m, 0, mH m, mP m, q.1, mL m, mM m, mS m, mI m) ∧ 1 ≤ q.1 ∧ q.1 ≤ 4) ∨ ∃ k h, mHs (mB m) (mT m) = .inr (k, h) ∧ v = nI k ∧ m' = (mB m, 0, h, [], 0, mL m, mM m, mS m, mI m) ∧ okH h ∧ k ≤ 740) := by
  obtain ⟨f1, e1, C1, fr1⟩ := take_e (F := F) C
  obtain ⟨_, _, _, _, _, _, _, -, K0, ⟨-, t7, -⟩, -⟩ := C
  obtain ⟨T, D, sT, sD, sX, tq, iq, X⟩ := C1.x
  have td := X.td
  obtain ⟨d1, d2, d3⟩ := td_offD X
  have d3' := d3
  unfold offR at d3'
  obtain ⟨S, K, ⟨tp, t70, fl⟩, ⟨H, ok, sA, os, ⟨hd, HD, okD⟩, ⟨PD, sDA⟩, ⟨PX, sXA⟩, td0, ss⟩, Z, ⟨⟨i1, i2, i3, i4, i5, j6, w, i8, i9, i10, i11, w21, k1⟩, ⟨v1, v2, v3, v4, v5, k2⟩, ⟨u1, u2, u3, k3⟩⟩, M, Mr⟩ := X
  have ss' := ss
  unfold SS at ss'
  have td' := td0
  unfold TD at td'
  have tp : TP f1 (mB m) := tp
  -- the TOKENS
  obtain ⟨f2, e2, T2, fr2⟩ := copen_e (F := F) hF S tp t7 (R := 700) (by decide) rfl k1
  have K2 : KAt f2 T D sX (nI 0) (nI (mF m)) (mL m) := KAt.frame K (fr2 _ (by decide))
  have k2' := (fr2 169 (by decide)).trans k2
  -- the reader
  have p3 : pV f2 (some 169) 4 1 (va_rf (some D)) = some (va_up f2 169 (some (.inl (4, [.ref 168, .ref D, .int v2, .int v3, .int v4, .int v5])))) := pV_e k2' (Nat.le_of_ble_eq_true rfl)
  generalize hf3 : va_up f2 169 (some (.inl (4, [.ref 168, .ref D, .int v2, .int v3, .int v4, .int v5]))) = f3 at p3
  have fr3 : ∀ x, x ≠ 169 → f3 x = f2 x := fun x hx => by rw [← hf3]; exact up_n hx
  have c3 : f3 169 = some (.inl (4, [.ref 168, .ref D, .int v2, .int v3, .int v4, .int v5])) := by rw [← hf3]; exact up_s
  have g3 : ∀ x, x ≠ 168 → x ≠ 169 → f3 x = f1 x := fun x h1 h2 => (fr3 x h2).trans (fr2 x h1)
  have HD3 : HAt f3 D sD hd := HD.frame (fun a _ _ _ => g3 a (by omega) (by omega)) okD
  have SD3 : SAt f3 sD PD := sDA.frame (fun a _ _ => g3 a (by omega) (by omega))
  obtain ⟨f4, e4, H4, S4, fr4⟩ := clear_e (F := F) (by omega) (by omega) (by omega) d3 HD3 okD SD3
  have c4' := (fr4 169 (by omega) (by omega)).trans c3
  have p5 : pZ f4 (some 169) 4 2 0 = some (va_up f4 169 (some (.inl (4, [.ref 168, .ref D, .int 0, .int v3, .int v4, .int v5])))) := by
    unfold pZ
    rw [if_pos (Or.inl rfl)]
    exact pV_e c4' (Nat.le_of_ble_eq_true rfl)
  have p6 : pV (va_up f4 169 (some (.inl (4, [.ref 168, .ref D, .int 0, .int v3, .int v4, .int v5])))) (some 169) 4 3 (.int 0) = some (va_up f4 169 (some (.inl (4, [.ref 168, .ref D, .int 0, .int 0, .int v4, .int v5])))) := pV_u (Nat.le_of_ble_eq_true rfl)
  generalize hf6 : va_up f4 169 (some (.inl (4, [.ref 168, .ref D, .int 0, .int 0, .int v4, .int v5]))) = f6 at p6
  have fr6 : ∀ x, x ≠ 169 → f6 x = f4 x := fun x hx => by rw [← hf6]; exact up_n hx
  have c6 : f6 169 = some (.inl (4, c4 D (if false then 1 else 0) (nI 0) v4 v5)) := by rw [← hf6]; exact up_s
  have g6 : ∀ x, x ≠ 168 → x ≠ 169 → (x < D ∨ D + 7 ≤ x ∧ x < D + 13 ∨ D + 29 ≤ x) → x ≠ sD → f6 x = f1 x := fun x h1 h2 h3 h4 => (fr6 x h2).trans ((fr4 x h3 h4).trans (g3 x h1 h2))
  have h168 : f6 168 = f2 168 := (fr6 168 (by decide)).trans ((fr4 168 (by omega) (by omega)).trans (fr3 168 (by decide)))
  have C6 : CSt (mB m) (mT m) 700 D sD f6 hE (tokF (mB m) (mT m) 700 0) false 0 := by
    obtain ⟨nx, code, sg, v, T2a, T2b⟩ := T2
    exact ⟨⟨S.frame (fun a ha => g6 a (by omega) (by omega) (by omega) (by omega)), tp.frame (g6 _ (by decide) (by decide) (by omega) (by omega))⟩, ⟨⟨nx, code, sg, v, h168.trans T2a, T2b⟩, 0, Nat.zero_le _, rfl⟩, ⟨H4.frame (fun a _ _ _ => fr6 a (by omega)) okH_hE, okH_hE⟩, ⟨v4, v5, c6⟩, fun _ => ⟨rfl, rfl, rfl⟩, t7, by decide, d1, by decide⟩
  have S6 : SAt f6 sD [] := S4.frame (fun a _ _ => fr6 a (by omega))
  obtain ⟨f7, fr7, r7⟩ := cread_L (F := F) hF 741 0 F f6 hE _ false 0 (by decide) (by omega) C6 (by decide) (fun _ => Nat.zero_le _)
  have g7 : ∀ x, x ≠ 168 → x ≠ 169 → (x < D ∨ D + 7 ≤ x ∧ x < D + 13 ∨ D + 29 ≤ x) → x ≠ sD → f7 x = f1 x := fun x h1 h2 h3 h4 => (fr7 x h1 h2 h3).trans (g6 x h1 h2 h3 h4)
  have K7 : KAt f7 T D sX (nI 0) (nI (mF m)) (mL m) := KAt.frame K (g7 _ (by decide) (by decide) (by omega) (by omega))
  have S7 : SAt f7 sD [] := S6.frame (fun a _ _ => fr7 a (by omega) (by omega) (by omega))
  have rd : ∀ o, m_X5_read_L24 F F (some 169) (nI 0) f6 = o → m_X11_house F (some 100) f = bd2 o fun x10 f11 => (gR f11 (some 100) 9 7).bind fun x12 => (gI f11 x12 8 10).bind fun x13 => (pV f11 (some 100) 9 12 (.int x13)).bind fun f14 => (gI f14 (some 100) 9 12).bind fun x15 => if x15 = 0 then ((gR f14 (some 100) 9 2).bind fun x17 => (gR f14 (some 100) 9 3).bind fun x18 => (pV f14 (some 100) 9 2 (va_rf x18)).bind fun f19 => (pV f19 (some 100) 9 3 (va_rf x17)).bind fun f20 => some (x10, f20)) else ((gR f14 (some 100) 9 7).bind fun x21 => (gI f14 x21 8 11).bind fun x22 => some (((-1 : Int32) - x22), f14)) := by
    intro o ho
    unfold m_X11_house
    rw [bd_e (gR_s K0 rfl), ck_e (isO_e K0), bd2_e e1, ck_e (isO_e k1), bd_e (show m_X9_open F (some 168) (nI (mT m)) (700 : Int32) f1 = some f2 from e2), bd_e (gR_s K2 rfl), bd_e (gR_s K2 rfl), ck_e (isO_e k2')]
    unfold m_X5_read
    rw [bd_e p3, bd_e (gR_s c3 rfl), ck_e (isO_e HD3.1), bd_e e4, bd_e p5, bd_e p6]
    rw [show m_X5_read_L24 F F (some 169) 0 f6 = o from ho]
  rcases r7 with ⟨q, q1, q2, ⟨⟨a, nx, k0, code, kw, sg, v, u168, kw21⟩, ⟨h7, H7, ok7⟩, ⟨l9, p9, x4, x5, u169⟩, ⟨kq1, kq4⟩, qn⟩⟩ | ⟨k', h', t', lc', pt', q1, q2, C7, k740⟩
  · have e7 := rd _ q2
    have p8 : pV f7 (some 100) 9 12 (.int (nI q.1)) = some (va_up f7 100 (some (.inl (9, kC T D sX (nI 0) (nI q.1) (mL m))))) := pV_e K7 (Nat.le_of_ble_eq_true rfl)
    rw [bd2_e rfl, bd_e (gR_s K7 rfl), bd_e (gI_e u168 rfl), bd_e p8, bd_e (gI_e up_s rfl), if_neg (nI_ne0 (by omega) (by omega)), bd_e (gR_s up_s rfl), bd_e (gI_e ((up_n (by decide)).trans u168) rfl)] at e7
    have g8 : ∀ c x, x ≠ 100 → x ≠ 168 → x ≠ 169 → (x < D ∨ D + 7 ≤ x ∧ x < D + 13 ∨ D + 29 ≤ x) → x ≠ sD → va_up f7 100 c x = f1 x := fun c x h0 h1 h2 h3 h4 => (up_n h0).trans (g7 x h1 h2 h3 h4)
    refine ⟨_, _, (mB m, 0, mH m, mP m, q.1, mL m, mM m, mS m, mI m), e7, fun a h1 _ => ?_, ⟨T, D, sT, sD, sX, tq, iq, S.frame (fun a ha => g8 _ a (by omega) (by omega) (by omega) (by omega) (by omega)), up_s, ⟨tp.frame (g8 _ _ (by omega) (by omega) (by omega) (by omega) (by omega)), Nat.zero_le _, kq4⟩, ⟨H.frame (fun a _ _ _ => g8 _ a (by omega) (by omega) (by omega) (by omega) (by omega)) ok, ok, sA.frame (fun a _ _ => g8 _ a (by omega) (by omega) (by omega) (by omega) (by omega)), os, ⟨h7, H7.frame (fun a _ _ _ => up_n (by omega)) ok7, ok7⟩, ⟨[], S7.frame (fun a _ _ => up_n (by omega))⟩, ⟨PX, sXA.frame (fun a _ _ => g8 _ a (by omega) (by omega) (by omega) (by omega) (by omega))⟩, td0, ss⟩, Z.frame (g8 _ _ (by omega) (by omega) (by omega) (by omega) (by omega)) (g8 _ _ (by omega) (by omega) (by omega) (by omega) (by omega)) (fun a _ => g8 _ a (by omega) (by omega) (by omega) (by omega) (by omega)), ⟨⟨_, _, _, _, _, _, kw, _, _, _, _, kw21, (up_n (by decide)).trans u168⟩, ⟨_, _, _, _, _, (up_n (by decide)).trans u169⟩, ⟨_, _, _, (g8 _ _ (by omega) (by omega) (by omega) (by omega) (by omega)).trans k3⟩⟩, M.frame (fun a _ _ => g8 _ a (by omega) (by omega) (by omega) (by omega) (by omega)), Mr.frame (g8 _ _ (by omega) (by omega) (by omega) (by omega) (by omega))⟩, Or.inl ⟨q, q1, rfl, rfl, kq1, kq4⟩⟩
    exact (g8 _ a (by omega) (by omega) (by omega) (by omega) (by omega)).trans (fr1 a (by omega))
  · have e7 := rd _ q2
    obtain ⟨nx, code, sg, v, u168, -⟩ := C7.2.1.1
    obtain ⟨x4, x5, u169⟩ := C7.2.2.2.1
    obtain ⟨H7, ok7⟩ := C7.2.2.1
    have kw21 : (if tK t' = 2 then kwF (tL t') else 0) < 21 := kyF_lt t'
    have p8 : pV f7 (some 100) 9 12 (.int 0) = some (va_up f7 100 (some (.inl (9, kC T D sX (nI 0) (nI 0) (mL m))))) := pV_e K7 (Nat.le_of_ble_eq_true rfl)
    have p9 : pV (va_up f7 100 (some (.inl (9, kC T D sX (nI 0) (nI 0) (mL m))))) (some 100) 9 2 (va_rf (some D)) = some (va_up f7 100 (some (.inl (9, kC D D sX (nI 0) (nI 0) (mL m))))) := pV_u (Nat.le_of_ble_eq_true rfl)
    have p10 : pV (va_up f7 100 (some (.inl (9, kC D D sX (nI 0) (nI 0) (mL m))))) (some 100) 9 3 (va_rf (some T)) = some (va_up f7 100 (some (.inl (9, kC D T sX (nI 0) (nI 0) (mL m))))) := pV_u (Nat.le_of_ble_eq_true rfl)
    rw [bd2_e rfl, bd_e (gR_s K7 rfl), bd_e (gI_e u168 rfl), bd_e p8, bd_e (gI_e up_s rfl), if_pos (by decide), bd_e (gR_s up_s rfl), bd_e (gR_s up_s rfl), bd_e p9, bd_e p10] at e7
    have g8 : ∀ c x, x ≠ 100 → x ≠ 168 → x ≠ 169 → (x < D ∨ D + 7 ≤ x ∧ x < D + 13 ∨ D + 29 ≤ x) → x ≠ sD → va_up f7 100 c x = f1 x := fun c x h0 h1 h2 h3 h4 => (up_n h0).trans (g7 x h1 h2 h3 h4)
    refine ⟨_, _, (mB m, 0, h', [], 0, mL m, mM m, mS m, mI m), e7, fun a h1 _ => ?_, ⟨D, T, sD, sT, sX, tq, iq, S.frame (fun a ha => g8 _ a (by omega) (by omega) (by omega) (by omega) (by omega)), up_s, ⟨tp.frame (g8 _ _ (by omega) (by omega) (by omega) (by omega) (by omega)), Nat.zero_le _, Nat.zero_le _⟩, ⟨H7.frame (fun a _ _ _ => up_n (by omega)) ok7, ok7, S7.frame (fun a _ _ => up_n (by omega)), fun e he => absurd he List.not_mem_nil, ⟨mH m, H.frame (fun a _ _ _ => g8 _ a (by omega) (by omega) (by omega) (by omega) (by omega)) ok, ok⟩, ⟨mP m, sA.frame (fun a _ _ => g8 _ a (by omega) (by omega) (by omega) (by omega) (by omega))⟩, ⟨PX, sXA.frame (fun a _ _ => g8 _ a (by omega) (by omega) (by omega) (by omega) (by omega))⟩, by unfold TD; omega, by unfold SS; omega⟩, Z.frame (g8 _ _ (by omega) (by omega) (by omega) (by omega) (by omega)) (g8 _ _ (by omega) (by omega) (by omega) (by omega) (by omega)) (fun a _ => g8 _ a (by omega) (by omega) (by omega) (by omega) (by omega)), ⟨⟨_, _, _, _, _, _, _, _, _, _, _, kw21, (up_n (by decide)).trans u168⟩, ⟨_, _, _, _, _, (up_n (by decide)).trans u169⟩, ⟨_, _, _, (g8 _ _ (by omega) (by omega) (by omega) (by omega) (by omega)).trans k3⟩⟩, M.frame (fun a _ _ => g8 _ a (by omega) (by omega) (by omega) (by omega) (by omega)), Mr.frame (g8 _ _ (by omega) (by omega) (by omega) (by omega) (by omega))⟩, Or.inr ⟨k', h', q1, rfl, rfl, ok7, k740⟩⟩
    exact (g8 _ a (by omega) (by omega) (by omega) (by omega) (by omega)).trans (fr1 a (by omega))
