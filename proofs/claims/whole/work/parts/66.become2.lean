/-! one HOUSE becomes as another one, whole -/
def offR (a s : Nat) : Prop := s + 6 ≤ a ∨ (a + 7 ≤ s ∧ s + 6 ≤ a + 13) ∨ a + 29 ≤ s
theorem dAt.frame' {f f' : Hp} {a b : Nat} {d : Nat × Nat × List Nat} (H : dAt f b d) (e : f' a = f b) : dAt f' a d := by
  obtain ⟨lim, h1, h2⟩ := H
  exact ⟨lim, e.trans h1, h2⟩
section BEC2
variable {F : Nat} {f : Hp} {a b sa sb : Nat} {h : HS} {P : SN}
theorem become_e (hF : 50 ≤ F) (h1a : 100 ≤ a) (h1b : 100 ≤ b) (h1s : 100 ≤ sa) (dis : a + 29 ≤ b ∨ b + 29 ≤ a) (o1 : offR a sa) (o2 : offR b sa) (o3 : offR a sb) (os : sa + 6 ≤ sb ∨ sb + 6 ≤ sa) (X : HX f a sa) (Y : SX f sa) (H : HAt f b sb h) (ok : okH h) (A : SAt f sb P) : ∃ f', m_X4_become F (some a) (some b) f = some f' ∧ HAt f' a sa h ∧ SAt f' sa P ∧ ∀ x, x < a ∨ a + 7 ≤ x ∧ x < a + 13 ∨ a + 29 ≤ x → x < sa ∨ sa + 6 ≤ x → f' x = f x := by
  unfold offR at o1 o2 o3
  obtain ⟨⟨x0, x1, x3, x6, x9, e0⟩, ⟨p1, r1, m1⟩, ⟨p2, r2, m2⟩, ⟨v3, r3⟩, ⟨v4, r4⟩, ⟨v5, r5⟩, ⟨v6, r6⟩, cA, dA⟩ := X
  obtain ⟨-, ⟨p1', r1', m1'⟩, ⟨p2', r2', m2'⟩, -, -, -, -, cB, dB⟩ := H.x ok
  have l1 := ok.2.1
  have l2 := ok.2.2.2.1
  obtain ⟨h0, -, -, ⟨q3, a3, b3⟩, ⟨q4, a4, b4⟩, ⟨q5, a5, b5⟩, ⟨q6, a6, b6⟩, h7, h8, h9, h10⟩ := H
  generalize hy0 : nI (hN h) = y0 at h0
  generalize hy1 : nI (hC h).length = y1 at h0
  generalize hy3 : nI (hD h).length = y3 at h0
  generalize hy6 : nI (hS h).length = y6 at h0
  generalize hy9 : nI (hR h).length = y9 at h0
  have h0 : f b = some (.inl (3, hcI b sb y0 y1 y3 y6 y9)) := h0
  -- lines, the number of COPIES
  have s0 : pV f (some a) 3 0 (.int y0) = some (va_up f a (some (.inl (3, hcI a sa y0 x1 x3 x6 x9)))) := pV_e e0 (Nat.le_of_ble_eq_true rfl)
  have s1 : pV (va_up f a (some (.inl (3, hcI a sa y0 x1 x3 x6 x9)))) (some a) 3 1 (.int y1) = some (va_up f a (some (.inl (3, hcI a sa y0 y1 x3 x6 x9)))) := pV_u (Nat.le_of_ble_eq_true rfl)
  generalize hf1 : va_up f a (some (.inl (3, hcI a sa y0 y1 x3 x6 x9))) = f1 at s1
  have fr1 : ∀ x, x ≠ a → f1 x = f x := fun x hx => by rw [← hf1]; exact up_n hx
  have c1 : f1 a = some (.inl (3, hcI a sa y0 y1 x3 x6 x9)) := by rw [← hf1]; exact up_s
  obtain ⟨f2, k2, k2c, k2f⟩ := hb_18 (F := F) dis (sa := sa) (sb := sb) m1 m1' 10 0 F f1 (by omega) (by omega) c1 ((fr1 _ (by omega)).trans h0) ((fr1 _ (by omega)).trans r1) ((fr1 _ (by omega)).trans r1') (fun c hc => by
    obtain ⟨u0, u1, u2, u3, u4, u5, u⟩ := cA c hc
    exact ⟨_, _, _, _, _, _, (fr1 _ (by omega)).trans u⟩) (fun c hc => by
    obtain ⟨u0, u1, u2, u3, u4, u5, u⟩ := cB c hc
    exact ⟨_, _, _, _, _, _, (fr1 _ (by omega)).trans u⟩)
  generalize hf3 : va_up f2 a (some (.inl (3, hcI a sa y0 y1 y3 x6 x9))) = f3 at k2
  have fr3 : ∀ x, x ≠ a → f3 x = f2 x := fun x hx => by rw [← hf3]; exact up_n hx
  have c3 : f3 a = some (.inl (3, hcI a sa y0 y1 y3 x6 x9)) := by rw [← hf3]; exact up_s
  have g3 : ∀ x, x ≠ a → (x < a + 13 ∨ a + 23 ≤ x) → f3 x = f x := fun x hx h => (fr3 x hx).trans ((k2f x (by omega)).trans (fr1 x hx))
  obtain ⟨f4, k4, k4c, k4f⟩ := hb_55 (F := F) dis (sa := sa) (sb := sb) m2 m2' 6 0 F f3 (by omega) (by omega) c3 ((g3 _ (by omega) (by omega)).trans h0) ((g3 _ (by omega) (by omega)).trans r2) ((g3 _ (by omega) (by omega)).trans r2') (fun c hc => by
    obtain ⟨u0, u1, u2, u, uw⟩ := dA c hc
    exact ⟨_, _, _, (g3 _ (by omega) (by omega)).trans u, uw⟩) (fun c hc => by
    obtain ⟨u0, u1, u2, u, uw⟩ := dB c hc
    exact ⟨_, _, _, (g3 _ (by omega) (by omega)).trans u, uw⟩)
  have c4 : f4 a = some (.inl (3, hcI a sa y0 y1 y3 x6 x9)) := (k4f _ (by omega)).trans c3
  have g4 : ∀ x, x ≠ a → (x < a + 13 ∨ a + 29 ≤ x) → f4 x = f x := fun x hx h => (k4f x (by omega)).trans (g3 x hx (by omega))
  have b4' : f4 b = some (.inl (3, hcI b sb y0 y1 y3 y6 y9)) := (g4 _ (by omega) (by omega)).trans h0
  -- W
  obtain ⟨w5, k5, k5v⟩ := cpI_e (f := f4) (a := b + 3) (b := a + 3) (n := 6) ((g4 _ (by omega) (by omega)).trans a3) ((g4 _ (by omega) (by omega)).trans r3) (by omega) (by omega) (by omega)
  generalize hf5 : va_up f4 (a + 3) (rwI 6 w5) = f5 at k5
  have fr5 : ∀ x, x ≠ a + 3 → f5 x = f4 x := fun x hx => by rw [← hf5]; exact up_n hx
  have e5 : f5 (a + 3) = rwI 6 w5 := by rw [← hf5]; exact up_s
  have c5 := (fr5 a (by omega)).trans c4
  have b5' := (fr5 b (by omega)).trans b4'
  -- 'sense'
  have s6 : pV f5 (some a) 3 6 (.int y6) = some (va_up f5 a (some (.inl (3, hcI a sa y0 y1 y3 y6 x9)))) := pV_e c5 (Nat.le_of_ble_eq_true rfl)
  generalize hf6 : va_up f5 a (some (.inl (3, hcI a sa y0 y1 y3 y6 x9))) = f6 at s6
  have fr6 : ∀ x, x ≠ a → f6 x = f5 x := fun x hx => by rw [← hf6]; exact up_n hx
  have c6 : f6 a = some (.inl (3, hcI a sa y0 y1 y3 y6 x9)) := by rw [← hf6]; exact up_s
  have b6' := (fr6 b (by omega)).trans b5'
  have g6 : ∀ x, x ≠ a → x ≠ a + 3 → (x < a + 13 ∨ a + 29 ≤ x) → f6 x = f x := fun x h1 h2 h3 => (fr6 x h1).trans ((fr5 x h2).trans (g4 x h1 h3))
  obtain ⟨w7, k7, k7v⟩ := cpI_e (f := f6) (a := b + 4) (b := a + 4) (n := 12) ((g6 _ (by omega) (by omega) (by omega)).trans a4) ((g6 _ (by omega) (by omega) (by omega)).trans r4) (by omega) (by omega) (by omega)
  generalize hf7 : va_up f6 (a + 4) (rwI 12 w7) = f7 at k7
  have fr7 : ∀ x, x ≠ a + 4 → f7 x = f6 x := fun x hx => by rw [← hf7]; exact up_n hx
  have e7 : f7 (a + 4) = rwI 12 w7 := by rw [← hf7]; exact up_s
  have c7 := (fr7 a (by omega)).trans c6
  have b7' := (fr7 b (by omega)).trans b6'
  obtain ⟨w8, k8, k8v⟩ := cpI_e (f := f7) (a := b + 5) (b := a + 5) (n := 12) ((fr7 _ (by omega)).trans ((g6 _ (by omega) (by omega) (by omega)).trans a5)) ((fr7 _ (by omega)).trans ((g6 _ (by omega) (by omega) (by omega)).trans r5)) (by omega) (by omega) (by omega)
  generalize hf8 : va_up f7 (a + 5) (rwI 12 w8) = f8 at k8
  have fr8 : ∀ x, x ≠ a + 5 → f8 x = f7 x := fun x hx => by rw [← hf8]; exact up_n hx
  have e8 : f8 (a + 5) = rwI 12 w8 := by rw [← hf8]; exact up_s
  have c8 := (fr8 a (by omega)).trans c7
  have b8' := (fr8 b (by omega)).trans b7'
  -- 'rhyme'
  have s9 : pV f8 (some a) 3 9 (.int y9) = some (va_up f8 a (some (.inl (3, hcI a sa y0 y1 y3 y6 y9)))) := pV_e c8 (Nat.le_of_ble_eq_true rfl)
  generalize hf9 : va_up f8 a (some (.inl (3, hcI a sa y0 y1 y3 y6 y9))) = f9 at s9
  have fr9 : ∀ x, x ≠ a → f9 x = f8 x := fun x hx => by rw [← hf9]; exact up_n hx
  have c9 : f9 a = some (.inl (3, hcI a sa y0 y1 y3 y6 y9)) := by rw [← hf9]; exact up_s
  have b9' := (fr9 b (by omega)).trans b8'
  have g9 : ∀ x, x ≠ a → x ≠ a + 3 → x ≠ a + 4 → x ≠ a + 5 → (x < a + 13 ∨ a + 29 ≤ x) → f9 x = f x := fun x h1 h2 h3 h4 h5 => (fr9 x h1).trans ((fr8 x h4).trans ((fr7 x h3).trans (g6 x h1 h2 h5)))
  obtain ⟨w10, k10, k10v⟩ := cpI_e (f := f9) (a := b + 6) (b := a + 6) (n := 49) ((g9 _ (by omega) (by omega) (by omega) (by omega) (by omega)).trans a6) ((g9 _ (by omega) (by omega) (by omega) (by omega) (by omega)).trans r6) (by omega) (by omega) (by omega)
  generalize hf10 : va_up f9 (a + 6) (rwI 49 w10) = f10 at k10
  have fr10 : ∀ x, x ≠ a + 6 → f10 x = f9 x := fun x hx => by rw [← hf10]; exact up_n hx
  have e10 : f10 (a + 6) = rwI 49 w10 := by rw [← hf10]; exact up_s
  have c10 := (fr10 a (by omega)).trans c9
  have b10' := (fr10 b (by omega)).trans b9'
  have g10 : ∀ x, x < a ∨ a + 7 ≤ x ∧ x < a + 13 ∨ a + 29 ≤ x → f10 x = f x := fun x h => (fr10 x (by omega)).trans (g9 x (by omega) (by omega) (by omega) (by omega) (by omega))
  -- the SENTENCE
  have Y10 : SX f10 sa := by
    obtain ⟨⟨l, t0⟩, ⟨t1, t1a, t1b⟩, ⟨t2, t2a⟩, ⟨t3, t3a⟩, ⟨t4, t4a⟩, ⟨t5, t5a⟩⟩ := Y
    exact ⟨⟨l, (g10 _ (by omega)).trans t0⟩, ⟨t1, (g10 _ (by omega)).trans t1a, t1b⟩, ⟨t2, (g10 _ (by omega)).trans t2a⟩, ⟨t3, (g10 _ (by omega)).trans t3a⟩, ⟨t4, (g10 _ (by omega)).trans t4a⟩, ⟨t5, (g10 _ (by omega)).trans t5a⟩⟩
  obtain ⟨l0, sc⟩ := Y10.1
  obtain ⟨f11, k11, k11s, k11f⟩ := sbec_e (F := F) (f := f10) (t := sa) (s := sb) (P := P) (by omega) h1s os Y10 (A.frame (fun x h1 h2 => g10 x (by omega)))
  refine ⟨f11, ?_, ?_, k11s, fun x h1 h2 => (k11f x h2).trans (g10 x h1)⟩
  · unfold m_X4_become
    rw [bd_e (gI_e h0 rfl), bd_e s0, bd_e (gI_e ((up_n (by omega)).trans h0) rfl), bd_e s1]
    refine Eq.trans k2 (Eq.trans k4 ?_)
    unfold m_X4_become_B82
    rw [bd_e (gR_s b4' rfl), bd_e (gR_s c4 rfl), bd_e (gR_s c4 rfl), bd_e (alen_e ((g4 (a + 3) (by omega) (by omega)).trans r3) (by decide)), bd_e k5, bd_e (gI_e b5' rfl), bd_e s6, bd_e (gR_s b6' rfl), bd_e (gR_s c6 rfl), bd_e (show cpI f6 1 (some (b + 4)) 0 (some (a + 4)) 0 (12 : Int32) = some f7 from k7), bd_e (gR_s b7' rfl), bd_e (gR_s c7 rfl), bd_e (show cpI f7 1 (some (b + 5)) 0 (some (a + 5)) 0 (12 : Int32) = some f8 from k8), bd_e (gI_e b8' rfl), bd_e s9, bd_e (gR_s b9' rfl), bd_e (gR_s c9 rfl), bd_e (gR_s c9 rfl), bd_e (alen_e ((g9 (a + 6) (by omega) (by omega) (by omega) (by omega) (by omega)).trans r6) (by decide)), bd_e k10, bd_e (gR_s c10 rfl), bd_e (gR_s b10' rfl), ck_e (isO_e sc), bd_e k11]
  · have g11 : ∀ x, a ≤ x → x < a + 29 → (x < a + 7 ∨ a + 13 ≤ x) → f11 x = f10 x := fun x _ _ _ => k11f x (by omega)
    have cc : ∀ j, j < 10 → f11 (a + 13 + j) = f (b + 13 + j) := fun j hj => (g11 _ (by omega) (by omega) (by omega)).trans ((fr10 _ (by omega)).trans ((fr9 _ (by omega)).trans ((fr8 _ (by omega)).trans ((fr7 _ (by omega)).trans ((fr6 _ (by omega)).trans ((fr5 _ (by omega)).trans ((k4f _ (by omega)).trans ((fr3 _ (by omega)).trans ((k2c j (Nat.zero_le _) hj).trans (fr1 _ (by omega)))))))))))
    have dd : ∀ j, j < 6 → f11 (a + 23 + j) = f (b + 23 + j) := fun j hj => (g11 _ (by omega) (by omega) (by omega)).trans ((fr10 _ (by omega)).trans ((fr9 _ (by omega)).trans ((fr8 _ (by omega)).trans ((fr7 _ (by omega)).trans ((fr6 _ (by omega)).trans ((fr5 _ (by omega)).trans ((k4c j (Nat.zero_le _) hj).trans (g3 _ (by omega) (by omega)))))))))
    refine ⟨?_, ⟨p1, ?_, m1⟩, ⟨p2, ?_, m2⟩, ⟨w5, ?_, fun i hi => ?_⟩, ⟨w7, ?_, fun i hi => ?_⟩, ⟨w8, ?_, fun i hi => ?_⟩, ⟨w10, ?_, fun i hi => ?_⟩, fun c hc => ?_, fun c i1 i2 => ?_, fun d hd => ?_, fun d i1 i2 => ?_⟩
    · rw [hy0, hy1, hy3, hy6, hy9]
      exact (g11 _ (by omega) (by omega) (by omega)).trans c10
    · exact (g11 _ (by omega) (by omega) (by omega)).trans ((fr10 _ (by omega)).trans ((g9 _ (by omega) (by omega) (by omega) (by omega) (by omega)).trans r1))
    · exact (g11 _ (by omega) (by omega) (by omega)).trans ((fr10 _ (by omega)).trans ((g9 _ (by omega) (by omega) (by omega) (by omega) (by omega)).trans r2))
    · exact (g11 _ (by omega) (by omega) (by omega)).trans ((fr10 _ (by omega)).trans ((fr9 _ (by omega)).trans ((fr8 _ (by omega)).trans ((fr7 _ (by omega)).trans ((fr6 _ (by omega)).trans e5)))))
    · rw [k5v i hi]; exact b3 i hi
    · exact (g11 _ (by omega) (by omega) (by omega)).trans ((fr10 _ (by omega)).trans ((fr9 _ (by omega)).trans ((fr8 _ (by omega)).trans e7)))
    · have := ok.2.2.2.2.2.2.1
      rw [k7v i (by omega)]; exact b4 i hi
    · exact (g11 _ (by omega) (by omega) (by omega)).trans ((fr10 _ (by omega)).trans ((fr9 _ (by omega)).trans e8))
    · have := ok.2.2.2.2.2.2.1
      rw [k8v i (by omega)]; exact b5 i hi
    · exact (g11 _ (by omega) (by omega) (by omega)).trans e10
    · rw [k10v i hi]; exact b6 i hi
    · rw [cc c (by omega)]; exact h7 c hc
    · obtain ⟨u0, u1, u2, u3, u4, u5, u⟩ := h8 c i1 i2
      exact ⟨_, _, _, _, _, _, (cc c i2).trans u⟩
    · exact (h9 d hd).frame' (dd d (by omega))
    · obtain ⟨u0, u1, u2, u, uw⟩ := h10 d i1 i2
      exact ⟨_, _, _, (dd d i2).trans u, uw⟩
end BEC2
