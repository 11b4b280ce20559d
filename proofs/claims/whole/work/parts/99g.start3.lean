/-! the start: the class's object -/
section START3
variable {F : Nat} {f g : Hp}
theorem st100 {f : Hp} {fs : List Value} {c : Option AC} {a k : Nat} {v : Value} (h : f 100 = some (.inl (9, fs))) (ha : a ≠ 100) (hk : k < fs.length) : pV (va_up f a c) (some 100) 9 k v = some (va_up (va_up f a c) 100 (some (.inl (9, fs.set k v)))) := pV_e ((up_n (fun e => ha e.symm)).trans h) hk
theorem cstart_e (hF : 50 ≤ F) (S : St4 g) (z : Nat) : ∃ f' z', m_X11_init F (some 100) (va_up g 100 (some (.inl (9, kV .null .null .null .null .null .null .null .null .null .null .null .null)))) 101 z = some (f', 179, z') ∧ z ≤ z' ∧ z' ≤ z + 5000 ∧ KAt f' 102 131 160 0 0 0 ∧ TP f' (fun _ => 0) ∧ HH f' 102 131 109 138 160 h00 [] ∧ f' 166 = ImgC (fun _ => none) ∧ f' 167 = TabC (fun _ => none) ∧ TKA f' ∧ FM f' [] [] ∧ MR f' ∧ ∀ a, (a < 100 ∨ 179 ≤ a) → f' a = g a := by
  -- the tape
  let f1 : Hp := va_up g 100 (some (.inl (9, kV .null .null .null .null .null .null .null .null .null .null .null .null)))
  let f2 : Hp := va_up (va_up f1 101 (rw0 0 740)) 100 (some (.inl (9, kV (.ref 101) .null .null .null .null .null .null .null .null .null .null .null)))
  -- the HOUSES
  obtain ⟨f3, z3, k3, k3a, k3b, H3, S3, fr3⟩ := hinit_h (F := F) (g := f2) (b := 102) hF (by decide) (z + 740 + 12)
  have c3 : f3 100 = some (.inl (9, kV (.ref 101) .null .null .null .null .null .null .null .null .null .null .null)) := (fr3 100 (by omega)).trans up_s
  generalize hf4 : va_up f3 100 (some (.inl (9, kV (.ref 101) (.ref 102) .null .null .null .null .null .null .null .null .null .null))) = f4
  have fr4 : ∀ x, x ≠ 100 → f4 x = f3 x := fun x hx => by rw [← hf4]; exact up_n hx
  have c4 : f4 100 = some (.inl (9, kV (.ref 101) (.ref 102) .null .null .null .null .null .null .null .null .null .null)) := by rw [← hf4]; exact up_s
  obtain ⟨f5, z5, k5, k5a, k5b, H5, S5, fr5⟩ := hinit_h (F := F) (g := f4) (b := 131) hF (by decide) (z3 + 12)
  have c5 := (fr5 100 (by omega)).trans c4
  generalize hf6 : va_up f5 100 (some (.inl (9, kV (.ref 101) (.ref 102) (.ref 131) .null .null .null .null .null .null .null .null .null))) = f6
  have fr6 : ∀ x, x ≠ 100 → f6 x = f5 x := fun x hx => by rw [← hf6]; exact up_n hx
  have c6 : f6 100 = some (.inl (9, kV (.ref 101) (.ref 102) (.ref 131) .null .null .null .null .null .null .null .null .null)) := by rw [← hf6]; exact up_s
  -- the draft SENTENCE
  obtain ⟨f7, k7, c7s, ⟨r1, r1a, r1b⟩, ⟨r2, r2a⟩, ⟨r3, r3a⟩, ⟨r4, r4a⟩, ⟨r5, r5a⟩, fr7⟩ := sinit_e (F := F) (g := f6) (s := 160) (n := 161) (by omega) (by decide) (by decide) (z5 + 6)
  have c7 := (fr7 100 (by decide) (by omega)).trans c6
  generalize hf8 : va_up f7 100 (some (.inl (9, kV (.ref 101) (.ref 102) (.ref 131) (.ref 160) .null .null .null .null .null .null .null .null))) = f8
  have fr8 : ∀ x, x ≠ 100 → f8 x = f7 x := fun x hx => by rw [← hf8]; exact up_n hx
  have c8 : f8 100 = some (.inl (9, kV (.ref 101) (.ref 102) (.ref 131) (.ref 160) .null .null .null .null .null .null .null .null)) := by rw [← hf8]; exact up_s
  -- images, tables
  generalize hf9 : va_up (va_up f8 166 (ImgC fun _ => none)) 100 (some (.inl (9, kV (.ref 101) (.ref 102) (.ref 131) (.ref 160) (.ref 166) .null .null .null .null .null .null .null))) = f9
  have fr9 : ∀ x, x ≠ 100 → x ≠ 166 → f9 x = f8 x := fun x hx h2 => by rw [← hf9]; exact (up_n hx).trans (up_n h2)
  have c9 : f9 100 = some (.inl (9, kV (.ref 101) (.ref 102) (.ref 131) (.ref 160) (.ref 166) .null .null .null .null .null .null .null)) := by rw [← hf9]; exact up_s
  have d9 : f9 166 = ImgC fun _ => none := by rw [← hf9]; exact (up_n (by decide)).trans up_s
  generalize hf10 : va_up (va_up f9 167 (TabC fun _ => none)) 100 (some (.inl (9, kV (.ref 101) (.ref 102) (.ref 131) (.ref 160) (.ref 166) (.ref 167) .null .null .null .null .null .null))) = f10
  have fr10 : ∀ x, x ≠ 100 → x ≠ 167 → f10 x = f9 x := fun x hx h2 => by rw [← hf10]; exact (up_n hx).trans (up_n h2)
  have c10 : f10 100 = some (.inl (9, kV (.ref 101) (.ref 102) (.ref 131) (.ref 160) (.ref 166) (.ref 167) .null .null .null .null .null .null)) := by rw [← hf10]; exact up_s
  have d10 : f10 167 = TabC fun _ => none := by rw [← hf10]; exact (up_n (by decide)).trans up_s
  -- TOKENS, readers
  generalize hf11 : va_up (va_up f10 168 (some (.inl (8, [.ref 101, .int 0, .int 0, .int 0, .int 0, .int 0, .long 0, .ref 0, .int 0, .int 0, .int 0, .int 0])))) 100 (some (.inl (9, kV (.ref 101) (.ref 102) (.ref 131) (.ref 160) (.ref 166) (.ref 167) (.ref 168) .null .null .null .null .null))) = f11
  have fr11 : ∀ x, x ≠ 100 → x ≠ 168 → f11 x = f10 x := fun x hx h2 => by rw [← hf11]; exact (up_n hx).trans (up_n h2)
  have c11 : f11 100 = some (.inl (9, kV (.ref 101) (.ref 102) (.ref 131) (.ref 160) (.ref 166) (.ref 167) (.ref 168) .null .null .null .null .null)) := by rw [← hf11]; exact up_s
  have d11 : f11 168 = some (.inl (8, [.ref 101, .int 0, .int 0, .int 0, .int 0, .int 0, .long 0, .ref 0, .int 0, .int 0, .int 0, .int 0])) := by rw [← hf11]; exact (up_n (by decide)).trans up_s
  generalize hf12 : va_up (va_up f11 169 (some (.inl (4, [.ref 168, .null, .int 0, .int 0, .int 0, .int 0])))) 100 (some (.inl (9, kV (.ref 101) (.ref 102) (.ref 131) (.ref 160) (.ref 166) (.ref 167) (.ref 168) (.ref 169) .null .null .null .null))) = f12
  have fr12 : ∀ x, x ≠ 100 → x ≠ 169 → f12 x = f11 x := fun x hx h2 => by rw [← hf12]; exact (up_n hx).trans (up_n h2)
  have c12 : f12 100 = some (.inl (9, kV (.ref 101) (.ref 102) (.ref 131) (.ref 160) (.ref 166) (.ref 167) (.ref 168) (.ref 169) .null .null .null .null)) := by rw [← hf12]; exact up_s
  have d12 : f12 169 = some (.inl (4, [.ref 168, .null, .int 0, .int 0, .int 0, .int 0])) := by rw [← hf12]; exact (up_n (by decide)).trans up_s
  generalize hf13 : va_up (va_up f12 170 (some (.inl (7, [.ref 168, .null, .null, .int 0])))) 100 (some (.inl (9, kV (.ref 101) (.ref 102) (.ref 131) (.ref 160) (.ref 166) (.ref 167) (.ref 168) (.ref 169) (.ref 170) .null .null .null))) = f13
  have fr13 : ∀ x, x ≠ 100 → x ≠ 170 → f13 x = f12 x := fun x hx h2 => by rw [← hf13]; exact (up_n hx).trans (up_n h2)
  have c13 : f13 100 = some (.inl (9, kV (.ref 101) (.ref 102) (.ref 131) (.ref 160) (.ref 166) (.ref 167) (.ref 168) (.ref 169) (.ref 170) .null .null .null)) := by rw [← hf13]; exact up_s
  have d13 : f13 170 = some (.inl (7, [.ref 168, .null, .null, .int 0])) := by rw [← hf13]; exact (up_n (by decide)).trans up_s
  -- the FAMILY
  generalize hf14 : va_up f13 171 (some (.inl (2, [.int 0, .null, .null, .null, .null, .null, .null]))) = f14
  have fr14 : ∀ x, x ≠ 171 → f14 x = f13 x := fun x hx => by rw [← hf14]; exact up_n hx
  obtain ⟨f15, k15, d15, ⟨e1, e2, e3, e4, e5, e6⟩, fr15⟩ := finit_e (F := F) (f := f14) (by rw [← hf14]; exact up_s) (z5 + 6 + 40 + 40 + 40 + 40 + 40 + 2 + 8 + 12 + 6 + 4 + 7)
  have c15 := (fr15 100 (by omega)).trans ((fr14 100 (by decide)).trans c13)
  generalize hf16 : va_up f15 100 (some (.inl (9, kV (.ref 101) (.ref 102) (.ref 131) (.ref 160) (.ref 166) (.ref 167) (.ref 168) (.ref 169) (.ref 170) (.ref 171) .null .null))) = f16
  have fr16 : ∀ x, x ≠ 100 → f16 x = f15 x := fun x hx => by rw [← hf16]; exact up_n hx
  have c16 : f16 100 = some (.inl (9, kV (.ref 101) (.ref 102) (.ref 131) (.ref 160) (.ref 166) (.ref 167) (.ref 168) (.ref 169) (.ref 170) (.ref 171) .null .null)) := by rw [← hf16]; exact up_s
  generalize hf17 : va_up (va_up f16 178 (rw0 1 7)) 100 (some (.inl (9, kC 102 131 160 0 0 0))) = f17
  have fr17 : ∀ x, x ≠ 100 → x ≠ 178 → f17 x = f16 x := fun x hx h2 => by rw [← hf17]; exact (up_n hx).trans (up_n h2)
  have c17 : f17 100 = some (.inl (9, kC 102 131 160 0 0 0)) := by rw [← hf17]; exact up_s
  have d17 : f17 178 = rw0 1 7 := by rw [← hf17]; exact (up_n (by decide)).trans up_s
  -- what is left of what
  have g15 : ∀ x, x ≠ 100 → x < 178 → f17 x = f15 x := fun x h1 h2 => (fr17 x h1 (by omega)).trans (fr16 x h1)
  have g13 : ∀ x, x ≠ 100 → x < 171 → f17 x = f13 x := fun x h1 h2 => (g15 x h1 (by omega)).trans ((fr15 x (by omega)).trans (fr14 x (by omega)))
  have g10 : ∀ x, x ≠ 100 → x < 168 → f17 x = f10 x := fun x h1 h2 => (g13 x h1 (by omega)).trans ((fr13 x h1 (by omega)).trans ((fr12 x h1 (by omega)).trans (fr11 x h1 (by omega))))
  have g7 : ∀ x, x ≠ 100 → x < 166 → f17 x = f7 x := fun x h1 h2 => (g10 x h1 (by omega)).trans ((fr10 x h1 (by omega)).trans ((fr9 x h1 (by omega)).trans (fr8 x h1)))
  have g5 : ∀ x, x ≠ 100 → x < 160 → f17 x = f5 x := fun x h1 h2 => (g7 x h1 (by omega)).trans ((fr7 x (by omega) (by omega)).trans (fr6 x h1))
  have g3 : ∀ x, x ≠ 100 → x < 131 → f17 x = f3 x := fun x h1 h2 => (g5 x h1 (by omega)).trans ((fr5 x (by omega)).trans (fr4 x h1))
  have gg : ∀ x, (x < 100 ∨ 179 ≤ x) → f17 x = g x := fun x hx => by
    have a1 : f17 x = f13 x := (fr17 x (by omega) (by omega)).trans ((fr16 x (by omega)).trans ((fr15 x (by omega)).trans (fr14 x (by omega))))
    have a2 : f13 x = f7 x := (fr13 x (by omega) (by omega)).trans ((fr12 x (by omega) (by omega)).trans ((fr11 x (by omega) (by omega)).trans ((fr10 x (by omega) (by omega)).trans ((fr9 x (by omega) (by omega)).trans (fr8 x (by omega))))))
    have a3 : f7 x = f2 x := (fr7 x (by omega) (by omega)).trans ((fr6 x (by omega)).trans ((fr5 x (by omega)).trans ((fr4 x (by omega)).trans (fr3 x (by omega)))))
    rw [a1, a2, a3]
    show va_up (va_up (va_up g 100 _) 101 _) 100 _ x = g x
    rw [up_n (by omega), up_n (by omega), up_n (by omega)]
  have vac : ∀ {P : Nat → Prop}, ∀ i, i < 0 → P i := fun i hi => absurd hi (Nat.not_lt_zero _)
  refine ⟨f17, z5 + 6 + 40 + 40 + 40 + 40 + 40 + 2 + 8 + 12 + 6 + 4 + 7 + 10 + 10 + 100 + 10 + 10 + 10 + 7, ?_, by omega, by omega, c17, ⟨fun _ => 0, (g3 101 (by decide) (by decide)).trans ((fr3 101 (by omega)).trans ((up_n (by decide)).trans up_s)), fun i _ => ⟨Nat.zero_lt_of_lt (show 0 < 256 by decide), rfl⟩⟩, ⟨H3.frame (fun a _ _ _ => g3 a (by omega) (by omega)) okH_hE, okH_hE, S3.frame (fun a _ _ => g3 a (by omega) (by omega)), fun e he => absurd he List.not_mem_nil, ⟨h00, H5.frame (fun a _ _ _ => g5 a (by omega) (by omega)) okH_hE, okH_hE⟩, ⟨[], S5.frame (fun a _ _ => g5 a (by omega) (by omega))⟩, ⟨[], by decide, (g7 _ (by decide) (by decide)).trans c7s, ⟨r1, (g7 _ (by decide) (by decide)).trans r1a, fun i hi => absurd hi (Nat.not_lt_zero _), fun i hi => ⟨0, r1b i hi, by decide⟩⟩, ⟨r2, (g7 _ (by decide) (by decide)).trans r2a, fun i hi => absurd hi (Nat.not_lt_zero _)⟩, ⟨r3, (g7 _ (by decide) (by decide)).trans r3a, fun i hi => absurd hi (Nat.not_lt_zero _)⟩, ⟨r4, (g7 _ (by decide) (by decide)).trans r4a, fun i hi => absurd hi (Nat.not_lt_zero _)⟩, ⟨r5, (g7 _ (by decide) (by decide)).trans r5a, fun i hi => absurd hi (Nat.not_lt_zero _)⟩⟩, Or.inl ⟨rfl, rfl⟩, by unfold SS; decide⟩, (g10 _ (by decide) (by decide)).trans ((fr10 _ (by decide) (by decide)).trans d9), (g10 _ (by decide) (by decide)).trans d10, ⟨⟨_, _, _, _, _, _, 0, _, _, _, _, by decide, (g13 _ (by decide) (by decide)).trans ((fr13 _ (by decide) (by decide)).trans ((fr12 _ (by decide) (by decide)).trans d11))⟩, ⟨_, _, _, _, _, (g13 _ (by decide) (by decide)).trans ((fr13 _ (by decide) (by decide)).trans d12)⟩, ⟨_, _, _, (g13 _ (by decide) (by decide)).trans d13⟩⟩, ⟨by decide, rfl, fun x hx => absurd hx List.not_mem_nil, (g15 _ (by decide) (by decide)).trans d15, ⟨_, (g15 _ (by decide) (by decide)).trans e1, fun i hi => absurd hi (Nat.not_lt_zero _)⟩, ⟨_, (g15 _ (by decide) (by decide)).trans e2, fun i hi => absurd hi (Nat.not_lt_zero _)⟩, ⟨_, (g15 _ (by decide) (by decide)).trans e3⟩, ⟨_, (g15 _ (by decide) (by decide)).trans e4⟩, ⟨_, (g15 _ (by decide) (by decide)).trans e5⟩, ⟨_, (g15 _ (by decide) (by decide)).trans e6⟩⟩, ⟨_, d17⟩, gg⟩
  unfold m_X11_init
  rw [ck_e (b := isS (some 100)) rfl, show Int32.toNatClampNeg (740 : Int32) = 740 from rfl, show Int32.toNatClampNeg (2 : Int32) = 2 from rfl, show Int32.toNatClampNeg (8 : Int32) = 8 from rfl, show Int32.toNatClampNeg (7 : Int32) = 7 from rfl, ck_e (by decide)]
  refine grow_s ?_ (by show _ ≤ 179; omega) (by show _ ≤ z5 + 6 + 40 + 40 + 40 + 40 + 40 + 2 + 8 + 12 + 6 + 4 + 7 + 10 + 10 + 100 + 10 + 10 + 10 + 7; omega)
  rw [nm_e2]
  refine Eq.trans (bd_e (show pV (va_up f1 101 (rw0 0 740)) (some 100) 9 0 (.ref 101) = some f2 from st100 up_s (by decide) (by decide))) ?_
  refine grow_s ?_ (by show _ ≤ 179; omega) (by show _ ≤ z5 + 6 + 40 + 40 + 40 + 40 + 40 + 2 + 8 + 12 + 6 + 4 + 7 + 10 + 10 + 100 + 10 + 10 + 10 + 7; omega)
  rw [nm_e2]
  refine Eq.trans (bd3_e k3) ?_
  rw [ck_e (decide_eq_true ⟨by omega, by omega⟩)]
  refine grow_s ?_ (by show _ ≤ 179; omega) (by show _ ≤ z5 + 6 + 40 + 40 + 40 + 40 + 40 + 2 + 8 + 12 + 6 + 4 + 7 + 10 + 10 + 100 + 10 + 10 + 10 + 7; omega)
  refine Eq.trans (bd_e (show pV f3 (some 100) 9 2 (.ref 102) = some f4 from (pV_e c3 (Nat.le_of_ble_eq_true rfl)).trans (congrArg some hf4))) ?_
  refine grow_s ?_ (by show _ ≤ 179; omega) (by show _ ≤ z5 + 6 + 40 + 40 + 40 + 40 + 40 + 2 + 8 + 12 + 6 + 4 + 7 + 10 + 10 + 100 + 10 + 10 + 10 + 7; omega)
  rw [nm_e2]
  refine Eq.trans (bd3_e k5) ?_
  rw [ck_e (decide_eq_true ⟨by omega, by omega⟩)]
  refine grow_s ?_ (by show _ ≤ 179; omega) (by show _ ≤ z5 + 6 + 40 + 40 + 40 + 40 + 40 + 2 + 8 + 12 + 6 + 4 + 7 + 10 + 10 + 100 + 10 + 10 + 10 + 7; omega)
  refine Eq.trans (bd_e (show pV f5 (some 100) 9 3 (.ref 131) = some f6 from (pV_e c5 (Nat.le_of_ble_eq_true rfl)).trans (congrArg some hf6))) ?_
  refine grow_s ?_ (by show _ ≤ 179; omega) (by show _ ≤ z5 + 6 + 40 + 40 + 40 + 40 + 40 + 2 + 8 + 12 + 6 + 4 + 7 + 10 + 10 + 100 + 10 + 10 + 10 + 7; omega)
  rw [nm_e2]
  refine Eq.trans (bd3_e k7) ?_
  rw [ck_e (decide_eq_true ⟨by omega, by omega⟩)]
  refine grow_s ?_ (by show _ ≤ 179; omega) (by show _ ≤ z5 + 6 + 40 + 40 + 40 + 40 + 40 + 2 + 8 + 12 + 6 + 4 + 7 + 10 + 10 + 100 + 10 + 10 + 10 + 7; omega)
  refine Eq.trans (bd_e (show pV f7 (some 100) 9 4 (.ref 160) = some f8 from (pV_e c7 (Nat.le_of_ble_eq_true rfl)).trans (congrArg some hf8))) ?_
  rw [ck_e (by decide)]
  refine grow_s ?_ (by show _ ≤ 179; omega) (by show _ ≤ z5 + 6 + 40 + 40 + 40 + 40 + 40 + 2 + 8 + 12 + 6 + 4 + 7 + 10 + 10 + 100 + 10 + 10 + 10 + 7; omega)
  rw [nm_e2]
  refine Eq.trans (bd_e (show pV (va_up f8 166 (ImgC fun _ => none)) (some 100) 9 5 (.ref 166) = some f9 from (st100 c8 (by decide) (by decide)).trans (congrArg some hf9))) ?_
  rw [ck_e (by decide)]
  refine grow_s ?_ (by show _ ≤ 179; omega) (by show _ ≤ z5 + 6 + 40 + 40 + 40 + 40 + 40 + 2 + 8 + 12 + 6 + 4 + 7 + 10 + 10 + 100 + 10 + 10 + 10 + 7; omega)
  rw [nm_e2]
  refine Eq.trans (bd_e (show pV (va_up f9 167 (TabC fun _ => none)) (some 100) 9 6 (.ref 167) = some f10 from (st100 c9 (by decide) (by decide)).trans (congrArg some hf10))) ?_
  refine grow_s ?_ (by show _ ≤ 179; omega) (by show _ ≤ z5 + 6 + 40 + 40 + 40 + 40 + 40 + 2 + 8 + 12 + 6 + 4 + 7 + 10 + 10 + 100 + 10 + 10 + 10 + 7; omega)
  rw [nm_e2]
  refine Eq.trans (bd_e (gR_s (a := 100) ((up_n (by decide)).trans c10) rfl)) ?_
  refine grow_s ?_ (by show _ ≤ 179; omega) (by show _ ≤ z5 + 6 + 40 + 40 + 40 + 40 + 40 + 2 + 8 + 12 + 6 + 4 + 7 + 10 + 10 + 100 + 10 + 10 + 10 + 7; omega)
  have q8 : ∀ v : Hp, m_X9_init F (some 168) (some 101) (va_up v 168 (some (.inl (8, [.null, .int 0, .int 0, .int 0, .int 0, .int 0, .long 0, .null, .int 0, .int 0, .int 0, .int 0])))) = some (va_up v 168 (some (.inl (8, [.ref 101, .int 0, .int 0, .int 0, .int 0, .int 0, .long 0, .ref 0, .int 0, .int 0, .int 0, .int 0])))) := fun v => by
    unfold m_X9_init
    rw [ck_e (b := isS (some 168)) rfl, bd_e (show pV (va_up v 168 (some (.inl (8, [.null, .int 0, .int 0, .int 0, .int 0, .int 0, .long 0, .null, .int 0, .int 0, .int 0, .int 0])))) (some 168) 8 7 (va_rf (some 0)) = some (va_up v 168 (some (.inl (8, [.null, .int 0, .int 0, .int 0, .int 0, .int 0, .long 0, .ref 0, .int 0, .int 0, .int 0, .int 0])))) from pV_u (Nat.le_of_ble_eq_true rfl)), bd_e (show pV (va_up v 168 (some (.inl (8, [.null, .int 0, .int 0, .int 0, .int 0, .int 0, .long 0, .ref 0, .int 0, .int 0, .int 0, .int 0])))) (some 168) 8 0 (va_rf (some 101)) = _ from pV_u (Nat.le_of_ble_eq_true rfl))]
    rfl
  refine Eq.trans (bd_e (q8 _)) ?_
  refine Eq.trans (bd_e (show pV (va_up f10 168 (some (.inl (8, [.ref 101, .int 0, .int 0, .int 0, .int 0, .int 0, .long 0, .ref 0, .int 0, .int 0, .int 0, .int 0])))) (some 100) 9 7 (.ref 168) = some f11 from (st100 c10 (by decide) (by decide)).trans (congrArg some hf11))) ?_
  refine grow_s ?_ (by show _ ≤ 179; omega) (by show _ ≤ z5 + 6 + 40 + 40 + 40 + 40 + 40 + 2 + 8 + 12 + 6 + 4 + 7 + 10 + 10 + 100 + 10 + 10 + 10 + 7; omega)
  rw [nm_e2]
  refine Eq.trans (bd_e (gR_s (a := 100) ((up_n (by decide)).trans c11) rfl)) ?_
  refine grow_s ?_ (by show _ ≤ 179; omega) (by show _ ≤ z5 + 6 + 40 + 40 + 40 + 40 + 40 + 2 + 8 + 12 + 6 + 4 + 7 + 10 + 10 + 100 + 10 + 10 + 10 + 7; omega)
  have q5 : ∀ v : Hp, m_X5_init F (some 169) (some 168) (va_up v 169 (some (.inl (4, [.null, .null, .int 0, .int 0, .int 0, .int 0])))) = some (va_up v 169 (some (.inl (4, [.ref 168, .null, .int 0, .int 0, .int 0, .int 0])))) := fun v => by
    unfold m_X5_init
    rw [ck_e (b := isS (some 169)) rfl, bd_e (show pV (va_up v 169 (some (.inl (4, [.null, .null, .int 0, .int 0, .int 0, .int 0])))) (some 169) 4 0 (va_rf (some 168)) = _ from pV_u (Nat.le_of_ble_eq_true rfl))]
    rfl
  refine Eq.trans (bd_e (q5 _)) ?_
  refine Eq.trans (bd_e (show pV (va_up f11 169 (some (.inl (4, [.ref 168, .null, .int 0, .int 0, .int 0, .int 0])))) (some 100) 9 8 (.ref 169) = some f12 from (st100 c11 (by decide) (by decide)).trans (congrArg some hf12))) ?_
  refine grow_s ?_ (by show _ ≤ 179; omega) (by show _ ≤ z5 + 6 + 40 + 40 + 40 + 40 + 40 + 2 + 8 + 12 + 6 + 4 + 7 + 10 + 10 + 100 + 10 + 10 + 10 + 7; omega)
  rw [nm_e2]
  refine Eq.trans (bd_e (gR_s (a := 100) ((up_n (by decide)).trans c12) rfl)) ?_
  refine grow_s ?_ (by show _ ≤ 179; omega) (by show _ ≤ z5 + 6 + 40 + 40 + 40 + 40 + 40 + 2 + 8 + 12 + 6 + 4 + 7 + 10 + 10 + 100 + 10 + 10 + 10 + 7; omega)
  have q7 : ∀ v : Hp, m_X8_init F (some 170) (some 168) (va_up v 170 (some (.inl (7, [.null, .null, .null, .int 0])))) = some (va_up v 170 (some (.inl (7, [.ref 168, .null, .null, .int 0])))) := fun v => by
    unfold m_X8_init
    rw [ck_e (b := isS (some 170)) rfl, bd_e (show pV (va_up v 170 (some (.inl (7, [.null, .null, .null, .int 0])))) (some 170) 7 0 (va_rf (some 168)) = _ from pV_u (Nat.le_of_ble_eq_true rfl))]
    rfl
  refine Eq.trans (bd_e (q7 _)) ?_
  refine Eq.trans (bd_e (show pV (va_up f12 170 (some (.inl (7, [.ref 168, .null, .null, .int 0])))) (some 100) 9 9 (.ref 170) = some f13 from (st100 c12 (by decide) (by decide)).trans (congrArg some hf13))) ?_
  refine grow_s ?_ (by show _ ≤ 179; omega) (by show _ ≤ z5 + 6 + 40 + 40 + 40 + 40 + 40 + 2 + 8 + 12 + 6 + 4 + 7 + 10 + 10 + 100 + 10 + 10 + 10 + 7; omega)
  rw [nm_e2]
  rw [← hf14] at k15
  refine Eq.trans (bd3_e k15) ?_
  rw [ck_e (decide_eq_true ⟨by omega, by omega⟩)]
  refine grow_s ?_ (by show _ ≤ 179; omega) (by show _ ≤ z5 + 6 + 40 + 40 + 40 + 40 + 40 + 2 + 8 + 12 + 6 + 4 + 7 + 10 + 10 + 100 + 10 + 10 + 10 + 7; omega)
  refine Eq.trans (bd_e (show pV f15 (some 100) 9 10 (.ref 171) = some f16 from (pV_e c15 (Nat.le_of_ble_eq_true rfl)).trans (congrArg some hf16))) ?_
  rw [ck_e (by decide)]
  refine grow_s ?_ (by show _ ≤ 179; omega) (by show _ ≤ z5 + 6 + 40 + 40 + 40 + 40 + 40 + 2 + 8 + 12 + 6 + 4 + 7 + 10 + 10 + 100 + 10 + 10 + 10 + 7; omega)
  rw [nm_e2]
  exact bd_e (show pV (va_up f16 178 (rw0 1 7)) (some 100) 9 11 (.ref 178) = some f17 from (st100 c16 (by decide) (by decide)).trans (congrArg some hf17))
end START3
