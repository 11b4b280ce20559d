/-! the start: the HOUSES of the class -/
section START
variable {F : Nat} {f g : Hp} {b s n : Nat}
theorem hinit_h (hF : 50 ≤ F) (hb : 100 ≤ b) (z : Nat) : ∃ f' z', m_X4_init F (some b) (va_up g b (some (.inl (3, [.int 0, .int 0, .null, .int 0, .null, .null, .int 0, .null, .null, .int 0, .null, .null])))) (b + 1) z = some (f', b + 29, z') ∧ z ≤ z' ∧ z' ≤ z + 900 ∧ HAt f' b (b + 7) h00 ∧ SAt f' (b + 7) [] ∧ ∀ x, x < b ∨ b + 29 ≤ x → f' x = g x := by
  let G6 : Hp := va_up (va_up (va_up (va_up (va_up (va_up g (b + 1) (rwR 4 10 (fun _ => none))) (b + 2) (rwR 5 6 (fun _ => none))) (b + 3) (rwI 6 (fun _ => 0))) (b + 4) (rwI 12 (fun _ => 0))) (b + 5) (rwI 12 (fun _ => 0))) (b + 6) (rwI 49 (fun _ => 0))
  let G7 : Hp := va_up G6 b (some (.inl (3, [.int 4, .int 0, .ref (b + 1), .int 0, .ref (b + 2), .ref (b + 3), .int 0, .ref (b + 4), .ref (b + 5), .int 0, .ref (b + 6), .null])))
  have g6 : ∀ x, (x < b + 1 ∨ b + 7 ≤ x) → G6 x = g x := fun x hx => by
    show va_up (va_up (va_up (va_up (va_up (va_up g _ _) _ _) _ _) _ _) _ _) _ _ x = _
    rw [up_n (by omega), up_n (by omega), up_n (by omega), up_n (by omega), up_n (by omega), up_n (by omega)]
  have g7 : ∀ x, x ≠ b → G7 x = G6 x := fun x hx => up_n hx
  have e1 : G6 (b + 1) = rwR 4 10 (fun _ => none) := by
    show va_up (va_up (va_up (va_up (va_up (va_up g _ _) _ _) _ _) _ _) _ _) _ _ (b + 1) = _
    rw [up_n (by omega), up_n (by omega), up_n (by omega), up_n (by omega), up_n (by omega), up_s]
  have e2 : G6 (b + 2) = rwR 5 6 (fun _ => none) := by
    show va_up (va_up (va_up (va_up (va_up (va_up g _ _) _ _) _ _) _ _) _ _) _ _ (b + 2) = _
    rw [up_n (by omega), up_n (by omega), up_n (by omega), up_n (by omega), up_s]
  have e3 : G6 (b + 3) = rwI 6 (fun _ => 0) := by
    show va_up (va_up (va_up (va_up (va_up (va_up g _ _) _ _) _ _) _ _) _ _) _ _ (b + 3) = _
    rw [up_n (by omega), up_n (by omega), up_n (by omega), up_s]
  have e4 : G6 (b + 4) = rwI 12 (fun _ => 0) := by
    show va_up (va_up (va_up (va_up (va_up (va_up g _ _) _ _) _ _) _ _) _ _) _ _ (b + 4) = _
    rw [up_n (by omega), up_n (by omega), up_s]
  have e5 : G6 (b + 5) = rwI 12 (fun _ => 0) := by
    show va_up (va_up (va_up (va_up (va_up (va_up g _ _) _ _) _ _) _ _) _ _) _ _ (b + 5) = _
    rw [up_n (by omega), up_s]
  have e6 : G6 (b + 6) = rwI 49 (fun _ => 0) := by
    show va_up (va_up (va_up (va_up (va_up (va_up g _ _) _ _) _ _) _ _) _ _) _ _ (b + 6) = _
    rw [up_s]
  obtain ⟨f8, k8, c8, ⟨r1, r1a, r1b⟩, ⟨r2, r2a⟩, ⟨r3, r3a⟩, ⟨r4, r4a⟩, ⟨r5, r5a⟩, fr8⟩ := sinit_e (F := F) (g := G7) (s := b + 7) (n := b + 8) (by omega) (by omega) (by omega) (z + 10 + 6 + 6 + 12 + 12 + 49 + 6)
  have b8 : f8 b = some (.inl (3, [.int 4, .int 0, .ref (b + 1), .int 0, .ref (b + 2), .ref (b + 3), .int 0, .ref (b + 4), .ref (b + 5), .int 0, .ref (b + 6), .null])) := (fr8 b (by omega) (by omega)).trans up_s
  generalize hf9 : va_up f8 b (some (.inl (3, hcI b (b + 7) 4 0 0 0 0))) = f9
  have fr9 : ∀ x, x ≠ b → f9 x = f8 x := fun x hx => by rw [← hf9]; exact up_n hx
  have c9 : f9 b = some (.inl (3, hcI b (b + 7) 4 0 0 0 0)) := by rw [← hf9]; exact up_s
  have g9 : ∀ x, b + 1 ≤ x → x < b + 7 → f9 x = G6 x := fun x h1 h2 => (fr9 x (by omega)).trans ((fr8 x (by omega) (by omega)).trans (g7 x (by omega)))
  obtain ⟨f10, q10, k10, k10a, k10b, k10c, fr10⟩ := hin_72 (F := F) (b := b) hb (fs := hcI b (b + 7) 4 0 0 0 0) rfl 10 0 F f9 (fun _ => none) (z + 10 + 6 + 6 + 12 + 12 + 49 + 6 + 40 + 40 + 40 + 40 + 40) (by omega) (by omega) c9 ((g9 _ (by omega) (by omega)).trans e1) (fun _ c => absurd c (Nat.not_lt_zero _)) (fun _ c => absurd c (Nat.not_lt_zero _))
  obtain ⟨f11, q11, w11, k11, k11a, k11b, k11c, k11d, k11e, fr11⟩ := hin_99 (F := F) (b := b) hF hb (fs := hcI b (b + 7) 4 0 0 0 0) rfl rfl (w3 := fun _ => 0) 6 0 F f10 (fun _ => none) (z + 10 + 6 + 6 + 12 + 12 + 49 + 6 + 40 + 40 + 40 + 40 + 40 + 6 * 10) (by omega) (by omega) ((fr10 _ (by omega) (by omega)).trans c9) ((fr10 _ (by omega) (by omega)).trans ((g9 _ (by omega) (by omega)).trans e2)) ((fr10 _ (by omega) (by omega)).trans ((g9 _ (by omega) (by omega)).trans e3)) (fun _ c => absurd c (Nat.not_lt_zero _)) (fun _ c => absurd c (Nat.not_lt_zero _))
  have k72 := k10 _ k11 (by show b + 23 ≤ b + 29; omega) (by show _ ≤ z + 10 + 6 + 6 + 12 + 12 + 49 + 6 + 40 + 40 + 40 + 40 + 40 + 6 * 10 + 3 * 6; omega)
  have g11 : ∀ x, x ≠ b + 1 → x ≠ b + 2 → x ≠ b + 3 → (x < b + 13 ∨ b + 29 ≤ x) → f11 x = f9 x := fun x h1 h2 h3 h4 => (fr11 x h2 h3 (by omega)).trans (fr10 x h1 (by omega))
  refine ⟨f11, z + 10 + 6 + 6 + 12 + 12 + 49 + 6 + 40 + 40 + 40 + 40 + 40 + 6 * 10 + 3 * 6, ?_, by omega, by omega, ⟨(g11 _ (by omega) (by omega) (by omega) (by omega)).trans c9, ⟨q10, (fr11 _ (by omega) (by omega) (by omega)).trans k10a, k10b⟩, ⟨q11, k11a, k11b⟩, ⟨w11, k11c, k11d⟩, ⟨_, (g11 _ (by omega) (by omega) (by omega) (by omega)).trans ((g9 _ (by omega) (by omega)).trans e4), fun i hi => absurd hi (Nat.not_lt_zero _)⟩, ⟨_, (g11 _ (by omega) (by omega) (by omega) (by omega)).trans ((g9 _ (by omega) (by omega)).trans e5), fun i hi => absurd hi (Nat.not_lt_zero _)⟩, ⟨_, (g11 _ (by omega) (by omega) (by omega) (by omega)).trans ((g9 _ (by omega) (by omega)).trans e6), fun _ _ => rfl⟩, fun i hi => absurd hi (Nat.not_lt_zero _), fun c _ hc => ?_, fun i hi => absurd hi (Nat.not_lt_zero _), fun d _ hd => k11e d hd⟩, ⟨by decide, (g11 _ (by omega) (by omega) (by omega) (by omega)).trans ((fr9 _ (by omega)).trans c8), ⟨r1, (g11 _ (by omega) (by omega) (by omega) (by omega)).trans ((fr9 _ (by omega)).trans r1a), fun i hi => absurd hi (Nat.not_lt_zero _), fun i hi => ⟨0, r1b i hi, by decide⟩⟩, ⟨r2, (g11 _ (by omega) (by omega) (by omega) (by omega)).trans ((fr9 _ (by omega)).trans r2a), fun i hi => absurd hi (Nat.not_lt_zero _)⟩, ⟨r3, (g11 _ (by omega) (by omega) (by omega) (by omega)).trans ((fr9 _ (by omega)).trans r3a), fun i hi => absurd hi (Nat.not_lt_zero _)⟩, ⟨r4, (g11 _ (by omega) (by omega) (by omega) (by omega)).trans ((fr9 _ (by omega)).trans r4a), fun i hi => absurd hi (Nat.not_lt_zero _)⟩, ⟨r5, (g11 _ (by omega) (by omega) (by omega) (by omega)).trans ((fr9 _ (by omega)).trans r5a), fun i hi => absurd hi (Nat.not_lt_zero _)⟩⟩, fun x hx => ?_⟩
  · unfold m_X4_init
    rw [ck_e (b := isS (some b)) rfl, show Int32.toNatClampNeg (10 : Int32) = 10 from rfl, show Int32.toNatClampNeg (6 : Int32) = 6 from rfl, show Int32.toNatClampNeg (12 : Int32) = 12 from rfl, show Int32.toNatClampNeg (49 : Int32) = 49 from rfl, bd_e (pV_u (by simp)), ck_e (by decide)]
    refine grow_s ?_ (by show _ ≤ b + 29; omega) (by show _ ≤ z + 10 + 6 + 6 + 12 + 12 + 49 + 6 + 40 + 40 + 40 + 40 + 40 + 6 * 10 + 3 * 6; omega)
    rw [nm_e2, bd_e (st_al (by omega) (by simp)), ck_e (by decide)]
    refine grow_s ?_ (by show _ ≤ b + 29; omega) (by show _ ≤ z + 10 + 6 + 6 + 12 + 12 + 49 + 6 + 40 + 40 + 40 + 40 + 40 + 6 * 10 + 3 * 6; omega)
    rw [nm_e2, bd_e (st_al (by omega) (by simp)), ck_e (by decide)]
    refine grow_s ?_ (by show _ ≤ b + 29; omega) (by show _ ≤ z + 10 + 6 + 6 + 12 + 12 + 49 + 6 + 40 + 40 + 40 + 40 + 40 + 6 * 10 + 3 * 6; omega)
    rw [nm_e2, bd_e (st_al (by omega) (by simp)), ck_e (by decide)]
    refine grow_s ?_ (by show _ ≤ b + 29; omega) (by show _ ≤ z + 10 + 6 + 6 + 12 + 12 + 49 + 6 + 40 + 40 + 40 + 40 + 40 + 6 * 10 + 3 * 6; omega)
    rw [nm_e2, bd_e (st_al (by omega) (by simp)), ck_e (by decide)]
    refine grow_s ?_ (by show _ ≤ b + 29; omega) (by show _ ≤ z + 10 + 6 + 6 + 12 + 12 + 49 + 6 + 40 + 40 + 40 + 40 + 40 + 6 * 10 + 3 * 6; omega)
    rw [nm_e2, bd_e (st_al (by omega) (by simp)), ck_e (by decide)]
    refine grow_s ?_ (by show _ ≤ b + 29; omega) (by show _ ≤ z + 10 + 6 + 6 + 12 + 12 + 49 + 6 + 40 + 40 + 40 + 40 + 40 + 6 * 10 + 3 * 6; omega)
    rw [nm_e2, bd_e (st_al (by omega) (by simp))]
    refine grow_s ?_ (by show _ ≤ b + 29; omega) (by show _ ≤ z + 10 + 6 + 6 + 12 + 12 + 49 + 6 + 40 + 40 + 40 + 40 + 40 + 6 * 10 + 3 * 6; omega)
    rw [nm_e2]
    refine Eq.trans (bd3_e k8) ?_
    rw [ck_e (decide_eq_true ⟨by omega, by omega⟩)]
    refine grow_s ?_ (by show _ ≤ b + 29; omega) (by show _ ≤ z + 10 + 6 + 6 + 12 + 12 + 49 + 6 + 40 + 40 + 40 + 40 + 40 + 6 * 10 + 3 * 6; omega)
    have s11 : pV f8 (some b) 3 11 (.ref (b + 7)) = some f9 := by
      rw [← hf9]
      exact pV_e b8 (Nat.le_of_ble_eq_true rfl)
    refine Eq.trans (bd_e s11) ?_
    exact k72
  · obtain ⟨u0, u1, u2, u3, u4, u5, u⟩ := k10c c hc
    exact ⟨_, _, _, _, _, _, (fr11 _ (by omega) (by omega) (by omega)).trans u⟩
  · exact (g11 x (by omega) (by omega) (by omega) (by omega)).trans ((fr9 x (by omega)).trans ((fr8 x (by omega) (by omega)).trans ((g7 x (by omega)).trans (g6 x (by omega)))))
end START
