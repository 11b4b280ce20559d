/-! a new HOUSE -/
theorem okR_0 {f : Hp} {o : Nat} {fs : List Value} (h : f o = some (.inl (0, fs))) : okR f 4 (some o) = true := by
  unfold okR
  simp only [h]
  rw [if_neg (by decide)]
  exact decide_eq_true rfl
theorem okR_1 {f : Hp} {o : Nat} {fs : List Value} (h : f o = some (.inl (1, fs))) : okR f 5 (some o) = true := by
  unfold okR
  simp only [h]
  rw [if_neg (by decide)]
  exact decide_eq_true rfl
theorem okR_3 {f : Hp} {o : Nat} {fs : List Value} (h : f o = some (.inl (3, fs))) : okR f 6 (some o) = true := by
  unfold okR
  simp only [h]
  rw [if_neg (by decide)]
  exact decide_eq_true rfl
section HINIT
variable {F : Nat} {f g : Hp} {b s n z : Nat}
theorem sin_L {s n na za : Nat} (hn : 100 ≤ n) (hsn : s ≠ n) {fs : List Value} (hl : fs[1]? = some (.ref n)) : ∀ (d i w : Nat) (f : Hp) (q : Nat → Option Nat), i + d = 40 → d < w → f s = some (.inl (6, fs)) → f n = rwR 8 40 q → (∀ j, j < i → q j = some 0) → ∃ f' q', m_X7_init_L47 F w (some s) (nI i) f na za = some (f', na, za) ∧ f' n = rwR 8 40 q' ∧ (∀ j, j < 40 → q' j = some 0) ∧ ∀ x, x ≠ n → f' x = f x := by
  intro d
  induction d with
  | zero =>
    intro i w f q hi hw hs hr hq
    obtain ⟨w, rfl⟩ : ∃ j, w = j + 1 := ⟨w - 1, by omega⟩
    refine ⟨f, q, ?_, hr, fun j hj => hq j (by omega), fun _ _ => rfl⟩
    show m_X7_init_b47 F _ _ _ _ _ _ = _
    unfold m_X7_init_b47
    rw [if_pos (show (40 : Int32) ≤ nI i from nI_le (a := 40) (by omega) (by omega))]
  | succ d ih =>
    intro i w f q hi hw hs hr hq
    obtain ⟨w, rfl⟩ : ∃ j, w = j + 1 := ⟨w - 1, by omega⟩
    obtain ⟨f', q', i1, i2, i3, i4⟩ := ih (i + 1) w (va_up f n (rwR 8 40 (va_up q i (some 0)))) (va_up q i (some 0)) (by omega) (by omega) ((up_n hsn).trans hs) up_s (fun j hj => by
      by_cases e : j = i
      · rw [e, up_s]
      · rw [up_n e]; exact hq j (by omega))
    refine ⟨f', q', ?_, i2, i3, fun x hx => (i4 x hx).trans (up_n hx)⟩
    refine Eq.trans ?_ i1
    show m_X7_init_b47 F _ _ _ _ _ _ = _
    unfold m_X7_init_b47
    rw [if_neg (show ¬ (40 : Int32) ≤ nI i from nI_ge (b := 40) (by omega) (by omega)), bd_e (gR_s hs hl), bd_e (stR_e hr (by omega) (by omega) hn rfl), nm_e2, nI_1]
    rfl
theorem sinit_e (hF : 41 ≤ F) (h100 : 100 ≤ s) (hs : s < n) (z : Nat) : ∃ f', m_X7_init F (some s) (va_up g s (some (.inl (6, [.int 0, .null, .null, .null, .null, .null])))) n z = some (f', n + 5, z + 40 + 40 + 40 + 40 + 40) ∧ f' s = some (.inl (6, [.int 0, .ref n, .ref (n + 1), .ref (n + 2), .ref (n + 3), .ref (n + 4)])) ∧ (∃ q, f' n = rwR 8 40 q ∧ ∀ j, j < 40 → q j = some 0) ∧ (∃ q, f' (n + 1) = rwI 40 q) ∧ (∃ q, f' (n + 2) = rwI 40 q) ∧ (∃ q, f' (n + 3) = rwI 40 q) ∧ (∃ q, f' (n + 4) = rwI 40 q) ∧ ∀ x, x ≠ s → (x < n ∨ n + 5 ≤ x) → f' x = g x := by
  let G : Hp := va_up (va_up (va_up (va_up (va_up g n (rwR 8 40 (fun _ => none))) (n + 1) (rwI 40 (fun _ => 0))) (n + 2) (rwI 40 (fun _ => 0))) (n + 3) (rwI 40 (fun _ => 0))) (n + 4) (rwI 40 (fun _ => 0))
  obtain ⟨f', q', i1, i2, i3, i4⟩ := sin_L (F := F) (s := s) (n := n) (na := n + 5) (za := z + 40 + 40 + 40 + 40 + 40) (by omega) (by omega) (fs := [.int 0, .ref n, .ref (n + 1), .ref (n + 2), .ref (n + 3), .ref (n + 4)]) rfl 40 0 F (va_up G s (some (.inl (6, [.int 0, .ref n, .ref (n + 1), .ref (n + 2), .ref (n + 3), .ref (n + 4)])))) (fun _ => none) (by omega) (by omega) up_s (by
    rw [up_n (by omega)]
    show va_up (va_up (va_up (va_up (va_up g _ _) _ _) _ _) _ _) _ _ n = _
    rw [up_n (by omega), up_n (by omega), up_n (by omega), up_n (by omega), up_s]) (fun _ c => absurd c (Nat.not_lt_zero _))
  refine ⟨f', ?_, (i4 _ (by omega)).trans up_s, ⟨q', i2, i3⟩, ⟨fun _ => 0, ?_⟩, ⟨fun _ => 0, ?_⟩, ⟨fun _ => 0, ?_⟩, ⟨fun _ => 0, ?_⟩, fun x h1 h2 => ?_⟩
  · unfold m_X7_init
    rw [ck_e (b := isS (some s)) rfl, show Int32.toNatClampNeg (40 : Int32) = 40 from rfl, ck_e (by decide)]
    refine grow_s ?_ (by show _ ≤ n + 5; omega) (by show _ ≤ z + 40 + 40 + 40 + 40 + 40; omega)
    rw [nm_e2, bd_e (st_al (by omega) (by simp)), ck_e (by decide)]
    refine grow_s ?_ (by show _ ≤ n + 5; omega) (by show _ ≤ z + 40 + 40 + 40 + 40 + 40; omega)
    rw [nm_e2, bd_e (st_al (by omega) (by simp)), ck_e (by decide)]
    refine grow_s ?_ (by show _ ≤ n + 5; omega) (by show _ ≤ z + 40 + 40 + 40 + 40 + 40; omega)
    rw [nm_e2, bd_e (st_al (by omega) (by simp)), ck_e (by decide)]
    refine grow_s ?_ (by show _ ≤ n + 5; omega) (by show _ ≤ z + 40 + 40 + 40 + 40 + 40; omega)
    rw [nm_e2, bd_e (st_al (by omega) (by simp)), ck_e (by decide)]
    refine grow_s ?_ (by show _ ≤ n + 5; omega) (by show _ ≤ z + 40 + 40 + 40 + 40 + 40; omega)
    rw [nm_e2, bd_e (st_al (by omega) (by simp))]
    exact i1
  · rw [i4 _ (by omega), up_n (by omega)]
    show va_up (va_up (va_up (va_up (va_up g _ _) _ _) _ _) _ _) _ _ (n + 1) = _
    rw [up_n (by omega), up_n (by omega), up_n (by omega), up_s]
  · rw [i4 _ (by omega), up_n (by omega)]
    show va_up (va_up (va_up (va_up (va_up g _ _) _ _) _ _) _ _) _ _ (n + 2) = _
    rw [up_n (by omega), up_n (by omega), up_s]
  · rw [i4 _ (by omega), up_n (by omega)]
    show va_up (va_up (va_up (va_up (va_up g _ _) _ _) _ _) _ _) _ _ (n + 3) = _
    rw [up_n (by omega), up_s]
  · rw [i4 _ (by omega), up_n (by omega)]
    show va_up (va_up (va_up (va_up (va_up g _ _) _ _) _ _) _ _) _ _ (n + 4) = _
    rw [up_s]
  · rw [i4 _ (by omega), up_n h1]
    show va_up (va_up (va_up (va_up (va_up g _ _) _ _) _ _) _ _) _ _ x = _
    rw [up_n (by omega), up_n (by omega), up_n (by omega), up_n (by omega), up_n (by omega)]
theorem dinit_e {a : Nat} (h : f a = some (.inl (1, [.null, .int 0, .long 0]))) : m_X2_init F (some a) f = some (va_up f a (some (.inl (1, [.ref 4, .int 1, .long 0])))) := by
  have e1 : pV f (some a) 1 0 (va_rf (some 4)) = some (va_up f a (some (.inl (1, [.ref 4, .int 0, .long 0])))) := pV_e h (Nat.le_of_ble_eq_true rfl)
  have e2 : pV (va_up f a (some (.inl (1, [.ref 4, .int 0, .long 0])))) (some a) 1 1 (.int 1) = some (va_up f a (some (.inl (1, [.ref 4, .int 1, .long 0])))) := pV_u (Nat.le_of_ble_eq_true rfl)
  unfold m_X2_init
  rw [ck_e (b := isS (some a)) rfl, bd_e e1, bd_e e2]
theorem hin_99 (hF : 50 ≤ F) (hb : 100 ≤ b) {fs : List Value} (hl2 : fs[4]? = some (.ref (b + 2))) (hl3 : fs[5]? = some (.ref (b + 3))) {w3 : Nat → Int32} : ∀ (d i w : Nat) (f : Hp) (q : Nat → Option Nat) (za : Nat), i + d = 6 → d < w → f b = some (.inl (3, fs)) → f (b + 2) = rwR 5 6 q → f (b + 3) = rwI 6 w3 → (∀ j, j < i → q j = some (b + 23 + j)) → (∀ j, j < i → dAny f (b + 23 + j)) → ∃ f' q' w', m_X4_init_L99 F w (some b) (nI i) f (b + 23 + i) za = some (f', b + 29, za + 3 * d) ∧ f' (b + 2) = rwR 5 6 q' ∧ (∀ j, j < 6 → q' j = some (b + 23 + j)) ∧ f' (b + 3) = rwI 6 w' ∧ (∀ j, j < 6 → w' j = 1) ∧ (∀ j, j < 6 → dAny f' (b + 23 + j)) ∧ ∀ x, x ≠ b + 2 → x ≠ b + 3 → (x < b + 23 + i ∨ b + 29 ≤ x) → f' x = f x := by
  intro d
  induction d with
  | zero =>
    intro i w f q za hi hw h0 h2 h3 hq hd
    obtain ⟨w, rfl⟩ : ∃ j, w = j + 1 := ⟨w - 1, by omega⟩
    have fr : ∀ x, x ≠ b + 3 → va_up f (b + 3) (rwI 6 (fun j => if j < 6 then 1 else w3 j)) x = f x := fun x hx => up_n hx
    refine ⟨va_up f (b + 3) (rwI 6 (fun j => if j < 6 then 1 else w3 j)), q, _, ?_, (fr _ (by omega)).trans h2, fun j hj => hq j (by omega), up_s, fun j hj => if_pos hj, fun j hj => ?_, fun x _ h _ => fr x h⟩
    · show m_X4_init_b99 F _ _ _ _ _ _ = _
      unfold m_X4_init_b99
      rw [if_pos (show (6 : Int32) ≤ nI i from nI_le (a := 6) (by omega) (by omega)), bd_e (gR_s h0 hl3), show b + 29 = b + 23 + i by omega]
      refine grow_s ?_ (Nat.le_refl _) (Nat.le_refl _)
      rw [bd_e (fillI_e h3 (by omega) (by omega) (by omega))]
      rfl
    · obtain ⟨u0, u1, u2, u, uw⟩ := hd j (by omega)
      exact ⟨_, _, _, (fr _ (by omega)).trans u, uw⟩
  | succ d ih =>
    intro i w f q za hi hw h0 h2 h3 hq hd
    obtain ⟨w, rfl⟩ : ∃ j, w = j + 1 := ⟨w - 1, by omega⟩
    have ok1 : okR (va_up f (b + 23 + i) (some (.inl (1, [.ref 4, .int 1, .long 0])))) 5 (some (b + 23 + i)) = true := okR_1 up_s
    have fr : ∀ x, x ≠ b + 2 → x ≠ b + 23 + i → va_up (va_up f (b + 23 + i) (some (.inl (1, [.ref 4, .int 1, .long 0])))) (b + 2) (rwR 5 6 (va_up q i (some (b + 23 + i)))) x = f x := fun x h1 h2 => (up_n h1).trans (up_n h2)
    obtain ⟨f', q', w', i1, i2, i3, i4, i5, i6, i7⟩ := ih (i + 1) w _ (va_up q i (some (b + 23 + i))) (za + 3) (by omega) (by omega) ((fr _ (by omega) (by omega)).trans h0) up_s ((fr _ (by omega) (by omega)).trans h3) (fun j hj => by
      by_cases e : j = i
      · rw [e, up_s]
      · rw [up_n e]; exact hq j (by omega)) (fun j hj => by
      by_cases e : j = i
      · subst e
        exact ⟨4, 1, 0, (up_n (by omega)).trans up_s, by decide⟩
      · obtain ⟨u0, u1, u2, u, uw⟩ := hd j (by omega)
        exact ⟨_, _, _, (fr _ (by omega) (by omega)).trans u, uw⟩)
    refine ⟨f', q', w', ?_, i2, i3, i4, i5, i6, fun x h1 h2 h3 => (i7 x h1 h2 (by omega)).trans (fr x h1 (by omega))⟩
    rw [show za + 3 * (d + 1) = za + 3 + 3 * d by omega]
    show m_X4_init_b99 F _ _ _ _ _ _ = _
    unfold m_X4_init_b99
    rw [if_neg (show ¬ (6 : Int32) ≤ nI i from nI_ge (b := 6) (by omega) (by omega)), bd_e (gR_s h0 hl2)]
    refine grow_s ?_ (by show _ ≤ b + 29; omega) (by show _ ≤ za + 3 + 3 * d; omega)
    rw [nm_e2]
    refine grow_s ?_ (by show _ ≤ b + 29; omega) (by show _ ≤ za + 3 + 3 * d; omega)
    rw [bd_e (dinit_e up_s), up_up, bd_e (stR_e ((up_n (by omega)).trans h2) (by omega) (by omega) (by omega) ok1), nm_e2, nI_1]
    exact i1
theorem hin_72 (hb : 100 ≤ b) {fs : List Value} (hl1 : fs[2]? = some (.ref (b + 1))) : ∀ (d i w : Nat) (f : Hp) (q : Nat → Option Nat) (za : Nat), i + d = 10 → d < w → f b = some (.inl (3, fs)) → f (b + 1) = rwR 4 10 q → (∀ j, j < i → q j = some (b + 13 + j)) → (∀ j, j < i → cAny f (b + 13 + j)) → ∃ f' q', (∀ r, m_X4_init_L99 F F (some b) 0 f' (b + 23) (za + 6 * d) = some r → b + 23 ≤ (pr3 r).1 → za + 6 * d ≤ (pr3 r).2 → m_X4_init_L72 F w (some b) (nI i) f (b + 13 + i) za = some r) ∧ f' (b + 1) = rwR 4 10 q' ∧ (∀ j, j < 10 → q' j = some (b + 13 + j)) ∧ (∀ j, j < 10 → cAny f' (b + 13 + j)) ∧ ∀ x, x ≠ b + 1 → (x < b + 13 + i ∨ b + 23 ≤ x) → f' x = f x := by
  intro d
  induction d with
  | zero =>
    intro i w f q za hi hw h0 h1 hq hd
    obtain ⟨w, rfl⟩ : ∃ j, w = j + 1 := ⟨w - 1, by omega⟩
    refine ⟨f, q, fun r hr _ _ => ?_, h1, fun j hj => hq j (by omega), fun j hj => hd j (by omega), fun _ _ _ => rfl⟩
    show m_X4_init_b72 F _ _ _ _ _ _ = _
    unfold m_X4_init_b72
    rw [if_pos (show (10 : Int32) ≤ nI i from nI_le (a := 10) (by omega) (by omega)), show b + 13 + i = b + 23 by omega]
    exact hr
  | succ d ih =>
    intro i w f q za hi hw h0 h1 hq hd
    obtain ⟨w, rfl⟩ : ∃ j, w = j + 1 := ⟨w - 1, by omega⟩
    have ok1 : okR (va_up f (b + 13 + i) (some (.inl (0, [.long 0, .int 0, .int 0, .int 0, .int 0, .int 0])))) 4 (some (b + 13 + i)) = true := okR_0 up_s
    have fr : ∀ x, x ≠ b + 1 → x ≠ b + 13 + i → va_up (va_up f (b + 13 + i) (some (.inl (0, [.long 0, .int 0, .int 0, .int 0, .int 0, .int 0])))) (b + 1) (rwR 4 10 (va_up q i (some (b + 13 + i)))) x = f x := fun x h1 h2 => (up_n h1).trans (up_n h2)
    obtain ⟨f', q', i1, i2, i3, i4, i5⟩ := ih (i + 1) w _ (va_up q i (some (b + 13 + i))) (za + 6) (by omega) (by omega) ((fr _ (by omega) (by omega)).trans h0) up_s (fun j hj => by
      by_cases e : j = i
      · rw [e, up_s]
      · rw [up_n e]; exact hq j (by omega)) (fun j hj => by
      by_cases e : j = i
      · subst e
        exact ⟨_, _, _, _, _, _, (up_n (by omega)).trans up_s⟩
      · obtain ⟨u0, u1, u2, u3, u4, u5, u⟩ := hd j (by omega)
        exact ⟨_, _, _, _, _, _, (fr _ (by omega) (by omega)).trans u⟩)
    refine ⟨f', q', fun r hr r1 r2 => ?_, i2, i3, i4, fun x h1 h2 => (i5 x h1 (by omega)).trans (fr x h1 (by omega))⟩
    have ez : za + 6 * (d + 1) = za + 6 + 6 * d := by omega
    rw [ez] at hr r2
    show m_X4_init_b72 F _ _ _ _ _ _ = _
    unfold m_X4_init_b72
    rw [if_neg (show ¬ (10 : Int32) ≤ nI i from nI_ge (b := 10) (by omega) (by omega)), bd_e (gR_s h0 hl1)]
    refine grow_s ?_ (by omega) (by omega)
    rw [nm_e2]
    refine grow_s ?_ (by omega) (by omega)
    unfold m_X1_init
    rw [ck_e (b := isS _) rfl, bd_some, bd_e (stR_e ((up_n (by omega)).trans h1) (by omega) (by omega) (by omega) ok1), nm_e2, nI_1]
    exact i1 r hr r1 r2
theorem hinit_e (hF : 50 ≤ F) (hb : 100 ≤ b) (z : Nat) : ∃ f' z', m_X4_init F (some b) (va_up g b (some (.inl (3, [.int 0, .int 0, .null, .int 0, .null, .null, .int 0, .null, .null, .int 0, .null, .null])))) (b + 1) z = some (f', b + 29, z') ∧ z ≤ z' ∧ z' ≤ z + 900 ∧ HX f' b (b + 7) ∧ SX f' (b + 7) ∧ ∀ x, x < b ∨ b + 29 ≤ x → f' x = g x := by
  let G6 : Hp := va_up (va_up (va_up (va_up (va_up (va_up g (b + 1) (rwR 4 10 (fun _ => none))) (b + 2) (rwR 5 6 (fun _ => none))) (b + 3) (rwI 6 (fun _ => 0))) (b + 4) (rwI 12 (fun _ => 0))) (b + 5) (rwI 12 (fun _ => 0))) (b + 6) (rwI 49 (fun _ => 0))
  let G7 : Hp := va_up G6 b (some (.inl (3, [.int 4, .int 0, .ref (b + 1), .int 0, .ref (b + 2), .ref (b + 3), .int 0, .ref (b + 4), .ref (b + 5), .int 0, .ref (b + 6), .null])))
  have g6 : ∀ x, (x < b + 1 ∨ b + 7 ≤ x) → G6 x = g x := fun x hx => by
    show va_up (va_up (va_up (va_up (va_up (va_up g _ _) _ _) _ _) _ _) _ _) _ _ x = _
    rw [up_n (by omega), up_n (by omega), up_n (by omega), up_n (by omega), up_n (by omega), up_n (by omega)]
  have g7 : ∀ x, x ≠ b → G7 x = G6 x := fun x hx => up_n hx
  have e1 : G6 (b + 1) = rwR 4 10 (fun _ => none) := by
    show va_up (va_up (va_up (va_up (va_up (va_up g _ _) _ _) _ _) _ _) _ _) _ _ (b + 1) = _
    rw [up_n (by omega), up_n (by omega), up_n (by omega), up_n (by omega), up_n (by omega), up_s]
  have e2 : G6 (b + 2) = rwR 5 6 (fun _ => none) := by
    show va_up (va_up (va_up (va_up (va_up (va_up g _ _) _ _) _ _) _ _) _ _) _ _ (b + 2) = _
    rw [up_n (by omega), up_n (by omega), up_n (by omega), up_n (by omega), up_s]
  have e3 : G6 (b + 3) = rwI 6 (fun _ => 0) := by
    show va_up (va_up (va_up (va_up (va_up (va_up g _ _) _ _) _ _) _ _) _ _) _ _ (b + 3) = _
    rw [up_n (by omega), up_n (by omega), up_n (by omega), up_s]
  have e4 : G6 (b + 4) = rwI 12 (fun _ => 0) := by
    show va_up (va_up (va_up (va_up (va_up (va_up g _ _) _ _) _ _) _ _) _ _) _ _ (b + 4) = _
    rw [up_n (by omega), up_n (by omega), up_s]
  have e5 : G6 (b + 5) = rwI 12 (fun _ => 0) := by
    show va_up (va_up (va_up (va_up (va_up (va_up g _ _) _ _) _ _) _ _) _ _) _ _ (b + 5) = _
    rw [up_n (by omega), up_s]
  have e6 : G6 (b + 6) = rwI 49 (fun _ => 0) := by
    show va_up (va_up (va_up (va_up (va_up (va_up g _ _) _ _) _ _) _ _) _ _) _ _ (b + 6) = _
    rw [up_s]
  obtain ⟨f8, k8, c8, ⟨r1, r1a, r1b⟩, ⟨r2, r2a⟩, ⟨r3, r3a⟩, ⟨r4, r4a⟩, ⟨r5, r5a⟩, fr8⟩ := sinit_e (F := F) (g := G7) (s := b + 7) (n := b + 8) (by omega) (by omega) (by omega) (z + 10 + 6 + 6 + 12 + 12 + 49 + 6)
  have b8 : f8 b = some (.inl (3, [.int 4, .int 0, .ref (b + 1), .int 0, .ref (b + 2), .ref (b + 3), .int 0, .ref (b + 4), .ref (b + 5), .int 0, .ref (b + 6), .null])) := (fr8 b (by omega) (by omega)).trans up_s
  generalize hf9 : va_up f8 b (some (.inl (3, hcI b (b + 7) 4 0 0 0 0))) = f9
  have fr9 : ∀ x, x ≠ b → f9 x = f8 x := fun x hx => by rw [← hf9]; exact up_n hx
  have c9 : f9 b = some (.inl (3, hcI b (b + 7) 4 0 0 0 0)) := by rw [← hf9]; exact up_s
  have g9 : ∀ x, b + 1 ≤ x → x < b + 7 → f9 x = G6 x := fun x h1 h2 => (fr9 x (by omega)).trans ((fr8 x (by omega) (by omega)).trans (g7 x (by omega)))
  obtain ⟨f10, q10, k10, k10a, k10b, k10c, fr10⟩ := hin_72 (F := F) (b := b) hb (fs := hcI b (b + 7) 4 0 0 0 0) rfl 10 0 F f9 (fun _ => none) (z + 10 + 6 + 6 + 12 + 12 + 49 + 6 + 40 + 40 + 40 + 40 + 40) (by omega) (by omega) c9 ((g9 _ (by omega) (by omega)).trans e1) (fun _ c => absurd c (Nat.not_lt_zero _)) (fun _ c => absurd c (Nat.not_lt_zero _))
  obtain ⟨f11, q11, w11, k11, k11a, k11b, k11c, k11d, k11e, fr11⟩ := hin_99 (F := F) (b := b) hF hb (fs := hcI b (b + 7) 4 0 0 0 0) rfl rfl (w3 := fun _ => 0) 6 0 F f10 (fun _ => none) (z + 10 + 6 + 6 + 12 + 12 + 49 + 6 + 40 + 40 + 40 + 40 + 40 + 6 * 10) (by omega) (by omega) ((fr10 _ (by omega) (by omega)).trans c9) ((fr10 _ (by omega) (by omega)).trans ((g9 _ (by omega) (by omega)).trans e2)) ((fr10 _ (by omega) (by omega)).trans ((g9 _ (by omega) (by omega)).trans e3)) (fun _ c => absurd c (Nat.not_lt_zero _)) (fun _ c => absurd c (Nat.not_lt_zero _))
  have k72 := k10 _ k11 (by show b + 23 ≤ b + 29; omega) (by show _ ≤ z + 10 + 6 + 6 + 12 + 12 + 49 + 6 + 40 + 40 + 40 + 40 + 40 + 6 * 10 + 3 * 6; omega)
  have g11 : ∀ x, x ≠ b + 1 → x ≠ b + 2 → x ≠ b + 3 → (x < b + 13 ∨ b + 29 ≤ x) → f11 x = f9 x := fun x h1 h2 h3 h4 => (fr11 x h2 h3 (by omega)).trans (fr10 x h1 (by omega))
  refine ⟨f11, z + 10 + 6 + 6 + 12 + 12 + 49 + 6 + 40 + 40 + 40 + 40 + 40 + 6 * 10 + 3 * 6, ?_, by omega, by omega, ⟨⟨_, _, _, _, _, (g11 _ (by omega) (by omega) (by omega) (by omega)).trans c9⟩, ⟨q10, (fr11 _ (by omega) (by omega) (by omega)).trans k10a, k10b⟩, ⟨q11, k11a, k11b⟩, ⟨w11, k11c⟩, ⟨_, (g11 _ (by omega) (by omega) (by omega) (by omega)).trans ((g9 _ (by omega) (by omega)).trans e4)⟩, ⟨_, (g11 _ (by omega) (by omega) (by omega) (by omega)).trans ((g9 _ (by omega) (by omega)).trans e5)⟩, ⟨_, (g11 _ (by omega) (by omega) (by omega) (by omega)).trans ((g9 _ (by omega) (by omega)).trans e6)⟩, fun c hc => ?_, fun d hd => k11e d hd⟩, ⟨⟨_, (g11 _ (by omega) (by omega) (by omega) (by omega)).trans ((fr9 _ (by omega)).trans c8)⟩, ⟨r1, (g11 _ (by omega) (by omega) (by omega) (by omega)).trans ((fr9 _ (by omega)).trans r1a), fun i hi => ⟨0, r1b i hi, by decide⟩⟩, ⟨r2, (g11 _ (by omega) (by omega) (by omega) (by omega)).trans ((fr9 _ (by omega)).trans r2a)⟩, ⟨r3, (g11 _ (by omega) (by omega) (by omega) (by omega)).trans ((fr9 _ (by omega)).trans r3a)⟩, ⟨r4, (g11 _ (by omega) (by omega) (by omega) (by omega)).trans ((fr9 _ (by omega)).trans r4a)⟩, ⟨r5, (g11 _ (by omega) (by omega) (by omega) (by omega)).trans ((fr9 _ (by omega)).trans r5a)⟩⟩, fun x hx => ?_⟩
  · unfold m_X4_init
    rw [ck_e (b := isS (some b)) rfl, show Int32.toNatClampNeg (10 : Int32) = 10 from rfl, show Int32.toNatClampNeg (6 : Int32) = 6 from rfl, show Int32.toNatClampNeg (12 : Int32) = 12 from rfl, show Int32.toNatClampNeg (49 : Int32) = 49 from rfl, bd_e (pV_u (by simp)), ck_e (by decide)]
    refine grow_s ?_ (by show _ ≤ b + 29; omega) (by show _ ≤ z + 10 + 6 + 6 + 12 + 12 + 49 + 6 + 40 + 40 + 40 + 40 + 40 + 6 * 10 + 3 * 6; omega)
    rw [nm_e2, bd_e (st_al (by omega) (by simp)), ck_e (by decide)]
    refine grow_s ?_ (by show _ ≤ b + 29; omega) (by show _ ≤ z + 10 + 6 + 6 + 12 + 12 + 49 + 6 + 40 + 40 + 40 + 40 + 40 + 6 * 10 + 3 * 6; omega)
    rw [nm_e2, bd_e (st_al (by omega) (by simp)), ck_e (by decide)]
    refine grow_s ?_ (by show _ ≤ b + 29; omega) (by show _ ≤ z + 10 + 6 + 6 + 12 + 12 + 49 + 6 + 40 + 40 + 40 + 40 + 40 + 6 * 10 + 3 * 6; omega)
    rw [nm_e2, bd_e (st_al (by omega) (by simp)), ck_e (by decide)]
    refine grow_s ?_ (by show _ ≤ b + 29; omega) (by show _ ≤ z + 10 + 6 + 6 + 12 + 12 + 49 + 6 + 40 + 40 + 40 + 40 + 40 + 6 * 10 + 3 * 6; omega)
    rw [nm_e2, bd_e (st_al (by omega) (by simp)), ck_e (by decide)]
    refine grow_s ?_ (by show _ ≤ b + 29; omega) (by show _ ≤ z + 10 + 6 + 6 + 12 + 12 + 49 + 6 + 40 + 40 + 40 + 40 + 40 + 6 * 10 + 3 * 6; omega)
    rw [nm_e2, bd_e (st_al (by omega) (by simp)), ck_e (by decide)]
    refine grow_s ?_ (by show _ ≤ b + 29; omega) (by show _ ≤ z + 10 + 6 + 6 + 12 + 12 + 49 + 6 + 40 + 40 + 40 + 40 + 40 + 6 * 10 + 3 * 6; omega)
    rw [nm_e2, bd_e (st_al (by omega) (by simp))]
    refine grow_s ?_ (by show _ ≤ b + 29; omega) (by show _ ≤ z + 10 + 6 + 6 + 12 + 12 + 49 + 6 + 40 + 40 + 40 + 40 + 40 + 6 * 10 + 3 * 6; omega)
    rw [nm_e2]
    refine Eq.trans (bd3_e k8) ?_
    rw [ck_e (decide_eq_true ⟨by omega, by omega⟩)]
    refine grow_s ?_ (by show _ ≤ b + 29; omega) (by show _ ≤ z + 10 + 6 + 6 + 12 + 12 + 49 + 6 + 40 + 40 + 40 + 40 + 40 + 6 * 10 + 3 * 6; omega)
    have s11 : pV f8 (some b) 3 11 (.ref (b + 7)) = some f9 := by
      rw [← hf9]
      exact pV_e b8 (Nat.le_of_ble_eq_true rfl)
    refine Eq.trans (bd_e s11) ?_
    exact k72
  · obtain ⟨u0, u1, u2, u3, u4, u5, u⟩ := k10c c hc
    exact ⟨_, _, _, _, _, _, (fr11 _ (by omega) (by omega) (by omega)).trans u⟩
  · exact (g11 x (by omega) (by omega) (by omega) (by omega)).trans ((fr9 x (by omega)).trans ((fr8 x (by omega) (by omega)).trans ((g7 x (by omega)).trans (g6 x (by omega)))))
end HINIT
