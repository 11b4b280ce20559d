/-! the law's loop: its start, one call after another -/
variable {sk : Nat}
def m00 : MS := (fun _ => 0, 0, h00, [], 0, 0, [], [], fun _ => none)
/-- what holds between two calls: class, reference, the law's row -/
def LI (sk : Nat) (f : Hp) (n z : Nat) (m : MS) (st : RS) : Prop := CI sk f n z m ∧ f = ov f st ∧ RI st m ∧ ∃ q, f 203 = some (.inr (2, 1, .inr (.inl q)))
theorem RI_00 : RI st00 m00 := by
  refine ⟨Or.inr ⟨rfl, fun _ => rfl, rfl, rfl⟩, ⟨fun _ _ => rfl, rfl⟩, rfl, fun c hc => absurd hc (Nat.not_lt_zero _), ⟨0, rfl, by decide, fun h => absurd h (by decide)⟩, rfl, ⟨⟨rfl, fun i hi => absurd hi (Nat.not_lt_zero _)⟩, rfl, fun i hi => absurd hi (Nat.not_lt_zero _)⟩, fun k _ => Or.inl ⟨rfl, rfl⟩⟩
theorem ov_id {f g : Hp} {st : RS} (h : ∀ a, 179 ≤ a → a < 203 → f a = ov g st a) : f = ov f st := by
  funext a
  by_cases h1 : a < 179
  · exact (ov_lo h1).symm
  · by_cases h2 : a < 203
    · rw [h a (by omega) h2]
      unfold ov
      rw [if_neg h1, if_pos h2, if_neg h1, if_pos h2]
    · exact (ov_hi (by omega)).symm
def zR (z : Nat) : Nat := z + 740 + 412 + 170 + 824 + 16 + 16 + 32 + 2 + 7 + 7 + 7 + 7 + 10 + 10 + 100 + 10 + 10 + 5040 + 5040 + 5040 + 30240 + 7 + 240
theorem zR_lo (z : Nat) : z ≤ zR z := by
  unfold zR
  repeat refine Nat.le_trans ?_ (Nat.le_add_right _ _)
  exact Nat.le_refl _
theorem zR_hi (z : Nat) : zR z ≤ z + 60000 := by
  unfold zR
  omega
theorem start_e {F : Nat} {g : Hp} (hF : 50 ≤ F) (S : St4 g) {z : Nat} : ∃ f1 z1, m_X11_init F (some 100) (va_up g 100 (some (.inl (9, kV .null .null .null .null .null .null .null .null .null .null .null .null)))) 101 z = some (f1, 179, z1) ∧ z ≤ z1 ∧ z1 ≤ z + 5000 ∧ (∀ z', m_X12_init F (some 179) (va_up f1 179 (some (.inl (10, cell0)))) 180 z' = some (ov f1 st00, 203, zR z')) ∧ ∀ z3 q, z3 ≤ 1000000 → LI sk (va_up (ov f1 st00) 203 (some (.inr (2, 1, .inr (.inl q))))) 204 z3 m00 st00 := by
  obtain ⟨f1, z1, e1, e2, e3, K, P, H, I6, I7, TK, M, Mr, gg⟩ := cstart_e (F := F) hF S z
  refine ⟨f1, z1, e1, e2, e3, fun z' => ?_, fun z3 q h3 => ⟨⟨102, 131, 109, 138, 160, fun _ => none, fun _ => none, ?_⟩, ?_, RI_00, q, up_s⟩⟩
  · exact rstart_e f1 z'
  · have fr : ∀ a, a < 179 → va_up (ov f1 st00) 203 (some (.inr (2, 1, .inr (.inl q)))) a = f1 a := fun a ha => (up_n (by omega)).trans (ov_lo ha)
    refine ⟨S.frame (fun a ha => (fr a (by omega)).trans (gg a (Or.inl ha))), KAt.frame K (fr _ (by decide)), ⟨P.frame (fr _ (by decide)), by decide, by decide⟩, H.frame (fun a _ _ => fr a (by omega)), ⟨(fr _ (by decide)).trans I7, (fr _ (by decide)).trans I6, fun N o _ e => (by cases e), fun k _ => Or.inl ⟨rfl, rfl⟩, fun N N' o o' _ _ _ e => (by cases e), fun N o k b _ _ e => (by cases e), fun b b' e => (by cases e), Nat.le_refl _, by omega, by omega⟩, TK.frame (fr _ (by decide)) (fr _ (by decide)) (fr _ (by decide)), M.frame (fun a _ _ => fr a (by omega)), Mr.frame (fr _ (by decide))⟩
  · exact ov_id (g := f1) (fun a h1 h2 => up_n (by omega))
section STEP
variable {α : Type} {f : Hp} {n z : Nat} {m : MS} {st : RS}
theorem LI.after {f' : Hp} {n' z' : Nat} {m' : MS} {st' : RS} (L : LI sk f n z m st) (fr : ∀ a, 179 ≤ a → a < 204 → f' a = f a) (C : CI sk f' n' z' m') (R : RI st' m') : f' = ov f' st ∧ LI sk (ov f' st') n' z' m' st' := by
  obtain ⟨-, e, -, q, hq⟩ := L
  have e' : f' = ov f' st := ov_id (g := f) (fun a h1 h2 => (fr a h1 (by omega)).trans (congrFun e a))
  refine ⟨e', C.frame (fun a ha => ?_), ov_id (g := f') (fun a h1 h2 => rfl), R, q, ?_⟩
  · rcases ha with ha | ha
    · exact ov_lo ha
    · exact ov_hi (by omega)
  · rw [ov_hi (by decide), fr 203 (by decide) (by decide)]
    exact hq
theorem step_A {c : Hp → Nat → Nat → Option (α × Hp × Nat × Nat)} {r : Hp → Option (α × Hp)} (K : KA sk c r) (L : LI sk f n z m st) : ∃ v f' n' z' m' st', c f n z = some (v, f', n', z') ∧ n ≤ n' ∧ z ≤ z' ∧ r f' = some (v, ov f' st') ∧ LI sk (ov f' st') n' z' m' st' := by
  obtain ⟨v, f', n', z', m', e1, hn, hz, fr, C, e2⟩ := K f n z st m L.1 L.2.2.1
  obtain ⟨st', e3, R⟩ := e2 f'
  obtain ⟨e', L'⟩ := L.after fr C R
  exact ⟨v, f', n', z', m', st', e1, hn, hz, by rw [← e'] at e3; exact e3, L'⟩
theorem step_W {c : Hp → Option (α × Hp)} {r : Hp → Option (α × Hp)} (K : KW sk c r) (L : LI sk f n z m st) : ∃ v f' m' st', c f = some (v, f') ∧ r f' = some (v, ov f' st') ∧ LI sk (ov f' st') n z m' st' := by
  obtain ⟨v, f', m', e1, fr, C, e2⟩ := K f n z st m L.1 L.2.2.1
  obtain ⟨st', e3, R⟩ := e2 f'
  obtain ⟨e', L'⟩ := L.after fr C R
  exact ⟨v, f', m', st', e1, by rw [← e'] at e3; exact e3, L'⟩
theorem step_R {c : Hp → Option α} {r : Hp → Option (α × Hp)} (K : KR sk c r) (L : LI sk f n z m st) : ∃ v st', c f = some v ∧ r f = some (v, ov f st') ∧ LI sk (ov f st') n z m st' := by
  obtain ⟨v, e1, e2⟩ := K f n z st m L.1 L.2.2.1
  obtain ⟨st', e3, R⟩ := e2 f
  obtain ⟨e', L'⟩ := L.after (fun _ _ _ => rfl) L.1 R
  exact ⟨v, st', e1, by rw [← e'] at e3; exact e3, L'⟩
/-- the law's row is written -/
theorem LI.out (L : LI sk f n z m st) {x : Int64} : ∃ q, f 203 = some (.inr (2, 1, .inr (.inl q))) ∧ stJ f (some 203) 0 x = some (va_up f 203 (some (.inr (2, 1, .inr (.inl (vp_updL q 0 x)))))) ∧ LI sk (va_up f 203 (some (.inr (2, 1, .inr (.inl (vp_updL q 0 x)))))) n z m st := by
  obtain ⟨C, e, R, q, hq⟩ := L
  have nn : ∀ a, a ≠ 203 → va_up f 203 (some (.inr (2, 1, .inr (.inl (vp_updL q 0 x))))) a = f a := fun a ha => up_n ha
  refine ⟨q, hq, stJ_e (j := 0) hq (by decide) (by decide) (by decide), C.frame (fun a ha => nn a (by omega)), ov_id (g := f) (fun a h1 h2 => (nn a (by omega)).trans (congrFun e a)), R, _, up_s⟩
end STEP
