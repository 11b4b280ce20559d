/-! image, restore -/
variable {sk : Nat}
theorem NW.ext {nw nw' : Nat → Int32} {h : HS} (N : NW nw h) (ok : okH h) (fr : ∀ i, i < 170 → nw' i = nw i) : NW nw' h := by
  obtain ⟨n0, n1, n2, n3, n4, n5, n6, n7, n8, n9⟩ := N
  have l1 := ok.2.1
  have l2 := ok.2.2.2.1
  have l3 := ok.2.2.2.2.2.2.1
  have l4 := ok.2.2.2.2.2.2.2.2.1
  refine ⟨?_, ?_, ?_, ?_, ?_, fun i hi => ?_, fun d hd => ?_, fun p hp => ?_, fun k hk => ?_, fun k hk => ?_⟩
  · rw [fr _ (by omega)]; exact n0
  · rw [fr _ (by omega)]; exact n1
  · rw [fr _ (by omega)]; exact n2
  · rw [fr _ (by omega)]; exact n3
  · rw [fr _ (by omega)]; exact n4
  · obtain ⟨u1, u2⟩ := n5 i hi
    have hl := okL_len (ok.2.2.1 _ (List.getElem_mem hi)).2.1
    exact ⟨by rw [fr _ (by omega)]; exact u1, fun j hj => by rw [fr _ (by omega)]; exact u2 j hj⟩
  · obtain ⟨u1, u2⟩ := n6 d hd
    exact ⟨by rw [fr _ (by omega)]; exact u1, fun q => by rw [fr _ (by omega)]; exact u2 q⟩
  · rw [fr _ (by omega)]; exact n7 p hp
  · obtain ⟨u1, u2⟩ := n8 k hk
    exact ⟨by rw [fr _ (by omega)]; exact u1, by rw [fr _ (by omega)]; exact u2⟩
  · obtain ⟨u1, u2, u3⟩ := n9 k hk
    exact ⟨by rw [fr _ (by omega)]; exact u1, by rw [fr _ (by omega)]; exact u2, by rw [fr _ (by omega)]; exact u3⟩
theorem NdR.ext {nd nd' : Nat → Int32} (fr : ∀ i, i < 240 → nd' i = nd i) : ∀ (n k : Nat) (Q : SN), k < 60 → NdR nd n k Q → NdR nd' n k Q
  | 0, _, _, _, H => H
  | n + 1, k, Q, hk, H => by
    rcases H with ⟨x, Q1, h1, h2, h3, h4, h5⟩ | ⟨x, y, Q1, Q2, h1, h1', h2, h3, h4, h5, h6, h7⟩ | ⟨x, y, Q1, Q2, h1, h1', h2, h3, h4, h5, h6, h7⟩ | ⟨e, h1, h2⟩
    · exact Or.inl ⟨x, Q1, h1, by rw [fr _ (by omega)]; exact h2, by rw [fr _ (by omega)]; exact h3, NdR.ext fr n x Q1 (by omega) h4, h5⟩
    · exact Or.inr (Or.inl ⟨x, y, Q1, Q2, h1, h1', by rw [fr _ (by omega)]; exact h2, by rw [fr _ (by omega)]; exact h3, by rw [fr _ (by omega)]; exact h4, NdR.ext fr n x Q1 (by omega) h5, NdR.ext fr n y Q2 (by omega) h6, h7⟩)
    · exact Or.inr (Or.inr (Or.inl ⟨x, y, Q1, Q2, h1, h1', by rw [fr _ (by omega)]; exact h2, by rw [fr _ (by omega)]; exact h3, by rw [fr _ (by omega)]; exact h4, NdR.ext fr n x Q1 (by omega) h5, NdR.ext fr n y Q2 (by omega) h6, h7⟩))
    · exact Or.inr (Or.inr (Or.inr ⟨e, by rw [fr _ (by omega), fr _ (by omega), fr _ (by omega), fr _ (by omega)]; exact h1, h2⟩))
theorem NWS.ext {nw nw' : Nat → Int32} {h : HS} {P : SN} (N : NWS nw h P) (ok : okH h) (fr : ∀ i, i < 412 → nw' i = nw i) : NWS nw' h P := by
  obtain ⟨N, W⟩ := N
  refine ⟨N.ext ok (fun i hi => fr i (by omega)), ?_⟩
  rcases W with ⟨p1, p2⟩ | ⟨p1, p2, t, p3, p4, p5⟩
  · exact Or.inl ⟨p1, by rw [fr _ (by omega)]; exact p2⟩
  · exact Or.inr ⟨p1, by rw [fr _ (by omega)]; exact p2, t, p3, by rw [fr _ (by omega)]; exact p4, NdR.ext (nd := fun i => nw (172 + i)) (nd' := fun i => nw' (172 + i)) (fun i hi => fr _ (by omega)) 60 t P p3 p5⟩
theorem NMr.ext {a a' : Nat → Int64} {h : HS} (M : NMr a h) (ok : okH h) (fr : ∀ i, i < 16 → a' i = a i) : NMr a' h := fun c hc => by
  have := ok.2.1
  rw [fr c (by omega)]
  exact M c hc
theorem RI.hp {st st' : RS} {m : MS} (R : RI st m) (C : Cg sI0 (14 :: sA0) (17 :: sL0) st st') (e21 : sI st 21 = 1) {h' : HS} {P' : SN} (W : NWS (sA st' 14) h' P') (M : NMr (sL st' 17) h') : RI st' (mB m, mT m, h', P', mF m, mL m, mM m, mS m, mI m) := by
  obtain ⟨-, ⟨h2, h3⟩, h4, -, h6, h7, ⟨⟨h8, h9⟩, h10, h11⟩, h12⟩ := R
  refine ⟨Or.inl ⟨?_, W⟩, ⟨?_, ?_⟩, ?_, M, h6.cg C (by decide) (by decide), ?_, ⟨⟨?_, ?_⟩, ?_, ?_⟩, ?_⟩
  · rw [C.I (by decide)]; exact e21
  · rw [C.A (by decide)]; exact h2
  · rw [C.I (by decide)]; exact h3
  · rw [C.I (by decide)]; exact h4
  · rw [C.J (by decide)]; exact h7
  · rw [C.I (by decide)]; exact h8
  · rw [C.A (by decide)]; exact h9
  · rw [C.I (by decide)]; exact h10
  · rw [C.A (by decide)]; exact h11
  · rw [C.A (by decide), C.A (by decide), C.L (by decide)]; exact h12
section IMG
variable {F : Nat} {g : Hp} {st : RS} {f : Hp} {n z : Nat} {m : MS} {T D sT sD sX : Nat} {tq iq : Nat → Option Nat}
/-- HOUSE and SENTENCE that stand are others -/
theorem CIx.hp (C : CIx sk f n z m T D sT sD sX tq iq) {f' : Hp} (fr : ∀ a, a < T ∨ T + 7 ≤ a ∧ a < T + 13 ∨ T + 29 ≤ a → a < sT ∨ sT + 6 ≤ a → f' a = f a) {h' : HS} {P' : SN} (H' : HAt f' T sT h') (ok' : okH h') (S' : SAt f' sT P') (os' : okS h' P') : CIx sk f' n z (mB m, mT m, h', P', mF m, mL m, mM m, mS m, mI m) T D sT sD sX tq iq := by
  obtain ⟨h1, h2, ⟨h3, h3b⟩, ⟨-, -, -, -, ⟨hd, c5, c6⟩, ⟨P1, c7⟩, ⟨P2, c8⟩, td, ss⟩, h5, h6, h7, h8⟩ := C
  have td' := td
  have ss' := ss
  unfold TD at td'
  unfold SS at ss'
  exact ⟨h1.frame (fun a q => fr a (by omega) (by omega)), h2.frame (fr _ (by omega) (by omega)), ⟨h3.frame (fr _ (by omega) (by omega)), h3b⟩, ⟨H', ok', S', os', ⟨hd, c5.frame (fun a q1 q2 q3 => fr a (by omega) (by omega)) c6, c6⟩, ⟨P1, c7.frame (fun a q1 q2 => fr a (by omega) (by omega))⟩, ⟨P2, c8.frame (fun a q1 q2 => fr a (by omega) (by omega))⟩, td, ss⟩, h5.frame (fr _ (by omega) (by omega)) (fr _ (by omega) (by omega)) (fun a q => fr a (by omega) (by omega)), h6.frame (fr _ (by omega) (by omega)) (fr _ (by omega) (by omega)) (fr _ (by omega) (by omega)), h7.frame (fun a q1 q2 => fr a (by omega) (by omega)), h8.frame (fr _ (by omega) (by omega))⟩
abbrev imU (im : Nat → Option (HS × SN)) (k : Nat) (v : HS × SN) : Nat → Option (HS × SN) := fun j => if j = k then some v else im j
/-- an image is told anew -/
theorem CIx.img (C : CIx sk f n z m T D sT sD sX tq iq) {k b : Nat} (hk : k < 2) (e : iq k = some b) {f' : Hp} (fr : ∀ a, a < b ∨ b + 29 ≤ a → f' a = f a) {h' : HS} {P' : SN} (H' : HAt f' b (b + 7) h') (ok' : okH h') (S' : SAt f' (b + 7) P') (os' : okS h' P') : CIx sk f' n z (mB m, mT m, mH m, mP m, mF m, mL m, mM m, mS m, imU (mI m) k (h', P')) T D sT sD sX tq iq := by
  obtain ⟨h1, h2, ⟨h3, h3b⟩, h4, ⟨a1, a2, a3, a4, a5, a6, a7, a8⟩, h6, h7, h8⟩ := C
  have hb : 204 ≤ b ∧ b + 29 ≤ n := by
    rcases a4 k hk with ⟨q, -⟩ | ⟨b', h, P, e1, e2, e3, e4, -⟩
    · rw [e] at q; exact absurd q (by simp)
    · rw [e] at e1; cases e1; exact ⟨e3, e4⟩
  refine ⟨h1.frame (fun a q => fr a (by omega)), h2.frame (fr _ (by omega)), ⟨h3.frame (fr _ (by omega)), h3b⟩, h4.frame (fun a _ _ => fr a (by omega)), ⟨(fr _ (by omega)).trans a1, (fr _ (by omega)).trans a2, fun N o hN q => ?_, fun j hj => ?_, a5, a6, a7, a8⟩, h6.frame (fr _ (by omega)) (fr _ (by omega)) (fr _ (by omega)), h7.frame (fun a _ _ => fr a (by omega)), h8.frame (fr _ (by omega))⟩
  · obtain ⟨c1, c2, c3, c4⟩ := a3 N o hN q
    have := a6 N o k b hN hk q e
    exact ⟨c1, c2, c3, c4.frame (fun a q1 q2 => fr a (by omega))⟩
  · by_cases q : j = k
    · subst q
      exact Or.inr ⟨b, h', P', e, if_pos rfl, hb.1, hb.2, H', ok', S', os'⟩
    · have ei : imU (mI m) k (h', P') j = mI m j := if_neg q
      show (iq j = none ∧ imU (mI m) k (h', P') j = none) ∨ ∃ b h P, iq j = some b ∧ imU (mI m) k (h', P') j = some (h, P) ∧ _
      rw [ei]
      rcases a4 j hj with w | ⟨b', h, P, e1, e2, e3, e4, e5, e6, e7, e8⟩
      · exact Or.inl w
      · have ap : b + 29 ≤ b' ∨ b' + 29 ≤ b := by
          rcases (show j = 0 ∧ k = 1 ∨ j = 1 ∧ k = 0 by omega) with ⟨rfl, rfl⟩ | ⟨rfl, rfl⟩
          · exact (a7 b' b e1 e).symm
          · exact a7 b b' e e1
        exact Or.inr ⟨b', h, P, e1, e2, e3, e4, e5.frame (fun a q1 q2 _ => fr a (by omega)) e6, e6, e7.frame (fun a q1 q2 => fr a (by omega)), e8⟩
/-- a place for an image is made -/
theorem CIx.new (C : CIx sk f n z m T D sT sD sX tq iq) {k : Nat} (hk : k < 2) (e : iq k = none) {f' : Hp} {z' : Nat} (fr : ∀ a, a ≠ 166 → (a < n ∨ n + 29 ≤ a) → f' a = f a) (e166 : f' 166 = ImgC (va_up iq k (some n))) (hz : z ≤ z') (hz2 : z' ≤ z + 1000) {h' : HS} {P' : SN} (H' : HAt f' n (n + 7) h') (ok' : okH h') (S' : SAt f' (n + 7) P') (os' : okS h' P') : CIx sk f' (n + 29) z' (mB m, mT m, mH m, mP m, mF m, mL m, mM m, mS m, imU (mI m) k (h', P')) T D sT sD sX tq (va_up iq k (some n)) := by
  obtain ⟨h1, h2, ⟨h3, h3b⟩, h4, ⟨a1, a2, a3, a4, a5, a6, a7, a8, a9, a10⟩, h6, h7, h8⟩ := C
  have hc := cnt_up (P := fun k => (iq k).isSome) (Q := fun j => (va_up iq k (some n) j).isSome) (k := k) (by show (iq k).isSome = false; rw [e]; rfl) (by show (va_up iq _ _ _).isSome = true; rw [up_s]; rfl) (fun i hi => by show _ = (va_up iq _ _ _).isSome; rw [up_n hi]) 2
  rw [if_pos hk] at hc
  have bnd : ∀ j b, j < 2 → iq j = some b → 204 ≤ b ∧ b + 29 ≤ n := fun j b hj q => by
    rcases a4 j hj with ⟨w, -⟩ | ⟨b', h, P, e1, e2, e3, e4, -⟩
    · rw [q] at w; exact absurd w (by simp)
    · rw [q] at e1; cases e1; exact ⟨e3, e4⟩
  refine ⟨h1.frame (fun a q => fr a (by omega) (by omega)), h2.frame (fr _ (by omega) (by omega)), ⟨h3.frame (fr _ (by omega) (by omega)), h3b⟩, h4.frame (fun a _ _ => fr a (by omega) (by omega)), ⟨(fr _ (by omega) (by omega)).trans a1, e166, fun N o hN q => ?_, fun j hj => ?_, a5, fun N o j b hN hj q q2 => ?_, fun b b' q q2 => ?_, by omega, by rw [hc]; omega, Nat.le_trans hz2 (by rw [hc, Nat.mul_add_one, ← Nat.add_assoc]; exact Nat.add_le_add_right a10 1000)⟩, h6.frame (fr _ (by omega) (by omega)) (fr _ (by omega) (by omega)) (fr _ (by omega) (by omega)), h7.frame (fun a _ _ => fr a (by omega) (by omega)), h8.frame (fr _ (by omega) (by omega))⟩
  · obtain ⟨c1, c2, c3, c4⟩ := a3 N o hN q
    exact ⟨c1, c2, by omega, c4.frame (fun a q1 q2 => fr a (by omega) (by omega))⟩
  · by_cases q : j = k
    · subst q
      exact Or.inr ⟨n, h', P', up_s, if_pos rfl, a8, Nat.le_refl _, H', ok', S', os'⟩
    · have ei : imU (mI m) k (h', P') j = mI m j := if_neg q
      have eq : va_up iq k (some n) j = iq j := up_n q
      show (va_up iq k (some n) j = none ∧ imU (mI m) k (h', P') j = none) ∨ ∃ b h P, va_up iq k (some n) j = some b ∧ imU (mI m) k (h', P') j = some (h, P) ∧ _
      rw [ei, eq]
      rcases a4 j hj with w | ⟨b', h, P, e1, e2, e3, e4, e5, e6, e7, e8⟩
      · exact Or.inl w
      · exact Or.inr ⟨b', h, P, e1, e2, e3, by omega, e5.frame (fun a q1 q2 _ => fr a (by omega) (by omega)) e6, e6, e7.frame (fun a q1 q2 => fr a (by omega) (by omega)), e8⟩
  · obtain ⟨c1, c2, c3, c4⟩ := a3 N o hN q
    by_cases w : j = k
    · subst w
      rw [up_s] at q2
      cases q2
      exact Or.inl c3
    · rw [up_n w] at q2
      exact a6 N o j b hN hj q q2
  · by_cases w0 : 0 = k
    · subst w0
      rw [up_s] at q
      cases q
      rw [up_n (by decide)] at q2
      have := bnd 1 b' (by omega) q2
      exact Or.inr (by omega)
    · have k1 : k = 1 := by omega
      subst k1
      rw [up_s] at q2
      cases q2
      rw [up_n (by decide)] at q
      have := bnd 0 b (by omega) q
      exact Or.inl (by omega)
/-! the reference -/
theorem w16i (k i : Nat) : (412 : Int32) * nI k + nI i = nI (412 * k + i) := by rw [← nI_add, ← nI_mul]; rfl
theorem w19i (k i : Nat) : (16 : Int32) * nI k + nI i = nI (16 * k + i) := by rw [← nI_add, ← nI_mul]; rfl
theorem rimg_55 {k : Nat} (hk : k < 2) : ∀ (d i w : Nat) (st' : RS), i + d = 16 → d < w → Cg [] [] [19] st st' → (∀ j, j < i → sL st' 19 (16 * k + j) = sL st 17 j) → (∀ x, x < 16 * k ∨ 16 * k + 16 ≤ x → sL st' 19 x = sL st 19 x) → ∃ st'', m_X12_image_L55 F w (some 179) (nI k) (nI i) (ov g st') = some (1, ov g (uA st'' 20 k 1)) ∧ Cg [] [] [19] st st'' ∧ (∀ j, j < 16 → sL st'' 19 (16 * k + j) = sL st 17 j) ∧ ∀ x, x < 16 * k ∨ 16 * k + 16 ≤ x → sL st'' 19 x = sL st 19 x := by
  intro d
  induction d with
  | zero =>
    intro i w st' hi hw C h1 h2
    obtain ⟨w, rfl⟩ : ∃ j, w = j + 1 := ⟨w - 1, by omega⟩
    refine ⟨st', ?_, C, fun j hj => h1 j (by omega), h2⟩
    show m_X12_image_b55 F _ _ _ _ _ = _
    unfold m_X12_image_b55
    rw [if_pos (show (16 : Int32) ≤ nI i from nI_le (a := 16) (by omega) (by omega)), rR_20, bd_some, wE_20 hk (Or.inr rfl), bd_some, ck_e (by decide)]
  | succ d ih =>
    intro i w st' hi hw C h1 h2
    obtain ⟨w, rfl⟩ : ∃ j, w = j + 1 := ⟨w - 1, by omega⟩
    obtain ⟨st'', i1, i2⟩ := ih (i + 1) w (uL st' 19 (16 * k + i) (sL st 17 i)) (by omega) (by omega) (C.trans (Cg.uL (by decide))) (fun j hj => by
      rw [sL_uL, if_pos rfl]
      by_cases e : j = i
      · rw [e, updL_s]
      · rw [updL_n (by omega)]; exact h1 j (by omega)) (fun x hx => by
      rw [sL_uL, if_pos rfl, updL_n (by omega)]; exact h2 x hx)
    refine ⟨st'', ?_, i2⟩
    show m_X12_image_b55 F _ _ _ _ _ = _
    unfold m_X12_image_b55
    rw [if_neg (show ¬ (16 : Int32) ≤ nI i from nI_ge (b := 16) (by omega) (by omega)), rR_19, bd_some, rR_17, bd_some, rE_17 (by omega), bd_some, C.L (k := 17) (by decide), w19i, wE_19 (by omega), bd_some, nm_e2, nI_1]
    exact i1
theorem rimg_22 (hF : 20 ≤ F) {k : Nat} (hk : k < 2) : ∀ (d i w : Nat) (st' : RS), i + d = 412 → d < w → Rs [16] st st' → (∀ j, j < i → sA st' 16 (412 * k + j) = sA st 14 j) → (∀ x, x < 412 * k ∨ 412 * k + 412 ≤ x → sA st' 16 x = sA st 16 x) → ∃ st'', m_X12_image_L22 F w (some 179) (nI k) (nI i) (ov g st') = some (1, ov g (uA st'' 20 k 1)) ∧ Cg [] [16] [19] st st'' ∧ (∀ j, j < 412 → sA st'' 16 (412 * k + j) = sA st 14 j) ∧ (∀ x, x < 412 * k ∨ 412 * k + 412 ≤ x → sA st'' 16 x = sA st 16 x) ∧ (∀ j, j < 16 → sL st'' 19 (16 * k + j) = sL st 17 j) ∧ ∀ x, x < 16 * k ∨ 16 * k + 16 ≤ x → sL st'' 19 x = sL st 19 x := by
  intro d
  induction d with
  | zero =>
    intro i w st' hi hw C h1 h2
    obtain ⟨w, rfl⟩ : ∃ j, w = j + 1 := ⟨w - 1, by omega⟩
    obtain ⟨s2, e2, c2, k2, k3⟩ := rimg_55 (F := F) (g := g) (st := st') hk 16 0 F st' (by omega) (by omega) (Cg.refl _ _ _ _) (fun _ c => absurd c (Nat.not_lt_zero _)) (fun _ _ => rfl)
    refine ⟨s2, ?_, (C.cg.mono (by decide) (by decide) (by decide)).trans (c2.mono (by decide) (by decide) (by decide)), fun j hj => ?_, fun x hx => ?_, fun j hj => ?_, fun x hx => ?_⟩
    · show m_X12_image_b22 F _ _ _ _ _ = _
      unfold m_X12_image_b22
      rw [if_pos (show (412 : Int32) ≤ nI i from nI_le (a := 412) (by omega) (by omega))]
      exact e2
    · rw [c2.A (by decide)]; exact h1 j (by omega)
    · rw [c2.A (by decide)]; exact h2 x hx
    · rw [k2 j hj, C.L]
    · rw [k3 x hx, C.L]
  | succ d ih =>
    intro i w st' hi hw C h1 h2
    obtain ⟨w, rfl⟩ : ∃ j, w = j + 1 := ⟨w - 1, by omega⟩
    obtain ⟨st'', i1, i2⟩ := ih (i + 1) w (uA st' 16 (412 * k + i) (sA st 14 i)) (by omega) (by omega) (C.trans (Rs.uA (by simp))) (fun j hj => by
      rw [sA_uA, if_pos rfl]
      by_cases e : j = i
      · rw [e, upd_s]
      · rw [upd_n (by omega)]; exact h1 j (by omega)) (fun x hx => by
      rw [sA_uA, if_pos rfl, upd_n (by omega)]; exact h2 x hx)
    refine ⟨st'', ?_, i2⟩
    show m_X12_image_b22 F _ _ _ _ _ = _
    unfold m_X12_image_b22
    rw [if_neg (show ¬ (412 : Int32) ≤ nI i from nI_ge (b := 412) (by omega) (by omega)), rR_16, bd_some, rR_14, bd_some, rE_14 (by omega), bd_some, C.A (k := 14) (by decide), w16i, wE_16 (by omega), bd_some, nm_e2, nI_1]
    exact i1
theorem rres_64 {k : Nat} (hk : k < 2) : ∀ (d i w : Nat) (st' : RS), i + d = 16 → d < w → Cg [] [] [17] st st' → (∀ j, j < i → sL st' 17 j = sL st 19 (16 * k + j)) → ∃ st'', m_X12_restore_L64 F w (some 179) (nI k) (nI i) (ov g st') = some (1, ov g st'') ∧ Cg [] [] [17] st st'' ∧ ∀ j, j < 16 → sL st'' 17 j = sL st 19 (16 * k + j) := by
  intro d
  induction d with
  | zero =>
    intro i w st' hi hw C h1
    obtain ⟨w, rfl⟩ : ∃ j, w = j + 1 := ⟨w - 1, by omega⟩
    refine ⟨st', ?_, C, fun j hj => h1 j (by omega)⟩
    show m_X12_restore_b64 F _ _ _ _ _ = _
    unfold m_X12_restore_b64
    rw [if_pos (show (16 : Int32) ≤ nI i from nI_le (a := 16) (by omega) (by omega)), ck_e (by decide)]
  | succ d ih =>
    intro i w st' hi hw C h1
    obtain ⟨w, rfl⟩ : ∃ j, w = j + 1 := ⟨w - 1, by omega⟩
    obtain ⟨st'', i1, i2⟩ := ih (i + 1) w (uL st' 17 i (sL st 19 (16 * k + i))) (by omega) (by omega) (C.trans (Cg.uL (by decide))) (fun j hj => by
      rw [sL_uL, if_pos rfl]
      by_cases e : j = i
      · rw [e, updL_s]
      · rw [updL_n (by omega)]; exact h1 j (by omega))
    refine ⟨st'', ?_, i2⟩
    show m_X12_restore_b64 F _ _ _ _ _ = _
    unfold m_X12_restore_b64
    rw [if_neg (show ¬ (16 : Int32) ≤ nI i from nI_ge (b := 16) (by omega) (by omega)), rR_17, bd_some, rR_19, bd_some, w19i, rE_19 (by omega), bd_some, C.L (k := 19) (by decide), wE_17 (by omega), bd_some, nm_e2, nI_1]
    exact i1
theorem rres_31 (hF : 20 ≤ F) {k : Nat} (hk : k < 2) : ∀ (d i w : Nat) (st' : RS), i + d = 412 → d < w → Rs [14] st st' → (∀ j, j < i → sA st' 14 j = sA st 16 (412 * k + j)) → ∃ st'', m_X12_restore_L31 F w (some 179) (nI k) (nI i) (ov g st') = some (1, ov g st'') ∧ Cg [] [14] [17] st st'' ∧ (∀ j, j < 412 → sA st'' 14 j = sA st 16 (412 * k + j)) ∧ ∀ j, j < 16 → sL st'' 17 j = sL st 19 (16 * k + j) := by
  intro d
  induction d with
  | zero =>
    intro i w st' hi hw C h1
    obtain ⟨w, rfl⟩ : ∃ j, w = j + 1 := ⟨w - 1, by omega⟩
    obtain ⟨s2, e2, c2, k2⟩ := rres_64 (F := F) (g := g) (st := st') hk 16 0 F st' (by omega) (by omega) (Cg.refl _ _ _ _) (fun _ c => absurd c (Nat.not_lt_zero _))
    refine ⟨s2, ?_, (C.cg.mono (by decide) (by decide) (by decide)).trans (c2.mono (by decide) (by decide) (by decide)), fun j hj => ?_, fun j hj => ?_⟩
    · show m_X12_restore_b31 F _ _ _ _ _ = _
      unfold m_X12_restore_b31
      rw [if_pos (show (412 : Int32) ≤ nI i from nI_le (a := 412) (by omega) (by omega))]
      exact e2
    · rw [c2.A (by decide)]; exact h1 j (by omega)
    · rw [k2 j hj, C.L]
  | succ d ih =>
    intro i w st' hi hw C h1
    obtain ⟨w, rfl⟩ : ∃ j, w = j + 1 := ⟨w - 1, by omega⟩
    obtain ⟨st'', i1, i2⟩ := ih (i + 1) w (uA st' 14 i (sA st 16 (412 * k + i))) (by omega) (by omega) (C.trans (Rs.uA (by simp))) (fun j hj => by
      rw [sA_uA, if_pos rfl]
      by_cases e : j = i
      · rw [e, upd_s]
      · rw [upd_n (by omega)]; exact h1 j (by omega))
    refine ⟨st'', ?_, i2⟩
    show m_X12_restore_b31 F _ _ _ _ _ = _
    unfold m_X12_restore_b31
    rw [if_neg (show ¬ (412 : Int32) ≤ nI i from nI_ge (b := 412) (by omega) (by omega)), rR_14, bd_some, rR_16, bd_some, w16i, rE_16 (by omega), bd_some, C.A (k := 16) (by decide), wE_14 (by omega), bd_some, nm_e2, nI_1]
    exact i1
theorem im_ok (C : CIx sk f n z m T D sT sD sX tq iq) {k : Nat} (hk : k < 2) {h : HS} {P : SN} (e : mI m k = some (h, P)) : okH h ∧ okS h P := by
  rcases C.2.2.2.2.1.2.2.2.1 k hk with ⟨-, w⟩ | ⟨b, h', P', e1, e2, e3, e4, e5, e6, e7, e8⟩
  · rw [e] at w; exact absurd w (by simp)
  · rw [e] at e2; cases e2; exact ⟨e6, e8⟩
/-- the reference keeps an image -/
theorem rimage_e (hF : 500 ≤ F) (X : CIx sk f n z m T D sT sD sX tq iq) (B : RB st m) {k : Nat} (hk : k < 2) : ∃ st', m_X12_image_L22 F F (some 179) (nI k) 0 (ov g st) = some (1, ov g st') ∧ RI st' (mB m, mT m, mH m, mP m, mF m, mL m, mM m, mS m, imU (mI m) k (mH m, mP m)) := by
  have ok : okH (mH m) := X.2.2.2.1.2.1
  obtain ⟨s1, e1, c1, k1, k2, k3, k4⟩ := rimg_22 (F := F) (g := g) (st := st) (by omega) hk 412 0 F st (by omega) (by omega) (Rs.refl _ _) (fun _ c => absurd c (Nat.not_lt_zero _)) (fun _ _ => rfl)
  refine ⟨uA s1 20 k 1, e1, ?_⟩
  have C : Cg [] [16, 20] [19] st (uA s1 20 k 1) := (c1.mono (by decide) (by decide) (by decide)).trans (Cg.uA (by decide))
  have v16 : sA (uA s1 20 k 1) 16 = sA s1 16 := by rw [sA_uA, if_neg (by decide)]
  have v19 : sL (uA s1 20 k 1) 19 = sL s1 19 := sL_uA
  have v20 : ∀ j, sA (uA s1 20 k 1) 20 j = if j = k then 1 else sA st 20 j := fun j => by
    rw [sA_uA, if_pos rfl, c1.A (by decide)]
    by_cases e : j = k
    · rw [e, upd_s, if_pos rfl]
    · rw [upd_n e, if_neg e]
  obtain ⟨R, e21, W⟩ := B
  obtain ⟨-, ⟨h2, h3⟩, h4, h5, h6, h7, ⟨⟨h8, h9⟩, h10, h11⟩, h12⟩ := R
  refine ⟨Or.inl ⟨?_, ?_⟩, ⟨?_, ?_⟩, ?_, ?_, h6.cg C (by decide) (by decide), ?_, ⟨⟨?_, ?_⟩, ?_, ?_⟩, fun j hj => ?_⟩
  · rw [C.I (by decide)]; exact e21
  · rw [C.A (by decide)]; exact W
  · rw [C.A (by decide)]; exact h2
  · rw [C.I (by decide)]; exact h3
  · rw [C.I (by decide)]; exact h4
  · rw [C.L (by decide)]; exact h5
  · rw [C.J (by decide)]; exact h7
  · rw [C.I (by decide)]; exact h8
  · rw [C.A (by decide)]; exact h9
  · rw [C.I (by decide)]; exact h10
  · rw [C.A (by decide)]; exact h11
  · show (imU (mI m) k (mH m, mP m) j = none ∧ _) ∨ ∃ h P, imU (mI m) k (mH m, mP m) j = some (h, P) ∧ _
    rw [v16, v19, v20]
    by_cases q : j = k
    · subst q
      refine Or.inr ⟨mH m, mP m, if_pos rfl, if_pos rfl, W.ext ok (fun i hi => k1 i hi), h5.ext ok (fun i hi => k3 i hi)⟩
    · rw [show imU (mI m) k (mH m, mP m) j = mI m j from if_neg q, if_neg q]
      rcases h12 j hj with w | ⟨h, P, w1, w2, w3, w4⟩
      · exact Or.inl w
      · have okj := (im_ok X hj w1).1
        exact Or.inr ⟨h, P, w1, w2, w3.ext okj (fun i hi => k2 _ (by omega)), w4.ext okj (fun i hi => k4 _ (by omega))⟩
theorem rrestore_e (hF : 500 ≤ F) (X : CIx sk f n z m T D sT sD sX tq iq) (B : RB st m) {k : Nat} (hk : k < 2) {h : HS} {P : SN} (e : mI m k = some (h, P)) : ∃ st', m_X12_restore_L31 F F (some 179) (nI k) 0 (ov g st) = some (1, ov g st') ∧ RI st' (mB m, mT m, h, P, mF m, mL m, mM m, mS m, mI m) := by
  obtain ⟨s1, e1, c1, k1, k2⟩ := rres_31 (F := F) (g := g) (st := st) (by omega) hk 412 0 F st (by omega) (by omega) (Rs.refl _ _) (fun _ c => absurd c (Nat.not_lt_zero _))
  obtain ⟨okh, -⟩ := im_ok X hk e
  rcases B.1.2.2.2.2.2.2.2 k hk with ⟨w, -⟩ | ⟨h', P', w1, w2, w3, w4⟩
  · rw [e] at w; exact absurd w (by simp)
  · rw [e] at w1
    cases w1
    exact ⟨s1, e1, B.1.hp (c1.mono (by decide) (by decide) (by decide)) B.2.1 (w3.ext okh (fun i hi => k1 i hi)) (w4.ext okh (fun i hi => k2 i hi))⟩
theorem td_off (C : CIx sk f n z m T D sT sD sX tq iq) : (T = 102 ∨ T = 131) ∧ (sT = 109 ∨ sT = 138 ∨ sT = 160) ∧ offR T sT := by
  have td := C.2.2.2.1.2.2.2.2.2.2.2.1
  have ss := C.2.2.2.1.2.2.2.2.2.2.2.2
  unfold TD at td
  unfold SS at ss
  unfold offR
  omega
theorem k_restore (hF : 5041 ≤ F) (k : Int32) : KW sk (m_X11_restore F (some 100) k) (m_X12_restore F (some 179) k) := by
  intro f n z st m C R
  obtain ⟨T, D, sT, sD, sX, tq, iq, X⟩ := C.x
  obtain ⟨hT, hs, o1⟩ := td_off X
  obtain ⟨S, K, -, ⟨H, ok, A, os, -⟩, Z, -⟩ := id X
  have fa : (m_X11_restore F (some 100) k f = some (0, f)) → (∀ s1, RB s1 m → ((k < 0 ∨ nI 2 ≤ k) ∨ ∃ j, j < 2 ∧ k = nI j ∧ sA s1 20 j = 0)) → ∃ v f' m', m_X11_restore F (some 100) k f = some (v, f') ∧ (∀ a, 179 ≤ a → a < 204 → f' a = f a) ∧ CI sk f' n z m' ∧ ∀ g, ∃ st', m_X12_restore F (some 179) k (ov g st) = some (v, ov g st') ∧ RI st' m' := by
    intro e hr
    refine ⟨0, f, m, e, fun _ _ _ => rfl, C, fun g => ?_⟩
    obtain ⟨s1, q1, B1⟩ := rbeg (F := F) (g := g) (by omega) R 0
    have hr := hr s1 B1
    refine ⟨s1, ?_, B1.1⟩
    unfold m_X12_restore
    rw [wI_0, bd_some, ck_e r_isO, bd_e q1, bd_e (risIn (k := 1) (M := 1) (by omega) rfl k)]
    by_cases c : k < 0 ∨ nI 2 ≤ k
    · rw [if_pos c, if_pos rfl, ck_e (by decide)]
    · obtain ⟨j, j1, j2, j3⟩ := hr.resolve_left c
      rw [if_neg c, if_neg (by decide), rR_20, bd_some, j2, rE_20 j1, bd_some, j3, if_pos rfl, ck_e (by decide)]
  rcases outin (k := 2) (by omega) k with hk | ⟨k, hk, rfl⟩
  · refine fa ?_ (fun s1 B1 => Or.inl hk)
    unfold m_X11_restore
    by_cases c : k < 0
    · rw [if_pos c, ck_e (by decide)]
    · rw [if_neg c, if_pos (show (2 : Int32) ≤ k from hk.resolve_left c), ck_e (by decide)]
  · have n0 : ¬ nI k < 0 := nI_pos (by omega)
    have n2 : ¬ (2 : Int32) ≤ nI k := nI_ge (b := 2) hk (by omega)
    have r166 : f 166 = some (.inr (6, 2, .inr (.inr (.inr (.inr iq))))) := Z.2.1
    rcases Z.2.2.2.1 k hk with ⟨q1, q2⟩ | ⟨b, h, P, q1, q2, q3, q4, q5, q6, q7, q8⟩
    · refine fa ?_ (fun s1 B1 => Or.inr ?_)
      · unfold m_X11_restore
        rw [if_neg n0, if_neg n2, bd_e (gR_s K rfl), bd_e (ldR_e r166 hk (by omega)), q1, if_pos rfl, ck_e (by decide)]
      · rcases B1.1.2.2.2.2.2.2.2 k hk with ⟨-, w⟩ | ⟨h', P', w1, -⟩
        · exact ⟨k, hk, rfl, w⟩
        · rw [q2] at w1; exact absurd w1 (by simp)
    · obtain ⟨f', e1, H', A', fr⟩ := become_e (F := F) (f := f) (a := T) (b := b) (sa := sT) (sb := b + 7) (by omega) (by omega) (by omega) (by omega) (by omega) o1 (by unfold offR; omega) (by unfold offR; omega) (by omega) (H.x ok) A.x q5 q6 q7
      refine ⟨1, f', _, ?_, fun a h1 h2 => fr a (by omega) (by omega), (X.hp fr H' q6 A' q8).ci, fun g => ?_⟩
      · unfold m_X11_restore
        rw [if_neg n0, if_neg n2, bd_e (gR_s K rfl), bd_e (ldR_e r166 hk (by omega)), q1, if_neg (by simp), bd_e (gR_s K rfl), bd_e (gR_s K rfl), bd_e (ldR_e r166 hk (by omega)), q1, ck_e (isO_e H.1), bd_e e1, ck_e (by decide)]
      · obtain ⟨s1, r1, B1⟩ := rbeg (F := F) (g := g) (by omega) R 0
        obtain ⟨s2, r2, r3⟩ := rrestore_e (F := F) (g := g) (by omega) X B1 hk q2
        refine ⟨s2, ?_, r3⟩
        have v20 : sA s1 20 k ≠ 0 := by
          rcases B1.1.2.2.2.2.2.2.2 k hk with ⟨w, -⟩ | ⟨h', P', w1, w2, -⟩
          · rw [q2] at w; exact absurd w (by simp)
          · rw [w2]; decide
        unfold m_X12_restore
        rw [wI_0, bd_some, ck_e r_isO, bd_e r1, bd_e (risIn (k := 1) (M := 1) (by omega) rfl _), if_neg (inin (by omega) hk), if_neg (by decide), rR_20, bd_some, rE_20 hk, bd_some, if_neg v20]
        exact r2
theorem k_image (hF : 5041 ≤ F) (k : Int32) : KA sk (m_X11_image F (some 100) k) (m_X12_image F (some 179) k) := by
  intro f n z st m C R
  obtain ⟨T, D, sT, sD, sX, tq, iq, X⟩ := C.x
  obtain ⟨hT, hs, o1⟩ := td_off X
  obtain ⟨S, K, -, ⟨H, ok, A, os, -⟩, Z, -⟩ := id X
  rcases outin (k := 2) (by omega) k with hk | ⟨k, hk, rfl⟩
  · refine ⟨0, f, n, z, m, ?_, Nat.le_refl _, Nat.le_refl _, fun _ _ _ => rfl, C, fun g => ?_⟩
    · unfold m_X11_image
      by_cases c : k < 0
      · rw [if_pos c, ck_e (by decide)]
      · rw [if_neg c, if_neg (show ¬ k < (2 : Int32) from Int32.not_lt.mpr (hk.resolve_left c)), ck_e (by decide)]
    · obtain ⟨s1, q1, B1⟩ := rbeg (F := F) (g := g) (by omega) R 0
      refine ⟨s1, ?_, B1.1⟩
      unfold m_X12_image
      rw [wI_0, bd_some, ck_e r_isO, bd_e q1, bd_e (risIn (k := 1) (M := 1) (by omega) rfl k), if_pos hk, if_pos rfl, ck_e (by decide)]
  · have n0 : ¬ nI k < 0 := nI_pos (by omega)
    have n2 : nI k < (2 : Int32) := nI_lt (b := 2) hk (by omega)
    have r166 : f 166 = some (.inr (6, 2, .inr (.inr (.inr (.inr iq))))) := Z.2.1
    have zn : 204 ≤ n := Z.2.2.2.2.2.2.2.1
    have ref : ∀ g, ∃ st', m_X12_image F (some 179) (nI k) (ov g st) = some (1, ov g st') ∧ RI st' (mB m, mT m, mH m, mP m, mF m, mL m, mM m, mS m, imU (mI m) k (mH m, mP m)) := fun g => by
      obtain ⟨s1, r1, B1⟩ := rbeg (F := F) (g := g) (by omega) R 0
      obtain ⟨s2, r2, r3⟩ := rimage_e (F := F) (g := g) (by omega) X B1 hk
      refine ⟨s2, ?_, r3⟩
      unfold m_X12_image
      rw [wI_0, bd_some, ck_e r_isO, bd_e r1, bd_e (risIn (k := 1) (M := 1) (by omega) rfl _), if_neg (inin (by omega) hk), if_neg (by decide)]
      exact r2
    rcases Z.2.2.2.1 k hk with ⟨q1, q2⟩ | ⟨b, h, P, q1, q2, q3, q4, q5, q6, q7, q8⟩
    · obtain ⟨f1, z1, i1, i2, i3, i4, i5, i6⟩ := hinit_e (F := F) (g := f) (b := n) (by omega) (by omega) (z + 12)
      obtain ⟨i0, j1, j3, j6, j9, hcell⟩ := i4.1
      have okr : okR f1 6 (some n) = true := okR_3 hcell
      generalize hf2 : va_up f1 166 (some (.inr (6, 2, .inr (.inr (.inr (.inr (va_up iq k (some n)))))))) = f2
      have fr2 : ∀ x, x ≠ 166 → f2 x = f1 x := fun x hx => by rw [← hf2]; exact up_n hx
      have e2 : f2 166 = some (.inr (6, 2, .inr (.inr (.inr (.inr (va_up iq k (some n))))))) := by rw [← hf2]; exact up_s
      have s2 : stR f1 6 (some 166) (nI k) (some n) = some f2 := by
        rw [← hf2]
        exact stR_e ((i6 _ (by omega)).trans r166) hk (by omega) (by omega) okr
      have g2 : ∀ x, x ≠ 166 → (x < n ∨ n + 29 ≤ x) → f2 x = f x := fun x h1 h2 => (fr2 x h1).trans (i6 x h2)
      have X2 : HX f2 n (n + 7) := by
        obtain ⟨⟨a0, a1, a2, a3, a4, a5⟩, ⟨p1, p1a, p1b⟩, ⟨p2, p2a, p2b⟩, ⟨v3, v3a⟩, ⟨v4, v4a⟩, ⟨v5, v5a⟩, ⟨v6, v6a⟩, cA, dA⟩ := i4
        exact ⟨⟨a0, a1, a2, a3, a4, (fr2 _ (by omega)).trans a5⟩, ⟨p1, (fr2 _ (by omega)).trans p1a, p1b⟩, ⟨p2, (fr2 _ (by omega)).trans p2a, p2b⟩, ⟨v3, (fr2 _ (by omega)).trans v3a⟩, ⟨v4, (fr2 _ (by omega)).trans v4a⟩, ⟨v5, (fr2 _ (by omega)).trans v5a⟩, ⟨v6, (fr2 _ (by omega)).trans v6a⟩, fun c hc => by
          obtain ⟨u0, u1, u2, u3, u4, u5, u⟩ := cA c hc
          exact ⟨_, _, _, _, _, _, (fr2 _ (by omega)).trans u⟩, fun c hc => by
          obtain ⟨u0, u1, u2, u, uw⟩ := dA c hc
          exact ⟨_, _, _, (fr2 _ (by omega)).trans u, uw⟩⟩
      have Y2 : SX f2 (n + 7) := by
        obtain ⟨⟨l, t0⟩, ⟨t1, t1a, t1b⟩, ⟨t2, t2a⟩, ⟨t3, t3a⟩, ⟨t4, t4a⟩, ⟨t5, t5a⟩⟩ := i5
        exact ⟨⟨l, (fr2 _ (by omega)).trans t0⟩, ⟨t1, (fr2 _ (by omega)).trans t1a, t1b⟩, ⟨t2, (fr2 _ (by omega)).trans t2a⟩, ⟨t3, (fr2 _ (by omega)).trans t3a⟩, ⟨t4, (fr2 _ (by omega)).trans t4a⟩, ⟨t5, (fr2 _ (by omega)).trans t5a⟩⟩
      have H2 : HAt f2 T sT (mH m) := H.frame (fun a h1 h2 _ => g2 a (by omega) (by omega)) ok
      have A2 : SAt f2 sT (mP m) := A.frame (fun a h1 h2 => g2 a (by omega) (by omega))
      have K2 : KAt f2 T D sX (nI (mT m)) (nI (mF m)) (mL m) := (g2 _ (by omega) (by omega)).trans K
      obtain ⟨f3, k3, H3, A3, fr3⟩ := become_e (F := F) (f := f2) (a := n) (b := T) (sa := n + 7) (sb := sT) (by omega) (by omega) (by omega) (by omega) (by omega) (by unfold offR; omega) (by unfold offR; omega) (by unfold offR; omega) (by omega) X2 Y2 H2 ok A2
      have gg : ∀ x, x ≠ 166 → (x < n ∨ n + 29 ≤ x) → f3 x = f x := fun x h1 h2 => (fr3 x (by omega) (by omega)).trans (g2 x h1 h2)
      refine ⟨1, f3, n + 29, z1, _, ?_, by omega, by omega, fun a h1 h2 => gg a (by omega) (by omega), (X.new hk q1 gg ((fr3 166 (by omega) (by omega)).trans e2) (by omega) (by omega) H3 ok A3 os).ci, ref⟩
      unfold m_X11_image
      rw [if_neg n0, if_pos n2, bd_e (gR_s K rfl), bd_e (ldR_e r166 hk (by omega)), q1, if_pos rfl, bd_e (gR_s K rfl)]
      refine grow_s ?_ (by show _ ≤ n + 29; omega) (by show _ ≤ z1; omega)
      rw [nm_e2, bd3_e i1, ck_e (decide_eq_true ⟨by omega, by omega⟩)]
      refine grow_r ?_
      rw [bd_e s2]
      unfold m_X11_image_B33
      obtain ⟨n0', m1, m3, m6, m9, mc⟩ := X2.1
      rw [bd_e (gR_s K2 rfl), bd_e (ldR_e e2 hk (by omega)), up_s, bd_e (gR_s K2 rfl), ck_e (isO_e mc)]
      refine grow_r ?_
      rw [bd_e k3, ck_e (by decide)]
    · obtain ⟨f3, k3, H3, A3, fr3⟩ := become_e (F := F) (f := f) (a := b) (b := T) (sa := b + 7) (sb := sT) (by omega) (by omega) (by omega) (by omega) (by omega) (by unfold offR; omega) (by unfold offR; omega) (by unfold offR; omega) (by omega) (q5.x q6) q7.x H ok A
      refine ⟨1, f3, n, z, _, ?_, Nat.le_refl _, Nat.le_refl _, fun a h1 h2 => fr3 a (by omega) (by omega), (X.img hk q1 (fun a ha => fr3 a (by omega) (by omega)) H3 ok A3 os).ci, ref⟩
      unfold m_X11_image
      rw [if_neg n0, if_pos n2, bd_e (gR_s K rfl), bd_e (ldR_e r166 hk (by omega)), q1, if_neg (by simp)]
      unfold m_X11_image_B33
      rw [bd_e (gR_s K rfl), bd_e (ldR_e r166 hk (by omega)), q1, bd_e (gR_s K rfl), ck_e (isO_e q5.1)]
      refine grow_r ?_
      rw [bd_e k3, ck_e (by decide)]
end IMG
