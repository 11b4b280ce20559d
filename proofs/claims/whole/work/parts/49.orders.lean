/-! the orders of the HOUSE's lines, at any time -/
variable {sk : Nat}
def CIx (sk : Nat) (f : Hp) (n z : Nat) (m : MS) (T D sT sD sX : Nat) (tq iq : Nat → Option Nat) : Prop := St4 f ∧ KAt f T D sX (nI (mT m)) (nI (mF m)) (mL m) ∧ (TP f (mB m) ∧ mT m ≤ 740 ∧ mF m ≤ 4) ∧ HH f T D sT sD sX (mH m) (mP m) ∧ LZ sk f n z tq iq (mI m) ∧ TKA f ∧ FM f (mM m) (mS m) ∧ MR f
theorem CI.x {f : Hp} {n z : Nat} {m : MS} (C : CI sk f n z m) : ∃ T D sT sD sX tq iq, CIx sk f n z m T D sT sD sX tq iq := C
theorem CIx.ci {f : Hp} {n z : Nat} {m : MS} {T D sT sD sX : Nat} {tq iq : Nat → Option Nat} (C : CIx sk f n z m T D sT sD sX tq iq) : CI sk f n z m := ⟨T, D, sT, sD, sX, tq, iq, C⟩
theorem cnt_up {P Q : Nat → Bool} {k : Nat} (hk : P k = false) (hk2 : Q k = true) (h : ∀ i, i ≠ k → P i = Q i) : ∀ n, cnt n Q = cnt n P + if k < n then 1 else 0
  | 0 => by rw [if_neg (Nat.not_lt_zero _)]; rfl
  | n + 1 => by
    rw [cnt_s, cnt_s, cnt_up hk hk2 h n]
    by_cases e : n = k
    · subst e
      rw [hk, hk2, if_neg (Nat.lt_irrefl _), if_pos rfl, if_neg (by decide), if_pos (Nat.lt_succ_self _)]
    · rw [h n e]
      by_cases q : k < n
      · rw [if_pos q, if_pos (show k < n + 1 by omega)]; omega
      · rw [if_neg q, if_neg (show ¬ k < n + 1 by omega)]; omega
section ORDS
variable {F : Nat} {f : Hp} {n z : Nat} {m : MS} {T D sT sD sX : Nat} {tq iq : Nat → Option Nat}
theorem CIx.td (C : CIx sk f n z m T D sT sD sX tq iq) : T = 102 ∧ D = 131 ∨ T = 131 ∧ D = 102 := C.2.2.2.1.2.2.2.2.2.2.2.1
/-- only the table of the orders has changed -/
theorem CIx.ord (C : CIx sk f n z m T D sT sD sX tq iq) {N o : Nat} (hN : N < 8) (e : tq N = some o) {f' : Hp} (hO : OAt f' o N) (fr : ∀ a, (a < o ∨ o + 9 ≤ a) → f' a = f a) : CIx sk f' n z m T D sT sD sX tq iq := by
  obtain ⟨h1, h2, ⟨h3, h3b⟩, h4, ⟨a1, a2, a3, a4, a5, a6, a7⟩, h6, h7, h8⟩ := C
  obtain ⟨b1, b2, b3, b4⟩ := a3 N o hN e
  refine ⟨h1.frame (fun a h => fr a (by omega)), h2.frame (fr _ (by omega)), ⟨h3.frame (fr _ (by omega)), h3b⟩, h4.frame (fun a _ _ => fr a (by omega)), ⟨?_, ?_, fun N' o' hN' e' => ?_, fun k hk => ?_, a5, a6, a7⟩, h6.frame (fr _ (by omega)) (fr _ (by omega)) (fr _ (by omega)), h7.frame (fun a _ _ => fr a (by omega)), h8.frame (fr _ (by omega))⟩
  · rw [fr _ (by omega)]; exact a1
  · rw [fr _ (by omega)]; exact a2
  · by_cases q : N' = N
    · subst q
      rw [e] at e'
      cases e'
      exact ⟨b1, b2, b3, hO⟩
    · obtain ⟨c1, c2, c3, c4⟩ := a3 N' o' hN' e'
      have := a5 N' N o' o hN' hN q e' e
      exact ⟨c1, c2, c3, c4.frame (fun a q1 q2 => fr a (by omega))⟩
  · rcases a4 k hk with q | ⟨b, h, P, e1, e2, e3, e4, e5, e6, e7, e8⟩
    · exact Or.inl q
    · have := a6 N o k b hN hk e e1
      exact Or.inr ⟨b, h, P, e1, e2, e3, e4, e5.frame (fun a q1 q2 _ => fr a (by omega)) e6, e6, e7.frame (fun a q1 q2 => fr a (by omega)), e8⟩
theorem orders_e (hF : 5041 ≤ F) (C : CIx sk f n z m T D sT sD sX tq iq) : ∃ o f' n' z' tq', m_X11_orders F (some 100) f n z = some (some o, f', n', z') ∧ n ≤ n' ∧ z ≤ z' ∧ CIx sk f' n' z' m T D sT sD sX tq' iq ∧ tq' (hN (mH m)) = some o ∧ OAt f' o (hN (mH m)) ∧ 204 ≤ o ∧ ∀ a, a < 204 → a ≠ 167 → f' a = f a := by
  have C0 := C
  have hT := C.td
  obtain ⟨h1, h2, ⟨h3, h3b⟩, h4, ⟨a1, a2, a3, a4, a5, a6, a7, a8, a9, a10⟩, h6, h7, h8⟩ := C
  have h4' := h4
  obtain ⟨H, ok, -⟩ := h4'
  have h2N := ok.1.1
  have h7N := ok.1.2
  cases e : tq (hN (mH m)) with
  | some o =>
    obtain ⟨b1, b2, b3, b4⟩ := a3 _ o (by omega) e
    exact ⟨o, f, n, z, tq, orders_old h2 H ok a1 e n z, Nat.le_refl _, Nat.le_refl _, C0, e, b4, b2, fun _ _ _ => rfl⟩
  | none =>
    obtain ⟨f', z', q1, q2, q3, q4, q5, q6⟩ := orders_new (F := F) h1 h2 H ok hF a1 e (n := n) (by omega) (by omega) z
    have fr : ∀ a, a ≠ 167 → a < n → f' a = f a := fun a h1 h2 => q6 a h1 (Or.inl h2)
    have hc := cnt_up (P := fun k => (tq k).isSome) (Q := fun k => (va_up tq (hN (mH m)) (some n) k).isSome) (k := hN (mH m)) (by show (tq _).isSome = false; rw [e]; rfl) (by show (va_up tq _ _ _).isSome = true; rw [up_s]; rfl) (fun i hi => by show _ = (va_up tq _ _ _).isSome; rw [up_n hi]) 8
    rw [if_pos (by omega)] at hc
    refine ⟨n, f', n + 9, z', va_up tq (hN (mH m)) (some n), q1, by omega, q2, ?_, up_s, q4, a8, fun a h1 h2 => fr a h2 (by omega)⟩
    refine ⟨h1.frame (fun a h => fr a (by omega) (by omega)), h2.frame (fr _ (by omega) (by omega)), ⟨h3.frame (fr _ (by omega) (by omega)), h3b⟩, h4.frame (fun a _ _ => fr a (by omega) (by omega)), ⟨q5, (fr _ (by omega) (by omega)).trans a2, fun N' o' hN' e' => ?_, fun k hk => ?_, fun N1 N2 o1 o2 hN1 hN2 hne e1 e2 => ?_, fun N1 o1 k b hN1 hk e1 e2 => ?_, a7, by omega, by rw [hc]; omega, by rw [hc]; omega⟩, h6.frame (fr _ (by omega) (by omega)) (fr _ (by omega) (by omega)) (fr _ (by omega) (by omega)), h7.frame (fun a _ _ => fr a (by omega) (by omega)), h8.frame (fr _ (by omega) (by omega))⟩
    · by_cases q : N' = hN (mH m)
      · subst q
        rw [up_s] at e'
        cases e'
        exact ⟨h2N, a8, Nat.le_refl _, q4⟩
      · rw [up_n q] at e'
        obtain ⟨c1, c2, c3, c4⟩ := a3 N' o' hN' e'
        exact ⟨c1, c2, by omega, c4.frame (fun a g1 g2 => fr a (by omega) (by omega))⟩
    · rcases a4 k hk with q | ⟨b, h, P, e1, e2, e3, e4, e5, e6, e7, e8⟩
      · exact Or.inl q
      · exact Or.inr ⟨b, h, P, e1, e2, e3, by omega, e5.frame (fun a g1 g2 _ => fr a (by omega) (by omega)) e6, e6, e7.frame (fun a g1 g2 => fr a (by omega) (by omega)), e8⟩
    · by_cases q : N1 = hN (mH m)
      · subst q
        rw [up_s] at e1
        cases e1
        rw [up_n (fun c => hne c.symm)] at e2
        obtain ⟨c1, c2, c3, c4⟩ := a3 N2 o2 hN2 e2
        omega
      · rw [up_n q] at e1
        obtain ⟨c1, c2, c3, c4⟩ := a3 N1 o1 hN1 e1
        by_cases q' : N2 = hN (mH m)
        · subst q'
          rw [up_s] at e2
          cases e2
          omega
        · rw [up_n q'] at e2
          exact a5 N1 N2 o1 o2 hN1 hN2 hne e1 e2
    · by_cases q : N1 = hN (mH m)
      · subst q
        rw [up_s] at e1
        cases e1
        rcases a4 k hk with q' | ⟨b', h, P, e1, e2', e3, e4, -⟩
        · rw [q'.1] at e2; cases e2
        · rw [e1] at e2; cases e2; omega
      · rw [up_n q] at e1
        exact a6 N1 o1 k b hN1 hk e1 e2
end ORDS
