/-! all orders of N lines are laid -/
theorem grow_s {ρ : Type} {pr : ρ → Nat × Nat} {n z : Nat} {k : Option ρ} {r : ρ} (hk : k = some r) (h1 : n ≤ (pr r).1) (h2 : z ≤ (pr r).2) : grow pr n z k = some r := by
  subst hk
  exact if_pos ⟨h1, h2⟩
theorem exch_i (r x ha he na ne A B : Int32) (h : r + he * A + ne * B = x + ha * A + na * B) : x + (ha - he) * A + (na - ne) * B = r := by grind
def objN (o N : Nat) : List Value := [.int (nI N), .int (nI (fct N)), .int (nI (bitsOf 21 (allP N))), .ref (o + 1), .ref (o + 2), .ref (o + 3), .ref (o + 4), .ref (o + 5), .ref (o + 6)]
section OINIT
variable {F : Nat} {f : Hp} {o N : Nat}
theorem putEx_L (S : St4 f) (ho : 100 ≤ o) (h2 : 2 ≤ N) (h7 : N ≤ 7) (hF : 8 ≤ F) (hO : f o = some (.inl (5, objN o N))) {c x : Nat} (hx : x < fct N) (hc : f c = some (.inl (0, cC 0 (unrk N x)))) (hco : c ≠ o + 3) : ∀ (d p z : Nat) (E : Nat → Int32), p + d = N - 1 → d < z → 
    ∃ E', m_X6_putExchanges_L2 F z (some o) (nI x) (some c) (nI p) (va_up f (o + 3) (some (.inr (1, fct N * (N - 1), .inl E)))) = some (va_up f (o + 3) (some (.inr (1, fct N * (N - 1), .inl E')))) ∧ (∀ q, p ≤ q → q < N - 1 → E' (x * (N - 1) + q) = nI (exN N x q)) ∧ (∀ j, (∀ q, p ≤ q → q < N - 1 → j ≠ x * (N - 1) + q) → E' j = E j) := by
  have hP := unrk_ok hx
  have hL := hP.L h7
  have hlen := hP.2.2
  have h5 := fct_le N (by omega)
  intro d
  induction d with
  | zero =>
    intro p z E hp hz
    obtain ⟨z, rfl⟩ : ∃ j, z = j + 1 := ⟨z - 1, by omega⟩
    refine ⟨E, ?_, fun q h1 h2 => by omega, fun j _ => rfl⟩
    show m_X6_putExchanges_b2 F _ _ _ _ _ _ = _
    unfold m_X6_putExchanges_b2
    rw [gI_o (by omega), bd_e (gI_e hO rfl), nI_m1 (by omega), if_pos (nI_le (by omega) (by omega))]
  | succ d ih =>
    intro p z E hp hz
    obtain ⟨z, rfl⟩ : ∃ j, z = j + 1 := ⟨z - 1, by omega⟩
    have hp1 : p + 1 < (unrk N x).length := by omega
    have hp0 : p < (unrk N x).length := by omega
    obtain ⟨ha, na, e1, e2, e3⟩ := rkT_swp p (unrk N x) hP.1 hp1
    rw [hlen, rk_unrk hx] at e1
    have hb : x * (N - 1) + p < fct N * (N - 1) := by
      have h1 : (x + 1) * (N - 1) ≤ fct N * (N - 1) := Nat.mul_le_mul_right _ hx
      rw [Nat.add_mul] at h1
      omega
    have hb2 : fct N * (N - 1) ≤ 5040 * 6 := Nat.mul_le_mul h5 (by omega)
    obtain ⟨E', q1, q2, q3⟩ := ih (p + 1) z (upd E (x * (N - 1) + p) (nI (exN N x p))) (by omega) (by omega)
    refine ⟨E', ?_, ?_, ?_⟩
    · have hcell : (va_up f (o + 3) (some (.inr (1, fct N * (N - 1), .inl E)))) c = some (.inl (0, cC 0 (unrk N x))) := by rw [up_n hco]; exact hc
      have hS : St4 (va_up f (o + 3) (some (.inr (1, fct N * (N - 1), .inl E)))) := fun a ha => by rw [up_n (by omega)]; exact S a ha
      have hO' : (va_up f (o + 3) (some (.inr (1, fct N * (N - 1), .inl E)))) o = some (.inl (5, objN o N)) := by rw [up_n (by omega)]; exact hO
      have l1 := hL.1 _ (List.getElem_mem hp0)
      have l2 := hL.1 _ (List.getElem_mem hp1)
      show m_X6_putExchanges_b2 F _ _ _ _ _ _ = _
      unfold m_X6_putExchanges_b2
      rw [bd_e (gI_e hO' rfl), nI_m1 (by omega), if_neg (nI_ge (by omega) (by omega)), bd_e (lowerBehind_e hcell hL hp0 hF), nI_1, bd_e (lowerBehind_e hcell hL hp1 hF), bd_e (gI_e hcell rfl), bd_e (lineOf_L F _ hL hp0), bd_e (gI_e hcell rfl), bd_e (lineOf_L F _ hL hp1)]
      have key : ∀ s7 s0 : Int32, s7 = nI ha → s0 = nI na → m_X6_putExchanges_B86 F (m_X6_putExchanges_L2 F z) (some o) (nI x) (some c) (nI p) (nI (lowB (unrk N x) p)) (nI (lowB (unrk N x) (p + 1))) s7 s0 (va_up f (o + 3) (some (.inr (1, fct N * (N - 1), .inl E)))) = some (va_up f (o + 3) (some (.inr (1, fct N * (N - 1), .inl E')))) := by
        intro s7 s0 h7' h0'
        subst h7' h0'
        unfold m_X6_putExchanges_B86
        rw [bd_e (gR_s hO' rfl), bd_e (gI_e hO' rfl), bd_e (gI_e hO' rfl), nI_m1 (by omega), nI_sub (by omega), bd_e (factorial_e hS (by omega)), bd_e (gI_e hO' rfl), show nI N - (2 : Int32) = nI (N - 2) from nI_sub (b := 2) h2, nI_sub (by omega), bd_e (factorial_e hS (by omega)), nI_mul, nI_add]
        have hv := exch_i (nI (exN N x p)) (nI x) (nI ha) (nI (lowB (unrk N x) p)) (nI na) (nI (lowB (unrk N x) (p + 1))) (nI (fct (N - 1 - p))) (nI (fct (N - 2 - p))) (by
          rw [nI_mul, nI_mul, nI_mul, nI_mul, nI_add, nI_add, nI_add, nI_add]
          exact congrArg nI e1)
        rw [hv, bd_e (stI1 up_s hb (by omega) (by omega)), up_up, nm_e2, nI_1]
        exact q1
      unfold m_X6_putExchanges_B54 m_X6_putExchanges_B70
      by_cases c1 : (unrk N x)[p] ≤ (unrk N x)[p + 1]
      · obtain ⟨r1, r2⟩ := e3 (by rw [getD_e hp1, getD_e hp0]; omega)
        rw [if_pos (nI_le c1 (by omega)), if_pos rfl, if_pos rfl]
        exact key _ _ (by rw [nI_1, r1]) (by rw [r2])
      · obtain ⟨r1, r2⟩ := e2 (by rw [getD_e hp1, getD_e hp0]; omega)
        rw [if_neg (nI_ge (by omega) (by omega)), if_neg (by decide), if_neg (by decide)]
        exact key _ _ (by rw [r1]) (by rw [nI_m1 (by omega), ← r2]; rfl)
    · intro q h1 h3
      by_cases e : q = p
      · subst e
        rw [q3 _ (fun r a b => by omega), upd_s]
      · exact q2 q (by omega) h3
    · intro j hj
      rw [q3 j (fun q a b => hj q (by omega) b), upd_n (hj p (Nat.le_refl _) (by omega))]
theorem append_all {rc : Option Nat → Option Nat → Option Nat → Int32 → Hp → Nat → Nat → Option (Hp × Nat × Nat)} {c w na za : Nat} {v4 : Int32} {M : List Nat} {g : Nat → Int32} {fx : Hp} (h7 : N ≤ 7) (hF : 8 ≤ F) (hP : okP N M) (hO : f o = some (.inl (5, objN o N))) (hw : f w = some (.inr (1, N, .inl g))) (hg : RW g M) (hoc : o ≠ c) (hwc : w ≠ c)
    (hend : m_X6_init_B198 F rc (some o) (some c) (some w) v4 (va_up f c (some (.inl (0, cC 0 M)))) na za = some (fx, na, za)) : ∀ (d i z : Nat), i + d = N → d < z → m_X6_init_L175 F rc z (some o) (some c) (some w) v4 (nI i) (va_up f c (some (.inl (0, cC 0 (M.take i))))) na za = some (fx, na, za) := by
  have hlen := hP.2.2
  have hL := hP.L h7
  intro d
  induction d with
  | zero =>
    intro i z hi hz
    obtain ⟨z, rfl⟩ : ∃ j, z = j + 1 := ⟨z - 1, by omega⟩
    show m_X6_init_b175 F _ _ _ _ _ _ _ _ _ _ = _
    unfold m_X6_init_b175
    rw [gI_o hoc, bd_e (gI_e hO rfl), if_pos (nI_le (by omega) (by omega)), show i = M.length by omega, List.take_length]
    exact hend
  | succ d ih =>
    intro i z hi hz
    obtain ⟨z, rfl⟩ : ∃ j, z = j + 1 := ⟨z - 1, by omega⟩
    have hil : i < M.length := by omega
    have hnd : (M.take i ++ M[i] :: M.drop (i + 1)).Nodup := by
      rw [← List.drop_eq_getElem_cons hil, List.take_append_drop]
      exact hP.1
    rw [List.nodup_append] at hnd
    have hm : M[i] ∉ M.take i := fun q => hnd.2.2 _ q _ List.mem_cons_self rfl
    have hok : okL (M.take i) := ⟨fun x hx => hL.1 x (List.mem_of_mem_take hx), hnd.1⟩
    show m_X6_init_b175 F _ _ _ _ _ _ _ _ _ _ = _
    unfold m_X6_init_b175
    have hw' : (va_up f c (some (.inl (0, cC 0 (M.take i))))) w = some (.inr (1, N, .inl g)) := by rw [up_n hwc]; exact hw
    rw [gI_o hoc, bd_e (gI_e hO rfl), if_neg (nI_ge (by omega) (by omega)), bd_e (ldI_e hw' (by omega) (by omega)), hg i hil, ck_e (isO_e up_s)]
    refine grow_s ?_ (Nat.le_refl _) (Nat.le_refl _)
    rw [bd_e (append_e hF up_s hok (hL.1 _ (List.getElem_mem hil)) hm (by rw [List.length_take]; omega)), nm_e2, nI_1, up_up]
    have e : M.take i ++ [M[i]] = M.take (i + 1) := by
      rw [List.take_add_one, List.getElem?_eq_getElem hil]
      rfl
    rw [e]
    exact ih (i + 1) z (by omega) (by omega)
end OINIT
