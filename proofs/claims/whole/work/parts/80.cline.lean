/-! the class reads a LINE -/
section CLINE
variable {F : Nat} {B : Nat → Nat} {n R D sD : Nat} {f : Hp} {h : HS} {t : Tok} {lc : Bool} {pt : Nat}
/-- what a reader of the class answers -/
def CRd (B : Nat → Nat) (n R D sD : Nat) (f : Hp) (lc : Bool) (pt : Nat) (o : Option (Int32 × Hp)) (m : Flt ⊕ (HS × Tok)) : Prop :=
  (∃ q f', m = .inl q ∧ o = some (0, f') ∧ CF n R D sD f' q ∧ FrD D f f') ∨ ∃ h' t' f', m = .inr (h', t') ∧ o = some (1, f') ∧ CSt B n R D sD f' h' t' lc pt ∧ FrD D f f'
theorem FrD.hs {f' : Hp} (fr : ∀ a, a < D ∨ D + 7 ≤ a ∧ a < D + 13 ∨ D + 29 ≤ a → f' a = f a) : FrD D f f' := fun a _ _ h => fr a h
theorem lcI_t {h : HS} : lcI true h := fun e => absurd e (by decide)
theorem ccopy_s (hF : 742 ≤ F) (C : CSt B n R D sD f h t true pt) (k : 2 ≤ tK t) : CRd B n R D sD f true pt (m_X5_readCopy F (some 169) f) (mCopy B n R h t) := by
  have d := C.2.2.2.2.2.2.2.1
  obtain ⟨H, ok⟩ := C.2.2.1
  unfold m_X5_readCopy mCopy
  rw [bd_e C.g1, ck_e (isO_e H.1)]
  by_cases l10 : (hC h).length = 10
  · rw [if_pos l10, bd2_e (nextCopy_n H l10), if_pos rfl]
    obtain ⟨f', i1, i2, i3⟩ := cbad (F := F) C (k := 4) (by decide) (by decide) rfl
    exact Or.inl ⟨_, f', rfl, i1, i2, i3⟩
  · have l10 : (hC h).length < 10 := by have := ok.2.1; omega
    rw [if_neg (by omega), bd2_e (nextCopy_y H ok l10), if_neg (by simp)]
    generalize hf1 : va_up f (D + 13 + (hC h).length) (some (.inl (0, cC 0 []))) = f1
    have fr1 : ∀ a, a ≠ D + 13 + (hC h).length → f1 a = f a := fun a ha => by rw [← hf1]; exact up_n ha
    have c1 : f1 (D + 13 + (hC h).length) = some (.inl (0, cC 0 [])) := by rw [← hf1]; exact up_s
    have C1 : CSt B n R D sD f1 h t true pt := C.hs (fun a ha => fr1 a (by omega)) (H.slot ok l10 (fun a _ _ _ h4 => fr1 a h4) ⟨_, _, _, _, _, _, c1⟩) ok lcI_t
    obtain ⟨f2, i2, C2, fr2⟩ := cadv_q hF C1 k
    have c2 : f2 (D + 13 + (hC h).length) = some (.inl (0, cC 0 [])) := (fr2 _ (by omega)).trans c1
    have F2 : FrD D f f2 := (FrD.hs (fun a ha => fr1 a (by omega))).trans (FrD.of fr2)
    rw [i2, ck_e C2.io]
    rcases cname_s (F := F) (by omega) C2 with ⟨q, f3, j1, j2, j3, j4⟩ | ⟨j1, j2, j3, j4⟩
    · rw [j1, bd2_e j2, if_pos rfl, ck_e (by decide)]
      exact Or.inl ⟨q, f3, rfl, rfl, j3, F2.trans (FrD.of j4)⟩
    · have nm := C2.name j3
      rw [j1, bd2_e j2, if_neg (by decide), bd_e C2.g0, bd_e (C2.code j3), bd_e (pV_e c2 (Nat.le_of_ble_eq_true rfl))]
      show CRd B n R D sD f true pt _ _
      generalize hL : tL (nxT B n R t) = L at nm
      generalize hf3 : va_up f2 (D + 13 + (hC h).length) (some (.inl (0, List.set (cC 0 []) 0 (.long (lN (code32 L)))))) = f3
      have fr3 : ∀ a, a ≠ D + 13 + (hC h).length → f3 a = f2 a := fun a ha => by rw [← hf3]; exact up_n ha
      have c3 : f3 (D + 13 + (hC h).length) = some (.inl (0, cC (lN (code32 L)) [])) := by rw [← hf3]; exact up_s
      obtain ⟨H2, -⟩ := C2.2.2.1
      have C3 : CSt B n R D sD f3 h (nxT B n R t) true pt := C2.hs (fun a ha => fr3 a (by omega)) (H2.slot ok l10 (fun a _ _ _ h4 => fr3 a h4) ⟨_, _, _, _, _, _, c3⟩) ok lcI_t
      obtain ⟨f4, i4, C4, fr4⟩ := cadv_q hF C3 (by omega)
      have c4 : f4 (D + 13 + (hC h).length) = some (.inl (0, cC (lN (code32 L)) [])) := (fr4 _ (by omega)).trans c3
      have F4 : FrD D f f4 := (F2.trans (FrD.hs (fun a ha => fr3 a (by omega)))).trans (FrD.of fr4)
      rw [i4, bd_e C4.g0, bd_e C4.kind]
      have k4 := C4.k4
      generalize ht2 : nxT B n R (nxT B n R t) = t2 at C4 k4
      by_cases k2 : tK t2 = 2
      · rw [if_pos k2, if_pos (show nI (tK t2) = (2 : Int32) by rw [k2]; rfl), ck_e C4.io]
        obtain ⟨nm2, ne2⟩ := C4.name k2
        obtain ⟨H4, -⟩ := C4.2.2.1
        have n7 := ok.1.2
        obtain ⟨f5, fr5, q5⟩ := cspell_L (F := F) (D := D) (f := f4) nm2 (c := D + 13 + (hC h).length) (N := hN h) (nm := lN (code32 L)) (by omega) n7 (fun f' fr => by
          have C' : CSt B n R D sD f' h t2 true pt ∨ True := Or.inr trivial
          have e168 : f' 168 = f4 168 := fr _ (by omega)
          have e169 : f' 169 = f4 169 := fr _ (by omega)
          have eD : f' D = f4 D := fr _ (by omega)
          obtain ⟨v4, v5, c5⟩ := C4.2.2.2.1
          obtain ⟨nx, code, sg, v, u1, u2, -⟩ := C4.2.1.1
          exact ⟨gR_s (e169.trans c5) rfl, gR_s (e169.trans c5) rfl, by rw [gJ_e (e168.trans u1) rfl, u2 k2], gI_e (eD.trans H4.1) rfl⟩) 7 F f4 (by omega) (by omega) (fun _ _ => rfl) (by
          rw [show (tL t2).length - 7 = 0 by have := nm2.1; omega]
          exact c4) (by rw [show (tL t2).length - 7 = 0 by have := nm2.1; omega]; rfl)
        have F5 : FrD D f f5 := F4.trans (FrD.hs (fun a ha => fr5 a (by omega)))
        rcases q5 with ⟨o1, o2, o3⟩ | ⟨o1, o2, o3⟩
        · rw [o1, if_pos rfl, bd2_e (show m_X5_spell F (some 169) _ f4 = some (1, f5) from o2), if_neg (by decide)]
          have C5 : CSt B n R D sD f5 h t2 true pt := C4.hs (fun a ha => fr5 a (by omega)) (H4.slot ok l10 (fun a _ _ _ h4 => fr5 a h4) ⟨_, _, _, _, _, _, o3⟩) ok lcI_t
          obtain ⟨H5, -⟩ := C5.2.2.1
          have p6 : pV f5 (some D) 3 1 (.int (nI ((hC h).length + 1))) = some (va_up f5 D (some (.inl (3, hcell D sD (hN h) ((hC h).length + 1) (hD h).length (hS h).length (hR h).length)))) := pV_e H5.cell (Nat.le_of_ble_eq_true rfl)
          have oo := okO_m (fun x hx => (nm2.2 x hx).1) o1
          have C6 : CSt B n R D sD (va_up f5 D (some (.inl (3, hcell D sD (hN h) ((hC h).length + 1) (hD h).length (hS h).length (hR h).length)))) (adC h (L, (tL t2).map (fun l => l - 1))) t2 true pt := C5.hs (fun a ha => up_n (by omega)) (H5.addC ok l10 (fun a _ _ _ h4 h5 => up_n h4) up_s ((up_n (by omega)).trans o3)) (ok.addC l10 nm.1 ⟨fun x hx => Nat.lt_of_lt_of_le (oo.1 x hx) n7, oo.2⟩ oo.1 (by
            rw [List.length_map]
            rcases Nat.eq_zero_or_pos (tL t2).length with z | z
            · exact absurd (List.eq_nil_of_length_eq_zero z) ne2
            · exact z)) lcI_t
          obtain ⟨f7, i7, C7, fr7⟩ := cend_q hF C6 (by omega)
          rw [bd_e C5.g1, bd_e (gI_e H5.1 rfl), nI_1, bd_e p6, i7]
          exact Or.inr ⟨_, _, f7, rfl, rfl, C7, (F5.trans (FrD.hs (fun a ha => up_n (by omega)))).trans fr7⟩
        · rw [o1, if_neg (by decide), bd2_e (show m_X5_spell F (some 169) _ f4 = some (0, f5) from o2), if_pos rfl]
          have C5 : CSt B n R D sD f5 h t2 true pt := C4.hs (fun a ha => fr5 a (by omega)) (H4.slot ok l10 (fun a _ _ _ h4 => fr5 a h4) o3) ok lcI_t
          obtain ⟨f6, i6, i7, i8⟩ := cbad (F := F) C5 (k := 2) (by decide) (by decide) rfl
          exact Or.inl ⟨_, f6, rfl, i6, i7, F5.trans i8⟩
      · rw [if_neg k2, if_neg (show ¬ nI (tK t2) = (2 : Int32) from fun e => k2 ((nI_eq (b := 2) (by omega) (by omega)).mp e))]
        obtain ⟨f6, i6, i7, i8⟩ := cbad (F := F) C4 (k := 1) (by decide) (by decide) rfl
        exact Or.inl ⟨_, f6, rfl, i6, i7, F4.trans i8⟩
theorem nextDesk_n {b s : Nat} (H : HAt f b s h) (e : (hD h).length = 6) : m_X4_nextDesk F (some b) f = some none := by
  unfold m_X4_nextDesk
  rw [bd_e (gI_e H.1 rfl), e, if_pos (by decide)]
theorem nextDesk_y {b s : Nat} (H : HAt f b s h) (l6 : (hD h).length < 6) : m_X4_nextDesk F (some b) f = some (some (b + 23 + (hD h).length)) := by
  obtain ⟨q, r1, r2⟩ := H.2.2.1
  unfold m_X4_nextDesk
  rw [bd_e (gI_e H.1 rfl), if_neg (show ¬ (6 : Int32) ≤ nI (hD h).length from nI_ge (b := 6) l6 (by omega)), bd_e (gR_s H.1 rfl), bd_e (gI_e H.1 rfl), bd_e (ldR_e r1 l6 (by omega)), r2 _ l6]
theorem cdesk_end (hF : 742 ≤ F) (C : CSt B n R D sD f h t lc pt) (k : 2 ≤ tK t) (l6 : (hD h).length < 6) {d : Nat × Nat × List Nat} (e : dAt f (D + 23 + (hD h).length) d) (h1 : okName d.2.2) (h2 : d.1 < 3) (h3 : d.1 = 1 → 1 ≤ d.2.1 ∧ d.2.1 ≤ 9) : ∃ f', m_X5_readDesk_B159 F (some 169) f = some (1, f') ∧ CSt B n R D sD f' (adD h d) (nxT B n R t) lc pt ∧ FrD D f f' := by
  have dd := C.2.2.2.2.2.2.2.1
  obtain ⟨H, ok⟩ := C.2.2.1
  have p6 : pV f (some D) 3 3 (.int (nI ((hD h).length + 1))) = some (va_up f D (some (.inl (3, hcell D sD (hN h) (hC h).length ((hD h).length + 1) (hS h).length (hR h).length)))) := pV_e H.cell (Nat.le_of_ble_eq_true rfl)
  have C6 : CSt B n R D sD (va_up f D (some (.inl (3, hcell D sD (hN h) (hC h).length ((hD h).length + 1) (hS h).length (hR h).length)))) (adD h d) t lc pt := C.hs (fun a ha => up_n (by omega)) (H.addD' ok l6 (fun a _ _ _ h4 h5 => up_n h4) up_s (e.frame (up_n (by omega)))) (ok.addD l6 h1 h2 h3) C.2.2.2.2.1
  obtain ⟨f7, i7, C7, fr7⟩ := cend_q hF C6 k
  refine ⟨f7, ?_, C7, (FrD.hs (fun a ha => up_n (by omega))).trans fr7⟩
  unfold m_X5_readDesk_B159
  rw [bd_e C.g1, bd_e (gI_e H.1 rfl), nI_1, bd_e p6, i7]
end CLINE
