/-! the class reads a LINE: DESKS, 'likely' -/
theorem swM_1 : ∀ k, k < 21 → (swMap k = 1 ↔ k = 4) ∧ (swMap k = 2 ↔ k = 5) ∧ (swMap k = 9 ↔ k = 6) ∧ (swMap k = 3 ↔ k = 1) ∧ (swMap k = 4 ↔ k = 2) ∧ (swMap k = 5 ↔ k = 3) ∧ (swMap k = 6 ↔ k = 7) ∧ (swMap k = 7 ↔ k = 8) ∧ (swMap k = 8 ↔ k = 9) := by decide +kernel
def kyF (t : Tok) : Nat := if tK t = 2 then kwF (tL t) else 0
theorem kyF_lt (t : Tok) : kyF t < 21 := by
  unfold kyF
  split
  · exact kwF_lt _
  · decide
theorem kyF_iff (t : Tok) {k : Nat} (h : k ≠ 0) : kyF t = k ↔ tK t = 2 ∧ kwF (tL t) = k := by
  unfold kyF
  constructor
  · intro e
    by_cases c : tK t = 2
    · rw [if_pos c] at e; exact ⟨c, e⟩
    · rw [if_neg c] at e; exact absurd e.symm h
  · rintro ⟨c, e⟩
    rw [if_pos c, e]
section CLINE2
variable {F : Nat} {B : Nat → Nat} {n R D sD : Nat} {f : Hp} {h : HS} {t : Tok} {lc : Bool} {pt : Nat}
theorem CF.hs {q : Flt} (C : CF n R D sD f q) (d : D = 102 ∨ D = 131) {f' : Hp} {h' : HS} (fr : ∀ a, a < D ∨ D + 7 ≤ a ∧ a < D + 13 ∨ D + 29 ≤ a → f' a = f a) (H : HAt f' D sD h') (ok : okH h') : CF n R D sD f' q := by
  obtain ⟨⟨a, nx, k0, code, kw, sg, v, c1, c2⟩, -, ⟨l, p, v4, v5, c3⟩, c4⟩ := C
  exact ⟨⟨a, nx, k0, code, kw, sg, v, (fr _ (by omega)).trans c1, c2⟩, ⟨h', H, ok⟩, ⟨l, p, v4, v5, (fr _ (by omega)).trans c3⟩, c4⟩
theorem CF.c4 {q : Flt} (C : CF n R D sD f q) (d : D = 102 ∨ D = 131) {f' : Hp} (fr : ∀ a, a ≠ 169 → f' a = f a) {l p v4 v5 : Int32} (e : f' 169 = some (.inl (4, c4 D l p v4 v5))) : CF n R D sD f' q := by
  obtain ⟨⟨a, nx, k0, code, kw, sg, v, c1, c2⟩, ⟨h', H, ok⟩, -, c4⟩ := C
  exact ⟨⟨a, nx, k0, code, kw, sg, v, (fr _ (by omega)).trans c1, c2⟩, ⟨h', H.frame (fun a _ _ _ => fr a (by omega)) ok, ok⟩, ⟨l, p, v4, v5, e⟩, c4⟩
/-- the switch over a word -/
theorem CSt.sw (C : CSt B n R D sD f h t lc pt) {β : Type} {K : Int32 → Option β} : ((gR f (some 169) 4 0).bind fun x1 => (gR f x1 8 7).bind fun x2 => (enI x2).bind fun i2 => (ldI f 1 (some 33) (nI i2)).bind K) = K (swMap (kyF t)) := by
  have kl := kyF_lt t
  have e : enI (some (kyF t)) = some (kyF t) := if_pos kl
  rw [bd_e C.g0, bd_e C.key]
  show (enI (some (kyF t))).bind _ = _
  rw [e, bd_some, ldI_e C.1.1.swm (by omega) (by omega), bd_some]
theorem cdesk_s (hF : 742 ≤ F) (C : CSt B n R D sD f h t lc pt) (k : 2 ≤ tK t) : CRd B n R D sD f lc pt (m_X5_readDesk F (some 169) f) (mDesk B n R h t) := by
  have d := C.2.2.2.2.2.2.2.1
  obtain ⟨H, ok⟩ := C.2.2.1
  have lci := C.2.2.2.2.1
  unfold m_X5_readDesk mDesk
  rw [bd_e C.g1, ck_e (isO_e H.1)]
  by_cases l6 : (hD h).length = 6
  · rw [if_pos l6, bd_e (nextDesk_n H l6), if_pos rfl]
    obtain ⟨f', i1, i2, i3⟩ := cbad (F := F) C (k := 4) (by decide) (by decide) rfl
    exact Or.inl ⟨_, f', rfl, i1, i2, i3⟩
  · have l6 : (hD h).length < 6 := by have := ok.2.2.2.1; omega
    rw [if_neg (by omega), bd_e (nextDesk_y H l6), if_neg (by simp)]
    obtain ⟨w0, lim0, nm0, u, uw⟩ := H.2.2.2.2.2.2.2.2.2.2 _ (Nat.le_refl _) l6
    obtain ⟨f2, i2, C2, fr2⟩ := cadv_q hF C k
    have c2 : f2 (D + 23 + (hD h).length) = some (.inl (1, [.ref w0, .int lim0, .long nm0])) := (fr2 _ (by omega)).trans u
    have F2 : FrD D f f2 := FrD.of fr2
    rw [i2, ck_e C2.io]
    rcases cname_s (F := F) (by omega) C2 with ⟨q, f3, j1, j2, j3, j4⟩ | ⟨j1, j2, j3, j4⟩
    · rw [j1, bd2_e j2, if_pos rfl, ck_e (by decide)]
      exact Or.inl ⟨q, f3, rfl, rfl, j3, F2.trans (FrD.of j4)⟩
    · have nm := C2.name j3
      rw [j1, bd2_e j2, if_neg (by decide), bd_e C2.g0, bd_e (C2.code j3), bd_e (show pV f2 (some (D + 23 + (hD h).length)) 1 2 (.long (lN (code32 (tL (nxT B n R t))))) = some (va_up f2 (D + 23 + (hD h).length) (some (.inl (1, [.ref w0, .int lim0, .long (lN (code32 (tL (nxT B n R t))))])))) from pV_e c2 (Nat.le_of_ble_eq_true rfl))]
      show CRd B n R D sD f lc pt _ _
      generalize hL : tL (nxT B n R t) = L at nm
      generalize hf3 : va_up f2 (D + 23 + (hD h).length) (some (.inl (1, [.ref w0, .int lim0, .long (lN (code32 L))]))) = f3
      have fr3 : ∀ a, a ≠ D + 23 + (hD h).length → f3 a = f2 a := fun a ha => by rw [← hf3]; exact up_n ha
      have c3 : f3 (D + 23 + (hD h).length) = some (.inl (1, [.ref w0, .int lim0, .long (lN (code32 L))])) := by rw [← hf3]; exact up_s
      obtain ⟨H2, -⟩ := C2.2.2.1
      have C3 : CSt B n R D sD f3 h (nxT B n R t) lc pt := C2.hs (fun a ha => fr3 a (by omega)) (H2.dslot ok l6 (fun a _ _ _ h4 => fr3 a h4) ⟨_, _, _, c3, uw⟩) ok lci
      obtain ⟨f4, i4, C4, fr4⟩ := cadv_q hF C3 (by omega)
      have c4 : f4 (D + 23 + (hD h).length) = some (.inl (1, [.ref w0, .int lim0, .long (lN (code32 L))])) := (fr4 _ (by omega)).trans c3
      have F4 : FrD D f f4 := (F2.trans (FrD.hs (fun a ha => fr3 a (by omega)))).trans (FrD.of fr4)
      have kl := kyF_lt (nxT B n R (nxT B n R t))
      have p5 : pV f4 (some (D + 23 + (hD h).length)) 1 0 (va_rf (some (kyF (nxT B n R (nxT B n R t))))) = some (va_up f4 (D + 23 + (hD h).length) (some (.inl (1, [.ref (kyF (nxT B n R (nxT B n R t))), .int lim0, .long (lN (code32 L))])))) := pV_e c4 (Nat.le_of_ble_eq_true rfl)
      generalize hf5 : va_up f4 (D + 23 + (hD h).length) (some (.inl (1, [.ref (kyF (nxT B n R (nxT B n R t))), .int lim0, .long (lN (code32 L))]))) = f5 at p5
      have fr5 : ∀ a, a ≠ D + 23 + (hD h).length → f5 a = f4 a := fun a ha => by rw [← hf5]; exact up_n ha
      have c5 : f5 (D + 23 + (hD h).length) = some (.inl (1, [.ref (kyF (nxT B n R (nxT B n R t))), .int lim0, .long (lN (code32 L))])) := by rw [← hf5]; exact up_s
      obtain ⟨H4, -⟩ := C4.2.2.1
      have C5 : CSt B n R D sD f5 h (nxT B n R (nxT B n R t)) lc pt := C4.hs (fun a ha => fr5 a (by omega)) (H4.dslot ok l6 (fun a _ _ _ h4 => fr5 a h4) ⟨_, _, _, c5, kl⟩) ok lci
      have F5 : FrD D f f5 := F4.trans (FrD.hs (fun a ha => fr5 a (by omega)))
      rw [i4, bd_e C4.g0, bd_e C4.key, bd_e (show pV f4 (some (D + 23 + (hD h).length)) 1 0 (va_rf (some (if tK (nxT B n R (nxT B n R t)) = 2 then kwF (tL (nxT B n R (nxT B n R t))) else 0))) = some f5 from p5), C5.sw]
      have q1 := kyF_iff (nxT B n R (nxT B n R t)) (k := 4) (by decide)
      have q2 := kyF_iff (nxT B n R (nxT B n R t)) (k := 5) (by decide)
      have q3 := kyF_iff (nxT B n R (nxT B n R t)) (k := 6) (by decide)
      obtain ⟨s1, s2, s3, -⟩ := swM_1 _ kl
      simp only [← q1, ← q2, ← q3, s1, s2, s3]
      by_cases e1 : kyF (nxT B n R (nxT B n R t)) = 4
      · rw [if_pos e1, if_pos e1]
        have t2 := (q1.mp e1).1
        obtain ⟨f6, i6, C6, fr6⟩ := cdesk_end hF C5 (by omega) l6 (d := (0, 0, L)) ⟨lim0, by rw [c5, e1]; rfl, fun e => absurd e (show ¬ 0 = 1 by decide)⟩ nm.1 (show 0 < 3 by decide) (fun e => absurd e (show ¬ 0 = 1 by decide))
        exact Or.inr ⟨_, _, f6, rfl, i6, C6, F5.trans fr6⟩
      · rw [if_neg e1, if_neg e1]
        by_cases e2 : kyF (nxT B n R (nxT B n R t)) = 5
        · rw [if_pos e2, if_pos e2]
          have t2 := (q2.mp e2).1
          obtain ⟨f6, i6, C6, fr6⟩ := cadv_q hF C5 (by omega)
          have c6 := (fr6 (D + 23 + (hD h).length) (by omega)).trans c5
          have F6 : FrD D f f6 := F5.trans (FrD.of fr6)
          rw [i6, bd_e C6.g0, ck_e C6.isK]
          rcases cnum_s (F := F) C6 (lo := 1) (hi := 9) (L := 1) (H := 9) (by decide) (by decide) rfl rfl with ⟨q, f7, j1, j2, j3, j4⟩ | ⟨v, j1, j2, j3, j4, j5⟩
          · have c7 := (j4 (D + 23 + (hD h).length) (by omega)).trans c6
            obtain ⟨h7, H7, ok7⟩ := j3.2.1
            obtain ⟨H6, -⟩ := C6.2.2.1
            have p8 : pV f7 (some (D + 23 + (hD h).length)) 1 1 (.int (-1)) = some (va_up f7 (D + 23 + (hD h).length) (some (.inl (1, [.ref (kyF (nxT B n R (nxT B n R t))), .int (-1), .long (lN (code32 L))])))) := pV_e c7 (Nat.le_of_ble_eq_true rfl)
            rw [j1, bd2_e j2, bd_e p8, bd_e (gI_e up_s rfl), if_pos rfl, ck_e (by decide)]
            refine Or.inl ⟨q, _, rfl, rfl, j3.hs d (h' := h) (fun a ha => up_n (by omega)) ?_ ok, (F6.trans (FrD.of j4)).trans (FrD.hs (fun a ha => up_n (by omega)))⟩
            exact (H6.frame (fun a _ _ _ => j4 a (by omega)) ok).dslot ok l6 (fun a _ _ _ h4 => up_n h4) ⟨_, _, _, up_s, kl⟩
          · have p8 : pV f6 (some (D + 23 + (hD h).length)) 1 1 (.int (nI v)) = some (va_up f6 (D + 23 + (hD h).length) (some (.inl (1, [.ref (kyF (nxT B n R (nxT B n R t))), .int (nI v), .long (lN (code32 L))])))) := pV_e c6 (Nat.le_of_ble_eq_true rfl)
            rw [j1, bd2_e j2, bd_e p8, bd_e (gI_e up_s rfl), if_neg (nI_nm1 (by omega))]
            obtain ⟨H6, -⟩ := C6.2.2.1
            have C7 : CSt B n R D sD (va_up f6 (D + 23 + (hD h).length) (some (.inl (1, [.ref (kyF (nxT B n R (nxT B n R t))), .int (nI v), .long (lN (code32 L))])))) h (nxT B n R (nxT B n R (nxT B n R t))) lc pt := C6.hs (fun a ha => up_n (by omega)) (H6.dslot ok l6 (fun a _ _ _ h4 => up_n h4) ⟨_, _, _, up_s, kl⟩) ok lci
            obtain ⟨f8, i8, C8, fr8⟩ := cdesk_end hF C7 (by omega) l6 (d := (1, v, L)) ⟨nI v, by rw [up_s, e2]; rfl, fun _ => rfl⟩ nm.1 (show 1 < 3 by decide) (fun _ => ⟨j3, j4⟩)
            exact Or.inr ⟨_, _, f8, rfl, i8, C8, (F6.trans (FrD.hs (fun a ha => up_n (by omega)))).trans fr8⟩
        · rw [if_neg e2, if_neg e2]
          by_cases e3 : kyF (nxT B n R (nxT B n R t)) = 6
          · rw [if_pos e3, if_pos e3]
            have t2 := (q3.mp e3).1
            obtain ⟨f6, i6, C6, fr6⟩ := cdesk_end hF C5 (by omega) l6 (d := (2, 0, L)) ⟨lim0, by rw [c5, e3]; rfl, fun e => absurd e (show ¬ 2 = 1 by decide)⟩ nm.1 (show 2 < 3 by decide) (fun e => absurd e (show ¬ 2 = 1 by decide))
            exact Or.inr ⟨_, _, f6, rfl, i6, C6, F5.trans fr6⟩
          · rw [if_neg e3, if_neg e3]
            obtain ⟨f6, i6, i7, i8⟩ := cbad (F := F) C5 (k := 1) (by decide) (by decide) rfl
            exact Or.inl ⟨_, f6, rfl, i6, i7, F5.trans i8⟩
/-- what 'likely' answers -/
def CRl (B : Nat → Nat) (n R D sD : Nat) (f : Hp) (o : Option (Int32 × Hp)) (m : Flt ⊕ (HS × Tok × Nat)) : Prop :=
  (∃ q f', m = .inl q ∧ o = some (0, f') ∧ CF n R D sD f' q ∧ FrD D f f') ∨ ∃ h' t' pt' f', m = .inr (h', t', pt') ∧ o = some (1, f') ∧ CSt B n R D sD f' h' t' true pt' ∧ FrD D f f'
theorem clik_s (hF : 742 ≤ F) (C : CSt B n R D sD f h t true pt) (k : 2 ≤ tK t) : CRl B n R D sD f (m_X5_readLikely F (some 169) f) (mLikely B n R h t pt) := by
  have d := C.2.2.2.2.2.2.2.1
  have p8 := C.2.2.2.2.2.2.2.2
  obtain ⟨H, ok⟩ := C.2.2.1
  have n7 := ok.1.2
  have n2 := ok.1.1
  obtain ⟨f1, i1, C1, fr1⟩ := cadv_q hF C k
  obtain ⟨H1, -⟩ := C1.2.2.1
  have F1 : FrD D f f1 := FrD.of fr1
  unfold m_X5_readLikely mLikely
  rw [i1, bd_e C1.g0, bd_e C1.g1, bd_e (gI_e H1.1 rfl), ck_e C1.isK]
  rcases cnum_s (F := F) C1 (lo := 1) (hi := hN h - 1) (L := 1) (H := nI (hN h) - 1) (by decide) (by omega) rfl (nI_m1 (by omega)) with ⟨q, f7, j1, j2, j3, j4⟩ | ⟨p, j1, j2, j3, j4, j5⟩
  · rw [j1, bd2_e j2, if_pos rfl, ck_e (by decide)]
    exact Or.inl ⟨q, f7, rfl, rfl, j3, F1.trans (FrD.of j4)⟩
  · rw [j1, bd2_e j2, if_neg (nI_nm1 (by omega)), bd_e C1.ptv, bit_ne (by omega) (by omega)]
    show CRl B n R D sD f _ (if pt.testBit p = true then _ else _)
    cases e : pt.testBit p
    · rw [if_pos (show nI (false).toNat = 0 by decide), if_neg (show ¬ false = true by decide)]
      obtain ⟨f2, i2, C2, fr2⟩ := cadv_q hF C1 (by omega)
      have F2 : FrD D f f2 := F1.trans (FrD.of fr2)
      rw [i2, bd_e C2.g0, ck_e C2.isK]
      rcases cnum_s (F := F) C2 (lo := 0) (hi := 9) (L := 0) (H := 9) (by decide) (by decide) rfl rfl with ⟨q, f7, j1, j2, j3', j4'⟩ | ⟨w, j1, j2, j3', j4', j5'⟩
      · rw [j1, bd2_e j2, if_pos rfl, ck_e (by decide)]
        exact Or.inl ⟨q, f7, rfl, rfl, j3', F2.trans (FrD.of j4')⟩
      · rw [j1, bd2_e j2, if_neg (nI_nm1 (by omega)), bd_e C2.ptv]
        obtain ⟨v4, v5, c5⟩ := C2.2.2.2.1
        have e2 : nI pt ||| ((1 : Int32) <<< (nI p &&& 31)) = nI (pt ||| 2 ^ p) := by
          rw [show (1 : Int32) = nI 1 from rfl, nI_shl (by omega) (by rw [Nat.one_mul]; exact Nat.pow_lt_pow_right (by decide) (by omega)), Nat.one_mul, nI_or]
        have l8 : pt ||| 2 ^ p < 256 := Nat.or_lt_two_pow (n := 8) p8 (Nat.pow_lt_pow_right (by decide) (by omega))
        have p3 : pV f2 (some 169) 4 3 (.int (nI (pt ||| 2 ^ p))) = some (va_up f2 169 (some (.inl (4, c4 D 1 (nI (pt ||| 2 ^ p)) v4 v5)))) := pV_e c5 (Nat.le_of_ble_eq_true rfl)
        have C3 : CSt B n R D sD (va_up f2 169 (some (.inl (4, c4 D 1 (nI (pt ||| 2 ^ p)) v4 v5)))) h (nxT B n R (nxT B n R t)) true (pt ||| 2 ^ p) := C2.c4 (fun a ha => up_n ha) up_s lcI_t l8
        rw [e2, bd_e p3]
        generalize hf3 : va_up f2 169 (some (.inl (4, c4 D 1 (nI (pt ||| 2 ^ p)) v4 v5))) = f3 at C3
        have F3 : FrD D f f3 := F2.trans (fun a _ a2 _ => by rw [← hf3]; exact up_n a2)
        obtain ⟨H3, -⟩ := C3.2.2.1
        obtain ⟨wr, a3, b3⟩ := H3.2.2.2.1
        rw [bd_e C3.g1, bd_e (gR_s H3.1 rfl), bd_e (alen_e a3 (by decide)), if_neg (show ¬ nI 6 < nI p from nI_nlt (by omega) (by omega)), bd_e C3.g1, bd_e (gR_s H3.1 rfl), nI_m1 j3, bd_e (stI1 a3 (by omega) (by omega) (by omega))]
        have C4 : CSt B n R D sD (va_up f3 (D + 3) (rwI 6 (upd wr (p - 1) (nI w)))) (stW h (p - 1) w) (nxT B n R (nxT B n R t)) true (pt ||| 2 ^ p) := C3.hs (fun a ha => up_n (by omega)) (H3.stW' ok (by omega) a3 (fun a _ _ _ h4 => up_n h4) up_s) (ok.stW j4') lcI_t
        obtain ⟨f5, i5, C5, fr5⟩ := cend_q hF C4 (by omega)
        exact Or.inr ⟨_, _, _, f5, rfl, i5, C5, (F3.trans (FrD.hs (fun a ha => up_n (by omega)))).trans fr5⟩
    · rw [if_neg (show ¬ nI (true).toNat = 0 by decide), if_pos (show true = true from rfl)]
      obtain ⟨f6, i6, i7, i8⟩ := cbad (F := F) C1 (k := 3) (by decide) (by decide) rfl
      exact Or.inl ⟨_, f6, rfl, i6, i7, F1.trans i8⟩
end CLINE2
