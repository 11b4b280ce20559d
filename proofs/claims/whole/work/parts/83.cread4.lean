/-! the class reads a whole HOUSE -/
/-- t' is further on than t, if it is a TOKEN -/
def Fw (B : Nat → Nat) (n R : Nat) (t t' : Tok) : Prop := isT B n R t' ∧ (2 ≤ tK t' → tA t < tA t')
section FWD
variable {B : Nat → Nat} {n R : Nat} {t t' : Tok} {h : HS}
theorem Fw.s (i : isT B n R t) (k : 2 ≤ tK t) : Fw B n R t (nxT B n R t) := ⟨i.nx k, fun k2 => i.fwd k k2⟩
theorem Fw.nx (w : Fw B n R t t') (k : 2 ≤ tK t') : Fw B n R t (nxT B n R t') := ⟨w.1.nx k, fun k2 => Nat.lt_trans (w.2 k) (w.1.fwd k k2)⟩
theorem mNum_k {lo hi v : Nat} (e : mNum t lo hi = .inr v) : 2 ≤ tK t := by
  unfold mNum at e
  by_cases c : tK t = 3
  · omega
  · rw [if_neg c] at e; cases e
theorem mLet_k {N v : Nat} (e : mLet t N = .inr v) : 2 ≤ tK t := by
  unfold mLet at e
  by_cases c : tK t = 2
  · omega
  · rw [if_neg c] at e; cases e
theorem mName_k (e : mName h t = none) : 2 ≤ tK t := by
  unfold mName at e
  by_cases c : tK t = 2 ∧ kwF (tL t) = 0
  · omega
  · rw [if_neg c] at e; cases e
theorem mPair_k {a : Nat × Nat} (e : mPair B n R h t = .inr a) : 2 ≤ tK t ∧ 2 ≤ tK (nxT B n R t) := by
  unfold mPair at e
  cases e1 : mLet t (hN h) with
  | inl q => rw [e1] at e; cases e
  | inr x =>
    rw [e1] at e
    cases e2 : mLet (nxT B n R t) (hN h) with
    | inl q => simp only [e2] at e; cases e
    | inr y => exact ⟨mLet_k e1, mLet_k e2⟩
theorem mCopy_w (i : isT B n R t) (k : 2 ≤ tK t) {q : HS × Tok} (e : mCopy B n R h t = .inr q) : Fw B n R t q.2 := by
  unfold mCopy at e
  split at e
  · cases e
  · split at e
    · cases e
    · next e1 =>
      split at e
      · next e2 =>
        split at e
        · cases e
          exact ((Fw.s i k).nx (mName_k e1)).nx (by omega)
        · cases e
      · cases e
theorem mDesk_w (i : isT B n R t) (k : 2 ≤ tK t) {q : HS × Tok} (e : mDesk B n R h t = .inr q) : Fw B n R t q.2 := by
  unfold mDesk at e
  split at e
  · cases e
  · split at e
    · cases e
    · next e1 =>
      have w := (Fw.s i k).nx (mName_k e1)
      split at e
      · next e2 => cases e; exact w.nx (by omega)
      · split at e
        · next e2 =>
          split at e
          · cases e
          · next e3 => cases e; exact (w.nx (by omega)).nx (mNum_k e3)
        · split at e
          · next e2 => cases e; exact w.nx (by omega)
          · cases e
theorem mLikely_w (i : isT B n R t) (k : 2 ≤ tK t) {pt : Nat} {q : HS × Tok × Nat} (e : mLikely B n R h t pt = .inr q) : Fw B n R t q.2.1 := by
  unfold mLikely at e
  split at e
  · cases e
  · next e1 =>
    split at e
    · cases e
    · split at e
      · cases e
      · next e2 => cases e; exact ((Fw.s i k).nx (mNum_k e1)).nx (mNum_k e2)
theorem mSense_w (i : isT B n R t) (k : 2 ≤ tK t) {q : HS × Tok} (e : mSense B n R h t = .inr q) : Fw B n R t q.2 := by
  unfold mSense at e
  split at e
  · cases e
  · split at e
    · cases e
    · next e1 =>
      split at e
      · cases e
      · cases e; exact ((Fw.s i k).nx (mPair_k e1).1).nx (mPair_k e1).2
theorem mRhyme_w (i : isT B n R t) (k : 2 ≤ tK t) {q : HS × Tok} (e : mRhyme B n R h t = .inr q) : Fw B n R t q.2 := by
  unfold mRhyme at e
  split at e
  · cases e
  · split at e
    · cases e
    · next e1 =>
      split at e
      · cases e
      · split at e
        · cases e
        · next e2 => cases e; exact (((Fw.s i k).nx (mPair_k e1).1).nx (mPair_k e1).2).nx (mNum_k e2)
theorem mLines_w (i : isT B n R t) (k : 2 ≤ tK t) {lc : Bool} {q : HS × Tok} (e : mLines B n R h t lc = .inr q) : Fw B n R t q.2 := by
  unfold mLines at e
  split at e
  · cases e
  · split at e
    · cases e
    · next e1 => cases e; exact (Fw.s i k).nx (mNum_k e1)
theorem map_inr {α β γ : Type} {x : α ⊕ β} {g : β → γ} {y : γ} (e : x.map id g = .inr y) : ∃ b, x = .inr b ∧ g b = y := by
  cases x with
  | inl a => cases e
  | inr b => exact ⟨b, rfl, by cases e; rfl⟩
theorem mLine0_w (i : isT B n R t) {lc : Bool} {pt : Nat} {q : HS × Tok × Bool × Nat} (e : mLine0 B n R h t lc pt = .inr q) : Fw B n R t q.2.1 := by
  unfold mLine0 at e
  split at e
  · next k =>
    have k : 2 ≤ tK t := by omega
    split at e
    · obtain ⟨b, e1, rfl⟩ := map_inr e; exact mLines_w i k e1
    · obtain ⟨b, e1, rfl⟩ := map_inr e; exact mCopy_w i k e1
    · obtain ⟨b, e1, rfl⟩ := map_inr e; exact mDesk_w i k e1
    · obtain ⟨b, e1, rfl⟩ := map_inr e; exact mLikely_w i k e1
    · obtain ⟨b, e1, rfl⟩ := map_inr e; exact mSense_w i k e1
    · obtain ⟨b, e1, rfl⟩ := map_inr e; exact mRhyme_w i k e1
    · cases e
  · cases e
theorem mLine0_d {lc : Bool} {pt : Nat} (k1 : kyF t ≠ 1) (k2 : kyF t ≠ 2) (k3 : kyF t ≠ 3) (k7 : kyF t ≠ 7) (k8 : kyF t ≠ 8) (k9 : kyF t ≠ 9) : mLine0 B n R h t lc pt = .inl (1, tA t) := by
  unfold mLine0
  by_cases c : tK t = 2
  · rw [if_pos c]
    unfold kyF at k1 k2 k3 k7 k8 k9
    rw [if_pos c] at k1 k2 k3 k7 k8 k9
    split
    · next e => exact absurd e k1
    · next e => exact absurd e k2
    · next e => exact absurd e k3
    · next e => exact absurd e k7
    · next e => exact absurd e k8
    · next e => exact absurd e k9
    · rfl
  · rw [if_neg c]
end FWD
section CREAD4
variable {F : Nat} {B : Nat → Nat} {n R D sD : Nat} {f : Hp} {h : HS} {t : Tok} {lc : Bool} {pt : Nat}
def CRn (B : Nat → Nat) (n R D sD : Nat) (f : Hp) (o : Option (Int32 × Hp)) (m : Flt ⊕ (HS × Tok × Bool × Nat)) : Prop :=
  (∃ q f', m = .inl q ∧ o = some (0, f') ∧ CF n R D sD f' q ∧ FrD D f f') ∨ ∃ h' t' lc' pt' f', m = .inr (h', t', lc', pt') ∧ o = some (1, f') ∧ CSt B n R D sD f' h' t' lc' pt' ∧ FrD D f f'
theorem CRd.toN {f0 : Hp} {o : Option (Int32 × Hp)} {m : Flt ⊕ (HS × Tok)} (c : CRd B n R D sD f0 lc pt o m) (fr : FrD D f f0) : CRn B n R D sD f (bd2 o fun x g => chk (okZ x) <| some (x, g)) (m.map id fun q => (q.1, q.2, lc, pt)) := by
  rcases c with ⟨q, f', rfl, rfl, c3, c4⟩ | ⟨h', t', f', rfl, rfl, c3, c4⟩
  · exact Or.inl ⟨q, f', rfl, by rw [bd2_e rfl, ck_e (by decide)], c3, fr.trans c4⟩
  · exact Or.inr ⟨h', t', lc, pt, f', rfl, by rw [bd2_e rfl, ck_e (by decide)], c3, fr.trans c4⟩
/-- 'lines' can come no more -/
theorem c_shut (C : CSt B n R D sD f h t lc pt) : ∃ f', pZ f (some 169) 4 2 1 = some f' ∧ CSt B n R D sD f' h t true pt ∧ FrD D f f' := by
  obtain ⟨v4, v5, c5⟩ := C.2.2.2.1
  refine ⟨va_up f 169 (some (.inl (4, c4 D (if true then 1 else 0) (nI pt) v4 v5))), ?_, C.c4 (fun a ha => up_n ha) up_s lcI_t C.2.2.2.2.2.2.2.2, fun a _ a2 _ => up_n a2⟩
  unfold pZ
  rw [if_pos (Or.inr rfl)]
  exact pV_e c5 (Nat.le_of_ble_eq_true rfl)
theorem cline_s (hF : 742 ≤ F) (C : CSt B n R D sD f h t lc pt) : CRn B n R D sD f (m_X5_readLine F (some 169) f) (mLine0 B n R h t lc pt) := by
  have kl := kyF_lt t
  obtain ⟨-, -, -, s3, s4, s5, s6, s7, s8⟩ := swM_1 _ kl
  unfold m_X5_readLine
  rw [C.sw]
  simp only [s3, s4, s5, s6, s7, s8]
  by_cases e1 : kyF t = 1
  · obtain ⟨k, e⟩ := (kyF_iff t (by decide)).mp e1
    rw [if_pos e1, ck_e C.io]
    have m : mLine0 B n R h t lc pt = (mLines B n R h t lc).map id (fun q => (q.1, q.2, true, pt)) := by unfold mLine0; rw [if_pos k, e]; rfl
    rw [m]
    exact (clines_s hF C (by omega)).toN FrD.refl
  rw [if_neg e1]
  by_cases e2 : kyF t = 2
  · obtain ⟨k, e⟩ := (kyF_iff t (by decide)).mp e2
    obtain ⟨f1, i1, C1, fr1⟩ := c_shut C
    rw [if_pos e2, bd_e i1, ck_e C1.io]
    have m : mLine0 B n R h t lc pt = (mCopy B n R h t).map id (fun q => (q.1, q.2, true, pt)) := by unfold mLine0; rw [if_pos k, e]; rfl
    rw [m]
    exact (ccopy_s hF C1 (by omega)).toN fr1
  rw [if_neg e2]
  by_cases e3 : kyF t = 3
  · obtain ⟨k, e⟩ := (kyF_iff t (by decide)).mp e3
    rw [if_pos e3, ck_e C.io]
    have m : mLine0 B n R h t lc pt = (mDesk B n R h t).map id (fun q => (q.1, q.2, lc, pt)) := by unfold mLine0; rw [if_pos k, e]; rfl
    rw [m]
    exact (cdesk_s hF C (by omega)).toN FrD.refl
  rw [if_neg e3]
  by_cases e7 : kyF t = 7
  · obtain ⟨k, e⟩ := (kyF_iff t (by decide)).mp e7
    obtain ⟨f1, i1, C1, fr1⟩ := c_shut C
    rw [if_pos e7, bd_e i1, ck_e C1.io]
    have m : mLine0 B n R h t lc pt = (mLikely B n R h t pt).map id (fun q => (q.1, q.2.1, true, q.2.2)) := by unfold mLine0; rw [if_pos k, e]; rfl
    rw [m]
    rcases clik_s hF C1 (by omega) with ⟨q, f', c1, c2, c3, c4⟩ | ⟨h', t', pt', f', c1, c2, c3, c4⟩
    · rw [c1]
      exact Or.inl ⟨q, f', rfl, by rw [bd2_e c2, ck_e (by decide)], c3, fr1.trans c4⟩
    · rw [c1]
      exact Or.inr ⟨h', t', true, pt', f', rfl, by rw [bd2_e c2, ck_e (by decide)], c3, fr1.trans c4⟩
  rw [if_neg e7]
  by_cases e8 : kyF t = 8
  · obtain ⟨k, e⟩ := (kyF_iff t (by decide)).mp e8
    obtain ⟨f1, i1, C1, fr1⟩ := c_shut C
    rw [if_pos e8, bd_e i1, ck_e C1.io]
    have m : mLine0 B n R h t lc pt = (mSense B n R h t).map id (fun q => (q.1, q.2, true, pt)) := by unfold mLine0; rw [if_pos k, e]; rfl
    rw [m]
    exact (csense_s hF C1 (by omega)).toN fr1
  rw [if_neg e8]
  by_cases e9 : kyF t = 9
  · obtain ⟨k, e⟩ := (kyF_iff t (by decide)).mp e9
    obtain ⟨f1, i1, C1, fr1⟩ := c_shut C
    rw [if_pos e9, bd_e i1, ck_e C1.io]
    have m : mLine0 B n R h t lc pt = (mRhyme B n R h t).map id (fun q => (q.1, q.2, true, pt)) := by unfold mLine0; rw [if_pos k, e]; rfl
    rw [m]
    exact (crhyme_s hF C1 (by omega)).toN fr1
  rw [if_neg e9, mLine0_d e1 e2 e3 e7 e8 e9]
  obtain ⟨f', i1, i2, i3⟩ := cbad (F := F) C (k := 1) (by decide) (by decide) rfl
  exact Or.inl ⟨_, f', rfl, i1, i2, i3⟩
/-- the SIGN that must stand here -/
theorem csign_s (hF : 742 ≤ F) (C : CSt B n R D sD f h t lc pt) {c : Nat} (c0 : 0 < c) (c7 : c < 128) {K : Int32} (hK : K = nI c) : (tK t = 4 ∧ tS t = c ∧ ∃ f', m_X9_passSign F (some 168) K f = some (1, f') ∧ CSt B n R D sD f' h (nxT B n R t) lc pt ∧ ∀ a, a ≠ 168 → f' a = f a) ∨ (¬ (tK t = 4 ∧ tS t = c) ∧ ∃ f', m_X9_passSign F (some 168) K f = some (0, f') ∧ CF n R D sD f' (1, tA t) ∧ ∀ a, a ≠ 168 → f' a = f a) := by
  subst hK
  unfold m_X9_passSign
  rw [bd_e C.sign]
  have s7 : tK t = 4 → tS t < 128 := fun k => by
    obtain ⟨p, o⟩ := C.2.1.2.o
    exact (o.2.2.2.2.2 k).1
  by_cases w : tK t = 4 ∧ tS t = c
  · obtain ⟨f', i1, i2, i3⟩ := cadv_s hF C (by omega)
    refine Or.inl ⟨w.1, w.2, f', ?_, i2, i3⟩
    rw [if_pos w.1, w.2, if_pos rfl, ck_e C.isK, bd_e i1, ck_e (by decide)]
  · obtain ⟨f', i1, i2, i3⟩ := cfail_s (F := F) C (k := 1) (K := 1) (by decide) (by decide) rfl
    refine Or.inr ⟨w, f', ?_, i2, i3⟩
    rw [if_neg ?_, ck_e C.isK, bd2_e i1, ck_e (by decide)]
    by_cases k : tK t = 4
    · rw [if_pos k]
      intro e
      have := s7 k
      exact w ⟨k, (nI_eq (by omega) (by omega)).mp e⟩
    · rw [if_neg k]
      intro e
      have := (nI_eq (a := 0) (by omega) (by omega)).mp e
      omega
theorem cread_L (hF : 742 ≤ F) : ∀ (d k z : Nat) (f : Hp) (h : HS) (t : Tok) (lc : Bool) (pt : Nat), k + d = 741 → d < z → CSt B n R D sD f h t lc pt → k ≤ 740 → (2 ≤ tK t → k ≤ tA t) → ∃ f', FrD D f f' ∧ ((∃ q, mHouse B n R d k h t lc pt = .inl q ∧ m_X5_read_L24 F z (some 169) (nI k) f = some (-1, f') ∧ CF n R D sD f' q) ∨ ∃ k' h' t' lc' pt', mHouse B n R d k h t lc pt = .inr (k', h') ∧ m_X5_read_L24 F z (some 169) (nI k) f = some (nI k', f') ∧ CSt B n R D sD f' h' t' lc' pt' ∧ k' ≤ 740) := by
  intro d
  induction d with
  | zero => intro k z f h t lc pt hk _ _ h7 _; omega
  | succ d ih =>
    intro k z f h t lc pt hk hz C h7 hp
    obtain ⟨z, rfl⟩ : ∃ j, z = j + 1 := ⟨z - 1, by omega⟩
    have k4 := C.k4
    have st : m_X5_read_L24 F (z + 1) (some 169) (nI k) f = if nI (tK t) = 0 then some (nI k, f) else bd2 (m_X5_readLine F (some 169) f) fun x6 f7 => if x6 = 0 then some (-1, f7) else (gR f7 (some 169) 4 0).bind fun x9 => chk (isO f7 x9 8) <| bd2 (m_X9_passSign F x9 59 f7) fun x11 f12 => if x11 = 0 then some (-1, f12) else m_X5_read_L24 F z (some 169) (nI (k + 1)) f12 := by
      show m_X5_read_b24 F _ _ _ _ = _
      unfold m_X5_read_b24
      rw [if_neg (show ¬ (740 : Int32) < nI k from nI_nlt (a := 740) h7 (by omega)), bd_e C.g0, bd_e C.kind, ck_e C.io]
      simp only [nm_e2, nI_1]
    by_cases k0 : tK t = 0
    · refine ⟨f, FrD.refl, Or.inr ⟨k, h, t, lc, pt, ?_, ?_, C, h7⟩⟩
      · unfold mHouse
        rw [if_pos k0]
      · rw [st, if_pos (show nI (tK t) = 0 by rw [k0]; rfl)]
    · rw [if_neg (nI_ne0 (by omega) (by omega))] at st
      have mt : mHouse B n R (d + 1) k h t lc pt = match mLine B n R h t lc pt with
        | .inl q => .inl q
        | .inr q => mHouse B n R d (k + 1) q.1 q.2.1 q.2.2.1 q.2.2.2 := by
        show (if tK t = 0 then _ else _) = _
        rw [if_neg k0]
        rfl
      unfold mLine at mt
      rcases cline_s hF C with ⟨q, f1, c1, c2, c3, c4⟩ | ⟨h', t', lc', pt', f1, c1, c2, C1, c4⟩
      · rw [c1] at mt
        rw [bd2_e c2, if_pos rfl] at st
        exact ⟨f1, c4, Or.inl ⟨q, mt, st, c3⟩⟩
      · rw [c1] at mt
        have w12 : Fw B n R t t' := mLine0_w C.2.1.2 c1
        obtain ⟨w1, w2⟩ := w12
        rw [bd2_e c2, if_neg (show ¬ (1 : Int32) = 0 by decide), bd_e C1.g0, ck_e C1.isK] at st
        rcases csign_s hF C1 (c := 59) (K := 59) (by decide) (by decide) rfl with ⟨k1, s1, f2, i2, C2, fr2⟩ | ⟨ns, f2, i2, c3, fr2⟩
        · have mt : mHouse B n R (d + 1) k h t lc pt = mHouse B n R d (k + 1) h' (nxT B n R t') lc' pt' := by
            rw [mt]
            show (match (if tK t' = 4 ∧ tS t' = 59 then (Sum.inr (h', nxT B n R t', lc', pt') : Flt ⊕ (HS × Tok × Bool × Nat)) else .inl (1, tA t')) with
              | .inl q => (.inl q : Flt ⊕ (Nat × HS))
              | .inr q => mHouse B n R d (k + 1) q.1 q.2.1 q.2.2.1 q.2.2.2) = _
            rw [if_pos ⟨k1, s1⟩]
          rw [bd2_e i2, if_neg (show ¬ (1 : Int32) = 0 by decide)] at st
          have t2 : 2 ≤ tK t := by
            by_cases q : 2 ≤ tK t
            · exact q
            · exfalso
              have e1 : kyF t = 0 := by unfold kyF; rw [if_neg (by omega)]
              rw [mLine0_d (by omega) (by omega) (by omega) (by omega) (by omega) (by omega)] at c1
              cases c1
          have a1 := w2 (by omega)
          have a2 := hp t2
          obtain ⟨p, o⟩ := w1.o
          have a3 := (o.2.2.1 (by omega)).2
          have n7 := C.2.2.2.2.2.1
          obtain ⟨f3, fr3, r3⟩ := ih (k + 1) z f2 h' (nxT B n R t') lc' pt' (by omega) (by omega) C2 (by omega) (fun k2 => by have := w1.fwd (by omega) k2; omega)
          refine ⟨f3, (c4.trans (FrD.of fr2)).trans fr3, ?_⟩
          rw [st, mt]
          exact r3
        · have mt : mHouse B n R (d + 1) k h t lc pt = .inl (1, tA t') := by
            rw [mt]
            show (match (if tK t' = 4 ∧ tS t' = 59 then (Sum.inr (h', nxT B n R t', lc', pt') : Flt ⊕ (HS × Tok × Bool × Nat)) else .inl (1, tA t')) with
              | .inl q => (.inl q : Flt ⊕ (Nat × HS))
              | .inr q => mHouse B n R d (k + 1) q.1 q.2.1 q.2.2.1 q.2.2.2) = _
            rw [if_neg ns]
          rw [bd2_e i2, if_pos rfl] at st
          exact ⟨f2, c4.trans (FrD.of fr2), Or.inl ⟨_, mt, st, c3⟩⟩
end CREAD4
