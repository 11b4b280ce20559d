/-! the tape -/
variable {sk : Nat}
def bN (w : Int32) (k : Nat) : Nat := (ius w (nI k)).toBitVec.toNat % 256
theorem and255 (x : Int32) : x &&& (255 : Int32) = nI (x.toBitVec.toNat % 256) := by
  apply Int32.toBitVec_inj.mp
  apply BitVec.eq_of_toNat_eq
  have e : (nI (x.toBitVec.toNat % 256)).toBitVec.toNat = x.toBitVec.toNat % 256 := by
    show (BitVec.ofNat 32 (x.toBitVec.toNat % 256)).toNat = _
    rw [BitVec.toNat_ofNat]
    omega
  rw [e, Int32.toBitVec_and, BitVec.toNat_and]
  exact Nat.and_two_pow_sub_one_eq_mod _ 8
theorem i2b_lo (x : Int32) : i2b x = i2b (nI (x.toBitVec.toNat % 256)) := by
  rw [← and255]
  unfold i2b
  congr 1
  apply Int8.toBitVec_inj.mp
  show x.toBitVec.signExtend 8 = (x &&& 255).toBitVec.signExtend 8
  rw [Int32.toBitVec_and]
  apply BitVec.eq_of_getLsbD_eq
  intro i hi
  rw [BitVec.getLsbD_signExtend, BitVec.getLsbD_signExtend, BitVec.getLsbD_and]
  have h : (255 : Int32).toBitVec.getLsbD i = true := by
    match i, hi with
    | 0, _ => rfl
    | 1, _ => rfl
    | 2, _ => rfl
    | 3, _ => rfl
    | 4, _ => rfl
    | 5, _ => rfl
    | 6, _ => rfl
    | 7, _ => rfl
  rw [h]
  simp only [if_pos (show i < 32 by omega), Bool.and_true]
theorem i2b_k : ∀ b, b < 256 → i2b (nI b) &&& (255 : Int32) = nI b := by decide +kernel
theorem bN_lt (w : Int32) (k : Nat) : bN w k < 256 := Nat.mod_lt _ (by decide)
def pB (B : Nat → Nat) (tl : Nat) (w : Int32) : Nat → Nat := updN (updN (updN (updN B tl (bN w 24)) (tl + 1) (bN w 16)) (tl + 2) (bN w 8)) (tl + 3) (bN w 0)
section FEED
variable {F : Nat} {f g : Hp} {st : RS} {T D sX tl : Nat} {lf : Int32} {ll : Int64} {B : Nat → Nat}
theorem put_1 {rc : Option Nat → Int32 → Int32 → Hp → Option Hp} {w : Int32} {k : Nat} (hk : k < 32) (K : KAt f T D sX (nI tl) lf ll) (P : TP f B) (h : tl < 740) : ∃ f', m_X11_putNumber_b3 F rc (some 100) w (nI k) f = rc (some 100) w (nI k + (-8 : Int32)) f' ∧ KAt f' T D sX (nI (tl + 1)) lf ll ∧ TP f' (updN B tl (bN w k)) ∧ ∀ a, a ≠ 100 → a ≠ 101 → f' a = f a := by
  obtain ⟨t, t1, t2⟩ := P
  have K1 : ∀ c, KAt (va_up f 101 c) T D sX (nI tl) lf ll := fun c => (up_n (by decide)).trans K
  refine ⟨va_up (va_up f 101 (some (.inr (0, 740, .inl (upd t tl (vp_nar (knd 0) (i2b (ius w (nI k))))))))) 100 (some (.inl (9, kC T D sX (nI (tl + 1)) lf ll))), ?_, up_s, ⟨_, by rw [up_n (by decide), up_s], fun i hi => ?_⟩, fun a h1 h2 => by rw [up_n h1, up_n h2]⟩
  · unfold m_X11_putNumber_b3
    rw [if_neg (nI_pos (by omega)), bd_e (gI_e K rfl), if_neg (show ¬ (740 : Int32) ≤ nI tl from nI_ge (b := 740) h (by omega)), bd_e (gR_s K rfl), bd_e (gI_e K rfl), bd_e (stI_e t1 h (by omega) (by omega)), bd_e (gI_e (K1 _) rfl), bd_e (pV_e (K1 _) (Nat.le_of_ble_eq_true rfl)), nm_e2, nI_1]
    rfl
  · by_cases e : i = tl
    · subst e
      refine ⟨?_, ?_⟩
      · show (if i = i then _ else _) < 256
        rw [if_pos rfl]; exact bN_lt _ _
      · show upd _ _ _ i = i2b (nI (if i = i then _ else _))
        rw [upd_s, if_pos rfl]
        show vp_nar (knd 0) (i2b (ius w (nI k))) = _
        rw [i2b_lo]
        show vp_nar .byte (i2b (nI (bN w k))) = i2b (nI (bN w k))
        have := bN_lt w k
        revert this
        generalize bN w k = b
        revert b
        decide +kernel
    · obtain ⟨u1, u2⟩ := t2 i hi
      refine ⟨?_, ?_⟩
      · show (if i = tl then _ else _) < 256
        rw [if_neg e]; exact u1
      · show upd _ _ _ i = i2b (nI (if i = tl then _ else _))
        rw [upd_n e, if_neg e]; exact u2
theorem putN_e (hF : 8 ≤ F) {w : Int32} (K : KAt f T D sX (nI tl) lf ll) (P : TP f B) (h : tl + 4 ≤ 740) : ∃ f', m_X11_putNumber F (some 100) w f = some f' ∧ KAt f' T D sX (nI (tl + 4)) lf ll ∧ TP f' (pB B tl w) ∧ ∀ a, a ≠ 100 → a ≠ 101 → f' a = f a := by
  obtain ⟨F, rfl⟩ : ∃ j, F = j + 5 := ⟨F - 5, by omega⟩
  obtain ⟨f1, e1, K1, P1, r1⟩ := put_1 (F := F + 5) (rc := m_X11_putNumber_L3 (F + 5) (F + 4)) (w := w) (k := 24) (by omega) K P (by omega)
  obtain ⟨f2, e2, K2, P2, r2⟩ := put_1 (F := F + 5) (rc := m_X11_putNumber_L3 (F + 5) (F + 3)) (w := w) (k := 16) (by omega) K1 P1 (by omega)
  obtain ⟨f3, e3, K3, P3, r3⟩ := put_1 (F := F + 5) (rc := m_X11_putNumber_L3 (F + 5) (F + 2)) (w := w) (k := 8) (by omega) K2 P2 (by omega)
  obtain ⟨f4, e4, K4, P4, r4⟩ := put_1 (F := F + 5) (rc := m_X11_putNumber_L3 (F + 5) (F + 1)) (w := w) (k := 0) (by omega) K3 P3 (by omega)
  refine ⟨f4, ?_, K4, P4, fun a h1 h2 => ((r4 a h1 h2).trans (r3 a h1 h2)).trans ((r2 a h1 h2).trans (r1 a h1 h2))⟩
  show m_X11_putNumber_b3 (F + 5) (m_X11_putNumber_L3 (F + 5) (F + 4)) (some 100) w (nI 24) f = _
  rw [e1]
  show m_X11_putNumber_b3 (F + 5) (m_X11_putNumber_L3 (F + 5) (F + 3)) (some 100) w (nI 16) f1 = _
  rw [e2]
  show m_X11_putNumber_b3 (F + 5) (m_X11_putNumber_L3 (F + 5) (F + 2)) (some 100) w (nI 8) f2 = _
  rw [e3]
  show m_X11_putNumber_b3 (F + 5) (m_X11_putNumber_L3 (F + 5) (F + 1)) (some 100) w (nI 0) f3 = _
  rw [e4]
  show m_X11_putNumber_b3 (F + 5) (m_X11_putNumber_L3 (F + 5) F) (some 100) w (-8) f4 = _
  unfold m_X11_putNumber_b3
  rw [if_pos (by decide)]
/-- the reference's tape -/
def TR (st : RS) (B : Nat → Nat) (tl : Nat) : Prop := (∀ i, i < 740 → sA st 1 i = nI (B i)) ∧ sI st 2 = nI tl
theorem come_1 {rc : Option Nat → Int32 → Int32 → Hp → Option Hp} {w : Int32} {k : Nat} (hk : k < 32) (P : TR st B tl) (h : tl < 740) : ∃ st', m_X12_come_b3 F rc (some 179) w (nI k) (ov g st) = rc (some 179) w (nI k + (-8 : Int32)) (ov g st') ∧ TR st' (updN B tl (bN w k)) (tl + 1) ∧ Cg [2] [1] [] st st' := by
  obtain ⟨t1, t2⟩ := P
  refine ⟨uI (uA st 1 tl (nI (bN w k))) 2 (nI (tl + 1)), ?_, ⟨fun i hi => ?_, ?_⟩, (Cg.uA (by decide)).trans (Cg.uI (by decide))⟩
  · unfold m_X12_come_b3
    rw [if_neg (nI_pos (by omega)), rR_1, bd_some, rI_2, bd_some, t2, wE_1 h, bd_some, rI_2, bd_some, sI_uA, t2, nI_1, wI_2, bd_some, nm_e2, and255]
    rfl
  · show sA (uI _ _ _) 1 i = nI (if i = tl then _ else _)
    rw [sA_uI, sA_uA, if_pos rfl]
    by_cases e : i = tl
    · rw [e, upd_s, if_pos rfl]
    · rw [upd_n e, if_neg e]; exact t1 i hi
  · rw [sI_uI, if_pos rfl]
theorem come_e (hF : 8 ≤ F) {w : Int32} (P : TR st B tl) (h : tl + 4 ≤ 740) : ∃ st', m_X12_come F (some 179) w (ov g st) = some (ov g st') ∧ TR st' (pB B tl w) (tl + 4) ∧ Cg [2] [1] [] st st' := by
  obtain ⟨F, rfl⟩ : ∃ j, F = j + 5 := ⟨F - 5, by omega⟩
  obtain ⟨s1, e1, P1, r1⟩ := come_1 (F := F + 5) (g := g) (rc := m_X12_come_L3 (F + 5) (F + 4)) (w := w) (k := 24) (by omega) P (by omega)
  obtain ⟨s2, e2, P2, r2⟩ := come_1 (F := F + 5) (g := g) (rc := m_X12_come_L3 (F + 5) (F + 3)) (w := w) (k := 16) (by omega) P1 (by omega)
  obtain ⟨s3, e3, P3, r3⟩ := come_1 (F := F + 5) (g := g) (rc := m_X12_come_L3 (F + 5) (F + 2)) (w := w) (k := 8) (by omega) P2 (by omega)
  obtain ⟨s4, e4, P4, r4⟩ := come_1 (F := F + 5) (g := g) (rc := m_X12_come_L3 (F + 5) (F + 1)) (w := w) (k := 0) (by omega) P3 (by omega)
  refine ⟨s4, ?_, P4, (r1.trans r2).trans (r3.trans r4)⟩
  show m_X12_come_b3 (F + 5) (m_X12_come_L3 (F + 5) (F + 4)) (some 179) w (nI 24) (ov g st) = _
  rw [e1]
  show m_X12_come_b3 (F + 5) (m_X12_come_L3 (F + 5) (F + 3)) (some 179) w (nI 16) (ov g s1) = _
  rw [e2]
  show m_X12_come_b3 (F + 5) (m_X12_come_L3 (F + 5) (F + 2)) (some 179) w (nI 8) (ov g s2) = _
  rw [e3]
  show m_X12_come_b3 (F + 5) (m_X12_come_L3 (F + 5) (F + 1)) (some 179) w (nI 0) (ov g s3) = _
  rw [e4]
  show m_X12_come_b3 (F + 5) (m_X12_come_L3 (F + 5) F) (some 179) w (-8) (ov g s4) = _
  unfold m_X12_come_b3
  rw [if_pos (by decide)]
end FEED
/-- what both keep to, but for the tape -/
theorem RI.tape {st st' : RS} {m : MS} (R : RI st m) (C : Cg (2 :: sI0) (1 :: sA0) sL0 st st') {B : Nat → Nat} {tl : Nat} (P : TR st' B tl) : RI st' (B, tl, m.2.2) := by
  obtain ⟨h1, -, h4, h5, h6, h7, ⟨⟨h8, h9⟩, h10, h11⟩, h12⟩ := R
  refine ⟨?_, P, ?_, ?_, h6.cg C (by decide) (by decide), ?_, ⟨⟨?_, ?_⟩, ?_, ?_⟩, ?_⟩
  · rw [C.I (by decide), C.A (by decide)]; exact h1
  · rw [C.I (by decide)]; exact h4
  · rw [C.L (by decide)]; exact h5
  · rw [C.J (by decide)]; exact h7
  · rw [C.I (by decide)]; exact h8
  · rw [C.A (by decide)]; exact h9
  · rw [C.I (by decide)]; exact h10
  · rw [C.A (by decide)]; exact h11
  · rw [C.A (by decide), C.A (by decide), C.L (by decide)]; exact h12
theorem RI.tr {st : RS} {m : MS} (R : RI st m) : TR st (mB m) (mT m) := R.2.1
theorem RB.tape {st st' : RS} {m : MS} (R : RB st m) (C : Cg (2 :: sI0) (1 :: sA0) sL0 st st') {B : Nat → Nat} {tl : Nat} (P : TR st' B tl) : RB st' (B, tl, m.2.2) :=
  ⟨R.1.tape C P, by rw [C.I (by decide)]; exact R.2.1, by rw [C.A (by decide)]; exact R.2.2⟩
section TAKE
variable {F : Nat}
theorem k_feed (hF : 8 ≤ F) (a b c d e : Int32) : KW sk (m_X11_feed F (some 100) a b c d e) (m_X12_feed F (some 179) a b c d e) := by
  intro f n z st m C R
  obtain ⟨T, D, sT, sD, sX, tq, iq, S, K, ⟨tp, t7, fl⟩, H, Z, TK, M, MR⟩ := C
  have C : CI sk f n z m := ⟨T, D, sT, sD, sX, tq, iq, S, K, ⟨tp, t7, fl⟩, H, Z, TK, M, MR⟩
  have t20 : nI (mT m) + (20 : Int32) = nI (mT m + 20) := by rw [← nI_add]; rfl
  have P0 : TR (uI st 0 0) (mB m) (mT m) := ⟨R.2.1.1, by rw [sI_o (by decide)]; exact R.2.1.2⟩
  unfold m_X11_feed
  by_cases q : mT m + 20 ≤ 740
  · obtain ⟨f1, e1, K1, P1, r1⟩ := putN_e (F := F) hF (w := a) K tp (by omega)
    obtain ⟨f2, e2, K2, P2, r2⟩ := putN_e (F := F) hF (w := b) K1 P1 (by omega)
    obtain ⟨f3, e3, K3, P3, r3⟩ := putN_e (F := F) hF (w := c) K2 P2 (by omega)
    obtain ⟨f4, e4, K4, P4, r4⟩ := putN_e (F := F) hF (w := d) K3 P3 (by omega)
    obtain ⟨f5, e5, K5, P5, r5⟩ := putN_e (F := F) hF (w := e) K4 P4 (by omega)
    have r : ∀ a, a ≠ 100 → a ≠ 101 → f5 a = f a := fun a h1 h2 => (r5 a h1 h2).trans ((r4 a h1 h2).trans ((r3 a h1 h2).trans ((r2 a h1 h2).trans (r1 a h1 h2))))
    refine ⟨nI (mT m + 20), f5, (pB (pB (pB (pB (pB (mB m) (mT m) a) (mT m + 4) b) (mT m + 4 + 4) c) (mT m + 4 + 4 + 4) d) (mT m + 4 + 4 + 4 + 4) e, mT m + 20, m.2.2), ?_, fun a h1 _ => r a (by omega) (by omega), ⟨T, D, sT, sD, sX, tq, iq, S.frame (fun a _ => r a (by omega) (by omega)), K5, ⟨P5, q, fl⟩, H.frame (fun a _ _ => r a (by omega) (by omega)), Z.frame (r _ (by omega) (by omega)) (r _ (by omega) (by omega)) (fun a _ => r a (by omega) (by omega)), TK.frame (r _ (by omega) (by omega)) (r _ (by omega) (by omega)) (r _ (by omega) (by omega)), M.frame (fun a _ _ => r a (by omega) (by omega)), MR.frame (r _ (by omega) (by omega))⟩, fun g => ?_⟩
    · rw [bd_e (gI_e K rfl), t20, if_pos (show nI (mT m + 20) ≤ (740 : Int32) from nI_le (b := 740) q (by omega)), ck_e (isO_e K), bd_e e1, ck_e (isO_e K1), bd_e e2, ck_e (isO_e K2), bd_e e3, ck_e (isO_e K3), bd_e e4, ck_e (isO_e K4), bd_e e5, bd_e (gI_e K5 rfl)]
    · obtain ⟨s1, e1, P1, r1⟩ := come_e (F := F) (g := g) hF (w := a) P0 (by omega)
      obtain ⟨s2, e2, P2, r2⟩ := come_e (F := F) (g := g) hF (w := b) P1 (by omega)
      obtain ⟨s3, e3, P3, r3⟩ := come_e (F := F) (g := g) hF (w := c) P2 (by omega)
      obtain ⟨s4, e4, P4, r4⟩ := come_e (F := F) (g := g) hF (w := d) P3 (by omega)
      obtain ⟨s5, e5, P5, r5⟩ := come_e (F := F) (g := g) hF (w := e) P4 (by omega)
      refine ⟨s5, ?_, R.tape ((Cg.uI (by decide)).trans (Cg.mono (r1.trans (r2.trans (r3.trans (r4.trans r5)))) (by simp) (by simp) (by simp))) P5⟩
      unfold m_X12_feed
      rw [wI_0, bd_some, rI_2, bd_some, P0.2, t20, if_pos (show nI (mT m + 20) ≤ (740 : Int32) from nI_le (b := 740) q (by omega)), ck_e r_isO, bd_e e1, ck_e r_isO, bd_e e2, ck_e r_isO, bd_e e3, ck_e r_isO, bd_e e4, ck_e r_isO, bd_e e5, rI_2, bd_some, P5.2]
  · refine ⟨-1, f, m, ?_, fun _ _ _ => rfl, C, fun g => ⟨uI st 0 0, ?_, R.cg (Cg.uI (by decide))⟩⟩
    · rw [bd_e (gI_e K rfl), t20, if_neg (show ¬ nI (mT m + 20) ≤ (740 : Int32) from nI_ge (a := 740) (by omega) (by omega))]
    · unfold m_X12_feed
      rw [wI_0, bd_some, rI_2, bd_some, P0.2, t20, if_neg (show ¬ nI (mT m + 20) ≤ (740 : Int32) from nI_ge (a := 740) (by omega) (by omega))]
/-- the tape is taken -/
abbrev mt0 (m : MS) : MS := (mB m, 0, m.2.2)
theorem take_e {f : Hp} {n z : Nat} {m : MS} (C : CI sk f n z m) : ∃ f', m_X11_takeTape F (some 100) f = some (nI (mT m), f') ∧ CI sk f' n z (mt0 m) ∧ ∀ a, a ≠ 100 → f' a = f a := by
  obtain ⟨T, D, sT, sD, sX, tq, iq, S, K, ⟨tp, t7, fl⟩, H, Z, TK, M, MR⟩ := C
  refine ⟨va_up f 100 (some (.inl (9, kC T D sX 0 (nI (mF m)) (mL m)))), ?_, ⟨T, D, sT, sD, sX, tq, iq, S.frame (fun a _ => up_n (by omega)), up_s, ⟨tp.frame (up_n (by omega)), Nat.zero_le _, fl⟩, H.frame (fun a _ _ => up_n (by omega)), Z.frame (up_n (by omega)) (up_n (by omega)) (fun a _ => up_n (by omega)), TK.frame (up_n (by omega)) (up_n (by omega)) (up_n (by omega)), M.frame (fun a _ _ => up_n (by omega)), MR.frame (up_n (by omega))⟩, fun a h => up_n h⟩
  unfold m_X11_takeTape
  rw [bd_e (gI_e K rfl), bd_e (pV_e K (Nat.le_of_ble_eq_true rfl))]
  rfl
theorem rtake_e {g : Hp} {st : RS} {m : MS} (R : RB st m) : m_X12_take F (some 179) (ov g st) = some (nI (mT m), ov g (uI st 2 0)) ∧ RB (uI st 2 0) (mt0 m) := by
  refine ⟨?_, R.tape (Cg.uI (by decide)) ⟨R.1.2.1.1, by rw [sI_uI, if_pos rfl]; rfl⟩⟩
  unfold m_X12_take
  rw [rI_2, bd_some, wI_2, bd_some, R.1.2.1.2]
theorem byteAt_e {f : Hp} {T D sX : Nat} {tl lf : Int32} {ll : Int64} {B : Nat → Nat} (K : KAt f T D sX tl lf ll) (P : TP f B) {i : Nat} (hi : i < 740) : m_X11_byteAt F (some 100) (nI i) f = some (nI (B i)) := by
  obtain ⟨t, t1, t2⟩ := P
  obtain ⟨u1, u2⟩ := t2 i hi
  unfold m_X11_byteAt
  rw [if_neg (nI_pos (by omega)), if_neg (show ¬ (740 : Int32) ≤ nI i from nI_ge (b := 740) hi (by omega)), bd_e (gR_s K rfl), bd_e (ldI_e t1 hi (by omega)), u2, i2b_k _ u1]
end TAKE
