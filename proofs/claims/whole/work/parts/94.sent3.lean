/-! the class reads a SENTENCE: one condition -/
section SENT3
variable {F : Nat} {B : Nat → Nat} {n R T sT sX : Nat} {h : HS} {f : Hp} {P : SN} {o : Nat} {t : Tok}
/-- a leaf is read: its entry, the next TOKEN -/
theorem sleaf_end (hF : 742 ≤ F) {f0 : Hp} {o0 : Nat} (ho : o = o0 + 1) (fr : FrS sX f0 f) (C : CSs B n R T sT sX h f P o t) (lP : P.length ≤ 2 * o0) (k : 2 ≤ tK t) (e : E5) (he : e.1 < 21) (ok : okE5 h e) : CRs B n R T sT sX h f0 P o0 ((gR f (some 170) 7 1).bind fun x9 => chk (isO f x9 6) <| (m_X7_putMeasure F x9 (some e.1) e.2.1 e.2.2.1 e.2.2.2.1 e.2.2.2.2 f).bind fun f11 => (gR f11 (some 170) 7 0).bind fun x12 => chk (isO f11 x12 8) <| (m_X9_advance F x12 f11).bind fun f14 => chk (okZ (1 : Int32)) <| some ((1 : Int32), f14)) (.inr ([e], o, nxT B n R t)) := by
  have o20 := C.2.2.2.2.2.2.2
  obtain ⟨f1, i1, C1, fr1⟩ := sput (F := F) C (by omega) (by omega) e he
  obtain ⟨f2, i2, C2, fr2⟩ := sadv hF C1 k
  rw [i1, i2, ck_e (by decide)]
  exact Or.inr ⟨[e], o, _, f2, rfl, rfl, C2, (fr.trans fr1).trans fr2, by show 1 + 1 + 2 * o0 ≤ 2 * o; omega, Nat.le_refl _, okS_1 ok⟩
theorem smeas (hF : 742 ≤ F) {f0 : Hp} {o0 : Nat} (ho : o = o0 + 1) (fr : FrS sX f0 f) (C : CSs B n R T sT sX h f P o t) (lP : P.length ≤ 2 * o0) {k : Nat} {a : Int32} (hk : k < 21) (ok : ∀ s v, okE5 h (k, a, 0, s, v)) : CRs B n R T sT sX h f0 P o0 (m_X8_readMeasure F (some 170) (some k) a f) (mMeas B n R k a o t) := by
  have sg : ∀ c, 0 < c → c < 128 → ((if tK t = 4 then nI (tS t) else 0) = nI c ↔ tK t = 4 ∧ tS t = c) := fun c c0 c7 => by
    by_cases k : tK t = 4
    · have := C.1.s7 k
      rw [if_pos k]
      exact ⟨fun e => ⟨k, (nI_eq (by omega) (by omega)).mp e⟩, fun e => by rw [e.2]⟩
    · rw [if_neg k]
      exact ⟨fun e => by have := (nI_eq (a := 0) (by omega) (by omega)).mp e; omega, fun e => absurd e.1 k⟩
  have s60 : (if tK t = 4 then nI (tS t) else 0) = (60 : Int32) ↔ tK t = 4 ∧ tS t = 60 := sg 60 (by decide) (by decide)
  have s61 : (if tK t = 4 then nI (tS t) else 0) = (61 : Int32) ↔ tK t = 4 ∧ tS t = 61 := sg 61 (by decide) (by decide)
  have s62 : (if tK t = 4 then nI (tS t) else 0) = (62 : Int32) ↔ tK t = 4 ∧ tS t = 62 := sg 62 (by decide) (by decide)
  unfold m_X8_readMeasure mMeas
  rw [bd_e C.g0, bd_e C.1.sign]
  -- a sign
  have good : tK t = 4 ∧ (tS t = 60 ∨ tS t = 61 ∨ tS t = 62) → CRs B n R T sT sX h f0 P o0 (m_X8_readMeasure_B35 F (some 170) (some k) a (if tK t = 4 then nI (tS t) else 0) f) (match mNum (nxT B n R t) 0 99 with
      | .inl q => .inl q
      | .inr v => .inr ([(k, a, 0, nI (tS t), nI v)], o, nxT B n R (nxT B n R t))) := by
    intro g
    obtain ⟨f1, i1, C1, fr1⟩ := sadv hF C (by omega)
    unfold m_X8_readMeasure_B35
    rw [i1, bd_e C1.g0, ck_e C1.1.isK, if_pos g.1]
    rcases tnum (F := F) C1.1 (lo := 0) (hi := 99) (L := 0) (H := 99) (by decide) (by decide) rfl rfl with ⟨q, f2, j1, j2, j3, j4⟩ | ⟨v, j1, j2, j3, j4, j5⟩
    · rw [j1, bd2_e j2, if_pos rfl, ck_e (by decide)]
      exact Or.inl ⟨q, f2, rfl, rfl, C1.cf j4 j3, (fr.trans fr1).trans (FrS.of j4)⟩
    · rw [j1, bd2_e j2, if_neg (nI_nm1 (by omega))]
      exact sleaf_end hF ho (fr.trans fr1) C1 lP (by omega) (k, a, 0, nI (tS t), nI v) hk (ok _ _)
  by_cases e1 : tK t = 4 ∧ tS t = 60
  · rw [if_pos (s60.mpr e1), if_pos (show tK t = 4 ∧ (tS t = 60 ∨ tS t = 61 ∨ tS t = 62) from ⟨e1.1, Or.inl e1.2⟩)]
    exact good ⟨e1.1, Or.inl e1.2⟩
  rw [if_neg (fun q => e1 (s60.mp q))]
  by_cases e2 : tK t = 4 ∧ tS t = 61
  · rw [if_pos (s61.mpr e2), if_pos (show tK t = 4 ∧ (tS t = 60 ∨ tS t = 61 ∨ tS t = 62) from ⟨e2.1, Or.inr (Or.inl e2.2)⟩)]
    exact good ⟨e2.1, Or.inr (Or.inl e2.2)⟩
  rw [if_neg (fun q => e2 (s61.mp q))]
  by_cases e3 : tK t = 4 ∧ tS t = 62
  · rw [if_pos (s62.mpr e3), if_pos (show tK t = 4 ∧ (tS t = 60 ∨ tS t = 61 ∨ tS t = 62) from ⟨e3.1, Or.inr (Or.inr e3.2)⟩)]
    exact good ⟨e3.1, Or.inr (Or.inr e3.2)⟩
  rw [if_neg (fun q => e3 (s62.mp q)), if_neg (show ¬ (tK t = 4 ∧ (tS t = 60 ∨ tS t = 61 ∨ tS t = 62)) from fun c => by
    rcases c.2 with q | q | q
    · exact e1 ⟨c.1, q⟩
    · exact e2 ⟨c.1, q⟩
    · exact e3 ⟨c.1, q⟩)]
  obtain ⟨f1, i1, i2, i3⟩ := sbad (F := F) C (k := 1) (by decide) (by decide) rfl
  exact Or.inl ⟨_, f1, rfl, i1, i2, fr.trans i3⟩
/-- a call that answers 0 or 1, its answer handed on -/
theorem CRs.pass {f0 : Hp} {o0 : Nat} {r : Option (Int32 × Hp)} {m : MRs} (c : CRs B n R T sT sX h f0 P o0 r m) : CRs B n R T sT sX h f0 P o0 (bd2 r fun x g => chk (okZ x) <| some (x, g)) m ∧ CRs B n R T sT sX h f0 P o0 (bd2 r fun x g => if x = 0 then (chk (okZ (0 : Int32)) <| some ((0 : Int32), g)) else (chk (okZ (1 : Int32)) <| some ((1 : Int32), g))) m := by
  rcases c with ⟨q, f', c1, rfl, c3⟩ | ⟨Q, o', t', f', c1, rfl, c3⟩
  · exact ⟨Or.inl ⟨q, f', c1, by rw [bd2_e rfl, ck_e (by decide)], c3⟩, Or.inl ⟨q, f', c1, by rw [bd2_e rfl, if_pos rfl, ck_e (by decide)], c3⟩⟩
  · exact ⟨Or.inr ⟨Q, o', t', f', c1, by rw [bd2_e rfl, ck_e (by decide)], c3⟩, Or.inr ⟨Q, o', t', f', c1, by rw [bd2_e rfl, if_neg (by decide), ck_e (by decide)], c3⟩⟩
theorem shas (hF : 742 ≤ F) {f0 : Hp} {o0 : Nat} (ho : o = o0 + 1) (fr : FrS sX f0 f) (C : CSs B n R T sT sX h f P o t) (lP : P.length ≤ 2 * o0) : CRs B n R T sT sX h f0 P o0 (m_X8_readHas F (some 170) f) (match mLet t (hN h) with
    | .inl q => .inl q
    | .inr a => .inr ([(15, nI a, 0, 0, 0)], o, nxT B n R t)) := by
  obtain ⟨H, ok⟩ := C.2.1
  have n7 := ok.1.2
  unfold m_X8_readHas
  rw [bd_e C.g0, bd_e C.g2, bd_e (gI_e H.1 rfl), ck_e C.1.isK]
  rcases tlet (F := F) C.1 n7 with ⟨q, f2, j1, j2, j3, j4⟩ | ⟨a, j1, j2, j3, j4⟩
  · rw [j1, bd2_e j2, if_pos rfl, ck_e (by decide)]
    exact Or.inl ⟨q, f2, rfl, rfl, C.cf j4 j3, fr.trans (FrS.of j4)⟩
  · rw [j1, bd2_e j2, if_neg (nI_nm1 (by omega))]
    have o20 := C.2.2.2.2.2.2.2
    obtain ⟨f1, i1, C1, fr1⟩ := sputT (F := F) C (by omega) (by omega) (w := 15) (by decide) (nI a) 0
    obtain ⟨f2, i2, C2, fr2⟩ := sadv hF C1 (by omega)
    rw [i1, i2, ck_e (by decide)]
    exact Or.inr ⟨_, o, _, f2, rfl, rfl, C2, (fr.trans fr1).trans fr2, by show 1 + 1 + 2 * o0 ≤ 2 * o; omega, Nat.le_refl _, okS_1 ⟨⟨show 10 ≤ 15 by decide, show 15 ≤ 20 by decide⟩, fun _ => ⟨a, by omega, rfl⟩, fun e => absurd e (show ¬ 15 = 16 by decide), fun e => absurd e (show ¬ (15 = 17 ∨ 15 = 18) by decide)⟩⟩
theorem sahead (hF : 742 ≤ F) {f0 : Hp} {o0 : Nat} (ho : o = o0 + 1) (fr : FrS sX f0 f) (C : CSs B n R T sT sX h f P o t) (lP : P.length ≤ 2 * o0) : CRs B n R T sT sX h f0 P o0 (m_X8_readAhead F (some 170) f) (match mLet t (hN h) with
    | .inl q => .inl q
    | .inr a =>
      match mLet (nxT B n R t) (hN h) with
      | .inl q => .inl q
      | .inr b => .inr ([(16, nI a, nI b, 0, 0)], o, nxT B n R (nxT B n R t))) := by
  obtain ⟨H, ok⟩ := C.2.1
  have n7 := ok.1.2
  unfold m_X8_readAhead
  rw [bd_e C.g0, bd_e C.g2, bd_e (gI_e H.1 rfl), ck_e C.1.isK]
  rcases tlet (F := F) C.1 n7 with ⟨q, f2, j1, j2, j3, j4⟩ | ⟨a, j1, j2, j3, j4⟩
  · rw [j1, bd2_e j2, if_pos rfl, ck_e (by decide)]
    exact Or.inl ⟨q, f2, rfl, rfl, C.cf j4 j3, fr.trans (FrS.of j4)⟩
  · obtain ⟨f3, i3, C3, fr3⟩ := sadv hF C (by omega)
    obtain ⟨H3, -⟩ := C3.2.1
    rw [j1, bd2_e j2, if_neg (nI_nm1 (by omega)), i3, bd_e C3.g0, bd_e C3.g2, bd_e (gI_e H3.1 rfl), ck_e C3.1.isK]
    rcases tlet (F := F) C3.1 n7 with ⟨q, f2, k1, k2, k3, k4⟩ | ⟨b, k1, k2, k3, k4⟩
    · rw [k1, bd2_e k2, if_pos rfl, ck_e (by decide)]
      exact Or.inl ⟨q, f2, rfl, rfl, C3.cf k4 k3, (fr.trans fr3).trans (FrS.of k4)⟩
    · rw [k1, bd2_e k2, if_neg (nI_nm1 (by omega))]
      have o20 := C.2.2.2.2.2.2.2
      obtain ⟨f1, i1, C1, fr1⟩ := sputT (F := F) C3 (by omega) (by omega) (w := 16) (by decide) (nI a) (nI b)
      obtain ⟨f2, i2, C2, fr2⟩ := sadv hF C1 (by omega)
      rw [i1, i2, ck_e (by decide)]
      exact Or.inr ⟨_, o, _, f2, rfl, rfl, C2, ((fr.trans fr3).trans fr1).trans fr2, by show 1 + 1 + 2 * o0 ≤ 2 * o; omega, Nat.le_refl _, okS_1 ⟨⟨show 10 ≤ 16 by decide, show 16 ≤ 20 by decide⟩, fun e => absurd e (show ¬ 16 = 15 by decide), fun _ => ⟨a, b, by omega, by omega, rfl, rfl⟩, fun e => absurd e (show ¬ (16 = 17 ∨ 16 = 18) by decide)⟩⟩
/-- 'far', 'steps': a COPY, a sign, a number -/
theorem sfar (hF : 742 ≤ F) {f0 : Hp} {o0 : Nat} (ho : o = o0 + 1) (fr : FrS sX f0 f) (C : CSs B n R T sT sX h f P o t) (lP : P.length ≤ 2 * o0) {k : Nat} (hk : k = 17 ∨ k = 18) : CRs B n R T sT sX h f0 P o0 (bd2 (m_X8_takeCopy F (some 170) f) fun x76 f77 => if x76 = (-1 : Int32) then (chk (okZ (0 : Int32)) <| some ((0 : Int32), f77)) else (chk (isO f77 (some 170) 7) <| bd2 (m_X8_readMeasure F (some 170) (some k) x76 f77) fun x81 f82 => if x81 = 0 then (chk (okZ (0 : Int32)) <| some ((0 : Int32), f82)) else (chk (okZ (1 : Int32)) <| some ((1 : Int32), f82)))) (if tK t = 2 ∧ kwF (tL t) = 0 then
      match mCp h (tL t) with
      | none => .inl (3, tA t)
      | some c => mMeas B n R k (nI c) o (nxT B n R t)
    else .inl (1, tA t)) := by
  obtain ⟨H, ok⟩ := C.2.1
  unfold m_X8_takeCopy
  rw [bd_e C.g0, ck_e C.1.isK, bd_e (tisN C.1)]
  by_cases w : tK t = 2 ∧ kwF (tL t) = 0
  · have nm := (C.1.name w.1).1
    rw [if_pos w, if_pos w, if_neg (show ¬ (1 : Int32) = 0 by decide), bd_e C.g2, bd_e C.g0, bd_e (C.1.code w.1), ck_e (isO_e H.1), bd_e (copyNamed_e H ok.2.1 (by omega) _), mCp_e ok nm]
    cases e : mCp h (tL t) with
    | none =>
      obtain ⟨f1, i1, i2, i3⟩ := tfail (F := F) C.1 (k := 3) (K := 3) (by decide) (by decide) rfl
      rw [if_pos (show oN none = (-1 : Int32) from rfl), bd_e C.g0, ck_e C.1.isK, bd2_e i1, bd2_e rfl, if_pos rfl, ck_e (by decide)]
      exact Or.inl ⟨_, f1, rfl, rfl, C.cf i3 i2, fr.trans (FrS.of i3)⟩
    | some c =>
      have cl := fix_lt e
      have l10 := ok.2.1
      have c10 : c < (hC h).length := by omega
      obtain ⟨f1, i1, C1, fr1⟩ := sadv hF C (by omega)
      rw [if_neg (show ¬ oN (some c) = (-1 : Int32) from nI_nm1 (by omega)), i1, bd2_e rfl, if_neg (show ¬ oN (some c) = (-1 : Int32) from nI_nm1 (by omega)), ck_e C1.io]
      exact (smeas hF ho (fr.trans fr1) C1 lP (k := k) (a := nI c) (by omega) (fun s v => ⟨⟨show 10 ≤ k by omega, show k ≤ 20 by omega⟩, fun e => absurd e (show ¬ k = 15 by omega), fun e => absurd e (show ¬ k = 16 by omega), fun _ => ⟨c, c10, rfl⟩⟩)).pass.2
  · obtain ⟨f1, i1, i2, i3⟩ := tfail (F := F) C.1 (k := 1) (K := 1) (by decide) (by decide) rfl
    rw [if_neg w, if_neg w, if_pos rfl, bd_e C.g0, ck_e C.1.isK, bd2_e i1, bd2_e rfl, if_pos rfl, ck_e (by decide)]
    exact Or.inl ⟨_, f1, rfl, rfl, C.cf i3 i2, fr.trans (FrS.of i3)⟩
end SENT3
