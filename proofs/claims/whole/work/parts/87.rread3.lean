/-! the reference reads a LINE: COPIES, DESKS -/
def RRd (B : Nat → Nat) (n R : Nat) (s0 : RS) (g : Hp) (lc : Bool) (pt : Nat) (o : Option (Int32 × Hp)) (m : Flt ⊕ (HS × Tok)) : Prop :=
  (∃ q st', m = .inl q ∧ o = some (0, ov g st') ∧ RF s0 st' q) ∨ ∃ h' t' st', m = .inr (h', t') ∧ o = some (1, ov g st') ∧ RSt B n R s0 st' h' t' lc pt
section RREAD3
variable {F : Nat} {g : Hp} {B : Nat → Nat} {n R : Nat} {s0 st : RS} {h : HS} {t : Tok} {lc : Bool} {pt : Nat}
theorem bits_add {M : List Nat} {y : Nat} (hy : y < 7) : bitsOf 7 (lnB M) ||| 2 ^ y = bitsOf 7 (lnB (M ++ [y])) := by
  rw [bitsOf_one hy, bitsOf_or]
  refine bitsOf_ext (fun i _ => ?_)
  unfold lnB
  rw [Bool.eq_iff_iff]
  simp
theorem rspell_L (C : RSt B n R s0 st h t lc pt) (kt : tK t = 2) {c : Nat} (cc : (hC h).length = c) (c10 : c < 10) : ∀ (d i z : Nat) (st' : RS), i + d = (tL t).length → d < z → Cg [] [15] [] st st' → (∀ j, j < i → sA st' 15 (10 + 8 * c + 1 + j) = nI ((tL t).getD j 0 - 1)) → (∀ j, ¬ (10 + 8 * c + 1 ≤ j ∧ j < 10 + 8 * c + 1 + i) → sA st' 15 j = sA st 15 j) → okO (hN h) ((tL t).take i) = true → (okO (hN h) (tL t) = true ∧ ∃ s', Cg [] [15] [] st s' ∧ m_X12_readCopy_L63 F z (some 179) (nI (10 + 8 * c)) (nI (bitsOf 7 (lnB (((tL t).take i).map (fun l => l - 1))))) (nI (tA t + i)) (ov g st') = m_X12_readCopy_B141 F (some 179) (nI (10 + 8 * c)) (ov g s') ∧ (∀ j, j < (tL t).length → sA s' 15 (10 + 8 * c + 1 + j) = nI ((tL t).getD j 0 - 1)) ∧ (∀ j, ¬ (10 + 8 * c + 1 ≤ j ∧ j < 18 + 8 * c) → sA s' 15 j = sA st 15 j)) ∨ (okO (hN h) (tL t) = false ∧ ∃ s', m_X12_readCopy_L63 F z (some 179) (nI (10 + 8 * c)) (nI (bitsOf 7 (lnB (((tL t).take i).map (fun l => l - 1))))) (nI (tA t + i)) (ov g st') = some (0, ov g s') ∧ RF s0 s' (2, tA t)) := by
  obtain ⟨p, o⟩ := C.2.2.1.2.o
  obtain ⟨nm, ne, o3, o4⟩ := o.2.2.2.1 kt
  obtain ⟨u1, u2, u3⟩ := o.2.2.1 (by omega)
  obtain ⟨a1, a2, a3, a4, a5, a6, a7, a8⟩ := C.2.2.1.1
  have a8 := a8 (by omega)
  obtain ⟨N, ok⟩ := C.2.2.2.1
  have n7 := ok.1.2
  have n740 := C.2.2.2.2.2.2.2.2.1
  have l7 := nm.1
  intro d
  induction d with
  | zero =>
    intro i z st' hi hz c1 r1 r2 o1
    obtain ⟨z, rfl⟩ : ∃ j, z = j + 1 := ⟨z - 1, by omega⟩
    have ei : i = (tL t).length := by omega
    subst ei
    rw [List.take_length] at o1
    refine Or.inl ⟨o1, st', c1, ?_, r1, fun j hj => r2 j (by omega)⟩
    show m_X12_readCopy_b63 F _ _ _ _ _ _ = _
    unfold m_X12_readCopy_b63
    rw [rI_5, bd_some, c1.I (by decide), a8, if_pos (nI_le (by omega) (by omega))]
  | succ d ih =>
    intro i z st' hi hz c1 r1 r2 o1
    obtain ⟨z, rfl⟩ : ∃ j, z = j + 1 := ⟨z - 1, by omega⟩
    have il : i < (tL t).length := by omega
    have gi : (tL t).getD i 0 = (tL t)[i] := by rw [List.getD_eq_getElem?_getD, List.getElem?_eq_getElem il, Option.getD_some]
    have hb := o4 i il
    have lb := nm.2 _ (List.getElem_mem il)
    have tk : (tL t).take (i + 1) = (tL t).take i ++ [(tL t)[i]] := List.take_succ_eq_append_getElem il
    have oA := okO_app (N := hN h) (l := (tL t)[i]) (M := (tL t).take i)
    rw [← tk, o1] at oA
    have pre : ∀ x ∈ (tL t).take i, 1 ≤ x := fun x hx => (nm.2 x (List.mem_of_mem_take hx)).1
    have ob := okO_m pre o1
    have bad : okO (hN h) ((tL t).take (i + 1)) = false → okO (hN h) (tL t) = false := fun b => by
      cases z : okO (hN h) (tL t)
      · rfl
      · rw [← List.take_append_drop (i + 1) (tL t)] at z
        rw [okO_pre z] at b
        exact absurd b (by decide)
    have C' : RSt B n R s0 st' h t lc pt := C.same c1 (fun j j1 j2 j3 j4 j5 => r2 j (by omega))
    generalize (tL t)[i] = l at *
    have st1 : m_X12_readCopy_L63 F (z + 1) (some 179) (nI (10 + 8 * c)) (nI (bitsOf 7 (lnB (((tL t).take i).map (fun l => l - 1))))) (nI (tA t + i)) (ov g st') = if nI (hN h) ≤ nI (l - 1) then (chk (isO (ov g st') (some 179) 10) <| bd2 (m_X12_bad F (some 179) (2 : Int32) (ov g st')) fun x10 f11 => chk (okZ x10) <| some (x10, f11)) else ((m_X12_has F (nI (bitsOf 7 (lnB (((tL t).take i).map (fun l => l - 1))))) (nI (l - 1)) (ov g st')).bind fun x13 => if x13 = 0 then m_X12_readCopy_L63 F z (some 179) (nI (10 + 8 * c)) (nI (bitsOf 7 (lnB (((tL t).take i).map (fun l => l - 1)))) ||| ((1 : Int32) <<< (nI (l - 1) &&& 31))) (nI (tA t + i + 1)) (ov g (uA st' 15 (10 + 8 * c + 1 + i) (nI (l - 1)))) else (chk (isO (ov g st') (some 179) 10) <| bd2 (m_X12_bad F (some 179) (2 : Int32) (ov g st')) fun x10 f11 => chk (okZ x10) <| some (x10, f11))) := by
      show m_X12_readCopy_b63 F _ _ _ _ _ _ = _
      unfold m_X12_readCopy_b63
      rw [rI_5, bd_some, c1.I (by decide), a8, if_neg (nI_ge (by omega) (by omega)), rR_1, bd_some, rE_1 (by omega), bd_some, c1.A (by decide), (C.2.1 _ (by omega)).1, hb, show nI (l + 96) - (97 : Int32) = nI (l - 1) by rw [show (97 : Int32) = nI 97 from rfl, nI_sub (by omega)]; rfl, nm_e2, rR_15, bd_some, show ldI (ov g st') 1 (some 182) (0 : Int32) = _ from rE_15 (j := 0) (by omega), bd_some, r2 0 (by omega), N.1]
      simp only [nm_e2, rR_15, bd_some, rI_6, c1.I (k := 6) (by decide), a3]
      rw [show nI (10 + 8 * c) + (1 : Int32) + nI (tA t + i) - nI (tA t) = nI (10 + 8 * c + 1 + i) by rw [nI_1, nI_add, nI_sub (by omega)]; congr 1; omega, wE_15 (by omega), bd_some, nI_1]
    by_cases w1 : hN h ≤ l - 1
    · rw [if_pos (nI_le w1 (by omega))] at st1
      obtain ⟨s', i1, i2⟩ := rbad (F := F) (g := g) C' (k := 2) (K := 2) (by decide) (by decide) rfl (by omega)
      refine Or.inr ⟨bad (by rw [oA, decide_eq_false (show ¬ l ≤ hN h by omega)]; rfl), s', st1.trans i1, i2⟩
    · have b31 : bitsOf 7 (lnB (((tL t).take i).map (fun l => l - 1))) < 2 ^ 7 := bitsOf_lt _ _
      rw [if_neg (nI_ge (by omega) (by omega)), bd_e (has_e F _ (by omega) (by omega)), bitsOf_test, decide_eq_true (show l - 1 < 7 by omega), Bool.true_and] at st1
      by_cases w2 : l ∈ (tL t).take i
      · have e1 : lnB (((tL t).take i).map (fun l => l - 1)) (l - 1) = true := decide_eq_true ((mem_m1 pre lb.1).mpr w2)
        rw [e1, if_pos rfl, if_neg (by decide)] at st1
        obtain ⟨s', i1, i2⟩ := rbad (F := F) (g := g) C' (k := 2) (K := 2) (by decide) (by decide) rfl (by omega)
        refine Or.inr ⟨bad (by rw [oA, decide_eq_true (show l ≤ hN h by omega), decide_eq_false (fun k => k w2)]; rfl), s', st1.trans i1, i2⟩
      · have e1 : lnB (((tL t).take i).map (fun l => l - 1)) (l - 1) = false := decide_eq_false (fun k => w2 ((mem_m1 pre lb.1).mp k))
        rw [e1, if_pos (show (if false = true then (1 : Int32) else 0) = 0 by decide), show (1 : Int32) = nI 1 from rfl, nI_shl (by omega) (by rw [Nat.one_mul]; exact Nat.pow_lt_pow_right (by decide) (by omega)), Nat.one_mul, nI_or, bits_add (by omega)] at st1
        have em : ((tL t).take i).map (fun l => l - 1) ++ [l - 1] = ((tL t).take (i + 1)).map (fun l => l - 1) := by rw [tk, List.map_append]; rfl
        rw [em] at st1
        rw [st1]
        refine ih (i + 1) z _ (by omega) (by omega) (c1.trans (Cg.uA (by decide))) (fun j hj => ?_) (fun j hj => ?_) (by rw [oA, decide_eq_true (show l ≤ hN h by omega), decide_eq_true w2]; rfl)
        · rw [sA_uA, if_pos rfl]
          by_cases q : j = i
          · subst q
            rw [upd_s, gi]
          · rw [upd_n (by omega)]
            exact r1 j (by omega)
        · rw [sA_uA, if_pos rfl, upd_n (by omega)]
          exact r2 j (by omega)
theorem rcopy_s (hF : 742 ≤ F) (C : RSt B n R s0 st h t lc pt) (k : tK t = 2) : RRd B n R s0 g lc pt (m_X12_readCopy F (some 179) (ov g st)) (mCopy B n R h t) := by
  obtain ⟨N, ok⟩ := C.2.2.2.1
  unfold m_X12_readCopy mCopy
  rw [rR_15, bd_some, show ldI (ov g st) 1 (some 182) (1 : Int32) = _ from rE_15 (j := 1) (by omega), bd_some, N.2.1]
  by_cases l10 : (hC h).length = 10
  · rw [if_pos l10, l10, if_pos (by decide)]
    obtain ⟨st', i1, i2⟩ := rbad (F := F) (g := g) C (k := 4) (K := 4) (by decide) (by decide) rfl (by omega)
    exact Or.inl ⟨_, st', rfl, i1, i2⟩
  · have l10' : (hC h).length < 10 := by have := ok.2.1; omega
    obtain ⟨s1, e1, C1, -⟩ := rgo_s (F := F) (g := g) hF C (by omega)
    rw [if_neg l10, if_neg (show ¬ nI (hC h).length = (10 : Int32) from fun e => l10 ((nI_eq (b := 10) (by omega) (by omega)).mp e)), ck_e r_isO, bd_e e1, ck_e r_isO]
    rcases rnew_s (F := F) (g := g) hF C1 (j := (hC h).length) (by omega) with ⟨q, st', j1, j2, j3⟩ | ⟨j1, j2, s2, j3, s1', rfl, j4, j5⟩
    · rw [j1, bd2_e j2, if_pos rfl, ck_e (by decide)]
      exact Or.inl ⟨q, st', rfl, rfl, j3⟩
    · have nm := (C1.name j2).1
      obtain ⟨C2, n2⟩ := C1.nm (j := (hC h).length) (fun _ => Nat.le_refl _) (fun _ => by omega) j4 j5 (C1.2.2.1.2.nx (by omega))
      rw [j1, bd2_e j3, if_neg (by decide), bd_e C2.kind]
      have t4 := C2.k4
      show RRd B n R s0 g lc pt _ (if _ then _ else _)
      generalize tL (nxT B n R t) = L0 at *
      generalize nxT B n R (nxT B n R t) = t2 at *
      by_cases k2 : tK t2 = 2
      · rw [if_pos k2, if_pos (show nI (tK t2) = (2 : Int32) by rw [k2]; rfl), nm_e2, rI_6, bd_some, C2.2.2.1.1.2.2.1]
        rw [show (10 : Int32) + ((8 : Int32) * nI (hC h).length) = nI (10 + 8 * (hC h).length) by rw [show (8 : Int32) = nI 8 from rfl, show (10 : Int32) = nI 10 from rfl, nI_mul, nI_add]]
        obtain ⟨p, o⟩ := C2.2.2.1.2.o
        obtain ⟨nm2, ne2, o3, o4⟩ := o.2.2.2.1 k2
        obtain ⟨u1, u2, u3⟩ := o.2.2.1 (by omega)
        have n740 := C2.2.2.2.2.2.2.2.2.1
        have z0 : nI (bitsOf 7 (lnB (((tL t2).take 0).map (fun l => l - 1)))) = 0 := rfl
        have sp := rspell_L (F := F) (g := g) C2 k2 rfl l10' (tL t2).length 0 F s2 (by omega) (by have := nm2.1; omega) (Cg.refl _ _ _ _) (fun _ h => absurd h (Nat.not_lt_zero _)) (fun _ _ => rfl) rfl
        rw [z0, Nat.add_zero] at sp
        rcases sp with ⟨o1, s3, c3, e3, r1, r2⟩ | ⟨o1, s3, e3, r3⟩
        · rw [o1, if_pos rfl, e3]
          have oo := okO_m (fun x hx => (nm2.2 x hx).1) o1
          obtain ⟨a1, a2, a3, a4, a5, a6, a7, a8⟩ := C2.2.2.1.1
          have N2 := C2.2.2.2.1.1
          unfold m_X12_readCopy_B141
          have v1 : sA s3 15 1 = nI (hC h).length := (r2 1 (by omega)).trans N2.2.1
          rw [rR_15, bd_some, rI_5, bd_some, rI_6, bd_some, c3.I (by decide), c3.I (by decide), a8 (by omega), a3, nI_sub (by omega), wE_15 (by omega), bd_some, rR_15, bd_some, show ∀ s : RS, ldI (ov g s) 1 (some 182) (1 : Int32) = some (sA s 15 1) from fun s => rE_15 (j := 1) (by omega), bd_some, sA_uA, if_pos rfl, upd_n (by omega), v1, nI_1, show ∀ (s : RS) x, stI (ov g s) 1 (some 182) (1 : Int32) x = some (ov g (uA s 15 1 x)) from fun s x => wE_15 (j := 1) (by omega), bd_some, ck_e r_isO]
          have C3 : RSt B n R s0 (uA (uA s3 15 (10 + 8 * (hC h).length) (nI (tB t2 - tA t2))) 15 1 (nI ((hC h).length + 1))) (adC h (L0, (tL t2).map (fun l => l - 1))) t2 lc pt := by
            have val : ∀ j, sA (uA (uA s3 15 (10 + 8 * (hC h).length) (nI (tB t2 - tA t2))) 15 1 (nI ((hC h).length + 1))) 15 j = if j = 1 then nI ((hC h).length + 1) else if j = 10 + 8 * (hC h).length then nI (tB t2 - tA t2) else sA s3 15 j := fun j => by
              rw [sA_uA, if_pos rfl]
              by_cases q : j = 1
              · rw [if_pos q, q, upd_s]
              · rw [if_neg q, upd_n q, sA_uA, if_pos rfl]
                by_cases q2 : j = 10 + 8 * (hC h).length
                · rw [if_pos q2, q2, upd_s]
                · rw [if_neg q2, upd_n q2]
            refine C2.hs (c3.trans ((Cg.uA (by decide)).trans (Cg.uA (by decide)))) (N2.addC ok l10' ?_ ?_ (fun i hi => ?_) (fun j q1 q2 => ?_)) (ok.addC l10' nm ⟨fun x hx => Nat.lt_of_lt_of_le (oo.1 x hx) ok.1.2, oo.2⟩ oo.1 (by
              rw [List.length_map]
              omega)) (fun j hj => ?_) C2.2.2.2.2.1.2
            · rw [val, if_pos rfl]
            · rw [val, if_neg (by omega), if_pos rfl, List.length_map, o3]
            · have hi' : i < (tL t2).length := by rw [← List.length_map (f := fun l => l - 1)]; exact hi
              rw [val, if_neg (by omega), if_neg (by omega), r1 i hi', List.getElem_map, List.getD_eq_getElem?_getD, List.getElem?_eq_getElem hi', Option.getD_some]
            · rw [val, if_neg q1, if_neg (by omega), r2 j (by omega)]
            · by_cases e : j < (hC h).length
              · have ee : (hC (adC h (L0, (tL t2).map (fun l => l - 1))))[j] = (hC h)[j] := gE_l hj e
                rw [ee]; exact C2.2.2.2.2.1.1 j e
              · have ee : (hC (adC h (L0, (tL t2).map (fun l => l - 1))))[j] = (L0, (tL t2).map (fun l => l - 1)) := gE_r hj e
                have ej : j = (hC h).length := by rw [show (hC (adC h (L0, (tL t2).map (fun l => l - 1)))).length = (hC h).length + 1 from len1 _ _] at hj; omega
                rw [ee, ej]; exact n2
          obtain ⟨s5, e5, C5, -⟩ := rgo_s (F := F) (g := g) hF C3 (by omega)
          rw [bd_e e5, ck_e (by decide)]
          exact Or.inr ⟨_, _, s5, rfl, rfl, C5⟩
        · rw [o1, if_neg (by decide), e3]
          exact Or.inl ⟨_, s3, rfl, rfl, r3⟩
      · obtain ⟨st', i1, i2⟩ := rbad (F := F) (g := g) C2 (k := 1) (K := 1) (by decide) (by decide) rfl (by omega)
        rw [if_neg k2, if_neg (show ¬ nI (tK t2) = (2 : Int32) from fun e => k2 ((nI_eq (b := 2) (by omega) (by omega)).mp e))]
        exact Or.inl ⟨_, st', rfl, i1, i2⟩
end RREAD3
