/-! the class reads a LINE: COPIES -/
theorem okO_app {N l : Nat} {M : List Nat} : okO N (M ++ [l]) = (okO N M && decide (l ≤ N) && decide (l ∉ M)) := by
  rw [Bool.eq_iff_iff]
  simp only [okO, Bool.and_eq_true, decide_eq_true_eq, List.all_eq_true, List.nodup_append, List.mem_append, List.mem_singleton]
  constructor
  · rintro ⟨a, b, c, d⟩
    exact ⟨⟨⟨fun x hx => a x (Or.inl hx), b⟩, a l (Or.inr rfl)⟩, fun hm => d l hm l rfl rfl⟩
  · rintro ⟨⟨⟨a, b⟩, c⟩, d⟩
    refine ⟨fun x hx => ?_, b, by simp, fun x hx y hy e => ?_⟩
    · rcases hx with q | q
      · exact a x q
      · rw [q]; exact c
    · subst hy; subst e; exact d hx
theorem okO_pre {N : Nat} {M K : List Nat} (h : okO N (M ++ K) = true) : okO N M = true := by
  simp only [okO, Bool.and_eq_true, decide_eq_true_eq, List.all_eq_true] at h ⊢
  exact ⟨fun x hx => h.1 x (List.mem_append_left _ hx), (List.nodup_append.mp h.2).1⟩
theorem mem_m1 {M : List Nat} {l : Nat} (h : ∀ x ∈ M, 1 ≤ x) (hl : 1 ≤ l) : l - 1 ∈ M.map (fun l => l - 1) ↔ l ∈ M := by
  constructor
  · intro q
    obtain ⟨x, x1, x2⟩ := List.mem_map.mp q
    have := h x x1
    have e : x = l := by omega
    exact e ▸ x1
  · intro q
    exact List.mem_map.mpr ⟨l, q, rfl⟩
theorem nd_m1 : ∀ {M : List Nat}, (∀ x ∈ M, 1 ≤ x) → M.Nodup → (M.map (fun l => l - 1)).Nodup
  | [], _, _ => List.Pairwise.nil
  | x :: M, h, d => by
    obtain ⟨d1, d2⟩ := List.nodup_cons.mp d
    rw [List.map_cons, List.nodup_cons]
    have h' := fun y hy => h y (List.mem_cons_of_mem _ hy)
    exact ⟨fun c => d1 ((mem_m1 h' (h x List.mem_cons_self)).mp c), nd_m1 h' d2⟩
theorem okO_m {N : Nat} {M : List Nat} (h1 : ∀ x ∈ M, 1 ≤ x) (h : okO N M = true) : (∀ x ∈ M.map (fun l => l - 1), x < N) ∧ (M.map (fun l => l - 1)).Nodup := by
  simp only [okO, Bool.and_eq_true, decide_eq_true_eq, List.all_eq_true] at h
  refine ⟨fun x hx => ?_, nd_m1 h1 h.2⟩
  obtain ⟨y, y1, y2⟩ := List.mem_map.mp hx
  have := h1 y y1
  have := h.1 y y1
  omega
def ix5 : Nat → Int32
  | 0 => -5
  | r + 1 => nI (5 * r)
theorem ix5_s : ∀ r, r < 7 → nI (5 * r) + (-5 : Int32) = ix5 r := by decide
section CCOPY
variable {F : Nat} {B : Nat → Nat} {n R D sD : Nat} {f : Hp} {h : HS} {t : Tok} {lc : Bool} {pt : Nat}
theorem CSt.g0 (C : CSt B n R D sD f h t lc pt) : gR f (some 169) 4 0 = some (some 168) := by
  obtain ⟨v4, v5, c5⟩ := C.2.2.2.1
  exact gR_s c5 rfl
theorem CSt.g1 (C : CSt B n R D sD f h t lc pt) : gR f (some 169) 4 1 = some (some D) := by
  obtain ⟨v4, v5, c5⟩ := C.2.2.2.1
  exact gR_s c5 rfl
theorem CSt.io (C : CSt B n R D sD f h t lc pt) : isO f (some 169) 4 = true := by
  obtain ⟨v4, v5, c5⟩ := C.2.2.2.1
  exact isO_e c5
theorem CSt.lcv (C : CSt B n R D sD f h t lc pt) : gI f (some 169) 4 2 = some (if lc then 1 else 0) := by
  obtain ⟨v4, v5, c5⟩ := C.2.2.2.1
  exact gI_e c5 rfl
theorem CSt.ptv (C : CSt B n R D sD f h t lc pt) : gI f (some 169) 4 3 = some (nI pt) := by
  obtain ⟨v4, v5, c5⟩ := C.2.2.2.1
  exact gI_e c5 rfl
theorem CSt.hs (C : CSt B n R D sD f h t lc pt) {f' : Hp} {h' : HS} (fr : ∀ a, a < D ∨ D + 7 ≤ a ∧ a < D + 13 ∨ D + 29 ≤ a → f' a = f a) (H : HAt f' D sD h') (ok : okH h') (l : lcI lc h') : CSt B n R D sD f' h' t lc pt := by
  obtain ⟨⟨c1, c2⟩, ⟨⟨nx, code, sg, v, c3⟩, c4⟩, -, ⟨v4, v5, c5⟩, -, c6⟩ := C
  have d := c6.2.2.1
  exact ⟨⟨c1.frame (fun a ha => fr a (by omega)), c2.frame (fr _ (by omega))⟩, ⟨⟨nx, code, sg, v, (fr _ (by omega)).trans c3.1, c3.2⟩, c4⟩, ⟨H, ok⟩, ⟨v4, v5, (fr _ (by omega)).trans c5⟩, l, c6⟩
theorem CSt.c4 (C : CSt B n R D sD f h t lc pt) {lc' : Bool} {pt' : Nat} {v4 v5 : Int32} {f' : Hp} (fr : ∀ a, a ≠ 169 → f' a = f a) (e : f' 169 = some (.inl (4, c4 D (if lc' then 1 else 0) (nI pt') v4 v5))) (l : lcI lc' h) (p : pt' < 256) : CSt B n R D sD f' h t lc' pt' := by
  obtain ⟨⟨c1, c2⟩, ⟨⟨nx, code, sg, v, c3⟩, c4⟩, ⟨H, ok⟩, -, -, c6⟩ := C
  have d := c6.2.2.1
  exact ⟨⟨c1.frame (fun a ha => fr a (by omega)), c2.frame (fr _ (by omega))⟩, ⟨⟨nx, code, sg, v, (fr _ (by omega)).trans c3.1, c3.2⟩, c4⟩, ⟨H.frame (fun a _ _ _ => fr a (by omega)) ok, ok⟩, ⟨v4, v5, e⟩, l, c6.1, c6.2.1, d, p⟩
theorem cbad (C : CSt B n R D sD f h t lc pt) {k : Nat} (k1 : 1 ≤ k) (k4 : k ≤ 4) {K : Int32} (hK : K = nI k) : ∃ f', ((gR f (some 169) 4 0).bind fun x => chk (isO f x 8) <| bd2 (m_X9_fail F x K f) fun a b => chk (okZ a) <| some (a, b)) = some (0, f') ∧ CF n R D sD f' (k, tA t) ∧ FrD D f f' := by
  obtain ⟨f', i1, i2, i3⟩ := cfail_s (F := F) C k1 k4 hK
  refine ⟨f', ?_, i2, FrD.of i3⟩
  rw [bd_e C.g0, ck_e C.isK, bd2_e i1, ck_e (by decide)]
theorem cadv_q (hF : 742 ≤ F) (C : CSt B n R D sD f h t lc pt) (k : 2 ≤ tK t) : ∃ f', (∀ {β : Type} (K : Hp → Option β), ((gR f (some 169) 4 0).bind fun x => chk (isO f x 8) <| (m_X9_advance F x f).bind K) = K f') ∧ CSt B n R D sD f' h (nxT B n R t) lc pt ∧ ∀ a, a ≠ 168 → f' a = f a := by
  obtain ⟨f', i1, i2, i3⟩ := cadv_s hF C k
  refine ⟨f', fun K => ?_, i2, i3⟩
  rw [bd_e C.g0, ck_e C.isK, bd_e i1]
/-- the end of a reader: on to the next TOKEN -/
theorem cend_q (hF : 742 ≤ F) (C : CSt B n R D sD f h t lc pt) (k : 2 ≤ tK t) : ∃ f', ((gR f (some 169) 4 0).bind fun x => chk (isO f x 8) <| (m_X9_advance F x f).bind fun f31 => chk (okZ (1 : Int32)) <| some ((1 : Int32), f31)) = some (1, f') ∧ CSt B n R D sD f' h (nxT B n R t) lc pt ∧ FrD D f f' := by
  obtain ⟨f', i1, i2, i3⟩ := cadv_q hF C k
  refine ⟨f', ?_, i2, FrD.of i3⟩
  rw [i1, ck_e (by decide)]
theorem cspell_L {L : List Nat} (hL : okName L) {c N : Nat} {nm : Int64} (hF : 8 ≤ F) (hN : N ≤ 7) (g0 : ∀ f' : Hp, (∀ a, a ≠ c → f' a = f a) → gR f' (some 169) 4 0 = some (some 168) ∧ gR f' (some 169) 4 1 = some (some D) ∧ gJ f' (some 168) 8 6 = some (lN (code32 L)) ∧ gI f' (some D) 3 0 = some (nI N)) : ∀ (r z : Nat) (f' : Hp), r ≤ 7 → r < z → (∀ a, a ≠ c → f' a = f a) → f' c = some (.inl (0, cC nm ((L.take (L.length - r)).map (fun l => l - 1)))) → okO N (L.take (L.length - r)) = true → ∃ f'', (∀ a, a ≠ c → f'' a = f a) ∧ ((okO N L = true ∧ m_X5_spell_L3 F z (some 169) (some c) (ix5 r) f' = some (1, f'') ∧ f'' c = some (.inl (0, cC nm (L.map (fun l => l - 1))))) ∨ (okO N L = false ∧ m_X5_spell_L3 F z (some 169) (some c) (ix5 r) f' = some (0, f'') ∧ cAny f'' c)) := by
  have c62 := c32_lt hL
  intro r
  induction r with
  | zero =>
    intro z f' hr hz fr e o
    obtain ⟨z, rfl⟩ : ∃ j, z = j + 1 := ⟨z - 1, by omega⟩
    rw [Nat.sub_zero, List.take_length] at e o
    refine ⟨f', fr, Or.inl ⟨o, ?_, e⟩⟩
    show m_X5_spell_b3 F _ _ _ _ _ = _
    unfold m_X5_spell_b3
    rw [if_pos (show ix5 0 < 0 by decide), ck_e (by decide)]
  | succ q ih =>
    intro z f' hr hz fr e o
    obtain ⟨z, rfl⟩ : ∃ j, z = j + 1 := ⟨z - 1, by omega⟩
    obtain ⟨g1, g2, g3, g4⟩ := g0 f' fr
    have dg := c32_dig hL (q := q)
    have st : m_X5_spell_L3 F (z + 1) (some 169) (some c) (ix5 (q + 1)) f' = if nI (if q < L.length then L.getD (L.length - 1 - q) 0 else 0) ≤ 0 then m_X5_spell_L3 F z (some 169) (some c) (ix5 q) f' else if nI N < nI (if q < L.length then L.getD (L.length - 1 - q) 0 else 0) then some ((0 : Int32), f') else (chk (isO f' (some c) 0) <| (m_X1_hasLine F (some c) ((nI (if q < L.length then L.getD (L.length - 1 - q) 0 else 0) - (1 : Int32))) f').bind fun x13 => if x13 = 0 then (chk (isO f' (some c) 0) <| (m_X1_append F (some c) ((nI (if q < L.length then L.getD (L.length - 1 - q) 0 else 0) - (1 : Int32))) f').bind fun f16 => m_X5_spell_L3 F z (some 169) (some c) (ix5 q) f16) else some ((0 : Int32), f')) := by
      show m_X5_spell_b3 F _ _ _ (nI (5 * q)) _ = _
      unfold m_X5_spell_b3
      rw [if_neg (show ¬ nI (5 * q) < 0 from nI_pos (by omega)), bd_e g1, bd_e g3, lus_e (by omega) (by omega), lN_and31, lN_i, dg, nm_e2, bd_e g2, bd_e g4]
      simp only [nm_e2, ix5_s q (by omega), show okZ (0 : Int32) = true from by decide, chk, if_true]
    by_cases w : q < L.length
    · rw [if_pos w] at st
      have hm : L.getD (L.length - 1 - q) 0 ∈ L := by
        rw [List.getD_eq_getElem?_getD, List.getElem?_eq_getElem (by omega), Option.getD_some]
        exact List.getElem_mem _
      have hl := hL.2 _ hm
      have tk : L.take (L.length - q) = L.take (L.length - (q + 1)) ++ [L.getD (L.length - 1 - q) 0] := by
        rw [show L.length - q = (L.length - (q + 1)) + 1 by omega, List.take_succ_eq_append_getElem (by omega), List.getD_eq_getElem?_getD, List.getElem?_eq_getElem (by omega), Option.getD_some]
        simp only [show L.length - (q + 1) = L.length - 1 - q by omega]
      have pre : ∀ x ∈ L.take (L.length - (q + 1)), 1 ≤ x := fun x hx => (hL.2 x (List.mem_of_mem_take hx)).1
      have oA := okO_app (N := N) (l := L.getD (L.length - 1 - q) 0) (M := L.take (L.length - (q + 1)))
      rw [← tk, o] at oA
      generalize hd : L.getD (L.length - 1 - q) 0 = l at st hl tk oA
      have bad : okO N (L.take (L.length - q)) = false → okO N L = false := fun b => by
        cases z : okO N L
        · rfl
        · rw [← List.take_append_drop (L.length - q) L] at z
          rw [okO_pre z] at b
          exact absurd b (by decide)
      have any : cAny f' c := ⟨_, _, _, _, _, _, e⟩
      rw [if_neg (show ¬ nI l ≤ 0 from nI_ge (a := 0) (by omega) (by omega))] at st
      by_cases w1 : N < l
      · rw [if_pos (nI_lt w1 (by omega))] at st
        refine ⟨f', fr, Or.inr ⟨bad (by rw [oA, decide_eq_false (show ¬ l ≤ N by omega)]; rfl), st, any⟩⟩
      · have ob := okO_m pre o
        have l7 : okL ((L.take (L.length - (q + 1))).map (fun l => l - 1)) := ⟨fun x hx => Nat.lt_of_lt_of_le (ob.1 x hx) hN, ob.2⟩
        rw [if_neg (nI_nlt (by omega) (by omega)), ck_e (isO_e e), show nI l - (1 : Int32) = nI (l - 1) from nI_sub (b := 1) (by omega), bd_e (hasLine_e F e (by omega))] at st
        by_cases w2 : l ∈ L.take (L.length - (q + 1))
        · rw [if_pos ((mem_m1 pre hl.1).mpr w2), if_neg (by decide)] at st
          refine ⟨f', fr, Or.inr ⟨bad (by rw [oA, decide_eq_true (show l ≤ N by omega), decide_eq_false (fun k => k w2)]; rfl), st, any⟩⟩
        · have nl : ¬ l - 1 ∈ (L.take (L.length - (q + 1))).map (fun l => l - 1) := fun k => w2 ((mem_m1 pre hl.1).mp k)
          have ln : ((L.take (L.length - (q + 1))).map (fun l => l - 1)).length < 7 := by
            have := hL.1
            rw [List.length_map, List.length_take]
            omega
          rw [if_neg nl, if_pos rfl, ck_e (isO_e e), bd_e (append_e hF e l7 (by omega) nl ln)] at st
          rw [st]
          refine ih z _ (by omega) (by omega) (fun a ha => (up_n ha).trans (fr a ha)) ?_ (by rw [oA, decide_eq_true (show l ≤ N by omega), decide_eq_true w2]; rfl)
          rw [up_s, tk, List.map_append]
          rfl
    · rw [if_neg w, if_pos (by decide)] at st
      rw [st]
      have e0 : L.length - (q + 1) = L.length - q := by omega
      rw [e0] at e o
      exact ih z f' (by omega) (by omega) fr e o
end CCOPY
