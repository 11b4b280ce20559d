/-! the reference joins one by one -/
section RJ
variable {F : Nat} {g : Hp} {st : RS} {h : HS} {D : Nat → Nat → Nat} {n : Nat}
def bI (s : Nat × Nat × Nat) : Int32 := if s.1 = 1000000 then (-1 : Int32) else nI s.2.1
def yI (s : Nat × Nat × Nat) : Int32 := if s.1 = 1000000 then (-1 : Int32) else nI s.2.2
def gdS (D : Nat → Nat → Nat) (n : Nat) (s : Nat × Nat × Nat) : Prop := s.1 = 1000000 ∨ s.1 ≤ 100 ∧ s.2.1 < n ∧ s.2.2 < n ∧ s.1 = D s.2.1 s.2.2 ∧ s.2.1 ≠ s.2.2
def dR (a : Nat → Int32) (D : Nat → Nat → Nat) (n : Nat) : Prop := ∀ x y, x < n → y < n → x ≠ y → a (10 * x + y) = nI (D x y)
theorem j10 (a b : Nat) : (10 : Int32) * nI a + nI b = nI (10 * a + b) := by rw [← nI_add, ← nI_mul]; rfl
theorem inS_gd (hD : ∀ a b, D a b ≤ 100) {i j : Nat} {s : Nat × Nat × Nat} (hi : i < n) (hj : j < n) (hij : i ≠ j) (h : gdS D n s) : gdS D n (inS D i s j) := by
  unfold inS
  split
  · exact Or.inr ⟨hD i j, hi, hj, rfl, hij⟩
  · exact h
theorem rj_57 (hD : ∀ a b, D a b ≤ 100) (hn : n ≤ 10) (hd : dR (sA st 30) D n) {J : List Nat} (hJn : ∀ x ∈ J, x < n) (hJl : J.length ≤ 10) (hJ : ∀ k (hk : k < J.length), sA st 31 k = nI J[k]) {i : Nat} (hi : i < n) (hiJ : i ∉ J) {rc21 : Option Nat → Int32 → Int32 → Int32 → Int32 → Hp → Option (Int32 × Hp)} {rc36 : Option Nat → Int32 → Int32 → Int32 → Int32 → Int32 → Int32 → Int32 → Hp → Option (Int32 × Hp)} {v1 v2 v3 : Int32} : ∀ (d j z : Nat) (s : Nat × Nat × Nat), j + d = J.length → d < z → gdS D n s →
    m_X12_joins_L57 F rc21 rc36 z (some 179) v1 v2 v3 (nI J.length) (bI s) (yI s) (nI i) (nI j) (ov g st) = rc36 (some 179) v1 v2 v3 (nI J.length) (bI ((J.drop j).foldl (inS D i) s)) (yI ((J.drop j).foldl (inS D i) s)) (nI (i + 1)) (ov g st) ∧ gdS D n ((J.drop j).foldl (inS D i) s) := by
  intro d
  induction d with
  | zero =>
    intro j z s hj hz hs
    obtain ⟨z, rfl⟩ : ∃ j, z = j + 1 := ⟨z - 1, by omega⟩
    rw [List.drop_eq_nil_of_le (by omega)]
    refine ⟨?_, hs⟩
    show m_X12_joins_b57 F _ _ _ _ _ _ _ _ _ _ _ _ _ = _
    unfold m_X12_joins_b57
    rw [if_pos (nI_le (by omega) (by omega)), nm_e2, nI_1]
    rfl
  | succ d ih =>
    intro j z s hj hz hs
    obtain ⟨z, rfl⟩ : ∃ j, z = j + 1 := ⟨z - 1, by omega⟩
    have hjl : j < J.length := by omega
    have hjn := hJn _ (List.getElem_mem hjl)
    have hne : i ≠ J[j] := fun e => hiJ (e ▸ List.getElem_mem hjl)
    have hdd := hD i J[j]
    obtain ⟨i1, i2⟩ := ih (j + 1) z (inS D i s J[j]) (by omega) (by omega) (inS_gd hD hi hjn hne hs)
    rw [List.drop_eq_getElem_cons hjl, List.foldl_cons]
    refine ⟨Eq.trans ?_ i1, i2⟩
    have take : m_X12_joins_B107 F rc21 rc36 (m_X12_joins_L57 F rc21 rc36 z) (some 179) v1 v2 v3 (nI J.length) (nI i) (nI j) (ov g st) = m_X12_joins_L57 F rc21 rc36 z (some 179) v1 v2 v3 (nI J.length) (nI i) (nI J[j]) (nI i) (nI (j + 1)) (ov g st) := by
      unfold m_X12_joins_B107
      rw [rR_31, bd_some, rE_31 (by omega), bd_some, nm_e2, nI_1, hJ j hjl]
    show m_X12_joins_b57 F _ _ _ _ _ _ _ _ _ _ _ _ _ = _
    unfold m_X12_joins_b57
    rw [if_neg (nI_ge hjl (by omega))]
    unfold inS
    rcases hs with hs | ⟨h1, h2, h3, h4, h5⟩
    · have e1 : bI s = -1 := if_pos hs
      rw [if_pos e1, if_pos (show D i J[j] < s.1 by omega), take]
      show _ = m_X12_joins_L57 F rc21 rc36 z (some 179) v1 v2 v3 (nI J.length) (bI (D i J[j], i, J[j])) (yI (D i J[j], i, J[j])) (nI i) (nI (j + 1)) (ov g st)
      unfold bI yI
      rw [if_neg (show ¬ D i J[j] = 1000000 by omega), if_neg (show ¬ D i J[j] = 1000000 by omega)]
    · have e1 : bI s = nI s.2.1 := if_neg (by omega)
      have e2 : yI s = nI s.2.2 := if_neg (by omega)
      rw [e1, e2, if_neg (nI_nm1 (by omega)), rR_30, bd_some, rR_31, bd_some, rE_31 (by omega), bd_some, hJ j hjl, j10, rE_30 (by omega), bd_some, bd_some, j10, rE_30 (by omega), bd_some, hd i _ hi hjn hne, hd _ _ h2 h3 h5]
      by_cases q : D i J[j] < s.1
      · rw [if_pos (nI_lt (by omega) (by omega)), if_pos q, take]
        show _ = m_X12_joins_L57 F rc21 rc36 z (some 179) v1 v2 v3 (nI J.length) (bI (D i J[j], i, J[j])) (yI (D i J[j], i, J[j])) (nI i) (nI (j + 1)) (ov g st)
        unfold bI yI
        rw [if_neg (show ¬ D i J[j] = 1000000 by omega), if_neg (show ¬ D i J[j] = 1000000 by omega)]
      · rw [if_neg (nI_nlt (by omega) (by omega)), if_neg q, nm_e2, nI_1, e1, e2]
theorem rj_36 (hD : ∀ a b, D a b ≤ 100) (hn : n ≤ 10) (hF : 12 ≤ F) (hd : dR (sA st 30) D n) {J : List Nat} (hJ0 : J ≠ []) (hJn : ∀ x ∈ J, x < n) (hJl : J.length ≤ 10) (hJ : ∀ k (hk : k < J.length), sA st 31 k = nI J[k]) {rc21 : Option Nat → Int32 → Int32 → Int32 → Int32 → Hp → Option (Int32 × Hp)} {v3 : Int32} : ∀ (d i z : Nat) (s : Nat × Nat × Nat), i + d = n → d < z → gdS D n s → s.1 ≤ 1000000 →
    m_X12_joins_L36 F rc21 z (some 179) (nI n) (nI (bitsOf 10 (fun k => decide (k ∈ J)))) v3 (nI J.length) (bI s) (yI s) (nI i) (ov g st) = m_X12_joins_B132 F rc21 (some 179) (nI n) (nI (bitsOf 10 (fun k => decide (k ∈ J)))) v3 (nI J.length) (bI ((List.range' i d).foldl (nxS D J) s)) (yI ((List.range' i d).foldl (nxS D J) s)) (ov g st) := by
  intro d
  induction d with
  | zero =>
    intro i z s hi hz hs h1
    obtain ⟨z, rfl⟩ : ∃ j, z = j + 1 := ⟨z - 1, by omega⟩
    show m_X12_joins_b36 F _ _ _ _ _ _ _ _ _ _ _ = _
    unfold m_X12_joins_b36
    rw [if_pos (nI_le (by omega) (by omega))]
    rfl
  | succ d ih =>
    intro i z s hi hz hs h1
    obtain ⟨z, rfl⟩ : ∃ j, z = j + 1 := ⟨z - 1, by omega⟩
    have hil : i < n := by omega
    have hb := bitsOf_lt 10 (fun k => decide (k ∈ J))
    rw [range_s, List.foldl_cons]
    show m_X12_joins_b36 F _ _ _ _ _ _ _ _ _ _ _ = _
    unfold m_X12_joins_b36
    rw [if_neg (nI_ge hil (by omega)), bd_e (has_e F _ (by omega) (by omega)), bitsOf_test, decide_eq_true (show i < 10 by omega), Bool.true_and]
    by_cases q : i ∈ J
    · rw [decide_eq_true q, if_pos rfl, if_neg (by decide), nm_e2, nI_1]
      have : nxS D J s i = s := if_pos q
      rw [this]
      exact ih (i + 1) z s (by omega) (by omega) hs h1
    · rw [decide_eq_false q, if_pos (show (if false = true then (1 : Int32) else 0) = 0 from rfl)]
      obtain ⟨e1, e2⟩ := rj_57 (F := F) (g := g) hD hn hd hJn hJl hJ hil q (rc21 := rc21) (rc36 := m_X12_joins_L36 F rc21 z) (v1 := nI n) (v2 := nI (bitsOf 10 (fun k => decide (k ∈ J)))) (v3 := v3) J.length 0 F s (by omega) (by omega) hs
      rw [List.drop_zero, inS_gp h1] at e1 e2
      have e3 : nxS D J s i = if (gp D i J).1 < s.1 then ((gp D i J).1, i, (gp D i J).2) else s := if_neg q
      rw [← e3] at e1 e2
      refine Eq.trans e1 (ih (i + 1) z _ (by omega) (by omega) e2 ?_)
      rw [e3]
      split
      · exact gp_le D i J
      · exact h1
theorem rj_21 (hD : ∀ a b, D a b ≤ 100) (hn : n ≤ 10) (hF : 12 ≤ F) (hd : dR (sA st 30) D n) : ∀ (d r z : Nat) (st' : RS), r + 1 + d = n → d < z → Cg [] [29, 31] [] st st' → (∀ k, k < r + 1 → sA st' 31 k = nI ((prm D n r).1.getD k 0)) → (∀ x, x ∈ (prm D n r).1 → sA st' 29 x = if x = 0 then (-1 : Int32) else nI ((prm D n r).2.2 x)) →
    ∃ st'', m_X12_joins_L21 F z (some 179) (nI n) (nI (bitsOf 10 (fun k => decide (k ∈ (prm D n r).1)))) (nI (prm D n r).2.1) (nI (r + 1)) (ov g st') = some (nI (prm D n (n - 1)).2.1, ov g st'') ∧ Cg [] [29, 31] [] st st'' ∧ ∀ x, x < n → sA st'' 29 x = if x = 0 then (-1 : Int32) else nI ((prm D n (n - 1)).2.2 x) := by
  intro d
  induction d with
  | zero =>
    intro r z st' hr hz C hJ hp
    obtain ⟨z, rfl⟩ : ∃ j, z = j + 1 := ⟨z - 1, by omega⟩
    obtain ⟨p1, p2, p3, p4, p5, p6⟩ := prm_ok (n := n) hD r (by omega)
    refine ⟨st', ?_, C, fun x hx => ?_⟩
    · show m_X12_joins_b21 F _ _ _ _ _ _ _ = _
      unfold m_X12_joins_b21
      rw [if_pos (nI_le (by omega) (by omega)), show n - 1 = r by omega]
    · rw [show n - 1 = r by omega]
      exact hp x (nd_full n _ p2 p1 (by omega) x hx)
  | succ d ih =>
    intro r z st' hr hz C hJ hp
    obtain ⟨z, rfl⟩ : ∃ j, z = j + 1 := ⟨z - 1, by omega⟩
    obtain ⟨p1, p2, p3, p4, p5, p6⟩ := prm_ok (n := n) hD r (by omega)
    have hJ0 : (prm D n r).1 ≠ [] := fun e => by rw [e] at p3; simp at p3
    obtain ⟨n1, n2, n3, n4⟩ := nxt_ok hD hJ0 p1 (n := n) (by omega)
    obtain ⟨g1, g2, g3⟩ := gp_p hD (i := (nxt D n (prm D n r).1).2.1) hJ0
    have hby : (nxt D n (prm D n r).1).2.2 < n := by rw [n4]; exact p2 _ g2
    have hne : (nxt D n (prm D n r).1).2.1 ≠ (nxt D n (prm D n r).1).2.2 := fun e => n2 (by rw [e, n4]; exact g2)
    have hb0 : (nxt D n (prm D n r).1).2.1 ≠ 0 := fun e => n2 (by rw [e]; exact p4)
    have hv : (nxt D n (prm D n r).1).1 ≠ 1000000 := by rw [n3]; omega
    have key := rj_36 (F := F) (g := g) (st := st') hD hn hF (by rw [C.A (by decide)]; exact hd) hJ0 p2 (by omega) (fun k hk => by rw [hJ k (by omega), getD_e hk]) (rc21 := m_X12_joins_L21 F z) (v3 := nI (prm D n r).2.1) (n - 1) 1 F (1000000, 0, 0) (by omega) (by omega) (Or.inl rfl) (Nat.le_refl _)
    have e0 : (List.range' 1 (n - 1)).foldl (nxS D (prm D n r).1) (1000000, 0, 0) = nxt D n (prm D n r).1 := by
      unfold nxt
      rw [← range_0, show n = (n - 1) + 1 by omega, range_s, List.foldl_cons, show nxS D _ (1000000, 0, 0) 0 = (1000000, 0, 0) from if_pos (by rw [show n - 1 + 1 = n by omega]; exact p4)]
      rfl
    rw [e0, show bI (nxt D n (prm D n r).1) = nI (nxt D n (prm D n r).1).2.1 from if_neg hv, show yI (nxt D n (prm D n r).1) = nI (nxt D n (prm D n r).1).2.2 from if_neg hv, p3] at key
    have hsum : (nxt D n (prm D n r).1).1 = D (nxt D n (prm D n r).1).2.1 (nxt D n (prm D n r).1).2.2 := by rw [n3, g3, ← n4]
    have hset : nI (bitsOf 10 (fun k => decide (k ∈ (prm D n r).1))) ||| ((1 : Int32) <<< (nI (nxt D n (prm D n r).1).2.1 &&& 31)) = nI (bitsOf 10 (fun k => decide (k ∈ (prm D n (r + 1)).1))) := by
      have e1 : (1 : Int32) <<< (nI (nxt D n (prm D n r).1).2.1 &&& 31) = nI (1 * 2 ^ (nxt D n (prm D n r).1).2.1) := nI_shl (n := 1) (by omega) (by
        have : 2 ^ (nxt D n (prm D n r).1).2.1 ≤ 2 ^ 10 := Nat.pow_le_pow_right (by decide) (by omega)
        omega)
      rw [e1, Nat.one_mul, bitsOf_one (n := 10) (by omega), nI_or, bitsOf_or]
      congr 1
      refine bitsOf_ext (fun k _ => ?_)
      show (decide (k ∈ (prm D n r).1) || (k == (nxt D n (prm D n r).1).2.1)) = decide (k ∈ (prm D n r).1 ++ [_])
      by_cases q1 : k ∈ (prm D n r).1 <;> by_cases q2 : k = (nxt D n (prm D n r).1).2.1 <;> simp [q1, q2]
    obtain ⟨st'', i1, i2, i3⟩ := ih (r + 1) z (uA (uA st' 29 (nxt D n (prm D n r).1).2.1 (nI (nxt D n (prm D n r).1).2.2)) 31 (r + 1) (nI (nxt D n (prm D n r).1).2.1)) (by omega) (by omega) ((C.trans (Cg.uA (by decide))).trans (Cg.uA (by decide))) (fun k hk => by
      rw [sA_uA, if_pos rfl]
      show upd _ _ _ k = nI (((prm D n r).1 ++ [(nxt D n (prm D n r).1).2.1]).getD k 0)
      by_cases e : k = r + 1
      · subst e
        rw [upd_s, gD_r (by omega), p3, Nat.sub_self]
        rfl
      · rw [upd_n e, sA_uA, if_neg (by decide), gD_l (by omega)]
        exact hJ k (by omega)) (fun x hx => by
      rw [sA_uA, if_neg (by decide), sA_uA, if_pos rfl]
      show _ = if x = 0 then (-1 : Int32) else nI (updN _ _ _ x)
      unfold updN
      by_cases e : x = (nxt D n (prm D n r).1).2.1
      · rw [e, upd_s, if_neg hb0, if_pos rfl]
      · rw [upd_n e, if_neg e]
        refine hp x ?_
        rcases List.mem_append.mp hx with q | q
        · exact q
        · exact absurd (List.mem_singleton.mp q) e)
    refine ⟨st'', ?_, i2, i3⟩
    show m_X12_joins_b21 F _ _ _ _ _ _ _ = _
    unfold m_X12_joins_b21
    rw [if_neg (nI_ge (by omega) (by omega))]
    refine Eq.trans key ?_
    unfold m_X12_joins_B132
    rw [rR_30, bd_some, j10, rE_30 (by omega), bd_some, show sA st' 30 = sA st 30 from C.A (by decide), hd _ _ n1 hby hne, nm_e2, nI_add, rR_29, bd_some, wE_29 (by omega), bd_some, rR_31, bd_some, wE_31 (by omega), bd_some, nm_e2, hset, nm_e2, nI_1, ← hsum]
    exact i1
theorem rjoins_e (hD : ∀ a b, D a b ≤ 100) (h0 : 0 < n) (hn : n ≤ 10) (hF : 12 ≤ F) (hd : dR (sA st 30) D n) : ∃ st', m_X12_joins F (some 179) (nI n) (ov g st) = some (nI (prm D n (n - 1)).2.1, ov g st') ∧ Cg [] [29, 31] [] st st' ∧ ∀ x, x < n → sA st' 29 x = if x = 0 then (-1 : Int32) else nI ((prm D n (n - 1)).2.2 x) := by
  obtain ⟨st', i1, i2, i3⟩ := rj_21 (F := F) (g := g) (st := st) hD hn hF hd (n - 1) 0 F (uA (uA st 31 0 0) 29 0 (-1)) (by omega) (by omega) ((Cg.uA (by decide)).trans (Cg.uA (by decide))) (fun k hk => by
    have : k = 0 := by omega
    subst this
    rw [sA_uA, if_neg (by decide), sA_uA, if_pos rfl, upd_s]
    rfl) (fun x hx => by
    have : x = 0 := List.mem_singleton.mp hx
    subst this
    rw [sA_uA, if_pos rfl, upd_s, if_pos rfl])
  refine ⟨st', ?_, i2, i3⟩
  unfold m_X12_joins
  rw [rR_31, bd_some, show stI (ov g st) 1 (some 195) (0 : Int32) (0 : Int32) = some (ov g (uA st 31 0 0)) from wE_31 (j := 0) (by omega), bd_some, rR_29, bd_some, show stI (ov g (uA st 31 0 0)) 1 (some 193) (0 : Int32) (-1 : Int32) = some (ov g (uA (uA st 31 0 0) 29 0 (-1))) from wE_29 (j := 0) (by omega), bd_some]
  exact i1
/-! FARS of the copies -/
theorem apart_L12 (hF : 8 ≤ F) (N : NW (sA st 14) h) (ok : okH h) {fm : List Nat} (hl : fm.length ≤ 9) (hin : allIn h fm) (h33 : sI st 33 = nI fm.length) (h28 : ∀ i (hi : i < fm.length), sA st 28 i = nI fm[i]) {rc : Option Nat → Int32 → Hp → Option Hp} {i : Nat} (hi : i < fm.length) : ∀ (d j z : Nat) (st' : RS), j + d = fm.length → d < z → Cg [] [26, 27, 30] [] st st' → (∀ a b, (a < i ∧ b < fm.length ∨ a = i ∧ b < j) → sA st' 30 (10 * a + b) = nI (dst (cLs h fm) a b)) →
    ∃ st'', m_X12_layApart_L12 F rc z (some 179) (nI i) (nI j) (ov g st') = rc (some 179) (nI (i + 1)) (ov g st'') ∧ Cg [] [26, 27, 30] [] st st'' ∧ ∀ a b, a < i + 1 → b < fm.length → sA st'' 30 (10 * a + b) = nI (dst (cLs h fm) a b) := by
  have h7 := ok.1.2
  intro d
  induction d with
  | zero =>
    intro j z st' hj hz C hd
    obtain ⟨z, rfl⟩ : ∃ j, z = j + 1 := ⟨z - 1, by omega⟩
    refine ⟨st', ?_, C, fun a b ha hb => hd a b (by omega)⟩
    show m_X12_layApart_b12 F _ _ _ _ _ _ = _
    unfold m_X12_layApart_b12
    rw [rI_33, bd_some, C.I (by decide), h33, if_pos (nI_le (by omega) (by omega)), nm_e2, nI_1]
  | succ d ih =>
    intro j z st' hj hz C hd
    obtain ⟨z, rfl⟩ : ∃ j, z = j + 1 := ⟨z - 1, by omega⟩
    have hjl : j < fm.length := by omega
    have ci := hin i hi
    have cj := hin j hjl
    obtain ⟨-, hA, hA2, -⟩ := ok.2.2.1 _ (List.getElem_mem ci)
    obtain ⟨-, hB, hB2, -⟩ := ok.2.2.1 _ (List.getElem_mem cj)
    have N' : NW (sA st' 14) h := by rw [C.A (by decide)]; exact N
    obtain ⟨s1, e1, r1, pa, pb⟩ := layCopies_e (F := F) (g := g) hF N' ok ci cj
    have N1 : NW (sA s1 14) h := by rw [r1.A (by decide)]; exact N'
    have C1 := C.trans (r1.cg.mono (I' := []) (A' := [26, 27, 30]) (L' := []) (by simp) (by simp) (by simp))
    obtain ⟨st'', i1, i2, i3⟩ := ih (j + 1) z (uA s1 30 (10 * i + j) (nI (dst (cLs h fm) i j))) (by omega) (by omega) (C1.trans (Cg.uA (by decide))) (fun a b hab => by
      rw [sA_uA, if_pos rfl]
      by_cases e : 10 * a + b = 10 * i + j
      · have h1 : a = i := by omega
        have h2 : b = j := by omega
        rw [h1, h2, upd_s]
      · rw [upd_n e, r1.A (by decide)]
        refine hd a b ?_
        rcases hab with q | ⟨q1, q2⟩
        · exact Or.inl q
        · subst q1
          refine Or.inr ⟨rfl, ?_⟩
          rcases Nat.lt_or_ge b j with q3 | q3
          · exact q3
          · exfalso; apply e; rw [show b = j by omega])
    refine ⟨st'', ?_, i2, i3⟩
    have ed : stp (hC h)[fm[i]].2 (hC h)[fm[j]].2 + 3 * fal (hC h)[fm[i]].2 (hC h)[fm[j]].2 = dst (cLs h fm) i j := by
      unfold dst
      rw [cLs_at hi, cLs_at hjl, cL_e ci, cL_e cj]
    show m_X12_layApart_b12 F _ _ _ _ _ _ = _
    unfold m_X12_layApart_b12
    rw [rI_33, bd_some, C.I (by decide), h33, if_neg (nI_ge hjl (by omega)), rR_28, bd_some, rE_28 (by omega), bd_some, bd_some, rE_28 (by omega), bd_some, show sA st' 28 = sA st 28 from C.A (by decide), h28 i hi, h28 j hjl, ck_e r_isO, bd_e e1, rR_30, bd_some, ck_e r_isO, bd_e (rfar_e N1 h7 hF hA hB hA2 hB2 pa pb), ed, j10, wE_30 (by omega), bd_some, nm_e2, nI_1]
    exact i1
theorem apart_L2 (hF : 12 ≤ F) (N : NW (sA st 14) h) (ok : okH h) {fm : List Nat} (hl : fm.length ≤ 9) (hin : allIn h fm) (h33 : sI st 33 = nI fm.length) (h28 : ∀ i (hi : i < fm.length), sA st 28 i = nI fm[i]) : ∀ (d i z : Nat) (st' : RS), i + d = fm.length → d < z → Cg [] [26, 27, 30] [] st st' → (∀ a b, a < i → b < fm.length → sA st' 30 (10 * a + b) = nI (dst (cLs h fm) a b)) →
    ∃ st'', m_X12_layApart_L2 F z (some 179) (nI i) (ov g st') = some (ov g st'') ∧ Cg [] [26, 27, 30] [] st st'' ∧ ∀ a b, a < fm.length → b < fm.length → sA st'' 30 (10 * a + b) = nI (dst (cLs h fm) a b) := by
  intro d
  induction d with
  | zero =>
    intro i z st' hi hz C hd
    obtain ⟨z, rfl⟩ : ∃ j, z = j + 1 := ⟨z - 1, by omega⟩
    refine ⟨st', ?_, C, fun a b ha hb => hd a b (by omega) hb⟩
    show m_X12_layApart_b2 F _ _ _ _ = _
    unfold m_X12_layApart_b2
    rw [rI_33, bd_some, C.I (by decide), h33, if_pos (nI_le (by omega) (by omega))]
  | succ d ih =>
    intro i z st' hi hz C hd
    obtain ⟨z, rfl⟩ : ∃ j, z = j + 1 := ⟨z - 1, by omega⟩
    obtain ⟨s1, a1, a2, a3⟩ := apart_L12 (F := F) (g := g) (st := st) (by omega) N ok hl hin h33 h28 (rc := m_X12_layApart_L2 F z) (i := i) (by omega) fm.length 0 F st' (by omega) (by omega) C (fun a b hab => by
      rcases hab with q | q
      · exact hd a b q.1 q.2
      · omega)
    obtain ⟨st'', i1, i2, i3⟩ := ih (i + 1) z s1 (by omega) (by omega) a2 a3
    refine ⟨st'', ?_, i2, i3⟩
    show m_X12_layApart_b2 F _ _ _ _ = _
    unfold m_X12_layApart_b2
    rw [rI_33, bd_some, C.I (by decide), h33, if_neg (nI_ge (by omega) (by omega))]
    exact a1.trans i1
theorem apart_e (hF : 12 ≤ F) (N : NW (sA st 14) h) (ok : okH h) {fm : List Nat} (hl : fm.length ≤ 9) (hin : allIn h fm) (h33 : sI st 33 = nI fm.length) (h28 : ∀ i (hi : i < fm.length), sA st 28 i = nI fm[i]) : ∃ st', m_X12_layApart F (some 179) (ov g st) = some (ov g st') ∧ Cg [] [26, 27, 30] [] st st' ∧ dR (sA st' 30) (dst (cLs h fm)) fm.length := by
  obtain ⟨st', i1, i2, i3⟩ := apart_L2 (F := F) (g := g) (st := st) hF N ok hl hin h33 h28 fm.length 0 F st (by omega) (by omega) (Cg.refl _ _ _ _) (fun a b ha _ => absurd ha (Nat.not_lt_zero _))
  exact ⟨st', i1, i2, fun a b ha hb _ => i3 a b ha hb⟩
end RJ
