/-! nearest -/
variable {sk : Nat}
/-- FARS to the COPIES from c on: together, and the greatest -/
def fsR (h : HS) (A : List Nat) : Nat → Nat → Nat × Nat → Nat × Nat
  | 0, _, s => s
  | d + 1, c, s => fsR h A d (c + 1) (s.1 + frr A (cL h c), if s.2 < frr A (cL h c) then frr A (cL h c) else s.2)
theorem fsR_le (h : HS) (A : List Nat) : ∀ d c s, s.1 ≤ 42 * c → s.2 ≤ 42 → (fsR h A d c s).1 ≤ 42 * (c + d) ∧ (fsR h A d c s).2 ≤ 42
  | 0, c, s, h1, h2 => ⟨h1, h2⟩
  | d + 1, c, s, h1, h2 => by
    have := frr_le A (cL h c)
    have := fsR_le h A d (c + 1) (s.1 + frr A (cL h c), if s.2 < frr A (cL h c) then frr A (cL h c) else s.2) (show s.1 + _ ≤ _ by omega) (by show (if _ then _ else _) ≤ 42; split <;> omega)
    rw [show c + (d + 1) = c + 1 + d by omega]
    exact this
/-- NEAREST's measure of the order A: in sum (how 0) or in worst -/
def nvN (h : HS) (how : Int32) (A : List Nat) : Nat := if how = 0 then (fsR h A (hC h).length 0 (0, 0)).1 else (fsR h A (hC h).length 0 (0, 0)).2
theorem nvN_le {h : HS} (ok : okH h) (how : Int32) (A : List Nat) : nvN h how A ≤ 420 := by
  have h10 := ok.2.1
  have := fsR_le h A (hC h).length 0 (0, 0) (by decide) (by decide)
  unfold nvN
  split <;> omega
/-- how many of d places from x on -/
def ckR (P : Nat → Bool) : Nat → Nat → Nat
  | 0, _ => 0
  | d + 1, x => (if P x then 1 else 0) + ckR P d (x + 1)
def mnR (V : Nat → Nat) : Nat → Nat → Nat → Nat
  | 0, _, l => l
  | d + 1, x, l => mnR V d (x + 1) (if V x < l then V x else l)
theorem mnR_le (V : Nat → Nat) : ∀ d x l, mnR V d x l ≤ l
  | 0, _, _ => Nat.le_refl _
  | d + 1, x, l => Nat.le_trans (mnR_le V d (x + 1) _) (by split <;> omega)
/-- least and how many, in one go -/
def mmR (V : Nat → Nat) : Nat → Nat → Nat × Nat → Nat × Nat
  | 0, _, s => s
  | d + 1, x, s => mmR V d (x + 1) (if V x = s.1 then (s.1, s.2 + 1) else if V x < s.1 then (V x, 1) else s)
theorem mmR_e (V : Nat → Nat) : ∀ d x (s : Nat × Nat), (mmR V d x s).1 = mnR V d x s.1 ∧ (mmR V d x s).2 = (if mnR V d x s.1 = s.1 then s.2 else 0) + ckR (fun y => decide (V y = mnR V d x s.1)) d x
  | 0, x, s => ⟨rfl, by show s.2 = (if s.1 = s.1 then s.2 else 0) + 0; rw [if_pos rfl]; rfl⟩
  | d + 1, x, s => by
    have key : ∀ a b, (mmR V d (x + 1) (a, b)).1 = mnR V d (x + 1) a ∧ (mmR V d (x + 1) (a, b)).2 = (if mnR V d (x + 1) a = a then b else 0) + ckR (fun y => decide (V y = mnR V d (x + 1) a)) d (x + 1) := fun a b => mmR_e V d (x + 1) (a, b)
    show (mmR V d (x + 1) (if V x = s.1 then (s.1, s.2 + 1) else if V x < s.1 then (V x, 1) else s)).1 = mnR V d (x + 1) (if V x < s.1 then V x else s.1) ∧ (mmR V d (x + 1) (if V x = s.1 then (s.1, s.2 + 1) else if V x < s.1 then (V x, 1) else s)).2 = (if mnR V d (x + 1) (if V x < s.1 then V x else s.1) = s.1 then s.2 else 0) + ((if decide (V x = mnR V d (x + 1) (if V x < s.1 then V x else s.1)) = true then 1 else 0) + ckR (fun y => decide (V y = mnR V d (x + 1) (if V x < s.1 then V x else s.1))) d (x + 1))
    by_cases c1 : V x = s.1
    · rw [if_pos c1, if_neg (by omega)]
      obtain ⟨k1, k2⟩ := key s.1 (s.2 + 1)
      refine ⟨k1, ?_⟩
      rw [k2]
      show (if mnR V d (x + 1) s.1 = s.1 then s.2 + 1 else 0) + _ = _
      by_cases c2 : mnR V d (x + 1) s.1 = s.1
      · rw [if_pos c2, if_pos c2, if_pos (decide_eq_true (by rw [c2]; exact c1))]
        omega
      · rw [if_neg c2, if_neg c2, if_neg (by rw [decide_eq_true_eq, c1]; exact fun e => c2 e.symm)]
        omega
    · rw [if_neg c1]
      by_cases c3 : V x < s.1
      · rw [if_pos c3, if_pos c3]
        obtain ⟨k1, k2⟩ := key (V x) 1
        have hl := mnR_le V d (x + 1) (V x)
        refine ⟨k1, ?_⟩
        rw [k2, if_neg (show ¬ mnR V d (x + 1) (V x) = s.1 by omega)]
        show (if mnR V d (x + 1) (V x) = V x then 1 else 0) + _ = _
        by_cases c2 : mnR V d (x + 1) (V x) = V x
        · rw [if_pos c2, if_pos (decide_eq_true c2.symm)]
          omega
        · rw [if_neg c2, if_neg (by rw [decide_eq_true_eq]; exact fun e => c2 e.symm)]
          omega
      · rw [if_neg c3, if_neg c3]
        obtain ⟨k1, k2⟩ := key s.1 s.2
        have hl := mnR_le V d (x + 1) s.1
        refine ⟨k1, ?_⟩
        rw [k2, if_neg (show ¬ decide (V x = mnR V d (x + 1) s.1) = true by rw [decide_eq_true_eq]; omega), Nat.zero_add]
theorem mm_cnt (V : Nat → Nat) : ∀ t, (mmR V t 1 (V 0, 1)).1 = mnR V t 1 (V 0) ∧ (mmR V t 1 (V 0, 1)).2 = ckR (fun y => decide (V y = mnR V t 1 (V 0))) (t + 1) 0 := fun t => by
  obtain ⟨h1, h2⟩ := mmR_e V t 1 (V 0, 1)
  refine ⟨h1, h2.trans ?_⟩
  show (if mnR V t 1 (V 0) = V 0 then 1 else 0) + ckR (fun y => decide (V y = mnR V t 1 (V 0))) t 1 = (if decide (V 0 = mnR V t 1 (V 0)) = true then 1 else 0) + ckR (fun y => decide (V y = mnR V t 1 (V 0))) t 1
  by_cases c : mnR V t 1 (V 0) = V 0
  · rw [if_pos c, if_pos (decide_eq_true c.symm)]
  · rw [if_neg c, if_neg (by rw [decide_eq_true_eq]; exact fun e => c e.symm)]
theorem snR_m1 {P : Nat → Bool} : ∀ d x s, x + d < 2 ^ 20 → s ≤ x → snR P (-1) d x s = nI (s + ckR P d x)
  | 0, x, s, _, _ => by
    show (if (-1 : Int32) = -1 then nI s else -1) = nI (s + 0)
    rw [if_pos rfl, Nat.add_zero]
  | d + 1, x, s, h, hs => by
    show (if P x then (if nI s = (-1 : Int32) then nI x else snR P (-1) d (x + 1) (s + 1)) else snR P (-1) d (x + 1) s) = nI (s + ((if P x then 1 else 0) + ckR P d (x + 1)))
    by_cases c : P x = true
    · rw [if_pos c, if_pos c, if_neg (nI_nm1 (by omega)), snR_m1 d (x + 1) (s + 1) (by omega) (by omega), Nat.add_assoc]
    · rw [if_neg c, if_neg c, snR_m1 d (x + 1) s (by omega) (by omega), Nat.zero_add]
theorem ckR_le (P : Nat → Bool) : ∀ d x, ckR P d x ≤ d
  | 0, _ => Nat.le_refl _
  | d + 1, x => by
    have := ckR_le P d (x + 1)
    show (if P x then 1 else 0) + _ ≤ _
    split <;> omega
section C7
variable {F : Nat} {g : Hp} {st : RS} {h : HS}
section CL
variable {f : Hp} {T D sX s o : Nat} {tl lf : Int32} {ll : Int64}
theorem copyRow (H : HAt f T s h) (ok : okH h) {d : Nat} (hd : d < (hC h).length) {β : Type} {K : Option Nat → Option β} : ((gR f (some T) 3 2).bind fun x => (ldR f 4 x (nI d)).bind K) = K (some (T + 13 + d)) := by
  have h10 := ok.2.1
  obtain ⟨q, a2, b2⟩ := H.2.1
  rw [bd_e (gR_s H.1 rfl), bd_e (ldR_e a2 (by omega) (by omega)), b2 d (by omega)]
theorem ffa_L (K : KAt f T D sX tl lf ll) (H : HAt f T s h) (ok : okH h) (O : OAt f o (hN h)) {x : Nat} (hx : x < fct (hN h)) (how : Int32) : ∀ (d c w : Nat) (q : Nat × Nat), c + d = (hC h).length → d < w → q.1 ≤ 42 * c → q.2 ≤ 42 → m_X11_farFromAll_L9 F w (some 100) (some o) (nI x) how (nI q.1) (nI q.2) (nI c) f = some (if how = 0 then nI (fsR h (unrk (hN h) x) d c q).1 else nI (fsR h (unrk (hN h) x) d c q).2) := by
  have h7 := ok.1.2
  have h10 := ok.2.1
  intro d
  induction d with
  | zero =>
    intro c w q hc hw h1 h2
    obtain ⟨w, rfl⟩ : ∃ j, w = j + 1 := ⟨w - 1, by omega⟩
    show m_X11_farFromAll_b9 F _ _ _ _ _ _ _ _ _ = _
    unfold m_X11_farFromAll_b9 m_X11_farFromAll_B67
    rw [bd_e (gR_s K rfl), bd_e (gI_e H.1 rfl), if_pos (nI_le (by omega) (by omega))]
    show _ = some (if how = 0 then nI q.1 else nI q.2)
    by_cases e : how = 0
    · rw [if_pos e, if_pos e]
    · rw [if_neg e, if_neg e]
  | succ d ih =>
    intro c w q hc hw h1 h2
    obtain ⟨w, rfl⟩ : ∃ j, w = j + 1 := ⟨w - 1, by omega⟩
    have hcl : c < (hC h).length := by omega
    obtain ⟨-, hA, hA2, -⟩ := ok.2.2.1 _ (List.getElem_mem hcl)
    have ef : m_X6_farTo F (some o) (nI x) (some (T + 13 + c)) f = some (nI (frr (unrk (hN h) x) (cL h c))) := by
      rw [cL_e hcl]
      exact ofarTo_e O h7 hx hA.2 hA2 (H.copy hcl)
    have hf := frr_le (unrk (hN h) x) (cL h c)
    have i1 := ih (c + 1) w (q.1 + frr (unrk (hN h) x) (cL h c), if q.2 < frr (unrk (hN h) x) (cL h c) then frr (unrk (hN h) x) (cL h c) else q.2) (by omega) (by omega) (show q.1 + _ ≤ _ by omega) (by show (if _ then _ else _) ≤ 42; split <;> omega)
    show m_X11_farFromAll_b9 F _ _ _ _ _ _ _ _ _ = _
    unfold m_X11_farFromAll_b9
    rw [bd_e (gR_s K rfl), bd_e (gI_e H.1 rfl), if_neg (nI_ge hcl (by omega)), if_neg (lim10 (by omega)), bd_e (gR_s K rfl), copyRow H ok hcl, ck_e O.O, bd_e ef, nm_e2, nm_e2, nm_e2, nI_add, nI_1]
    have em : imax (nI q.2) (nI (frr (unrk (hN h) x) (cL h c))) = nI (if q.2 < frr (unrk (hN h) x) (cL h c) then frr (unrk (hN h) x) (cL h c) else q.2) := by
      unfold imax
      by_cases e : q.2 < frr (unrk (hN h) x) (cL h c)
      · rw [if_pos (nI_lt e (by omega)), if_pos e]
      · rw [if_neg (nI_nlt (by omega) (by omega)), if_neg e]
    rw [em]
    exact i1
theorem ffa_e (K : KAt f T D sX tl lf ll) (H : HAt f T s h) (ok : okH h) (O : OAt f o (hN h)) (hF : 16 ≤ F) {x : Nat} (hx : x < fct (hN h)) (how : Int32) : m_X11_farFromAll F (some 100) (some o) (nI x) how f = some (nI (nvN h how (unrk (hN h) x))) := by
  have h10 := ok.2.1
  have := ffa_L (F := F) K H ok O hx how (hC h).length 0 F (0, 0) (by omega) (by omega) (by decide) (by decide)
  unfold m_X11_farFromAll nvN
  refine this.trans ?_
  by_cases e : how = 0
  · rw [if_pos e, if_pos e]
  · rw [if_neg e, if_neg e]
theorem near_83 (K : KAt f T D sX tl lf ll) (H : HAt f T s h) (ok : okH h) (O : OAt f o (hN h)) (hF : 16 ≤ F) (how k : Int32) {l : Nat} (hl : l < 2 ^ 20) (n z : Nat) : ∀ (d x w q : Nat), x + d = fct (hN h) → d < w → m_X11_nearest_L83 F w (some 100) how k (some o) (nI l) (nI q) (nI x) f n z = some (snR (fun x => decide (nvN h how (unrk (hN h) x) = l)) k d x q, f, n, z) := by
  have h7 := ok.1.2
  have h5 := fct_le (hN h) (by omega)
  intro d
  induction d with
  | zero =>
    intro x w q hx hw
    obtain ⟨w, rfl⟩ : ∃ j, w = j + 1 := ⟨w - 1, by omega⟩
    show m_X11_nearest_b83 F _ _ _ _ _ _ _ _ _ _ _ = some (if k = -1 then nI q else -1, f, n, z)
    unfold m_X11_nearest_b83 m_X11_nearest_B123
    rw [bd_e O.total, if_pos (nI_le (by omega) (by omega))]
    by_cases c : k = -1
    · rw [if_pos c, if_pos c]
    · rw [if_neg c, if_neg c]
  | succ d ih =>
    intro x w q hx hw
    obtain ⟨w, rfl⟩ : ∃ j, w = j + 1 := ⟨w - 1, by omega⟩
    have hxl : x < fct (hN h) := by omega
    have hv := nvN_le ok how (unrk (hN h) x)
    show m_X11_nearest_b83 F _ _ _ _ _ _ _ _ _ _ _ = some (if decide (nvN h how (unrk (hN h) x) = l) = true then (if nI q = k then nI x else snR _ k d (x + 1) (q + 1)) else snR _ k d (x + 1) q, f, n, z)
    unfold m_X11_nearest_b83
    rw [bd_e O.total, if_neg (nI_ge hxl (by omega)), ck_e (isO_e K)]
    refine grow_r ?_
    rw [bd_e (ffa_e K H ok O hF hxl how)]
    by_cases c : nvN h how (unrk (hN h) x) = l
    · rw [if_pos (by rw [c]), if_pos (decide_eq_true c)]
      by_cases c2 : nI q = k
      · rw [if_pos c2, if_pos c2]
      · rw [if_neg c2, if_neg c2, nm_e2, nm_e2, nI_1, nI_1]
        exact ih (x + 1) w (q + 1) (by omega) (by omega)
    · rw [if_neg (fun e => c ((nI_eq (by omega) (by omega)).mp e)), if_neg (by rw [decide_eq_true_eq]; exact c), nm_e2, nI_1]
      exact ih (x + 1) w q (by omega) (by omega)
def nrV (k : Int32) (V : Nat → Nat) (t l : Nat) : Int32 := if k = -2 then nI l else snR (fun x => decide (V x = l)) k t 0 0
theorem near_38 (K : KAt f T D sX tl lf ll) (H : HAt f T s h) (ok : okH h) (O : OAt f o (hN h)) (hF : 5041 ≤ F) (how k : Int32) (n z : Nat) : ∀ (d x w l : Nat), x + d = fct (hN h) → d < w → l < 2 ^ 20 → m_X11_nearest_L38 F w (some 100) how k (some o) (nI l) (nI x) f n z = some (nrV k (fun x => nvN h how (unrk (hN h) x)) (fct (hN h)) (mnR (fun x => nvN h how (unrk (hN h) x)) d x l), f, n, z) := by
  have h7 := ok.1.2
  have h5 := fct_le (hN h) (by omega)
  intro d
  induction d with
  | zero =>
    intro x w l hx hw hl
    obtain ⟨w, rfl⟩ : ∃ j, w = j + 1 := ⟨w - 1, by omega⟩
    show m_X11_nearest_b38 F _ _ _ _ _ _ _ _ _ _ = some (nrV k _ _ l, f, n, z)
    unfold m_X11_nearest_b38 m_X11_nearest_B68 nrV
    rw [bd_e O.total, if_pos (nI_le (by omega) (by omega))]
    by_cases c : k = -2
    · rw [if_pos c, if_pos c]
    · rw [if_neg c, if_neg c]
      exact near_83 K H ok O (by omega) how k hl n z (fct (hN h)) 0 F 0 (by omega) (by omega)
  | succ d ih =>
    intro x w l hx hw hl
    obtain ⟨w, rfl⟩ : ∃ j, w = j + 1 := ⟨w - 1, by omega⟩
    have hxl : x < fct (hN h) := by omega
    have hv := nvN_le ok how (unrk (hN h) x)
    show m_X11_nearest_b38 F _ _ _ _ _ _ _ _ _ _ = some (nrV k _ _ (mnR _ d (x + 1) (if nvN h how (unrk (hN h) x) < l then nvN h how (unrk (hN h) x) else l)), f, n, z)
    unfold m_X11_nearest_b38
    rw [bd_e O.total, if_neg (nI_ge hxl (by omega)), ck_e (isO_e K)]
    refine grow_r ?_
    rw [bd_e (ffa_e K H ok O (by omega) hxl how)]
    refine grow_r ?_
    rw [nm_e2, nm_e2, nI_1]
    have em : imin (nI l) (nI (nvN h how (unrk (hN h) x))) = nI (if nvN h how (unrk (hN h) x) < l then nvN h how (unrk (hN h) x) else l) := by
      unfold imin
      by_cases e : nvN h how (unrk (hN h) x) < l
      · rw [if_pos (nI_lt e (by omega)), if_pos e]
      · rw [if_neg (nI_nlt (by omega) (by omega)), if_neg e]
    rw [em]
    exact ih (x + 1) w _ (by omega) (by omega) (by split <;> omega)
end CL
theorem rfo_L (N : NW (sA st 14) h) (ok : okH h) (hF : 16 ≤ F) {A : List Nat} (hA : okL A) (hA2 : ∀ y ∈ A, y < hN h) (pa : PL (sA st 26) A) (how : Int32) : ∀ (d c w : Nat) (q : Nat × Nat) (st' : RS), c + d = (hC h).length → d < w → q.1 ≤ 42 * c → q.2 ≤ 42 → Rs [27] st st' → ∃ st'', m_X12_farOf_L17 F w (some 179) how (nI q.1) (nI q.2) (nI c) (ov g st') = some (if how = 0 then nI (fsR h A d c q).1 else nI (fsR h A d c q).2, ov g st'') ∧ Rs [27] st st'' := by
  have h7 := ok.1.2
  have h10 := ok.2.1
  intro d
  induction d with
  | zero =>
    intro c w q st' hc hw h1 h2 C
    obtain ⟨w, rfl⟩ : ∃ j, w = j + 1 := ⟨w - 1, by omega⟩
    refine ⟨st', ?_, C⟩
    show m_X12_farOf_b17 F _ _ _ _ _ _ _ = some (if how = 0 then nI q.1 else nI q.2, _)
    unfold m_X12_farOf_b17 m_X12_farOf_B64
    rw [ck_e r_isO, bd_e (rcopies_e (by rw [C.A (by decide)]; exact N)), if_pos (nI_le (by omega) (by omega))]
    by_cases e : how = 0
    · rw [if_pos e, if_pos e]
    · rw [if_neg e, if_neg e]
  | succ d ih =>
    intro c w q st' hc hw h1 h2 C
    obtain ⟨w, rfl⟩ : ∃ j, w = j + 1 := ⟨w - 1, by omega⟩
    have hcl : c < (hC h).length := by omega
    obtain ⟨-, hB, hB2, -⟩ := ok.2.2.1 _ (List.getElem_mem hcl)
    have N' : NW (sA st' 14) h := by rw [C.A (by decide)]; exact N
    obtain ⟨s2, q2, r2, pb⟩ := rcopy27 (F := F) (g := g) (by omega) N' ok hcl
    have N2 : NW (sA s2 14) h := by rw [r2.A (by decide)]; exact N'
    have CC := C.trans r2
    have ef : m_X12_far F (some 179) (ov g s2) = some (nI (frr A (cL h c))) := by
      rw [cL_e hcl]
      exact rfar_e N2 h7 (by omega) hA hB hA2 hB2 (by rw [CC.A (by decide)]; exact pa) pb
    have hf := frr_le A (cL h c)
    obtain ⟨st'', i1, i2⟩ := ih (c + 1) w (q.1 + frr A (cL h c), if q.2 < frr A (cL h c) then frr A (cL h c) else q.2) s2 (by omega) (by omega) (show q.1 + _ ≤ _ by omega) (by show (if _ then _ else _) ≤ 42; split <;> omega) CC
    refine ⟨st'', ?_, i2⟩
    show m_X12_farOf_b17 F _ _ _ _ _ _ _ = some (if how = 0 then nI (fsR h A d (c + 1) (q.1 + frr A (cL h c), if q.2 < frr A (cL h c) then frr A (cL h c) else q.2)).1 else nI (fsR h A d (c + 1) (q.1 + frr A (cL h c), if q.2 < frr A (cL h c) then frr A (cL h c) else q.2)).2, _)
    unfold m_X12_farOf_b17
    rw [ck_e r_isO, bd_e (rcopies_e N'), if_neg (nI_ge hcl (by omega)), rR_27, bd_some, ck_e r_isO, bd_e q2, ck_e r_isO, bd_e ef, nm_e2, nI_add]
    by_cases e : q.2 < frr A (cL h c)
    · rw [if_neg (nI_ge e (by omega)), nm_e2, nI_1]
      rw [if_pos e] at i1 ⊢
      exact i1
    · rw [if_pos (nI_le (by omega) (by omega)), nm_e2, nI_1]
      rw [if_neg e] at i1 ⊢
      exact i1
theorem rfo_e (N : NW (sA st 14) h) (ok : okH h) (hF : 16 ≤ F) {x : Nat} (hx : x < fct (hN h)) (how : Int32) : ∃ st', m_X12_farOf F (some 179) (nI x) how (ov g st) = some (nI (nvN h how (unrk (hN h) x)), ov g st') ∧ Rs [24, 25, 26, 27] st st' := by
  have h10 := ok.2.1
  have h2 := ok.1.1
  have h7 := ok.1.2
  have hP := unrk_ok hx
  obtain ⟨s2, q2, r2, pa, -⟩ := rlay26 (F := F) (g := g) (by omega) N (by omega) h7 hx
  obtain ⟨s3, i1, i2⟩ := rfo_L (F := F) (g := g) (st := s2) (h := h) (by rw [r2.A (by decide)]; exact N) ok hF (hP.L h7) hP.2.1 pa how (hC h).length 0 F (0, 0) s2 (by omega) (by omega) (by decide) (by decide) (Rs.refl _ _)
  refine ⟨s3, ?_, (r2.mono (by simp)).trans (i2.mono (by simp))⟩
  unfold m_X12_farOf nvN
  rw [rR_26, bd_some, ck_e r_isO, bd_e q2]
  refine i1.trans ?_
  by_cases e : how = 0
  · rw [if_pos e, if_pos e]
  · rw [if_neg e, if_neg e]
theorem rnear_116 (N : NW (sA st 14) h) (ok : okH h) (hF : 16 ≤ F) (how : Int32) {k : Int32} (hk : k ≠ -1) {l : Nat} (hl : l < 2 ^ 20) : ∀ (d x w q : Nat) (st' : RS), x + d = fct (hN h) → d < w → Rs [24, 25, 26, 27] st st' → ∃ st'', m_X12_nearest_L116 F w (some 179) how k (nI l) (nI q) (nI x) (ov g st') = some (snR (fun x => decide (nvN h how (unrk (hN h) x) = l)) k d x q, ov g st'') ∧ Rs [24, 25, 26, 27] st st'' := by
  have hn2 := ok.1.1
  have h7 := ok.1.2
  have h5 := fct_le (hN h) (by omega)
  intro d
  induction d with
  | zero =>
    intro x w q st' hx hw C
    obtain ⟨w, rfl⟩ : ∃ j, w = j + 1 := ⟨w - 1, by omega⟩
    refine ⟨st', ?_, C⟩
    show m_X12_nearest_b116 F _ _ _ _ _ _ _ _ = some (if k = -1 then nI q else -1, _)
    unfold m_X12_nearest_b116
    rw [ck_e r_isO, bd_e (rorders_e (by rw [C.A (by decide)]; exact N) (by omega) h7 (by omega)), if_pos (nI_le (by omega) (by omega)), if_neg hk]
  | succ d ih =>
    intro x w q st' hx hw C
    obtain ⟨w, rfl⟩ : ∃ j, w = j + 1 := ⟨w - 1, by omega⟩
    have hxl : x < fct (hN h) := by omega
    have hv := nvN_le ok how (unrk (hN h) x)
    have N' : NW (sA st' 14) h := by rw [C.A (by decide)]; exact N
    obtain ⟨s2, q2, r2⟩ := rfo_e (F := F) (g := g) N' ok hF hxl how
    have CC := C.trans r2
    show ∃ st'', m_X12_nearest_b116 F _ _ _ _ _ _ _ _ = some (if decide (nvN h how (unrk (hN h) x) = l) = true then (if nI q = k then nI x else snR _ k d (x + 1) (q + 1)) else snR _ k d (x + 1) q, _) ∧ _
    unfold m_X12_nearest_b116
    rw [ck_e r_isO, bd_e (rorders_e N' (by omega) h7 (by omega)), if_neg (nI_ge hxl (by omega)), ck_e r_isO, bd2_e q2]
    by_cases c : nvN h how (unrk (hN h) x) = l
    · rw [if_pos (by rw [c]), if_pos (decide_eq_true c)]
      by_cases c2 : nI q = k
      · rw [if_pos c2, if_pos c2]
        exact ⟨s2, rfl, CC⟩
      · rw [if_neg c2, if_neg c2, nm_e2, nm_e2, nI_1, nI_1]
        exact ih (x + 1) w (q + 1) s2 (by omega) (by omega) CC
    · rw [if_neg (fun e => c ((nI_eq (by omega) (by omega)).mp e)), if_neg (by rw [decide_eq_true_eq]; exact c), nm_e2, nI_1]
      exact ih (x + 1) w q s2 (by omega) (by omega) CC
theorem rnear_41 (N : NW (sA st 14) h) (ok : okH h) (hF : 5041 ≤ F) (how k : Int32) : ∀ (d x w : Nat) (s : Nat × Nat) (st' : RS), x + d = fct (hN h) → d < w → s.1 < 2 ^ 20 → s.2 < 2 ^ 20 → s.2 ≤ x → Rs [24, 25, 26, 27] st st' → ∃ st'', m_X12_nearest_L41 F w (some 179) how k (nI s.1) (nI s.2) (nI x) (ov g st') = some (if k = -2 then nI (mmR (fun x => nvN h how (unrk (hN h) x)) d x s).1 else if k = -1 then nI (mmR (fun x => nvN h how (unrk (hN h) x)) d x s).2 else snR (fun y => decide (nvN h how (unrk (hN h) y) = (mmR (fun x => nvN h how (unrk (hN h) x)) d x s).1)) k (fct (hN h)) 0 0, ov g st'') ∧ Rs [24, 25, 26, 27] st st'' := by
  have hn2 := ok.1.1
  have h7 := ok.1.2
  have h5 := fct_le (hN h) (by omega)
  intro d
  induction d with
  | zero =>
    intro x w s st' hx hw h1 h2 hs2 C
    obtain ⟨w, rfl⟩ : ∃ j, w = j + 1 := ⟨w - 1, by omega⟩
    show ∃ st'', m_X12_nearest_b41 F _ _ _ _ _ _ _ _ = some (if k = -2 then nI s.1 else if k = -1 then nI s.2 else snR (fun y => decide (nvN h how (unrk (hN h) y) = s.1)) k (fct (hN h)) 0 0, _) ∧ _
    unfold m_X12_nearest_b41 m_X12_nearest_B94
    rw [ck_e r_isO, bd_e (rorders_e (by rw [C.A (by decide)]; exact N) (by omega) h7 (by omega)), if_pos (nI_le (by omega) (by omega))]
    by_cases c : k = -2
    · rw [if_pos c, if_pos c]
      exact ⟨st', rfl, C⟩
    · rw [if_neg c, if_neg c]
      by_cases c1 : k = -1
      · rw [if_pos c1, if_pos c1]
        exact ⟨st', rfl, C⟩
      · rw [if_neg c1, if_neg c1]
        exact rnear_116 N ok (by omega) how c1 h1 (fct (hN h)) 0 F 0 st' (by omega) (by omega) C
  | succ d ih =>
    intro x w s st' hx hw h1 h2 hs2 C
    obtain ⟨w, rfl⟩ : ∃ j, w = j + 1 := ⟨w - 1, by omega⟩
    have hxl : x < fct (hN h) := by omega
    have hv := nvN_le ok how (unrk (hN h) x)
    have N' : NW (sA st' 14) h := by rw [C.A (by decide)]; exact N
    obtain ⟨s2, q2, r2⟩ := rfo_e (F := F) (g := g) N' ok (by omega) hxl how
    have CC := C.trans r2
    show ∃ st'', m_X12_nearest_b41 F _ _ _ _ _ _ _ _ = some (if k = -2 then nI (mmR _ d (x + 1) (if nvN h how (unrk (hN h) x) = s.1 then (s.1, s.2 + 1) else if nvN h how (unrk (hN h) x) < s.1 then (nvN h how (unrk (hN h) x), 1) else s)).1 else if k = -1 then nI (mmR _ d (x + 1) (if nvN h how (unrk (hN h) x) = s.1 then (s.1, s.2 + 1) else if nvN h how (unrk (hN h) x) < s.1 then (nvN h how (unrk (hN h) x), 1) else s)).2 else snR (fun y => decide (nvN h how (unrk (hN h) y) = (mmR _ d (x + 1) (if nvN h how (unrk (hN h) x) = s.1 then (s.1, s.2 + 1) else if nvN h how (unrk (hN h) x) < s.1 then (nvN h how (unrk (hN h) x), 1) else s)).1)) k (fct (hN h)) 0 0, _) ∧ _
    unfold m_X12_nearest_b41 m_X12_nearest_B73
    rw [ck_e r_isO, bd_e (rorders_e N' (by omega) h7 (by omega)), if_neg (nI_ge hxl (by omega)), ck_e r_isO, bd2_e q2, if_neg (nI_nm1 (by omega))]
    by_cases c : nvN h how (unrk (hN h) x) = s.1
    · rw [if_pos (nI_le (by omega) (by omega)), if_pos (by rw [c]), if_pos c, nm_e2, nm_e2, nI_1, nI_1, c]
      exact ih (x + 1) w (s.1, s.2 + 1) s2 (by omega) (by omega) h1 (by have := hs2; show s.2 + 1 < _; omega) (by omega) CC
    · rw [if_neg c]
      by_cases c2 : nvN h how (unrk (hN h) x) < s.1
      · rw [if_pos (nI_le (by omega) (by omega)), if_neg (fun e => c ((nI_eq (by omega) (by omega)).mp e)), if_pos c2, nm_e2, nm_e2, nI_1]
        exact ih (x + 1) w (nvN h how (unrk (hN h) x), 1) s2 (by omega) (by omega) (show nvN _ _ _ < _ by omega) (show 1 < 2 ^ 20 by decide) (show 1 ≤ x + 1 by omega) CC
      · rw [if_neg (nI_ge (by omega) (by omega)), if_neg c2, nm_e2, nI_1]
        exact ih (x + 1) w s s2 (by omega) (by omega) h1 h2 (by omega) CC
theorem k_nearest (hF : 5041 ≤ F) (how k : Int32) : KA sk (m_X11_nearest F (some 100) how k) (m_X12_nearest F (some 179) how k) := by
  intro f n z st m C R
  obtain ⟨T, D, sT, sD, sX, tq, iq, C⟩ := C.x
  have K := C.2.1
  have H := C.2.2.2.1.1
  have ok := C.2.2.2.1.2.1
  have h2 := ok.1.1
  have h7 := ok.1.2
  have h10 := ok.2.1
  have h5 := fct_le (hN (mH m)) (by omega)
  have h0 := fct_pos (hN (mH m))
  have no : (∀ g, ∃ st', m_X12_nearest F (some 179) how k (ov g st) = some (-1, ov g st') ∧ RI st' m) → m_X11_nearest F (some 100) how k f n z = some (-1, f, n, z) → ∃ v f' n' z' m', m_X11_nearest F (some 100) how k f n z = some (v, f', n', z') ∧ n ≤ n' ∧ z ≤ z' ∧ (∀ a, 179 ≤ a → a < 204 → f' a = f a) ∧ CI sk f' n' z' m' ∧ ∀ g, ∃ st', m_X12_nearest F (some 179) how k (ov g st) = some (v, ov g st') ∧ RI st' m' := fun h1 h2 => ⟨-1, f, n, z, m, h2, Nat.le_refl _, Nat.le_refl _, fun _ _ _ => rfl, C.ci, h1⟩
  rcases outin (k := 2) (by omega) how with hw | ⟨hh, hk, rfl⟩
  · refine no (fun g => ?_) ?_
    · obtain ⟨s1, q1, B1⟩ := rbeg (F := F) (g := g) (by omega) R 0
      refine ⟨s1, ?_, B1.1⟩
      unfold m_X12_nearest
      rw [wI_0, bd_some, ck_e r_isO, bd_e q1, bd_e (risIn (k := 1) (M := 1) (by omega) rfl how), if_pos hw, if_pos rfl]
    · unfold m_X11_nearest
      by_cases q : how < 0
      · rw [if_pos q]
      · rw [if_neg q, if_pos]
        obtain ⟨j, hj, rfl⟩ := (i_cases how).resolve_left q
        rcases hw with hw | hw
        · exact absurd hw q
        · rcases Nat.lt_or_ge j 2 with q1 | q1
          · exact absurd hw (nI_ge q1 (by omega))
          · exact nI_lt (show 1 < j by omega) hj
  · by_cases hc : (hC (mH m)).length = 0
    · refine no (fun g => ?_) ?_
      · obtain ⟨s1, q1, B1⟩ := rbeg (F := F) (g := g) (by omega) R 0
        refine ⟨s1, ?_, B1.1⟩
        unfold m_X12_nearest
        rw [wI_0, bd_some, ck_e r_isO, bd_e q1, bd_e (risIn (k := 1) (M := 1) (by omega) rfl _), if_neg (inin (by omega) hk), if_neg (by decide), ck_e r_isO, bd_e (rcopies_e B1.2.2.1), if_pos (by rw [hc]; rfl)]
      · unfold m_X11_nearest
        rw [if_neg (nI_pos (by omega)), if_neg (show ¬ (1 : Int32) < nI hh from nI_nlt (a := 1) (by omega) (by omega)), bd_e (gR_s K rfl), bd_e (gI_e H.1 rfl), if_pos (by rw [hc]; rfl)]
    · obtain ⟨o, f', n', z', tq', e1, hn, hz, C', eo, O, ho, fr⟩ := orders_e (F := F) hF C
      have H' := C'.2.2.2.1.1
      have hv := nvN_le ok (nI hh) (unrk (hN (mH m)) 0)
      refine ⟨nrV k (fun x => nvN (mH m) (nI hh) (unrk (hN (mH m)) x)) (fct (hN (mH m))) (mnR (fun x => nvN (mH m) (nI hh) (unrk (hN (mH m)) x)) (fct (hN (mH m)) - 1) 1 (nvN (mH m) (nI hh) (unrk (hN (mH m)) 0))), f', n', z', m, ?_, hn, hz, fun a q1 q2 => fr a q2 (by omega), C'.ci, fun g => ?_⟩
      · unfold m_X11_nearest
        rw [if_neg (nI_pos (by omega)), if_neg (show ¬ (1 : Int32) < nI hh from nI_nlt (a := 1) (by omega) (by omega)), bd_e (gR_s K rfl), bd_e (gI_e H.1 rfl), if_neg (nI_ne0 (by omega) (by omega)), ck_e (isO_e K), bd4_e e1, ck_e (decide_eq_true ⟨hn, hz⟩)]
        refine grow_r ?_
        rw [ck_e (isO_e C'.2.1)]
        refine grow_r ?_
        rw [bd_e (show m_X11_farFromAll F (some 100) (some o) 0 (nI hh) f' = _ from ffa_e (x := 0) C'.2.1 H' ok O (by omega) h0 (nI hh))]
        exact near_38 C'.2.1 H' ok O hF (nI hh) k n' z' (fct (hN (mH m)) - 1) 1 F _ (by omega) (by omega) (by omega)
      · obtain ⟨s1, q1, B1⟩ := rbeg (F := F) (g := g) (by omega) R 0
        unfold m_X12_nearest
        rw [wI_0, bd_some, ck_e r_isO, bd_e q1, bd_e (risIn (k := 1) (M := 1) (by omega) rfl _), if_neg (inin (by omega) hk), if_neg (by decide), ck_e r_isO, bd_e (rcopies_e B1.2.2.1), if_neg (nI_ne0 (by omega) (by omega))]
        by_cases c2 : (-2 : Int32) ≤ k
        · rw [if_pos c2]
          obtain ⟨s2, q2, r2⟩ := rfo_e (F := F) (g := g) (x := 0) B1.2.2.1 ok (by omega) h0 (nI hh)
          have N2 : NW (sA s2 14) (mH m) := by rw [r2.A (by decide)]; exact B1.2.2.1
          obtain ⟨F', hF'⟩ : ∃ j, F = j + 1 := ⟨F - 1, by omega⟩
          obtain ⟨s3, i1, i2⟩ := rnear_41 (F := F) (g := g) N2 ok hF (nI hh) k (fct (hN (mH m)) - 1) 1 F' (nvN (mH m) (nI hh) (unrk (hN (mH m)) 0), 1) s2 (by omega) (by omega) (show nvN _ _ _ < _ by omega) (show 1 < 2 ^ 20 by decide) (Nat.le_refl _) (Rs.refl _ _)
          obtain ⟨m1, m2⟩ := mm_cnt (fun x => nvN (mH m) (nI hh) (unrk (hN (mH m)) x)) (fct (hN (mH m)) - 1)
          rw [show fct (hN (mH m)) - 1 + 1 = fct (hN (mH m)) by omega] at m2
          have hstart : m_X12_nearest_L41 F F (some 179) (nI hh) k (-1) 0 0 (ov g s1) = m_X12_nearest_L41 F F' (some 179) (nI hh) k (nI (nvN (mH m) (nI hh) (unrk (hN (mH m)) 0))) (nI 1) (nI 1) (ov g s2) := by
            conv => lhs; arg 2; rw [hF']
            show m_X12_nearest_b41 F _ _ _ _ _ _ _ _ = _
            unfold m_X12_nearest_b41 m_X12_nearest_B73
            rw [ck_e r_isO, bd_e (rorders_e B1.2.2.1 (by omega) h7 (by omega)), if_neg (show ¬ nI (fct (hN (mH m))) ≤ (0 : Int32) from nI_ge (a := 0) h0 (by omega)), ck_e r_isO, bd2_e (show m_X12_farOf F (some 179) 0 (nI hh) (ov g s1) = _ from q2), if_pos rfl, if_neg (nI_nm1 (by omega)), nm_e2, nm_e2]
            rfl
          rw [hstart]
          refine ⟨s3, i1.trans ?_, (B1.cg ((r2.trans i2).cg.mono (by simp) (by decide) (by simp))).1⟩
          rw [m1, m2]
          unfold nrV
          by_cases c : k = -2
          · rw [if_pos c, if_pos c]
          · rw [if_neg c, if_neg c]
            by_cases c1 : k = -1
            · rw [if_pos c1, c1, snR_m1 _ _ _ (by omega) (Nat.le_refl _), Nat.zero_add]
            · rw [if_neg c1]
        · rw [if_neg c2]
          have hlt := Int32.not_le.mp c2
          refine ⟨s1, ?_, B1.1⟩
          unfold nrV
          rw [if_neg (fun e => by rw [e] at hlt; exact absurd hlt (by decide)), snR_no (Int32.lt_trans hlt (by decide)) _ _ _ (by omega) (Nat.le_refl _)]
end C7
