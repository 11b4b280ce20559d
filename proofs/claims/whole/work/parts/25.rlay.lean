/-! the reference lays copies and orders in its rows -/
/-- nothing but these rows of ints has changed -/
def Rs (K : List Nat) (st st' : RS) : Prop := st'.1 = st.1 ∧ st'.2.1 = st.2.1 ∧ st'.2.2.2 = st.2.2.2 ∧ ∀ j, j ∉ K → sA st' j = sA st j
theorem Rs.refl (K : List Nat) (st : RS) : Rs K st st := ⟨rfl, rfl, rfl, fun _ _ => rfl⟩
theorem Rs.trans {K : List Nat} {a b c : RS} (h1 : Rs K a b) (h2 : Rs K b c) : Rs K a c := ⟨h2.1.trans h1.1, h2.2.1.trans h1.2.1, h2.2.2.1.trans h1.2.2.1, fun j hj => (h2.2.2.2 j hj).trans (h1.2.2.2 j hj)⟩
theorem Rs.mono {K K' : List Nat} {a b : RS} (h : Rs K a b) (hk : ∀ j, j ∈ K → j ∈ K') : Rs K' a b := ⟨h.1, h.2.1, h.2.2.1, fun j hj => h.2.2.2 j (fun q => hj (hk j q))⟩
theorem Rs.uA {K : List Nat} {a : RS} {k j : Nat} {x : Int32} (hk : k ∈ K) : Rs K a (uA a k j x) := ⟨rfl, rfl, rfl, fun i hi => by rw [sA_uA, if_neg (fun e : i = k => hi (e ▸ hk))]⟩
theorem Rs.I {K : List Nat} {a b : RS} (h : Rs K a b) (k : Nat) : sI b k = sI a k := by unfold sI; rw [h.1]
theorem Rs.J {K : List Nat} {a b : RS} (h : Rs K a b) (k : Nat) : sJ b k = sJ a k := by unfold sJ; rw [h.2.1]
theorem Rs.L {K : List Nat} {a b : RS} (h : Rs K a b) (k : Nat) : sL b k = sL a k := by unfold sL; rw [h.2.2.1]
theorem Rs.A {K : List Nat} {a b : RS} (h : Rs K a b) {k : Nat} (hk : k ∉ K) : sA b k = sA a k := h.2.2.2 k hk
theorem upd_s {f : Nat → Int32} {j : Nat} {x : Int32} : upd f j x j = x := by simp [upd]
theorem upd_n {f : Nat → Int32} {j i : Nat} {x : Int32} (h : i ≠ j) : upd f j x i = f i := by simp [upd, h]
def fct : Nat → Nat
  | 0 => 1
  | n + 1 => (n + 1) * fct n
theorem fct_pos : ∀ n, 0 < fct n
  | 0 => Nat.one_pos
  | n + 1 => Nat.mul_pos (Nat.succ_pos n) (fct_pos n)
theorem fct_le : ∀ n, n < 8 → fct n ≤ 5040 := by decide +kernel
theorem irm_e {a d : Nat} (ha : a < 2 ^ 31) (h0 : 0 < d) (hd : d < 2 ^ 31) : irm (nI a) (nI d) = nI (a % d) := pk_rem ha h0 hd
theorem has_e (F : Nat) (f : Hp) {m l : Nat} (hm : m < 2 ^ 31) (hl : l < 32) : m_X12_has F (nI m) (nI l) f = some (if m.testBit l then 1 else 0) := by
  unfold m_X12_has
  rw [nI_shr hm hl, show (1 : Int32) = nI 1 from rfl, nI_and, show m / 2 ^ l &&& 1 = (m.testBit l).toNat by rw [Nat.toNat_testBit]; exact Nat.and_one_is_mod _]
  cases m.testBit l
  · rw [if_neg (by decide), if_neg (by decide)]; rfl
  · rw [if_pos (by decide), if_pos rfl]; rfl
/-! the x-th order of N lines -/
def lft (N : Nat) (L : List Nat) : List Nat := (List.range N).filter (fun l => decide (l ∉ L))
def urk : Nat → Nat → List Nat → Nat → List Nat
  | 0, _, L, _ => L
  | n + 1, N, L, r => urk n N (L ++ [(lft N L).getD (r / fct n) 0]) (r % fct n)
def unrk (N x : Nat) : List Nat := urk N N [] x
theorem lft_nd (N : Nat) (L : List Nat) : (lft N L).Nodup := List.Pairwise.filter _ List.nodup_range
theorem lft_mem {N : Nat} {L : List Nat} {l : Nat} : l ∈ lft N L ↔ l < N ∧ l ∉ L := by simp [lft]
theorem lft_app (N : Nat) (L : List Nat) (t : Nat) : lft N (L ++ [t]) = (lft N L).erase t := by
  rw [(lft_nd N L).erase_eq_filter]
  unfold lft
  rw [List.filter_filter]
  apply List.filter_congr
  intro x _
  by_cases h1 : x ∈ L <;> by_cases h2 : x = t <;> simp [h1, h2]
theorem lft_len {N n : Nat} {L : List Nat} {t : Nat} (h : (lft N L).length = n + 1) (ht : t ∈ lft N L) : (lft N (L ++ [t])).length = n := by
  rw [lft_app, List.length_erase_of_mem ht, h]
  rfl
theorem getD_e {l : List Nat} {k : Nat} (h : k < l.length) : l.getD k 0 = l[k] := by
  rw [List.getD_eq_getElem?_getD, List.getElem?_eq_getElem h]
  rfl
theorem urk_ok : ∀ (n N : Nat) (L : List Nat) (r : Nat), L.Nodup → (∀ x ∈ L, x < N) → (lft N L).length = n → r < fct n → (urk n N L r).Nodup ∧ (∀ x ∈ urk n N L r, x < N) ∧ (urk n N L r).length = L.length + n := by
  intro n
  induction n with
  | zero => intro N L r h1 h2 _ _; exact ⟨h1, h2, rfl⟩
  | succ n ih =>
    intro N L r h1 h2 h3 h4
    have hf := fct_pos n
    have hk : r / fct n < (lft N L).length := by
      rw [h3]
      exact (Nat.div_lt_iff_lt_mul hf).mpr h4
    have hm : (lft N L).getD (r / fct n) 0 ∈ lft N L := by rw [getD_e hk]; exact List.getElem_mem hk
    obtain ⟨m1, m2⟩ := lft_mem.mp hm
    obtain ⟨i1, i2, i3⟩ := ih N (L ++ [(lft N L).getD (r / fct n) 0]) (r % fct n) (by
      rw [List.nodup_append]
      refine ⟨h1, by simp, fun a ha b hb => ?_⟩
      rw [List.mem_singleton] at hb
      subst hb
      exact fun e => m2 (e ▸ ha)) (by
      intro x hx
      rcases List.mem_append.mp hx with h | h
      · exact h2 x h
      · rw [List.mem_singleton] at h; subst h; exact m1) (lft_len h3 hm) (Nat.mod_lt _ hf)
    refine ⟨i1, i2, ?_⟩
    show (urk n N _ _).length = _
    rw [i3, List.length_append]
    simp
    omega
/-- a whole order of N lines -/
def okP (N : Nat) (L : List Nat) : Prop := L.Nodup ∧ (∀ x ∈ L, x < N) ∧ L.length = N
theorem lft_nil (N : Nat) : (lft N []).length = N := by
  have : lft N [] = List.range N := List.filter_eq_self.mpr (by simp)
  rw [this, List.length_range]
theorem unrk_ok {N x : Nat} (hx : x < fct N) : okP N (unrk N x) := by
  obtain ⟨h1, h2, h3⟩ := urk_ok N N [] x List.nodup_nil (by simp) (lft_nil N) hx
  exact ⟨h1, h2, h3.trans (Nat.zero_add N)⟩
theorem okP.L {N : Nat} {L : List Nat} (h : okP N L) (h7 : N ≤ 7) : okL L := ⟨fun x hx => Nat.lt_of_lt_of_le (h.2.1 x hx) h7, h.1⟩
theorem nd_full : ∀ (n : Nat) (L : List Nat), (∀ x ∈ L, x < n) → L.Nodup → L.length = n → ∀ l, l < n → l ∈ L := by
  intro n L h1 h2 h3 l hl
  apply Classical.byContradiction
  intro hn
  have h4 : ∀ x ∈ L ++ [l], x < n := by
    intro x hx
    rcases List.mem_append.mp hx with h | h
    · exact h1 x h
    · rw [List.mem_singleton] at h; subst h; exact hl
  have h5 : (L ++ [l]).Nodup := by
    rw [List.nodup_append]
    refine ⟨h2, by simp, fun a ha b hb => ?_⟩
    rw [List.mem_singleton] at hb
    subst hb
    exact fun e => hn (e ▸ ha)
  have h6 := nd_le n _ h4 h5
  rw [List.length_append] at h6
  simp at h6
  omega
theorem okP.mem {N : Nat} {L : List Nat} (h : okP N L) {l : Nat} (hl : l < N) : l ∈ L := nd_full N L h.2.1 h.1 h.2.2 l hl
theorem clr_k : ∀ m, m < 128 → ∀ t, t < 7 → nI m &&& (((1 : Int32) <<< (nI t &&& 31)) ^^^ (-1 : Int32)) = nI (m &&& (127 ^^^ 2 ^ t)) := by decide +kernel
theorem clr_b {P : Nat → Bool} {t : Nat} (ht : t < 7) : nI (bitsOf 7 P) &&& (((1 : Int32) <<< (nI t &&& 31)) ^^^ (-1 : Int32)) = nI (bitsOf 7 (fun l => P l && !(l == t))) := by
  rw [clr_k _ (bitsOf_lt 7 P) t ht]
  congr 1
  refine bitsOf_eq (Nat.lt_of_le_of_lt Nat.and_le_left (bitsOf_lt 7 P)) (fun i hi => ?_)
  have h127 : (127 : Nat).testBit i = true := by
    rw [show (127 : Nat) = 2 ^ 7 - 1 from rfl, Nat.testBit_two_pow_sub_one]
    exact decide_eq_true hi
  rw [Nat.testBit_and, bitsOf_test, Nat.testBit_xor, h127, Nat.testBit_two_pow]
  by_cases h : i = t
  · subst h; simp [hi]
  · simp [hi, h, Ne.symm h]
section RLAY
variable {F : Nat} {g : Hp} {st : RS} {h : HS}
theorem rorders_L (N : NW (sA st 14) h) (h7 : hN h ≤ 7) : ∀ (d j k : Nat), j + d = hN h → d < k → m_X12_orders_L4 F k (some 179) (nI (fct j)) (nI (j + 1)) (ov g st) = some (nI (fct (hN h))) := by
  intro d
  induction d with
  | zero =>
    intro j k hj hk
    obtain ⟨k, rfl⟩ : ∃ i, k = i + 1 := ⟨k - 1, by omega⟩
    show m_X12_orders_b4 F _ _ _ _ _ = _
    unfold m_X12_orders_b4
    rw [ck_e r_isO, bd_e (rlines_e N), if_pos (nI_lt (by omega) (by omega)), show j = hN h by omega]
  | succ d ih =>
    intro j k hj hk
    obtain ⟨k, rfl⟩ : ∃ i, k = i + 1 := ⟨k - 1, by omega⟩
    show m_X12_orders_b4 F _ _ _ _ _ = _
    unfold m_X12_orders_b4
    rw [ck_e r_isO, bd_e (rlines_e N), if_neg (nI_nlt (by omega) (by omega)), nm_e2, nm_e2, nI_mul, nI_1, show fct j * (j + 1) = fct (j + 1) from Nat.mul_comm _ _]
    exact ih (j + 1) k (by omega) (by omega)
theorem rorders_e (N : NW (sA st 14) h) (h2 : 1 ≤ hN h) (h7 : hN h ≤ 7) (hF : 8 ≤ F) : m_X12_orders F (some 179) (ov g st) = some (nI (fct (hN h))) :=
  rorders_L (F := F) (g := g) N h7 (hN h - 1) 1 F (by omega) (by omega)
theorem risOrder_e (N : NW (sA st 14) h) (h2 : 1 ≤ hN h) (h7 : hN h ≤ 7) (hF : 8 ≤ F) (x : Int32) : m_X12_isOrder F (some 179) x (ov g st) = some (if x < 0 ∨ nI (fct (hN h)) ≤ x then 0 else 1) := by
  unfold m_X12_isOrder
  by_cases h0 : x < 0
  · rw [if_pos h0, if_pos (Or.inl h0)]; rfl
  · rw [if_neg h0, ck_e r_isO, bd_e (rorders_e N h2 h7 hF)]
    by_cases h1 : nI (fct (hN h)) ≤ x
    · rw [if_pos h1, if_pos (Or.inr h1)]; rfl
    · rw [if_neg h1, if_neg (fun h => h.elim h0 h1)]; rfl
/-- the scan for the k-th line that is left -/
theorem lay_scan {N : Nat} (h7 : N ≤ 7) {P : Nat → Bool} (hP : ∀ l, l < 7 → P l = true → l < N) {rc : Option Nat → Int32 → Int32 → Int32 → Int32 → Hp → Option Hp} {v3 v4 v5 : Int32} {f : Hp} {t : Nat} : ∀ (d l k z : Nat), l + d = N → k < 2 ^ 31 → ((List.range' l d).filter P)[k]? = some t → d < z → m_X12_lay__L55 F rc z (some 179) (nI (bitsOf 7 P)) v3 v4 v5 (nI k) (nI l) f = m_X12_lay__B87 F rc (some 179) (nI (bitsOf 7 P)) v3 v4 v5 (nI t) f := by
  have hb : bitsOf 7 P < 2 ^ 31 := Nat.lt_trans (bitsOf_lt 7 P) (by decide)
  intro d
  induction d with
  | zero => intro l k z _ _ hk; simp at hk
  | succ d ih =>
    intro l k z hl hk31 hk hz
    obtain ⟨z, rfl⟩ : ∃ j, z = j + 1 := ⟨z - 1, by omega⟩
    have hl7 : l < 7 := by omega
    have hh : m_X12_has F (nI (bitsOf 7 P)) (nI l) f = some (if P l then 1 else 0) := by
      rw [has_e F f hb (by omega), bitsOf_test, decide_eq_true hl7, Bool.true_and]
    rw [List.range'_succ] at hk
    show m_X12_lay__b55 F _ _ _ _ _ _ _ _ _ _ = _
    unfold m_X12_lay__b55
    by_cases hp : P l = true
    · rw [List.filter_cons_of_pos hp] at hk
      by_cases k0 : k = 0
      · subst k0
        rw [if_neg (show ¬ (0 : Int32) < nI 0 by decide), bd_e hh, if_pos hp, if_neg (by decide)]
        have : l = t := by simpa using hk
        rw [this]
      · obtain ⟨k, rfl⟩ : ∃ j, k = j + 1 := ⟨k - 1, by omega⟩
        rw [if_pos (show (0 : Int32) < nI (k + 1) from nI_lt (a := 0) (by omega) (by omega))]
        unfold m_X12_lay__B69
        rw [bd_e hh, if_pos hp, if_neg (by decide), nm_e2, nm_e2, nI_1]
        have e1 : nI (k + 1) + (-1 : Int32) = nI k := by
          rw [← nI_1, Int32.add_assoc, show (1 : Int32) + (-1 : Int32) = 0 from rfl, Int32.add_zero]
        rw [e1]
        exact ih (l + 1) k z (by omega) (by omega) (by simpa using hk) (by omega)
    · rw [List.filter_cons_of_neg hp] at hk
      have hs : m_X12_lay__B69 F rc (m_X12_lay__L55 F rc z) (some 179) (nI (bitsOf 7 P)) v3 v4 v5 (nI k) (nI l) f = m_X12_lay__B87 F rc (some 179) (nI (bitsOf 7 P)) v3 v4 v5 (nI t) f := by
        unfold m_X12_lay__B69
        rw [bd_e hh, if_neg hp, if_pos rfl, nm_e2, nI_1]
        exact ih (l + 1) k z (by omega) hk31 hk (by omega)
      by_cases k0 : (0 : Int32) < nI k
      · rw [if_pos k0]; exact hs
      · rw [if_neg k0, bd_e hh, if_neg hp, if_pos rfl]; exact hs
/-- the rows hold the lines of L and their places -/
def LY (st : RS) (L : List Nat) : Prop := ∀ i (hi : i < L.length), sA st 24 i = nI L[i] ∧ sA st 25 L[i] = nI i
def lfB (N : Nat) (L : List Nat) (l : Nat) : Bool := decide (l < N) && decide (l ∉ L)
theorem lfB_range {N : Nat} {L : List Nat} : (List.range' 0 N).filter (lfB N L) = lft N L := by
  rw [← List.range_eq_range']
  apply List.filter_congr
  intro x hx
  have := List.mem_range.mp hx
  simp [lfB, this]
theorem rlay_L (N : NW (sA st 14) h) (h7 : hN h ≤ 7) (hF : 8 ≤ F) : ∀ (n i k : Nat) (L : List Nat) (r : Nat) (st' : RS), i + n = hN h → n < k → L.length = i → L.Nodup → (∀ x ∈ L, x < hN h) → (lft (hN h) L).length = n → r < fct n → Rs [24, 25] st st' → LY st' L →
    ∃ st'', m_X12_lay__L20 F k (some 179) (nI (bitsOf 7 (lfB (hN h) L))) (nI r) (nI (fct n)) (nI i) (ov g st') = some (ov g st'') ∧ Rs [24, 25] st st'' ∧ LY st'' (urk n (hN h) L r) := by
  intro n
  induction n with
  | zero =>
    intro i k L r st' hi hk hL _ _ _ _ hs hY
    obtain ⟨k, rfl⟩ : ∃ i, k = i + 1 := ⟨k - 1, by omega⟩
    refine ⟨st', ?_, hs, hY⟩
    show m_X12_lay__b20 F _ _ _ _ _ _ _ = _
    unfold m_X12_lay__b20
    rw [ck_e r_isO, bd_e (rlines_e (by rw [hs.A (by decide)]; exact N)), if_pos (nI_le (by omega) (by omega))]
  | succ n ih =>
    intro i k L r st' hi hk hL hnd hlt hlen hr hs hY
    obtain ⟨k, rfl⟩ : ∃ i, k = i + 1 := ⟨k - 1, by omega⟩
    have N' : NW (sA st' 14) h := by rw [hs.A (by decide)]; exact N
    have hf := fct_pos n
    have hf2 := fct_le n (by omega)
    have hf3 : fct (n + 1) ≤ 5040 := fct_le (n + 1) (by omega)
    have hk' : r / fct n < (lft (hN h) L).length := by
      rw [hlen]
      exact (Nat.div_lt_iff_lt_mul hf).mpr hr
    have hm : (lft (hN h) L).getD (r / fct n) 0 ∈ lft (hN h) L := by rw [getD_e hk']; exact List.getElem_mem hk'
    obtain ⟨m1, m2⟩ := lft_mem.mp hm
    have hsc : ((List.range' 0 (hN h)).filter (lfB (hN h) L))[r / fct n]? = some ((lft (hN h) L).getD (r / fct n) 0) := by
      rw [lfB_range, getD_e hk', List.getElem?_eq_getElem hk']
    generalize ht : (lft (hN h) L).getD (r / fct n) 0 = t at *
    have hrn : r / fct n ≤ r := Nat.div_le_self _ _
    have e1 : nI (hN h) - nI i = nI (n + 1) := by rw [nI_sub (by omega)]; congr 1; omega
    have e2 : nI (fct (n + 1)) / nI (n + 1) = nI (fct n) := by
      rw [pk_div (by omega) (by omega) (by omega), show fct (n + 1) / (n + 1) = fct n from Nat.mul_div_cancel_left _ (by omega)]
    have hsc2 := lay_scan (F := F) (N := hN h) h7 (P := lfB (hN h) L) (fun l _ hl => by simp [lfB] at hl; exact hl.1) (rc := m_X12_lay__L20 F k) (v3 := nI (r % fct n)) (v4 := nI (fct n)) (v5 := nI i) (f := ov g st') (hN h) 0 (r / fct n) F (by omega) (by omega) hsc (by omega)
    have hgo : m_X12_lay__L20 F (k + 1) (some 179) (nI (bitsOf 7 (lfB (hN h) L))) (nI r) (nI (fct (n + 1))) (nI i) (ov g st') = m_X12_lay__L20 F k (some 179) (nI (bitsOf 7 (lfB (hN h) (L ++ [t])))) (nI (r % fct n)) (nI (fct n)) (nI (i + 1)) (ov g (uA (uA st' 24 i (nI t)) 25 t (nI i))) := by
      show m_X12_lay__b20 F _ _ _ _ _ _ _ = _
      unfold m_X12_lay__b20
      rw [ck_e r_isO, bd_e (rlines_e N'), if_neg (nI_ge (by omega) (by omega)), ck_e r_isO, bd_e (rlines_e N'), e1, ck_e (decide_eq_true (nI_ne0 (by omega) (by omega))), nm_e2, e2, ck_e (decide_eq_true (nI_ne0 hf (by omega))), nm_e2, ck_e (decide_eq_true (nI_ne0 hf (by omega))), nm_e2, pk_div (by omega) hf (by omega), irm_e (by omega) hf (by omega)]
      refine hsc2.trans ?_
      unfold m_X12_lay__B87
      rw [nm_e2, clr_b (by omega), rR_24, bd_some, wE_24 (by omega), bd_some, rR_25, bd_some, wE_25 (by omega), bd_some, nm_e2, nI_1]
      congr 2
      refine bitsOf_ext (fun l _ => ?_)
      unfold lfB
      by_cases q1 : l ∈ L <;> by_cases q2 : l = t <;> simp [q1, q2]
    rw [hgo]
    show ∃ st'', _ ∧ _ ∧ LY st'' (urk n (hN h) (L ++ [(lft (hN h) L).getD (r / fct n) 0]) (r % fct n))
    rw [ht]
    refine ih (i + 1) k (L ++ [t]) (r % fct n) _ (by omega) (by omega) (by simp [hL]) ?_ ?_ (lft_len hlen hm) (Nat.mod_lt _ hf) ((hs.trans (Rs.uA (by decide))).trans (Rs.uA (by decide))) ?_
    · rw [List.nodup_append]
      refine ⟨hnd, by simp, fun a ha b hb => ?_⟩
      rw [List.mem_singleton] at hb
      subst hb
      exact fun e => m2 (e ▸ ha)
    · intro x hx
      rcases List.mem_append.mp hx with h | h
      · exact hlt x h
      · rw [List.mem_singleton] at h; subst h; exact m1
    · intro j hj
      rw [List.length_append, List.length_singleton] at hj
      rw [sA_uA, if_neg (by decide), sA_uA, if_pos rfl, sA_uA, if_pos rfl, sA_uA, if_neg (by decide)]
      by_cases e : j < L.length
      · rw [List.getElem_append_left e, upd_n (by omega), upd_n (fun q : L[j] = t => m2 (q ▸ List.getElem_mem e))]
        exact hY j e
      · have : j = L.length := by omega
        subst this
        rw [List.getElem_append_right (Nat.le_refl _)]
        simp only [Nat.sub_self, List.getElem_cons_zero]
        rw [← hL, upd_s, upd_s]
        exact ⟨rfl, rfl⟩
theorem all_k : ∀ n, n < 8 → ((1 : Int32) <<< (nI n &&& 31)) - (1 : Int32) = nI (bitsOf 7 (lfB n [])) := by decide +kernel
theorem rlay_e (N : NW (sA st 14) h) (h2 : 1 ≤ hN h) (h7 : hN h ≤ 7) (hF : 8 ≤ F) {x : Nat} (hx : x < fct (hN h)) : ∃ st', m_X12_lay_ F (some 179) (nI x) (ov g st) = some (ov g st') ∧ Rs [24, 25] st st' ∧ LY st' (unrk (hN h) x) := by
  unfold m_X12_lay_
  rw [ck_e r_isO, bd_e (rlines_e N), nm_e2, ck_e r_isO, bd_e (rorders_e N h2 h7 hF), all_k _ (by omega)]
  exact rlay_L (F := F) (g := g) N h7 hF (hN h) 0 F [] x st (by omega) (by omega) rfl List.nodup_nil (by simp) (lft_nil _) hx (Rs.refl _ _) (fun i hi => absurd hi (Nat.not_lt_zero _))
end RLAY
