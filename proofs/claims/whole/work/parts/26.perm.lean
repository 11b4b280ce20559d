/-! orders and their numbers -/
/-- how many of T are below m -/
def blw (m : Nat) (T : List Nat) : Nat := T.countP (fun t => decide (t < m))
def rkT : List Nat → Nat
  | [] => 0
  | m :: T => blw m T * fct T.length + rkT T
theorem blw_le (m : Nat) (T : List Nat) : blw m T ≤ T.length := List.countP_le_length
theorem rkT_lt (T : List Nat) : rkT T < fct T.length := by
  induction T with
  | nil => exact Nat.one_pos
  | cons m T ih =>
    have h1 := blw_le m T
    show blw m T * fct T.length + rkT T < (T.length + 1) * fct T.length
    have h2 : blw m T * fct T.length ≤ T.length * fct T.length := Nat.mul_le_mul_right _ h1
    rw [Nat.add_mul]
    omega
theorem cnt_blw {T : List Nat} (h : T.Nodup) (m : Nat) : cnt m (fun l => decide (l ∈ T)) = blw m T := by
  induction T with
  | nil =>
    have : cnt m (fun l => decide (l ∈ ([] : List Nat))) = cnt m (fun _ => false) := cnt_ext (by simp)
    rw [this]
    clear this
    induction m with
    | zero => rfl
    | succ m ih => rw [cnt_s, ih]; rfl
  | cons t T ih =>
    rw [List.nodup_cons] at h
    have h1 : ∀ m, cnt m (fun l => decide (l ∈ t :: T)) = cnt m (fun l => decide (l ∈ T)) + if t < m then 1 else 0 := by
      intro m
      induction m with
      | zero => rfl
      | succ m ihm =>
        rw [cnt_s, cnt_s, ihm]
        by_cases e : m = t
        · subst e
          simp [h.1]
        · by_cases q : t < m
          · have q' : t < m + 1 := by omega
            simp only [List.mem_cons, e, false_or, if_pos q, if_pos q']
            omega
          · have q' : ¬ t < m + 1 := by omega
            simp only [List.mem_cons, e, false_or, if_neg q, if_neg q']
            omega
    rw [h1, ih h.2]
    unfold blw
    rw [List.countP_cons]
    simp
theorem fil_len (P : Nat → Bool) (n : Nat) : ((List.range n).filter P).length = cnt n P := by
  induction n with
  | zero => rfl
  | succ n ih =>
    rw [List.range_succ, List.filter_append, List.length_append, ih, cnt_s]
    cases hP : P n <;> simp [hP]
theorem fil_at {P : Nat → Bool} {m : Nat} (hm : P m = true) : ∀ n, m < n → ((List.range n).filter P)[cnt m P]? = some m := by
  intro n
  induction n with
  | zero => intro h; exact absurd h (Nat.not_lt_zero _)
  | succ n ih =>
    intro h
    rw [List.range_succ, List.filter_append]
    by_cases e : m = n
    · subst e
      rw [List.getElem?_append_right (by rw [fil_len]; exact Nat.le_refl _), fil_len, Nat.sub_self]
      simp [hm]
    · have h1 := ih (by omega)
      have h2 : cnt m P < ((List.range n).filter P).length := by
        apply Classical.byContradiction
        intro q
        rw [List.getElem?_eq_none (by omega)] at h1
        cases h1
      rw [List.getElem?_append_left h2]
      exact h1
/-- the place of a line among those that are left: how many behind it are lower -/
theorem lft_at {N : Nat} {L T : List Nat} {m : Nat} (h : okP N (L ++ m :: T)) : (lft N L)[blw m T]? = some m ∧ blw m T < (lft N L).length := by
  obtain ⟨h1, h2, h3⟩ := h
  have hall := nd_full N _ h2 h1 h3
  rw [List.nodup_append] at h1
  obtain ⟨a1, a2, a3⟩ := h1
  rw [List.nodup_cons] at a2
  have hm : m ∉ L := fun q => a3 m q m List.mem_cons_self rfl
  have hmN : m < N := h2 m (List.mem_append_right _ List.mem_cons_self)
  have e : cnt m (fun l => decide (l ∉ L)) = blw m T := by
    rw [← cnt_blw a2.2]
    refine cnt_ext (fun l hl => ?_)
    have hl2 := hall l (by omega)
    rw [List.mem_append, List.mem_cons] at hl2
    have hT : l ∈ T → l ∉ L := fun q1 q2 => a3 l q2 l (List.mem_cons_of_mem _ q1) rfl
    by_cases q : l ∈ T
    · simp [q, hT q]
    · have : l ∈ L := by
        rcases hl2 with c | c | c
        · exact c
        · omega
        · exact absurd c q
      simp [q, this]
  have h5 := fil_at (P := fun l => decide (l ∉ L)) (m := m) (by simp [hm]) N hmN
  rw [e] at h5
  refine ⟨h5, ?_⟩
  apply Classical.byContradiction
  intro q
  have h6 : (lft N L)[blw m T]? = none := List.getElem?_eq_none (by omega)
  rw [show (lft N L)[blw m T]? = some m from h5] at h6
  cases h6
theorem urk_rk {N : Nat} : ∀ (T L : List Nat), okP N (L ++ T) → urk T.length N L (rkT T) = L ++ T := by
  intro T
  induction T with
  | nil => intro L _; simp [urk]
  | cons m T ih =>
    intro L h
    obtain ⟨h1, h2⟩ := lft_at h
    have hf := fct_pos T.length
    have hr := rkT_lt T
    have e1 : rkT (m :: T) / fct T.length = blw m T := by
      show (blw m T * fct T.length + rkT T) / fct T.length = _
      rw [Nat.mul_comm, Nat.mul_add_div hf, Nat.div_eq_of_lt hr, Nat.add_zero]
    have e2 : rkT (m :: T) % fct T.length = rkT T := by
      show (blw m T * fct T.length + rkT T) % fct T.length = _
      rw [Nat.mul_comm, Nat.mul_add_mod, Nat.mod_eq_of_lt hr]
    show urk T.length N (L ++ [(lft N L).getD (rkT (m :: T) / fct T.length) 0]) (rkT (m :: T) % fct T.length) = _
    rw [e1, e2, List.getD_eq_getElem?_getD, h1]
    have := ih (L ++ [m]) (by rw [List.append_assoc]; exact h)
    rw [List.append_assoc] at this
    exact this
theorem unrk_rk {N : Nat} {M : List Nat} (h : okP N M) : unrk N (rkT M) = M := by
  have := urk_rk (N := N) M [] h
  rw [h.2.2] at this
  exact this
theorem rk_urk {N : Nat} : ∀ (n : Nat) (L : List Nat) (r : Nat), L.Nodup → (∀ x ∈ L, x < N) → L.length + n = N → r < fct n → ∃ T, urk n N L r = L ++ T ∧ okP N (L ++ T) ∧ rkT T = r := by
  intro n
  induction n with
  | zero =>
    intro L r h1 h2 h3 h4
    refine ⟨[], by simp [urk], by rw [List.append_nil]; exact ⟨h1, h2, h3⟩, ?_⟩
    have : r < 1 := h4
    show 0 = r
    omega
  | succ n ih =>
    intro L r h1 h2 h3 h4
    have hf := fct_pos n
    have hlen : (lft N L).length = n + 1 := by
      have e1 : (lft N L).length = cnt N (fun l => decide (l ∉ L)) := fil_len _ _
      have e2 : ∀ m, cnt m (fun l => decide (l ∉ L)) + cnt m (fun l => decide (l ∈ L)) = m := by
        intro m
        induction m with
        | zero => rfl
        | succ m ihm =>
          rw [cnt_s, cnt_s]
          by_cases q : m ∈ L
          · rw [if_neg (by simp [q]), if_pos (by simp [q])]; omega
          · rw [if_pos (by simp [q]), if_neg (by simp [q])]; omega
      have e3 : blw N L = L.length := by
        unfold blw
        rw [List.countP_eq_length]
        intro a ha
        exact decide_eq_true (h2 a ha)
      have e4 := e2 N
      rw [cnt_blw h1, e3] at e4
      omega
    have hk : r / fct n < (lft N L).length := by
      rw [hlen]
      exact (Nat.div_lt_iff_lt_mul hf).mpr h4
    have hm : (lft N L).getD (r / fct n) 0 ∈ lft N L := by rw [getD_e hk]; exact List.getElem_mem hk
    have hq : (lft N L)[r / fct n]? = some ((lft N L).getD (r / fct n) 0) := by rw [getD_e hk, List.getElem?_eq_getElem hk]
    obtain ⟨m1, m2⟩ := lft_mem.mp hm
    obtain ⟨T, t1, t2, t3⟩ := ih (L ++ [(lft N L).getD (r / fct n) 0]) (r % fct n) (by
      rw [List.nodup_append]
      refine ⟨h1, by simp, fun a ha b hb => ?_⟩
      rw [List.mem_singleton] at hb
      subst hb
      exact fun e => m2 (e ▸ ha)) (by
      intro x hx
      rcases List.mem_append.mp hx with h | h
      · exact h2 x h
      · rw [List.mem_singleton] at h; subst h; exact m1) (by rw [List.length_append, List.length_singleton]; omega) (Nat.mod_lt _ hf)
    generalize (lft N L).getD (r / fct n) 0 = m at *
    rw [List.append_assoc] at t1 t2
    refine ⟨m :: T, ?_, t2, ?_⟩
    · show urk n N (L ++ [(lft N L).getD (r / fct n) 0]) (r % fct n) = _
      have : (lft N L).getD (r / fct n) 0 = m := by
        rw [List.getD_eq_getElem?_getD, hq]; rfl
      rw [this]
      exact t1
    · have hTl : T.length = n := by
        have := t2.2.2
        simp at this
        omega
      obtain ⟨l1, l2⟩ := lft_at t2
      have hb : blw m T = r / fct n := by
        have nd : (lft N L).Nodup := List.Pairwise.filter _ List.nodup_range
        rw [List.getElem?_eq_getElem l2] at l1
        rw [List.getElem?_eq_getElem hk] at hq
        have e1 : (lft N L)[blw m T] = (lft N L)[r / fct n] := by
          have a1 : (lft N L)[blw m T] = m := by simpa using l1
          have a2 : (lft N L)[r / fct n] = m := by simpa using hq
          rw [a1, a2]
        have b1 := List.Nodup.idxOf_getElem nd (blw m T) l2
        have b2 := List.Nodup.idxOf_getElem nd (r / fct n) hk
        rw [e1] at b1
        rw [← b1, b2]
      show blw m T * fct T.length + rkT T = r
      rw [hb, hTl, t3, Nat.mul_comm]
      exact Nat.div_add_mod _ _
theorem rk_unrk {N x : Nat} (hx : x < fct N) : rkT (unrk N x) = x := by
  obtain ⟨T, h1, h2, h3⟩ := rk_urk (N := N) N [] x List.nodup_nil (by simp) (by simp) hx
  unfold unrk
  rw [h1]
  exact h3
theorem okP.rk {N : Nat} {M : List Nat} (h : okP N M) : rkT M < fct N := by
  have := rkT_lt M
  rw [h.2.2] at this
  exact this
/-! the number as both count it -/
def lowB (L : List Nat) (i : Nat) : Nat := cnt (L.length - (i + 1)) (fun j => decide (L.getD (i + 1 + j) 0 < L.getD i 0))
def rnkL : Nat → List Nat → Nat
  | 0, _ => 0
  | i + 1, L => rnkL i L * (L.length - i) + lowB L i
def rnkS : Nat → List Nat → Nat
  | 0, _ => 0
  | i + 1, L => rnkS i L + lowB L i * fct (L.length - 1 - i)
theorem cnt_fr (n : Nat) (P : Nat → Bool) : cnt (n + 1) P = (if P 0 then 1 else 0) + cnt n (fun i => P (i + 1)) := by
  induction n with
  | zero => simp [cnt]
  | succ n ih => rw [cnt_s, ih, cnt_s]; omega
theorem cnt_list (m : Nat) (T : List Nat) : cnt T.length (fun j => decide (T.getD j 0 < m)) = blw m T := by
  induction T with
  | nil => rfl
  | cons t T ih =>
    rw [List.length_cons, cnt_fr]
    have : cnt T.length (fun i => decide ((t :: T).getD (i + 1) 0 < m)) = blw m T := by
      rw [← ih]
      exact cnt_ext (fun i _ => by simp)
    rw [this]
    unfold blw
    rw [List.countP_cons]
    simp
    omega
theorem lowB_e {L : List Nat} {i : Nat} (hi : i < L.length) : lowB L i = blw L[i] (L.drop (i + 1)) := by
  rw [← cnt_list, List.length_drop]
  unfold lowB
  refine cnt_ext (fun j _ => ?_)
  rw [getD_e hi]
  simp
theorem rkT_drop {L : List Nat} {i : Nat} (hi : i < L.length) : rkT (L.drop i) = lowB L i * fct (L.length - 1 - i) + rkT (L.drop (i + 1)) := by
  rw [List.drop_eq_getElem_cons hi, lowB_e hi]
  show blw _ _ * fct (L.drop (i + 1)).length + _ = _
  rw [List.length_drop, show L.length - (i + 1) = L.length - 1 - i by omega]
theorem rnkL_e {L : List Nat} : ∀ i, i ≤ L.length → rnkL i L * fct (L.length - i) + rkT (L.drop i) = rkT L := by
  intro i
  induction i with
  | zero => intro _; simp [rnkL]
  | succ i ih =>
    intro hi
    rw [← ih (by omega), rkT_drop (by omega : i < L.length)]
    have e : L.length - i = (L.length - 1 - i) + 1 := by omega
    simp only [rnkL]
    rw [show L.length - (i + 1) = L.length - 1 - i by omega, e]
    show _ = rnkL i L * (((L.length - 1 - i) + 1) * fct (L.length - 1 - i)) + _
    rw [Nat.add_mul, Nat.mul_assoc, Nat.add_assoc]
theorem rnk_e (L : List Nat) : rnkL L.length L = rkT L := by
  have := rnkL_e (L := L) L.length (Nat.le_refl _)
  simpa [fct, rkT] using this
theorem rnkS_e {L : List Nat} : ∀ i, i ≤ L.length → rnkS i L + rkT (L.drop i) = rkT L := by
  intro i
  induction i with
  | zero => intro _; simp [rnkS]
  | succ i ih =>
    intro hi
    rw [← ih (by omega), rkT_drop (by omega : i < L.length)]
    simp only [rnkS]
    omega
theorem rnkS_a (L : List Nat) : rnkS L.length L = rkT L := by
  have := rnkS_e (L := L) L.length (Nat.le_refl _)
  simpa [rkT] using this
/-- two neighbours change places -/
def swp : Nat → List Nat → List Nat
  | 0, a :: b :: T => b :: a :: T
  | 0, L => L
  | p + 1, a :: T => a :: swp p T
  | _ + 1, [] => []
theorem swp_perm : ∀ (p : Nat) (M : List Nat), (swp p M).Perm M
  | 0, a :: b :: T => List.Perm.swap a b T
  | 0, [] => List.Perm.refl _
  | 0, [a] => List.Perm.refl _
  | p + 1, a :: T => List.Perm.cons a (swp_perm p T)
  | _ + 1, [] => List.Perm.refl _
theorem okP.of_perm {N : Nat} {A B : List Nat} (h : okP N A) (p : A.Perm B) : okP N B := ⟨p.nodup_iff.mp h.1, fun x hx => h.2.1 x (p.mem_iff.mpr hx), p.length_eq ▸ h.2.2⟩
theorem okP.swp {N p : Nat} {M : List Nat} (h : okP N M) : okP N (swp p M) := h.of_perm (swp_perm p M).symm
theorem swp_at : ∀ (p : Nat) (M : List Nat), p + 1 < M.length → ∀ i, (swp p M).getD i 0 = if i = p then M.getD (p + 1) 0 else if i = p + 1 then M.getD p 0 else M.getD i 0
  | 0, a :: b :: T, _, i => by
    match i with
    | 0 => rfl
    | 1 => rfl
    | i + 2 => rfl
  | 0, [], h, _ => by simp at h
  | 0, [a], h, _ => by simp at h
  | p + 1, a :: T, h, i => by
    match i with
    | 0 => rfl
    | i + 1 =>
      have := swp_at p T (by simpa using h) i
      simp only [swp, List.getD_cons_succ, this, Nat.add_right_cancel_iff]
  | _ + 1, [], h, _ => by simp at h
theorem blw_perm {A B : List Nat} (p : A.Perm B) (m : Nat) : blw m A = blw m B := p.countP_eq _
/-- by how much the number changes: here, next are the counts of both places, ha, na those afterwards -/
theorem rkT_swp : ∀ (p : Nat) (M : List Nat), M.Nodup → p + 1 < M.length → ∃ ha na, rkT (swp p M) + lowB M p * fct (M.length - 1 - p) + lowB M (p + 1) * fct (M.length - 2 - p) = rkT M + ha * fct (M.length - 1 - p) + na * fct (M.length - 2 - p) ∧ (M.getD (p + 1) 0 < M.getD p 0 → ha = lowB M (p + 1) ∧ na + 1 = lowB M p) ∧ (¬ M.getD (p + 1) 0 < M.getD p 0 → ha = lowB M (p + 1) + 1 ∧ na = lowB M p)
  | 0, a :: b :: T, hn, _ => by
    have hne : a ≠ b := by
      rw [List.nodup_cons] at hn
      exact fun e => hn.1 (e ▸ List.mem_cons_self)
    have e0 : lowB (a :: b :: T) 0 = blw a (b :: T) := lowB_e (by simp)
    have e1 : lowB (a :: b :: T) 1 = blw b T := lowB_e (by simp)
    have c1 : blw a (b :: T) = blw a T + if b < a then 1 else 0 := by unfold blw; rw [List.countP_cons]; simp
    have c2 : blw b (a :: T) = blw b T + if a < b then 1 else 0 := by unfold blw; rw [List.countP_cons]; simp
    refine ⟨blw b (a :: T), blw a T, ?_, ?_, ?_⟩
    · rw [e0, e1]
      show (blw b (a :: T) * fct (T.length + 1) + (blw a T * fct T.length + rkT T)) + _ * fct (T.length + 2 - 1 - 0) + _ * fct (T.length + 2 - 2 - 0) = (blw a (b :: T) * fct (T.length + 1) + (blw b T * fct T.length + rkT T)) + _ * fct (T.length + 2 - 1 - 0) + _ * fct (T.length + 2 - 2 - 0)
      rw [show T.length + 2 - 1 - 0 = T.length + 1 by omega, show T.length + 2 - 2 - 0 = T.length by omega]
      omega
    · intro h
      have h' : b < a := h
      rw [e0, e1, c1, c2, if_pos h', if_neg (by omega)]
      exact ⟨rfl, rfl⟩
    · intro h
      have h' : ¬ b < a := h
      rw [e0, e1, c1, c2, if_neg h', if_pos (by omega)]
      exact ⟨rfl, rfl⟩
  | 0, [], _, h => by simp at h
  | 0, [a], _, h => by simp at h
  | p + 1, a :: T, hn, h => by
    rw [List.nodup_cons] at hn
    have h' : p + 1 < T.length := by simpa using h
    obtain ⟨ha, na, q1, q2, q3⟩ := rkT_swp p T hn.2 h'
    have s : ∀ i, i < T.length → lowB (a :: T) (i + 1) = lowB T i := fun i hi => by
      rw [lowB_e hi, lowB_e (by simpa using hi)]
      simp
    refine ⟨ha, na, ?_, ?_, ?_⟩
    · rw [s p (by omega), s (p + 1) h']
      show (blw a (swp p T) * fct (swp p T).length + rkT (swp p T)) + _ * fct (T.length + 1 - 1 - (p + 1)) + _ * fct (T.length + 1 - 2 - (p + 1)) = (blw a T * fct T.length + rkT T) + _ * fct (T.length + 1 - 1 - (p + 1)) + _ * fct (T.length + 1 - 2 - (p + 1))
      rw [blw_perm (swp_perm p T), (swp_perm p T).length_eq, show T.length + 1 - 1 - (p + 1) = T.length - 1 - p by omega, show T.length + 1 - 2 - (p + 1) = T.length - 2 - p by omega]
      omega
    · intro q
      rw [s p (by omega), s (p + 1) h']
      exact q2 q
    · intro q
      rw [s p (by omega), s (p + 1) h']
      exact q3 q
  | _ + 1, [], _, h => by simp at h
/-! the next order as words rise -/
theorem rkT_desc {D : List Nat} (h : D.Pairwise (fun a b => b < a)) : rkT D + 1 = fct D.length := by
  induction D with
  | nil => rfl
  | cons a D ih =>
    rw [List.pairwise_cons] at h
    have e : blw a D = D.length := by
      unfold blw
      rw [List.countP_eq_length]
      exact fun b hb => decide_eq_true (h.1 b hb)
    have := ih h.2
    show blw a D * fct D.length + rkT D + 1 = (D.length + 1) * fct D.length
    rw [e, Nat.add_mul]
    omega
theorem rkT_asc {D : List Nat} (h : D.Pairwise (fun a b => a < b)) : rkT D = 0 := by
  induction D with
  | nil => rfl
  | cons a D ih =>
    rw [List.pairwise_cons] at h
    have e : blw a D = 0 := by
      unfold blw
      rw [List.countP_eq_zero]
      intro b hb
      have := h.1 b hb
      simp
      omega
    show blw a D * fct D.length + rkT D = 0
    rw [e, ih h.2]
    omega
theorem rkT_app {A B C : List Nat} (p : B.Perm C) {k : Nat} (h : rkT C = rkT B + k) : rkT (A ++ C) = rkT (A ++ B) + k := by
  induction A with
  | nil => exact h
  | cons a A ih =>
    have pp : (A ++ B).Perm (A ++ C) := p.append_left A
    show blw a (A ++ C) * fct (A ++ C).length + rkT (A ++ C) = blw a (A ++ B) * fct (A ++ B).length + rkT (A ++ B) + k
    rw [ih, ← blw_perm pp, pp.length_eq]
    omega
theorem rise_rk {A D1 D2 : List Nat} {a d : Nat} (hd : (D1 ++ d :: D2).Pairwise (fun a b => b < a)) (h1 : a < d) (h2 : ∀ x ∈ D2, x < a) : rkT (A ++ d :: (D1 ++ a :: D2).reverse) = rkT (A ++ a :: (D1 ++ d :: D2)) + 1 ∧ (A ++ a :: (D1 ++ d :: D2)).Perm (A ++ d :: (D1 ++ a :: D2).reverse) := by
  have hp : (a :: (D1 ++ d :: D2)).Perm (d :: (D1 ++ a :: D2).reverse) := by
    refine List.Perm.trans (List.Perm.cons a List.perm_middle) ?_
    refine List.Perm.trans (List.Perm.swap d a _) (List.Perm.cons d ?_)
    exact List.Perm.trans List.perm_middle.symm (List.reverse_perm _).symm
  refine ⟨rkT_app hp ?_, hp.append_left A⟩
  rw [List.pairwise_append, List.pairwise_cons] at hd
  obtain ⟨p1, ⟨p2, p3⟩, p4⟩ := hd
  have hdesc : (D1 ++ a :: D2).Pairwise (fun a b => b < a) := by
    rw [List.pairwise_append, List.pairwise_cons]
    refine ⟨p1, ⟨h2, p3⟩, fun x hx y hy => ?_⟩
    rcases List.mem_cons.mp hy with e | e
    · subst e
      have := p4 x hx d List.mem_cons_self
      omega
    · exact p4 x hx y (List.mem_cons_of_mem _ e)
  have hasc : (D1 ++ a :: D2).reverse.Pairwise (fun a b => a < b) := by
    rw [List.pairwise_reverse]
    exact hdesc
  have hfull : rkT (D1 ++ d :: D2) + 1 = fct (D1 ++ d :: D2).length := rkT_desc (by
    rw [List.pairwise_append, List.pairwise_cons]
    exact ⟨p1, ⟨p2, p3⟩, p4⟩)
  have e1 : blw a (D1 ++ d :: D2) = D2.length := by
    unfold blw
    rw [List.countP_append, List.countP_cons]
    have c1 : D1.countP (fun t => decide (t < a)) = 0 := by
      rw [List.countP_eq_zero]
      intro x hx
      have := p4 x hx d List.mem_cons_self
      simp
      omega
    have c2 : D2.countP (fun t => decide (t < a)) = D2.length := by
      rw [List.countP_eq_length]
      exact fun x hx => decide_eq_true (h2 x hx)
    rw [c1, c2]
    simp
    omega
  have e2 : blw d (D1 ++ a :: D2).reverse = D2.length + 1 := by
    rw [blw_perm (List.reverse_perm _)]
    unfold blw
    rw [List.countP_append, List.countP_cons]
    have c1 : D1.countP (fun t => decide (t < d)) = 0 := by
      rw [List.countP_eq_zero]
      intro x hx
      have := p4 x hx d List.mem_cons_self
      simp
      omega
    have c2 : D2.countP (fun t => decide (t < d)) = D2.length := by
      rw [List.countP_eq_length]
      exact fun x hx => decide_eq_true (p2 x hx)
    rw [c1, c2]
    simp [h1]
  show blw d _ * fct _ + rkT _ = blw a _ * fct _ + rkT _ + 1
  rw [e1, e2, rkT_asc hasc, List.length_reverse]
  have hl : (D1 ++ a :: D2).length = (D1 ++ d :: D2).length := by simp
  rw [hl, Nat.add_mul]
  omega
