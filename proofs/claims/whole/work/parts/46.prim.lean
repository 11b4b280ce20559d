/-! TREE: joined one by one -/
def gpS (D : Nat → Nat → Nat) (i : Nat) (s : Nat × Nat) (j : Nat) : Nat × Nat := if D i j < s.1 then (D i j, j) else s
/-- of the joined ones the first to which i is least FAR, and how far -/
def gp (D : Nat → Nat → Nat) (i : Nat) (J : List Nat) : Nat × Nat := J.foldl (gpS D i) (1000000, 0)
def nxS (D : Nat → Nat → Nat) (J : List Nat) (s : Nat × Nat × Nat) (i : Nat) : Nat × Nat × Nat := if i ∈ J then s else if (gp D i J).1 < s.1 then ((gp D i J).1, i, (gp D i J).2) else s
def nxt (D : Nat → Nat → Nat) (n : Nat) (J : List Nat) : Nat × Nat × Nat := (List.range n).foldl (nxS D J) (1000000, 0, 0)
def prm (D : Nat → Nat → Nat) (n : Nat) : Nat → List Nat × Nat × (Nat → Nat)
  | 0 => ([0], 0, fun _ => 0)
  | r + 1 => ((prm D n r).1 ++ [(nxt D n (prm D n r).1).2.1], (prm D n r).2.1 + (nxt D n (prm D n r).1).1, updN (prm D n r).2.2 (nxt D n (prm D n r).1).2.1 (nxt D n (prm D n r).1).2.2)
theorem gp_app (D : Nat → Nat → Nat) (i : Nat) (J : List Nat) (j : Nat) : gp D i (J ++ [j]) = gpS D i (gp D i J) j := by
  unfold gp
  rw [List.foldl_append]
  rfl
theorem gpS_p (D : Nat → Nat → Nat) (i : Nat) : ∀ (J : List Nat) (s : Nat × Nat), (J.foldl (gpS D i) s).1 ≤ s.1 ∧ (J.foldl (gpS D i) s = s ∨ (J.foldl (gpS D i) s).2 ∈ J ∧ (J.foldl (gpS D i) s).1 = D i (J.foldl (gpS D i) s).2)
  | [], s => ⟨Nat.le_refl _, Or.inl rfl⟩
  | j :: J, s => by
    obtain ⟨h1, h2⟩ := gpS_p D i J (gpS D i s j)
    have hs : (gpS D i s j).1 ≤ s.1 := by unfold gpS; split <;> omega
    rw [List.foldl_cons]
    refine ⟨Nat.le_trans h1 hs, ?_⟩
    rcases h2 with h2 | ⟨h2, h3⟩
    · rw [h2]
      unfold gpS
      split
      · exact Or.inr ⟨List.mem_cons_self, rfl⟩
      · exact Or.inl rfl
    · exact Or.inr ⟨List.mem_cons_of_mem _ h2, h3⟩
theorem gp_p {D : Nat → Nat → Nat} (hD : ∀ a b, D a b ≤ 100) {i : Nat} {J : List Nat} (hJ : J ≠ []) : (gp D i J).1 ≤ 100 ∧ (gp D i J).2 ∈ J ∧ (gp D i J).1 = D i (gp D i J).2 := by
  cases J with
  | nil => exact absurd rfl hJ
  | cons j J =>
    have h0 : gpS D i (1000000, 0) j = (D i j, j) := by
      unfold gpS
      rw [if_pos (show D i j < 1000000 by have := hD i j; omega)]
    obtain ⟨h1, h2⟩ := gpS_p D i J (D i j, j)
    unfold gp
    rw [List.foldl_cons, h0]
    have hd := hD i j
    rcases h2 with h2 | ⟨h2, h3⟩
    · rw [h2]; exact ⟨hd, List.mem_cons_self, rfl⟩
    · exact ⟨Nat.le_trans h1 hd, List.mem_cons_of_mem _ h2, h3⟩
/-- the search over one's joined ones, as the reference goes it -/
def inS (D : Nat → Nat → Nat) (i : Nat) (s : Nat × Nat × Nat) (j : Nat) : Nat × Nat × Nat := if D i j < s.1 then (D i j, i, j) else s
theorem inS_gp {D : Nat → Nat → Nat} {i : Nat} {s : Nat × Nat × Nat} (hs : s.1 ≤ 1000000) (J : List Nat) : J.foldl (inS D i) s = if (gp D i J).1 < s.1 then ((gp D i J).1, i, (gp D i J).2) else s := by
  have gen : ∀ (K J' : List Nat), J'.foldl (inS D i) s = (if (gp D i J').1 < s.1 then ((gp D i J').1, i, (gp D i J').2) else s) → (J' ++ K).foldl (inS D i) s = if (gp D i (J' ++ K)).1 < s.1 then ((gp D i (J' ++ K)).1, i, (gp D i (J' ++ K)).2) else s := by
    intro K
    induction K with
    | nil => intro J' h; rw [List.append_nil]; exact h
    | cons k K ih =>
      intro J' h
      rw [show J' ++ k :: K = (J' ++ [k]) ++ K by simp]
      refine ih _ ?_
      rw [List.foldl_append, h, gp_app]
      show inS D i _ k = _
      unfold gpS
      by_cases q1 : D i k < (gp D i J').1
      · rw [if_pos q1]
        unfold inS
        by_cases q2 : (gp D i J').1 < s.1
        · rw [if_pos q2, if_pos q1, if_pos (show D i k < s.1 by omega)]
        · rw [if_neg q2]
      · rw [if_neg q1]
        unfold inS
        by_cases q2 : (gp D i J').1 < s.1
        · rw [if_pos q2, if_neg q1]
        · rw [if_neg q2, if_neg (by omega)]
  have := gen J [] (by
    show s = if 1000000 < s.1 then _ else s
    rw [if_neg (by omega)])
  simpa using this
theorem nxt_p {D : Nat → Nat → Nat} (hD : ∀ a b, D a b ≤ 100) {J : List Nat} (hJ : J ≠ []) : ∀ n, ((nxt D n J = (1000000, 0, 0) ∧ ∀ i, i < n → i ∈ J) ∨ ((nxt D n J).2.1 < n ∧ (nxt D n J).2.1 ∉ J ∧ (nxt D n J).1 = (gp D (nxt D n J).2.1 J).1 ∧ (nxt D n J).2.2 = (gp D (nxt D n J).2.1 J).2)) := by
  intro n
  induction n with
  | zero => exact Or.inl ⟨rfl, fun i h => absurd h (Nat.not_lt_zero _)⟩
  | succ n ih =>
    have e : nxt D (n + 1) J = nxS D J (nxt D n J) n := by
      unfold nxt
      rw [List.range_succ, List.foldl_append]
      rfl
    rw [e]
    unfold nxS
    by_cases q : n ∈ J
    · rw [if_pos q]
      rcases ih with ⟨h1, h2⟩ | ⟨h1, h2⟩
      · exact Or.inl ⟨h1, fun i hi => by
          by_cases e : i = n
          · rw [e]; exact q
          · exact h2 i (by omega)⟩
      · exact Or.inr ⟨by omega, h2⟩
    · rw [if_neg q]
      have hg := (gp_p hD (i := n) hJ).1
      by_cases q2 : (gp D n J).1 < (nxt D n J).1
      · rw [if_pos q2]
        exact Or.inr ⟨Nat.lt_succ_self n, q, rfl, rfl⟩
      · rw [if_neg q2]
        rcases ih with ⟨h1, h2⟩ | ⟨h1, h2⟩
        · exfalso
          rw [h1] at q2
          exact q2 (show (gp D n J).1 < 1000000 by omega)
        · exact Or.inr ⟨by omega, h2⟩
theorem cnt_true : ∀ n, cnt n (fun _ => true) = n
  | 0 => rfl
  | n + 1 => by rw [cnt_s, cnt_true n]; rfl
theorem nd_free {n : Nat} {J : List Nat} (nd : J.Nodup) (hn : J.length < n) : ∃ i, i < n ∧ i ∉ J := by
  apply Classical.byContradiction
  intro h
  have h2 : ∀ i, i < n → i ∈ J := fun i hi => Classical.byContradiction fun q => h ⟨i, hi, q⟩
  have e := cnt_blw nd n
  rw [cnt_ext (Q := fun _ => true) (fun i hi => decide_eq_true (h2 i hi)), cnt_true] at e
  have := blw_le n J
  omega
theorem nxt_ok {D : Nat → Nat → Nat} (hD : ∀ a b, D a b ≤ 100) {J : List Nat} (hJ : J ≠ []) (nd : J.Nodup) {n : Nat} (hn : J.length < n) : (nxt D n J).2.1 < n ∧ (nxt D n J).2.1 ∉ J ∧ (nxt D n J).1 = (gp D (nxt D n J).2.1 J).1 ∧ (nxt D n J).2.2 = (gp D (nxt D n J).2.1 J).2 := by
  rcases nxt_p hD hJ n with ⟨-, h2⟩ | h
  · obtain ⟨i, h3, h4⟩ := nd_free nd hn
    exact absurd (h2 i h3) h4
  · exact h
theorem prm_ok {D : Nat → Nat → Nat} (hD : ∀ a b, D a b ≤ 100) {n : Nat} : ∀ r, r < n → (prm D n r).1.Nodup ∧ (∀ x ∈ (prm D n r).1, x < n) ∧ (prm D n r).1.length = r + 1 ∧ 0 ∈ (prm D n r).1 ∧ (prm D n r).2.1 ≤ 100 * r ∧ ∀ x ∈ (prm D n r).1, (prm D n r).2.2 x < n
  | 0, h => ⟨by simp [prm], by simp [prm]; exact h, rfl, by simp [prm], Nat.le_refl _, fun _ _ => h⟩
  | r + 1, h => by
    obtain ⟨h1, h2, h3, h4, h5, h6⟩ := prm_ok (n := n) hD r (by omega)
    have hJ : (prm D n r).1 ≠ [] := fun e => by rw [e] at h3; simp at h3
    obtain ⟨n1, n2, n3, n4⟩ := nxt_ok hD hJ h1 (n := n) (by omega)
    obtain ⟨g1, g2, g3⟩ := gp_p hD (i := (nxt D n (prm D n r).1).2.1) hJ
    refine ⟨?_, ?_, ?_, ?_, ?_, ?_⟩
    · show ((prm D n r).1 ++ [(nxt D n (prm D n r).1).2.1]).Nodup
      rw [List.nodup_append]
      refine ⟨h1, by simp, fun a ha b hb => ?_⟩
      rw [List.mem_singleton] at hb
      subst hb
      exact fun e => n2 (e ▸ ha)
    · intro x hx
      rcases List.mem_append.mp hx with q | q
      · exact h2 x q
      · rw [List.mem_singleton.mp q]; exact n1
    · show ((prm D n r).1 ++ [_]).length = _
      rw [List.length_append, h3]; rfl
    · exact List.mem_append_left _ h4
    · show (prm D n r).2.1 + (nxt D n (prm D n r).1).1 ≤ _
      rw [n3]; omega
    · intro x hx
      show updN _ _ _ x < n
      unfold updN
      by_cases e : x = (nxt D n (prm D n r).1).2.1
      · rw [if_pos e, n4]; exact h2 _ g2
      · rw [if_neg e]
        rcases List.mem_append.mp hx with q | q
        · exact h6 x q
        · exact absurd (List.mem_singleton.mp q) e
