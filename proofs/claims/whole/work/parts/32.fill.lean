/-! rows filled with one value; the next order in a row -/
theorem updL_s {f : Nat → Int64} {j : Nat} {x : Int64} : vp_updL f j x j = x := by simp [vp_updL]
theorem updL_n {f : Nat → Int64} {j i : Nat} {x : Int64} (h : i ≠ j) : vp_updL f j x i = f i := by simp [vp_updL, h]
theorem fillJ_f (g : Nat → Int64) (v : Int64) (i : Nat) : vp_updL (fun j => if j < i then v else g j) i v = fun j => if j < i + 1 then v else g j := by
  funext j
  by_cases h : j = i
  · subst h; rw [updL_s, if_pos (by omega)]
  · rw [updL_n h]
    by_cases q : j < i
    · rw [if_pos q, if_pos (by omega)]
    · rw [if_neg q, if_neg (by omega)]
theorem fillI_f (g : Nat → Int32) (v : Int32) (i : Nat) : upd (fun j => if j < i then v else g j) i v = fun j => if j < i + 1 then v else g j := by
  funext j
  by_cases h : j = i
  · subst h; rw [upd_s, if_pos (by omega)]
  · rw [upd_n h]
    by_cases q : j < i
    · rw [if_pos q, if_pos (by omega)]
    · rw [if_neg q, if_neg (by omega)]
section FILL
variable {F : Nat} {f : Hp} {a n : Nat}
theorem fillJ_L {g : Nat → Int64} {v : Int64} (ha : 100 ≤ a) (hn : n < 2 ^ 31) : ∀ (d i z : Nat), i + d = n → d < z → m_J7_fill_d0a16_L6 F z (some a) v (nI i) (nI n) (va_up f a (some (.inr (2, n, .inr (.inl (fun j => if j < i then v else g j)))))) = some (va_up f a (some (.inr (2, n, .inr (.inl (fun j => if j < n then v else g j)))))) := by
  intro d
  induction d with
  | zero =>
    intro i z hi hz
    obtain ⟨z, rfl⟩ : ∃ j, z = j + 1 := ⟨z - 1, by omega⟩
    show m_J7_fill_d0a16_b6 F _ _ _ _ _ _ = _
    unfold m_J7_fill_d0a16_b6
    rw [if_pos (nI_le (by omega) (by omega)), show i = n by omega]
  | succ d ih =>
    intro i z hi hz
    obtain ⟨z, rfl⟩ : ∃ j, z = j + 1 := ⟨z - 1, by omega⟩
    show m_J7_fill_d0a16_b6 F _ _ _ _ _ _ = _
    unfold m_J7_fill_d0a16_b6
    rw [if_neg (nI_ge (by omega) (by omega)), bd_e (stJ_e up_s (by omega) (by omega) ha), nm_e2, nI_1, up_up, fillJ_f]
    exact ih (i + 1) z (by omega) (by omega)
theorem fillJ_e {g : Nat → Int64} {v : Int64} (h : f a = some (.inr (2, n, .inr (.inl g)))) (ha : 100 ≤ a) (hn : n < 2 ^ 31) (hF : n < F) : m_J7_fill_d0a16 F (some a) v f = some (va_up f a (some (.inr (2, n, .inr (.inl (fun j => if j < n then v else g j)))))) := by
  unfold m_J7_fill_d0a16
  rw [bd_e (alen_e h (by decide))]
  have := fillJ_L (F := F) (f := f) (g := g) (v := v) ha hn n 0 F (by omega) hF
  rw [up_id (by rw [h]; simp)] at this
  exact this
theorem fillI_L {g : Nat → Int32} {v : Int32} (ha : 100 ≤ a) (hn : n < 2 ^ 31) : ∀ (d i z : Nat), i + d = n → d < z → m_J7_fill_53178_L5 F z (some a) v (nI i) (nI n) (va_up f a (some (.inr (1, n, .inl (fun j => if j < i then v else g j))))) = some (va_up f a (some (.inr (1, n, .inl (fun j => if j < n then v else g j))))) := by
  intro d
  induction d with
  | zero =>
    intro i z hi hz
    obtain ⟨z, rfl⟩ : ∃ j, z = j + 1 := ⟨z - 1, by omega⟩
    show m_J7_fill_53178_b5 F _ _ _ _ _ _ = _
    unfold m_J7_fill_53178_b5
    rw [if_pos (nI_le (by omega) (by omega)), show i = n by omega]
  | succ d ih =>
    intro i z hi hz
    obtain ⟨z, rfl⟩ : ∃ j, z = j + 1 := ⟨z - 1, by omega⟩
    show m_J7_fill_53178_b5 F _ _ _ _ _ _ = _
    unfold m_J7_fill_53178_b5
    rw [if_neg (nI_ge (by omega) (by omega)), bd_e (stI1 up_s (by omega) (by omega) ha), nm_e2, nI_1, up_up, fillI_f]
    exact ih (i + 1) z (by omega) (by omega)
theorem fillI_e {g : Nat → Int32} {v : Int32} (h : f a = some (.inr (1, n, .inl g))) (ha : 100 ≤ a) (hn : n < 2 ^ 31) (hF : n < F) : m_J7_fill_53178 F (some a) v f = some (va_up f a (some (.inr (1, n, .inl (fun j => if j < n then v else g j))))) := by
  unfold m_J7_fill_53178
  rw [bd_e (alen_e h (by decide))]
  have := fillI_L (F := F) (f := f) (g := g) (v := v) ha hn n 0 F (by omega) hF
  rw [up_id (by rw [h]; simp)] at this
  exact this
/-! rise -/
/-- two places of a row change -/
def xch (g : Nat → Int32) (i j : Nat) : Nat → Int32 := upd (upd g i (g j)) j (g i)
theorem exchange_e {g : Nat → Int32} (h : f a = some (.inr (1, n, .inl g))) (ha : 100 ≤ a) (hn : n < 2 ^ 31) {i j : Nat} (hi : i < n) (hj : j < n) : m_X6_exchange F (some a) (nI i) (nI j) f = some (va_up f a (some (.inr (1, n, .inl (xch g i j))))) := by
  unfold m_X6_exchange
  rw [bd_e (ldI_e h hi (by omega)), bd_e (ldI_e h hj (by omega)), bd_e (stI1 h hi (by omega) ha), bd_e (stI1 up_s hj (by omega) ha), up_up]
  rfl
theorem xch_at {g : Nat → Int32} {i j k : Nat} : xch g i j k = if k = j then g i else if k = i then g j else g k := by
  unfold xch
  by_cases h1 : k = j
  · subst h1; rw [upd_s, if_pos rfl]
  · rw [upd_n h1, if_neg h1]
    by_cases h2 : k = i
    · subst h2; rw [upd_s, if_pos rfl]
    · rw [upd_n h2, if_neg h2]
/-- the places from i to j the other way round -/
theorem rise_rev (ha : 100 ≤ a) (hn : n < 2 ^ 20) {g0 : Nat → Int32} {lo s : Nat} (hs : s + 1 = lo + n) (hlo : lo ≤ n) : ∀ (d i j z : Nat) (g : Nat → Int32), i + j = s → lo ≤ i → j ≤ i + d → d < z → (∀ k, k < n → g k = if lo ≤ k ∧ (k < i ∨ j < k) then g0 (s - k) else g0 k) →
    ∃ g', m_X6_rise_L72 F z (some a) (nI i) (nI j) (va_up f a (some (.inr (1, n, .inl g)))) = some (va_up f a (some (.inr (1, n, .inl g')))) ∧ ∀ k, k < n → g' k = if lo ≤ k then g0 (s - k) else g0 k := by
  intro d
  induction d with
  | zero =>
    intro i j z g hij hi hj hz hg
    obtain ⟨z, rfl⟩ : ∃ j, z = j + 1 := ⟨z - 1, by omega⟩
    refine ⟨g, ?_, ?_⟩
    · show m_X6_rise_b72 F _ _ _ _ _ = _
      unfold m_X6_rise_b72
      rw [if_pos (nI_le (by omega) (by omega))]
    · intro k hk
      rw [hg k hk]
      by_cases q : lo ≤ k
      · rw [if_pos q]
        by_cases q2 : k < i ∨ j < k
        · rw [if_pos ⟨q, q2⟩]
        · rw [if_neg (fun e => q2 e.2), show s - k = k by omega]
      · rw [if_neg q, if_neg (fun e => q e.1)]
  | succ d ih =>
    intro i j z g hij hi hj hz hg
    obtain ⟨z, rfl⟩ : ∃ j, z = j + 1 := ⟨z - 1, by omega⟩
    by_cases hd : j ≤ i
    · refine ⟨g, ?_, ?_⟩
      · show m_X6_rise_b72 F _ _ _ _ _ = _
        unfold m_X6_rise_b72
        rw [if_pos (nI_le hd (by omega))]
      · intro k hk
        rw [hg k hk]
        by_cases q : lo ≤ k
        · rw [if_pos q]
          by_cases q2 : k < i ∨ j < k
          · rw [if_pos ⟨q, q2⟩]
          · rw [if_neg (fun e => q2 e.2), show s - k = k by omega]
        · rw [if_neg q, if_neg (fun e => q e.1)]
    · have hjn : j < n := by omega
      obtain ⟨g', e1, e2⟩ := ih (i + 1) (j - 1) z (xch g i j) (by omega) (by omega) (by omega) (by omega) (by
        intro k hk
        rw [xch_at]
        by_cases k1 : k = j
        · subst k1
          rw [if_pos rfl, hg i (by omega), if_neg (by omega), if_pos (by omega), show s - k = i by omega]
        · rw [if_neg k1]
          by_cases k2 : k = i
          · subst k2
            rw [if_pos rfl, hg j hjn, if_neg (by omega), if_pos (by omega), show s - k = j by omega]
          · rw [if_neg k2, hg k hk]
            by_cases q : lo ≤ k ∧ (k < i ∨ j < k)
            · rw [if_pos q, if_pos (by omega)]
            · rw [if_neg q, if_neg (by omega)])
      refine ⟨g', ?_, e2⟩
      show m_X6_rise_b72 F _ _ _ _ _ = _
      unfold m_X6_rise_b72
      rw [if_neg (nI_ge (by omega) (by omega)), bd_e (exchange_e up_s ha (by omega) (by omega) hjn), nm_e2, nm_e2, nI_1, up_up]
      have e3 : nI j + (-1 : Int32) = nI (j - 1) := by
        obtain ⟨m, rfl⟩ : ∃ m, j = m + 1 := ⟨j - 1, by omega⟩
        rw [← nI_1, Int32.add_assoc, show (1 : Int32) + (-1 : Int32) = 0 from rfl, Int32.add_zero]
        rfl
      rw [e3]
      exact e1
def lowS (M : List Nat) : Nat → Nat
  | 0 => 0
  | j + 1 => if M.getD j 0 ≤ M.getD (j + 1) 0 then j + 1 else lowS M j
def highS (M : List Nat) (v lo : Nat) : Nat → Nat
  | 0 => 0
  | j + 1 => if j + 1 ≤ lo then j + 1 else if v ≤ M.getD (j + 1) 0 then j + 1 else highS M v lo j
theorem lowS_p {M : List Nat} : ∀ j, lowS M j ≤ j ∧ (∀ k, lowS M j ≤ k → k < j → M.getD (k + 1) 0 < M.getD k 0) ∧ (0 < lowS M j → M.getD (lowS M j - 1) 0 ≤ M.getD (lowS M j) 0)
  | 0 => ⟨Nat.le_refl _, fun k _ h => absurd h (Nat.not_lt_zero _), fun h => absurd h (Nat.not_lt_zero _)⟩
  | j + 1 => by
    unfold lowS
    by_cases q : M.getD j 0 ≤ M.getD (j + 1) 0
    · rw [if_pos q]
      exact ⟨Nat.le_refl _, fun k h1 h2 => by omega, fun _ => q⟩
    · rw [if_neg q]
      obtain ⟨h1, h2, h3⟩ := lowS_p (M := M) j
      refine ⟨by omega, fun k a b => ?_, h3⟩
      by_cases e : k = j
      · subst e; omega
      · exact h2 k a (by omega)
theorem highS_p {M : List Nat} {v lo : Nat} : ∀ j, lo < j → v ≤ M.getD (lo + 1) 0 → lo < highS M v lo j ∧ highS M v lo j ≤ j ∧ v ≤ M.getD (highS M v lo j) 0 ∧ ∀ k, highS M v lo j < k → k ≤ j → M.getD k 0 < v
  | 0, h, _ => absurd h (Nat.not_lt_zero _)
  | j + 1, h, hv => by
    unfold highS
    rw [if_neg (by omega)]
    by_cases q : v ≤ M.getD (j + 1) 0
    · rw [if_pos q]
      exact ⟨h, Nat.le_refl _, q, fun k a b => by omega⟩
    · rw [if_neg q]
      have hlj : lo < j := by
        apply Classical.byContradiction
        intro e
        have : j = lo := by omega
        subst this
        exact q hv
      obtain ⟨a1, a2, a3, a4⟩ := highS_p (M := M) (v := v) j hlj hv
      refine ⟨a1, by omega, a3, fun k b1 b2 => ?_⟩
      by_cases e : k = j + 1
      · subst e; omega
      · exact a4 k b1 (by omega)
theorem desc_pw : ∀ (L : List Nat), (∀ k, k + 1 < L.length → L.getD (k + 1) 0 < L.getD k 0) → L.Pairwise (fun a b => b < a)
  | [], _ => List.Pairwise.nil
  | [a], _ => List.pairwise_singleton _ _
  | a :: b :: L, h => by
    have ih := desc_pw (b :: L) (fun k hk => by simpa using h (k + 1) (by simpa using hk))
    refine List.Pairwise.cons ?_ ih
    have h0 : b < a := by simpa using h 0 (by simp)
    intro x hx
    rcases List.mem_cons.mp hx with e | e
    · omega
    · rw [List.pairwise_cons] at ih
      have := ih.1 x e
      omega
theorem cut_at {M : List Nat} {k : Nat} (h : k < M.length) : M = M.take k ++ M.getD k 0 :: M.drop (k + 1) := by
  rw [getD_e h, ← List.drop_eq_getElem_cons h, List.take_append_drop]
theorem gD_l {A B : List Nat} {k : Nat} (h : k < A.length) : (A ++ B).getD k 0 = A.getD k 0 := by
  rw [List.getD_eq_getElem?_getD, List.getD_eq_getElem?_getD, List.getElem?_append_left h]
theorem gD_r {A B : List Nat} {k : Nat} (h : A.length ≤ k) : (A ++ B).getD k 0 = B.getD (k - A.length) 0 := by
  rw [List.getD_eq_getElem?_getD, List.getD_eq_getElem?_getD, List.getElem?_append_right h]
theorem gD_d {A : List Nat} {i k : Nat} : (A.drop i).getD k 0 = A.getD (i + k) 0 := by
  rw [List.getD_eq_getElem?_getD, List.getD_eq_getElem?_getD, List.getElem?_drop]
theorem nI_d1 {j : Nat} (h : 0 < j) : nI j + (-1 : Int32) = nI (j - 1) := by
  obtain ⟨m, rfl⟩ : ∃ m, j = m + 1 := ⟨j - 1, by omega⟩
  rw [← nI_1, Int32.add_assoc, show (1 : Int32) + (-1 : Int32) = 0 from rfl, Int32.add_zero]
  rfl
theorem rise_L5 {g : Nat → Int32} {M : List Nat} (h : f a = some (.inr (1, n, .inl g))) (hM : M.length = n) (hr : RW g M) (hv : ∀ x ∈ M, x < 2 ^ 20) (hn : n < 2 ^ 20) : ∀ (j z : Nat), j < n → j < z → m_X6_rise_L5 F z (some a) (nI j - (1 : Int32)) f = m_X6_rise_B26 F (some a) (nI (lowS M j) - (1 : Int32)) f := by
  intro j
  induction j with
  | zero =>
    intro z _ hz
    obtain ⟨z, rfl⟩ : ∃ j, z = j + 1 := ⟨z - 1, by omega⟩
    show m_X6_rise_b5 F _ _ _ _ = _
    unfold m_X6_rise_b5
    rw [if_pos (show nI 0 - (1 : Int32) < 0 by decide)]
    exact congrArg (fun v => m_X6_rise_B26 F (some a) (nI v - (1 : Int32)) f) (show 0 = lowS M 0 from rfl)
  | succ j ih =>
    intro z hj hz
    obtain ⟨z, rfl⟩ : ∃ j, z = j + 1 := ⟨z - 1, by omega⟩
    have h1 : j < M.length := by omega
    have h2 : j + 1 < M.length := by omega
    have b1 := hv _ (List.getElem_mem h1)
    have b2 := hv _ (List.getElem_mem h2)
    show m_X6_rise_b5 F _ _ _ _ = _
    unfold m_X6_rise_b5
    rw [nI_m1 (by omega), show j + 1 - 1 = j from rfl, if_neg (nI_pos (by omega)), bd_e (ldI_e h (by omega) (by omega)), nI_1, bd_e (ldI_e h (by omega) (by omega)), hr j h1, hr (j + 1) h2]
    have hu : lowS M (j + 1) = if M.getD j 0 ≤ M.getD (j + 1) 0 then j + 1 else lowS M j := rfl
    rw [hu, getD_e h1, getD_e h2]
    by_cases q : M[j] ≤ M[j + 1]
    · rw [if_pos (nI_le q (by omega)), if_pos q, nI_m1 (by omega)]
      rfl
    · rw [if_neg (nI_ge (by omega) (by omega)), if_neg q, nm_e2, show nI j + (-1 : Int32) = nI j - (1 : Int32) by rw [Int32.sub_eq_add_neg]]
      exact ih z (by omega) (by omega)
theorem rise_L36 {g : Nat → Int32} {M : List Nat} (h : f a = some (.inr (1, n, .inl g))) (hM : M.length = n) (hr : RW g M) (hv : ∀ x ∈ M, x < 2 ^ 20) (hn : n < 2 ^ 20) {lo : Nat} (hlo : lo < n) : ∀ (j z : Nat), lo < j → j < n → j < z → M.getD lo 0 ≤ M.getD (lo + 1) 0 → m_X6_rise_L36 F z (some a) (nI lo) (nI j) f = m_X6_rise_B56 F (some a) (nI lo) (nI (highS M (M.getD lo 0) lo j)) f := by
  intro j
  induction j with
  | zero => intro z h0; exact absurd h0 (Nat.not_lt_zero _)
  | succ j ih =>
    intro z hl hj hz hle
    obtain ⟨z, rfl⟩ : ∃ j, z = j + 1 := ⟨z - 1, by omega⟩
    have h1 : lo < M.length := by omega
    have h2 : j + 1 < M.length := by omega
    have b1 := hv _ (List.getElem_mem h1)
    have b2 := hv _ (List.getElem_mem h2)
    show m_X6_rise_b36 F _ _ _ _ _ = _
    unfold m_X6_rise_b36
    rw [if_neg (nI_ge (by omega) (by omega)), bd_e (ldI_e h (by omega) (by omega)), bd_e (ldI_e h hlo (by omega)), hr (j + 1) h2, hr lo h1]
    have hu : highS M (M.getD lo 0) lo (j + 1) = if j + 1 ≤ lo then j + 1 else if M.getD lo 0 ≤ M.getD (j + 1) 0 then j + 1 else highS M (M.getD lo 0) lo j := rfl
    rw [hu, if_neg (by omega : ¬ j + 1 ≤ lo)]
    by_cases q : M.getD lo 0 ≤ M.getD (j + 1) 0
    · rw [if_pos q]
      rw [getD_e h1, getD_e h2] at q
      rw [if_pos (nI_le q (by omega))]
    · rw [if_neg q]
      have hlj : lo < j := by
        apply Classical.byContradiction
        intro e
        have : j = lo := by omega
        subst this
        exact q hle
      rw [getD_e h1, getD_e h2] at q
      rw [if_neg (nI_ge (by omega) (by omega)), nm_e2, nI_d1 (by omega)]
      exact ih z hlj (by omega) (by omega) hle
/-- the row becomes the next one as words rise; the last one stays -/
theorem rise_e {g : Nat → Int32} {N : Nat} {M : List Nat} (h : f a = some (.inr (1, N, .inl g))) (ha : 100 ≤ a) (hP : okP N M) (h2 : 2 ≤ N) (h7 : N ≤ 7) (hr : RW g M) (hF : 8 ≤ F) : ∃ g' M', m_X6_rise F (some a) f = some (va_up f a (some (.inr (1, N, .inl g')))) ∧ RW g' M' ∧ okP N M' ∧ (rkT M + 1 < fct N → rkT M' = rkT M + 1) := by
  have hv : ∀ x ∈ M, x < 2 ^ 20 := fun x hx => by have := hP.2.1 x hx; omega
  have hstart : m_X6_rise F (some a) f = m_X6_rise_B26 F (some a) (nI (lowS M (N - 1)) - (1 : Int32)) f := by
    unfold m_X6_rise
    rw [bd_e (alen_e h (by decide)), nm_e2, show nI N - (2 : Int32) = nI (N - 2) from nI_sub (b := 2) h2]
    have := rise_L5 (F := F) h hP.2.2 hr hv (by omega) (N - 1) F (by omega) (by omega)
    rw [nI_m1 (by omega), show N - 1 - 1 = N - 2 by omega] at this
    exact this
  obtain ⟨l1, l2, l3⟩ := lowS_p (M := M) (N - 1)
  rw [hstart]
  by_cases h0 : lowS M (N - 1) = 0
  · refine ⟨g, M, ?_, hr, hP, ?_⟩
    · unfold m_X6_rise_B26
      rw [h0, if_neg (by decide), up_id h]
    · intro hlt
      have hd : M.Pairwise (fun a b => b < a) := desc_pw M (fun k hk => l2 k (by omega) (by have := hP.2.2; omega))
      have := rkT_desc hd
      rw [hP.2.2] at this
      omega
  · obtain ⟨lo, hlo⟩ : ∃ lo, lowS M (N - 1) = lo + 1 := ⟨lowS M (N - 1) - 1, by omega⟩
    rw [hlo] at l1 l2 l3 ⊢
    have hle : M.getD lo 0 ≤ M.getD (lo + 1) 0 := l3 (Nat.succ_pos _)
    obtain ⟨k1, k2, k3, k4⟩ := highS_p (M := M) (v := M.getD lo 0) (lo := lo) (N - 1) (by omega) hle
    have hgo : m_X6_rise_B26 F (some a) (nI (lo + 1) - (1 : Int32)) f = m_X6_rise_B56 F (some a) (nI lo) (nI (highS M (M.getD lo 0) lo (N - 1))) f := by
      unfold m_X6_rise_B26
      rw [nI_m1 (by omega), show lo + 1 - 1 = lo from rfl, if_pos (nI_pos' (by omega)), bd_e (alen_e h (by decide)), nm_e2, nI_m1 (by omega)]
      exact rise_L36 (F := F) h hP.2.2 hr hv (by omega) (by omega) (N - 1) F (by omega) (by omega) (by omega) hle
    generalize hh : highS M (M.getD lo 0) lo (N - 1) = hi at *
    obtain ⟨g', e1, e2⟩ := rise_rev (F := F) (f := f) ha (n := N) (by omega) (g0 := xch g lo hi) (lo := lo + 1) (s := lo + N) (by omega) (by omega) N (lo + 1) (N - 1) F (xch g lo hi) (by omega) (by omega) (by omega) (by omega) (fun k hk => by rw [if_neg (by omega)])
    have hlen := hP.2.2
    -- the list in its pieces
    have c1 := cut_at (M := M) (k := lo) (by omega)
    have c2 := cut_at (M := M.drop (lo + 1)) (k := hi - lo - 1) (by rw [List.length_drop]; omega)
    have gd : (M.drop (lo + 1)).getD (hi - lo - 1) 0 = M.getD hi 0 := by
      rw [List.getD_eq_getElem?_getD, List.getD_eq_getElem?_getD, List.getElem?_drop, show lo + 1 + (hi - lo - 1) = hi by omega]
    have dd : (M.drop (lo + 1)).drop (hi - lo - 1 + 1) = M.drop (hi + 1) := by
      rw [List.drop_drop, show lo + 1 + (hi - lo - 1 + 1) = hi + 1 by omega]
    rw [gd, dd] at c2
    generalize hA : M.take lo = A at *
    generalize hD1 : (M.drop (lo + 1)).take (hi - lo - 1) = D1 at *
    generalize hD2 : M.drop (hi + 1) = D2 at *
    have lA : A.length = lo := by rw [← hA, List.length_take]; omega
    have lD1 : D1.length = hi - lo - 1 := by rw [← hD1, List.length_take, List.length_drop]; omega
    have lD2 : D2.length = N - (hi + 1) := by rw [← hD2, List.length_drop, hlen]
    have hne : M.getD lo 0 ≠ M.getD hi 0 := by
      rw [getD_e (by omega : lo < M.length), getD_e (by omega : hi < M.length)]
      intro e
      have i1 := hP.1.idxOf_getElem lo (by omega)
      have i2 := hP.1.idxOf_getElem hi (by omega)
      rw [e] at i1
      omega
    have hdesc : (D1 ++ M.getD hi 0 :: D2).Pairwise (fun a b => b < a) := by
      rw [← c2]
      refine desc_pw _ (fun k hk => ?_)
      rw [List.length_drop] at hk
      have := l2 (lo + 1 + k) (by omega) (by omega)
      rw [List.getD_eq_getElem?_getD, List.getD_eq_getElem?_getD, List.getElem?_drop, List.getElem?_drop, ← List.getD_eq_getElem?_getD, ← List.getD_eq_getElem?_getD]
      exact this
    have hD2lt : ∀ x ∈ D2, x < M.getD lo 0 := by
      intro x hx
      rw [← hD2] at hx
      obtain ⟨i, hi1, hi2⟩ := List.getElem_of_mem hx
      rw [List.length_drop] at hi1
      have := k4 (hi + 1 + i) (by omega) (by omega)
      rw [getD_e (by omega)] at this
      rw [List.getElem_drop] at hi2
      omega
    obtain ⟨r1, r2⟩ := rise_rk (A := A) hdesc (by omega) hD2lt
    rw [← c2, ← c1] at r1 r2
    refine ⟨g', A ++ M.getD hi 0 :: (D1 ++ M.getD lo 0 :: D2).reverse, ?_, ?_, hP.of_perm r2, fun _ => r1⟩
    · rw [hgo]
      unfold m_X6_rise_B56
      rw [bd_e (exchange_e h ha (by omega) (by omega) (by omega)), nm_e2, bd_e (alen_e up_s (by decide)), nm_e2, nI_1, nI_m1 (by omega)]
      exact e1
    · intro k hk
      have hk' : k < N := by
        rw [← r2.length_eq] at hk
        omega
      have hM0 : ∀ i, i < N → g i = nI (M.getD i 0) := fun i hi' => by rw [getD_e (by omega), hr i (by omega)]
      rw [e2 k hk', ← getD_e hk]
      by_cases q1 : k < lo
      · rw [if_neg (by omega), xch_at, if_neg (by omega), if_neg (by omega), hM0 k hk']
        have e3 : M.getD k 0 = (A ++ M.getD lo 0 :: M.drop (lo + 1)).getD k 0 := congrArg (fun X => X.getD k 0) c1
        rw [e3, gD_l (by omega), gD_l (by omega)]
      · by_cases q2 : k = lo
        · subst q2
          rw [if_neg (by omega), xch_at, if_neg (by omega), if_pos rfl, hM0 hi (by omega)]
          rw [gD_r (by omega), lA, Nat.sub_self]
          rfl
        · rw [if_pos (by omega), xch_at]
          have hrev : (A ++ M.getD hi 0 :: (D1 ++ M.getD lo 0 :: D2).reverse).getD k 0 = (D1 ++ M.getD lo 0 :: D2).getD (N - 1 - k) 0 := by
            rw [List.getD_eq_getElem?_getD, List.getElem?_append_right (by omega), lA, show k - lo = (k - lo - 1) + 1 by omega, List.getElem?_cons_succ, List.getElem?_reverse (by simp; omega), List.getD_eq_getElem?_getD]
            congr 2
            simp
            omega
          rw [hrev]
          by_cases q3 : lo + N - k = hi
          · rw [if_pos q3, hM0 lo (by omega)]
            rw [gD_r (by omega), show N - 1 - k - D1.length = 0 by omega]
            rfl
          · rw [if_neg q3, if_neg (by omega), hM0 _ (by omega)]
            have hx : M.getD (lo + N - k) 0 = (D1 ++ M.getD hi 0 :: D2).getD (N - 1 - k) 0 := by
              rw [← c2, gD_d, show lo + 1 + (N - 1 - k) = lo + N - k by omega]
            rw [hx]
            by_cases q4 : N - 1 - k < D1.length
            · rw [gD_l q4, gD_l q4]
            · rw [gD_r (by omega), gD_r (by omega), show N - 1 - k - D1.length = (N - 1 - k - D1.length - 1) + 1 by omega]
              rfl
end FILL
