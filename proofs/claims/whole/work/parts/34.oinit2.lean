/-! all orders of N lines are laid: the loop over them -/
section OINIT2
variable {F : Nat} {f : Hp} {o N : Nat}
/-- the orders below x are laid; the row holds the x-th -/
def OI (f0 : Hp) (o N x : Nat) (f : Hp) : Prop :=
  f o = some (.inl (5, objN o N)) ∧
  (∃ P, f (o + 1) = some (.inr (1, fct N, .inl P)) ∧ ∀ y, y < x → P y = nI (pkN (unrk N y))) ∧
  (∃ T, f (o + 2) = some (.inr (1, fct N, .inl T)) ∧ ∀ y, y < x → T y = nI (bitsOf 21 (tnB (unrk N y)))) ∧
  (∃ E, f (o + 3) = some (.inr (1, fct N * (N - 1), .inl E)) ∧ ∀ y, y < x → ∀ p, p < N - 1 → E (y * (N - 1) + p) = nI (exN N y p)) ∧
  (∃ q, f (o + 4) = some (.inr (2, fct N, .inr (.inl q)))) ∧ (∃ q, f (o + 5) = some (.inr (2, fct N, .inr (.inl q)))) ∧ (∃ q, f (o + 6) = some (.inr (2, fct N, .inr (.inl q)))) ∧
  (∃ cs, f (o + 7) = some (.inl (0, cs)) ∧ cs.length = 6) ∧
  (∃ g M, f (o + 8) = some (.inr (1, N, .inl g)) ∧ RW g M ∧ okP N M ∧ (x < fct N → M = unrk N x)) ∧
  ∀ a, a < o ∨ o + 9 ≤ a → f a = f0 a
theorem idx_ne2 {N x y p q : Nat} (hp : p < N - 1) (hq : q < N - 1) (h : y < x) : y * (N - 1) + p ≠ x * (N - 1) + q := by
  have h1 : (y + 1) * (N - 1) ≤ x * (N - 1) := Nat.mul_le_mul_right _ h
  rw [Nat.add_mul] at h1
  omega
theorem oinit_L {f0 : Hp} (S : St4 f0) (ho : 100 ≤ o) (h2 : 2 ≤ N) (h7 : N ≤ 7) (hF : 8 ≤ F) {na za : Nat} : ∀ (d x z : Nat) (f : Hp), x + d = fct N → d < z → OI f0 o N x f → ∃ f', m_X6_init_L159 F z (some o) (some (o + 7)) (some (o + 8)) (nI x) f na za = some (f', na, za) ∧ OI f0 o N (fct N) f' := by
  have h5 := fct_le N (by omega)
  intro d
  induction d with
  | zero =>
    intro x z f hx hz hI
    obtain ⟨z, rfl⟩ : ∃ j, z = j + 1 := ⟨z - 1, by omega⟩
    have : x = fct N := by omega
    subst this
    refine ⟨f, ?_, hI⟩
    show m_X6_init_b159 F _ _ _ _ _ _ _ _ = _
    unfold m_X6_init_b159
    rw [bd_e (gI_e hI.1 rfl), if_pos (nI_le (Nat.le_refl _) (by omega))]
  | succ d ih =>
    intro x z f hx hz hI
    obtain ⟨z, rfl⟩ : ∃ j, z = j + 1 := ⟨z - 1, by omega⟩
    have hxl : x < fct N := by omega
    obtain ⟨i0, ⟨P, p1, p2⟩, ⟨T, t1, t2⟩, ⟨E, e1, e2⟩, i4, i5, i6, ⟨cs, c1, c2⟩, ⟨g, M, w1, w2, w3, w4⟩, fr⟩ := hI
    have hM := w4 hxl
    have hL := w3.L h7
    -- the heap behind packed and turned
    let fA : Hp := va_up f (o + 7) (some (.inl (0, cC 0 M)))
    let fB : Hp := va_up fA (o + 1) (some (.inr (1, fct N, .inl (upd P x (nI (pkN M))))))
    let fC : Hp := va_up fB (o + 2) (some (.inr (1, fct N, .inl (upd T x (nI (bitsOf 21 (tnB M)))))))
    have SC : St4 fC := fun a ha => by
      show va_up (va_up (va_up f _ _) _ _) _ _ a = _
      rw [up_n (by omega), up_n (by omega), up_n (by omega), fr a (Or.inl (by omega))]
      exact S a ha
    have oC : fC o = some (.inl (5, objN o N)) := by
      show va_up (va_up (va_up f _ _) _ _) _ _ o = _
      rw [up_n (by omega), up_n (by omega), up_n (by omega)]
      exact i0
    have cCC : fC (o + 7) = some (.inl (0, cC 0 M)) := by
      show va_up (va_up (va_up f _ _) _ _) _ _ (o + 7) = _
      rw [up_n (by omega), up_n (by omega), up_s]
    have eC : fC (o + 3) = some (.inr (1, fct N * (N - 1), .inl E)) := by
      show va_up (va_up (va_up f _ _) _ _) _ _ (o + 3) = _
      rw [up_n (by omega), up_n (by omega), up_n (by omega)]
      exact e1
    have wC : fC (o + 8) = some (.inr (1, N, .inl g)) := by
      show va_up (va_up (va_up f _ _) _ _) _ _ (o + 8) = _
      rw [up_n (by omega), up_n (by omega), up_n (by omega)]
      exact w1
    obtain ⟨E', k1, k2, k3⟩ := putEx_L (F := F) SC ho h2 h7 hF oC hxl (c := o + 7) (by rw [← hM]; exact cCC) (by omega) (N - 1) 0 F E (by omega) (by omega)
    rw [up_id eC] at k1
    obtain ⟨g', M', r1, r2, r3, r4⟩ := rise_e (F := F) (f := va_up fC (o + 3) (some (.inr (1, fct N * (N - 1), .inl E')))) (a := o + 8) (by rw [up_n (by omega)]; exact wC) (by omega) w3 h2 h7 w2 hF
    obtain ⟨f', q1, q2⟩ := ih (x + 1) z (va_up (va_up fC (o + 3) (some (.inr (1, fct N * (N - 1), .inl E')))) (o + 8) (some (.inr (1, N, .inl g')))) (by omega) (by omega) (by
      refine ⟨?_, ⟨upd P x (nI (pkN M)), ?_, ?_⟩, ⟨upd T x (nI (bitsOf 21 (tnB M))), ?_, ?_⟩, ⟨E', ?_, ?_⟩, ?_, ?_, ?_, ⟨cC 0 M, ?_, rfl⟩, ⟨g', M', up_s, r2, r3, ?_⟩, ?_⟩
      · rw [up_n (by omega), up_n (by omega)]; exact oC
      · rw [up_n (by omega), up_n (by omega)]
        show va_up (va_up (va_up f _ _) _ _) _ _ (o + 1) = _
        rw [up_n (by omega), up_s]
      · intro y hy
        by_cases e : y = x
        · rw [e, upd_s, hM]
        · rw [upd_n e]; exact p2 y (by omega)
      · rw [up_n (by omega), up_n (by omega)]
        show va_up (va_up (va_up f _ _) _ _) _ _ (o + 2) = _
        rw [up_s]
      · intro y hy
        by_cases e : y = x
        · rw [e, upd_s, hM]
        · rw [upd_n e]; exact t2 y (by omega)
      · rw [up_n (by omega), up_s]
      · intro y hy p hp
        by_cases e : y = x
        · rw [e]; exact k2 p (Nat.zero_le _) hp
        · rw [k3 _ (fun q _ hq => idx_ne2 hp hq (by omega))]
          exact e2 y (by omega) p hp
      · obtain ⟨q, hq⟩ := i4
        refine ⟨q, ?_⟩
        rw [up_n (by omega), up_n (by omega)]
        show va_up (va_up (va_up f _ _) _ _) _ _ (o + 4) = _
        rw [up_n (by omega), up_n (by omega), up_n (by omega)]
        exact hq
      · obtain ⟨q, hq⟩ := i5
        refine ⟨q, ?_⟩
        rw [up_n (by omega), up_n (by omega)]
        show va_up (va_up (va_up f _ _) _ _) _ _ (o + 5) = _
        rw [up_n (by omega), up_n (by omega), up_n (by omega)]
        exact hq
      · obtain ⟨q, hq⟩ := i6
        refine ⟨q, ?_⟩
        rw [up_n (by omega), up_n (by omega)]
        show va_up (va_up (va_up f _ _) _ _) _ _ (o + 6) = _
        rw [up_n (by omega), up_n (by omega), up_n (by omega)]
        exact hq
      · rw [up_n (by omega), up_n (by omega)]; exact cCC
      · intro hx1
        have hr := r4 (by rw [hM, rk_unrk hxl]; exact hx1)
        rw [hM, rk_unrk hxl] at hr
        rw [← hr]
        exact (unrk_rk r3).symm
      · intro a ha
        rw [up_n (by omega), up_n (by omega)]
        show va_up (va_up (va_up f _ _) _ _) _ _ a = _
        rw [up_n (by omega), up_n (by omega), up_n (by omega)]
        exact fr a ha)
    refine ⟨f', ?_, q2⟩
    show m_X6_init_b159 F _ _ _ _ _ _ _ _ = _
    unfold m_X6_init_b159
    rw [bd_e (gI_e i0 rfl), if_neg (nI_ge hxl (by omega)), ck_e (isO_e c1)]
    refine grow_s ?_ (Nat.le_refl _) (Nat.le_refl _)
    rw [bd_e (cclear_e F c1 c2)]
    refine append_all (F := F) (f := f) (M := M) (g := g) h7 hF w3 i0 w1 w2 (by omega) (by omega) ?_ N 0 F (by omega) (by omega)
    unfold m_X6_init_B198
    have oA : fA o = some (.inl (5, objN o N)) := by
      show va_up f _ _ o = _
      rw [up_n (by omega)]; exact i0
    have cA : fA (o + 7) = some (.inl (0, cC 0 M)) := up_s
    have pA : fA (o + 1) = some (.inr (1, fct N, .inl P)) := by
      show va_up f _ _ _ = _
      rw [up_n (by omega)]; exact p1
    have oB : fB o = some (.inl (5, objN o N)) := by
      show va_up fA _ _ o = _
      rw [up_n (by omega)]; exact oA
    have cB : fB (o + 7) = some (.inl (0, cC 0 M)) := by
      show va_up fA _ _ _ = _
      rw [up_n (by omega)]; exact cA
    have tB : fB (o + 2) = some (.inr (1, fct N, .inl T)) := by
      show va_up (va_up f _ _) _ _ _ = _
      rw [up_n (by omega), up_n (by omega)]; exact t1
    rw [bd_e (gR_s oA rfl), bd_e (gI_e cA rfl), bd_e (stI1 pA hxl (by omega) (by omega)), bd_e (gR_s oB rfl), bd_e (gI_e cB rfl), bd_e (stI1 tB hxl (by omega) (by omega)), ck_e (isO_e oC)]
    refine grow_s ?_ (Nat.le_refl _) (Nat.le_refl _)
    have k1' : m_X6_putExchanges F (some o) (nI x) (some (o + 7)) fC = _ := k1
    refine (bd_e k1').trans ?_
    refine grow_s ?_ (Nat.le_refl _) (Nat.le_refl _)
    rw [bd_e r1, nm_e2, nI_1]
    exact q1
theorem orow_L {w : Nat} (hw : 100 ≤ w) (h7 : N ≤ 7) {v2 : Nat} {fo : List Value} {rest : Option (Hp × Nat × Nat)} (hO : f o = some (.inl (5, fo))) (hl : fo[0]? = some (.int (nI N))) (how : o ≠ w) {na za : Nat} : ∀ (d i z : Nat) (g : Nat → Int32), i + d = N → d < z → (∀ j, j < i → g j = nI j) → ∃ g', (∀ j, j < N → g' j = nI j) ∧ m_X6_init_L135 F z (some o) (some v2) (some w) (nI i) (va_up f w (some (.inr (1, N, .inl g)))) na za = m_X6_init_L159 F F (some o) (some v2) (some w) (0 : Int32) (va_up f w (some (.inr (1, N, .inl g')))) na za := by
  intro d
  induction d with
  | zero =>
    intro i z g hi hz hg
    obtain ⟨z, rfl⟩ : ∃ j, z = j + 1 := ⟨z - 1, by omega⟩
    refine ⟨g, fun j hj => hg j (by omega), ?_⟩
    show m_X6_init_b135 F _ _ _ _ _ _ _ _ = _
    unfold m_X6_init_b135
    rw [gI_o how, bd_e (gI_e hO hl), if_pos (nI_le (by omega) (by omega))]
  | succ d ih =>
    intro i z g hi hz hg
    obtain ⟨z, rfl⟩ : ∃ j, z = j + 1 := ⟨z - 1, by omega⟩
    obtain ⟨g', h1, h2⟩ := ih (i + 1) z (upd g i (nI i)) (by omega) (by omega) (fun j hj => by
      by_cases e : j = i
      · rw [e, upd_s]
      · rw [upd_n e]; exact hg j (by omega))
    refine ⟨g', h1, ?_⟩
    show m_X6_init_b135 F _ _ _ _ _ _ _ _ = _
    unfold m_X6_init_b135
    rw [gI_o how, bd_e (gI_e hO hl), if_neg (nI_ge (by omega) (by omega)), bd_e (stI1 up_s (by omega) (by omega) hw), nm_e2, nI_1, up_up]
    exact h2
theorem lines_k : ∀ n, n < 8 → 2 ≤ n → imax (2 : Int32) (imin (7 : Int32) (nI n)) = nI n := by decide +kernel
theorem pairs_k : ∀ n, n < 8 → ((1 : Int32) <<< (((nI n * (nI n - (1 : Int32))) / (2 : Int32)) &&& 31)) - (1 : Int32) = nI (bitsOf 21 (allP n)) := by decide +kernel
theorem unrk_0 : ∀ n, n < 8 → unrk n 0 = List.range n := by decide +kernel
/-- the object's cell may lie beneath other cells -/
theorem gI_b {f : Hp} {b ci k a : Nat} {fs : List Value} {c : Option AC} {x : Int32} (hne : b ≠ a) (h : f b = some (.inl (ci, fs))) (hk : fs[k]? = some (.int x)) : gI (va_up f a c) (some b) ci k = some x := gI_e (by rw [up_n hne]; exact h) hk
theorem st_al {g : Hp} {o q ci k : Nat} {fs : List Value} {c : Option AC} {v : Value} (hq : q ≠ o) (hk : k < fs.length) : pV (va_up (va_up g o (some (.inl (ci, fs)))) q c) (some o) ci k v = some (va_up (va_up g q c) o (some (.inl (ci, fs.set k v)))) := by
  rw [pV_e (by rw [up_n (Ne.symm hq), up_s]) hk, up_comm g (Ne.symm hq), up_up]
theorem ok_len {n : Nat} (h : n ≤ 100000) : decide (¬ nI n < 0 ∧ Int32.toNatClampNeg (nI n) ≤ 100000) = true := decide_eq_true ⟨nI_pos (by omega), by rw [nI_cl (by omega)]; exact h⟩
theorem oinit_e {f : Hp} (S : St4 f) (ho : 100 ≤ o) (h2 : 2 ≤ N) (h7 : N ≤ 7) (hF : 5041 ≤ F) (hO : f o = some (.inl (5, [.int 0, .int 0, .int 0, .null, .null, .null, .null, .null, .null]))) (z : Nat) : ∃ f' z', m_X6_init F (some o) (nI N) f (o + 1) z = some (f', o + 9, z') ∧ z ≤ z' ∧ z' ≤ z + 60000 ∧ OAt f' o N ∧ ∀ a, a < o ∨ o + 9 ≤ a → f' a = f a := by
  have h5 := fct_le N (by omega)
  have hf0 := fct_pos N
  have hK : fct N * (N - 1) ≤ 5040 * 6 := Nat.mul_le_mul h5 (by omega)
  let G6 : Hp := va_up (va_up (va_up (va_up (va_up (va_up f (o + 1) (some (.inr (1, fct N, .inl fun _ => 0)))) (o + 2) (some (.inr (1, fct N, .inl fun _ => 0)))) (o + 3) (some (.inr (1, fct N * (N - 1), .inl fun _ => 0)))) (o + 4) (some (.inr (2, fct N, .inr (.inl fun _ => 0))))) (o + 5) (some (.inr (2, fct N, .inr (.inl fun _ => 0))))) (o + 6) (some (.inr (2, fct N, .inr (.inl fun _ => 0))))
  let G7 : Hp := va_up (va_up G6 o (some (.inl (5, objN o N)))) (o + 7) (some (.inl (0, [.long 0, .int 0, .int 0, .int 0, .int 0, .int 0])))
  have o7 : G7 o = some (.inl (5, objN o N)) := by
    show va_up (va_up G6 _ _) _ _ o = _
    rw [up_n (by omega), up_s]
  obtain ⟨g', r1, r2⟩ := orow_L (F := F) (f := G7) (o := o) (N := N) (w := o + 8) (by omega) h7 (v2 := o + 7) (rest := none) o7 rfl (by omega) (na := o + 9) (za := z + fct N + fct N + fct N * (N - 1) + fct N + fct N + fct N + 6 + N) N 0 F (fun _ => 0) (by omega) (by omega) (fun j hj => absurd hj (Nat.not_lt_zero _))
  obtain ⟨f', q1, q2⟩ := oinit_L (F := F) (o := o) (N := N) (f0 := f) S ho h2 h7 (by omega) (na := o + 9) (za := z + fct N + fct N + fct N * (N - 1) + fct N + fct N + fct N + 6 + N) (fct N) 0 F (va_up G7 (o + 8) (some (.inr (1, N, .inl g')))) (by omega) (by omega) (by
    have hx : ∀ a, a ≠ o + 8 → va_up G7 (o + 8) (some (.inr (1, N, .inl g'))) a = G7 a := fun a ha => up_n ha
    have h6 : ∀ a, a ≠ o + 7 → a ≠ o → G7 a = G6 a := fun a h1 h2 => by
      show va_up (va_up G6 _ _) _ _ a = _
      rw [up_n h1, up_n h2]
    refine ⟨?_, ⟨fun _ => 0, ?_, fun y hy => absurd hy (Nat.not_lt_zero _)⟩, ⟨fun _ => 0, ?_, fun y hy => absurd hy (Nat.not_lt_zero _)⟩, ⟨fun _ => 0, ?_, fun y hy => absurd hy (Nat.not_lt_zero _)⟩, ⟨fun _ => 0, ?_⟩, ⟨fun _ => 0, ?_⟩, ⟨fun _ => 0, ?_⟩, ⟨[.long 0, .int 0, .int 0, .int 0, .int 0, .int 0], ?_, rfl⟩, ⟨g', List.range N, up_s, ?_, ?_, fun _ => (unrk_0 N (by omega)).symm⟩, ?_⟩
    · rw [hx _ (by omega)]; exact o7
    · rw [hx _ (by omega), h6 _ (by omega) (by omega)]
      show va_up (va_up (va_up (va_up (va_up (va_up f _ _) _ _) _ _) _ _) _ _) _ _ (o + 1) = _
      rw [up_n (by omega), up_n (by omega), up_n (by omega), up_n (by omega), up_n (by omega), up_s]
    · rw [hx _ (by omega), h6 _ (by omega) (by omega)]
      show va_up (va_up (va_up (va_up (va_up (va_up f _ _) _ _) _ _) _ _) _ _) _ _ (o + 2) = _
      rw [up_n (by omega), up_n (by omega), up_n (by omega), up_n (by omega), up_s]
    · rw [hx _ (by omega), h6 _ (by omega) (by omega)]
      show va_up (va_up (va_up (va_up (va_up (va_up f _ _) _ _) _ _) _ _) _ _) _ _ (o + 3) = _
      rw [up_n (by omega), up_n (by omega), up_n (by omega), up_s]
    · rw [hx _ (by omega), h6 _ (by omega) (by omega)]
      show va_up (va_up (va_up (va_up (va_up (va_up f _ _) _ _) _ _) _ _) _ _) _ _ (o + 4) = _
      rw [up_n (by omega), up_n (by omega), up_s]
    · rw [hx _ (by omega), h6 _ (by omega) (by omega)]
      show va_up (va_up (va_up (va_up (va_up (va_up f _ _) _ _) _ _) _ _) _ _) _ _ (o + 5) = _
      rw [up_n (by omega), up_s]
    · rw [hx _ (by omega), h6 _ (by omega) (by omega)]
      show va_up (va_up (va_up (va_up (va_up (va_up f _ _) _ _) _ _) _ _) _ _) _ _ (o + 6) = _
      rw [up_s]
    · rw [hx _ (by omega)]
      show va_up (va_up G6 _ _) _ _ (o + 7) = _
      rw [up_s]
    · intro i hi
      rw [List.length_range] at hi
      rw [r1 i hi, List.getElem_range]
    · exact ⟨List.nodup_range, fun x hx => List.mem_range.mp hx, List.length_range⟩
    · intro a ha
      rw [hx _ (by omega), h6 _ (by omega) (by omega)]
      show va_up (va_up (va_up (va_up (va_up (va_up f _ _) _ _) _ _) _ _) _ _) _ _ a = _
      rw [up_n (by omega), up_n (by omega), up_n (by omega), up_n (by omega), up_n (by omega), up_n (by omega)])
  obtain ⟨a0, ⟨P, p1, p2⟩, ⟨T, t1, t2⟩, ⟨E, e1, e2⟩, i4, i5, i6, -, -, fr⟩ := q2
  refine ⟨f', z + fct N + fct N + fct N * (N - 1) + fct N + fct N + fct N + 6 + N, ?_, by omega, by omega, ⟨o + 4, o + 5, Or.inl ⟨rfl, rfl⟩, a0, ⟨P, p1, p2⟩, ⟨T, t1, t2⟩, ⟨E, e1, e2⟩, i4, i5, i6⟩, fr⟩
  have hall := r2.trans q1
  unfold m_X6_init
  rw [ck_e (b := isS (some o)) rfl]
  refine grow_s ?_ (by show o + 1 ≤ o + 9; omega) (by show z ≤ z + fct N + fct N + fct N * (N - 1) + fct N + fct N + fct N + 6 + N; omega)
  refine grow_s ?_ (by show o + 1 ≤ o + 9; omega) (by show z ≤ z + fct N + fct N + fct N * (N - 1) + fct N + fct N + fct N + 6 + N; omega)
  rw [lines_k N (by omega) h2, bd_e (pV_e hO (by simp)), bd_e (gI_u rfl)]
  refine grow_s ?_ (by show o + 1 ≤ o + 9; omega) (by show z ≤ z + fct N + fct N + fct N * (N - 1) + fct N + fct N + fct N + 6 + N; omega)
  rw [bd_e (factorial_e (fun a ha => by rw [up_n (by omega)]; exact S a ha) (by omega)), bd_e (pV_u (by simp)), bd_e (gI_u rfl), bd_e (gI_u rfl), ck_e (by decide), pairs_k N (by omega), bd_e (pV_u (by simp)), bd_e (gI_u rfl), ck_e (ok_len (by omega))]
  have tN : Int32.toNatClampNeg (nI (fct N)) = fct N := nI_cl (by omega)
  have tK : Int32.toNatClampNeg (nI (fct N * (N - 1))) = fct N * (N - 1) := nI_cl (by omega)
  rw [tN]
  refine grow_s ?_ (by show _ ≤ o + 9; omega) (by show _ ≤ z + fct N + fct N + fct N * (N - 1) + fct N + fct N + fct N + 6 + N; omega)
  rw [nm_e2, bd_e (st_al (by omega) (by simp)), bd_e (gI_u rfl), ck_e (ok_len (by omega)), tN]
  refine grow_s ?_ (by show _ ≤ o + 9; omega) (by show _ ≤ z + fct N + fct N + fct N * (N - 1) + fct N + fct N + fct N + 6 + N; omega)
  rw [nm_e2, bd_e (st_al (by omega) (by simp)), bd_e (gI_u rfl), bd_e (gI_u rfl), nI_m1 (by omega), nI_mul, ck_e (ok_len (by omega)), tK]
  refine grow_s ?_ (by show _ ≤ o + 9; omega) (by show _ ≤ z + fct N + fct N + fct N * (N - 1) + fct N + fct N + fct N + 6 + N; omega)
  rw [nm_e2, bd_e (st_al (by omega) (by simp)), bd_e (gI_u rfl), ck_e (ok_len (by omega)), tN]
  refine grow_s ?_ (by show _ ≤ o + 9; omega) (by show _ ≤ z + fct N + fct N + fct N * (N - 1) + fct N + fct N + fct N + 6 + N; omega)
  rw [nm_e2, bd_e (st_al (by omega) (by simp)), bd_e (gI_u rfl), ck_e (ok_len (by omega)), tN]
  refine grow_s ?_ (by show _ ≤ o + 9; omega) (by show _ ≤ z + fct N + fct N + fct N * (N - 1) + fct N + fct N + fct N + 6 + N; omega)
  rw [nm_e2, bd_e (st_al (by omega) (by simp)), bd_e (gI_u rfl), ck_e (ok_len (by omega)), tN]
  refine grow_s ?_ (by show _ ≤ o + 9; omega) (by show _ ≤ z + fct N + fct N + fct N * (N - 1) + fct N + fct N + fct N + 6 + N; omega)
  rw [nm_e2, bd_e (st_al (by omega) (by simp))]
  refine grow_s ?_ (by show _ ≤ o + 9; omega) (by show _ ≤ z + fct N + fct N + fct N * (N - 1) + fct N + fct N + fct N + 6 + N; omega)
  rw [nm_e2]
  refine grow_s ?_ (by show _ ≤ o + 9; omega) (by show _ ≤ z + fct N + fct N + fct N * (N - 1) + fct N + fct N + fct N + 6 + N; omega)
  unfold m_X1_init
  rw [ck_e (b := isS _) rfl, bd_some, gI_o (by omega), bd_e (gI_u rfl), ck_e (ok_len (by omega)), nI_cl (by omega : N < 2 ^ 31)]
  refine grow_s ?_ (by show _ ≤ o + 9; omega) (by show _ ≤ z + fct N + fct N + fct N * (N - 1) + fct N + fct N + fct N + 6 + N; omega)
  rw [nm_e2]
  exact hall
end OINIT2
