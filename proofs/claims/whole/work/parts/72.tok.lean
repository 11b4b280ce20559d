/-! TOKENS told by mathematical values; the class's -/
def blB (c : Nat) : Bool := decide (c = 32) || decide (c = 10)
def ltB (c : Nat) : Bool := decide (97 ≤ c) && decide (c ≤ 122)
def dgB (c : Nat) : Bool := decide (48 ≤ c) && decide (c ≤ 57)
def snB (c : Nat) : Bool := decide (c = 59) || decide (c = 60) || decide (c = 61) || decide (c = 62) || decide (c = 40) || decide (c = 41)
def skF (B : Nat → Nat) : Nat → Nat → Nat
  | 0, p => p
  | d + 1, p => if blB (B p) then skF B d (p + 1) else p
def rnF (B : Nat → Nat) : Nat → Nat → Nat
  | 0, p => p
  | d + 1, p => if ltB (B p) || dgB (B p) then rnF B d (p + 1) else p
def byL (B : Nat → Nat) (a e : Nat) : List Nat := (List.range' a (e - a)).map B
def lts (M : List Nat) : List Nat := M.map (fun c => c - 96)
def vlD (M : List Nat) : Nat := M.foldl (fun v c => v * 10 + (c - 48)) 0
/-- kind, start, next, letters, number, sign -/
abbrev Tok : Type := Nat × Nat × Nat × List Nat × Nat × Nat
abbrev tK (t : Tok) : Nat := t.1
abbrev tA (t : Tok) : Nat := t.2.1
abbrev tB (t : Tok) : Nat := t.2.2.1
abbrev tL (t : Tok) : List Nat := t.2.2.2.1
abbrev tV (t : Tok) : Nat := t.2.2.2.2.1
abbrev tS (t : Tok) : Nat := t.2.2.2.2.2
/-- a run of letters and digits from a to e -/
def runM (a e : Nat) (M : List Nat) : Tok := if M.countP dgB = 0 ∧ M.length ≤ 7 then (2, a, e, lts M, 0, 0) else if M.countP ltB = 0 ∧ M.length ≤ 2 then (3, a, e, [], vlD M, 0) else (1, a, e, [], 0, 0)
def tokA (B : Nat → Nat) (n R a : Nat) : Tok := if a < min n R then (if ltB (B a) || dgB (B a) then runM a (rnF B (n - a) a) (byL B a (rnF B (n - a) a)) else if snB (B a) then (4, a, a + 1, [], 0, B a) else (1, a, a + 1, [], 0, 0)) else if n ≤ R then (0, n, n, [], 0, 0) else (1, R, R, [], 0, 0)
/-- the TOKEN that is next from p -/
def tokF (B : Nat → Nat) (n R p : Nat) : Tok := tokA B n R (skF B (min n R - p) p)
theorem skF_p (B : Nat → Nat) : ∀ d p, p ≤ skF B d p ∧ skF B d p ≤ p + d ∧ (∀ i, p ≤ i → i < skF B d p → blB (B i) = true) ∧ (skF B d p < p + d → blB (B (skF B d p)) = false)
  | 0, p => ⟨Nat.le_refl _, Nat.le_refl _, fun i h1 h2 => absurd h2 (by show ¬ i < p; omega), fun h => absurd h (by show ¬ p < p + 0; omega)⟩
  | d + 1, p => by
    have ih := skF_p B d (p + 1)
    cases e : blB (B p)
    · have q : skF B (d + 1) p = p := by show (if blB (B p) = true then _ else _) = _; rw [e]; rfl
      rw [q]
      exact ⟨Nat.le_refl _, by omega, fun i h1 h2 => by omega, fun _ => e⟩
    · have q : skF B (d + 1) p = skF B d (p + 1) := by show (if blB (B p) = true then _ else _) = _; rw [e]; rfl
      rw [q]
      refine ⟨by omega, by omega, fun i h1 h2 => ?_, fun h => ih.2.2.2 (by omega)⟩
      by_cases w : i = p
      · rw [w]; exact e
      · exact ih.2.2.1 i (by omega) h2
theorem rnF_p (B : Nat → Nat) : ∀ d p, p ≤ rnF B d p ∧ rnF B d p ≤ p + d ∧ (∀ i, p ≤ i → i < rnF B d p → (ltB (B i) || dgB (B i)) = true) ∧ (rnF B d p < p + d → (ltB (B (rnF B d p)) || dgB (B (rnF B d p))) = false)
  | 0, p => ⟨Nat.le_refl _, Nat.le_refl _, fun i h1 h2 => absurd h2 (by show ¬ i < p; omega), fun h => absurd h (by show ¬ p < p + 0; omega)⟩
  | d + 1, p => by
    have ih := rnF_p B d (p + 1)
    cases e : (ltB (B p) || dgB (B p))
    · have q : rnF B (d + 1) p = p := by show (if (ltB (B p) || dgB (B p)) = true then _ else _) = _; rw [e]; rfl
      rw [q]
      exact ⟨Nat.le_refl _, by omega, fun i h1 h2 => by omega, fun _ => e⟩
    · have q : rnF B (d + 1) p = rnF B d (p + 1) := by show (if (ltB (B p) || dgB (B p)) = true then _ else _) = _; rw [e]; rfl
      rw [q]
      refine ⟨by omega, by omega, fun i h1 h2 => ?_, fun h => ih.2.2.2 (by omega)⟩
      by_cases w : i = p
      · rw [w]; exact e
      · exact ih.2.2.1 i (by omega) h2
theorem byL_len (B : Nat → Nat) (a e : Nat) : (byL B a e).length = e - a := by unfold byL; rw [List.length_map, List.length_range']
theorem byL_s {B : Nat → Nat} {a i : Nat} (h : a ≤ i) : byL B a (i + 1) = byL B a i ++ [B i] := by
  unfold byL
  rw [show i + 1 - a = (i - a) + 1 by omega, List.range'_concat, List.map_append, Nat.one_mul, show a + (i - a) = i by omega]
  rfl
theorem byL_0 (B : Nat → Nat) (a : Nat) : byL B a a = [] := by unfold byL; rw [Nat.sub_self]; rfl
theorem byL_at {B : Nat → Nat} {a e i : Nat} (h : i < (byL B a e).length) : (byL B a e)[i] = B (a + i) := by
  have h' : i < ((List.range' a (e - a)).map B).length := h
  show ((List.range' a (e - a)).map B)[i]'h' = _
  rw [List.getElem_map, List.getElem_range', Nat.one_mul]
theorem byL_mem {B : Nat → Nat} {a e c : Nat} (h : c ∈ byL B a e) : ∃ i, a ≤ i ∧ i < e ∧ c = B i := by
  unfold byL at h
  obtain ⟨i, h1, h2⟩ := List.mem_map.mp h
  rw [List.mem_range'_1] at h1
  exact ⟨i, by omega, by omega, h2.symm⟩
theorem lts_app (M : List Nat) (c : Nat) : lts (M ++ [c]) = lts M ++ [c - 96] := by unfold lts; rw [List.map_append]; rfl
theorem vlD_app (M : List Nat) (c : Nat) : vlD (M ++ [c]) = vlD M * 10 + (c - 48) := by unfold vlD; rw [List.foldl_append]; rfl
theorem cntP_app (p : Nat → Bool) (M : List Nat) (c : Nat) : (M ++ [c]).countP p = M.countP p + if p c then 1 else 0 := by
  rw [List.countP_append, List.countP_singleton]
theorem ld_x (c : Nat) : ¬ (ltB c = true ∧ dgB c = true) := by
  rintro ⟨h1, h2⟩
  simp [ltB] at h1
  simp [dgB] at h2
  omega
theorem cntP_ld {M : List Nat} : (∀ c ∈ M, (ltB c || dgB c) = true) → M.countP ltB + M.countP dgB = M.length := by
  induction M with
  | nil => intro _; rfl
  | cons c M ih =>
    intro h
    have h1 := h c List.mem_cons_self
    have := ih (fun x hx => h x (List.mem_cons_of_mem _ hx))
    have hx := ld_x c
    rw [List.countP_cons, List.countP_cons, List.length_cons]
    cases e1 : ltB c <;> cases e2 : dgB c
    · rw [e1, e2] at h1; exact absurd h1 (by decide)
    · simp; omega
    · simp; omega
    · exact absurd ⟨e1, e2⟩ hx
theorem cntP_0 {p : Nat → Bool} {M : List Nat} (h : M.countP p = 0) : ∀ c ∈ M, p c = false := fun c hc => by
  have := List.countP_eq_zero.mp h c hc
  simpa using this
/-- what a TOKEN keeps to -/
def tkO (B : Nat → Nat) (n R p : Nat) (t : Tok) : Prop := tK t ≤ 4 ∧ tA t ≤ n ∧ (2 ≤ tK t → p ≤ tA t ∧ tA t < tB t ∧ tB t ≤ n) ∧ (tK t = 2 → okName (tL t) ∧ tL t ≠ [] ∧ (tL t).length = tB t - tA t ∧ ∀ i (hi : i < (tL t).length), B (tA t + i) = (tL t)[i] + 96) ∧ (tK t = 3 → tV t < 100) ∧ (tK t = 4 → tS t < 128 ∧ snB (tS t) = true)
theorem tok_ok (B : Nat → Nat) (n R p : Nat) (hp : p ≤ n) : tkO B n R p (tokF B n R p) := by
  obtain ⟨s1, s2, s3, s4⟩ := skF_p B (min n R - p) p
  unfold tokF
  generalize skF B (min n R - p) p = a at *
  unfold tokA
  by_cases q : a < min n R
  · rw [if_pos q]
    cases e : (ltB (B a) || dgB (B a))
    · rw [if_neg (by decide)]
      cases e2 : snB (B a)
      · rw [if_neg (by decide)]
        exact ⟨by show 1 ≤ 4; decide, by show a ≤ n; omega, fun h => absurd h (by show ¬ 2 ≤ 1; decide), fun h => absurd h (by show ¬ 1 = 2; decide), fun h => absurd h (by show ¬ 1 = 3; decide), fun h => absurd h (by show ¬ 1 = 4; decide)⟩
      · rw [if_pos rfl]
        refine ⟨by show 4 ≤ 4; decide, by show a ≤ n; omega, fun _ => ⟨s1, by show a < a + 1; omega, by show a + 1 ≤ n; omega⟩, fun h => absurd h (by show ¬ 4 = 2; decide), fun h => absurd h (by show ¬ 4 = 3; decide), fun _ => ⟨?_, e2⟩⟩
        show B a < 128
        simp [snB] at e2
        omega
    · rw [if_pos rfl]
      obtain ⟨r1, r2, r3, r4⟩ := rnF_p B (n - a) a
      have r5 : a < rnF B (n - a) a := by
        rcases Nat.lt_or_ge a (rnF B (n - a) a) with w | w
        · exact w
        · have h : rnF B (n - a) a = a := by omega
          rw [h] at r4
          rw [r4 (by omega)] at e
          exact absurd e (by decide)
      generalize rnF B (n - a) a = e' at *
      have ml := byL_len B a e'
      have hall : ∀ c ∈ byL B a e', (ltB c || dgB c) = true := fun c hc => by
        obtain ⟨i, i1, i2, rfl⟩ := byL_mem hc
        exact r3 i i1 i2
      unfold runM
      by_cases c1 : (byL B a e').countP dgB = 0 ∧ (byL B a e').length ≤ 7
      · rw [if_pos c1]
        have lt1 : ∀ c ∈ byL B a e', 97 ≤ c ∧ c ≤ 122 := fun c hc => by
          have h1 := hall c hc
          rw [cntP_0 c1.1 c hc, Bool.or_false] at h1
          simpa [ltB] using h1
        have ll : (lts (byL B a e')).length = e' - a := by unfold lts; rw [List.length_map, ml]
        refine ⟨by show 2 ≤ 4; decide, by show a ≤ n; omega, fun _ => ⟨s1, r5, by show e' ≤ n; omega⟩, fun _ => ⟨⟨by show (lts (byL B a e')).length ≤ 7; omega, fun l hl => ?_⟩, fun h => ?_, ll, fun i hi => ?_⟩, fun h => absurd h (by show ¬ 2 = 3; decide), fun h => absurd h (by show ¬ 2 = 4; decide)⟩
        · obtain ⟨c, h1, h2⟩ := List.mem_map.mp hl
          have := lt1 c h1
          omega
        · have h' : (lts (byL B a e')).length = 0 := by rw [show lts (byL B a e') = [] from h]; rfl
          omega
        · have hi' : i < (lts (byL B a e')).length := hi
          have hi2 : i < (byL B a e').length := by omega
          have e1 : (lts (byL B a e'))[i]'hi' = (byL B a e')[i] - 96 := List.getElem_map _
          have := lt1 _ (List.getElem_mem hi2)
          show B (a + i) = (lts (byL B a e'))[i] + 96
          rw [e1]
          rw [byL_at hi2] at this ⊢
          omega
      · rw [if_neg c1]
        by_cases c2 : (byL B a e').countP ltB = 0 ∧ (byL B a e').length ≤ 2
        · rw [if_pos c2]
          refine ⟨by show 3 ≤ 4; decide, by show a ≤ n; omega, fun _ => ⟨s1, r5, by show e' ≤ n; omega⟩, fun h => absurd h (by show ¬ 3 = 2; decide), fun _ => ?_, fun h => absurd h (by show ¬ 3 = 4; decide)⟩
          show vlD (byL B a e') < 100
          have dg1 : ∀ c ∈ byL B a e', 48 ≤ c ∧ c ≤ 57 := fun c hc => by
            have h1 := hall c hc
            rw [cntP_0 c2.1 c hc, Bool.false_or] at h1
            simpa [dgB] using h1
          revert c2 dg1
          generalize byL B a e' = M
          intro c2 dg1
          match M, c2.2 with
          | [], _ => decide
          | [x], _ =>
            have := dg1 x (by simp)
            show 0 * 10 + (x - 48) < 100
            omega
          | [x, y], _ =>
            have := dg1 x (by simp)
            have := dg1 y (by simp)
            show (0 * 10 + (x - 48)) * 10 + (y - 48) < 100
            omega
          | x :: y :: w :: M, h => exact absurd h (by simp)
        · rw [if_neg c2]
          exact ⟨by show 1 ≤ 4; decide, by show a ≤ n; omega, fun h => absurd h (by show ¬ 2 ≤ 1; decide), fun h => absurd h (by show ¬ 1 = 2; decide), fun h => absurd h (by show ¬ 1 = 3; decide), fun h => absurd h (by show ¬ 1 = 4; decide)⟩
  · rw [if_neg q]
    by_cases w : n ≤ R
    · rw [if_pos w]
      exact ⟨by show 0 ≤ 4; decide, by show n ≤ n; omega, fun h => absurd h (by show ¬ 2 ≤ 0; decide), fun h => absurd h (by show ¬ 0 = 2; decide), fun h => absurd h (by show ¬ 0 = 3; decide), fun h => absurd h (by show ¬ 0 = 4; decide)⟩
    · rw [if_neg w]
      exact ⟨by show 1 ≤ 4; decide, by show R ≤ n; omega, fun h => absurd h (by show ¬ 2 ≤ 1; decide), fun h => absurd h (by show ¬ 1 = 2; decide), fun h => absurd h (by show ¬ 1 = 3; decide), fun h => absurd h (by show ¬ 1 = 4; decide)⟩
