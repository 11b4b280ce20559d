/-! WAYS as numbers: none is lost -/
def updN (f : Nat → Nat) (k x : Nat) : Nat → Nat := fun j => if j = k then x else f j
def smN (g : Nat → Nat) : Nat → Nat
  | 0 => 0
  | i + 1 => smN g i + g i
theorem smN_ext {f g : Nat → Nat} : ∀ n, (∀ i, i < n → f i = g i) → smN f n = smN g n
  | 0, _ => rfl
  | n + 1, h => by
    show smN f n + f n = smN g n + g n
    rw [smN_ext n (fun i hi => h i (by omega)), h n (by omega)]
theorem smN_upd {f : Nat → Nat} {k c : Nat} : ∀ n, k < n → smN (updN f k (f k + c)) n = smN f n + c
  | 0, h => absurd h (Nat.not_lt_zero _)
  | n + 1, h => by
    show smN _ n + updN f k (f k + c) n = smN f n + f n + c
    by_cases e : k = n
    · subst e
      rw [smN_ext k (f := updN f k (f k + c)) (g := f) (fun i hi => if_neg (by omega))]
      show _ + (if k = k then f k + c else f k) = _
      rw [if_pos rfl]
      omega
    · rw [smN_upd n (by omega)]
      show _ + (if n = k then _ else f n) = _
      rw [if_neg (by omega)]
      omega
def pasN (N : Nat) (W : Nat → Nat) (v x : Nat) : Nat → Nat → (Nat → Nat) → Nat → Nat
  | 0, _, lt => lt
  | d + 1, p, lt => pasN N W v x d (p + 1) (updN lt (exN N x p) (lt (exN N x p) + v * W p))
def sprXN (N : Nat) (W : Nat → Nat) (nw : Nat → Nat) : Nat → Nat → (Nat → Nat) → Nat → Nat
  | 0, _, lt => lt
  | d + 1, x, lt => sprXN N W nw d (x + 1) (pasN N W (nw x) x (N - 1) 0 lt)
def sprN (N : Nat) (W : Nat → Nat) (from' : Nat) : Nat → Nat → Nat
  | 0 => updN (fun _ => 0) from' 1
  | k + 1 => sprXN N W (sprN N W from' k) (fct N) 0 (fun _ => 0)
theorem pasN_sum {N : Nat} {W : Nat → Nat} {v x : Nat} (hx : x < fct N) : ∀ d p lt, smN (pasN N W v x d p lt) (fct N) = smN lt (fct N) + v * (sumW W (p + d) - sumW W p)
  | 0, p, lt => by
    show smN lt _ = smN lt _ + v * (sumW W p - sumW W p)
    rw [Nat.sub_self, Nat.mul_zero, Nat.add_zero]
  | d + 1, p, lt => by
    show smN (pasN N W v x d (p + 1) _) _ = _
    rw [pasN_sum hx d (p + 1) _, smN_upd (fct N) (exN_lt hx), show p + (d + 1) = p + 1 + d by omega]
    have h : ∀ m, sumW W (p + 1) ≤ sumW W (p + 1 + m) := by
      intro m
      induction m with
      | zero => exact Nat.le_refl _
      | succ m ih => exact Nat.le_trans ih (Nat.le_add_right _ _)
    have h1 := h d
    have h2 : sumW W (p + 1) = sumW W p + W p := rfl
    rw [Nat.add_assoc, ← Nat.mul_add]
    congr 2
    omega
theorem sprXN_sum {N : Nat} {W nw : Nat → Nat} : ∀ d x lt, x + d = fct N → smN (sprXN N W nw d x lt) (fct N) + smN nw x * sumW W (N - 1) = smN lt (fct N) + smN nw (fct N) * sumW W (N - 1)
  | 0, x, lt, h => by rw [show x = fct N by omega]; rfl
  | d + 1, x, lt, h => by
    have ih := sprXN_sum (N := N) (W := W) (nw := nw) d (x + 1) (pasN N W (nw x) x (N - 1) 0 lt) (by omega)
    have e := pasN_sum (N := N) (W := W) (v := nw x) (x := x) (by omega) (N - 1) 0 lt
    rw [Nat.zero_add, show sumW W 0 = 0 from rfl, Nat.sub_zero] at e
    have e2 : smN nw (x + 1) = smN nw x + nw x := rfl
    rw [e, e2, Nat.add_mul] at ih
    show smN (sprXN N W nw d (x + 1) (pasN N W (nw x) x (N - 1) 0 lt)) (fct N) + _ = _
    omega
/-- all WAYS together: the W's sum, as often multiplied -/
theorem sprN_sum {N : Nat} {W : Nat → Nat} {y : Nat} (hy : y < fct N) : ∀ k, smN (sprN N W y k) (fct N) = sumW W (N - 1) ^ k
  | 0 => by
    have := smN_upd (f := fun _ => 0) (k := y) (c := 1) (fct N) hy
    have z : ∀ n, smN (fun _ => 0) n = 0 := by
      intro n
      induction n with
      | zero => rfl
      | succ n ih => show smN _ n + 0 = 0; rw [ih]
    rw [z] at this
    exact this
  | k + 1 => by
    have h := sprXN_sum (N := N) (W := W) (nw := sprN N W y k) (fct N) 0 (fun _ => 0) (by omega)
    have z : ∀ n, smN (fun _ => 0) n = 0 := by
      intro n
      induction n with
      | zero => rfl
      | succ n ih => show smN _ n + 0 = 0; rw [ih]
    rw [z, show smN (sprN N W y k) 0 = 0 from rfl, Nat.zero_mul, Nat.zero_add, Nat.add_zero, sprN_sum hy k] at h
    rw [Nat.pow_succ]
    exact h
theorem lN_0 : lN 0 = 0 := rfl
/-- the class's row is the row of numbers -/
theorem pasP_n {N : Nat} {W : Nat → Nat} {Wi : Nat → Int32} (hW : ∀ p, p < 6 → Wi p = nI (W p)) (h9 : ∀ p, W p ≤ 9) (h7 : N ≤ 7) {v x : Nat} : ∀ d p (lt : Nat → Int64) (ln : Nat → Nat), p + d = N - 1 → (∀ j, lt j = lN (ln j)) → ∀ j, pasP N Wi (lN v) x d p lt j = lN (pasN N W v x d p ln j)
  | 0, _, lt, ln, _, h, j => h j
  | d + 1, p, lt, ln, hp, h, j => by
    refine pasP_n hW h9 h7 d (p + 1) _ _ (by omega) (fun i => ?_) j
    have h9p := h9 p
    rw [hW p (by omega), nI_l (by omega), lN_mul, h, lN_add]
    by_cases e : i = exN N x p
    · rw [e, updL_s]
      show _ = lN (if _ then _ else _)
      rw [if_pos rfl]
    · rw [updL_n e]
      show _ = lN (if _ then _ else _)
      rw [if_neg e]
      exact h i
theorem pasP_0 {N : Nat} {W : Nat → Int32} {x : Nat} : ∀ d p (lt : Nat → Int64), pasP N W 0 x d p lt = lt
  | 0, _, _ => rfl
  | d + 1, p, lt => by
    show pasP N W 0 x d (p + 1) _ = lt
    rw [Int64.zero_mul, Int64.add_zero, show vp_updL lt (exN N x p) (lt (exN N x p)) = lt from funext fun j => by
      by_cases e : j = exN N x p
      · rw [e, updL_s]
      · rw [updL_n e]]
    exact pasP_0 d (p + 1) lt
theorem sprX_n {N : Nat} {W : Nat → Nat} {Wi : Nat → Int32} (hW : ∀ p, p < 6 → Wi p = nI (W p)) (h9 : ∀ p, W p ≤ 9) (h7 : N ≤ 7) {nw : Nat → Int64} {nn : Nat → Nat} (hn : ∀ j, nw j = lN (nn j)) : ∀ d x (lt : Nat → Int64) (ln : Nat → Nat), (∀ j, lt j = lN (ln j)) → ∀ j, sprX N Wi nw d x lt j = lN (sprXN N W nn d x ln j)
  | 0, _, lt, ln, h, j => h j
  | d + 1, x, lt, ln, h, j => by
    refine sprX_n hW h9 h7 hn d (x + 1) _ _ (fun i => ?_) j
    have hp := pasP_n hW h9 h7 (v := nn x) (x := x) (N - 1) 0 lt ln (by omega) h i
    by_cases e : nw x = 0
    · rw [if_pos e, ← hp, ← hn x, e, pasP_0]
    · rw [if_neg e, hn x]
      exact hp
theorem sprK_n {N : Nat} {W : Nat → Nat} {Wi : Nat → Int32} (hW : ∀ p, p < 6 → Wi p = nI (W p)) (h9 : ∀ p, W p ≤ 9) (h7 : N ≤ 7) {y : Nat} : ∀ k j, sprK N Wi y k j = lN (sprN N W y k j)
  | 0, j => by
    show vp_updL _ y 1 j = lN (if j = y then 1 else 0)
    by_cases e : j = y
    · rw [e, updL_s, if_pos rfl]; rfl
    · rw [updL_n e, if_neg e]; rfl
  | k + 1, j => sprX_n hW h9 h7 (sprK_n hW h9 h7 k) (fct N) 0 _ _ (fun _ => rfl) j
theorem smJ_n {g : Nat → Int64} {m : Nat → Nat} (h : ∀ j, g j = lN (m j)) : ∀ n, smJ g n = lN (smN m n)
  | 0 => rfl
  | n + 1 => by
    show smJ g n + g n = lN (smN m n + m n)
    rw [smJ_n h n, h n, lN_add]
theorem smN_le {f g : Nat → Nat} {c : Nat} : ∀ n, (∀ i, i < n → f i ≤ c * g i) → smN f n ≤ c * smN g n
  | 0, _ => Nat.zero_le _
  | n + 1, h => by
    have h1 := smN_le n (fun i hi => h i (by omega))
    have h2 := h n (by omega)
    show smN f n + f n ≤ c * (smN g n + g n)
    rw [Nat.mul_add]
    omega
theorem pow_54 {s : Nat} (hs : s ≤ 54) {k : Nat} (hk : k ≤ 10) : s ^ k ≤ 210832519264920576 := by
  have h1 : s ^ k ≤ 54 ^ k := Nat.pow_le_pow_left hs k
  have h2 : 54 ^ k ≤ 54 ^ 10 := Nat.pow_le_pow_right (by omega) hk
  exact Nat.le_trans h1 (Nat.le_trans h2 (Nat.le_of_ble_eq_true rfl))
/-- above and below of LONG, as numbers -/
theorem below_n {N : Nat} {W : Nat → Nat} {Wi : Nat → Int32} (hW : ∀ p, p < 6 → Wi p = nI (W p)) (h9 : ∀ p, W p ≤ 9) (h7 : N ≤ 7) {y k : Nat} (hy : y < fct N) (hk : k ≤ 10) : ∃ b a, smJ (sprK N Wi y k) (fct N) = lN b ∧ smJ (farJ N y (sprK N Wi y k)) (fct N) = lN a ∧ b < 2 ^ 62 ∧ a < 2 ^ 63 := by
  have e1 := smJ_n (sprK_n hW h9 h7 (y := y) k) (fct N)
  have e2 : ∀ j, farJ N y (sprK N Wi y k) j = lN (sprN N W y k j * stp (unrk N j) (unrk N y)) := fun j => by
    have := stp_le (unrk N j) (unrk N y)
    unfold farJ
    rw [sprK_n hW h9 h7, nI_l (by omega), lN_mul]
  have h54 := sumW_le h9 (N - 1)
  have hp := pow_54 (s := sumW W (N - 1)) (by omega) hk
  have hs := sprN_sum (W := W) hy k
  have hl := smN_le (f := fun j => sprN N W y k j * stp (unrk N j) (unrk N y)) (g := sprN N W y k) (c := 21) (fct N) (fun i _ => by
    rw [Nat.mul_comm]
    exact Nat.mul_le_mul_right _ (stp_le _ _))
  refine ⟨_, _, e1, smJ_n e2 (fct N), ?_, ?_⟩
  · rw [hs]
    exact Nat.lt_of_le_of_lt hp (Nat.le_of_ble_eq_true rfl)
  · rw [hs] at hl
    refine Nat.lt_of_le_of_lt hl (Nat.lt_of_le_of_lt (Nat.mul_le_mul_left 21 hp) (Nat.le_of_ble_eq_true rfl))
