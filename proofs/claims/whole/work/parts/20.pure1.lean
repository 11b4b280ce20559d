/-! the pure operations, told by what lies there -/
theorem up_s {α : Type} {f : Nat → α} {k : Nat} {x : α} : va_up f k x k = x := if_pos rfl
theorem up_n {α : Type} {f : Nat → α} {k j : Nat} {x : α} (h : j ≠ k) : va_up f k x j = f j := if_neg h
theorem up_up {α : Type} (f : Nat → α) (k : Nat) (x y : α) : va_up (va_up f k x) k y = va_up f k y := by
  funext j
  by_cases h : j = k
  · subst h; simp [va_up]
  · simp [va_up, h]
theorem up_id {α : Type} {f : Nat → α} {k : Nat} {x : α} (h : f k = x) : va_up f k x = f := by
  funext j
  by_cases hj : j = k
  · subst hj; simp [va_up, h]
  · simp [va_up, hj]
theorem up_comm {α : Type} (f : Nat → α) {k j : Nat} (h : k ≠ j) (x y : α) : va_up (va_up f k x) j y = va_up (va_up f j y) k x := by
  funext i
  by_cases h1 : i = j
  · subst h1; simp [va_up, Ne.symm h]
  · by_cases h2 : i = k
    · subst h2; simp [va_up, h]
    · simp [va_up, h1, h2]
theorem gI_e {f : Hp} {a ci k : Nat} {fs : List Value} {x : Int32} (h : f a = some (.inl (ci, fs))) (hk : fs[k]? = some (.int x)) : gI f (some a) ci k = some x := by simp [gI, h, hk]
theorem gJ_e {f : Hp} {a ci k : Nat} {fs : List Value} {x : Int64} (h : f a = some (.inl (ci, fs))) (hk : fs[k]? = some (.long x)) : gJ f (some a) ci k = some x := by simp [gJ, h, hk]
theorem gR_e {f : Hp} {a ci k : Nat} {fs : List Value} {x : Option Nat} (h : f a = some (.inl (ci, fs))) (hk : fs[k]? = some (va_rf x)) : gR f (some a) ci k = some x := by cases x <;> simp [gR, h, hk, va_rf]
theorem gR_s {f : Hp} {a ci k b : Nat} {fs : List Value} (h : f a = some (.inl (ci, fs))) (hk : fs[k]? = some (.ref b)) : gR f (some a) ci k = some (some b) := by simp [gR, h, hk]
theorem pV_e {f : Hp} {a ci k : Nat} {fs : List Value} {v : Value} (h : f a = some (.inl (ci, fs))) (hk : k < fs.length) : pV f (some a) ci k v = some (va_up f a (some (.inl (ci, fs.set k v)))) := by simp [pV, h, hk]
theorem isO_e {f : Hp} {a ci : Nat} {fs : List Value} (h : f a = some (.inl (ci, fs))) : isO f (some a) ci = true := by simp [isO, h]
theorem nI_cl {j : Nat} (h : j < 2 ^ 31) : (nI j).toNatClampNeg = j := nI_clamp h
theorem ldI_e {f : Hp} {a t n : Nat} {g : Nat → Int32} {j : Nat} (h : f a = some (.inr (t, n, .inl g))) (hj : j < n) (hn : j < 2 ^ 31) : ldI f t (some a) (nI j) = some (g j) := by
  simp only [ldI, aI, h, if_true]
  rw [if_pos ⟨nI_pos hn, by rw [nI_cl hn]; exact hj⟩, nI_cl hn]
theorem ldJ_e {f : Hp} {a n : Nat} {g : Nat → Int64} {j : Nat} (h : f a = some (.inr (2, n, .inr (.inl g)))) (hj : j < n) (hn : j < 2 ^ 31) : ldJ f (some a) (nI j) = some (g j) := by
  simp only [ldJ, aJ, h, if_true]
  rw [if_pos ⟨nI_pos hn, by rw [nI_cl hn]; exact hj⟩, nI_cl hn]
theorem ldR_e {f : Hp} {a t n : Nat} {g : Nat → Option Nat} {j : Nat} (h : f a = some (.inr (t, n, .inr (.inr (.inr (.inr g)))))) (hj : j < n) (hn : j < 2 ^ 31) : ldR f t (some a) (nI j) = some (g j) := by
  simp only [ldR, aR, h, if_true]
  rw [if_pos ⟨nI_pos hn, by rw [nI_cl hn]; exact hj⟩, nI_cl hn]
theorem stI_e {f : Hp} {a t n : Nat} {g : Nat → Int32} {j : Nat} {x : Int32} (h : f a = some (.inr (t, n, .inl g))) (hj : j < n) (hn : j < 2 ^ 31) (ha : 100 ≤ a) : stI f t (some a) (nI j) x = some (va_up f a (some (.inr (t, n, .inl (upd g j (vp_nar (knd t) x)))))) := by
  simp only [stI, aI, h, if_true]
  rw [if_pos ⟨nI_pos hn, by rw [nI_cl hn]; exact hj, ha⟩, nI_cl hn]
  rfl
theorem stI1 {f : Hp} {a n : Nat} {g : Nat → Int32} {j : Nat} {x : Int32} (h : f a = some (.inr (1, n, .inl g))) (hj : j < n) (hn : j < 2 ^ 31) (ha : 100 ≤ a) : stI f 1 (some a) (nI j) x = some (va_up f a (some (.inr (1, n, .inl (upd g j x))))) := by
  rw [stI_e h hj hn ha]
  rfl
theorem stJ_e {f : Hp} {a n : Nat} {g : Nat → Int64} {j : Nat} {x : Int64} (h : f a = some (.inr (2, n, .inr (.inl g)))) (hj : j < n) (hn : j < 2 ^ 31) (ha : 100 ≤ a) : stJ f (some a) (nI j) x = some (va_up f a (some (.inr (2, n, .inr (.inl (vp_updL g j x)))))) := by
  simp only [stJ, aJ, h, if_true]
  rw [if_pos ⟨nI_pos hn, by rw [nI_cl hn]; exact hj, ha⟩, nI_cl hn]
  rfl
theorem bd_e {α β : Type} {o : Option α} {x : α} {k : α → Option β} (h : o = some x) : o.bind k = k x := by rw [h]; rfl
theorem bd2_e {α β : Type} {o : Option (α × Hp)} {x : α} {f : Hp} {k : α → Hp → Option β} (h : o = some (x, f)) : bd2 o k = k x f := by rw [h]; rfl
theorem bd3_e {β : Type} {o : Option (Hp × Nat × Nat)} {f : Hp} {n z : Nat} {k : Hp → Nat → Nat → Option β} (h : o = some (f, n, z)) : bd3 o k = k f n z := by rw [h]; rfl
theorem bd4_e {α β : Type} {o : Option (α × Hp × Nat × Nat)} {x : α} {f : Hp} {n z : Nat} {k : α → Hp → Nat → Nat → Option β} (h : o = some (x, f, n, z)) : bd4 o k = k x f n z := by rw [h]; rfl
theorem ck_e {β : Type} {b : Bool} {k : Option β} (h : b = true) : chk b k = k := if_pos h
theorem nm_e2 {α β : Type} (x : α) (k : α → β) : nmd x k = k x := rfl
/-! bits -/
theorem nI_and (a b : Nat) : nI a &&& nI b = nI (a &&& b) := by
  apply Int32.toBitVec_inj.mp
  show BitVec.ofNat 32 a &&& BitVec.ofNat 32 b = BitVec.ofNat 32 (a &&& b)
  rw [BitVec.ofNat_and]
theorem nI_or (a b : Nat) : nI a ||| nI b = nI (a ||| b) := by
  apply Int32.toBitVec_inj.mp
  show BitVec.ofNat 32 a ||| BitVec.ofNat 32 b = BitVec.ofNat 32 (a ||| b)
  rw [BitVec.ofNat_or]
theorem nI_xor (a b : Nat) : nI a ^^^ nI b = nI (a ^^^ b) := by
  apply Int32.toBitVec_inj.mp
  show BitVec.ofNat 32 a ^^^ BitVec.ofNat 32 b = BitVec.ofNat 32 (a ^^^ b)
  rw [BitVec.ofNat_xor]
theorem nI_mul (a b : Nat) : nI a * nI b = nI (a * b) := pk_mul a b
theorem and31 : ∀ k, k < 32 → nI k &&& 31 = nI k := by decide +kernel
theorem sm31 : ∀ k, k < 32 → ((nI k).toBitVec.smod 32).toNat = k := by decide +kernel
theorem us31 : ∀ k, k < 32 → (((nI k).toUInt32 &&& Int32.toUInt32 31).toBitVec % 32).toNat = k := by decide +kernel
theorem nI_shl {n k : Nat} (hk : k < 32) (h : n * 2 ^ k < 2 ^ 32) : nI n <<< (nI k &&& 31) = nI (n * 2 ^ k) := by
  rw [and31 k hk]
  exact pk_shlN (nI k) k (sm31 k hk) h
theorem nI_ushr {n k : Nat} (hn : n < 2 ^ 32) (hk : k < 32) : ius (nI n) (nI k) = nI (n / 2 ^ k) := pk_ushrN hn (nI k) k (us31 k hk)
theorem nI_shr {n k : Nat} (hn : n < 2 ^ 31) (hk : k < 32) : nI n >>> (nI k &&& 31) = nI (n / 2 ^ k) := by
  rw [and31 k hk]
  exact pk_shrN hn (nI k) k (sm31 k hk)
/-- the number with these bits, of the first n -/
def bitsOf : Nat → (Nat → Bool) → Nat
  | 0, _ => 0
  | n + 1, P => bitsOf n P + if P n then 2 ^ n else 0
theorem bitsOf_lt (n : Nat) (P : Nat → Bool) : bitsOf n P < 2 ^ n := by
  induction n with
  | zero => simp [bitsOf]
  | succ n ih =>
    simp only [bitsOf, Nat.pow_succ]
    split <;> omega
theorem bitsOf_test (n : Nat) (P : Nat → Bool) (i : Nat) : (bitsOf n P).testBit i = (decide (i < n) && P i) := by
  induction n with
  | zero => simp [bitsOf]
  | succ n ih =>
    simp only [bitsOf]
    by_cases hP : P n
    · simp only [hP, if_true]
      rw [Nat.add_comm]
      rcases Nat.lt_trichotomy i n with h | h | h
      · rw [Nat.testBit_two_pow_add_gt h, ih]
        simp [h, Nat.lt_succ_of_lt h]
      · subst h
        rw [Nat.testBit_two_pow_add_eq, ih]
        simp [hP]
      · have h1 : 2 ^ n + bitsOf n P < 2 ^ i := by
          have := bitsOf_lt n P
          have h2 : 2 ^ (n + 1) ≤ 2 ^ i := Nat.pow_le_pow_right (by decide) h
          rw [Nat.pow_succ] at h2
          omega
        rw [Nat.testBit_lt_two_pow h1]
        simp; omega
    · simp only [hP]
      rw [if_neg (by simp), Nat.add_zero, ih]
      by_cases h : i < n
      · simp [h, Nat.lt_succ_of_lt h]
      · by_cases h2 : i = n
        · subst h2; simp [hP]
        · simp [h]; omega
theorem bitsOf_ext {n : Nat} {P Q : Nat → Bool} (h : ∀ i, i < n → P i = Q i) : bitsOf n P = bitsOf n Q := by
  induction n with
  | zero => rfl
  | succ n ih => simp only [bitsOf, h n (Nat.lt_succ_self n), ih (fun i hi => h i (Nat.lt_succ_of_lt hi))]
theorem bitsOf_eq {n m : Nat} (hm : m < 2 ^ n) {P : Nat → Bool} (h : ∀ i, i < n → m.testBit i = P i) : m = bitsOf n P := by
  apply Nat.eq_of_testBit_eq
  intro i
  rw [bitsOf_test]
  by_cases hi : i < n
  · simp [hi, h i hi]
  · have : m < 2 ^ i := Nat.lt_of_lt_of_le hm (Nat.pow_le_pow_right (by decide) (by omega))
    rw [Nat.testBit_lt_two_pow this]
    simp [hi]
theorem bitsOf_and (n : Nat) (P Q : Nat → Bool) : bitsOf n P &&& bitsOf n Q = bitsOf n (fun i => P i && Q i) :=
  bitsOf_eq (Nat.and_lt_two_pow _ (bitsOf_lt n Q)) fun i hi => by simp [Nat.testBit_and, bitsOf_test, hi]
theorem bitsOf_or (n : Nat) (P Q : Nat → Bool) : bitsOf n P ||| bitsOf n Q = bitsOf n (fun i => P i || Q i) :=
  bitsOf_eq (Nat.or_lt_two_pow (bitsOf_lt n P) (bitsOf_lt n Q)) fun i hi => by simp [Nat.testBit_or, bitsOf_test, hi]
theorem bitsOf_xor (n : Nat) (P Q : Nat → Bool) : bitsOf n P ^^^ bitsOf n Q = bitsOf n (fun i => P i != Q i) :=
  bitsOf_eq (Nat.xor_lt_two_pow (bitsOf_lt n P) (bitsOf_lt n Q)) fun i hi => by simp [Nat.testBit_xor, bitsOf_test, hi]
theorem bitsOf_one {n k : Nat} (hk : k < n) : 2 ^ k = bitsOf n (fun i => i == k) :=
  bitsOf_eq (Nat.pow_lt_pow_right (by decide) hk) fun i _ => by
    rw [Nat.testBit_two_pow]
    by_cases h : i = k
    · subst h; simp
    · simp [h, Ne.symm h]
theorem bitsOf_none (n : Nat) : 0 = bitsOf n (fun _ => false) := bitsOf_eq (Nat.two_pow_pos n) fun i _ => by simp
/-- how many of the first n -/
def cnt : Nat → (Nat → Bool) → Nat
  | 0, _ => 0
  | n + 1, P => cnt n P + if P n then 1 else 0
theorem cnt_le (n : Nat) (P : Nat → Bool) : cnt n P ≤ n := by
  induction n with
  | zero => exact Nat.le_refl _
  | succ n ih => simp only [cnt]; split <;> omega
theorem cnt_ext {n : Nat} {P Q : Nat → Bool} (h : ∀ i, i < n → P i = Q i) : cnt n P = cnt n Q := by
  induction n with
  | zero => rfl
  | succ n ih => simp only [cnt, h n (Nat.lt_succ_self n), ih (fun i hi => h i (Nat.lt_succ_of_lt hi))]
theorem cnt_add (n k : Nat) (P : Nat → Bool) : cnt (n + k) P = cnt n P + cnt k (fun i => P (n + i)) := by
  induction k with
  | zero => rfl
  | succ k ih => rw [show n + (k + 1) = (n + k) + 1 from rfl]; simp only [cnt, ih]; omega
/-! how many bits: the JDK's way, by bytes -/
theorem dig {k a b c d : Nat} (ha : a < 2 ^ k) (hc : c < 2 ^ k) : (2 ^ k * b + a) &&& (2 ^ k * d + c) = 2 ^ k * (b &&& d) + (a &&& c) := by
  apply Nat.eq_of_testBit_eq
  intro i
  rw [Nat.testBit_and, Nat.testBit_two_pow_mul_add _ ha, Nat.testBit_two_pow_mul_add _ hc, Nat.testBit_two_pow_mul_add _ (Nat.and_lt_two_pow _ hc)]
  by_cases h : i < k <;> simp [h, Nat.testBit_and]
def b1 (a : Nat) : Nat := a - ((a / 2) &&& 85)
def b2 (a : Nat) : Nat := (a &&& 51) + ((a / 4) &&& 51)
def b3 (a : Nat) : Nat := (a + a / 16) &&& 15
def p8 (a : Nat) : Nat := cnt 8 a.testBit
theorem b_all : ∀ a, a < 256 → b1 a < 256 ∧ b2 (b1 a) ≤ 68 ∧ b2 (b1 a) % 16 ≤ 4 ∧ b3 (b2 (b1 a)) = p8 a ∧ (a / 2) &&& 85 ≤ a := by decide +kernel
theorem d1 : ∀ e, e < 2 → ∀ x, x < 128 → (128 * e + x) &&& 85 = x &&& 85 := by decide +kernel
theorem d2 : ∀ e, e < 4 → ∀ x, x < 64 → (64 * e + x) &&& 51 = x &&& 51 := by decide +kernel
theorem d3 : ∀ e, e < 5 → ∀ x, x < 69 → (x + x / 16 + 16 * e) &&& 15 = (x + x / 16) &&& 15 := by decide +kernel
theorem st1 {a m M : Nat} (ha : a < 256) : ((256 * m + a) / 2) &&& (256 * M + 85) = 256 * ((m / 2) &&& M) + ((a / 2) &&& 85) := by
  have h : (256 * m + a) / 2 = 2 ^ 8 * (m / 2) + (128 * (m % 2) + a / 2) := by omega
  have h2 : 256 * M + 85 = 2 ^ 8 * M + 85 := by omega
  rw [h, h2, dig (by omega) (by decide), d1 _ (Nat.mod_lt _ (by decide)) _ (by omega)]
theorem st2 {a m M : Nat} (ha : a < 256) : ((256 * m + a) / 4) &&& (256 * M + 51) = 256 * ((m / 4) &&& M) + ((a / 4) &&& 51) := by
  have h : (256 * m + a) / 4 = 2 ^ 8 * (m / 4) + (64 * (m % 4) + a / 4) := by omega
  have h2 : 256 * M + 51 = 2 ^ 8 * M + 51 := by omega
  rw [h, h2, dig (by omega) (by decide), d2 _ (Nat.mod_lt _ (by decide)) _ (by omega)]
theorem st2b {a m M : Nat} (ha : a < 256) : (256 * m + a) &&& (256 * M + 51) = 256 * (m &&& M) + (a &&& 51) := by
  have h := dig (k := 8) (a := a) (b := m) (c := 51) (d := M) ha (by decide)
  simpa using h
theorem st3 {a m M : Nat} (ha : a ≤ 68) (hm : m % 16 ≤ 4) : ((256 * m + a) + (256 * m + a) / 16) &&& (256 * M + 15) = 256 * ((m + m / 16) &&& M) + ((a + a / 16) &&& 15) := by
  have h : (256 * m + a) + (256 * m + a) / 16 = 2 ^ 8 * (m + m / 16) + (a + a / 16 + 16 * (m % 16)) := by omega
  have h2 : 256 * M + 15 = 2 ^ 8 * M + 15 := by omega
  rw [h, h2, dig (by omega) (by decide), d3 _ (by omega) _ (by omega)]
theorem and_le' (a b : Nat) : a &&& b ≤ a := Nat.and_le_left
theorem sw3 {a b c : Nat} (ha : a < 256) (hb : b < 256) (hc : c < 256) :
    let m := 256 * (256 * c + b) + a
    let y1 := m - ((m / 2) &&& 1431655765)
    let y2 := (y1 &&& 858993459) + ((y1 / 4) &&& 858993459)
    let y3 := (y2 + y2 / 16) &&& 252645135
    (m / 2) &&& 1431655765 ≤ m ∧ y1 < 2 ^ 24 ∧ y2 < 2 ^ 24 ∧ y3 = 256 * (256 * p8 c + p8 b) + p8 a := by
  intro m y1 y2 y3
  have e5 : (1431655765 : Nat) = 256 * (256 * (256 * 85 + 85) + 85) + 85 := by decide
  have e3 : (858993459 : Nat) = 256 * (256 * (256 * 51 + 51) + 51) + 51 := by decide
  have eF : (252645135 : Nat) = 256 * (256 * (256 * 15 + 15) + 15) + 15 := by decide
  obtain ⟨a1, a2, a3, a4, a5⟩ := b_all a ha
  obtain ⟨g1, g2, g3, g4, g5⟩ := b_all b hb
  obtain ⟨c1, c2, c3, c4, c5⟩ := b_all c hc
  have hc0 : (c / 2) &&& (256 * 85 + 85) = (c / 2) &&& 85 := by
    have h := st1 (a := c) (m := 0) (M := 85) hc
    simp only [Nat.mul_zero, Nat.zero_add, Nat.zero_div, Nat.zero_and] at h
    exact h
  have hm : (m / 2) &&& 1431655765 = 256 * (256 * ((c / 2) &&& 85) + ((b / 2) &&& 85)) + ((a / 2) &&& 85) := by
    show ((256 * (256 * c + b) + a) / 2) &&& _ = _
    rw [e5, st1 ha, st1 hb, hc0]
  have hy1 : y1 = 256 * (256 * b1 c + b1 b) + b1 a := by
    show m - _ = _
    rw [hm]
    show 256 * (256 * c + b) + a - _ = _
    unfold b1
    omega
  have q0 : ∀ x, x < 256 → x &&& (256 * 51 + 51) = x &&& 51 := fun x hx => by
    have h := st2b (a := x) (m := 0) (M := 51) hx
    simp only [Nat.mul_zero, Nat.zero_add, Nat.zero_and] at h
    exact h
  have q1 : ∀ x, x < 256 → (x / 4) &&& (256 * 51 + 51) = (x / 4) &&& 51 := fun x hx => q0 _ (by omega)
  have hy2 : y2 = 256 * (256 * b2 (b1 c) + b2 (b1 b)) + b2 (b1 a) := by
    show (y1 &&& _) + ((y1 / 4) &&& _) = _
    rw [hy1, e3, st2b a1, st2b g1, st2 a1, st2 g1, q0 _ c1, q1 _ c1]
    unfold b2
    omega
  have q3 : (b2 (b1 c) + b2 (b1 c) / 16) &&& (256 * 15 + 15) = (b2 (b1 c) + b2 (b1 c) / 16) &&& 15 := by
    have h := st3 (a := b2 (b1 c)) (m := 0) (M := 15) c2 (by decide)
    simp only [Nat.mul_zero, Nat.zero_add, Nat.zero_div, Nat.zero_and] at h
    exact h
  have hy3 : y3 = 256 * (256 * p8 c + p8 b) + p8 a := by
    show (y2 + y2 / 16) &&& _ = _
    rw [hy2, eF, st3 a2 (by omega), st3 g2 c3, q3]
    show 256 * (256 * b3 (b2 (b1 c)) + b3 (b2 (b1 b))) + b3 (b2 (b1 a)) = _
    rw [a4, g4, c4]
  refine ⟨?_, ?_, ?_, hy3⟩
  · rw [hm]
    show _ ≤ 256 * (256 * c + b) + a
    omega
  · rw [hy1]; omega
  · rw [hy2]; omega
theorem p8_le (a : Nat) : p8 a ≤ 8 := cnt_le 8 _
theorem cnt_bytes {a b c : Nat} (ha : a < 256) (hb : b < 256) : cnt 24 (256 * (256 * c + b) + a).testBit = p8 a + p8 b + p8 c := by
  have h1 : ∀ i, (256 * (256 * c + b) + a).testBit i = if i < 8 then a.testBit i else (256 * c + b).testBit (i - 8) := fun i => Nat.testBit_two_pow_mul_add (i := 8) (256 * c + b) ha i
  have h2 : ∀ i, (256 * c + b).testBit i = if i < 8 then b.testBit i else c.testBit (i - 8) := fun i => Nat.testBit_two_pow_mul_add (i := 8) c hb i
  rw [show (24 : Nat) = 8 + (8 + 8) from rfl, cnt_add, cnt_add]
  have e1 : cnt 8 (256 * (256 * c + b) + a).testBit = p8 a := cnt_ext fun i hi => by rw [h1, if_pos hi]
  have e2 : cnt 8 (fun i => (256 * (256 * c + b) + a).testBit (8 + i)) = p8 b := cnt_ext fun i hi => by
    rw [h1, if_neg (by omega), show 8 + i - 8 = i by omega, h2, if_pos hi]
  have e3 : cnt 8 (fun i => (fun i => (256 * (256 * c + b) + a).testBit (8 + i)) (8 + i)) = p8 c := cnt_ext fun i hi => by
    dsimp only
    rw [h1, if_neg (by omega), show 8 + (8 + i) - 8 = 8 + i by omega, h2, if_neg (by omega), show 8 + i - 8 = i by omega]
  rw [e1, e2, e3]
  omega
theorem nI_sub {a b : Nat} (h : b ≤ a) : nI a - nI b = nI (a - b) := pk_sub h
theorem pop_e (F : Nat) (f : Hp) {m : Nat} (hm : m < 2 ^ 24) : m_J6_bitCount_0f7a4 F (nI m) f = some (nI (cnt 24 m.testBit)) := by
  obtain ⟨a, b, c, ha, hb, hc, rfl⟩ : ∃ a b c, a < 256 ∧ b < 256 ∧ c < 256 ∧ m = 256 * (256 * c + b) + a := ⟨m % 256, m / 256 % 256, m / 65536, Nat.mod_lt _ (by decide), Nat.mod_lt _ (by decide), by omega, by omega⟩
  rw [cnt_bytes ha hb]
  obtain ⟨h1, h2, h3, h4⟩ := sw3 ha hb hc
  generalize hM : 256 * (256 * c + b) + a = M at *
  unfold m_J6_bitCount_0f7a4
  simp only [nm_e2]
  have k1 : (1 : Int32) = nI 1 := rfl
  have k2 : (2 : Int32) = nI 2 := rfl
  have k4 : (4 : Int32) = nI 4 := rfl
  have k8 : (8 : Int32) = nI 8 := rfl
  have k16 : (16 : Int32) = nI 16 := rfl
  have k63 : (63 : Int32) = nI 63 := rfl
  have m5 : (1431655765 : Int32) = nI 1431655765 := rfl
  have m3 : (858993459 : Int32) = nI 858993459 := rfl
  have mF : (252645135 : Int32) = nI 252645135 := rfl
  have pa := p8_le a
  have pb := p8_le b
  have pc := p8_le c
  rw [k1, k2, k4, k8, k16, k63, m5, m3, mF]
  rw [nI_ushr (n := M) (by omega) (by decide), nI_and, nI_sub h1]
  rw [show M / 2 ^ 1 = M / 2 from rfl]
  generalize hy1 : M - (M / 2 &&& 1431655765) = y1 at *
  rw [nI_ushr (n := y1) (by omega) (by decide), nI_and, nI_and, nI_add]
  rw [show y1 / 2 ^ 2 = y1 / 4 from rfl]
  generalize hy2 : (y1 &&& 858993459) + ((y1 / 4) &&& 858993459) = y2 at *
  rw [nI_ushr (n := y2) (by omega) (by decide), nI_add, nI_and]
  rw [show y2 / 2 ^ 4 = y2 / 16 from rfl, h4]
  rw [nI_ushr (by omega) (by decide), nI_add, nI_ushr (by omega) (by decide), nI_add, nI_and]
  congr 2
  rw [show (63 : Nat) = 2 ^ 6 - 1 from rfl, Nat.and_two_pow_sub_one_eq_mod]
  generalize p8 a = A at *
  generalize p8 b = B at *
  generalize p8 c = C at *
  have e1 : (256 * (256 * C + B) + A) / 2 ^ 8 = 256 * C + B := by omega
  rw [e1]
  have e2 : (256 * (256 * C + B) + A + (256 * C + B)) / 2 ^ 16 = C := by omega
  rw [e2]
  omega
theorem gI_u {g : Hp} {a ci k : Nat} {fs : List Value} {x : Int32} (hk : fs[k]? = some (.int x)) : gI (va_up g a (some (.inl (ci, fs)))) (some a) ci k = some x := gI_e up_s hk
theorem gJ_u {g : Hp} {a ci k : Nat} {fs : List Value} {x : Int64} (hk : fs[k]? = some (.long x)) : gJ (va_up g a (some (.inl (ci, fs)))) (some a) ci k = some x := gJ_e up_s hk
theorem gR_u {g : Hp} {a ci k : Nat} {fs : List Value} {x : Option Nat} (hk : fs[k]? = some (va_rf x)) : gR (va_up g a (some (.inl (ci, fs)))) (some a) ci k = some x := gR_e up_s hk
theorem pV_u {g : Hp} {a ci k : Nat} {fs : List Value} {v : Value} (hk : k < fs.length) : pV (va_up g a (some (.inl (ci, fs)))) (some a) ci k v = some (va_up g a (some (.inl (ci, fs.set k v)))) := by rw [pV_e up_s hk, up_up]
theorem gI_o {g : Hp} {a b ci k : Nat} {c : Option AC} (h : b ≠ a) : gI (va_up g a c) (some b) ci k = gI g (some b) ci k := by simp [gI, up_n h]
theorem gJ_o {g : Hp} {a b ci k : Nat} {c : Option AC} (h : b ≠ a) : gJ (va_up g a c) (some b) ci k = gJ g (some b) ci k := by simp [gJ, up_n h]
theorem gR_o {g : Hp} {a b ci k : Nat} {c : Option AC} (h : b ≠ a) : gR (va_up g a c) (some b) ci k = gR g (some b) ci k := by simp [gR, up_n h]
