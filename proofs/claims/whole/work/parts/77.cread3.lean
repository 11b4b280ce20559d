/-! the class reads a HOUSE: TOKENS -/
theorem lus_k : ∀ k, k < 64 → (((nI k).toInt64.toUInt64 &&& Int64.toUInt64 63).toBitVec % 64).toNat = k := by decide +kernel
theorem lN_bv {n : Nat} (h : n < 2 ^ 64) : (lN n).toBitVec.toNat = n := by
  show (BitVec.ofNat 64 n).toNat = n
  rw [BitVec.toNat_ofNat, Nat.mod_eq_of_lt h]
theorem lus_bv (x : Int64) (s : Int32) (k : Nat) (hs : ((s.toInt64.toUInt64 &&& Int64.toUInt64 63).toBitVec % 64).toNat = k) : (lus x s).toBitVec = x.toBitVec >>> k := by
  rw [← hs]
  exact UInt64.toBitVec_shiftRight _ _
theorem lus_e {c k : Nat} (hc : c < 2 ^ 62) (hk : k < 64) : lus (lN c) (nI k) = lN (c / 2 ^ k) := by
  apply Int64.toBitVec_inj.mp
  apply BitVec.eq_of_toNat_eq
  have e := lus_bv (lN c) (nI k) k (lus_k k hk)
  have := Nat.div_le_self c (2 ^ k)
  rw [e, BitVec.toNat_ushiftRight, Nat.shiftRight_eq_div_pow, lN_bv (by omega), lN_bv (by omega)]
theorem lN_and31 (c : Nat) : lN c &&& (31 : Int64) = lN (c % 32) := by
  have e : lN c &&& lN 31 = lN (c &&& 31) := by
    apply Int64.toBitVec_inj.mp
    show BitVec.ofNat 64 c &&& BitVec.ofNat 64 31 = BitVec.ofNat 64 (c &&& 31)
    rw [BitVec.ofNat_and]
  rw [show (31 : Int64) = lN 31 from rfl, e]
  congr 1
  exact Nat.and_two_pow_sub_one_eq_mod c 5
theorem cdR_dig : ∀ (M : List Nat) (q : Nat), (∀ x ∈ M, x < 32) → cdR 32 M / 32 ^ q % 32 = M.getD q 0
  | [], q, _ => by
    show 0 / 32 ^ q % 32 = 0
    rw [Nat.zero_div]
  | x :: M, 0, h => by
    have := h x List.mem_cons_self
    show (cdR 32 M * 32 + x) / 32 ^ 0 % 32 = x
    rw [Nat.pow_zero, Nat.div_one]
    omega
  | x :: M, q + 1, h => by
    have hx := h x List.mem_cons_self
    have ih := cdR_dig M q (fun y hy => h y (List.mem_cons_of_mem _ hy))
    show (cdR 32 M * 32 + x) / 32 ^ (q + 1) % 32 = M.getD q 0
    rw [Nat.pow_succ, Nat.mul_comm (32 ^ q) 32, ← Nat.div_div_eq_div_mul, show (cdR 32 M * 32 + x) / 32 = cdR 32 M by omega]
    exact ih
theorem c32_dig {L : List Nat} (h : okName L) {q : Nat} : code32 L / 2 ^ (5 * q) % 32 = if q < L.length then L.getD (L.length - 1 - q) 0 else 0 := by
  have e : code32 L = cdR 32 L.reverse := by
    have := cdN_rev 32 L.reverse
    rw [List.reverse_reverse] at this
    exact this
  rw [e, Nat.pow_mul, show 2 ^ 5 = 32 from rfl, cdR_dig _ _ (fun x hx => by have := h.2 x (List.mem_reverse.mp hx); omega)]
  by_cases w : q < L.length
  · rw [if_pos w, List.getD_eq_getElem?_getD, List.getElem?_reverse w, ← List.getD_eq_getElem?_getD]
  · rw [if_neg w, List.getD_eq_getElem?_getD, List.getElem?_eq_none (by rw [List.length_reverse]; omega)]
    rfl
def c4 (D : Nat) (lc pt v4 v5 : Int32) : List Value := [.ref 168, .ref D, .int lc, .int pt, .int v4, .int v5]
def lcI (lc : Bool) (h : HS) : Prop := lc = false → hC h = [] ∧ hS h = [] ∧ hR h = []
section CREAD3
variable {F : Nat} {B : Nat → Nat} {n R D sD : Nat}
def CSt (B : Nat → Nat) (n R D sD : Nat) (f : Hp) (h : HS) (t : Tok) (lc : Bool) (pt : Nat) : Prop := (St4 f ∧ TP f B) ∧ (TKc f n R t 0 0 ∧ isT B n R t) ∧ (HAt f D sD h ∧ okH h) ∧ (∃ v4 v5, f 169 = some (.inl (4, c4 D (if lc then 1 else 0) (nI pt) v4 v5))) ∧ lcI lc h ∧ (n ≤ 740 ∧ R ≤ 740 ∧ (D = 102 ∨ D = 131) ∧ pt < 256)
def CF (n R D sD : Nat) (f : Hp) (q : Flt) : Prop := (∃ a nx k0 code kw sg v, f 168 = some (.inl (8, tcl n R a nx k0 code kw sg v (nI q.1) (nI q.2))) ∧ kw < 21) ∧ (∃ h, HAt f D sD h ∧ okH h) ∧ (∃ lc pt v4 v5, f 169 = some (.inl (4, c4 D lc pt v4 v5))) ∧ (1 ≤ q.1 ∧ q.1 ≤ 4) ∧ q.2 ≤ n
/-- what a reader leaves -/
def FrD (D : Nat) (f f' : Hp) : Prop := ∀ a, a ≠ 168 → a ≠ 169 → (a < D ∨ D + 7 ≤ a ∧ a < D + 13 ∨ D + 29 ≤ a) → f' a = f a
theorem FrD.refl {f : Hp} : FrD D f f := fun _ _ _ _ => rfl
theorem FrD.trans {f f' f'' : Hp} (h1 : FrD D f f') (h2 : FrD D f' f'') : FrD D f f'' := fun a a1 a2 a3 => (h2 a a1 a2 a3).trans (h1 a a1 a2 a3)
theorem FrD.of {f f' : Hp} (h : ∀ a, a ≠ 168 → f' a = f a) : FrD D f f' := fun a a1 _ _ => h a a1
section OPS
variable {f : Hp} {h : HS} {t : Tok} {lc : Bool} {pt : Nat}
theorem CSt.tk (C : CSt B n R D sD f h t lc pt) {f' : Hp} (fr : ∀ a, a ≠ 168 → f' a = f a) {t' : Tok} (T : TKc f' n R t' 0 0) (i : isT B n R t') : CSt B n R D sD f' h t' lc pt := by
  obtain ⟨⟨c1, c2⟩, -, ⟨c3, c4⟩, ⟨v4, v5, c5⟩, c6, c7⟩ := C
  exact ⟨⟨c1.frame (fun a ha => fr a (by omega)), c2.frame (fr _ (by omega))⟩, ⟨T, i⟩, ⟨c3.frame (fun a _ _ _ => fr a (by omega)) c4, c4⟩, ⟨v4, v5, (fr _ (by omega)).trans c5⟩, c6, c7⟩
theorem CSt.kind (C : CSt B n R D sD f h t lc pt) : gI f (some 168) 8 5 = some (nI (tK t)) := by
  obtain ⟨nx, code, sg, v, h1, -⟩ := C.2.1.1
  exact gI_e h1 rfl
theorem CSt.isK (C : CSt B n R D sD f h t lc pt) : isO f (some 168) 8 = true := by
  obtain ⟨nx, code, sg, v, h1, -⟩ := C.2.1.1
  exact isO_e h1
theorem CSt.key (C : CSt B n R D sD f h t lc pt) : gR f (some 168) 8 7 = some (some (if tK t = 2 then kwF (tL t) else 0)) := by
  obtain ⟨nx, code, sg, v, h1, -⟩ := C.2.1.1
  exact gR_s h1 rfl
theorem CSt.code (C : CSt B n R D sD f h t lc pt) (k : tK t = 2) : gJ f (some 168) 8 6 = some (lN (code32 (tL t))) := by
  obtain ⟨nx, code, sg, v, h1, h2, -⟩ := C.2.1.1
  rw [gJ_e h1 rfl, h2 k]
theorem CSt.sign (C : CSt B n R D sD f h t lc pt) : gI f (some 168) 8 8 = some (if tK t = 4 then nI (tS t) else 0) := by
  obtain ⟨nx, code, sg, v, h1, h2, h3, -⟩ := C.2.1.1
  rw [gI_e h1 rfl, h3]
theorem CSt.val (C : CSt B n R D sD f h t lc pt) (k : tK t = 3) : gI f (some 168) 8 9 = some (nI (tV t)) := by
  obtain ⟨nx, code, sg, v, h1, h2, h3, h4, -⟩ := C.2.1.1
  rw [gI_e h1 rfl, h4 k]
theorem CSt.k4 (C : CSt B n R D sD f h t lc pt) : tK t ≤ 4 := by
  obtain ⟨p, o⟩ := C.2.1.2.o
  exact o.1
theorem CSt.name (C : CSt B n R D sD f h t lc pt) (k : tK t = 2) : okName (tL t) ∧ tL t ≠ [] := by
  obtain ⟨p, o⟩ := C.2.1.2.o
  exact ⟨(o.2.2.2.1 k).1, (o.2.2.2.1 k).2.1⟩
theorem cadv_s (hF : 742 ≤ F) (C : CSt B n R D sD f h t lc pt) (k : 2 ≤ tK t) : ∃ f', m_X9_advance F (some 168) f = some f' ∧ CSt B n R D sD f' h (nxT B n R t) lc pt ∧ ∀ a, a ≠ 168 → f' a = f a := by
  obtain ⟨nx, code, sg, v, h1, h2, h3, h4, h5⟩ := C.2.1.1
  obtain ⟨p, o⟩ := C.2.1.2.o
  obtain ⟨n7, r7, -⟩ := C.2.2.2.2.2
  obtain ⟨f', i1, i2, i3⟩ := cadv_e (F := F) hF C.1.1 C.1.2 n7 r7 (p := nx) (by rw [h5 k]; exact (o.2.2.1 k).2.2) h1
  rw [h5 k] at i2
  exact ⟨f', i1, C.tk i3 i2 (C.2.1.2.nx k), i3⟩
theorem cfail_s (C : CSt B n R D sD f h t lc pt) {k : Nat} (k1 : 1 ≤ k) (k4 : k ≤ 4) {K : Int32} (hK : K = nI k) : ∃ f', m_X9_fail F (some 168) K f = some (0, f') ∧ CF n R D sD f' (k, tA t) ∧ ∀ a, a ≠ 168 → f' a = f a := by
  subst hK
  obtain ⟨nx, code, sg, v, h1, h2, h3, h4, h5⟩ := C.2.1.1
  obtain ⟨p, o⟩ := C.2.1.2.o
  obtain ⟨-, -, ⟨c3, c4⟩, ⟨v4, v5, c5⟩, -, c7⟩ := C
  have kk : (if tK t = 2 then kwF (tL t) else 0) < 21 := by
    split
    · exact kwF_lt _
    · decide
  generalize (if tK t = 2 then kwF (tL t) else 0) = kw at h1 kk
  have p1 : pV f (some 168) 8 10 (.int (nI k)) = some (va_up f 168 (some (.inl (8, tcl n R (tA t) nx (tK t) code kw sg v (nI k) 0)))) := pV_e h1 (Nat.le_of_ble_eq_true rfl)
  have p2 : pV (va_up f 168 (some (.inl (8, tcl n R (tA t) nx (tK t) code kw sg v (nI k) 0)))) (some 168) 8 11 (.int (nI (tA t))) = some (va_up f 168 (some (.inl (8, tcl n R (tA t) nx (tK t) code kw sg v (nI k) (nI (tA t)))))) := pV_u (Nat.le_of_ble_eq_true rfl)
  refine ⟨va_up f 168 (some (.inl (8, tcl n R (tA t) nx (tK t) code kw sg v (nI k) (nI (tA t))))), ?_, ⟨⟨_, _, _, _, _, _, _, up_s, kk⟩, ⟨h, c3.frame (fun a _ _ _ => up_n (by omega)) c4, c4⟩, ⟨_, _, v4, v5, (up_n (by decide)).trans c5⟩, ⟨k1, k4⟩, o.2.1⟩, fun a ha => up_n ha⟩
  unfold m_X9_fail
  rw [bd_e (gI_e h1 rfl), if_pos rfl, bd_e p1, bd_e (gI_u rfl), bd_e p2, ck_e (by decide)]
theorem cnum_s (C : CSt B n R D sD f h t lc pt) {lo hi : Nat} (hl : lo < 1000) (hh : hi < 1000) {L H : Int32} (eL : L = nI lo) (eH : H = nI hi) : (∃ q f', mNum t lo hi = .inl q ∧ m_X9_numberHere F (some 168) L H f = some (-1, f') ∧ CF n R D sD f' q ∧ ∀ a, a ≠ 168 → f' a = f a) ∨ ∃ v, mNum t lo hi = .inr v ∧ m_X9_numberHere F (some 168) L H f = some (nI v, f) ∧ lo ≤ v ∧ v ≤ hi ∧ tK t = 3 := by
  subst eL; subst eH
  have k4 := C.k4
  unfold mNum m_X9_numberHere
  rw [bd_e C.kind]
  by_cases k : tK t = 3
  · obtain ⟨p, o⟩ := C.2.1.2.o
    have v100 := o.2.2.2.2.1 k
    rw [if_pos k, if_pos (show nI (tK t) = (3 : Int32) by rw [k]; rfl), bd_e (C.val k)]
    by_cases a1 : tV t < lo
    · obtain ⟨f', i1, i2, i3⟩ := cfail_s (F := F) C (k := 2) (by decide) (by decide) rfl
      refine Or.inl ⟨(2, tA t), f', by rw [if_neg (by omega)], ?_, i2, i3⟩
      rw [if_pos (nI_lt a1 (by omega)), ck_e C.isK, bd2_e (show m_X9_fail F (some 168) (2 : Int32) f = _ from i1)]
    · rw [if_neg (nI_nlt (by omega) (by omega)), bd_e (C.val k)]
      by_cases a2 : hi < tV t
      · obtain ⟨f', i1, i2, i3⟩ := cfail_s (F := F) C (k := 2) (by decide) (by decide) rfl
        refine Or.inl ⟨(2, tA t), f', by rw [if_neg (by omega)], ?_, i2, i3⟩
        rw [if_neg (nI_ge a2 (by omega)), ck_e C.isK, bd2_e (show m_X9_fail F (some 168) (2 : Int32) f = _ from i1)]
      · refine Or.inr ⟨tV t, by rw [if_pos (by omega)], ?_, by omega, by omega, k⟩
        rw [if_pos (nI_le (by omega) (by omega)), bd_e (C.val k)]
  · obtain ⟨f', i1, i2, i3⟩ := cfail_s (F := F) C (k := 1) (by decide) (by decide) rfl
    refine Or.inl ⟨(1, tA t), f', by rw [if_neg k], ?_, i2, i3⟩
    rw [if_neg (show ¬ nI (tK t) = (3 : Int32) from fun e => k ((nI_eq (b := 3) (by omega) (by omega)).mp e)), ck_e C.isK, bd2_e (show m_X9_fail F (some 168) (1 : Int32) f = _ from i1)]
theorem c32_one {L : List Nat} (h : okName L) (hne : L ≠ []) {N : Nat} (hN : N ≤ 7) : code32 L ≤ N ↔ L.length = 1 ∧ L.getD 0 0 ≤ N := by
  match L, hne, h with
  | [x], _, h =>
    show 0 * 32 + x ≤ N ↔ 1 = 1 ∧ x ≤ N
    rw [Nat.zero_mul, Nat.zero_add]
    exact ⟨fun q => ⟨rfl, q⟩, fun q => q.2⟩
  | x :: y :: M, _, h =>
    constructor
    · intro q
      exfalso
      have hx := (h.2 x List.mem_cons_self).1
      have gen : ∀ (M : List Nat) (c : Nat), 1 ≤ c → 1 ≤ M.length → 32 ≤ M.foldl (fun c l => c * 32 + l) c := by
        intro M
        induction M with
        | nil => intro c _ h; exact absurd h (by decide)
        | cons z M ih =>
          intro c hc _
          rw [List.foldl_cons]
          rcases Nat.eq_zero_or_pos M.length with w | w
          · rw [List.eq_nil_of_length_eq_zero w]
            show 32 ≤ c * 32 + z
            omega
          · exact ih _ (by omega) w
      have h32 : 32 ≤ code32 (x :: y :: M) := by
        show 32 ≤ (y :: M).foldl (fun c l => c * 32 + l) (0 * 32 + x)
        exact gen _ _ (by omega) (by simp)
      omega
    · rintro ⟨q, -⟩
      exact absurd q (by simp)
theorem clet_s (C : CSt B n R D sD f h t lc pt) {N : Nat} (hN : N ≤ 7) : (∃ q f', mLet t N = .inl q ∧ m_X9_letterHere F (some 168) (nI N) f = some (-1, f') ∧ CF n R D sD f' q ∧ ∀ a, a ≠ 168 → f' a = f a) ∨ ∃ v, mLet t N = .inr v ∧ m_X9_letterHere F (some 168) (nI N) f = some (nI v, f) ∧ v < N ∧ tK t = 2 := by
  have k4 := C.k4
  unfold mLet m_X9_letterHere
  rw [bd_e C.kind]
  by_cases k : tK t = 2
  · obtain ⟨nm, nn⟩ := C.name k
    have lt := c32_lt nm
    have hx : 1 ≤ (tL t).getD 0 0 := by
      match e : tL t, nn with
      | x :: M, _ => exact (nm.2 x (by rw [e]; exact List.mem_cons_self)).1
    rw [if_pos k, if_pos (show nI (tK t) = (2 : Int32) by rw [k]; rfl), bd_e (C.code k), nI_l (by omega)]
    by_cases w : (tL t).length = 1 ∧ (tL t).getD 0 0 ≤ N
    · refine Or.inr ⟨(tL t).getD 0 0 - 1, by rw [if_pos w], ?_, by omega, k⟩
      have e1 : code32 (tL t) = (tL t).getD 0 0 := by
        match e : tL t, w.1 with
        | [x], _ => show 0 * 32 + x = x; omega
      rw [if_pos (by rw [lg_cmp_le]; exact (lN_leL (by omega) (by omega)).mpr ((c32_one nm nn hN).mpr w)), bd_e (C.code k), lN_i, e1, nI_m1 hx]
    · obtain ⟨f', i1, i2, i3⟩ := cfail_s (F := F) C (k := 2) (by decide) (by decide) rfl
      refine Or.inl ⟨(2, tA t), f', by rw [if_neg w], ?_, i2, i3⟩
      rw [if_neg (fun e => w ((c32_one nm nn hN).mp ((lN_leL (by omega) (by omega)).mp (by rw [lg_cmp_le] at e; exact e)))), ck_e C.isK, bd2_e (show m_X9_fail F (some 168) (2 : Int32) f = _ from i1)]
  · obtain ⟨f', i1, i2, i3⟩ := cfail_s (F := F) C (k := 1) (by decide) (by decide) rfl
    refine Or.inl ⟨(1, tA t), f', by rw [if_neg k], ?_, i2, i3⟩
    rw [if_neg (show ¬ nI (tK t) = (2 : Int32) from fun e => k ((nI_eq (b := 2) (by omega) (by omega)).mp e)), ck_e C.isK, bd2_e (show m_X9_fail F (some 168) (1 : Int32) f = _ from i1)]
theorem fix_any {α : Type} (p : α → Bool) : ∀ (l : List α) (k : Nat), (fix' p l k).isSome = l.any p
  | [], _ => rfl
  | x :: xs, k => by
    unfold fix'
    rw [List.any_cons]
    cases e : p x
    · rw [if_neg (by decide), fix_any p xs (k + 1), Bool.false_or]
    · rw [if_pos rfl, Bool.true_or]
      rfl
theorem any_ext {α : Type} {p q : α → Bool} : ∀ {l : List α}, (∀ x ∈ l, p x = q x) → l.any p = l.any q
  | [], _ => rfl
  | x :: xs, h => by
    rw [List.any_cons, List.any_cons, h x List.mem_cons_self, any_ext (fun y hy => h y (List.mem_cons_of_mem _ hy))]
theorem isNm_e (ok : okH h) {L : List Nat} (hL : okName L) : isNm h (lN (code32 L)) = nmB h L := by
  unfold isNm nmB cNm
  rw [fix_any, Bool.or_comm]
  congr 1
  · refine any_ext (fun c hc => ?_)
    rw [decide_eq_decide]
    exact c32_inj (ok.2.2.1 c hc).1 hL
  · refine any_ext (fun c hc => ?_)
    rw [decide_eq_decide]
    exact c32_inj (ok.2.2.2.2.1 c hc).1 hL
theorem cname_s (hF : 16 ≤ F) (C : CSt B n R D sD f h t lc pt) : (∃ q f', mName h t = some q ∧ m_X5_isFreshName F (some 169) f = some (0, f') ∧ CF n R D sD f' q ∧ ∀ a, a ≠ 168 → f' a = f a) ∨ (mName h t = none ∧ m_X5_isFreshName F (some 169) f = some (1, f) ∧ tK t = 2 ∧ kwF (tL t) = 0) := by
  have k4 := C.k4
  obtain ⟨v4, v5, c5⟩ := C.2.2.2.1
  obtain ⟨H, ok⟩ := C.2.2.1
  have g0 : gR f (some 169) 4 0 = some (some 168) := gR_s c5 rfl
  have g1 : gR f (some 169) 4 1 = some (some D) := gR_s c5 rfl
  have kw := kwF_lt (tL t)
  have nme : m_X9_isName F (some 168) f = some (if tK t = 2 ∧ kwF (tL t) = 0 then 1 else 0) := by
    unfold m_X9_isName
    rw [bd_e C.kind]
    by_cases k : tK t = 2
    · rw [if_pos (show nI (tK t) = (2 : Int32) by rw [k]; rfl), bd_e C.key, if_pos k, ck_e (show (okE (some (kwF (tL t))) && okE (some 0)) = true from by
        show (decide (kwF (tL t) < 21) && decide (0 < 21)) = true
        rw [decide_eq_true kw]; rfl)]
      by_cases w : kwF (tL t) = 0
      · rw [if_pos (by rw [w]), ck_e (by decide), if_pos ⟨k, w⟩]
      · rw [if_neg (fun e => w (Option.some.inj e)), ck_e (by decide), if_neg (fun e => w e.2)]
    · rw [if_neg (show ¬ nI (tK t) = (2 : Int32) from fun e => k ((nI_eq (b := 2) (by omega) (by omega)).mp e)), ck_e (by decide), if_neg (fun e => k e.1)]
  unfold mName m_X5_isFreshName
  rw [bd_e g0, ck_e C.isK, bd_e nme]
  by_cases w : tK t = 2 ∧ kwF (tL t) = 0
  · have nm := (C.name w.1).1
    rw [if_pos w, if_pos w, if_neg (show ¬ (1 : Int32) = 0 by decide), bd_e g1, bd_e g0, bd_e (C.code w.1), ck_e (isO_e H.1), bd_e (isNamed_e H ok hF _), isNm_e ok nm]
    cases e : nmB h (tL t)
    · refine Or.inr ⟨by rw [if_neg (show ¬ false = true by decide)], ?_, w⟩
      rw [if_neg (show ¬ false = true by decide), if_pos rfl, ck_e (by decide)]
    · obtain ⟨f', i1, i2, i3⟩ := cfail_s (F := F) C (k := 3) (by decide) (by decide) rfl
      refine Or.inl ⟨(3, tA t), f', by rw [if_pos rfl], ?_, i2, i3⟩
      rw [if_pos rfl, if_neg (by decide), bd_e g0, ck_e C.isK, bd2_e (show m_X9_fail F (some 168) (3 : Int32) f = _ from i1), ck_e (by decide)]
  · obtain ⟨f', i1, i2, i3⟩ := cfail_s (F := F) C (k := 1) (by decide) (by decide) rfl
    refine Or.inl ⟨(1, tA t), f', by rw [if_neg w], ?_, i2, i3⟩
    rw [if_neg w, if_pos rfl, bd_e g0, ck_e C.isK, bd2_e (show m_X9_fail F (some 168) (1 : Int32) f = _ from i1), ck_e (by decide)]
end OPS
end CREAD3
