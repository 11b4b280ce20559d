/-! the text of a SENTENCE, told by mathematical values -/
def mCp (h : HS) (L : List Nat) : Option Nat := fix' (fun c : List Nat × List Nat => decide (c.1 = L)) (hC h) 0
abbrev MRs : Type := Flt ⊕ (SN × Nat × Tok)
section MSENT
variable (B : Nat → Nat) (n R : Nat) (h : HS)
def mMeas (k : Nat) (a : Int32) (o : Nat) (t : Tok) : MRs :=
  if tK t = 4 ∧ (tS t = 60 ∨ tS t = 61 ∨ tS t = 62) then
    match mNum (nxT B n R t) 0 99 with
    | .inl q => .inl q
    | .inr v => .inr ([(k, a, 0, nI (tS t), nI v)], o, nxT B n R (nxT B n R t))
  else .inl (1, tA t)
def mLeaf (k o : Nat) (t : Tok) : MRs :=
  if k = 13 ∨ k = 14 then .inr ([e5 k], o, t) else
  if k = 15 then
    match mLet t (hN h) with
    | .inl q => .inl q
    | .inr a => .inr ([(15, nI a, 0, 0, 0)], o, nxT B n R t) else
  if k = 16 then
    match mLet t (hN h) with
    | .inl q => .inl q
    | .inr a =>
      match mLet (nxT B n R t) (hN h) with
      | .inl q => .inl q
      | .inr b => .inr ([(16, nI a, nI b, 0, 0)], o, nxT B n R (nxT B n R t)) else
  if k = 17 ∨ k = 18 then
    (if tK t = 2 ∧ kwF (tL t) = 0 then
      match mCp h (tL t) with
      | none => .inl (3, tA t)
      | some c => mMeas B n R k (nI c) o (nxT B n R t)
    else .inl (1, tA t)) else
  mMeas B n R k (-1) o t
def mLp (one : Nat → Tok → MRs) (w : Nat) : Nat → SN → Nat → Tok → MRs
  | 0, _, _, _ => .inl (0, 0)
  | k + 1, Q, o, t => if kyF t = w then
      match one o (nxT B n R t) with
      | .inl q => .inl q
      | .inr q => mLp one w k (Q ++ q.1 ++ [e5 w]) q.2.1 q.2.2
    else .inr (Q, o, t)
def mSq (one : Nat → Tok → MRs) (w : Nat) (o : Nat) (t : Tok) : MRs :=
  match one o t with
  | .inl q => .inl q
  | .inr q => mLp B n R one w 21 q.1 q.2.1 q.2.2
def mSt (t : Tok) : Prop := 12 ≤ kyF t ∨ tK t = 4 ∧ tS t = 40
def mOne : Nat → Nat → Tok → MRs
  | 0, o, t => if 12 ≤ kyF t ∨ tK t = 4 ∧ tS t = 40 then .inl (4, tA t) else .inl (1, tA t)
  | r + 1, o, t => if 12 ≤ kyF t ∨ tK t = 4 ∧ tS t = 40 then
      (if o = 20 then .inl (4, tA t) else
      if kyF t = 12 then
        match mOne r (o + 1) (nxT B n R t) with
        | .inl q => .inl q
        | .inr q => .inr (q.1 ++ [e5 12], q.2.1, q.2.2) else
      if kyF t = 0 then
        match mSq B n R (mSq B n R (mOne r) 11) 10 (o + 1) (nxT B n R t) with
        | .inl q => .inl q
        | .inr q => if tK q.2.2 = 4 ∧ tS q.2.2 = 41 then .inr (q.1, q.2.1, nxT B n R q.2.2) else .inl (1, tA q.2.2) else
      mLeaf B n R h (kyF t) (o + 1) (nxT B n R t))
    else .inl (1, tA t)
def mCond (r : Nat) : Nat → Tok → MRs := mSq B n R (mSq B n R (mOne B n R h r) 11) 10
def mSent : MRs :=
  match mCond B n R h 8 0 (tokF B n R 0) with
  | .inl q => .inl q
  | .inr q => if tK q.2.2 = 0 then .inr q else .inl (1, tA q.2.2)
end MSENT
/-! the class's TOKENS alone -/
section TKSX
variable {F : Nat} {B : Nat → Nat} {n R : Nat}
def TKS (B : Nat → Nat) (n R : Nat) (f : Hp) (t : Tok) : Prop := (St4 f ∧ TP f B) ∧ (TKc f n R t 0 0 ∧ isT B n R t) ∧ n ≤ 740 ∧ R ≤ 740
def CFt (n R : Nat) (f : Hp) (q : Flt) : Prop := (∃ a nx k0 code kw sg v, f 168 = some (.inl (8, tcl n R a nx k0 code kw sg v (nI q.1) (nI q.2))) ∧ kw < 21) ∧ 1 ≤ q.1 ∧ q.1 ≤ 4
variable {f : Hp} {t : Tok}
theorem TKS.kind (C : TKS B n R f t) : gI f (some 168) 8 5 = some (nI (tK t)) := by
  obtain ⟨nx, code, sg, v, h1, -⟩ := C.2.1.1
  exact gI_e h1 rfl
theorem TKS.isK (C : TKS B n R f t) : isO f (some 168) 8 = true := by
  obtain ⟨nx, code, sg, v, h1, -⟩ := C.2.1.1
  exact isO_e h1
theorem TKS.key (C : TKS B n R f t) : gR f (some 168) 8 7 = some (some (kyF t)) := by
  obtain ⟨nx, code, sg, v, h1, -⟩ := C.2.1.1
  exact gR_s h1 rfl
theorem TKS.code (C : TKS B n R f t) (k : tK t = 2) : gJ f (some 168) 8 6 = some (lN (code32 (tL t))) := by
  obtain ⟨nx, code, sg, v, h1, h2, -⟩ := C.2.1.1
  rw [gJ_e h1 rfl, h2 k]
theorem TKS.sign (C : TKS B n R f t) : gI f (some 168) 8 8 = some (if tK t = 4 then nI (tS t) else 0) := by
  obtain ⟨nx, code, sg, v, h1, h2, h3, -⟩ := C.2.1.1
  rw [gI_e h1 rfl, h3]
theorem TKS.val (C : TKS B n R f t) (k : tK t = 3) : gI f (some 168) 8 9 = some (nI (tV t)) := by
  obtain ⟨nx, code, sg, v, h1, h2, h3, h4, -⟩ := C.2.1.1
  rw [gI_e h1 rfl, h4 k]
theorem TKS.k4 (C : TKS B n R f t) : tK t ≤ 4 := by
  obtain ⟨p, o⟩ := C.2.1.2.o
  exact o.1
theorem TKS.name (C : TKS B n R f t) (k : tK t = 2) : okName (tL t) ∧ tL t ≠ [] := by
  obtain ⟨p, o⟩ := C.2.1.2.o
  exact ⟨(o.2.2.2.1 k).1, (o.2.2.2.1 k).2.1⟩
theorem TKS.s7 (C : TKS B n R f t) (k : tK t = 4) : tS t < 128 := by
  obtain ⟨p, o⟩ := C.2.1.2.o
  exact (o.2.2.2.2.2 k).1
theorem tadv (hF : 742 ≤ F) (C : TKS B n R f t) (k : 2 ≤ tK t) : ∃ f', m_X9_advance F (some 168) f = some f' ∧ TKS B n R f' (nxT B n R t) ∧ ∀ a, a ≠ 168 → f' a = f a := by
  obtain ⟨nx, code, sg, v, h1, h2, h3, h4, h5⟩ := C.2.1.1
  obtain ⟨p, o⟩ := C.2.1.2.o
  obtain ⟨n7, r7⟩ := C.2.2
  obtain ⟨f', i1, i2, i3⟩ := cadv_e (F := F) hF C.1.1 C.1.2 n7 r7 (p := nx) (by rw [h5 k]; exact (o.2.2.1 k).2.2) h1
  rw [h5 k] at i2
  exact ⟨f', i1, ⟨⟨C.1.1.frame (fun a ha => i3 a (by omega)), C.1.2.frame (i3 _ (by omega))⟩, ⟨i2, C.2.1.2.nx k⟩, n7, r7⟩, i3⟩
theorem tfail (C : TKS B n R f t) {k : Nat} (k1 : 1 ≤ k) (k4 : k ≤ 4) {K : Int32} (hK : K = nI k) : ∃ f', m_X9_fail F (some 168) K f = some (0, f') ∧ CFt n R f' (k, tA t) ∧ ∀ a, a ≠ 168 → f' a = f a := by
  subst hK
  obtain ⟨nx, code, sg, v, h1, h2, h3, h4, h5⟩ := C.2.1.1
  have kk : (if tK t = 2 then kwF (tL t) else 0) < 21 := kyF_lt t
  generalize (if tK t = 2 then kwF (tL t) else 0) = kw at h1 kk
  have p1 : pV f (some 168) 8 10 (.int (nI k)) = some (va_up f 168 (some (.inl (8, tcl n R (tA t) nx (tK t) code kw sg v (nI k) 0)))) := pV_e h1 (Nat.le_of_ble_eq_true rfl)
  have p2 : pV (va_up f 168 (some (.inl (8, tcl n R (tA t) nx (tK t) code kw sg v (nI k) 0)))) (some 168) 8 11 (.int (nI (tA t))) = some (va_up f 168 (some (.inl (8, tcl n R (tA t) nx (tK t) code kw sg v (nI k) (nI (tA t)))))) := pV_u (Nat.le_of_ble_eq_true rfl)
  refine ⟨va_up f 168 (some (.inl (8, tcl n R (tA t) nx (tK t) code kw sg v (nI k) (nI (tA t))))), ?_, ⟨⟨_, _, _, _, _, _, _, up_s, kk⟩, k1, k4⟩, fun a ha => up_n ha⟩
  unfold m_X9_fail
  rw [bd_e (gI_e h1 rfl), if_pos rfl, bd_e p1, bd_e (gI_u rfl), bd_e p2, ck_e (by decide)]
theorem tnum (C : TKS B n R f t) {lo hi : Nat} (hl : lo < 1000) (hh : hi < 1000) {L H : Int32} (eL : L = nI lo) (eH : H = nI hi) : (∃ q f', mNum t lo hi = .inl q ∧ m_X9_numberHere F (some 168) L H f = some (-1, f') ∧ CFt n R f' q ∧ ∀ a, a ≠ 168 → f' a = f a) ∨ ∃ v, mNum t lo hi = .inr v ∧ m_X9_numberHere F (some 168) L H f = some (nI v, f) ∧ lo ≤ v ∧ v ≤ hi ∧ tK t = 3 := by
  subst eL; subst eH
  have k4 := C.k4
  unfold mNum m_X9_numberHere
  rw [bd_e C.kind]
  by_cases k : tK t = 3
  · obtain ⟨p, o⟩ := C.2.1.2.o
    have v100 := o.2.2.2.2.1 k
    rw [if_pos k, if_pos (show nI (tK t) = (3 : Int32) by rw [k]; rfl), bd_e (C.val k)]
    by_cases a1 : tV t < lo
    · obtain ⟨f', i1, i2, i3⟩ := tfail (F := F) C (k := 2) (by decide) (by decide) rfl
      refine Or.inl ⟨(2, tA t), f', by rw [if_neg (by omega)], ?_, i2, i3⟩
      rw [if_pos (nI_lt a1 (by omega)), ck_e C.isK, bd2_e (show m_X9_fail F (some 168) (2 : Int32) f = _ from i1)]
    · rw [if_neg (nI_nlt (by omega) (by omega)), bd_e (C.val k)]
      by_cases a2 : hi < tV t
      · obtain ⟨f', i1, i2, i3⟩ := tfail (F := F) C (k := 2) (by decide) (by decide) rfl
        refine Or.inl ⟨(2, tA t), f', by rw [if_neg (by omega)], ?_, i2, i3⟩
        rw [if_neg (nI_ge a2 (by omega)), ck_e C.isK, bd2_e (show m_X9_fail F (some 168) (2 : Int32) f = _ from i1)]
      · refine Or.inr ⟨tV t, by rw [if_pos (by omega)], ?_, by omega, by omega, k⟩
        rw [if_pos (nI_le (by omega) (by omega)), bd_e (C.val k)]
  · obtain ⟨f', i1, i2, i3⟩ := tfail (F := F) C (k := 1) (by decide) (by decide) rfl
    refine Or.inl ⟨(1, tA t), f', by rw [if_neg k], ?_, i2, i3⟩
    rw [if_neg (show ¬ nI (tK t) = (3 : Int32) from fun e => k ((nI_eq (b := 3) (by omega) (by omega)).mp e)), ck_e C.isK, bd2_e (show m_X9_fail F (some 168) (1 : Int32) f = _ from i1)]
theorem tlet (C : TKS B n R f t) {N : Nat} (hN : N ≤ 7) : (∃ q f', mLet t N = .inl q ∧ m_X9_letterHere F (some 168) (nI N) f = some (-1, f') ∧ CFt n R f' q ∧ ∀ a, a ≠ 168 → f' a = f a) ∨ ∃ v, mLet t N = .inr v ∧ m_X9_letterHere F (some 168) (nI N) f = some (nI v, f) ∧ v < N ∧ tK t = 2 := by
  have k4 := C.k4
  unfold mLet m_X9_letterHere
  rw [bd_e C.kind]
  by_cases k : tK t = 2
  · obtain ⟨nm, nn⟩ := C.name k
    have lt := c32_lt nm
    have hx : 1 ≤ (tL t).getD 0 0 := by
      match e : tL t, nn with
      | x :: M, _ => exact (nm.2 x (by rw [e]; exact List.mem_cons_self)).1
    rw [if_pos k, if_pos (show nI (tK t) = (2 : Int32) by rw [k]; rfl), bd_e (C.code k), nI_l (by omega)]
    by_cases w : (tL t).length = 1 ∧ (tL t).getD 0 0 ≤ N
    · refine Or.inr ⟨(tL t).getD 0 0 - 1, by rw [if_pos w], ?_, by omega, k⟩
      have e1 : code32 (tL t) = (tL t).getD 0 0 := by
        match e : tL t, w.1 with
        | [x], _ => show 0 * 32 + x = x; omega
      rw [if_pos (by rw [lg_cmp_le]; exact (lN_leL (by omega) (by omega)).mpr ((c32_one nm nn hN).mpr w)), bd_e (C.code k), lN_i, e1, nI_m1 hx]
    · obtain ⟨f', i1, i2, i3⟩ := tfail (F := F) C (k := 2) (by decide) (by decide) rfl
      refine Or.inl ⟨(2, tA t), f', by rw [if_neg w], ?_, i2, i3⟩
      rw [if_neg (fun e => w ((c32_one nm nn hN).mp ((lN_leL (by omega) (by omega)).mp (by rw [lg_cmp_le] at e; exact e)))), ck_e C.isK, bd2_e (show m_X9_fail F (some 168) (2 : Int32) f = _ from i1)]
  · obtain ⟨f', i1, i2, i3⟩ := tfail (F := F) C (k := 1) (by decide) (by decide) rfl
    refine Or.inl ⟨(1, tA t), f', by rw [if_neg k], ?_, i2, i3⟩
    rw [if_neg (show ¬ nI (tK t) = (2 : Int32) from fun e => k ((nI_eq (b := 2) (by omega) (by omega)).mp e)), ck_e C.isK, bd2_e (show m_X9_fail F (some 168) (1 : Int32) f = _ from i1)]
theorem tisN (C : TKS B n R f t) : m_X9_isName F (some 168) f = some (if tK t = 2 ∧ kwF (tL t) = 0 then 1 else 0) := by
  have k4 := C.k4
  have kw := kwF_lt (tL t)
  unfold m_X9_isName
  rw [bd_e C.kind]
  by_cases k : tK t = 2
  · have ek : kyF t = kwF (tL t) := if_pos k
    rw [if_pos (show nI (tK t) = (2 : Int32) by rw [k]; rfl), bd_e C.key, ek, ck_e (show (okE (some (kwF (tL t))) && okE (some 0)) = true from by
      show (decide (kwF (tL t) < 21) && decide (0 < 21)) = true
      rw [decide_eq_true kw]; rfl)]
    by_cases w : kwF (tL t) = 0
    · rw [if_pos (by rw [w]), ck_e (by decide), if_pos ⟨k, w⟩]
    · rw [if_neg (fun e => w (Option.some.inj e)), ck_e (by decide), if_neg (fun e => w e.2)]
  · rw [if_neg (show ¬ nI (tK t) = (2 : Int32) from fun e => k ((nI_eq (b := 2) (by omega) (by omega)).mp e)), ck_e (by decide), if_neg (fun e => k e.1)]
theorem tsign (hF : 742 ≤ F) (C : TKS B n R f t) {c : Nat} (c0 : 0 < c) (c7 : c < 128) {K : Int32} (hK : K = nI c) : (tK t = 4 ∧ tS t = c ∧ ∃ f', m_X9_passSign F (some 168) K f = some (1, f') ∧ TKS B n R f' (nxT B n R t) ∧ ∀ a, a ≠ 168 → f' a = f a) ∨ (¬ (tK t = 4 ∧ tS t = c) ∧ ∃ f', m_X9_passSign F (some 168) K f = some (0, f') ∧ CFt n R f' (1, tA t) ∧ ∀ a, a ≠ 168 → f' a = f a) := by
  subst hK
  unfold m_X9_passSign
  rw [bd_e C.sign]
  by_cases w : tK t = 4 ∧ tS t = c
  · obtain ⟨f', i1, i2, i3⟩ := tadv hF C (by omega)
    refine Or.inl ⟨w.1, w.2, f', ?_, i2, i3⟩
    rw [if_pos w.1, w.2, if_pos rfl, ck_e C.isK, bd_e i1, ck_e (by decide)]
  · obtain ⟨f', i1, i2, i3⟩ := tfail (F := F) C (k := 1) (K := 1) (by decide) (by decide) rfl
    refine Or.inr ⟨w, f', ?_, i2, i3⟩
    rw [if_neg ?_, ck_e C.isK, bd2_e i1, ck_e (by decide)]
    by_cases k : tK t = 4
    · rw [if_pos k]
      intro e
      have := C.s7 k
      exact w ⟨k, (nI_eq (by omega) (by omega)).mp e⟩
    · rw [if_neg k]
      intro e
      have := (nI_eq (a := 0) (by omega) (by omega)).mp e
      omega
theorem mCp_e {h : HS} (ok : okH h) {L : List Nat} (hL : okName L) : cNm h (lN (code32 L)) = mCp h L := by
  have gen : ∀ (l : List (List Nat × List Nat)) (k : Nat), (∀ c ∈ l, okName c.1) → fix' (fun c : List Nat × List Nat => decide (lN (code32 c.1) = lN (code32 L))) l k = fix' (fun c : List Nat × List Nat => decide (c.1 = L)) l k := by
    intro l
    induction l with
    | nil => intro k _; rfl
    | cons c l ih =>
      intro k hc
      have e : decide (lN (code32 c.1) = lN (code32 L)) = decide (c.1 = L) := decide_eq_decide.mpr (c32_inj (hc c List.mem_cons_self) hL)
      show (if decide (lN (code32 c.1) = lN (code32 L)) = true then some k else fix' _ l (k + 1)) = if decide (c.1 = L) = true then some k else fix' _ l (k + 1)
      rw [e, ih (k + 1) (fun d hd => hc d (List.mem_cons_of_mem _ hd))]
  exact gen (hC h) 0 (fun c hc => (ok.2.2.1 c hc).1)
end TKSX
