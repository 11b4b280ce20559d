/-! the class's TOKENS -/
def tcl (n R a nx k : Nat) (code : Int64) (kw : Nat) (sg v fk fp : Int32) : List Value := [.ref 101, .int (nI n), .int (nI R), .int (nI a), .int (nI nx), .int (nI k), .long code, .ref kw, .int sg, .int v, .int fk, .int fp]
def TKc (f : Hp) (n R : Nat) (t : Tok) (fk fp : Int32) : Prop := ∃ nx code sg v, f 168 = some (.inl (8, tcl n R (tA t) nx (tK t) code (if tK t = 2 then kwF (tL t) else 0) sg v fk fp)) ∧ (tK t = 2 → code = lN (code32 (tL t))) ∧ (sg = if tK t = 4 then nI (tS t) else 0) ∧ (tK t = 3 → v = nI (tV t)) ∧ (2 ≤ tK t → nx = tB t)
theorem by_bl : ∀ b, b < 256 → (if i2b (nI b) = 32 then (1 : Int32) else if i2b (nI b) = 10 then 1 else 0) = if blB b then 1 else 0 := by decide +kernel
theorem by_lt : ∀ b, b < 256 → (if i2b (nI b) < 97 then (0 : Int32) else if (122 : Int32) < i2b (nI b) then 0 else 1) = if ltB b then 1 else 0 := by decide +kernel
theorem by_dg : ∀ b, b < 256 → (if i2b (nI b) < 48 then (0 : Int32) else if (57 : Int32) < i2b (nI b) then 0 else 1) = if dgB b then 1 else 0 := by decide +kernel
theorem by_lo : ∀ b, b < 128 → i2b (nI b) = nI b := by decide +kernel
theorem by_sn : ∀ b, b < 256 → (decide (i2b (nI b) = 59) || decide (i2b (nI b) = 60) || decide (i2b (nI b) = 61) || decide (i2b (nI b) = 62) || decide (i2b (nI b) = 40) || decide (i2b (nI b) = 41)) = snB b := by decide +kernel
section CTOK
variable {F : Nat} {f : Hp} {B : Nat → Nat}
theorem cblank_e {b : Nat} (hb : b < 256) : m_X9_isBlank F (i2b (nI b)) f = some (if blB b then 1 else 0) := by
  rw [← by_bl b hb]
  unfold m_X9_isBlank
  by_cases c1 : i2b (nI b) = 32
  · rw [if_pos c1, if_pos c1, ck_e (by decide)]
  · rw [if_neg c1, if_neg c1]
    by_cases c2 : i2b (nI b) = 10
    · rw [if_pos c2, if_pos c2, ck_e (by decide)]
    · rw [if_neg c2, if_neg c2, ck_e (by decide)]
theorem clet_e {b : Nat} (hb : b < 256) : m_X9_isLetter F (i2b (nI b)) f = some (if ltB b then 1 else 0) := by
  rw [← by_lt b hb]
  unfold m_X9_isLetter
  by_cases c1 : i2b (nI b) < 97
  · rw [if_pos c1, if_pos c1, ck_e (by decide)]
  · rw [if_neg c1, if_neg c1]
    by_cases c2 : (122 : Int32) < i2b (nI b)
    · rw [if_pos c2, if_pos c2, ck_e (by decide)]
    · rw [if_neg c2, if_neg c2, ck_e (by decide)]
theorem cdig_e {b : Nat} (hb : b < 256) : m_X9_isDigit F (i2b (nI b)) f = some (if dgB b then 1 else 0) := by
  rw [← by_dg b hb]
  unfold m_X9_isDigit
  by_cases c1 : i2b (nI b) < 48
  · rw [if_pos c1, if_pos c1, ck_e (by decide)]
  · rw [if_neg c1, if_neg c1]
    by_cases c2 : (57 : Int32) < i2b (nI b)
    · rw [if_pos c2, if_pos c2, ck_e (by decide)]
    · rw [if_neg c2, if_neg c2, ck_e (by decide)]
theorem b01T (b : Bool) : ((if b = true then (1 : Int32) else 0) = 0) = (b = false) := by cases b <;> simp
/-- a byte of the text -/
theorem tby {g : Hp} {fs : List Value} (P : TP g B) (h : g 168 = some (.inl (8, fs))) (h0 : fs[0]? = some (.ref 101)) {i : Nat} (hi : i < 740) {β : Type} {K : Int32 → Option β} : ((gR g (some 168) 8 0).bind fun x => (ldI g 0 x (nI i)).bind K) = K (i2b (nI (B i))) := by
  obtain ⟨t, t1, t2⟩ := P
  rw [bd_e (gR_s h h0), bd_e (ldI_e t1 hi (by omega)), (t2 i hi).2]
theorem tlt {g : Hp} (P : TP g B) {i : Nat} (hi : i < 740) : B i < 256 := by
  obtain ⟨t, t1, t2⟩ := P
  exact (t2 i hi).1
/-- the run's kind -/
theorem crun_end (hF : 22 ≤ F) (S : St4 f) {n R a e lc dc : Nat} {M : List Nat} {nx0 k0 : Nat} {code : Int64} {v fk fp : Int32} (h : f 168 = some (.inl (8, tcl n R a nx0 k0 code 0 0 v fk fp))) (hM : ∀ c ∈ M, (ltB c || dgB c) = true) (hl : M.countP ltB = lc) (hd : M.countP dgB = dc) (hne : M ≠ []) (hlen : M.length = e - a) (hn : M.length ≤ 740) (hc : dc = 0 → code = lN (code32 (lts M))) (hv : lc = 0 → v = nI (vlD M)) : ∃ f', m_X9_readRun_B114 F (some 168) (nI lc) (nI dc) (nI e) f = some f' ∧ TKc f' n R (runM a e M) fk fp ∧ ∀ x, x ≠ 168 → f' x = f x := by
  have hs := cntP_ld hM
  have p1 : pV f (some 168) 8 4 (.int (nI e)) = some (va_up f 168 (some (.inl (8, tcl n R a e k0 code 0 0 v fk fp)))) := pV_e h (Nat.le_of_ble_eq_true rfl)
  have p2 : pV (va_up f 168 (some (.inl (8, tcl n R a e k0 code 0 0 v fk fp)))) (some 168) 8 5 (.int 1) = some (va_up f 168 (some (.inl (8, tcl n R a e 1 code 0 0 v fk fp)))) := pV_u (Nat.le_of_ble_eq_true rfl)
  have B153 : (¬ (dc = 0 ∧ lc ≤ 7)) → ∃ f', m_X9_readRun_B153 F (some 168) (nI lc) (nI dc) (va_up f 168 (some (.inl (8, tcl n R a e 1 code 0 0 v fk fp)))) = some f' ∧ TKc f' n R (runM a e M) fk fp ∧ ∀ x, x ≠ 168 → f' x = f x := by
    intro q
    have q' : ¬ (M.countP dgB = 0 ∧ M.length ≤ 7) := fun c => q ⟨by omega, by omega⟩
    unfold m_X9_readRun_B153 runM
    rw [if_neg q']
    by_cases w : lc = 0
    · rw [if_pos (by rw [w]; rfl)]
      by_cases w2 : dc ≤ 2
      · have p3 : pV (va_up f 168 (some (.inl (8, tcl n R a e 1 code 0 0 v fk fp)))) (some 168) 8 5 (.int 3) = some (va_up f 168 (some (.inl (8, tcl n R a e 3 code 0 0 v fk fp)))) := pV_u (Nat.le_of_ble_eq_true rfl)
        refine ⟨va_up f 168 (some (.inl (8, tcl n R a e 3 code 0 0 v fk fp))), ?_, ?_, fun x hx => up_n hx⟩
        · rw [if_neg (show ¬ (2 : Int32) < nI dc from nI_nlt (a := 2) w2 (by omega)), bd_e p3]
        · rw [if_pos (show M.countP ltB = 0 ∧ M.length ≤ 2 from ⟨by omega, by omega⟩)]
          exact ⟨e, code, 0, v, up_s, fun h => absurd h (by show ¬ 3 = 2; decide), rfl, fun _ => hv w, fun _ => rfl⟩
      · refine ⟨va_up f 168 (some (.inl (8, tcl n R a e 1 code 0 0 v fk fp))), ?_, ?_, fun x hx => up_n hx⟩
        · rw [if_pos (show (2 : Int32) < nI dc from nI_lt (a := 2) (by omega) (by omega))]
        · rw [if_neg (show ¬ (M.countP ltB = 0 ∧ M.length ≤ 2) from fun c => by omega)]
          exact ⟨e, code, 0, v, up_s, fun h => absurd h (by show ¬ 1 = 2; decide), rfl, fun h => absurd h (by show ¬ 1 = 3; decide), fun h => absurd h (by show ¬ 2 ≤ 1; decide)⟩
    · refine ⟨va_up f 168 (some (.inl (8, tcl n R a e 1 code 0 0 v fk fp))), ?_, ?_, fun x hx => up_n hx⟩
      · rw [if_neg (nI_ne0 (by omega) (by omega))]
      · rw [if_neg (show ¬ (M.countP ltB = 0 ∧ M.length ≤ 2) from fun c => by omega)]
        exact ⟨e, code, 0, v, up_s, fun h => absurd h (by show ¬ 1 = 2; decide), rfl, fun h => absurd h (by show ¬ 1 = 3; decide), fun h => absurd h (by show ¬ 2 ≤ 1; decide)⟩
  unfold m_X9_readRun_B114
  rw [bd_e p1, bd_e p2]
  by_cases q0 : dc = 0
  · rw [if_pos (by rw [q0]; rfl)]
    by_cases q1 : lc ≤ 7
    · have p3 : pV (va_up f 168 (some (.inl (8, tcl n R a e 1 code 0 0 v fk fp)))) (some 168) 8 5 (.int 2) = some (va_up f 168 (some (.inl (8, tcl n R a e 2 code 0 0 v fk fp)))) := pV_u (Nat.le_of_ble_eq_true rfl)
      have p4 : pV (va_up f 168 (some (.inl (8, tcl n R a e 2 code 0 0 v fk fp)))) (some 168) 8 7 (va_rf (some (kwF (lts M)))) = some (va_up f 168 (some (.inl (8, tcl n R a e 2 code (kwF (lts M)) 0 v fk fp)))) := pV_u (Nat.le_of_ble_eq_true rfl)
      have nm : okName (lts M) := by
        refine ⟨by unfold lts; rw [List.length_map]; omega, fun l hl => ?_⟩
        obtain ⟨c, h1, h2⟩ := List.mem_map.mp hl
        have h3 := hM c h1
        rw [cntP_0 (show M.countP dgB = 0 by omega) c h1, Bool.or_false] at h3
        simp [ltB] at h3
        omega
      have nn : lts M ≠ [] := fun c => hne (by
        have : (lts M).length = 0 := by rw [c]; rfl
        unfold lts at this
        rw [List.length_map] at this
        exact List.eq_nil_of_length_eq_zero this)
      have S' : St4 (va_up f 168 (some (.inl (8, tcl n R a e 2 code 0 0 v fk fp)))) := S.frame (fun x hx => up_n (by omega))
      refine ⟨va_up f 168 (some (.inl (8, tcl n R a e 2 code (kwF (lts M)) 0 v fk fp))), ?_, ?_, fun x hx => up_n hx⟩
      · rw [if_neg (show ¬ (7 : Int32) < nI lc from nI_nlt (a := 7) q1 (by omega)), bd_e p3, bd_e (gJ_u rfl), hc q0, bd_e (by have := cword_e (F := F) hF S' nm nn; rw [hc q0] at this; exact this)]
        rw [hc q0] at p4
        rw [bd_e p4]
      · unfold runM
        rw [if_pos (show M.countP dgB = 0 ∧ M.length ≤ 7 from ⟨by omega, by omega⟩)]
        exact ⟨e, code, 0, v, up_s, fun _ => hc q0, rfl, fun h => absurd h (by show ¬ 2 = 3; decide), fun _ => rfl⟩
    · rw [if_pos (show (7 : Int32) < nI lc from nI_lt (a := 7) (by omega) (by omega))]
      exact B153 (fun c => q1 c.2)
  · rw [if_neg (nI_ne0 (by omega) (by omega))]
    exact B153 (fun c => q0 c.1)
theorem crun_L (hF : 22 ≤ F) {n R a : Nat} {fk fp : Int32} (hn : n ≤ 740) {nx0 k0 : Nat} : ∀ (d i z : Nat) (f : Hp) (code : Int64) (v : Int32), i + d = n → a ≤ i → d < z → St4 f → TP f B → f 168 = some (.inl (8, tcl n R a nx0 k0 code 0 0 v fk fp)) → (∀ j, a ≤ j → j < i → (ltB (B j) || dgB (B j)) = true) → (a < rnF B d i) → ((byL B a i).countP dgB = 0 → code = lN (code32 (lts (byL B a i)))) → ((byL B a i).countP ltB = 0 → v = nI (vlD (byL B a i))) → ∃ f', m_X9_readRun_L9 F z (some 168) (nI ((byL B a i).countP ltB)) (nI ((byL B a i).countP dgB)) (nI i) f = some f' ∧ TKc f' n R (runM a (rnF B d i) (byL B a (rnF B d i))) fk fp ∧ ∀ x, x ≠ 168 → f' x = f x := by
  intro d
  induction d with
  | zero =>
    intro i z f code v hi ha hz S P h hr hlt hc hv
    obtain ⟨z, rfl⟩ : ∃ j, z = j + 1 := ⟨z - 1, by omega⟩
    have hlt' : a < i := hlt
    rw [show rnF B 0 i = i from rfl]
    show ∃ f', m_X9_readRun_b9 F _ _ _ _ _ _ = _ ∧ _
    unfold m_X9_readRun_b9
    rw [bd_e (gI_e h rfl), if_pos (nI_le (by omega) (by omega))]
    exact crun_end hF S h (fun c hc' => by obtain ⟨j, j1, j2, rfl⟩ := byL_mem hc'; exact hr j j1 j2) rfl rfl (fun c => by have c' : byL B a i = [] := c; have := byL_len B a i; rw [c'] at this; simp at this; omega) (byL_len B a i) (by rw [byL_len]; omega) hc hv
  | succ d ih =>
    intro i z f code v hi ha hz S P h hr hlt hc hv
    obtain ⟨z, rfl⟩ : ∃ j, z = j + 1 := ⟨z - 1, by omega⟩
    have hb := tlt P (show i < 740 by omega)
    have ml := byL_len B a i
    have cl := List.countP_le_length (p := ltB) (l := byL B a i)
    have cd := List.countP_le_length (p := dgB) (l := byL B a i)
    have fin : (ltB (B i) || dgB (B i)) = false → ∃ f', m_X9_readRun_B114 F (some 168) (nI ((byL B a i).countP ltB)) (nI ((byL B a i).countP dgB)) (nI i) f = some f' ∧ TKc f' n R (runM a (rnF B (d + 1) i) (byL B a (rnF B (d + 1) i))) fk fp ∧ ∀ x, x ≠ 168 → f' x = f x := fun e => by
      have er : rnF B (d + 1) i = i := by show (if (ltB (B i) || dgB (B i)) = true then _ else _) = _; rw [e]; rfl
      rw [er] at hlt ⊢
      exact crun_end hF S h (fun c hc' => by obtain ⟨j, j1, j2, rfl⟩ := byL_mem hc'; exact hr j j1 j2) rfl rfl (fun c => by rw [c] at ml; simp at ml; omega) ml (by omega) hc hv
    show ∃ f', m_X9_readRun_b9 F _ _ _ _ _ _ = _ ∧ _
    unfold m_X9_readRun_b9
    rw [bd_e (gI_e h rfl), if_neg (nI_ge (by omega) (by omega)), tby P h rfl (by omega), bd_e (clet_e hb)]
    have nxt : (ltB (B i) || dgB (B i)) = true → ∃ f', m_X9_readRun_B41 F (m_X9_readRun_L9 F z) (some 168) (nI ((byL B a i).countP ltB)) (nI ((byL B a i).countP dgB)) (nI i) f = some f' ∧ TKc f' n R (runM a (rnF B (d + 1) i) (byL B a (rnF B (d + 1) i))) fk fp ∧ ∀ x, x ≠ 168 → f' x = f x := fun e => by
      have er : rnF B (d + 1) i = rnF B d (i + 1) := by show (if (ltB (B i) || dgB (B i)) = true then _ else _) = _; rw [e]; rfl
      rw [er] at hlt ⊢
      have hr' : ∀ j, a ≤ j → j < i + 1 → (ltB (B j) || dgB (B j)) = true := fun j j1 j2 => by
        by_cases w : j = i
        · rw [w]; exact e
        · exact hr j j1 (by omega)
      have bs := byL_s (B := B) ha
      unfold m_X9_readRun_B41
      rw [tby P h rfl (by omega), bd_e (clet_e hb)]
      have cL := cntP_app ltB (byL B a i) (B i)
      have cD := cntP_app dgB (byL B a i) (B i)
      rw [← bs] at cL cD
      cases e1 : ltB (B i)
      · have e2 : dgB (B i) = true := by rw [e1] at e; exact e
        have cL : (byL B a (i + 1)).countP ltB = (byL B a i).countP ltB := by rw [cL, e1]; rfl
        rw [e2, if_pos rfl] at cD
        have b57 : 48 ≤ B i ∧ B i ≤ 57 := by simpa [dgB] using e2
        have p1 : pV f (some 168) 8 9 (.int (v * (10 : Int32) + (i2b (nI (B i)) - (48 : Int32)))) = some (va_up f 168 (some (.inl (8, tcl n R a nx0 k0 code 0 0 (v * (10 : Int32) + (i2b (nI (B i)) - (48 : Int32))) fk fp)))) := pV_e h (Nat.le_of_ble_eq_true rfl)
        obtain ⟨f', i1, i2, i3⟩ := ih (i + 1) z (va_up f 168 (some (.inl (8, tcl n R a nx0 k0 code 0 0 (v * (10 : Int32) + (i2b (nI (B i)) - (48 : Int32))) fk fp)))) code (v * (10 : Int32) + (i2b (nI (B i)) - (48 : Int32))) (by omega) (by omega) (by omega) (S.frame (fun x hx => up_n (by omega))) (P.frame (up_n (by decide))) up_s hr' hlt (fun c => by omega) (fun c => by
          rw [cL] at c
          rw [hv c, bs, vlD_app, by_lo _ (by omega), show (48 : Int32) = nI 48 from rfl, nI_sub (by omega), show (10 : Int32) = nI 10 from rfl, nI_mul, nI_add])
        refine ⟨f', ?_, i2, fun x hx => (i3 x hx).trans (up_n hx)⟩
        rw [if_pos (by decide), nm_e2, bd_e (gI_e h rfl), tby P h rfl (by omega), bd_e p1, nm_e2, nI_1, nI_1, ← cL, ← cD]
        exact i1
      · have e2 : dgB (B i) = false := by
          cases w : dgB (B i)
          · rfl
          · exact absurd ⟨e1, w⟩ (ld_x _)
        rw [e1, if_pos rfl] at cL
        have cD : (byL B a (i + 1)).countP dgB = (byL B a i).countP dgB := by rw [cD, e2]; rfl
        have b57 : 97 ≤ B i ∧ B i ≤ 122 := by simpa [ltB] using e1
        have p1 : pV f (some 168) 8 6 (.long (code * (32 : Int64) + Int32.toInt64 (i2b (nI (B i)) - (97 : Int32) + (1 : Int32)))) = some (va_up f 168 (some (.inl (8, tcl n R a nx0 k0 (code * (32 : Int64) + Int32.toInt64 (i2b (nI (B i)) - (97 : Int32) + (1 : Int32))) 0 0 v fk fp)))) := pV_e h (Nat.le_of_ble_eq_true rfl)
        obtain ⟨f', i1, i2, i3⟩ := ih (i + 1) z (va_up f 168 (some (.inl (8, tcl n R a nx0 k0 (code * (32 : Int64) + Int32.toInt64 (i2b (nI (B i)) - (97 : Int32) + (1 : Int32))) 0 0 v fk fp)))) (code * (32 : Int64) + Int32.toInt64 (i2b (nI (B i)) - (97 : Int32) + (1 : Int32))) v (by omega) (by omega) (by omega) (S.frame (fun x hx => up_n (by omega))) (P.frame (up_n (by decide))) up_s hr' hlt (fun c => by
          rw [cD] at c
          rw [hc c, bs, lts_app, show code32 (lts (byL B a i) ++ [B i - 96]) = code32 (lts (byL B a i)) * 32 + (B i - 96) from cdN_app 32 _ _, by_lo _ (by omega), show (97 : Int32) = nI 97 from rfl, nI_sub (by omega), nI_1, show B i - 97 + 1 = B i - 96 by omega, nI_l (by omega), show (32 : Int64) = lN 32 from rfl, lN_mul, lN_add]) (fun c => by omega)
        refine ⟨f', ?_, i2, fun x hx => (i3 x hx).trans (up_n hx)⟩
        rw [if_neg (by decide), nm_e2, bd_e (gJ_e h rfl), tby P h rfl (by omega), bd_e p1, nm_e2, nI_1, nI_1, ← cL, ← cD]
        exact i1
    cases e1 : ltB (B i)
    · rw [if_pos (by decide), tby P h rfl (by omega), bd_e (cdig_e hb)]
      cases e2 : dgB (B i)
      · rw [if_pos (by decide)]
        exact fin (by rw [e1, e2]; rfl)
      · rw [if_neg (by decide)]
        exact nxt (by rw [e1, e2]; rfl)
    · rw [if_neg (by decide)]
      exact nxt (by rw [e1]; rfl)
theorem csign_e {n R a nx0 k0 : Nat} {fk fp : Int32} (P : TP f B) (ha : a < 740) (h : f 168 = some (.inl (8, tcl n R a nx0 k0 0 0 0 0 fk fp))) : ∃ f', m_X9_readSign F (some 168) f = some f' ∧ TKc f' n R (if snB (B a) then (4, a, a + 1, [], 0, B a) else (1, a, a + 1, [], 0, 0)) fk fp ∧ ∀ x, x ≠ 168 → f' x = f x := by
  have hb := tlt P ha
  have p1 : ∀ k : Nat, pV f (some 168) 8 5 (.int (nI k)) = some (va_up f 168 (some (.inl (8, tcl n R a nx0 k 0 0 0 0 fk fp)))) := fun k => pV_e h (Nat.le_of_ble_eq_true rfl)
  have p2 : ∀ (k : Nat) (s : Int32), pV (va_up f 168 (some (.inl (8, tcl n R a nx0 k 0 0 0 0 fk fp)))) (some 168) 8 8 (.int s) = some (va_up f 168 (some (.inl (8, tcl n R a nx0 k 0 0 s 0 fk fp)))) := fun k s => pV_u (Nat.le_of_ble_eq_true rfl)
  have p3 : ∀ (k : Nat) (s : Int32), pV (va_up f 168 (some (.inl (8, tcl n R a nx0 k 0 0 s 0 fk fp)))) (some 168) 8 4 (.int (nI (a + 1))) = some (va_up f 168 (some (.inl (8, tcl n R a (a + 1) k 0 0 s 0 fk fp)))) := fun k s => pV_u (Nat.le_of_ble_eq_true rfl)
  have p0 : ((gR f (some 168) 8 0).bind fun x7 => (gI f (some 168) 8 3).bind fun x8 => (ldI f 0 x7 x8).bind fun x9 => if x9 = (59 : Int32) then (m_X9_readSign_B46 F (some 168) x9 f) else (if x9 = (60 : Int32) then (m_X9_readSign_B46 F (some 168) x9 f) else (if x9 = (61 : Int32) then (m_X9_readSign_B46 F (some 168) x9 f) else (if x9 = (62 : Int32) then (m_X9_readSign_B46 F (some 168) x9 f) else (if x9 = (40 : Int32) then (m_X9_readSign_B46 F (some 168) x9 f) else (if x9 = (41 : Int32) then (m_X9_readSign_B46 F (some 168) x9 f) else (m_X9_readSign_B51 F (some 168) x9 (0 : Int32) f))))))) = if snB (B a) then m_X9_readSign_B46 F (some 168) (i2b (nI (B a))) f else m_X9_readSign_B51 F (some 168) (i2b (nI (B a))) 0 f := by
    obtain ⟨t, t1, t2⟩ := P
    rw [bd_e (gR_s h rfl), bd_e (gI_e h rfl), bd_e (ldI_e t1 ha (by omega)), (t2 a ha).2, ← by_sn _ hb]
    generalize i2b (nI (B a)) = x
    by_cases c1 : x = 59
    · simp [c1]
    by_cases c2 : x = 60
    · simp [c2]
    by_cases c3 : x = 61
    · simp [c3]
    by_cases c4 : x = 62
    · simp [c4]
    by_cases c5 : x = 40
    · simp [c5]
    by_cases c6 : x = 41
    · simp [c6]
    simp [c1, c2, c3, c4, c5, c6]
  unfold m_X9_readSign
  rw [p0]
  cases e : snB (B a)
  · refine ⟨va_up f 168 (some (.inl (8, tcl n R a (a + 1) 1 0 0 0 0 fk fp))), ?_, ?_, fun x hx => up_n hx⟩
    · rw [if_neg (by decide)]
      unfold m_X9_readSign_B51 m_X9_readSign_B62 m_X9_readSign_B75
      rw [if_pos rfl, bd_e (show pV f (some 168) 8 5 (.int 1) = _ from p1 1), if_pos rfl, bd_e (p2 1 0), bd_e (gI_u rfl), nI_1, bd_e (p3 1 0)]
    · rw [if_neg (by decide)]
      exact ⟨a + 1, 0, 0, 0, up_s, fun h => absurd h (by show ¬ 1 = 2; decide), rfl, fun h => absurd h (by show ¬ 1 = 3; decide), fun h => absurd h (by show ¬ 2 ≤ 1; decide)⟩
  · have b128 : B a < 128 := by
      simp [snB] at e
      omega
    refine ⟨va_up f 168 (some (.inl (8, tcl n R a (a + 1) 4 0 0 (nI (B a)) 0 fk fp))), ?_, ?_, fun x hx => up_n hx⟩
    · rw [if_pos rfl, by_lo _ b128]
      unfold m_X9_readSign_B46 m_X9_readSign_B51 m_X9_readSign_B62 m_X9_readSign_B75
      rw [if_neg (by decide), bd_e (show pV f (some 168) 8 5 (.int 4) = _ from p1 4), if_neg (by decide), bd_e (p2 4 _), bd_e (gI_u rfl), nI_1, bd_e (p3 4 _)]
    · rw [if_pos rfl]
      exact ⟨a + 1, 0, nI (B a), 0, up_s, fun h => absurd h (by show ¬ 4 = 2; decide), rfl, fun h => absurd h (by show ¬ 4 = 3; decide), fun _ => rfl⟩
/-- the next TOKEN -/
theorem cadv_e (hF : 742 ≤ F) {n R p a0 k0 kw : Nat} {code : Int64} {sg v fk fp : Int32} (S : St4 f) (P : TP f B) (hn : n ≤ 740) (hR : R ≤ 740) (hp : p ≤ n) (h : f 168 = some (.inl (8, tcl n R a0 p k0 code kw sg v fk fp))) : ∃ f', m_X9_advance F (some 168) f = some f' ∧ TKc f' n R (tokF B n R p) fk fp ∧ ∀ x, x ≠ 168 → f' x = f x := by
  have em : imin (nI n) (nI R) = nI (min n R) := by
    unfold imin
    by_cases q : R < n
    · rw [if_pos (nI_lt q (by omega)), Nat.min_eq_right (by omega)]
    · rw [if_neg (nI_nlt (by omega) (by omega)), Nat.min_eq_left (by omega)]
  have p1 : pV f (some 168) 8 7 (va_rf (some 0)) = some (va_up f 168 (some (.inl (8, tcl n R a0 p k0 code 0 sg v fk fp)))) := pV_e h (Nat.le_of_ble_eq_true rfl)
  have p2 : pV (va_up f 168 (some (.inl (8, tcl n R a0 p k0 code 0 sg v fk fp)))) (some 168) 8 8 (.int 0) = some (va_up f 168 (some (.inl (8, tcl n R a0 p k0 code 0 0 v fk fp)))) := pV_u (Nat.le_of_ble_eq_true rfl)
  have p3 : pV (va_up f 168 (some (.inl (8, tcl n R a0 p k0 code 0 0 v fk fp)))) (some 168) 8 6 (.long 0) = some (va_up f 168 (some (.inl (8, tcl n R a0 p k0 0 0 0 v fk fp)))) := pV_u (Nat.le_of_ble_eq_true rfl)
  have p4 : pV (va_up f 168 (some (.inl (8, tcl n R a0 p k0 0 0 0 v fk fp)))) (some 168) 8 9 (.int 0) = some (va_up f 168 (some (.inl (8, tcl n R a0 p k0 0 0 0 0 fk fp)))) := pV_u (Nat.le_of_ble_eq_true rfl)
  have b40 : ∀ a, m_X9_advance_B40 F (some 168) (nI (min n R)) (nI a) f = (if nI a < nI (min n R) then (pV (va_up f 168 (some (.inl (8, tcl n R a0 p k0 0 0 0 0 fk fp)))) (some 168) 8 3 (.int (nI a))).bind fun f12 => (gR f12 (some 168) 8 0).bind fun x13 => (ldI f12 0 x13 (nI a)).bind fun x14 => (m_X9_isLetter F x14 f12).bind fun x15 => if x15 = 0 then ((gR f12 (some 168) 8 0).bind fun x19 => (ldI f12 0 x19 (nI a)).bind fun x20 => (m_X9_isDigit F x20 f12).bind fun x21 => if x21 = 0 then (chk (isO f12 (some 168) 8) <| (m_X9_readSign F (some 168) f12).bind fun f24 => some f24) else (chk (isO f12 (some 168) 8) <| (m_X9_readRun F (some 168) f12).bind fun f26 => some f26)) else (chk (isO f12 (some 168) 8) <| (m_X9_readRun F (some 168) f12).bind fun f18 => some f18) else (pV (va_up f 168 (some (.inl (8, tcl n R a0 p k0 0 0 0 0 fk fp)))) (some 168) 8 3 (.int (nI (min n R)))).bind fun f27 => (pV f27 (some 168) 8 4 (.int (nI (min n R)))).bind fun f28 => (gI f28 (some 168) 8 1).bind fun x29 => (gI f28 (some 168) 8 2).bind fun x30 => if x29 ≤ x30 then ((pV f28 (some 168) 8 5 (.int (0 : Int32))).bind fun f32 => some f32) else ((pV f28 (some 168) 8 5 (.int (1 : Int32))).bind fun f33 => some f33)) := by
    intro a
    unfold m_X9_advance_B40
    rw [bd_e p1, bd_e p2, bd_e p3, bd_e p4]
  have fin : ∀ a, p ≤ a → a ≤ 740 → ∃ f', m_X9_advance_B40 F (some 168) (nI (min n R)) (nI a) f = some f' ∧ TKc f' n R (tokA B n R a) fk fp ∧ ∀ x, x ≠ 168 → f' x = f x := by
    intro a hpa ha7
    rw [b40]
    unfold tokA
    by_cases q : a < min n R
    · have hb := tlt P (show a < 740 by omega)
      have s3 : pV (va_up f 168 (some (.inl (8, tcl n R a0 p k0 0 0 0 0 fk fp)))) (some 168) 8 3 (.int (nI a)) = some (va_up f 168 (some (.inl (8, tcl n R a p k0 0 0 0 0 fk fp)))) := pV_u (Nat.le_of_ble_eq_true rfl)
      generalize hg : va_up f 168 (some (.inl (8, tcl n R a p k0 0 0 0 0 fk fp))) = g at s3
      have fr : ∀ x, x ≠ 168 → g x = f x := fun x hx => by rw [← hg]; exact up_n hx
      have h' : g 168 = some (.inl (8, tcl n R a p k0 0 0 0 0 fk fp)) := by rw [← hg]; exact up_s
      have P' : TP g B := P.frame (fr _ (by decide))
      have S' : St4 g := S.frame (fun x hx => fr x (by omega))
      rw [if_pos q, if_pos (nI_lt q (by omega)), bd_e s3, tby P' h' rfl (by omega), bd_e (clet_e hb)]
      have run : (ltB (B a) || dgB (B a)) = true → ∃ f', ((m_X9_readRun F (some 168) g).bind fun f18 => some f18) = some f' ∧ TKc f' n R (runM a (rnF B (n - a) a) (byL B a (rnF B (n - a) a))) fk fp ∧ ∀ x, x ≠ 168 → f' x = f x := fun e => by
        have hlt : a < rnF B (n - a) a := by
          obtain ⟨r1, r2, r3, r4⟩ := rnF_p B (n - a) a
          rcases Nat.lt_or_ge a (rnF B (n - a) a) with w | w
          · exact w
          · have h : rnF B (n - a) a = a := by omega
            rw [h] at r4
            rw [r4 (by omega)] at e
            exact absurd e (by decide)
        obtain ⟨f', i1, i2, i3⟩ := crun_L (F := F) (by omega) hn (n - a) a F g 0 0 (by omega) (Nat.le_refl _) (by omega) S' P' h' (fun j j1 j2 => by omega) hlt (fun _ => by rw [byL_0]; rfl) (fun _ => by rw [byL_0]; rfl)
        rw [byL_0] at i1
        refine ⟨f', ?_, i2, fun x hx => (i3 x hx).trans (fr x hx)⟩
        unfold m_X9_readRun
        rw [bd_e (gI_e h' rfl)]
        exact bd_e i1
      cases e1 : ltB (B a)
      · rw [if_pos (show (if false = true then (1 : Int32) else 0) = 0 by decide), tby P' h' rfl (by omega), bd_e (cdig_e hb)]
        cases e2 : dgB (B a)
        · rw [if_pos (show (if false = true then (1 : Int32) else 0) = 0 by decide), ck_e (isO_e h'), if_neg (show ¬ (false || false) = true by decide)]
          obtain ⟨f', i1, i2, i3⟩ := csign_e (F := F) P' (by omega) h'
          exact ⟨f', bd_e i1, i2, fun x hx => (i3 x hx).trans (fr x hx)⟩
        · rw [if_neg (show ¬ (if true = true then (1 : Int32) else 0) = 0 by decide), ck_e (isO_e h'), if_pos (show (false || true) = true by decide)]
          exact run (by rw [e1, e2]; rfl)
      · rw [if_neg (show ¬ (if true = true then (1 : Int32) else 0) = 0 by decide), ck_e (isO_e h'), Bool.true_or, if_pos rfl]
        exact run (by rw [e1]; rfl)
    · have s3 : pV (va_up f 168 (some (.inl (8, tcl n R a0 p k0 0 0 0 0 fk fp)))) (some 168) 8 3 (.int (nI (min n R))) = some (va_up f 168 (some (.inl (8, tcl n R (min n R) p k0 0 0 0 0 fk fp)))) := pV_u (Nat.le_of_ble_eq_true rfl)
      have s4 : pV (va_up f 168 (some (.inl (8, tcl n R (min n R) p k0 0 0 0 0 fk fp)))) (some 168) 8 4 (.int (nI (min n R))) = some (va_up f 168 (some (.inl (8, tcl n R (min n R) (min n R) k0 0 0 0 0 fk fp)))) := pV_u (Nat.le_of_ble_eq_true rfl)
      have s5 : ∀ k : Nat, pV (va_up f 168 (some (.inl (8, tcl n R (min n R) (min n R) k0 0 0 0 0 fk fp)))) (some 168) 8 5 (.int (nI k)) = some (va_up f 168 (some (.inl (8, tcl n R (min n R) (min n R) k 0 0 0 0 fk fp)))) := fun k => pV_u (Nat.le_of_ble_eq_true rfl)
      have w31 : a < 2 ^ 31 := by omega
      · rw [if_neg q, if_neg (nI_nlt (by omega) w31), bd_e s3, bd_e s4, bd_e (gI_u rfl), bd_e (gI_u rfl)]
        by_cases w : n ≤ R
        · rw [if_pos (nI_le w (by omega)), if_pos w]
          refine ⟨_, bd_e (show pV _ (some 168) 8 5 (.int 0) = _ from s5 0), ?_, fun x hx => up_n hx⟩
          rw [Nat.min_eq_left w]
          exact ⟨n, 0, 0, 0, up_s, fun h => absurd h (by show ¬ 0 = 2; decide), rfl, fun h => absurd h (by show ¬ 0 = 3; decide), fun h => absurd h (by show ¬ 2 ≤ 0; decide)⟩
        · rw [if_neg (nI_ge (by omega) (by omega)), if_neg w]
          refine ⟨_, bd_e (show pV _ (some 168) 8 5 (.int 1) = _ from s5 1), ?_, fun x hx => up_n hx⟩
          rw [Nat.min_eq_right (by omega)]
          exact ⟨R, 0, 0, 0, up_s, fun h => absurd h (by show ¬ 1 = 2; decide), rfl, fun h => absurd h (by show ¬ 1 = 3; decide), fun h => absurd h (by show ¬ 2 ≤ 1; decide)⟩
  have skip : ∀ (d i z : Nat), d = min n R - i → i ≤ 740 → d < z → m_X9_advance_L17 F z (some 168) (nI (min n R)) (nI i) f = m_X9_advance_B40 F (some 168) (nI (min n R)) (nI (skF B d i)) f := by
    intro d
    induction d with
    | zero =>
      intro i z hd h7 hz
      obtain ⟨z, rfl⟩ : ∃ j, z = j + 1 := ⟨z - 1, by omega⟩
      show m_X9_advance_b17 F _ _ _ _ _ = m_X9_advance_B40 F (some 168) (nI (min n R)) (nI i) f
      unfold m_X9_advance_b17
      rw [if_pos (nI_le (by omega) (by omega))]
    | succ d ih =>
      intro i z hd h7 hz
      obtain ⟨z, rfl⟩ : ∃ j, z = j + 1 := ⟨z - 1, by omega⟩
      have hb := tlt P (show i < 740 by omega)
      show m_X9_advance_b17 F _ _ _ _ _ = m_X9_advance_B40 F (some 168) (nI (min n R)) (nI (if blB (B i) then skF B d (i + 1) else i)) f
      unfold m_X9_advance_b17
      rw [if_neg (nI_ge (by omega) (by omega)), tby P h rfl (by omega), bd_e (cblank_e hb)]
      cases e : blB (B i)
      · rw [if_neg (show ¬ false = true by decide), if_pos (by rfl), if_neg (show ¬ false = true by decide)]
      · rw [if_pos rfl, if_neg (by decide), if_pos rfl, nm_e2, nI_1]
        exact ih (i + 1) z (by omega) (by omega) (by omega)
  have sp := skF_p B (min n R - p) p
  obtain ⟨f', i1, i2, i3⟩ := fin (skF B (min n R - p) p) sp.1 (by omega)
  refine ⟨f', ?_, i2, i3⟩
  unfold m_X9_advance
  rw [bd_e (gI_e h rfl), bd_e (gI_e h rfl), nm_e2, em, bd_e (gI_e h rfl), skip _ p F rfl (by omega) (by omega)]
  exact i1
end CTOK
