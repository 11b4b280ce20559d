/-! the law's own two methods with a handler; the loop's state -/
variable {sk : Nat}
theorem s_preX {G : GG} {s : State} {f : Hp} {n : Nat} {H : Heap} {locs : List Loc} (hK : Kx G s) (hTx : Tx G s) (hW : Wd G f n H) (hS : va_S (WA G) s.heap H locs) (av : List Value) : PreS s H (Pcx G av f n) av := ⟨Pcx_blind G av f n, fun U hU hWm => ⟨rfl, ⟨hK.go hS hU hWm, hTx.go hS hU hWm⟩, by rw [hU]; exact hW⟩⟩
theorem thI_0 {α : Type} {o : Option α} (h : thI o = 0) : ∃ x, o = some x := by
  cases o with
  | none => cases h
  | some x => exact ⟨x, rfl⟩
theorem W.size {p : Program} {l : Launch} {e : Env} {R : Room} {s : State} {m : MethodId} {args : Array Value} {below : List Frame} {meth : Method} {c : Code} {H : Heap} {locs : List Loc} {cells slots : Nat} {Q : State → Prop} {g : JFrame} (k : H.size ≤ s.heap.size + cells → W p l e R s m args below meth c H locs cells slots Q g) : W p l e R s m args below meth c H locs cells slots Q g := fun T hT X => k (by have h := X.heapSize; rw [hT] at h; exact h) T hT X
theorem s_in {i L k : Nat} (h : i + 6 ≤ L) (hL : L ≤ 3072) (hk : k < 6) : vp_in (nI i + nI k) L := by
  rw [nI_add]
  exact vp_in_nI (by omega) (by omega)
theorem law_cmp {i L : Nat} (hi : i ≤ 4000) (hL : L ≤ 3072) : Int32.ofNat L - 6 < nI i ↔ L < i + 6 := by
  have h1 : (Int32.ofNat L).toInt = (L : Int) := nI_toInt (n := L) (by omega)
  have h2 : (nI i).toInt = (i : Int) := nI_toInt (by omega)
  have h3 : (Int32.ofNat L - 6).toInt = (L : Int) - 6 := by
    rw [Int32.toInt_sub, h1, show (6 : Int32).toInt = 6 from rfl, Int.bmod_eq_of_le (by omega) (by omega)]
  rw [Int32.lt_iff_toInt_lt, h3, h2]
  omega
theorem LI.room {f : Hp} {n z : Nat} {m : MS} {st : RS} {cells slots ee : Nat} (L : LI sk f n z m st) (h1 : cells + 100 = n + ee) (h2 : slots = z + 6 * ee) (h3 : sk + ee ≤ 600) : cells ≤ 601024 ∧ slots ≤ 7293034 := by
  obtain ⟨a, b⟩ := L.1.top
  constructor <;> omega
theorem LI.room1 {f : Hp} {n z : Nat} {m : MS} {st : RS} {cells slots ee : Nat} (L : LI sk f n z m st) (h1 : cells + 100 = n + ee) (h2 : slots = z + 6 * ee) (h3 : sk + ee ≤ 600) : cells + 1 ≤ 601024 ∧ slots + 6 ≤ 7293034 := by
  obtain ⟨a, b⟩ := L.1.top
  constructor <;> omega
section STPS
variable {α : Type} {F : Nat} {f : Hp} {n z : Nat} {m : MS} {st : RS}
theorem LI.cO (L : LI sk f n z m st) : isO f (some 100) 9 = true := by
  obtain ⟨⟨T, D, sT, sD, sX, tq, iq, S, K, -⟩, -⟩ := L
  exact isO_e K
theorem stp_A {c : Hp → Nat → Nat → Option (α × Hp × Nat × Nat)} {r : Hp → Option (α × Hp)} (K : KA sk c r) (L : LI sk f n z m st) : ∃ v f' n' z' m' st', c f n z = some (v, f', n', z') ∧ n ≤ n' ∧ z ≤ z' ∧ isO f (some 100) 9 = true ∧ isO f' (some 179) 10 = true ∧ r f' = some (v, ov f' st') ∧ LI sk (ov f' st') n' z' m' st' := by
  obtain ⟨v, f', n', z', m', e1, hn, hz, fr, C, e2⟩ := K f n z st m L.1 L.2.2.1
  obtain ⟨st', e3, R⟩ := e2 f'
  obtain ⟨e', L'⟩ := L.after fr C R
  exact ⟨v, f', n', z', m', st', e1, hn, hz, L.cO, by rw [e']; exact r_isO, by rw [← e'] at e3; exact e3, L'⟩
theorem stp_W {c : Hp → Option (α × Hp)} {r : Hp → Option (α × Hp)} (K : KW sk c r) (L : LI sk f n z m st) : ∃ v f' m' st', c f = some (v, f') ∧ isO f (some 100) 9 = true ∧ isO f' (some 179) 10 = true ∧ r f' = some (v, ov f' st') ∧ LI sk (ov f' st') n z m' st' := by
  obtain ⟨v, f', m', e1, fr, C, e2⟩ := K f n z st m L.1 L.2.2.1
  obtain ⟨st', e3, R⟩ := e2 f'
  obtain ⟨e', L'⟩ := L.after fr C R
  exact ⟨v, f', m', st', e1, L.cO, by rw [e']; exact r_isO, by rw [← e'] at e3; exact e3, L'⟩
theorem stp_R {c : Hp → Option α} {r : Hp → Option (α × Hp)} (K : KR sk c r) (L : LI sk f n z m st) : ∃ v st', c f = some v ∧ isO f (some 100) 9 = true ∧ isO f (some 179) 10 = true ∧ r f = some (v, ov f st') ∧ LI sk (ov f st') n z m st' := by
  obtain ⟨v, e1, e2⟩ := K f n z st m L.1 L.2.2.1
  obtain ⟨st', e3, R⟩ := e2 f
  obtain ⟨e', L'⟩ := L.after (fun _ _ _ => rfl) L.1 R
  exact ⟨v, st', e1, L.cO, by rw [e']; exact r_isO, by rw [← e'] at e3; exact e3, L'⟩
/-- the reference's side of a call that throws, on any map that holds the state -/
theorem stp_T {o : Option α} {w : α → Int64} {r : Hp → Option (α × Hp)} (e2 : ∀ g, ∃ v st', r (ov g st) = some (v, ov g st') ∧ RI st' m ∧ sI st' 0 = thI o ∧ ∀ x, o = some x → v = x) {f2 : Hp} (L2 : LI sk f2 n z m st) (hq : ∀ x, o = some x → ∃ q, f2 203 = some (.inr (2, 1, .inr (.inl (vp_updL q 0 (w x)))))) : isO f2 (some 179) 10 = true ∧ ∃ v st', r f2 = some (v, ov f2 st') ∧ isO (ov f2 st') (some 179) 10 = true ∧ LI sk (ov f2 st') n z m st' ∧ m_X12_thrown F (some 179) (ov f2 st') = some (thI o) ∧ ∀ x, o = some x → v = x ∧ ldJ (ov f2 st') (some 203) 0 = some (w x) := by
  obtain ⟨v, st', e3, R, t0, e4⟩ := e2 f2
  obtain ⟨e', L'⟩ := L2.after (fun _ _ _ => rfl) L2.1 R
  refine ⟨by rw [e']; exact r_isO, v, st', by rw [← e'] at e3; exact e3, r_isO, L', ?_, fun x hx => ⟨e4 x hx, ?_⟩⟩
  · unfold m_X12_thrown
    rw [rI_0, bd_some, t0]
  · obtain ⟨q, hq⟩ := hq x hx
    have h2 : ov f2 st' 203 = some (.inr (2, 1, .inr (.inl (vp_updL q 0 (w x))))) := (ov_hi (by decide)).trans hq
    have h3 : ldJ (ov f2 st') (some 203) 0 = some (vp_updL q 0 (w x) 0) := ldJ_e (j := 0) h2 (by decide) (by decide)
    rw [h3]
    simp [vp_updL]
theorem stp_line (hF : 200 ≤ F) (a b : Int32) (L : LI sk f n z m st) : ∃ o f2, m_X11_line F (some 100) a b f = some o ∧ isO f (some 100) 9 = true ∧ (o = none → f2 = f) ∧ (∀ x, o = some x → stJ f (some 203) 0 x.toInt64 = some f2) ∧ isO f2 (some 179) 10 = true ∧ ∃ v st', m_X12_line F (some 179) a b f2 = some (v, ov f2 st') ∧ isO (ov f2 st') (some 179) 10 = true ∧ LI sk (ov f2 st') n z m st' ∧ m_X12_thrown F (some 179) (ov f2 st') = some (thI o) ∧ ∀ x, o = some x → v = x ∧ ldJ (ov f2 st') (some 203) 0 = some x.toInt64 := by
  obtain ⟨o, e1, e2⟩ := k_line (F := F) hF a b L.1 L.2.2.1
  cases o with
  | none => exact ⟨none, f, e1, L.cO, fun _ => rfl, (fun x hx => nomatch hx), stp_T (w := fun x => x.toInt64) e2 L (fun x hx => nomatch hx)⟩
  | some y =>
    obtain ⟨q, h1, h2, L2⟩ := L.out (x := y.toInt64)
    exact ⟨some y, _, e1, L.cO, (fun h => nomatch h), (fun x hx => by cases hx; exact h2), stp_T (w := fun x => x.toInt64) e2 L2 (fun x hx => by cases hx; exact ⟨q, up_s⟩)⟩
theorem stp_along (hF : 5041 ≤ F) (a b d : Int32) (L : LI sk f n z m st) : ∃ o f' n' z' f2, m_X11_along F (some 100) a b d f n z = some (o, f', n', z') ∧ n ≤ n' ∧ z ≤ z' ∧ isO f (some 100) 9 = true ∧ (o = none → f2 = f') ∧ (∀ x, o = some x → stJ f' (some 203) 0 x = some f2) ∧ isO f2 (some 179) 10 = true ∧ ∃ v st', m_X12_along F (some 179) a b d f2 = some (v, ov f2 st') ∧ isO (ov f2 st') (some 179) 10 = true ∧ LI sk (ov f2 st') n' z' m st' ∧ m_X12_thrown F (some 179) (ov f2 st') = some (thI o) ∧ ∀ x, o = some x → v = x ∧ ldJ (ov f2 st') (some 203) 0 = some x := by
  obtain ⟨o, f', n', z', e1, hn, hz, fr, C, e2⟩ := k_along (F := F) hF a b d L.1 L.2.2.1
  have L1 : LI sk f' n' z' m st := by
    obtain ⟨-, e, R, q, hq⟩ := L
    exact ⟨C, ov_id (g := f) (fun a h1 h2 => (fr a h1 (by omega)).trans (congrFun e a)), R, q, (fr 203 (by decide) (by decide)).trans hq⟩
  cases o with
  | none => exact ⟨none, f', n', z', f', e1, hn, hz, L.cO, fun _ => rfl, (fun x hx => nomatch hx), stp_T (w := fun x => x) e2 L1 (fun x hx => nomatch hx)⟩
  | some y =>
    obtain ⟨q, h1, h2, L2⟩ := L1.out (x := y)
    exact ⟨some y, f', n', z', _, e1, hn, hz, L.cO, (fun h => nomatch h), (fun x hx => by cases hx; exact h2), stp_T (w := fun x => x) e2 L2 (fun x hx => by cases hx; exact ⟨q, up_s⟩)⟩
end STPS
set_option maxHeartbeats 4000000 in
theorem S_L_line (l : Launch) (hst : l.stackTraces = false) (G : GG) (F : Nat) {u0 u3 : Option Nat} {u1 u2 : Int32} {f f2 : Hp} {o : Option Int32} {n : Nat} (hE : m_X11_line F u0 u1 u2 f = some o) (hO : isO f u0 9 = true) (hf0 : o = none → f2 = f) (hf1 : ∀ x, o = some x → stJ f u3 0 x.toInt64 = some f2) : Met l yL_line (wsW yL_line cL_line 5 (some .int) [(0, 10, 13, 13)]) { frames := 10, cells := 1, slots := 6, locals := 300 } (Pcx G [rr G u0, .int u1, .int u2, rr G u3] f n) (fun a => va_Qi (fun r (k : Nat) => r = thI o ∧ n ≤ k) (fun k t => Wd G f2 k t.heap) (WA G) a) 1 6 (WA G) := by
  obtain ⟨a0, fs0, rfl, he0⟩ := isO_of hO
  refine va_MetW (cc := cL_line) (maxL := 5) (ret := (some .int)) (hh := [(0, 10, 13, 13)]) (by decide) rfl ?_
  intro p e s m args below meth c s₁ B hml hv
  obtain ⟨rfl, ⟨hK, hTx⟩, hW⟩ := hv
  have hx := B.exec
  have hb := B.bytes
  have hr := B.returns
  have hts := atoms_spec (ws := wsW yL_line cL_line 5 (some .int) [(0, 10, 13, 13)]) B.pre
  have hT : ∀ w ∈ TB, w.before _ s = true := fun w hw => hts w (List.mem_cons_of_mem _ hw)
  have htab : c.exceptionTable.toList = tableOf [(0, 10, 13, 13)] := vx_table (x := yL_line) B (hts _ List.mem_cons_self)
  have hown : s.vm.findClass RL = some m.cls := findClass_of_methodNamed B.named
  have hlocks := B.notSynchronized
  have hS : va_S (WA G) s.heap s.heap [] := va_S.rf
  have CF : CallFix p m c cL_line 5 s ([rr G (some a0), .int u1, .int u2, rr G u3] : List Value).toArray TB RL := ⟨hx, hb, hml, hown, hT⟩
  have hl : lv_has (lg_sl ([rr G (some a0), .int u1, .int u2, rr G u3]) ++ List.replicate (5 - (lg_sl ([rr G (some a0), .int u1, .int u2, rr G u3])).length) Slot.unset).toArray 5 [(0, rr G (some a0)), (1, .int u1), (2, .int u2), (3, rr G u3)] := by cases u3 <;> exact lv_entry _ (Nat.le_of_ble_eq_true rfl)
  rw [lg_entry_eq]
  generalize (lg_sl ([rr G (some a0), .int u1, .int u2, rr G u3]) ++ List.replicate (5 - (lg_sl ([rr G (some a0), .int u1, .int u2, rr G u3])).length) Slot.unset).toArray = ls at hl ⊢
  refine s_aload_n hx hb dL_line_0 rfl (lv_at hl 3 rfl) ?_
  refine lv_iconst (v := (0 : Int32)) hx hb dL_line_1 (by decide) ?_
  refine s_aload_n hx hb dL_line_2 rfl (lv_at hl 0 rfl) ?_
  refine lv_iload_n hx hb dL_line_3 rfl (lv_at hl 1 rfl) ?_
  refine lv_iload_n hx hb dL_line_4 rfl (lv_at hl 2 rfl) ?_
  have hp := s_preX (G := G) hK hTx hW hS (rr G (some a0) :: [.int u1, .int u2])
  refine vx_calli (A0 := WA G) (vx_runV (C := "CopyOrders") (b := rho G a0) (As := [.int u1, .int u2]) (rest := [.int (0 : Int32), rr G u3]) CF (S_X11_line l hst G F hE) (cwV 2 hT gv_L_7 rfl rfl rfl hd_X11_line ⟨Nat.le_of_ble_eq_true rfl, Nat.le_of_ble_eq_true rfl⟩) ⟨hp.1, va_recv (q0 := 0) hK.1 (hW.one (hW.obj he0) he0) rfl rfl, hp.2⟩ rfl rfl hl.1 rfl (s_room (rest := [.int (0 : Int32), rr G u3]) (Nat.le_of_ble_eq_true rfl)) dL_line_5 ⟨Nat.le_refl _, Nat.le_refl _⟩) hS (fun _ _ h => h) (fun _ h => h) (fun _ _ h => h) (fun E ce q9 u t H1 locs1 ht hvm ho hB hz hk hS hce hcv hcl => ?_) (fun r u t H1 locs1 ht hvm ho hB hz hk hS => ?_)
  · obtain ⟨hE9, k9, hk9, hWd⟩ := hB
    subst hE9
    rw [ht] at hWd
    refine vx_catch (name := XN) hown [] ⟨0, 10, 13, 13⟩ [] (by rw [htab]; rfl) (fun z hz => nomatch hz) rfl (by decide) (hT _ cl_L_13) (va_Nw.use rfl hTx.2.2.2.1) hce hcv hcl ?_
    refine lv_astore (lv' := (4, .ref q9) :: [(0, rr G (some a0)), (1, .int u1), (2, .int u2), (3, rr G u3)]) hx hb dL_line_13 hl (by decide) (by simp [cat_rr]) (fun ls hl => ?_)
    refine lv_iconst (v := (1 : Int32)) hx hb dL_line_15 (by decide) ?_
    refine W.widen (k := 1) (n := 6) (Nat.le_of_eq (Nat.zero_add _)) (Nat.le_of_eq (Nat.zero_add _)) ?_
    exact W.iret hx hb hr (fun t ht _ => ⟨⟨1, k9, rfl, ⟨by rw [ho]; rfl, hk9⟩, show Wd G f2 k9 t.heap by rw [ht, hf0 ho]; exact hWd⟩, hS.F ht⟩) hS.2.2 dL_line_16 hlocks
  · rw [ht] at hB
    refine lv_i2l (v := r.toInt64) hx hb dL_line_8 rfl ?_
    refine s_stJ hx hb hK hB hS (hf1 r ho) dL_line_9 (fun H locs hW hS => ?_)
    refine lv_goto (tgt := 17) hx hb dL_line_10 (by decide) ?_
    refine lv_iconst (v := (0 : Int32)) hx hb dL_line_17 (by decide) ?_
    refine W.widen (k := 1) (n := 6) (Nat.le_of_eq (Nat.zero_add _)) (Nat.le_of_eq (Nat.zero_add _)) ?_
    exact W.iret hx hb hr (fun t ht _ => ⟨⟨0, n, rfl, ⟨by rw [ho]; rfl, Nat.le_refl _⟩, show Wd G f2 n t.heap by rw [ht]; exact hW⟩, hS.F ht⟩) hS.2.2 dL_line_18 hlocks
set_option maxHeartbeats 4000000 in
theorem S_L_along (l : Launch) (hst : l.stackTraces = false) (G : GG) (F : Nat) {u0 u4 : Option Nat} {u1 u2 u3 : Int32} {f f' f2 : Hp} {o : Option Int64} {n n2 z z2 : Nat} (hE : m_X11_along F u0 u1 u2 u3 f n z = some (o, f', n2, z2)) (hO : isO f u0 9 = true) (hf0 : o = none → f2 = f') (hf1 : ∀ x, o = some x → stJ f' u4 0 x = some f2) : Met l yL_along (wsW yL_along cL_along 6 (some .int) [(0, 11, 14, 13)]) { frames := 10, cells := (n2 - n + 1), slots := (z2 - z + 6), locals := 300 } (Pcx G [rr G u0, .int u1, .int u2, .int u3, rr G u4] f n) (fun a => va_Qi (fun r (k : Nat) => r = thI o ∧ n2 ≤ k) (fun k t => Wd G f2 k t.heap) (WA G) a) (n2 - n + 1) (z2 - z + 6) (WA G) := by
  obtain ⟨a0, fs0, rfl, he0⟩ := isO_of hO
  refine va_MetW (cc := cL_along) (maxL := 6) (ret := (some .int)) (hh := [(0, 11, 14, 13)]) (by decide) rfl ?_
  intro p e s m args below meth c s₁ B hml hv
  obtain ⟨rfl, ⟨hK, hTx⟩, hW⟩ := hv
  have hx := B.exec
  have hb := B.bytes
  have hr := B.returns
  have hts := atoms_spec (ws := wsW yL_along cL_along 6 (some .int) [(0, 11, 14, 13)]) B.pre
  have hT : ∀ w ∈ TB, w.before _ s = true := fun w hw => hts w (List.mem_cons_of_mem _ hw)
  have htab : c.exceptionTable.toList = tableOf [(0, 11, 14, 13)] := vx_table (x := yL_along) B (hts _ List.mem_cons_self)
  have hown : s.vm.findClass RL = some m.cls := findClass_of_methodNamed B.named
  have hlocks := B.notSynchronized
  have hS : va_S (WA G) s.heap s.heap [] := va_S.rf
  have CF : CallFix p m c cL_along 6 s ([rr G (some a0), .int u1, .int u2, .int u3, rr G u4] : List Value).toArray TB RL := ⟨hx, hb, hml, hown, hT⟩
  have hl : lv_has (lg_sl ([rr G (some a0), .int u1, .int u2, .int u3, rr G u4]) ++ List.replicate (6 - (lg_sl ([rr G (some a0), .int u1, .int u2, .int u3, rr G u4])).length) Slot.unset).toArray 6 [(0, rr G (some a0)), (1, .int u1), (2, .int u2), (3, .int u3), (4, rr G u4)] := by cases u4 <;> exact lv_entry _ (Nat.le_of_ble_eq_true rfl)
  rw [lg_entry_eq]
  generalize (lg_sl ([rr G (some a0), .int u1, .int u2, .int u3, rr G u4]) ++ List.replicate (6 - (lg_sl ([rr G (some a0), .int u1, .int u2, .int u3, rr G u4])).length) Slot.unset).toArray = ls at hl ⊢
  refine s_aload hx hb dL_along_0 (lv_at hl 4 rfl) ?_
  refine lv_iconst (v := (0 : Int32)) hx hb dL_along_2 (by decide) ?_
  refine s_aload_n hx hb dL_along_3 rfl (lv_at hl 0 rfl) ?_
  refine lv_iload_n hx hb dL_along_4 rfl (lv_at hl 1 rfl) ?_
  refine lv_iload_n hx hb dL_along_5 rfl (lv_at hl 2 rfl) ?_
  refine lv_iload_n hx hb dL_along_6 rfl (lv_at hl 3 rfl) ?_
  have hp := s_preX (G := G) hK hTx hW hS (rr G (some a0) :: [.int u1, .int u2, .int u3])
  refine vx_calll (A0 := WA G) (vx_runV (C := "CopyOrders") (b := rho G a0) (As := [.int u1, .int u2, .int u3]) (rest := [.int (0 : Int32), rr G u4]) CF (S_X11_along l hst G F hE) (cwV 3 hT gv_L_15 rfl rfl rfl hd_X11_along ⟨Nat.le_of_ble_eq_true rfl, Nat.le_of_ble_eq_true rfl⟩) ⟨hp.1, va_recv (q0 := 0) hK.1 (hW.one (hW.obj he0) he0) rfl rfl, hp.2⟩ rfl rfl hl.1 rfl (s_room (rest := [.int (0 : Int32), rr G u4]) (Nat.le_of_ble_eq_true rfl)) dL_along_7 ⟨Nat.le_of_eq (Nat.zero_add _), Nat.le_of_eq (Nat.zero_add _)⟩) hS (fun _ _ h => h) (fun _ h => h) (fun _ _ h => h) (fun E ce q9 u t H1 locs1 ht hvm ho hB hz hk hS hce hcv hcl => ?_) (fun r u t H1 locs1 ht hvm ho hB hz hk hS => ?_)
  · obtain ⟨hE9, k9, hk9, hWd⟩ := hB
    subst hE9
    rw [ht] at hWd
    refine vx_catch (name := XN) hown [] ⟨0, 11, 14, 13⟩ [] (by rw [htab]; rfl) (fun z hz => nomatch hz) rfl (by decide) (hT _ cl_L_13) (va_Nw.use rfl hTx.2.2.2.1) hce hcv hcl ?_
    refine lv_astore (lv' := (5, .ref q9) :: [(0, rr G (some a0)), (1, .int u1), (2, .int u2), (3, .int u3), (4, rr G u4)]) hx hb dL_along_14 hl (by decide) (by simp [cat_rr]) (fun ls hl => ?_)
    refine lv_iconst (v := (1 : Int32)) hx hb dL_along_16 (by decide) ?_
    refine W.widen (k := (n2 - n + 1)) (n := (z2 - z + 6)) (Nat.le_of_eq (Nat.zero_add _)) (Nat.le_of_eq (Nat.zero_add _)) ?_
    exact W.iret hx hb hr (fun t ht _ => ⟨⟨1, k9, rfl, ⟨by rw [ho]; rfl, hk9⟩, show Wd G f2 k9 t.heap by rw [ht, hf0 ho]; exact hWd⟩, hS.F ht⟩) hS.2.2 dL_along_17 hlocks
  · rw [ht] at hB
    refine s_stJ hx hb hK hB hS (hf1 r ho) dL_along_10 (fun H locs hW hS => ?_)
    refine lv_goto (tgt := 18) hx hb dL_along_11 (by decide) ?_
    refine lv_iconst (v := (0 : Int32)) hx hb dL_along_18 (by decide) ?_
    refine W.widen (k := (n2 - n + 1)) (n := (z2 - z + 6)) (Nat.le_of_eq (Nat.zero_add _)) (Nat.le_of_eq (Nat.zero_add _)) ?_
    exact W.iret hx hb hr (fun t ht _ => ⟨⟨0, n2, rfl, ⟨by rw [ho]; rfl, Nat.le_refl _⟩, show Wd G f2 n2 t.heap by rw [ht]; exact hW⟩, hS.F ht⟩) hS.2.2 dL_along_19 hlocks
/-- what holds in the law from its start on -/
def LWc (p : Program) (l : Launch) (s : State) (m : MethodId) (c : Code) (b L : Nat) (xs : Nat → Int32) (G : GG) : Prop := p.tables.exec = Jvm.exec ∧ c.code = cL_law ∧ c.maxLocals = 8 ∧ s.vm.findClass RL = some m.cls ∧ (∀ w ∈ TB, w.before #[Value.ref b] s = true) ∧ va_X b L xs s s.heap ∧ b < s.heap.size ∧ G.1 = s.heap.size ∧ Kx G s ∧ Tx G s ∧ l.stackTraces = false
/-- the loop's state behind k calls -/
def LWs (G : GG) (s : State) (b i k : Nat) (H : Heap) (locs : List Loc) (cells slots : Nat) (ls : Array Slot) : Prop := ∃ (sk : Nat) (f : Hp) (n z : Nat) (mm : MS) (st : RS) (ee : Nat), LI sk f n z mm st ∧ Wd G f n H ∧ va_S (WA G) s.heap H locs ∧ cells + 100 = n + ee ∧ slots = z + 6 * ee ∧ sk + ee ≤ k ∧ lv_has ls 8 [(0, .ref b), (1, rr G (some 100)), (2, rr G (some 179)), (3, rr G (some 203)), (4, .int (nI i))]
