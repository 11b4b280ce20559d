def isO (f : Hp) (r : Option Nat) (ci : Nat) : Bool := match r with
  | some a => match f a with
    | some (.inl (c, _)) => c == ci
    | _ => false
  | none => false
theorem isO_of {f : Hp} {r : Option Nat} {ci : Nat} (h : isO f r ci = true) : ∃ a fs, r = some a ∧ f a = some (.inl (ci, fs)) := by
  unfold isO at h
  split at h
  · split at h
    · rename_i a _ c fs e1
      have : c = ci := by simpa using h
      subst this
      exact ⟨a, fs, rfl, e1⟩
    · cases h
  · cases h
theorem enI_of {r : Option Nat} {i : Nat} (h : enI r = some i) : r = some i ∧ i < 21 := by
  unfold enI at h
  split at h
  · split at h
    · cases h; exact ⟨rfl, by assumption⟩
    · cases h
  · cases h
def Qcn (G : GG) (r : Option Value) (f : Hp) (n : Nat) : Array Value → State → Outcome → State → Prop := fun _ st o t => (o = .returned r ∧ Wd G f n t.heap) ∧ va_F (WA G) st t
def Pcn (G : GG) (av : List Value) (f : Hp) (n : Nat) : Array Value → State → Prop := va_Pc av (fun U => Kx G U ∧ Wd G f n U.heap)
/-- a method's contract: from the map f, with n the next place, it answers r and leaves f' and n' -/
def Ctr (l : Launch) (G : GG) (y : MethodName) (b : ByteArray) (mL : Nat) (ret : Option FieldType) (fr lo : Nat) (av : List Value) (f : Hp) (n : Nat) (r : Option Value) (f' : Hp) (n' mc ms : Nat) : Prop :=
  Met l y (wsO y b mL ret) { frames := fr, cells := mc, slots := ms, locals := lo } (Pcn G av f n) (Qcn G r f' n') mc ms (WA G)
theorem Pcn_blind (G : GG) (av : List Value) (f : Hp) (n : Nat) : FrameBlind (Pcn G av f n) := fun a U g mk h => ⟨h.1, h.2.1.blind, h.2.2⟩
theorem cat_le (v : Value) : v.category ≤ 2 := by cases v <;> simp [Value.category]
theorem cat_sum (st : List Value) : (st.map fun v => v.category).sum ≤ 2 * st.length := by
  induction st with
  | nil => exact Nat.le_refl _
  | cons v st ih =>
    have := cat_le v
    simp only [List.map_cons, List.sum_cons, List.length_cons]
    omega
section CALLS
variable {p : Program} {l : Launch} {e : Env} {R : Room} {s : State} {m : MethodId} {args : Array Value} {below : List Frame} {meth : Method} {c : Code} {H : Heap} {locs : List Loc} {cells slots : Nat} {Q : State → Prop}
variable {cc : ByteArray} {pc : Nat} {ls : Array Slot} {rest st : List Value} {G : GG} {f f' : Hp} {n n' : Nat} {H0 : Heap}
variable {own C host : String} {index nL nA maxL fr lo mc ms : Nat} {y : MethodName} {bytes : ByteArray} {ret : Option FieldType} {As : List Value} {rv : Option Value}
theorem s_run (hS : va_S (WA G) s.heap H locs) (a : Array Value) (hr : va_Run p l e R s m args below meth c H locs cells slots mc ms (F0 m pc ls st) rest (Qcn G rv f' n' a) (WA G))
    (kk : ∀ (H : Heap) (locs : List Loc), Wd G f' n' H → va_S (WA G) s.heap H locs → W p l e R s m args below meth c H locs (cells + mc) (slots + ms) Q (F0 m (pc + 3) ls (rv.toList ++ rest))) : W p l e R s m args below meth c H locs cells slots Q (F0 m pc ls st) := by
  intro T hT X
  obtain ⟨v, st₀, t, T', L, h0, X', hL, e1, e2, ⟨⟨hv, hWd⟩, hz, hk⟩, stp⟩ := hr T hT X
  cases hv
  rw [h0] at hz hk
  obtain ⟨t2, a1, b1⟩ := kk T'.heap (locs ++ L) (by rw [e1]; exact hWd)
    ⟨Nat.le_trans hS.1 (by rw [e1]; exact hz), fun q h1 h2 => by rw [e1, hk q (Nat.lt_of_lt_of_le h1 hS.1) h2]; exact hS.2.1 q h1 h2, fun q hq => by
      rcases List.mem_append.mp hq with h | h
      · exact hS.2.2 q h
      · exact hL q h⟩ T' rfl X'
  exact ⟨t2, stp t2 a1, b1⟩
theorem s_room (h : rest.length ≤ 4) : 2 * (F0 m pc ls st).monitorRoom + (rest.map fun v => v.category).sum ≤ 8 := by
  have h1 := cat_sum rest
  have h2 : 2 * (F0 m pc ls st).monitorRoom = 0 := rfl
  omega
theorem s_pre (hK : Kx G s) (hW : Wd G f n H) (hS : va_S (WA G) s.heap H locs) (av : List Value) : PreS s H (Pcn G av f n) av := ⟨Pcn_blind G av f n, fun U hU hWm => ⟨rfl, hK.go hS hU hWm, by rw [hU]; exact hW⟩⟩
theorem s_callV {T : u_T} {N ci : Nat} {r : Option Nat} (S : CallFix p m c cc nL s args TB own) (hK : Kx G s) (hW : Wd G f n H) (hS : va_S (WA G) s.heap H locs) (hM : Ctr l G y bytes maxL ret fr lo (rr G r :: As) f n rv f' n' mc ms) (hO : isO f r ci = true) (hc : vwCl[ci]? = some (C, T, N)) (hG : GoodIn TB (wsV own index C y (wsO y bytes maxL ret)))
    (hd : y.cls = C ∧ y.cls ≠ "java/lang/invoke/MethodHandle" ∧ y.cls ≠ "java/lang/invoke/VarHandle" ∧ (parseMethodDescriptor y.desc).map (fun d => d.parameters.length) = some nA) (hR : fr + 1 ≤ R.frames ∧ 8 + (maxL + 11) + lo ≤ R.locals) (hn : As.length = nA) (hsize : ls.size = nL) (hst : st = As.reverse ++ rr G r :: rest) (hrm : rest.length ≤ 4) (hdg : decode cc pc = .ok (.invokevirtual index, 3)) (hf : cells + mc ≤ R.cells ∧ slots + ms ≤ R.slots)
    (kk : ∀ (H : Heap) (locs : List Loc), Wd G f' n' H → va_S (WA G) s.heap H locs → W p l e R s m args below meth c H locs (cells + mc) (slots + ms) Q (F0 m (pc + 3) ls (rv.toList ++ rest))) : W p l e R s m args below meth c H locs cells slots Q (F0 m pc ls st) := by
  obtain ⟨a, fs, rfl, he⟩ := isO_of hO
  have h100 := hW.obj he
  have hp := s_pre (G := G) hK hW hS (rr G (some a) :: As)
  exact s_run hS _ (va_runV (b := rho G a) (As := As) (rest := rest) S hM (cwV nA S.2.2.2.2 hG rfl rfl rfl hd hR) ⟨hp.1, va_recv (q0 := 0) hK.1 (hW.one h100 he) hc rfl, hp.2⟩ rfl hn hsize hst (s_room hrm) hdg hf) kk
theorem s_callS (S : CallFix p m c cc nL s args TB own) (hK : Kx G s) (hW : Wd G f n H) (hS : va_S (WA G) s.heap H locs) (hM : Ctr l G y bytes maxL ret fr lo As f n rv f' n' mc ms) (hG : GoodIn TB (va_wsS own index y (wsO y bytes maxL ret)))
    (hd : y.cls ≠ "java/lang/invoke/MethodHandle" ∧ y.cls ≠ "java/lang/invoke/VarHandle" ∧ (parseMethodDescriptor y.desc).map (fun d => d.parameters.length) = some nA) (hR : fr + 1 ≤ R.frames ∧ 8 + (maxL + 11) + lo ≤ R.locals) (hn : As.length = nA) (hsize : ls.size = nL) (hst : st = As.reverse ++ rest) (hrm : rest.length ≤ 4) (hdg : decode cc pc = .ok (.invokestatic index, 3)) (hf : cells + mc ≤ R.cells ∧ slots + ms ≤ R.slots)
    (kk : ∀ (H : Heap) (locs : List Loc), Wd G f' n' H → va_S (WA G) s.heap H locs → W p l e R s m args below meth c H locs (cells + mc) (slots + ms) Q (F0 m (pc + 3) ls (rv.toList ++ rest))) : W p l e R s m args below meth c H locs cells slots Q (F0 m pc ls st) :=
  s_run hS _ (va_runS (As := As) (rest := rest) S hM (va_cwS nA S.2.2.2.2 hG rfl rfl rfl hd hR) (s_pre (G := G) hK hW hS As) rfl hn hsize hst (s_room hrm) hdg hf) kk
theorem s_callSN (S : CallFix p m c cc nL s args TB own) (hK : Kx G s) (hW : Wd G f n H) (hS : va_S (WA G) s.heap H locs) (hM : Ctr l G y bytes maxL ret fr lo As f n rv f' n' mc ms) (hG : GoodIn TB (wsO y bytes maxL ret)) (hl : (own, index, y, host) ∈ nestM) (hini : Cond.initialized y.cls ∈ TB) (hstt : Cond.static y ∈ TB)
    (hd : y.cls ≠ "java/lang/invoke/MethodHandle" ∧ y.cls ≠ "java/lang/invoke/VarHandle" ∧ (parseMethodDescriptor y.desc).map (fun d => d.parameters.length) = some nA) (hR : fr + 1 ≤ R.frames ∧ 8 + (maxL + 11) + lo ≤ R.locals) (hn : As.length = nA) (hsize : ls.size = nL) (hst : st = As.reverse ++ rest) (hrm : rest.length ≤ 4) (hdg : decode cc pc = .ok (.invokestatic index, 3)) (hf : cells + mc ≤ R.cells ∧ slots + ms ≤ R.slots)
    (kk : ∀ (H : Heap) (locs : List Loc), Wd G f' n' H → va_S (WA G) s.heap H locs → W p l e R s m args below meth c H locs (cells + mc) (slots + ms) Q (F0 m (pc + 3) ls (rv.toList ++ rest))) : W p l e R s m args below meth c H locs cells slots Q (F0 m pc ls st) :=
  s_run hS _ (va_runSN (As := As) (rest := rest) S hM ⟨va_cnB nA S.2.2.2.2 hG rfl rfl rfl (hK.2.2.2.1.1 _ hl) (S.2.2.2.2 _ hini) hd hR, S.2.2.2.2 _ hstt, trivial⟩ (s_pre (G := G) hK hW hS As) rfl hn hsize hst (s_room hrm) hdg hf) kk
theorem s_callI {a : Nat} (S : CallFix p m c cc nL s args TB own) (hK : Kx G s) (hW : Wd G f n H) (hS : va_S (WA G) s.heap H locs) (hM : Ctr l G y bytes maxL none fr lo (rr G (some a) :: As) f n rv f' n' mc ms) (hG : GoodIn TB (wsO y bytes maxL none)) (hini : Cond.initialized y.cls ∈ TB) (hl : Cond.methodLink own index y ∈ TB) (hin : Cond.instanceMethod y ∈ TB) (hy1 : y.name = "<init>")
    (hd : y.cls ≠ "java/lang/invoke/MethodHandle" ∧ y.cls ≠ "java/lang/invoke/VarHandle" ∧ (parseMethodDescriptor y.desc).map (fun d => d.parameters.length) = some nA) (hR : fr + 1 ≤ R.frames ∧ 8 + (maxL + 11) + lo ≤ R.locals) (hn : As.length = nA) (hsize : ls.size = nL) (hst : st = As.reverse ++ rr G (some a) :: rest) (hrm : rest.length ≤ 4) (hdg : decode cc pc = .ok (.invokespecial index, 3)) (hf : cells + mc ≤ R.cells ∧ slots + ms ≤ R.slots)
    (kk : ∀ (H : Heap) (locs : List Loc), Wd G f' n' H → va_S (WA G) s.heap H locs → W p l e R s m args below meth c H locs (cells + mc) (slots + ms) Q (F0 m (pc + 3) ls (rv.toList ++ rest))) : W p l e R s m args below meth c H locs cells slots Q (F0 m pc ls st) :=
  s_run hS _ (va_runI (b := rho G a) (As := As) (rest := rest) S hM (cwI nA S.2.2.2.2 hG rfl rfl rfl (S.2.2.2.2 _ hini) (S.2.2.2.2 _ hl) (S.2.2.2.2 _ hin) hy1 hd hR) (s_pre (G := G) hK hW hS (rr G (some a) :: As)) rfl hn hsize hst (s_room hrm) hdg hf) kk
theorem s_callIN {a : Nat} (S : CallFix p m c cc nL s args TB own) (hK : Kx G s) (hW : Wd G f n H) (hS : va_S (WA G) s.heap H locs) (hM : Ctr l G y bytes maxL none fr lo (rr G (some a) :: As) f n rv f' n' mc ms) (hG : GoodIn TB (wsO y bytes maxL none)) (hl : (own, index, y, host) ∈ nestM) (hini : Cond.initialized y.cls ∈ TB) (hin : Cond.instanceMethod y ∈ TB) (hy1 : y.name = "<init>")
    (hd : y.cls ≠ "java/lang/invoke/MethodHandle" ∧ y.cls ≠ "java/lang/invoke/VarHandle" ∧ (parseMethodDescriptor y.desc).map (fun d => d.parameters.length) = some nA) (hR : fr + 1 ≤ R.frames ∧ 8 + (maxL + 11) + lo ≤ R.locals) (hn : As.length = nA) (hsize : ls.size = nL) (hst : st = As.reverse ++ rr G (some a) :: rest) (hrm : rest.length ≤ 4) (hdg : decode cc pc = .ok (.invokespecial index, 3)) (hf : cells + mc ≤ R.cells ∧ slots + ms ≤ R.slots)
    (kk : ∀ (H : Heap) (locs : List Loc), Wd G f' n' H → va_S (WA G) s.heap H locs → W p l e R s m args below meth c H locs (cells + mc) (slots + ms) Q (F0 m (pc + 3) ls (rv.toList ++ rest))) : W p l e R s m args below meth c H locs cells slots Q (F0 m pc ls st) :=
  s_run hS _ (va_runIN (b := rho G a) (As := As) (rest := rest) S hM ⟨va_cnB nA S.2.2.2.2 hG rfl rfl rfl (hK.2.2.2.1.1 _ hl) (S.2.2.2.2 _ hini) hd hR, hy1, S.2.2.2.2 _ hin⟩ (s_pre (G := G) hK hW hS (rr G (some a) :: As)) rfl hn hsize hst (s_room hrm) hdg hf) kk
/-! ends -/
theorem s_iret {v : Int32} (hx : p.tables.exec = Jvm.exec) (hb : c.code = cc) (hr : meth.sig.returnType = some .int) (hlocks : meth.locks = false) (hW : Wd G f n H) (hS : va_S (WA G) s.heap H locs) (hdg : decode cc pc = .ok (.ireturn, 1)) : W p l e R s m args below meth c H locs cells slots (MQ below (Qcn G (some (.int v)) f n) args s cells slots (WA G)) (F0 m pc ls [.int v]) :=
  W.iret hx hb hr (fun t ht _ => ⟨⟨rfl, by rw [ht]; exact hW⟩, hS.F ht⟩) hS.2.2 hdg hlocks
theorem s_zret {v : Int32} (hx : p.tables.exec = Jvm.exec) (hb : c.code = cc) (hr : meth.sig.returnType = some .boolean) (hz : okZ v = true) (hlocks : meth.locks = false) (hW : Wd G f n H) (hS : va_S (WA G) s.heap H locs) (hdg : decode cc pc = .ok (.ireturn, 1)) : W p l e R s m args below meth c H locs cells slots (MQ below (Qcn G (some (.int v)) f n) args s cells slots (WA G)) (F0 m pc ls [.int v]) := by
  have hn : narrow .boolean (.int v) = .int v := by
    rcases (of_decide_eq_true hz : v = 0 ∨ v = 1) with h | h <;> subst h <;> rfl
  exact W.zret hx hb hr hn (fun t ht _ => ⟨⟨rfl, by rw [ht]; exact hW⟩, hS.F ht⟩) hS.2.2 hdg hlocks
theorem s_lret {v : Int64} (hx : p.tables.exec = Jvm.exec) (hb : c.code = cc) (hr : meth.sig.returnType = some .long) (hlocks : meth.locks = false) (hW : Wd G f n H) (hS : va_S (WA G) s.heap H locs) (hdg : decode cc pc = .ok (.lreturn, 1)) : W p l e R s m args below meth c H locs cells slots (MQ below (Qcn G (some (.long v)) f n) args s cells slots (WA G)) (F0 m pc ls [.long v]) :=
  W.lret hx hb hr (fun t ht _ => ⟨⟨rfl, by rw [ht]; exact hW⟩, hS.F ht⟩) hS.2.2 hdg hlocks
theorem s_aret {v : Option Nat} {rt : FieldType} (hx : p.tables.exec = Jvm.exec) (hb : c.code = cc) (hr : meth.sig.returnType = some rt) (hrt : (∃ n, rt = .object n) ∨ ∃ t, rt = .array t) (hlocks : meth.locks = false) (hW : Wd G f n H) (hS : va_S (WA G) s.heap H locs) (hdg : decode cc pc = .ok (.areturn, 1)) : W p l e R s m args below meth c H locs cells slots (MQ below (Qcn G (some (rr G v)) f n) args s cells slots (WA G)) (F0 m pc ls [rr G v]) :=
  W.aret hx hb hr hrt (rr_or G v) (fun t ht _ => ⟨⟨rfl, by rw [ht]; exact hW⟩, hS.F ht⟩) hS.2.2 hdg hlocks
theorem s_vret (hx : p.tables.exec = Jvm.exec) (hb : c.code = cc) (hr : meth.sig.returnType = none) (hlocks : meth.locks = false) (hW : Wd G f n H) (hS : va_S (WA G) s.heap H locs) (hdg : decode cc pc = .ok (.return_, 1)) : W p l e R s m args below meth c H locs cells slots (MQ below (Qcn G none f n) args s cells slots (WA G)) (F0 m pc ls []) :=
  W.vret hx hb hr (fun t ht _ => ⟨⟨rfl, by rw [ht]; exact hW⟩, hS.F ht⟩) hS.2.2 hdg hlocks
/-! references on the stack and among the locals -/
theorem s_aload_n (hx : p.tables.exec = Jvm.exec) (hb : c.code = cc) {k : Fin 4} {i : Nat} {r : Option Nat} (hdg : decode cc pc = .ok (.aload_n k, 1)) (hi : (k : Nat) = i) (hl : ls[i]? = some (.val (rr G r))) (kk : W p l e R s m args below meth c H locs cells slots Q (F0 m (pc + 1) ls (rr G r :: rest))) : W p l e R s m args below meth c H locs cells slots Q (F0 m pc ls rest) := by
  cases r with
  | none => exact lv_aload_nN hx hb hdg hi hl kk
  | some a => exact lv_aload_n hx hb hdg hi hl kk
theorem s_aload (hx : p.tables.exec = Jvm.exec) (hb : c.code = cc) {i : Nat} {r : Option Nat} (hdg : decode cc pc = .ok (.aload i, 2)) (hl : ls[i]? = some (.val (rr G r))) (kk : W p l e R s m args below meth c H locs cells slots Q (F0 m (pc + 2) ls (rr G r :: rest))) : W p l e R s m args below meth c H locs cells slots Q (F0 m pc ls rest) := by
  cases r with
  | none => exact lv_aloadN hx hb hdg hl kk
  | some a => exact lv_aload hx hb hdg hl kk
theorem s_astore_n (hx : p.tables.exec = Jvm.exec) (hb : c.code = cc) {k : Fin 4} {i : Nat} {r : Option Nat} {lv lv' : List (Nat × Value)} (hdg : decode cc pc = .ok (.astore_n k, 1)) (hi : (k : Nat) = i) (h : lv_has ls nL lv) (hn : i < nL) (hl : (i, rr G r) :: lv.filter (fun q => !(q.1 == i) && !(q.1 + 1 == i && q.2.category == 2)) = lv') (kk : ∀ ls : Array Slot, lv_has ls nL lv' → W p l e R s m args below meth c H locs cells slots Q (F0 m (pc + 1) ls rest)) : W p l e R s m args below meth c H locs cells slots Q (F0 m pc ls (rr G r :: rest)) := by
  cases r with
  | none => exact lv_astore_nN hx hb hdg hi h hn hl kk
  | some a => exact lv_astore_n hx hb hdg hi h hn hl kk
theorem s_astore (hx : p.tables.exec = Jvm.exec) (hb : c.code = cc) {i : Nat} {r : Option Nat} {lv lv' : List (Nat × Value)} (hdg : decode cc pc = .ok (.astore i, 2)) (h : lv_has ls nL lv) (hn : i < nL) (hl : (i, rr G r) :: lv.filter (fun q => !(q.1 == i) && !(q.1 + 1 == i && q.2.category == 2)) = lv') (kk : ∀ ls : Array Slot, lv_has ls nL lv' → W p l e R s m args below meth c H locs cells slots Q (F0 m (pc + 2) ls rest)) : W p l e R s m args below meth c H locs cells slots Q (F0 m pc ls (rr G r :: rest)) := by
  cases r with
  | none => exact lv_astoreN hx hb hdg h hn hl kk
  | some a => exact lv_astore hx hb hdg h hn hl kk
theorem s_ifnull (hx : p.tables.exec = Jvm.exec) (hb : c.code = cc) {r : Option Nat} {off : Int} {tgt : Nat} (hdg : decode cc pc = .ok (.ifnull off, 3)) (ht : (pc : Int) + off = (tgt : Int)) (kt : r = none → W p l e R s m args below meth c H locs cells slots Q (F0 m tgt ls rest)) (kf : ¬ r = none → W p l e R s m args below meth c H locs cells slots Q (F0 m (pc + 3) ls rest)) : W p l e R s m args below meth c H locs cells slots Q (F0 m pc ls (rr G r :: rest)) := by
  cases r with
  | none => exact lv_ifnullN hx hb hdg ht (kt rfl)
  | some a => exact lv_ifnull hx hb hdg (kf (by simp))
theorem s_ifnonnull (hx : p.tables.exec = Jvm.exec) (hb : c.code = cc) {r : Option Nat} {off : Int} {tgt : Nat} (hdg : decode cc pc = .ok (.ifnonnull off, 3)) (ht : (pc : Int) + off = (tgt : Int)) (kt : ¬ r = none → W p l e R s m args below meth c H locs cells slots Q (F0 m tgt ls rest)) (kf : r = none → W p l e R s m args below meth c H locs cells slots Q (F0 m (pc + 3) ls rest)) : W p l e R s m args below meth c H locs cells slots Q (F0 m pc ls (rr G r :: rest)) := by
  cases r with
  | none => exact lv_ifnonnullN hx hb hdg (kf rfl)
  | some a => exact lv_ifnonnull hx hb hdg ht (kt (by simp))
theorem s_null (hx : p.tables.exec = Jvm.exec) (hb : c.code = cc) (hdg : decode cc pc = .ok (.aconst_null, 1)) (kk : W p l e R s m args below meth c H locs cells slots Q (F0 m (pc + 1) ls (rr G none :: rest))) : W p l e R s m args below meth c H locs cells slots Q (F0 m pc ls rest) := lv_null hx hb hdg kk
theorem en_map (hK : Kx G s) {rx ry : Option Nat} (h1 : okE rx = true) (h2 : okE ry = true) : rx.map (rho G) = ry.map (rho G) ↔ rx = ry := by
  refine ⟨fun h => ?_, fun h => by rw [h]⟩
  cases rx <;> cases ry
  · rfl
  · cases h
  · cases h
  · rename_i a b
    have ha : a < 21 := of_decide_eq_true h1
    have hb : b < 21 := of_decide_eq_true h2
    have h3 : rho G a = rho G b := Option.some.inj h
    rw [rho_lt (by omega), rho_lt (by omega)] at h3
    rw [hK.2.2.2.2.1 a b ha hb h3]
theorem s_acmp_ne (hx : p.tables.exec = Jvm.exec) (hb : c.code = cc) (hK : Kx G s) {rx ry : Option Nat} (h1 : okE rx = true) (h2 : okE ry = true) {off : Int} {tgt : Nat} (hdg : decode cc pc = .ok (.if_acmp .ne off, 3)) (ht : (pc : Int) + off = (tgt : Int)) (kt : ¬ rx = ry → W p l e R s m args below meth c H locs cells slots Q (F0 m tgt ls rest)) (kf : rx = ry → W p l e R s m args below meth c H locs cells slots Q (F0 m (pc + 3) ls rest)) : W p l e R s m args below meth c H locs cells slots Q (F0 m pc ls (rr G ry :: rr G rx :: rest)) :=
  lv_acmp_ne hx hb hdg ht (fun h => kt (fun e => h ((en_map hK h1 h2).mpr e))) (fun h => kf ((en_map hK h1 h2).mp h))
/-! what the launch has -/
theorem s_getEn (hx : p.tables.exec = Jvm.exec) (hb : c.code = cc) (hT : ∀ w ∈ TB, w.before args s = true) (hK : Kx G s) (hS : va_S (WA G) s.heap H locs) (hown : s.vm.findClass own = some m.cls) (i : Nat) (hi : i < 21) (hlink : Cond.fieldLink own index "CopyOrders$Word" (wordN i) "LCopyOrders$Word;" ∈ TB) (hdg : decode cc pc = .ok (.getstatic index, 3)) (kk : W p l e R s m args below meth c H locs cells slots Q (F0 m (pc + 3) ls (rr G (some i) :: rest))) : W p l e R s m args below meth c H locs cells slots Q (F0 m pc ls rest) := by
  refine va_gets hx hb (hK.2.2.1.1 i hi) hS hown (hT _ hlink) (fun _ h => h) hdg ?_
  have e1 : (Value.ref (G.2.2.2 i)) = rr G (some i) := by
    show _ = Value.ref (rho G i)
    rw [rho_lt (by omega)]
  rw [e1]
  exact kk
theorem s_getSt (hx : p.tables.exec = Jvm.exec) (hb : c.code = cc) (hT : ∀ w ∈ TB, w.before args s = true) (hK : Kx G s) (hS : va_S (WA G) s.heap H locs) (hown : s.vm.findClass own = some m.cls) {C nm d : String} (i : Nat) (hi : i < 100) (hZ : va_Z C nm d (.ref (G.2.2.2 i)) (WA G) s s.heap) (hlink : Cond.fieldLink own index C nm d ∈ TB) (hdg : decode cc pc = .ok (.getstatic index, 3)) (kk : W p l e R s m args below meth c H locs cells slots Q (F0 m (pc + 3) ls (rr G (some i) :: rest))) : W p l e R s m args below meth c H locs cells slots Q (F0 m pc ls rest) := by
  refine va_gets hx hb hZ hS hown (hT _ hlink) (fun _ h => h) hdg ?_
  have e1 : (Value.ref (G.2.2.2 i)) = rr G (some i) := by
    show _ = Value.ref (rho G i)
    rw [rho_lt hi]
  rw [e1]
  exact kk
theorem s_getStN (hx : p.tables.exec = Jvm.exec) (hb : c.code = cc) (hK : Kx G s) (hS : va_S (WA G) s.heap H locs) (hown : s.vm.findClass own = some m.cls) {C nm d : String} (i : Nat) (hi : i < 100) (hZ : va_Z C nm d (.ref (G.2.2.2 i)) (WA G) s s.heap) (hlink : (own, index, C, nm, d, host) ∈ nestF) (hdg : decode cc pc = .ok (.getstatic index, 3)) (kk : W p l e R s m args below meth c H locs cells slots Q (F0 m (pc + 3) ls (rr G (some i) :: rest))) : W p l e R s m args below meth c H locs cells slots Q (F0 m pc ls rest) := by
  refine va_getsN hx hb hZ hS hown (va_Nw.use rfl (hK.2.2.2.1.2.1 _ hlink)) (fun _ h => h) hdg ?_
  have e1 : (Value.ref (G.2.2.2 i)) = rr G (some i) := by
    show _ = Value.ref (rho G i)
    rw [rho_lt hi]
  rw [e1]
  exact kk
theorem s_enC (hx : p.tables.exec = Jvm.exec) (hb : c.code = cc) (hT : ∀ w ∈ TB, w.before args s = true) (hK : Kx G s) (hS : va_S (WA G) s.heap H locs) (hown : s.vm.findClass own = some m.cls) {r : Option Nat} {i : Nat} (hE : enI r = some i) (hlink : Cond.fieldLink own index "CopyOrders$Word" "code" "J" ∈ TB) (hdg : decode cc pc = .ok (.getfield index, 3)) (kk : W p l e R s m args below meth c H locs cells slots Q (F0 m (pc + 3) ls (.long (wordC i) :: rest))) : W p l e R s m args below meth c H locs cells slots Q (F0 m pc ls (rr G r :: rest)) := by
  obtain ⟨rfl, hi⟩ := enI_of hE
  show W p l e R s m args below meth c H locs cells slots Q (F0 m pc ls (.ref (rho G i) :: rest))
  rw [rho_lt (by omega)]
  exact va_getX hx hb hK.2.2.1.2.2.2.1 hi hS hown (hT _ hlink) (fun _ h => h) hdg kk
theorem s_enS (hx : p.tables.exec = Jvm.exec) (hb : c.code = cc) (hT : ∀ w ∈ TB, w.before args s = true) (hK : Kx G s) (hS : va_S (WA G) s.heap H locs) (hown : s.vm.findClass own = some m.cls) {r : Option Nat} {i : Nat} (hE : enI r = some i) (hlink : Cond.fieldLink own index "CopyOrders$Word" "startsOne" "Z" ∈ TB) (hdg : decode cc pc = .ok (.getfield index, 3)) (kk : W p l e R s m args below meth c H locs cells slots Q (F0 m (pc + 3) ls (.int (wordS i) :: rest))) : W p l e R s m args below meth c H locs cells slots Q (F0 m pc ls (rr G r :: rest)) := by
  obtain ⟨rfl, hi⟩ := enI_of hE
  show W p l e R s m args below meth c H locs cells slots Q (F0 m pc ls (.ref (rho G i) :: rest))
  rw [rho_lt (by omega)]
  exact va_getX hx hb hK.2.2.1.2.2.2.2.1 hi hS hown (hT _ hlink) (fun _ h => h) hdg kk
/-! new things -/
theorem va_S.grow {A : Nat → Prop} {H0 H H1 : Heap} {locs : List Loc} (h : va_S A H0 H locs) (z : H1.size = H.size + 1) (oq : ∀ q : Nat, q < H.size → H1[q]? = H[q]?) : va_S A H0 H1 locs := ⟨Nat.le_trans h.1 (by omega), fun x h1 h2 => (oq x (Nat.lt_of_lt_of_le h1 h.1)).trans (h.2.1 x h1 h2), h.2.2⟩
theorem Wd.topv (hW : Wd G f n H) : rr G (some n) = .ref H.size := by
  show Value.ref (rho G n) = _
  rw [hW.top]
theorem s_new {T : u_T} {N ci : Nat} (hx : p.tables.exec = Jvm.exec) (hb : c.code = cc) (hT : ∀ w ∈ TB, w.before args s = true) (hin : ∀ w ∈ u_ws C T N, w ∈ TB) (ty : Nat → FieldType) (hty : ∀ k, k < N → parseFieldDescriptor (T k).2.2.1 = some (ty k)) (hown : s.vm.findClass own = some m.cls) (hcl : Cond.classLink own index C ∈ TB) (hinst : Cond.instantiable C N ∈ TB) (hini : Cond.initialized C ∈ TB)
    (hK : Kx G s) (hW : Wd G f n H) (hS : va_S (WA G) H0 H locs) (hc : vwCl[ci]? = some (C, T, N)) {fs : List Value} (hfs : ∀ j, j < N → defaultValue (ty j) = vp_V fs j) (hnr : fs.map (trv G) = fs) (hcells : cells + 1 ≤ R.cells) (hslots : slots + N ≤ R.slots) (hdg : decode cc pc = .ok (.new index, 3))
    (kk : ∀ (H : Heap), Wd G (va_up f n (some (.inl (ci, fs)))) (n + 1) H → va_S (WA G) H0 H locs → W p l e R s m args below meth c H locs (cells + 1) (slots + N) Q (F0 m (pc + 3) ls (rr G (some n) :: rest))) : W p l e R s m args below meth c H locs cells slots Q (F0 m pc ls rest) := by
  have hKn := hK.1.1 ci _ hc
  refine W.newcK hx hb hown (hT _ hcl) (hT _ hinst) (hT _ hini) rfl hdg hcells hslots hKn.2.1 rfl fun H1 kC hkC e1 z1 o1 => ?_
  have k1 := kk H1 (hW.push _ ⟨_, hc, (u_born ty hT hin hKn hkC e1 hty).to (fun j hj => by rw [hnr]; exact hfs j hj)⟩ o1 z1) (hS.grow z1 o1)
  rw [hW.topv] at k1
  exact k1
theorem s_newA (hx : p.tables.exec = Jvm.exec) (hb : c.code = cc) {atype : ArrayType} {t : Nat} (hty : newarray.typeOf atype = knd t) (ht : t < 9) (harr : (Cond.arrayClass (newarray.typeOf atype)).before args s = true) (hra : va_RA s (G.2.2.1 t) (knd t) → s.vm.findClass ("[" ++ (knd t).toString) = some (G.2.2.1 t)) (hK : Kx G s) (hW : Wd G f n H) (hS : va_S (WA G) H0 H locs) {x : (Nat → Int32) ⊕ (Nat → Int64) ⊕ (Nat → UInt32) ⊕ (Nat → UInt64) ⊕ (Nat → Option Nat)} (hdef : ∀ j, avV G x j = defaultValue (knd t))
    {k : Int32} (hn : ¬ k < 0) (hbytes : k.toNatClampNeg * componentBytes (knd t) ≤ 536870912) (hcells : cells + 1 ≤ R.cells) (hslots : slots + k.toNatClampNeg ≤ R.slots) (hdg : decode cc pc = .ok (.newarray atype, 2))
    (kk : ∀ (H : Heap), Wd G (va_up f n (some (.inr (t, k.toNatClampNeg, x)))) (n + 1) H → va_S (WA G) H0 H locs → W p l e R s m args below meth c H locs (cells + 1) (slots + k.toNatClampNeg) Q (F0 m (pc + 2) ls (rr G (some n) :: rest))) : W p l e R s m args below meth c H locs cells slots Q (F0 m pc ls (.int k :: rest)) := by
  refine va_newaK hx hb harr rfl hdg rfl hn rfl (by rw [hty]; exact hbytes) hcells hslots rfl fun H1 cA e1 z1 o1 hAr hNm => ?_
  have hcA : cA = G.2.2.1 t := by
    rw [hty] at hNm
    have h2 := hra (hK.1.2 t _ (tysG_at G ht)).2
    exact Option.some.inj (hNm.symm.trans h2)
  have k1 := kk H1 (hW.push _ (by
    show H1[H.size]? = some (vp_cell (G.2.2.1 t) (trq G (k.toNatClampNeg, x)))
    rw [cell_trc, e1, hcA, hty]
    congr 2
    funext j
    exact (hdef j).symm) o1 z1) (hS.grow z1 o1)
  rw [hW.topv] at k1
  exact k1
theorem s_newQ (hx : p.tables.exec = Jvm.exec) (hb : c.code = cc) (hT : ∀ w ∈ TB, w.before args s = true) (hown : s.vm.findClass own = some m.cls) {E : String} {t : Nat} (hty : knd t = .object E) (ht : t < 9) (hcl : Cond.classLink own index E ∈ TB) (hE : E ∈ ["CopyOrders$Copy", "CopyOrders$Desk", "CopyOrders$House", "CopyOrders$Orders", "CopyOrders$Word"]) (hK : Kx G s) (hW : Wd G f n H) (hS : va_S (WA G) H0 H locs)
    {k : Int32} (hn : ¬ k < 0) (hbytes : k.toNatClampNeg * 4 ≤ 536870912) (hcells : cells + 1 ≤ R.cells) (hslots : slots + k.toNatClampNeg ≤ R.slots) (hdg : decode cc pc = .ok (.anewarray index, 3))
    (kk : ∀ (H : Heap), Wd G (va_up f n (some (.inr (t, k.toNatClampNeg, .inr (.inr (.inr (.inr fun _ => none))))))) (n + 1) H → va_S (WA G) H0 H locs → W p l e R s m args below meth c H locs (cells + 1) (slots + k.toNatClampNeg) Q (F0 m (pc + 3) ls (rr G (some n) :: rest))) : W p l e R s m args below meth c H locs cells slots Q (F0 m pc ls (.int k :: rest)) := by
  refine W.anew hx hb hown (hT _ hcl) (va_AO.use (hK.2.2.2.1.2.2 E hE)) rfl hdg rfl hn hbytes hcells hslots fun cA kA comp f1 f2 f3 f4 => ?_
  have hcA : cA = G.2.2.1 t := by
    have h2 := (hK.1.2 t _ (tysG_at G ht)).2
    rw [hty] at h2
    obtain ⟨_, _, -, -, -, h5⟩ := h2
    exact Option.some.inj (f1.symm.trans h5)
  generalize hH1 : H.push ({ cls := cA, slots := Array.replicate k.toNatClampNeg .null, vm := .none } : Cell) = H1
  have z1 : H1.size = H.size + 1 := by rw [← hH1, Array.size_push]
  have e1 : H1[H.size]? = some (arrV cA k.toNatClampNeg (fun _ => .null)) := by rw [← hH1, Array.getElem?_push_size, ← arrV_new]
  have o1 : ∀ q : Nat, q < H.size → H1[q]? = H[q]? := fun q hq => by rw [← hH1, Array.getElem?_push, if_neg (Nat.ne_of_lt hq)]
  have k1 := kk H1 (hW.push _ (by
    show H1[H.size]? = some (vp_cell (G.2.2.1 t) (trq G (k.toNatClampNeg, .inr (.inr (.inr (.inr fun _ => none))))))
    rw [cell_trc, e1, hcA]
    rfl) o1 z1) (hS.grow z1 o1)
  rw [hW.topv] at k1
  exact k1
end CALLS
