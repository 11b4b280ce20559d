def irm (a b : Int32) : Int32 := a - a / b * b
def lrm (a b : Int64) : Int64 := a - a / b * b
def ius (a b : Int32) : Int32 := (a.toUInt32 >>> (b.toUInt32 &&& Int32.toUInt32 31)).toInt32
def lus (a : Int64) (b : Int32) : Int64 := (a.toUInt64 >>> (b.toInt64.toUInt64 &&& Int64.toUInt64 63)).toInt64
def i2b (a : Int32) : Int32 := a.toInt8.toInt32
def isS (r : Option Nat) : Bool := r.isSome
def imax (x y : Int32) : Int32 := if x < y then y else x
def imin (x y : Int32) : Int32 := if y < x then y else x
theorem mx_stt : Cond.static Lib.Math.max.name ∈ TB := TB_t 505 (by decide +kernel) rfl
theorem mx_cd : Cond.code Lib.Math.max.name Lib.Math.max.code 2 (some .int) ∈ TB := TB_t 506 (by decide +kernel) rfl
theorem mn_stt : Cond.static Lib.Math.min.name ∈ TB := TB_t 390 (by decide +kernel) rfl
theorem mn_cd : Cond.code Lib.Math.min.name Lib.Math.min.code 2 (some .int) ∈ TB := TB_t 391 (by decide +kernel) rfl
theorem mx_ini : Cond.initialized "java/lang/Math" ∈ TB := TB_t 14 (by decide +kernel) rfl
def bd2 {α β : Type} (o : Option (α × Hp)) (k : α → Hp → Option β) : Option β := o.bind fun q => k q.1 q.2
def bd3 {β : Type} (o : Option (Hp × Nat × Nat)) (k : Hp → Nat → Nat → Option β) : Option β := o.bind fun q => k q.1 q.2.1 q.2.2
def bd4 {α β : Type} (o : Option (α × Hp × Nat × Nat)) (k : α → Hp → Nat → Nat → Option β) : Option β := o.bind fun q => k q.1 q.2.1 q.2.2.1 q.2.2.2
theorem bd2_of {α β : Type} {o : Option (α × Hp)} {k : α → Hp → Option β} {r : β} (h : bd2 o k = some r) : ∃ x f, o = some (x, f) ∧ k x f = some r := by
  obtain ⟨⟨x, f⟩, h1, h2⟩ := bd h
  exact ⟨x, f, h1, h2⟩
theorem bd3_of {β : Type} {o : Option (Hp × Nat × Nat)} {k : Hp → Nat → Nat → Option β} {r : β} (h : bd3 o k = some r) : ∃ f n z, o = some (f, n, z) ∧ k f n z = some r := by
  obtain ⟨⟨f, n, z⟩, h1, h2⟩ := bd h
  exact ⟨f, n, z, h1, h2⟩
theorem bd4_of {α β : Type} {o : Option (α × Hp × Nat × Nat)} {k : α → Hp → Nat → Nat → Option β} {r : β} (h : bd4 o k = some r) : ∃ x f n z, o = some (x, f, n, z) ∧ k x f n z = some r := by
  obtain ⟨⟨x, f, n, z⟩, h1, h2⟩ := bd h
  exact ⟨x, f, n, z, h1, h2⟩
def pr3 (q : Hp × Nat × Nat) : Nat × Nat := q.2
def pr4 {α : Type} (q : α × Hp × Nat × Nat) : Nat × Nat := q.2.2
def grow {ρ : Type} (pr : ρ → Nat × Nat) (n z : Nat) (k : Option ρ) : Option ρ := match k with
  | some r => if n ≤ (pr r).1 ∧ z ≤ (pr r).2 then some r else none
  | none => none
theorem grow_of {ρ : Type} {pr : ρ → Nat × Nat} {n z : Nat} {k : Option ρ} {r : ρ} (h : grow pr n z k = some r) : n ≤ (pr r).1 ∧ z ≤ (pr r).2 ∧ k = some r := by
  unfold grow at h
  split at h
  · split at h
    · rename_i hc
      cases h
      exact ⟨hc.1, hc.2, rfl⟩
    · cases h
  · cases h
theorem and_l {a b : Bool} (h : (a && b) = true) : a = true := by cases a <;> simp_all
theorem and_r {a b : Bool} (h : (a && b) = true) : b = true := by cases a <;> simp_all
theorem fit_o {G : GG} {C : String} {x : Option Nat} : fits (.object C) (rr G x) = true := by cases x <;> rfl
theorem fit_a {G : GG} {t : FieldType} {x : Option Nat} : fits (.array t) (rr G x) = true := by cases x <;> rfl
theorem TB_all (ws : List Cond) (is : List Nat) (h : ws = is.filterMap (fun i => tables_1[i]?)) (g : ws.all goodWord = true) : ∀ w ∈ ws, w ∈ TB := fun w hw => by
  have h1 := List.all_eq_true.mp g w hw
  rw [h] at hw
  obtain ⟨i, -, hi⟩ := List.mem_filterMap.mp hw
  exact TB_t i hi h1
theorem z30 {G : GG} {s : State} (hK : Kx G s) : va_Z RX11 "FACTORIALS" "[I" (.ref (G.2.2.2 30)) (WA G) s s.heap := hK.2.2.1.2.2.2.2.2.1
theorem z31 {G : GG} {s : State} (hK : Kx G s) : va_Z RX11 "LIKE_WEIGHTS" "[I" (.ref (G.2.2.2 31)) (WA G) s s.heap := hK.2.2.1.2.2.2.2.2.2.1
theorem z32 {G : GG} {s : State} (hK : Kx G s) : va_Z RX11 "WORDS" "[LCopyOrders$Word;" (.ref (G.2.2.2 32)) (WA G) s s.heap := hK.2.2.1.2.2.2.2.2.2.2.1
theorem z33 {G : GG} {s : State} (hK : Kx G s) : va_Z RX0 "$SwitchMap$CopyOrders$Word" "[I" (.ref (G.2.2.2 33)) (WA G) s s.heap := hK.2.2.1.2.2.2.2.2.2.2.2.1
section ROWS5
variable {p : Program} {l : Launch} {e : Env} {R : Room} {s : State} {m : MethodId} {args : Array Value} {below : List Frame} {meth : Method} {c : Code} {H : Heap} {locs : List Loc} {cells slots : Nat} {Q : State → Prop}
variable {cc : ByteArray} {pc : Nat} {ls : Array Slot} {rest : List Value} {G : GG} {f : Hp} {n : Nat} {H0 : Heap}
theorem s_max {own : String} {index : Nat} (hx : p.tables.exec = Jvm.exec) (hb : c.code = cc) (hml : c.maxLocals = ls.size) (hT : ∀ w ∈ TB, w.before args s = true) (hown : s.vm.findClass own = some m.cls) (hlink : Cond.methodLink own index Lib.Math.max.name ∈ TB) (hframes : 1 ≤ R.frames) (hlocals : 21 ≤ R.locals) (hrm : rest.length ≤ 4) (hc : cells ≤ R.cells) (hs : slots ≤ R.slots) {x y : Int32} (hdg : decode cc pc = .ok (.invokestatic index, 3)) (kk : W p l e R s m args below meth c H locs cells slots Q (F0 m (pc + 3) ls (.int (imax x y) :: rest))) : W p l e R s m args below meth c H locs cells slots Q (F0 m pc ls (.int y :: .int x :: rest)) :=
  va_mmax hx hb hml hown (hT _ hlink) (hT _ mx_stt) (hT _ mx_ini) (hT _ mx_cd) hframes (by have := cat_sum rest; omega) hc hs hdg kk
theorem s_min {own : String} {index : Nat} (hx : p.tables.exec = Jvm.exec) (hb : c.code = cc) (hml : c.maxLocals = ls.size) (hT : ∀ w ∈ TB, w.before args s = true) (hown : s.vm.findClass own = some m.cls) (hlink : Cond.methodLink own index Lib.Math.min.name ∈ TB) (hframes : 1 ≤ R.frames) (hlocals : 21 ≤ R.locals) (hrm : rest.length ≤ 4) (hc : cells ≤ R.cells) (hs : slots ≤ R.slots) {x y : Int32} (hdg : decode cc pc = .ok (.invokestatic index, 3)) (kk : W p l e R s m args below meth c H locs cells slots Q (F0 m (pc + 3) ls (.int (imin x y) :: rest))) : W p l e R s m args below meth c H locs cells slots Q (F0 m pc ls (.int y :: .int x :: rest)) :=
  va_mmin hx hb hml hown (hT _ hlink) (hT _ mn_stt) (hT _ mx_ini) (hT _ mn_cd) hframes (by have := cat_sum rest; omega) hc hs hdg kk
theorem s_obj {own : String} {index nL : Nat} {r : Option Nat} (hx : p.tables.exec = Jvm.exec) (hb : c.code = cc) (hml : c.maxLocals = nL) (hsz : ls.size = nL) (hown : s.vm.findClass own = some m.cls) (hT : ∀ w ∈ TB, w.before args s = true) (hlink : Cond.methodLink own index objectInit ∈ TB) (him : Cond.instanceMethod objectInit ∈ TB) (hcd : Cond.code objectInit ⟨#[0xb1]⟩ 1 none ∈ TB) (hr : isS r = true) (hrm : rest.length ≤ 4) (hframes : 1 ≤ R.frames) (hlocals : 20 ≤ R.locals) (hdg : decode cc pc = .ok (.invokespecial index, 3)) (kk : W p l e R s m args below meth c H locs cells slots Q (F0 m (pc + 3) ls rest)) : W p l e R s m args below meth c H locs cells slots Q (F0 m pc ls (rr G r :: rest)) := by
  cases r with
  | none => cases hr
  | some a => exact W.objInit (a := rho G a) (rest := rest) hx hb hown (hT _ hlink) (hT _ him) (hT _ hcd) rfl (hsz.trans hml.symm) rfl hdg hframes (by have h1 := cat_sum rest; show 2 * 0 + _ + 12 ≤ _; omega) kk
section PUTS
variable {own ref C : String} {T : u_T} {N ci index : Nat} {k : Nat} {f' : Hp} {r : Option Nat} {ty : FieldType}
theorem s_putI {x : Int32} (hx : p.tables.exec = Jvm.exec) (hb : c.code = cc) (hT : ∀ w ∈ TB, w.before args s = true) (hin : ∀ w ∈ u_ws C T N, w ∈ TB) (ty0 : Nat → FieldType) (hty : ∀ k, k < N → parseFieldDescriptor (T k).2.2.1 = some (ty0 k)) (hnm : ∀ a, a < N → ∀ b, b < N → a ≠ b → (T a).2.1 ≠ (T b).2.1) (hown : s.vm.findClass own = some m.cls) (hK : Kx G s) (hW : Wd G f n H) (hS : va_S (WA G) H0 H locs) (hE : pV f r ci k (.int x) = some f') (hc : vwCl[ci]? = some (C, T, N)) (hk : k < N) (hlink : Cond.fieldLink own index ref (T k).2.1 (T k).2.2.1 ∈ TB) (href : (T k).1 = ref) (hfin : (T k).2.2.2 = false ∨ ((T k).2.2.2 = true ∧ meth.name = "<init>" ∧ (T k).1 = own)) (hd : ty0 k = .int) (hdg : decode cc pc = .ok (.putfield index, 3))
    (kk : ∀ (H : Heap) (locs : List Loc), Wd G f' n H → va_S (WA G) H0 H locs → W p l e R s m args below meth c H locs cells slots Q (F0 m (pc + 3) ls rest)) : W p l e R s m args below meth c H locs cells slots Q (F0 m pc ls (.int x :: rr G r :: rest)) :=
  s_putV (v := .int x) hx hb hT hin ty0 hty hnm hown hK hW hS hE hc hk hlink href hfin hd rfl rfl hdg kk
theorem s_putJ {x : Int64} (hx : p.tables.exec = Jvm.exec) (hb : c.code = cc) (hT : ∀ w ∈ TB, w.before args s = true) (hin : ∀ w ∈ u_ws C T N, w ∈ TB) (ty0 : Nat → FieldType) (hty : ∀ k, k < N → parseFieldDescriptor (T k).2.2.1 = some (ty0 k)) (hnm : ∀ a, a < N → ∀ b, b < N → a ≠ b → (T a).2.1 ≠ (T b).2.1) (hown : s.vm.findClass own = some m.cls) (hK : Kx G s) (hW : Wd G f n H) (hS : va_S (WA G) H0 H locs) (hE : pV f r ci k (.long x) = some f') (hc : vwCl[ci]? = some (C, T, N)) (hk : k < N) (hlink : Cond.fieldLink own index ref (T k).2.1 (T k).2.2.1 ∈ TB) (href : (T k).1 = ref) (hfin : (T k).2.2.2 = false ∨ ((T k).2.2.2 = true ∧ meth.name = "<init>" ∧ (T k).1 = own)) (hd : ty0 k = .long) (hdg : decode cc pc = .ok (.putfield index, 3))
    (kk : ∀ (H : Heap) (locs : List Loc), Wd G f' n H → va_S (WA G) H0 H locs → W p l e R s m args below meth c H locs cells slots Q (F0 m (pc + 3) ls rest)) : W p l e R s m args below meth c H locs cells slots Q (F0 m pc ls (.long x :: rr G r :: rest)) :=
  s_putV (v := .long x) hx hb hT hin ty0 hty hnm hown hK hW hS hE hc hk hlink href hfin hd rfl rfl hdg kk
theorem s_putZ {x : Int32} (hx : p.tables.exec = Jvm.exec) (hb : c.code = cc) (hT : ∀ w ∈ TB, w.before args s = true) (hin : ∀ w ∈ u_ws C T N, w ∈ TB) (ty0 : Nat → FieldType) (hty : ∀ k, k < N → parseFieldDescriptor (T k).2.2.1 = some (ty0 k)) (hnm : ∀ a, a < N → ∀ b, b < N → a ≠ b → (T a).2.1 ≠ (T b).2.1) (hown : s.vm.findClass own = some m.cls) (hK : Kx G s) (hW : Wd G f n H) (hS : va_S (WA G) H0 H locs) (hE : pZ f r ci k x = some f') (hc : vwCl[ci]? = some (C, T, N)) (hk : k < N) (hlink : Cond.fieldLink own index ref (T k).2.1 (T k).2.2.1 ∈ TB) (href : (T k).1 = ref) (hfin : (T k).2.2.2 = false ∨ ((T k).2.2.2 = true ∧ meth.name = "<init>" ∧ (T k).1 = own)) (hd : ty0 k = .boolean) (hdg : decode cc pc = .ok (.putfield index, 3))
    (kk : ∀ (H : Heap) (locs : List Loc), Wd G f' n H → va_S (WA G) H0 H locs → W p l e R s m args below meth c H locs cells slots Q (F0 m (pc + 3) ls rest)) : W p l e R s m args below meth c H locs cells slots Q (F0 m pc ls (.int x :: rr G r :: rest)) := by
  unfold pZ at hE
  split at hE
  · rename_i h01
    have h1 : narrow .boolean (.int x) = .int x := by rcases h01 with h | h <;> subst h <;> rfl
    have h2 : fits .boolean (.int x) = true := by rcases h01 with h | h <;> subst h <;> rfl
    exact s_putV (v := .int x) hx hb hT hin ty0 hty hnm hown hK hW hS hE hc hk hlink href hfin hd h1 h2 hdg kk
  · cases hE
theorem s_putR {x : Option Nat} (hx : p.tables.exec = Jvm.exec) (hb : c.code = cc) (hT : ∀ w ∈ TB, w.before args s = true) (hin : ∀ w ∈ u_ws C T N, w ∈ TB) (ty0 : Nat → FieldType) (hty : ∀ k, k < N → parseFieldDescriptor (T k).2.2.1 = some (ty0 k)) (hnm : ∀ a, a < N → ∀ b, b < N → a ≠ b → (T a).2.1 ≠ (T b).2.1) (hown : s.vm.findClass own = some m.cls) (hK : Kx G s) (hW : Wd G f n H) (hS : va_S (WA G) H0 H locs) (hE : pV f r ci k (va_rf x) = some f') (hc : vwCl[ci]? = some (C, T, N)) (hk : k < N) (hlink : Cond.fieldLink own index ref (T k).2.1 (T k).2.2.1 ∈ TB) (href : (T k).1 = ref) (hfin : (T k).2.2.2 = false ∨ ((T k).2.2.2 = true ∧ meth.name = "<init>" ∧ (T k).1 = own)) (hd : ty0 k = ty) (hfit : fits ty (rr G x) = true) (hdg : decode cc pc = .ok (.putfield index, 3))
    (kk : ∀ (H : Heap) (locs : List Loc), Wd G f' n H → va_S (WA G) H0 H locs → W p l e R s m args below meth c H locs cells slots Q (F0 m (pc + 3) ls rest)) : W p l e R s m args below meth c H locs cells slots Q (F0 m pc ls (rr G x :: rr G r :: rest)) := by
  have h1 : narrow ty (rr G x) = rr G x := by cases x <;> cases ty <;> rfl
  rw [← trv_rf] at h1 hfit
  have h2 := s_putV (v := va_rf x) hx hb hT hin ty0 hty hnm hown hK hW hS hE hc hk hlink href hfin hd h1 hfit hdg kk
  rw [trv_rf] at h2
  exact h2
end PUTS
def cpI (f : Hp) (t : Nat) (a : Option Nat) (sp : Int32) (b : Option Nat) (dp k : Int32) : Option Hp := match aI f t a, aI f t b with
  | some (n0, g), some (n1, h) => if t = 1 ∧ ¬ sp < 0 ∧ ¬ dp < 0 ∧ ¬ k < 0 ∧ sp.toNatClampNeg + k.toNatClampNeg ≤ n0 ∧ dp.toNatClampNeg + k.toNatClampNeg ≤ n1 ∧ 100 ≤ ofN a ∧ 100 ≤ ofN b then some (va_up f (ofN b) (some (.inr (t, n1, .inl (va_cpy g h sp.toNatClampNeg dp.toNatClampNeg k.toNatClampNeg))))) else none
  | _, _ => none
def cpJ (f : Hp) (a : Option Nat) (sp : Int32) (b : Option Nat) (dp k : Int32) : Option Hp := match aJ f a, aJ f b with
  | some (n0, g), some (n1, h) => if ¬ sp < 0 ∧ ¬ dp < 0 ∧ ¬ k < 0 ∧ sp.toNatClampNeg + k.toNatClampNeg ≤ n0 ∧ dp.toNatClampNeg + k.toNatClampNeg ≤ n1 ∧ 100 ≤ ofN a ∧ 100 ≤ ofN b then some (va_up f (ofN b) (some (.inr (2, n1, .inr (.inl (va_cpy g h sp.toNatClampNeg dp.toNatClampNeg k.toNatClampNeg)))))) else none
  | _, _ => none
theorem nn32 (z : Int32) (hz : ¬ z < 0) : z.toInt = (z.toNatClampNeg : Int) := by
  have hz0 : (0 : Int) ≤ z.toInt := by
    have := Int32.not_lt.mp hz
    simpa using Int32.le_iff_toInt_le.mp this
  show z.toInt = ((z.toInt.toNat : Nat) : Int)
  omega
theorem cp_nat : Cond.native arraycopyName ∈ TB := TB_t 848 (by decide +kernel) rfl
theorem cp_stt : Cond.static arraycopyName ∈ TB := TB_t 847 (by decide +kernel) rfl
theorem cp_ini : Cond.initialized "java/lang/System" ∈ TB := TB_t 22 (by decide +kernel) rfl
theorem s_copyG {α : Type} (mk : α → Value) {own : String} {index : Nat} (hx : p.tables.exec = Jvm.exec) (hb : c.code = cc) (hml : c.maxLocals = ls.size) (hT : ∀ w ∈ TB, w.before args s = true) (hown : s.vm.findClass own = some m.cls) (hlink : Cond.methodLink own index arraycopyName ∈ TB) (hS : va_S (WA G) H0 H locs) {a b : Nat} {cI : ClassId} {n0 n1 : Nat} {g h : Nat → α} {ty : FieldType} (hb100 : 100 ≤ b) (hprim : refKind ty = false) (hAr : ArrOfT s cI ty)
    (hc0 : H[rho G a]? = some (arrV cI n0 (fun j => mk (g j)))) (hc1 : H[rho G b]? = some (arrV cI n1 (fun j => mk (h j)))) {sp dp k : Int32} (h1 : ¬ sp < 0) (h2 : ¬ dp < 0) (h3 : ¬ k < 0) (h4 : sp.toNatClampNeg + k.toNatClampNeg ≤ n0) (h5 : dp.toNatClampNeg + k.toNatClampNeg ≤ n1) (hfit : ∀ z, fits ty (mk z) = true) (hdec : ∀ z : α, ∀ q, mk z ≠ .ref q)
    (hframes : 1 ≤ R.frames) (hlocals : (rest.map fun v => v.category).sum + (nativeFrameWords "java/lang/System" "arraycopy" 5 + 11) ≤ R.locals) (hdg : decode cc pc = .ok (.invokestatic index, 3))
    (kk : ∀ (H1 : Heap) (locs : List Loc), H1[rho G b]? = some (arrV cI n1 (fun j => mk (va_cpy g h sp.toNatClampNeg dp.toNatClampNeg k.toNatClampNeg j))) → H1.size = H.size → (∀ q, q ≠ rho G b → H1[q]? = H[q]?) → va_S (WA G) H0 H1 locs → W p l e R s m args below meth c H1 locs cells slots Q (F0 m (pc + 3) ls rest)) : W p l e R s m args below meth c H locs cells slots Q (F0 m pc ls (.int k :: .int dp :: .ref (rho G b) :: .int sp :: .ref (rho G a) :: rest)) := by
  intro T hT2 X
  obtain ⟨-, k0, hk0, cm0, hkk0⟩ := hAr n0 (fun j => mk (g j))
  obtain ⟨-, k1, hk1, cm1, hkk1⟩ := hAr n1 (fun j => mk (h j))
  obtain ⟨vm', X', step⟩ := X.arraycopy hx hown (hT _ hlink) (hT _ cp_nat) (hT _ cp_stt) (hT _ cp_ini) (src := rho G a) (dst := rho G b) (cs := arrV cI n0 (fun j => mk (g j))) (cd := arrV cI n1 (fun j => mk (h j))) (srcPos := sp) (destPos := dp) (n := k) (by rw [hT2]; exact hc0) (by rw [hT2]; exact hc1)
    (fun _ h => by cases h) (fun _ h => by cases h) (fun h => by cases h) (fun h => by cases h) hk0 hk1 hkk0 hkk1 (by simp [hprim]) h1 h2 h3
    (by rw [nn32 sp h1, nn32 k h3, arrV_size]; omega)
    (by rw [nn32 dp h2, nn32 k h3, arrV_size]; omega)
    (fun vm₁ _ i hi => by
      have e : (arrV cI n0 (fun j => mk (g j))).slots.getD (sp.toNatClampNeg + i) .null = mk (g (sp.toNatClampNeg + i)) := by
        rw [Array.getD_eq_getD_getElem?, arrV_read _ _ (by omega)]
        rfl
      refine ⟨?_, ?_⟩
      · rw [e]
        exact hfit _
      · rw [e]
        have hq := hdec (g (sp.toNatClampNeg + i))
        generalize mk (g (sp.toNatClampNeg + i)) = v at hq
        cases v <;> first | trivial | exact absurd rfl (hq _))
    (g := F0 m pc ls (.int k :: .int dp :: .ref (rho G b) :: .int sp :: .ref (rho G a) :: rest)) rfl (by rw [hml]) (rest := rest) rfl (by rw [hb]; exact hdg) hframes (by show 2 * 0 + _ + _ ≤ _; omega)
  have e1 : copied (arrV cI n0 (fun j => mk (g j))) (arrV cI n1 (fun j => mk (h j))) sp dp k = arrV cI n1 (fun j => mk (va_cpy g h sp.toNatClampNeg dp.toNatClampNeg k.toNatClampNeg j)) := va_copied mk cI cI g h h4
  rw [e1] at X' step
  have hl : rho G b < H.size := (Array.getElem?_eq_some_iff.mp hc1).1
  obtain ⟨Y, hY⟩ : ∃ y, y = arrV cI n1 (fun j => mk (va_cpy g h sp.toNatClampNeg dp.toNatClampNeg k.toNatClampNeg j)) := ⟨_, rfl⟩
  rw [← hY] at X' step
  have hheap : ((T.setVm vm').setCell (rho G b) Y).heap = H.setIfInBounds (rho G b) Y := by rw [← hT2]; rfl
  have oq : ∀ q : Nat, q ≠ rho G b → (H.setIfInBounds (rho G b) Y)[q]? = H[q]? := fun q hq => by simp [Array.getElem?_setIfInBounds, Ne.symm hq]
  obtain ⟨t, a1, b1⟩ := kk _ _ (show (H.setIfInBounds (rho G b) Y)[rho G b]? = some _ by rw [← hY]; simp [Array.getElem?_setIfInBounds, hl]) (by simp) oq ⟨by simp; exact hS.1, fun q g1 g2 => by
      rw [oq q (fun e => g2 (by rw [e]; exact rho_WA hb100))]
      exact hS.2.1 q g1 g2, fun q hq => by
      rcases List.mem_append.mp hq with h | h
      · exact hS.2.2 q h
      · obtain ⟨z, -, hz⟩ := List.mem_map.mp h
        rw [← hz]
        exact rho_WA hb100⟩ _ hheap X'
  exact ⟨t, step t a1, b1⟩
theorem s_copyI {own : String} {index : Nat} (hx : p.tables.exec = Jvm.exec) (hb : c.code = cc) (hml : c.maxLocals = ls.size) (hT : ∀ w ∈ TB, w.before args s = true) (hown : s.vm.findClass own = some m.cls) (hlink : Cond.methodLink own index arraycopyName ∈ TB) (hK : Kx G s) (hW : Wd G f n H) (hS : va_S (WA G) H0 H locs) {t : Nat} {a b : Option Nat} {sp dp k : Int32} {f' : Hp} (hE : cpI f t a sp b dp k = some f')
    (hframes : 1 ≤ R.frames) (hlocals : (rest.map fun v => v.category).sum + (nativeFrameWords "java/lang/System" "arraycopy" 5 + 11) ≤ R.locals) (hdg : decode cc pc = .ok (.invokestatic index, 3))
    (kk : ∀ (H : Heap) (locs : List Loc), Wd G f' n H → va_S (WA G) H0 H locs → W p l e R s m args below meth c H locs cells slots Q (F0 m (pc + 3) ls rest)) : W p l e R s m args below meth c H locs cells slots Q (F0 m pc ls (.int k :: .int dp :: rr G b :: .int sp :: rr G a :: rest)) := by
  unfold cpI at hE
  split at hE
  · rename_i n0 g n1 h e1 e2
    split at hE
    · rename_i hc
      obtain ⟨rfl, h1, h2, h3, h4, h5, ha, hbb⟩ := hc
      cases hE
      obtain ⟨a1, rfl, q1⟩ := aI_of e1
      obtain ⟨b1, rfl, q2⟩ := aI_of e2
      refine s_copyG (fun z => Value.int z) (a := a1) (b := b1) (ty := .int) hx hb hml hT hown hlink hS hbb rfl (hK.1.2 1 _ (tysG_at G (by decide))).1 (hW.dyn ha q1) (hW.dyn hbb q2) h1 h2 h3 h4 h5 (fun _ => rfl) (fun _ _ h => by cases h) hframes hlocals hdg (fun H1 locs1 e3 e4 e5 hS1 => kk H1 locs1 (hW.set hbb _ ?_ e5 e4) hS1)
      show H1[rho G b1]? = some (vp_cell (G.2.2.1 1) (trq G (n1, .inl _)))
      rw [cell_trc, e3]
      rfl
    · cases hE
  · cases hE
theorem s_copyJ {own : String} {index : Nat} (hx : p.tables.exec = Jvm.exec) (hb : c.code = cc) (hml : c.maxLocals = ls.size) (hT : ∀ w ∈ TB, w.before args s = true) (hown : s.vm.findClass own = some m.cls) (hlink : Cond.methodLink own index arraycopyName ∈ TB) (hK : Kx G s) (hW : Wd G f n H) (hS : va_S (WA G) H0 H locs) {a b : Option Nat} {sp dp k : Int32} {f' : Hp} (hE : cpJ f a sp b dp k = some f')
    (hframes : 1 ≤ R.frames) (hlocals : (rest.map fun v => v.category).sum + (nativeFrameWords "java/lang/System" "arraycopy" 5 + 11) ≤ R.locals) (hdg : decode cc pc = .ok (.invokestatic index, 3))
    (kk : ∀ (H : Heap) (locs : List Loc), Wd G f' n H → va_S (WA G) H0 H locs → W p l e R s m args below meth c H locs cells slots Q (F0 m (pc + 3) ls rest)) : W p l e R s m args below meth c H locs cells slots Q (F0 m pc ls (.int k :: .int dp :: rr G b :: .int sp :: rr G a :: rest)) := by
  unfold cpJ at hE
  split at hE
  · rename_i n0 g n1 h e1 e2
    split at hE
    · rename_i hc
      obtain ⟨h1, h2, h3, h4, h5, ha, hbb⟩ := hc
      cases hE
      obtain ⟨a1, rfl, q1⟩ := aJ_of e1
      obtain ⟨b1, rfl, q2⟩ := aJ_of e2
      refine s_copyG (fun z => Value.long z) (a := a1) (b := b1) (ty := .long) hx hb hml hT hown hlink hS hbb rfl (hK.1.2 2 _ (tysG_at G (by decide))).1 (hW.dyn ha q1) (hW.dyn hbb q2) h1 h2 h3 h4 h5 (fun _ => rfl) (fun _ _ h => by cases h) hframes hlocals hdg (fun H1 locs1 e3 e4 e5 hS1 => kk H1 locs1 (hW.set hbb _ ?_ e5 e4) hS1)
      show H1[rho G b1]? = some (vp_cell (G.2.2.1 2) (trq G (n1, .inr (.inl _))))
      rw [cell_trc, e3]
      rfl
    · cases hE
  · cases hE
/-! a constant's place in its order: a method of the JDK's -/
theorem od_link : Cond.fieldLink RJx29ce0 7 "java/lang/Enum" "ordinal" "I" ∈ TB := TB_t 1751 (by decide +kernel) rfl
theorem od_code : Cond.code yJx29ce0_ordinal_8abf5 cJx29ce0_ordinal_8abf5 1 (some .int) ∈ TB := TB_t 442 (by decide +kernel) rfl
theorem od_same : Cond.sameMethod "CopyOrders$Word" "java/lang/Enum" "ordinal" "()I" ∈ TB := TB_t 438 (by decide +kernel) rfl
theorem od_sel : Cond.selects "CopyOrders$Word" ⟨"CopyOrders$Word", "ordinal", "()I"⟩ yJx29ce0_ordinal_8abf5 ∈ TB := TB_t 440 (by decide +kernel) rfl
theorem od_im : Cond.instanceMethod yJx29ce0_ordinal_8abf5 ∈ TB := TB_t 441 (by decide +kernel) rfl
theorem od_ini : Cond.initialized "java/lang/Enum" ∈ TB := TB_t 4 (by decide +kernel) rfl
theorem S_ordinal (l : Launch) (G : GG) {i : Nat} (hi : i < 21) {f : Hp} {n : Nat} : Ctr l G yJx29ce0_ordinal_8abf5 cJx29ce0_ordinal_8abf5 1 (some .int) 0 0 [rr G (some i)] f n (some (.int (nI i))) f n 0 0 := by
  refine Met.ofW (cc := cJx29ce0_ordinal_8abf5) (maxL := 1) (ret := (some .int)) (by decide) rfl ?_
  intro p e s m args below meth c s₁ B hml hv
  obtain ⟨rfl, hK, hW⟩ := hv
  have hx := B.exec
  have hb := B.bytes
  have hr := B.returns
  have hts := atoms_spec (ws := wsO yJx29ce0_ordinal_8abf5 cJx29ce0_ordinal_8abf5 1 (some .int)) B.pre
  have hT : ∀ w ∈ TB, w.before [rr G (some i)].toArray s = true := fun w hw => hts w (List.mem_cons_of_mem _ hw)
  have hown : s.vm.findClass RJx29ce0 = some m.cls := findClass_of_methodNamed B.named
  have hlocks := B.notSynchronized
  have hS : va_S (WA G) s.heap s.heap [] := va_S.rf
  have hl : lv_has (lg_sl ([rr G (some i)]) ++ List.replicate (1 - (lg_sl ([rr G (some i)])).length) Slot.unset).toArray 1 [(0, rr G (some i))] := lv_entry [rr G (some i)] (Nat.le_of_ble_eq_true rfl)
  rw [lg_entry_eq]
  generalize (lg_sl ([rr G (some i)]) ++ List.replicate (1 - (lg_sl ([rr G (some i)])).length) Slot.unset).toArray = ls at hl ⊢
  refine s_aload_n hx hb dJx29ce0_ordinal_8abf5_0 rfl (lv_at hl 0 rfl) ?_
  show W p l e _ s m _ below meth c _ _ _ _ _ (F0 m 1 ls [.ref (rho G i)])
  rw [rho_lt (by omega)]
  refine va_getX hx hb hK.2.2.1.2.2.1 hi hS hown (hT _ od_link) (fun _ h => h) dJx29ce0_ordinal_8abf5_1 ?_
  exact s_iret hx hb hr hlocks hW hS dJx29ce0_ordinal_8abf5_4
theorem s_ord {own : String} {index nL : Nat} (S : CallFix p m c cc nL s args TB own) (hK : Kx G s) (hW : Wd G f n H) (hS : va_S (WA G) s.heap H locs) {r : Option Nat} {i : Nat} (hE : enI r = some i) (hlink : Cond.methodLink own index ⟨"CopyOrders$Word", "ordinal", "()I"⟩ ∈ TB) (hR : 0 + 1 ≤ R.frames ∧ 8 + (1 + 11) + 0 ≤ R.locals) (hsize : ls.size = nL) (hrm : rest.length ≤ 4) (hdg : decode cc pc = .ok (.invokevirtual index, 3)) (hf : cells + 0 ≤ R.cells ∧ slots + 0 ≤ R.slots)
    (kk : ∀ (H : Heap) (locs : List Loc), Wd G f n H → va_S (WA G) s.heap H locs → W p l e R s m args below meth c H locs cells slots Q (F0 m (pc + 3) ls (.int (nI i) :: rest))) : W p l e R s m args below meth c H locs cells slots Q (F0 m pc ls (rr G r :: rest)) := by
  obtain ⟨rfl, hi⟩ := enI_of hE
  have hp := s_pre (G := G) hK hW hS [rr G (some i)]
  have hG : GoodIn TB (va_wsU own index "CopyOrders$Word" "java/lang/Enum" ⟨"CopyOrders$Word", "ordinal", "()I"⟩ yJx29ce0_ordinal_8abf5 (wsO yJx29ce0_ordinal_8abf5 cJx29ce0_ordinal_8abf5 1 (some .int))) := by
    refine gApp (fun w hw => ?_) (gO od_code)
    rcases List.mem_cons.mp hw with e | hw
    · rw [e]; exact hlink
    rcases List.mem_cons.mp hw with e | hw
    · rw [e]; exact od_same
    rcases List.mem_cons.mp hw with e | hw
    · rw [e]; exact od_sel
    rcases List.mem_cons.mp hw with e | hw
    · rw [e]; exact od_im
    · rw [List.mem_singleton.mp hw]; exact od_ini
  obtain ⟨cell, g1, g2, g3, g4⟩ := hK.2.2.1.2.1 i hi
  have g1' : H[rho G i]? = some cell := by rw [rho_lt (by omega), hS.2.1 _ (Array.getElem?_eq_some_iff.mp g1).1 g4]; exact g1
  exact s_run (mc := 0) (ms := 0) hS _ (va_runU (C := "CopyOrders$Word") (b := rho G i) (As := []) (rest := rest) S (S_ordinal l G hi) (va_cwU 0 S.2.2.2.2 hG rfl rfl rfl rfl (by decide +kernel) hR) ⟨hp.1, ⟨cell, g1', g2, g3⟩, hp.2⟩ rfl rfl hsize rfl (s_room hrm) hdg hf) kk
end ROWS5
