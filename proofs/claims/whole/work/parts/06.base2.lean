theorem cat_rr (G : GG) (r : Option Nat) : (rr G r).category = 1 := by cases r <;> rfl
theorem rr_or (G : GG) (r : Option Nat) : rr G r = .null ∨ ∃ a, rr G r = .ref a := by
  cases r with
  | none => exact Or.inl rfl
  | some a => exact Or.inr ⟨_, rfl⟩
theorem trv_rf (G : GG) (r : Option Nat) : trv G (va_rf r) = rr G r := by cases r <;> rfl
def avV (G : GG) (x : (Nat → Int32) ⊕ (Nat → Int64) ⊕ (Nat → UInt32) ⊕ (Nat → UInt64) ⊕ (Nat → Option Nat)) (j : Nat) : Value := match x with
  | .inl g => .int (g j)
  | .inr (.inl g) => .long (g j)
  | .inr (.inr (.inl g)) => .float (g j)
  | .inr (.inr (.inr (.inl g))) => .double (g j)
  | .inr (.inr (.inr (.inr g))) => rr G (g j)
theorem tysG_at (G : GG) {t : Nat} (ht : t < 9) : (tysG G)[t]? = some (G.2.2.1 t, knd t) := by
  match t, ht with
  | 0, _ => rfl
  | 1, _ => rfl
  | 2, _ => rfl
  | 3, _ => rfl
  | 4, _ => rfl
  | 5, _ => rfl
  | 6, _ => rfl
  | 7, _ => rfl
  | 8, _ => rfl
theorem cell_trc (G : GG) (t n : Nat) (x : (Nat → Int32) ⊕ (Nat → Int64) ⊕ (Nat → UInt32) ⊕ (Nat → UInt64) ⊕ (Nat → Option Nat)) : vp_cell (G.2.2.1 t) (trq G (n, x)) = arrV (G.2.2.1 t) n (avV G x) := by
  rcases x with g | g | g | g | g <;> rfl
section SROWS
variable {p : Program} {l : Launch} {e : Env} {R : Room} {s : State} {m : MethodId} {args : Array Value} {below : List Frame} {meth : Method} {c : Code} {H : Heap} {locs : List Loc} {cells slots : Nat} {Q : State → Prop}
variable {cc : ByteArray} {pc : Nat} {ls : Array Slot} {rest : List Value} {G : GG} {f : Hp} {n : Nat} {H0 : Heap}
theorem view_arr (hK : Kx G s) (hW : Wd G f n H) (hS : va_S (WA G) s.heap H locs) {a t k : Nat} {x : (Nat → Int32) ⊕ (Nat → Int64) ⊕ (Nat → UInt32) ⊕ (Nat → UInt64) ⊕ (Nat → Option Nat)} (ha : f a = some (.inr (t, k, x))) (ht : t < 9) : ∃ cell : Cell, H[rho G a]? = some cell ∧ s.isArrayOf cell (knd t) ∧ cell.vm ≠ .unknown ∧ cell.slots.size.toInt32 = Int32.ofNat k ∧ k ≤ cell.slots.size ∧ ∀ j, j < k → cell.slots[j]? = some (avV G x j) := by
  rcases Nat.lt_or_ge a 100 with q | q
  · rw [hW.2.1 a q] at ha
    obtain ⟨-, -, ⟨-, -, -, -, -, -, -, -, -, h30, h31, h32, h33⟩, -, -⟩ := hK
    unfold stat at ha
    have key : ∀ {ty : FieldType} {N : Nat} {g : Nat → Value}, va_T ty (G.2.2.2 a) N g (WA G) s s.heap → ty = knd t → N = k → (∀ j, j < k → g j = avV G x j) → ∃ cell : Cell, H[rho G a]? = some cell ∧ s.isArrayOf cell (knd t) ∧ cell.vm ≠ .unknown ∧ cell.slots.size.toInt32 = Int32.ofNat k ∧ k ≤ cell.slots.size ∧ ∀ j, j < k → cell.slots[j]? = some (avV G x j) := by
      intro ty N g hT h1 h2 h3
      obtain ⟨cell, t1, t2, t3, t4, t5, t6, t7⟩ := hT
      subst h1; subst h2
      refine ⟨cell, ?_, t2, t3, t5, t4, fun j hj => by rw [t6 j hj, h3 j hj]⟩
      rw [rho_lt q, hS.2.1 _ (Array.getElem?_eq_some_iff.mp t1).1 t7]
      exact t1
    split at ha
    · rename_i e0; subst e0; cases ha
      exact key h30 rfl rfl (fun j _ => rfl)
    split at ha
    · rename_i e0; subst e0; cases ha
      exact key h31 rfl rfl (fun j _ => rfl)
    split at ha
    · rename_i e0; subst e0; cases ha
      refine key h32 rfl rfl (fun j hj => ?_)
      show Value.ref (G.2.2.2 j) = Value.ref (rho G j)
      rw [rho_lt (by omega)]
    split at ha
    · rename_i e0; subst e0; cases ha
      exact key h33 rfl rfl (fun j _ => rfl)
    · cases ha
  · have h1 := hW.1 a _ q ha
    have h2 : H[rho G a]? = some (vp_cell (G.2.2.1 t) (trq G (k, x))) := h1
    rw [cell_trc] at h2
    refine ⟨_, h2, (hK.1.2 t _ (tysG_at G ht)).1 k _, (fun h => by cases h), by rw [arrV_size], Nat.le_of_eq (arrV_size _ _ _).symm, fun j hj => arrV_read _ _ hj⟩
theorem vin {i : Int32} {k z : Nat} (h : vp_in i k) (hz : k ≤ z) : ¬ (i < 0 ∨ z ≤ i.toNatClampNeg) := fun q => q.elim (fun q => h (Or.inl q)) (fun q => h (Or.inr (Nat.le_trans hz q)))
theorem vin_lt {i : Int32} {k : Nat} (h : vp_in i k) : i.toNatClampNeg < k := Nat.not_le.mp fun q => h (Or.inr q)
theorem s_ldI (hx : p.tables.exec = Jvm.exec) (hb : c.code = cc) (hK : Kx G s) (hW : Wd G f n H) (hS : va_S (WA G) s.heap H locs) {r : Option Nat} {i x : Int32} (hE : ldI f 1 r i = some x) (hdg : decode cc pc = .ok (.iaload, 1))
    (kk : W p l e R s m args below meth c H locs cells slots Q (F0 m (pc + 1) ls (.int x :: rest))) : W p l e R s m args below meth c H locs cells slots Q (F0 m pc ls (.int i :: rr G r :: rest)) := by
  obtain ⟨a, k, g, rfl, h2, h3, rfl⟩ := ldI_of hE
  obtain ⟨cell, c1, c2, c3, c4, c5, c6⟩ := view_arr hK hW hS h2 (by decide)
  exact W.iald hx hb c1 c2 c3 (vin h3 c5) (c6 _ (vin_lt h3)) rfl rfl hdg kk
theorem s_ldB (hx : p.tables.exec = Jvm.exec) (hb : c.code = cc) (hK : Kx G s) (hW : Wd G f n H) (hS : va_S (WA G) s.heap H locs) {r : Option Nat} {i x : Int32} (hE : ldI f 0 r i = some x) (hdg : decode cc pc = .ok (.baload, 1))
    (kk : W p l e R s m args below meth c H locs cells slots Q (F0 m (pc + 1) ls (.int x :: rest))) : W p l e R s m args below meth c H locs cells slots Q (F0 m pc ls (.int i :: rr G r :: rest)) := by
  obtain ⟨a, k, g, rfl, h2, h3, rfl⟩ := ldI_of hE
  obtain ⟨cell, c1, c2, c3, c4, c5, c6⟩ := view_arr hK hW hS h2 (by decide)
  exact W.bald hx hb c1 c2 c3 (vin h3 c5) (c6 _ (vin_lt h3)) rfl rfl hdg kk
theorem s_ldZ (hx : p.tables.exec = Jvm.exec) (hb : c.code = cc) (hK : Kx G s) (hW : Wd G f n H) (hS : va_S (WA G) s.heap H locs) {r : Option Nat} {i x : Int32} (hE : ldI f 3 r i = some x) (hdg : decode cc pc = .ok (.baload, 1))
    (kk : W p l e R s m args below meth c H locs cells slots Q (F0 m (pc + 1) ls (.int x :: rest))) : W p l e R s m args below meth c H locs cells slots Q (F0 m pc ls (.int i :: rr G r :: rest)) := by
  obtain ⟨a, k, g, rfl, h2, h3, rfl⟩ := ldI_of hE
  obtain ⟨cell, c1, c2, c3, c4, c5, c6⟩ := view_arr hK hW hS h2 (by decide)
  exact W.zald hx hb c1 c2 c3 (vin h3 c5) (c6 _ (vin_lt h3)) rfl rfl hdg kk
theorem s_ldJ (hx : p.tables.exec = Jvm.exec) (hb : c.code = cc) (hK : Kx G s) (hW : Wd G f n H) (hS : va_S (WA G) s.heap H locs) {r : Option Nat} {i : Int32} {x : Int64} (hE : ldJ f r i = some x) (hdg : decode cc pc = .ok (.laload, 1))
    (kk : W p l e R s m args below meth c H locs cells slots Q (F0 m (pc + 1) ls (.long x :: rest))) : W p l e R s m args below meth c H locs cells slots Q (F0 m pc ls (.int i :: rr G r :: rest)) := by
  obtain ⟨a, k, g, rfl, h2, h3, rfl⟩ := ldJ_of hE
  obtain ⟨cell, c1, c2, c3, c4, c5, c6⟩ := view_arr hK hW hS h2 (by decide)
  exact W.lald hx hb c1 c2 c3 (vin h3 c5) (c6 _ (vin_lt h3)) rfl rfl hdg kk
theorem s_ldR (hx : p.tables.exec = Jvm.exec) (hb : c.code = cc) (hK : Kx G s) (hW : Wd G f n H) (hS : va_S (WA G) s.heap H locs) {t : Nat} {r x : Option Nat} {i : Int32} (hE : ldR f t r i = some x) (ht : t < 9) (hr : (knd t).isReference = true) (hdg : decode cc pc = .ok (.aaload, 1))
    (kk : W p l e R s m args below meth c H locs cells slots Q (F0 m (pc + 1) ls (rr G x :: rest))) : W p l e R s m args below meth c H locs cells slots Q (F0 m pc ls (.int i :: rr G r :: rest)) := by
  obtain ⟨a, k, g, rfl, h2, h3, rfl⟩ := ldR_of hE
  obtain ⟨cell, c1, c2, c3, c4, c5, c6⟩ := view_arr hK hW hS h2 ht
  exact W.aald hx hb c1 c2 hr c3 (vin h3 c5) (c6 _ (vin_lt h3)) rfl rfl hdg kk
theorem s_alen (hx : p.tables.exec = Jvm.exec) (hb : c.code = cc) (hK : Kx G s) (hW : Wd G f n H) (hS : va_S (WA G) s.heap H locs) {t : Nat} {r : Option Nat} {x : Int32} (hE : alen f t r = some x) (hdg : decode cc pc = .ok (.arraylength, 1))
    (kk : W p l e R s m args below meth c H locs cells slots Q (F0 m (pc + 1) ls (.int x :: rest))) : W p l e R s m args below meth c H locs cells slots Q (F0 m pc ls (rr G r :: rest)) := by
  obtain ⟨a, k, g, rfl, h2, h3, rfl⟩ := alen_of hE
  obtain ⟨cell, c1, c2, c3, c4, c5, c6⟩ := view_arr hK hW hS h2 h3
  exact W.alen hx hb c1 c2 c4 rfl rfl hdg kk
theorem Wd.dyn {a t k : Nat} {x : (Nat → Int32) ⊕ (Nat → Int64) ⊕ (Nat → UInt32) ⊕ (Nat → UInt64) ⊕ (Nat → Option Nat)} (hW : Wd G f n H) (q : 100 ≤ a) (ha : f a = some (.inr (t, k, x))) : H[rho G a]? = some (arrV (G.2.2.1 t) k (avV G x)) := by
  have h2 : H[rho G a]? = some (vp_cell (G.2.2.1 t) (trq G (k, x))) := hW.1 a _ q ha
  rw [cell_trc] at h2
  exact h2
theorem s_stI (hx : p.tables.exec = Jvm.exec) (hb : c.code = cc) (hK : Kx G s) (hW : Wd G f n H) (hS : va_S (WA G) H0 H locs) {r : Option Nat} {i x : Int32} {f' : Hp} (hE : stI f 1 r i x = some f') (hdg : decode cc pc = .ok (.iastore, 1))
    (kk : ∀ (H : Heap) (locs : List Loc), Wd G f' n H → va_S (WA G) H0 H locs → W p l e R s m args below meth c H locs cells slots Q (F0 m (pc + 1) ls rest)) : W p l e R s m args below meth c H locs cells slots Q (F0 m pc ls (.int x :: .int i :: rr G r :: rest)) := by
  obtain ⟨a, k, g, rfl, h2, h3, h4, rfl⟩ := stI_of hE
  refine W.iast hx hb (hW.dyn h4 h2) ((hK.1.2 1 _ (tysG_at G (by decide))).1 k _) (fun q => by cases q) (by rw [arrV_size]; exact h3) rfl rfl hdg fun H1 e1 z1 o1 => ?_
  refine kk H1 _ (hW.set h4 _ ?_ o1 z1) (hS.put z1 o1 (rho_WA h4))
  show H1[rho G a]? = some (vp_cell (G.2.2.1 1) (trq G (k, .inl _)))
  rw [cell_trc, e1, arrV_store]
  congr 2
  funext q
  by_cases hq : q = i.toNatClampNeg
  · subst hq
    simp [updV, upd, avV, knd, vp_nar, narrow]
  · simp [updV, upd, avV, hq]
theorem s_stB (hx : p.tables.exec = Jvm.exec) (hb : c.code = cc) (hK : Kx G s) (hW : Wd G f n H) (hS : va_S (WA G) H0 H locs) {r : Option Nat} {i x : Int32} {f' : Hp} (hE : stI f 0 r i x = some f') (hdg : decode cc pc = .ok (.bastore, 1))
    (kk : ∀ (H : Heap) (locs : List Loc), Wd G f' n H → va_S (WA G) H0 H locs → W p l e R s m args below meth c H locs cells slots Q (F0 m (pc + 1) ls rest)) : W p l e R s m args below meth c H locs cells slots Q (F0 m pc ls (.int x :: .int i :: rr G r :: rest)) := by
  obtain ⟨a, k, g, rfl, h2, h3, h4, rfl⟩ := stI_of hE
  refine W.bast hx hb (hW.dyn h4 h2) ((hK.1.2 0 _ (tysG_at G (by decide))).1 k _) (fun q => by cases q) (by rw [arrV_size]; exact h3) rfl rfl hdg fun H1 e1 z1 o1 => ?_
  refine kk H1 _ (hW.set h4 _ ?_ o1 z1) (hS.put z1 o1 (rho_WA h4))
  show H1[rho G a]? = some (vp_cell (G.2.2.1 0) (trq G (k, .inl _)))
  rw [cell_trc, e1, arrV_store]
  congr 2
  funext q
  by_cases hq : q = i.toNatClampNeg
  · subst hq
    simp [updV, upd, avV, knd, vp_nar, narrow]
  · simp [updV, upd, avV, hq]
theorem s_stZ (hx : p.tables.exec = Jvm.exec) (hb : c.code = cc) (hK : Kx G s) (hW : Wd G f n H) (hS : va_S (WA G) H0 H locs) {r : Option Nat} {i x : Int32} {f' : Hp} (hE : stI f 3 r i x = some f') (hdg : decode cc pc = .ok (.bastore, 1))
    (kk : ∀ (H : Heap) (locs : List Loc), Wd G f' n H → va_S (WA G) H0 H locs → W p l e R s m args below meth c H locs cells slots Q (F0 m (pc + 1) ls rest)) : W p l e R s m args below meth c H locs cells slots Q (F0 m pc ls (.int x :: .int i :: rr G r :: rest)) := by
  obtain ⟨a, k, g, rfl, h2, h3, h4, rfl⟩ := stI_of hE
  refine W.zast hx hb (hW.dyn h4 h2) ((hK.1.2 3 _ (tysG_at G (by decide))).1 k _) (fun q => by cases q) (by rw [arrV_size]; exact h3) rfl rfl hdg fun H1 e1 z1 o1 => ?_
  refine kk H1 _ (hW.set h4 _ ?_ o1 z1) (hS.put z1 o1 (rho_WA h4))
  show H1[rho G a]? = some (vp_cell (G.2.2.1 3) (trq G (k, .inl _)))
  rw [cell_trc, e1, arrV_store]
  congr 2
  funext q
  by_cases hq : q = i.toNatClampNeg
  · subst hq
    simp [updV, upd, avV, knd, vp_nar, narrow]
  · simp [updV, upd, avV, hq]
theorem s_stJ (hx : p.tables.exec = Jvm.exec) (hb : c.code = cc) (hK : Kx G s) (hW : Wd G f n H) (hS : va_S (WA G) H0 H locs) {r : Option Nat} {i : Int32} {x : Int64} {f' : Hp} (hE : stJ f r i x = some f') (hdg : decode cc pc = .ok (.lastore, 1))
    (kk : ∀ (H : Heap) (locs : List Loc), Wd G f' n H → va_S (WA G) H0 H locs → W p l e R s m args below meth c H locs cells slots Q (F0 m (pc + 1) ls rest)) : W p l e R s m args below meth c H locs cells slots Q (F0 m pc ls (.long x :: .int i :: rr G r :: rest)) := by
  obtain ⟨a, k, g, rfl, h2, h3, h4, rfl⟩ := stJ_of hE
  refine W.last hx hb (hW.dyn h4 h2) ((hK.1.2 2 _ (tysG_at G (by decide))).1 k _) (fun q => by cases q) (by rw [arrV_size]; exact h3) rfl rfl hdg fun H1 e1 z1 o1 => ?_
  refine kk H1 _ (hW.set h4 _ ?_ o1 z1) (hS.put z1 o1 (rho_WA h4))
  show H1[rho G a]? = some (vp_cell (G.2.2.1 2) (trq G (k, .inr (.inl _))))
  rw [cell_trc, e1, arrV_store]
  congr 2
  funext q
  by_cases hq : q = i.toNatClampNeg
  · subst hq
    simp [updV, vp_updL, avV]
  · simp [updV, vp_updL, avV, hq]
/-- what may be stored lies there, and is of the array's class -/
theorem okR_any (hK : Kx G s) (hW : Wd G f n H) (hS : va_S (WA G) s.heap H locs) {t : Nat} {x : Option Nat} {E : String} (ht : knd t = .object E) (h : okR f t x = true) : ∃ b, x = some b ∧ va_Any E s H (rho G b) := by
  unfold okR at h
  split at h
  · rename_i b
    refine ⟨b, rfl, ?_⟩
    split at h
    · rename_i e8
      subst e8
      have hb : b < 21 := of_decide_eq_true h
      cases ht
      obtain ⟨cell, g1, g2, g3, g4⟩ := hK.2.2.1.2.1 b hb
      rw [rho_lt (by omega)]
      have g1' : H[G.2.2.2 b]? = some cell := by rw [hS.2.1 _ (Array.getElem?_eq_some_iff.mp g1).1 g4]; exact g1
      obtain ⟨kC, hkC, -⟩ := Vm.findClass_spec g3
      refine ⟨cell, g1', g2, ⟨kC, hkC⟩, fun comp hcomp => ?_⟩
      have : comp = cell.cls := Option.some.inj (hcomp.symm.trans g3)
      subst this
      exact va_asg _ _
    · split at h
      · rename_i ci fs e1
        have h1 := of_decide_eq_true h
        cases hc : vwCl[ci]? with
        | none => rw [hc] at h1; cases h1
        | some q =>
          rw [hc, ht] at h1
          cases h1
          have h100 := hW.obj e1
          refine va_rAny (q0 := 0) hK.1 (hW.one h100 e1) rfl hc (fun comp c0 g1 g2 => ?_)
          have : comp = c0 := Option.some.inj (g1.symm.trans g2)
          subst this
          exact va_asg _ _
      · cases h
  · cases h
theorem s_stR (hx : p.tables.exec = Jvm.exec) (hb : c.code = cc) (hK : Kx G s) (hW : Wd G f n H) (hS0 : va_S (WA G) s.heap H locs) {t : Nat} {E : String} (ht : t < 9) (htE : knd t = .object E) {r x : Option Nat} {i : Int32} {f' : Hp} (hE : stR f t r i x = some f') (hdg : decode cc pc = .ok (.aastore, 1))
    (kk : ∀ (H : Heap) (locs : List Loc), Wd G f' n H → va_S (WA G) s.heap H locs → W p l e R s m args below meth c H locs cells slots Q (F0 m (pc + 1) ls rest)) : W p l e R s m args below meth c H locs cells slots Q (F0 m pc ls (rr G x :: .int i :: rr G r :: rest)) := by
  obtain ⟨a, k, g, rfl, h2, h3, h4, h5, rfl⟩ := stR_of hE
  obtain ⟨b, rfl, cellV, g1, g3, ⟨kC, hkC⟩, hasg⟩ := okR_any hK hW hS0 htE h5
  have hK2 := hK.1.2 t _ (tysG_at G ht)
  rw [htE] at hK2
  obtain ⟨kA, comp, k1, k2, k3, -⟩ := hK2.2
  obtain ⟨kE, hkE, -⟩ := Vm.findClass_spec k3
  refine W.aast hx hb (hW.dyn h4 h2) (fun q h => by cases h) (fun h => by cases h) k1 k2 rfl hkE ⟨fun q => h3 (Or.inl q), by rw [arrV_size]; exact vin_lt h3⟩ g1 (fun q h => by rw [h] at g3; cases g3) hkC (hasg _ k3) rfl rfl hdg fun H1 e1 z1 o1 => ?_
  refine kk H1 _ (hW.set h4 _ ?_ o1 z1) (hS0.put z1 o1 (rho_WA h4))
  show H1[rho G a]? = some (vp_cell (G.2.2.1 t) (trq G (k, .inr (.inr (.inr (.inr _))))))
  rw [cell_trc, e1, arrV_store]
  congr 2
  funext q
  by_cases hq : q = i.toNatClampNeg
  · subst hq
    simp [updV, va_up, avV, va_re, va_rf]
  · simp [updV, va_up, avV, hq]
theorem s_getV (hx : p.tables.exec = Jvm.exec) (hb : c.code = cc) {own ref C : String} {T : u_T} {N ci index : Nat} (hT : ∀ w ∈ TB, w.before args s = true) (hin : ∀ w ∈ u_ws C T N, w ∈ TB) (hown : s.vm.findClass own = some m.cls) (hK : Kx G s) (hW : Wd G f n H) {a : Nat} {fs : List Value} (he : f a = some (.inl (ci, fs))) (hc : vwCl[ci]? = some (C, T, N)) (k : Nat) (hk : k < N) (hlink : Cond.fieldLink own index ref (T k).2.1 (T k).2.2.1 ∈ TB) (href : (T k).1 = ref) {v : Value} (hv : fs[k]? = some v) (hdg : decode cc pc = .ok (.getfield index, 3))
    (kk : W p l e R s m args below meth c H locs cells slots Q (F0 m (pc + 3) ls (trv G v :: rest))) : W p l e R s m args below meth c H locs cells slots Q (F0 m pc ls (.ref (rho G a) :: rest)) := by
  refine va_get (fs := fs.map (trv G)) hx hb hT hin hown hK.1 (hW.one (hW.obj he) he) 0 rfl hc k hk (hT _ hlink) (fun x hx => by rw [← href]; exact hx) ?_ hdg kk
  rw [List.getElem?_map, hv]
  rfl
theorem s_gI (hx : p.tables.exec = Jvm.exec) (hb : c.code = cc) {own ref C : String} {T : u_T} {N ci index : Nat} (hT : ∀ w ∈ TB, w.before args s = true) (hin : ∀ w ∈ u_ws C T N, w ∈ TB) (hown : s.vm.findClass own = some m.cls) (hK : Kx G s) (hW : Wd G f n H) {r : Option Nat} {k : Nat} {x : Int32} (hE : gI f r ci k = some x) (hc : vwCl[ci]? = some (C, T, N)) (hk : k < N) (hlink : Cond.fieldLink own index ref (T k).2.1 (T k).2.2.1 ∈ TB) (href : (T k).1 = ref) (hdg : decode cc pc = .ok (.getfield index, 3))
    (kk : W p l e R s m args below meth c H locs cells slots Q (F0 m (pc + 3) ls (.int x :: rest))) : W p l e R s m args below meth c H locs cells slots Q (F0 m pc ls (rr G r :: rest)) := by
  obtain ⟨a, fs, rfl, h1, h2⟩ := gI_of hE
  exact s_getV hx hb hT hin hown hK hW h1 hc k hk hlink href h2 hdg kk
theorem s_gJ (hx : p.tables.exec = Jvm.exec) (hb : c.code = cc) {own ref C : String} {T : u_T} {N ci index : Nat} (hT : ∀ w ∈ TB, w.before args s = true) (hin : ∀ w ∈ u_ws C T N, w ∈ TB) (hown : s.vm.findClass own = some m.cls) (hK : Kx G s) (hW : Wd G f n H) {r : Option Nat} {k : Nat} {x : Int64} (hE : gJ f r ci k = some x) (hc : vwCl[ci]? = some (C, T, N)) (hk : k < N) (hlink : Cond.fieldLink own index ref (T k).2.1 (T k).2.2.1 ∈ TB) (href : (T k).1 = ref) (hdg : decode cc pc = .ok (.getfield index, 3))
    (kk : W p l e R s m args below meth c H locs cells slots Q (F0 m (pc + 3) ls (.long x :: rest))) : W p l e R s m args below meth c H locs cells slots Q (F0 m pc ls (rr G r :: rest)) := by
  obtain ⟨a, fs, rfl, h1, h2⟩ := gJ_of hE
  exact s_getV hx hb hT hin hown hK hW h1 hc k hk hlink href h2 hdg kk
theorem s_gR (hx : p.tables.exec = Jvm.exec) (hb : c.code = cc) {own ref C : String} {T : u_T} {N ci index : Nat} (hT : ∀ w ∈ TB, w.before args s = true) (hin : ∀ w ∈ u_ws C T N, w ∈ TB) (hown : s.vm.findClass own = some m.cls) (hK : Kx G s) (hW : Wd G f n H) {r : Option Nat} {k : Nat} {x : Option Nat} (hE : gR f r ci k = some x) (hc : vwCl[ci]? = some (C, T, N)) (hk : k < N) (hlink : Cond.fieldLink own index ref (T k).2.1 (T k).2.2.1 ∈ TB) (href : (T k).1 = ref) (hdg : decode cc pc = .ok (.getfield index, 3))
    (kk : W p l e R s m args below meth c H locs cells slots Q (F0 m (pc + 3) ls (rr G x :: rest))) : W p l e R s m args below meth c H locs cells slots Q (F0 m pc ls (rr G r :: rest)) := by
  obtain ⟨a, fs, v, rfl, h1, h2, rfl⟩ := gR_of hE
  refine s_getV hx hb hT hin hown hK hW h1 hc k hk hlink href h2 hdg ?_
  rw [trv_rf]
  exact kk
theorem s_putV (hx : p.tables.exec = Jvm.exec) (hb : c.code = cc) {own ref C : String} {T : u_T} {N ci index : Nat} (hT : ∀ w ∈ TB, w.before args s = true) (hin : ∀ w ∈ u_ws C T N, w ∈ TB) (ty0 : Nat → FieldType) (hty : ∀ k, k < N → parseFieldDescriptor (T k).2.2.1 = some (ty0 k)) (hnm : ∀ a, a < N → ∀ b, b < N → a ≠ b → (T a).2.1 ≠ (T b).2.1) (hown : s.vm.findClass own = some m.cls) (hK : Kx G s) (hW : Wd G f n H) (hS : va_S (WA G) H0 H locs) {r : Option Nat} {k : Nat} {v : Value} {f' : Hp} (hE : pV f r ci k v = some f') (hc : vwCl[ci]? = some (C, T, N)) (hk : k < N) (hlink : Cond.fieldLink own index ref (T k).2.1 (T k).2.2.1 ∈ TB) (href : (T k).1 = ref)
    (hfin : (T k).2.2.2 = false ∨ ((T k).2.2.2 = true ∧ meth.name = "<init>" ∧ (T k).1 = own)) {ty : FieldType} (hd : ty0 k = ty) (hn : narrow ty (trv G v) = trv G v) (hfit : fits ty (trv G v) = true) (hdg : decode cc pc = .ok (.putfield index, 3))
    (kk : ∀ (H : Heap) (locs : List Loc), Wd G f' n H → va_S (WA G) H0 H locs → W p l e R s m args below meth c H locs cells slots Q (F0 m (pc + 3) ls rest)) : W p l e R s m args below meth c H locs cells slots Q (F0 m pc ls (trv G v :: rr G r :: rest)) := by
  obtain ⟨a, fs, rfl, he, hl, rfl⟩ := pV_of hE
  have hd : parseFieldDescriptor (T k).2.2.1 = some ty := by rw [← hd]; exact hty k hk
  have h100 := hW.obj he
  have hap := va_apart (own := own) hT hin ty0 hty hnm hK.1 hc
  obtain ⟨r1, h1, cell, q1, q2, q3, q4⟩ := hW.1 a _ h100 he
  have hr : r1 = (C, T, N) := Option.some.inj (h1.symm.trans hc)
  subst hr
  obtain ⟨hSl, hfc, kC, hkC, hkind⟩ := hK.1.1 ci _ hc
  obtain ⟨cf, kf, fi, fd, hi, hsl⟩ := hSl k hk
  have hst := (u_facts hfc hkC (u_lays hT hin hk) hi).1
  have hsame : s.fieldFound? ref (T k).2.1 (T k).2.2.1 = some (cf, kf, fi, fd) := by rw [← href]; exact hi
  have hl' : k < (fs.map (trv G)).length := by rw [List.length_map]; exact hl
  have hlay := hT _ (hin _ (u_in_lay hk))
  unfold u_lay at hlay
  have done : ∀ (H' : Heap), H'[rho G a]? = some (cell.setSlot (G.2.1.2 ci k) (trv G v)) → H'.size = H.size → (∀ q, q ≠ rho G a → H'[q]? = H[q]?) → W p l e R s m args below meth c H' (locs ++ [⟨rho G a, G.2.1.2 ci k⟩]) cells slots Q (F0 m (pc + 3) ls rest) := by
    intro H' e1 e2 e3
    refine kk H' _ (hW.set h100 _ ?_ e3 e2) (hS.put e2 e3 (rho_WA h100))
    refine ⟨_, hc, t_OB.to (V := updV (vp_V (fs.map (trv G))) k (trv G v)) ⟨_, e1, q2, q3, t_set q4 hap hk (trv G v)⟩ (fun j _ => ?_)⟩
    rw [vp_updV_set hl' (trv G v) j, List.map_set]
  rcases hfin with hfin | ⟨hfin, hin2, hdecl⟩
  · rw [if_neg (by rw [hfin]; decide)] at hlay
    have h6 := u_store hfc hkC hkind hlay hi hd hn hfit
    refine W.putK hx hb (f := fd) ⟨hown, hT _ hlink, ⟨_, _, _, hsame⟩, hst⟩ (by rw [q2]; exact h6) q1 q3 (by rw [hsl]; exact k2_hasslot (q4 k hk)) rfl rfl hdg fun H' e1 e2 e3 => ?_
    rw [hsl] at e1 ⊢
    exact done H' e1 e2 e3
  · rw [if_pos hfin] at hlay
    have hcf : m.cls = cf := by
      obtain ⟨_, _, c', _, _, _, -, -, hf', -, -, -, hown2, -⟩ := Cond.laysFinal_spec hlay
      have e1 : c' = cf := by have := hi.symm.trans hf'; simp at this; exact this.1.symm
      rw [hdecl] at hown2
      rw [← e1]; exact Option.some.inj (hown.symm.trans hown2)
    have h6 := u_fits hfc hkC hkind (Or.inr hlay) hi hd hn hfit
    refine W.putFinK hx hb hown (hT _ hlink) hsame hst hcf hin2 (by rw [q2]; exact h6) q1 q3 (by rw [hsl]; exact k2_hasslot (q4 k hk)) rfl rfl hdg fun H' e1 e2 e3 => ?_
    rw [hsl] at e1 ⊢
    exact done H' e1 e2 e3
end SROWS
