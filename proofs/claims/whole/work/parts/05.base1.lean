/-! the words that every method's contract stands on: those of the tables that hold at any later state too -/
def TB : List Cond := lw_tbl.filter goodWord
theorem TB_mem {w : Cond} (h : w ∈ lw_tbl) (g : goodWord w = true) : w ∈ TB := List.mem_filter.mpr ⟨h, g⟩
theorem TB_t {w : Cond} (i : Nat) (h : tables_1[i]? = some w) (g : goodWord w = true) : w ∈ TB := TB_mem (List.mem_append_right _ (List.mem_of_getElem? h)) g
theorem TB_s {w : Cond} (i : Nat) (h : (k2_sels lw_privs)[i]? = some w) (g : goodWord w = true) : w ∈ TB := TB_mem (List.mem_append_left _ (List.mem_of_getElem? h)) g
theorem TB_good : ∀ w ∈ TB, goodWord w = true := fun w h => (List.mem_filter.mp h).2
def wsO (y : MethodName) (b : ByteArray) (n : Nat) (r : Option FieldType) : List Cond := Cond.code y b n r :: TB
theorem gO {y : MethodName} {b : ByteArray} {n : Nat} {r : Option FieldType} (h : Cond.code y b n r ∈ TB) : GoodIn TB (wsO y b n r) := fun w hw => by
  have h1 : w ∈ TB := by
    rcases List.mem_cons.mp hw with e | e
    · rw [e]; exact h
    · exact e
  exact ⟨h1, good_of_word (TB_good w h1)⟩
theorem gApp {a b : List Cond} (ha : ∀ w ∈ a, w ∈ TB) (hb : GoodIn TB b) : GoodIn TB (a ++ b) := fun w hw => by
  rcases List.mem_append.mp hw with e | e
  · exact ⟨ha w e, good_of_word (TB_good w (ha w e))⟩
  · exact hb w e
theorem gV {own C : String} {idx : Nat} {y : MethodName} {b : ByteArray} {n : Nat} {r : Option FieldType} (h1 : Cond.methodLink own idx y ∈ TB) (h2 : Cond.instanceMethod y ∈ TB) (h3 : Cond.selects C y y ∈ TB) (h4 : Cond.initialized C ∈ TB) (h5 : Cond.code y b n r ∈ TB) : GoodIn TB (wsV own idx C y (wsO y b n r)) := by
  refine gApp (fun w hw => ?_) (gO h5)
  rcases List.mem_cons.mp hw with e | hw
  · rw [e]; exact h1
  rcases List.mem_cons.mp hw with e | hw
  · rw [e]; exact h2
  rcases List.mem_cons.mp hw with e | hw
  · rw [e]; exact h3
  · rw [List.mem_singleton.mp hw]; exact h4
theorem gS {own : String} {idx : Nat} {y : MethodName} {b : ByteArray} {n : Nat} {r : Option FieldType} (h1 : Cond.methodLink own idx y ∈ TB) (h2 : Cond.static y ∈ TB) (h4 : Cond.initialized y.cls ∈ TB) (h5 : Cond.code y b n r ∈ TB) : GoodIn TB (va_wsS own idx y (wsO y b n r)) := by
  refine gApp (fun w hw => ?_) (gO h5)
  rcases List.mem_cons.mp hw with e | hw
  · rw [e]; exact h1
  rcases List.mem_cons.mp hw with e | hw
  · rw [e]; exact h2
  · rw [List.mem_singleton.mp hw]; exact h4
/-! the world: a map of abstract addresses to things; below 100 what the launch has, from 100 on what the law makes -/
abbrev AC : Type := (Nat × List Value) ⊕ (Nat × vp_A)
abbrev Hp : Type := Nat → Option AC
/-- the base, the classes and their slots, the arrays' classes by their kind, the constants' addresses -/
abbrev GG : Type := Nat × va_G × (Nat → ClassId) × (Nat → Nat)
def rho (G : GG) (a : Nat) : Nat := if a < 100 then G.2.2.2 a else G.1 + (a - 100)
def trv (G : GG) (v : Value) : Value := match v with
  | .ref a => .ref (rho G a)
  | w => w
def trq (G : GG) (x : vp_A) : vp_A := (x.1, match x.2 with
  | .inr (.inr (.inr (.inr q))) => .inr (.inr (.inr (.inr (fun j => (q j).map (rho G)))))
  | y => y)
def trc (G : GG) (c : AC) : va_E := match c with
  | .inl o => .inr (o.1, o.2.map (trv G))
  | .inr x => .inl (G.2.2.1 x.1, trq G x.2)
abbrev rr (G : GG) (r : Option Nat) : Value := va_re (rho G) r
def facF (j : Nat) : Int32 := match j with | 0 => 1 | 1 => 1 | 2 => 2 | 3 => 6 | 4 => 24 | 5 => 120 | 6 => 720 | _ => 5040
def swMap (j : Nat) : Int32 := match j with | 0 => 0 | 1 => 3 | 2 => 4 | 3 => 5 | 4 => 1 | 5 => 2 | 6 => 9 | 7 => 6 | 8 => 7 | 9 => 8 | 10 => 12 | 11 => 11 | 12 => 10 | 13 => 13 | 14 => 14 | 15 => 15 | 16 => 16 | 17 => 17 | 18 => 18 | 19 => 19 | _ => 20
def wordN (j : Nat) : String := match j with | 0 => "OTHER" | 1 => "LINES" | 2 => "COPY" | 3 => "DESK" | 4 => "SWAP" | 5 => "MOST" | 6 => "DROPS" | 7 => "LIKELY" | 8 => "SENSE" | 9 => "RHYME" | 10 => "OR" | 11 => "AND" | 12 => "NOT" | 13 => "WHOLE" | 14 => "HOLDS" | 15 => "HAS" | 16 => "AHEAD" | 17 => "FAR" | 18 => "STEPS" | 19 => "SONG" | _ => "SIZE"
def wordC (j : Nat) : Int64 := match j with | 0 => 0 | 1 => 12892339 | 2 => 114201 | 3 => 136811 | 4 => 646192 | 5 => 441972 | 6 => 4800019 | 7 => 412456345 | 8 => 20101733 | 9 => 19162533 | 10 => 498 | 11 => 1476 | 12 => 14836 | 13 => 24395141 | 14 => 8892563 | 15 => 8243 | 16 => 1315876 | 17 => 6194 | 18 => 20583955 | 19 => 638407 | _ => 632645
def wordS (j : Nat) : Int32 := if 12 ≤ j then 1 else 0
/-- the static arrays: 30 FACTORIALS, 31 LIKE_WEIGHTS, 32 WORDS, 33 the switch's table -/
def stat (a : Nat) : Option AC := if a = 30 then some (.inr (1, 8, .inl facF)) else if a = 31 then some (.inr (1, 6, .inl fun _ => 1)) else if a = 32 then some (.inr (8, 21, .inr (.inr (.inr (.inr (fun j => some j)))))) else if a = 33 then some (.inr (1, 21, .inl swMap)) else none
/-- what may be written: what came from the base on -/
abbrev WA (G : GG) : Nat → Prop := fun q => G.1 ≤ q
def knd (t : Nat) : FieldType := match t with | 0 => .byte | 1 => .int | 2 => .long | 3 => .boolean | 4 => .object "CopyOrders$Copy" | 5 => .object "CopyOrders$Desk" | 6 => .object "CopyOrders$House" | 7 => .object "CopyOrders$Orders" | _ => .object "CopyOrders$Word"
abbrev tysG (G : GG) : List (ClassId × FieldType) := [(G.2.2.1 0, .byte), (G.2.2.1 1, .int), (G.2.2.1 2, .long), (G.2.2.1 3, .boolean), (G.2.2.1 4, .object "CopyOrders$Copy"), (G.2.2.1 5, .object "CopyOrders$Desk"), (G.2.2.1 6, .object "CopyOrders$House"), (G.2.2.1 7, .object "CopyOrders$Orders"), (G.2.2.1 8, .object "CopyOrders$Word")]
/-- what the launch's things are -/
def Sx (G : GG) (U : State) (H : Heap) : Prop :=
  (∀ i, i < 21 → va_Z RX10 (wordN i) "LCopyOrders$Word;" (.ref (G.2.2.2 i)) (WA G) U H) ∧
  (∀ i, i < 21 → va_O RX10 (G.2.2.2 i) (WA G) U H) ∧
  va_Ef 21 "java/lang/Enum" "ordinal" "I" (fun i => .int (nI i)) G.2.2.2 (WA G) U H ∧
  va_Ef 21 RX10 "code" "J" (fun i => .long (wordC i)) G.2.2.2 (WA G) U H ∧
  va_Ef 21 RX10 "startsOne" "Z" (fun i => .int (wordS i)) G.2.2.2 (WA G) U H ∧
  va_Z RX11 "FACTORIALS" "[I" (.ref (G.2.2.2 30)) (WA G) U H ∧
  va_Z RX11 "LIKE_WEIGHTS" "[I" (.ref (G.2.2.2 31)) (WA G) U H ∧
  va_Z RX11 "WORDS" "[LCopyOrders$Word;" (.ref (G.2.2.2 32)) (WA G) U H ∧
  va_Z RX0 "$SwitchMap$CopyOrders$Word" "[I" (.ref (G.2.2.2 33)) (WA G) U H ∧
  va_T .int (G.2.2.2 30) 8 (fun j => .int (facF j)) (WA G) U H ∧
  va_T .int (G.2.2.2 31) 6 (fun _ => .int 1) (WA G) U H ∧
  va_T (.object "CopyOrders$Word") (G.2.2.2 32) 21 (fun j => .ref (G.2.2.2 j)) (WA G) U H ∧
  va_T .int (G.2.2.2 33) 21 (fun j => .int (swMap j)) (WA G) U H
theorem Sx.moved {G : GG} {u U : State} {H : Heap} (hvm : u.vm.Alike U.vm) (h : Sx G u H) : Sx G U H := by
  obtain ⟨h1, h2, h3, h4, h5, h6, h7, h8, h9, h10, h11, h12, h13⟩ := h
  exact ⟨fun i hi => va_Z.moved hvm (h1 i hi), fun i hi => va_O.moved hvm (h2 i hi), va_Ef.moved hvm h3, va_Ef.moved hvm h4, va_Ef.moved hvm h5, va_Z.moved hvm h6, va_Z.moved hvm h7, va_Z.moved hvm h8, va_Z.moved hvm h9, va_T.moved hvm h10, va_T.moved hvm h11, va_T.moved hvm h12, va_T.moved hvm h13⟩
theorem Sx.kept {G : GG} {U : State} {H H1 : Heap} (h : Sx G U H) (hq : ∀ a : Nat, a < H.size → ¬ WA G a → H1[a]? = H[a]?) : Sx G U H1 := by
  obtain ⟨h1, h2, h3, h4, h5, h6, h7, h8, h9, h10, h11, h12, h13⟩ := h
  exact ⟨fun i hi => (h1 i hi).kept hq, fun i hi => (h2 i hi).kept hq, va_Ef.kept h3 hq, va_Ef.kept h4 hq, va_Ef.kept h5 hq, h6.kept hq, h7.kept hq, h8.kept hq, h9.kept hq, h10.kept hq, h11.kept hq, h12.kept hq, h13.kept hq⟩
def nestM : List (String × Nat × MethodName × String) := [("CopyOrders$House", 47, ⟨"CopyOrders$Copy", "<init>", "()V"⟩, "CopyOrders"), ("CopyOrders$House", 48, ⟨"CopyOrders$Desk", "<init>", "()V"⟩, "CopyOrders"), ("CopyOrders", 67, ⟨"CopyOrders$Family", "<init>", "()V"⟩, "CopyOrders"), ("CopyOrders$Copy", 31, ⟨"CopyOrders", "lineOf", "(II)I"⟩, "CopyOrders"), ("CopyOrders$Copy", 35, ⟨"CopyOrders", "pairBit", "(II)I"⟩, "CopyOrders"), ("CopyOrders$Orders", 24, ⟨"CopyOrders", "factorial", "(I)I"⟩, "CopyOrders"), ("CopyOrders$Orders", 56, ⟨"CopyOrders$Copy", "<init>", "()V"⟩, "CopyOrders"), ("CopyOrders$Orders", 119, ⟨"CopyOrders", "lineOf", "(II)I"⟩, "CopyOrders"), ("CopyOrders$House", 103, ⟨"CopyOrders", "pairBit", "(II)I"⟩, "CopyOrders"), ("CopyOrders$House", 107, ⟨"CopyOrders", "lineOf", "(II)I"⟩, "CopyOrders")]
def nestF : List (String × Nat × String × String × String × String) := [("CopyOrders$Tokens", 90, "CopyOrders", "WORDS", "[LCopyOrders$Word;", "CopyOrders")]
/-- what the tables say that can't stand among a contract's words -/
def Nx (U : State) : Prop := (∀ q ∈ nestM, va_Nw (.methodLinkNest q.1 q.2.1 q.2.2.1 q.2.2.2) U) ∧ (∀ q ∈ nestF, va_Nw (.fieldLinkNest q.1 q.2.1 q.2.2.1 q.2.2.2.1 q.2.2.2.2.1 q.2.2.2.2.2) U) ∧ (∀ C ∈ ["CopyOrders$Copy", "CopyOrders$Desk", "CopyOrders$House", "CopyOrders$Orders", "CopyOrders$Word"], va_AO C U)
theorem Nx.warm {s U : State} (hW : s.WarmedH U.vm) (h : Nx s) : Nx U := ⟨fun q hq => (h.1 q hq).warmM hW, fun q hq => (h.2.1 q hq).warmF hW, fun C hC => va_AO.moved hW.alike (h.2.2 C hC)⟩
theorem Nx.same {s U : State} (hvm : s.vm = U.vm) (h : Nx s) : Nx U := ⟨fun q hq => (h.1 q hq).same rfl hvm, fun q hq => (h.2.1 q hq).same rfl hvm, fun C hC => va_AO.moved (by rw [hvm]; exact Vm.Alike.refl _) (h.2.2 C hC)⟩
/-- what a contract asks of the launch -/
def Kx (G : GG) (U : State) : Prop := va_K G.2.1 vwCl (tysG G) U ∧ G.1 ≤ U.heap.size ∧ Sx G U U.heap ∧ Nx U ∧ (∀ i j, i < 21 → j < 21 → G.2.2.2 i = G.2.2.2 j → i = j) ∧ (∀ a, a < 100 → G.2.2.2 a < G.1)
theorem Kx.go {G : GG} {s U : State} {H : Heap} {locs : List Loc} (h : Kx G s) (hS : va_S (WA G) s.heap H locs) (hU : U.heap = H) (hW : s.WarmedH U.vm) : Kx G U := by
  obtain ⟨h1, h2, h3, h4, h5⟩ := h
  refine ⟨va_K.moved hW.alike h1, by rw [hU]; exact Nat.le_trans h2 hS.1, ?_, h4.warm hW, h5⟩
  rw [hU]
  exact (h3.moved hW.alike).kept (fun a h1 h2 => hS.2.1 a h1 h2)
theorem Kx.blind {G : GG} {U : State} {g : JFrame} {mk : MethodId} {a : Array Value} (h : Kx G U) : Kx G (U.calling g mk a) := by
  obtain ⟨h1, h2, h3, h4, h5⟩ := h
  exact ⟨va_K.moved (u := U) (U := U.calling g mk a) (Vm.Alike.refl U.vm) h1, h2, Sx.moved (u := U) (U := U.calling g mk a) (Vm.Alike.refl U.vm) h3, Nx.same (s := U) (U := U.calling g mk a) rfl h4, h5⟩
/-- the heap holds the map; n is where the next thing comes -/
def Wd (G : GG) (f : Hp) (n : Nat) (H : Heap) : Prop := (∀ a c, 100 ≤ a → f a = some c → va_at G.2.1 vwCl (rho G a, trc G c) H) ∧ (∀ a, a < 100 → f a = stat a) ∧ H.size + 100 = G.1 + n ∧ 100 ≤ n
theorem rho_ge {G : GG} {a : Nat} (h : 100 ≤ a) : rho G a = G.1 + (a - 100) := if_neg (Nat.not_lt.mpr h)
theorem rho_lt {G : GG} {a : Nat} (h : a < 100) : rho G a = G.2.2.2 a := if_pos h
theorem rho_WA {G : GG} {a : Nat} (h : 100 ≤ a) : WA G (rho G a) := by rw [rho_ge h]; exact Nat.le_add_right _ _
theorem Wd.obj {G : GG} {f : Hp} {n : Nat} {H : Heap} (h : Wd G f n H) {a : Nat} {o : Nat × List Value} (he : f a = some (.inl o)) : 100 ≤ a := by
  rcases Nat.lt_or_ge a 100 with q | q
  · rw [h.2.1 a q] at he
    unfold stat at he
    split at he
    · cases he
    split at he
    · cases he
    split at he
    · cases he
    split at he <;> cases he
  · exact q
theorem Wd.lt {G : GG} {f : Hp} {n : Nat} {H : Heap} (h : Wd G f n H) {a : Nat} {c : AC} (ha : 100 ≤ a) (he : f a = some c) : a < n := by
  have h1 := (h.1 a c ha he).lt
  have h2 : rho G a < H.size := h1
  rw [rho_ge ha] at h2
  have h3 := h.2.2.1
  omega
theorem Wd.one {G : GG} {f : Hp} {n : Nat} {H : Heap} (h : Wd G f n H) {a : Nat} {c : AC} (ha : 100 ≤ a) (he : f a = some c) : va_P G.2.1 vwCl [(rho G a, trc G c)] H := by
  intro k q hk
  match k, hk with
  | 0, hk => cases hk; exact h.1 a c ha he
  | k + 1, hk => simp at hk
theorem Wd.set {G : GG} {f : Hp} {n : Nat} {H H1 : Heap} (h : Wd G f n H) {a : Nat} (ha : 100 ≤ a) (e : AC) (h1 : va_at G.2.1 vwCl (rho G a, trc G e) H1) (oq : ∀ q : Nat, q ≠ rho G a → H1[q]? = H[q]?) (z : H1.size = H.size) : Wd G (va_up f a (some e)) n H1 := by
  refine ⟨fun b c hb hc => ?_, fun b hb => ?_, by rw [z]; exact h.2.2.1, h.2.2.2⟩
  · by_cases hab : b = a
    · subst hab
      simp only [va_up, if_pos] at hc
      cases hc
      exact h1
    · simp only [va_up, if_neg hab] at hc
      refine (h.1 b c hb hc).kept (oq _ ?_)
      rw [rho_ge hb, rho_ge ha]
      omega
  · rw [← h.2.1 b hb]
    simp only [va_up]
    rw [if_neg (by omega)]
theorem Wd.push {G : GG} {f : Hp} {n : Nat} {H H1 : Heap} (h : Wd G f n H) (e : AC) (h1 : va_at G.2.1 vwCl (H.size, trc G e) H1) (oq : ∀ q : Nat, q < H.size → H1[q]? = H[q]?) (z : H1.size = H.size + 1) : Wd G (va_up f n (some e)) (n + 1) H1 := by
  have hn := h.2.2.1
  have h100 := h.2.2.2
  refine ⟨fun b c hb hc => ?_, fun b hb => ?_, by omega, by omega⟩
  · by_cases hab : b = n
    · subst hab
      simp only [va_up, if_pos] at hc
      cases hc
      rw [rho_ge hb, show G.1 + (b - 100) = H.size by omega]
      exact h1
    · simp only [va_up, if_neg hab] at hc
      refine (h.1 b c hb hc).kept (oq _ ?_)
      have := h.lt hb hc
      show rho G b < _
      rw [rho_ge hb]
      omega
  · rw [← h.2.1 b hb]
    simp only [va_up]
    rw [if_neg (by omega)]
theorem Wd.top {G : GG} {f : Hp} {n : Nat} {H : Heap} (h : Wd G f n H) : rho G n = H.size := by
  rw [rho_ge h.2.2.2]
  have := h.2.2.1
  have := h.2.2.2
  omega
/-! the pure operations -/
def gI (f : Hp) (r : Option Nat) (ci k : Nat) : Option Int32 := match r with
  | some a => match f a with
    | some (.inl (c, fs)) => if c = ci then (match fs[k]? with | some (.int x) => some x | _ => none) else none
    | _ => none
  | none => none
def gJ (f : Hp) (r : Option Nat) (ci k : Nat) : Option Int64 := match r with
  | some a => match f a with
    | some (.inl (c, fs)) => if c = ci then (match fs[k]? with | some (.long x) => some x | _ => none) else none
    | _ => none
  | none => none
def gR (f : Hp) (r : Option Nat) (ci k : Nat) : Option (Option Nat) := match r with
  | some a => match f a with
    | some (.inl (c, fs)) => if c = ci then (match fs[k]? with | some (.ref x) => some (some x) | some .null => some none | _ => none) else none
    | _ => none
  | none => none
def pV (f : Hp) (r : Option Nat) (ci k : Nat) (v : Value) : Option Hp := match r with
  | some a => match f a with
    | some (.inl (c, fs)) => if c = ci ∧ k < fs.length then some (va_up f a (some (.inl (ci, fs.set k v)))) else none
    | _ => none
  | none => none
def pZ (f : Hp) (r : Option Nat) (ci k : Nat) (x : Int32) : Option Hp := if x = 0 ∨ x = 1 then pV f r ci k (.int x) else none
def aI (f : Hp) (t : Nat) (r : Option Nat) : Option (Nat × (Nat → Int32)) := match r with
  | some a => match f a with
    | some (.inr (t', n, .inl g)) => if t' = t then some (n, g) else none
    | _ => none
  | none => none
def aJ (f : Hp) (r : Option Nat) : Option (Nat × (Nat → Int64)) := match r with
  | some a => match f a with
    | some (.inr (t', n, .inr (.inl g))) => if t' = 2 then some (n, g) else none
    | _ => none
  | none => none
def aR (f : Hp) (t : Nat) (r : Option Nat) : Option (Nat × (Nat → Option Nat)) := match r with
  | some a => match f a with
    | some (.inr (t', n, .inr (.inr (.inr (.inr g))))) => if t' = t then some (n, g) else none
    | _ => none
  | none => none
def ldI (f : Hp) (t : Nat) (r : Option Nat) (i : Int32) : Option Int32 := match aI f t r with
  | some (n, g) => if ¬ i < 0 ∧ i.toNatClampNeg < n then some (g i.toNatClampNeg) else none
  | none => none
def ldJ (f : Hp) (r : Option Nat) (i : Int32) : Option Int64 := match aJ f r with
  | some (n, g) => if ¬ i < 0 ∧ i.toNatClampNeg < n then some (g i.toNatClampNeg) else none
  | none => none
def ldR (f : Hp) (t : Nat) (r : Option Nat) (i : Int32) : Option (Option Nat) := match aR f t r with
  | some (n, g) => if ¬ i < 0 ∧ i.toNatClampNeg < n then some (g i.toNatClampNeg) else none
  | none => none
def ofN (r : Option Nat) : Nat := r.getD 0
def stI (f : Hp) (t : Nat) (r : Option Nat) (i x : Int32) : Option Hp := match aI f t r with
  | some (n, g) => if ¬ i < 0 ∧ i.toNatClampNeg < n ∧ 100 ≤ ofN r then some (va_up f (ofN r) (some (.inr (t, n, .inl (upd g i.toNatClampNeg (vp_nar (knd t) x)))))) else none
  | none => none
def stJ (f : Hp) (r : Option Nat) (i : Int32) (x : Int64) : Option Hp := match aJ f r with
  | some (n, g) => if ¬ i < 0 ∧ i.toNatClampNeg < n ∧ 100 ≤ ofN r then some (va_up f (ofN r) (some (.inr (2, n, .inr (.inl (vp_updL g i.toNatClampNeg x)))))) else none
  | none => none
/-- what may lie in an array of that kind: a constant (kind 8), an object of its class -/
def okR (f : Hp) (t : Nat) (x : Option Nat) : Bool := match x with
  | some b => if t = 8 then decide (b < 21) else match f b with
    | some (.inl (c, _)) => decide ((vwCl[c]?.map (fun q => FieldType.object q.1)) = some (knd t))
    | _ => false
  | none => false
def stR (f : Hp) (t : Nat) (r : Option Nat) (i : Int32) (x : Option Nat) : Option Hp := match aR f t r with
  | some (n, g) => if ¬ i < 0 ∧ i.toNatClampNeg < n ∧ 100 ≤ ofN r ∧ okR f t x = true then some (va_up f (ofN r) (some (.inr (t, n, .inr (.inr (.inr (.inr (va_up g i.toNatClampNeg x)))))))) else none
  | none => none
def alen (f : Hp) (t : Nat) (r : Option Nat) : Option Int32 := match r with
  | some a => match f a with
    | some (.inr (t', n, _)) => if t' = t ∧ t < 9 then some (Int32.ofNat n) else none
    | _ => none
  | none => none
/-- a constant's place in its order -/
def enI (r : Option Nat) : Option Nat := match r with
  | some a => if a < 21 then some a else none
  | none => none
def okE (r : Option Nat) : Bool := match r with
  | some a => decide (a < 21)
  | none => true
def okZ (x : Int32) : Bool := decide (x = 0 ∨ x = 1)
def nmd {α β : Type} (x : α) (k : α → β) : β := k x
def chk {β : Type} (b : Bool) (k : Option β) : Option β := if b = true then k else none
theorem bd {α β : Type} {o : Option α} {k : α → Option β} {r : β} (h : o.bind k = some r) : ∃ x, o = some x ∧ k x = some r := by
  cases o with
  | none => cases h
  | some x => exact ⟨x, rfl, h⟩
theorem nm_o {α β : Type} {x v : α} {k : α → β} {r : β} (hv : v = x) (h : nmd x k = r) : k v = r := by subst hv; exact h
theorem ck {β : Type} {b : Bool} {k : Option β} {r : β} (h : chk b k = some r) : b = true ∧ k = some r := by
  unfold chk at h
  split at h
  · exact ⟨by assumption, h⟩
  · cases h
theorem ite_t {c : Prop} [Decidable c] {α : Type} {a b r : α} (h : c) (e : (if c then a else b) = r) : a = r := by rw [if_pos h] at e; exact e
theorem ite_f {c : Prop} [Decidable c] {α : Type} {a b r : α} (h : ¬ c) (e : (if c then a else b) = r) : b = r := by rw [if_neg h] at e; exact e
theorem gI_of {f : Hp} {r : Option Nat} {ci k : Nat} {x : Int32} (h : gI f r ci k = some x) : ∃ a fs, r = some a ∧ f a = some (.inl (ci, fs)) ∧ fs[k]? = some (.int x) := by
  unfold gI at h
  split at h <;> try cases h
  split at h <;> try cases h
  split at h <;> try cases h
  split at h <;> try cases h
  rename_i a _ _ fs e1 e2 _ e3
  subst e2
  exact ⟨a, fs, rfl, e1, e3⟩
theorem gJ_of {f : Hp} {r : Option Nat} {ci k : Nat} {x : Int64} (h : gJ f r ci k = some x) : ∃ a fs, r = some a ∧ f a = some (.inl (ci, fs)) ∧ fs[k]? = some (.long x) := by
  unfold gJ at h
  split at h <;> try cases h
  split at h <;> try cases h
  split at h <;> try cases h
  split at h <;> try cases h
  rename_i a _ _ fs e1 e2 _ e3
  subst e2
  exact ⟨a, fs, rfl, e1, e3⟩
theorem gR_of {f : Hp} {r : Option Nat} {ci k : Nat} {x : Option Nat} (h : gR f r ci k = some x) : ∃ a fs v, r = some a ∧ f a = some (.inl (ci, fs)) ∧ fs[k]? = some v ∧ v = va_rf x := by
  unfold gR at h
  split at h <;> try cases h
  split at h <;> try cases h
  split at h <;> try cases h
  split at h <;> try cases h
  · rename_i a _ _ fs e1 e2 _ y e3
    subst e2
    exact ⟨a, fs, _, rfl, e1, e3, rfl⟩
  · rename_i a _ _ fs e1 e2 _ e3
    subst e2
    exact ⟨a, fs, _, rfl, e1, e3, rfl⟩
theorem pV_of {f f' : Hp} {r : Option Nat} {ci k : Nat} {v : Value} (h : pV f r ci k v = some f') : ∃ a fs, r = some a ∧ f a = some (.inl (ci, fs)) ∧ k < fs.length ∧ f' = va_up f a (some (.inl (ci, fs.set k v))) := by
  unfold pV at h
  split at h <;> try cases h
  split at h <;> try cases h
  split at h <;> try cases h
  rename_i a _ _ fs e1 e2
  obtain ⟨e2, e3⟩ := e2
  subst e2
  exact ⟨a, fs, rfl, e1, e3, rfl⟩
theorem aI_of {f : Hp} {t : Nat} {r : Option Nat} {q : Nat × (Nat → Int32)} (h : aI f t r = some q) : ∃ a, r = some a ∧ f a = some (.inr (t, q.1, .inl q.2)) := by
  unfold aI at h
  split at h <;> try cases h
  split at h <;> try cases h
  split at h <;> try cases h
  rename_i a _ _ n g e1 e2
  subst e2
  exact ⟨a, rfl, e1⟩
theorem aJ_of {f : Hp} {r : Option Nat} {q : Nat × (Nat → Int64)} (h : aJ f r = some q) : ∃ a, r = some a ∧ f a = some (.inr (2, q.1, .inr (.inl q.2))) := by
  unfold aJ at h
  split at h <;> try cases h
  split at h <;> try cases h
  split at h <;> try cases h
  rename_i a _ _ n g e1 e2
  subst e2
  exact ⟨a, rfl, e1⟩
theorem aR_of {f : Hp} {t : Nat} {r : Option Nat} {q : Nat × (Nat → Option Nat)} (h : aR f t r = some q) : ∃ a, r = some a ∧ f a = some (.inr (t, q.1, .inr (.inr (.inr (.inr q.2))))) := by
  unfold aR at h
  split at h <;> try cases h
  split at h <;> try cases h
  split at h <;> try cases h
  rename_i a _ _ n g e1 e2
  subst e2
  exact ⟨a, rfl, e1⟩
theorem ldI_of {f : Hp} {t : Nat} {r : Option Nat} {i x : Int32} (h : ldI f t r i = some x) : ∃ a n g, r = some a ∧ f a = some (.inr (t, n, .inl g)) ∧ vp_in i n ∧ x = g i.toNatClampNeg := by
  unfold ldI at h
  split at h <;> try cases h
  split at h <;> try cases h
  rename_i n g e1 e2
  obtain ⟨a, h1, h2⟩ := aI_of e1
  exact ⟨a, n, g, h1, h2, fun q => q.elim e2.1 (fun q => absurd e2.2 (Nat.not_lt.mpr q)), rfl⟩
theorem ldJ_of {f : Hp} {r : Option Nat} {i : Int32} {x : Int64} (h : ldJ f r i = some x) : ∃ a n g, r = some a ∧ f a = some (.inr (2, n, .inr (.inl g))) ∧ vp_in i n ∧ x = g i.toNatClampNeg := by
  unfold ldJ at h
  split at h <;> try cases h
  split at h <;> try cases h
  rename_i n g e1 e2
  obtain ⟨a, h1, h2⟩ := aJ_of e1
  exact ⟨a, n, g, h1, h2, fun q => q.elim e2.1 (fun q => absurd e2.2 (Nat.not_lt.mpr q)), rfl⟩
theorem ldR_of {f : Hp} {t : Nat} {r : Option Nat} {i : Int32} {x : Option Nat} (h : ldR f t r i = some x) : ∃ a n g, r = some a ∧ f a = some (.inr (t, n, .inr (.inr (.inr (.inr g))))) ∧ vp_in i n ∧ x = g i.toNatClampNeg := by
  unfold ldR at h
  split at h <;> try cases h
  split at h <;> try cases h
  rename_i n g e1 e2
  obtain ⟨a, h1, h2⟩ := aR_of e1
  exact ⟨a, n, g, h1, h2, fun q => q.elim e2.1 (fun q => absurd e2.2 (Nat.not_lt.mpr q)), rfl⟩
theorem stI_of {f f' : Hp} {t : Nat} {r : Option Nat} {i x : Int32} (h : stI f t r i x = some f') : ∃ a n g, r = some a ∧ f a = some (.inr (t, n, .inl g)) ∧ vp_in i n ∧ 100 ≤ a ∧ f' = va_up f a (some (.inr (t, n, .inl (upd g i.toNatClampNeg (vp_nar (knd t) x))))) := by
  unfold stI at h
  split at h <;> try cases h
  split at h <;> try cases h
  rename_i n g e1 e2
  obtain ⟨a, h1, h2⟩ := aI_of e1
  subst h1
  exact ⟨a, n, g, rfl, h2, fun q => q.elim e2.1 (fun q => absurd e2.2.1 (Nat.not_lt.mpr q)), e2.2.2, rfl⟩
theorem stJ_of {f f' : Hp} {r : Option Nat} {i : Int32} {x : Int64} (h : stJ f r i x = some f') : ∃ a n g, r = some a ∧ f a = some (.inr (2, n, .inr (.inl g))) ∧ vp_in i n ∧ 100 ≤ a ∧ f' = va_up f a (some (.inr (2, n, .inr (.inl (vp_updL g i.toNatClampNeg x))))) := by
  unfold stJ at h
  split at h <;> try cases h
  split at h <;> try cases h
  rename_i n g e1 e2
  obtain ⟨a, h1, h2⟩ := aJ_of e1
  subst h1
  exact ⟨a, n, g, rfl, h2, fun q => q.elim e2.1 (fun q => absurd e2.2.1 (Nat.not_lt.mpr q)), e2.2.2, rfl⟩
theorem stR_of {f f' : Hp} {t : Nat} {r : Option Nat} {i : Int32} {x : Option Nat} (h : stR f t r i x = some f') : ∃ a n g, r = some a ∧ f a = some (.inr (t, n, .inr (.inr (.inr (.inr g))))) ∧ vp_in i n ∧ 100 ≤ a ∧ okR f t x = true ∧ f' = va_up f a (some (.inr (t, n, .inr (.inr (.inr (.inr (va_up g i.toNatClampNeg x))))))) := by
  unfold stR at h
  split at h <;> try cases h
  split at h <;> try cases h
  rename_i n g e1 e2
  obtain ⟨a, h1, h2⟩ := aR_of e1
  subst h1
  exact ⟨a, n, g, rfl, h2, fun q => q.elim e2.1 (fun q => absurd e2.2.1 (Nat.not_lt.mpr q)), e2.2.2.1, e2.2.2.2, rfl⟩
theorem alen_of {f : Hp} {t : Nat} {r : Option Nat} {x : Int32} (h : alen f t r = some x) : ∃ a n g, r = some a ∧ f a = some (.inr (t, n, g)) ∧ t < 9 ∧ x = Int32.ofNat n := by
  unfold alen at h
  split at h <;> try cases h
  split at h <;> try cases h
  split at h <;> try cases h
  rename_i a _ _ n g e1 e2
  obtain ⟨e2, e3⟩ := e2
  subst e2
  exact ⟨a, n, g, rfl, e1, e3, rfl⟩
