theorem so1 {α : Type} {a b : α} (h : some a = some b) : a = b := Option.some.inj h
theorem so2 {α β : Type} {a c : α} {b d : β} (h : some (a, b) = some (c, d)) : a = c ∧ b = d := ⟨congrArg Prod.fst (Option.some.inj h), congrArg Prod.snd (Option.some.inj h)⟩
theorem so3 {α β γ : Type} {a a' : α} {b b' : β} {c c' : γ} (h : some (a, b, c) = some (a', b', c')) : a = a' ∧ b = b' ∧ c = c' := ⟨congrArg Prod.fst (Option.some.inj h), so2 (congrArg some (congrArg Prod.snd (Option.some.inj h)))⟩
theorem so4 {α β γ δ : Type} {a a' : α} {b b' : β} {c c' : γ} {d d' : δ} (h : some (a, b, c, d) = some (a', b', c', d')) : a = a' ∧ b = b' ∧ c = c' ∧ d = d' := ⟨congrArg Prod.fst (Option.some.inj h), so3 (congrArg some (congrArg Prod.snd (Option.some.inj h)))⟩
/-! CopyOrders.takeTape()I -/
def m_X11_takeTape (F : Nat) (u0 : Option Nat) (f : Hp) : Option ((Int32) × Hp) :=
(gI f u0 9 1).bind fun x1 =>
(pV f u0 9 1 (.int (0 : Int32))).bind fun f2 =>
some (x1, f2)
/-! CopyOrders$Copy.clear()V -/
def m_X1_clear (F : Nat) (u0 : Option Nat) (f : Hp) : Option Hp :=
(pV f u0 0 0 (.long (0 : Int64))).bind fun f1 =>
(pV f1 u0 0 1 (.int (0 : Int32))).bind fun f2 =>
(pV f2 u0 0 2 (.int (0 : Int32))).bind fun f3 =>
(pV f3 u0 0 3 (.int (0 : Int32))).bind fun f4 =>
(pV f4 u0 0 4 (.int (0 : Int32))).bind fun f5 =>
(pV f5 u0 0 5 (.int (0 : Int32))).bind fun f6 =>
some f6
/-! CopyOrders$House.nextCopy()LCopyOrders$Copy; -/
def m_X4_nextCopy (F : Nat) (u0 : Option Nat) (f : Hp) : Option ((Option Nat) × Hp) :=
(gI f u0 3 1).bind fun x1 =>
if x1 < (10 : Int32) then
((gR f u0 3 2).bind fun x3 =>
(gI f u0 3 1).bind fun x4 =>
(ldR f 4 x3 x4).bind fun x5 =>
chk (isO f x5 0) <|
(m_X1_clear F x5 f).bind fun f7 =>
(gR f7 u0 3 2).bind fun x8 =>
(gI f7 u0 3 1).bind fun x9 =>
(ldR f7 4 x8 x9).bind fun x10 =>
some (x10, f7))
else
(some (none, f))
/-! CopyOrders.byteAt(I)I -/
def m_X11_byteAt (F : Nat) (u0 : Option Nat) (u1 : Int32) (f : Hp) : Option Int32 :=
if u1 < 0 then
(some (0 : Int32))
else
(if (740 : Int32) ≤ u1 then
(some (0 : Int32))
else
((gR f u0 9 0).bind fun x3 =>
(ldI f 0 x3 u1).bind fun x4 =>
some (x4 &&& (255 : Int32))))
/-! CopyOrders$Copy.hasLine(I)Z -/
def m_X1_hasLine (F : Nat) (u0 : Option Nat) (u1 : Int32) (f : Hp) : Option Int32 :=
(gI f u0 0 3).bind fun x1 =>
if ((ius x1 u1) &&& (1 : Int32)) = 0 then
(chk (okZ (0 : Int32)) <|
some (0 : Int32))
else
(chk (okZ (1 : Int32)) <|
some (1 : Int32))
/-! CopyOrders.lineOf(II)I -/
def m_X11_lineOf (F : Nat) (u0 : Int32) (u1 : Int32) (f : Hp) : Option Int32 :=
some ((ius u0 ((4 : Int32) * u1)) &&& (15 : Int32))
/-! CopyOrders.pairBit(II)I -/
def m_X11_pairBit (F : Nat) (u0 : Int32) (u1 : Int32) (f : Hp) : Option Int32 :=
nmd ((imax u0 u1)) fun y1 =>
chk (decide (¬ (2 : Int32) = 0)) <|
some ((1 : Int32) <<< ((((y1 * (y1 - (1 : Int32))) / (2 : Int32)) + (imin u0 u1)) &&& 31))
/-! CopyOrders$Copy.append(I)V -/
def m_X1_append_B59 (F : Nat) (v0 : Option Nat) (v1 : Int32) (fa : Hp) : Option Hp :=
(gI fa v0 0 2).bind fun x13 =>
(gI fa v0 0 1).bind fun x14 =>
(pV fa v0 0 2 (.int (x13 ||| (v1 <<< (((4 : Int32) * x14) &&& 31))))).bind fun f15 =>
(gI f15 v0 0 3).bind fun x16 =>
(pV f15 v0 0 3 (.int (x16 ||| ((1 : Int32) <<< (v1 &&& 31))))).bind fun f17 =>
(gI f17 v0 0 1).bind fun x18 =>
(pV f17 v0 0 1 (.int (x18 + (1 : Int32)))).bind fun f19 =>
some f19
def m_X1_append_b2 (F : Nat) (rc2 : (Option Nat) → Int32 → Int32 → Hp → Option Hp) (v0 : Option Nat) (v1 : Int32) (v2 : Int32) (fa : Hp) : Option Hp :=
(gI fa v0 0 1).bind fun x1 =>
if x1 ≤ v2 then
(m_X1_append_B59 F v0 v1 fa)
else
((gI fa v0 0 2).bind fun x3 =>
(m_X11_lineOf F x3 v2 fa).bind fun x4 =>
(m_X11_pairBit F x4 v1 fa).bind fun x5 =>
(gI fa v0 0 4).bind fun x6 =>
(pV fa v0 0 4 (.int (x6 ||| x5))).bind fun f7 =>
if x4 ≤ v1 then
(nmd (v2 + (1 : Int32)) fun y9 =>
rc2 v0 v1 y9 f7)
else
((gI f7 v0 0 5).bind fun x10 =>
(pV f7 v0 0 5 (.int (x10 ||| x5))).bind fun f11 =>
nmd (v2 + (1 : Int32)) fun y12 =>
rc2 v0 v1 y12 f11))
def m_X1_append_L2 (F : Nat) : Nat → Option Nat → Int32 → Int32 → Hp → Option Hp
  | 0, _, _, _, _ => none
  | k + 1, v0, v1, v2, fa => m_X1_append_b2 F (m_X1_append_L2 F k) v0 v1 v2 fa
def m_X1_append (F : Nat) (u0 : Option Nat) (u1 : Int32) (f : Hp) : Option Hp :=
m_X1_append_L2 F F u0 u1 (0 : Int32) f
/-! CopyOrders.add()I -/
def m_X11_add_B73 (F : Nat) (v0 : Option Nat) (fa : Hp) : Option ((Int32) × Hp) :=
(gR fa v0 9 2).bind fun x13 =>
(gI fa x13 3 1).bind fun x14 =>
(pV fa x13 3 1 (.int (x14 + (1 : Int32)))).bind fun f15 =>
(gR f15 v0 9 2).bind fun x16 =>
(gI f15 x16 3 1).bind fun x17 =>
some ((x17 - (1 : Int32)), f15)
def m_X11_add_b26 (F : Nat) (rc26 : (Option Nat) → Int32 → (Option Nat) → Int32 → Hp → Option ((Int32) × Hp)) (v0 : Option Nat) (v1 : Int32) (v2 : Option Nat) (v3 : Int32) (fa : Hp) : Option ((Int32) × Hp) :=
if v1 ≤ v3 then
(m_X11_add_B73 F v0 fa)
else
(chk (isO fa v0 9) <|
(m_X11_byteAt F v0 v3 fa).bind fun x3 =>
(gR fa v0 9 2).bind fun x4 =>
(gI fa x4 3 0).bind fun x5 =>
if x5 ≤ x3 then
(some ((-1 : Int32), fa))
else
(chk (isO fa v2 0) <|
(m_X1_hasLine F v2 x3 fa).bind fun x8 =>
if x8 = 0 then
(chk (isO fa v2 0) <|
(m_X1_append F v2 x3 fa).bind fun f11 =>
nmd (v3 + (1 : Int32)) fun y12 =>
rc26 v0 v1 v2 y12 f11)
else
(some ((-1 : Int32), fa))))
def m_X11_add_L26 (F : Nat) : Nat → Option Nat → Int32 → Option Nat → Int32 → Hp → Option ((Int32) × Hp)
  | 0, _, _, _, _, _ => none
  | k + 1, v0, v1, v2, v3, fa => m_X11_add_b26 F (m_X11_add_L26 F k) v0 v1 v2 v3 fa
def m_X11_add (F : Nat) (u0 : Option Nat) (f : Hp) : Option ((Int32) × Hp) :=
chk (isO f u0 9) <|
bd2 (m_X11_takeTape F u0 f) fun x19 f20 =>
(gR f20 u0 9 2).bind fun x21 =>
chk (isO f20 x21 3) <|
bd2 (m_X4_nextCopy F x21 f20) fun x23 f24 =>
if x23 = none then
(some ((-1 : Int32), f24))
else
(if (1 : Int32) ≤ x19 then
(m_X11_add_L26 F F u0 x19 x23 (0 : Int32) f24)
else
(some ((-1 : Int32), f24)))
/-! CopyOrders.isWithin(II)Z -/
def m_X11_isWithin (F : Nat) (u0 : Int32) (u1 : Int32) (f : Hp) : Option Int32 :=
if u0 < 0 then
(chk (okZ (0 : Int32)) <|
some (0 : Int32))
else
(if u1 < u0 then
(chk (okZ (0 : Int32)) <|
some (0 : Int32))
else
(chk (okZ (1 : Int32)) <|
some (1 : Int32)))
/-! CopyOrders.factorial(I)I -/
def m_X11_factorial (F : Nat) (u0 : Int32) (f : Hp) : Option Int32 :=
if u0 < 0 then
(some (1 : Int32))
else
((alen f 1 (some 30)).bind fun x2 =>
if x2 ≤ u0 then
(some (1 : Int32))
else
((ldI f 1 (some 30) u0).bind fun x4 =>
some x4))
/-! CopyOrders$Copy.<init>()V -/
def m_X1_init (F : Nat) (u0 : Option Nat) (f : Hp) : Option Hp :=
chk (isS u0) <|
some f
/-! CopyOrders$Orders.lowerBehind(LCopyOrders$Copy;I)I -/
def m_X6_lowerBehind_b6 (F : Nat) (rc6 : (Option Nat) → Int32 → Int32 → Int32 → Hp → Option Int32) (v0 : Option Nat) (v1 : Int32) (v2 : Int32) (v3 : Int32) (f : Hp) : Option Int32 :=
(gI f v0 0 1).bind fun x1 =>
if x1 ≤ v3 then
(some v2)
else
((gI f v0 0 2).bind fun x3 =>
(m_X11_lineOf F x3 v3 f).bind fun x4 =>
(gI f v0 0 2).bind fun x5 =>
(m_X11_lineOf F x5 v1 f).bind fun x6 =>
if x6 ≤ x4 then
(nmd (v3 + (1 : Int32)) fun y8 =>
rc6 v0 v1 v2 y8 f)
else
(nmd (v2 + (1 : Int32)) fun y9 =>
nmd (v3 + (1 : Int32)) fun y10 =>
rc6 v0 v1 y9 y10 f))
def m_X6_lowerBehind_L6 (F : Nat) : Nat → Option Nat → Int32 → Int32 → Int32 → Hp → Option Int32
  | 0, _, _, _, _, _ => none
  | k + 1, v0, v1, v2, v3, f => m_X6_lowerBehind_b6 F (m_X6_lowerBehind_L6 F k) v0 v1 v2 v3 f
def m_X6_lowerBehind (F : Nat) (u0 : Option Nat) (u1 : Int32) (f : Hp) : Option Int32 :=
nmd ((u1 + (1 : Int32))) fun y11 =>
m_X6_lowerBehind_L6 F F u0 u1 (0 : Int32) y11 f
/-! CopyOrders$Orders.putExchanges(ILCopyOrders$Copy;)V -/
def m_X6_putExchanges_B86 (F : Nat) (rc2 : (Option Nat) → Int32 → (Option Nat) → Int32 → Hp → Option Hp) (v0 : Option Nat) (v1 : Int32) (v2 : Option Nat) (v3 : Int32) (v4 : Int32) (v5 : Int32) (v7 : Int32) (s0 : Int32) (fa : Hp) : Option Hp :=
(gR fa v0 5 5).bind fun x12 =>
(gI fa v0 5 0).bind fun x13 =>
(gI fa v0 5 0).bind fun x14 =>
(m_X11_factorial F (((x14 - (1 : Int32)) - v3)) fa).bind fun x15 =>
(gI fa v0 5 0).bind fun x16 =>
(m_X11_factorial F (((x16 - (2 : Int32)) - v3)) fa).bind fun x17 =>
(stI fa 1 x12 ((v1 * (x13 - (1 : Int32))) + v3) ((v1 + ((v7 - v4) * x15)) + ((s0 - v5) * x17))).bind fun f18 =>
nmd (v3 + (1 : Int32)) fun y19 =>
rc2 v0 v1 v2 y19 f18
def m_X6_putExchanges_B70 (F : Nat) (rc2 : (Option Nat) → Int32 → (Option Nat) → Int32 → Hp → Option Hp) (v0 : Option Nat) (v1 : Int32) (v2 : Option Nat) (v3 : Int32) (v4 : Int32) (v5 : Int32) (v6 : Int32) (s0 : Int32) (fa : Hp) : Option Hp :=
if v6 = 0 then
(m_X6_putExchanges_B86 F rc2 v0 v1 v2 v3 v4 v5 s0 v4 fa)
else
(m_X6_putExchanges_B86 F rc2 v0 v1 v2 v3 v4 v5 s0 ((v4 - (1 : Int32))) fa)
def m_X6_putExchanges_B54 (F : Nat) (rc2 : (Option Nat) → Int32 → (Option Nat) → Int32 → Hp → Option Hp) (v0 : Option Nat) (v1 : Int32) (v2 : Option Nat) (v3 : Int32) (v4 : Int32) (v5 : Int32) (s0 : Int32) (fa : Hp) : Option Hp :=
if s0 = 0 then
(m_X6_putExchanges_B70 F rc2 v0 v1 v2 v3 v4 v5 s0 ((v5 + (1 : Int32))) fa)
else
(m_X6_putExchanges_B70 F rc2 v0 v1 v2 v3 v4 v5 s0 v5 fa)
def m_X6_putExchanges_b2 (F : Nat) (rc2 : (Option Nat) → Int32 → (Option Nat) → Int32 → Hp → Option Hp) (v0 : Option Nat) (v1 : Int32) (v2 : Option Nat) (v3 : Int32) (fa : Hp) : Option Hp :=
(gI fa v0 5 0).bind fun x1 =>
if (x1 - (1 : Int32)) ≤ v3 then
(some fa)
else
((m_X6_lowerBehind F v2 v3 fa).bind fun x3 =>
(m_X6_lowerBehind F v2 ((v3 + (1 : Int32))) fa).bind fun x4 =>
(gI fa v2 0 2).bind fun x5 =>
(m_X11_lineOf F x5 v3 fa).bind fun x6 =>
(gI fa v2 0 2).bind fun x7 =>
(m_X11_lineOf F x7 ((v3 + (1 : Int32))) fa).bind fun x8 =>
if x6 ≤ x8 then
(m_X6_putExchanges_B54 F rc2 v0 v1 v2 v3 x3 x4 (0 : Int32) fa)
else
(m_X6_putExchanges_B54 F rc2 v0 v1 v2 v3 x3 x4 (1 : Int32) fa))
def m_X6_putExchanges_L2 (F : Nat) : Nat → Option Nat → Int32 → Option Nat → Int32 → Hp → Option Hp
  | 0, _, _, _, _, _ => none
  | k + 1, v0, v1, v2, v3, fa => m_X6_putExchanges_b2 F (m_X6_putExchanges_L2 F k) v0 v1 v2 v3 fa
def m_X6_putExchanges (F : Nat) (u0 : Option Nat) (u1 : Int32) (u2 : Option Nat) (f : Hp) : Option Hp :=
m_X6_putExchanges_L2 F F u0 u1 u2 (0 : Int32) f
/-! CopyOrders$Orders.exchange([III)V -/
def m_X6_exchange (F : Nat) (u0 : Option Nat) (u1 : Int32) (u2 : Int32) (f : Hp) : Option Hp :=
(ldI f 1 u0 u1).bind fun x1 =>
(ldI f 1 u0 u2).bind fun x2 =>
(stI f 1 u0 u1 x2).bind fun f3 =>
(stI f3 1 u0 u2 x1).bind fun f4 =>
some f4
/-! CopyOrders$Orders.rise([I)V -/
def m_X6_rise_b72 (F : Nat) (rc72 : (Option Nat) → Int32 → Int32 → Hp → Option Hp) (v0 : Option Nat) (v3 : Int32) (v4 : Int32) (fa : Hp) : Option Hp :=
if v4 ≤ v3 then
(some fa)
else
((m_X6_exchange F v0 v3 v4 fa).bind fun f19 =>
nmd (v3 + (1 : Int32)) fun y20 =>
nmd (v4 + (-1 : Int32)) fun y21 =>
rc72 v0 y20 y21 f19)
def m_X6_rise_L72 (F : Nat) : Nat → Option Nat → Int32 → Int32 → Hp → Option Hp
  | 0, _, _, _, _ => none
  | k + 1, v0, v3, v4, fa => m_X6_rise_b72 F (m_X6_rise_L72 F k) v0 v3 v4 fa
def m_X6_rise_B56 (F : Nat) (v0 : Option Nat) (v1 : Int32) (v2 : Int32) (fa : Hp) : Option Hp :=
(m_X6_exchange F v0 v1 v2 fa).bind fun f14 =>
nmd ((v1 + (1 : Int32))) fun y15 =>
(alen f14 1 v0).bind fun x16 =>
nmd ((x16 - (1 : Int32))) fun y17 =>
m_X6_rise_L72 F F v0 y15 y17 f14
def m_X6_rise_b36 (F : Nat) (rc36 : (Option Nat) → Int32 → Int32 → Hp → Option Hp) (v0 : Option Nat) (v1 : Int32) (v2 : Int32) (fa : Hp) : Option Hp :=
if v2 ≤ v1 then
(m_X6_rise_B56 F v0 v1 v2 fa)
else
((ldI fa 1 v0 v2).bind fun x10 =>
(ldI fa 1 v0 v1).bind fun x11 =>
if x11 ≤ x10 then
(m_X6_rise_B56 F v0 v1 v2 fa)
else
(nmd (v2 + (-1 : Int32)) fun y13 =>
rc36 v0 v1 y13 fa))
def m_X6_rise_L36 (F : Nat) : Nat → Option Nat → Int32 → Int32 → Hp → Option Hp
  | 0, _, _, _, _ => none
  | k + 1, v0, v1, v2, fa => m_X6_rise_b36 F (m_X6_rise_L36 F k) v0 v1 v2 fa
def m_X6_rise_B26 (F : Nat) (v0 : Option Nat) (v1 : Int32) (fa : Hp) : Option Hp :=
if 0 ≤ v1 then
((alen fa 1 v0).bind fun x7 =>
nmd ((x7 - (1 : Int32))) fun y8 =>
m_X6_rise_L36 F F v0 v1 y8 fa)
else
(some fa)
def m_X6_rise_b5 (F : Nat) (rc5 : (Option Nat) → Int32 → Hp → Option Hp) (v0 : Option Nat) (v1 : Int32) (fa : Hp) : Option Hp :=
if v1 < 0 then
(m_X6_rise_B26 F v0 v1 fa)
else
((ldI fa 1 v0 v1).bind fun x2 =>
(ldI fa 1 v0 (v1 + (1 : Int32))).bind fun x3 =>
if x2 ≤ x3 then
(m_X6_rise_B26 F v0 v1 fa)
else
(nmd (v1 + (-1 : Int32)) fun y5 =>
rc5 v0 y5 fa))
def m_X6_rise_L5 (F : Nat) : Nat → Option Nat → Int32 → Hp → Option Hp
  | 0, _, _, _ => none
  | k + 1, v0, v1, fa => m_X6_rise_b5 F (m_X6_rise_L5 F k) v0 v1 fa
def m_X6_rise (F : Nat) (u0 : Option Nat) (f : Hp) : Option Hp :=
(alen f 1 u0).bind fun x22 =>
nmd ((x22 - (2 : Int32))) fun y23 =>
m_X6_rise_L5 F F u0 y23 f
/-! CopyOrders$Orders.<init>(I)V -/
def m_X6_init_B198 (F : Nat) (rc159 : (Option Nat) → (Option Nat) → (Option Nat) → Int32 → Hp → Nat → Nat → Option (Hp × Nat × Nat)) (v0 : Option Nat) (v2 : Option Nat) (v3 : Option Nat) (v4 : Int32) (fa : Hp) (na za : Nat) : Option (Hp × Nat × Nat) :=
(gR fa v0 5 3).bind fun x17 =>
(gI fa v2 0 2).bind fun x18 =>
(stI fa 1 x17 v4 x18).bind fun f19 =>
(gR f19 v0 5 4).bind fun x20 =>
(gI f19 v2 0 5).bind fun x21 =>
(stI f19 1 x20 v4 x21).bind fun f22 =>
chk (isO f22 v0 5) <|
grow pr3 (na) (za) <|
(m_X6_putExchanges F v0 v4 v2 f22).bind fun f25 =>
grow pr3 (na) (za) <|
(m_X6_rise F v3 f25).bind fun f27 =>
nmd (v4 + (1 : Int32)) fun y28 =>
rc159 v0 v2 v3 y28 f27 (na) (za)
def m_X6_init_b175 (F : Nat) (rc159 : (Option Nat) → (Option Nat) → (Option Nat) → Int32 → Hp → Nat → Nat → Option (Hp × Nat × Nat)) (rc175 : (Option Nat) → (Option Nat) → (Option Nat) → Int32 → Int32 → Hp → Nat → Nat → Option (Hp × Nat × Nat)) (v0 : Option Nat) (v2 : Option Nat) (v3 : Option Nat) (v4 : Int32) (v5 : Int32) (fa : Hp) (na za : Nat) : Option (Hp × Nat × Nat) :=
(gI fa v0 5 0).bind fun x10 =>
if x10 ≤ v5 then
(m_X6_init_B198 F rc159 v0 v2 v3 v4 fa (na) (za))
else
((ldI fa 1 v3 v5).bind fun x12 =>
chk (isO fa v2 0) <|
grow pr3 (na) (za) <|
(m_X1_append F v2 x12 fa).bind fun f15 =>
nmd (v5 + (1 : Int32)) fun y16 =>
rc175 v0 v2 v3 v4 y16 f15 (na) (za))
def m_X6_init_L175 (F : Nat) (rc159 : (Option Nat) → (Option Nat) → (Option Nat) → Int32 → Hp → Nat → Nat → Option (Hp × Nat × Nat)) : Nat → Option Nat → Option Nat → Option Nat → Int32 → Int32 → Hp → Nat → Nat → Option (Hp × Nat × Nat)
  | 0, _, _, _, _, _, _, _, _ => none
  | k + 1, v0, v2, v3, v4, v5, fa, na, za => m_X6_init_b175 F rc159 (m_X6_init_L175 F rc159 k) v0 v2 v3 v4 v5 fa na za
def m_X6_init_b159 (F : Nat) (rc159 : (Option Nat) → (Option Nat) → (Option Nat) → Int32 → Hp → Nat → Nat → Option (Hp × Nat × Nat)) (v0 : Option Nat) (v2 : Option Nat) (v3 : Option Nat) (v4 : Int32) (fa : Hp) (na za : Nat) : Option (Hp × Nat × Nat) :=
(gI fa v0 5 1).bind fun x5 =>
if x5 ≤ v4 then
(some (fa, na, za))
else
(chk (isO fa v2 0) <|
grow pr3 (na) (za) <|
(m_X1_clear F v2 fa).bind fun f9 =>
m_X6_init_L175 F rc159 F v0 v2 v3 v4 (0 : Int32) f9 (na) (za))
def m_X6_init_L159 (F : Nat) : Nat → Option Nat → Option Nat → Option Nat → Int32 → Hp → Nat → Nat → Option (Hp × Nat × Nat)
  | 0, _, _, _, _, _, _, _ => none
  | k + 1, v0, v2, v3, v4, fa, na, za => m_X6_init_b159 F (m_X6_init_L159 F k) v0 v2 v3 v4 fa na za
def m_X6_init_b135 (F : Nat) (rc135 : (Option Nat) → (Option Nat) → (Option Nat) → Int32 → Hp → Nat → Nat → Option (Hp × Nat × Nat)) (v0 : Option Nat) (v2 : Option Nat) (v3 : Option Nat) (v4 : Int32) (fa : Hp) (na za : Nat) : Option (Hp × Nat × Nat) :=
(gI fa v0 5 0).bind fun x1 =>
if x1 ≤ v4 then
(m_X6_init_L159 F F v0 v2 v3 (0 : Int32) fa (na) (za))
else
((stI fa 1 v3 v4 v4).bind fun f3 =>
nmd (v4 + (1 : Int32)) fun y4 =>
rc135 v0 v2 v3 y4 f3 (na) (za))
def m_X6_init_L135 (F : Nat) : Nat → Option Nat → Option Nat → Option Nat → Int32 → Hp → Nat → Nat → Option (Hp × Nat × Nat)
  | 0, _, _, _, _, _, _, _ => none
  | k + 1, v0, v2, v3, v4, fa, na, za => m_X6_init_b135 F (m_X6_init_L135 F k) v0 v2 v3 v4 fa na za
def m_X6_init (F : Nat) (u0 : Option Nat) (u1 : Int32) (f : Hp) (n z : Nat) : Option (Hp × Nat × Nat) :=
chk (isS u0) <|
grow pr3 (n) (z) <|
grow pr3 (n) (z) <|
(pV f u0 5 0 (.int (imax (2 : Int32) ((imin (7 : Int32) u1))))).bind fun f32 =>
(gI f32 u0 5 0).bind fun x33 =>
grow pr3 (n) (z) <|
(m_X11_factorial F x33 f32).bind fun x35 =>
(pV f32 u0 5 1 (.int x35)).bind fun f36 =>
(gI f36 u0 5 0).bind fun x37 =>
(gI f36 u0 5 0).bind fun x38 =>
chk (decide (¬ (2 : Int32) = 0)) <|
(pV f36 u0 5 2 (.int (((1 : Int32) <<< (((x37 * (x38 - (1 : Int32))) / (2 : Int32)) &&& 31)) - (1 : Int32)))).bind fun f40 =>
(gI f40 u0 5 1).bind fun x41 =>
chk (decide (¬ x41 < 0 ∧ Int32.toNatClampNeg x41 ≤ 100000)) <|
grow pr3 (n + 1) (z + Int32.toNatClampNeg x41) <|
nmd (va_up f40 (n) (some (.inr (1, Int32.toNatClampNeg x41, .inl fun _ => 0)))) fun f44 =>
(pV f44 u0 5 3 (va_rf (some (n)))).bind fun f45 =>
(gI f45 u0 5 1).bind fun x46 =>
chk (decide (¬ x46 < 0 ∧ Int32.toNatClampNeg x46 ≤ 100000)) <|
grow pr3 (n + 1 + 1) (z + Int32.toNatClampNeg x41 + Int32.toNatClampNeg x46) <|
nmd (va_up f45 (n + 1) (some (.inr (1, Int32.toNatClampNeg x46, .inl fun _ => 0)))) fun f49 =>
(pV f49 u0 5 4 (va_rf (some (n + 1)))).bind fun f50 =>
(gI f50 u0 5 1).bind fun x51 =>
(gI f50 u0 5 0).bind fun x52 =>
chk (decide (¬ (x51 * (x52 - (1 : Int32))) < 0 ∧ Int32.toNatClampNeg (x51 * (x52 - (1 : Int32))) ≤ 100000)) <|
grow pr3 (n + 1 + 1 + 1) (z + Int32.toNatClampNeg x41 + Int32.toNatClampNeg x46 + Int32.toNatClampNeg (x51 * (x52 - (1 : Int32)))) <|
nmd (va_up f50 (n + 1 + 1) (some (.inr (1, Int32.toNatClampNeg (x51 * (x52 - (1 : Int32))), .inl fun _ => 0)))) fun f55 =>
(pV f55 u0 5 5 (va_rf (some (n + 1 + 1)))).bind fun f56 =>
(gI f56 u0 5 1).bind fun x57 =>
chk (decide (¬ x57 < 0 ∧ Int32.toNatClampNeg x57 ≤ 100000)) <|
grow pr3 (n + 1 + 1 + 1 + 1) (z + Int32.toNatClampNeg x41 + Int32.toNatClampNeg x46 + Int32.toNatClampNeg (x51 * (x52 - (1 : Int32))) + Int32.toNatClampNeg x57) <|
nmd (va_up f56 (n + 1 + 1 + 1) (some (.inr (2, Int32.toNatClampNeg x57, .inr (.inl fun _ => 0))))) fun f60 =>
(pV f60 u0 5 6 (va_rf (some (n + 1 + 1 + 1)))).bind fun f61 =>
(gI f61 u0 5 1).bind fun x62 =>
chk (decide (¬ x62 < 0 ∧ Int32.toNatClampNeg x62 ≤ 100000)) <|
grow pr3 (n + 1 + 1 + 1 + 1 + 1) (z + Int32.toNatClampNeg x41 + Int32.toNatClampNeg x46 + Int32.toNatClampNeg (x51 * (x52 - (1 : Int32))) + Int32.toNatClampNeg x57 + Int32.toNatClampNeg x62) <|
nmd (va_up f61 (n + 1 + 1 + 1 + 1) (some (.inr (2, Int32.toNatClampNeg x62, .inr (.inl fun _ => 0))))) fun f65 =>
(pV f65 u0 5 7 (va_rf (some (n + 1 + 1 + 1 + 1)))).bind fun f66 =>
(gI f66 u0 5 1).bind fun x67 =>
chk (decide (¬ x67 < 0 ∧ Int32.toNatClampNeg x67 ≤ 100000)) <|
grow pr3 (n + 1 + 1 + 1 + 1 + 1 + 1) (z + Int32.toNatClampNeg x41 + Int32.toNatClampNeg x46 + Int32.toNatClampNeg (x51 * (x52 - (1 : Int32))) + Int32.toNatClampNeg x57 + Int32.toNatClampNeg x62 + Int32.toNatClampNeg x67) <|
nmd (va_up f66 (n + 1 + 1 + 1 + 1 + 1) (some (.inr (2, Int32.toNatClampNeg x67, .inr (.inl fun _ => 0))))) fun f70 =>
(pV f70 u0 5 8 (va_rf (some (n + 1 + 1 + 1 + 1 + 1)))).bind fun f71 =>
grow pr3 (n + 1 + 1 + 1 + 1 + 1 + 1 + 1) (z + Int32.toNatClampNeg x41 + Int32.toNatClampNeg x46 + Int32.toNatClampNeg (x51 * (x52 - (1 : Int32))) + Int32.toNatClampNeg x57 + Int32.toNatClampNeg x62 + Int32.toNatClampNeg x67 + 6) <|
nmd (va_up f71 (n + 1 + 1 + 1 + 1 + 1 + 1) (some (.inl (0, [.long 0, .int 0, .int 0, .int 0, .int 0, .int 0])))) fun f73 =>
grow pr3 (n + 1 + 1 + 1 + 1 + 1 + 1 + 1) (z + Int32.toNatClampNeg x41 + Int32.toNatClampNeg x46 + Int32.toNatClampNeg (x51 * (x52 - (1 : Int32))) + Int32.toNatClampNeg x57 + Int32.toNatClampNeg x62 + Int32.toNatClampNeg x67 + 6) <|
(m_X1_init F ((some (n + 1 + 1 + 1 + 1 + 1 + 1))) f73).bind fun f75 =>
(gI f75 u0 5 0).bind fun x76 =>
chk (decide (¬ x76 < 0 ∧ Int32.toNatClampNeg x76 ≤ 100000)) <|
grow pr3 (n + 1 + 1 + 1 + 1 + 1 + 1 + 1 + 1) (z + Int32.toNatClampNeg x41 + Int32.toNatClampNeg x46 + Int32.toNatClampNeg (x51 * (x52 - (1 : Int32))) + Int32.toNatClampNeg x57 + Int32.toNatClampNeg x62 + Int32.toNatClampNeg x67 + 6 + Int32.toNatClampNeg x76) <|
nmd (va_up f75 (n + 1 + 1 + 1 + 1 + 1 + 1 + 1) (some (.inr (1, Int32.toNatClampNeg x76, .inl fun _ => 0)))) fun f79 =>
m_X6_init_L135 F F u0 ((some (n + 1 + 1 + 1 + 1 + 1 + 1))) ((some (n + 1 + 1 + 1 + 1 + 1 + 1 + 1))) (0 : Int32) f79 (n + 1 + 1 + 1 + 1 + 1 + 1 + 1 + 1) (z + Int32.toNatClampNeg x41 + Int32.toNatClampNeg x46 + Int32.toNatClampNeg (x51 * (x52 - (1 : Int32))) + Int32.toNatClampNeg x57 + Int32.toNatClampNeg x62 + Int32.toNatClampNeg x67 + 6 + Int32.toNatClampNeg x76)
/-! CopyOrders.orders()LCopyOrders$Orders; -/
def m_X11_orders (F : Nat) (u0 : Option Nat) (f : Hp) (n z : Nat) : Option ((Option Nat) × Hp × Nat × Nat) :=
(gR f u0 9 2).bind fun x1 =>
(gI f x1 3 0).bind fun x2 =>
grow pr4 (n) (z) <|
grow pr4 (n) (z) <|
nmd ((imax (2 : Int32) ((imin (7 : Int32) x2)))) fun y5 =>
(gR f u0 9 6).bind fun x6 =>
(ldR f 7 x6 y5).bind fun x7 =>
if x7 = none then
((gR f u0 9 6).bind fun x11 =>
grow pr4 (n + 1) (z + 9) <|
nmd (va_up f (n) (some (.inl (5, [.int 0, .int 0, .int 0, .null, .null, .null, .null, .null, .null])))) fun f13 =>
bd3 (m_X6_init F ((some (n))) y5 f13 (n + 1) (z + 9)) fun f16 nq14 zq15 =>
chk (decide (n + 1 ≤ nq14 ∧ z + 9 ≤ zq15)) <|
grow pr4 nq14 zq15 <|
(stR f16 7 x11 y5 (some (n))).bind fun f19 =>
(gR f19 u0 9 6).bind fun x20 =>
(ldR f19 7 x20 y5).bind fun x21 =>
some (x21, f19, nq14, zq15))
else
((gR f u0 9 6).bind fun x9 =>
(ldR f 7 x9 y5).bind fun x10 =>
some (x10, f, n, z))
/-! java/util/Arrays.fill([JJ)V -/
def m_J7_fill_d0a16_b6 (F : Nat) (rc6 : (Option Nat) → Int64 → Int32 → Int32 → Hp → Option Hp) (v0 : Option Nat) (v1 : Int64) (v3 : Int32) (v4 : Int32) (fa : Hp) : Option Hp :=
if v4 ≤ v3 then
(some fa)
else
((stJ fa v0 v3 v1).bind fun f2 =>
nmd (v3 + (1 : Int32)) fun y3 =>
rc6 v0 v1 y3 v4 f2)
def m_J7_fill_d0a16_L6 (F : Nat) : Nat → Option Nat → Int64 → Int32 → Int32 → Hp → Option Hp
  | 0, _, _, _, _, _ => none
  | k + 1, v0, v1, v3, v4, fa => m_J7_fill_d0a16_b6 F (m_J7_fill_d0a16_L6 F k) v0 v1 v3 v4 fa
def m_J7_fill_d0a16 (F : Nat) (u0 : Option Nat) (u1 : Int64) (f : Hp) : Option Hp :=
(alen f 2 u0).bind fun x4 =>
m_J7_fill_d0a16_L6 F F u0 u1 (0 : Int32) x4 f
/-! CopyOrders$Orders.has(I)Z -/
def m_X6_has (F : Nat) (u0 : Option Nat) (u1 : Int32) (f : Hp) : Option Int32 :=
if u1 < 0 then
(chk (okZ (0 : Int32)) <|
some (0 : Int32))
else
((gI f u0 5 1).bind fun x3 =>
if x3 ≤ u1 then
(chk (okZ (0 : Int32)) <|
some (0 : Int32))
else
(chk (okZ (1 : Int32)) <|
some (1 : Int32)))
/-! CopyOrders$Orders.exchanged(II)I -/
def m_X6_exchanged (F : Nat) (u0 : Option Nat) (u1 : Int32) (u2 : Int32) (f : Hp) : Option Int32 :=
(gI f u0 5 0).bind fun x1 =>
nmd (((u1 * (x1 - (1 : Int32))) + u2)) fun y2 =>
if y2 < 0 then
(some u1)
else
((gR f u0 5 5).bind fun x4 =>
(alen f 1 x4).bind fun x5 =>
if x5 ≤ y2 then
(some u1)
else
((gR f u0 5 5).bind fun x7 =>
(ldI f 1 x7 y2).bind fun x8 =>
some x8))
/-! CopyOrders$Orders.passOn(I[I)V -/
def m_X6_passOn_b2 (F : Nat) (rc2 : (Option Nat) → Int32 → (Option Nat) → Int32 → Hp → Option Hp) (v0 : Option Nat) (v1 : Int32) (v2 : Option Nat) (v3 : Int32) (fa : Hp) : Option Hp :=
(gI fa v0 5 0).bind fun x1 =>
if (x1 - (1 : Int32)) ≤ v3 then
(some fa)
else
((alen fa 1 v2).bind fun x3 =>
if x3 ≤ v3 then
(some fa)
else
(chk (isO fa v0 5) <|
(m_X6_exchanged F v0 v1 v3 fa).bind fun x6 =>
chk (isO fa v0 5) <|
(m_X6_has F v0 x6 fa).bind fun x8 =>
if x8 = 0 then
(nmd (v3 + (1 : Int32)) fun y10 =>
rc2 v0 v1 v2 y10 fa)
else
((gR fa v0 5 7).bind fun x11 =>
(ldJ fa x11 x6).bind fun x12 =>
(gR fa v0 5 6).bind fun x13 =>
(ldJ fa x13 v1).bind fun x14 =>
(ldI fa 1 v2 v3).bind fun x15 =>
(stJ fa x11 x6 (x12 + (x14 * (Int32.toInt64 x15)))).bind fun f16 =>
nmd (v3 + (1 : Int32)) fun y17 =>
rc2 v0 v1 v2 y17 f16)))
def m_X6_passOn_L2 (F : Nat) : Nat → Option Nat → Int32 → Option Nat → Int32 → Hp → Option Hp
  | 0, _, _, _, _, _ => none
  | k + 1, v0, v1, v2, v3, fa => m_X6_passOn_b2 F (m_X6_passOn_L2 F k) v0 v1 v2 v3 fa
def m_X6_passOn (F : Nat) (u0 : Option Nat) (u1 : Int32) (u2 : Option Nat) (f : Hp) : Option Hp :=
m_X6_passOn_L2 F F u0 u1 u2 (0 : Int32) f
/-! CopyOrders$Orders.spread(II[I)V -/
def m_X6_spread_B78 (F : Nat) (rc27 : (Option Nat) → Int32 → (Option Nat) → Int32 → Hp → Option Hp) (v0 : Option Nat) (v2 : Int32) (v3 : Option Nat) (v4 : Int32) (fa : Hp) : Option Hp :=
(gR fa v0 5 6).bind fun x13 =>
(gR fa v0 5 7).bind fun x14 =>
(pV fa v0 5 6 (va_rf x14)).bind fun f15 =>
(pV f15 v0 5 7 (va_rf x13)).bind fun f16 =>
nmd (v4 + (1 : Int32)) fun y17 =>
rc27 v0 v2 v3 y17 f16
def m_X6_spread_b44 (F : Nat) (rc27 : (Option Nat) → Int32 → (Option Nat) → Int32 → Hp → Option Hp) (rc44 : (Option Nat) → Int32 → (Option Nat) → Int32 → Int32 → Hp → Option Hp) (v0 : Option Nat) (v2 : Int32) (v3 : Option Nat) (v4 : Int32) (v5 : Int32) (fa : Hp) : Option Hp :=
(gI fa v0 5 1).bind fun x4 =>
if x4 ≤ v5 then
(m_X6_spread_B78 F rc27 v0 v2 v3 v4 fa)
else
((gR fa v0 5 6).bind fun x6 =>
(ldJ fa x6 v5).bind fun x7 =>
if (lg_cmp x7 (0 : Int64)) = 0 then
(nmd (v5 + (1 : Int32)) fun y9 =>
rc44 v0 v2 v3 v4 y9 fa)
else
(chk (isO fa v0 5) <|
(m_X6_passOn F v0 v5 v3 fa).bind fun f11 =>
nmd (v5 + (1 : Int32)) fun y12 =>
rc44 v0 v2 v3 v4 y12 f11))
def m_X6_spread_L44 (F : Nat) (rc27 : (Option Nat) → Int32 → (Option Nat) → Int32 → Hp → Option Hp) : Nat → Option Nat → Int32 → Option Nat → Int32 → Int32 → Hp → Option Hp
  | 0, _, _, _, _, _, _ => none
  | k + 1, v0, v2, v3, v4, v5, fa => m_X6_spread_b44 F rc27 (m_X6_spread_L44 F rc27 k) v0 v2 v3 v4 v5 fa
def m_X6_spread_b27 (F : Nat) (rc27 : (Option Nat) → Int32 → (Option Nat) → Int32 → Hp → Option Hp) (v0 : Option Nat) (v2 : Int32) (v3 : Option Nat) (v4 : Int32) (fa : Hp) : Option Hp :=
if v2 ≤ v4 then
(some fa)
else
((gR fa v0 5 7).bind fun x2 =>
(m_J7_fill_d0a16 F x2 (0 : Int64) fa).bind fun f3 =>
m_X6_spread_L44 F rc27 F v0 v2 v3 v4 (0 : Int32) f3)
def m_X6_spread_L27 (F : Nat) : Nat → Option Nat → Int32 → Option Nat → Int32 → Hp → Option Hp
  | 0, _, _, _, _, _ => none
  | k + 1, v0, v2, v3, v4, fa => m_X6_spread_b27 F (m_X6_spread_L27 F k) v0 v2 v3 v4 fa
def m_X6_spread (F : Nat) (u0 : Option Nat) (u1 : Int32) (u2 : Int32) (u3 : Option Nat) (f : Hp) : Option Hp :=
(gR f u0 5 6).bind fun x18 =>
(m_J7_fill_d0a16 F x18 (0 : Int64) f).bind fun f19 =>
chk (isO f19 u0 5) <|
(m_X6_has F u0 u1 f19).bind fun x21 =>
if x21 = 0 then
(some f19)
else
((gR f19 u0 5 6).bind fun x23 =>
(stJ f19 x23 u1 (1 : Int64)).bind fun f24 =>
m_X6_spread_L27 F F u0 u2 u3 (0 : Int32) f24)
/-! CopyOrders.again(I)I -/
def m_X11_again (F : Nat) (u0 : Option Nat) (u1 : Int32) (f : Hp) (n z : Nat) : Option ((Int32) × Hp × Nat × Nat) :=
grow pr4 (n) (z) <|
(m_X11_isWithin F u1 (10 : Int32) f).bind fun x2 =>
if x2 = 0 then
(some ((-1 : Int32), f, n, z))
else
(chk (isO f u0 9) <|
bd4 (m_X11_orders F u0 f (n) (z)) fun x8 f7 nq5 zq6 =>
chk (decide (n ≤ nq5 ∧ z ≤ zq6)) <|
grow pr4 nq5 zq6 <|
chk (isO f7 x8 5) <|
grow pr4 (nq5) (zq6) <|
(m_X6_spread F x8 (0 : Int32) u1 (some 31) f7).bind fun f13 =>
(gR f13 x8 5 6).bind fun x14 =>
(ldJ f13 x14 (0 : Int32)).bind fun x15 =>
some ((Int64.toInt32 x15), f13, nq5, zq6))
/-! CopyOrders.areCopies(I)Z -/
def m_X11_areCopies_b2 (F : Nat) (rc2 : (Option Nat) → Int32 → Int32 → Hp → Option Int32) (v0 : Option Nat) (v1 : Int32) (v2 : Int32) (f : Hp) : Option Int32 :=
if v1 ≤ v2 then
(chk (okZ (1 : Int32)) <|
some (1 : Int32))
else
(chk (isO f v0 9) <|
(m_X11_byteAt F v0 v2 f).bind fun x4 =>
(gR f v0 9 2).bind fun x5 =>
(gI f x5 3 1).bind fun x6 =>
if x4 < x6 then
(nmd (v2 + (1 : Int32)) fun y8 =>
rc2 v0 v1 y8 f)
else
(chk (okZ (0 : Int32)) <|
some (0 : Int32)))
def m_X11_areCopies_L2 (F : Nat) : Nat → Option Nat → Int32 → Int32 → Hp → Option Int32
  | 0, _, _, _, _ => none
  | k + 1, v0, v1, v2, f => m_X11_areCopies_b2 F (m_X11_areCopies_L2 F k) v0 v1 v2 f
def m_X11_areCopies (F : Nat) (u0 : Option Nat) (u1 : Int32) (f : Hp) : Option Int32 :=
m_X11_areCopies_L2 F F u0 u1 (0 : Int32) f
/-! CopyOrders.areUnlike(I)Z -/
def m_X11_areUnlike_b9 (F : Nat) (rc2 : (Option Nat) → Int32 → Int32 → Hp → Option Int32) (rc9 : (Option Nat) → Int32 → Int32 → Int32 → Hp → Option Int32) (v0 : Option Nat) (v1 : Int32) (v2 : Int32) (v3 : Int32) (f : Hp) : Option Int32 :=
if v2 ≤ v3 then
(nmd (v2 + (1 : Int32)) fun y4 =>
rc2 v0 v1 y4 f)
else
(chk (isO f v0 9) <|
(m_X11_byteAt F v0 v2 f).bind fun x6 =>
chk (isO f v0 9) <|
(m_X11_byteAt F v0 v3 f).bind fun x8 =>
if x6 = x8 then
(chk (okZ (0 : Int32)) <|
some (0 : Int32))
else
(nmd (v3 + (1 : Int32)) fun y10 =>
rc9 v0 v1 v2 y10 f))
def m_X11_areUnlike_L9 (F : Nat) (rc2 : (Option Nat) → Int32 → Int32 → Hp → Option Int32) : Nat → Option Nat → Int32 → Int32 → Int32 → Hp → Option Int32
  | 0, _, _, _, _, _ => none
  | k + 1, v0, v1, v2, v3, f => m_X11_areUnlike_b9 F rc2 (m_X11_areUnlike_L9 F rc2 k) v0 v1 v2 v3 f
def m_X11_areUnlike_b2 (F : Nat) (rc2 : (Option Nat) → Int32 → Int32 → Hp → Option Int32) (v0 : Option Nat) (v1 : Int32) (v2 : Int32) (f : Hp) : Option Int32 :=
if v1 ≤ v2 then
(chk (okZ (1 : Int32)) <|
some (1 : Int32))
else
(m_X11_areUnlike_L9 F rc2 F v0 v1 v2 (0 : Int32) f)
def m_X11_areUnlike_L2 (F : Nat) : Nat → Option Nat → Int32 → Int32 → Hp → Option Int32
  | 0, _, _, _, _ => none
  | k + 1, v0, v1, v2, f => m_X11_areUnlike_b2 F (m_X11_areUnlike_L2 F k) v0 v1 v2 f
def m_X11_areUnlike (F : Nat) (u0 : Option Nat) (u1 : Int32) (f : Hp) : Option Int32 :=
m_X11_areUnlike_L2 F F u0 u1 (0 : Int32) f
/-! CopyOrders$House.copyAt(I)LCopyOrders$Copy; -/
def m_X4_copyAt (F : Nat) (u0 : Option Nat) (u1 : Int32) (f : Hp) : Option (Option Nat) :=
if u1 < 0 then
(some none)
else
((gI f u0 3 1).bind fun x2 =>
if x2 ≤ u1 then
(some none)
else
(if (10 : Int32) ≤ u1 then
(some none)
else
((gR f u0 3 2).bind fun x5 =>
(ldR f 4 x5 u1).bind fun x6 =>
some x6)))
/-! CopyOrders$House.wholeAt(I)LCopyOrders$Copy; -/
def m_X4_wholeAt (F : Nat) (u0 : Option Nat) (u1 : Int32) (f : Hp) : Option (Option Nat) :=
chk (isO f u0 3) <|
(m_X4_copyAt F u0 u1 f).bind fun x2 =>
if x2 = none then
(some none)
else
((gI f x2 0 1).bind fun x4 =>
(gI f u0 3 0).bind fun x5 =>
if x4 = x5 then
(some x2)
else
(some none))
/-! java/lang/Integer.bitCount(I)I -/
def m_J6_bitCount_0f7a4 (F : Nat) (u0 : Int32) (f : Hp) : Option Int32 :=
nmd ((u0 - ((ius u0 (1 : Int32)) &&& (1431655765 : Int32)))) fun y1 =>
nmd (((y1 &&& (858993459 : Int32)) + ((ius y1 (2 : Int32)) &&& (858993459 : Int32)))) fun y2 =>
nmd (((y2 + (ius y2 (4 : Int32))) &&& (252645135 : Int32))) fun y3 =>
nmd ((y3 + (ius y3 (8 : Int32)))) fun y4 =>
nmd ((y4 + (ius y4 (16 : Int32)))) fun y5 =>
some (y5 &&& (63 : Int32))
/-! CopyOrders$Orders.stepsTo(ILCopyOrders$Copy;)I -/
def m_X6_stepsTo (F : Nat) (u0 : Option Nat) (u1 : Int32) (u2 : Option Nat) (f : Hp) : Option Int32 :=
(gR f u0 5 4).bind fun x1 =>
(ldI f 1 x1 u1).bind fun x2 =>
(gI f u2 0 5).bind fun x3 =>
(gI f u2 0 4).bind fun x4 =>
(m_J6_bitCount_0f7a4 F (((x2 ^^^ x3) &&& x4)) f).bind fun x5 =>
some x5
/-! CopyOrders$House.gainOf(II)I -/
def m_X4_gainOf (F : Nat) (u0 : Option Nat) (u1 : Int32) (u2 : Int32) (f : Hp) : Option Int32 :=
nmd (((u1 * (7 : Int32)) + u2)) fun y1 =>
if y1 < 0 then
(some (0 : Int32))
else
((gR f u0 3 10).bind fun x3 =>
(alen f 1 x3).bind fun x4 =>
if x4 ≤ y1 then
(some (0 : Int32))
else
((gR f u0 3 10).bind fun x6 =>
(ldI f 1 x6 y1).bind fun x7 =>
some x7))
/-! CopyOrders$House.songOf(II)I -/
def m_X4_songOf_b5 (F : Nat) (rc5 : (Option Nat) → Int32 → Int32 → Int32 → Int32 → Hp → Option Int32) (v0 : Option Nat) (v1 : Int32) (v2 : Int32) (v3 : Int32) (v4 : Int32) (f : Hp) : Option Int32 :=
if v2 ≤ v4 then
(some v3)
else
((m_X11_lineOf F v1 ((v4 - (1 : Int32))) f).bind fun x2 =>
(m_X11_lineOf F v1 v4 f).bind fun x3 =>
chk (isO f v0 3) <|
(m_X4_gainOf F v0 x2 x3 f).bind fun x5 =>
nmd ((v3 + x5)) fun y6 =>
nmd (v4 + (1 : Int32)) fun y7 =>
rc5 v0 v1 v2 y6 y7 f)
def m_X4_songOf_L5 (F : Nat) : Nat → Option Nat → Int32 → Int32 → Int32 → Int32 → Hp → Option Int32
  | 0, _, _, _, _, _, _ => none
  | k + 1, v0, v1, v2, v3, v4, f => m_X4_songOf_b5 F (m_X4_songOf_L5 F k) v0 v1 v2 v3 v4 f
def m_X4_songOf (F : Nat) (u0 : Option Nat) (u1 : Int32) (u2 : Int32) (f : Hp) : Option Int32 :=
m_X4_songOf_L5 F F u0 u1 u2 (0 : Int32) (1 : Int32) f
/-! CopyOrders.better(II)I -/
def m_X11_better_B111 (F : Nat) (rc42 : (Option Nat) → Int32 → (Option Nat) → (Option Nat) → Int32 → Int32 → Int32 → Int32 → Hp → Nat → Nat → Option ((Int32) × Hp × Nat × Nat)) (v0 : Option Nat) (v2 : Int32) (v3 : Option Nat) (v4 : Option Nat) (v8 : Int32) (v9 : Int32) (v10 : Int32) (fa : Hp) (na za : Nat) : Option ((Int32) × Hp × Nat × Nat) :=
nmd (v8 + (1 : Int32)) fun y20 =>
rc42 v0 v2 v3 v4 v10 v9 v8 y20 fa (na) (za)
def m_X11_better_b42 (F : Nat) (rc42 : (Option Nat) → Int32 → (Option Nat) → (Option Nat) → Int32 → Int32 → Int32 → Int32 → Hp → Nat → Nat → Option ((Int32) × Hp × Nat × Nat)) (v0 : Option Nat) (v2 : Int32) (v3 : Option Nat) (v4 : Option Nat) (v5 : Int32) (v6 : Int32) (v7 : Int32) (v8 : Int32) (fa : Hp) (na za : Nat) : Option ((Int32) × Hp × Nat × Nat) :=
(gI fa v4 5 1).bind fun x1 =>
if x1 ≤ v8 then
(some (v7, fa, na, za))
else
(chk (isO fa v4 5) <|
grow pr4 (na) (za) <|
(m_X6_stepsTo F v4 v8 v3 fa).bind fun x5 =>
if v2 < x5 then
(nmd (v8 + (1 : Int32)) fun y7 =>
rc42 v0 v2 v3 v4 v5 v6 v7 y7 fa (na) (za))
else
((gR fa v0 9 2).bind fun x8 =>
(gR fa v4 5 3).bind fun x9 =>
(ldI fa 1 x9 v8).bind fun x10 =>
(gI fa v4 5 0).bind fun x11 =>
chk (isO fa x8 3) <|
grow pr4 (na) (za) <|
(m_X4_songOf F x8 x10 x11 fa).bind fun x14 =>
if v5 < x14 then
(m_X11_better_B111 F rc42 v0 v2 v3 v4 v8 x5 x14 fa (na) (za))
else
(if x14 = v5 then
(if v6 ≤ x5 then
(nmd (v8 + (1 : Int32)) fun y19 =>
rc42 v0 v2 v3 v4 v5 v6 v7 y19 fa (na) (za))
else
(m_X11_better_B111 F rc42 v0 v2 v3 v4 v8 x5 x14 fa (na) (za)))
else
(nmd (v8 + (1 : Int32)) fun y17 =>
rc42 v0 v2 v3 v4 v5 v6 v7 y17 fa (na) (za)))))
def m_X11_better_L42 (F : Nat) : Nat → Option Nat → Int32 → Option Nat → Option Nat → Int32 → Int32 → Int32 → Int32 → Hp → Nat → Nat → Option ((Int32) × Hp × Nat × Nat)
  | 0, _, _, _, _, _, _, _, _, _, _, _ => none
  | k + 1, v0, v2, v3, v4, v5, v6, v7, v8, fa, na, za => m_X11_better_b42 F (m_X11_better_L42 F k) v0 v2 v3 v4 v5 v6 v7 v8 fa na za
def m_X11_better (F : Nat) (u0 : Option Nat) (u1 : Int32) (u2 : Int32) (f : Hp) (n z : Nat) : Option ((Int32) × Hp × Nat × Nat) :=
(gR f u0 9 2).bind fun x21 =>
chk (isO f x21 3) <|
grow pr4 (n) (z) <|
(m_X4_wholeAt F x21 u1 f).bind fun x24 =>
if x24 = none then
(some ((-1 : Int32), f, n, z))
else
(grow pr4 (n) (z) <|
(m_X11_isWithin F u2 (21 : Int32) f).bind fun x27 =>
if x27 = 0 then
(some ((-1 : Int32), f, n, z))
else
(chk (isO f u0 9) <|
bd4 (m_X11_orders F u0 f (n) (z)) fun x33 f32 nq30 zq31 =>
chk (decide (n ≤ nq30 ∧ z ≤ zq31)) <|
grow pr4 nq30 zq31 <|
m_X11_better_L42 F F u0 u2 x24 x33 (-1 : Int32) (0 : Int32) (-1 : Int32) (0 : Int32) f32 (nq30) (zq31)))
/-! CopyOrders$Copy.stepsTo(LCopyOrders$Copy;)I -/
def m_X1_stepsTo (F : Nat) (u0 : Option Nat) (u1 : Option Nat) (f : Hp) : Option Int32 :=
(gI f u0 0 5).bind fun x1 =>
(gI f u1 0 5).bind fun x2 =>
(gI f u0 0 4).bind fun x3 =>
(gI f u1 0 4).bind fun x4 =>
(m_J6_bitCount_0f7a4 F ((((x1 ^^^ x2) &&& x3) &&& x4)) f).bind fun x5 =>
some x5
/-! CopyOrders$Copy.fallenTo(LCopyOrders$Copy;)I -/
def m_X1_fallenTo (F : Nat) (u0 : Option Nat) (u1 : Option Nat) (f : Hp) : Option Int32 :=
(gI f u0 0 3).bind fun x1 =>
(gI f u1 0 3).bind fun x2 =>
(m_J6_bitCount_0f7a4 F ((x1 ^^^ x2)) f).bind fun x3 =>
some x3
/-! CopyOrders$Copy.farTo(LCopyOrders$Copy;)I -/
def m_X1_farTo (F : Nat) (u0 : Option Nat) (u1 : Option Nat) (f : Hp) : Option Int32 :=
chk (isO f u0 0) <|
(m_X1_stepsTo F u0 u1 f).bind fun x2 =>
chk (isO f u0 0) <|
(m_X1_fallenTo F u0 u1 f).bind fun x4 =>
some (x2 + ((3 : Int32) * x4))
/-! CopyOrders.between(III)I -/
def m_X11_between (F : Nat) (u0 : Option Nat) (u1 : Int32) (u2 : Int32) (u3 : Int32) (f : Hp) : Option Int32 :=
(gR f u0 9 2).bind fun x1 =>
chk (isO f x1 3) <|
(m_X4_copyAt F x1 u1 f).bind fun x3 =>
(gR f u0 9 2).bind fun x4 =>
chk (isO f x4 3) <|
(m_X4_copyAt F x4 u2 f).bind fun x6 =>
if x3 = none then
(some (-1 : Int32))
else
(if x6 = none then
(some (-1 : Int32))
else
(if u3 = (0 : Int32) then
(chk (isO f x3 0) <|
(m_X1_stepsTo F x3 x6 f).bind fun x11 =>
some x11)
else
if u3 = (1 : Int32) then
(chk (isO f x3 0) <|
(m_X1_fallenTo F x3 x6 f).bind fun x14 =>
some x14)
else
if u3 = (2 : Int32) then
(chk (isO f x3 0) <|
(m_X1_farTo F x3 x6 f).bind fun x17 =>
some x17)
else
(some (-1 : Int32))))
/-! CopyOrders.commonDivisor(JJ)J -/
def m_X11_commonDivisor_b9 (F : Nat) (rc9 : Int64 → Int64 → Int32 → Hp → Option Int64) (v4 : Int64) (v6 : Int64) (v8 : Int32) (f : Hp) : Option Int64 :=
if (200 : Int32) ≤ v8 then
(some v4)
else
(if (lg_cmp v6 (0 : Int64)) ≤ 0 then
(some v4)
else
(chk (decide (¬ v6 = 0)) <|
nmd ((lrm v4 v6)) fun y4 =>
nmd (v8 + (1 : Int32)) fun y5 =>
rc9 v6 y4 y5 f))
def m_X11_commonDivisor_L9 (F : Nat) : Nat → Int64 → Int64 → Int32 → Hp → Option Int64
  | 0, _, _, _, _ => none
  | k + 1, v4, v6, v8, f => m_X11_commonDivisor_b9 F (m_X11_commonDivisor_L9 F k) v4 v6 v8 f
def m_X11_commonDivisor (F : Nat) (u0 : Int64) (u2 : Int64) (f : Hp) : Option Int64 :=
m_X11_commonDivisor_L9 F F u0 u2 (0 : Int32) f
/-! CopyOrders.count(I)I -/
def m_X11_count (F : Nat) (u0 : Option Nat) (u1 : Int32) (f : Hp) : Option Int32 :=
if u1 = (0 : Int32) then
((gR f u0 9 2).bind fun x2 =>
(gI f x2 3 0).bind fun x3 =>
some x3)
else
if u1 = (1 : Int32) then
((gR f u0 9 2).bind fun x5 =>
(gI f x5 3 1).bind fun x6 =>
some x6)
else
if u1 = (2 : Int32) then
((gR f u0 9 2).bind fun x8 =>
(gI f x8 3 3).bind fun x9 =>
some x9)
else
if u1 = (3 : Int32) then
((gR f u0 9 2).bind fun x11 =>
(gI f x11 3 0).bind fun x12 =>
(m_X11_factorial F x12 f).bind fun x13 =>
some x13)
else
if u1 = (4 : Int32) then
((gR f u0 9 2).bind fun x15 =>
(gI f x15 3 6).bind fun x16 =>
some x16)
else
if u1 = (5 : Int32) then
((gR f u0 9 2).bind fun x18 =>
(gI f x18 3 9).bind fun x19 =>
some x19)
else
if u1 = (6 : Int32) then
((gI f u0 9 1).bind fun x21 =>
some x21)
else
(some (-1 : Int32))
/-! CopyOrders$House.allWeights()I -/
def m_X4_allWeights_b4 (F : Nat) (rc4 : (Option Nat) → Int32 → Int32 → Hp → Option Int32) (v0 : Option Nat) (v1 : Int32) (v2 : Int32) (f : Hp) : Option Int32 :=
(gI f v0 3 0).bind fun x1 =>
if (x1 - (1 : Int32)) ≤ v2 then
(some v1)
else
((gR f v0 3 5).bind fun x3 =>
(alen f 1 x3).bind fun x4 =>
if x4 ≤ v2 then
(some v1)
else
((gR f v0 3 5).bind fun x6 =>
(ldI f 1 x6 v2).bind fun x7 =>
nmd ((v1 + x7)) fun y8 =>
nmd (v2 + (1 : Int32)) fun y9 =>
rc4 v0 y8 y9 f))
def m_X4_allWeights_L4 (F : Nat) : Nat → Option Nat → Int32 → Int32 → Hp → Option Int32
  | 0, _, _, _, _ => none
  | k + 1, v0, v1, v2, f => m_X4_allWeights_b4 F (m_X4_allWeights_L4 F k) v0 v1 v2 f
def m_X4_allWeights (F : Nat) (u0 : Option Nat) (f : Hp) : Option Int32 :=
m_X4_allWeights_L4 F F u0 (0 : Int32) (0 : Int32) f
/-! CopyOrders$House.placeDrawn(I)I -/
def m_X4_placeDrawn_b4 (F : Nat) (rc4 : (Option Nat) → Int32 → Int32 → Int32 → Hp → Option Int32) (v0 : Option Nat) (v1 : Int32) (v2 : Int32) (v3 : Int32) (f : Hp) : Option Int32 :=
(gI f v0 3 0).bind fun x1 =>
if (x1 - (1 : Int32)) ≤ v3 then
(some (0 : Int32))
else
((gR f v0 3 5).bind fun x3 =>
(alen f 1 x3).bind fun x4 =>
if x4 ≤ v3 then
(some (0 : Int32))
else
((gR f v0 3 5).bind fun x6 =>
(ldI f 1 x6 v3).bind fun x7 =>
nmd ((v2 + x7)) fun y8 =>
if y8 ≤ v1 then
(nmd (v3 + (1 : Int32)) fun y10 =>
rc4 v0 v1 y8 y10 f)
else
(some v3)))
def m_X4_placeDrawn_L4 (F : Nat) : Nat → Option Nat → Int32 → Int32 → Int32 → Hp → Option Int32
  | 0, _, _, _, _, _ => none
  | k + 1, v0, v1, v2, v3, f => m_X4_placeDrawn_b4 F (m_X4_placeDrawn_L4 F k) v0 v1 v2 v3 f
def m_X4_placeDrawn (F : Nat) (u0 : Option Nat) (u1 : Int32) (f : Hp) : Option Int32 :=
m_X4_placeDrawn_L4 F F u0 u1 (0 : Int32) (0 : Int32) f
/-! CopyOrders.drawn(III)I -/
def m_X11_drawn_b49 (F : Nat) (rc49 : (Option Nat) → Int32 → (Option Nat) → Int32 → Int32 → Int32 → Int32 → Hp → Nat → Nat → Option ((Int32) × Hp × Nat × Nat)) (v0 : Option Nat) (v2 : Int32) (v4 : Option Nat) (v5 : Int32) (v6 : Int32) (v7 : Int32) (v8 : Int32) (fa : Hp) (na za : Nat) : Option ((Int32) × Hp × Nat × Nat) :=
if v2 ≤ v8 then
(some (v6, fa, na, za))
else
(nmd (((v7 * (1103515245 : Int32)) + (12345 : Int32))) fun y2 =>
(gR fa v0 9 2).bind fun x3 =>
chk (decide (¬ v5 = 0)) <|
chk (isO fa x3 3) <|
grow pr4 (na) (za) <|
(m_X4_placeDrawn F x3 ((irm (ius y2 (8 : Int32)) v5)) fa).bind fun x7 =>
chk (isO fa v4 5) <|
grow pr4 (na) (za) <|
(m_X6_exchanged F v4 v6 x7 fa).bind fun x10 =>
nmd (v8 + (1 : Int32)) fun y11 =>
rc49 v0 v2 v4 v5 x10 y2 y11 fa (na) (za))
def m_X11_drawn_L49 (F : Nat) : Nat → Option Nat → Int32 → Option Nat → Int32 → Int32 → Int32 → Int32 → Hp → Nat → Nat → Option ((Int32) × Hp × Nat × Nat)
  | 0, _, _, _, _, _, _, _, _, _, _ => none
  | k + 1, v0, v2, v4, v5, v6, v7, v8, fa, na, za => m_X11_drawn_b49 F (m_X11_drawn_L49 F k) v0 v2 v4 v5 v6 v7 v8 fa na za
def m_X11_drawn (F : Nat) (u0 : Option Nat) (u1 : Int32) (u2 : Int32) (u3 : Int32) (f : Hp) (n z : Nat) : Option ((Int32) × Hp × Nat × Nat) :=
chk (isO f u0 9) <|
bd4 (m_X11_orders F u0 f (n) (z)) fun x16 f15 nq13 zq14 =>
chk (decide (n ≤ nq13 ∧ z ≤ zq14)) <|
grow pr4 nq13 zq14 <|
(gR f15 u0 9 2).bind fun x19 =>
chk (isO f15 x19 3) <|
grow pr4 (nq13) (zq14) <|
(m_X4_allWeights F x19 f15).bind fun x22 =>
chk (isO f15 x16 5) <|
grow pr4 (nq13) (zq14) <|
(m_X6_has F x16 u1 f15).bind fun x25 =>
if x25 = 0 then
(some ((-1 : Int32), f15, nq13, zq14))
else
(grow pr4 (nq13) (zq14) <|
(m_X11_isWithin F u2 (100 : Int32) f15).bind fun x28 =>
if x28 = 0 then
(some ((-1 : Int32), f15, nq13, zq14))
else
(if 0 < x22 then
(m_X11_drawn_L49 F F u0 u2 x16 x22 u1 u3 (0 : Int32) f15 (nq13) (zq14))
else
(some ((-1 : Int32), f15, nq13, zq14))))
/-! CopyOrders.end(I)Z -/
def m_X11_end (F : Nat) (u0 : Option Nat) (u1 : Int32) (f : Hp) : Option ((Int32) × Hp) :=
if u1 < 0 then
(chk (okZ (0 : Int32)) <|
some ((0 : Int32), f))
else
((gI f u0 9 1).bind fun x3 =>
if u1 ≤ x3 then
((pV f u0 9 1 (.int u1)).bind fun f5 =>
chk (okZ (1 : Int32)) <|
some ((1 : Int32), f5))
else
(chk (okZ (0 : Int32)) <|
some ((0 : Int32), f)))
/-! CopyOrders$Orders.farTo(ILCopyOrders$Copy;)I -/
def m_X6_farTo (F : Nat) (u0 : Option Nat) (u1 : Int32) (u2 : Option Nat) (f : Hp) : Option Int32 :=
chk (isO f u0 5) <|
(m_X6_stepsTo F u0 u1 u2 f).bind fun x2 =>
(gI f u0 5 0).bind fun x3 =>
(gI f u2 0 1).bind fun x4 =>
some (x2 + ((3 : Int32) * (x3 - x4)))
/-! CopyOrders.farFromAll(LCopyOrders$Orders;II)I -/
def m_X11_farFromAll_B67 (F : Nat) (v3 : Int32) (v4 : Int32) (v5 : Int32) (f : Hp) : Option Int32 :=
if v3 = 0 then
(some v4)
else
(some v5)
def m_X11_farFromAll_b9 (F : Nat) (rc9 : (Option Nat) → (Option Nat) → Int32 → Int32 → Int32 → Int32 → Int32 → Hp → Option Int32) (v0 : Option Nat) (v1 : Option Nat) (v2 : Int32) (v3 : Int32) (v4 : Int32) (v5 : Int32) (v6 : Int32) (f : Hp) : Option Int32 :=
(gR f v0 9 2).bind fun x1 =>
(gI f x1 3 1).bind fun x2 =>
if x2 ≤ v6 then
(m_X11_farFromAll_B67 F v3 v4 v5 f)
else
(if (10 : Int32) ≤ v6 then
(m_X11_farFromAll_B67 F v3 v4 v5 f)
else
((gR f v0 9 2).bind fun x5 =>
(gR f x5 3 2).bind fun x6 =>
(ldR f 4 x6 v6).bind fun x7 =>
chk (isO f v1 5) <|
(m_X6_farTo F v1 v2 x7 f).bind fun x9 =>
nmd ((v4 + x9)) fun y10 =>
nmd ((imax v5 x9)) fun y11 =>
nmd (v6 + (1 : Int32)) fun y12 =>
rc9 v0 v1 v2 v3 y10 y11 y12 f))
def m_X11_farFromAll_L9 (F : Nat) : Nat → Option Nat → Option Nat → Int32 → Int32 → Int32 → Int32 → Int32 → Hp → Option Int32
  | 0, _, _, _, _, _, _, _, _ => none
  | k + 1, v0, v1, v2, v3, v4, v5, v6, f => m_X11_farFromAll_b9 F (m_X11_farFromAll_L9 F k) v0 v1 v2 v3 v4 v5 v6 f
def m_X11_farFromAll (F : Nat) (u0 : Option Nat) (u1 : Option Nat) (u2 : Int32) (u3 : Int32) (f : Hp) : Option Int32 :=
m_X11_farFromAll_L9 F F u0 u1 u2 u3 (0 : Int32) (0 : Int32) (0 : Int32) f
/-! CopyOrders.fault()I -/
def m_X11_fault (F : Nat) (u0 : Option Nat) (f : Hp) : Option Int32 :=
(gI f u0 9 12).bind fun x1 =>
some x1
/-! CopyOrders.putNumber(I)V -/
def m_X11_putNumber_b3 (F : Nat) (rc3 : (Option Nat) → Int32 → Int32 → Hp → Option Hp) (v0 : Option Nat) (v1 : Int32) (v2 : Int32) (fa : Hp) : Option Hp :=
if v2 < 0 then
(some fa)
else
((gI fa v0 9 1).bind fun x2 =>
if (740 : Int32) ≤ x2 then
(some fa)
else
((gR fa v0 9 0).bind fun x4 =>
(gI fa v0 9 1).bind fun x5 =>
(stI fa 0 x4 x5 (i2b (ius v1 v2))).bind fun f6 =>
(gI f6 v0 9 1).bind fun x7 =>
(pV f6 v0 9 1 (.int (x7 + (1 : Int32)))).bind fun f8 =>
nmd (v2 + (-8 : Int32)) fun y9 =>
rc3 v0 v1 y9 f8))
def m_X11_putNumber_L3 (F : Nat) : Nat → Option Nat → Int32 → Int32 → Hp → Option Hp
  | 0, _, _, _, _ => none
  | k + 1, v0, v1, v2, fa => m_X11_putNumber_b3 F (m_X11_putNumber_L3 F k) v0 v1 v2 fa
def m_X11_putNumber (F : Nat) (u0 : Option Nat) (u1 : Int32) (f : Hp) : Option Hp :=
m_X11_putNumber_L3 F F u0 u1 (24 : Int32) f
/-! CopyOrders.feed(IIIII)I -/
def m_X11_feed (F : Nat) (u0 : Option Nat) (u1 : Int32) (u2 : Int32) (u3 : Int32) (u4 : Int32) (u5 : Int32) (f : Hp) : Option ((Int32) × Hp) :=
(gI f u0 9 1).bind fun x1 =>
if (x1 + (20 : Int32)) ≤ (740 : Int32) then
(chk (isO f u0 9) <|
(m_X11_putNumber F u0 u1 f).bind fun f4 =>
chk (isO f4 u0 9) <|
(m_X11_putNumber F u0 u2 f4).bind fun f6 =>
chk (isO f6 u0 9) <|
(m_X11_putNumber F u0 u3 f6).bind fun f8 =>
chk (isO f8 u0 9) <|
(m_X11_putNumber F u0 u4 f8).bind fun f10 =>
chk (isO f10 u0 9) <|
(m_X11_putNumber F u0 u5 f10).bind fun f12 =>
(gI f12 u0 9 1).bind fun x13 =>
some (x13, f12))
else
(some ((-1 : Int32), f))
/-! CopyOrders$House.deskAt(I)LCopyOrders$Desk; -/
def m_X4_deskAt (F : Nat) (u0 : Option Nat) (u1 : Int32) (f : Hp) : Option (Option Nat) :=
if u1 < 0 then
(some none)
else
((gI f u0 3 3).bind fun x2 =>
if x2 ≤ u1 then
(some none)
else
(if (6 : Int32) ≤ u1 then
(some none)
else
((gR f u0 3 4).bind fun x5 =>
(ldR f 5 x5 u1).bind fun x6 =>
some x6)))
/-! CopyOrders$Desk.fewestFor(I)I -/
def m_X2_fewestFor (F : Nat) (u0 : Option Nat) (u1 : Int32) (f : Hp) : Option Int32 :=
(gR f u0 1 0).bind fun x1 =>
(enI x1).bind fun i2 =>
(ldI f 1 (some 33) (nI i2)).bind fun x3 =>
if x3 = (1 : Int32) then
(some u1)
else
if x3 = (2 : Int32) then
((gI f u0 1 1).bind fun x6 =>
if x6 ≤ 0 then
(some (-1 : Int32))
else
((gI f u0 1 1).bind fun x8 =>
(gI f u0 1 1).bind fun x9 =>
chk (decide (¬ x9 = 0)) <|
some (((u1 + x8) - (1 : Int32)) / x9)))
else
(if u1 = 0 then
(some (0 : Int32))
else
(some (-1 : Int32)))
/-! CopyOrders.fewest(III)I -/
def m_X11_fewest (F : Nat) (u0 : Option Nat) (u1 : Int32) (u2 : Int32) (u3 : Int32) (f : Hp) : Option Int32 :=
(gR f u0 9 2).bind fun x1 =>
chk (isO f x1 3) <|
(m_X4_wholeAt F x1 u1 f).bind fun x3 =>
(gR f u0 9 2).bind fun x4 =>
chk (isO f x4 3) <|
(m_X4_wholeAt F x4 u2 f).bind fun x6 =>
(gR f u0 9 2).bind fun x7 =>
chk (isO f x7 3) <|
(m_X4_deskAt F x7 u3 f).bind fun x9 =>
if x3 = none then
(some (-1 : Int32))
else
(if x6 = none then
(some (-1 : Int32))
else
(if x9 = none then
(some (-1 : Int32))
else
(chk (isO f x3 0) <|
(m_X1_stepsTo F x3 x6 f).bind fun x14 =>
chk (isO f x9 1) <|
(m_X2_fewestFor F x9 x14 f).bind fun x16 =>
some x16)))
/-! CopyOrders.firsts(II)I -/
def m_X11_firsts_b43 (F : Nat) (rc43 : (Option Nat) → Int32 → Int32 → Hp → Nat → Nat → Option ((Int32) × Hp × Nat × Nat)) (v3 : Option Nat) (v4 : Int32) (v5 : Int32) (fa : Hp) (na za : Nat) : Option ((Int32) × Hp × Nat × Nat) :=
(gI fa v3 5 1).bind fun x1 =>
if x1 ≤ v5 then
(some (v4, fa, na, za))
else
((gR fa v3 5 6).bind fun x3 =>
(ldJ fa x3 v5).bind fun x4 =>
if (lg_cmp x4 (0 : Int64)) ≤ 0 then
(nmd (v5 + (1 : Int32)) fun y6 =>
rc43 v3 v4 y6 fa (na) (za))
else
(nmd (v4 + (1 : Int32)) fun y7 =>
nmd (v5 + (1 : Int32)) fun y8 =>
rc43 v3 y7 y8 fa (na) (za)))
def m_X11_firsts_L43 (F : Nat) : Nat → Option Nat → Int32 → Int32 → Hp → Nat → Nat → Option ((Int32) × Hp × Nat × Nat)
  | 0, _, _, _, _, _, _ => none
  | k + 1, v3, v4, v5, fa, na, za => m_X11_firsts_b43 F (m_X11_firsts_L43 F k) v3 v4 v5 fa na za
def m_X11_firsts (F : Nat) (u0 : Option Nat) (u1 : Int32) (u2 : Int32) (f : Hp) (n z : Nat) : Option ((Int32) × Hp × Nat × Nat) :=
chk (isO f u0 9) <|
bd4 (m_X11_orders F u0 f (n) (z)) fun x13 f12 nq10 zq11 =>
chk (decide (n ≤ nq10 ∧ z ≤ zq11)) <|
grow pr4 nq10 zq11 <|
chk (isO f12 x13 5) <|
grow pr4 (nq10) (zq11) <|
(m_X6_has F x13 u1 f12).bind fun x18 =>
if x18 = 0 then
(some ((-1 : Int32), f12, nq10, zq11))
else
(grow pr4 (nq10) (zq11) <|
(m_X11_isWithin F u2 (10 : Int32) f12).bind fun x21 =>
if x21 = 0 then
(some ((-1 : Int32), f12, nq10, zq11))
else
((gR f12 u0 9 2).bind fun x23 =>
(gR f12 x23 3 5).bind fun x24 =>
chk (isO f12 x13 5) <|
grow pr4 (nq10) (zq11) <|
(m_X6_spread F x13 u1 u2 x24 f12).bind fun f27 =>
m_X11_firsts_L43 F F x13 (0 : Int32) (0 : Int32) f27 (nq10) (zq11)))
/-! CopyOrders$Family.sourceOf(I)I -/
def m_X3_sourceOf (F : Nat) (u0 : Option Nat) (u1 : Int32) (f : Hp) : Option Int32 :=
if u1 < 0 then
(some (-1 : Int32))
else
((gI f u0 2 0).bind fun x2 =>
if x2 ≤ u1 then
(some (-1 : Int32))
else
(if (10 : Int32) ≤ u1 then
(some (-1 : Int32))
else
((gR f u0 2 2).bind fun x5 =>
(ldI f 1 x5 u1).bind fun x6 =>
some x6)))
/-! CopyOrders.from(I)I -/
def m_X11_from (F : Nat) (u0 : Option Nat) (u1 : Int32) (f : Hp) : Option Int32 :=
(gR f u0 9 10).bind fun x1 =>
chk (isO f x1 2) <|
(m_X3_sourceOf F x1 u1 f).bind fun x3 =>
some x3
/-! CopyOrders$Orders.hasLikeMarks([II)Z -/
def m_X6_hasLikeMarks_b2 (F : Nat) (rc2 : (Option Nat) → (Option Nat) → Int32 → Int32 → Hp → Option Int32) (v0 : Option Nat) (v1 : Option Nat) (v2 : Int32) (v3 : Int32) (f : Hp) : Option Int32 :=
(gI f v0 5 0).bind fun x1 =>
if x1 ≤ v3 then
(chk (okZ (1 : Int32)) <|
some (1 : Int32))
else
((gR f v0 5 3).bind fun x4 =>
(ldI f 1 x4 v2).bind fun x5 =>
(m_X11_lineOf F x5 v3 f).bind fun x6 =>
(alen f 1 v1).bind fun x7 =>
if x7 ≤ v3 then
(chk (okZ (0 : Int32)) <|
some (0 : Int32))
else
((alen f 1 v1).bind fun x10 =>
if x10 ≤ x6 then
(chk (okZ (0 : Int32)) <|
some (0 : Int32))
else
((ldI f 1 v1 x6).bind fun x13 =>
(ldI f 1 v1 v3).bind fun x14 =>
if x13 = x14 then
(nmd (v3 + (1 : Int32)) fun y16 =>
rc2 v0 v1 v2 y16 f)
else
(chk (okZ (0 : Int32)) <|
some (0 : Int32)))))
def m_X6_hasLikeMarks_L2 (F : Nat) : Nat → Option Nat → Option Nat → Int32 → Int32 → Hp → Option Int32
  | 0, _, _, _, _, _ => none
  | k + 1, v0, v1, v2, v3, f => m_X6_hasLikeMarks_b2 F (m_X6_hasLikeMarks_L2 F k) v0 v1 v2 v3 f
def m_X6_hasLikeMarks (F : Nat) (u0 : Option Nat) (u1 : Option Nat) (u2 : Int32) (f : Hp) : Option Int32 :=
m_X6_hasLikeMarks_L2 F F u0 u1 u2 (0 : Int32) f
/-! CopyOrders$Orders.marksHold([II)Z -/
def m_X6_marksHold_b2 (F : Nat) (rc2 : (Option Nat) → (Option Nat) → Int32 → Int32 → Hp → Option Int32) (v0 : Option Nat) (v1 : Option Nat) (v2 : Int32) (v3 : Int32) (f : Hp) : Option Int32 :=
(gI f v0 5 1).bind fun x1 =>
if x1 ≤ v3 then
(chk (okZ (1 : Int32)) <|
some (1 : Int32))
else
((gR f v0 5 4).bind fun x4 =>
(ldI f 1 x4 v3).bind fun x5 =>
(m_J6_bitCount_0f7a4 F x5 f).bind fun x6 =>
if ((2 : Int32) * v2) < x6 then
(nmd (v3 + (1 : Int32)) fun y8 =>
rc2 v0 v1 v2 y8 f)
else
(chk (isO f v0 5) <|
(m_X6_hasLikeMarks F v0 v1 v3 f).bind fun x10 =>
if x10 = 0 then
(nmd (v3 + (1 : Int32)) fun y12 =>
rc2 v0 v1 v2 y12 f)
else
(chk (okZ (0 : Int32)) <|
some (0 : Int32))))
def m_X6_marksHold_L2 (F : Nat) : Nat → Option Nat → Option Nat → Int32 → Int32 → Hp → Option Int32
  | 0, _, _, _, _, _ => none
  | k + 1, v0, v1, v2, v3, f => m_X6_marksHold_b2 F (m_X6_marksHold_L2 F k) v0 v1 v2 v3 f
def m_X6_marksHold (F : Nat) (u0 : Option Nat) (u1 : Option Nat) (u2 : Int32) (f : Hp) : Option Int32 :=
m_X6_marksHold_L2 F F u0 u1 u2 (1 : Int32) f
/-! CopyOrders.holds(I)I -/
def m_X11_holds_B57 (F : Nat) (v0 : Option Nat) (v1 : Int32) (fa : Hp) (na za : Nat) : Option ((Int32) × Hp × Nat × Nat) :=
chk (isO fa v0 9) <|
bd4 (m_X11_orders F v0 fa (na) (za)) fun x13 f12 nq10 zq11 =>
chk (decide (na ≤ nq10 ∧ za ≤ zq11)) <|
grow pr4 nq10 zq11 <|
(gR f12 v0 9 11).bind fun x16 =>
chk (isO f12 x13 5) <|
grow pr4 (nq10) (zq11) <|
(m_X6_marksHold F x13 x16 v1 f12).bind fun x19 =>
if x19 = 0 then
(some ((0 : Int32), f12, nq10, zq11))
else
(some ((1 : Int32), f12, nq10, zq11))
def m_X11_holds_b29 (F : Nat) (rc29 : (Option Nat) → Int32 → Int32 → Int32 → Hp → Nat → Nat → Option ((Int32) × Hp × Nat × Nat)) (v0 : Option Nat) (v1 : Int32) (v2 : Int32) (v3 : Int32) (fa : Hp) (na za : Nat) : Option ((Int32) × Hp × Nat × Nat) :=
if v2 ≤ v3 then
(m_X11_holds_B57 F v0 v1 fa (na) (za))
else
(if (7 : Int32) ≤ v3 then
(m_X11_holds_B57 F v0 v1 fa (na) (za))
else
((gR fa v0 9 11).bind fun x3 =>
chk (isO fa v0 9) <|
grow pr4 (na) (za) <|
(m_X11_byteAt F v0 v3 fa).bind fun x6 =>
(stI fa 1 x3 v3 x6).bind fun f7 =>
nmd (v3 + (1 : Int32)) fun y8 =>
rc29 v0 v1 v2 y8 f7 (na) (za)))
def m_X11_holds_L29 (F : Nat) : Nat → Option Nat → Int32 → Int32 → Int32 → Hp → Nat → Nat → Option ((Int32) × Hp × Nat × Nat)
  | 0, _, _, _, _, _, _, _ => none
  | k + 1, v0, v1, v2, v3, fa, na, za => m_X11_holds_b29 F (m_X11_holds_L29 F k) v0 v1 v2 v3 fa na za
def m_X11_holds (F : Nat) (u0 : Option Nat) (u1 : Int32) (f : Hp) (n z : Nat) : Option ((Int32) × Hp × Nat × Nat) :=
chk (isO f u0 9) <|
grow pr4 (n) (z) <|
bd2 (m_X11_takeTape F u0 f) fun x23 f24 =>
grow pr4 (n) (z) <|
(m_X11_isWithin F u1 (9 : Int32) f24).bind fun x26 =>
if x26 = 0 then
(some ((-1 : Int32), f24, n, z))
else
((gR f24 u0 9 2).bind fun x28 =>
(gI f24 x28 3 0).bind fun x29 =>
if x23 = x29 then
(m_X11_holds_L29 F F u0 u1 x23 (0 : Int32) f24 (n) (z))
else
(some ((-1 : Int32), f24, n, z)))
/-! CopyOrders$Tokens.isBlank(I)Z -/
def m_X9_isBlank (F : Nat) (u0 : Int32) (f : Hp) : Option Int32 :=
if u0 = (32 : Int32) then
(chk (okZ (1 : Int32)) <|
some (1 : Int32))
else
(if u0 = (10 : Int32) then
(chk (okZ (1 : Int32)) <|
some (1 : Int32))
else
(chk (okZ (0 : Int32)) <|
some (0 : Int32)))
/-! CopyOrders$Tokens.isLetter(I)Z -/
def m_X9_isLetter (F : Nat) (u0 : Int32) (f : Hp) : Option Int32 :=
if u0 < (97 : Int32) then
(chk (okZ (0 : Int32)) <|
some (0 : Int32))
else
(if (122 : Int32) < u0 then
(chk (okZ (0 : Int32)) <|
some (0 : Int32))
else
(chk (okZ (1 : Int32)) <|
some (1 : Int32)))
/-! CopyOrders$Tokens.isDigit(I)Z -/
def m_X9_isDigit (F : Nat) (u0 : Int32) (f : Hp) : Option Int32 :=
if u0 < (48 : Int32) then
(chk (okZ (0 : Int32)) <|
some (0 : Int32))
else
(if (57 : Int32) < u0 then
(chk (okZ (0 : Int32)) <|
some (0 : Int32))
else
(chk (okZ (1 : Int32)) <|
some (1 : Int32)))
/-! CopyOrders$Tokens.wordOf(J)LCopyOrders$Word; -/
def m_X9_wordOf_b10 (F : Nat) (rc10 : Int64 → (Option Nat) → Int32 → Int32 → Hp → Option (Option Nat)) (v0 : Int64) (v2 : Option Nat) (v3 : Int32) (v4 : Int32) (f : Hp) : Option (Option Nat) :=
if v3 ≤ v4 then
(some (some 0))
else
((ldR f 8 v2 v4).bind fun x2 =>
(enI x2).bind fun i3 =>
if (lg_cmp (wordC i3) v0) = 0 then
(some x2)
else
(nmd (v4 + (1 : Int32)) fun y5 =>
rc10 v0 v2 v3 y5 f))
def m_X9_wordOf_L10 (F : Nat) : Nat → Int64 → Option Nat → Int32 → Int32 → Hp → Option (Option Nat)
  | 0, _, _, _, _, _ => none
  | k + 1, v0, v2, v3, v4, f => m_X9_wordOf_b10 F (m_X9_wordOf_L10 F k) v0 v2 v3 v4 f
def m_X9_wordOf (F : Nat) (u0 : Int64) (f : Hp) : Option (Option Nat) :=
(alen f 8 (some 32)).bind fun x6 =>
m_X9_wordOf_L10 F F u0 (some 32) x6 (0 : Int32) f
/-! CopyOrders$Tokens.readRun()V -/
def m_X9_readRun_B41 (F : Nat) (rc9 : (Option Nat) → Int32 → Int32 → Int32 → Hp → Option Hp) (v0 : Option Nat) (v1 : Int32) (v2 : Int32) (v3 : Int32) (fa : Hp) : Option Hp :=
(gR fa v0 8 0).bind fun x11 =>
(ldI fa 0 x11 v3).bind fun x12 =>
(m_X9_isLetter F x12 fa).bind fun x13 =>
if x13 = 0 then
(nmd (v2 + (1 : Int32)) fun y15 =>
(gI fa v0 8 9).bind fun x16 =>
(gR fa v0 8 0).bind fun x17 =>
(ldI fa 0 x17 v3).bind fun x18 =>
(pV fa v0 8 9 (.int ((x16 * (10 : Int32)) + (x18 - (48 : Int32))))).bind fun f19 =>
nmd (v3 + (1 : Int32)) fun y20 =>
rc9 v0 v1 y15 y20 f19)
else
(nmd (v1 + (1 : Int32)) fun y21 =>
(gJ fa v0 8 6).bind fun x22 =>
(gR fa v0 8 0).bind fun x23 =>
(ldI fa 0 x23 v3).bind fun x24 =>
(pV fa v0 8 6 (.long ((x22 * (32 : Int64)) + (Int32.toInt64 ((x24 - (97 : Int32)) + (1 : Int32)))))).bind fun f25 =>
nmd (v3 + (1 : Int32)) fun y26 =>
rc9 v0 y21 v2 y26 f25)
def m_X9_readRun_B153 (F : Nat) (v0 : Option Nat) (v1 : Int32) (v2 : Int32) (fa : Hp) : Option Hp :=
if v1 = 0 then
(if (2 : Int32) < v2 then
(some fa)
else
((pV fa v0 8 5 (.int (3 : Int32))).bind fun f37 =>
some f37))
else
(some fa)
def m_X9_readRun_B114 (F : Nat) (v0 : Option Nat) (v1 : Int32) (v2 : Int32) (v3 : Int32) (fa : Hp) : Option Hp :=
(pV fa v0 8 4 (.int v3)).bind fun f27 =>
(pV f27 v0 8 5 (.int (1 : Int32))).bind fun f28 =>
if v2 = 0 then
(if (7 : Int32) < v1 then
(m_X9_readRun_B153 F v0 v1 v2 f28)
else
((pV f28 v0 8 5 (.int (2 : Int32))).bind fun f31 =>
(gJ f31 v0 8 6).bind fun x32 =>
(m_X9_wordOf F x32 f31).bind fun x33 =>
(pV f31 v0 8 7 (va_rf x33)).bind fun f34 =>
some f34))
else
(m_X9_readRun_B153 F v0 v1 v2 f28)
def m_X9_readRun_b9 (F : Nat) (rc9 : (Option Nat) → Int32 → Int32 → Int32 → Hp → Option Hp) (v0 : Option Nat) (v1 : Int32) (v2 : Int32) (v3 : Int32) (fa : Hp) : Option Hp :=
(gI fa v0 8 1).bind fun x1 =>
if x1 ≤ v3 then
(m_X9_readRun_B114 F v0 v1 v2 v3 fa)
else
((gR fa v0 8 0).bind fun x3 =>
(ldI fa 0 x3 v3).bind fun x4 =>
(m_X9_isLetter F x4 fa).bind fun x5 =>
if x5 = 0 then
((gR fa v0 8 0).bind fun x7 =>
(ldI fa 0 x7 v3).bind fun x8 =>
(m_X9_isDigit F x8 fa).bind fun x9 =>
if x9 = 0 then
(m_X9_readRun_B114 F v0 v1 v2 v3 fa)
else
(m_X9_readRun_B41 F rc9 v0 v1 v2 v3 fa))
else
(m_X9_readRun_B41 F rc9 v0 v1 v2 v3 fa))
def m_X9_readRun_L9 (F : Nat) : Nat → Option Nat → Int32 → Int32 → Int32 → Hp → Option Hp
  | 0, _, _, _, _, _ => none
  | k + 1, v0, v1, v2, v3, fa => m_X9_readRun_b9 F (m_X9_readRun_L9 F k) v0 v1 v2 v3 fa
def m_X9_readRun (F : Nat) (u0 : Option Nat) (f : Hp) : Option Hp :=
(gI f u0 8 3).bind fun x38 =>
m_X9_readRun_L9 F F u0 (0 : Int32) (0 : Int32) x38 f
/-! CopyOrders$Tokens.readSign()V -/
def m_X9_readSign_B75 (F : Nat) (v0 : Option Nat) (s0 : Option Nat) (s1 : Int32) (fa : Hp) : Option Hp :=
(pV fa s0 8 8 (.int s1)).bind fun f4 =>
(gI f4 v0 8 3).bind fun x5 =>
(pV f4 v0 8 4 (.int (x5 + (1 : Int32)))).bind fun f6 =>
some f6
def m_X9_readSign_B62 (F : Nat) (v0 : Option Nat) (v1 : Int32) (v2 : Int32) (s0 : Option Nat) (s1 : Int32) (fa : Hp) : Option Hp :=
(pV fa s0 8 5 (.int s1)).bind fun f2 =>
if v2 = 0 then
(m_X9_readSign_B75 F v0 v0 (0 : Int32) f2)
else
(m_X9_readSign_B75 F v0 v0 v1 f2)
def m_X9_readSign_B51 (F : Nat) (v0 : Option Nat) (v1 : Int32) (s0 : Int32) (fa : Hp) : Option Hp :=
if s0 = 0 then
(m_X9_readSign_B62 F v0 v1 s0 v0 (1 : Int32) fa)
else
(m_X9_readSign_B62 F v0 v1 s0 v0 (4 : Int32) fa)
def m_X9_readSign_B46 (F : Nat) (v0 : Option Nat) (v1 : Int32) (fa : Hp) : Option Hp :=
m_X9_readSign_B51 F v0 v1 (1 : Int32) fa
def m_X9_readSign (F : Nat) (u0 : Option Nat) (f : Hp) : Option Hp :=
(gR f u0 8 0).bind fun x7 =>
(gI f u0 8 3).bind fun x8 =>
(ldI f 0 x7 x8).bind fun x9 =>
if x9 = (59 : Int32) then
(m_X9_readSign_B46 F u0 x9 f)
else
(if x9 = (60 : Int32) then
(m_X9_readSign_B46 F u0 x9 f)
else
(if x9 = (61 : Int32) then
(m_X9_readSign_B46 F u0 x9 f)
else
(if x9 = (62 : Int32) then
(m_X9_readSign_B46 F u0 x9 f)
else
(if x9 = (40 : Int32) then
(m_X9_readSign_B46 F u0 x9 f)
else
(if x9 = (41 : Int32) then
(m_X9_readSign_B46 F u0 x9 f)
else
(m_X9_readSign_B51 F u0 x9 (0 : Int32) f))))))
/-! CopyOrders$Tokens.advance()V -/
def m_X9_advance_B40 (F : Nat) (v0 : Option Nat) (v1 : Int32) (v2 : Int32) (fa : Hp) : Option Hp :=
(pV fa v0 8 7 (va_rf (some 0))).bind fun f7 =>
(pV f7 v0 8 8 (.int (0 : Int32))).bind fun f8 =>
(pV f8 v0 8 6 (.long (0 : Int64))).bind fun f9 =>
(pV f9 v0 8 9 (.int (0 : Int32))).bind fun f10 =>
if v2 < v1 then
((pV f10 v0 8 3 (.int v2)).bind fun f12 =>
(gR f12 v0 8 0).bind fun x13 =>
(ldI f12 0 x13 v2).bind fun x14 =>
(m_X9_isLetter F x14 f12).bind fun x15 =>
if x15 = 0 then
((gR f12 v0 8 0).bind fun x19 =>
(ldI f12 0 x19 v2).bind fun x20 =>
(m_X9_isDigit F x20 f12).bind fun x21 =>
if x21 = 0 then
(chk (isO f12 v0 8) <|
(m_X9_readSign F v0 f12).bind fun f24 =>
some f24)
else
(chk (isO f12 v0 8) <|
(m_X9_readRun F v0 f12).bind fun f26 =>
some f26))
else
(chk (isO f12 v0 8) <|
(m_X9_readRun F v0 f12).bind fun f18 =>
some f18))
else
((pV f10 v0 8 3 (.int v1)).bind fun f27 =>
(pV f27 v0 8 4 (.int v1)).bind fun f28 =>
(gI f28 v0 8 1).bind fun x29 =>
(gI f28 v0 8 2).bind fun x30 =>
if x29 ≤ x30 then
((pV f28 v0 8 5 (.int (0 : Int32))).bind fun f32 =>
some f32)
else
((pV f28 v0 8 5 (.int (1 : Int32))).bind fun f33 =>
some f33))
def m_X9_advance_b17 (F : Nat) (rc17 : (Option Nat) → Int32 → Int32 → Hp → Option Hp) (v0 : Option Nat) (v1 : Int32) (v2 : Int32) (fa : Hp) : Option Hp :=
if v1 ≤ v2 then
(m_X9_advance_B40 F v0 v1 v2 fa)
else
((gR fa v0 8 0).bind fun x2 =>
(ldI fa 0 x2 v2).bind fun x3 =>
(m_X9_isBlank F x3 fa).bind fun x4 =>
if x4 = 0 then
(m_X9_advance_B40 F v0 v1 v2 fa)
else
(nmd (v2 + (1 : Int32)) fun y6 =>
rc17 v0 v1 y6 fa))
def m_X9_advance_L17 (F : Nat) : Nat → Option Nat → Int32 → Int32 → Hp → Option Hp
  | 0, _, _, _, _ => none
  | k + 1, v0, v1, v2, fa => m_X9_advance_b17 F (m_X9_advance_L17 F k) v0 v1 v2 fa
def m_X9_advance (F : Nat) (u0 : Option Nat) (f : Hp) : Option Hp :=
(gI f u0 8 1).bind fun x34 =>
(gI f u0 8 2).bind fun x35 =>
nmd ((imin x34 x35)) fun y36 =>
(gI f u0 8 4).bind fun x37 =>
m_X9_advance_L17 F F u0 y36 x37 f
/-! CopyOrders$Tokens.open(II)V -/
def m_X9_open (F : Nat) (u0 : Option Nat) (u1 : Int32) (u2 : Int32) (f : Hp) : Option Hp :=
(gR f u0 8 0).bind fun x1 =>
(alen f 0 x1).bind fun x2 =>
(pV f u0 8 1 (.int (imin u1 x2))).bind fun f3 =>
(pV f3 u0 8 2 (.int u2)).bind fun f4 =>
(pV f4 u0 8 4 (.int (0 : Int32))).bind fun f5 =>
(pV f5 u0 8 10 (.int (0 : Int32))).bind fun f6 =>
(pV f6 u0 8 11 (.int (0 : Int32))).bind fun f7 =>
chk (isO f7 u0 8) <|
(m_X9_advance F u0 f7).bind fun f9 =>
some f9
/-! java/util/Arrays.fill([II)V -/
def m_J7_fill_53178_b5 (F : Nat) (rc5 : (Option Nat) → Int32 → Int32 → Int32 → Hp → Option Hp) (v0 : Option Nat) (v1 : Int32) (v2 : Int32) (v3 : Int32) (fa : Hp) : Option Hp :=
if v3 ≤ v2 then
(some fa)
else
((stI fa 1 v0 v2 v1).bind fun f2 =>
nmd (v2 + (1 : Int32)) fun y3 =>
rc5 v0 v1 y3 v3 f2)
def m_J7_fill_53178_L5 (F : Nat) : Nat → Option Nat → Int32 → Int32 → Int32 → Hp → Option Hp
  | 0, _, _, _, _, _ => none
  | k + 1, v0, v1, v2, v3, fa => m_J7_fill_53178_b5 F (m_J7_fill_53178_L5 F k) v0 v1 v2 v3 fa
def m_J7_fill_53178 (F : Nat) (u0 : Option Nat) (u1 : Int32) (f : Hp) : Option Hp :=
(alen f 1 u0).bind fun x4 =>
m_J7_fill_53178_L5 F F u0 u1 (0 : Int32) x4 f
/-! CopyOrders$Sentence.clear()V -/
def m_X7_clear (F : Nat) (u0 : Option Nat) (f : Hp) : Option Hp :=
(pV f u0 6 0 (.int (0 : Int32))).bind fun f1 =>
some f1
/-! CopyOrders$House.clear()V -/
def m_X4_clear (F : Nat) (u0 : Option Nat) (f : Hp) : Option Hp :=
(pV f u0 3 0 (.int (4 : Int32))).bind fun f1 =>
(pV f1 u0 3 1 (.int (0 : Int32))).bind fun f2 =>
(pV f2 u0 3 3 (.int (0 : Int32))).bind fun f3 =>
(gR f3 u0 3 5).bind fun x4 =>
(m_J7_fill_53178 F x4 (1 : Int32) f3).bind fun f5 =>
(pV f5 u0 3 6 (.int (0 : Int32))).bind fun f6 =>
(pV f6 u0 3 9 (.int (0 : Int32))).bind fun f7 =>
(gR f7 u0 3 10).bind fun x8 =>
(m_J7_fill_53178 F x8 (0 : Int32) f7).bind fun f9 =>
(gR f9 u0 3 11).bind fun x10 =>
chk (isO f9 x10 6) <|
(m_X7_clear F x10 f9).bind fun f12 =>
some f12
/-! CopyOrders$Tokens.fail(I)Z -/
def m_X9_fail (F : Nat) (u0 : Option Nat) (u1 : Int32) (f : Hp) : Option ((Int32) × Hp) :=
(gI f u0 8 10).bind fun x1 =>
if x1 = 0 then
((pV f u0 8 10 (.int u1)).bind fun f4 =>
(gI f4 u0 8 3).bind fun x5 =>
(pV f4 u0 8 11 (.int x5)).bind fun f6 =>
chk (okZ (0 : Int32)) <|
some ((0 : Int32), f6))
else
(chk (okZ (0 : Int32)) <|
some ((0 : Int32), f))
/-! CopyOrders$Tokens.numberHere(II)I -/
def m_X9_numberHere (F : Nat) (u0 : Option Nat) (u1 : Int32) (u2 : Int32) (f : Hp) : Option ((Int32) × Hp) :=
(gI f u0 8 5).bind fun x1 =>
if x1 = (3 : Int32) then
((gI f u0 8 9).bind fun x3 =>
if x3 < u1 then
(chk (isO f u0 8) <|
bd2 (m_X9_fail F u0 (2 : Int32) f) fun x6 f7 =>
some ((-1 : Int32), f7))
else
((gI f u0 8 9).bind fun x8 =>
if x8 ≤ u2 then
((gI f u0 8 9).bind fun x10 =>
some (x10, f))
else
(chk (isO f u0 8) <|
bd2 (m_X9_fail F u0 (2 : Int32) f) fun x12 f13 =>
some ((-1 : Int32), f13))))
else
(chk (isO f u0 8) <|
bd2 (m_X9_fail F u0 (1 : Int32) f) fun x15 f16 =>
some ((-1 : Int32), f16))
/-! CopyOrders$HouseReader.readLines()Z -/
def m_X5_readLines (F : Nat) (u0 : Option Nat) (f : Hp) : Option ((Int32) × Hp) :=
(gI f u0 4 2).bind fun x1 =>
if x1 = 0 then
((pZ f u0 4 2 (1 : Int32)).bind fun f3 =>
(gR f3 u0 4 0).bind fun x4 =>
chk (isO f3 x4 8) <|
(m_X9_advance F x4 f3).bind fun f6 =>
(gR f6 u0 4 0).bind fun x7 =>
chk (isO f6 x7 8) <|
bd2 (m_X9_numberHere F x7 (2 : Int32) (7 : Int32) f6) fun x9 f10 =>
if x9 = (-1 : Int32) then
(chk (okZ (0 : Int32)) <|
some ((0 : Int32), f10))
else
((gR f10 u0 4 1).bind fun x12 =>
(pV f10 x12 3 0 (.int x9)).bind fun f13 =>
(gR f13 u0 4 0).bind fun x14 =>
chk (isO f13 x14 8) <|
(m_X9_advance F x14 f13).bind fun f16 =>
chk (okZ (1 : Int32)) <|
some ((1 : Int32), f16)))
else
((gR f u0 4 0).bind fun x19 =>
chk (isO f x19 8) <|
bd2 (m_X9_fail F x19 (3 : Int32) f) fun x21 f22 =>
chk (okZ x21) <|
some (x21, f22))
/-! CopyOrders$Tokens.isName()Z -/
def m_X9_isName (F : Nat) (u0 : Option Nat) (f : Hp) : Option Int32 :=
(gI f u0 8 5).bind fun x1 =>
if x1 = (2 : Int32) then
((gR f u0 8 7).bind fun x4 =>
chk (okE x4 && okE (some 0)) <|
if x4 = (some 0) then
(chk (okZ (1 : Int32)) <|
some (1 : Int32))
else
(chk (okZ (0 : Int32)) <|
some (0 : Int32)))
else
(chk (okZ (0 : Int32)) <|
some (0 : Int32))
/-! CopyOrders$House.copyNamed(J)I -/
def m_X4_copyNamed_b2 (F : Nat) (rc2 : (Option Nat) → Int64 → Int32 → Hp → Option Int32) (v0 : Option Nat) (v1 : Int64) (v3 : Int32) (f : Hp) : Option Int32 :=
(gI f v0 3 1).bind fun x1 =>
if x1 ≤ v3 then
(some (-1 : Int32))
else
(if (10 : Int32) ≤ v3 then
(some (-1 : Int32))
else
((gR f v0 3 2).bind fun x4 =>
(ldR f 4 x4 v3).bind fun x5 =>
(gJ f x5 0 0).bind fun x6 =>
if (lg_cmp x6 v1) = 0 then
(some v3)
else
(nmd (v3 + (1 : Int32)) fun y8 =>
rc2 v0 v1 y8 f)))
def m_X4_copyNamed_L2 (F : Nat) : Nat → Option Nat → Int64 → Int32 → Hp → Option Int32
  | 0, _, _, _, _ => none
  | k + 1, v0, v1, v3, f => m_X4_copyNamed_b2 F (m_X4_copyNamed_L2 F k) v0 v1 v3 f
def m_X4_copyNamed (F : Nat) (u0 : Option Nat) (u1 : Int64) (f : Hp) : Option Int32 :=
m_X4_copyNamed_L2 F F u0 u1 (0 : Int32) f
/-! CopyOrders$House.isNamed(J)Z -/
def m_X4_isNamed_B38 (F : Nat) (v0 : Option Nat) (v1 : Int64) (f : Hp) : Option Int32 :=
chk (isO f v0 3) <|
(m_X4_copyNamed F v0 v1 f).bind fun x11 =>
if x11 = (-1 : Int32) then
(chk (okZ (0 : Int32)) <|
some (0 : Int32))
else
(chk (okZ (1 : Int32)) <|
some (1 : Int32))
def m_X4_isNamed_b2 (F : Nat) (rc2 : (Option Nat) → Int64 → Int32 → Hp → Option Int32) (v0 : Option Nat) (v1 : Int64) (v3 : Int32) (f : Hp) : Option Int32 :=
(gI f v0 3 3).bind fun x1 =>
if x1 ≤ v3 then
(m_X4_isNamed_B38 F v0 v1 f)
else
(if (6 : Int32) ≤ v3 then
(m_X4_isNamed_B38 F v0 v1 f)
else
((gR f v0 3 4).bind fun x4 =>
(ldR f 5 x4 v3).bind fun x5 =>
(gJ f x5 1 2).bind fun x6 =>
if (lg_cmp x6 v1) = 0 then
(chk (okZ (1 : Int32)) <|
some (1 : Int32))
else
(nmd (v3 + (1 : Int32)) fun y8 =>
rc2 v0 v1 y8 f)))
def m_X4_isNamed_L2 (F : Nat) : Nat → Option Nat → Int64 → Int32 → Hp → Option Int32
  | 0, _, _, _, _ => none
  | k + 1, v0, v1, v3, f => m_X4_isNamed_b2 F (m_X4_isNamed_L2 F k) v0 v1 v3 f
def m_X4_isNamed (F : Nat) (u0 : Option Nat) (u1 : Int64) (f : Hp) : Option Int32 :=
m_X4_isNamed_L2 F F u0 u1 (0 : Int32) f
/-! CopyOrders$HouseReader.isFreshName()Z -/
def m_X5_isFreshName (F : Nat) (u0 : Option Nat) (f : Hp) : Option ((Int32) × Hp) :=
(gR f u0 4 0).bind fun x1 =>
chk (isO f x1 8) <|
(m_X9_isName F x1 f).bind fun x3 =>
if x3 = 0 then
((gR f u0 4 0).bind fun x17 =>
chk (isO f x17 8) <|
bd2 (m_X9_fail F x17 (1 : Int32) f) fun x19 f20 =>
chk (okZ x19) <|
some (x19, f20))
else
((gR f u0 4 1).bind fun x5 =>
(gR f u0 4 0).bind fun x6 =>
(gJ f x6 8 6).bind fun x7 =>
chk (isO f x5 3) <|
(m_X4_isNamed F x5 x7 f).bind fun x9 =>
if x9 = 0 then
(chk (okZ (1 : Int32)) <|
some ((1 : Int32), f))
else
((gR f u0 4 0).bind fun x12 =>
chk (isO f x12 8) <|
bd2 (m_X9_fail F x12 (3 : Int32) f) fun x14 f15 =>
chk (okZ x14) <|
some (x14, f15)))
/-! CopyOrders$HouseReader.spell(LCopyOrders$Copy;)Z -/
def m_X5_spell_b3 (F : Nat) (rc3 : (Option Nat) → (Option Nat) → Int32 → Hp → Option ((Int32) × Hp)) (v0 : Option Nat) (v1 : Option Nat) (v2 : Int32) (fa : Hp) : Option ((Int32) × Hp) :=
if v2 < 0 then
(chk (okZ (1 : Int32)) <|
some ((1 : Int32), fa))
else
((gR fa v0 4 0).bind fun x3 =>
(gJ fa x3 8 6).bind fun x4 =>
nmd ((Int64.toInt32 ((lus x4 v2) &&& (31 : Int64)))) fun y5 =>
if y5 ≤ 0 then
(nmd (v2 + (-5 : Int32)) fun y7 =>
rc3 v0 v1 y7 fa)
else
((gR fa v0 4 1).bind fun x8 =>
(gI fa x8 3 0).bind fun x9 =>
if x9 < y5 then
(chk (okZ (0 : Int32)) <|
some ((0 : Int32), fa))
else
(chk (isO fa v1 0) <|
(m_X1_hasLine F v1 ((y5 - (1 : Int32))) fa).bind fun x13 =>
if x13 = 0 then
(chk (isO fa v1 0) <|
(m_X1_append F v1 ((y5 - (1 : Int32))) fa).bind fun f16 =>
nmd (v2 + (-5 : Int32)) fun y17 =>
rc3 v0 v1 y17 f16)
else
(chk (okZ (0 : Int32)) <|
some ((0 : Int32), fa)))))
def m_X5_spell_L3 (F : Nat) : Nat → Option Nat → Option Nat → Int32 → Hp → Option ((Int32) × Hp)
  | 0, _, _, _, _ => none
  | k + 1, v0, v1, v2, fa => m_X5_spell_b3 F (m_X5_spell_L3 F k) v0 v1 v2 fa
def m_X5_spell (F : Nat) (u0 : Option Nat) (u1 : Option Nat) (f : Hp) : Option ((Int32) × Hp) :=
m_X5_spell_L3 F F u0 u1 (30 : Int32) f
/-! CopyOrders$HouseReader.readCopy()Z -/
def m_X5_readCopy (F : Nat) (u0 : Option Nat) (f : Hp) : Option ((Int32) × Hp) :=
(gR f u0 4 1).bind fun x1 =>
chk (isO f x1 3) <|
bd2 (m_X4_nextCopy F x1 f) fun x3 f4 =>
if x3 = none then
((gR f4 u0 4 0).bind fun x44 =>
chk (isO f4 x44 8) <|
bd2 (m_X9_fail F x44 (4 : Int32) f4) fun x46 f47 =>
chk (okZ x46) <|
some (x46, f47))
else
((gR f4 u0 4 0).bind fun x6 =>
chk (isO f4 x6 8) <|
(m_X9_advance F x6 f4).bind fun f8 =>
chk (isO f8 u0 4) <|
bd2 (m_X5_isFreshName F u0 f8) fun x10 f11 =>
if x10 = 0 then
(chk (okZ (0 : Int32)) <|
some ((0 : Int32), f11))
else
((gR f11 u0 4 0).bind fun x13 =>
(gJ f11 x13 8 6).bind fun x14 =>
(pV f11 x3 0 0 (.long x14)).bind fun f15 =>
(gR f15 u0 4 0).bind fun x16 =>
chk (isO f15 x16 8) <|
(m_X9_advance F x16 f15).bind fun f18 =>
(gR f18 u0 4 0).bind fun x19 =>
(gI f18 x19 8 5).bind fun x20 =>
if x20 = (2 : Int32) then
(chk (isO f18 u0 4) <|
bd2 (m_X5_spell F u0 x3 f18) fun x23 f24 =>
if x23 = 0 then
((gR f24 u0 4 0).bind fun x33 =>
chk (isO f24 x33 8) <|
bd2 (m_X9_fail F x33 (2 : Int32) f24) fun x35 f36 =>
chk (okZ x35) <|
some (x35, f36))
else
((gR f24 u0 4 1).bind fun x26 =>
(gI f24 x26 3 1).bind fun x27 =>
(pV f24 x26 3 1 (.int (x27 + (1 : Int32)))).bind fun f28 =>
(gR f28 u0 4 0).bind fun x29 =>
chk (isO f28 x29 8) <|
(m_X9_advance F x29 f28).bind fun f31 =>
chk (okZ (1 : Int32)) <|
some ((1 : Int32), f31)))
else
((gR f18 u0 4 0).bind fun x38 =>
chk (isO f18 x38 8) <|
bd2 (m_X9_fail F x38 (1 : Int32) f18) fun x40 f41 =>
chk (okZ x40) <|
some (x40, f41))))
/-! CopyOrders$House.nextDesk()LCopyOrders$Desk; -/
def m_X4_nextDesk (F : Nat) (u0 : Option Nat) (f : Hp) : Option (Option Nat) :=
(gI f u0 3 3).bind fun x1 =>
if (6 : Int32) ≤ x1 then
(some none)
else
((gR f u0 3 4).bind fun x3 =>
(gI f u0 3 3).bind fun x4 =>
(ldR f 5 x3 x4).bind fun x5 =>
some x5)
/-! CopyOrders$HouseReader.readDesk()Z -/
def m_X5_readDesk_B159 (F : Nat) (v0 : Option Nat) (fa : Hp) : Option ((Int32) × Hp) :=
(gR fa v0 4 1).bind fun x1 =>
(gI fa x1 3 3).bind fun x2 =>
(pV fa x1 3 3 (.int (x2 + (1 : Int32)))).bind fun f3 =>
(gR f3 v0 4 0).bind fun x4 =>
chk (isO f3 x4 8) <|
(m_X9_advance F x4 f3).bind fun f6 =>
chk (okZ (1 : Int32)) <|
some ((1 : Int32), f6)
def m_X5_readDesk (F : Nat) (u0 : Option Nat) (f : Hp) : Option ((Int32) × Hp) :=
(gR f u0 4 1).bind fun x8 =>
chk (isO f x8 3) <|
(m_X4_nextDesk F x8 f).bind fun x10 =>
if x10 = none then
((gR f u0 4 0).bind fun x52 =>
chk (isO f x52 8) <|
bd2 (m_X9_fail F x52 (4 : Int32) f) fun x54 f55 =>
chk (okZ x54) <|
some (x54, f55))
else
((gR f u0 4 0).bind fun x12 =>
chk (isO f x12 8) <|
(m_X9_advance F x12 f).bind fun f14 =>
chk (isO f14 u0 4) <|
bd2 (m_X5_isFreshName F u0 f14) fun x16 f17 =>
if x16 = 0 then
(chk (okZ (0 : Int32)) <|
some ((0 : Int32), f17))
else
((gR f17 u0 4 0).bind fun x19 =>
(gJ f17 x19 8 6).bind fun x20 =>
(pV f17 x10 1 2 (.long x20)).bind fun f21 =>
(gR f21 u0 4 0).bind fun x22 =>
chk (isO f21 x22 8) <|
(m_X9_advance F x22 f21).bind fun f24 =>
(gR f24 u0 4 0).bind fun x25 =>
(gR f24 x25 8 7).bind fun x26 =>
(pV f24 x10 1 0 (va_rf x26)).bind fun f27 =>
(gR f27 u0 4 0).bind fun x28 =>
(gR f27 x28 8 7).bind fun x29 =>
(enI x29).bind fun i30 =>
(ldI f27 1 (some 33) (nI i30)).bind fun x31 =>
if x31 = (1 : Int32) then
(m_X5_readDesk_B159 F u0 f27)
else
if x31 = (2 : Int32) then
((gR f27 u0 4 0).bind fun x34 =>
chk (isO f27 x34 8) <|
(m_X9_advance F x34 f27).bind fun f36 =>
(gR f36 u0 4 0).bind fun x37 =>
chk (isO f36 x37 8) <|
bd2 (m_X9_numberHere F x37 (1 : Int32) (9 : Int32) f36) fun x39 f40 =>
(pV f40 x10 1 1 (.int x39)).bind fun f41 =>
(gI f41 x10 1 1).bind fun x42 =>
if x42 = (-1 : Int32) then
(chk (okZ (0 : Int32)) <|
some ((0 : Int32), f41))
else
(m_X5_readDesk_B159 F u0 f41))
else
if x31 = (9 : Int32) then
(m_X5_readDesk_B159 F u0 f27)
else
((gR f27 u0 4 0).bind fun x46 =>
chk (isO f27 x46 8) <|
bd2 (m_X9_fail F x46 (1 : Int32) f27) fun x48 f49 =>
chk (okZ x48) <|
some (x48, f49))))
/-! CopyOrders$HouseReader.readLikely()Z -/
def m_X5_readLikely (F : Nat) (u0 : Option Nat) (f : Hp) : Option ((Int32) × Hp) :=
(gR f u0 4 0).bind fun x1 =>
chk (isO f x1 8) <|
(m_X9_advance F x1 f).bind fun f3 =>
(gR f3 u0 4 0).bind fun x4 =>
(gR f3 u0 4 1).bind fun x5 =>
(gI f3 x5 3 0).bind fun x6 =>
chk (isO f3 x4 8) <|
bd2 (m_X9_numberHere F x4 (1 : Int32) ((x6 - (1 : Int32))) f3) fun x8 f9 =>
if x8 = (-1 : Int32) then
(chk (okZ (0 : Int32)) <|
some ((0 : Int32), f9))
else
((gI f9 u0 4 3).bind fun x11 =>
if ((ius x11 x8) &&& (1 : Int32)) = 0 then
((gR f9 u0 4 0).bind fun x13 =>
chk (isO f9 x13 8) <|
(m_X9_advance F x13 f9).bind fun f15 =>
(gR f15 u0 4 0).bind fun x16 =>
chk (isO f15 x16 8) <|
bd2 (m_X9_numberHere F x16 (0 : Int32) (9 : Int32) f15) fun x18 f19 =>
if x18 = (-1 : Int32) then
(chk (okZ (0 : Int32)) <|
some ((0 : Int32), f19))
else
((gI f19 u0 4 3).bind fun x21 =>
(pV f19 u0 4 3 (.int (x21 ||| ((1 : Int32) <<< (x8 &&& 31))))).bind fun f22 =>
(gR f22 u0 4 1).bind fun x23 =>
(gR f22 x23 3 5).bind fun x24 =>
(alen f22 1 x24).bind fun x25 =>
if x25 < x8 then
((gR f22 u0 4 0).bind fun x27 =>
chk (isO f22 x27 8) <|
(m_X9_advance F x27 f22).bind fun f29 =>
chk (okZ (1 : Int32)) <|
some ((1 : Int32), f29))
else
((gR f22 u0 4 1).bind fun x31 =>
(gR f22 x31 3 5).bind fun x32 =>
(stI f22 1 x32 (x8 - (1 : Int32)) x18).bind fun f33 =>
(gR f33 u0 4 0).bind fun x34 =>
chk (isO f33 x34 8) <|
(m_X9_advance F x34 f33).bind fun f36 =>
chk (okZ (1 : Int32)) <|
some ((1 : Int32), f36))))
else
((gR f9 u0 4 0).bind fun x39 =>
chk (isO f9 x39 8) <|
bd2 (m_X9_fail F x39 (3 : Int32) f9) fun x41 f42 =>
chk (okZ x41) <|
some (x41, f42)))
/-! CopyOrders$Tokens.letterHere(I)I -/
def m_X9_letterHere (F : Nat) (u0 : Option Nat) (u1 : Int32) (f : Hp) : Option ((Int32) × Hp) :=
(gI f u0 8 5).bind fun x1 =>
if x1 = (2 : Int32) then
((gJ f u0 8 6).bind fun x3 =>
if (lg_cmp x3 (Int32.toInt64 u1)) ≤ 0 then
((gJ f u0 8 6).bind fun x5 =>
some (((Int64.toInt32 x5) - (1 : Int32)), f))
else
(chk (isO f u0 8) <|
bd2 (m_X9_fail F u0 (2 : Int32) f) fun x7 f8 =>
some ((-1 : Int32), f8)))
else
(chk (isO f u0 8) <|
bd2 (m_X9_fail F u0 (1 : Int32) f) fun x10 f11 =>
some ((-1 : Int32), f11))
/-! CopyOrders$HouseReader.readPair()Z -/
def m_X5_readPair (F : Nat) (u0 : Option Nat) (f : Hp) : Option ((Int32) × Hp) :=
(gR f u0 4 0).bind fun x1 =>
(gR f u0 4 1).bind fun x2 =>
(gI f x2 3 0).bind fun x3 =>
chk (isO f x1 8) <|
bd2 (m_X9_letterHere F x1 x3 f) fun x5 f6 =>
(pV f6 u0 4 4 (.int x5)).bind fun f7 =>
(gI f7 u0 4 4).bind fun x8 =>
if x8 = (-1 : Int32) then
(chk (okZ (0 : Int32)) <|
some ((0 : Int32), f7))
else
((gR f7 u0 4 0).bind fun x10 =>
chk (isO f7 x10 8) <|
(m_X9_advance F x10 f7).bind fun f12 =>
(gR f12 u0 4 0).bind fun x13 =>
(gR f12 u0 4 1).bind fun x14 =>
(gI f12 x14 3 0).bind fun x15 =>
chk (isO f12 x13 8) <|
bd2 (m_X9_letterHere F x13 x15 f12) fun x17 f18 =>
(pV f18 u0 4 5 (.int x17)).bind fun f19 =>
(gI f19 u0 4 5).bind fun x20 =>
if x20 = (-1 : Int32) then
(chk (okZ (0 : Int32)) <|
some ((0 : Int32), f19))
else
((gI f19 u0 4 4).bind fun x22 =>
(gI f19 u0 4 5).bind fun x23 =>
if x22 = x23 then
((gR f19 u0 4 0).bind fun x26 =>
chk (isO f19 x26 8) <|
bd2 (m_X9_fail F x26 (3 : Int32) f19) fun x28 f29 =>
if x28 = 0 then
(chk (okZ (0 : Int32)) <|
some ((0 : Int32), f29))
else
(chk (okZ (1 : Int32)) <|
some ((1 : Int32), f29)))
else
(chk (okZ (1 : Int32)) <|
some ((1 : Int32), f19))))
/-! CopyOrders$House.hasSense(II)Z -/
def m_X4_hasSense_b2 (F : Nat) (rc2 : (Option Nat) → Int32 → Int32 → Int32 → Hp → Option Int32) (v0 : Option Nat) (v1 : Int32) (v2 : Int32) (v3 : Int32) (f : Hp) : Option Int32 :=
(gI f v0 3 6).bind fun x1 =>
if x1 ≤ v3 then
(chk (okZ (0 : Int32)) <|
some (0 : Int32))
else
(if (12 : Int32) ≤ v3 then
(chk (okZ (0 : Int32)) <|
some (0 : Int32))
else
((gR f v0 3 7).bind fun x6 =>
(ldI f 1 x6 v3).bind fun x7 =>
if x7 = v1 then
((gR f v0 3 8).bind fun x10 =>
(ldI f 1 x10 v3).bind fun x11 =>
if x11 = v2 then
(chk (okZ (1 : Int32)) <|
some (1 : Int32))
else
(nmd (v3 + (1 : Int32)) fun y13 =>
rc2 v0 v1 v2 y13 f))
else
(nmd (v3 + (1 : Int32)) fun y9 =>
rc2 v0 v1 v2 y9 f)))
def m_X4_hasSense_L2 (F : Nat) : Nat → Option Nat → Int32 → Int32 → Int32 → Hp → Option Int32
  | 0, _, _, _, _, _ => none
  | k + 1, v0, v1, v2, v3, f => m_X4_hasSense_b2 F (m_X4_hasSense_L2 F k) v0 v1 v2 v3 f
def m_X4_hasSense (F : Nat) (u0 : Option Nat) (u1 : Int32) (u2 : Int32) (f : Hp) : Option Int32 :=
m_X4_hasSense_L2 F F u0 u1 u2 (0 : Int32) f
/-! CopyOrders$House.putSense(II)V -/
def m_X4_putSense (F : Nat) (u0 : Option Nat) (u1 : Int32) (u2 : Int32) (f : Hp) : Option Hp :=
(gI f u0 3 6).bind fun x1 =>
if (12 : Int32) ≤ x1 then
(some f)
else
((gR f u0 3 7).bind fun x3 =>
(gI f u0 3 6).bind fun x4 =>
(stI f 1 x3 x4 u1).bind fun f5 =>
(gR f5 u0 3 8).bind fun x6 =>
(gI f5 u0 3 6).bind fun x7 =>
(stI f5 1 x6 x7 u2).bind fun f8 =>
(gI f8 u0 3 6).bind fun x9 =>
(pV f8 u0 3 6 (.int (x9 + (1 : Int32)))).bind fun f10 =>
some f10)
/-! CopyOrders$HouseReader.readSense()Z -/
def m_X5_readSense (F : Nat) (u0 : Option Nat) (f : Hp) : Option ((Int32) × Hp) :=
(gR f u0 4 1).bind fun x1 =>
(gI f x1 3 6).bind fun x2 =>
if x2 < (12 : Int32) then
((gR f u0 4 0).bind fun x4 =>
chk (isO f x4 8) <|
(m_X9_advance F x4 f).bind fun f6 =>
chk (isO f6 u0 4) <|
bd2 (m_X5_readPair F u0 f6) fun x8 f9 =>
if x8 = 0 then
(chk (okZ (0 : Int32)) <|
some ((0 : Int32), f9))
else
((gR f9 u0 4 1).bind fun x11 =>
(gI f9 u0 4 4).bind fun x12 =>
(gI f9 u0 4 5).bind fun x13 =>
chk (isO f9 x11 3) <|
(m_X4_hasSense F x11 x12 x13 f9).bind fun x15 =>
if x15 = 0 then
((gR f9 u0 4 1).bind fun x17 =>
(gI f9 u0 4 4).bind fun x18 =>
(gI f9 u0 4 5).bind fun x19 =>
chk (isO f9 x17 3) <|
(m_X4_putSense F x17 x18 x19 f9).bind fun f21 =>
(gR f21 u0 4 0).bind fun x22 =>
chk (isO f21 x22 8) <|
(m_X9_advance F x22 f21).bind fun f24 =>
chk (okZ (1 : Int32)) <|
some ((1 : Int32), f24))
else
((gR f9 u0 4 0).bind fun x26 =>
chk (isO f9 x26 8) <|
bd2 (m_X9_fail F x26 (3 : Int32) f9) fun x28 f29 =>
chk (okZ x28) <|
some (x28, f29))))
else
((gR f u0 4 0).bind fun x32 =>
chk (isO f x32 8) <|
bd2 (m_X9_fail F x32 (4 : Int32) f) fun x34 f35 =>
chk (okZ x34) <|
some (x34, f35))
/-! CopyOrders$House.putRhyme(III)V -/
def m_X4_putRhyme (F : Nat) (u0 : Option Nat) (u1 : Int32) (u2 : Int32) (u3 : Int32) (f : Hp) : Option Hp :=
nmd (((u1 * (7 : Int32)) + u2)) fun y1 =>
if y1 < 0 then
(some f)
else
((gR f u0 3 10).bind fun x3 =>
(alen f 1 x3).bind fun x4 =>
if x4 ≤ y1 then
(some f)
else
((gR f u0 3 10).bind fun x6 =>
(stI f 1 x6 y1 u3).bind fun f7 =>
(gI f7 u0 3 9).bind fun x8 =>
(pV f7 u0 3 9 (.int (x8 + (1 : Int32)))).bind fun f9 =>
some f9))
/-! CopyOrders$HouseReader.readRhyme()Z -/
def m_X5_readRhyme (F : Nat) (u0 : Option Nat) (f : Hp) : Option ((Int32) × Hp) :=
(gR f u0 4 1).bind fun x1 =>
(gI f x1 3 9).bind fun x2 =>
if x2 < (12 : Int32) then
((gR f u0 4 0).bind fun x4 =>
chk (isO f x4 8) <|
(m_X9_advance F x4 f).bind fun f6 =>
chk (isO f6 u0 4) <|
bd2 (m_X5_readPair F u0 f6) fun x8 f9 =>
if x8 = 0 then
(chk (okZ (0 : Int32)) <|
some ((0 : Int32), f9))
else
((gR f9 u0 4 1).bind fun x11 =>
(gI f9 u0 4 4).bind fun x12 =>
(gI f9 u0 4 5).bind fun x13 =>
chk (isO f9 x11 3) <|
(m_X4_gainOf F x11 x12 x13 f9).bind fun x15 =>
if x15 = 0 then
((gR f9 u0 4 0).bind fun x17 =>
chk (isO f9 x17 8) <|
(m_X9_advance F x17 f9).bind fun f19 =>
(gR f19 u0 4 0).bind fun x20 =>
chk (isO f19 x20 8) <|
bd2 (m_X9_numberHere F x20 (1 : Int32) (99 : Int32) f19) fun x22 f23 =>
if x22 = (-1 : Int32) then
(chk (okZ (0 : Int32)) <|
some ((0 : Int32), f23))
else
((gR f23 u0 4 1).bind fun x25 =>
(gI f23 u0 4 4).bind fun x26 =>
(gI f23 u0 4 5).bind fun x27 =>
chk (isO f23 x25 3) <|
(m_X4_putRhyme F x25 x26 x27 x22 f23).bind fun f29 =>
(gR f29 u0 4 0).bind fun x30 =>
chk (isO f29 x30 8) <|
(m_X9_advance F x30 f29).bind fun f32 =>
chk (okZ (1 : Int32)) <|
some ((1 : Int32), f32)))
else
((gR f9 u0 4 0).bind fun x35 =>
chk (isO f9 x35 8) <|
bd2 (m_X9_fail F x35 (3 : Int32) f9) fun x37 f38 =>
chk (okZ x37) <|
some (x37, f38))))
else
((gR f u0 4 0).bind fun x41 =>
chk (isO f x41 8) <|
bd2 (m_X9_fail F x41 (4 : Int32) f) fun x43 f44 =>
chk (okZ x43) <|
some (x43, f44))
/-! CopyOrders$HouseReader.readLine()Z -/
def m_X5_readLine (F : Nat) (u0 : Option Nat) (f : Hp) : Option ((Int32) × Hp) :=
(gR f u0 4 0).bind fun x1 =>
(gR f x1 8 7).bind fun x2 =>
(enI x2).bind fun i3 =>
(ldI f 1 (some 33) (nI i3)).bind fun x4 =>
if x4 = (3 : Int32) then
(chk (isO f u0 4) <|
bd2 (m_X5_readLines F u0 f) fun x7 f8 =>
chk (okZ x7) <|
some (x7, f8))
else
if x4 = (4 : Int32) then
((pZ f u0 4 2 (1 : Int32)).bind fun f11 =>
chk (isO f11 u0 4) <|
bd2 (m_X5_readCopy F u0 f11) fun x13 f14 =>
chk (okZ x13) <|
some (x13, f14))
else
if x4 = (5 : Int32) then
(chk (isO f u0 4) <|
bd2 (m_X5_readDesk F u0 f) fun x18 f19 =>
chk (okZ x18) <|
some (x18, f19))
else
if x4 = (6 : Int32) then
((pZ f u0 4 2 (1 : Int32)).bind fun f22 =>
chk (isO f22 u0 4) <|
bd2 (m_X5_readLikely F u0 f22) fun x24 f25 =>
chk (okZ x24) <|
some (x24, f25))
else
if x4 = (7 : Int32) then
((pZ f u0 4 2 (1 : Int32)).bind fun f28 =>
chk (isO f28 u0 4) <|
bd2 (m_X5_readSense F u0 f28) fun x30 f31 =>
chk (okZ x30) <|
some (x30, f31))
else
if x4 = (8 : Int32) then
((pZ f u0 4 2 (1 : Int32)).bind fun f34 =>
chk (isO f34 u0 4) <|
bd2 (m_X5_readRhyme F u0 f34) fun x36 f37 =>
chk (okZ x36) <|
some (x36, f37))
else
((gR f u0 4 0).bind fun x39 =>
chk (isO f x39 8) <|
bd2 (m_X9_fail F x39 (1 : Int32) f) fun x41 f42 =>
chk (okZ x41) <|
some (x41, f42))
/-! CopyOrders$Tokens.passSign(I)Z -/
def m_X9_passSign (F : Nat) (u0 : Option Nat) (u1 : Int32) (f : Hp) : Option ((Int32) × Hp) :=
(gI f u0 8 8).bind fun x1 =>
if x1 = u1 then
(chk (isO f u0 8) <|
(m_X9_advance F u0 f).bind fun f4 =>
chk (okZ (1 : Int32)) <|
some ((1 : Int32), f4))
else
(chk (isO f u0 8) <|
bd2 (m_X9_fail F u0 (1 : Int32) f) fun x7 f8 =>
chk (okZ x7) <|
some (x7, f8))
/-! CopyOrders$HouseReader.read(LCopyOrders$House;)I -/
def m_X5_read_b24 (F : Nat) (rc24 : (Option Nat) → Int32 → Hp → Option ((Int32) × Hp)) (v0 : Option Nat) (v2 : Int32) (fa : Hp) : Option ((Int32) × Hp) :=
if (740 : Int32) < v2 then
(some ((-1 : Int32), fa))
else
((gR fa v0 4 0).bind fun x2 =>
(gI fa x2 8 5).bind fun x3 =>
if x3 = 0 then
(some (v2, fa))
else
(chk (isO fa v0 4) <|
bd2 (m_X5_readLine F v0 fa) fun x6 f7 =>
if x6 = 0 then
(some ((-1 : Int32), f7))
else
((gR f7 v0 4 0).bind fun x9 =>
chk (isO f7 x9 8) <|
bd2 (m_X9_passSign F x9 (59 : Int32) f7) fun x11 f12 =>
if x11 = 0 then
(some ((-1 : Int32), f12))
else
(nmd (v2 + (1 : Int32)) fun y14 =>
rc24 v0 y14 f12))))
def m_X5_read_L24 (F : Nat) : Nat → Option Nat → Int32 → Hp → Option ((Int32) × Hp)
  | 0, _, _, _ => none
  | k + 1, v0, v2, fa => m_X5_read_b24 F (m_X5_read_L24 F k) v0 v2 fa
def m_X5_read (F : Nat) (u0 : Option Nat) (u1 : Option Nat) (f : Hp) : Option ((Int32) × Hp) :=
(pV f u0 4 1 (va_rf u1)).bind fun f15 =>
(gR f15 u0 4 1).bind fun x16 =>
chk (isO f15 x16 3) <|
(m_X4_clear F x16 f15).bind fun f18 =>
(pZ f18 u0 4 2 (0 : Int32)).bind fun f19 =>
(pV f19 u0 4 3 (.int (0 : Int32))).bind fun f20 =>
m_X5_read_L24 F F u0 (0 : Int32) f20
/-! CopyOrders.house()I -/
def m_X11_house (F : Nat) (u0 : Option Nat) (f : Hp) : Option ((Int32) × Hp) :=
(gR f u0 9 7).bind fun x1 =>
chk (isO f u0 9) <|
bd2 (m_X11_takeTape F u0 f) fun x3 f4 =>
chk (isO f4 x1 8) <|
(m_X9_open F x1 x3 (700 : Int32) f4).bind fun f6 =>
(gR f6 u0 9 8).bind fun x7 =>
(gR f6 u0 9 3).bind fun x8 =>
chk (isO f6 x7 4) <|
bd2 (m_X5_read F x7 x8 f6) fun x10 f11 =>
(gR f11 u0 9 7).bind fun x12 =>
(gI f11 x12 8 10).bind fun x13 =>
(pV f11 u0 9 12 (.int x13)).bind fun f14 =>
(gI f14 u0 9 12).bind fun x15 =>
if x15 = 0 then
((gR f14 u0 9 2).bind fun x17 =>
(gR f14 u0 9 3).bind fun x18 =>
(pV f14 u0 9 2 (va_rf x18)).bind fun f19 =>
(pV f19 u0 9 3 (va_rf x17)).bind fun f20 =>
some (x10, f20))
else
((gR f14 u0 9 7).bind fun x21 =>
(gI f14 x21 8 11).bind fun x22 =>
some (((-1 : Int32) - x22), f14))
/-! CopyOrders$Sentence.<init>()V -/
def m_X7_init_b47 (F : Nat) (rc47 : (Option Nat) → Int32 → Hp → Nat → Nat → Option (Hp × Nat × Nat)) (v0 : Option Nat) (v1 : Int32) (fa : Hp) (na za : Nat) : Option (Hp × Nat × Nat) :=
if (40 : Int32) ≤ v1 then
(some (fa, na, za))
else
((gR fa v0 6 1).bind fun x2 =>
(stR fa 8 x2 v1 (some 0)).bind fun f3 =>
nmd (v1 + (1 : Int32)) fun y4 =>
rc47 v0 y4 f3 (na) (za))
def m_X7_init_L47 (F : Nat) : Nat → Option Nat → Int32 → Hp → Nat → Nat → Option (Hp × Nat × Nat)
  | 0, _, _, _, _, _ => none
  | k + 1, v0, v1, fa, na, za => m_X7_init_b47 F (m_X7_init_L47 F k) v0 v1 fa na za
def m_X7_init (F : Nat) (u0 : Option Nat) (f : Hp) (n z : Nat) : Option (Hp × Nat × Nat) :=
chk (isS u0) <|
chk (decide (¬ (40 : Int32) < 0 ∧ Int32.toNatClampNeg (40 : Int32) ≤ 100000)) <|
grow pr3 (n + 1) (z + Int32.toNatClampNeg (40 : Int32)) <|
nmd (va_up f (n) (some (.inr (8, Int32.toNatClampNeg (40 : Int32), .inr (.inr (.inr (.inr fun _ => none))))))) fun f8 =>
(pV f8 u0 6 1 (va_rf (some (n)))).bind fun f9 =>
chk (decide (¬ (40 : Int32) < 0 ∧ Int32.toNatClampNeg (40 : Int32) ≤ 100000)) <|
grow pr3 (n + 1 + 1) (z + Int32.toNatClampNeg (40 : Int32) + Int32.toNatClampNeg (40 : Int32)) <|
nmd (va_up f9 (n + 1) (some (.inr (1, Int32.toNatClampNeg (40 : Int32), .inl fun _ => 0)))) fun f12 =>
(pV f12 u0 6 2 (va_rf (some (n + 1)))).bind fun f13 =>
chk (decide (¬ (40 : Int32) < 0 ∧ Int32.toNatClampNeg (40 : Int32) ≤ 100000)) <|
grow pr3 (n + 1 + 1 + 1) (z + Int32.toNatClampNeg (40 : Int32) + Int32.toNatClampNeg (40 : Int32) + Int32.toNatClampNeg (40 : Int32)) <|
nmd (va_up f13 (n + 1 + 1) (some (.inr (1, Int32.toNatClampNeg (40 : Int32), .inl fun _ => 0)))) fun f16 =>
(pV f16 u0 6 3 (va_rf (some (n + 1 + 1)))).bind fun f17 =>
chk (decide (¬ (40 : Int32) < 0 ∧ Int32.toNatClampNeg (40 : Int32) ≤ 100000)) <|
grow pr3 (n + 1 + 1 + 1 + 1) (z + Int32.toNatClampNeg (40 : Int32) + Int32.toNatClampNeg (40 : Int32) + Int32.toNatClampNeg (40 : Int32) + Int32.toNatClampNeg (40 : Int32)) <|
nmd (va_up f17 (n + 1 + 1 + 1) (some (.inr (1, Int32.toNatClampNeg (40 : Int32), .inl fun _ => 0)))) fun f20 =>
(pV f20 u0 6 4 (va_rf (some (n + 1 + 1 + 1)))).bind fun f21 =>
chk (decide (¬ (40 : Int32) < 0 ∧ Int32.toNatClampNeg (40 : Int32) ≤ 100000)) <|
grow pr3 (n + 1 + 1 + 1 + 1 + 1) (z + Int32.toNatClampNeg (40 : Int32) + Int32.toNatClampNeg (40 : Int32) + Int32.toNatClampNeg (40 : Int32) + Int32.toNatClampNeg (40 : Int32) + Int32.toNatClampNeg (40 : Int32)) <|
nmd (va_up f21 (n + 1 + 1 + 1 + 1) (some (.inr (1, Int32.toNatClampNeg (40 : Int32), .inl fun _ => 0)))) fun f24 =>
(pV f24 u0 6 5 (va_rf (some (n + 1 + 1 + 1 + 1)))).bind fun f25 =>
m_X7_init_L47 F F u0 (0 : Int32) f25 (n + 1 + 1 + 1 + 1 + 1) (z + Int32.toNatClampNeg (40 : Int32) + Int32.toNatClampNeg (40 : Int32) + Int32.toNatClampNeg (40 : Int32) + Int32.toNatClampNeg (40 : Int32) + Int32.toNatClampNeg (40 : Int32))
/-! CopyOrders$Desk.<init>()V -/
def m_X2_init (F : Nat) (u0 : Option Nat) (f : Hp) : Option Hp :=
chk (isS u0) <|
(pV f u0 1 0 (va_rf (some 4))).bind fun f2 =>
(pV f2 u0 1 1 (.int (1 : Int32))).bind fun f3 =>
some f3
/-! CopyOrders$House.<init>()V -/
def m_X4_init_b99 (F : Nat) (rc99 : (Option Nat) → Int32 → Hp → Nat → Nat → Option (Hp × Nat × Nat)) (v0 : Option Nat) (v1 : Int32) (fa : Hp) (na za : Nat) : Option (Hp × Nat × Nat) :=
if (6 : Int32) ≤ v1 then
((gR fa v0 3 5).bind fun x10 =>
grow pr3 (na) (za) <|
(m_J7_fill_53178 F x10 (1 : Int32) fa).bind fun f12 =>
some (f12, na, za))
else
((gR fa v0 3 4).bind fun x13 =>
grow pr3 (na + 1) (za + 3) <|
nmd (va_up fa (na) (some (.inl (1, [.null, .int 0, .long 0])))) fun f15 =>
grow pr3 (na + 1) (za + 3) <|
(m_X2_init F ((some (na))) f15).bind fun f17 =>
(stR f17 5 x13 v1 (some (na))).bind fun f18 =>
nmd (v1 + (1 : Int32)) fun y19 =>
rc99 v0 y19 f18 (na + 1) (za + 3))
def m_X4_init_L99 (F : Nat) : Nat → Option Nat → Int32 → Hp → Nat → Nat → Option (Hp × Nat × Nat)
  | 0, _, _, _, _, _ => none
  | k + 1, v0, v1, fa, na, za => m_X4_init_b99 F (m_X4_init_L99 F k) v0 v1 fa na za
def m_X4_init_b72 (F : Nat) (rc72 : (Option Nat) → Int32 → Hp → Nat → Nat → Option (Hp × Nat × Nat)) (v0 : Option Nat) (v1 : Int32) (fa : Hp) (na za : Nat) : Option (Hp × Nat × Nat) :=
if (10 : Int32) ≤ v1 then
(m_X4_init_L99 F F v0 (0 : Int32) fa (na) (za))
else
((gR fa v0 3 2).bind fun x2 =>
grow pr3 (na + 1) (za + 6) <|
nmd (va_up fa (na) (some (.inl (0, [.long 0, .int 0, .int 0, .int 0, .int 0, .int 0])))) fun f4 =>
grow pr3 (na + 1) (za + 6) <|
(m_X1_init F ((some (na))) f4).bind fun f6 =>
(stR f6 4 x2 v1 (some (na))).bind fun f7 =>
nmd (v1 + (1 : Int32)) fun y8 =>
rc72 v0 y8 f7 (na + 1) (za + 6))
def m_X4_init_L72 (F : Nat) : Nat → Option Nat → Int32 → Hp → Nat → Nat → Option (Hp × Nat × Nat)
  | 0, _, _, _, _, _ => none
  | k + 1, v0, v1, fa, na, za => m_X4_init_b72 F (m_X4_init_L72 F k) v0 v1 fa na za
def m_X4_init (F : Nat) (u0 : Option Nat) (f : Hp) (n z : Nat) : Option (Hp × Nat × Nat) :=
chk (isS u0) <|
(pV f u0 3 0 (.int (4 : Int32))).bind fun f21 =>
chk (decide (¬ (10 : Int32) < 0 ∧ Int32.toNatClampNeg (10 : Int32) ≤ 100000)) <|
grow pr3 (n + 1) (z + Int32.toNatClampNeg (10 : Int32)) <|
nmd (va_up f21 (n) (some (.inr (4, Int32.toNatClampNeg (10 : Int32), .inr (.inr (.inr (.inr fun _ => none))))))) fun f24 =>
(pV f24 u0 3 2 (va_rf (some (n)))).bind fun f25 =>
chk (decide (¬ (6 : Int32) < 0 ∧ Int32.toNatClampNeg (6 : Int32) ≤ 100000)) <|
grow pr3 (n + 1 + 1) (z + Int32.toNatClampNeg (10 : Int32) + Int32.toNatClampNeg (6 : Int32)) <|
nmd (va_up f25 (n + 1) (some (.inr (5, Int32.toNatClampNeg (6 : Int32), .inr (.inr (.inr (.inr fun _ => none))))))) fun f28 =>
(pV f28 u0 3 4 (va_rf (some (n + 1)))).bind fun f29 =>
chk (decide (¬ (6 : Int32) < 0 ∧ Int32.toNatClampNeg (6 : Int32) ≤ 100000)) <|
grow pr3 (n + 1 + 1 + 1) (z + Int32.toNatClampNeg (10 : Int32) + Int32.toNatClampNeg (6 : Int32) + Int32.toNatClampNeg (6 : Int32)) <|
nmd (va_up f29 (n + 1 + 1) (some (.inr (1, Int32.toNatClampNeg (6 : Int32), .inl fun _ => 0)))) fun f32 =>
(pV f32 u0 3 5 (va_rf (some (n + 1 + 1)))).bind fun f33 =>
chk (decide (¬ (12 : Int32) < 0 ∧ Int32.toNatClampNeg (12 : Int32) ≤ 100000)) <|
grow pr3 (n + 1 + 1 + 1 + 1) (z + Int32.toNatClampNeg (10 : Int32) + Int32.toNatClampNeg (6 : Int32) + Int32.toNatClampNeg (6 : Int32) + Int32.toNatClampNeg (12 : Int32)) <|
nmd (va_up f33 (n + 1 + 1 + 1) (some (.inr (1, Int32.toNatClampNeg (12 : Int32), .inl fun _ => 0)))) fun f36 =>
(pV f36 u0 3 7 (va_rf (some (n + 1 + 1 + 1)))).bind fun f37 =>
chk (decide (¬ (12 : Int32) < 0 ∧ Int32.toNatClampNeg (12 : Int32) ≤ 100000)) <|
grow pr3 (n + 1 + 1 + 1 + 1 + 1) (z + Int32.toNatClampNeg (10 : Int32) + Int32.toNatClampNeg (6 : Int32) + Int32.toNatClampNeg (6 : Int32) + Int32.toNatClampNeg (12 : Int32) + Int32.toNatClampNeg (12 : Int32)) <|
nmd (va_up f37 (n + 1 + 1 + 1 + 1) (some (.inr (1, Int32.toNatClampNeg (12 : Int32), .inl fun _ => 0)))) fun f40 =>
(pV f40 u0 3 8 (va_rf (some (n + 1 + 1 + 1 + 1)))).bind fun f41 =>
chk (decide (¬ (49 : Int32) < 0 ∧ Int32.toNatClampNeg (49 : Int32) ≤ 100000)) <|
grow pr3 (n + 1 + 1 + 1 + 1 + 1 + 1) (z + Int32.toNatClampNeg (10 : Int32) + Int32.toNatClampNeg (6 : Int32) + Int32.toNatClampNeg (6 : Int32) + Int32.toNatClampNeg (12 : Int32) + Int32.toNatClampNeg (12 : Int32) + Int32.toNatClampNeg (49 : Int32)) <|
nmd (va_up f41 (n + 1 + 1 + 1 + 1 + 1) (some (.inr (1, Int32.toNatClampNeg (49 : Int32), .inl fun _ => 0)))) fun f44 =>
(pV f44 u0 3 10 (va_rf (some (n + 1 + 1 + 1 + 1 + 1)))).bind fun f45 =>
grow pr3 (n + 1 + 1 + 1 + 1 + 1 + 1 + 1) (z + Int32.toNatClampNeg (10 : Int32) + Int32.toNatClampNeg (6 : Int32) + Int32.toNatClampNeg (6 : Int32) + Int32.toNatClampNeg (12 : Int32) + Int32.toNatClampNeg (12 : Int32) + Int32.toNatClampNeg (49 : Int32) + 6) <|
nmd (va_up f45 (n + 1 + 1 + 1 + 1 + 1 + 1) (some (.inl (6, [.int 0, .null, .null, .null, .null, .null])))) fun f47 =>
bd3 (m_X7_init F ((some (n + 1 + 1 + 1 + 1 + 1 + 1))) f47 (n + 1 + 1 + 1 + 1 + 1 + 1 + 1) (z + Int32.toNatClampNeg (10 : Int32) + Int32.toNatClampNeg (6 : Int32) + Int32.toNatClampNeg (6 : Int32) + Int32.toNatClampNeg (12 : Int32) + Int32.toNatClampNeg (12 : Int32) + Int32.toNatClampNeg (49 : Int32) + 6)) fun f50 nq48 zq49 =>
chk (decide (n + 1 + 1 + 1 + 1 + 1 + 1 + 1 ≤ nq48 ∧ z + Int32.toNatClampNeg (10 : Int32) + Int32.toNatClampNeg (6 : Int32) + Int32.toNatClampNeg (6 : Int32) + Int32.toNatClampNeg (12 : Int32) + Int32.toNatClampNeg (12 : Int32) + Int32.toNatClampNeg (49 : Int32) + 6 ≤ zq49)) <|
grow pr3 nq48 zq49 <|
(pV f50 u0 3 11 (va_rf (some (n + 1 + 1 + 1 + 1 + 1 + 1)))).bind fun f53 =>
m_X4_init_L72 F F u0 (0 : Int32) f53 (nq48) (zq49)
/-! CopyOrders$Copy.become(LCopyOrders$Copy;)V -/
def m_X1_become (F : Nat) (u0 : Option Nat) (u1 : Option Nat) (f : Hp) : Option Hp :=
(gJ f u1 0 0).bind fun x1 =>
(pV f u0 0 0 (.long x1)).bind fun f2 =>
(gI f2 u1 0 1).bind fun x3 =>
(pV f2 u0 0 1 (.int x3)).bind fun f4 =>
(gI f4 u1 0 2).bind fun x5 =>
(pV f4 u0 0 2 (.int x5)).bind fun f6 =>
(gI f6 u1 0 3).bind fun x7 =>
(pV f6 u0 0 3 (.int x7)).bind fun f8 =>
(gI f8 u1 0 4).bind fun x9 =>
(pV f8 u0 0 4 (.int x9)).bind fun f10 =>
(gI f10 u1 0 5).bind fun x11 =>
(pV f10 u0 0 5 (.int x11)).bind fun f12 =>
some f12
/-! CopyOrders$Desk.become(LCopyOrders$Desk;)V -/
def m_X2_become (F : Nat) (u0 : Option Nat) (u1 : Option Nat) (f : Hp) : Option Hp :=
(gR f u1 1 0).bind fun x1 =>
(pV f u0 1 0 (va_rf x1)).bind fun f2 =>
(gI f2 u1 1 1).bind fun x3 =>
(pV f2 u0 1 1 (.int x3)).bind fun f4 =>
(gJ f4 u1 1 2).bind fun x5 =>
(pV f4 u0 1 2 (.long x5)).bind fun f6 =>
some f6
/-! CopyOrders$Sentence.become(LCopyOrders$Sentence;)V -/
def m_X7_become_b10 (F : Nat) (rc10 : (Option Nat) → (Option Nat) → Int32 → Hp → Option Hp) (v0 : Option Nat) (v1 : Option Nat) (v2 : Int32) (fa : Hp) : Option Hp :=
if (40 : Int32) ≤ v2 then
(some fa)
else
((gR fa v0 6 1).bind fun x2 =>
(gR fa v1 6 1).bind fun x3 =>
(ldR fa 8 x3 v2).bind fun x4 =>
(stR fa 8 x2 v2 x4).bind fun f5 =>
(gR f5 v0 6 2).bind fun x6 =>
(gR f5 v1 6 2).bind fun x7 =>
(ldI f5 1 x7 v2).bind fun x8 =>
(stI f5 1 x6 v2 x8).bind fun f9 =>
(gR f9 v0 6 3).bind fun x10 =>
(gR f9 v1 6 3).bind fun x11 =>
(ldI f9 1 x11 v2).bind fun x12 =>
(stI f9 1 x10 v2 x12).bind fun f13 =>
(gR f13 v0 6 4).bind fun x14 =>
(gR f13 v1 6 4).bind fun x15 =>
(ldI f13 1 x15 v2).bind fun x16 =>
(stI f13 1 x14 v2 x16).bind fun f17 =>
(gR f17 v0 6 5).bind fun x18 =>
(gR f17 v1 6 5).bind fun x19 =>
(ldI f17 1 x19 v2).bind fun x20 =>
(stI f17 1 x18 v2 x20).bind fun f21 =>
nmd (v2 + (1 : Int32)) fun y22 =>
rc10 v0 v1 y22 f21)
def m_X7_become_L10 (F : Nat) : Nat → Option Nat → Option Nat → Int32 → Hp → Option Hp
  | 0, _, _, _, _ => none
  | k + 1, v0, v1, v2, fa => m_X7_become_b10 F (m_X7_become_L10 F k) v0 v1 v2 fa
def m_X7_become (F : Nat) (u0 : Option Nat) (u1 : Option Nat) (f : Hp) : Option Hp :=
(gI f u1 6 0).bind fun x23 =>
(pV f u0 6 0 (.int x23)).bind fun f24 =>
m_X7_become_L10 F F u0 u1 (0 : Int32) f24
/-! CopyOrders$House.become(LCopyOrders$House;)V -/
def m_X4_become_B82 (F : Nat) (v0 : Option Nat) (v1 : Option Nat) (fa : Hp) : Option Hp :=
(gR fa v1 3 5).bind fun x19 =>
(gR fa v0 3 5).bind fun x20 =>
(gR fa v0 3 5).bind fun x21 =>
(alen fa 1 x21).bind fun x22 =>
(cpI fa 1 x19 (0 : Int32) x20 (0 : Int32) x22).bind fun f23 =>
(gI f23 v1 3 6).bind fun x24 =>
(pV f23 v0 3 6 (.int x24)).bind fun f25 =>
(gR f25 v1 3 7).bind fun x26 =>
(gR f25 v0 3 7).bind fun x27 =>
(cpI f25 1 x26 (0 : Int32) x27 (0 : Int32) (12 : Int32)).bind fun f28 =>
(gR f28 v1 3 8).bind fun x29 =>
(gR f28 v0 3 8).bind fun x30 =>
(cpI f28 1 x29 (0 : Int32) x30 (0 : Int32) (12 : Int32)).bind fun f31 =>
(gI f31 v1 3 9).bind fun x32 =>
(pV f31 v0 3 9 (.int x32)).bind fun f33 =>
(gR f33 v1 3 10).bind fun x34 =>
(gR f33 v0 3 10).bind fun x35 =>
(gR f33 v0 3 10).bind fun x36 =>
(alen f33 1 x36).bind fun x37 =>
(cpI f33 1 x34 (0 : Int32) x35 (0 : Int32) x37).bind fun f38 =>
(gR f38 v0 3 11).bind fun x39 =>
(gR f38 v1 3 11).bind fun x40 =>
chk (isO f38 x39 6) <|
(m_X7_become F x39 x40 f38).bind fun f42 =>
some f42
def m_X4_become_b55 (F : Nat) (rc55 : (Option Nat) → (Option Nat) → Int32 → Hp → Option Hp) (v0 : Option Nat) (v1 : Option Nat) (v2 : Int32) (fa : Hp) : Option Hp :=
if (6 : Int32) ≤ v2 then
(m_X4_become_B82 F v0 v1 fa)
else
((gR fa v0 3 4).bind fun x12 =>
(ldR fa 5 x12 v2).bind fun x13 =>
(gR fa v1 3 4).bind fun x14 =>
(ldR fa 5 x14 v2).bind fun x15 =>
chk (isO fa x13 1) <|
(m_X2_become F x13 x15 fa).bind fun f17 =>
nmd (v2 + (1 : Int32)) fun y18 =>
rc55 v0 v1 y18 f17)
def m_X4_become_L55 (F : Nat) : Nat → Option Nat → Option Nat → Int32 → Hp → Option Hp
  | 0, _, _, _, _ => none
  | k + 1, v0, v1, v2, fa => m_X4_become_b55 F (m_X4_become_L55 F k) v0 v1 v2 fa
def m_X4_become_b18 (F : Nat) (rc18 : (Option Nat) → (Option Nat) → Int32 → Hp → Option Hp) (v0 : Option Nat) (v1 : Option Nat) (v2 : Int32) (fa : Hp) : Option Hp :=
if (10 : Int32) ≤ v2 then
((gI fa v1 3 3).bind fun x2 =>
(pV fa v0 3 3 (.int x2)).bind fun f3 =>
m_X4_become_L55 F F v0 v1 (0 : Int32) f3)
else
((gR fa v0 3 2).bind fun x4 =>
(ldR fa 4 x4 v2).bind fun x5 =>
(gR fa v1 3 2).bind fun x6 =>
(ldR fa 4 x6 v2).bind fun x7 =>
chk (isO fa x5 0) <|
(m_X1_become F x5 x7 fa).bind fun f9 =>
nmd (v2 + (1 : Int32)) fun y10 =>
rc18 v0 v1 y10 f9)
def m_X4_become_L18 (F : Nat) : Nat → Option Nat → Option Nat → Int32 → Hp → Option Hp
  | 0, _, _, _, _ => none
  | k + 1, v0, v1, v2, fa => m_X4_become_b18 F (m_X4_become_L18 F k) v0 v1 v2 fa
def m_X4_become (F : Nat) (u0 : Option Nat) (u1 : Option Nat) (f : Hp) : Option Hp :=
(gI f u1 3 0).bind fun x43 =>
(pV f u0 3 0 (.int x43)).bind fun f44 =>
(gI f44 u1 3 1).bind fun x45 =>
(pV f44 u0 3 1 (.int x45)).bind fun f46 =>
m_X4_become_L18 F F u0 u1 (0 : Int32) f46
/-! CopyOrders.image(I)Z -/
def m_X11_image_B33 (F : Nat) (v0 : Option Nat) (v1 : Int32) (fa : Hp) (na za : Nat) : Option ((Int32) × Hp × Nat × Nat) :=
(gR fa v0 9 5).bind fun x1 =>
(ldR fa 6 x1 v1).bind fun x2 =>
(gR fa v0 9 2).bind fun x3 =>
chk (isO fa x2 3) <|
grow pr4 (na) (za) <|
(m_X4_become F x2 x3 fa).bind fun f6 =>
chk (okZ (1 : Int32)) <|
some ((1 : Int32), f6, na, za)
def m_X11_image (F : Nat) (u0 : Option Nat) (u1 : Int32) (f : Hp) (n z : Nat) : Option ((Int32) × Hp × Nat × Nat) :=
if u1 < 0 then
(chk (okZ (0 : Int32)) <|
some ((0 : Int32), f, n, z))
else
(if u1 < (2 : Int32) then
((gR f u0 9 5).bind fun x11 =>
(ldR f 6 x11 u1).bind fun x12 =>
if x12 = none then
((gR f u0 9 5).bind fun x14 =>
grow pr4 (n + 1) (z + 12) <|
nmd (va_up f (n) (some (.inl (3, [.int 0, .int 0, .null, .int 0, .null, .null, .int 0, .null, .null, .int 0, .null, .null])))) fun f16 =>
bd3 (m_X4_init F ((some (n))) f16 (n + 1) (z + 12)) fun f19 nq17 zq18 =>
chk (decide (n + 1 ≤ nq17 ∧ z + 12 ≤ zq18)) <|
grow pr4 nq17 zq18 <|
(stR f19 6 x14 u1 (some (n))).bind fun f22 =>
m_X11_image_B33 F u0 u1 f22 (nq17) (zq18))
else
(m_X11_image_B33 F u0 u1 f (n) (z)))
else
(chk (okZ (0 : Int32)) <|
some ((0 : Int32), f, n, z)))
/-! CopyOrders$Tokens.<init>([B)V -/
def m_X9_init (F : Nat) (u0 : Option Nat) (u1 : Option Nat) (f : Hp) : Option Hp :=
chk (isS u0) <|
(pV f u0 8 7 (va_rf (some 0))).bind fun f2 =>
(pV f2 u0 8 0 (va_rf u1)).bind fun f3 =>
some f3
/-! CopyOrders$HouseReader.<init>(LCopyOrders$Tokens;)V -/
def m_X5_init (F : Nat) (u0 : Option Nat) (u1 : Option Nat) (f : Hp) : Option Hp :=
chk (isS u0) <|
(pV f u0 4 0 (va_rf u1)).bind fun f2 =>
some f2
/-! CopyOrders$SentenceReader.<init>(LCopyOrders$Tokens;)V -/
def m_X8_init (F : Nat) (u0 : Option Nat) (u1 : Option Nat) (f : Hp) : Option Hp :=
chk (isS u0) <|
(pV f u0 7 0 (va_rf u1)).bind fun f2 =>
some f2
/-! CopyOrders$Family.<init>()V -/
def m_X3_init (F : Nat) (u0 : Option Nat) (f : Hp) (n z : Nat) : Option (Hp × Nat × Nat) :=
chk (isS u0) <|
chk (decide (¬ (10 : Int32) < 0 ∧ Int32.toNatClampNeg (10 : Int32) ≤ 100000)) <|
grow pr3 (n + 1) (z + Int32.toNatClampNeg (10 : Int32)) <|
nmd (va_up f (n) (some (.inr (1, Int32.toNatClampNeg (10 : Int32), .inl fun _ => 0)))) fun f4 =>
(pV f4 u0 2 1 (va_rf (some (n)))).bind fun f5 =>
chk (decide (¬ (10 : Int32) < 0 ∧ Int32.toNatClampNeg (10 : Int32) ≤ 100000)) <|
grow pr3 (n + 1 + 1) (z + Int32.toNatClampNeg (10 : Int32) + Int32.toNatClampNeg (10 : Int32)) <|
nmd (va_up f5 (n + 1) (some (.inr (1, Int32.toNatClampNeg (10 : Int32), .inl fun _ => 0)))) fun f8 =>
(pV f8 u0 2 2 (va_rf (some (n + 1)))).bind fun f9 =>
chk (decide (¬ (100 : Int32) < 0 ∧ Int32.toNatClampNeg (100 : Int32) ≤ 100000)) <|
grow pr3 (n + 1 + 1 + 1) (z + Int32.toNatClampNeg (10 : Int32) + Int32.toNatClampNeg (10 : Int32) + Int32.toNatClampNeg (100 : Int32)) <|
nmd (va_up f9 (n + 1 + 1) (some (.inr (1, Int32.toNatClampNeg (100 : Int32), .inl fun _ => 0)))) fun f12 =>
(pV f12 u0 2 3 (va_rf (some (n + 1 + 1)))).bind fun f13 =>
chk (decide (¬ (10 : Int32) < 0 ∧ Int32.toNatClampNeg (10 : Int32) ≤ 100000)) <|
grow pr3 (n + 1 + 1 + 1 + 1) (z + Int32.toNatClampNeg (10 : Int32) + Int32.toNatClampNeg (10 : Int32) + Int32.toNatClampNeg (100 : Int32) + Int32.toNatClampNeg (10 : Int32)) <|
nmd (va_up f13 (n + 1 + 1 + 1) (some (.inr (1, Int32.toNatClampNeg (10 : Int32), .inl fun _ => 0)))) fun f16 =>
(pV f16 u0 2 4 (va_rf (some (n + 1 + 1 + 1)))).bind fun f17 =>
chk (decide (¬ (10 : Int32) < 0 ∧ Int32.toNatClampNeg (10 : Int32) ≤ 100000)) <|
grow pr3 (n + 1 + 1 + 1 + 1 + 1) (z + Int32.toNatClampNeg (10 : Int32) + Int32.toNatClampNeg (10 : Int32) + Int32.toNatClampNeg (100 : Int32) + Int32.toNatClampNeg (10 : Int32) + Int32.toNatClampNeg (10 : Int32)) <|
nmd (va_up f17 (n + 1 + 1 + 1 + 1) (some (.inr (1, Int32.toNatClampNeg (10 : Int32), .inl fun _ => 0)))) fun f20 =>
(pV f20 u0 2 5 (va_rf (some (n + 1 + 1 + 1 + 1)))).bind fun f21 =>
chk (decide (¬ (10 : Int32) < 0 ∧ Int32.toNatClampNeg (10 : Int32) ≤ 100000)) <|
grow pr3 (n + 1 + 1 + 1 + 1 + 1 + 1) (z + Int32.toNatClampNeg (10 : Int32) + Int32.toNatClampNeg (10 : Int32) + Int32.toNatClampNeg (100 : Int32) + Int32.toNatClampNeg (10 : Int32) + Int32.toNatClampNeg (10 : Int32) + Int32.toNatClampNeg (10 : Int32)) <|
nmd (va_up f21 (n + 1 + 1 + 1 + 1 + 1) (some (.inr (3, Int32.toNatClampNeg (10 : Int32), .inl fun _ => 0)))) fun f24 =>
(pV f24 u0 2 6 (va_rf (some (n + 1 + 1 + 1 + 1 + 1)))).bind fun f25 =>
some (f25, n + 1 + 1 + 1 + 1 + 1 + 1, z + Int32.toNatClampNeg (10 : Int32) + Int32.toNatClampNeg (10 : Int32) + Int32.toNatClampNeg (100 : Int32) + Int32.toNatClampNeg (10 : Int32) + Int32.toNatClampNeg (10 : Int32) + Int32.toNatClampNeg (10 : Int32))
/-! CopyOrders.<init>()V -/
def m_X11_init (F : Nat) (u0 : Option Nat) (f : Hp) (n z : Nat) : Option (Hp × Nat × Nat) :=
chk (isS u0) <|
chk (decide (¬ (740 : Int32) < 0 ∧ Int32.toNatClampNeg (740 : Int32) ≤ 100000)) <|
grow pr3 (n + 1) (z + Int32.toNatClampNeg (740 : Int32)) <|
nmd (va_up f (n) (some (.inr (0, Int32.toNatClampNeg (740 : Int32), .inl fun _ => 0)))) fun f4 =>
(pV f4 u0 9 0 (va_rf (some (n)))).bind fun f5 =>
grow pr3 (n + 1 + 1) (z + Int32.toNatClampNeg (740 : Int32) + 12) <|
nmd (va_up f5 (n + 1) (some (.inl (3, [.int 0, .int 0, .null, .int 0, .null, .null, .int 0, .null, .null, .int 0, .null, .null])))) fun f7 =>
bd3 (m_X4_init F ((some (n + 1))) f7 (n + 1 + 1) (z + Int32.toNatClampNeg (740 : Int32) + 12)) fun f10 nq8 zq9 =>
chk (decide (n + 1 + 1 ≤ nq8 ∧ z + Int32.toNatClampNeg (740 : Int32) + 12 ≤ zq9)) <|
grow pr3 nq8 zq9 <|
(pV f10 u0 9 2 (va_rf (some (n + 1)))).bind fun f13 =>
grow pr3 (nq8 + 1) (zq9 + 12) <|
nmd (va_up f13 (nq8) (some (.inl (3, [.int 0, .int 0, .null, .int 0, .null, .null, .int 0, .null, .null, .int 0, .null, .null])))) fun f15 =>
bd3 (m_X4_init F ((some (nq8))) f15 (nq8 + 1) (zq9 + 12)) fun f18 nq16 zq17 =>
chk (decide (nq8 + 1 ≤ nq16 ∧ zq9 + 12 ≤ zq17)) <|
grow pr3 nq16 zq17 <|
(pV f18 u0 9 3 (va_rf (some (nq8)))).bind fun f21 =>
grow pr3 (nq16 + 1) (zq17 + 6) <|
nmd (va_up f21 (nq16) (some (.inl (6, [.int 0, .null, .null, .null, .null, .null])))) fun f23 =>
bd3 (m_X7_init F ((some (nq16))) f23 (nq16 + 1) (zq17 + 6)) fun f26 nq24 zq25 =>
chk (decide (nq16 + 1 ≤ nq24 ∧ zq17 + 6 ≤ zq25)) <|
grow pr3 nq24 zq25 <|
(pV f26 u0 9 4 (va_rf (some (nq16)))).bind fun f29 =>
chk (decide (¬ (2 : Int32) < 0 ∧ Int32.toNatClampNeg (2 : Int32) ≤ 100000)) <|
grow pr3 (nq24 + 1) (zq25 + Int32.toNatClampNeg (2 : Int32)) <|
nmd (va_up f29 (nq24) (some (.inr (6, Int32.toNatClampNeg (2 : Int32), .inr (.inr (.inr (.inr fun _ => none))))))) fun f32 =>
(pV f32 u0 9 5 (va_rf (some (nq24)))).bind fun f33 =>
chk (decide (¬ (8 : Int32) < 0 ∧ Int32.toNatClampNeg (8 : Int32) ≤ 100000)) <|
grow pr3 (nq24 + 1 + 1) (zq25 + Int32.toNatClampNeg (2 : Int32) + Int32.toNatClampNeg (8 : Int32)) <|
nmd (va_up f33 (nq24 + 1) (some (.inr (7, Int32.toNatClampNeg (8 : Int32), .inr (.inr (.inr (.inr fun _ => none))))))) fun f36 =>
(pV f36 u0 9 6 (va_rf (some (nq24 + 1)))).bind fun f37 =>
grow pr3 (nq24 + 1 + 1 + 1) (zq25 + Int32.toNatClampNeg (2 : Int32) + Int32.toNatClampNeg (8 : Int32) + 12) <|
nmd (va_up f37 (nq24 + 1 + 1) (some (.inl (8, [.null, .int 0, .int 0, .int 0, .int 0, .int 0, .long 0, .null, .int 0, .int 0, .int 0, .int 0])))) fun f39 =>
(gR f39 u0 9 0).bind fun x40 =>
grow pr3 (nq24 + 1 + 1 + 1) (zq25 + Int32.toNatClampNeg (2 : Int32) + Int32.toNatClampNeg (8 : Int32) + 12) <|
(m_X9_init F ((some (nq24 + 1 + 1))) x40 f39).bind fun f42 =>
(pV f42 u0 9 7 (va_rf (some (nq24 + 1 + 1)))).bind fun f43 =>
grow pr3 (nq24 + 1 + 1 + 1 + 1) (zq25 + Int32.toNatClampNeg (2 : Int32) + Int32.toNatClampNeg (8 : Int32) + 12 + 6) <|
nmd (va_up f43 (nq24 + 1 + 1 + 1) (some (.inl (4, [.null, .null, .int 0, .int 0, .int 0, .int 0])))) fun f45 =>
(gR f45 u0 9 7).bind fun x46 =>
grow pr3 (nq24 + 1 + 1 + 1 + 1) (zq25 + Int32.toNatClampNeg (2 : Int32) + Int32.toNatClampNeg (8 : Int32) + 12 + 6) <|
(m_X5_init F ((some (nq24 + 1 + 1 + 1))) x46 f45).bind fun f48 =>
(pV f48 u0 9 8 (va_rf (some (nq24 + 1 + 1 + 1)))).bind fun f49 =>
grow pr3 (nq24 + 1 + 1 + 1 + 1 + 1) (zq25 + Int32.toNatClampNeg (2 : Int32) + Int32.toNatClampNeg (8 : Int32) + 12 + 6 + 4) <|
nmd (va_up f49 (nq24 + 1 + 1 + 1 + 1) (some (.inl (7, [.null, .null, .null, .int 0])))) fun f51 =>
(gR f51 u0 9 7).bind fun x52 =>
grow pr3 (nq24 + 1 + 1 + 1 + 1 + 1) (zq25 + Int32.toNatClampNeg (2 : Int32) + Int32.toNatClampNeg (8 : Int32) + 12 + 6 + 4) <|
(m_X8_init F ((some (nq24 + 1 + 1 + 1 + 1))) x52 f51).bind fun f54 =>
(pV f54 u0 9 9 (va_rf (some (nq24 + 1 + 1 + 1 + 1)))).bind fun f55 =>
grow pr3 (nq24 + 1 + 1 + 1 + 1 + 1 + 1) (zq25 + Int32.toNatClampNeg (2 : Int32) + Int32.toNatClampNeg (8 : Int32) + 12 + 6 + 4 + 7) <|
nmd (va_up f55 (nq24 + 1 + 1 + 1 + 1 + 1) (some (.inl (2, [.int 0, .null, .null, .null, .null, .null, .null])))) fun f57 =>
bd3 (m_X3_init F ((some (nq24 + 1 + 1 + 1 + 1 + 1))) f57 (nq24 + 1 + 1 + 1 + 1 + 1 + 1) (zq25 + Int32.toNatClampNeg (2 : Int32) + Int32.toNatClampNeg (8 : Int32) + 12 + 6 + 4 + 7)) fun f60 nq58 zq59 =>
chk (decide (nq24 + 1 + 1 + 1 + 1 + 1 + 1 ≤ nq58 ∧ zq25 + Int32.toNatClampNeg (2 : Int32) + Int32.toNatClampNeg (8 : Int32) + 12 + 6 + 4 + 7 ≤ zq59)) <|
grow pr3 nq58 zq59 <|
(pV f60 u0 9 10 (va_rf (some (nq24 + 1 + 1 + 1 + 1 + 1)))).bind fun f63 =>
chk (decide (¬ (7 : Int32) < 0 ∧ Int32.toNatClampNeg (7 : Int32) ≤ 100000)) <|
grow pr3 (nq58 + 1) (zq59 + Int32.toNatClampNeg (7 : Int32)) <|
nmd (va_up f63 (nq58) (some (.inr (1, Int32.toNatClampNeg (7 : Int32), .inl fun _ => 0)))) fun f66 =>
(pV f66 u0 9 11 (va_rf (some (nq58)))).bind fun f67 =>
some (f67, nq58 + 1, zq59 + Int32.toNatClampNeg (7 : Int32))
/-! CopyOrders.join(III)I -/
def m_X11_join_B110 (F : Nat) (v3 : Int32) (v7 : Int32) (v8 : Int32) (fa : Hp) (na za : Nat) : Option ((Int32) × Hp × Nat × Nat) :=
if v3 = 0 then
(some (v8, fa, na, za))
else
(some (v7, fa, na, za))
def m_X11_join_b58 (F : Nat) (rc58 : Int32 → (Option Nat) → (Option Nat) → (Option Nat) → Int32 → Int32 → Int32 → Hp → Nat → Nat → Option ((Int32) × Hp × Nat × Nat)) (v3 : Int32) (v4 : Option Nat) (v5 : Option Nat) (v6 : Option Nat) (v7 : Int32) (v8 : Int32) (v9 : Int32) (fa : Hp) (na za : Nat) : Option ((Int32) × Hp × Nat × Nat) :=
(gI fa v6 5 1).bind fun x1 =>
if x1 ≤ v9 then
(m_X11_join_B110 F v3 v7 v8 fa (na) (za))
else
(chk (isO fa v6 5) <|
grow pr4 (na) (za) <|
(m_X6_stepsTo F v6 v9 v4 fa).bind fun x5 =>
chk (isO fa v6 5) <|
grow pr4 (na) (za) <|
(m_X6_stepsTo F v6 v9 v5 fa).bind fun x8 =>
nmd ((x5 + x8)) fun y9 =>
if v7 ≤ y9 then
(nmd (v9 + (1 : Int32)) fun y11 =>
rc58 v3 v4 v5 v6 v7 v8 y11 fa (na) (za))
else
(nmd (v9 + (1 : Int32)) fun y12 =>
rc58 v3 v4 v5 v6 y9 v9 y12 fa (na) (za)))
def m_X11_join_L58 (F : Nat) : Nat → Int32 → Option Nat → Option Nat → Option Nat → Int32 → Int32 → Int32 → Hp → Nat → Nat → Option ((Int32) × Hp × Nat × Nat)
  | 0, _, _, _, _, _, _, _, _, _, _ => none
  | k + 1, v3, v4, v5, v6, v7, v8, v9, fa, na, za => m_X11_join_b58 F (m_X11_join_L58 F k) v3 v4 v5 v6 v7 v8 v9 fa na za
def m_X11_join (F : Nat) (u0 : Option Nat) (u1 : Int32) (u2 : Int32) (u3 : Int32) (f : Hp) (n z : Nat) : Option ((Int32) × Hp × Nat × Nat) :=
(gR f u0 9 2).bind fun x14 =>
chk (isO f x14 3) <|
grow pr4 (n) (z) <|
(m_X4_copyAt F x14 u1 f).bind fun x17 =>
(gR f u0 9 2).bind fun x18 =>
chk (isO f x18 3) <|
grow pr4 (n) (z) <|
(m_X4_copyAt F x18 u2 f).bind fun x21 =>
if x17 = none then
(some ((-1 : Int32), f, n, z))
else
(if x21 = none then
(some ((-1 : Int32), f, n, z))
else
(if u3 < 0 then
(some ((-1 : Int32), f, n, z))
else
(if u3 ≤ (1 : Int32) then
(chk (isO f u0 9) <|
bd4 (m_X11_orders F u0 f (n) (z)) fun x30 f29 nq27 zq28 =>
chk (decide (n ≤ nq27 ∧ z ≤ zq28)) <|
grow pr4 nq27 zq28 <|
m_X11_join_L58 F F u3 x17 x21 x30 (1000000 : Int32) (-1 : Int32) (0 : Int32) f29 (nq27) (zq28))
else
(some ((-1 : Int32), f, n, z)))))
/-! CopyOrders$Desk.mayMake(LCopyOrders$Copy;LCopyOrders$Copy;)Z -/
def m_X2_mayMake_B22 (F : Nat) (v0 : Option Nat) (v1 : Option Nat) (v2 : Option Nat) (v3 : Int32) (s0 : Int32) (f : Hp) : Option Int32 :=
(gR f v0 1 0).bind fun x1 =>
(enI x1).bind fun i2 =>
(ldI f 1 (some 33) (nI i2)).bind fun x3 =>
if x3 = (1 : Int32) then
(if s0 = 0 then
(chk (okZ (0 : Int32)) <|
some (0 : Int32))
else
(if v3 = (1 : Int32) then
(chk (okZ (1 : Int32)) <|
some (1 : Int32))
else
(chk (okZ (0 : Int32)) <|
some (0 : Int32))))
else
if x3 = (2 : Int32) then
(if s0 = 0 then
(chk (okZ (0 : Int32)) <|
some (0 : Int32))
else
((gI f v0 1 1).bind fun x13 =>
if x13 < v3 then
(chk (okZ (0 : Int32)) <|
some (0 : Int32))
else
(chk (okZ (1 : Int32)) <|
some (1 : Int32))))
else
(if v3 = 0 then
((gI f v2 0 1).bind fun x19 =>
(gI f v1 0 1).bind fun x20 =>
if x19 = (x20 - (1 : Int32)) then
((gI f v2 0 3).bind fun x23 =>
(gI f v1 0 3).bind fun x24 =>
if (x23 &&& (x24 ^^^ (-1 : Int32))) = 0 then
(chk (okZ (1 : Int32)) <|
some (1 : Int32))
else
(chk (okZ (0 : Int32)) <|
some (0 : Int32)))
else
(chk (okZ (0 : Int32)) <|
some (0 : Int32)))
else
(chk (okZ (0 : Int32)) <|
some (0 : Int32)))
def m_X2_mayMake (F : Nat) (u0 : Option Nat) (u1 : Option Nat) (u2 : Option Nat) (f : Hp) : Option Int32 :=
chk (isO f u1 0) <|
(m_X1_stepsTo F u1 u2 f).bind fun x29 =>
(gI f u1 0 3).bind fun x30 =>
(gI f u2 0 3).bind fun x31 =>
if x30 = x31 then
(m_X2_mayMake_B22 F u0 u1 u2 x29 (1 : Int32) f)
else
(m_X2_mayMake_B22 F u0 u1 u2 x29 (0 : Int32) f)
/-! CopyOrders.judge(I)I -/
def m_X11_judge_b36 (F : Nat) (rc36 : (Option Nat) → Int32 → (Option Nat) → Int32 → Hp → Option ((Int32) × Hp)) (v0 : Option Nat) (v2 : Int32) (v3 : Option Nat) (v4 : Int32) (fa : Hp) : Option ((Int32) × Hp) :=
if v2 ≤ v4 then
(some ((0 : Int32), fa))
else
((gR fa v0 9 2).bind fun x2 =>
chk (isO fa v0 9) <|
(m_X11_byteAt F v0 ((v4 - (1 : Int32))) fa).bind fun x4 =>
chk (isO fa x2 3) <|
(m_X4_copyAt F x2 x4 fa).bind fun x6 =>
(gR fa v0 9 2).bind fun x7 =>
chk (isO fa v0 9) <|
(m_X11_byteAt F v0 v4 fa).bind fun x9 =>
chk (isO fa x7 3) <|
(m_X4_copyAt F x7 x9 fa).bind fun x11 =>
if x6 = none then
(some (v4, fa))
else
(if x11 = none then
(some (v4, fa))
else
(chk (isO fa v3 1) <|
(m_X2_mayMake F v3 x6 x11 fa).bind fun x15 =>
if x15 = 0 then
(some (v4, fa))
else
(nmd (v4 + (1 : Int32)) fun y17 =>
rc36 v0 v2 v3 y17 fa))))
def m_X11_judge_L36 (F : Nat) : Nat → Option Nat → Int32 → Option Nat → Int32 → Hp → Option ((Int32) × Hp)
  | 0, _, _, _, _, _ => none
  | k + 1, v0, v2, v3, v4, fa => m_X11_judge_b36 F (m_X11_judge_L36 F k) v0 v2 v3 v4 fa
def m_X11_judge (F : Nat) (u0 : Option Nat) (u1 : Int32) (f : Hp) : Option ((Int32) × Hp) :=
chk (isO f u0 9) <|
bd2 (m_X11_takeTape F u0 f) fun x19 f20 =>
(gR f20 u0 9 2).bind fun x21 =>
chk (isO f20 x21 3) <|
(m_X4_deskAt F x21 u1 f20).bind fun x23 =>
if x23 = none then
(some ((-1 : Int32), f20))
else
(if x19 < (2 : Int32) then
(some ((-1 : Int32), f20))
else
(chk (isO f20 u0 9) <|
(m_X11_areCopies F u0 x19 f20).bind fun x27 =>
if x27 = 0 then
(some ((-1 : Int32), f20))
else
(m_X11_judge_L36 F F u0 x19 x23 (1 : Int32) f20)))
/-! CopyOrders$Desk.mayTake(II)Z -/
def m_X2_mayTake (F : Nat) (u0 : Option Nat) (u1 : Int32) (u2 : Int32) (f : Hp) : Option Int32 :=
(gR f u0 1 0).bind fun x1 =>
(enI x1).bind fun i2 =>
(ldI f 1 (some 33) (nI i2)).bind fun x3 =>
if x3 = (1 : Int32) then
(if u2 < u1 then
(chk (okZ (0 : Int32)) <|
some (0 : Int32))
else
(chk (decide (¬ (2 : Int32) = 0)) <|
if (irm (u2 - u1) (2 : Int32)) = 0 then
(chk (okZ (1 : Int32)) <|
some (1 : Int32))
else
(chk (okZ (0 : Int32)) <|
some (0 : Int32))))
else
if x3 = (2 : Int32) then
(chk (isO f u0 1) <|
(m_X2_fewestFor F u0 u1 f).bind fun x13 =>
if u2 < x13 then
(chk (okZ (0 : Int32)) <|
some (0 : Int32))
else
(chk (okZ (1 : Int32)) <|
some (1 : Int32)))
else
(if u2 = 0 then
(if u1 = 0 then
(chk (okZ (1 : Int32)) <|
some (1 : Int32))
else
(chk (okZ (0 : Int32)) <|
some (0 : Int32)))
else
(chk (okZ (0 : Int32)) <|
some (0 : Int32)))
/-! CopyOrders.just(IIII)I -/
def m_X11_just (F : Nat) (u0 : Option Nat) (u1 : Int32) (u2 : Int32) (u3 : Int32) (u4 : Int32) (f : Hp) : Option Int32 :=
(gR f u0 9 2).bind fun x1 =>
chk (isO f x1 3) <|
(m_X4_wholeAt F x1 u1 f).bind fun x3 =>
(gR f u0 9 2).bind fun x4 =>
chk (isO f x4 3) <|
(m_X4_wholeAt F x4 u2 f).bind fun x6 =>
(gR f u0 9 2).bind fun x7 =>
chk (isO f x7 3) <|
(m_X4_deskAt F x7 u3 f).bind fun x9 =>
if x3 = none then
(some (-1 : Int32))
else
(if x6 = none then
(some (-1 : Int32))
else
(if x9 = none then
(some (-1 : Int32))
else
(if 0 ≤ u4 then
(chk (isO f x3 0) <|
(m_X1_stepsTo F x3 x6 f).bind fun x15 =>
chk (isO f x9 1) <|
(m_X2_mayTake F x9 x15 u4 f).bind fun x17 =>
if x17 = 0 then
(some (0 : Int32))
else
(some (1 : Int32)))
else
(some (-1 : Int32)))))
/-! CopyOrders$Orders.numberOf(LCopyOrders$Copy;)I -/
def m_X6_numberOf_b4 (F : Nat) (rc4 : (Option Nat) → (Option Nat) → Int32 → Int32 → Hp → Option Int32) (v0 : Option Nat) (v1 : Option Nat) (v2 : Int32) (v3 : Int32) (f : Hp) : Option Int32 :=
(gI f v0 5 0).bind fun x1 =>
if x1 ≤ v3 then
(some v2)
else
((m_X6_lowerBehind F v1 v3 f).bind fun x3 =>
(gI f v0 5 0).bind fun x4 =>
(m_X11_factorial F (((x4 - (1 : Int32)) - v3)) f).bind fun x5 =>
nmd ((v2 + (x3 * x5))) fun y6 =>
nmd (v3 + (1 : Int32)) fun y7 =>
rc4 v0 v1 y6 y7 f)
def m_X6_numberOf_L4 (F : Nat) : Nat → Option Nat → Option Nat → Int32 → Int32 → Hp → Option Int32
  | 0, _, _, _, _, _ => none
  | k + 1, v0, v1, v2, v3, f => m_X6_numberOf_b4 F (m_X6_numberOf_L4 F k) v0 v1 v2 v3 f
def m_X6_numberOf (F : Nat) (u0 : Option Nat) (u1 : Option Nat) (f : Hp) : Option Int32 :=
m_X6_numberOf_L4 F F u0 u1 (0 : Int32) (0 : Int32) f
/-! CopyOrders$Orders.keep()V -/
def m_X6_keep (F : Nat) (u0 : Option Nat) (f : Hp) : Option Hp :=
(gR f u0 5 6).bind fun x1 =>
(gR f u0 5 8).bind fun x2 =>
(gI f u0 5 1).bind fun x3 =>
(cpJ f x1 (0 : Int32) x2 (0 : Int32) x3).bind fun f4 =>
some f4
/-! CopyOrders.likeliest(IIII)I -/
def m_X11_likeliest_B162 (F : Nat) (v0 : Option Nat) (v8 : Int64) (v10 : Int32) (fa : Hp) (na za : Nat) : Option ((Int32) × Hp × Nat × Nat) :=
if v10 = (-1 : Int32) then
(some (v10, fa, na, za))
else
((pV fa v0 9 13 (.long v8)).bind fun f12 =>
some (v10, f12, na, za))
def m_X11_likeliest_b111 (F : Nat) (rc111 : (Option Nat) → (Option Nat) → Int64 → Int32 → Int32 → Hp → Nat → Nat → Option ((Int32) × Hp × Nat × Nat)) (v0 : Option Nat) (v7 : Option Nat) (v8 : Int64) (v10 : Int32) (v11 : Int32) (fa : Hp) (na za : Nat) : Option ((Int32) × Hp × Nat × Nat) :=
(gI fa v7 5 1).bind fun x1 =>
if x1 ≤ v11 then
(m_X11_likeliest_B162 F v0 v8 v10 fa (na) (za))
else
((gR fa v7 5 8).bind fun x3 =>
(ldJ fa x3 v11).bind fun x4 =>
(gR fa v7 5 6).bind fun x5 =>
(ldJ fa x5 v11).bind fun x6 =>
nmd ((x4 * x6)) fun y7 =>
if (lg_cmp y7 v8) ≤ 0 then
(nmd (v11 + (1 : Int32)) fun y9 =>
rc111 v0 v7 v8 v10 y9 fa (na) (za))
else
(nmd (v11 + (1 : Int32)) fun y10 =>
rc111 v0 v7 y7 v11 y10 fa (na) (za)))
def m_X11_likeliest_L111 (F : Nat) : Nat → Option Nat → Option Nat → Int64 → Int32 → Int32 → Hp → Nat → Nat → Option ((Int32) × Hp × Nat × Nat)
  | 0, _, _, _, _, _, _, _, _ => none
  | k + 1, v0, v7, v8, v10, v11, fa, na, za => m_X11_likeliest_b111 F (m_X11_likeliest_L111 F k) v0 v7 v8 v10 v11 fa na za
def m_X11_likeliest (F : Nat) (u0 : Option Nat) (u1 : Int32) (u2 : Int32) (u3 : Int32) (u4 : Int32) (f : Hp) (n z : Nat) : Option ((Int32) × Hp × Nat × Nat) :=
(gR f u0 9 2).bind fun x13 =>
chk (isO f x13 3) <|
grow pr4 (n) (z) <|
(m_X4_wholeAt F x13 u1 f).bind fun x16 =>
(gR f u0 9 2).bind fun x17 =>
chk (isO f x17 3) <|
grow pr4 (n) (z) <|
(m_X4_wholeAt F x17 u3 f).bind fun x20 =>
if x16 = none then
(some ((-2 : Int32), f, n, z))
else
(if x20 = none then
(some ((-2 : Int32), f, n, z))
else
(grow pr4 (n) (z) <|
(m_X11_isWithin F u2 (5 : Int32) f).bind fun x24 =>
if x24 = 0 then
(some ((-2 : Int32), f, n, z))
else
(grow pr4 (n) (z) <|
(m_X11_isWithin F u4 (5 : Int32) f).bind fun x27 =>
if x27 = 0 then
(some ((-2 : Int32), f, n, z))
else
(chk (isO f u0 9) <|
bd4 (m_X11_orders F u0 f (n) (z)) fun x33 f32 nq30 zq31 =>
chk (decide (n ≤ nq30 ∧ z ≤ zq31)) <|
grow pr4 nq30 zq31 <|
chk (isO f32 x33 5) <|
grow pr4 (nq30) (zq31) <|
(m_X6_numberOf F x33 x16 f32).bind fun x38 =>
(gR f32 u0 9 2).bind fun x39 =>
(gR f32 x39 3 5).bind fun x40 =>
chk (isO f32 x33 5) <|
grow pr4 (nq30) (zq31) <|
(m_X6_spread F x33 x38 u2 x40 f32).bind fun f43 =>
chk (isO f43 x33 5) <|
grow pr4 (nq30) (zq31) <|
(m_X6_keep F x33 f43).bind fun f46 =>
chk (isO f46 x33 5) <|
grow pr4 (nq30) (zq31) <|
(m_X6_numberOf F x33 x20 f46).bind fun x49 =>
(gR f46 u0 9 2).bind fun x50 =>
(gR f46 x50 3 5).bind fun x51 =>
chk (isO f46 x33 5) <|
grow pr4 (nq30) (zq31) <|
(m_X6_spread F x33 x49 u4 x51 f46).bind fun f54 =>
m_X11_likeliest_L111 F F u0 x33 (0 : Int64) (-1 : Int32) (0 : Int32) f54 (nq30) (zq31)))))
/-! CopyOrders.likely()J -/
def m_X11_likely (F : Nat) (u0 : Option Nat) (f : Hp) : Option Int64 :=
(gJ f u0 9 13).bind fun x1 =>
some x1
/-! CopyOrders.made(II)I -/
def m_X11_made_b36 (F : Nat) (rc36 : (Option Nat) → (Option Nat) → (Option Nat) → Int32 → Int32 → Hp → Option Int32) (v0 : Option Nat) (v3 : Option Nat) (v4 : Option Nat) (v5 : Int32) (v6 : Int32) (f : Hp) : Option Int32 :=
(gR f v0 9 2).bind fun x1 =>
(gI f x1 3 3).bind fun x2 =>
if x2 ≤ v6 then
(some v5)
else
(if (6 : Int32) ≤ v6 then
(some v5)
else
((gR f v0 9 2).bind fun x5 =>
(gR f x5 3 4).bind fun x6 =>
(ldR f 5 x6 v6).bind fun x7 =>
chk (isO f x7 1) <|
(m_X2_mayMake F x7 v3 v4 f).bind fun x9 =>
if x9 = 0 then
(nmd (v6 + (1 : Int32)) fun y11 =>
rc36 v0 v3 v4 v5 y11 f)
else
(nmd ((v5 ||| ((1 : Int32) <<< (v6 &&& 31)))) fun y12 =>
nmd (v6 + (1 : Int32)) fun y13 =>
rc36 v0 v3 v4 y12 y13 f)))
def m_X11_made_L36 (F : Nat) : Nat → Option Nat → Option Nat → Option Nat → Int32 → Int32 → Hp → Option Int32
  | 0, _, _, _, _, _, _ => none
  | k + 1, v0, v3, v4, v5, v6, f => m_X11_made_b36 F (m_X11_made_L36 F k) v0 v3 v4 v5 v6 f
def m_X11_made (F : Nat) (u0 : Option Nat) (u1 : Int32) (u2 : Int32) (f : Hp) : Option Int32 :=
(gR f u0 9 2).bind fun x14 =>
chk (isO f x14 3) <|
(m_X4_copyAt F x14 u1 f).bind fun x16 =>
(gR f u0 9 2).bind fun x17 =>
chk (isO f x17 3) <|
(m_X4_copyAt F x17 u2 f).bind fun x19 =>
if x16 = none then
(some (-1 : Int32))
else
(if x19 = none then
(some (-1 : Int32))
else
(m_X11_made_L36 F F u0 x16 x19 (0 : Int32) (0 : Int32) f))
/-! CopyOrders.marks(I)I -/
def m_X11_marks_B68 (F : Nat) (rc18 : (Option Nat) → Int32 → (Option Nat) → Int32 → Hp → Nat → Nat → Option ((Int32) × Hp × Nat × Nat)) (v0 : Option Nat) (v1 : Int32) (v2 : Option Nat) (v3 : Int32) (fa : Hp) (na za : Nat) : Option ((Int32) × Hp × Nat × Nat) :=
(gR fa v0 9 11).bind fun x12 =>
chk (isO fa v2 5) <|
grow pr4 (na) (za) <|
(m_X6_marksHold F v2 x12 v1 fa).bind fun x15 =>
if x15 = 0 then
(nmd (v3 + (1 : Int32)) fun y17 =>
rc18 v0 v1 v2 y17 fa (na) (za))
else
(some (v3, fa, na, za))
def m_X11_marks_b32 (F : Nat) (rc18 : (Option Nat) → Int32 → (Option Nat) → Int32 → Hp → Nat → Nat → Option ((Int32) × Hp × Nat × Nat)) (rc32 : (Option Nat) → Int32 → (Option Nat) → Int32 → Int32 → Hp → Nat → Nat → Option ((Int32) × Hp × Nat × Nat)) (v0 : Option Nat) (v1 : Int32) (v2 : Option Nat) (v3 : Int32) (v4 : Int32) (fa : Hp) (na za : Nat) : Option ((Int32) × Hp × Nat × Nat) :=
(gR fa v0 9 2).bind fun x4 =>
(gI fa x4 3 0).bind fun x5 =>
if x5 ≤ v4 then
(m_X11_marks_B68 F rc18 v0 v1 v2 v3 fa (na) (za))
else
(if (7 : Int32) ≤ v4 then
(m_X11_marks_B68 F rc18 v0 v1 v2 v3 fa (na) (za))
else
((gR fa v0 9 11).bind fun x8 =>
chk (decide (¬ v3 = 0)) <|
(stI fa 1 x8 v4 (irm v4 v3)).bind fun f10 =>
nmd (v4 + (1 : Int32)) fun y11 =>
rc32 v0 v1 v2 v3 y11 f10 (na) (za)))
def m_X11_marks_L32 (F : Nat) (rc18 : (Option Nat) → Int32 → (Option Nat) → Int32 → Hp → Nat → Nat → Option ((Int32) × Hp × Nat × Nat)) : Nat → Option Nat → Int32 → Option Nat → Int32 → Int32 → Hp → Nat → Nat → Option ((Int32) × Hp × Nat × Nat)
  | 0, _, _, _, _, _, _, _, _ => none
  | k + 1, v0, v1, v2, v3, v4, fa, na, za => m_X11_marks_b32 F rc18 (m_X11_marks_L32 F rc18 k) v0 v1 v2 v3 v4 fa na za
def m_X11_marks_b18 (F : Nat) (rc18 : (Option Nat) → Int32 → (Option Nat) → Int32 → Hp → Nat → Nat → Option ((Int32) × Hp × Nat × Nat)) (v0 : Option Nat) (v1 : Int32) (v2 : Option Nat) (v3 : Int32) (fa : Hp) (na za : Nat) : Option ((Int32) × Hp × Nat × Nat) :=
(gR fa v0 9 2).bind fun x1 =>
(gI fa x1 3 0).bind fun x2 =>
if x2 < v3 then
(some ((-1 : Int32), fa, na, za))
else
(m_X11_marks_L32 F rc18 F v0 v1 v2 v3 (0 : Int32) fa (na) (za))
def m_X11_marks_L18 (F : Nat) : Nat → Option Nat → Int32 → Option Nat → Int32 → Hp → Nat → Nat → Option ((Int32) × Hp × Nat × Nat)
  | 0, _, _, _, _, _, _, _ => none
  | k + 1, v0, v1, v2, v3, fa, na, za => m_X11_marks_b18 F (m_X11_marks_L18 F k) v0 v1 v2 v3 fa na za
def m_X11_marks (F : Nat) (u0 : Option Nat) (u1 : Int32) (f : Hp) (n z : Nat) : Option ((Int32) × Hp × Nat × Nat) :=
grow pr4 (n) (z) <|
(m_X11_isWithin F u1 (9 : Int32) f).bind fun x19 =>
if x19 = 0 then
(some ((-1 : Int32), f, n, z))
else
(chk (isO f u0 9) <|
bd4 (m_X11_orders F u0 f (n) (z)) fun x25 f24 nq22 zq23 =>
chk (decide (n ≤ nq22 ∧ z ≤ zq23)) <|
grow pr4 nq22 zq23 <|
m_X11_marks_L18 F F u0 u1 x25 (1 : Int32) f24 (nq22) (zq23))
/-! CopyOrders$House.keepsSense(II)Z -/
def m_X4_keepsSense_B67 (F : Nat) (rc2 : (Option Nat) → Int32 → Int32 → Int32 → Hp → Option Int32) (v0 : Option Nat) (v1 : Int32) (v2 : Int32) (v3 : Int32) (v4 : Int32) (v5 : Int32) (s0 : Int32) (f : Hp) : Option Int32 :=
if (v2 &&& v4) = 0 then
(nmd (v3 + (1 : Int32)) fun y18 =>
rc2 v0 v1 v2 y18 f)
else
(if v5 = s0 then
(nmd (v3 + (1 : Int32)) fun y20 =>
rc2 v0 v1 v2 y20 f)
else
(chk (okZ (0 : Int32)) <|
some (0 : Int32)))
def m_X4_keepsSense_B45 (F : Nat) (rc2 : (Option Nat) → Int32 → Int32 → Int32 → Hp → Option Int32) (v0 : Option Nat) (v1 : Int32) (v2 : Int32) (v3 : Int32) (v4 : Int32) (s0 : Int32) (f : Hp) : Option Int32 :=
(gR f v0 3 7).bind fun x12 =>
(ldI f 1 x12 v3).bind fun x13 =>
(gR f v0 3 8).bind fun x14 =>
(ldI f 1 x14 v3).bind fun x15 =>
if x13 ≤ x15 then
(m_X4_keepsSense_B67 F rc2 v0 v1 v2 v3 v4 s0 (0 : Int32) f)
else
(m_X4_keepsSense_B67 F rc2 v0 v1 v2 v3 v4 s0 (1 : Int32) f)
def m_X4_keepsSense_b2 (F : Nat) (rc2 : (Option Nat) → Int32 → Int32 → Int32 → Hp → Option Int32) (v0 : Option Nat) (v1 : Int32) (v2 : Int32) (v3 : Int32) (f : Hp) : Option Int32 :=
(gI f v0 3 6).bind fun x1 =>
if x1 ≤ v3 then
(chk (okZ (1 : Int32)) <|
some (1 : Int32))
else
(if (12 : Int32) ≤ v3 then
(chk (okZ (1 : Int32)) <|
some (1 : Int32))
else
((gR f v0 3 7).bind fun x6 =>
(ldI f 1 x6 v3).bind fun x7 =>
(gR f v0 3 8).bind fun x8 =>
(ldI f 1 x8 v3).bind fun x9 =>
(m_X11_pairBit F x7 x9 f).bind fun x10 =>
if (v1 &&& x10) = 0 then
(m_X4_keepsSense_B45 F rc2 v0 v1 v2 v3 x10 (0 : Int32) f)
else
(m_X4_keepsSense_B45 F rc2 v0 v1 v2 v3 x10 (1 : Int32) f)))
def m_X4_keepsSense_L2 (F : Nat) : Nat → Option Nat → Int32 → Int32 → Int32 → Hp → Option Int32
  | 0, _, _, _, _, _ => none
  | k + 1, v0, v1, v2, v3, f => m_X4_keepsSense_b2 F (m_X4_keepsSense_L2 F k) v0 v1 v2 v3 f
def m_X4_keepsSense (F : Nat) (u0 : Option Nat) (u1 : Int32) (u2 : Int32) (f : Hp) : Option Int32 :=
m_X4_keepsSense_L2 F F u0 u1 u2 (0 : Int32) f
/-! CopyOrders.mended(II)I -/
def m_X11_mended_B105 (F : Nat) (v2 : Int32) (v5 : Int32) (v6 : Int32) (fa : Hp) (na za : Nat) : Option ((Int32) × Hp × Nat × Nat) :=
if v6 = (-1 : Int32) then
(some (v6, fa, na, za))
else
(if v2 = 0 then
(some (v6, fa, na, za))
else
(some (v5, fa, na, za)))
def m_X11_mended_b41 (F : Nat) (rc41 : (Option Nat) → Int32 → (Option Nat) → (Option Nat) → Int32 → Int32 → Int32 → Hp → Nat → Nat → Option ((Int32) × Hp × Nat × Nat)) (v0 : Option Nat) (v2 : Int32) (v3 : Option Nat) (v4 : Option Nat) (v5 : Int32) (v6 : Int32) (v7 : Int32) (fa : Hp) (na za : Nat) : Option ((Int32) × Hp × Nat × Nat) :=
(gI fa v4 5 1).bind fun x1 =>
if x1 ≤ v7 then
(m_X11_mended_B105 F v2 v5 v6 fa (na) (za))
else
(chk (isO fa v4 5) <|
grow pr4 (na) (za) <|
(m_X6_farTo F v4 v7 v3 fa).bind fun x5 =>
if v5 ≤ x5 then
(nmd (v7 + (1 : Int32)) fun y7 =>
rc41 v0 v2 v3 v4 v5 v6 y7 fa (na) (za))
else
((gR fa v0 9 2).bind fun x8 =>
(gR fa v4 5 4).bind fun x9 =>
(ldI fa 1 x9 v7).bind fun x10 =>
(gI fa v4 5 2).bind fun x11 =>
chk (isO fa x8 3) <|
grow pr4 (na) (za) <|
(m_X4_keepsSense F x8 x10 x11 fa).bind fun x14 =>
if x14 = 0 then
(nmd (v7 + (1 : Int32)) fun y16 =>
rc41 v0 v2 v3 v4 v5 v6 y16 fa (na) (za))
else
(nmd (v7 + (1 : Int32)) fun y17 =>
rc41 v0 v2 v3 v4 x5 v7 y17 fa (na) (za))))
def m_X11_mended_L41 (F : Nat) : Nat → Option Nat → Int32 → Option Nat → Option Nat → Int32 → Int32 → Int32 → Hp → Nat → Nat → Option ((Int32) × Hp × Nat × Nat)
  | 0, _, _, _, _, _, _, _, _, _, _ => none
  | k + 1, v0, v2, v3, v4, v5, v6, v7, fa, na, za => m_X11_mended_b41 F (m_X11_mended_L41 F k) v0 v2 v3 v4 v5 v6 v7 fa na za
def m_X11_mended (F : Nat) (u0 : Option Nat) (u1 : Int32) (u2 : Int32) (f : Hp) (n z : Nat) : Option ((Int32) × Hp × Nat × Nat) :=
(gR f u0 9 2).bind fun x20 =>
chk (isO f x20 3) <|
grow pr4 (n) (z) <|
(m_X4_copyAt F x20 u1 f).bind fun x23 =>
if x23 = none then
(some ((-1 : Int32), f, n, z))
else
(if u2 < 0 then
(some ((-1 : Int32), f, n, z))
else
(if u2 ≤ (1 : Int32) then
(chk (isO f u0 9) <|
bd4 (m_X11_orders F u0 f (n) (z)) fun x31 f30 nq28 zq29 =>
chk (decide (n ≤ nq28 ∧ z ≤ zq29)) <|
grow pr4 nq28 zq29 <|
m_X11_mended_L41 F F u0 u2 x23 x31 (1000000 : Int32) (-1 : Int32) (0 : Int32) f30 (nq28) (zq29))
else
(some ((-1 : Int32), f, n, z))))
/-! CopyOrders$Family.putFar(III)V -/
def m_X3_putFar (F : Nat) (u0 : Option Nat) (u1 : Int32) (u2 : Int32) (u3 : Int32) (f : Hp) : Option Hp :=
if u1 < 0 then
(some f)
else
(if (10 : Int32) ≤ u1 then
(some f)
else
(if u2 < 0 then
(some f)
else
(if (10 : Int32) ≤ u2 then
(some f)
else
((gR f u0 2 3).bind fun x5 =>
(stI f 1 x5 ((u1 * (10 : Int32)) + u2) u3).bind fun f6 =>
(gR f6 u0 2 3).bind fun x7 =>
(stI f6 1 x7 ((u2 * (10 : Int32)) + u1) u3).bind fun f8 =>
some f8))))
/-! CopyOrders$Family.measure(LCopyOrders$House;)Z -/
def m_X3_measure_b36 (F : Nat) (rc2 : (Option Nat) → (Option Nat) → Int32 → Hp → Option ((Int32) × Hp)) (rc36 : (Option Nat) → (Option Nat) → Int32 → (Option Nat) → Int32 → Hp → Option ((Int32) × Hp)) (v0 : Option Nat) (v1 : Option Nat) (v2 : Int32) (v3 : Option Nat) (v4 : Int32) (fa : Hp) : Option ((Int32) × Hp) :=
if v2 ≤ v4 then
(nmd (v2 + (1 : Int32)) fun y13 =>
rc2 v0 v1 y13 fa)
else
((gR fa v0 2 1).bind fun x14 =>
(ldI fa 1 x14 v4).bind fun x15 =>
chk (isO fa v1 3) <|
(m_X4_copyAt F v1 x15 fa).bind fun x17 =>
if x17 = none then
(chk (okZ (0 : Int32)) <|
some ((0 : Int32), fa))
else
(chk (isO fa v3 0) <|
(m_X1_farTo F v3 x17 fa).bind fun x20 =>
chk (isO fa v0 2) <|
(m_X3_putFar F v0 v2 v4 x20 fa).bind fun f22 =>
nmd (v4 + (1 : Int32)) fun y23 =>
rc36 v0 v1 v2 v3 y23 f22))
def m_X3_measure_L36 (F : Nat) (rc2 : (Option Nat) → (Option Nat) → Int32 → Hp → Option ((Int32) × Hp)) : Nat → Option Nat → Option Nat → Int32 → Option Nat → Int32 → Hp → Option ((Int32) × Hp)
  | 0, _, _, _, _, _, _ => none
  | k + 1, v0, v1, v2, v3, v4, fa => m_X3_measure_b36 F rc2 (m_X3_measure_L36 F rc2 k) v0 v1 v2 v3 v4 fa
def m_X3_measure_b2 (F : Nat) (rc2 : (Option Nat) → (Option Nat) → Int32 → Hp → Option ((Int32) × Hp)) (v0 : Option Nat) (v1 : Option Nat) (v2 : Int32) (fa : Hp) : Option ((Int32) × Hp) :=
(gI fa v0 2 0).bind fun x1 =>
if x1 ≤ v2 then
(chk (okZ (1 : Int32)) <|
some ((1 : Int32), fa))
else
(if (9 : Int32) ≤ v2 then
(chk (okZ (1 : Int32)) <|
some ((1 : Int32), fa))
else
((gR fa v0 2 1).bind fun x6 =>
(ldI fa 1 x6 v2).bind fun x7 =>
chk (isO fa v1 3) <|
(m_X4_copyAt F v1 x7 fa).bind fun x9 =>
if x9 = none then
(chk (okZ (0 : Int32)) <|
some ((0 : Int32), fa))
else
(m_X3_measure_L36 F rc2 F v0 v1 v2 x9 (0 : Int32) fa)))
def m_X3_measure_L2 (F : Nat) : Nat → Option Nat → Option Nat → Int32 → Hp → Option ((Int32) × Hp)
  | 0, _, _, _, _ => none
  | k + 1, v0, v1, v2, fa => m_X3_measure_b2 F (m_X3_measure_L2 F k) v0 v1 v2 fa
def m_X3_measure (F : Nat) (u0 : Option Nat) (u1 : Option Nat) (f : Hp) : Option ((Int32) × Hp) :=
m_X3_measure_L2 F F u0 u1 (0 : Int32) f
/-! CopyOrders$Family.reachFrom(II)V -/
def m_X3_reachFrom_b2 (F : Nat) (rc2 : (Option Nat) → Int32 → Int32 → Int32 → Hp → Option Hp) (v0 : Option Nat) (v1 : Int32) (v2 : Int32) (v3 : Int32) (fa : Hp) : Option Hp :=
if v2 ≤ v3 then
(some fa)
else
(if (10 : Int32) ≤ v3 then
(some fa)
else
((gR fa v0 2 3).bind fun x3 =>
(ldI fa 1 x3 ((v1 * (10 : Int32)) + v3)).bind fun x4 =>
(gR fa v0 2 6).bind fun x5 =>
(ldI fa 3 x5 v3).bind fun x6 =>
if x6 = 0 then
((gR fa v0 2 5).bind fun x9 =>
(ldI fa 1 x9 v3).bind fun x10 =>
if x10 ≤ x4 then
(nmd (v3 + (1 : Int32)) fun y12 =>
rc2 v0 v1 v2 y12 fa)
else
((gR fa v0 2 5).bind fun x13 =>
(stI fa 1 x13 v3 x4).bind fun f14 =>
(gR f14 v0 2 4).bind fun x15 =>
(stI f14 1 x15 v3 v1).bind fun f16 =>
nmd (v3 + (1 : Int32)) fun y17 =>
rc2 v0 v1 v2 y17 f16))
else
(nmd (v3 + (1 : Int32)) fun y8 =>
rc2 v0 v1 v2 y8 fa)))
def m_X3_reachFrom_L2 (F : Nat) : Nat → Option Nat → Int32 → Int32 → Int32 → Hp → Option Hp
  | 0, _, _, _, _, _ => none
  | k + 1, v0, v1, v2, v3, fa => m_X3_reachFrom_b2 F (m_X3_reachFrom_L2 F k) v0 v1 v2 v3 fa
def m_X3_reachFrom (F : Nat) (u0 : Option Nat) (u1 : Int32) (u2 : Int32) (f : Hp) : Option Hp :=
m_X3_reachFrom_L2 F F u0 u1 u2 (0 : Int32) f
/-! CopyOrders$Family.nextToJoin(I)I -/
def m_X3_nextToJoin_b8 (F : Nat) (rc8 : (Option Nat) → Int32 → Int32 → Int32 → Int32 → Hp → Option Int32) (v0 : Option Nat) (v1 : Int32) (v2 : Int32) (v3 : Int32) (v4 : Int32) (f : Hp) : Option Int32 :=
if v1 ≤ v4 then
(some v2)
else
(if (10 : Int32) ≤ v4 then
(some v2)
else
((gR f v0 2 6).bind fun x3 =>
(ldI f 3 x3 v4).bind fun x4 =>
if x4 = 0 then
((gR f v0 2 5).bind fun x7 =>
(ldI f 1 x7 v4).bind fun x8 =>
if v3 ≤ x8 then
(nmd (v4 + (1 : Int32)) fun y10 =>
rc8 v0 v1 v2 v3 y10 f)
else
((gR f v0 2 5).bind fun x11 =>
(ldI f 1 x11 v4).bind fun x12 =>
nmd (v4 + (1 : Int32)) fun y13 =>
rc8 v0 v1 v4 x12 y13 f))
else
(nmd (v4 + (1 : Int32)) fun y6 =>
rc8 v0 v1 v2 v3 y6 f)))
def m_X3_nextToJoin_L8 (F : Nat) : Nat → Option Nat → Int32 → Int32 → Int32 → Int32 → Hp → Option Int32
  | 0, _, _, _, _, _, _ => none
  | k + 1, v0, v1, v2, v3, v4, f => m_X3_nextToJoin_b8 F (m_X3_nextToJoin_L8 F k) v0 v1 v2 v3 v4 f
def m_X3_nextToJoin (F : Nat) (u0 : Option Nat) (u1 : Int32) (f : Hp) : Option Int32 :=
m_X3_nextToJoin_L8 F F u0 u1 (0 : Int32) (1000000 : Int32) (0 : Int32) f
/-! CopyOrders$Family.span(I)I -/
def m_X3_span_b44 (F : Nat) (rc44 : (Option Nat) → Int32 → Int32 → Int32 → Int32 → Hp → Option ((Int32) × Hp)) (v0 : Option Nat) (v1 : Int32) (v2 : Int32) (v3 : Int32) (v4 : Int32) (fa : Hp) : Option ((Int32) × Hp) :=
if v1 ≤ v4 then
(some (v2, fa))
else
((gR fa v0 2 6).bind fun x8 =>
(stI fa 3 x8 v3 (1 : Int32)).bind fun f9 =>
chk (isO f9 v0 2) <|
(m_X3_reachFrom F v0 v3 v1 f9).bind fun f11 =>
chk (isO f11 v0 2) <|
(m_X3_nextToJoin F v0 v1 f11).bind fun x13 =>
(gR f11 v0 2 5).bind fun x14 =>
(ldI f11 1 x14 x13).bind fun x15 =>
nmd ((v2 + x15)) fun y16 =>
nmd (v4 + (1 : Int32)) fun y17 =>
rc44 v0 v1 y16 x13 y17 f11)
def m_X3_span_L44 (F : Nat) : Nat → Option Nat → Int32 → Int32 → Int32 → Int32 → Hp → Option ((Int32) × Hp)
  | 0, _, _, _, _, _, _ => none
  | k + 1, v0, v1, v2, v3, v4, fa => m_X3_span_b44 F (m_X3_span_L44 F k) v0 v1 v2 v3 v4 fa
def m_X3_span_b11 (F : Nat) (rc11 : (Option Nat) → Int32 → Int32 → Hp → Option ((Int32) × Hp)) (v0 : Option Nat) (v1 : Int32) (v2 : Int32) (fa : Hp) : Option ((Int32) × Hp) :=
if (10 : Int32) ≤ v2 then
(m_X3_span_L44 F F v0 v1 (0 : Int32) (0 : Int32) (1 : Int32) fa)
else
((gR fa v0 2 6).bind fun x2 =>
(stI fa 3 x2 v2 (0 : Int32)).bind fun f3 =>
(gR f3 v0 2 4).bind fun x4 =>
(stI f3 1 x4 v2 (0 : Int32)).bind fun f5 =>
nmd (v2 + (1 : Int32)) fun y6 =>
rc11 v0 v1 y6 f5)
def m_X3_span_L11 (F : Nat) : Nat → Option Nat → Int32 → Int32 → Hp → Option ((Int32) × Hp)
  | 0, _, _, _, _ => none
  | k + 1, v0, v1, v2, fa => m_X3_span_b11 F (m_X3_span_L11 F k) v0 v1 v2 fa
def m_X3_span (F : Nat) (u0 : Option Nat) (u1 : Int32) (f : Hp) : Option ((Int32) × Hp) :=
(gR f u0 2 5).bind fun x18 =>
(m_J7_fill_53178 F x18 (1000000 : Int32) f).bind fun f19 =>
m_X3_span_L11 F F u0 u1 (0 : Int32) f19
/-! CopyOrders$Family.spanWith(LCopyOrders$House;LCopyOrders$Orders;I)I -/
def m_X3_spanWith_b3 (F : Nat) (rc3 : (Option Nat) → (Option Nat) → (Option Nat) → Int32 → Int32 → Hp → Option ((Int32) × Hp)) (v0 : Option Nat) (v1 : Option Nat) (v2 : Option Nat) (v3 : Int32) (v4 : Int32) (fa : Hp) : Option ((Int32) × Hp) :=
(gI fa v0 2 0).bind fun x1 =>
if x1 ≤ v4 then
((gI fa v0 2 0).bind fun x3 =>
chk (isO fa v0 2) <|
bd2 (m_X3_span F v0 ((x3 + (1 : Int32))) fa) fun x5 f6 =>
some (x5, f6))
else
(if (9 : Int32) ≤ v4 then
((gI fa v0 2 0).bind fun x8 =>
chk (isO fa v0 2) <|
bd2 (m_X3_span F v0 ((x8 + (1 : Int32))) fa) fun x10 f11 =>
some (x10, f11))
else
((gR fa v0 2 1).bind fun x12 =>
(ldI fa 1 x12 v4).bind fun x13 =>
chk (isO fa v1 3) <|
(m_X4_copyAt F v1 x13 fa).bind fun x15 =>
(gI fa v0 2 0).bind fun x16 =>
if x15 = none then
(chk (isO fa v0 2) <|
(m_X3_putFar F v0 x16 v4 (0 : Int32) fa).bind fun f24 =>
nmd (v4 + (1 : Int32)) fun y25 =>
rc3 v0 v1 v2 v3 y25 f24)
else
(chk (isO fa v2 5) <|
(m_X6_farTo F v2 v3 x15 fa).bind fun x19 =>
chk (isO fa v0 2) <|
(m_X3_putFar F v0 x16 v4 x19 fa).bind fun f21 =>
nmd (v4 + (1 : Int32)) fun y22 =>
rc3 v0 v1 v2 v3 y22 f21)))
def m_X3_spanWith_L3 (F : Nat) : Nat → Option Nat → Option Nat → Option Nat → Int32 → Int32 → Hp → Option ((Int32) × Hp)
  | 0, _, _, _, _, _, _ => none
  | k + 1, v0, v1, v2, v3, v4, fa => m_X3_spanWith_b3 F (m_X3_spanWith_L3 F k) v0 v1 v2 v3 v4 fa
def m_X3_spanWith (F : Nat) (u0 : Option Nat) (u1 : Option Nat) (u2 : Option Nat) (u3 : Int32) (f : Hp) : Option ((Int32) × Hp) :=
m_X3_spanWith_L3 F F u0 u1 u2 u3 (0 : Int32) f
/-! CopyOrders.missing(I)I -/
def m_X11_missing_B105 (F : Nat) (v1 : Int32) (v3 : Int32) (v4 : Int32) (fa : Hp) (na za : Nat) : Option ((Int32) × Hp × Nat × Nat) :=
if v4 = (-1 : Int32) then
(some (v4, fa, na, za))
else
(if v1 = 0 then
(some (v4, fa, na, za))
else
(some (v3, fa, na, za)))
def m_X11_missing_b61 (F : Nat) (rc61 : (Option Nat) → Int32 → (Option Nat) → Int32 → Int32 → Int32 → Hp → Nat → Nat → Option ((Int32) × Hp × Nat × Nat)) (v0 : Option Nat) (v1 : Int32) (v2 : Option Nat) (v3 : Int32) (v4 : Int32) (v5 : Int32) (fa : Hp) (na za : Nat) : Option ((Int32) × Hp × Nat × Nat) :=
(gI fa v2 5 1).bind fun x1 =>
if x1 ≤ v5 then
(m_X11_missing_B105 F v1 v3 v4 fa (na) (za))
else
((gR fa v0 9 10).bind fun x3 =>
(gR fa v0 9 2).bind fun x4 =>
chk (isO fa x3 2) <|
grow pr4 (na) (za) <|
bd2 (m_X3_spanWith F x3 x4 v2 v5 fa) fun x7 f8 =>
if v3 ≤ x7 then
(nmd (v5 + (1 : Int32)) fun y10 =>
rc61 v0 v1 v2 v3 v4 y10 f8 (na) (za))
else
(nmd (v5 + (1 : Int32)) fun y11 =>
rc61 v0 v1 v2 x7 v5 y11 f8 (na) (za)))
def m_X11_missing_L61 (F : Nat) : Nat → Option Nat → Int32 → Option Nat → Int32 → Int32 → Int32 → Hp → Nat → Nat → Option ((Int32) × Hp × Nat × Nat)
  | 0, _, _, _, _, _, _, _, _, _ => none
  | k + 1, v0, v1, v2, v3, v4, v5, fa, na, za => m_X11_missing_b61 F (m_X11_missing_L61 F k) v0 v1 v2 v3 v4 v5 fa na za
def m_X11_missing (F : Nat) (u0 : Option Nat) (u1 : Int32) (f : Hp) (n z : Nat) : Option ((Int32) × Hp × Nat × Nat) :=
if u1 < 0 then
(some ((-1 : Int32), f, n, z))
else
(if (1 : Int32) < u1 then
(some ((-1 : Int32), f, n, z))
else
((gR f u0 9 10).bind fun x16 =>
(gI f x16 2 0).bind fun x17 =>
if x17 = 0 then
(some ((-1 : Int32), f, n, z))
else
((gR f u0 9 10).bind fun x19 =>
(gR f u0 9 2).bind fun x20 =>
chk (isO f x19 2) <|
grow pr4 (n) (z) <|
bd2 (m_X3_measure F x19 x20 f) fun x23 f24 =>
if x23 = 0 then
(some ((-1 : Int32), f24, n, z))
else
(chk (isO f24 u0 9) <|
bd4 (m_X11_orders F u0 f24 (n) (z)) fun x30 f29 nq27 zq28 =>
chk (decide (n ≤ nq27 ∧ z ≤ zq28)) <|
grow pr4 nq27 zq28 <|
(gR f29 u0 9 10).bind fun x33 =>
(gR f29 u0 9 10).bind fun x34 =>
(gI f29 x34 2 0).bind fun x35 =>
chk (isO f29 x33 2) <|
grow pr4 (nq27) (zq28) <|
bd2 (m_X3_span F x33 x35 f29) fun x38 f39 =>
m_X11_missing_L61 F F u0 u1 x30 x38 (-1 : Int32) (0 : Int32) f39 (nq27) (zq28)))))
/-! CopyOrders.nearest(II)I -/
def m_X11_nearest_B123 (F : Nat) (v2 : Int32) (v5 : Int32) (fa : Hp) (na za : Nat) : Option ((Int32) × Hp × Nat × Nat) :=
if v2 = (-1 : Int32) then
(some (v5, fa, na, za))
else
(some ((-1 : Int32), fa, na, za))
def m_X11_nearest_b83 (F : Nat) (rc83 : (Option Nat) → Int32 → Int32 → (Option Nat) → Int32 → Int32 → Int32 → Hp → Nat → Nat → Option ((Int32) × Hp × Nat × Nat)) (v0 : Option Nat) (v1 : Int32) (v2 : Int32) (v3 : Option Nat) (v4 : Int32) (v5 : Int32) (v6 : Int32) (fa : Hp) (na za : Nat) : Option ((Int32) × Hp × Nat × Nat) :=
(gI fa v3 5 1).bind fun x10 =>
if x10 ≤ v6 then
(m_X11_nearest_B123 F v2 v5 fa (na) (za))
else
(chk (isO fa v0 9) <|
grow pr4 (na) (za) <|
(m_X11_farFromAll F v0 v3 v6 v1 fa).bind fun x14 =>
if x14 = v4 then
(if v5 = v2 then
(some (v6, fa, na, za))
else
(nmd (v5 + (1 : Int32)) fun y18 =>
nmd (v6 + (1 : Int32)) fun y19 =>
rc83 v0 v1 v2 v3 v4 y18 y19 fa (na) (za)))
else
(nmd (v6 + (1 : Int32)) fun y16 =>
rc83 v0 v1 v2 v3 v4 v5 y16 fa (na) (za)))
def m_X11_nearest_L83 (F : Nat) : Nat → Option Nat → Int32 → Int32 → Option Nat → Int32 → Int32 → Int32 → Hp → Nat → Nat → Option ((Int32) × Hp × Nat × Nat)
  | 0, _, _, _, _, _, _, _, _, _, _ => none
  | k + 1, v0, v1, v2, v3, v4, v5, v6, fa, na, za => m_X11_nearest_b83 F (m_X11_nearest_L83 F k) v0 v1 v2 v3 v4 v5 v6 fa na za
def m_X11_nearest_B68 (F : Nat) (v0 : Option Nat) (v1 : Int32) (v2 : Int32) (v3 : Option Nat) (v4 : Int32) (fa : Hp) (na za : Nat) : Option ((Int32) × Hp × Nat × Nat) :=
if v2 = (-2 : Int32) then
(some (v4, fa, na, za))
else
(m_X11_nearest_L83 F F v0 v1 v2 v3 v4 (0 : Int32) (0 : Int32) fa (na) (za))
def m_X11_nearest_b38 (F : Nat) (rc38 : (Option Nat) → Int32 → Int32 → (Option Nat) → Int32 → Int32 → Hp → Nat → Nat → Option ((Int32) × Hp × Nat × Nat)) (v0 : Option Nat) (v1 : Int32) (v2 : Int32) (v3 : Option Nat) (v4 : Int32) (v5 : Int32) (fa : Hp) (na za : Nat) : Option ((Int32) × Hp × Nat × Nat) :=
(gI fa v3 5 1).bind fun x1 =>
if x1 ≤ v5 then
(m_X11_nearest_B68 F v0 v1 v2 v3 v4 fa (na) (za))
else
(chk (isO fa v0 9) <|
grow pr4 (na) (za) <|
(m_X11_farFromAll F v0 v3 v5 v1 fa).bind fun x5 =>
grow pr4 (na) (za) <|
nmd ((imin v4 x5)) fun y7 =>
nmd (v5 + (1 : Int32)) fun y8 =>
rc38 v0 v1 v2 v3 y7 y8 fa (na) (za))
def m_X11_nearest_L38 (F : Nat) : Nat → Option Nat → Int32 → Int32 → Option Nat → Int32 → Int32 → Hp → Nat → Nat → Option ((Int32) × Hp × Nat × Nat)
  | 0, _, _, _, _, _, _, _, _, _ => none
  | k + 1, v0, v1, v2, v3, v4, v5, fa, na, za => m_X11_nearest_b38 F (m_X11_nearest_L38 F k) v0 v1 v2 v3 v4 v5 fa na za
def m_X11_nearest (F : Nat) (u0 : Option Nat) (u1 : Int32) (u2 : Int32) (f : Hp) (n z : Nat) : Option ((Int32) × Hp × Nat × Nat) :=
if u1 < 0 then
(some ((-1 : Int32), f, n, z))
else
(if (1 : Int32) < u1 then
(some ((-1 : Int32), f, n, z))
else
((gR f u0 9 2).bind fun x23 =>
(gI f x23 3 1).bind fun x24 =>
if x24 = 0 then
(some ((-1 : Int32), f, n, z))
else
(chk (isO f u0 9) <|
bd4 (m_X11_orders F u0 f (n) (z)) fun x30 f29 nq27 zq28 =>
chk (decide (n ≤ nq27 ∧ z ≤ zq28)) <|
grow pr4 nq27 zq28 <|
chk (isO f29 u0 9) <|
grow pr4 (nq27) (zq28) <|
(m_X11_farFromAll F u0 x30 (0 : Int32) u1 f29).bind fun x35 =>
m_X11_nearest_L38 F F u0 u1 u2 x30 x35 (1 : Int32) f29 (nq27) (zq28))))
/-! CopyOrders.order(II)I -/
def m_X11_order (F : Nat) (u0 : Option Nat) (u1 : Int32) (u2 : Int32) (f : Hp) (n z : Nat) : Option ((Int32) × Hp × Nat × Nat) :=
chk (isO f u0 9) <|
bd4 (m_X11_orders F u0 f (n) (z)) fun x5 f4 nq2 zq3 =>
chk (decide (n ≤ nq2 ∧ z ≤ zq3)) <|
grow pr4 nq2 zq3 <|
chk (isO f4 x5 5) <|
grow pr4 (nq2) (zq3) <|
(m_X6_has F x5 u1 f4).bind fun x10 =>
if x10 = 0 then
(some ((-1 : Int32), f4, nq2, zq3))
else
(if u2 < 0 then
(some ((-1 : Int32), f4, nq2, zq3))
else
((gI f4 x5 5 0).bind fun x13 =>
if u2 < x13 then
((gR f4 x5 5 3).bind fun x15 =>
(ldI f4 1 x15 u1).bind fun x16 =>
grow pr4 (nq2) (zq3) <|
(m_X11_lineOf F x16 u2 f4).bind fun x18 =>
some (x18, f4, nq2, zq3))
else
(some ((-1 : Int32), f4, nq2, zq3))))
/-! CopyOrders.restore(I)Z -/
def m_X11_restore (F : Nat) (u0 : Option Nat) (u1 : Int32) (f : Hp) : Option ((Int32) × Hp) :=
if u1 < 0 then
(chk (okZ (0 : Int32)) <|
some ((0 : Int32), f))
else
(if (2 : Int32) ≤ u1 then
(chk (okZ (0 : Int32)) <|
some ((0 : Int32), f))
else
((gR f u0 9 5).bind fun x5 =>
(ldR f 6 x5 u1).bind fun x6 =>
if x6 = none then
(chk (okZ (0 : Int32)) <|
some ((0 : Int32), f))
else
((gR f u0 9 2).bind fun x8 =>
(gR f u0 9 5).bind fun x9 =>
(ldR f 6 x9 u1).bind fun x10 =>
chk (isO f x8 3) <|
(m_X4_become F x8 x10 f).bind fun f12 =>
chk (okZ (1 : Int32)) <|
some ((1 : Int32), f12))))
/-! CopyOrders$Copy.isAhead(II)Z -/
def m_X1_isAhead_B51 (F : Nat) (s0 : Int32) (s1 : Int32) (f : Hp) : Option Int32 :=
if s0 = s1 then
(chk (okZ (1 : Int32)) <|
some (1 : Int32))
else
(chk (okZ (0 : Int32)) <|
some (0 : Int32))
def m_X1_isAhead_B41 (F : Nat) (v1 : Int32) (v2 : Int32) (s0 : Int32) (f : Hp) : Option Int32 :=
if v1 ≤ v2 then
(m_X1_isAhead_B51 F s0 (0 : Int32) f)
else
(m_X1_isAhead_B51 F s0 (1 : Int32) f)
def m_X1_isAhead (F : Nat) (u0 : Option Nat) (u1 : Int32) (u2 : Int32) (f : Hp) : Option Int32 :=
if u1 = u2 then
(chk (okZ (0 : Int32)) <|
some (0 : Int32))
else
(chk (isO f u0 0) <|
(m_X1_hasLine F u0 u1 f).bind fun x8 =>
if x8 = 0 then
(chk (okZ (0 : Int32)) <|
some (0 : Int32))
else
(chk (isO f u0 0) <|
(m_X1_hasLine F u0 u2 f).bind fun x12 =>
if x12 = 0 then
(chk (okZ (0 : Int32)) <|
some (0 : Int32))
else
((gI f u0 0 5).bind fun x14 =>
(m_X11_pairBit F u1 u2 f).bind fun x15 =>
if (x14 &&& x15) = 0 then
(m_X1_isAhead_B41 F u1 u2 (0 : Int32) f)
else
(m_X1_isAhead_B41 F u1 u2 (1 : Int32) f))))
/-! CopyOrders$Sentence.measureOf(ILCopyOrders$Copy;LCopyOrders$House;)I -/
def m_X7_measureOf (F : Nat) (u0 : Option Nat) (u1 : Int32) (u2 : Option Nat) (u3 : Option Nat) (f : Hp) : Option Int32 :=
(gR f u0 6 2).bind fun x1 =>
(ldI f 1 x1 u1).bind fun x2 =>
chk (isO f u3 3) <|
(m_X4_copyAt F u3 x2 f).bind fun x4 =>
(gR f u0 6 1).bind fun x5 =>
(ldR f 8 x5 u1).bind fun x6 =>
(enI x6).bind fun i7 =>
(ldI f 1 (some 33) (nI i7)).bind fun x8 =>
if x8 = (17 : Int32) then
(if x4 = none then
(some (0 : Int32))
else
(chk (isO f u2 0) <|
(m_X1_farTo F u2 x4 f).bind fun x12 =>
some x12))
else
if x8 = (18 : Int32) then
(if x4 = none then
(some (0 : Int32))
else
(chk (isO f u2 0) <|
(m_X1_stepsTo F u2 x4 f).bind fun x16 =>
some x16))
else
if x8 = (19 : Int32) then
((gI f u2 0 2).bind fun x18 =>
(gI f u2 0 1).bind fun x19 =>
chk (isO f u3 3) <|
(m_X4_songOf F u3 x18 x19 f).bind fun x21 =>
some x21)
else
((gI f u2 0 1).bind fun x22 =>
some x22)
/-! CopyOrders$Sentence.isMeasure(II)Z -/
def m_X7_isMeasure (F : Nat) (u0 : Option Nat) (u1 : Int32) (u2 : Int32) (f : Hp) : Option Int32 :=
(gR f u0 6 4).bind fun x1 =>
(ldI f 1 x1 u1).bind fun x2 =>
if x2 = (60 : Int32) then
((gR f u0 6 5).bind fun x4 =>
(ldI f 1 x4 u1).bind fun x5 =>
if x5 ≤ u2 then
(chk (okZ (0 : Int32)) <|
some (0 : Int32))
else
(chk (okZ (1 : Int32)) <|
some (1 : Int32)))
else
if x2 = (61 : Int32) then
((gR f u0 6 5).bind fun x10 =>
(ldI f 1 x10 u1).bind fun x11 =>
if u2 = x11 then
(chk (okZ (1 : Int32)) <|
some (1 : Int32))
else
(chk (okZ (0 : Int32)) <|
some (0 : Int32)))
else
((gR f u0 6 5).bind fun x15 =>
(ldI f 1 x15 u1).bind fun x16 =>
if u2 ≤ x16 then
(chk (okZ (0 : Int32)) <|
some (0 : Int32))
else
(chk (okZ (1 : Int32)) <|
some (1 : Int32)))
/-! CopyOrders$Sentence.isTest(ILCopyOrders$Copy;LCopyOrders$House;)Z -/
def m_X7_isTest (F : Nat) (u0 : Option Nat) (u1 : Int32) (u2 : Option Nat) (u3 : Option Nat) (f : Hp) : Option Int32 :=
(gR f u0 6 1).bind fun x1 =>
(ldR f 8 x1 u1).bind fun x2 =>
(enI x2).bind fun i3 =>
(ldI f 1 (some 33) (nI i3)).bind fun x4 =>
if x4 = (13 : Int32) then
((gI f u2 0 1).bind fun x6 =>
(gI f u3 3 0).bind fun x7 =>
if x6 = x7 then
(chk (okZ (1 : Int32)) <|
some (1 : Int32))
else
(chk (okZ (0 : Int32)) <|
some (0 : Int32)))
else
if x4 = (14 : Int32) then
((gI f u2 0 5).bind fun x12 =>
(gI f u2 0 4).bind fun x13 =>
chk (isO f u3 3) <|
(m_X4_keepsSense F u3 x12 x13 f).bind fun x15 =>
chk (okZ x15) <|
some x15)
else
if x4 = (15 : Int32) then
((gR f u0 6 2).bind fun x18 =>
(ldI f 1 x18 u1).bind fun x19 =>
chk (isO f u2 0) <|
(m_X1_hasLine F u2 x19 f).bind fun x21 =>
chk (okZ x21) <|
some x21)
else
if x4 = (16 : Int32) then
((gR f u0 6 2).bind fun x24 =>
(ldI f 1 x24 u1).bind fun x25 =>
(gR f u0 6 3).bind fun x26 =>
(ldI f 1 x26 u1).bind fun x27 =>
chk (isO f u2 0) <|
(m_X1_isAhead F u2 x25 x27 f).bind fun x29 =>
chk (okZ x29) <|
some x29)
else
(chk (isO f u0 6) <|
(m_X7_measureOf F u0 u1 u2 u3 f).bind fun x32 =>
chk (isO f u0 6) <|
(m_X7_isMeasure F u0 u1 x32 f).bind fun x34 =>
chk (okZ x34) <|
some x34)
/-! CopyOrders$Sentence.isTrueOf(LCopyOrders$Copy;LCopyOrders$House;)Z -/
def m_X7_isTrueOf_B129 (F : Nat) (v3 : Int32) (f : Hp) : Option Int32 :=
if (v3 &&& (1 : Int32)) = 0 then
(chk (okZ (0 : Int32)) <|
some (0 : Int32))
else
(chk (okZ (1 : Int32)) <|
some (1 : Int32))
def m_X7_isTrueOf_b5 (F : Nat) (rc5 : (Option Nat) → (Option Nat) → (Option Nat) → Int32 → Int32 → Hp → Option Int32) (v0 : Option Nat) (v1 : Option Nat) (v2 : Option Nat) (v3 : Int32) (v4 : Int32) (f : Hp) : Option Int32 :=
(gI f v0 6 0).bind fun x1 =>
if x1 ≤ v4 then
(m_X7_isTrueOf_B129 F v3 f)
else
(if (40 : Int32) ≤ v4 then
(m_X7_isTrueOf_B129 F v3 f)
else
(nmd ((v3 &&& (1 : Int32))) fun y4 =>
(gR f v0 6 1).bind fun x5 =>
(ldR f 8 x5 v4).bind fun x6 =>
(enI x6).bind fun i7 =>
(ldI f 1 (some 33) (nI i7)).bind fun x8 =>
if x8 = (10 : Int32) then
(nmd ((v3 ^^^ (1 : Int32))) fun y10 =>
nmd (v4 + (1 : Int32)) fun y11 =>
rc5 v0 v1 v2 y10 y11 f)
else
if x8 = (11 : Int32) then
(nmd ((ius v3 (1 : Int32))) fun y13 =>
nmd ((y13 &&& (y4 ||| (-2 : Int32)))) fun y14 =>
nmd (v4 + (1 : Int32)) fun y15 =>
rc5 v0 v1 v2 y14 y15 f)
else
if x8 = (12 : Int32) then
(nmd ((ius v3 (1 : Int32))) fun y17 =>
nmd ((y17 ||| y4)) fun y18 =>
nmd (v4 + (1 : Int32)) fun y19 =>
rc5 v0 v1 v2 y18 y19 f)
else
(chk (isO f v0 6) <|
(m_X7_isTest F v0 v4 v1 v2 f).bind fun x21 =>
if x21 = 0 then
(nmd (((v3 <<< ((1 : Int32) &&& 31)) ||| (0 : Int32))) fun y23 =>
nmd (v4 + (1 : Int32)) fun y24 =>
rc5 v0 v1 v2 y23 y24 f)
else
(nmd (((v3 <<< ((1 : Int32) &&& 31)) ||| (1 : Int32))) fun y25 =>
nmd (v4 + (1 : Int32)) fun y26 =>
rc5 v0 v1 v2 y25 y26 f))))
def m_X7_isTrueOf_L5 (F : Nat) : Nat → Option Nat → Option Nat → Option Nat → Int32 → Int32 → Hp → Option Int32
  | 0, _, _, _, _, _, _ => none
  | k + 1, v0, v1, v2, v3, v4, f => m_X7_isTrueOf_b5 F (m_X7_isTrueOf_L5 F k) v0 v1 v2 v3 v4 f
def m_X7_isTrueOf (F : Nat) (u0 : Option Nat) (u1 : Option Nat) (u2 : Option Nat) (f : Hp) : Option Int32 :=
m_X7_isTrueOf_L5 F F u0 u1 u2 (0 : Int32) (0 : Int32) f
/-! CopyOrders.said()I -/
def m_X11_said_b19 (F : Nat) (rc19 : (Option Nat) → Int32 → Int32 → Hp → Option Int32) (v0 : Option Nat) (v1 : Int32) (v2 : Int32) (f : Hp) : Option Int32 :=
(gR f v0 9 2).bind fun x1 =>
(gI f x1 3 1).bind fun x2 =>
if x2 ≤ v2 then
(some v1)
else
(if (10 : Int32) ≤ v2 then
(some v1)
else
((gR f v0 9 2).bind fun x5 =>
(gR f x5 3 11).bind fun x6 =>
(gR f v0 9 2).bind fun x7 =>
(gR f x7 3 2).bind fun x8 =>
(ldR f 4 x8 v2).bind fun x9 =>
(gR f v0 9 2).bind fun x10 =>
chk (isO f x6 6) <|
(m_X7_isTrueOf F x6 x9 x10 f).bind fun x12 =>
if x12 = 0 then
(nmd (v2 + (1 : Int32)) fun y14 =>
rc19 v0 v1 y14 f)
else
(nmd ((v1 ||| ((1 : Int32) <<< (v2 &&& 31)))) fun y15 =>
nmd (v2 + (1 : Int32)) fun y16 =>
rc19 v0 y15 y16 f)))
def m_X11_said_L19 (F : Nat) : Nat → Option Nat → Int32 → Int32 → Hp → Option Int32
  | 0, _, _, _, _ => none
  | k + 1, v0, v1, v2, f => m_X11_said_b19 F (m_X11_said_L19 F k) v0 v1 v2 f
def m_X11_said (F : Nat) (u0 : Option Nat) (f : Hp) : Option Int32 :=
(gR f u0 9 2).bind fun x17 =>
(gR f x17 3 11).bind fun x18 =>
(gI f x18 6 0).bind fun x19 =>
if x19 = 0 then
(some (-1 : Int32))
else
(m_X11_said_L19 F F u0 (0 : Int32) (0 : Int32) f)
/-! CopyOrders.sense(I)I -/
def m_X11_sense_B57 (F : Nat) (v1 : Int32) (v3 : Int32) (fa : Hp) (na za : Nat) : Option ((Int32) × Hp × Nat × Nat) :=
if v1 = (-1 : Int32) then
(some (v3, fa, na, za))
else
(some ((-1 : Int32), fa, na, za))
def m_X11_sense_b10 (F : Nat) (rc10 : (Option Nat) → Int32 → (Option Nat) → Int32 → Int32 → Hp → Nat → Nat → Option ((Int32) × Hp × Nat × Nat)) (v0 : Option Nat) (v1 : Int32) (v2 : Option Nat) (v3 : Int32) (v4 : Int32) (fa : Hp) (na za : Nat) : Option ((Int32) × Hp × Nat × Nat) :=
(gI fa v2 5 1).bind fun x1 =>
if x1 ≤ v4 then
(m_X11_sense_B57 F v1 v3 fa (na) (za))
else
((gR fa v0 9 2).bind fun x3 =>
(gR fa v2 5 4).bind fun x4 =>
(ldI fa 1 x4 v4).bind fun x5 =>
(gI fa v2 5 2).bind fun x6 =>
chk (isO fa x3 3) <|
grow pr4 (na) (za) <|
(m_X4_keepsSense F x3 x5 x6 fa).bind fun x9 =>
if x9 = 0 then
(nmd (v4 + (1 : Int32)) fun y11 =>
rc10 v0 v1 v2 v3 y11 fa (na) (za))
else
(if v3 = v1 then
(some (v4, fa, na, za))
else
(nmd (v3 + (1 : Int32)) fun y13 =>
nmd (v4 + (1 : Int32)) fun y14 =>
rc10 v0 v1 v2 y13 y14 fa (na) (za))))
def m_X11_sense_L10 (F : Nat) : Nat → Option Nat → Int32 → Option Nat → Int32 → Int32 → Hp → Nat → Nat → Option ((Int32) × Hp × Nat × Nat)
  | 0, _, _, _, _, _, _, _, _ => none
  | k + 1, v0, v1, v2, v3, v4, fa, na, za => m_X11_sense_b10 F (m_X11_sense_L10 F k) v0 v1 v2 v3 v4 fa na za
def m_X11_sense (F : Nat) (u0 : Option Nat) (u1 : Int32) (f : Hp) (n z : Nat) : Option ((Int32) × Hp × Nat × Nat) :=
chk (isO f u0 9) <|
bd4 (m_X11_orders F u0 f (n) (z)) fun x20 f19 nq17 zq18 =>
chk (decide (n ≤ nq17 ∧ z ≤ zq18)) <|
grow pr4 nq17 zq18 <|
m_X11_sense_L10 F F u0 u1 x20 (0 : Int32) (0 : Int32) f19 (nq17) (zq18)
/-! CopyOrders$Sentence.putMeasure(LCopyOrders$Word;IIII)V -/
def m_X7_putMeasure (F : Nat) (u0 : Option Nat) (u1 : Option Nat) (u2 : Int32) (u3 : Int32) (u4 : Int32) (u5 : Int32) (f : Hp) : Option Hp :=
(gI f u0 6 0).bind fun x1 =>
if (40 : Int32) ≤ x1 then
(some f)
else
((gR f u0 6 1).bind fun x3 =>
(gI f u0 6 0).bind fun x4 =>
(stR f 8 x3 x4 u1).bind fun f5 =>
(gR f5 u0 6 2).bind fun x6 =>
(gI f5 u0 6 0).bind fun x7 =>
(stI f5 1 x6 x7 u2).bind fun f8 =>
(gR f8 u0 6 3).bind fun x9 =>
(gI f8 u0 6 0).bind fun x10 =>
(stI f8 1 x9 x10 u3).bind fun f11 =>
(gR f11 u0 6 4).bind fun x12 =>
(gI f11 u0 6 0).bind fun x13 =>
(stI f11 1 x12 x13 u4).bind fun f14 =>
(gR f14 u0 6 5).bind fun x15 =>
(gI f14 u0 6 0).bind fun x16 =>
(stI f14 1 x15 x16 u5).bind fun f17 =>
(gI f17 u0 6 0).bind fun x18 =>
(pV f17 u0 6 0 (.int (x18 + (1 : Int32)))).bind fun f19 =>
some f19)
/-! CopyOrders$Sentence.putTest(LCopyOrders$Word;II)V -/
def m_X7_putTest (F : Nat) (u0 : Option Nat) (u1 : Option Nat) (u2 : Int32) (u3 : Int32) (f : Hp) : Option Hp :=
chk (isO f u0 6) <|
(m_X7_putMeasure F u0 u1 u2 u3 (0 : Int32) (0 : Int32) f).bind fun f2 =>
some f2
/-! CopyOrders$SentenceReader.readHas()Z -/
def m_X8_readHas (F : Nat) (u0 : Option Nat) (f : Hp) : Option ((Int32) × Hp) :=
(gR f u0 7 0).bind fun x1 =>
(gR f u0 7 2).bind fun x2 =>
(gI f x2 3 0).bind fun x3 =>
chk (isO f x1 8) <|
bd2 (m_X9_letterHere F x1 x3 f) fun x5 f6 =>
if x5 = (-1 : Int32) then
(chk (okZ (0 : Int32)) <|
some ((0 : Int32), f6))
else
((gR f6 u0 7 1).bind fun x8 =>
chk (isO f6 x8 6) <|
(m_X7_putTest F x8 (some 15) x5 (0 : Int32) f6).bind fun f10 =>
(gR f10 u0 7 0).bind fun x11 =>
chk (isO f10 x11 8) <|
(m_X9_advance F x11 f10).bind fun f13 =>
chk (okZ (1 : Int32)) <|
some ((1 : Int32), f13))
/-! CopyOrders$SentenceReader.readAhead()Z -/
def m_X8_readAhead (F : Nat) (u0 : Option Nat) (f : Hp) : Option ((Int32) × Hp) :=
(gR f u0 7 0).bind fun x1 =>
(gR f u0 7 2).bind fun x2 =>
(gI f x2 3 0).bind fun x3 =>
chk (isO f x1 8) <|
bd2 (m_X9_letterHere F x1 x3 f) fun x5 f6 =>
if x5 = (-1 : Int32) then
(chk (okZ (0 : Int32)) <|
some ((0 : Int32), f6))
else
((gR f6 u0 7 0).bind fun x8 =>
chk (isO f6 x8 8) <|
(m_X9_advance F x8 f6).bind fun f10 =>
(gR f10 u0 7 0).bind fun x11 =>
(gR f10 u0 7 2).bind fun x12 =>
(gI f10 x12 3 0).bind fun x13 =>
chk (isO f10 x11 8) <|
bd2 (m_X9_letterHere F x11 x13 f10) fun x15 f16 =>
if x15 = (-1 : Int32) then
(chk (okZ (0 : Int32)) <|
some ((0 : Int32), f16))
else
((gR f16 u0 7 1).bind fun x18 =>
chk (isO f16 x18 6) <|
(m_X7_putTest F x18 (some 16) x5 x15 f16).bind fun f20 =>
(gR f20 u0 7 0).bind fun x21 =>
chk (isO f20 x21 8) <|
(m_X9_advance F x21 f20).bind fun f23 =>
chk (okZ (1 : Int32)) <|
some ((1 : Int32), f23)))
/-! CopyOrders$SentenceReader.takeCopy()I -/
def m_X8_takeCopy (F : Nat) (u0 : Option Nat) (f : Hp) : Option ((Int32) × Hp) :=
(gR f u0 7 0).bind fun x1 =>
chk (isO f x1 8) <|
(m_X9_isName F x1 f).bind fun x3 =>
if x3 = 0 then
((gR f u0 7 0).bind fun x18 =>
chk (isO f x18 8) <|
bd2 (m_X9_fail F x18 (1 : Int32) f) fun x20 f21 =>
some ((-1 : Int32), f21))
else
((gR f u0 7 2).bind fun x5 =>
(gR f u0 7 0).bind fun x6 =>
(gJ f x6 8 6).bind fun x7 =>
chk (isO f x5 3) <|
(m_X4_copyNamed F x5 x7 f).bind fun x9 =>
if x9 = (-1 : Int32) then
((gR f u0 7 0).bind fun x14 =>
chk (isO f x14 8) <|
bd2 (m_X9_fail F x14 (3 : Int32) f) fun x16 f17 =>
some ((-1 : Int32), f17))
else
((gR f u0 7 0).bind fun x11 =>
chk (isO f x11 8) <|
(m_X9_advance F x11 f).bind fun f13 =>
some (x9, f13)))
/-! CopyOrders$SentenceReader.readMeasure(LCopyOrders$Word;I)Z -/
def m_X8_readMeasure_B35 (F : Nat) (v0 : Option Nat) (v1 : Option Nat) (v2 : Int32) (v3 : Int32) (fa : Hp) : Option ((Int32) × Hp) :=
(gR fa v0 7 0).bind fun x1 =>
chk (isO fa x1 8) <|
(m_X9_advance F x1 fa).bind fun f3 =>
(gR f3 v0 7 0).bind fun x4 =>
chk (isO f3 x4 8) <|
bd2 (m_X9_numberHere F x4 (0 : Int32) (99 : Int32) f3) fun x6 f7 =>
if x6 = (-1 : Int32) then
(chk (okZ (0 : Int32)) <|
some ((0 : Int32), f7))
else
((gR f7 v0 7 1).bind fun x9 =>
chk (isO f7 x9 6) <|
(m_X7_putMeasure F x9 v1 v2 (0 : Int32) v3 x6 f7).bind fun f11 =>
(gR f11 v0 7 0).bind fun x12 =>
chk (isO f11 x12 8) <|
(m_X9_advance F x12 f11).bind fun f14 =>
chk (okZ (1 : Int32)) <|
some ((1 : Int32), f14))
def m_X8_readMeasure (F : Nat) (u0 : Option Nat) (u1 : Option Nat) (u2 : Int32) (f : Hp) : Option ((Int32) × Hp) :=
(gR f u0 7 0).bind fun x17 =>
(gI f x17 8 8).bind fun x18 =>
if x18 = (60 : Int32) then
(m_X8_readMeasure_B35 F u0 u1 u2 x18 f)
else
(if x18 = (61 : Int32) then
(m_X8_readMeasure_B35 F u0 u1 u2 x18 f)
else
(if x18 = (62 : Int32) then
(m_X8_readMeasure_B35 F u0 u1 u2 x18 f)
else
((gR f u0 7 0).bind fun x22 =>
chk (isO f x22 8) <|
bd2 (m_X9_fail F x22 (1 : Int32) f) fun x24 f25 =>
chk (okZ x24) <|
some (x24, f25))))
/-! CopyOrders$SentenceReader.readCondition(I)Z -/
def m_X8_readCondition_b12 (F : Nat) (rg : Nat → Option Nat → Int32 → Int32 → Hp → Option (Int32 × Hp)) (rc12 : (Option Nat) → Int32 → Int32 → Hp → Option ((Int32) × Hp)) (v0 : Option Nat) (v1 : Int32) (v2 : Int32) (fa : Hp) : Option ((Int32) × Hp) :=
if (20 : Int32) ≤ v2 then
(chk (okZ (1 : Int32)) <|
some ((1 : Int32), fa))
else
((gR fa v0 7 0).bind fun x3 =>
(gR fa x3 8 7).bind fun x4 =>
chk (okE x4 && okE (some 10)) <|
if x4 = (some 10) then
((gR fa v0 7 0).bind fun x8 =>
chk (isO fa x8 8) <|
(m_X9_advance F x8 fa).bind fun f10 =>
chk (isO f10 v0 7) <|
bd2 (rg 1 v0 v1 0 f10) fun x12 f13 =>
if x12 = 0 then
(chk (okZ (0 : Int32)) <|
some ((0 : Int32), f13))
else
((gR f13 v0 7 1).bind fun x15 =>
chk (isO f13 x15 6) <|
(m_X7_putTest F x15 (some 10) (0 : Int32) (0 : Int32) f13).bind fun f17 =>
nmd (v2 + (1 : Int32)) fun y18 =>
rc12 v0 v1 y18 f17))
else
(chk (okZ (1 : Int32)) <|
some ((1 : Int32), fa)))
def m_X8_readCondition_L12 (F : Nat) (rg : Nat → Option Nat → Int32 → Int32 → Hp → Option (Int32 × Hp)) : Nat → Option Nat → Int32 → Int32 → Hp → Option ((Int32) × Hp)
  | 0, _, _, _, _ => none
  | k + 1, v0, v1, v2, fa => m_X8_readCondition_b12 F rg (m_X8_readCondition_L12 F rg k) v0 v1 v2 fa
def b_X8_readCondition (F : Nat) (rg : Nat → Option Nat → Int32 → Int32 → Hp → Option (Int32 × Hp)) (u0 : Option Nat) (u1 : Int32) (f : Hp) : Option ((Int32) × Hp) :=
chk (isO f u0 7) <|
bd2 (rg 1 u0 u1 0 f) fun x21 f22 =>
if x21 = 0 then
(chk (okZ (0 : Int32)) <|
some ((0 : Int32), f22))
else
(m_X8_readCondition_L12 F rg F u0 u1 (0 : Int32) f22)
/-! CopyOrders$SentenceReader.readAll(I)Z -/
def m_X8_readAll_b12 (F : Nat) (rg : Nat → Option Nat → Int32 → Int32 → Hp → Option (Int32 × Hp)) (rc12 : (Option Nat) → Int32 → Int32 → Hp → Option ((Int32) × Hp)) (v0 : Option Nat) (v1 : Int32) (v2 : Int32) (fa : Hp) : Option ((Int32) × Hp) :=
if (20 : Int32) ≤ v2 then
(chk (okZ (1 : Int32)) <|
some ((1 : Int32), fa))
else
((gR fa v0 7 0).bind fun x3 =>
(gR fa x3 8 7).bind fun x4 =>
chk (okE x4 && okE (some 11)) <|
if x4 = (some 11) then
((gR fa v0 7 0).bind fun x8 =>
chk (isO fa x8 8) <|
(m_X9_advance F x8 fa).bind fun f10 =>
chk (isO f10 v0 7) <|
bd2 (rg 2 v0 v1 0 f10) fun x12 f13 =>
if x12 = 0 then
(chk (okZ (0 : Int32)) <|
some ((0 : Int32), f13))
else
((gR f13 v0 7 1).bind fun x15 =>
chk (isO f13 x15 6) <|
(m_X7_putTest F x15 (some 11) (0 : Int32) (0 : Int32) f13).bind fun f17 =>
nmd (v2 + (1 : Int32)) fun y18 =>
rc12 v0 v1 y18 f17))
else
(chk (okZ (1 : Int32)) <|
some ((1 : Int32), fa)))
def m_X8_readAll_L12 (F : Nat) (rg : Nat → Option Nat → Int32 → Int32 → Hp → Option (Int32 × Hp)) : Nat → Option Nat → Int32 → Int32 → Hp → Option ((Int32) × Hp)
  | 0, _, _, _, _ => none
  | k + 1, v0, v1, v2, fa => m_X8_readAll_b12 F rg (m_X8_readAll_L12 F rg k) v0 v1 v2 fa
def b_X8_readAll (F : Nat) (rg : Nat → Option Nat → Int32 → Int32 → Hp → Option (Int32 × Hp)) (u0 : Option Nat) (u1 : Int32) (f : Hp) : Option ((Int32) × Hp) :=
chk (isO f u0 7) <|
bd2 (rg 2 u0 u1 0 f) fun x21 f22 =>
if x21 = 0 then
(chk (okZ (0 : Int32)) <|
some ((0 : Int32), f22))
else
(m_X8_readAll_L12 F rg F u0 u1 (0 : Int32) f22)
/-! CopyOrders$SentenceReader.readOne(I)Z -/
def m_X8_readOne_B34 (F : Nat) (rg : Nat → Option Nat → Int32 → Int32 → Hp → Option (Int32 × Hp)) (v0 : Option Nat) (v1 : Int32) (fa : Hp) : Option ((Int32) × Hp) :=
(gI fa v0 7 3).bind fun x1 =>
if (20 : Int32) ≤ x1 then
((gR fa v0 7 0).bind fun x3 =>
chk (isO fa x3 8) <|
bd2 (m_X9_fail F x3 (4 : Int32) fa) fun x5 f6 =>
chk (okZ x5) <|
some (x5, f6))
else
(if v1 ≤ (8 : Int32) then
((gI fa v0 7 3).bind fun x9 =>
(pV fa v0 7 3 (.int (x9 + (1 : Int32)))).bind fun f10 =>
(gR f10 v0 7 0).bind fun x11 =>
(gR f10 x11 8 7).bind fun x12 =>
(gR f10 v0 7 0).bind fun x13 =>
chk (isO f10 x13 8) <|
(m_X9_advance F x13 f10).bind fun f15 =>
(enI x12).bind fun i16 =>
(ldI f15 1 (some 33) (nI i16)).bind fun x17 =>
if x17 = (10 : Int32) then
(chk (isO f15 v0 7) <|
bd2 (rg 2 v0 ((v1 + (1 : Int32))) 0 f15) fun x20 f21 =>
if x20 = 0 then
(chk (okZ (0 : Int32)) <|
some ((0 : Int32), f21))
else
((gR f21 v0 7 1).bind fun x23 =>
chk (isO f21 x23 6) <|
(m_X7_putTest F x23 (some 12) (0 : Int32) (0 : Int32) f21).bind fun f25 =>
chk (okZ (1 : Int32)) <|
some ((1 : Int32), f25)))
else
if x17 = (11 : Int32) then
(chk (isO f15 v0 7) <|
bd2 (rg 0 v0 ((v1 + (1 : Int32))) 0 f15) fun x30 f31 =>
if x30 = 0 then
(chk (okZ (0 : Int32)) <|
some ((0 : Int32), f31))
else
((gR f31 v0 7 0).bind fun x34 =>
chk (isO f31 x34 8) <|
bd2 (m_X9_passSign F x34 (41 : Int32) f31) fun x36 f37 =>
if x36 = 0 then
(chk (okZ (0 : Int32)) <|
some ((0 : Int32), f37))
else
(chk (okZ (1 : Int32)) <|
some ((1 : Int32), f37))))
else
if x17 = (12 : Int32) then
(chk (isO f15 v0 7) <|
bd2 (rg 0 v0 ((v1 + (1 : Int32))) 0 f15) fun x43 f44 =>
if x43 = 0 then
(chk (okZ (0 : Int32)) <|
some ((0 : Int32), f44))
else
((gR f44 v0 7 0).bind fun x47 =>
chk (isO f44 x47 8) <|
bd2 (m_X9_passSign F x47 (41 : Int32) f44) fun x49 f50 =>
if x49 = 0 then
(chk (okZ (0 : Int32)) <|
some ((0 : Int32), f50))
else
(chk (okZ (1 : Int32)) <|
some ((1 : Int32), f50))))
else
if x17 = (13 : Int32) then
((gR f15 v0 7 1).bind fun x55 =>
chk (isO f15 x55 6) <|
(m_X7_putTest F x55 x12 (0 : Int32) (0 : Int32) f15).bind fun f57 =>
chk (okZ (1 : Int32)) <|
some ((1 : Int32), f57))
else
if x17 = (14 : Int32) then
((gR f15 v0 7 1).bind fun x60 =>
chk (isO f15 x60 6) <|
(m_X7_putTest F x60 x12 (0 : Int32) (0 : Int32) f15).bind fun f62 =>
chk (okZ (1 : Int32)) <|
some ((1 : Int32), f62))
else
if x17 = (15 : Int32) then
(chk (isO f15 v0 7) <|
bd2 (m_X8_readHas F v0 f15) fun x66 f67 =>
chk (okZ x66) <|
some (x66, f67))
else
if x17 = (16 : Int32) then
(chk (isO f15 v0 7) <|
bd2 (m_X8_readAhead F v0 f15) fun x71 f72 =>
chk (okZ x71) <|
some (x71, f72))
else
if x17 = (17 : Int32) then
(chk (isO f15 v0 7) <|
bd2 (m_X8_takeCopy F v0 f15) fun x76 f77 =>
if x76 = (-1 : Int32) then
(chk (okZ (0 : Int32)) <|
some ((0 : Int32), f77))
else
(chk (isO f77 v0 7) <|
bd2 (m_X8_readMeasure F v0 x12 x76 f77) fun x81 f82 =>
if x81 = 0 then
(chk (okZ (0 : Int32)) <|
some ((0 : Int32), f82))
else
(chk (okZ (1 : Int32)) <|
some ((1 : Int32), f82))))
else
if x17 = (18 : Int32) then
(chk (isO f15 v0 7) <|
bd2 (m_X8_takeCopy F v0 f15) fun x88 f89 =>
if x88 = (-1 : Int32) then
(chk (okZ (0 : Int32)) <|
some ((0 : Int32), f89))
else
(chk (isO f89 v0 7) <|
bd2 (m_X8_readMeasure F v0 x12 x88 f89) fun x93 f94 =>
if x93 = 0 then
(chk (okZ (0 : Int32)) <|
some ((0 : Int32), f94))
else
(chk (okZ (1 : Int32)) <|
some ((1 : Int32), f94))))
else
if x17 = (19 : Int32) then
(chk (isO f15 v0 7) <|
bd2 (m_X8_readMeasure F v0 x12 (-1 : Int32) f15) fun x100 f101 =>
chk (okZ x100) <|
some (x100, f101))
else
if x17 = (20 : Int32) then
(chk (isO f15 v0 7) <|
bd2 (m_X8_readMeasure F v0 x12 (-1 : Int32) f15) fun x105 f106 =>
chk (okZ x105) <|
some (x105, f106))
else
(chk (isO f15 v0 7) <|
bd2 (rg 0 v0 ((v1 + (1 : Int32))) 0 f15) fun x109 f110 =>
if x109 = 0 then
(chk (okZ (0 : Int32)) <|
some ((0 : Int32), f110))
else
((gR f110 v0 7 0).bind fun x113 =>
chk (isO f110 x113 8) <|
bd2 (m_X9_passSign F x113 (41 : Int32) f110) fun x115 f116 =>
if x115 = 0 then
(chk (okZ (0 : Int32)) <|
some ((0 : Int32), f116))
else
(chk (okZ (1 : Int32)) <|
some ((1 : Int32), f116)))))
else
((gR fa v0 7 0).bind fun x120 =>
chk (isO fa x120 8) <|
bd2 (m_X9_fail F x120 (4 : Int32) fa) fun x122 f123 =>
chk (okZ x122) <|
some (x122, f123)))
def b_X8_readOne (F : Nat) (rg : Nat → Option Nat → Int32 → Int32 → Hp → Option (Int32 × Hp)) (u0 : Option Nat) (u1 : Int32) (f : Hp) : Option ((Int32) × Hp) :=
(gR f u0 7 0).bind fun x125 =>
(gR f x125 8 7).bind fun x126 =>
(enI x126).bind fun i127 =>
if (wordS i127) = 0 then
((gR f u0 7 0).bind fun x129 =>
(gI f x129 8 8).bind fun x130 =>
if x130 = (40 : Int32) then
(m_X8_readOne_B34 F rg u0 u1 f)
else
((gR f u0 7 0).bind fun x132 =>
chk (isO f x132 8) <|
bd2 (m_X9_fail F x132 (1 : Int32) f) fun x134 f135 =>
chk (okZ x134) <|
some (x134, f135)))
else
(m_X8_readOne_B34 F rg u0 u1 f)
def mg_0 (F : Nat) : Nat → Nat → Option Nat → Int32 → Int32 → Hp → Option (Int32 × Hp)
  | 0, _, _, _, _, _ => none
  | d + 1, s, v0, v1, v2, f => if s = 0 then b_X8_readCondition F (mg_0 F d) v0 v1 f else if s = 1 then b_X8_readAll F (mg_0 F d) v0 v1 f else b_X8_readOne F (mg_0 F d) v0 v1 f
def m_X8_readCondition (F d : Nat) (v0 : Option Nat) (v1 : Int32) (f : Hp) : Option (Int32 × Hp) := mg_0 F d 0 v0 v1 0 f
def m_X8_readAll (F d : Nat) (v0 : Option Nat) (v1 : Int32) (f : Hp) : Option (Int32 × Hp) := mg_0 F d 1 v0 v1 0 f
def m_X8_readOne (F d : Nat) (v0 : Option Nat) (v1 : Int32) (f : Hp) : Option (Int32 × Hp) := mg_0 F d 2 v0 v1 0 f
/-! CopyOrders$SentenceReader.read(LCopyOrders$Sentence;LCopyOrders$House;)I -/
def m_X8_read (F : Nat) (u0 : Option Nat) (u1 : Option Nat) (u2 : Option Nat) (f : Hp) : Option ((Int32) × Hp) :=
(pV f u0 7 1 (va_rf u1)).bind fun f1 =>
(gR f1 u0 7 1).bind fun x2 =>
chk (isO f1 x2 6) <|
(m_X7_clear F x2 f1).bind fun f4 =>
(pV f4 u0 7 2 (va_rf u2)).bind fun f5 =>
(pV f5 u0 7 3 (.int (0 : Int32))).bind fun f6 =>
chk (isO f6 u0 7) <|
bd2 (m_X8_readCondition F 60 u0 (1 : Int32) f6) fun x8 f9 =>
if x8 = 0 then
(some ((-1 : Int32), f9))
else
((gR f9 u0 7 0).bind fun x11 =>
(gI f9 x11 8 5).bind fun x12 =>
if x12 = 0 then
((gI f9 u0 7 3).bind fun x14 =>
some (x14, f9))
else
((gR f9 u0 7 0).bind fun x15 =>
chk (isO f9 x15 8) <|
bd2 (m_X9_fail F x15 (1 : Int32) f9) fun x17 f18 =>
some ((-1 : Int32), f18)))
/-! CopyOrders.sentence()I -/
def m_X11_sentence (F : Nat) (u0 : Option Nat) (f : Hp) : Option ((Int32) × Hp) :=
(gR f u0 9 7).bind fun x1 =>
chk (isO f u0 9) <|
bd2 (m_X11_takeTape F u0 f) fun x3 f4 =>
chk (isO f4 x1 8) <|
(m_X9_open F x1 x3 (200 : Int32) f4).bind fun f6 =>
(gR f6 u0 9 9).bind fun x7 =>
(gR f6 u0 9 4).bind fun x8 =>
(gR f6 u0 9 2).bind fun x9 =>
chk (isO f6 x7 7) <|
bd2 (m_X8_read F x7 x8 x9 f6) fun x11 f12 =>
(gR f12 u0 9 7).bind fun x13 =>
(gI f12 x13 8 10).bind fun x14 =>
(pV f12 u0 9 12 (.int x14)).bind fun f15 =>
(gI f15 u0 9 12).bind fun x16 =>
if x16 = 0 then
((gR f15 u0 9 2).bind fun x18 =>
(gR f15 x18 3 11).bind fun x19 =>
(gR f15 u0 9 2).bind fun x20 =>
(gR f15 u0 9 4).bind fun x21 =>
(pV f15 x20 3 11 (va_rf x21)).bind fun f22 =>
(pV f22 u0 9 4 (va_rf x19)).bind fun f23 =>
some (x11, f23))
else
((gR f15 u0 9 7).bind fun x24 =>
(gI f15 x24 8 11).bind fun x25 =>
some (((-1 : Int32) - x25), f15))
/-! CopyOrders.size(I)I -/
def m_X11_size (F : Nat) (u0 : Option Nat) (u1 : Int32) (f : Hp) : Option Int32 :=
(gR f u0 9 2).bind fun x1 =>
chk (isO f x1 3) <|
(m_X4_copyAt F x1 u1 f).bind fun x3 =>
if x3 = none then
(some (-1 : Int32))
else
((gI f x3 0 1).bind fun x5 =>
some x5)
/-! CopyOrders.song(I)I -/
def m_X11_song (F : Nat) (u0 : Option Nat) (u1 : Int32) (f : Hp) (n z : Nat) : Option ((Int32) × Hp × Nat × Nat) :=
chk (isO f u0 9) <|
bd4 (m_X11_orders F u0 f (n) (z)) fun x5 f4 nq2 zq3 =>
chk (decide (n ≤ nq2 ∧ z ≤ zq3)) <|
grow pr4 nq2 zq3 <|
chk (isO f4 x5 5) <|
grow pr4 (nq2) (zq3) <|
(m_X6_has F x5 u1 f4).bind fun x10 =>
if x10 = 0 then
(some ((-1 : Int32), f4, nq2, zq3))
else
((gR f4 u0 9 2).bind fun x12 =>
(gR f4 x5 5 3).bind fun x13 =>
(ldI f4 1 x13 u1).bind fun x14 =>
(gI f4 x5 5 0).bind fun x15 =>
chk (isO f4 x12 3) <|
grow pr4 (nq2) (zq3) <|
(m_X4_songOf F x12 x14 x15 f4).bind fun x18 =>
some (x18, f4, nq2, zq3))
/-! CopyOrders$Family.open()V -/
def m_X3_open (F : Nat) (u0 : Option Nat) (f : Hp) : Option Hp :=
(pV f u0 2 0 (.int (0 : Int32))).bind fun f1 =>
some f1
/-! CopyOrders$Family.admi_t(I)V -/
def m_X3_admit (F : Nat) (u0 : Option Nat) (u1 : Int32) (f : Hp) : Option Hp :=
(gI f u0 2 0).bind fun x1 =>
if (9 : Int32) ≤ x1 then
(some f)
else
((gR f u0 2 1).bind fun x3 =>
(gI f u0 2 0).bind fun x4 =>
(stI f 1 x3 x4 u1).bind fun f5 =>
(gI f5 u0 2 0).bind fun x6 =>
(pV f5 u0 2 0 (.int (x6 + (1 : Int32)))).bind fun f7 =>
some f7)
/-! CopyOrders$Family.numberAt(I)I -/
def m_X3_numberAt (F : Nat) (u0 : Option Nat) (u1 : Int32) (f : Hp) : Option Int32 :=
if u1 < 0 then
(some (-1 : Int32))
else
(if (10 : Int32) ≤ u1 then
(some (-1 : Int32))
else
((gR f u0 2 1).bind fun x3 =>
(ldI f 1 x3 u1).bind fun x4 =>
some x4))
/-! CopyOrders$Family.settle()I -/
def m_X3_settle_b11 (F : Nat) (rc11 : (Option Nat) → Int32 → Int32 → Hp → Option ((Int32) × Hp)) (v0 : Option Nat) (v1 : Int32) (v2 : Int32) (fa : Hp) : Option ((Int32) × Hp) :=
(gI fa v0 2 0).bind fun x1 =>
if x1 ≤ v2 then
(some (v1, fa))
else
(if (9 : Int32) ≤ v2 then
(some (v1, fa))
else
((gR fa v0 2 2).bind fun x4 =>
if v2 = 0 then
((stI fa 1 x4 v2 (-1 : Int32)).bind fun f12 =>
nmd (v2 + (1 : Int32)) fun y13 =>
rc11 v0 v1 y13 f12)
else
((gR fa v0 2 4).bind fun x6 =>
(ldI fa 1 x6 v2).bind fun x7 =>
chk (isO fa v0 2) <|
(m_X3_numberAt F v0 x7 fa).bind fun x9 =>
(stI fa 1 x4 v2 x9).bind fun f10 =>
nmd (v2 + (1 : Int32)) fun y11 =>
rc11 v0 v1 y11 f10)))
def m_X3_settle_L11 (F : Nat) : Nat → Option Nat → Int32 → Int32 → Hp → Option ((Int32) × Hp)
  | 0, _, _, _, _ => none
  | k + 1, v0, v1, v2, fa => m_X3_settle_b11 F (m_X3_settle_L11 F k) v0 v1 v2 fa
def m_X3_settle (F : Nat) (u0 : Option Nat) (f : Hp) : Option ((Int32) × Hp) :=
(gI f u0 2 0).bind fun x14 =>
chk (isO f u0 2) <|
bd2 (m_X3_span F u0 x14 f) fun x16 f17 =>
m_X3_settle_L11 F F u0 x16 (0 : Int32) f17
/-! CopyOrders.tree()I -/
def m_X11_tree_B66 (F : Nat) (v0 : Option Nat) (fa : Hp) : Option ((Int32) × Hp) :=
(gR fa v0 9 10).bind fun x8 =>
(gR fa v0 9 2).bind fun x9 =>
chk (isO fa x8 2) <|
bd2 (m_X3_measure F x8 x9 fa) fun x11 f12 =>
(gR f12 v0 9 10).bind fun x13 =>
chk (isO f12 x13 2) <|
bd2 (m_X3_settle F x13 f12) fun x15 f16 =>
some (x15, f16)
def m_X11_tree_b43 (F : Nat) (rc43 : (Option Nat) → Int32 → Int32 → Hp → Option ((Int32) × Hp)) (v0 : Option Nat) (v1 : Int32) (v2 : Int32) (fa : Hp) : Option ((Int32) × Hp) :=
if v1 ≤ v2 then
(m_X11_tree_B66 F v0 fa)
else
((gR fa v0 9 10).bind fun x2 =>
chk (isO fa v0 9) <|
(m_X11_byteAt F v0 v2 fa).bind fun x4 =>
chk (isO fa x2 2) <|
(m_X3_admit F x2 x4 fa).bind fun f6 =>
nmd (v2 + (1 : Int32)) fun y7 =>
rc43 v0 v1 y7 f6)
def m_X11_tree_L43 (F : Nat) : Nat → Option Nat → Int32 → Int32 → Hp → Option ((Int32) × Hp)
  | 0, _, _, _, _ => none
  | k + 1, v0, v1, v2, fa => m_X11_tree_b43 F (m_X11_tree_L43 F k) v0 v1 v2 fa
def m_X11_tree (F : Nat) (u0 : Option Nat) (f : Hp) : Option ((Int32) × Hp) :=
chk (isO f u0 9) <|
bd2 (m_X11_takeTape F u0 f) fun x18 f19 =>
if x18 < (1 : Int32) then
(some ((-1 : Int32), f19))
else
(if (9 : Int32) < x18 then
(some ((-1 : Int32), f19))
else
(chk (isO f19 u0 9) <|
(m_X11_areCopies F u0 x18 f19).bind fun x23 =>
if x23 = 0 then
(some ((-1 : Int32), f19))
else
(chk (isO f19 u0 9) <|
(m_X11_areUnlike F u0 x18 f19).bind fun x26 =>
if x26 = 0 then
(some ((-1 : Int32), f19))
else
((gR f19 u0 9 10).bind fun x28 =>
chk (isO f19 x28 2) <|
(m_X3_open F x28 f19).bind fun f30 =>
m_X11_tree_L43 F F u0 x18 (0 : Int32) f30))))
/-! CopyOrders.ways(III)J -/
def m_X11_ways (F : Nat) (u0 : Option Nat) (u1 : Int32) (u2 : Int32) (u3 : Int32) (f : Hp) (n z : Nat) : Option ((Int64) × Hp × Nat × Nat) :=
chk (isO f u0 9) <|
bd4 (m_X11_orders F u0 f (n) (z)) fun x5 f4 nq2 zq3 =>
chk (decide (n ≤ nq2 ∧ z ≤ zq3)) <|
grow pr4 nq2 zq3 <|
chk (isO f4 x5 5) <|
grow pr4 (nq2) (zq3) <|
(m_X6_has F x5 u1 f4).bind fun x10 =>
if x10 = 0 then
(some ((-1 : Int64), f4, nq2, zq3))
else
(chk (isO f4 x5 5) <|
grow pr4 (nq2) (zq3) <|
(m_X6_has F x5 u2 f4).bind fun x14 =>
if x14 = 0 then
(some ((-1 : Int64), f4, nq2, zq3))
else
(grow pr4 (nq2) (zq3) <|
(m_X11_isWithin F u3 (10 : Int32) f4).bind fun x17 =>
if x17 = 0 then
(some ((-1 : Int64), f4, nq2, zq3))
else
((gR f4 u0 9 2).bind fun x19 =>
(gR f4 x19 3 5).bind fun x20 =>
chk (isO f4 x5 5) <|
grow pr4 (nq2) (zq3) <|
(m_X6_spread F x5 u1 u3 x20 f4).bind fun f23 =>
(gR f23 x5 5 6).bind fun x24 =>
(ldJ f23 x24 u2).bind fun x25 =>
some (x25, f23, nq2, zq3))))
/-! CopyOrders$Copy.placeOf(I)I -/
def m_X1_placeOf_b2 (F : Nat) (rc2 : (Option Nat) → Int32 → Int32 → Hp → Option Int32) (v0 : Option Nat) (v1 : Int32) (v2 : Int32) (f : Hp) : Option Int32 :=
(gI f v0 0 1).bind fun x1 =>
if x1 ≤ v2 then
(some (-1 : Int32))
else
((gI f v0 0 2).bind fun x3 =>
(m_X11_lineOf F x3 v2 f).bind fun x4 =>
if x4 = v1 then
(some v2)
else
(nmd (v2 + (1 : Int32)) fun y6 =>
rc2 v0 v1 y6 f))
def m_X1_placeOf_L2 (F : Nat) : Nat → Option Nat → Int32 → Int32 → Hp → Option Int32
  | 0, _, _, _, _ => none
  | k + 1, v0, v1, v2, f => m_X1_placeOf_b2 F (m_X1_placeOf_L2 F k) v0 v1 v2 f
def m_X1_placeOf (F : Nat) (u0 : Option Nat) (u1 : Int32) (f : Hp) : Option Int32 :=
m_X1_placeOf_L2 F F u0 u1 (0 : Int32) f
/-! CopyOrders$Copy.pieceEnd(LCopyOrders$Copy;I)I -/
def m_X1_pieceEnd_b5 (F : Nat) (rc5 : (Option Nat) → (Option Nat) → Int32 → Int32 → Hp → Option Int32) (v0 : Option Nat) (v1 : Option Nat) (v3 : Int32) (v4 : Int32) (f : Hp) : Option Int32 :=
(gI f v1 0 1).bind fun x1 =>
if x1 ≤ v4 then
((gI f v1 0 1).bind fun x3 =>
some x3)
else
((gI f v1 0 2).bind fun x4 =>
(m_X11_lineOf F x4 v4 f).bind fun x5 =>
chk (isO f v0 0) <|
(m_X1_placeOf F v0 x5 f).bind fun x7 =>
if v3 < x7 then
(nmd (v4 + (1 : Int32)) fun y9 =>
rc5 v0 v1 x7 y9 f)
else
(some v4))
def m_X1_pieceEnd_L5 (F : Nat) : Nat → Option Nat → Option Nat → Int32 → Int32 → Hp → Option Int32
  | 0, _, _, _, _, _ => none
  | k + 1, v0, v1, v3, v4, f => m_X1_pieceEnd_b5 F (m_X1_pieceEnd_L5 F k) v0 v1 v3 v4 f
def m_X1_pieceEnd (F : Nat) (u0 : Option Nat) (u1 : Option Nat) (u2 : Int32) (f : Hp) : Option Int32 :=
m_X1_pieceEnd_L5 F F u0 u1 (-1 : Int32) u2 f
/-! CopyOrders.woven(III)I -/
def m_X11_woven_b57 (F : Nat) (rc57 : (Option Nat) → (Option Nat) → (Option Nat) → Int32 → Int32 → Int32 → Hp → Option Int32) (v4 : Option Nat) (v5 : Option Nat) (v6 : Option Nat) (v7 : Int32) (v8 : Int32) (v9 : Int32) (f : Hp) : Option Int32 :=
if (7 : Int32) ≤ v9 then
(some v7)
else
((gI f v6 0 1).bind fun x2 =>
if x2 ≤ v8 then
(some v7)
else
(chk (isO f v4 0) <|
(m_X1_pieceEnd F v4 v6 v8 f).bind fun x5 =>
chk (isO f v5 0) <|
(m_X1_pieceEnd F v5 v6 v8 f).bind fun x7 =>
nmd ((imax x5 x7)) fun y8 =>
if v8 < y8 then
(nmd (v7 + (1 : Int32)) fun y10 =>
nmd (v9 + (1 : Int32)) fun y11 =>
rc57 v4 v5 v6 y10 y8 y11 f)
else
(some (-1 : Int32))))
def m_X11_woven_L57 (F : Nat) : Nat → Option Nat → Option Nat → Option Nat → Int32 → Int32 → Int32 → Hp → Option Int32
  | 0, _, _, _, _, _, _, _ => none
  | k + 1, v4, v5, v6, v7, v8, v9, f => m_X11_woven_b57 F (m_X11_woven_L57 F k) v4 v5 v6 v7 v8 v9 f
def m_X11_woven (F : Nat) (u0 : Option Nat) (u1 : Int32) (u2 : Int32) (u3 : Int32) (f : Hp) : Option Int32 :=
(gR f u0 9 2).bind fun x12 =>
chk (isO f x12 3) <|
(m_X4_copyAt F x12 u1 f).bind fun x14 =>
(gR f u0 9 2).bind fun x15 =>
chk (isO f x15 3) <|
(m_X4_copyAt F x15 u2 f).bind fun x17 =>
(gR f u0 9 2).bind fun x18 =>
chk (isO f x18 3) <|
(m_X4_copyAt F x18 u3 f).bind fun x20 =>
if x14 = none then
(some (-2 : Int32))
else
(if x17 = none then
(some (-2 : Int32))
else
(if x20 = none then
(some (-2 : Int32))
else
(m_X11_woven_L57 F F x14 x17 x20 (0 : Int32) (0 : Int32) (0 : Int32) f)))
/-! CopyOrders$Orders.allWays()J -/
def m_X6_allWays_b4 (F : Nat) (rc4 : (Option Nat) → Int64 → Int32 → Hp → Option Int64) (v0 : Option Nat) (v1 : Int64) (v3 : Int32) (f : Hp) : Option Int64 :=
(gI f v0 5 1).bind fun x1 =>
if x1 ≤ v3 then
(some v1)
else
((gR f v0 5 6).bind fun x3 =>
(ldJ f x3 v3).bind fun x4 =>
nmd ((v1 + x4)) fun y5 =>
nmd (v3 + (1 : Int32)) fun y6 =>
rc4 v0 y5 y6 f)
def m_X6_allWays_L4 (F : Nat) : Nat → Option Nat → Int64 → Int32 → Hp → Option Int64
  | 0, _, _, _, _ => none
  | k + 1, v0, v1, v3, f => m_X6_allWays_b4 F (m_X6_allWays_L4 F k) v0 v1 v3 f
def m_X6_allWays (F : Nat) (u0 : Option Nat) (f : Hp) : Option Int64 :=
m_X6_allWays_L4 F F u0 (0 : Int64) (0 : Int32) f
/-! CopyOrders$Orders.allWaysFar(I)J -/
def m_X6_allWaysFar_b5 (F : Nat) (rc5 : (Option Nat) → Int32 → Int64 → Int32 → Hp → Option Int64) (v0 : Option Nat) (v1 : Int32) (v2 : Int64) (v4 : Int32) (f : Hp) : Option Int64 :=
(gI f v0 5 1).bind fun x1 =>
if x1 ≤ v4 then
(some v2)
else
((gR f v0 5 6).bind fun x3 =>
(ldJ f x3 v4).bind fun x4 =>
(gR f v0 5 4).bind fun x5 =>
(ldI f 1 x5 v4).bind fun x6 =>
(gR f v0 5 4).bind fun x7 =>
(ldI f 1 x7 v1).bind fun x8 =>
(m_J6_bitCount_0f7a4 F ((x6 ^^^ x8)) f).bind fun x9 =>
nmd ((v2 + (x4 * (Int32.toInt64 x9)))) fun y10 =>
nmd (v4 + (1 : Int32)) fun y11 =>
rc5 v0 v1 y10 y11 f)
def m_X6_allWaysFar_L5 (F : Nat) : Nat → Option Nat → Int32 → Int64 → Int32 → Hp → Option Int64
  | 0, _, _, _, _, _ => none
  | k + 1, v0, v1, v2, v4, f => m_X6_allWaysFar_b5 F (m_X6_allWaysFar_L5 F k) v0 v1 v2 v4 f
def m_X6_allWaysFar (F : Nat) (u0 : Option Nat) (u1 : Int32) (f : Hp) : Option Int64 :=
m_X6_allWaysFar_L5 F F u0 u1 (0 : Int64) (0 : Int32) f
/-! CopyOrdersModel.standard([I)V -/
def m_X12_standard_b25 (F : Nat) (rc25 : (Option Nat) → Int32 → Hp → Option Hp) (v0 : Option Nat) (v1 : Int32) (fa : Hp) : Option Hp :=
if (7 : Int32) ≤ v1 then
(some fa)
else
((stI fa 1 v0 ((102 : Int32) + v1) (1 : Int32)).bind fun f6 =>
nmd (v1 + (1 : Int32)) fun y7 =>
rc25 v0 y7 f6)
def m_X12_standard_L25 (F : Nat) : Nat → Option Nat → Int32 → Hp → Option Hp
  | 0, _, _, _ => none
  | k + 1, v0, v1, fa => m_X12_standard_b25 F (m_X12_standard_L25 F k) v0 v1 fa
def m_X12_standard_b2 (F : Nat) (rc2 : (Option Nat) → Int32 → Hp → Option Hp) (v0 : Option Nat) (v1 : Int32) (fa : Hp) : Option Hp :=
if (170 : Int32) ≤ v1 then
((stI fa 1 v0 (0 : Int32) (4 : Int32)).bind fun f2 =>
m_X12_standard_L25 F F v0 (0 : Int32) f2)
else
((stI fa 1 v0 v1 (0 : Int32)).bind fun f3 =>
nmd (v1 + (1 : Int32)) fun y4 =>
rc2 v0 y4 f3)
def m_X12_standard_L2 (F : Nat) : Nat → Option Nat → Int32 → Hp → Option Hp
  | 0, _, _, _ => none
  | k + 1, v0, v1, fa => m_X12_standard_b2 F (m_X12_standard_L2 F k) v0 v1 fa
def m_X12_standard (F : Nat) (u0 : Option Nat) (f : Hp) : Option Hp :=
m_X12_standard_L2 F F u0 (0 : Int32) f
/-! CopyOrdersModel.lay()V -/
def m_X12_lay (F : Nat) (u0 : Option Nat) (f : Hp) : Option Hp :=
(gI f u0 10 21).bind fun x1 =>
if x1 = 0 then
((pZ f u0 10 21 (1 : Int32)).bind fun f3 =>
(gR f3 u0 10 14).bind fun x4 =>
(m_X12_standard F x4 f3).bind fun f5 =>
some f5)
else
(some f)
/-! CopyOrdersModel.take()I -/
def m_X12_take (F : Nat) (u0 : Option Nat) (f : Hp) : Option ((Int32) × Hp) :=
(gI f u0 10 2).bind fun x1 =>
(pV f u0 10 2 (.int (0 : Int32))).bind fun f2 =>
some (x1, f2)
/-! CopyOrdersModel.lines()I -/
def m_X12_lines (F : Nat) (u0 : Option Nat) (f : Hp) : Option Int32 :=
(gR f u0 10 14).bind fun x1 =>
(ldI f 1 x1 (0 : Int32)).bind fun x2 =>
some x2
/-! CopyOrdersModel.isIn(III)Z -/
def m_X12_isIn (F : Nat) (u0 : Int32) (u1 : Int32) (u2 : Int32) (f : Hp) : Option Int32 :=
if u0 < u1 then
(chk (okZ (0 : Int32)) <|
some (0 : Int32))
else
(if u2 < u0 then
(chk (okZ (0 : Int32)) <|
some (0 : Int32))
else
(chk (okZ (1 : Int32)) <|
some (1 : Int32)))
/-! CopyOrdersModel.copies()I -/
def m_X12_copies (F : Nat) (u0 : Option Nat) (f : Hp) : Option Int32 :=
(gR f u0 10 14).bind fun x1 =>
(ldI f 1 x1 (1 : Int32)).bind fun x2 =>
some x2
/-! CopyOrdersModel.has(II)Z -/
def m_X12_has (F : Nat) (u0 : Int32) (u1 : Int32) (f : Hp) : Option Int32 :=
if ((u0 >>> (u1 &&& 31)) &&& (1 : Int32)) = (1 : Int32) then
(chk (okZ (1 : Int32)) <|
some (1 : Int32))
else
(chk (okZ (0 : Int32)) <|
some (0 : Int32))
/-! CopyOrdersModel.add()I -/
def m_X12_add_B142 (F : Nat) (v0 : Option Nat) (fa : Hp) : Option ((Int32) × Hp) :=
(gR fa v0 10 17).bind fun x26 =>
chk (isO fa v0 10) <|
(m_X12_copies F v0 fa).bind fun x28 =>
(stJ fa x26 x28 (0 : Int64)).bind fun f29 =>
(gR f29 v0 10 14).bind fun x30 =>
(ldI f29 1 x30 (1 : Int32)).bind fun x31 =>
(stI f29 1 x30 (1 : Int32) (x31 + (1 : Int32))).bind fun f32 =>
chk (isO f32 v0 10) <|
(m_X12_copies F v0 f32).bind fun x34 =>
some ((x34 - (1 : Int32)), f32)
def m_X12_add_b112 (F : Nat) (rc112 : (Option Nat) → Int32 → Int32 → Int32 → Hp → Option ((Int32) × Hp)) (v0 : Option Nat) (v1 : Int32) (v3 : Int32) (v4 : Int32) (fa : Hp) : Option ((Int32) × Hp) :=
if v1 ≤ v4 then
(m_X12_add_B142 F v0 fa)
else
((gR fa v0 10 14).bind fun x21 =>
(gR fa v0 10 1).bind fun x22 =>
(ldI fa 1 x22 v4).bind fun x23 =>
(stI fa 1 x21 ((v3 + (1 : Int32)) + v4) x23).bind fun f24 =>
nmd (v4 + (1 : Int32)) fun y25 =>
rc112 v0 v1 v3 y25 f24)
def m_X12_add_L112 (F : Nat) : Nat → Option Nat → Int32 → Int32 → Int32 → Hp → Option ((Int32) × Hp)
  | 0, _, _, _, _, _ => none
  | k + 1, v0, v1, v3, v4, fa => m_X12_add_b112 F (m_X12_add_L112 F k) v0 v1 v3 v4 fa
def m_X12_add_B91 (F : Nat) (v0 : Option Nat) (v1 : Int32) (fa : Hp) : Option ((Int32) × Hp) :=
chk (isO fa v0 10) <|
(m_X12_copies F v0 fa).bind fun x16 =>
nmd (((10 : Int32) + ((8 : Int32) * x16))) fun y17 =>
(gR fa v0 10 14).bind fun x18 =>
(stI fa 1 x18 y17 v1).bind fun f19 =>
m_X12_add_L112 F F v0 v1 y17 (0 : Int32) f19
def m_X12_add_b41 (F : Nat) (rc41 : (Option Nat) → Int32 → Int32 → Int32 → Hp → Option ((Int32) × Hp)) (v0 : Option Nat) (v1 : Int32) (v2 : Int32) (v3 : Int32) (fa : Hp) : Option ((Int32) × Hp) :=
if v1 ≤ v3 then
(m_X12_add_B91 F v0 v1 fa)
else
((gR fa v0 10 1).bind fun x2 =>
(ldI fa 1 x2 v3).bind fun x3 =>
chk (isO fa v0 10) <|
(m_X12_lines F v0 fa).bind fun x5 =>
if x5 ≤ x3 then
(some ((-1 : Int32), fa))
else
((gR fa v0 10 1).bind fun x7 =>
(ldI fa 1 x7 v3).bind fun x8 =>
(m_X12_has F v2 x8 fa).bind fun x9 =>
if x9 = 0 then
((gR fa v0 10 1).bind fun x11 =>
(ldI fa 1 x11 v3).bind fun x12 =>
nmd ((v2 ||| ((1 : Int32) <<< (x12 &&& 31)))) fun y13 =>
nmd (v3 + (1 : Int32)) fun y14 =>
rc41 v0 v1 y13 y14 fa)
else
(some ((-1 : Int32), fa))))
def m_X12_add_L41 (F : Nat) : Nat → Option Nat → Int32 → Int32 → Int32 → Hp → Option ((Int32) × Hp)
  | 0, _, _, _, _, _ => none
  | k + 1, v0, v1, v2, v3, fa => m_X12_add_b41 F (m_X12_add_L41 F k) v0 v1 v2 v3 fa
def m_X12_add (F : Nat) (u0 : Option Nat) (f : Hp) : Option ((Int32) × Hp) :=
(pV f u0 10 0 (.int (0 : Int32))).bind fun f35 =>
chk (isO f35 u0 10) <|
(m_X12_lay F u0 f35).bind fun f37 =>
chk (isO f37 u0 10) <|
bd2 (m_X12_take F u0 f37) fun x39 f40 =>
chk (isO f40 u0 10) <|
(m_X12_lines F u0 f40).bind fun x42 =>
(m_X12_isIn F x39 (1 : Int32) x42 f40).bind fun x43 =>
if x43 = 0 then
(some ((-1 : Int32), f40))
else
(chk (isO f40 u0 10) <|
(m_X12_copies F u0 f40).bind fun x46 =>
if x46 = (10 : Int32) then
(some ((-1 : Int32), f40))
else
(m_X12_add_L41 F F u0 x39 (0 : Int32) (0 : Int32) f40))
/-! CopyOrdersModel.orders()I -/
def m_X12_orders_b4 (F : Nat) (rc4 : (Option Nat) → Int32 → Int32 → Hp → Option Int32) (v0 : Option Nat) (v1 : Int32) (v2 : Int32) (f : Hp) : Option Int32 :=
chk (isO f v0 10) <|
(m_X12_lines F v0 f).bind fun x2 =>
if x2 < v2 then
(some v1)
else
(nmd ((v1 * v2)) fun y4 =>
nmd (v2 + (1 : Int32)) fun y5 =>
rc4 v0 y4 y5 f)
def m_X12_orders_L4 (F : Nat) : Nat → Option Nat → Int32 → Int32 → Hp → Option Int32
  | 0, _, _, _, _ => none
  | k + 1, v0, v1, v2, f => m_X12_orders_b4 F (m_X12_orders_L4 F k) v0 v1 v2 f
def m_X12_orders (F : Nat) (u0 : Option Nat) (f : Hp) : Option Int32 :=
m_X12_orders_L4 F F u0 (1 : Int32) (2 : Int32) f
/-! CopyOrdersModel.lay(I)V -/
def m_X12_lay__B69 (F : Nat) (rc20 : (Option Nat) → Int32 → Int32 → Int32 → Int32 → Hp → Option Hp) (rc55 : (Option Nat) → Int32 → Int32 → Int32 → Int32 → Int32 → Int32 → Hp → Option Hp) (v0 : Option Nat) (v2 : Int32) (v3 : Int32) (v4 : Int32) (v5 : Int32) (v6 : Int32) (v7 : Int32) (fa : Hp) : Option Hp :=
(m_X12_has F v2 v7 fa).bind fun x15 =>
if x15 = 0 then
(nmd (v7 + (1 : Int32)) fun y17 =>
rc55 v0 v2 v3 v4 v5 v6 y17 fa)
else
(nmd (v6 + (-1 : Int32)) fun y18 =>
nmd (v7 + (1 : Int32)) fun y19 =>
rc55 v0 v2 v3 v4 v5 y18 y19 fa)
def m_X12_lay__B87 (F : Nat) (rc20 : (Option Nat) → Int32 → Int32 → Int32 → Int32 → Hp → Option Hp) (v0 : Option Nat) (v2 : Int32) (v3 : Int32) (v4 : Int32) (v5 : Int32) (v7 : Int32) (fa : Hp) : Option Hp :=
nmd ((v2 &&& (((1 : Int32) <<< (v7 &&& 31)) ^^^ (-1 : Int32)))) fun y20 =>
(gR fa v0 10 24).bind fun x21 =>
(stI fa 1 x21 v5 v7).bind fun f22 =>
(gR f22 v0 10 25).bind fun x23 =>
(stI f22 1 x23 v7 v5).bind fun f24 =>
nmd (v5 + (1 : Int32)) fun y25 =>
rc20 v0 y20 v3 v4 y25 f24
def m_X12_lay__b55 (F : Nat) (rc20 : (Option Nat) → Int32 → Int32 → Int32 → Int32 → Hp → Option Hp) (rc55 : (Option Nat) → Int32 → Int32 → Int32 → Int32 → Int32 → Int32 → Hp → Option Hp) (v0 : Option Nat) (v2 : Int32) (v3 : Int32) (v4 : Int32) (v5 : Int32) (v6 : Int32) (v7 : Int32) (fa : Hp) : Option Hp :=
if 0 < v6 then
(m_X12_lay__B69 F rc20 rc55 v0 v2 v3 v4 v5 v6 v7 fa)
else
((m_X12_has F v2 v7 fa).bind fun x13 =>
if x13 = 0 then
(m_X12_lay__B69 F rc20 rc55 v0 v2 v3 v4 v5 v6 v7 fa)
else
(m_X12_lay__B87 F rc20 v0 v2 v3 v4 v5 v7 fa))
def m_X12_lay__L55 (F : Nat) (rc20 : (Option Nat) → Int32 → Int32 → Int32 → Int32 → Hp → Option Hp) : Nat → Option Nat → Int32 → Int32 → Int32 → Int32 → Int32 → Int32 → Hp → Option Hp
  | 0, _, _, _, _, _, _, _, _ => none
  | k + 1, v0, v2, v3, v4, v5, v6, v7, fa => m_X12_lay__b55 F rc20 (m_X12_lay__L55 F rc20 k) v0 v2 v3 v4 v5 v6 v7 fa
def m_X12_lay__b20 (F : Nat) (rc20 : (Option Nat) → Int32 → Int32 → Int32 → Int32 → Hp → Option Hp) (v0 : Option Nat) (v2 : Int32) (v3 : Int32) (v4 : Int32) (v5 : Int32) (fa : Hp) : Option Hp :=
chk (isO fa v0 10) <|
(m_X12_lines F v0 fa).bind fun x2 =>
if x2 ≤ v5 then
(some fa)
else
(chk (isO fa v0 10) <|
(m_X12_lines F v0 fa).bind fun x5 =>
chk (decide (¬ (x5 - v5) = 0)) <|
nmd ((v4 / (x5 - v5))) fun y7 =>
chk (decide (¬ y7 = 0)) <|
nmd ((v3 / y7)) fun y9 =>
chk (decide (¬ y7 = 0)) <|
nmd ((irm v3 y7)) fun y11 =>
m_X12_lay__L55 F rc20 F v0 v2 y11 y7 v5 y9 (0 : Int32) fa)
def m_X12_lay__L20 (F : Nat) : Nat → Option Nat → Int32 → Int32 → Int32 → Int32 → Hp → Option Hp
  | 0, _, _, _, _, _, _ => none
  | k + 1, v0, v2, v3, v4, v5, fa => m_X12_lay__b20 F (m_X12_lay__L20 F k) v0 v2 v3 v4 v5 fa
def m_X12_lay_ (F : Nat) (u0 : Option Nat) (u1 : Int32) (f : Hp) : Option Hp :=
chk (isO f u0 10) <|
(m_X12_lines F u0 f).bind fun x27 =>
nmd ((((1 : Int32) <<< (x27 &&& 31)) - (1 : Int32))) fun y28 =>
chk (isO f u0 10) <|
(m_X12_orders F u0 f).bind fun x30 =>
m_X12_lay__L20 F F u0 y28 u1 x30 (0 : Int32) f
/-! CopyOrdersModel.numberOf()I -/
def m_X12_numberOf_B53 (F : Nat) (rc4 : (Option Nat) → Int32 → Int32 → Hp → Option Int32) (v0 : Option Nat) (v1 : Int32) (v2 : Int32) (v3 : Int32) (f : Hp) : Option Int32 :=
chk (isO f v0 10) <|
(m_X12_lines F v0 f).bind fun x17 =>
nmd (((v1 * (x17 - v2)) + v3)) fun y18 =>
nmd (v2 + (1 : Int32)) fun y19 =>
rc4 v0 y18 y19 f
def m_X12_numberOf_b19 (F : Nat) (rc4 : (Option Nat) → Int32 → Int32 → Hp → Option Int32) (rc19 : (Option Nat) → Int32 → Int32 → Int32 → Int32 → Hp → Option Int32) (v0 : Option Nat) (v1 : Int32) (v2 : Int32) (v3 : Int32) (v4 : Int32) (f : Hp) : Option Int32 :=
chk (isO f v0 10) <|
(m_X12_lines F v0 f).bind fun x6 =>
if x6 ≤ v4 then
(m_X12_numberOf_B53 F rc4 v0 v1 v2 v3 f)
else
((gR f v0 10 24).bind fun x8 =>
(ldI f 1 x8 v4).bind fun x9 =>
(gR f v0 10 24).bind fun x10 =>
(ldI f 1 x10 v2).bind fun x11 =>
if x11 ≤ x9 then
(nmd (v4 + (1 : Int32)) fun y13 =>
rc19 v0 v1 v2 v3 y13 f)
else
(nmd (v3 + (1 : Int32)) fun y14 =>
nmd (v4 + (1 : Int32)) fun y15 =>
rc19 v0 v1 v2 y14 y15 f))
def m_X12_numberOf_L19 (F : Nat) (rc4 : (Option Nat) → Int32 → Int32 → Hp → Option Int32) : Nat → Option Nat → Int32 → Int32 → Int32 → Int32 → Hp → Option Int32
  | 0, _, _, _, _, _, _ => none
  | k + 1, v0, v1, v2, v3, v4, f => m_X12_numberOf_b19 F rc4 (m_X12_numberOf_L19 F rc4 k) v0 v1 v2 v3 v4 f
def m_X12_numberOf_b4 (F : Nat) (rc4 : (Option Nat) → Int32 → Int32 → Hp → Option Int32) (v0 : Option Nat) (v1 : Int32) (v2 : Int32) (f : Hp) : Option Int32 :=
chk (isO f v0 10) <|
(m_X12_lines F v0 f).bind fun x2 =>
if x2 ≤ v2 then
(some v1)
else
(nmd ((v2 + (1 : Int32))) fun y4 =>
m_X12_numberOf_L19 F rc4 F v0 v1 v2 (0 : Int32) y4 f)
def m_X12_numberOf_L4 (F : Nat) : Nat → Option Nat → Int32 → Int32 → Hp → Option Int32
  | 0, _, _, _, _ => none
  | k + 1, v0, v1, v2, f => m_X12_numberOf_b4 F (m_X12_numberOf_L4 F k) v0 v1 v2 f
def m_X12_numberOf (F : Nat) (u0 : Option Nat) (f : Hp) : Option Int32 :=
m_X12_numberOf_L4 F F u0 (0 : Int32) (0 : Int32) f
/-! CopyOrdersModel.layNeighbours()V -/
def m_X12_layNeighbours_b32 (F : Nat) (rc22 : (Option Nat) → Int32 → Hp → Option Hp) (rc32 : (Option Nat) → Int32 → Int32 → Hp → Option Hp) (v0 : Option Nat) (v1 : Int32) (v2 : Int32) (fa : Hp) : Option Hp :=
chk (isO fa v0 10) <|
(m_X12_lines F v0 fa).bind fun x5 =>
if (x5 - (1 : Int32)) ≤ v2 then
(nmd (v1 + (1 : Int32)) fun y7 =>
rc22 v0 y7 fa)
else
(chk (isO fa v0 10) <|
(m_X12_lay_ F v0 v1 fa).bind fun f9 =>
(gR f9 v0 10 24).bind fun x10 =>
(ldI f9 1 x10 v2).bind fun x11 =>
(gR f9 v0 10 24).bind fun x12 =>
(gR f9 v0 10 24).bind fun x13 =>
(ldI f9 1 x13 (v2 + (1 : Int32))).bind fun x14 =>
(stI f9 1 x12 v2 x14).bind fun f15 =>
(gR f15 v0 10 24).bind fun x16 =>
(stI f15 1 x16 (v2 + (1 : Int32)) x11).bind fun f17 =>
(gR f17 v0 10 38).bind fun x18 =>
chk (isO f17 v0 10) <|
(m_X12_numberOf F v0 f17).bind fun x20 =>
(stI f17 1 x18 (((6 : Int32) * v1) + v2) x20).bind fun f21 =>
nmd (v2 + (1 : Int32)) fun y22 =>
rc32 v0 v1 y22 f21)
def m_X12_layNeighbours_L32 (F : Nat) (rc22 : (Option Nat) → Int32 → Hp → Option Hp) : Nat → Option Nat → Int32 → Int32 → Hp → Option Hp
  | 0, _, _, _, _ => none
  | k + 1, v0, v1, v2, fa => m_X12_layNeighbours_b32 F rc22 (m_X12_layNeighbours_L32 F rc22 k) v0 v1 v2 fa
def m_X12_layNeighbours_b22 (F : Nat) (rc22 : (Option Nat) → Int32 → Hp → Option Hp) (v0 : Option Nat) (v1 : Int32) (fa : Hp) : Option Hp :=
chk (isO fa v0 10) <|
(m_X12_orders F v0 fa).bind fun x2 =>
if x2 ≤ v1 then
(some fa)
else
(m_X12_layNeighbours_L32 F rc22 F v0 v1 (0 : Int32) fa)
def m_X12_layNeighbours_L22 (F : Nat) : Nat → Option Nat → Int32 → Hp → Option Hp
  | 0, _, _, _ => none
  | k + 1, v0, v1, fa => m_X12_layNeighbours_b22 F (m_X12_layNeighbours_L22 F k) v0 v1 fa
def m_X12_layNeighbours (F : Nat) (u0 : Option Nat) (f : Hp) : Option Hp :=
(gI f u0 10 39).bind fun x23 =>
chk (isO f u0 10) <|
(m_X12_lines F u0 f).bind fun x25 =>
if x23 = x25 then
(some f)
else
(chk (isO f u0 10) <|
(m_X12_lines F u0 f).bind fun x28 =>
(pV f u0 10 39 (.int x28)).bind fun f29 =>
m_X12_layNeighbours_L22 F F u0 (0 : Int32) f29)
/-! CopyOrdersModel.layWays(IIZ)V -/
def m_X12_layWays_b102 (F : Nat) (rc44 : (Option Nat) → Int32 → Int32 → Int32 → Int32 → Hp → Option Hp) (rc77 : (Option Nat) → Int32 → Int32 → Int32 → Int32 → Int32 → Hp → Option Hp) (rc102 : (Option Nat) → Int32 → Int32 → Int32 → Int32 → Int32 → Int32 → Hp → Option Hp) (v0 : Option Nat) (v2 : Int32) (v3 : Int32) (v4 : Int32) (v5 : Int32) (v6 : Int32) (v7 : Int32) (fa : Hp) : Option Hp :=
chk (isO fa v0 10) <|
(m_X12_lines F v0 fa).bind fun x18 =>
if (x18 - (1 : Int32)) ≤ v7 then
(nmd (v6 + (1 : Int32)) fun y20 =>
rc77 v0 v2 v3 v4 v5 y20 fa)
else
((gR fa v0 10 36).bind fun x21 =>
(gR fa v0 10 38).bind fun x22 =>
(ldI fa 1 x22 (((6 : Int32) * v6) + v7)).bind fun x23 =>
(ldJ fa x21 x23).bind fun x24 =>
(gR fa v0 10 35).bind fun x25 =>
(ldJ fa x25 v6).bind fun x26 =>
if v3 = 0 then
((gR fa v0 10 14).bind fun x28 =>
(ldI fa 1 x28 ((102 : Int32) + v7)).bind fun x29 =>
(stJ fa x21 x23 (x24 + (x26 * (Int32.toInt64 x29)))).bind fun f30 =>
nmd (v7 + (1 : Int32)) fun y31 =>
rc102 v0 v2 v3 v4 v5 v6 y31 f30)
else
((stJ fa x21 x23 (x24 + (x26 * (Int32.toInt64 (1 : Int32))))).bind fun f32 =>
nmd (v7 + (1 : Int32)) fun y33 =>
rc102 v0 v2 v3 v4 v5 v6 y33 f32))
def m_X12_layWays_L102 (F : Nat) (rc44 : (Option Nat) → Int32 → Int32 → Int32 → Int32 → Hp → Option Hp) (rc77 : (Option Nat) → Int32 → Int32 → Int32 → Int32 → Int32 → Hp → Option Hp) : Nat → Option Nat → Int32 → Int32 → Int32 → Int32 → Int32 → Int32 → Hp → Option Hp
  | 0, _, _, _, _, _, _, _, _ => none
  | k + 1, v0, v2, v3, v4, v5, v6, v7, fa => m_X12_layWays_b102 F rc44 rc77 (m_X12_layWays_L102 F rc44 rc77 k) v0 v2 v3 v4 v5 v6 v7 fa
def m_X12_layWays_b176 (F : Nat) (rc44 : (Option Nat) → Int32 → Int32 → Int32 → Int32 → Hp → Option Hp) (rc176 : (Option Nat) → Int32 → Int32 → Int32 → Int32 → Int32 → Hp → Option Hp) (v0 : Option Nat) (v2 : Int32) (v3 : Int32) (v4 : Int32) (v5 : Int32) (v6 : Int32) (fa : Hp) : Option Hp :=
if v4 ≤ v6 then
(nmd (v5 + (1 : Int32)) fun y35 =>
rc44 v0 v2 v3 v4 y35 fa)
else
((gR fa v0 10 35).bind fun x36 =>
(gR fa v0 10 36).bind fun x37 =>
(ldJ fa x37 v6).bind fun x38 =>
(stJ fa x36 v6 x38).bind fun f39 =>
nmd (v6 + (1 : Int32)) fun y40 =>
rc176 v0 v2 v3 v4 v5 y40 f39)
def m_X12_layWays_L176 (F : Nat) (rc44 : (Option Nat) → Int32 → Int32 → Int32 → Int32 → Hp → Option Hp) : Nat → Option Nat → Int32 → Int32 → Int32 → Int32 → Int32 → Hp → Option Hp
  | 0, _, _, _, _, _, _, _ => none
  | k + 1, v0, v2, v3, v4, v5, v6, fa => m_X12_layWays_b176 F rc44 (m_X12_layWays_L176 F rc44 k) v0 v2 v3 v4 v5 v6 fa
def m_X12_layWays_b77 (F : Nat) (rc44 : (Option Nat) → Int32 → Int32 → Int32 → Int32 → Hp → Option Hp) (rc77 : (Option Nat) → Int32 → Int32 → Int32 → Int32 → Int32 → Hp → Option Hp) (v0 : Option Nat) (v2 : Int32) (v3 : Int32) (v4 : Int32) (v5 : Int32) (v6 : Int32) (fa : Hp) : Option Hp :=
if v4 ≤ v6 then
(m_X12_layWays_L176 F rc44 F v0 v2 v3 v4 v5 (0 : Int32) fa)
else
((gR fa v0 10 35).bind fun x13 =>
(ldJ fa x13 v6).bind fun x14 =>
if (lg_cmp x14 (0 : Int64)) = 0 then
(nmd (v6 + (1 : Int32)) fun y16 =>
rc77 v0 v2 v3 v4 v5 y16 fa)
else
(m_X12_layWays_L102 F rc44 rc77 F v0 v2 v3 v4 v5 v6 (0 : Int32) fa))
def m_X12_layWays_L77 (F : Nat) (rc44 : (Option Nat) → Int32 → Int32 → Int32 → Int32 → Hp → Option Hp) : Nat → Option Nat → Int32 → Int32 → Int32 → Int32 → Int32 → Hp → Option Hp
  | 0, _, _, _, _, _, _, _ => none
  | k + 1, v0, v2, v3, v4, v5, v6, fa => m_X12_layWays_b77 F rc44 (m_X12_layWays_L77 F rc44 k) v0 v2 v3 v4 v5 v6 fa
def m_X12_layWays_b53 (F : Nat) (rc44 : (Option Nat) → Int32 → Int32 → Int32 → Int32 → Hp → Option Hp) (rc53 : (Option Nat) → Int32 → Int32 → Int32 → Int32 → Int32 → Hp → Option Hp) (v0 : Option Nat) (v2 : Int32) (v3 : Int32) (v4 : Int32) (v5 : Int32) (v6 : Int32) (fa : Hp) : Option Hp :=
if v4 ≤ v6 then
(m_X12_layWays_L77 F rc44 F v0 v2 v3 v4 v5 (0 : Int32) fa)
else
((gR fa v0 10 36).bind fun x9 =>
(stJ fa x9 v6 (0 : Int64)).bind fun f10 =>
nmd (v6 + (1 : Int32)) fun y11 =>
rc53 v0 v2 v3 v4 v5 y11 f10)
def m_X12_layWays_L53 (F : Nat) (rc44 : (Option Nat) → Int32 → Int32 → Int32 → Int32 → Hp → Option Hp) : Nat → Option Nat → Int32 → Int32 → Int32 → Int32 → Int32 → Hp → Option Hp
  | 0, _, _, _, _, _, _, _ => none
  | k + 1, v0, v2, v3, v4, v5, v6, fa => m_X12_layWays_b53 F rc44 (m_X12_layWays_L53 F rc44 k) v0 v2 v3 v4 v5 v6 fa
def m_X12_layWays_b44 (F : Nat) (rc44 : (Option Nat) → Int32 → Int32 → Int32 → Int32 → Hp → Option Hp) (v0 : Option Nat) (v2 : Int32) (v3 : Int32) (v4 : Int32) (v5 : Int32) (fa : Hp) : Option Hp :=
if v2 ≤ v5 then
(some fa)
else
(m_X12_layWays_L53 F rc44 F v0 v2 v3 v4 v5 (0 : Int32) fa)
def m_X12_layWays_L44 (F : Nat) : Nat → Option Nat → Int32 → Int32 → Int32 → Int32 → Hp → Option Hp
  | 0, _, _, _, _, _, _ => none
  | k + 1, v0, v2, v3, v4, v5, fa => m_X12_layWays_b44 F (m_X12_layWays_L44 F k) v0 v2 v3 v4 v5 fa
def m_X12_layWays_b13 (F : Nat) (rc13 : (Option Nat) → Int32 → Int32 → Int32 → Int32 → Int32 → Hp → Option Hp) (v0 : Option Nat) (v1 : Int32) (v2 : Int32) (v3 : Int32) (v4 : Int32) (v5 : Int32) (fa : Hp) : Option Hp :=
if v4 ≤ v5 then
((gR fa v0 10 35).bind fun x2 =>
(stJ fa x2 v1 (1 : Int64)).bind fun f3 =>
m_X12_layWays_L44 F F v0 v2 v3 v4 (0 : Int32) f3)
else
((gR fa v0 10 35).bind fun x4 =>
(stJ fa x4 v5 (0 : Int64)).bind fun f5 =>
nmd (v5 + (1 : Int32)) fun y6 =>
rc13 v0 v1 v2 v3 v4 y6 f5)
def m_X12_layWays_L13 (F : Nat) : Nat → Option Nat → Int32 → Int32 → Int32 → Int32 → Int32 → Hp → Option Hp
  | 0, _, _, _, _, _, _, _ => none
  | k + 1, v0, v1, v2, v3, v4, v5, fa => m_X12_layWays_b13 F (m_X12_layWays_L13 F k) v0 v1 v2 v3 v4 v5 fa
def m_X12_layWays (F : Nat) (u0 : Option Nat) (u1 : Int32) (u2 : Int32) (u3 : Int32) (f : Hp) : Option Hp :=
chk (isO f u0 10) <|
(m_X12_layNeighbours F u0 f).bind fun f42 =>
chk (isO f42 u0 10) <|
(m_X12_orders F u0 f42).bind fun x44 =>
m_X12_layWays_L13 F F u0 u1 u2 u3 x44 (0 : Int32) f42
/-! CopyOrdersModel.again(I)I -/
def m_X12_again (F : Nat) (u0 : Option Nat) (u1 : Int32) (f : Hp) : Option ((Int32) × Hp) :=
(pV f u0 10 0 (.int (0 : Int32))).bind fun f1 =>
chk (isO f1 u0 10) <|
(m_X12_lay F u0 f1).bind fun f3 =>
(m_X12_isIn F u1 (0 : Int32) (10 : Int32) f3).bind fun x4 =>
if x4 = 0 then
(some ((-1 : Int32), f3))
else
(chk (isO f3 u0 10) <|
(m_X12_layWays F u0 (0 : Int32) u1 (1 : Int32) f3).bind fun f7 =>
(gR f7 u0 10 35).bind fun x8 =>
(ldJ f7 x8 (0 : Int32)).bind fun x9 =>
some ((Int64.toInt32 x9), f7))
/-! CopyOrdersModel.allLikely()I -/
def m_X12_allLikely_b4 (F : Nat) (rc4 : (Option Nat) → Int32 → Int32 → Hp → Option Int32) (v0 : Option Nat) (v1 : Int32) (v2 : Int32) (f : Hp) : Option Int32 :=
chk (isO f v0 10) <|
(m_X12_lines F v0 f).bind fun x2 =>
if (x2 - (1 : Int32)) ≤ v2 then
(some v1)
else
((gR f v0 10 14).bind fun x4 =>
(ldI f 1 x4 ((102 : Int32) + v2)).bind fun x5 =>
nmd ((v1 + x5)) fun y6 =>
nmd (v2 + (1 : Int32)) fun y7 =>
rc4 v0 y6 y7 f)
def m_X12_allLikely_L4 (F : Nat) : Nat → Option Nat → Int32 → Int32 → Hp → Option Int32
  | 0, _, _, _, _ => none
  | k + 1, v0, v1, v2, f => m_X12_allLikely_b4 F (m_X12_allLikely_L4 F k) v0 v1 v2 f
def m_X12_allLikely (F : Nat) (u0 : Option Nat) (f : Hp) : Option Int32 :=
m_X12_allLikely_L4 F F u0 (0 : Int32) (0 : Int32) f
/-! CopyOrdersModel.isOrder(I)Z -/
def m_X12_isOrder (F : Nat) (u0 : Option Nat) (u1 : Int32) (f : Hp) : Option Int32 :=
if u1 < 0 then
(chk (okZ (0 : Int32)) <|
some (0 : Int32))
else
(chk (isO f u0 10) <|
(m_X12_orders F u0 f).bind fun x4 =>
if x4 ≤ u1 then
(chk (okZ (0 : Int32)) <|
some (0 : Int32))
else
(chk (okZ (1 : Int32)) <|
some (1 : Int32)))
/-! CopyOrdersModel.layOrder(I[I)V -/
def m_X12_layOrder_b7 (F : Nat) (rc7 : (Option Nat) → (Option Nat) → Int32 → Hp → Option Hp) (v0 : Option Nat) (v2 : Option Nat) (v3 : Int32) (fa : Hp) : Option Hp :=
if (7 : Int32) ≤ v3 then
(some fa)
else
(chk (isO fa v0 10) <|
(m_X12_lines F v0 fa).bind fun x3 =>
if x3 ≤ v3 then
((stI fa 1 v2 v3 (-1 : Int32)).bind fun f5 =>
nmd (v3 + (1 : Int32)) fun y6 =>
rc7 v0 v2 y6 f5)
else
((gR fa v0 10 25).bind fun x7 =>
(ldI fa 1 x7 v3).bind fun x8 =>
(stI fa 1 v2 v3 x8).bind fun f9 =>
nmd (v3 + (1 : Int32)) fun y10 =>
rc7 v0 v2 y10 f9))
def m_X12_layOrder_L7 (F : Nat) : Nat → Option Nat → Option Nat → Int32 → Hp → Option Hp
  | 0, _, _, _, _ => none
  | k + 1, v0, v2, v3, fa => m_X12_layOrder_b7 F (m_X12_layOrder_L7 F k) v0 v2 v3 fa
def m_X12_layOrder (F : Nat) (u0 : Option Nat) (u1 : Int32) (u2 : Option Nat) (f : Hp) : Option Hp :=
chk (isO f u0 10) <|
(m_X12_lay_ F u0 u1 f).bind fun f12 =>
m_X12_layOrder_L7 F F u0 u2 (0 : Int32) f12
/-! CopyOrdersModel.steps()I -/
def m_X12_steps_B102 (F : Nat) (rc4 : (Option Nat) → Int32 → Int32 → Hp → Option Int32) (rc37 : (Option Nat) → Int32 → Int32 → Int32 → Hp → Option Int32) (v0 : Option Nat) (v1 : Int32) (v2 : Int32) (v3 : Int32) (s0 : Int32) (s1 : Int32) (f : Hp) : Option Int32 :=
if s0 = s1 then
(nmd (v3 + (1 : Int32)) fun y33 =>
rc37 v0 v1 v2 y33 f)
else
(nmd (v1 + (1 : Int32)) fun y34 =>
nmd (v3 + (1 : Int32)) fun y35 =>
rc37 v0 y34 v2 y35 f)
def m_X12_steps_B82 (F : Nat) (rc4 : (Option Nat) → Int32 → Int32 → Hp → Option Int32) (rc37 : (Option Nat) → Int32 → Int32 → Int32 → Hp → Option Int32) (v0 : Option Nat) (v1 : Int32) (v2 : Int32) (v3 : Int32) (s0 : Int32) (f : Hp) : Option Int32 :=
(gR f v0 10 27).bind fun x27 =>
(ldI f 1 x27 v2).bind fun x28 =>
(gR f v0 10 27).bind fun x29 =>
(ldI f 1 x29 v3).bind fun x30 =>
if x30 ≤ x28 then
(m_X12_steps_B102 F rc4 rc37 v0 v1 v2 v3 s0 (0 : Int32) f)
else
(m_X12_steps_B102 F rc4 rc37 v0 v1 v2 v3 s0 (1 : Int32) f)
def m_X12_steps_b37 (F : Nat) (rc4 : (Option Nat) → Int32 → Int32 → Hp → Option Int32) (rc37 : (Option Nat) → Int32 → Int32 → Int32 → Hp → Option Int32) (v0 : Option Nat) (v1 : Int32) (v2 : Int32) (v3 : Int32) (f : Hp) : Option Int32 :=
if v2 ≤ v3 then
(nmd (v2 + (1 : Int32)) fun y13 =>
rc4 v0 v1 y13 f)
else
((gR f v0 10 26).bind fun x14 =>
(ldI f 1 x14 v3).bind fun x15 =>
if x15 = (-1 : Int32) then
(nmd (v3 + (1 : Int32)) fun y17 =>
rc37 v0 v1 v2 y17 f)
else
((gR f v0 10 27).bind fun x18 =>
(ldI f 1 x18 v3).bind fun x19 =>
if x19 = (-1 : Int32) then
(nmd (v3 + (1 : Int32)) fun y21 =>
rc37 v0 v1 v2 y21 f)
else
((gR f v0 10 26).bind fun x22 =>
(ldI f 1 x22 v2).bind fun x23 =>
(gR f v0 10 26).bind fun x24 =>
(ldI f 1 x24 v3).bind fun x25 =>
if x25 ≤ x23 then
(m_X12_steps_B82 F rc4 rc37 v0 v1 v2 v3 (0 : Int32) f)
else
(m_X12_steps_B82 F rc4 rc37 v0 v1 v2 v3 (1 : Int32) f))))
def m_X12_steps_L37 (F : Nat) (rc4 : (Option Nat) → Int32 → Int32 → Hp → Option Int32) : Nat → Option Nat → Int32 → Int32 → Int32 → Hp → Option Int32
  | 0, _, _, _, _, _ => none
  | k + 1, v0, v1, v2, v3, f => m_X12_steps_b37 F rc4 (m_X12_steps_L37 F rc4 k) v0 v1 v2 v3 f
def m_X12_steps_b4 (F : Nat) (rc4 : (Option Nat) → Int32 → Int32 → Hp → Option Int32) (v0 : Option Nat) (v1 : Int32) (v2 : Int32) (f : Hp) : Option Int32 :=
chk (isO f v0 10) <|
(m_X12_lines F v0 f).bind fun x2 =>
if x2 ≤ v2 then
(some v1)
else
((gR f v0 10 26).bind fun x4 =>
(ldI f 1 x4 v2).bind fun x5 =>
if x5 = (-1 : Int32) then
(nmd (v2 + (1 : Int32)) fun y7 =>
rc4 v0 v1 y7 f)
else
((gR f v0 10 27).bind fun x8 =>
(ldI f 1 x8 v2).bind fun x9 =>
if x9 = (-1 : Int32) then
(nmd (v2 + (1 : Int32)) fun y11 =>
rc4 v0 v1 y11 f)
else
(m_X12_steps_L37 F rc4 F v0 v1 v2 (0 : Int32) f)))
def m_X12_steps_L4 (F : Nat) : Nat → Option Nat → Int32 → Int32 → Hp → Option Int32
  | 0, _, _, _, _ => none
  | k + 1, v0, v1, v2, f => m_X12_steps_b4 F (m_X12_steps_L4 F k) v0 v1 v2 f
def m_X12_steps (F : Nat) (u0 : Option Nat) (f : Hp) : Option Int32 :=
m_X12_steps_L4 F F u0 (0 : Int32) (0 : Int32) f
/-! CopyOrdersModel.along(III)J -/
def m_X12_along_B185 (F : Nat) (v3 : Int32) (v4 : Int64) (v6 : Int64) (v8 : Int64) (fa : Hp) : Option ((Int64) × Hp) :=
if v3 = 0 then
(chk (decide (¬ v8 = 0)) <|
some ((v4 / v8), fa))
else
(chk (decide (¬ v8 = 0)) <|
some ((v6 / v8), fa))
def m_X12_along_b160 (F : Nat) (rc160 : Int32 → Int64 → Int64 → Int64 → Int64 → Hp → Option ((Int64) × Hp)) (v3 : Int32) (v4 : Int64) (v6 : Int64) (v8 : Int64) (v10 : Int64) (fa : Hp) : Option ((Int64) × Hp) :=
if (lg_cmp v10 (0 : Int64)) ≤ 0 then
(m_X12_along_B185 F v3 v4 v6 v8 fa)
else
(chk (decide (¬ v10 = 0)) <|
nmd ((lrm v8 v10)) fun y25 =>
rc160 v3 v4 v6 v10 y25 fa)
def m_X12_along_L160 (F : Nat) : Nat → Int32 → Int64 → Int64 → Int64 → Int64 → Hp → Option ((Int64) × Hp)
  | 0, _, _, _, _, _, _ => none
  | k + 1, v3, v4, v6, v8, v10, fa => m_X12_along_b160 F (m_X12_along_L160 F k) v3 v4 v6 v8 v10 fa
def m_X12_along_B133 (F : Nat) (v0 : Option Nat) (v3 : Int32) (v4 : Int64) (v6 : Int64) (fa : Hp) : Option ((Int64) × Hp) :=
if (lg_cmp v6 (0 : Int64)) = 0 then
((pV fa v0 10 0 (.int (1 : Int32))).bind fun f22 =>
some ((0 : Int64), f22))
else
((pV fa v0 10 0 (.int (0 : Int32))).bind fun f21 =>
m_X12_along_L160 F F v3 v4 v6 v6 v4 f21)
def m_X12_along_b63 (F : Nat) (rc63 : (Option Nat) → Int32 → Int64 → Int64 → Int32 → Hp → Option ((Int64) × Hp)) (v0 : Option Nat) (v3 : Int32) (v4 : Int64) (v6 : Int64) (v8 : Int32) (fa : Hp) : Option ((Int64) × Hp) :=
chk (isO fa v0 10) <|
(m_X12_orders F v0 fa).bind fun x2 =>
if x2 ≤ v8 then
(m_X12_along_B133 F v0 v3 v4 v6 fa)
else
((gR fa v0 10 35).bind fun x4 =>
(ldJ fa x4 v8).bind fun x5 =>
if (lg_cmp x5 (0 : Int64)) = 0 then
(nmd (v8 + (1 : Int32)) fun y19 =>
rc63 v0 v3 v4 v6 y19 fa)
else
((gR fa v0 10 27).bind fun x7 =>
chk (isO fa v0 10) <|
(m_X12_layOrder F v0 v8 x7 fa).bind fun f9 =>
(gR f9 v0 10 35).bind fun x10 =>
(ldJ f9 x10 v8).bind fun x11 =>
chk (isO f9 v0 10) <|
(m_X12_steps F v0 f9).bind fun x13 =>
nmd ((v4 + (x11 * (Int32.toInt64 x13)))) fun y14 =>
(gR f9 v0 10 35).bind fun x15 =>
(ldJ f9 x15 v8).bind fun x16 =>
nmd ((v6 + x16)) fun y17 =>
nmd (v8 + (1 : Int32)) fun y18 =>
rc63 v0 v3 y14 y17 y18 f9))
def m_X12_along_L63 (F : Nat) : Nat → Option Nat → Int32 → Int64 → Int64 → Int32 → Hp → Option ((Int64) × Hp)
  | 0, _, _, _, _, _, _ => none
  | k + 1, v0, v3, v4, v6, v8, fa => m_X12_along_b63 F (m_X12_along_L63 F k) v0 v3 v4 v6 v8 fa
def m_X12_along (F : Nat) (u0 : Option Nat) (u1 : Int32) (u2 : Int32) (u3 : Int32) (f : Hp) : Option ((Int64) × Hp) :=
chk (isO f u0 10) <|
(m_X12_lay F u0 f).bind fun f30 =>
chk (isO f30 u0 10) <|
(m_X12_isOrder F u0 u1 f30).bind fun x32 =>
if x32 = 0 then
((pV f30 u0 10 0 (.int (1 : Int32))).bind fun f34 =>
some ((0 : Int64), f34))
else
((m_X12_isIn F u2 (0 : Int32) (10 : Int32) f30).bind fun x35 =>
if x35 = 0 then
((pV f30 u0 10 0 (.int (1 : Int32))).bind fun f37 =>
some ((0 : Int64), f37))
else
((m_X12_isIn F u3 (0 : Int32) (1 : Int32) f30).bind fun x38 =>
if x38 = 0 then
((pV f30 u0 10 0 (.int (1 : Int32))).bind fun f45 =>
some ((0 : Int64), f45))
else
(chk (isO f30 u0 10) <|
(m_X12_layWays F u0 u1 u2 (0 : Int32) f30).bind fun f41 =>
(gR f41 u0 10 26).bind fun x42 =>
chk (isO f41 u0 10) <|
(m_X12_layOrder F u0 u1 x42 f41).bind fun f44 =>
m_X12_along_L63 F F u0 u3 (0 : Int64) (0 : Int64) (0 : Int32) f44)))
/-! CopyOrdersModel.isCopy(I)Z -/
def m_X12_isCopy (F : Nat) (u0 : Option Nat) (u1 : Int32) (f : Hp) : Option Int32 :=
if u1 < 0 then
(chk (okZ (0 : Int32)) <|
some (0 : Int32))
else
(chk (isO f u0 10) <|
(m_X12_copies F u0 f).bind fun x4 =>
if x4 ≤ u1 then
(chk (okZ (0 : Int32)) <|
some (0 : Int32))
else
(chk (okZ (1 : Int32)) <|
some (1 : Int32)))
/-! CopyOrdersModel.sizeOf(I)I -/
def m_X12_sizeOf (F : Nat) (u0 : Option Nat) (u1 : Int32) (f : Hp) : Option Int32 :=
(gR f u0 10 14).bind fun x1 =>
(ldI f 1 x1 ((10 : Int32) + ((8 : Int32) * u1))).bind fun x2 =>
some x2
/-! CopyOrdersModel.isWhole(I)Z -/
def m_X12_isWhole (F : Nat) (u0 : Option Nat) (u1 : Int32) (f : Hp) : Option Int32 :=
chk (isO f u0 10) <|
(m_X12_sizeOf F u0 u1 f).bind fun x2 =>
chk (isO f u0 10) <|
(m_X12_lines F u0 f).bind fun x4 =>
if x2 = x4 then
(chk (okZ (1 : Int32)) <|
some (1 : Int32))
else
(chk (okZ (0 : Int32)) <|
some (0 : Int32))
/-! CopyOrdersModel.areWhole(II)Z -/
def m_X12_areWhole (F : Nat) (u0 : Option Nat) (u1 : Int32) (u2 : Int32) (f : Hp) : Option Int32 :=
chk (isO f u0 10) <|
(m_X12_isCopy F u0 u1 f).bind fun x2 =>
if x2 = 0 then
(chk (okZ (0 : Int32)) <|
some (0 : Int32))
else
(chk (isO f u0 10) <|
(m_X12_isCopy F u0 u2 f).bind fun x6 =>
if x6 = 0 then
(chk (okZ (0 : Int32)) <|
some (0 : Int32))
else
(chk (isO f u0 10) <|
(m_X12_isWhole F u0 u1 f).bind fun x10 =>
if x10 = 0 then
(chk (okZ (0 : Int32)) <|
some (0 : Int32))
else
(chk (isO f u0 10) <|
(m_X12_isWhole F u0 u2 f).bind fun x14 =>
if x14 = 0 then
(chk (okZ (0 : Int32)) <|
some (0 : Int32))
else
(chk (okZ (1 : Int32)) <|
some (1 : Int32)))))
/-! CopyOrdersModel.bad(I)Z -/
def m_X12_bad (F : Nat) (u0 : Option Nat) (u1 : Int32) (f : Hp) : Option ((Int32) × Hp) :=
(gI f u0 10 7).bind fun x1 =>
if x1 = (1 : Int32) then
((pV f u0 10 10 (.int (1 : Int32))).bind fun f7 =>
(gI f7 u0 10 6).bind fun x8 =>
(pV f7 u0 10 11 (.int x8)).bind fun f9 =>
chk (okZ (0 : Int32)) <|
some ((0 : Int32), f9))
else
((pV f u0 10 10 (.int u1)).bind fun f3 =>
(gI f3 u0 10 6).bind fun x4 =>
(pV f3 u0 10 11 (.int x4)).bind fun f5 =>
chk (okZ (0 : Int32)) <|
some ((0 : Int32), f5))
/-! CopyOrdersModel.isLetter(I)Z -/
def m_X12_isLetter (F : Nat) (u0 : Int32) (f : Hp) : Option Int32 :=
if u0 < (97 : Int32) then
(chk (okZ (0 : Int32)) <|
some (0 : Int32))
else
(if (122 : Int32) < u0 then
(chk (okZ (0 : Int32)) <|
some (0 : Int32))
else
(chk (okZ (1 : Int32)) <|
some (1 : Int32)))
/-! CopyOrdersModel.isDigit(I)Z -/
def m_X12_isDigit (F : Nat) (u0 : Int32) (f : Hp) : Option Int32 :=
if u0 < (48 : Int32) then
(chk (okZ (0 : Int32)) <|
some (0 : Int32))
else
(if (57 : Int32) < u0 then
(chk (okZ (0 : Int32)) <|
some (0 : Int32))
else
(chk (okZ (1 : Int32)) <|
some (1 : Int32)))
/-! CopyOrdersModel.byteAt(I)I -/
def m_X12_byteAt (F : Nat) (u0 : Option Nat) (u1 : Int32) (f : Hp) : Option Int32 :=
(gI f u0 10 3).bind fun x1 =>
if x1 ≤ u1 then
(some (0 : Int32))
else
((gR f u0 10 1).bind fun x3 =>
(ldI f 1 x3 u1).bind fun x4 =>
some x4)
/-! CopyOrdersModel.go()V -/
def m_X12_go_B179 (F : Nat) (v0 : Option Nat) (v1 : Int32) (s0 : Option Nat) (s1 : Int32) (fa : Hp) : Option Hp :=
(pV fa s0 10 7 (.int s1)).bind fun f44 =>
(pV f44 v0 10 9 (.int v1)).bind fun f45 =>
(gI f45 v0 10 5).bind fun x46 =>
(pV f45 v0 10 5 (.int (x46 + (1 : Int32)))).bind fun f47 =>
some f47
def m_X12_go_B174 (F : Nat) (v0 : Option Nat) (v1 : Int32) (s0 : Option Nat) (fa : Hp) : Option Hp :=
m_X12_go_B179 F v0 v1 s0 (4 : Int32) fa
def m_X12_go_B307 (F : Nat) (rc215 : (Option Nat) → Int32 → Int32 → Hp → Option Hp) (v0 : Option Nat) (v2 : Int32) (v3 : Int32) (v4 : Int32) (fa : Hp) : Option Hp :=
(gI fa v0 10 5).bind fun x72 =>
(gI fa v0 10 6).bind fun x73 =>
if (2 : Int32) ≤ (x72 - x73) then
((gI fa v0 10 5).bind fun x75 =>
(pV fa v0 10 5 (.int (x75 + (1 : Int32)))).bind fun f76 =>
rc215 v0 v2 v3 f76)
else
((gI fa v0 10 8).bind fun x77 =>
(pV fa v0 10 8 (.int ((((10 : Int32) * x77) + v4) - (48 : Int32)))).bind fun f78 =>
(gI f78 v0 10 5).bind fun x79 =>
(pV f78 v0 10 5 (.int (x79 + (1 : Int32)))).bind fun f80 =>
rc215 v0 v2 v3 f80)
def m_X12_go_B272 (F : Nat) (rc215 : (Option Nat) → Int32 → Int32 → Hp → Option Hp) (v0 : Option Nat) (v2 : Int32) (v4 : Int32) (s0 : Int32) (fa : Hp) : Option Hp :=
(gI fa v0 10 5).bind fun x67 =>
(gI fa v0 10 6).bind fun x68 =>
if (7 : Int32) ≤ (x67 - x68) then
(m_X12_go_B307 F rc215 v0 v2 s0 v4 fa)
else
((gJ fa v0 10 12).bind fun x70 =>
(pV fa v0 10 12 (.long ((((27 : Int64) * x70) + (Int32.toInt64 v4)) - (96 : Int64)))).bind fun f71 =>
m_X12_go_B307 F rc215 v0 v2 s0 v4 f71)
def m_X12_go_B271 (F : Nat) (rc215 : (Option Nat) → Int32 → Int32 → Hp → Option Hp) (v0 : Option Nat) (v2 : Int32) (v4 : Int32) (fa : Hp) : Option Hp :=
m_X12_go_B272 F rc215 v0 v2 v4 (0 : Int32) fa
def m_X12_go_B243 (F : Nat) (rc215 : (Option Nat) → Int32 → Int32 → Hp → Option Hp) (v0 : Option Nat) (v2 : Int32) (v3 : Int32) (fa : Hp) : Option Hp :=
(gR fa v0 10 1).bind fun x61 =>
(gI fa v0 10 5).bind fun x62 =>
(ldI fa 1 x61 x62).bind fun x63 =>
if v3 = 0 then
(m_X12_go_B271 F rc215 v0 v2 x63 fa)
else
((m_X12_isLetter F x63 fa).bind fun x65 =>
if x65 = v2 then
(m_X12_go_B272 F rc215 v0 v2 x63 (1 : Int32) fa)
else
(m_X12_go_B271 F rc215 v0 v2 x63 fa))
def m_X12_go_B374 (F : Nat) (v2 : Int32) (s0 : Option Nat) (s1 : Int32) (s2 : Int32) (fa : Hp) : Option Hp :=
if s1 ≤ s2 then
(if v2 = 0 then
((pV fa s0 10 7 (.int (3 : Int32))).bind fun f88 =>
some f88)
else
((pV fa s0 10 7 (.int (2 : Int32))).bind fun f89 =>
some f89))
else
((pV fa s0 10 7 (.int (1 : Int32))).bind fun f90 =>
some f90)
def m_X12_go_B350 (F : Nat) (v0 : Option Nat) (v2 : Int32) (v3 : Int32) (fa : Hp) : Option Hp :=
if v3 = 0 then
((pV fa v0 10 7 (.int (1 : Int32))).bind fun f82 =>
some f82)
else
((gI fa v0 10 5).bind fun x83 =>
(gI fa v0 10 6).bind fun x84 =>
if v2 = 0 then
(m_X12_go_B374 F v2 v0 ((x83 - x84)) (2 : Int32) fa)
else
(m_X12_go_B374 F v2 v0 ((x83 - x84)) (7 : Int32) fa))
def m_X12_go_b215 (F : Nat) (rc215 : (Option Nat) → Int32 → Int32 → Hp → Option Hp) (v0 : Option Nat) (v2 : Int32) (v3 : Int32) (fa : Hp) : Option Hp :=
(gI fa v0 10 5).bind fun x51 =>
chk (isO fa v0 10) <|
(m_X12_byteAt F v0 x51 fa).bind fun x53 =>
(m_X12_isLetter F x53 fa).bind fun x54 =>
if x54 = 0 then
((gI fa v0 10 5).bind fun x56 =>
chk (isO fa v0 10) <|
(m_X12_byteAt F v0 x56 fa).bind fun x58 =>
(m_X12_isDigit F x58 fa).bind fun x59 =>
if x59 = 0 then
(m_X12_go_B350 F v0 v2 v3 fa)
else
(m_X12_go_B243 F rc215 v0 v2 v3 fa))
else
(m_X12_go_B243 F rc215 v0 v2 v3 fa)
def m_X12_go_L215 (F : Nat) : Nat → Option Nat → Int32 → Int32 → Hp → Option Hp
  | 0, _, _, _, _ => none
  | k + 1, v0, v2, v3, fa => m_X12_go_b215 F (m_X12_go_L215 F k) v0 v2 v3 fa
def m_X12_go_B198 (F : Nat) (v0 : Option Nat) (v1 : Int32) (fa : Hp) : Option Hp :=
(m_X12_isLetter F v1 fa).bind fun x48 =>
(pV fa v0 10 12 (.long (0 : Int64))).bind fun f49 =>
(pV f49 v0 10 8 (.int (0 : Int32))).bind fun f50 =>
m_X12_go_L215 F F v0 x48 (1 : Int32) f50
def m_X12_go_B96 (F : Nat) (v0 : Option Nat) (fa : Hp) : Option Hp :=
(gI fa v0 10 5).bind fun x27 =>
(gI fa v0 10 3).bind fun x28 =>
if x27 < x28 then
((gR fa v0 10 1).bind fun x30 =>
(gI fa v0 10 5).bind fun x31 =>
(ldI fa 1 x30 x31).bind fun x32 =>
(m_X12_isLetter F x32 fa).bind fun x33 =>
if x33 = 0 then
((m_X12_isDigit F x32 fa).bind fun x35 =>
if x35 = 0 then
(if x32 = (59 : Int32) then
(m_X12_go_B174 F v0 x32 v0 fa)
else
(if x32 = (60 : Int32) then
(m_X12_go_B174 F v0 x32 v0 fa)
else
(if x32 = (61 : Int32) then
(m_X12_go_B174 F v0 x32 v0 fa)
else
(if x32 = (62 : Int32) then
(m_X12_go_B174 F v0 x32 v0 fa)
else
(if x32 = (40 : Int32) then
(m_X12_go_B174 F v0 x32 v0 fa)
else
(if x32 = (41 : Int32) then
(m_X12_go_B174 F v0 x32 v0 fa)
else
(m_X12_go_B179 F v0 x32 v0 (1 : Int32) fa)))))))
else
(m_X12_go_B198 F v0 x32 fa))
else
(m_X12_go_B198 F v0 x32 fa))
else
((pV fa v0 10 7 (.int (0 : Int32))).bind fun f43 =>
some f43)
def m_X12_go_B52 (F : Nat) (v0 : Option Nat) (fa : Hp) : Option Hp :=
(gI fa v0 10 5).bind fun x16 =>
(pV fa v0 10 6 (.int x16)).bind fun f17 =>
(gI f17 v0 10 3).bind fun x18 =>
(gI f17 v0 10 4).bind fun x19 =>
if x18 ≤ x19 then
(m_X12_go_B96 F v0 f17)
else
((gI f17 v0 10 6).bind fun x21 =>
(gI f17 v0 10 4).bind fun x22 =>
if x21 < x22 then
(m_X12_go_B96 F v0 f17)
else
((gI f17 v0 10 4).bind fun x24 =>
(pV f17 v0 10 6 (.int x24)).bind fun f25 =>
(pV f25 v0 10 7 (.int (1 : Int32))).bind fun f26 =>
some f26))
def m_X12_go_b0 (F : Nat) (rc0 : (Option Nat) → Hp → Option Hp) (v0 : Option Nat) (fa : Hp) : Option Hp :=
(gI fa v0 10 5).bind fun x1 =>
(gI fa v0 10 3).bind fun x2 =>
if x2 ≤ x1 then
(m_X12_go_B52 F v0 fa)
else
((gR fa v0 10 1).bind fun x4 =>
(gI fa v0 10 5).bind fun x5 =>
(ldI fa 1 x4 x5).bind fun x6 =>
if x6 = (32 : Int32) then
((gI fa v0 10 5).bind fun x8 =>
(pV fa v0 10 5 (.int (x8 + (1 : Int32)))).bind fun f9 =>
rc0 v0 f9)
else
((gR fa v0 10 1).bind fun x10 =>
(gI fa v0 10 5).bind fun x11 =>
(ldI fa 1 x10 x11).bind fun x12 =>
if x12 = (10 : Int32) then
((gI fa v0 10 5).bind fun x14 =>
(pV fa v0 10 5 (.int (x14 + (1 : Int32)))).bind fun f15 =>
rc0 v0 f15)
else
(m_X12_go_B52 F v0 fa)))
def m_X12_go_L0 (F : Nat) : Nat → Option Nat → Hp → Option Hp
  | 0, _, _ => none
  | k + 1, v0, fa => m_X12_go_b0 F (m_X12_go_L0 F k) v0 fa
def m_X12_go (F : Nat) (u0 : Option Nat) (f : Hp) : Option Hp :=
m_X12_go_L0 F F u0 f
/-! CopyOrdersModel.begin(I)V -/
def m_X12_begin (F : Nat) (u0 : Option Nat) (u1 : Int32) (f : Hp) : Option Hp :=
(pV f u0 10 0 (.int (0 : Int32))).bind fun f1 =>
chk (isO f1 u0 10) <|
(m_X12_lay F u0 f1).bind fun f3 =>
chk (isO f3 u0 10) <|
bd2 (m_X12_take F u0 f3) fun x5 f6 =>
(pV f6 u0 10 3 (.int x5)).bind fun f7 =>
(pV f7 u0 10 4 (.int u1)).bind fun f8 =>
(pV f8 u0 10 10 (.int (0 : Int32))).bind fun f9 =>
(pV f9 u0 10 5 (.int (0 : Int32))).bind fun f10 =>
chk (isO f10 u0 10) <|
(m_X12_go F u0 f10).bind fun f12 =>
some f12
/-! CopyOrdersModel.lineOf(II)I -/
def m_X12_lineOf (F : Nat) (u0 : Option Nat) (u1 : Int32) (u2 : Int32) (f : Hp) : Option Int32 :=
(gR f u0 10 14).bind fun x1 =>
(ldI f 1 x1 ((((10 : Int32) + ((8 : Int32) * u1)) + (1 : Int32)) + u2)).bind fun x2 =>
some x2
/-! CopyOrdersModel.layCopy(I[I)V -/
def m_X12_layCopy_b20 (F : Nat) (rc20 : (Option Nat) → Int32 → (Option Nat) → Int32 → Hp → Option Hp) (v0 : Option Nat) (v1 : Int32) (v2 : Option Nat) (v3 : Int32) (fa : Hp) : Option Hp :=
chk (isO fa v0 10) <|
(m_X12_sizeOf F v0 v1 fa).bind fun x5 =>
if x5 ≤ v3 then
(some fa)
else
(chk (isO fa v0 10) <|
(m_X12_lineOf F v0 v1 v3 fa).bind fun x8 =>
(stI fa 1 v2 x8 v3).bind fun f9 =>
nmd (v3 + (1 : Int32)) fun y10 =>
rc20 v0 v1 v2 y10 f9)
def m_X12_layCopy_L20 (F : Nat) : Nat → Option Nat → Int32 → Option Nat → Int32 → Hp → Option Hp
  | 0, _, _, _, _, _ => none
  | k + 1, v0, v1, v2, v3, fa => m_X12_layCopy_b20 F (m_X12_layCopy_L20 F k) v0 v1 v2 v3 fa
def m_X12_layCopy_b2 (F : Nat) (rc2 : (Option Nat) → Int32 → (Option Nat) → Int32 → Hp → Option Hp) (v0 : Option Nat) (v1 : Int32) (v2 : Option Nat) (v3 : Int32) (fa : Hp) : Option Hp :=
if (7 : Int32) ≤ v3 then
(m_X12_layCopy_L20 F F v0 v1 v2 (0 : Int32) fa)
else
((stI fa 1 v2 v3 (-1 : Int32)).bind fun f2 =>
nmd (v3 + (1 : Int32)) fun y3 =>
rc2 v0 v1 v2 y3 f2)
def m_X12_layCopy_L2 (F : Nat) : Nat → Option Nat → Int32 → Option Nat → Int32 → Hp → Option Hp
  | 0, _, _, _, _, _ => none
  | k + 1, v0, v1, v2, v3, fa => m_X12_layCopy_b2 F (m_X12_layCopy_L2 F k) v0 v1 v2 v3 fa
def m_X12_layCopy (F : Nat) (u0 : Option Nat) (u1 : Int32) (u2 : Option Nat) (f : Hp) : Option Hp :=
m_X12_layCopy_L2 F F u0 u1 u2 (0 : Int32) f
/-! CopyOrdersModel.songOf([I)I -/
def m_X12_songOf_b4 (F : Nat) (rc4 : (Option Nat) → (Option Nat) → Int32 → Int32 → Hp → Option Int32) (v0 : Option Nat) (v1 : Option Nat) (v2 : Int32) (v3 : Int32) (f : Hp) : Option Int32 :=
(gR f v0 10 14).bind fun x1 =>
(ldI f 1 x1 (4 : Int32)).bind fun x2 =>
if x2 ≤ v3 then
(some v2)
else
((gR f v0 10 14).bind fun x4 =>
(ldI f 1 x4 ((134 : Int32) + ((3 : Int32) * v3))).bind fun x5 =>
(ldI f 1 v1 x5).bind fun x6 =>
(gR f v0 10 14).bind fun x7 =>
(ldI f 1 x7 (((134 : Int32) + ((3 : Int32) * v3)) + (1 : Int32))).bind fun x8 =>
(ldI f 1 v1 x8).bind fun x9 =>
if x6 = (-1 : Int32) then
(nmd (v3 + (1 : Int32)) fun y11 =>
rc4 v0 v1 v2 y11 f)
else
(if x9 = (x6 + (1 : Int32)) then
((gR f v0 10 14).bind fun x14 =>
(ldI f 1 x14 (((134 : Int32) + ((3 : Int32) * v3)) + (2 : Int32))).bind fun x15 =>
nmd ((v2 + x15)) fun y16 =>
nmd (v3 + (1 : Int32)) fun y17 =>
rc4 v0 v1 y16 y17 f)
else
(nmd (v3 + (1 : Int32)) fun y13 =>
rc4 v0 v1 v2 y13 f)))
def m_X12_songOf_L4 (F : Nat) : Nat → Option Nat → Option Nat → Int32 → Int32 → Hp → Option Int32
  | 0, _, _, _, _, _ => none
  | k + 1, v0, v1, v2, v3, f => m_X12_songOf_b4 F (m_X12_songOf_L4 F k) v0 v1 v2 v3 f
def m_X12_songOf (F : Nat) (u0 : Option Nat) (u1 : Option Nat) (f : Hp) : Option Int32 :=
m_X12_songOf_L4 F F u0 u1 (0 : Int32) (0 : Int32) f
/-! CopyOrdersModel.better(II)I -/
def m_X12_better_B127 (F : Nat) (rc57 : (Option Nat) → Int32 → Int32 → Int32 → Int32 → Int32 → Hp → Option ((Int32) × Hp)) (v0 : Option Nat) (v2 : Int32) (v6 : Int32) (v7 : Int32) (v8 : Int32) (fa : Hp) : Option ((Int32) × Hp) :=
nmd (v6 + (1 : Int32)) fun y20 =>
rc57 v0 v2 v6 v8 v7 y20 fa
def m_X12_better_b57 (F : Nat) (rc57 : (Option Nat) → Int32 → Int32 → Int32 → Int32 → Int32 → Hp → Option ((Int32) × Hp)) (v0 : Option Nat) (v2 : Int32) (v3 : Int32) (v4 : Int32) (v5 : Int32) (v6 : Int32) (fa : Hp) : Option ((Int32) × Hp) :=
chk (isO fa v0 10) <|
(m_X12_orders F v0 fa).bind fun x2 =>
if x2 ≤ v6 then
(some (v3, fa))
else
((gR fa v0 10 26).bind fun x4 =>
chk (isO fa v0 10) <|
(m_X12_layOrder F v0 v6 x4 fa).bind fun f6 =>
chk (isO f6 v0 10) <|
(m_X12_steps F v0 f6).bind fun x8 =>
(gR f6 v0 10 26).bind fun x9 =>
chk (isO f6 v0 10) <|
(m_X12_songOf F v0 x9 f6).bind fun x11 =>
if v2 < x8 then
(nmd (v6 + (1 : Int32)) fun y13 =>
rc57 v0 v2 v3 v4 v5 y13 f6)
else
(if v3 = (-1 : Int32) then
(m_X12_better_B127 F rc57 v0 v2 v6 x8 x11 f6)
else
(if x11 < v4 then
(nmd (v6 + (1 : Int32)) fun y16 =>
rc57 v0 v2 v3 v4 v5 y16 f6)
else
(if x11 = v4 then
(if x8 < v5 then
(m_X12_better_B127 F rc57 v0 v2 v6 x8 x11 f6)
else
(nmd (v6 + (1 : Int32)) fun y19 =>
rc57 v0 v2 v3 v4 v5 y19 f6))
else
(m_X12_better_B127 F rc57 v0 v2 v6 x8 x11 f6)))))
def m_X12_better_L57 (F : Nat) : Nat → Option Nat → Int32 → Int32 → Int32 → Int32 → Int32 → Hp → Option ((Int32) × Hp)
  | 0, _, _, _, _, _, _, _ => none
  | k + 1, v0, v2, v3, v4, v5, v6, fa => m_X12_better_b57 F (m_X12_better_L57 F k) v0 v2 v3 v4 v5 v6 fa
def m_X12_better (F : Nat) (u0 : Option Nat) (u1 : Int32) (u2 : Int32) (f : Hp) : Option ((Int32) × Hp) :=
(pV f u0 10 0 (.int (0 : Int32))).bind fun f21 =>
chk (isO f21 u0 10) <|
(m_X12_lay F u0 f21).bind fun f23 =>
chk (isO f23 u0 10) <|
(m_X12_isCopy F u0 u1 f23).bind fun x25 =>
if x25 = 0 then
(some ((-1 : Int32), f23))
else
(chk (isO f23 u0 10) <|
(m_X12_isWhole F u0 u1 f23).bind fun x28 =>
if x28 = 0 then
(some ((-1 : Int32), f23))
else
((m_X12_isIn F u2 (0 : Int32) (21 : Int32) f23).bind fun x30 =>
if x30 = 0 then
(some ((-1 : Int32), f23))
else
((gR f23 u0 10 27).bind fun x32 =>
chk (isO f23 u0 10) <|
(m_X12_layCopy F u0 u1 x32 f23).bind fun f34 =>
m_X12_better_L57 F F u0 u2 (-1 : Int32) (0 : Int32) (0 : Int32) (0 : Int32) f34)))
/-! CopyOrdersModel.layCopies(II)V -/
def m_X12_layCopies (F : Nat) (u0 : Option Nat) (u1 : Int32) (u2 : Int32) (f : Hp) : Option Hp :=
(gR f u0 10 26).bind fun x1 =>
chk (isO f u0 10) <|
(m_X12_layCopy F u0 u1 x1 f).bind fun f3 =>
(gR f3 u0 10 27).bind fun x4 =>
chk (isO f3 u0 10) <|
(m_X12_layCopy F u0 u2 x4 f3).bind fun f6 =>
some f6
/-! CopyOrdersModel.fallen()I -/
def m_X12_fallen_B42 (F : Nat) (rc4 : (Option Nat) → Int32 → Int32 → Hp → Option Int32) (v0 : Option Nat) (v1 : Int32) (v2 : Int32) (s0 : Int32) (s1 : Int32) (f : Hp) : Option Int32 :=
if s0 = s1 then
(nmd (v2 + (1 : Int32)) fun y11 =>
rc4 v0 v1 y11 f)
else
(nmd (v1 + (1 : Int32)) fun y12 =>
nmd (v2 + (1 : Int32)) fun y13 =>
rc4 v0 y12 y13 f)
def m_X12_fallen_B27 (F : Nat) (rc4 : (Option Nat) → Int32 → Int32 → Hp → Option Int32) (v0 : Option Nat) (v1 : Int32) (v2 : Int32) (s0 : Int32) (f : Hp) : Option Int32 :=
(gR f v0 10 27).bind fun x7 =>
(ldI f 1 x7 v2).bind fun x8 =>
if x8 = (-1 : Int32) then
(m_X12_fallen_B42 F rc4 v0 v1 v2 s0 (1 : Int32) f)
else
(m_X12_fallen_B42 F rc4 v0 v1 v2 s0 (0 : Int32) f)
def m_X12_fallen_b4 (F : Nat) (rc4 : (Option Nat) → Int32 → Int32 → Hp → Option Int32) (v0 : Option Nat) (v1 : Int32) (v2 : Int32) (f : Hp) : Option Int32 :=
chk (isO f v0 10) <|
(m_X12_lines F v0 f).bind fun x2 =>
if x2 ≤ v2 then
(some v1)
else
((gR f v0 10 26).bind fun x4 =>
(ldI f 1 x4 v2).bind fun x5 =>
if x5 = (-1 : Int32) then
(m_X12_fallen_B27 F rc4 v0 v1 v2 (1 : Int32) f)
else
(m_X12_fallen_B27 F rc4 v0 v1 v2 (0 : Int32) f))
def m_X12_fallen_L4 (F : Nat) : Nat → Option Nat → Int32 → Int32 → Hp → Option Int32
  | 0, _, _, _, _ => none
  | k + 1, v0, v1, v2, f => m_X12_fallen_b4 F (m_X12_fallen_L4 F k) v0 v1 v2 f
def m_X12_fallen (F : Nat) (u0 : Option Nat) (f : Hp) : Option Int32 :=
m_X12_fallen_L4 F F u0 (0 : Int32) (0 : Int32) f
/-! CopyOrdersModel.far()I -/
def m_X12_far (F : Nat) (u0 : Option Nat) (f : Hp) : Option Int32 :=
chk (isO f u0 10) <|
(m_X12_steps F u0 f).bind fun x2 =>
chk (isO f u0 10) <|
(m_X12_fallen F u0 f).bind fun x4 =>
some (x2 + ((3 : Int32) * x4))
/-! CopyOrdersModel.between(III)I -/
def m_X12_between (F : Nat) (u0 : Option Nat) (u1 : Int32) (u2 : Int32) (u3 : Int32) (f : Hp) : Option ((Int32) × Hp) :=
(pV f u0 10 0 (.int (0 : Int32))).bind fun f1 =>
chk (isO f1 u0 10) <|
(m_X12_lay F u0 f1).bind fun f3 =>
chk (isO f3 u0 10) <|
(m_X12_isCopy F u0 u1 f3).bind fun x5 =>
if x5 = 0 then
(some ((-1 : Int32), f3))
else
(chk (isO f3 u0 10) <|
(m_X12_isCopy F u0 u2 f3).bind fun x8 =>
if x8 = 0 then
(some ((-1 : Int32), f3))
else
((m_X12_isIn F u3 (0 : Int32) (2 : Int32) f3).bind fun x10 =>
if x10 = 0 then
(some ((-1 : Int32), f3))
else
(chk (isO f3 u0 10) <|
(m_X12_layCopies F u0 u1 u2 f3).bind fun f13 =>
if u3 = 0 then
(chk (isO f13 u0 10) <|
(m_X12_steps F u0 f13).bind fun x21 =>
some (x21, f13))
else
(if u3 = (1 : Int32) then
(chk (isO f13 u0 10) <|
(m_X12_fallen F u0 f13).bind fun x19 =>
some (x19, f13))
else
(chk (isO f13 u0 10) <|
(m_X12_far F u0 f13).bind fun x17 =>
some (x17, f13))))))
/-! CopyOrdersModel.come(I)V -/
def m_X12_come_b3 (F : Nat) (rc3 : (Option Nat) → Int32 → Int32 → Hp → Option Hp) (v0 : Option Nat) (v1 : Int32) (v2 : Int32) (fa : Hp) : Option Hp :=
if v2 < 0 then
(some fa)
else
((gR fa v0 10 1).bind fun x2 =>
(gI fa v0 10 2).bind fun x3 =>
(stI fa 1 x2 x3 ((ius v1 v2) &&& (255 : Int32))).bind fun f4 =>
(gI f4 v0 10 2).bind fun x5 =>
(pV f4 v0 10 2 (.int (x5 + (1 : Int32)))).bind fun f6 =>
nmd (v2 + (-8 : Int32)) fun y7 =>
rc3 v0 v1 y7 f6)
def m_X12_come_L3 (F : Nat) : Nat → Option Nat → Int32 → Int32 → Hp → Option Hp
  | 0, _, _, _, _ => none
  | k + 1, v0, v1, v2, fa => m_X12_come_b3 F (m_X12_come_L3 F k) v0 v1 v2 fa
def m_X12_come (F : Nat) (u0 : Option Nat) (u1 : Int32) (f : Hp) : Option Hp :=
m_X12_come_L3 F F u0 u1 (24 : Int32) f
/-! CopyOrdersModel.count(I)I -/
def m_X12_count (F : Nat) (u0 : Option Nat) (u1 : Int32) (f : Hp) : Option ((Int32) × Hp) :=
(pV f u0 10 0 (.int (0 : Int32))).bind fun f1 =>
chk (isO f1 u0 10) <|
(m_X12_lay F u0 f1).bind fun f3 =>
if u1 = (0 : Int32) then
(chk (isO f3 u0 10) <|
(m_X12_lines F u0 f3).bind fun x6 =>
some (x6, f3))
else
if u1 = (1 : Int32) then
(chk (isO f3 u0 10) <|
(m_X12_copies F u0 f3).bind fun x9 =>
some (x9, f3))
else
if u1 = (2 : Int32) then
((gR f3 u0 10 14).bind fun x11 =>
(ldI f3 1 x11 (2 : Int32)).bind fun x12 =>
some (x12, f3))
else
if u1 = (3 : Int32) then
(chk (isO f3 u0 10) <|
(m_X12_orders F u0 f3).bind fun x15 =>
some (x15, f3))
else
if u1 = (4 : Int32) then
((gR f3 u0 10 14).bind fun x17 =>
(ldI f3 1 x17 (3 : Int32)).bind fun x18 =>
some (x18, f3))
else
if u1 = (5 : Int32) then
((gR f3 u0 10 14).bind fun x20 =>
(ldI f3 1 x20 (4 : Int32)).bind fun x21 =>
some (x21, f3))
else
if u1 = (6 : Int32) then
((gI f3 u0 10 2).bind fun x23 =>
some (x23, f3))
else
(some ((-1 : Int32), f3))
/-! CopyOrdersModel.drawn(III)I -/
def m_X12_drawn_B116 (F : Nat) (rc47 : (Option Nat) → Int32 → Int32 → Int32 → Hp → Option ((Int32) × Hp)) (v0 : Option Nat) (v2 : Int32) (v4 : Int32) (v5 : Int32) (v7 : Int32) (fa : Hp) : Option ((Int32) × Hp) :=
(gR fa v0 10 24).bind fun x16 =>
(ldI fa 1 x16 v7).bind fun x17 =>
(gR fa v0 10 24).bind fun x18 =>
(gR fa v0 10 24).bind fun x19 =>
(ldI fa 1 x19 (v7 + (1 : Int32))).bind fun x20 =>
(stI fa 1 x18 v7 x20).bind fun f21 =>
(gR f21 v0 10 24).bind fun x22 =>
(stI f21 1 x22 (v7 + (1 : Int32)) x17).bind fun f23 =>
nmd (v5 + (1 : Int32)) fun y24 =>
rc47 v0 v2 v4 y24 f23
def m_X12_drawn_b80 (F : Nat) (rc47 : (Option Nat) → Int32 → Int32 → Int32 → Hp → Option ((Int32) × Hp)) (rc80 : (Option Nat) → Int32 → Int32 → Int32 → Int32 → Int32 → Hp → Option ((Int32) × Hp)) (v0 : Option Nat) (v2 : Int32) (v4 : Int32) (v5 : Int32) (v6 : Int32) (v7 : Int32) (fa : Hp) : Option ((Int32) × Hp) :=
(gR fa v0 10 14).bind fun x9 =>
(ldI fa 1 x9 ((102 : Int32) + v7)).bind fun x10 =>
if v6 < x10 then
(m_X12_drawn_B116 F rc47 v0 v2 v4 v5 v7 fa)
else
((gR fa v0 10 14).bind fun x12 =>
(ldI fa 1 x12 ((102 : Int32) + v7)).bind fun x13 =>
nmd ((v6 - x13)) fun y14 =>
nmd (v7 + (1 : Int32)) fun y15 =>
rc80 v0 v2 v4 v5 y14 y15 fa)
def m_X12_drawn_L80 (F : Nat) (rc47 : (Option Nat) → Int32 → Int32 → Int32 → Hp → Option ((Int32) × Hp)) : Nat → Option Nat → Int32 → Int32 → Int32 → Int32 → Int32 → Hp → Option ((Int32) × Hp)
  | 0, _, _, _, _, _, _, _ => none
  | k + 1, v0, v2, v4, v5, v6, v7, fa => m_X12_drawn_b80 F rc47 (m_X12_drawn_L80 F rc47 k) v0 v2 v4 v5 v6 v7 fa
def m_X12_drawn_b47 (F : Nat) (rc47 : (Option Nat) → Int32 → Int32 → Int32 → Hp → Option ((Int32) × Hp)) (v0 : Option Nat) (v2 : Int32) (v4 : Int32) (v5 : Int32) (fa : Hp) : Option ((Int32) × Hp) :=
if v2 ≤ v5 then
(chk (isO fa v0 10) <|
(m_X12_numberOf F v0 fa).bind fun x3 =>
some (x3, fa))
else
(nmd (((v4 * (1103515245 : Int32)) + (12345 : Int32))) fun y4 =>
chk (isO fa v0 10) <|
(m_X12_allLikely F v0 fa).bind fun x6 =>
chk (decide (¬ x6 = 0)) <|
nmd ((irm (ius y4 (8 : Int32)) x6)) fun y8 =>
m_X12_drawn_L80 F rc47 F v0 v2 y4 v5 y8 (0 : Int32) fa)
def m_X12_drawn_L47 (F : Nat) : Nat → Option Nat → Int32 → Int32 → Int32 → Hp → Option ((Int32) × Hp)
  | 0, _, _, _, _, _ => none
  | k + 1, v0, v2, v4, v5, fa => m_X12_drawn_b47 F (m_X12_drawn_L47 F k) v0 v2 v4 v5 fa
def m_X12_drawn (F : Nat) (u0 : Option Nat) (u1 : Int32) (u2 : Int32) (u3 : Int32) (f : Hp) : Option ((Int32) × Hp) :=
(pV f u0 10 0 (.int (0 : Int32))).bind fun f25 =>
chk (isO f25 u0 10) <|
(m_X12_lay F u0 f25).bind fun f27 =>
chk (isO f27 u0 10) <|
(m_X12_isOrder F u0 u1 f27).bind fun x29 =>
if x29 = 0 then
(some ((-1 : Int32), f27))
else
((m_X12_isIn F u2 (0 : Int32) (100 : Int32) f27).bind fun x31 =>
if x31 = 0 then
(some ((-1 : Int32), f27))
else
(chk (isO f27 u0 10) <|
(m_X12_allLikely F u0 f27).bind fun x34 =>
if x34 = 0 then
(some ((-1 : Int32), f27))
else
(chk (isO f27 u0 10) <|
(m_X12_lay_ F u0 u1 f27).bind fun f37 =>
m_X12_drawn_L47 F F u0 u2 u3 (0 : Int32) f37)))
/-! CopyOrdersModel.end(I)Z -/
def m_X12_end (F : Nat) (u0 : Option Nat) (u1 : Int32) (f : Hp) : Option ((Int32) × Hp) :=
(pV f u0 10 0 (.int (0 : Int32))).bind fun f1 =>
if u1 < 0 then
(chk (okZ (0 : Int32)) <|
some ((0 : Int32), f1))
else
((gI f1 u0 10 2).bind fun x4 =>
if u1 ≤ x4 then
((pV f1 u0 10 2 (.int u1)).bind fun f6 =>
chk (okZ (1 : Int32)) <|
some ((1 : Int32), f6))
else
(chk (okZ (0 : Int32)) <|
some ((0 : Int32), f1)))
/-! CopyOrdersModel.farOf(II)I -/
def m_X12_farOf_B64 (F : Nat) (v2 : Int32) (v3 : Int32) (v4 : Int32) (fa : Hp) : Option ((Int32) × Hp) :=
if v2 = 0 then
(some (v3, fa))
else
(some (v4, fa))
def m_X12_farOf_b17 (F : Nat) (rc17 : (Option Nat) → Int32 → Int32 → Int32 → Int32 → Hp → Option ((Int32) × Hp)) (v0 : Option Nat) (v2 : Int32) (v3 : Int32) (v4 : Int32) (v5 : Int32) (fa : Hp) : Option ((Int32) × Hp) :=
chk (isO fa v0 10) <|
(m_X12_copies F v0 fa).bind fun x2 =>
if x2 ≤ v5 then
(m_X12_farOf_B64 F v2 v3 v4 fa)
else
((gR fa v0 10 27).bind fun x4 =>
chk (isO fa v0 10) <|
(m_X12_layCopy F v0 v5 x4 fa).bind fun f6 =>
chk (isO f6 v0 10) <|
(m_X12_far F v0 f6).bind fun x8 =>
nmd ((v3 + x8)) fun y9 =>
if x8 ≤ v4 then
(nmd (v5 + (1 : Int32)) fun y11 =>
rc17 v0 v2 y9 v4 y11 f6)
else
(nmd (v5 + (1 : Int32)) fun y12 =>
rc17 v0 v2 y9 x8 y12 f6))
def m_X12_farOf_L17 (F : Nat) : Nat → Option Nat → Int32 → Int32 → Int32 → Int32 → Hp → Option ((Int32) × Hp)
  | 0, _, _, _, _, _, _ => none
  | k + 1, v0, v2, v3, v4, v5, fa => m_X12_farOf_b17 F (m_X12_farOf_L17 F k) v0 v2 v3 v4 v5 fa
def m_X12_farOf (F : Nat) (u0 : Option Nat) (u1 : Int32) (u2 : Int32) (f : Hp) : Option ((Int32) × Hp) :=
(gR f u0 10 26).bind fun x14 =>
chk (isO f u0 10) <|
(m_X12_layOrder F u0 u1 x14 f).bind fun f16 =>
m_X12_farOf_L17 F F u0 u2 (0 : Int32) (0 : Int32) (0 : Int32) f16
/-! CopyOrdersModel.fault()I -/
def m_X12_fault (F : Nat) (u0 : Option Nat) (f : Hp) : Option ((Int32) × Hp) :=
(pV f u0 10 0 (.int (0 : Int32))).bind fun f1 =>
(gI f1 u0 10 10).bind fun x2 =>
some (x2, f1)
/-! CopyOrdersModel.feed(IIIII)I -/
def m_X12_feed (F : Nat) (u0 : Option Nat) (u1 : Int32) (u2 : Int32) (u3 : Int32) (u4 : Int32) (u5 : Int32) (f : Hp) : Option ((Int32) × Hp) :=
(pV f u0 10 0 (.int (0 : Int32))).bind fun f1 =>
(gI f1 u0 10 2).bind fun x2 =>
if (x2 + (20 : Int32)) ≤ (740 : Int32) then
(chk (isO f1 u0 10) <|
(m_X12_come F u0 u1 f1).bind fun f5 =>
chk (isO f5 u0 10) <|
(m_X12_come F u0 u2 f5).bind fun f7 =>
chk (isO f7 u0 10) <|
(m_X12_come F u0 u3 f7).bind fun f9 =>
chk (isO f9 u0 10) <|
(m_X12_come F u0 u4 f9).bind fun f11 =>
chk (isO f11 u0 10) <|
(m_X12_come F u0 u5 f11).bind fun f13 =>
(gI f13 u0 10 2).bind fun x14 =>
some (x14, f13))
else
(some ((-1 : Int32), f1))
/-! CopyOrdersModel.isDesk(I)Z -/
def m_X12_isDesk (F : Nat) (u0 : Option Nat) (u1 : Int32) (f : Hp) : Option Int32 :=
if u1 < 0 then
(chk (okZ (0 : Int32)) <|
some (0 : Int32))
else
((gR f u0 10 14).bind fun x3 =>
(ldI f 1 x3 (2 : Int32)).bind fun x4 =>
if x4 ≤ u1 then
(chk (okZ (0 : Int32)) <|
some (0 : Int32))
else
(chk (okZ (1 : Int32)) <|
some (1 : Int32)))
/-! CopyOrdersModel.fewestOf(III)I -/
def m_X12_fewestOf (F : Nat) (u0 : Option Nat) (u1 : Int32) (u2 : Int32) (u3 : Int32) (f : Hp) : Option ((Int32) × Hp) :=
chk (isO f u0 10) <|
(m_X12_layCopies F u0 u1 u2 f).bind fun f2 =>
chk (isO f2 u0 10) <|
(m_X12_steps F u0 f2).bind fun x4 =>
(gR f2 u0 10 14).bind fun x5 =>
(ldI f2 1 x5 ((90 : Int32) + ((2 : Int32) * u3))).bind fun x6 =>
(gR f2 u0 10 14).bind fun x7 =>
(ldI f2 1 x7 (((90 : Int32) + ((2 : Int32) * u3)) + (1 : Int32))).bind fun x8 =>
if x6 = 0 then
(some (x4, f2))
else
(if x6 = (1 : Int32) then
(chk (decide (¬ x8 = 0)) <|
some ((((x4 + x8) - (1 : Int32)) / x8), f2))
else
(if x4 = 0 then
(some ((0 : Int32), f2))
else
(some ((-1 : Int32), f2))))
/-! CopyOrdersModel.fewest(III)I -/
def m_X12_fewest (F : Nat) (u0 : Option Nat) (u1 : Int32) (u2 : Int32) (u3 : Int32) (f : Hp) : Option ((Int32) × Hp) :=
(pV f u0 10 0 (.int (0 : Int32))).bind fun f1 =>
chk (isO f1 u0 10) <|
(m_X12_lay F u0 f1).bind fun f3 =>
chk (isO f3 u0 10) <|
(m_X12_areWhole F u0 u1 u2 f3).bind fun x5 =>
if x5 = 0 then
(some ((-1 : Int32), f3))
else
(chk (isO f3 u0 10) <|
(m_X12_isDesk F u0 u3 f3).bind fun x8 =>
if x8 = 0 then
(some ((-1 : Int32), f3))
else
(chk (isO f3 u0 10) <|
bd2 (m_X12_fewestOf F u0 u1 u2 u3 f3) fun x11 f12 =>
some (x11, f12)))
/-! CopyOrdersModel.findRead()I -/
def m_X12_findRead_b36 (F : Nat) (rc36 : (Option Nat) → Int32 → Hp → Option Int32) (v0 : Option Nat) (v1 : Int32) (f : Hp) : Option Int32 :=
(gR f v0 10 15).bind fun x9 =>
(ldI f 1 x9 (2 : Int32)).bind fun x10 =>
if x10 ≤ v1 then
(some (-1 : Int32))
else
((gR f v0 10 18).bind fun x12 =>
(ldJ f x12 ((10 : Int32) + v1)).bind fun x13 =>
(gJ f v0 10 12).bind fun x14 =>
if (lg_cmp x13 x14) = 0 then
(some ((10 : Int32) + v1))
else
(nmd (v1 + (1 : Int32)) fun y16 =>
rc36 v0 y16 f))
def m_X12_findRead_L36 (F : Nat) : Nat → Option Nat → Int32 → Hp → Option Int32
  | 0, _, _, _ => none
  | k + 1, v0, v1, f => m_X12_findRead_b36 F (m_X12_findRead_L36 F k) v0 v1 f
def m_X12_findRead_b2 (F : Nat) (rc2 : (Option Nat) → Int32 → Hp → Option Int32) (v0 : Option Nat) (v1 : Int32) (f : Hp) : Option Int32 :=
(gR f v0 10 15).bind fun x1 =>
(ldI f 1 x1 (1 : Int32)).bind fun x2 =>
if x2 ≤ v1 then
(m_X12_findRead_L36 F F v0 (0 : Int32) f)
else
((gR f v0 10 18).bind fun x4 =>
(ldJ f x4 v1).bind fun x5 =>
(gJ f v0 10 12).bind fun x6 =>
if (lg_cmp x5 x6) = 0 then
(some v1)
else
(nmd (v1 + (1 : Int32)) fun y8 =>
rc2 v0 y8 f))
def m_X12_findRead_L2 (F : Nat) : Nat → Option Nat → Int32 → Hp → Option Int32
  | 0, _, _, _ => none
  | k + 1, v0, v1, f => m_X12_findRead_b2 F (m_X12_findRead_L2 F k) v0 v1 f
def m_X12_findRead (F : Nat) (u0 : Option Nat) (f : Hp) : Option Int32 :=
m_X12_findRead_L2 F F u0 (0 : Int32) f
/-! CopyOrdersModel.firsts(II)I -/
def m_X12_firsts_b41 (F : Nat) (rc41 : (Option Nat) → Int32 → Int32 → Hp → Option ((Int32) × Hp)) (v0 : Option Nat) (v3 : Int32) (v4 : Int32) (fa : Hp) : Option ((Int32) × Hp) :=
chk (isO fa v0 10) <|
(m_X12_orders F v0 fa).bind fun x2 =>
if x2 ≤ v4 then
(some (v3, fa))
else
((gR fa v0 10 35).bind fun x4 =>
(ldJ fa x4 v4).bind fun x5 =>
if (lg_cmp x5 (0 : Int64)) ≤ 0 then
(nmd (v4 + (1 : Int32)) fun y7 =>
rc41 v0 v3 y7 fa)
else
(nmd (v3 + (1 : Int32)) fun y8 =>
nmd (v4 + (1 : Int32)) fun y9 =>
rc41 v0 y8 y9 fa))
def m_X12_firsts_L41 (F : Nat) : Nat → Option Nat → Int32 → Int32 → Hp → Option ((Int32) × Hp)
  | 0, _, _, _, _ => none
  | k + 1, v0, v3, v4, fa => m_X12_firsts_b41 F (m_X12_firsts_L41 F k) v0 v3 v4 fa
def m_X12_firsts (F : Nat) (u0 : Option Nat) (u1 : Int32) (u2 : Int32) (f : Hp) : Option ((Int32) × Hp) :=
(pV f u0 10 0 (.int (0 : Int32))).bind fun f10 =>
chk (isO f10 u0 10) <|
(m_X12_lay F u0 f10).bind fun f12 =>
chk (isO f12 u0 10) <|
(m_X12_isOrder F u0 u1 f12).bind fun x14 =>
if x14 = 0 then
(some ((-1 : Int32), f12))
else
((m_X12_isIn F u2 (0 : Int32) (10 : Int32) f12).bind fun x16 =>
if x16 = 0 then
(some ((-1 : Int32), f12))
else
(chk (isO f12 u0 10) <|
(m_X12_layWays F u0 u1 u2 (0 : Int32) f12).bind fun f19 =>
m_X12_firsts_L41 F F u0 (0 : Int32) (0 : Int32) f19))
/-! CopyOrdersModel.from(I)I -/
def m_X12_from (F : Nat) (u0 : Option Nat) (u1 : Int32) (f : Hp) : Option ((Int32) × Hp) :=
(pV f u0 10 0 (.int (0 : Int32))).bind fun f1 =>
if u1 < 0 then
(some ((-1 : Int32), f1))
else
((gI f1 u0 10 34).bind fun x3 =>
if x3 ≤ u1 then
(some ((-1 : Int32), f1))
else
((gR f1 u0 10 32).bind fun x5 =>
(ldI f1 1 x5 u1).bind fun x6 =>
some (x6, f1)))
/-! CopyOrdersModel.hasSense([I)Z -/
def m_X12_hasSense_b2 (F : Nat) (rc2 : (Option Nat) → (Option Nat) → Int32 → Hp → Option Int32) (v0 : Option Nat) (v1 : Option Nat) (v2 : Int32) (f : Hp) : Option Int32 :=
(gR f v0 10 14).bind fun x1 =>
(ldI f 1 x1 (3 : Int32)).bind fun x2 =>
if x2 ≤ v2 then
(chk (okZ (1 : Int32)) <|
some (1 : Int32))
else
((gR f v0 10 14).bind fun x5 =>
(ldI f 1 x5 ((110 : Int32) + ((2 : Int32) * v2))).bind fun x6 =>
(ldI f 1 v1 x6).bind fun x7 =>
(gR f v0 10 14).bind fun x8 =>
(ldI f 1 x8 (((110 : Int32) + ((2 : Int32) * v2)) + (1 : Int32))).bind fun x9 =>
(ldI f 1 v1 x9).bind fun x10 =>
if x7 = (-1 : Int32) then
(nmd (v2 + (1 : Int32)) fun y12 =>
rc2 v0 v1 y12 f)
else
(if x10 = (-1 : Int32) then
(nmd (v2 + (1 : Int32)) fun y14 =>
rc2 v0 v1 y14 f)
else
(if x7 ≤ x10 then
(nmd (v2 + (1 : Int32)) fun y16 =>
rc2 v0 v1 y16 f)
else
(chk (okZ (0 : Int32)) <|
some (0 : Int32)))))
def m_X12_hasSense_L2 (F : Nat) : Nat → Option Nat → Option Nat → Int32 → Hp → Option Int32
  | 0, _, _, _, _ => none
  | k + 1, v0, v1, v2, f => m_X12_hasSense_b2 F (m_X12_hasSense_L2 F k) v0 v1 v2 f
def m_X12_hasSense (F : Nat) (u0 : Option Nat) (u1 : Option Nat) (f : Hp) : Option Int32 :=
m_X12_hasSense_L2 F F u0 u1 (0 : Int32) f
/-! CopyOrdersModel.nearestLike()I -/
def m_X12_nearestLike_B83 (F : Nat) (rc14 : (Option Nat) → Int32 → Int32 → Hp → Option ((Int32) × Hp)) (v0 : Option Nat) (v1 : Int32) (v2 : Int32) (v3 : Int32) (fa : Hp) : Option ((Int32) × Hp) :=
if v3 = 0 then
(nmd (v2 + (1 : Int32)) fun y26 =>
rc14 v0 v1 y26 fa)
else
(chk (isO fa v0 10) <|
(m_X12_steps F v0 fa).bind fun x22 =>
if v1 ≤ x22 then
(nmd (v2 + (1 : Int32)) fun y24 =>
rc14 v0 v1 y24 fa)
else
(nmd (v2 + (1 : Int32)) fun y25 =>
rc14 v0 x22 y25 fa))
def m_X12_nearestLike_b36 (F : Nat) (rc14 : (Option Nat) → Int32 → Int32 → Hp → Option ((Int32) × Hp)) (rc36 : (Option Nat) → Int32 → Int32 → Int32 → Int32 → Hp → Option ((Int32) × Hp)) (v0 : Option Nat) (v1 : Int32) (v2 : Int32) (v3 : Int32) (v4 : Int32) (fa : Hp) : Option ((Int32) × Hp) :=
chk (isO fa v0 10) <|
(m_X12_lines F v0 fa).bind fun x8 =>
if x8 ≤ v4 then
(m_X12_nearestLike_B83 F rc14 v0 v1 v2 v3 fa)
else
(if v3 = 0 then
(m_X12_nearestLike_B83 F rc14 v0 v1 v2 v3 fa)
else
((gR fa v0 10 41).bind fun x11 =>
(gR fa v0 10 24).bind fun x12 =>
(ldI fa 1 x12 v4).bind fun x13 =>
(ldI fa 1 x11 x13).bind fun x14 =>
(gR fa v0 10 41).bind fun x15 =>
(ldI fa 1 x15 v4).bind fun x16 =>
if x14 = x16 then
(nmd (v4 + (1 : Int32)) fun y19 =>
rc36 v0 v1 v2 (1 : Int32) y19 fa)
else
(nmd (v4 + (1 : Int32)) fun y18 =>
rc36 v0 v1 v2 (0 : Int32) y18 fa)))
def m_X12_nearestLike_L36 (F : Nat) (rc14 : (Option Nat) → Int32 → Int32 → Hp → Option ((Int32) × Hp)) : Nat → Option Nat → Int32 → Int32 → Int32 → Int32 → Hp → Option ((Int32) × Hp)
  | 0, _, _, _, _, _, _ => none
  | k + 1, v0, v1, v2, v3, v4, fa => m_X12_nearestLike_b36 F rc14 (m_X12_nearestLike_L36 F rc14 k) v0 v1 v2 v3 v4 fa
def m_X12_nearestLike_b14 (F : Nat) (rc14 : (Option Nat) → Int32 → Int32 → Hp → Option ((Int32) × Hp)) (v0 : Option Nat) (v1 : Int32) (v2 : Int32) (fa : Hp) : Option ((Int32) × Hp) :=
chk (isO fa v0 10) <|
(m_X12_orders F v0 fa).bind fun x2 =>
if x2 ≤ v2 then
(some (v1, fa))
else
((gR fa v0 10 27).bind fun x4 =>
chk (isO fa v0 10) <|
(m_X12_layOrder F v0 v2 x4 fa).bind fun f6 =>
m_X12_nearestLike_L36 F rc14 F v0 v1 v2 (1 : Int32) (0 : Int32) f6)
def m_X12_nearestLike_L14 (F : Nat) : Nat → Option Nat → Int32 → Int32 → Hp → Option ((Int32) × Hp)
  | 0, _, _, _, _ => none
  | k + 1, v0, v1, v2, fa => m_X12_nearestLike_b14 F (m_X12_nearestLike_L14 F k) v0 v1 v2 fa
def m_X12_nearestLike (F : Nat) (u0 : Option Nat) (f : Hp) : Option ((Int32) × Hp) :=
(gR f u0 10 26).bind fun x27 =>
chk (isO f u0 10) <|
(m_X12_layOrder F u0 (0 : Int32) x27 f).bind fun f29 =>
m_X12_nearestLike_L14 F F u0 (100 : Int32) (1 : Int32) f29
/-! CopyOrdersModel.holds(I)I -/
def m_X12_holds_B59 (F : Nat) (v0 : Option Nat) (v1 : Int32) (fa : Hp) : Option ((Int32) × Hp) :=
chk (isO fa v0 10) <|
bd2 (m_X12_nearestLike F v0 fa) fun x8 f9 =>
if x8 ≤ ((2 : Int32) * v1) then
(some ((0 : Int32), f9))
else
(some ((1 : Int32), f9))
def m_X12_holds_b36 (F : Nat) (rc36 : (Option Nat) → Int32 → Int32 → Int32 → Hp → Option ((Int32) × Hp)) (v0 : Option Nat) (v1 : Int32) (v2 : Int32) (v3 : Int32) (fa : Hp) : Option ((Int32) × Hp) :=
if v2 ≤ v3 then
(m_X12_holds_B59 F v0 v1 fa)
else
((gR fa v0 10 41).bind fun x2 =>
(gR fa v0 10 1).bind fun x3 =>
(ldI fa 1 x3 v3).bind fun x4 =>
(stI fa 1 x2 v3 x4).bind fun f5 =>
nmd (v3 + (1 : Int32)) fun y6 =>
rc36 v0 v1 v2 y6 f5)
def m_X12_holds_L36 (F : Nat) : Nat → Option Nat → Int32 → Int32 → Int32 → Hp → Option ((Int32) × Hp)
  | 0, _, _, _, _, _ => none
  | k + 1, v0, v1, v2, v3, fa => m_X12_holds_b36 F (m_X12_holds_L36 F k) v0 v1 v2 v3 fa
def m_X12_holds (F : Nat) (u0 : Option Nat) (u1 : Int32) (f : Hp) : Option ((Int32) × Hp) :=
(pV f u0 10 0 (.int (0 : Int32))).bind fun f11 =>
chk (isO f11 u0 10) <|
(m_X12_lay F u0 f11).bind fun f13 =>
chk (isO f13 u0 10) <|
bd2 (m_X12_take F u0 f13) fun x15 f16 =>
chk (isO f16 u0 10) <|
(m_X12_lines F u0 f16).bind fun x18 =>
if x15 = x18 then
((m_X12_isIn F u1 (0 : Int32) (9 : Int32) f16).bind fun x20 =>
if x20 = 0 then
(some ((-1 : Int32), f16))
else
(m_X12_holds_L36 F F u0 u1 x15 (0 : Int32) f16))
else
(some ((-1 : Int32), f16))
/-! CopyOrdersModel.spelt(IIIII)J -/
def m_X12_spelt_B57 (F : Nat) (v4 : Int32) (v5 : Int64) (f : Hp) : Option Int64 :=
if v4 ≤ 0 then
(some v5)
else
(some ((((27 : Int64) * v5) + (Int32.toInt64 v4)) - (96 : Int64)))
def m_X12_spelt_B38 (F : Nat) (v3 : Int32) (v4 : Int32) (v5 : Int64) (f : Hp) : Option Int64 :=
if v3 ≤ 0 then
(m_X12_spelt_B57 F v4 v5 f)
else
(nmd (((((27 : Int64) * v5) + (Int32.toInt64 v3)) - (96 : Int64))) fun y2 =>
m_X12_spelt_B57 F v4 y2 f)
def m_X12_spelt (F : Nat) (u0 : Int32) (u1 : Int32) (u2 : Int32) (u3 : Int32) (u4 : Int32) (f : Hp) : Option Int64 :=
nmd (((((27 : Int64) * ((Int32.toInt64 u0) - (96 : Int64))) + (Int32.toInt64 u1)) - (96 : Int64))) fun y4 =>
if u2 ≤ 0 then
(m_X12_spelt_B38 F u3 u4 y4 f)
else
(nmd (((((27 : Int64) * y4) + (Int32.toInt64 u2)) - (96 : Int64))) fun y6 =>
m_X12_spelt_B38 F u3 u4 y6 f)
/-! CopyOrdersModel.wordOf(I)J -/
def m_X12_wordOf (F : Nat) (u0 : Int32) (f : Hp) : Option Int64 :=
if u0 = (0 : Int32) then
((m_X12_spelt F (108 : Int32) (105 : Int32) (110 : Int32) (101 : Int32) (115 : Int32) f).bind fun x2 =>
some x2)
else
if u0 = (1 : Int32) then
((m_X12_spelt F (99 : Int32) (111 : Int32) (112 : Int32) (121 : Int32) (0 : Int32) f).bind fun x4 =>
some x4)
else
if u0 = (2 : Int32) then
((m_X12_spelt F (100 : Int32) (101 : Int32) (115 : Int32) (107 : Int32) (0 : Int32) f).bind fun x6 =>
some x6)
else
if u0 = (3 : Int32) then
((m_X12_spelt F (108 : Int32) (105 : Int32) (107 : Int32) (101 : Int32) (108 : Int32) f).bind fun x8 =>
some ((((27 : Int64) * x8) + (121 : Int64)) - (96 : Int64)))
else
if u0 = (4 : Int32) then
((m_X12_spelt F (115 : Int32) (101 : Int32) (110 : Int32) (115 : Int32) (101 : Int32) f).bind fun x10 =>
some x10)
else
if u0 = (5 : Int32) then
((m_X12_spelt F (114 : Int32) (104 : Int32) (121 : Int32) (109 : Int32) (101 : Int32) f).bind fun x12 =>
some x12)
else
if u0 = (6 : Int32) then
((m_X12_spelt F (115 : Int32) (119 : Int32) (97 : Int32) (112 : Int32) (0 : Int32) f).bind fun x14 =>
some x14)
else
if u0 = (7 : Int32) then
((m_X12_spelt F (109 : Int32) (111 : Int32) (115 : Int32) (116 : Int32) (0 : Int32) f).bind fun x16 =>
some x16)
else
if u0 = (8 : Int32) then
((m_X12_spelt F (100 : Int32) (114 : Int32) (111 : Int32) (112 : Int32) (115 : Int32) f).bind fun x18 =>
some x18)
else
if u0 = (9 : Int32) then
((m_X12_spelt F (111 : Int32) (114 : Int32) (0 : Int32) (0 : Int32) (0 : Int32) f).bind fun x20 =>
some x20)
else
if u0 = (10 : Int32) then
((m_X12_spelt F (97 : Int32) (110 : Int32) (100 : Int32) (0 : Int32) (0 : Int32) f).bind fun x22 =>
some x22)
else
if u0 = (11 : Int32) then
((m_X12_spelt F (110 : Int32) (111 : Int32) (116 : Int32) (0 : Int32) (0 : Int32) f).bind fun x24 =>
some x24)
else
if u0 = (12 : Int32) then
((m_X12_spelt F (119 : Int32) (104 : Int32) (111 : Int32) (108 : Int32) (101 : Int32) f).bind fun x26 =>
some x26)
else
if u0 = (13 : Int32) then
((m_X12_spelt F (104 : Int32) (111 : Int32) (108 : Int32) (100 : Int32) (115 : Int32) f).bind fun x28 =>
some x28)
else
if u0 = (14 : Int32) then
((m_X12_spelt F (104 : Int32) (97 : Int32) (115 : Int32) (0 : Int32) (0 : Int32) f).bind fun x30 =>
some x30)
else
if u0 = (15 : Int32) then
((m_X12_spelt F (97 : Int32) (104 : Int32) (101 : Int32) (97 : Int32) (100 : Int32) f).bind fun x32 =>
some x32)
else
if u0 = (16 : Int32) then
((m_X12_spelt F (102 : Int32) (97 : Int32) (114 : Int32) (0 : Int32) (0 : Int32) f).bind fun x34 =>
some x34)
else
if u0 = (17 : Int32) then
((m_X12_spelt F (115 : Int32) (116 : Int32) (101 : Int32) (112 : Int32) (115 : Int32) f).bind fun x36 =>
some x36)
else
if u0 = (18 : Int32) then
((m_X12_spelt F (115 : Int32) (111 : Int32) (110 : Int32) (103 : Int32) (0 : Int32) f).bind fun x38 =>
some x38)
else
((m_X12_spelt F (115 : Int32) (105 : Int32) (122 : Int32) (101 : Int32) (0 : Int32) f).bind fun x39 =>
some x39)
/-! CopyOrdersModel.isWord(I)Z -/
def m_X12_isWord (F : Nat) (u0 : Option Nat) (u1 : Int32) (f : Hp) : Option Int32 :=
(gI f u0 10 7).bind fun x1 =>
if x1 = (2 : Int32) then
((gJ f u0 10 12).bind fun x4 =>
(m_X12_wordOf F u1 f).bind fun x5 =>
if (lg_cmp x4 x5) = 0 then
(chk (okZ (1 : Int32)) <|
some (1 : Int32))
else
(chk (okZ (0 : Int32)) <|
some (0 : Int32)))
else
(chk (okZ (0 : Int32)) <|
some (0 : Int32))
/-! CopyOrdersModel.readNumber(II)Z -/
def m_X12_readNumber (F : Nat) (u0 : Option Nat) (u1 : Int32) (u2 : Int32) (f : Hp) : Option ((Int32) × Hp) :=
(gI f u0 10 7).bind fun x1 =>
if x1 = (3 : Int32) then
((gI f u0 10 8).bind fun x3 =>
(m_X12_isIn F x3 u1 u2 f).bind fun x4 =>
if x4 = 0 then
(chk (isO f u0 10) <|
bd2 (m_X12_bad F u0 (2 : Int32) f) fun x12 f13 =>
chk (okZ x12) <|
some (x12, f13))
else
((gI f u0 10 8).bind fun x6 =>
(pV f u0 10 13 (.int x6)).bind fun f7 =>
chk (isO f7 u0 10) <|
(m_X12_go F u0 f7).bind fun f9 =>
chk (okZ (1 : Int32)) <|
some ((1 : Int32), f9)))
else
(chk (isO f u0 10) <|
bd2 (m_X12_bad F u0 (1 : Int32) f) fun x16 f17 =>
chk (okZ x16) <|
some (x16, f17))
/-! CopyOrdersModel.readLines()Z -/
def m_X12_readLines (F : Nat) (u0 : Option Nat) (f : Hp) : Option ((Int32) × Hp) :=
(gI f u0 10 22).bind fun x1 =>
if x1 = 0 then
(chk (isO f u0 10) <|
(m_X12_go F u0 f).bind fun f4 =>
chk (isO f4 u0 10) <|
bd2 (m_X12_readNumber F u0 (2 : Int32) (7 : Int32) f4) fun x6 f7 =>
if x6 = 0 then
(chk (okZ (0 : Int32)) <|
some ((0 : Int32), f7))
else
((gR f7 u0 10 15).bind fun x9 =>
(gI f7 u0 10 13).bind fun x10 =>
(stI f7 1 x9 (0 : Int32) x10).bind fun f11 =>
chk (okZ (1 : Int32)) <|
some ((1 : Int32), f11)))
else
(chk (isO f u0 10) <|
bd2 (m_X12_bad F u0 (3 : Int32) f) fun x15 f16 =>
chk (okZ x15) <|
some (x15, f16))
/-! CopyOrdersModel.isName()Z -/
def m_X12_isName_b12 (F : Nat) (rc12 : (Option Nat) → Int32 → Hp → Option Int32) (v0 : Option Nat) (v1 : Int32) (f : Hp) : Option Int32 :=
if (19 : Int32) < v1 then
(chk (okZ (1 : Int32)) <|
some (1 : Int32))
else
((gJ f v0 10 12).bind fun x3 =>
(m_X12_wordOf F v1 f).bind fun x4 =>
if (lg_cmp x3 x4) = 0 then
(chk (okZ (0 : Int32)) <|
some (0 : Int32))
else
(nmd (v1 + (1 : Int32)) fun y6 =>
rc12 v0 y6 f))
def m_X12_isName_L12 (F : Nat) : Nat → Option Nat → Int32 → Hp → Option Int32
  | 0, _, _, _ => none
  | k + 1, v0, v1, f => m_X12_isName_b12 F (m_X12_isName_L12 F k) v0 v1 f
def m_X12_isName (F : Nat) (u0 : Option Nat) (f : Hp) : Option Int32 :=
(gI f u0 10 7).bind fun x8 =>
if x8 = (2 : Int32) then
(m_X12_isName_L12 F F u0 (0 : Int32) f)
else
(chk (okZ (0 : Int32)) <|
some (0 : Int32))
/-! CopyOrdersModel.readNew(I)Z -/
def m_X12_readNew (F : Nat) (u0 : Option Nat) (u1 : Int32) (f : Hp) : Option ((Int32) × Hp) :=
chk (isO f u0 10) <|
(m_X12_isName F u0 f).bind fun x2 =>
if x2 = 0 then
(chk (isO f u0 10) <|
bd2 (m_X12_bad F u0 (1 : Int32) f) fun x18 f19 =>
chk (okZ x18) <|
some (x18, f19))
else
(chk (isO f u0 10) <|
(m_X12_findRead F u0 f).bind fun x5 =>
if x5 = (-1 : Int32) then
((gR f u0 10 18).bind fun x7 =>
(gJ f u0 10 12).bind fun x8 =>
(stJ f x7 u1 x8).bind fun f9 =>
chk (isO f9 u0 10) <|
(m_X12_go F u0 f9).bind fun f11 =>
chk (okZ (1 : Int32)) <|
some ((1 : Int32), f11))
else
(chk (isO f u0 10) <|
bd2 (m_X12_bad F u0 (3 : Int32) f) fun x14 f15 =>
chk (okZ x14) <|
some (x14, f15)))
/-! CopyOrdersModel.readCopy()Z -/
def m_X12_readCopy_B141 (F : Nat) (v0 : Option Nat) (v2 : Int32) (fa : Hp) : Option ((Int32) × Hp) :=
(gR fa v0 10 15).bind fun x24 =>
(gI fa v0 10 5).bind fun x25 =>
(gI fa v0 10 6).bind fun x26 =>
(stI fa 1 x24 v2 (x25 - x26)).bind fun f27 =>
(gR f27 v0 10 15).bind fun x28 =>
(ldI f27 1 x28 (1 : Int32)).bind fun x29 =>
(stI f27 1 x28 (1 : Int32) (x29 + (1 : Int32))).bind fun f30 =>
chk (isO f30 v0 10) <|
(m_X12_go F v0 f30).bind fun f32 =>
chk (okZ (1 : Int32)) <|
some ((1 : Int32), f32)
def m_X12_readCopy_b63 (F : Nat) (rc63 : (Option Nat) → Int32 → Int32 → Int32 → Hp → Option ((Int32) × Hp)) (v0 : Option Nat) (v2 : Int32) (v3 : Int32) (v4 : Int32) (fa : Hp) : Option ((Int32) × Hp) :=
(gI fa v0 10 5).bind fun x1 =>
if x1 ≤ v4 then
(m_X12_readCopy_B141 F v0 v2 fa)
else
((gR fa v0 10 1).bind fun x3 =>
(ldI fa 1 x3 v4).bind fun x4 =>
nmd ((x4 - (97 : Int32))) fun y5 =>
(gR fa v0 10 15).bind fun x6 =>
(ldI fa 1 x6 (0 : Int32)).bind fun x7 =>
if x7 ≤ y5 then
(chk (isO fa v0 10) <|
bd2 (m_X12_bad F v0 (2 : Int32) fa) fun x10 f11 =>
chk (okZ x10) <|
some (x10, f11))
else
((m_X12_has F v3 y5 fa).bind fun x13 =>
if x13 = 0 then
(nmd ((v3 ||| ((1 : Int32) <<< (y5 &&& 31)))) fun y15 =>
(gR fa v0 10 15).bind fun x16 =>
(gI fa v0 10 6).bind fun x17 =>
(stI fa 1 x16 (((v2 + (1 : Int32)) + v4) - x17) y5).bind fun f18 =>
nmd (v4 + (1 : Int32)) fun y19 =>
rc63 v0 v2 y15 y19 f18)
else
(chk (isO fa v0 10) <|
bd2 (m_X12_bad F v0 (2 : Int32) fa) fun x21 f22 =>
chk (okZ x21) <|
some (x21, f22))))
def m_X12_readCopy_L63 (F : Nat) : Nat → Option Nat → Int32 → Int32 → Int32 → Hp → Option ((Int32) × Hp)
  | 0, _, _, _, _, _ => none
  | k + 1, v0, v2, v3, v4, fa => m_X12_readCopy_b63 F (m_X12_readCopy_L63 F k) v0 v2 v3 v4 fa
def m_X12_readCopy (F : Nat) (u0 : Option Nat) (f : Hp) : Option ((Int32) × Hp) :=
(gR f u0 10 15).bind fun x34 =>
(ldI f 1 x34 (1 : Int32)).bind fun x35 =>
if x35 = (10 : Int32) then
(chk (isO f u0 10) <|
bd2 (m_X12_bad F u0 (4 : Int32) f) fun x53 f54 =>
chk (okZ x53) <|
some (x53, f54))
else
(chk (isO f u0 10) <|
(m_X12_go F u0 f).bind fun f38 =>
chk (isO f38 u0 10) <|
bd2 (m_X12_readNew F u0 x35 f38) fun x40 f41 =>
if x40 = 0 then
(chk (okZ (0 : Int32)) <|
some ((0 : Int32), f41))
else
((gI f41 u0 10 7).bind fun x43 =>
if x43 = (2 : Int32) then
(nmd (((10 : Int32) + ((8 : Int32) * x35))) fun y45 =>
(gI f41 u0 10 6).bind fun x46 =>
m_X12_readCopy_L63 F F u0 y45 (0 : Int32) x46 f41)
else
(chk (isO f41 u0 10) <|
bd2 (m_X12_bad F u0 (1 : Int32) f41) fun x48 f49 =>
chk (okZ x48) <|
some (x48, f49))))
/-! CopyOrdersModel.readDesk()Z -/
def m_X12_readDesk_B138 (F : Nat) (v0 : Option Nat) (fa : Hp) : Option ((Int32) × Hp) :=
(gR fa v0 10 15).bind fun x19 =>
(ldI fa 1 x19 (2 : Int32)).bind fun x20 =>
(stI fa 1 x19 (2 : Int32) (x20 + (1 : Int32))).bind fun f21 =>
chk (okZ (1 : Int32)) <|
some ((1 : Int32), f21)
def m_X12_readDesk_B76 (F : Nat) (v0 : Option Nat) (v1 : Int32) (s0 : Int32) (fa : Hp) : Option ((Int32) × Hp) :=
if s0 = (-1 : Int32) then
(chk (isO fa v0 10) <|
bd2 (m_X12_bad F v0 (1 : Int32) fa) fun x16 f17 =>
chk (okZ x16) <|
some (x16, f17))
else
(chk (isO fa v0 10) <|
(m_X12_go F v0 fa).bind fun f3 =>
(gR f3 v0 10 15).bind fun x4 =>
(stI f3 1 x4 ((90 : Int32) + ((2 : Int32) * v1)) s0).bind fun f5 =>
if s0 = (1 : Int32) then
(chk (isO f5 v0 10) <|
bd2 (m_X12_readNumber F v0 (1 : Int32) (9 : Int32) f5) fun x8 f9 =>
if x8 = 0 then
(chk (okZ (0 : Int32)) <|
some ((0 : Int32), f9))
else
((gR f9 v0 10 15).bind fun x11 =>
(gI f9 v0 10 13).bind fun x12 =>
(stI f9 1 x11 (((90 : Int32) + ((2 : Int32) * v1)) + (1 : Int32)) x12).bind fun f13 =>
m_X12_readDesk_B138 F v0 f13))
else
(m_X12_readDesk_B138 F v0 f5))
def m_X12_readDesk (F : Nat) (u0 : Option Nat) (f : Hp) : Option ((Int32) × Hp) :=
(gR f u0 10 15).bind fun x23 =>
(ldI f 1 x23 (2 : Int32)).bind fun x24 =>
if x24 = (6 : Int32) then
(chk (isO f u0 10) <|
bd2 (m_X12_bad F u0 (4 : Int32) f) fun x43 f44 =>
chk (okZ x43) <|
some (x43, f44))
else
(chk (isO f u0 10) <|
(m_X12_go F u0 f).bind fun f27 =>
chk (isO f27 u0 10) <|
bd2 (m_X12_readNew F u0 (((10 : Int32) + x24)) f27) fun x29 f30 =>
if x29 = 0 then
(chk (okZ (0 : Int32)) <|
some ((0 : Int32), f30))
else
(chk (isO f30 u0 10) <|
(m_X12_isWord F u0 (6 : Int32) f30).bind fun x33 =>
if x33 = 0 then
(chk (isO f30 u0 10) <|
(m_X12_isWord F u0 (7 : Int32) f30).bind fun x36 =>
if x36 = 0 then
(chk (isO f30 u0 10) <|
(m_X12_isWord F u0 (8 : Int32) f30).bind fun x39 =>
if x39 = 0 then
(m_X12_readDesk_B76 F u0 x24 (-1 : Int32) f30)
else
(m_X12_readDesk_B76 F u0 x24 (2 : Int32) f30))
else
(m_X12_readDesk_B76 F u0 x24 (1 : Int32) f30))
else
(m_X12_readDesk_B76 F u0 x24 (0 : Int32) f30)))
/-! CopyOrdersModel.readLikely()Z -/
def m_X12_readLikely (F : Nat) (u0 : Option Nat) (f : Hp) : Option ((Int32) × Hp) :=
chk (isO f u0 10) <|
(m_X12_go F u0 f).bind fun f2 =>
(gI f2 u0 10 7).bind fun x3 =>
if x3 = (3 : Int32) then
((gI f2 u0 10 8).bind fun x5 =>
(gR f2 u0 10 15).bind fun x6 =>
(ldI f2 1 x6 (0 : Int32)).bind fun x7 =>
(m_X12_isIn F x5 (1 : Int32) ((x7 - (1 : Int32))) f2).bind fun x8 =>
if x8 = 0 then
(chk (isO f2 u0 10) <|
bd2 (m_X12_bad F u0 (2 : Int32) f2) fun x34 f35 =>
chk (okZ x34) <|
some (x34, f35))
else
((gI f2 u0 10 23).bind fun x10 =>
(gI f2 u0 10 8).bind fun x11 =>
(m_X12_has F x10 x11 f2).bind fun x12 =>
if x12 = 0 then
((gI f2 u0 10 23).bind fun x14 =>
(gI f2 u0 10 8).bind fun x15 =>
(pV f2 u0 10 23 (.int (x14 ||| ((1 : Int32) <<< (x15 &&& 31))))).bind fun f16 =>
(gI f16 u0 10 8).bind fun x17 =>
chk (isO f16 u0 10) <|
(m_X12_go F u0 f16).bind fun f19 =>
chk (isO f19 u0 10) <|
bd2 (m_X12_readNumber F u0 (0 : Int32) (9 : Int32) f19) fun x21 f22 =>
if x21 = 0 then
(chk (okZ (0 : Int32)) <|
some ((0 : Int32), f22))
else
((gR f22 u0 10 15).bind fun x24 =>
(gI f22 u0 10 13).bind fun x25 =>
(stI f22 1 x24 (((102 : Int32) + x17) - (1 : Int32)) x25).bind fun f26 =>
chk (okZ (1 : Int32)) <|
some ((1 : Int32), f26)))
else
(chk (isO f2 u0 10) <|
bd2 (m_X12_bad F u0 (3 : Int32) f2) fun x30 f31 =>
chk (okZ x30) <|
some (x30, f31))))
else
(chk (isO f2 u0 10) <|
bd2 (m_X12_bad F u0 (1 : Int32) f2) fun x38 f39 =>
chk (okZ x38) <|
some (x38, f39))
/-! CopyOrdersModel.readLetter(I)Z -/
def m_X12_readLetter (F : Nat) (u0 : Option Nat) (u1 : Int32) (f : Hp) : Option ((Int32) × Hp) :=
(gI f u0 10 7).bind fun x1 =>
if x1 = (2 : Int32) then
((gI f u0 10 5).bind fun x3 =>
(gI f u0 10 6).bind fun x4 =>
if (x3 - x4) = (1 : Int32) then
((gR f u0 10 1).bind fun x10 =>
(gI f u0 10 6).bind fun x11 =>
(ldI f 1 x10 x11).bind fun x12 =>
if (x12 - (97 : Int32)) < u1 then
((gR f u0 10 1).bind fun x14 =>
(gI f u0 10 6).bind fun x15 =>
(ldI f 1 x14 x15).bind fun x16 =>
(pV f u0 10 13 (.int (x16 - (97 : Int32)))).bind fun f17 =>
chk (okZ (1 : Int32)) <|
some ((1 : Int32), f17))
else
(chk (isO f u0 10) <|
bd2 (m_X12_bad F u0 (2 : Int32) f) fun x20 f21 =>
chk (okZ x20) <|
some (x20, f21)))
else
(chk (isO f u0 10) <|
bd2 (m_X12_bad F u0 (2 : Int32) f) fun x7 f8 =>
chk (okZ x7) <|
some (x7, f8)))
else
(chk (isO f u0 10) <|
bd2 (m_X12_bad F u0 (1 : Int32) f) fun x24 f25 =>
chk (okZ x24) <|
some (x24, f25))
/-! CopyOrdersModel.readPair(III)Z -/
def m_X12_readPair_B206 (F : Nat) (v0 : Option Nat) (v1 : Int32) (fa : Hp) : Option ((Int32) × Hp) :=
(gR fa v0 10 15).bind fun x29 =>
(ldI fa 1 x29 v1).bind fun x30 =>
(stI fa 1 x29 v1 (x30 + (1 : Int32))).bind fun f31 =>
chk (okZ (1 : Int32)) <|
some ((1 : Int32), f31)
def m_X12_readPair_B140 (F : Nat) (v0 : Option Nat) (v1 : Int32) (v2 : Int32) (v3 : Int32) (v4 : Int32) (v5 : Int32) (v6 : Int32) (fa : Hp) : Option ((Int32) × Hp) :=
chk (isO fa v0 10) <|
(m_X12_go F v0 fa).bind fun f15 =>
(gR f15 v0 10 15).bind fun x16 =>
(stI f15 1 x16 (v2 + (v3 * v4)) v5).bind fun f17 =>
(gR f17 v0 10 15).bind fun x18 =>
(stI f17 1 x18 ((v2 + (v3 * v4)) + (1 : Int32)) v6).bind fun f19 =>
if v3 = (3 : Int32) then
(chk (isO f19 v0 10) <|
bd2 (m_X12_readNumber F v0 (1 : Int32) (99 : Int32) f19) fun x22 f23 =>
if x22 = 0 then
(chk (okZ (0 : Int32)) <|
some ((0 : Int32), f23))
else
((gR f23 v0 10 15).bind fun x25 =>
(gI f23 v0 10 13).bind fun x26 =>
(stI f23 1 x25 ((v2 + (v3 * v4)) + (2 : Int32)) x26).bind fun f27 =>
m_X12_readPair_B206 F v0 v1 f27))
else
(m_X12_readPair_B206 F v0 v1 f19)
def m_X12_readPair_b87 (F : Nat) (rc87 : (Option Nat) → Int32 → Int32 → Int32 → Int32 → Int32 → Int32 → Int32 → Hp → Option ((Int32) × Hp)) (v0 : Option Nat) (v1 : Int32) (v2 : Int32) (v3 : Int32) (v4 : Int32) (v5 : Int32) (v6 : Int32) (v7 : Int32) (fa : Hp) : Option ((Int32) × Hp) :=
if v4 ≤ v7 then
(m_X12_readPair_B140 F v0 v1 v2 v3 v4 v5 v6 fa)
else
((gR fa v0 10 15).bind fun x2 =>
(ldI fa 1 x2 (v2 + (v3 * v7))).bind fun x3 =>
if x3 = v5 then
((gR fa v0 10 15).bind fun x6 =>
(ldI fa 1 x6 ((v2 + (v3 * v7)) + (1 : Int32))).bind fun x7 =>
if x7 = v6 then
(chk (isO fa v0 10) <|
bd2 (m_X12_bad F v0 (3 : Int32) fa) fun x11 f12 =>
chk (okZ x11) <|
some (x11, f12))
else
(nmd (v7 + (1 : Int32)) fun y9 =>
rc87 v0 v1 v2 v3 v4 v5 v6 y9 fa))
else
(nmd (v7 + (1 : Int32)) fun y5 =>
rc87 v0 v1 v2 v3 v4 v5 v6 y5 fa))
def m_X12_readPair_L87 (F : Nat) : Nat → Option Nat → Int32 → Int32 → Int32 → Int32 → Int32 → Int32 → Int32 → Hp → Option ((Int32) × Hp)
  | 0, _, _, _, _, _, _, _, _, _ => none
  | k + 1, v0, v1, v2, v3, v4, v5, v6, v7, fa => m_X12_readPair_b87 F (m_X12_readPair_L87 F k) v0 v1 v2 v3 v4 v5 v6 v7 fa
def m_X12_readPair (F : Nat) (u0 : Option Nat) (u1 : Int32) (u2 : Int32) (u3 : Int32) (f : Hp) : Option ((Int32) × Hp) :=
(gR f u0 10 15).bind fun x33 =>
(ldI f 1 x33 u1).bind fun x34 =>
if x34 = (12 : Int32) then
(chk (isO f u0 10) <|
bd2 (m_X12_bad F u0 (4 : Int32) f) fun x62 f63 =>
chk (okZ x62) <|
some (x62, f63))
else
(chk (isO f u0 10) <|
(m_X12_go F u0 f).bind fun f37 =>
(gR f37 u0 10 15).bind fun x38 =>
(ldI f37 1 x38 (0 : Int32)).bind fun x39 =>
chk (isO f37 u0 10) <|
bd2 (m_X12_readLetter F u0 x39 f37) fun x41 f42 =>
if x41 = 0 then
(chk (okZ (0 : Int32)) <|
some ((0 : Int32), f42))
else
((gI f42 u0 10 13).bind fun x44 =>
chk (isO f42 u0 10) <|
(m_X12_go F u0 f42).bind fun f46 =>
(gR f46 u0 10 15).bind fun x47 =>
(ldI f46 1 x47 (0 : Int32)).bind fun x48 =>
chk (isO f46 u0 10) <|
bd2 (m_X12_readLetter F u0 x48 f46) fun x50 f51 =>
if x50 = 0 then
(chk (okZ (0 : Int32)) <|
some ((0 : Int32), f51))
else
((gI f51 u0 10 13).bind fun x53 =>
if x44 = x53 then
(chk (isO f51 u0 10) <|
bd2 (m_X12_bad F u0 (3 : Int32) f51) fun x56 f57 =>
chk (okZ x56) <|
some (x56, f57))
else
(m_X12_readPair_L87 F F u0 u1 u2 u3 x34 x44 x53 (0 : Int32) f51))))
/-! CopyOrdersModel.isSign(I)Z -/
def m_X12_isSign (F : Nat) (u0 : Option Nat) (u1 : Int32) (f : Hp) : Option Int32 :=
(gI f u0 10 7).bind fun x1 =>
if x1 = (4 : Int32) then
((gI f u0 10 9).bind fun x4 =>
if x4 = u1 then
(chk (okZ (1 : Int32)) <|
some (1 : Int32))
else
(chk (okZ (0 : Int32)) <|
some (0 : Int32)))
else
(chk (okZ (0 : Int32)) <|
some (0 : Int32))
/-! CopyOrdersModel.readEnd()Z -/
def m_X12_readEnd (F : Nat) (u0 : Option Nat) (f : Hp) : Option ((Int32) × Hp) :=
chk (isO f u0 10) <|
(m_X12_isSign F u0 (59 : Int32) f).bind fun x2 =>
if x2 = 0 then
(chk (isO f u0 10) <|
bd2 (m_X12_bad F u0 (1 : Int32) f) fun x8 f9 =>
chk (okZ x8) <|
some (x8, f9))
else
(chk (isO f u0 10) <|
(m_X12_go F u0 f).bind fun f5 =>
chk (okZ (1 : Int32)) <|
some ((1 : Int32), f5))
/-! CopyOrdersModel.readLine()Z -/
def m_X12_readLine_B115 (F : Nat) (v0 : Option Nat) (v2 : Int32) (fa : Hp) : Option ((Int32) × Hp) :=
if v2 = 0 then
(chk (okZ (0 : Int32)) <|
some ((0 : Int32), fa))
else
(chk (isO fa v0 10) <|
bd2 (m_X12_readEnd F v0 fa) fun x39 f40 =>
if x39 = 0 then
(chk (okZ (0 : Int32)) <|
some ((0 : Int32), f40))
else
(chk (okZ (1 : Int32)) <|
some ((1 : Int32), f40)))
def m_X12_readLine_B104 (F : Nat) (v0 : Option Nat) (v1 : Int32) (s0 : Int32) (fa : Hp) : Option ((Int32) × Hp) :=
if v1 = (2 : Int32) then
(m_X12_readLine_B115 F v0 s0 fa)
else
((pV fa v0 10 22 (.int (1 : Int32))).bind fun f35 =>
m_X12_readLine_B115 F v0 s0 f35)
def m_X12_readLine_B21 (F : Nat) (v0 : Option Nat) (v1 : Int32) (fa : Hp) : Option ((Int32) × Hp) :=
if v1 ≤ (5 : Int32) then
(if v1 = 0 then
(chk (isO fa v0 10) <|
bd2 (m_X12_readLines F v0 fa) fun x28 f29 =>
m_X12_readLine_B104 F v0 v1 x28 f29)
else
(if v1 = (1 : Int32) then
(chk (isO fa v0 10) <|
bd2 (m_X12_readCopy F v0 fa) fun x25 f26 =>
m_X12_readLine_B104 F v0 v1 x25 f26)
else
(if v1 = (2 : Int32) then
(chk (isO fa v0 10) <|
bd2 (m_X12_readDesk F v0 fa) fun x22 f23 =>
m_X12_readLine_B104 F v0 v1 x22 f23)
else
(if v1 = (3 : Int32) then
(chk (isO fa v0 10) <|
bd2 (m_X12_readLikely F v0 fa) fun x19 f20 =>
m_X12_readLine_B104 F v0 v1 x19 f20)
else
(if v1 = (4 : Int32) then
(chk (isO fa v0 10) <|
bd2 (m_X12_readPair F v0 (3 : Int32) (110 : Int32) (2 : Int32) fa) fun x16 f17 =>
m_X12_readLine_B104 F v0 v1 x16 f17)
else
(chk (isO fa v0 10) <|
bd2 (m_X12_readPair F v0 (4 : Int32) (134 : Int32) (3 : Int32) fa) fun x13 f14 =>
m_X12_readLine_B104 F v0 v1 x13 f14))))))
else
(chk (isO fa v0 10) <|
bd2 (m_X12_bad F v0 (1 : Int32) fa) fun x31 f32 =>
chk (okZ x31) <|
some (x31, f32))
def m_X12_readLine_b2 (F : Nat) (rc2 : (Option Nat) → Int32 → Hp → Option ((Int32) × Hp)) (v0 : Option Nat) (v1 : Int32) (fa : Hp) : Option ((Int32) × Hp) :=
if (5 : Int32) < v1 then
(m_X12_readLine_B21 F v0 v1 fa)
else
(chk (isO fa v0 10) <|
(m_X12_isWord F v0 v1 fa).bind fun x3 =>
if x3 = 0 then
(nmd (v1 + (1 : Int32)) fun y5 =>
rc2 v0 y5 fa)
else
(m_X12_readLine_B21 F v0 v1 fa))
def m_X12_readLine_L2 (F : Nat) : Nat → Option Nat → Int32 → Hp → Option ((Int32) × Hp)
  | 0, _, _, _ => none
  | k + 1, v0, v1, fa => m_X12_readLine_b2 F (m_X12_readLine_L2 F k) v0 v1 fa
def m_X12_readLine (F : Nat) (u0 : Option Nat) (f : Hp) : Option ((Int32) × Hp) :=
m_X12_readLine_L2 F F u0 (0 : Int32) f
/-! CopyOrdersModel.house()I -/
def m_X12_house_b82 (F : Nat) (rc82 : (Option Nat) → Int32 → Int32 → Hp → Option ((Int32) × Hp)) (v0 : Option Nat) (v1 : Int32) (v2 : Int32) (fa : Hp) : Option ((Int32) × Hp) :=
if (16 : Int32) ≤ v2 then
((gR fa v0 10 14).bind fun x16 =>
(stI fa 1 x16 (170 : Int32) (0 : Int32)).bind fun f17 =>
some (v1, f17))
else
((gR fa v0 10 17).bind fun x18 =>
(gR fa v0 10 18).bind fun x19 =>
(ldJ fa x19 v2).bind fun x20 =>
(stJ fa x18 v2 x20).bind fun f21 =>
nmd (v2 + (1 : Int32)) fun y22 =>
rc82 v0 v1 y22 f21)
def m_X12_house_L82 (F : Nat) : Nat → Option Nat → Int32 → Int32 → Hp → Option ((Int32) × Hp)
  | 0, _, _, _, _ => none
  | k + 1, v0, v1, v2, fa => m_X12_house_b82 F (m_X12_house_L82 F k) v0 v1 v2 fa
def m_X12_house_b55 (F : Nat) (rc55 : (Option Nat) → Int32 → Int32 → Hp → Option ((Int32) × Hp)) (v0 : Option Nat) (v1 : Int32) (v2 : Int32) (fa : Hp) : Option ((Int32) × Hp) :=
if (170 : Int32) ≤ v2 then
(m_X12_house_L82 F F v0 v1 (0 : Int32) fa)
else
((gR fa v0 10 14).bind fun x10 =>
(gR fa v0 10 15).bind fun x11 =>
(ldI fa 1 x11 v2).bind fun x12 =>
(stI fa 1 x10 v2 x12).bind fun f13 =>
nmd (v2 + (1 : Int32)) fun y14 =>
rc55 v0 v1 y14 f13)
def m_X12_house_L55 (F : Nat) : Nat → Option Nat → Int32 → Int32 → Hp → Option ((Int32) × Hp)
  | 0, _, _, _, _ => none
  | k + 1, v0, v1, v2, fa => m_X12_house_b55 F (m_X12_house_L55 F k) v0 v1 v2 fa
def m_X12_house_b26 (F : Nat) (rc26 : (Option Nat) → Int32 → Hp → Option ((Int32) × Hp)) (v0 : Option Nat) (v1 : Int32) (fa : Hp) : Option ((Int32) × Hp) :=
(gI fa v0 10 7).bind fun x1 =>
if x1 = 0 then
(m_X12_house_L55 F F v0 v1 (0 : Int32) fa)
else
(chk (isO fa v0 10) <|
bd2 (m_X12_readLine F v0 fa) fun x4 f5 =>
if x4 = 0 then
((gI f5 v0 10 11).bind fun x8 =>
some (((-1 : Int32) - x8), f5))
else
(nmd (v1 + (1 : Int32)) fun y7 =>
rc26 v0 y7 f5))
def m_X12_house_L26 (F : Nat) : Nat → Option Nat → Int32 → Hp → Option ((Int32) × Hp)
  | 0, _, _, _ => none
  | k + 1, v0, v1, fa => m_X12_house_b26 F (m_X12_house_L26 F k) v0 v1 fa
def m_X12_house (F : Nat) (u0 : Option Nat) (f : Hp) : Option ((Int32) × Hp) :=
chk (isO f u0 10) <|
(m_X12_begin F u0 (700 : Int32) f).bind fun f24 =>
(gR f24 u0 10 15).bind fun x25 =>
(m_X12_standard F x25 f24).bind fun f26 =>
(pV f26 u0 10 22 (.int (0 : Int32))).bind fun f27 =>
(pV f27 u0 10 23 (.int (0 : Int32))).bind fun f28 =>
m_X12_house_L26 F F u0 (0 : Int32) f28
/-! CopyOrdersModel.image(I)Z -/
def m_X12_image_b55 (F : Nat) (rc55 : (Option Nat) → Int32 → Int32 → Hp → Option ((Int32) × Hp)) (v0 : Option Nat) (v1 : Int32) (v2 : Int32) (fa : Hp) : Option ((Int32) × Hp) :=
if (16 : Int32) ≤ v2 then
((gR fa v0 10 20).bind fun x8 =>
(stI fa 3 x8 v1 (1 : Int32)).bind fun f9 =>
chk (okZ (1 : Int32)) <|
some ((1 : Int32), f9))
else
((gR fa v0 10 19).bind fun x11 =>
(gR fa v0 10 17).bind fun x12 =>
(ldJ fa x12 v2).bind fun x13 =>
(stJ fa x11 (((16 : Int32) * v1) + v2) x13).bind fun f14 =>
nmd (v2 + (1 : Int32)) fun y15 =>
rc55 v0 v1 y15 f14)
def m_X12_image_L55 (F : Nat) : Nat → Option Nat → Int32 → Int32 → Hp → Option ((Int32) × Hp)
  | 0, _, _, _, _ => none
  | k + 1, v0, v1, v2, fa => m_X12_image_b55 F (m_X12_image_L55 F k) v0 v1 v2 fa
def m_X12_image_b22 (F : Nat) (rc22 : (Option Nat) → Int32 → Int32 → Hp → Option ((Int32) × Hp)) (v0 : Option Nat) (v1 : Int32) (v2 : Int32) (fa : Hp) : Option ((Int32) × Hp) :=
if (412 : Int32) ≤ v2 then
(m_X12_image_L55 F F v0 v1 (0 : Int32) fa)
else
((gR fa v0 10 16).bind fun x2 =>
(gR fa v0 10 14).bind fun x3 =>
(ldI fa 1 x3 v2).bind fun x4 =>
(stI fa 1 x2 (((412 : Int32) * v1) + v2) x4).bind fun f5 =>
nmd (v2 + (1 : Int32)) fun y6 =>
rc22 v0 v1 y6 f5)
def m_X12_image_L22 (F : Nat) : Nat → Option Nat → Int32 → Int32 → Hp → Option ((Int32) × Hp)
  | 0, _, _, _, _ => none
  | k + 1, v0, v1, v2, fa => m_X12_image_b22 F (m_X12_image_L22 F k) v0 v1 v2 fa
def m_X12_image (F : Nat) (u0 : Option Nat) (u1 : Int32) (f : Hp) : Option ((Int32) × Hp) :=
(pV f u0 10 0 (.int (0 : Int32))).bind fun f16 =>
chk (isO f16 u0 10) <|
(m_X12_lay F u0 f16).bind fun f18 =>
(m_X12_isIn F u1 (0 : Int32) (1 : Int32) f18).bind fun x19 =>
if x19 = 0 then
(chk (okZ (0 : Int32)) <|
some ((0 : Int32), f18))
else
(m_X12_image_L22 F F u0 u1 (0 : Int32) f18)
/-! CopyOrdersModel.<init>()V -/
def m_X12_init (F : Nat) (u0 : Option Nat) (f : Hp) (n z : Nat) : Option (Hp × Nat × Nat) :=
chk (isS u0) <|
chk (decide (¬ (740 : Int32) < 0 ∧ Int32.toNatClampNeg (740 : Int32) ≤ 100000)) <|
grow pr3 (n + 1) (z + Int32.toNatClampNeg (740 : Int32)) <|
nmd (va_up f (n) (some (.inr (1, Int32.toNatClampNeg (740 : Int32), .inl fun _ => 0)))) fun f4 =>
(pV f4 u0 10 1 (va_rf (some (n)))).bind fun f5 =>
chk (decide (¬ (412 : Int32) < 0 ∧ Int32.toNatClampNeg (412 : Int32) ≤ 100000)) <|
grow pr3 (n + 1 + 1) (z + Int32.toNatClampNeg (740 : Int32) + Int32.toNatClampNeg (412 : Int32)) <|
nmd (va_up f5 (n + 1) (some (.inr (1, Int32.toNatClampNeg (412 : Int32), .inl fun _ => 0)))) fun f8 =>
(pV f8 u0 10 14 (va_rf (some (n + 1)))).bind fun f9 =>
chk (decide (¬ (170 : Int32) < 0 ∧ Int32.toNatClampNeg (170 : Int32) ≤ 100000)) <|
grow pr3 (n + 1 + 1 + 1) (z + Int32.toNatClampNeg (740 : Int32) + Int32.toNatClampNeg (412 : Int32) + Int32.toNatClampNeg (170 : Int32)) <|
nmd (va_up f9 (n + 1 + 1) (some (.inr (1, Int32.toNatClampNeg (170 : Int32), .inl fun _ => 0)))) fun f12 =>
(pV f12 u0 10 15 (va_rf (some (n + 1 + 1)))).bind fun f13 =>
chk (decide (¬ (824 : Int32) < 0 ∧ Int32.toNatClampNeg (824 : Int32) ≤ 100000)) <|
grow pr3 (n + 1 + 1 + 1 + 1) (z + Int32.toNatClampNeg (740 : Int32) + Int32.toNatClampNeg (412 : Int32) + Int32.toNatClampNeg (170 : Int32) + Int32.toNatClampNeg (824 : Int32)) <|
nmd (va_up f13 (n + 1 + 1 + 1) (some (.inr (1, Int32.toNatClampNeg (824 : Int32), .inl fun _ => 0)))) fun f16 =>
(pV f16 u0 10 16 (va_rf (some (n + 1 + 1 + 1)))).bind fun f17 =>
chk (decide (¬ (16 : Int32) < 0 ∧ Int32.toNatClampNeg (16 : Int32) ≤ 100000)) <|
grow pr3 (n + 1 + 1 + 1 + 1 + 1) (z + Int32.toNatClampNeg (740 : Int32) + Int32.toNatClampNeg (412 : Int32) + Int32.toNatClampNeg (170 : Int32) + Int32.toNatClampNeg (824 : Int32) + Int32.toNatClampNeg (16 : Int32)) <|
nmd (va_up f17 (n + 1 + 1 + 1 + 1) (some (.inr (2, Int32.toNatClampNeg (16 : Int32), .inr (.inl fun _ => 0))))) fun f20 =>
(pV f20 u0 10 17 (va_rf (some (n + 1 + 1 + 1 + 1)))).bind fun f21 =>
chk (decide (¬ (16 : Int32) < 0 ∧ Int32.toNatClampNeg (16 : Int32) ≤ 100000)) <|
grow pr3 (n + 1 + 1 + 1 + 1 + 1 + 1) (z + Int32.toNatClampNeg (740 : Int32) + Int32.toNatClampNeg (412 : Int32) + Int32.toNatClampNeg (170 : Int32) + Int32.toNatClampNeg (824 : Int32) + Int32.toNatClampNeg (16 : Int32) + Int32.toNatClampNeg (16 : Int32)) <|
nmd (va_up f21 (n + 1 + 1 + 1 + 1 + 1) (some (.inr (2, Int32.toNatClampNeg (16 : Int32), .inr (.inl fun _ => 0))))) fun f24 =>
(pV f24 u0 10 18 (va_rf (some (n + 1 + 1 + 1 + 1 + 1)))).bind fun f25 =>
chk (decide (¬ (32 : Int32) < 0 ∧ Int32.toNatClampNeg (32 : Int32) ≤ 100000)) <|
grow pr3 (n + 1 + 1 + 1 + 1 + 1 + 1 + 1) (z + Int32.toNatClampNeg (740 : Int32) + Int32.toNatClampNeg (412 : Int32) + Int32.toNatClampNeg (170 : Int32) + Int32.toNatClampNeg (824 : Int32) + Int32.toNatClampNeg (16 : Int32) + Int32.toNatClampNeg (16 : Int32) + Int32.toNatClampNeg (32 : Int32)) <|
nmd (va_up f25 (n + 1 + 1 + 1 + 1 + 1 + 1) (some (.inr (2, Int32.toNatClampNeg (32 : Int32), .inr (.inl fun _ => 0))))) fun f28 =>
(pV f28 u0 10 19 (va_rf (some (n + 1 + 1 + 1 + 1 + 1 + 1)))).bind fun f29 =>
chk (decide (¬ (2 : Int32) < 0 ∧ Int32.toNatClampNeg (2 : Int32) ≤ 100000)) <|
grow pr3 (n + 1 + 1 + 1 + 1 + 1 + 1 + 1 + 1) (z + Int32.toNatClampNeg (740 : Int32) + Int32.toNatClampNeg (412 : Int32) + Int32.toNatClampNeg (170 : Int32) + Int32.toNatClampNeg (824 : Int32) + Int32.toNatClampNeg (16 : Int32) + Int32.toNatClampNeg (16 : Int32) + Int32.toNatClampNeg (32 : Int32) + Int32.toNatClampNeg (2 : Int32)) <|
nmd (va_up f29 (n + 1 + 1 + 1 + 1 + 1 + 1 + 1) (some (.inr (3, Int32.toNatClampNeg (2 : Int32), .inl fun _ => 0)))) fun f32 =>
(pV f32 u0 10 20 (va_rf (some (n + 1 + 1 + 1 + 1 + 1 + 1 + 1)))).bind fun f33 =>
chk (decide (¬ (7 : Int32) < 0 ∧ Int32.toNatClampNeg (7 : Int32) ≤ 100000)) <|
grow pr3 (n + 1 + 1 + 1 + 1 + 1 + 1 + 1 + 1 + 1) (z + Int32.toNatClampNeg (740 : Int32) + Int32.toNatClampNeg (412 : Int32) + Int32.toNatClampNeg (170 : Int32) + Int32.toNatClampNeg (824 : Int32) + Int32.toNatClampNeg (16 : Int32) + Int32.toNatClampNeg (16 : Int32) + Int32.toNatClampNeg (32 : Int32) + Int32.toNatClampNeg (2 : Int32) + Int32.toNatClampNeg (7 : Int32)) <|
nmd (va_up f33 (n + 1 + 1 + 1 + 1 + 1 + 1 + 1 + 1) (some (.inr (1, Int32.toNatClampNeg (7 : Int32), .inl fun _ => 0)))) fun f36 =>
(pV f36 u0 10 24 (va_rf (some (n + 1 + 1 + 1 + 1 + 1 + 1 + 1 + 1)))).bind fun f37 =>
chk (decide (¬ (7 : Int32) < 0 ∧ Int32.toNatClampNeg (7 : Int32) ≤ 100000)) <|
grow pr3 (n + 1 + 1 + 1 + 1 + 1 + 1 + 1 + 1 + 1 + 1) (z + Int32.toNatClampNeg (740 : Int32) + Int32.toNatClampNeg (412 : Int32) + Int32.toNatClampNeg (170 : Int32) + Int32.toNatClampNeg (824 : Int32) + Int32.toNatClampNeg (16 : Int32) + Int32.toNatClampNeg (16 : Int32) + Int32.toNatClampNeg (32 : Int32) + Int32.toNatClampNeg (2 : Int32) + Int32.toNatClampNeg (7 : Int32) + Int32.toNatClampNeg (7 : Int32)) <|
nmd (va_up f37 (n + 1 + 1 + 1 + 1 + 1 + 1 + 1 + 1 + 1) (some (.inr (1, Int32.toNatClampNeg (7 : Int32), .inl fun _ => 0)))) fun f40 =>
(pV f40 u0 10 25 (va_rf (some (n + 1 + 1 + 1 + 1 + 1 + 1 + 1 + 1 + 1)))).bind fun f41 =>
chk (decide (¬ (7 : Int32) < 0 ∧ Int32.toNatClampNeg (7 : Int32) ≤ 100000)) <|
grow pr3 (n + 1 + 1 + 1 + 1 + 1 + 1 + 1 + 1 + 1 + 1 + 1) (z + Int32.toNatClampNeg (740 : Int32) + Int32.toNatClampNeg (412 : Int32) + Int32.toNatClampNeg (170 : Int32) + Int32.toNatClampNeg (824 : Int32) + Int32.toNatClampNeg (16 : Int32) + Int32.toNatClampNeg (16 : Int32) + Int32.toNatClampNeg (32 : Int32) + Int32.toNatClampNeg (2 : Int32) + Int32.toNatClampNeg (7 : Int32) + Int32.toNatClampNeg (7 : Int32) + Int32.toNatClampNeg (7 : Int32)) <|
nmd (va_up f41 (n + 1 + 1 + 1 + 1 + 1 + 1 + 1 + 1 + 1 + 1) (some (.inr (1, Int32.toNatClampNeg (7 : Int32), .inl fun _ => 0)))) fun f44 =>
(pV f44 u0 10 26 (va_rf (some (n + 1 + 1 + 1 + 1 + 1 + 1 + 1 + 1 + 1 + 1)))).bind fun f45 =>
chk (decide (¬ (7 : Int32) < 0 ∧ Int32.toNatClampNeg (7 : Int32) ≤ 100000)) <|
grow pr3 (n + 1 + 1 + 1 + 1 + 1 + 1 + 1 + 1 + 1 + 1 + 1 + 1) (z + Int32.toNatClampNeg (740 : Int32) + Int32.toNatClampNeg (412 : Int32) + Int32.toNatClampNeg (170 : Int32) + Int32.toNatClampNeg (824 : Int32) + Int32.toNatClampNeg (16 : Int32) + Int32.toNatClampNeg (16 : Int32) + Int32.toNatClampNeg (32 : Int32) + Int32.toNatClampNeg (2 : Int32) + Int32.toNatClampNeg (7 : Int32) + Int32.toNatClampNeg (7 : Int32) + Int32.toNatClampNeg (7 : Int32) + Int32.toNatClampNeg (7 : Int32)) <|
nmd (va_up f45 (n + 1 + 1 + 1 + 1 + 1 + 1 + 1 + 1 + 1 + 1 + 1) (some (.inr (1, Int32.toNatClampNeg (7 : Int32), .inl fun _ => 0)))) fun f48 =>
(pV f48 u0 10 27 (va_rf (some (n + 1 + 1 + 1 + 1 + 1 + 1 + 1 + 1 + 1 + 1 + 1)))).bind fun f49 =>
chk (decide (¬ (10 : Int32) < 0 ∧ Int32.toNatClampNeg (10 : Int32) ≤ 100000)) <|
grow pr3 (n + 1 + 1 + 1 + 1 + 1 + 1 + 1 + 1 + 1 + 1 + 1 + 1 + 1) (z + Int32.toNatClampNeg (740 : Int32) + Int32.toNatClampNeg (412 : Int32) + Int32.toNatClampNeg (170 : Int32) + Int32.toNatClampNeg (824 : Int32) + Int32.toNatClampNeg (16 : Int32) + Int32.toNatClampNeg (16 : Int32) + Int32.toNatClampNeg (32 : Int32) + Int32.toNatClampNeg (2 : Int32) + Int32.toNatClampNeg (7 : Int32) + Int32.toNatClampNeg (7 : Int32) + Int32.toNatClampNeg (7 : Int32) + Int32.toNatClampNeg (7 : Int32) + Int32.toNatClampNeg (10 : Int32)) <|
nmd (va_up f49 (n + 1 + 1 + 1 + 1 + 1 + 1 + 1 + 1 + 1 + 1 + 1 + 1) (some (.inr (1, Int32.toNatClampNeg (10 : Int32), .inl fun _ => 0)))) fun f52 =>
(pV f52 u0 10 28 (va_rf (some (n + 1 + 1 + 1 + 1 + 1 + 1 + 1 + 1 + 1 + 1 + 1 + 1)))).bind fun f53 =>
chk (decide (¬ (10 : Int32) < 0 ∧ Int32.toNatClampNeg (10 : Int32) ≤ 100000)) <|
grow pr3 (n + 1 + 1 + 1 + 1 + 1 + 1 + 1 + 1 + 1 + 1 + 1 + 1 + 1 + 1) (z + Int32.toNatClampNeg (740 : Int32) + Int32.toNatClampNeg (412 : Int32) + Int32.toNatClampNeg (170 : Int32) + Int32.toNatClampNeg (824 : Int32) + Int32.toNatClampNeg (16 : Int32) + Int32.toNatClampNeg (16 : Int32) + Int32.toNatClampNeg (32 : Int32) + Int32.toNatClampNeg (2 : Int32) + Int32.toNatClampNeg (7 : Int32) + Int32.toNatClampNeg (7 : Int32) + Int32.toNatClampNeg (7 : Int32) + Int32.toNatClampNeg (7 : Int32) + Int32.toNatClampNeg (10 : Int32) + Int32.toNatClampNeg (10 : Int32)) <|
nmd (va_up f53 (n + 1 + 1 + 1 + 1 + 1 + 1 + 1 + 1 + 1 + 1 + 1 + 1 + 1) (some (.inr (1, Int32.toNatClampNeg (10 : Int32), .inl fun _ => 0)))) fun f56 =>
(pV f56 u0 10 29 (va_rf (some (n + 1 + 1 + 1 + 1 + 1 + 1 + 1 + 1 + 1 + 1 + 1 + 1 + 1)))).bind fun f57 =>
chk (decide (¬ (100 : Int32) < 0 ∧ Int32.toNatClampNeg (100 : Int32) ≤ 100000)) <|
grow pr3 (n + 1 + 1 + 1 + 1 + 1 + 1 + 1 + 1 + 1 + 1 + 1 + 1 + 1 + 1 + 1) (z + Int32.toNatClampNeg (740 : Int32) + Int32.toNatClampNeg (412 : Int32) + Int32.toNatClampNeg (170 : Int32) + Int32.toNatClampNeg (824 : Int32) + Int32.toNatClampNeg (16 : Int32) + Int32.toNatClampNeg (16 : Int32) + Int32.toNatClampNeg (32 : Int32) + Int32.toNatClampNeg (2 : Int32) + Int32.toNatClampNeg (7 : Int32) + Int32.toNatClampNeg (7 : Int32) + Int32.toNatClampNeg (7 : Int32) + Int32.toNatClampNeg (7 : Int32) + Int32.toNatClampNeg (10 : Int32) + Int32.toNatClampNeg (10 : Int32) + Int32.toNatClampNeg (100 : Int32)) <|
nmd (va_up f57 (n + 1 + 1 + 1 + 1 + 1 + 1 + 1 + 1 + 1 + 1 + 1 + 1 + 1 + 1) (some (.inr (1, Int32.toNatClampNeg (100 : Int32), .inl fun _ => 0)))) fun f60 =>
(pV f60 u0 10 30 (va_rf (some (n + 1 + 1 + 1 + 1 + 1 + 1 + 1 + 1 + 1 + 1 + 1 + 1 + 1 + 1)))).bind fun f61 =>
chk (decide (¬ (10 : Int32) < 0 ∧ Int32.toNatClampNeg (10 : Int32) ≤ 100000)) <|
grow pr3 (n + 1 + 1 + 1 + 1 + 1 + 1 + 1 + 1 + 1 + 1 + 1 + 1 + 1 + 1 + 1 + 1) (z + Int32.toNatClampNeg (740 : Int32) + Int32.toNatClampNeg (412 : Int32) + Int32.toNatClampNeg (170 : Int32) + Int32.toNatClampNeg (824 : Int32) + Int32.toNatClampNeg (16 : Int32) + Int32.toNatClampNeg (16 : Int32) + Int32.toNatClampNeg (32 : Int32) + Int32.toNatClampNeg (2 : Int32) + Int32.toNatClampNeg (7 : Int32) + Int32.toNatClampNeg (7 : Int32) + Int32.toNatClampNeg (7 : Int32) + Int32.toNatClampNeg (7 : Int32) + Int32.toNatClampNeg (10 : Int32) + Int32.toNatClampNeg (10 : Int32) + Int32.toNatClampNeg (100 : Int32) + Int32.toNatClampNeg (10 : Int32)) <|
nmd (va_up f61 (n + 1 + 1 + 1 + 1 + 1 + 1 + 1 + 1 + 1 + 1 + 1 + 1 + 1 + 1 + 1) (some (.inr (1, Int32.toNatClampNeg (10 : Int32), .inl fun _ => 0)))) fun f64 =>
(pV f64 u0 10 31 (va_rf (some (n + 1 + 1 + 1 + 1 + 1 + 1 + 1 + 1 + 1 + 1 + 1 + 1 + 1 + 1 + 1)))).bind fun f65 =>
chk (decide (¬ (10 : Int32) < 0 ∧ Int32.toNatClampNeg (10 : Int32) ≤ 100000)) <|
grow pr3 (n + 1 + 1 + 1 + 1 + 1 + 1 + 1 + 1 + 1 + 1 + 1 + 1 + 1 + 1 + 1 + 1 + 1) (z + Int32.toNatClampNeg (740 : Int32) + Int32.toNatClampNeg (412 : Int32) + Int32.toNatClampNeg (170 : Int32) + Int32.toNatClampNeg (824 : Int32) + Int32.toNatClampNeg (16 : Int32) + Int32.toNatClampNeg (16 : Int32) + Int32.toNatClampNeg (32 : Int32) + Int32.toNatClampNeg (2 : Int32) + Int32.toNatClampNeg (7 : Int32) + Int32.toNatClampNeg (7 : Int32) + Int32.toNatClampNeg (7 : Int32) + Int32.toNatClampNeg (7 : Int32) + Int32.toNatClampNeg (10 : Int32) + Int32.toNatClampNeg (10 : Int32) + Int32.toNatClampNeg (100 : Int32) + Int32.toNatClampNeg (10 : Int32) + Int32.toNatClampNeg (10 : Int32)) <|
nmd (va_up f65 (n + 1 + 1 + 1 + 1 + 1 + 1 + 1 + 1 + 1 + 1 + 1 + 1 + 1 + 1 + 1 + 1) (some (.inr (1, Int32.toNatClampNeg (10 : Int32), .inl fun _ => 0)))) fun f68 =>
(pV f68 u0 10 32 (va_rf (some (n + 1 + 1 + 1 + 1 + 1 + 1 + 1 + 1 + 1 + 1 + 1 + 1 + 1 + 1 + 1 + 1)))).bind fun f69 =>
chk (decide (¬ (5040 : Int32) < 0 ∧ Int32.toNatClampNeg (5040 : Int32) ≤ 100000)) <|
grow pr3 (n + 1 + 1 + 1 + 1 + 1 + 1 + 1 + 1 + 1 + 1 + 1 + 1 + 1 + 1 + 1 + 1 + 1 + 1) (z + Int32.toNatClampNeg (740 : Int32) + Int32.toNatClampNeg (412 : Int32) + Int32.toNatClampNeg (170 : Int32) + Int32.toNatClampNeg (824 : Int32) + Int32.toNatClampNeg (16 : Int32) + Int32.toNatClampNeg (16 : Int32) + Int32.toNatClampNeg (32 : Int32) + Int32.toNatClampNeg (2 : Int32) + Int32.toNatClampNeg (7 : Int32) + Int32.toNatClampNeg (7 : Int32) + Int32.toNatClampNeg (7 : Int32) + Int32.toNatClampNeg (7 : Int32) + Int32.toNatClampNeg (10 : Int32) + Int32.toNatClampNeg (10 : Int32) + Int32.toNatClampNeg (100 : Int32) + Int32.toNatClampNeg (10 : Int32) + Int32.toNatClampNeg (10 : Int32) + Int32.toNatClampNeg (5040 : Int32)) <|
nmd (va_up f69 (n + 1 + 1 + 1 + 1 + 1 + 1 + 1 + 1 + 1 + 1 + 1 + 1 + 1 + 1 + 1 + 1 + 1) (some (.inr (2, Int32.toNatClampNeg (5040 : Int32), .inr (.inl fun _ => 0))))) fun f72 =>
(pV f72 u0 10 35 (va_rf (some (n + 1 + 1 + 1 + 1 + 1 + 1 + 1 + 1 + 1 + 1 + 1 + 1 + 1 + 1 + 1 + 1 + 1)))).bind fun f73 =>
chk (decide (¬ (5040 : Int32) < 0 ∧ Int32.toNatClampNeg (5040 : Int32) ≤ 100000)) <|
grow pr3 (n + 1 + 1 + 1 + 1 + 1 + 1 + 1 + 1 + 1 + 1 + 1 + 1 + 1 + 1 + 1 + 1 + 1 + 1 + 1) (z + Int32.toNatClampNeg (740 : Int32) + Int32.toNatClampNeg (412 : Int32) + Int32.toNatClampNeg (170 : Int32) + Int32.toNatClampNeg (824 : Int32) + Int32.toNatClampNeg (16 : Int32) + Int32.toNatClampNeg (16 : Int32) + Int32.toNatClampNeg (32 : Int32) + Int32.toNatClampNeg (2 : Int32) + Int32.toNatClampNeg (7 : Int32) + Int32.toNatClampNeg (7 : Int32) + Int32.toNatClampNeg (7 : Int32) + Int32.toNatClampNeg (7 : Int32) + Int32.toNatClampNeg (10 : Int32) + Int32.toNatClampNeg (10 : Int32) + Int32.toNatClampNeg (100 : Int32) + Int32.toNatClampNeg (10 : Int32) + Int32.toNatClampNeg (10 : Int32) + Int32.toNatClampNeg (5040 : Int32) + Int32.toNatClampNeg (5040 : Int32)) <|
nmd (va_up f73 (n + 1 + 1 + 1 + 1 + 1 + 1 + 1 + 1 + 1 + 1 + 1 + 1 + 1 + 1 + 1 + 1 + 1 + 1) (some (.inr (2, Int32.toNatClampNeg (5040 : Int32), .inr (.inl fun _ => 0))))) fun f76 =>
(pV f76 u0 10 36 (va_rf (some (n + 1 + 1 + 1 + 1 + 1 + 1 + 1 + 1 + 1 + 1 + 1 + 1 + 1 + 1 + 1 + 1 + 1 + 1)))).bind fun f77 =>
chk (decide (¬ (5040 : Int32) < 0 ∧ Int32.toNatClampNeg (5040 : Int32) ≤ 100000)) <|
grow pr3 (n + 1 + 1 + 1 + 1 + 1 + 1 + 1 + 1 + 1 + 1 + 1 + 1 + 1 + 1 + 1 + 1 + 1 + 1 + 1 + 1) (z + Int32.toNatClampNeg (740 : Int32) + Int32.toNatClampNeg (412 : Int32) + Int32.toNatClampNeg (170 : Int32) + Int32.toNatClampNeg (824 : Int32) + Int32.toNatClampNeg (16 : Int32) + Int32.toNatClampNeg (16 : Int32) + Int32.toNatClampNeg (32 : Int32) + Int32.toNatClampNeg (2 : Int32) + Int32.toNatClampNeg (7 : Int32) + Int32.toNatClampNeg (7 : Int32) + Int32.toNatClampNeg (7 : Int32) + Int32.toNatClampNeg (7 : Int32) + Int32.toNatClampNeg (10 : Int32) + Int32.toNatClampNeg (10 : Int32) + Int32.toNatClampNeg (100 : Int32) + Int32.toNatClampNeg (10 : Int32) + Int32.toNatClampNeg (10 : Int32) + Int32.toNatClampNeg (5040 : Int32) + Int32.toNatClampNeg (5040 : Int32) + Int32.toNatClampNeg (5040 : Int32)) <|
nmd (va_up f77 (n + 1 + 1 + 1 + 1 + 1 + 1 + 1 + 1 + 1 + 1 + 1 + 1 + 1 + 1 + 1 + 1 + 1 + 1 + 1) (some (.inr (2, Int32.toNatClampNeg (5040 : Int32), .inr (.inl fun _ => 0))))) fun f80 =>
(pV f80 u0 10 37 (va_rf (some (n + 1 + 1 + 1 + 1 + 1 + 1 + 1 + 1 + 1 + 1 + 1 + 1 + 1 + 1 + 1 + 1 + 1 + 1 + 1)))).bind fun f81 =>
chk (decide (¬ (30240 : Int32) < 0 ∧ Int32.toNatClampNeg (30240 : Int32) ≤ 100000)) <|
grow pr3 (n + 1 + 1 + 1 + 1 + 1 + 1 + 1 + 1 + 1 + 1 + 1 + 1 + 1 + 1 + 1 + 1 + 1 + 1 + 1 + 1 + 1) (z + Int32.toNatClampNeg (740 : Int32) + Int32.toNatClampNeg (412 : Int32) + Int32.toNatClampNeg (170 : Int32) + Int32.toNatClampNeg (824 : Int32) + Int32.toNatClampNeg (16 : Int32) + Int32.toNatClampNeg (16 : Int32) + Int32.toNatClampNeg (32 : Int32) + Int32.toNatClampNeg (2 : Int32) + Int32.toNatClampNeg (7 : Int32) + Int32.toNatClampNeg (7 : Int32) + Int32.toNatClampNeg (7 : Int32) + Int32.toNatClampNeg (7 : Int32) + Int32.toNatClampNeg (10 : Int32) + Int32.toNatClampNeg (10 : Int32) + Int32.toNatClampNeg (100 : Int32) + Int32.toNatClampNeg (10 : Int32) + Int32.toNatClampNeg (10 : Int32) + Int32.toNatClampNeg (5040 : Int32) + Int32.toNatClampNeg (5040 : Int32) + Int32.toNatClampNeg (5040 : Int32) + Int32.toNatClampNeg (30240 : Int32)) <|
nmd (va_up f81 (n + 1 + 1 + 1 + 1 + 1 + 1 + 1 + 1 + 1 + 1 + 1 + 1 + 1 + 1 + 1 + 1 + 1 + 1 + 1 + 1) (some (.inr (1, Int32.toNatClampNeg (30240 : Int32), .inl fun _ => 0)))) fun f84 =>
(pV f84 u0 10 38 (va_rf (some (n + 1 + 1 + 1 + 1 + 1 + 1 + 1 + 1 + 1 + 1 + 1 + 1 + 1 + 1 + 1 + 1 + 1 + 1 + 1 + 1)))).bind fun f85 =>
chk (decide (¬ (7 : Int32) < 0 ∧ Int32.toNatClampNeg (7 : Int32) ≤ 100000)) <|
grow pr3 (n + 1 + 1 + 1 + 1 + 1 + 1 + 1 + 1 + 1 + 1 + 1 + 1 + 1 + 1 + 1 + 1 + 1 + 1 + 1 + 1 + 1 + 1) (z + Int32.toNatClampNeg (740 : Int32) + Int32.toNatClampNeg (412 : Int32) + Int32.toNatClampNeg (170 : Int32) + Int32.toNatClampNeg (824 : Int32) + Int32.toNatClampNeg (16 : Int32) + Int32.toNatClampNeg (16 : Int32) + Int32.toNatClampNeg (32 : Int32) + Int32.toNatClampNeg (2 : Int32) + Int32.toNatClampNeg (7 : Int32) + Int32.toNatClampNeg (7 : Int32) + Int32.toNatClampNeg (7 : Int32) + Int32.toNatClampNeg (7 : Int32) + Int32.toNatClampNeg (10 : Int32) + Int32.toNatClampNeg (10 : Int32) + Int32.toNatClampNeg (100 : Int32) + Int32.toNatClampNeg (10 : Int32) + Int32.toNatClampNeg (10 : Int32) + Int32.toNatClampNeg (5040 : Int32) + Int32.toNatClampNeg (5040 : Int32) + Int32.toNatClampNeg (5040 : Int32) + Int32.toNatClampNeg (30240 : Int32) + Int32.toNatClampNeg (7 : Int32)) <|
nmd (va_up f85 (n + 1 + 1 + 1 + 1 + 1 + 1 + 1 + 1 + 1 + 1 + 1 + 1 + 1 + 1 + 1 + 1 + 1 + 1 + 1 + 1 + 1) (some (.inr (1, Int32.toNatClampNeg (7 : Int32), .inl fun _ => 0)))) fun f88 =>
(pV f88 u0 10 41 (va_rf (some (n + 1 + 1 + 1 + 1 + 1 + 1 + 1 + 1 + 1 + 1 + 1 + 1 + 1 + 1 + 1 + 1 + 1 + 1 + 1 + 1 + 1)))).bind fun f89 =>
chk (decide (¬ (240 : Int32) < 0 ∧ Int32.toNatClampNeg (240 : Int32) ≤ 100000)) <|
grow pr3 (n + 1 + 1 + 1 + 1 + 1 + 1 + 1 + 1 + 1 + 1 + 1 + 1 + 1 + 1 + 1 + 1 + 1 + 1 + 1 + 1 + 1 + 1 + 1) (z + Int32.toNatClampNeg (740 : Int32) + Int32.toNatClampNeg (412 : Int32) + Int32.toNatClampNeg (170 : Int32) + Int32.toNatClampNeg (824 : Int32) + Int32.toNatClampNeg (16 : Int32) + Int32.toNatClampNeg (16 : Int32) + Int32.toNatClampNeg (32 : Int32) + Int32.toNatClampNeg (2 : Int32) + Int32.toNatClampNeg (7 : Int32) + Int32.toNatClampNeg (7 : Int32) + Int32.toNatClampNeg (7 : Int32) + Int32.toNatClampNeg (7 : Int32) + Int32.toNatClampNeg (10 : Int32) + Int32.toNatClampNeg (10 : Int32) + Int32.toNatClampNeg (100 : Int32) + Int32.toNatClampNeg (10 : Int32) + Int32.toNatClampNeg (10 : Int32) + Int32.toNatClampNeg (5040 : Int32) + Int32.toNatClampNeg (5040 : Int32) + Int32.toNatClampNeg (5040 : Int32) + Int32.toNatClampNeg (30240 : Int32) + Int32.toNatClampNeg (7 : Int32) + Int32.toNatClampNeg (240 : Int32)) <|
nmd (va_up f89 (n + 1 + 1 + 1 + 1 + 1 + 1 + 1 + 1 + 1 + 1 + 1 + 1 + 1 + 1 + 1 + 1 + 1 + 1 + 1 + 1 + 1 + 1) (some (.inr (1, Int32.toNatClampNeg (240 : Int32), .inl fun _ => 0)))) fun f92 =>
(pV f92 u0 10 42 (va_rf (some (n + 1 + 1 + 1 + 1 + 1 + 1 + 1 + 1 + 1 + 1 + 1 + 1 + 1 + 1 + 1 + 1 + 1 + 1 + 1 + 1 + 1 + 1)))).bind fun f93 =>
some (f93, n + 1 + 1 + 1 + 1 + 1 + 1 + 1 + 1 + 1 + 1 + 1 + 1 + 1 + 1 + 1 + 1 + 1 + 1 + 1 + 1 + 1 + 1 + 1, z + Int32.toNatClampNeg (740 : Int32) + Int32.toNatClampNeg (412 : Int32) + Int32.toNatClampNeg (170 : Int32) + Int32.toNatClampNeg (824 : Int32) + Int32.toNatClampNeg (16 : Int32) + Int32.toNatClampNeg (16 : Int32) + Int32.toNatClampNeg (32 : Int32) + Int32.toNatClampNeg (2 : Int32) + Int32.toNatClampNeg (7 : Int32) + Int32.toNatClampNeg (7 : Int32) + Int32.toNatClampNeg (7 : Int32) + Int32.toNatClampNeg (7 : Int32) + Int32.toNatClampNeg (10 : Int32) + Int32.toNatClampNeg (10 : Int32) + Int32.toNatClampNeg (100 : Int32) + Int32.toNatClampNeg (10 : Int32) + Int32.toNatClampNeg (10 : Int32) + Int32.toNatClampNeg (5040 : Int32) + Int32.toNatClampNeg (5040 : Int32) + Int32.toNatClampNeg (5040 : Int32) + Int32.toNatClampNeg (30240 : Int32) + Int32.toNatClampNeg (7 : Int32) + Int32.toNatClampNeg (240 : Int32))
/-! CopyOrdersModel.valueOf(III)I -/
def m_X12_valueOf (F : Nat) (u0 : Option Nat) (u1 : Int32) (u2 : Int32) (u3 : Int32) (f : Hp) : Option ((Int32) × Hp) :=
chk (isO f u0 10) <|
(m_X12_layCopies F u0 u3 u2 f).bind fun f2 =>
if u1 = (8 : Int32) then
(chk (isO f2 u0 10) <|
(m_X12_far F u0 f2).bind fun x14 =>
some (x14, f2))
else
(if u1 = (9 : Int32) then
(chk (isO f2 u0 10) <|
(m_X12_steps F u0 f2).bind fun x12 =>
some (x12, f2))
else
(if u1 = (10 : Int32) then
((gR f2 u0 10 26).bind fun x8 =>
chk (isO f2 u0 10) <|
(m_X12_songOf F u0 x8 f2).bind fun x10 =>
some (x10, f2))
else
(chk (isO f2 u0 10) <|
(m_X12_sizeOf F u0 u3 f2).bind fun x7 =>
some (x7, f2))))
/-! CopyOrdersModel.isPlain(II)Z -/
def m_X12_isPlain (F : Nat) (u0 : Option Nat) (u1 : Int32) (u2 : Int32) (f : Hp) : Option ((Int32) × Hp) :=
(gR f u0 10 14).bind fun x1 =>
(ldI f 1 x1 (u1 + (1 : Int32))).bind fun x2 =>
(gR f u0 10 14).bind fun x3 =>
(ldI f 1 x3 (u1 + (2 : Int32))).bind fun x4 =>
(gR f u0 10 26).bind fun x5 =>
chk (isO f u0 10) <|
(m_X12_layCopy F u0 u2 x5 f).bind fun f7 =>
(gR f7 u0 10 14).bind fun x8 =>
(ldI f7 1 x8 u1).bind fun x9 =>
if x9 = (4 : Int32) then
(chk (isO f7 u0 10) <|
(m_X12_isWhole F u0 u2 f7).bind fun x12 =>
chk (okZ x12) <|
some (x12, f7))
else
if x9 = (5 : Int32) then
((gR f7 u0 10 26).bind fun x15 =>
chk (isO f7 u0 10) <|
(m_X12_hasSense F u0 x15 f7).bind fun x17 =>
chk (okZ x17) <|
some (x17, f7))
else
if x9 = (6 : Int32) then
((gR f7 u0 10 26).bind fun x20 =>
(ldI f7 1 x20 x2).bind fun x21 =>
if x21 = (-1 : Int32) then
(chk (okZ (0 : Int32)) <|
some ((0 : Int32), f7))
else
(chk (okZ (1 : Int32)) <|
some ((1 : Int32), f7)))
else
if x9 = (7 : Int32) then
((gR f7 u0 10 26).bind fun x26 =>
(ldI f7 1 x26 x2).bind fun x27 =>
if x27 = (-1 : Int32) then
(chk (okZ (0 : Int32)) <|
some ((0 : Int32), f7))
else
((gR f7 u0 10 26).bind fun x30 =>
(ldI f7 1 x30 x4).bind fun x31 =>
if x31 = (-1 : Int32) then
(chk (okZ (0 : Int32)) <|
some ((0 : Int32), f7))
else
((gR f7 u0 10 26).bind fun x34 =>
(ldI f7 1 x34 x2).bind fun x35 =>
(gR f7 u0 10 26).bind fun x36 =>
(ldI f7 1 x36 x4).bind fun x37 =>
if x37 ≤ x35 then
(chk (okZ (0 : Int32)) <|
some ((0 : Int32), f7))
else
(chk (okZ (1 : Int32)) <|
some ((1 : Int32), f7)))))
else
((gR f7 u0 10 14).bind fun x41 =>
(ldI f7 1 x41 u1).bind fun x42 =>
chk (isO f7 u0 10) <|
bd2 (m_X12_valueOf F u0 x42 x2 u2 f7) fun x44 f45 =>
(gR f45 u0 10 14).bind fun x46 =>
(ldI f45 1 x46 (u1 + (3 : Int32))).bind fun x47 =>
if x47 = (60 : Int32) then
(if x4 ≤ x44 then
(chk (okZ (0 : Int32)) <|
some ((0 : Int32), f45))
else
(chk (okZ (1 : Int32)) <|
some ((1 : Int32), f45)))
else
((gR f45 u0 10 14).bind fun x49 =>
(ldI f45 1 x49 (u1 + (3 : Int32))).bind fun x50 =>
if x50 = (61 : Int32) then
(if x44 = x4 then
(chk (okZ (1 : Int32)) <|
some ((1 : Int32), f45))
else
(chk (okZ (0 : Int32)) <|
some ((0 : Int32), f45)))
else
(if x44 ≤ x4 then
(chk (okZ (0 : Int32)) <|
some ((0 : Int32), f45))
else
(chk (okZ (1 : Int32)) <|
some ((1 : Int32), f45)))))
/-! CopyOrdersModel.isSo(II)Z -/
def b_X12_isSo (F : Nat) (rg : Nat → Option Nat → Int32 → Int32 → Hp → Option (Int32 × Hp)) (u0 : Option Nat) (u1 : Int32) (u2 : Int32) (f : Hp) : Option ((Int32) × Hp) :=
nmd (((172 : Int32) + ((4 : Int32) * u1))) fun y1 =>
(gR f u0 10 14).bind fun x2 =>
(ldI f 1 x2 (y1 + (1 : Int32))).bind fun x3 =>
(gR f u0 10 14).bind fun x4 =>
(ldI f 1 x4 (y1 + (2 : Int32))).bind fun x5 =>
(gR f u0 10 14).bind fun x6 =>
(ldI f 1 x6 y1).bind fun x7 =>
if x7 = (1 : Int32) then
(chk (isO f u0 10) <|
bd2 (rg 0 u0 x3 u2 f) fun x10 f11 =>
if x10 = 0 then
(chk (okZ (1 : Int32)) <|
some ((1 : Int32), f11))
else
(chk (okZ (0 : Int32)) <|
some ((0 : Int32), f11)))
else
if x7 = (2 : Int32) then
(chk (isO f u0 10) <|
bd2 (rg 0 u0 x3 u2 f) fun x17 f18 =>
if x17 = 0 then
(chk (okZ (0 : Int32)) <|
some ((0 : Int32), f18))
else
(chk (isO f18 u0 10) <|
bd2 (rg 0 u0 x5 u2 f18) fun x22 f23 =>
if x22 = 0 then
(chk (okZ (0 : Int32)) <|
some ((0 : Int32), f23))
else
(chk (okZ (1 : Int32)) <|
some ((1 : Int32), f23))))
else
if x7 = (3 : Int32) then
(chk (isO f u0 10) <|
bd2 (rg 0 u0 x3 u2 f) fun x29 f30 =>
if x29 = 0 then
(chk (isO f30 u0 10) <|
bd2 (rg 0 u0 x5 u2 f30) fun x34 f35 =>
if x34 = 0 then
(chk (okZ (0 : Int32)) <|
some ((0 : Int32), f35))
else
(chk (okZ (1 : Int32)) <|
some ((1 : Int32), f35)))
else
(chk (okZ (1 : Int32)) <|
some ((1 : Int32), f30)))
else
(chk (isO f u0 10) <|
bd2 (m_X12_isPlain F u0 y1 u2 f) fun x40 f41 =>
chk (okZ x40) <|
some (x40, f41))
def mg_2 (F : Nat) : Nat → Nat → Option Nat → Int32 → Int32 → Hp → Option (Int32 × Hp)
  | 0, _, _, _, _, _ => none
  | d + 1, s, v0, v1, v2, f => b_X12_isSo F (mg_2 F d) v0 v1 v2 f
def m_X12_isSo (F d : Nat) (v0 : Option Nat) (v1 : Int32) (v2 : Int32) (f : Hp) : Option (Int32 × Hp) := mg_2 F d 0 v0 v1 v2 f
/-! CopyOrdersModel.join(III)I -/
def m_X12_join_B127 (F : Nat) (v3 : Int32) (v4 : Int32) (v5 : Int32) (fa : Hp) : Option ((Int32) × Hp) :=
if v3 = 0 then
(some (v4, fa))
else
(some (v5, fa))
def m_X12_join_b45 (F : Nat) (rc45 : (Option Nat) → Int32 → Int32 → Int32 → Int32 → Int32 → Int32 → Hp → Option ((Int32) × Hp)) (v0 : Option Nat) (v1 : Int32) (v2 : Int32) (v3 : Int32) (v4 : Int32) (v5 : Int32) (v6 : Int32) (fa : Hp) : Option ((Int32) × Hp) :=
chk (isO fa v0 10) <|
(m_X12_orders F v0 fa).bind fun x2 =>
if x2 ≤ v6 then
(m_X12_join_B127 F v3 v4 v5 fa)
else
((gR fa v0 10 26).bind fun x4 =>
chk (isO fa v0 10) <|
(m_X12_layOrder F v0 v6 x4 fa).bind fun f6 =>
(gR f6 v0 10 27).bind fun x7 =>
chk (isO f6 v0 10) <|
(m_X12_layCopy F v0 v1 x7 f6).bind fun f9 =>
chk (isO f9 v0 10) <|
(m_X12_steps F v0 f9).bind fun x11 =>
(gR f9 v0 10 27).bind fun x12 =>
chk (isO f9 v0 10) <|
(m_X12_layCopy F v0 v2 x12 f9).bind fun f14 =>
chk (isO f14 v0 10) <|
(m_X12_steps F v0 f14).bind fun x16 =>
nmd ((x11 + x16)) fun y17 =>
if v4 = (-1 : Int32) then
(nmd (v6 + (1 : Int32)) fun y19 =>
rc45 v0 v1 v2 v3 v6 y17 y19 f14)
else
(if y17 < v5 then
(nmd (v6 + (1 : Int32)) fun y21 =>
rc45 v0 v1 v2 v3 v6 y17 y21 f14)
else
(nmd (v6 + (1 : Int32)) fun y22 =>
rc45 v0 v1 v2 v3 v4 v5 y22 f14)))
def m_X12_join_L45 (F : Nat) : Nat → Option Nat → Int32 → Int32 → Int32 → Int32 → Int32 → Int32 → Hp → Option ((Int32) × Hp)
  | 0, _, _, _, _, _, _, _, _ => none
  | k + 1, v0, v1, v2, v3, v4, v5, v6, fa => m_X12_join_b45 F (m_X12_join_L45 F k) v0 v1 v2 v3 v4 v5 v6 fa
def m_X12_join (F : Nat) (u0 : Option Nat) (u1 : Int32) (u2 : Int32) (u3 : Int32) (f : Hp) : Option ((Int32) × Hp) :=
(pV f u0 10 0 (.int (0 : Int32))).bind fun f24 =>
chk (isO f24 u0 10) <|
(m_X12_lay F u0 f24).bind fun f26 =>
chk (isO f26 u0 10) <|
(m_X12_isCopy F u0 u1 f26).bind fun x28 =>
if x28 = 0 then
(some ((-1 : Int32), f26))
else
(chk (isO f26 u0 10) <|
(m_X12_isCopy F u0 u2 f26).bind fun x31 =>
if x31 = 0 then
(some ((-1 : Int32), f26))
else
((m_X12_isIn F u3 (0 : Int32) (1 : Int32) f26).bind fun x33 =>
if x33 = 0 then
(some ((-1 : Int32), f26))
else
(m_X12_join_L45 F F u0 u1 u2 u3 (-1 : Int32) (0 : Int32) (0 : Int32) f26)))
/-! CopyOrdersModel.joins(I)I -/
def m_X12_joins_B107 (F : Nat) (rc21 : (Option Nat) → Int32 → Int32 → Int32 → Int32 → Hp → Option ((Int32) × Hp)) (rc36 : (Option Nat) → Int32 → Int32 → Int32 → Int32 → Int32 → Int32 → Int32 → Hp → Option ((Int32) × Hp)) (rc57 : (Option Nat) → Int32 → Int32 → Int32 → Int32 → Int32 → Int32 → Int32 → Int32 → Hp → Option ((Int32) × Hp)) (v0 : Option Nat) (v1 : Int32) (v2 : Int32) (v3 : Int32) (v4 : Int32) (v7 : Int32) (v8 : Int32) (fa : Hp) : Option ((Int32) × Hp) :=
(gR fa v0 10 31).bind fun x17 =>
(ldI fa 1 x17 v8).bind fun x18 =>
nmd (v8 + (1 : Int32)) fun y19 =>
rc57 v0 v1 v2 v3 v4 v7 x18 v7 y19 fa
def m_X12_joins_b57 (F : Nat) (rc21 : (Option Nat) → Int32 → Int32 → Int32 → Int32 → Hp → Option ((Int32) × Hp)) (rc36 : (Option Nat) → Int32 → Int32 → Int32 → Int32 → Int32 → Int32 → Int32 → Hp → Option ((Int32) × Hp)) (rc57 : (Option Nat) → Int32 → Int32 → Int32 → Int32 → Int32 → Int32 → Int32 → Int32 → Hp → Option ((Int32) × Hp)) (v0 : Option Nat) (v1 : Int32) (v2 : Int32) (v3 : Int32) (v4 : Int32) (v5 : Int32) (v6 : Int32) (v7 : Int32) (v8 : Int32) (fa : Hp) : Option ((Int32) × Hp) :=
if v4 ≤ v8 then
(nmd (v7 + (1 : Int32)) fun y7 =>
rc36 v0 v1 v2 v3 v4 v5 v6 y7 fa)
else
(if v5 = (-1 : Int32) then
(m_X12_joins_B107 F rc21 rc36 rc57 v0 v1 v2 v3 v4 v7 v8 fa)
else
((gR fa v0 10 30).bind fun x9 =>
(gR fa v0 10 31).bind fun x10 =>
(ldI fa 1 x10 v8).bind fun x11 =>
(ldI fa 1 x9 (((10 : Int32) * v7) + x11)).bind fun x12 =>
(gR fa v0 10 30).bind fun x13 =>
(ldI fa 1 x13 (((10 : Int32) * v5) + v6)).bind fun x14 =>
if x12 < x14 then
(m_X12_joins_B107 F rc21 rc36 rc57 v0 v1 v2 v3 v4 v7 v8 fa)
else
(nmd (v8 + (1 : Int32)) fun y16 =>
rc57 v0 v1 v2 v3 v4 v5 v6 v7 y16 fa)))
def m_X12_joins_L57 (F : Nat) (rc21 : (Option Nat) → Int32 → Int32 → Int32 → Int32 → Hp → Option ((Int32) × Hp)) (rc36 : (Option Nat) → Int32 → Int32 → Int32 → Int32 → Int32 → Int32 → Int32 → Hp → Option ((Int32) × Hp)) : Nat → Option Nat → Int32 → Int32 → Int32 → Int32 → Int32 → Int32 → Int32 → Int32 → Hp → Option ((Int32) × Hp)
  | 0, _, _, _, _, _, _, _, _, _, _ => none
  | k + 1, v0, v1, v2, v3, v4, v5, v6, v7, v8, fa => m_X12_joins_b57 F rc21 rc36 (m_X12_joins_L57 F rc21 rc36 k) v0 v1 v2 v3 v4 v5 v6 v7 v8 fa
def m_X12_joins_B132 (F : Nat) (rc21 : (Option Nat) → Int32 → Int32 → Int32 → Int32 → Hp → Option ((Int32) × Hp)) (v0 : Option Nat) (v1 : Int32) (v2 : Int32) (v3 : Int32) (v4 : Int32) (v5 : Int32) (v6 : Int32) (fa : Hp) : Option ((Int32) × Hp) :=
(gR fa v0 10 30).bind fun x20 =>
(ldI fa 1 x20 (((10 : Int32) * v5) + v6)).bind fun x21 =>
nmd ((v3 + x21)) fun y22 =>
(gR fa v0 10 29).bind fun x23 =>
(stI fa 1 x23 v5 v6).bind fun f24 =>
(gR f24 v0 10 31).bind fun x25 =>
(stI f24 1 x25 v4 v5).bind fun f26 =>
nmd ((v2 ||| ((1 : Int32) <<< (v5 &&& 31)))) fun y27 =>
nmd (v4 + (1 : Int32)) fun y28 =>
rc21 v0 v1 y27 y22 y28 f26
def m_X12_joins_b36 (F : Nat) (rc21 : (Option Nat) → Int32 → Int32 → Int32 → Int32 → Hp → Option ((Int32) × Hp)) (rc36 : (Option Nat) → Int32 → Int32 → Int32 → Int32 → Int32 → Int32 → Int32 → Hp → Option ((Int32) × Hp)) (v0 : Option Nat) (v1 : Int32) (v2 : Int32) (v3 : Int32) (v4 : Int32) (v5 : Int32) (v6 : Int32) (v7 : Int32) (fa : Hp) : Option ((Int32) × Hp) :=
if v1 ≤ v7 then
(m_X12_joins_B132 F rc21 v0 v1 v2 v3 v4 v5 v6 fa)
else
((m_X12_has F v2 v7 fa).bind fun x3 =>
if x3 = 0 then
(m_X12_joins_L57 F rc21 rc36 F v0 v1 v2 v3 v4 v5 v6 v7 (0 : Int32) fa)
else
(nmd (v7 + (1 : Int32)) fun y5 =>
rc36 v0 v1 v2 v3 v4 v5 v6 y5 fa))
def m_X12_joins_L36 (F : Nat) (rc21 : (Option Nat) → Int32 → Int32 → Int32 → Int32 → Hp → Option ((Int32) × Hp)) : Nat → Option Nat → Int32 → Int32 → Int32 → Int32 → Int32 → Int32 → Int32 → Hp → Option ((Int32) × Hp)
  | 0, _, _, _, _, _, _, _, _, _ => none
  | k + 1, v0, v1, v2, v3, v4, v5, v6, v7, fa => m_X12_joins_b36 F rc21 (m_X12_joins_L36 F rc21 k) v0 v1 v2 v3 v4 v5 v6 v7 fa
def m_X12_joins_b21 (F : Nat) (rc21 : (Option Nat) → Int32 → Int32 → Int32 → Int32 → Hp → Option ((Int32) × Hp)) (v0 : Option Nat) (v1 : Int32) (v2 : Int32) (v3 : Int32) (v4 : Int32) (fa : Hp) : Option ((Int32) × Hp) :=
if v1 ≤ v4 then
(some (v3, fa))
else
(m_X12_joins_L36 F rc21 F v0 v1 v2 v3 v4 (-1 : Int32) (-1 : Int32) (1 : Int32) fa)
def m_X12_joins_L21 (F : Nat) : Nat → Option Nat → Int32 → Int32 → Int32 → Int32 → Hp → Option ((Int32) × Hp)
  | 0, _, _, _, _, _, _ => none
  | k + 1, v0, v1, v2, v3, v4, fa => m_X12_joins_b21 F (m_X12_joins_L21 F k) v0 v1 v2 v3 v4 fa
def m_X12_joins (F : Nat) (u0 : Option Nat) (u1 : Int32) (f : Hp) : Option ((Int32) × Hp) :=
(gR f u0 10 31).bind fun x29 =>
(stI f 1 x29 (0 : Int32) (0 : Int32)).bind fun f30 =>
(gR f30 u0 10 29).bind fun x31 =>
(stI f30 1 x31 (0 : Int32) (-1 : Int32)).bind fun f32 =>
m_X12_joins_L21 F F u0 u1 (1 : Int32) (0 : Int32) (1 : Int32) f32
/-! CopyOrdersModel.mayMake(III)Z -/
def m_X12_mayMake (F : Nat) (u0 : Option Nat) (u1 : Int32) (u2 : Int32) (u3 : Int32) (f : Hp) : Option ((Int32) × Hp) :=
chk (isO f u0 10) <|
(m_X12_layCopies F u0 u1 u2 f).bind fun f2 =>
(gR f2 u0 10 14).bind fun x3 =>
(ldI f2 1 x3 ((90 : Int32) + ((2 : Int32) * u3))).bind fun x4 =>
if x4 = (2 : Int32) then
(chk (isO f2 u0 10) <|
(m_X12_sizeOf F u0 u2 f2).bind fun x7 =>
chk (isO f2 u0 10) <|
(m_X12_sizeOf F u0 u1 f2).bind fun x9 =>
if x7 = (x9 - (1 : Int32)) then
(chk (isO f2 u0 10) <|
(m_X12_fallen F u0 f2).bind fun x13 =>
if x13 = (1 : Int32) then
(chk (isO f2 u0 10) <|
(m_X12_steps F u0 f2).bind fun x17 =>
if x17 = 0 then
(chk (okZ (1 : Int32)) <|
some ((1 : Int32), f2))
else
(chk (okZ (0 : Int32)) <|
some ((0 : Int32), f2)))
else
(chk (okZ (0 : Int32)) <|
some ((0 : Int32), f2)))
else
(chk (okZ (0 : Int32)) <|
some ((0 : Int32), f2)))
else
(chk (isO f2 u0 10) <|
(m_X12_fallen F u0 f2).bind fun x22 =>
if x22 = 0 then
(if x4 = 0 then
(chk (isO f2 u0 10) <|
(m_X12_steps F u0 f2).bind fun x34 =>
if x34 = (1 : Int32) then
(chk (okZ (1 : Int32)) <|
some ((1 : Int32), f2))
else
(chk (okZ (0 : Int32)) <|
some ((0 : Int32), f2)))
else
(chk (isO f2 u0 10) <|
(m_X12_steps F u0 f2).bind fun x27 =>
(gR f2 u0 10 14).bind fun x28 =>
(ldI f2 1 x28 (((90 : Int32) + ((2 : Int32) * u3)) + (1 : Int32))).bind fun x29 =>
if x29 < x27 then
(chk (okZ (0 : Int32)) <|
some ((0 : Int32), f2))
else
(chk (okZ (1 : Int32)) <|
some ((1 : Int32), f2))))
else
(chk (okZ (0 : Int32)) <|
some ((0 : Int32), f2)))
/-! CopyOrdersModel.judge(I)I -/
def m_X12_judge_b59 (F : Nat) (rc59 : (Option Nat) → Int32 → Int32 → Int32 → Hp → Option ((Int32) × Hp)) (v0 : Option Nat) (v1 : Int32) (v2 : Int32) (v3 : Int32) (fa : Hp) : Option ((Int32) × Hp) :=
if v2 ≤ v3 then
(some ((0 : Int32), fa))
else
((gR fa v0 10 1).bind fun x9 =>
(ldI fa 1 x9 (v3 - (1 : Int32))).bind fun x10 =>
(gR fa v0 10 1).bind fun x11 =>
(ldI fa 1 x11 v3).bind fun x12 =>
chk (isO fa v0 10) <|
bd2 (m_X12_mayMake F v0 x10 x12 v1 fa) fun x14 f15 =>
if x14 = 0 then
(some (v3, f15))
else
(nmd (v3 + (1 : Int32)) fun y17 =>
rc59 v0 v1 v2 y17 f15))
def m_X12_judge_L59 (F : Nat) : Nat → Option Nat → Int32 → Int32 → Int32 → Hp → Option ((Int32) × Hp)
  | 0, _, _, _, _, _ => none
  | k + 1, v0, v1, v2, v3, fa => m_X12_judge_b59 F (m_X12_judge_L59 F k) v0 v1 v2 v3 fa
def m_X12_judge_b31 (F : Nat) (rc31 : (Option Nat) → Int32 → Int32 → Int32 → Hp → Option ((Int32) × Hp)) (v0 : Option Nat) (v1 : Int32) (v2 : Int32) (v3 : Int32) (fa : Hp) : Option ((Int32) × Hp) :=
if v2 ≤ v3 then
(m_X12_judge_L59 F F v0 v1 v2 (1 : Int32) fa)
else
((gR fa v0 10 1).bind fun x2 =>
(ldI fa 1 x2 v3).bind fun x3 =>
chk (isO fa v0 10) <|
(m_X12_isCopy F v0 x3 fa).bind fun x5 =>
if x5 = 0 then
(some ((-1 : Int32), fa))
else
(nmd (v3 + (1 : Int32)) fun y7 =>
rc31 v0 v1 v2 y7 fa))
def m_X12_judge_L31 (F : Nat) : Nat → Option Nat → Int32 → Int32 → Int32 → Hp → Option ((Int32) × Hp)
  | 0, _, _, _, _, _ => none
  | k + 1, v0, v1, v2, v3, fa => m_X12_judge_b31 F (m_X12_judge_L31 F k) v0 v1 v2 v3 fa
def m_X12_judge (F : Nat) (u0 : Option Nat) (u1 : Int32) (f : Hp) : Option ((Int32) × Hp) :=
(pV f u0 10 0 (.int (0 : Int32))).bind fun f18 =>
chk (isO f18 u0 10) <|
(m_X12_lay F u0 f18).bind fun f20 =>
chk (isO f20 u0 10) <|
bd2 (m_X12_take F u0 f20) fun x22 f23 =>
if x22 < (2 : Int32) then
(some ((-1 : Int32), f23))
else
(chk (isO f23 u0 10) <|
(m_X12_isDesk F u0 u1 f23).bind fun x26 =>
if x26 = 0 then
(some ((-1 : Int32), f23))
else
(m_X12_judge_L31 F F u0 u1 x22 (0 : Int32) f23))
/-! CopyOrdersModel.just(IIII)I -/
def m_X12_just_B121 (F : Nat) (s0 : Int32) (fa : Hp) : Option ((Int32) × Hp) :=
if s0 = 0 then
(some ((0 : Int32), fa))
else
(some ((1 : Int32), fa))
def m_X12_just_B81 (F : Nat) (fa : Hp) : Option ((Int32) × Hp) :=
m_X12_just_B121 F (0 : Int32) fa
def m_X12_just_B120 (F : Nat) (fa : Hp) : Option ((Int32) × Hp) :=
m_X12_just_B121 F (0 : Int32) fa
def m_X12_just (F : Nat) (u0 : Option Nat) (u1 : Int32) (u2 : Int32) (u3 : Int32) (u4 : Int32) (f : Hp) : Option ((Int32) × Hp) :=
(pV f u0 10 0 (.int (0 : Int32))).bind fun f2 =>
chk (isO f2 u0 10) <|
(m_X12_lay F u0 f2).bind fun f4 =>
chk (isO f4 u0 10) <|
(m_X12_areWhole F u0 u1 u2 f4).bind fun x6 =>
if x6 = 0 then
(some ((-1 : Int32), f4))
else
(chk (isO f4 u0 10) <|
(m_X12_isDesk F u0 u3 f4).bind fun x9 =>
if x9 = 0 then
(some ((-1 : Int32), f4))
else
(if 0 ≤ u4 then
(chk (isO f4 u0 10) <|
bd2 (m_X12_fewestOf F u0 u1 u2 u3 f4) fun x13 f14 =>
(gR f14 u0 10 14).bind fun x15 =>
(ldI f14 1 x15 ((90 : Int32) + ((2 : Int32) * u3))).bind fun x16 =>
if x16 = 0 then
(if u4 < x13 then
(m_X12_just_B81 F  f14)
else
(chk (decide (¬ (2 : Int32) = 0)) <|
if (irm (u4 - x13) (2 : Int32)) = 0 then
(m_X12_just_B121 F (1 : Int32) f14)
else
(m_X12_just_B81 F  f14)))
else
(if x16 = (1 : Int32) then
(if u4 < x13 then
(m_X12_just_B121 F (0 : Int32) f14)
else
(m_X12_just_B121 F (1 : Int32) f14))
else
(if u4 = 0 then
(if x13 = 0 then
(m_X12_just_B121 F (1 : Int32) f14)
else
(m_X12_just_B120 F  f14))
else
(m_X12_just_B120 F  f14))))
else
(some ((-1 : Int32), f4))))
/-! CopyOrdersModel.layApart()V -/
def m_X12_layApart_b12 (F : Nat) (rc2 : (Option Nat) → Int32 → Hp → Option Hp) (rc12 : (Option Nat) → Int32 → Int32 → Hp → Option Hp) (v0 : Option Nat) (v1 : Int32) (v2 : Int32) (fa : Hp) : Option Hp :=
(gI fa v0 10 33).bind fun x3 =>
if x3 ≤ v2 then
(nmd (v1 + (1 : Int32)) fun y5 =>
rc2 v0 y5 fa)
else
((gR fa v0 10 28).bind fun x6 =>
(ldI fa 1 x6 v1).bind fun x7 =>
(gR fa v0 10 28).bind fun x8 =>
(ldI fa 1 x8 v2).bind fun x9 =>
chk (isO fa v0 10) <|
(m_X12_layCopies F v0 x7 x9 fa).bind fun f11 =>
(gR f11 v0 10 30).bind fun x12 =>
chk (isO f11 v0 10) <|
(m_X12_far F v0 f11).bind fun x14 =>
(stI f11 1 x12 (((10 : Int32) * v1) + v2) x14).bind fun f15 =>
nmd (v2 + (1 : Int32)) fun y16 =>
rc12 v0 v1 y16 f15)
def m_X12_layApart_L12 (F : Nat) (rc2 : (Option Nat) → Int32 → Hp → Option Hp) : Nat → Option Nat → Int32 → Int32 → Hp → Option Hp
  | 0, _, _, _, _ => none
  | k + 1, v0, v1, v2, fa => m_X12_layApart_b12 F rc2 (m_X12_layApart_L12 F rc2 k) v0 v1 v2 fa
def m_X12_layApart_b2 (F : Nat) (rc2 : (Option Nat) → Int32 → Hp → Option Hp) (v0 : Option Nat) (v1 : Int32) (fa : Hp) : Option Hp :=
(gI fa v0 10 33).bind fun x1 =>
if x1 ≤ v1 then
(some fa)
else
(m_X12_layApart_L12 F rc2 F v0 v1 (0 : Int32) fa)
def m_X12_layApart_L2 (F : Nat) : Nat → Option Nat → Int32 → Hp → Option Hp
  | 0, _, _, _ => none
  | k + 1, v0, v1, fa => m_X12_layApart_b2 F (m_X12_layApart_L2 F k) v0 v1 fa
def m_X12_layApart (F : Nat) (u0 : Option Nat) (f : Hp) : Option Hp :=
m_X12_layApart_L2 F F u0 (0 : Int32) f
/-! CopyOrdersModel.lays(IIII)I -/
def m_X12_lays (F : Nat) (u0 : Option Nat) (u1 : Int32) (u2 : Int32) (u3 : Int32) (u4 : Int32) (f : Hp) : Option ((Int32) × Hp) :=
(gI f u0 10 43).bind fun x1 =>
nmd (((4 : Int32) * x1)) fun y2 =>
(gR f u0 10 42).bind fun x3 =>
(stI f 1 x3 y2 u1).bind fun f4 =>
(gR f4 u0 10 42).bind fun x5 =>
(stI f4 1 x5 (y2 + (1 : Int32)) u2).bind fun f6 =>
(gR f6 u0 10 42).bind fun x7 =>
(stI f6 1 x7 (y2 + (2 : Int32)) u3).bind fun f8 =>
(gR f8 u0 10 42).bind fun x9 =>
(stI f8 1 x9 (y2 + (3 : Int32)) u4).bind fun f10 =>
(gI f10 u0 10 43).bind fun x11 =>
(pV f10 u0 10 43 (.int (x11 + (1 : Int32)))).bind fun f12 =>
(gI f12 u0 10 43).bind fun x13 =>
some ((x13 - (1 : Int32)), f12)
/-! CopyOrdersModel.orderOf(I)I -/
def m_X12_orderOf_b2 (F : Nat) (rc2 : (Option Nat) → Int32 → Int32 → Hp → Option ((Int32) × Hp)) (v0 : Option Nat) (v1 : Int32) (v2 : Int32) (fa : Hp) : Option ((Int32) × Hp) :=
chk (isO fa v0 10) <|
(m_X12_lines F v0 fa).bind fun x2 =>
if x2 ≤ v2 then
(chk (isO fa v0 10) <|
(m_X12_numberOf F v0 fa).bind fun x5 =>
some (x5, fa))
else
((gR fa v0 10 24).bind fun x6 =>
chk (isO fa v0 10) <|
(m_X12_lineOf F v0 v1 v2 fa).bind fun x8 =>
(stI fa 1 x6 v2 x8).bind fun f9 =>
nmd (v2 + (1 : Int32)) fun y10 =>
rc2 v0 v1 y10 f9)
def m_X12_orderOf_L2 (F : Nat) : Nat → Option Nat → Int32 → Int32 → Hp → Option ((Int32) × Hp)
  | 0, _, _, _, _ => none
  | k + 1, v0, v1, v2, fa => m_X12_orderOf_b2 F (m_X12_orderOf_L2 F k) v0 v1 v2 fa
def m_X12_orderOf (F : Nat) (u0 : Option Nat) (u1 : Int32) (f : Hp) : Option ((Int32) × Hp) :=
m_X12_orderOf_L2 F F u0 u1 (0 : Int32) f
/-! CopyOrdersModel.likeliest(IIII)I -/
def m_X12_likeliest_B155 (F : Nat) (v0 : Option Nat) (v5 : Int32) (v6 : Int64) (fa : Hp) : Option ((Int32) × Hp) :=
if v5 = (-1 : Int32) then
(some (v5, fa))
else
((pV fa v0 10 40 (.long v6)).bind fun f26 =>
some (v5, f26))
def m_X12_likeliest_b104 (F : Nat) (rc104 : (Option Nat) → Int32 → Int64 → Int32 → Hp → Option ((Int32) × Hp)) (v0 : Option Nat) (v5 : Int32) (v6 : Int64) (v8 : Int32) (fa : Hp) : Option ((Int32) × Hp) :=
chk (isO fa v0 10) <|
(m_X12_orders F v0 fa).bind fun x15 =>
if x15 ≤ v8 then
(m_X12_likeliest_B155 F v0 v5 v6 fa)
else
((gR fa v0 10 37).bind fun x17 =>
(ldJ fa x17 v8).bind fun x18 =>
(gR fa v0 10 35).bind fun x19 =>
(ldJ fa x19 v8).bind fun x20 =>
nmd ((x18 * x20)) fun y21 =>
if 0 < (lg_cmp y21 v6) then
(nmd (v8 + (1 : Int32)) fun y23 =>
rc104 v0 v8 y21 y23 fa)
else
(nmd (v8 + (1 : Int32)) fun y24 =>
rc104 v0 v5 v6 y24 fa))
def m_X12_likeliest_L104 (F : Nat) : Nat → Option Nat → Int32 → Int64 → Int32 → Hp → Option ((Int32) × Hp)
  | 0, _, _, _, _, _ => none
  | k + 1, v0, v5, v6, v8, fa => m_X12_likeliest_b104 F (m_X12_likeliest_L104 F k) v0 v5 v6 v8 fa
def m_X12_likeliest_B83 (F : Nat) (v0 : Option Nat) (v3 : Int32) (v4 : Int32) (fa : Hp) : Option ((Int32) × Hp) :=
chk (isO fa v0 10) <|
bd2 (m_X12_orderOf F v0 v3 fa) fun x10 f11 =>
chk (isO f11 v0 10) <|
(m_X12_layWays F v0 x10 v4 (0 : Int32) f11).bind fun f13 =>
m_X12_likeliest_L104 F F v0 (-1 : Int32) (0 : Int64) (0 : Int32) f13
def m_X12_likeliest_b54 (F : Nat) (rc54 : (Option Nat) → Int32 → Int32 → Int32 → Hp → Option ((Int32) × Hp)) (v0 : Option Nat) (v3 : Int32) (v4 : Int32) (v5 : Int32) (fa : Hp) : Option ((Int32) × Hp) :=
chk (isO fa v0 10) <|
(m_X12_orders F v0 fa).bind fun x2 =>
if x2 ≤ v5 then
(m_X12_likeliest_B83 F v0 v3 v4 fa)
else
((gR fa v0 10 37).bind fun x4 =>
(gR fa v0 10 35).bind fun x5 =>
(ldJ fa x5 v5).bind fun x6 =>
(stJ fa x4 v5 x6).bind fun f7 =>
nmd (v5 + (1 : Int32)) fun y8 =>
rc54 v0 v3 v4 y8 f7)
def m_X12_likeliest_L54 (F : Nat) : Nat → Option Nat → Int32 → Int32 → Int32 → Hp → Option ((Int32) × Hp)
  | 0, _, _, _, _, _ => none
  | k + 1, v0, v3, v4, v5, fa => m_X12_likeliest_b54 F (m_X12_likeliest_L54 F k) v0 v3 v4 v5 fa
def m_X12_likeliest (F : Nat) (u0 : Option Nat) (u1 : Int32) (u2 : Int32) (u3 : Int32) (u4 : Int32) (f : Hp) : Option ((Int32) × Hp) :=
(pV f u0 10 0 (.int (0 : Int32))).bind fun f27 =>
chk (isO f27 u0 10) <|
(m_X12_lay F u0 f27).bind fun f29 =>
chk (isO f29 u0 10) <|
(m_X12_areWhole F u0 u1 u3 f29).bind fun x31 =>
if x31 = 0 then
(some ((-2 : Int32), f29))
else
((m_X12_isIn F u2 (0 : Int32) (5 : Int32) f29).bind fun x33 =>
if x33 = 0 then
(some ((-2 : Int32), f29))
else
((m_X12_isIn F u4 (0 : Int32) (5 : Int32) f29).bind fun x35 =>
if x35 = 0 then
(some ((-2 : Int32), f29))
else
(chk (isO f29 u0 10) <|
bd2 (m_X12_orderOf F u0 u1 f29) fun x38 f39 =>
chk (isO f39 u0 10) <|
(m_X12_layWays F u0 x38 u2 (0 : Int32) f39).bind fun f41 =>
m_X12_likeliest_L54 F F u0 u3 u4 (0 : Int32) f41)))
/-! CopyOrdersModel.likely()J -/
def m_X12_likely (F : Nat) (u0 : Option Nat) (f : Hp) : Option ((Int64) × Hp) :=
(pV f u0 10 0 (.int (0 : Int32))).bind fun f1 =>
(gJ f1 u0 10 40).bind fun x2 =>
some (x2, f1)
/-! CopyOrdersModel.refuse()I -/
def m_X12_refuse (F : Nat) (u0 : Option Nat) (f : Hp) : Option ((Int32) × Hp) :=
(pV f u0 10 0 (.int (1 : Int32))).bind fun f1 =>
some ((0 : Int32), f1)
/-! CopyOrdersModel.line(II)I -/
def m_X12_line (F : Nat) (u0 : Option Nat) (u1 : Int32) (u2 : Int32) (f : Hp) : Option ((Int32) × Hp) :=
chk (isO f u0 10) <|
(m_X12_lay F u0 f).bind fun f2 =>
chk (isO f2 u0 10) <|
(m_X12_isCopy F u0 u1 f2).bind fun x4 =>
if x4 = 0 then
(chk (isO f2 u0 10) <|
bd2 (m_X12_refuse F u0 f2) fun x7 f8 =>
some (x7, f8))
else
(if u2 < 0 then
(chk (isO f2 u0 10) <|
bd2 (m_X12_refuse F u0 f2) fun x11 f12 =>
some (x11, f12))
else
(chk (isO f2 u0 10) <|
(m_X12_sizeOf F u0 u1 f2).bind fun x14 =>
if u2 < x14 then
((pV f2 u0 10 0 (.int (0 : Int32))).bind fun f16 =>
chk (isO f16 u0 10) <|
(m_X12_lineOf F u0 u1 u2 f16).bind fun x18 =>
some (x18, f16))
else
(chk (isO f2 u0 10) <|
bd2 (m_X12_refuse F u0 f2) fun x20 f21 =>
some (x20, f21))))
/-! CopyOrdersModel.made(II)I -/
def m_X12_made_b32 (F : Nat) (rc32 : (Option Nat) → Int32 → Int32 → Int32 → Int32 → Hp → Option ((Int32) × Hp)) (v0 : Option Nat) (v1 : Int32) (v2 : Int32) (v3 : Int32) (v4 : Int32) (fa : Hp) : Option ((Int32) × Hp) :=
(gR fa v0 10 14).bind fun x1 =>
(ldI fa 1 x1 (2 : Int32)).bind fun x2 =>
if x2 ≤ v4 then
(some (v3, fa))
else
(chk (isO fa v0 10) <|
bd2 (m_X12_mayMake F v0 v1 v2 v4 fa) fun x5 f6 =>
if x5 = 0 then
(nmd (v4 + (1 : Int32)) fun y8 =>
rc32 v0 v1 v2 v3 y8 f6)
else
(nmd ((v3 ||| ((1 : Int32) <<< (v4 &&& 31)))) fun y9 =>
nmd (v4 + (1 : Int32)) fun y10 =>
rc32 v0 v1 v2 y9 y10 f6))
def m_X12_made_L32 (F : Nat) : Nat → Option Nat → Int32 → Int32 → Int32 → Int32 → Hp → Option ((Int32) × Hp)
  | 0, _, _, _, _, _, _ => none
  | k + 1, v0, v1, v2, v3, v4, fa => m_X12_made_b32 F (m_X12_made_L32 F k) v0 v1 v2 v3 v4 fa
def m_X12_made (F : Nat) (u0 : Option Nat) (u1 : Int32) (u2 : Int32) (f : Hp) : Option ((Int32) × Hp) :=
(pV f u0 10 0 (.int (0 : Int32))).bind fun f11 =>
chk (isO f11 u0 10) <|
(m_X12_lay F u0 f11).bind fun f13 =>
chk (isO f13 u0 10) <|
(m_X12_isCopy F u0 u1 f13).bind fun x15 =>
if x15 = 0 then
(some ((-1 : Int32), f13))
else
(chk (isO f13 u0 10) <|
(m_X12_isCopy F u0 u2 f13).bind fun x18 =>
if x18 = 0 then
(some ((-1 : Int32), f13))
else
(m_X12_made_L32 F F u0 u1 u2 (0 : Int32) (0 : Int32) f13))
/-! CopyOrdersModel.marks(I)I -/
def m_X12_marks_B56 (F : Nat) (rc23 : (Option Nat) → Int32 → Int32 → Hp → Option ((Int32) × Hp)) (v0 : Option Nat) (v1 : Int32) (v2 : Int32) (fa : Hp) : Option ((Int32) × Hp) :=
chk (isO fa v0 10) <|
bd2 (m_X12_nearestLike F v0 fa) fun x14 f15 =>
if x14 ≤ ((2 : Int32) * v1) then
(nmd (v2 + (1 : Int32)) fun y17 =>
rc23 v0 v1 y17 f15)
else
(some (v2, f15))
def m_X12_marks_b33 (F : Nat) (rc23 : (Option Nat) → Int32 → Int32 → Hp → Option ((Int32) × Hp)) (rc33 : (Option Nat) → Int32 → Int32 → Int32 → Hp → Option ((Int32) × Hp)) (v0 : Option Nat) (v1 : Int32) (v2 : Int32) (v3 : Int32) (fa : Hp) : Option ((Int32) × Hp) :=
chk (isO fa v0 10) <|
(m_X12_lines F v0 fa).bind fun x7 =>
if x7 ≤ v3 then
(m_X12_marks_B56 F rc23 v0 v1 v2 fa)
else
((gR fa v0 10 41).bind fun x9 =>
chk (decide (¬ v2 = 0)) <|
(stI fa 1 x9 v3 (irm v3 v2)).bind fun f11 =>
nmd (v3 + (1 : Int32)) fun y12 =>
rc33 v0 v1 v2 y12 f11)
def m_X12_marks_L33 (F : Nat) (rc23 : (Option Nat) → Int32 → Int32 → Hp → Option ((Int32) × Hp)) : Nat → Option Nat → Int32 → Int32 → Int32 → Hp → Option ((Int32) × Hp)
  | 0, _, _, _, _, _ => none
  | k + 1, v0, v1, v2, v3, fa => m_X12_marks_b33 F rc23 (m_X12_marks_L33 F rc23 k) v0 v1 v2 v3 fa
def m_X12_marks_b23 (F : Nat) (rc23 : (Option Nat) → Int32 → Int32 → Hp → Option ((Int32) × Hp)) (v0 : Option Nat) (v1 : Int32) (v2 : Int32) (fa : Hp) : Option ((Int32) × Hp) :=
chk (isO fa v0 10) <|
(m_X12_lines F v0 fa).bind fun x2 =>
if x2 ≤ v2 then
(chk (isO fa v0 10) <|
(m_X12_lines F v0 fa).bind fun x5 =>
some (x5, fa))
else
(m_X12_marks_L33 F rc23 F v0 v1 v2 (0 : Int32) fa)
def m_X12_marks_L23 (F : Nat) : Nat → Option Nat → Int32 → Int32 → Hp → Option ((Int32) × Hp)
  | 0, _, _, _, _ => none
  | k + 1, v0, v1, v2, fa => m_X12_marks_b23 F (m_X12_marks_L23 F k) v0 v1 v2 fa
def m_X12_marks (F : Nat) (u0 : Option Nat) (u1 : Int32) (f : Hp) : Option ((Int32) × Hp) :=
(pV f u0 10 0 (.int (0 : Int32))).bind fun f18 =>
chk (isO f18 u0 10) <|
(m_X12_lay F u0 f18).bind fun f20 =>
(m_X12_isIn F u1 (0 : Int32) (9 : Int32) f20).bind fun x21 =>
if x21 = 0 then
(some ((-1 : Int32), f20))
else
(m_X12_marks_L23 F F u0 u1 (1 : Int32) f20)
/-! CopyOrdersModel.mended(II)I -/
def m_X12_mended_B112 (F : Nat) (v2 : Int32) (v3 : Int32) (v4 : Int32) (fa : Hp) : Option ((Int32) × Hp) :=
if v3 = (-1 : Int32) then
(some ((-1 : Int32), fa))
else
(if v2 = 0 then
(some (v3, fa))
else
(some (v4, fa)))
def m_X12_mended_b45 (F : Nat) (rc45 : (Option Nat) → Int32 → Int32 → Int32 → Int32 → Hp → Option ((Int32) × Hp)) (v0 : Option Nat) (v2 : Int32) (v3 : Int32) (v4 : Int32) (v5 : Int32) (fa : Hp) : Option ((Int32) × Hp) :=
chk (isO fa v0 10) <|
(m_X12_orders F v0 fa).bind fun x2 =>
if x2 ≤ v5 then
(m_X12_mended_B112 F v2 v3 v4 fa)
else
((gR fa v0 10 26).bind fun x4 =>
chk (isO fa v0 10) <|
(m_X12_layOrder F v0 v5 x4 fa).bind fun f6 =>
(gR f6 v0 10 26).bind fun x7 =>
chk (isO f6 v0 10) <|
(m_X12_hasSense F v0 x7 f6).bind fun x9 =>
if x9 = 0 then
(nmd (v5 + (1 : Int32)) fun y18 =>
rc45 v0 v2 v3 v4 y18 f6)
else
(chk (isO f6 v0 10) <|
(m_X12_far F v0 f6).bind fun x12 =>
if v3 = (-1 : Int32) then
(nmd (v5 + (1 : Int32)) fun y14 =>
rc45 v0 v2 v5 x12 y14 f6)
else
(if x12 < v4 then
(nmd (v5 + (1 : Int32)) fun y16 =>
rc45 v0 v2 v5 x12 y16 f6)
else
(nmd (v5 + (1 : Int32)) fun y17 =>
rc45 v0 v2 v3 v4 y17 f6))))
def m_X12_mended_L45 (F : Nat) : Nat → Option Nat → Int32 → Int32 → Int32 → Int32 → Hp → Option ((Int32) × Hp)
  | 0, _, _, _, _, _, _ => none
  | k + 1, v0, v2, v3, v4, v5, fa => m_X12_mended_b45 F (m_X12_mended_L45 F k) v0 v2 v3 v4 v5 fa
def m_X12_mended (F : Nat) (u0 : Option Nat) (u1 : Int32) (u2 : Int32) (f : Hp) : Option ((Int32) × Hp) :=
(pV f u0 10 0 (.int (0 : Int32))).bind fun f21 =>
chk (isO f21 u0 10) <|
(m_X12_lay F u0 f21).bind fun f23 =>
chk (isO f23 u0 10) <|
(m_X12_isCopy F u0 u1 f23).bind fun x25 =>
if x25 = 0 then
(some ((-1 : Int32), f23))
else
((m_X12_isIn F u2 (0 : Int32) (1 : Int32) f23).bind fun x27 =>
if x27 = 0 then
(some ((-1 : Int32), f23))
else
((gR f23 u0 10 27).bind fun x29 =>
chk (isO f23 u0 10) <|
(m_X12_layCopy F u0 u1 x29 f23).bind fun f31 =>
m_X12_mended_L45 F F u0 u2 (-1 : Int32) (0 : Int32) (0 : Int32) f31))
/-! CopyOrdersModel.missing(I)I -/
def m_X12_missing_B177 (F : Nat) (rc76 : (Option Nat) → Int32 → Int32 → Int32 → Int32 → Hp → Option ((Int32) × Hp)) (v0 : Option Nat) (v1 : Int32) (v2 : Int32) (v3 : Int32) (v4 : Int32) (fa : Hp) : Option ((Int32) × Hp) :=
(gI fa v0 10 33).bind fun x40 =>
chk (isO fa v0 10) <|
bd2 (m_X12_joins F v0 ((x40 + (1 : Int32))) fa) fun x42 f43 =>
if x42 < v2 then
(nmd (v4 + (1 : Int32)) fun y45 =>
rc76 v0 v1 x42 v4 y45 f43)
else
(nmd (v4 + (1 : Int32)) fun y46 =>
rc76 v0 v1 v2 v3 y46 f43)
def m_X12_missing_b98 (F : Nat) (rc76 : (Option Nat) → Int32 → Int32 → Int32 → Int32 → Hp → Option ((Int32) × Hp)) (rc98 : (Option Nat) → Int32 → Int32 → Int32 → Int32 → Int32 → Hp → Option ((Int32) × Hp)) (v0 : Option Nat) (v1 : Int32) (v2 : Int32) (v3 : Int32) (v4 : Int32) (v5 : Int32) (fa : Hp) : Option ((Int32) × Hp) :=
(gI fa v0 10 33).bind fun x21 =>
if x21 ≤ v5 then
(m_X12_missing_B177 F rc76 v0 v1 v2 v3 v4 fa)
else
((gR fa v0 10 28).bind fun x23 =>
(ldI fa 1 x23 v5).bind fun x24 =>
(gR fa v0 10 27).bind fun x25 =>
chk (isO fa v0 10) <|
(m_X12_layCopy F v0 x24 x25 fa).bind fun f27 =>
(gR f27 v0 10 30).bind fun x28 =>
(gI f27 v0 10 33).bind fun x29 =>
chk (isO f27 v0 10) <|
(m_X12_far F v0 f27).bind fun x31 =>
(stI f27 1 x28 (((10 : Int32) * v5) + x29) x31).bind fun f32 =>
(gR f32 v0 10 30).bind fun x33 =>
(gI f32 v0 10 33).bind fun x34 =>
(gR f32 v0 10 30).bind fun x35 =>
(gI f32 v0 10 33).bind fun x36 =>
(ldI f32 1 x35 (((10 : Int32) * v5) + x36)).bind fun x37 =>
(stI f32 1 x33 (((10 : Int32) * x34) + v5) x37).bind fun f38 =>
nmd (v5 + (1 : Int32)) fun y39 =>
rc98 v0 v1 v2 v3 v4 y39 f38)
def m_X12_missing_L98 (F : Nat) (rc76 : (Option Nat) → Int32 → Int32 → Int32 → Int32 → Hp → Option ((Int32) × Hp)) : Nat → Option Nat → Int32 → Int32 → Int32 → Int32 → Int32 → Hp → Option ((Int32) × Hp)
  | 0, _, _, _, _, _, _, _ => none
  | k + 1, v0, v1, v2, v3, v4, v5, fa => m_X12_missing_b98 F rc76 (m_X12_missing_L98 F rc76 k) v0 v1 v2 v3 v4 v5 fa
def m_X12_missing_B210 (F : Nat) (v1 : Int32) (v2 : Int32) (v3 : Int32) (fa : Hp) : Option ((Int32) × Hp) :=
if v3 = (-1 : Int32) then
(some ((-1 : Int32), fa))
else
(if v1 = 0 then
(some (v3, fa))
else
(some (v2, fa)))
def m_X12_missing_b76 (F : Nat) (rc76 : (Option Nat) → Int32 → Int32 → Int32 → Int32 → Hp → Option ((Int32) × Hp)) (v0 : Option Nat) (v1 : Int32) (v2 : Int32) (v3 : Int32) (v4 : Int32) (fa : Hp) : Option ((Int32) × Hp) :=
chk (isO fa v0 10) <|
(m_X12_orders F v0 fa).bind fun x16 =>
if x16 ≤ v4 then
(m_X12_missing_B210 F v1 v2 v3 fa)
else
((gR fa v0 10 26).bind fun x18 =>
chk (isO fa v0 10) <|
(m_X12_layOrder F v0 v4 x18 fa).bind fun f20 =>
m_X12_missing_L98 F rc76 F v0 v1 v2 v3 v4 (0 : Int32) f20)
def m_X12_missing_L76 (F : Nat) : Nat → Option Nat → Int32 → Int32 → Int32 → Int32 → Hp → Option ((Int32) × Hp)
  | 0, _, _, _, _, _, _ => none
  | k + 1, v0, v1, v2, v3, v4, fa => m_X12_missing_b76 F (m_X12_missing_L76 F k) v0 v1 v2 v3 v4 fa
def m_X12_missing_B58 (F : Nat) (v0 : Option Nat) (v1 : Int32) (fa : Hp) : Option ((Int32) × Hp) :=
chk (isO fa v0 10) <|
(m_X12_layApart F v0 fa).bind fun f10 =>
(gI f10 v0 10 33).bind fun x11 =>
chk (isO f10 v0 10) <|
bd2 (m_X12_joins F v0 x11 f10) fun x13 f14 =>
m_X12_missing_L76 F F v0 v1 x13 (-1 : Int32) (0 : Int32) f14
def m_X12_missing_b29 (F : Nat) (rc29 : (Option Nat) → Int32 → Int32 → Hp → Option ((Int32) × Hp)) (v0 : Option Nat) (v1 : Int32) (v2 : Int32) (fa : Hp) : Option ((Int32) × Hp) :=
(gI fa v0 10 33).bind fun x1 =>
if x1 ≤ v2 then
(m_X12_missing_B58 F v0 v1 fa)
else
((gR fa v0 10 28).bind fun x3 =>
(ldI fa 1 x3 v2).bind fun x4 =>
chk (isO fa v0 10) <|
(m_X12_isCopy F v0 x4 fa).bind fun x6 =>
if x6 = 0 then
(some ((-1 : Int32), fa))
else
(nmd (v2 + (1 : Int32)) fun y8 =>
rc29 v0 v1 y8 fa))
def m_X12_missing_L29 (F : Nat) : Nat → Option Nat → Int32 → Int32 → Hp → Option ((Int32) × Hp)
  | 0, _, _, _, _ => none
  | k + 1, v0, v1, v2, fa => m_X12_missing_b29 F (m_X12_missing_L29 F k) v0 v1 v2 fa
def m_X12_missing (F : Nat) (u0 : Option Nat) (u1 : Int32) (f : Hp) : Option ((Int32) × Hp) :=
(pV f u0 10 0 (.int (0 : Int32))).bind fun f49 =>
chk (isO f49 u0 10) <|
(m_X12_lay F u0 f49).bind fun f51 =>
(gI f51 u0 10 33).bind fun x52 =>
if x52 = 0 then
(some ((-1 : Int32), f51))
else
((m_X12_isIn F u1 (0 : Int32) (1 : Int32) f51).bind fun x54 =>
if x54 = 0 then
(some ((-1 : Int32), f51))
else
(m_X12_missing_L29 F F u0 u1 (0 : Int32) f51))
/-! CopyOrdersModel.nearest(II)I -/
def m_X12_nearest_B73 (F : Nat) (rc41 : (Option Nat) → Int32 → Int32 → Int32 → Int32 → Int32 → Hp → Option ((Int32) × Hp)) (v0 : Option Nat) (v1 : Int32) (v2 : Int32) (v3 : Int32) (v4 : Int32) (v5 : Int32) (v6 : Int32) (fa : Hp) : Option ((Int32) × Hp) :=
if v6 = v3 then
(nmd (v4 + (1 : Int32)) fun y11 =>
nmd (v5 + (1 : Int32)) fun y12 =>
rc41 v0 v1 v2 v6 y11 y12 fa)
else
(nmd ((0 : Int32) + (1 : Int32)) fun y13 =>
nmd (v5 + (1 : Int32)) fun y14 =>
rc41 v0 v1 v2 v6 y13 y14 fa)
def m_X12_nearest_b116 (F : Nat) (rc116 : (Option Nat) → Int32 → Int32 → Int32 → Int32 → Int32 → Hp → Option ((Int32) × Hp)) (v0 : Option Nat) (v1 : Int32) (v2 : Int32) (v3 : Int32) (v5 : Int32) (v6 : Int32) (fa : Hp) : Option ((Int32) × Hp) :=
chk (isO fa v0 10) <|
(m_X12_orders F v0 fa).bind fun x18 =>
if x18 ≤ v6 then
(some ((-1 : Int32), fa))
else
(chk (isO fa v0 10) <|
bd2 (m_X12_farOf F v0 v6 v1 fa) fun x21 f22 =>
if x21 = v3 then
(if v5 = v2 then
(some (v6, f22))
else
(nmd (v5 + (1 : Int32)) fun y25 =>
nmd (v6 + (1 : Int32)) fun y26 =>
rc116 v0 v1 v2 v3 y25 y26 f22))
else
(nmd (v6 + (1 : Int32)) fun y27 =>
rc116 v0 v1 v2 v3 v5 y27 f22))
def m_X12_nearest_L116 (F : Nat) : Nat → Option Nat → Int32 → Int32 → Int32 → Int32 → Int32 → Hp → Option ((Int32) × Hp)
  | 0, _, _, _, _, _, _, _ => none
  | k + 1, v0, v1, v2, v3, v5, v6, fa => m_X12_nearest_b116 F (m_X12_nearest_L116 F k) v0 v1 v2 v3 v5 v6 fa
def m_X12_nearest_B94 (F : Nat) (v0 : Option Nat) (v1 : Int32) (v2 : Int32) (v3 : Int32) (v4 : Int32) (fa : Hp) : Option ((Int32) × Hp) :=
if v2 = (-2 : Int32) then
(some (v3, fa))
else
(if v2 = (-1 : Int32) then
(some (v4, fa))
else
(m_X12_nearest_L116 F F v0 v1 v2 v3 (0 : Int32) (0 : Int32) fa))
def m_X12_nearest_b41 (F : Nat) (rc41 : (Option Nat) → Int32 → Int32 → Int32 → Int32 → Int32 → Hp → Option ((Int32) × Hp)) (v0 : Option Nat) (v1 : Int32) (v2 : Int32) (v3 : Int32) (v4 : Int32) (v5 : Int32) (fa : Hp) : Option ((Int32) × Hp) :=
chk (isO fa v0 10) <|
(m_X12_orders F v0 fa).bind fun x2 =>
if x2 ≤ v5 then
(m_X12_nearest_B94 F v0 v1 v2 v3 v4 fa)
else
(chk (isO fa v0 10) <|
bd2 (m_X12_farOf F v0 v5 v1 fa) fun x5 f6 =>
if v3 = (-1 : Int32) then
(m_X12_nearest_B73 F rc41 v0 v1 v2 v3 v4 v5 x5 f6)
else
(if x5 ≤ v3 then
(m_X12_nearest_B73 F rc41 v0 v1 v2 v3 v4 v5 x5 f6)
else
(nmd (v5 + (1 : Int32)) fun y9 =>
rc41 v0 v1 v2 v3 v4 y9 f6)))
def m_X12_nearest_L41 (F : Nat) : Nat → Option Nat → Int32 → Int32 → Int32 → Int32 → Int32 → Hp → Option ((Int32) × Hp)
  | 0, _, _, _, _, _, _, _ => none
  | k + 1, v0, v1, v2, v3, v4, v5, fa => m_X12_nearest_b41 F (m_X12_nearest_L41 F k) v0 v1 v2 v3 v4 v5 fa
def m_X12_nearest (F : Nat) (u0 : Option Nat) (u1 : Int32) (u2 : Int32) (f : Hp) : Option ((Int32) × Hp) :=
(pV f u0 10 0 (.int (0 : Int32))).bind fun f28 =>
chk (isO f28 u0 10) <|
(m_X12_lay F u0 f28).bind fun f30 =>
(m_X12_isIn F u1 (0 : Int32) (1 : Int32) f30).bind fun x31 =>
if x31 = 0 then
(some ((-1 : Int32), f30))
else
(chk (isO f30 u0 10) <|
(m_X12_copies F u0 f30).bind fun x34 =>
if x34 = 0 then
(some ((-1 : Int32), f30))
else
(if (-2 : Int32) ≤ u2 then
(m_X12_nearest_L41 F F u0 u1 u2 (-1 : Int32) (0 : Int32) (0 : Int32) f30)
else
(some ((-1 : Int32), f30))))
/-! CopyOrdersModel.order(II)I -/
def m_X12_order (F : Nat) (u0 : Option Nat) (u1 : Int32) (u2 : Int32) (f : Hp) : Option ((Int32) × Hp) :=
(pV f u0 10 0 (.int (0 : Int32))).bind fun f1 =>
chk (isO f1 u0 10) <|
(m_X12_lay F u0 f1).bind fun f3 =>
chk (isO f3 u0 10) <|
(m_X12_isOrder F u0 u1 f3).bind fun x5 =>
if x5 = 0 then
(some ((-1 : Int32), f3))
else
(if u2 < 0 then
(some ((-1 : Int32), f3))
else
(chk (isO f3 u0 10) <|
(m_X12_lines F u0 f3).bind fun x9 =>
if u2 < x9 then
(chk (isO f3 u0 10) <|
(m_X12_lay_ F u0 u1 f3).bind fun f12 =>
(gR f12 u0 10 24).bind fun x13 =>
(ldI f12 1 x13 u2).bind fun x14 =>
some (x14, f12))
else
(some ((-1 : Int32), f3))))
/-! CopyOrdersModel.reaches(III)I -/
def m_X12_reaches_b12 (F : Nat) (rc12 : (Option Nat) → Int32 → Int32 → Int32 → Hp → Option ((Int32) × Hp)) (v0 : Option Nat) (v1 : Int32) (v2 : Int32) (v4 : Int32) (fa : Hp) : Option ((Int32) × Hp) :=
chk (isO fa v0 10) <|
(m_X12_sizeOf F v0 v1 fa).bind fun x2 =>
if x2 ≤ v4 then
(some (v4, fa))
else
((gR fa v0 10 26).bind fun x4 =>
chk (isO fa v0 10) <|
(m_X12_lineOf F v0 v1 v4 fa).bind fun x6 =>
(ldI fa 1 x4 x6).bind fun x7 =>
if x7 = (-1 : Int32) then
(some (v4, fa))
else
(if v4 = v2 then
(nmd (v4 + (1 : Int32)) fun y10 =>
rc12 v0 v1 v2 y10 fa)
else
((gR fa v0 10 26).bind fun x11 =>
chk (isO fa v0 10) <|
(m_X12_lineOf F v0 v1 v4 fa).bind fun x13 =>
(ldI fa 1 x11 x13).bind fun x14 =>
(gR fa v0 10 26).bind fun x15 =>
chk (isO fa v0 10) <|
(m_X12_lineOf F v0 v1 ((v4 - (1 : Int32))) fa).bind fun x17 =>
(ldI fa 1 x15 x17).bind fun x18 =>
if x14 ≤ x18 then
(some (v4, fa))
else
(nmd (v4 + (1 : Int32)) fun y20 =>
rc12 v0 v1 v2 y20 fa))))
def m_X12_reaches_L12 (F : Nat) : Nat → Option Nat → Int32 → Int32 → Int32 → Hp → Option ((Int32) × Hp)
  | 0, _, _, _, _, _ => none
  | k + 1, v0, v1, v2, v4, fa => m_X12_reaches_b12 F (m_X12_reaches_L12 F k) v0 v1 v2 v4 fa
def m_X12_reaches (F : Nat) (u0 : Option Nat) (u1 : Int32) (u2 : Int32) (u3 : Int32) (f : Hp) : Option ((Int32) × Hp) :=
(gR f u0 10 26).bind fun x21 =>
chk (isO f u0 10) <|
(m_X12_layCopy F u0 u3 x21 f).bind fun f23 =>
m_X12_reaches_L12 F F u0 u1 u2 u2 f23
/-! CopyOrdersModel.readLetters(I)Z -/
def m_X12_readLetters_B60 (F : Nat) (v0 : Option Nat) (v2 : Int32) (s0 : Option Nat) (s1 : Option Nat) (s2 : Int32) (fa : Hp) : Option ((Int32) × Hp) :=
(gI fa v0 10 13).bind fun x2 =>
chk (isO fa s1 10) <|
bd2 (m_X12_lays F s1 s2 v2 x2 (0 : Int32) fa) fun x4 f5 =>
(pV f5 s0 10 46 (.int x4)).bind fun f6 =>
chk (okZ (1 : Int32)) <|
some ((1 : Int32), f6)
def m_X12_readLetters_B45 (F : Nat) (v0 : Option Nat) (v1 : Int32) (v2 : Int32) (fa : Hp) : Option ((Int32) × Hp) :=
if v1 = (14 : Int32) then
(m_X12_readLetters_B60 F v0 v2 v0 v0 (6 : Int32) fa)
else
(m_X12_readLetters_B60 F v0 v2 v0 v0 (7 : Int32) fa)
def m_X12_readLetters (F : Nat) (u0 : Option Nat) (u1 : Int32) (f : Hp) : Option ((Int32) × Hp) :=
chk (isO f u0 10) <|
(m_X12_lines F u0 f).bind fun x9 =>
chk (isO f u0 10) <|
bd2 (m_X12_readLetter F u0 x9 f) fun x11 f12 =>
if x11 = 0 then
(chk (okZ (0 : Int32)) <|
some ((0 : Int32), f12))
else
((gI f12 u0 10 13).bind fun x14 =>
chk (isO f12 u0 10) <|
(m_X12_go F u0 f12).bind fun f16 =>
if u1 = (15 : Int32) then
(chk (isO f16 u0 10) <|
(m_X12_lines F u0 f16).bind fun x19 =>
chk (isO f16 u0 10) <|
bd2 (m_X12_readLetter F u0 x19 f16) fun x21 f22 =>
if x21 = 0 then
(chk (okZ (0 : Int32)) <|
some ((0 : Int32), f22))
else
(chk (isO f22 u0 10) <|
(m_X12_go F u0 f22).bind fun f25 =>
m_X12_readLetters_B45 F u0 u1 x14 f25))
else
(m_X12_readLetters_B45 F u0 u1 x14 f16))
/-! CopyOrdersModel.readCompare(I)Z -/
def m_X12_readCompare_B100 (F : Nat) (v0 : Option Nat) (v1 : Int32) (v2 : Int32) (fa : Hp) : Option ((Int32) × Hp) :=
(gI fa v0 10 9).bind fun x31 =>
chk (isO fa v0 10) <|
(m_X12_go F v0 fa).bind fun f33 =>
chk (isO f33 v0 10) <|
bd2 (m_X12_readNumber F v0 (0 : Int32) (99 : Int32) f33) fun x35 f36 =>
if x35 = 0 then
(chk (okZ (0 : Int32)) <|
some ((0 : Int32), f36))
else
((gI f36 v0 10 13).bind fun x38 =>
chk (isO f36 v0 10) <|
bd2 (m_X12_lays F v0 (((v1 - (16 : Int32)) + (8 : Int32))) v2 x38 x31 f36) fun x40 f41 =>
(pV f41 v0 10 46 (.int x40)).bind fun f42 =>
chk (okZ (1 : Int32)) <|
some ((1 : Int32), f42))
def m_X12_readCompare_B67 (F : Nat) (v0 : Option Nat) (v1 : Int32) (v2 : Int32) (fa : Hp) : Option ((Int32) × Hp) :=
chk (isO fa v0 10) <|
(m_X12_isSign F v0 (60 : Int32) fa).bind fun x19 =>
if x19 = 0 then
(chk (isO fa v0 10) <|
(m_X12_isSign F v0 (61 : Int32) fa).bind fun x22 =>
if x22 = 0 then
(chk (isO fa v0 10) <|
(m_X12_isSign F v0 (62 : Int32) fa).bind fun x25 =>
if x25 = 0 then
(chk (isO fa v0 10) <|
bd2 (m_X12_bad F v0 (1 : Int32) fa) fun x28 f29 =>
chk (okZ x28) <|
some (x28, f29))
else
(m_X12_readCompare_B100 F v0 v1 v2 fa))
else
(m_X12_readCompare_B100 F v0 v1 v2 fa))
else
(m_X12_readCompare_B100 F v0 v1 v2 fa)
def m_X12_readCompare_B49 (F : Nat) (v0 : Option Nat) (v1 : Int32) (v2 : Int32) (fa : Hp) : Option ((Int32) × Hp) :=
chk (isO fa v0 10) <|
(m_X12_copies F v0 fa).bind fun x10 =>
if v2 = x10 then
(chk (isO fa v0 10) <|
bd2 (m_X12_bad F v0 (3 : Int32) fa) fun x15 f16 =>
chk (okZ x15) <|
some (x15, f16))
else
(chk (isO fa v0 10) <|
(m_X12_go F v0 fa).bind fun f13 =>
m_X12_readCompare_B67 F v0 v1 v2 f13)
def m_X12_readCompare_b21 (F : Nat) (rc21 : (Option Nat) → Int32 → Int32 → Hp → Option ((Int32) × Hp)) (v0 : Option Nat) (v1 : Int32) (v2 : Int32) (fa : Hp) : Option ((Int32) × Hp) :=
chk (isO fa v0 10) <|
(m_X12_copies F v0 fa).bind fun x2 =>
if x2 ≤ v2 then
(m_X12_readCompare_B49 F v0 v1 v2 fa)
else
((gR fa v0 10 17).bind fun x4 =>
(ldJ fa x4 v2).bind fun x5 =>
(gJ fa v0 10 12).bind fun x6 =>
if (lg_cmp x5 x6) = 0 then
(m_X12_readCompare_B49 F v0 v1 v2 fa)
else
(nmd (v2 + (1 : Int32)) fun y8 =>
rc21 v0 v1 y8 fa))
def m_X12_readCompare_L21 (F : Nat) : Nat → Option Nat → Int32 → Int32 → Hp → Option ((Int32) × Hp)
  | 0, _, _, _, _ => none
  | k + 1, v0, v1, v2, fa => m_X12_readCompare_b21 F (m_X12_readCompare_L21 F k) v0 v1 v2 fa
def m_X12_readCompare (F : Nat) (u0 : Option Nat) (u1 : Int32) (f : Hp) : Option ((Int32) × Hp) :=
if (18 : Int32) ≤ u1 then
(m_X12_readCompare_B67 F u0 u1 (0 : Int32) f)
else
(chk (isO f u0 10) <|
(m_X12_isName F u0 f).bind fun x47 =>
if x47 = 0 then
(chk (isO f u0 10) <|
bd2 (m_X12_bad F u0 (1 : Int32) f) fun x50 f51 =>
chk (okZ x50) <|
some (x50, f51))
else
(m_X12_readCompare_L21 F F u0 u1 (0 : Int32) f))
/-! CopyOrdersModel.readOr()Z -/
def m_X12_readOr_b14 (F : Nat) (rg : Nat → Option Nat → Int32 → Int32 → Hp → Option (Int32 × Hp)) (rc14 : (Option Nat) → Int32 → Hp → Option ((Int32) × Hp)) (v0 : Option Nat) (v1 : Int32) (fa : Hp) : Option ((Int32) × Hp) :=
chk (isO fa v0 10) <|
(m_X12_isWord F v0 (9 : Int32) fa).bind fun x2 =>
if x2 = 0 then
((pV fa v0 10 46 (.int v1)).bind fun f4 =>
chk (okZ (1 : Int32)) <|
some ((1 : Int32), f4))
else
(chk (isO fa v0 10) <|
(m_X12_go F v0 fa).bind fun f7 =>
chk (isO f7 v0 10) <|
bd2 (rg 1 v0 0 0 f7) fun x9 f10 =>
if x9 = 0 then
(chk (okZ (0 : Int32)) <|
some ((0 : Int32), f10))
else
((gI f10 v0 10 46).bind fun x12 =>
chk (isO f10 v0 10) <|
bd2 (m_X12_lays F v0 (3 : Int32) v1 x12 (0 : Int32) f10) fun x14 f15 =>
rc14 v0 x14 f15))
def m_X12_readOr_L14 (F : Nat) (rg : Nat → Option Nat → Int32 → Int32 → Hp → Option (Int32 × Hp)) : Nat → Option Nat → Int32 → Hp → Option ((Int32) × Hp)
  | 0, _, _, _ => none
  | k + 1, v0, v1, fa => m_X12_readOr_b14 F rg (m_X12_readOr_L14 F rg k) v0 v1 fa
def b_X12_readOr (F : Nat) (rg : Nat → Option Nat → Int32 → Int32 → Hp → Option (Int32 × Hp)) (u0 : Option Nat) (f : Hp) : Option ((Int32) × Hp) :=
chk (isO f u0 10) <|
bd2 (rg 1 u0 0 0 f) fun x18 f19 =>
if x18 = 0 then
(chk (okZ (0 : Int32)) <|
some ((0 : Int32), f19))
else
((gI f19 u0 10 46).bind fun x21 =>
m_X12_readOr_L14 F rg F u0 x21 f19)
/-! CopyOrdersModel.readAnd()Z -/
def m_X12_readAnd_b14 (F : Nat) (rg : Nat → Option Nat → Int32 → Int32 → Hp → Option (Int32 × Hp)) (rc14 : (Option Nat) → Int32 → Hp → Option ((Int32) × Hp)) (v0 : Option Nat) (v1 : Int32) (fa : Hp) : Option ((Int32) × Hp) :=
chk (isO fa v0 10) <|
(m_X12_isWord F v0 (10 : Int32) fa).bind fun x2 =>
if x2 = 0 then
((pV fa v0 10 46 (.int v1)).bind fun f4 =>
chk (okZ (1 : Int32)) <|
some ((1 : Int32), f4))
else
(chk (isO fa v0 10) <|
(m_X12_go F v0 fa).bind fun f7 =>
chk (isO f7 v0 10) <|
bd2 (rg 2 v0 0 0 f7) fun x9 f10 =>
if x9 = 0 then
(chk (okZ (0 : Int32)) <|
some ((0 : Int32), f10))
else
((gI f10 v0 10 46).bind fun x12 =>
chk (isO f10 v0 10) <|
bd2 (m_X12_lays F v0 (2 : Int32) v1 x12 (0 : Int32) f10) fun x14 f15 =>
rc14 v0 x14 f15))
def m_X12_readAnd_L14 (F : Nat) (rg : Nat → Option Nat → Int32 → Int32 → Hp → Option (Int32 × Hp)) : Nat → Option Nat → Int32 → Hp → Option ((Int32) × Hp)
  | 0, _, _, _ => none
  | k + 1, v0, v1, fa => m_X12_readAnd_b14 F rg (m_X12_readAnd_L14 F rg k) v0 v1 fa
def b_X12_readAnd (F : Nat) (rg : Nat → Option Nat → Int32 → Int32 → Hp → Option (Int32 × Hp)) (u0 : Option Nat) (f : Hp) : Option ((Int32) × Hp) :=
chk (isO f u0 10) <|
bd2 (rg 2 u0 0 0 f) fun x18 f19 =>
if x18 = 0 then
(chk (okZ (0 : Int32)) <|
some ((0 : Int32), f19))
else
((gI f19 u0 10 46).bind fun x21 =>
m_X12_readAnd_L14 F rg F u0 x21 f19)
/-! CopyOrdersModel.readOne()Z -/
def m_X12_readOne_B173 (F : Nat) (rg : Nat → Option Nat → Int32 → Int32 → Hp → Option (Int32 × Hp)) (v0 : Option Nat) (v3 : Int32) (fa : Hp) : Option ((Int32) × Hp) :=
(gI fa v0 10 45).bind fun x51 =>
(pV fa v0 10 45 (.int (x51 - (1 : Int32)))).bind fun f52 =>
chk (okZ v3) <|
some (v3, f52)
def m_X12_readOne_B141 (F : Nat) (rg : Nat → Option Nat → Int32 → Int32 → Hp → Option (Int32 × Hp)) (v0 : Option Nat) (v3 : Int32) (s0 : Option Nat) (s1 : Option Nat) (s2 : Int32) (fa : Hp) : Option ((Int32) × Hp) :=
chk (isO fa s1 10) <|
bd2 (m_X12_lays F s1 s2 (0 : Int32) (0 : Int32) (0 : Int32) fa) fun x48 f49 =>
(pV f49 s0 10 46 (.int x48)).bind fun f50 =>
m_X12_readOne_B173 F rg v0 v3 f50
def m_X12_readOne_B172 (F : Nat) (rg : Nat → Option Nat → Int32 → Int32 → Hp → Option (Int32 × Hp)) (v0 : Option Nat) (s0 : Int32) (fa : Hp) : Option ((Int32) × Hp) :=
m_X12_readOne_B173 F rg v0 s0 fa
def m_X12_readOne_B46 (F : Nat) (rg : Nat → Option Nat → Int32 → Int32 → Hp → Option (Int32 × Hp)) (v0 : Option Nat) (v1 : Int32) (v2 : Int32) (fa : Hp) : Option ((Int32) × Hp) :=
(gI fa v0 10 44).bind fun x12 =>
if x12 = (20 : Int32) then
(chk (isO fa v0 10) <|
bd2 (m_X12_bad F v0 (4 : Int32) fa) fun x15 f16 =>
chk (okZ x15) <|
some (x15, f16))
else
((gI fa v0 10 45).bind fun x18 =>
if x18 = (8 : Int32) then
(chk (isO fa v0 10) <|
bd2 (m_X12_bad F v0 (4 : Int32) fa) fun x44 f45 =>
chk (okZ x44) <|
some (x44, f45))
else
((gI fa v0 10 44).bind fun x20 =>
(pV fa v0 10 44 (.int (x20 + (1 : Int32)))).bind fun f21 =>
(gI f21 v0 10 45).bind fun x22 =>
(pV f21 v0 10 45 (.int (x22 + (1 : Int32)))).bind fun f23 =>
chk (isO f23 v0 10) <|
(m_X12_go F v0 f23).bind fun f25 =>
if v1 = 0 then
(if v2 = (11 : Int32) then
(chk (isO f25 v0 10) <|
bd2 (rg 3 v0 0 0 f25) fun x38 f39 =>
m_X12_readOne_B173 F rg v0 x38 f39)
else
(if (13 : Int32) < v2 then
(if (15 : Int32) < v2 then
(chk (isO f25 v0 10) <|
bd2 (m_X12_readCompare F v0 v2 f25) fun x31 f32 =>
m_X12_readOne_B172 F rg v0 x31 f32)
else
(chk (isO f25 v0 10) <|
bd2 (m_X12_readLetters F v0 v2 f25) fun x34 f35 =>
m_X12_readOne_B172 F rg v0 x34 f35))
else
(if v2 = (12 : Int32) then
(m_X12_readOne_B141 F rg v0 (1 : Int32) v0 v0 (4 : Int32) f25)
else
(m_X12_readOne_B141 F rg v0 (1 : Int32) v0 v0 (5 : Int32) f25))))
else
(chk (isO f25 v0 10) <|
bd2 (rg 4 v0 0 0 f25) fun x41 f42 =>
m_X12_readOne_B173 F rg v0 x41 f42)))
def m_X12_readOne_B30 (F : Nat) (rg : Nat → Option Nat → Int32 → Int32 → Hp → Option (Int32 × Hp)) (v0 : Option Nat) (v1 : Int32) (v2 : Int32) (fa : Hp) : Option ((Int32) × Hp) :=
if v1 = 0 then
(if v2 ≤ (19 : Int32) then
(m_X12_readOne_B46 F rg v0 v1 v2 fa)
else
(chk (isO fa v0 10) <|
bd2 (m_X12_bad F v0 (1 : Int32) fa) fun x9 f10 =>
chk (okZ x9) <|
some (x9, f10)))
else
(m_X12_readOne_B46 F rg v0 v1 v2 fa)
def m_X12_readOne_b10 (F : Nat) (rg : Nat → Option Nat → Int32 → Int32 → Hp → Option (Int32 × Hp)) (rc10 : (Option Nat) → Int32 → Int32 → Hp → Option ((Int32) × Hp)) (v0 : Option Nat) (v1 : Int32) (v2 : Int32) (fa : Hp) : Option ((Int32) × Hp) :=
if (19 : Int32) < v2 then
(m_X12_readOne_B30 F rg v0 v1 v2 fa)
else
(chk (isO fa v0 10) <|
(m_X12_isWord F v0 v2 fa).bind fun x3 =>
if x3 = 0 then
(nmd (v2 + (1 : Int32)) fun y5 =>
rc10 v0 v1 y5 fa)
else
(m_X12_readOne_B30 F rg v0 v1 v2 fa))
def m_X12_readOne_L10 (F : Nat) (rg : Nat → Option Nat → Int32 → Int32 → Hp → Option (Int32 × Hp)) : Nat → Option Nat → Int32 → Int32 → Hp → Option ((Int32) × Hp)
  | 0, _, _, _, _ => none
  | k + 1, v0, v1, v2, fa => m_X12_readOne_b10 F rg (m_X12_readOne_L10 F rg k) v0 v1 v2 fa
def b_X12_readOne (F : Nat) (rg : Nat → Option Nat → Int32 → Int32 → Hp → Option (Int32 × Hp)) (u0 : Option Nat) (f : Hp) : Option ((Int32) × Hp) :=
chk (isO f u0 10) <|
(m_X12_isSign F u0 (40 : Int32) f).bind fun x55 =>
m_X12_readOne_L10 F rg F u0 x55 (11 : Int32) f
/-! CopyOrdersModel.readNot()Z -/
def b_X12_readNot (F : Nat) (rg : Nat → Option Nat → Int32 → Int32 → Hp → Option (Int32 × Hp)) (u0 : Option Nat) (f : Hp) : Option ((Int32) × Hp) :=
chk (isO f u0 10) <|
bd2 (rg 2 u0 0 0 f) fun x2 f3 =>
if x2 = 0 then
(chk (okZ (0 : Int32)) <|
some ((0 : Int32), f3))
else
((gI f3 u0 10 46).bind fun x5 =>
chk (isO f3 u0 10) <|
bd2 (m_X12_lays F u0 (1 : Int32) x5 (0 : Int32) (0 : Int32) f3) fun x7 f8 =>
(pV f8 u0 10 46 (.int x7)).bind fun f9 =>
chk (okZ (1 : Int32)) <|
some ((1 : Int32), f9))
/-! CopyOrdersModel.readBracket()Z -/
def b_X12_readBracket (F : Nat) (rg : Nat → Option Nat → Int32 → Int32 → Hp → Option (Int32 × Hp)) (u0 : Option Nat) (f : Hp) : Option ((Int32) × Hp) :=
chk (isO f u0 10) <|
bd2 (rg 0 u0 0 0 f) fun x2 f3 =>
if x2 = 0 then
(chk (okZ (0 : Int32)) <|
some ((0 : Int32), f3))
else
(chk (isO f3 u0 10) <|
(m_X12_isSign F u0 (41 : Int32) f3).bind fun x6 =>
if x6 = 0 then
(chk (isO f3 u0 10) <|
bd2 (m_X12_bad F u0 (1 : Int32) f3) fun x12 f13 =>
chk (okZ x12) <|
some (x12, f13))
else
(chk (isO f3 u0 10) <|
(m_X12_go F u0 f3).bind fun f9 =>
chk (okZ (1 : Int32)) <|
some ((1 : Int32), f9)))
def mg_1 (F : Nat) : Nat → Nat → Option Nat → Int32 → Int32 → Hp → Option (Int32 × Hp)
  | 0, _, _, _, _, _ => none
  | d + 1, s, v0, v1, v2, f => if s = 0 then b_X12_readOr F (mg_1 F d) v0 f else if s = 1 then b_X12_readAnd F (mg_1 F d) v0 f else if s = 2 then b_X12_readOne F (mg_1 F d) v0 f else if s = 3 then b_X12_readNot F (mg_1 F d) v0 f else b_X12_readBracket F (mg_1 F d) v0 f
def m_X12_readOr (F d : Nat) (v0 : Option Nat) (f : Hp) : Option (Int32 × Hp) := mg_1 F d 0 v0 0 0 f
def m_X12_readAnd (F d : Nat) (v0 : Option Nat) (f : Hp) : Option (Int32 × Hp) := mg_1 F d 1 v0 0 0 f
def m_X12_readOne (F d : Nat) (v0 : Option Nat) (f : Hp) : Option (Int32 × Hp) := mg_1 F d 2 v0 0 0 f
def m_X12_readNot (F d : Nat) (v0 : Option Nat) (f : Hp) : Option (Int32 × Hp) := mg_1 F d 3 v0 0 0 f
def m_X12_readBracket (F d : Nat) (v0 : Option Nat) (f : Hp) : Option (Int32 × Hp) := mg_1 F d 4 v0 0 0 f
/-! CopyOrdersModel.restore(I)Z -/
def m_X12_restore_b64 (F : Nat) (rc64 : (Option Nat) → Int32 → Int32 → Hp → Option ((Int32) × Hp)) (v0 : Option Nat) (v1 : Int32) (v2 : Int32) (fa : Hp) : Option ((Int32) × Hp) :=
if (16 : Int32) ≤ v2 then
(chk (okZ (1 : Int32)) <|
some ((1 : Int32), fa))
else
((gR fa v0 10 17).bind fun x9 =>
(gR fa v0 10 19).bind fun x10 =>
(ldJ fa x10 (((16 : Int32) * v1) + v2)).bind fun x11 =>
(stJ fa x9 v2 x11).bind fun f12 =>
nmd (v2 + (1 : Int32)) fun y13 =>
rc64 v0 v1 y13 f12)
def m_X12_restore_L64 (F : Nat) : Nat → Option Nat → Int32 → Int32 → Hp → Option ((Int32) × Hp)
  | 0, _, _, _, _ => none
  | k + 1, v0, v1, v2, fa => m_X12_restore_b64 F (m_X12_restore_L64 F k) v0 v1 v2 fa
def m_X12_restore_b31 (F : Nat) (rc31 : (Option Nat) → Int32 → Int32 → Hp → Option ((Int32) × Hp)) (v0 : Option Nat) (v1 : Int32) (v2 : Int32) (fa : Hp) : Option ((Int32) × Hp) :=
if (412 : Int32) ≤ v2 then
(m_X12_restore_L64 F F v0 v1 (0 : Int32) fa)
else
((gR fa v0 10 14).bind fun x2 =>
(gR fa v0 10 16).bind fun x3 =>
(ldI fa 1 x3 (((412 : Int32) * v1) + v2)).bind fun x4 =>
(stI fa 1 x2 v2 x4).bind fun f5 =>
nmd (v2 + (1 : Int32)) fun y6 =>
rc31 v0 v1 y6 f5)
def m_X12_restore_L31 (F : Nat) : Nat → Option Nat → Int32 → Int32 → Hp → Option ((Int32) × Hp)
  | 0, _, _, _, _ => none
  | k + 1, v0, v1, v2, fa => m_X12_restore_b31 F (m_X12_restore_L31 F k) v0 v1 v2 fa
def m_X12_restore (F : Nat) (u0 : Option Nat) (u1 : Int32) (f : Hp) : Option ((Int32) × Hp) :=
(pV f u0 10 0 (.int (0 : Int32))).bind fun f14 =>
chk (isO f14 u0 10) <|
(m_X12_lay F u0 f14).bind fun f16 =>
(m_X12_isIn F u1 (0 : Int32) (1 : Int32) f16).bind fun x17 =>
if x17 = 0 then
(chk (okZ (0 : Int32)) <|
some ((0 : Int32), f16))
else
((gR f16 u0 10 20).bind fun x20 =>
(ldI f16 3 x20 u1).bind fun x21 =>
if x21 = 0 then
(chk (okZ (0 : Int32)) <|
some ((0 : Int32), f16))
else
(m_X12_restore_L31 F F u0 u1 (0 : Int32) f16))
/-! CopyOrdersModel.said()I -/
def m_X12_said_b26 (F : Nat) (rc26 : (Option Nat) → Int32 → Int32 → Hp → Option ((Int32) × Hp)) (v0 : Option Nat) (v1 : Int32) (v2 : Int32) (fa : Hp) : Option ((Int32) × Hp) :=
chk (isO fa v0 10) <|
(m_X12_copies F v0 fa).bind fun x2 =>
if x2 ≤ v2 then
(some (v1, fa))
else
((gR fa v0 10 14).bind fun x4 =>
(ldI fa 1 x4 (171 : Int32)).bind fun x5 =>
chk (isO fa v0 10) <|
bd2 (m_X12_isSo F 60 v0 x5 v2 fa) fun x7 f8 =>
if x7 = 0 then
(nmd (v2 + (1 : Int32)) fun y10 =>
rc26 v0 v1 y10 f8)
else
(nmd ((v1 ||| ((1 : Int32) <<< (v2 &&& 31)))) fun y11 =>
nmd (v2 + (1 : Int32)) fun y12 =>
rc26 v0 y11 y12 f8))
def m_X12_said_L26 (F : Nat) : Nat → Option Nat → Int32 → Int32 → Hp → Option ((Int32) × Hp)
  | 0, _, _, _, _ => none
  | k + 1, v0, v1, v2, fa => m_X12_said_b26 F (m_X12_said_L26 F k) v0 v1 v2 fa
def m_X12_said (F : Nat) (u0 : Option Nat) (f : Hp) : Option ((Int32) × Hp) :=
(pV f u0 10 0 (.int (0 : Int32))).bind fun f13 =>
chk (isO f13 u0 10) <|
(m_X12_lay F u0 f13).bind fun f15 =>
(gR f15 u0 10 14).bind fun x16 =>
(ldI f15 1 x16 (170 : Int32)).bind fun x17 =>
if x17 = 0 then
(some ((-1 : Int32), f15))
else
(m_X12_said_L26 F F u0 (0 : Int32) (0 : Int32) f15)
/-! CopyOrdersModel.sense(I)I -/
def m_X12_sense_B67 (F : Nat) (v1 : Int32) (v2 : Int32) (fa : Hp) : Option ((Int32) × Hp) :=
if v1 = (-1 : Int32) then
(some (v2, fa))
else
(some ((-1 : Int32), fa))
def m_X12_sense_b20 (F : Nat) (rc20 : (Option Nat) → Int32 → Int32 → Int32 → Hp → Option ((Int32) × Hp)) (v0 : Option Nat) (v1 : Int32) (v2 : Int32) (v3 : Int32) (fa : Hp) : Option ((Int32) × Hp) :=
chk (isO fa v0 10) <|
(m_X12_orders F v0 fa).bind fun x2 =>
if x2 ≤ v3 then
(m_X12_sense_B67 F v1 v2 fa)
else
((gR fa v0 10 26).bind fun x4 =>
chk (isO fa v0 10) <|
(m_X12_layOrder F v0 v3 x4 fa).bind fun f6 =>
(gR f6 v0 10 26).bind fun x7 =>
chk (isO f6 v0 10) <|
(m_X12_hasSense F v0 x7 f6).bind fun x9 =>
if x9 = 0 then
(nmd (v3 + (1 : Int32)) fun y14 =>
rc20 v0 v1 v2 y14 f6)
else
(if v2 = v1 then
(some (v3, f6))
else
(nmd (v2 + (1 : Int32)) fun y12 =>
nmd (v3 + (1 : Int32)) fun y13 =>
rc20 v0 v1 y12 y13 f6)))
def m_X12_sense_L20 (F : Nat) : Nat → Option Nat → Int32 → Int32 → Int32 → Hp → Option ((Int32) × Hp)
  | 0, _, _, _, _, _ => none
  | k + 1, v0, v1, v2, v3, fa => m_X12_sense_b20 F (m_X12_sense_L20 F k) v0 v1 v2 v3 fa
def m_X12_sense (F : Nat) (u0 : Option Nat) (u1 : Int32) (f : Hp) : Option ((Int32) × Hp) :=
(pV f u0 10 0 (.int (0 : Int32))).bind fun f16 =>
chk (isO f16 u0 10) <|
(m_X12_lay F u0 f16).bind fun f18 =>
if (-1 : Int32) ≤ u1 then
(m_X12_sense_L20 F F u0 u1 (0 : Int32) (0 : Int32) f18)
else
(some ((-1 : Int32), f18))
/-! CopyOrdersModel.sentence()I -/
def m_X12_sentence_b79 (F : Nat) (rc79 : (Option Nat) → Int32 → Hp → Option ((Int32) × Hp)) (v0 : Option Nat) (v1 : Int32) (fa : Hp) : Option ((Int32) × Hp) :=
if (240 : Int32) ≤ v1 then
((gI fa v0 10 44).bind fun x2 =>
some (x2, fa))
else
((gR fa v0 10 14).bind fun x3 =>
(gR fa v0 10 42).bind fun x4 =>
(ldI fa 1 x4 v1).bind fun x5 =>
(stI fa 1 x3 ((172 : Int32) + v1) x5).bind fun f6 =>
nmd (v1 + (1 : Int32)) fun y7 =>
rc79 v0 y7 f6)
def m_X12_sentence_L79 (F : Nat) : Nat → Option Nat → Int32 → Hp → Option ((Int32) × Hp)
  | 0, _, _, _ => none
  | k + 1, v0, v1, fa => m_X12_sentence_b79 F (m_X12_sentence_L79 F k) v0 v1 fa
def m_X12_sentence (F : Nat) (u0 : Option Nat) (f : Hp) : Option ((Int32) × Hp) :=
chk (isO f u0 10) <|
(m_X12_begin F u0 (200 : Int32) f).bind fun f9 =>
(pV f9 u0 10 43 (.int (0 : Int32))).bind fun f10 =>
(pV f10 u0 10 44 (.int (0 : Int32))).bind fun f11 =>
(pV f11 u0 10 45 (.int (0 : Int32))).bind fun f12 =>
chk (isO f12 u0 10) <|
bd2 (m_X12_readOr F 60 u0 f12) fun x14 f15 =>
if x14 = 0 then
((gI f15 u0 10 11).bind fun x28 =>
some (((-1 : Int32) - x28), f15))
else
((gI f15 u0 10 7).bind fun x17 =>
if x17 = 0 then
((gR f15 u0 10 14).bind fun x19 =>
(stI f15 1 x19 (170 : Int32) (1 : Int32)).bind fun f20 =>
(gR f20 u0 10 14).bind fun x21 =>
(gI f20 u0 10 46).bind fun x22 =>
(stI f20 1 x21 (171 : Int32) x22).bind fun f23 =>
m_X12_sentence_L79 F F u0 (0 : Int32) f23)
else
(chk (isO f15 u0 10) <|
bd2 (m_X12_bad F u0 (1 : Int32) f15) fun x25 f26 =>
(gI f26 u0 10 11).bind fun x27 =>
some (((-1 : Int32) - x27), f26)))
/-! CopyOrdersModel.size(I)I -/
def m_X12_size (F : Nat) (u0 : Option Nat) (u1 : Int32) (f : Hp) : Option ((Int32) × Hp) :=
(pV f u0 10 0 (.int (0 : Int32))).bind fun f1 =>
chk (isO f1 u0 10) <|
(m_X12_lay F u0 f1).bind fun f3 =>
chk (isO f3 u0 10) <|
(m_X12_isCopy F u0 u1 f3).bind fun x5 =>
if x5 = 0 then
(some ((-1 : Int32), f3))
else
(chk (isO f3 u0 10) <|
(m_X12_sizeOf F u0 u1 f3).bind fun x8 =>
some (x8, f3))
/-! CopyOrdersModel.song(I)I -/
def m_X12_song (F : Nat) (u0 : Option Nat) (u1 : Int32) (f : Hp) : Option ((Int32) × Hp) :=
(pV f u0 10 0 (.int (0 : Int32))).bind fun f1 =>
chk (isO f1 u0 10) <|
(m_X12_lay F u0 f1).bind fun f3 =>
chk (isO f3 u0 10) <|
(m_X12_isOrder F u0 u1 f3).bind fun x5 =>
if x5 = 0 then
(some ((-1 : Int32), f3))
else
((gR f3 u0 10 26).bind fun x7 =>
chk (isO f3 u0 10) <|
(m_X12_layOrder F u0 u1 x7 f3).bind fun f9 =>
(gR f9 u0 10 26).bind fun x10 =>
chk (isO f9 u0 10) <|
(m_X12_songOf F u0 x10 f9).bind fun x12 =>
some (x12, f9))
/-! CopyOrdersModel.thrown()I -/
def m_X12_thrown (F : Nat) (u0 : Option Nat) (f : Hp) : Option Int32 :=
(gI f u0 10 0).bind fun x1 =>
some x1
/-! CopyOrdersModel.tree()I -/
def m_X12_tree_b128 (F : Nat) (rc128 : (Option Nat) → Int32 → Int32 → Int32 → Hp → Option ((Int32) × Hp)) (v0 : Option Nat) (v1 : Int32) (v3 : Int32) (v4 : Int32) (fa : Hp) : Option ((Int32) × Hp) :=
if v1 ≤ v4 then
(some (v3, fa))
else
((gR fa v0 10 32).bind fun x29 =>
(gR fa v0 10 29).bind fun x30 =>
(ldI fa 1 x30 v4).bind fun x31 =>
if x31 = (-1 : Int32) then
((stI fa 1 x29 v4 (-1 : Int32)).bind fun f39 =>
nmd (v4 + (1 : Int32)) fun y40 =>
rc128 v0 v1 v3 y40 f39)
else
((gR fa v0 10 28).bind fun x33 =>
(gR fa v0 10 29).bind fun x34 =>
(ldI fa 1 x34 v4).bind fun x35 =>
(ldI fa 1 x33 x35).bind fun x36 =>
(stI fa 1 x29 v4 x36).bind fun f37 =>
nmd (v4 + (1 : Int32)) fun y38 =>
rc128 v0 v1 v3 y38 f37))
def m_X12_tree_L128 (F : Nat) : Nat → Option Nat → Int32 → Int32 → Int32 → Hp → Option ((Int32) × Hp)
  | 0, _, _, _, _, _ => none
  | k + 1, v0, v1, v3, v4, fa => m_X12_tree_b128 F (m_X12_tree_L128 F k) v0 v1 v3 v4 fa
def m_X12_tree_B110 (F : Nat) (v0 : Option Nat) (v1 : Int32) (fa : Hp) : Option ((Int32) × Hp) :=
chk (isO fa v0 10) <|
(m_X12_layApart F v0 fa).bind fun f23 =>
chk (isO f23 v0 10) <|
bd2 (m_X12_joins F v0 v1 f23) fun x25 f26 =>
(pV f26 v0 10 34 (.int v1)).bind fun f27 =>
m_X12_tree_L128 F F v0 v1 x25 (0 : Int32) f27
def m_X12_tree_b87 (F : Nat) (rc87 : (Option Nat) → Int32 → Int32 → Hp → Option ((Int32) × Hp)) (v0 : Option Nat) (v1 : Int32) (v3 : Int32) (fa : Hp) : Option ((Int32) × Hp) :=
if v1 ≤ v3 then
(m_X12_tree_B110 F v0 v1 fa)
else
((gR fa v0 10 28).bind fun x17 =>
(gR fa v0 10 1).bind fun x18 =>
(ldI fa 1 x18 v3).bind fun x19 =>
(stI fa 1 x17 v3 x19).bind fun f20 =>
nmd (v3 + (1 : Int32)) fun y21 =>
rc87 v0 v1 y21 f20)
def m_X12_tree_L87 (F : Nat) : Nat → Option Nat → Int32 → Int32 → Hp → Option ((Int32) × Hp)
  | 0, _, _, _, _ => none
  | k + 1, v0, v1, v3, fa => m_X12_tree_b87 F (m_X12_tree_L87 F k) v0 v1 v3 fa
def m_X12_tree_b30 (F : Nat) (rc30 : (Option Nat) → Int32 → Int32 → Int32 → Hp → Option ((Int32) × Hp)) (v0 : Option Nat) (v1 : Int32) (v2 : Int32) (v3 : Int32) (fa : Hp) : Option ((Int32) × Hp) :=
if v1 ≤ v3 then
((pV fa v0 10 33 (.int v1)).bind fun f2 =>
m_X12_tree_L87 F F v0 v1 (0 : Int32) f2)
else
((gR fa v0 10 1).bind fun x3 =>
(ldI fa 1 x3 v3).bind fun x4 =>
chk (isO fa v0 10) <|
(m_X12_isCopy F v0 x4 fa).bind fun x6 =>
if x6 = 0 then
(some ((-1 : Int32), fa))
else
((gR fa v0 10 1).bind fun x8 =>
(ldI fa 1 x8 v3).bind fun x9 =>
(m_X12_has F v2 x9 fa).bind fun x10 =>
if x10 = 0 then
((gR fa v0 10 1).bind fun x12 =>
(ldI fa 1 x12 v3).bind fun x13 =>
nmd ((v2 ||| ((1 : Int32) <<< (x13 &&& 31)))) fun y14 =>
nmd (v3 + (1 : Int32)) fun y15 =>
rc30 v0 v1 y14 y15 fa)
else
(some ((-1 : Int32), fa))))
def m_X12_tree_L30 (F : Nat) : Nat → Option Nat → Int32 → Int32 → Int32 → Hp → Option ((Int32) × Hp)
  | 0, _, _, _, _, _ => none
  | k + 1, v0, v1, v2, v3, fa => m_X12_tree_b30 F (m_X12_tree_L30 F k) v0 v1 v2 v3 fa
def m_X12_tree (F : Nat) (u0 : Option Nat) (f : Hp) : Option ((Int32) × Hp) :=
(pV f u0 10 0 (.int (0 : Int32))).bind fun f41 =>
chk (isO f41 u0 10) <|
(m_X12_lay F u0 f41).bind fun f43 =>
chk (isO f43 u0 10) <|
bd2 (m_X12_take F u0 f43) fun x45 f46 =>
(m_X12_isIn F x45 (1 : Int32) (9 : Int32) f46).bind fun x47 =>
if x47 = 0 then
(some ((-1 : Int32), f46))
else
(m_X12_tree_L30 F F u0 x45 (0 : Int32) (0 : Int32) f46)
/-! CopyOrdersModel.ways(III)J -/
def m_X12_ways (F : Nat) (u0 : Option Nat) (u1 : Int32) (u2 : Int32) (u3 : Int32) (f : Hp) : Option ((Int64) × Hp) :=
(pV f u0 10 0 (.int (0 : Int32))).bind fun f1 =>
chk (isO f1 u0 10) <|
(m_X12_lay F u0 f1).bind fun f3 =>
chk (isO f3 u0 10) <|
(m_X12_isOrder F u0 u1 f3).bind fun x5 =>
if x5 = 0 then
(some ((-1 : Int64), f3))
else
(chk (isO f3 u0 10) <|
(m_X12_isOrder F u0 u2 f3).bind fun x8 =>
if x8 = 0 then
(some ((-1 : Int64), f3))
else
((m_X12_isIn F u3 (0 : Int32) (10 : Int32) f3).bind fun x10 =>
if x10 = 0 then
(some ((-1 : Int64), f3))
else
(chk (isO f3 u0 10) <|
(m_X12_layWays F u0 u1 u3 (0 : Int32) f3).bind fun f13 =>
(gR f13 u0 10 35).bind fun x14 =>
(ldJ f13 x14 u2).bind fun x15 =>
some (x15, f13))))
/-! CopyOrdersModel.woven(III)I -/
def m_X12_woven_B86 (F : Nat) (rc42 : (Option Nat) → Int32 → Int32 → Int32 → Int32 → Int32 → Hp → Option ((Int32) × Hp)) (v0 : Option Nat) (v1 : Int32) (v2 : Int32) (v3 : Int32) (v4 : Int32) (v5 : Int32) (s0 : Int32) (fa : Hp) : Option ((Int32) × Hp) :=
if s0 = v4 then
(some ((-1 : Int32), fa))
else
(nmd (v5 + (1 : Int32)) fun y12 =>
rc42 v0 v1 v2 v3 s0 y12 fa)
def m_X12_woven_b42 (F : Nat) (rc42 : (Option Nat) → Int32 → Int32 → Int32 → Int32 → Int32 → Hp → Option ((Int32) × Hp)) (v0 : Option Nat) (v1 : Int32) (v2 : Int32) (v3 : Int32) (v4 : Int32) (v5 : Int32) (fa : Hp) : Option ((Int32) × Hp) :=
chk (isO fa v0 10) <|
(m_X12_sizeOf F v0 v3 fa).bind fun x2 =>
if x2 ≤ v4 then
(some (v5, fa))
else
(chk (isO fa v0 10) <|
bd2 (m_X12_reaches F v0 v3 v4 v1 fa) fun x5 f6 =>
chk (isO f6 v0 10) <|
bd2 (m_X12_reaches F v0 v3 v4 v2 f6) fun x8 f9 =>
if x5 ≤ x8 then
(m_X12_woven_B86 F rc42 v0 v1 v2 v3 v4 v5 x8 f9)
else
(m_X12_woven_B86 F rc42 v0 v1 v2 v3 v4 v5 x5 f9))
def m_X12_woven_L42 (F : Nat) : Nat → Option Nat → Int32 → Int32 → Int32 → Int32 → Int32 → Hp → Option ((Int32) × Hp)
  | 0, _, _, _, _, _, _, _ => none
  | k + 1, v0, v1, v2, v3, v4, v5, fa => m_X12_woven_b42 F (m_X12_woven_L42 F k) v0 v1 v2 v3 v4 v5 fa
def m_X12_woven (F : Nat) (u0 : Option Nat) (u1 : Int32) (u2 : Int32) (u3 : Int32) (f : Hp) : Option ((Int32) × Hp) :=
(pV f u0 10 0 (.int (0 : Int32))).bind fun f13 =>
chk (isO f13 u0 10) <|
(m_X12_lay F u0 f13).bind fun f15 =>
chk (isO f15 u0 10) <|
(m_X12_isCopy F u0 u1 f15).bind fun x17 =>
if x17 = 0 then
(some ((-2 : Int32), f15))
else
(chk (isO f15 u0 10) <|
(m_X12_isCopy F u0 u2 f15).bind fun x20 =>
if x20 = 0 then
(some ((-2 : Int32), f15))
else
(chk (isO f15 u0 10) <|
(m_X12_isCopy F u0 u3 f15).bind fun x23 =>
if x23 = 0 then
(some ((-2 : Int32), f15))
else
(m_X12_woven_L42 F F u0 u1 u2 u3 (0 : Int32) (0 : Int32) f15)))
