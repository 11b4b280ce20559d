/-! the class reads a SENTENCE -/
theorem putM_e {F : Nat} {f : Hp} {s : Nat} {P : SN} (hs : 100 ≤ s) (S : SAt f s P) (l : P.length < 40) (e : E5) (he : e.1 < 21) : ∃ f', m_X7_putMeasure F (some s) (some e.1) e.2.1 e.2.2.1 e.2.2.2.1 e.2.2.2.2 f = some f' ∧ SAt f' s (P ++ [e]) ∧ ∀ a, a < s ∨ s + 6 ≤ a → f' a = f a := by
  obtain ⟨-, h0, ⟨q1, a1, b1, c1⟩, ⟨q2, a2, b2⟩, ⟨q3, a3, b3⟩, ⟨q4, a4, b4⟩, ⟨q5, a5, b5⟩⟩ := S
  have okr : okR f 8 (some e.1) = true := decide_eq_true he
  generalize hf1 : va_up f (s + 1) (rwR 8 40 (va_up q1 P.length (some e.1))) = f1
  have w1 : stR f 8 (some (s + 1)) (nI P.length) (some e.1) = some f1 := (stR_e a1 l (by omega) (by omega) okr).trans (congrArg some hf1)
  have fr1 : ∀ x, x ≠ s + 1 → f1 x = f x := fun x hx => by rw [← hf1]; exact up_n hx
  generalize hf2 : va_up f1 (s + 2) (rwI 40 (upd q2 P.length e.2.1)) = f2
  have w2 : stI f1 1 (some (s + 2)) (nI P.length) e.2.1 = some f2 := (stI1 ((fr1 _ (by omega)).trans a2) l (by omega) (by omega)).trans (congrArg some hf2)
  have fr2 : ∀ x, x ≠ s + 2 → f2 x = f1 x := fun x hx => by rw [← hf2]; exact up_n hx
  generalize hf3 : va_up f2 (s + 3) (rwI 40 (upd q3 P.length e.2.2.1)) = f3
  have w3 : stI f2 1 (some (s + 3)) (nI P.length) e.2.2.1 = some f3 := (stI1 ((fr2 _ (by omega)).trans ((fr1 _ (by omega)).trans a3)) l (by omega) (by omega)).trans (congrArg some hf3)
  have fr3 : ∀ x, x ≠ s + 3 → f3 x = f2 x := fun x hx => by rw [← hf3]; exact up_n hx
  generalize hf4 : va_up f3 (s + 4) (rwI 40 (upd q4 P.length e.2.2.2.1)) = f4
  have w4 : stI f3 1 (some (s + 4)) (nI P.length) e.2.2.2.1 = some f4 := (stI1 ((fr3 _ (by omega)).trans ((fr2 _ (by omega)).trans ((fr1 _ (by omega)).trans a4))) l (by omega) (by omega)).trans (congrArg some hf4)
  have fr4 : ∀ x, x ≠ s + 4 → f4 x = f3 x := fun x hx => by rw [← hf4]; exact up_n hx
  generalize hf5 : va_up f4 (s + 5) (rwI 40 (upd q5 P.length e.2.2.2.2)) = f5
  have w5 : stI f4 1 (some (s + 5)) (nI P.length) e.2.2.2.2 = some f5 := (stI1 ((fr4 _ (by omega)).trans ((fr3 _ (by omega)).trans ((fr2 _ (by omega)).trans ((fr1 _ (by omega)).trans a5)))) l (by omega) (by omega)).trans (congrArg some hf5)
  have fr5 : ∀ x, x ≠ s + 5 → f5 x = f4 x := fun x hx => by rw [← hf5]; exact up_n hx
  have k1 := (fr1 s (by omega)).trans h0
  have k2 := (fr2 s (by omega)).trans k1
  have k3 := (fr3 s (by omega)).trans k2
  have k4 := (fr4 s (by omega)).trans k3
  have k5 := (fr5 s (by omega)).trans k4
  have w6 : pV f5 (some s) 6 0 (.int (nI (P.length + 1))) = some (va_up f5 s (some (.inl (6, scI s (nI (P.length + 1)))))) := pV_e k5 (Nat.le_of_ble_eq_true rfl)
  have ll : (P ++ [e]).length = P.length + 1 := len1 _ _
  refine ⟨va_up f5 s (some (.inl (6, scI s (nI (P.length + 1))))), ?_, ⟨by rw [ll]; exact l, ?_, ⟨_, (up_n (by omega)).trans ((fr5 _ (by omega)).trans ((fr4 _ (by omega)).trans ((fr3 _ (by omega)).trans ((fr2 _ (by omega)).trans (by rw [← hf1]; exact up_s))))), fun i hi => ?_, fun i hi => ?_⟩, ⟨_, (up_n (by omega)).trans ((fr5 _ (by omega)).trans ((fr4 _ (by omega)).trans ((fr3 _ (by omega)).trans (by rw [← hf2]; exact up_s)))), fun i hi => ?_⟩, ⟨_, (up_n (by omega)).trans ((fr5 _ (by omega)).trans ((fr4 _ (by omega)).trans (by rw [← hf3]; exact up_s))), fun i hi => ?_⟩, ⟨_, (up_n (by omega)).trans ((fr5 _ (by omega)).trans (by rw [← hf4]; exact up_s)), fun i hi => ?_⟩, ⟨_, (up_n (by omega)).trans (by rw [← hf5]; exact up_s), fun i hi => ?_⟩⟩, fun a ha => (up_n (by omega)).trans ((fr5 _ (by omega)).trans ((fr4 _ (by omega)).trans ((fr3 _ (by omega)).trans ((fr2 _ (by omega)).trans (fr1 _ (by omega))))))⟩
  · unfold m_X7_putMeasure
    rw [bd_e (gI_e h0 rfl), if_neg (show ¬ (40 : Int32) ≤ nI P.length from nI_ge (b := 40) l (by omega)), bd_e (gR_s h0 rfl), bd_e (gI_e h0 rfl), bd_e w1, bd_e (gR_s k1 rfl), bd_e (gI_e k1 rfl), bd_e w2, bd_e (gR_s k2 rfl), bd_e (gI_e k2 rfl), bd_e w3, bd_e (gR_s k3 rfl), bd_e (gI_e k3 rfl), bd_e w4, bd_e (gR_s k4 rfl), bd_e (gI_e k4 rfl), bd_e w5, bd_e (gI_e k5 rfl), nI_1, bd_e w6]
  · rw [ll]; exact up_s
  · by_cases q : i < P.length
    · rw [gE_l hi q, up_n (by omega)]; exact b1 i q
    · rw [gE_r hi q, show i = P.length by omega, up_s]
  · by_cases q : i = P.length
    · rw [q, up_s]; exact ⟨_, rfl, he⟩
    · rw [up_n q]; exact c1 i hi
  · by_cases q : i < P.length
    · rw [gE_l hi q, upd_n (by omega)]; exact b2 i q
    · rw [gE_r hi q, show i = P.length by omega, upd_s]
  · by_cases q : i < P.length
    · rw [gE_l hi q, upd_n (by omega)]; exact b3 i q
    · rw [gE_r hi q, show i = P.length by omega, upd_s]
  · by_cases q : i < P.length
    · rw [gE_l hi q, upd_n (by omega)]; exact b4 i q
    · rw [gE_r hi q, show i = P.length by omega, upd_s]
  · by_cases q : i < P.length
    · rw [gE_l hi q, upd_n (by omega)]; exact b5 i q
    · rw [gE_r hi q, show i = P.length by omega, upd_s]
def CSs (B : Nat → Nat) (n R T sT sX : Nat) (h : HS) (f : Hp) (P : SN) (o : Nat) (t : Tok) : Prop :=
  TKS B n R f t ∧ (HAt f T sT h ∧ okH h) ∧ f 170 = some (.inl (7, [.ref 168, .ref sX, .ref T, .int (nI o)])) ∧ SAt f sX P ∧ ((T = 102 ∨ T = 131) ∧ (sX = 109 ∨ sX = 138 ∨ sX = 160) ∧ P.length ≤ 2 * o ∧ o ≤ 20)
def CFs (n R sX : Nat) (f : Hp) (q : Flt) : Prop := CFt n R f q ∧ (∃ P, SAt f sX P) ∧ ∃ v1 v2 i3, f 170 = some (.inl (7, [.ref 168, v1, v2, .int i3]))
def FrS (sX : Nat) (f f' : Hp) : Prop := ∀ a, a ≠ 168 → a ≠ 170 → (a < sX ∨ sX + 6 ≤ a) → f' a = f a
theorem FrS.refl {sX : Nat} {f : Hp} : FrS sX f f := fun _ _ _ _ => rfl
theorem FrS.trans {sX : Nat} {f f' f'' : Hp} (h1 : FrS sX f f') (h2 : FrS sX f' f'') : FrS sX f f'' := fun a a1 a2 a3 => (h2 a a1 a2 a3).trans (h1 a a1 a2 a3)
theorem FrS.of {sX : Nat} {f f' : Hp} (h : ∀ a, a ≠ 168 → f' a = f a) : FrS sX f f' := fun a a1 _ _ => h a a1
section SENT2
variable {F : Nat} {B : Nat → Nat} {n R T sT sX : Nat} {h : HS} {f : Hp} {P : SN} {o : Nat} {t : Tok}
/-- what a reader of a part answers: o0 ones before it -/
def CRs (B : Nat → Nat) (n R T sT sX : Nat) (h : HS) (f : Hp) (P : SN) (o0 : Nat) (r : Option (Int32 × Hp)) (m : MRs) : Prop :=
  (∃ q f', m = .inl q ∧ r = some (0, f') ∧ CFs n R sX f' q ∧ FrS sX f f') ∨
  ∃ Q o' t' f', m = .inr (Q, o', t') ∧ r = some (1, f') ∧ CSs B n R T sT sX h f' (P ++ Q) o' t' ∧ FrS sX f f' ∧ Q.length + 1 + 2 * o0 ≤ 2 * o' ∧ 1 ≤ Q.length ∧ okS h Q
theorem CSs.g0 (C : CSs B n R T sT sX h f P o t) : gR f (some 170) 7 0 = some (some 168) := gR_s C.2.2.1 rfl
theorem CSs.g1 (C : CSs B n R T sT sX h f P o t) : gR f (some 170) 7 1 = some (some sX) := gR_s C.2.2.1 rfl
theorem CSs.g2 (C : CSs B n R T sT sX h f P o t) : gR f (some 170) 7 2 = some (some T) := gR_s C.2.2.1 rfl
theorem CSs.g3 (C : CSs B n R T sT sX h f P o t) : gI f (some 170) 7 3 = some (nI o) := gI_e C.2.2.1 rfl
theorem CSs.io (C : CSs B n R T sT sX h f P o t) : isO f (some 170) 7 = true := isO_e C.2.2.1
theorem CSs.is (C : CSs B n R T sT sX h f P o t) : isO f (some sX) 6 = true := isO_e C.2.2.2.1.2.1
theorem CSs.tk (C : CSs B n R T sT sX h f P o t) {f' : Hp} {t' : Tok} (fr : ∀ a, a ≠ 168 → f' a = f a) (K : TKS B n R f' t') : CSs B n R T sT sX h f' P o t' := by
  obtain ⟨-, ⟨c2, ok⟩, c3, c4, c5⟩ := C
  exact ⟨K, ⟨c2.frame (fun a _ _ _ => fr a (by omega)) ok, ok⟩, (fr _ (by decide)).trans c3, c4.frame (fun a _ _ => fr a (by omega)), c5⟩
theorem CSs.cf (C : CSs B n R T sT sX h f P o t) {f' : Hp} {q : Flt} (fr : ∀ a, a ≠ 168 → f' a = f a) (K : CFt n R f' q) : CFs n R sX f' q := by
  obtain ⟨-, -, c3, c4, c5⟩ := C
  exact ⟨K, ⟨P, c4.frame (fun a _ _ => fr a (by omega))⟩, _, _, _, (fr _ (by decide)).trans c3⟩
theorem sadv (hF : 742 ≤ F) (C : CSs B n R T sT sX h f P o t) (k : 2 ≤ tK t) : ∃ f', (∀ {β : Type} (K : Hp → Option β), ((gR f (some 170) 7 0).bind fun x => chk (isO f x 8) <| (m_X9_advance F x f).bind K) = K f') ∧ CSs B n R T sT sX h f' P o (nxT B n R t) ∧ FrS sX f f' := by
  obtain ⟨f', i1, i2, i3⟩ := tadv hF C.1 k
  refine ⟨f', fun K => ?_, C.tk i3 i2, FrS.of i3⟩
  rw [bd_e C.g0, ck_e C.1.isK, bd_e i1]
theorem sbad (C : CSs B n R T sT sX h f P o t) {k : Nat} (k1 : 1 ≤ k) (k4 : k ≤ 4) {K : Int32} (hK : K = nI k) : ∃ f', ((gR f (some 170) 7 0).bind fun x => chk (isO f x 8) <| bd2 (m_X9_fail F x K f) fun a b => chk (okZ a) <| some (a, b)) = some (0, f') ∧ CFs n R sX f' (k, tA t) ∧ FrS sX f f' := by
  obtain ⟨f', i1, i2, i3⟩ := tfail (F := F) C.1 k1 k4 hK
  refine ⟨f', ?_, C.cf i3 i2, FrS.of i3⟩
  rw [bd_e C.g0, ck_e C.1.isK, bd2_e i1, ck_e (by decide)]
/-- an entry more -/
theorem sput (C : CSs B n R T sT sX h f P o t) (l : P.length + 1 ≤ 2 * o) (l39 : P.length < 40) (e : E5) (he : e.1 < 21) : ∃ f', (∀ {β : Type} (K : Hp → Option β), ((gR f (some 170) 7 1).bind fun x => chk (isO f x 6) <| (m_X7_putMeasure F x (some e.1) e.2.1 e.2.2.1 e.2.2.2.1 e.2.2.2.2 f).bind K) = K f') ∧ CSs B n R T sT sX h f' (P ++ [e]) o t ∧ FrS sX f f' := by
  have C0 := C
  obtain ⟨⟨⟨c1, c2⟩, ⟨⟨nx, code, sg, v, c3⟩, c4⟩, c5⟩, ⟨c6, ok⟩, c7, c8, d1, d2, d3, d4⟩ := C
  obtain ⟨f', i1, i2, i3⟩ := putM_e (F := F) (by omega) c8 l39 e he
  refine ⟨f', fun K => ?_, ⟨⟨⟨c1.frame (fun a ha => i3 a (by omega)), c2.frame (i3 _ (by omega))⟩, ⟨⟨nx, code, sg, v, (i3 _ (by omega)).trans c3.1, c3.2⟩, c4⟩, c5⟩, ⟨c6.frame (fun a _ _ _ => i3 a (by omega)) ok, ok⟩, (i3 _ (by omega)).trans c7, i2, d1, d2, by rw [List.length_append]; exact l, d4⟩, fun a _ _ a3 => i3 a a3⟩
  rw [bd_e C0.g1, ck_e C0.is, bd_e i1]
theorem sputT (C : CSs B n R T sT sX h f P o t) (l : P.length + 1 ≤ 2 * o) (l39 : P.length < 40) {w : Nat} (hw : w < 21) (a b : Int32) : ∃ f', (∀ {β : Type} (K : Hp → Option β), ((gR f (some 170) 7 1).bind fun x => chk (isO f x 6) <| (m_X7_putTest F x (some w) a b f).bind K) = K f') ∧ CSs B n R T sT sX h f' (P ++ [(w, a, b, 0, 0)]) o t ∧ FrS sX f f' := by
  obtain ⟨f', i1, i2, i3⟩ := sput (F := F) C l l39 (w, a, b, 0, 0) hw
  refine ⟨f', fun K => ?_, i2, i3⟩
  rw [← i1 K]
  unfold m_X7_putTest
  rw [bd_e C.g1, bd_e C.g1, ck_e C.is, ck_e C.is, ck_e C.is]
  cases m_X7_putMeasure F (some sX) (some w) a b 0 0 f <;> rfl
theorem okS_1 {e : E5} (h1 : okE5 h e) : okS h [e] := fun x hx => by rw [List.mem_singleton.mp hx]; exact h1
theorem okE_e5 {w : Nat} (h1 : 10 ≤ w) (h2 : w ≤ 20) (h3 : w ≠ 15) (h4 : w ≠ 16) (h5 : w ≠ 17) (h6 : w ≠ 18) : okE5 h (e5 w) := ⟨⟨h1, h2⟩, fun e => absurd e h3, fun e => absurd e h4, fun e => by
  rcases e with e | e
  · exact absurd e h5
  · exact absurd e h6⟩
end SENT2
