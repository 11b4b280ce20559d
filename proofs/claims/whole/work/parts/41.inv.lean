/-! what both sides keep to between two calls -/
variable {sk : Nat}
/-- an entry of a SENTENCE: its word, its first, second, sign, number -/
abbrev E5 : Type := Nat × Int32 × Int32 × Int32 × Int32
abbrev SN : Type := List E5
/-- the SENTENCE P lies at s .. s + 5 -/
def SAt (f : Hp) (s : Nat) (P : SN) : Prop :=
  P.length ≤ 40 ∧ f s = some (.inl (6, [.int (nI P.length), .ref (s + 1), .ref (s + 2), .ref (s + 3), .ref (s + 4), .ref (s + 5)])) ∧
  (∃ q, f (s + 1) = some (.inr (8, 40, .inr (.inr (.inr (.inr q))))) ∧ (∀ i (hi : i < P.length), q i = some P[i].1) ∧ ∀ i, i < 40 → ∃ w, q i = some w ∧ w < 21) ∧
  (∃ q, f (s + 2) = some (.inr (1, 40, .inl q)) ∧ ∀ i (hi : i < P.length), q i = P[i].2.1) ∧
  (∃ q, f (s + 3) = some (.inr (1, 40, .inl q)) ∧ ∀ i (hi : i < P.length), q i = P[i].2.2.1) ∧
  (∃ q, f (s + 4) = some (.inr (1, 40, .inl q)) ∧ ∀ i (hi : i < P.length), q i = P[i].2.2.2.1) ∧
  (∃ q, f (s + 5) = some (.inr (1, 40, .inl q)) ∧ ∀ i (hi : i < P.length), q i = P[i].2.2.2.2)
/-- an entry that may stand in a SENTENCE of this HOUSE -/
def okE5 (h : HS) (e : E5) : Prop := (10 ≤ e.1 ∧ e.1 ≤ 20) ∧ (e.1 = 15 → ∃ l, l < 7 ∧ e.2.1 = nI l) ∧ (e.1 = 16 → ∃ l m, l < 7 ∧ m < 7 ∧ e.2.1 = nI l ∧ e.2.2.1 = nI m) ∧ (e.1 = 17 ∨ e.1 = 18 → ∃ c, c < (hC h).length ∧ e.2.1 = nI c)
def okS (h : HS) (P : SN) : Prop := ∀ e ∈ P, okE5 h e
/-- tape's bytes, length; HOUSE, SENTENCE; FAULT, likely; TREE's copies and sources; images -/
abbrev MS : Type := (Nat → Nat) × Nat × HS × SN × Nat × Int64 × List Nat × List Int32 × (Nat → Option (HS × SN))
abbrev mB (m : MS) : Nat → Nat := m.1
abbrev mT (m : MS) : Nat := m.2.1
abbrev mH (m : MS) : HS := m.2.2.1
abbrev mP (m : MS) : SN := m.2.2.2.1
abbrev mF (m : MS) : Nat := m.2.2.2.2.1
abbrev mL (m : MS) : Int64 := m.2.2.2.2.2.1
abbrev mM (m : MS) : List Nat := m.2.2.2.2.2.2.1
abbrev mS (m : MS) : List Int32 := m.2.2.2.2.2.2.2.1
abbrev mI (m : MS) : Nat → Option (HS × SN) := m.2.2.2.2.2.2.2.2
/-- the tape's bytes as the class has them -/
def TP (f : Hp) (B : Nat → Nat) : Prop := ∃ t, f 101 = some (.inr (0, 740, .inl t)) ∧ ∀ i, i < 740 → B i < 256 ∧ t i = i2b (nI (B i))
def ImgC (q : Nat → Option Nat) : Option AC := some (.inr (6, 2, .inr (.inr (.inr (.inr q)))))
/-- what is made when first needed: tables, images -/
def LZ (sk : Nat) (f : Hp) (n z : Nat) (tq iq : Nat → Option Nat) (im : Nat → Option (HS × SN)) : Prop :=
  f 167 = TabC tq ∧ f 166 = ImgC iq ∧
  (∀ N o, N < 8 → tq N = some o → 2 ≤ N ∧ 204 ≤ o ∧ o + 9 ≤ n ∧ OAt f o N) ∧
  (∀ k, k < 2 → (iq k = none ∧ im k = none) ∨ ∃ b h P, iq k = some b ∧ im k = some (h, P) ∧ 204 ≤ b ∧ b + 29 ≤ n ∧ HAt f b (b + 7) h ∧ okH h ∧ SAt f (b + 7) P ∧ okS h P) ∧
  (∀ N N' o o', N < 8 → N' < 8 → N ≠ N' → tq N = some o → tq N' = some o' → o + 9 ≤ o' ∨ o' + 9 ≤ o) ∧
  (∀ N o k b, N < 8 → k < 2 → tq N = some o → iq k = some b → o + 9 ≤ b ∨ b + 29 ≤ o) ∧
  (∀ b b', iq 0 = some b → iq 1 = some b' → b + 29 ≤ b' ∨ b' + 29 ≤ b) ∧
  204 ≤ n ∧ n ≤ 204 + sk + 9 * cnt 8 (fun k => (tq k).isSome) + 29 * cnt 2 (fun k => (iq k).isSome) ∧ z ≤ 1000000 + 6 * sk + 60009 * cnt 8 (fun k => (tq k).isSome) + 1000 * cnt 2 (fun k => (iq k).isSome)
/-- TOKENS and both readers, whatever they hold -/
def TKA (f : Hp) : Prop :=
  (∃ i1 i2 i3 i4 i5 j6 w i8 i9 i10 i11, w < 21 ∧ f 168 = some (.inl (8, [.ref 101, .int i1, .int i2, .int i3, .int i4, .int i5, .long j6, .ref w, .int i8, .int i9, .int i10, .int i11]))) ∧
  (∃ v i2 i3 i4 i5, f 169 = some (.inl (4, [.ref 168, v, .int i2, .int i3, .int i4, .int i5]))) ∧
  (∃ v1 v2 i3, f 170 = some (.inl (7, [.ref 168, v1, v2, .int i3])))
/-- the FAMILY: its copies, from which each was copied -/
def FM (f : Hp) (fm : List Nat) (fs : List Int32) : Prop :=
  fm.length ≤ 9 ∧ fs.length = fm.length ∧ (∀ x ∈ fm, x < 256) ∧ f 171 = some (.inl (2, [.int (nI fm.length), .ref 172, .ref 173, .ref 174, .ref 175, .ref 176, .ref 177])) ∧
  (∃ q, f 172 = some (.inr (1, 10, .inl q)) ∧ ∀ i (hi : i < fm.length), q i = nI fm[i]) ∧
  (∃ q, f 173 = some (.inr (1, 10, .inl q)) ∧ ∀ i (hi : i < fs.length), q i = fs[i]) ∧
  (∃ q, f 174 = some (.inr (1, 100, .inl q))) ∧ (∃ q, f 175 = some (.inr (1, 10, .inl q))) ∧ (∃ q, f 176 = some (.inr (1, 10, .inl q))) ∧ (∃ q, f 177 = some (.inr (3, 10, .inl q)))
def MR (f : Hp) : Prop := ∃ g, f 178 = some (.inr (1, 7, .inl g))
def TD (T D : Nat) : Prop := T = 102 ∧ D = 131 ∨ T = 131 ∧ D = 102
def SS (a b c : Nat) : Prop := (a = 109 ∨ a = 138 ∨ a = 160) ∧ (b = 109 ∨ b = 138 ∨ b = 160) ∧ (c = 109 ∨ c = 138 ∨ c = 160) ∧ a ≠ b ∧ a ≠ c ∧ b ≠ c
/-- both HOUSES of the class and their SENTENCES -/
def HH (f : Hp) (T D sT sD sX : Nat) (h : HS) (P : SN) : Prop :=
  HAt f T sT h ∧ okH h ∧ SAt f sT P ∧ okS h P ∧ (∃ hd, HAt f D sD hd ∧ okH hd) ∧ (∃ P, SAt f sD P) ∧ (∃ P, SAt f sX P) ∧ TD T D ∧ SS sT sD sX
/-- the class's side -/
def CI (sk : Nat) (f : Hp) (n z : Nat) (m : MS) : Prop := ∃ T D sT sD sX tq iq, St4 f ∧ KAt f T D sX (nI (mT m)) (nI (mF m)) (mL m) ∧ (TP f (mB m) ∧ mT m ≤ 740 ∧ mF m ≤ 4) ∧ HH f T D sT sD sX (mH m) (mP m) ∧ LZ sk f n z tq iq (mI m) ∧ TKA f ∧ FM f (mM m) (mS m) ∧ MR f
theorem dAt.frame {f f' : Hp} {a : Nat} {d : Nat × Nat × List Nat} (H : dAt f a d) (e : f' a = f a) : dAt f' a d := by
  obtain ⟨lim, h1, h2⟩ := H
  exact ⟨lim, by rw [e]; exact h1, h2⟩
theorem HAt.frame {f f' : Hp} {b s : Nat} {h : HS} (H : HAt f b s h) (hf : ∀ a, b ≤ a → a < b + 29 → (a < b + 7 ∨ b + 13 ≤ a) → f' a = f a) (ok : okH h) : HAt f' b s h := by
  obtain ⟨h0, ⟨q1, a1, b1⟩, ⟨q2, a2, b2⟩, ⟨q3, a3, b3⟩, ⟨q4, a4, b4⟩, ⟨q5, a5, b5⟩, ⟨q6, a6, b6⟩, h7, h8, h9, h10⟩ := H
  have l1 := ok.2.1
  have l2 := ok.2.2.2.1
  refine ⟨?_, ⟨q1, ?_, b1⟩, ⟨q2, ?_, b2⟩, ⟨q3, ?_, b3⟩, ⟨q4, ?_, b4⟩, ⟨q5, ?_, b5⟩, ⟨q6, ?_, b6⟩, fun c hc => ?_, fun c h1 h2 => ?_, fun d hd => ?_, fun d h1 h2 => ?_⟩
  · rw [hf _ (by omega) (by omega) (by omega)]; exact h0
  · rw [hf _ (by omega) (by omega) (by omega)]; exact a1
  · rw [hf _ (by omega) (by omega) (by omega)]; exact a2
  · rw [hf _ (by omega) (by omega) (by omega)]; exact a3
  · rw [hf _ (by omega) (by omega) (by omega)]; exact a4
  · rw [hf _ (by omega) (by omega) (by omega)]; exact a5
  · rw [hf _ (by omega) (by omega) (by omega)]; exact a6
  · rw [hf _ (by omega) (by omega) (by omega)]; exact h7 c hc
  · obtain ⟨n0, i1, i2, i3, i4, i5, e⟩ := h8 c h1 h2
    exact ⟨n0, i1, i2, i3, i4, i5, by rw [hf _ (by omega) (by omega) (by omega)]; exact e⟩
  · exact (h9 d hd).frame (hf _ (by omega) (by omega) (by omega))
  · obtain ⟨w, lim, nm, e, hw⟩ := h10 d h1 h2
    exact ⟨w, lim, nm, by rw [hf _ (by omega) (by omega) (by omega)]; exact e, hw⟩
theorem SAt.frame {f f' : Hp} {s : Nat} {P : SN} (H : SAt f s P) (hf : ∀ a, s ≤ a → a < s + 6 → f' a = f a) : SAt f' s P := by
  obtain ⟨hl, h0, ⟨q1, a1, b1⟩, ⟨q2, a2, b2⟩, ⟨q3, a3, b3⟩, ⟨q4, a4, b4⟩, ⟨q5, a5, b5⟩⟩ := H
  refine ⟨hl, ?_, ⟨q1, ?_, b1⟩, ⟨q2, ?_, b2⟩, ⟨q3, ?_, b3⟩, ⟨q4, ?_, b4⟩, ⟨q5, ?_, b5⟩⟩
  · rw [hf _ (by omega) (by omega)]; exact h0
  · rw [hf _ (by omega) (by omega)]; exact a1
  · rw [hf _ (by omega) (by omega)]; exact a2
  · rw [hf _ (by omega) (by omega)]; exact a3
  · rw [hf _ (by omega) (by omega)]; exact a4
  · rw [hf _ (by omega) (by omega)]; exact a5
theorem LZ.frame {f f' : Hp} {n z : Nat} {tq iq : Nat → Option Nat} {im : Nat → Option (HS × SN)} (H : LZ sk f n z tq iq im) (h6 : f' 166 = f 166) (h7 : f' 167 = f 167) (hf : ∀ a, 204 ≤ a → f' a = f a) : LZ sk f' n z tq iq im := by
  obtain ⟨a1, a2, a3, a4, a5⟩ := H
  refine ⟨by rw [h7]; exact a1, by rw [h6]; exact a2, fun N o hN e => ?_, fun k hk => ?_, a5⟩
  · obtain ⟨b1, b2, b3, b4⟩ := a3 N o hN e
    exact ⟨b1, b2, b3, b4.frame (fun a h1 _ => hf a (by omega))⟩
  · rcases a4 k hk with e | ⟨b, h, P, e1, e2, e3, e4, e5, e6, e7, e8⟩
    · exact Or.inl e
    · exact Or.inr ⟨b, h, P, e1, e2, e3, e4, e5.frame (fun a h1 _ _ => hf a (by omega)) e6, e6, e7.frame (fun a h1 _ => hf a (by omega)), e8⟩
theorem TKA.frame {f f' : Hp} (H : TKA f) (h1 : f' 168 = f 168) (h2 : f' 169 = f 169) (h3 : f' 170 = f 170) : TKA f' := by
  obtain ⟨⟨i1, i2, i3, i4, i5, j6, w, i8, i9, i10, i11, hw, e1⟩, ⟨v, j2, j3, j4, j5, e2⟩, ⟨v1, v2, k3, e3⟩⟩ := H
  exact ⟨⟨i1, i2, i3, i4, i5, j6, w, i8, i9, i10, i11, hw, h1.trans e1⟩, ⟨v, j2, j3, j4, j5, h2.trans e2⟩, ⟨v1, v2, k3, h3.trans e3⟩⟩
theorem FM.frame {f f' : Hp} {fm : List Nat} {fs : List Int32} (H : FM f fm fs) (hf : ∀ a, 171 ≤ a → a < 178 → f' a = f a) : FM f' fm fs := by
  obtain ⟨l1, l2, l3, h0, ⟨q1, a1, b1⟩, ⟨q2, a2, b2⟩, ⟨q3, a3⟩, ⟨q4, a4⟩, ⟨q5, a5⟩, ⟨q6, a6⟩⟩ := H
  exact ⟨l1, l2, l3, (hf _ (by omega) (by omega)).trans h0, ⟨q1, (hf _ (by omega) (by omega)).trans a1, b1⟩, ⟨q2, (hf _ (by omega) (by omega)).trans a2, b2⟩, ⟨q3, (hf _ (by omega) (by omega)).trans a3⟩, ⟨q4, (hf _ (by omega) (by omega)).trans a4⟩, ⟨q5, (hf _ (by omega) (by omega)).trans a5⟩, ⟨q6, (hf _ (by omega) (by omega)).trans a6⟩⟩
theorem MR.frame {f f' : Hp} (H : MR f) (e : f' 178 = f 178) : MR f' := by
  obtain ⟨g, h⟩ := H
  exact ⟨g, e.trans h⟩
theorem TP.frame {f f' : Hp} {B : Nat → Nat} (H : TP f B) (e : f' 101 = f 101) : TP f' B := by
  obtain ⟨g, h, hh⟩ := H
  exact ⟨g, e.trans h, hh⟩
theorem KAt.frame {f f' : Hp} {T D sX : Nat} {tl lf : Int32} {ll : Int64} (H : KAt f T D sX tl lf ll) (e : f' 100 = f 100) : KAt f' T D sX tl lf ll := e.trans H
theorem St4.frame {f f' : Hp} (H : St4 f) (hf : ∀ a, a < 100 → f' a = f a) : St4 f' := fun a ha => (hf a ha).trans (H a ha)
theorem HH.frame {f f' : Hp} {T D sT sD sX : Nat} {h : HS} {P : SN} (H : HH f T D sT sD sX h P) (hf : ∀ a, 102 ≤ a → a < 166 → f' a = f a) : HH f' T D sT sD sX h P := by
  obtain ⟨h1, h2, h3, h4, ⟨hd, h5, h6⟩, ⟨P1, h7⟩, ⟨P2, h8⟩, td, ss⟩ := H
  have td' := td
  have ss' := ss
  unfold TD at td'
  unfold SS at ss'
  exact ⟨h1.frame (fun a q1 q2 _ => hf a (by omega) (by omega)) h2, h2, h3.frame (fun a q1 q2 => hf a (by omega) (by omega)), h4, ⟨hd, h5.frame (fun a q1 q2 _ => hf a (by omega) (by omega)) h6, h6⟩, ⟨P1, h7.frame (fun a q1 q2 => hf a (by omega) (by omega))⟩, ⟨P2, h8.frame (fun a q1 q2 => hf a (by omega) (by omega))⟩, td, ss⟩
/-- the reference's places and the law's row are none of the class's -/
theorem CI.frame {f f' : Hp} {n z : Nat} {m : MS} (H : CI sk f n z m) (hf : ∀ a, a < 179 ∨ 204 ≤ a → f' a = f a) : CI sk f' n z m := by
  obtain ⟨T, D, sT, sD, sX, tq, iq, h1, h2, ⟨h3, h3b⟩, h4, h5, h6, h7, h8⟩ := H
  exact ⟨T, D, sT, sD, sX, tq, iq, h1.frame (fun a h => hf a (by omega)), h2.frame (hf _ (by omega)), ⟨h3.frame (hf _ (by omega)), h3b⟩, h4.frame (fun a _ _ => hf a (by omega)), h5.frame (hf _ (by omega)) (hf _ (by omega)) (fun a h => hf a (by omega)), h6.frame (hf _ (by omega)) (hf _ (by omega)) (hf _ (by omega)), h7.frame (fun a _ _ => hf a (by omega)), h8.frame (hf _ (by omega))⟩
/-! the reference's side -/
def code27 (nm : List Nat) : Nat := nm.foldl (fun c l => c * 27 + l) 0
/-- a leaf of the reference's SENTENCE and its entry -/
def leafR (w a b r : Int32) (e : E5) : Prop := ∃ k, 4 ≤ k ∧ k ≤ 11 ∧ w = nI k ∧ e.1 = k + 9 ∧ (k = 6 → a = e.2.1) ∧ (k = 7 → a = e.2.1 ∧ b = e.2.2.1) ∧ (k = 8 ∨ k = 9 → a = e.2.1) ∧ (10 ≤ k → a = 0) ∧ (8 ≤ k → b = e.2.2.2.2 ∧ r = e.2.2.2.1)
def e5 (w : Nat) : E5 := (w, 0, 0, 0, 0)
/-- the entries of the node k -/
def NdR (nd : Nat → Int32) : Nat → Nat → SN → Prop
  | 0, _, _ => False
  | n + 1, k, Q => (∃ x Q1, x < k ∧ nd (4 * k) = 1 ∧ nd (4 * k + 1) = nI x ∧ NdR nd n x Q1 ∧ Q = Q1 ++ [e5 12]) ∨
      (∃ x y Q1 Q2, x < k ∧ y < k ∧ nd (4 * k) = 2 ∧ nd (4 * k + 1) = nI x ∧ nd (4 * k + 2) = nI y ∧ NdR nd n x Q1 ∧ NdR nd n y Q2 ∧ Q = Q1 ++ Q2 ++ [e5 11]) ∨
      (∃ x y Q1 Q2, x < k ∧ y < k ∧ nd (4 * k) = 3 ∧ nd (4 * k + 1) = nI x ∧ nd (4 * k + 2) = nI y ∧ NdR nd n x Q1 ∧ NdR nd n y Q2 ∧ Q = Q1 ++ Q2 ++ [e5 10]) ∨
      ∃ e, leafR (nd (4 * k)) (nd (4 * k + 1)) (nd (4 * k + 2)) (nd (4 * k + 3)) e ∧ Q = [e]
/-- the rows of HOUSE and SENTENCE -/
def NWS (nw : Nat → Int32) (h : HS) (P : SN) : Prop := NW nw h ∧ (P = [] ∧ nw 170 = 0 ∨ P ≠ [] ∧ nw 170 = 1 ∧ ∃ t, t < 60 ∧ nw 171 = nI t ∧ NdR (fun i => nw (172 + i)) 60 t P)
def NMr (a : Nat → Int64) (h : HS) : Prop := ∀ c (hc : c < (hC h).length), a c = lN (code27 (hC h)[c].1)
def h00 : HS := (4, [], [], fun _ => 1, [], [])
def RI (st : RS) (m : MS) : Prop :=
  (sI st 21 = 1 ∧ NWS (sA st 14) (mH m) (mP m) ∨ sI st 21 = 0 ∧ (∀ i, sA st 14 i = 0) ∧ mH m = h00 ∧ mP m = []) ∧
  ((∀ i, i < 740 → sA st 1 i = nI (mB m i)) ∧ sI st 2 = nI (mT m)) ∧ sI st 10 = nI (mF m) ∧ NMr (sL st 17) (mH m) ∧ NBo st ∧ sJ st 40 = mL m ∧
  ((sI st 33 = nI (mM m).length ∧ ∀ i (hi : i < (mM m).length), sA st 28 i = nI (mM m)[i]) ∧ (sI st 34 = nI (mM m).length ∧ ∀ i (hi : i < (mS m).length), sA st 32 i = (mS m)[i])) ∧
  ∀ k, k < 2 → (mI m k = none ∧ sA st 20 k = 0) ∨ ∃ h P, mI m k = some (h, P) ∧ sA st 20 k = 1 ∧ NWS (fun i => sA st 16 (412 * k + i)) h P ∧ NMr (fun c => sL st 19 (16 * k + c)) h
def RB (st : RS) (m : MS) : Prop := RI st m ∧ sI st 21 = 1 ∧ NWS (sA st 14) (mH m) (mP m)
abbrev sI0 : List Nat := [0, 3, 4, 5, 6, 7, 8, 9, 11, 12, 13, 22, 23, 43, 44, 45, 46]
abbrev sA0 : List Nat := [15, 24, 25, 26, 27, 29, 30, 31, 41, 42]
abbrev sL0 : List Nat := [18, 35, 36, 37]
theorem RI.cg2 {st st' : RS} {m : MS} (H : RI st m) (C : Cg (39 :: sI0) (38 :: sA0) sL0 st st') (B : NBo st') : RI st' m := by
  obtain ⟨h1, ⟨h2, h3⟩, h4, h5, -, h7, ⟨⟨h8, h9⟩, h10, h11⟩, h12⟩ := H
  unfold RI
  rw [C.I (k := 21) (by decide), C.A (k := 14) (by decide), C.A (k := 1) (by decide), C.I (k := 2) (by decide), C.I (k := 10) (by decide), C.L (k := 17) (by decide), C.J (k := 40) (by decide), C.I (k := 33) (by decide), C.I (k := 34) (by decide), C.A (k := 28) (by decide), C.A (k := 32) (by decide), C.A (k := 20) (by decide), C.A (k := 16) (by decide), C.L (k := 19) (by decide)]
  exact ⟨h1, ⟨h2, h3⟩, h4, h5, B, h7, ⟨⟨h8, h9⟩, h10, h11⟩, h12⟩
theorem NBo.cg {st st' : RS} {I A L : List Nat} (B : NBo st) (C : Cg I A L st st') (h1 : 39 ∉ I) (h2 : 38 ∉ A) : NBo st' := by
  obtain ⟨M, b1, b2, b3⟩ := B
  exact ⟨M, by rw [C.I h1]; exact b1, b2, by rw [C.A h2]; exact b3⟩
theorem RI.cg {st st' : RS} {m : MS} (H : RI st m) (C : Cg sI0 sA0 sL0 st st') : RI st' m :=
  H.cg2 (C.mono (fun j h => List.mem_cons_of_mem _ h) (fun j h => List.mem_cons_of_mem _ h) (fun j h => h)) (H.2.2.2.2.1.cg C (by decide) (by decide))
theorem RB.cg2 {st st' : RS} {m : MS} (H : RB st m) (C : Cg (39 :: sI0) (38 :: sA0) sL0 st st') (B : NBo st') : RB st' m :=
  ⟨H.1.cg2 C B, by rw [C.I (by decide)]; exact H.2.1, by rw [C.A (by decide)]; exact H.2.2⟩
theorem RB.cg {st st' : RS} {m : MS} (H : RB st m) (C : Cg sI0 sA0 sL0 st st') : RB st' m :=
  ⟨H.1.cg C, by rw [C.I (by decide)]; exact H.2.1, by rw [C.A (by decide)]; exact H.2.2⟩
