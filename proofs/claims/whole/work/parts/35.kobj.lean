/-! the class's own object; its table of orders -/
def kC (T D sX : Nat) (tl lf : Int32) (ll : Int64) : List Value := [.ref 101, .int tl, .ref T, .ref D, .ref sX, .ref 166, .ref 167, .ref 168, .ref 169, .ref 170, .ref 171, .ref 178, .int lf, .long ll]
def KAt (f : Hp) (T D sX : Nat) (tl lf : Int32) (ll : Int64) : Prop := f 100 = some (.inl (9, kC T D sX tl lf ll))
def TabC (tq : Nat → Option Nat) : Option AC := some (.inr (7, 8, .inr (.inr (.inr (.inr tq)))))
theorem stR_e {f : Hp} {a t n : Nat} {g : Nat → Option Nat} {j : Nat} {x : Option Nat} (h : f a = some (.inr (t, n, .inr (.inr (.inr (.inr g)))))) (hj : j < n) (hn : j < 2 ^ 31) (ha : 100 ≤ a) (hk : okR f t x = true) : stR f t (some a) (nI j) x = some (va_up f a (some (.inr (t, n, .inr (.inr (.inr (.inr (va_up g j x)))))))) := by
  have e : aR f t (some a) = some (n, g) := by simp [aR, h]
  simp only [stR, e]
  rw [if_pos ⟨nI_pos hn, by rw [nI_cl hn]; exact hj, ha, hk⟩, nI_cl hn]
  rfl
theorem OAt.frame {f f' : Hp} {o N : Nat} (H : OAt f o N) (hf : ∀ a, o ≤ a → a < o + 9 → f' a = f a) : OAt f' o N := by
  obtain ⟨a, b, hab, h0, ⟨P, p1, p2⟩, ⟨T, t1, t2⟩, ⟨E, e1, e2⟩, ⟨q4, h4⟩, ⟨q5, h5⟩, ⟨q6, h6⟩⟩ := H
  refine ⟨a, b, hab, ?_, ⟨P, ?_, p2⟩, ⟨T, ?_, t2⟩, ⟨E, ?_, e2⟩, ⟨q4, ?_⟩, ⟨q5, ?_⟩, ⟨q6, ?_⟩⟩
  · rw [hf _ (by omega) (by omega)]; exact h0
  · rw [hf _ (by omega) (by omega)]; exact p1
  · rw [hf _ (by omega) (by omega)]; exact t1
  · rw [hf _ (by omega) (by omega)]; exact e1
  · rw [hf _ (by omega) (by omega)]; exact h4
  · rw [hf _ (by omega) (by omega)]; exact h5
  · rw [hf _ (by omega) (by omega)]; exact h6
section KOBJ
variable {F : Nat} {f : Hp} {T D sX s : Nat} {tl lf : Int32} {ll : Int64} {h : HS} {tq : Nat → Option Nat}
theorem orders_old (K : KAt f T D sX tl lf ll) (H : HAt f T s h) (ok : okH h) (hT : f 167 = TabC tq) {o : Nat} (e : tq (hN h) = some o) (n z : Nat) : m_X11_orders F (some 100) f n z = some (some o, f, n, z) := by
  have h7 := ok.1.2
  unfold m_X11_orders
  rw [bd_e (gR_s K rfl), bd_e (gI_e H.1 rfl)]
  refine grow_s ?_ (Nat.le_refl _) (Nat.le_refl _)
  refine grow_s ?_ (Nat.le_refl _) (Nat.le_refl _)
  rw [nm_e2, lines_k _ (by omega) ok.1.1, bd_e (gR_s K rfl), bd_e (ldR_e hT (by omega) (by omega)), e, if_neg (by simp), bd_e (gR_s K rfl), bd_e (ldR_e hT (by omega) (by omega)), e]
theorem okR_5 {f : Hp} {o : Nat} {fs : List Value} (h : f o = some (.inl (5, fs))) : okR f 7 (some o) = true := by
  unfold okR
  simp only [h]
  rw [if_neg (by decide)]
  exact decide_eq_true rfl
theorem orders_new (S : St4 f) (K : KAt f T D sX tl lf ll) (H : HAt f T s h) (ok : okH h) (hF : 5041 ≤ F) (hT : f 167 = TabC tq) (e : tq (hN h) = none) {n : Nat} (hn : 203 ≤ n) (hTn : T < n) (z : Nat) : ∃ f' z', m_X11_orders F (some 100) f n z = some (some n, f', n + 9, z') ∧ z ≤ z' ∧ z' ≤ z + 9 + 60000 ∧ OAt f' n (hN h) ∧ f' 167 = TabC (va_up tq (hN h) (some n)) ∧ ∀ a, a ≠ 167 → (a < n ∨ n + 9 ≤ a) → f' a = f a := by
  have h7 := ok.1.2
  have h2 := ok.1.1
  obtain ⟨f1, z1, q1, q2, q3, q4, q5⟩ := oinit_e (F := F) (o := n) (N := hN h) (f := va_up f n (some (.inl (5, [.int 0, .int 0, .int 0, .null, .null, .null, .null, .null, .null])))) (fun a ha => by rw [up_n (by omega)]; exact S a ha) (by omega) h2 h7 hF up_s (z + 9)
  have fr : ∀ a, (a < n ∨ n + 9 ≤ a) → f1 a = f a := fun a ha => by rw [q5 a ha, up_n (by omega)]
  have hT1 : f1 167 = TabC tq := by rw [fr _ (by omega)]; exact hT
  have hok : okR f1 7 (some n) = true := by
    obtain ⟨a, b, -, h0, -⟩ := q4
    exact okR_5 h0
  have K1 : KAt f1 T D sX tl lf ll := by
    show f1 100 = _
    rw [fr _ (by omega)]; exact K
  refine ⟨va_up f1 167 (TabC (va_up tq (hN h) (some n))), z1, ?_, Nat.le_trans (Nat.le_add_right z 9) q2, q3, q4.frame (fun a h1 _ => up_n (by omega)), up_s, fun a h1 h2 => by rw [up_n h1, fr a h2]⟩
  unfold m_X11_orders
  rw [bd_e (gR_s K rfl), bd_e (gI_e H.1 rfl)]
  refine grow_s ?_ (show n ≤ n + 9 by omega) (show z ≤ z1 from Nat.le_trans (Nat.le_add_right z 9) q2)
  refine grow_s ?_ (show n ≤ n + 9 by omega) (show z ≤ z1 from Nat.le_trans (Nat.le_add_right z 9) q2)
  rw [nm_e2, lines_k _ (by omega) h2, bd_e (gR_s K rfl), bd_e (ldR_e hT (by omega) (by omega)), e, if_pos rfl, bd_e (gR_s K rfl)]
  refine grow_s ?_ (show n + 1 ≤ n + 9 by omega) (show z + 9 ≤ z1 from q2)
  rw [nm_e2, bd3_e q1, ck_e (decide_eq_true ⟨(by omega : n + 1 ≤ n + 9), q2⟩)]
  refine grow_s ?_ (Nat.le_refl _) (Nat.le_refl _)
  rw [bd_e (stR_e hT1 (by omega) (by omega) (by omega) hok)]
  have K2 : KAt (va_up f1 167 (some (.inr (7, 8, .inr (.inr (.inr (.inr (va_up tq (hN h) (some n))))))))) T D sX tl lf ll := by
    show va_up _ _ _ 100 = _
    rw [up_n (by decide)]; exact K1
  rw [bd_e (gR_s K2 rfl)]
  have hl : ldR (va_up f1 167 (some (.inr (7, 8, .inr (.inr (.inr (.inr (va_up tq (hN h) (some n))))))))) 7 (some 167) (nI (hN h)) = some (some n) := by
    rw [ldR_e up_s (by omega) (by omega), up_s]
  rw [bd_e hl]
  exact congrArg some (congrArg (Prod.mk (some n)) rfl)
end KOBJ
