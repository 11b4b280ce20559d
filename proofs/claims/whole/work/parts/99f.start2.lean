/-! the start: the class -/
def kV (a b c d e i t k r s m w : Value) : List Value := [a, .int 0, b, c, d, e, i, t, k, r, s, m, .int 0, .long 0]
def rw0 (t n : Nat) : Option AC := some (.inr (t, n, .inl fun _ => 0))
section START2
variable {F : Nat} {f g : Hp}
/-- the FAMILY's rows -/
theorem finit_e {f : Hp} (h : f 171 = some (.inl (2, [.int 0, .null, .null, .null, .null, .null, .null]))) (z : Nat) : ∃ f', m_X3_init F (some 171) f 172 z = some (f', 178, z + 10 + 10 + 100 + 10 + 10 + 10) ∧ f' 171 = some (.inl (2, [.int 0, .ref 172, .ref 173, .ref 174, .ref 175, .ref 176, .ref 177])) ∧ (f' 172 = rw0 1 10 ∧ f' 173 = rw0 1 10 ∧ f' 174 = rw0 1 100 ∧ f' 175 = rw0 1 10 ∧ f' 176 = rw0 1 10 ∧ f' 177 = rw0 3 10) ∧ ∀ x, (x < 171 ∨ 178 ≤ x) → f' x = f x := by
  have st : ∀ (f : Hp) (k a : Nat) (c : Option AC) (fs : List Value), f 171 = some (.inl (2, fs)) → a ≠ 171 → k < fs.length → pV (va_up f a c) (some 171) 2 k (.ref a) = some (va_up (va_up f a c) 171 (some (.inl (2, fs.set k (.ref a))))) := fun f k a c fs h ha hk => pV_e ((up_n (fun e => ha e.symm)).trans h) hk
  let f1 : Hp := va_up (va_up f 172 (rw0 1 10)) 171 (some (.inl (2, [.int 0, .ref 172, .null, .null, .null, .null, .null])))
  let f2 : Hp := va_up (va_up f1 173 (rw0 1 10)) 171 (some (.inl (2, [.int 0, .ref 172, .ref 173, .null, .null, .null, .null])))
  let f3 : Hp := va_up (va_up f2 174 (rw0 1 100)) 171 (some (.inl (2, [.int 0, .ref 172, .ref 173, .ref 174, .null, .null, .null])))
  let f4 : Hp := va_up (va_up f3 175 (rw0 1 10)) 171 (some (.inl (2, [.int 0, .ref 172, .ref 173, .ref 174, .ref 175, .null, .null])))
  let f5 : Hp := va_up (va_up f4 176 (rw0 1 10)) 171 (some (.inl (2, [.int 0, .ref 172, .ref 173, .ref 174, .ref 175, .ref 176, .null])))
  let f6 : Hp := va_up (va_up f5 177 (rw0 3 10)) 171 (some (.inl (2, [.int 0, .ref 172, .ref 173, .ref 174, .ref 175, .ref 176, .ref 177])))
  refine ⟨f6, ?_, up_s, ⟨?_, ?_, ?_, ?_, ?_, ?_⟩, fun x hx => ?_⟩
  · unfold m_X3_init
    rw [ck_e (b := isS (some 171)) rfl, show Int32.toNatClampNeg (10 : Int32) = 10 from rfl, show Int32.toNatClampNeg (100 : Int32) = 100 from rfl, ck_e (by decide)]
    refine grow_s ?_ (by show _ ≤ 178; omega) (by show _ ≤ z + 10 + 10 + 100 + 10 + 10 + 10; omega)
    rw [nm_e2]
    refine Eq.trans (bd_e (show pV (va_up f 172 (rw0 1 10)) (some 171) 2 1 (.ref 172) = some f1 from st f 1 172 _ _ h (by decide) (by decide))) ?_
    rw [ck_e (by decide)]
    refine grow_s ?_ (by show _ ≤ 178; omega) (by show _ ≤ z + 10 + 10 + 100 + 10 + 10 + 10; omega)
    rw [nm_e2]
    refine Eq.trans (bd_e (show pV (va_up f1 173 (rw0 1 10)) (some 171) 2 2 (.ref 173) = some f2 from st f1 2 173 _ _ up_s (by decide) (by decide))) ?_
    rw [ck_e (by decide)]
    refine grow_s ?_ (by show _ ≤ 178; omega) (by show _ ≤ z + 10 + 10 + 100 + 10 + 10 + 10; omega)
    rw [nm_e2]
    refine Eq.trans (bd_e (show pV (va_up f2 174 (rw0 1 100)) (some 171) 2 3 (.ref 174) = some f3 from st f2 3 174 _ _ up_s (by decide) (by decide))) ?_
    rw [ck_e (by decide)]
    refine grow_s ?_ (by show _ ≤ 178; omega) (by show _ ≤ z + 10 + 10 + 100 + 10 + 10 + 10; omega)
    rw [nm_e2]
    refine Eq.trans (bd_e (show pV (va_up f3 175 (rw0 1 10)) (some 171) 2 4 (.ref 175) = some f4 from st f3 4 175 _ _ up_s (by decide) (by decide))) ?_
    rw [ck_e (by decide)]
    refine grow_s ?_ (by show _ ≤ 178; omega) (by show _ ≤ z + 10 + 10 + 100 + 10 + 10 + 10; omega)
    rw [nm_e2]
    refine Eq.trans (bd_e (show pV (va_up f4 176 (rw0 1 10)) (some 171) 2 5 (.ref 176) = some f5 from st f4 5 176 _ _ up_s (by decide) (by decide))) ?_
    rw [ck_e (by decide)]
    refine grow_s ?_ (by show _ ≤ 178; omega) (by show _ ≤ z + 10 + 10 + 100 + 10 + 10 + 10; omega)
    rw [nm_e2]
    exact bd_e (show pV (va_up f5 177 (rw0 3 10)) (some 171) 2 6 (.ref 177) = some f6 from st f5 6 177 _ _ up_s (by decide) (by decide))
  · show va_up (va_up (va_up (va_up (va_up (va_up (va_up (va_up (va_up (va_up (va_up (va_up f _ _) _ _) _ _) _ _) _ _) _ _) _ _) _ _) _ _) _ _) _ _) _ _ 172 = _
    rw [up_n (by decide), up_n (by decide), up_n (by decide), up_n (by decide), up_n (by decide), up_n (by decide), up_n (by decide), up_n (by decide), up_n (by decide), up_n (by decide), up_n (by decide), up_s]
  · show va_up (va_up (va_up (va_up (va_up (va_up (va_up (va_up (va_up (va_up f1 _ _) _ _) _ _) _ _) _ _) _ _) _ _) _ _) _ _) _ _ 173 = _
    rw [up_n (by decide), up_n (by decide), up_n (by decide), up_n (by decide), up_n (by decide), up_n (by decide), up_n (by decide), up_n (by decide), up_n (by decide), up_s]
  · show va_up (va_up (va_up (va_up (va_up (va_up (va_up (va_up f2 _ _) _ _) _ _) _ _) _ _) _ _) _ _) _ _ 174 = _
    rw [up_n (by decide), up_n (by decide), up_n (by decide), up_n (by decide), up_n (by decide), up_n (by decide), up_n (by decide), up_s]
  · show va_up (va_up (va_up (va_up (va_up (va_up f3 _ _) _ _) _ _) _ _) _ _) _ _ 175 = _
    rw [up_n (by decide), up_n (by decide), up_n (by decide), up_n (by decide), up_n (by decide), up_s]
  · show va_up (va_up (va_up (va_up f4 _ _) _ _) _ _) _ _ 176 = _
    rw [up_n (by decide), up_n (by decide), up_n (by decide), up_s]
  · show va_up (va_up f5 _ _) _ _ 177 = _
    rw [up_n (by decide), up_s]
  · show va_up (va_up (va_up (va_up (va_up (va_up (va_up (va_up (va_up (va_up (va_up (va_up f _ _) _ _) _ _) _ _) _ _) _ _) _ _) _ _) _ _) _ _) _ _) _ _ x = _
    rw [up_n (by omega), up_n (by omega), up_n (by omega), up_n (by omega), up_n (by omega), up_n (by omega), up_n (by omega), up_n (by omega), up_n (by omega), up_n (by omega), up_n (by omega), up_n (by omega)]
end START2
