/-! the calls that throw, in the law's loop -/
variable {sk : Nat}
section THROWS
variable {F : Nat} {f : Hp} {n z : Nat} {m : MS} {st : RS}
/-- what is thrown takes a place -/
theorem CI.thr (C : CI sk f n z m) : CI (sk + 1) f (n + 1) (z + 6) m := by
  obtain ⟨T, D, sT, sD, sX, tq, iq, S, K, t, H, ⟨a1, a2, a3, a4, a5, a6, a7, a8, a9, a10⟩, TK, M, Mr⟩ := C
  refine ⟨T, D, sT, sD, sX, tq, iq, S, K, t, H, ⟨a1, a2, fun N o hN e => ?_, fun k hk => ?_, a5, a6, a7, by omega, by omega, by omega⟩, TK, M, Mr⟩
  · obtain ⟨b1, b2, b3, b4⟩ := a3 N o hN e
    exact ⟨b1, b2, by omega, b4⟩
  · rcases a4 k hk with e | ⟨b, h, P, e1, e2, e3, e4, e5⟩
    · exact Or.inl e
    · exact Or.inr ⟨b, h, P, e1, e2, e3, by omega, e5⟩
theorem LI.thr (L : LI sk f n z m st) : LI (sk + 1) f (n + 1) (z + 6) m st := ⟨L.1.thr, L.2⟩
theorem LI.thrs (L : LI sk f n z m st) : ∀ d, LI (sk + d) f (n + d) (z + 6 * d) m st
  | 0 => L
  | d + 1 => (LI.thrs L d).thr
/-- the slack may grow -/
theorem CI.more {k : Nat} (C : CI sk f n z m) (h : sk ≤ k) : CI k f n z m := by
  obtain ⟨T, D, sT, sD, sX, tq, iq, S, K, t, H, ⟨a1, a2, a3, a4, a5, a6, a7, a8, a9, a10⟩, TK, M, Mr⟩ := C
  exact ⟨T, D, sT, sD, sX, tq, iq, S, K, t, H, ⟨a1, a2, a3, a4, a5, a6, a7, a8, by omega, by omega⟩, TK, M, Mr⟩
theorem LI.more {k : Nat} (L : LI sk f n z m st) (h : sk ≤ k) : LI k f n z m st := ⟨L.1.more h, L.2⟩
theorem cnt_top (n : Nat) (P : Nat → Bool) : cnt n P ≤ n := cnt_le _ _
/-- how far a heap can have grown -/
theorem CI.top (C : CI sk f n z m) : n ≤ 334 + sk ∧ z ≤ 1482072 + 6 * sk := by
  obtain ⟨T, D, sT, sD, sX, tq, iq, S, K, t, H, ⟨a1, a2, a3, a4, a5, a6, a7, a8, a9, a10⟩, TK, M, Mr⟩ := C
  have h1 := cnt_top 8 (fun k => (tq k).isSome)
  have h2 := cnt_top 2 (fun k => (iq k).isSome)
  constructor <;> omega
theorem step_line (hF : 200 ≤ F) (c i : Int32) (L : LI sk f n z m st) : ∃ o v st', m_X11_line F (some 100) c i f = some o ∧ m_X12_line F (some 179) c i f = some (v, ov f st') ∧ LI sk (ov f st') n z m st' ∧ m_X12_thrown F (some 179) (ov f st') = some (thI o) ∧ ∀ x, o = some x → v = x := by
  obtain ⟨o, e1, e2⟩ := k_line (F := F) hF c i L.1 L.2.2.1
  obtain ⟨v, st', e3, R, t0, e4⟩ := e2 f
  obtain ⟨e', L'⟩ := L.after (fun _ _ _ => rfl) L.1 R
  refine ⟨o, v, st', e1, by rw [← e'] at e3; exact e3, L', ?_, e4⟩
  unfold m_X12_thrown
  rw [rI_0, bd_some, t0]
theorem step_along (hF : 5041 ≤ F) (x k w : Int32) (L : LI sk f n z m st) : ∃ o f' n' z' v st', m_X11_along F (some 100) x k w f n z = some (o, f', n', z') ∧ n ≤ n' ∧ z ≤ z' ∧ m_X12_along F (some 179) x k w f' = some (v, ov f' st') ∧ LI sk (ov f' st') n' z' m st' ∧ m_X12_thrown F (some 179) (ov f' st') = some (thI o) ∧ ∀ y, o = some y → v = y := by
  obtain ⟨o, f', n', z', e1, hn, hz, fr, C, e2⟩ := k_along (F := F) hF x k w L.1 L.2.2.1
  obtain ⟨v, st', e3, R, t0, e4⟩ := e2 f'
  obtain ⟨e', L'⟩ := L.after fr C R
  refine ⟨o, f', n', z', v, st', e1, hn, hz, by rw [← e'] at e3; exact e3, L', ?_, e4⟩
  unfold m_X12_thrown
  rw [rI_0, bd_some, t0]
end THROWS
