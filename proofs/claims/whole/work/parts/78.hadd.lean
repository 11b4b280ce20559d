/-! a HOUSE told on -/
section HADD
variable {f f' : Hp} {b s : Nat} {h : HS}
theorem HAt.dslot (H : HAt f b s h) (ok : okH h) (l6 : (hD h).length < 6) (fr : ∀ a, b ≤ a → a < b + 29 → (a < b + 7 ∨ b + 13 ≤ a) → a ≠ b + 23 + (hD h).length → f' a = f a) (c : dAny f' (b + 23 + (hD h).length)) : HAt f' b s h := by
  obtain ⟨h0, ⟨q1, a1, b1⟩, ⟨q2, a2, b2⟩, ⟨q3, a3, b3⟩, ⟨q4, a4, b4⟩, ⟨q5, a5, b5⟩, ⟨q6, a6, b6⟩, h7, h8, h9, h10⟩ := H
  have l10 := ok.2.1
  refine ⟨?_, ⟨q1, ?_, b1⟩, ⟨q2, ?_, b2⟩, ⟨q3, ?_, b3⟩, ⟨q4, ?_, b4⟩, ⟨q5, ?_, b5⟩, ⟨q6, ?_, b6⟩, fun c hc => ?_, fun i i1 i2 => ?_, fun d hd => ?_, fun d i1 i2 => ?_⟩
  · rw [fr _ (by omega) (by omega) (by omega) (by omega)]; exact h0
  · rw [fr _ (by omega) (by omega) (by omega) (by omega)]; exact a1
  · rw [fr _ (by omega) (by omega) (by omega) (by omega)]; exact a2
  · rw [fr _ (by omega) (by omega) (by omega) (by omega)]; exact a3
  · rw [fr _ (by omega) (by omega) (by omega) (by omega)]; exact a4
  · rw [fr _ (by omega) (by omega) (by omega) (by omega)]; exact a5
  · rw [fr _ (by omega) (by omega) (by omega) (by omega)]; exact a6
  · rw [fr _ (by omega) (by omega) (by omega) (by omega)]; exact h7 c hc
  · obtain ⟨n0, i1', i2', i3, i4, i5, q⟩ := h8 i i1 i2
    exact ⟨n0, i1', i2', i3, i4, i5, by rw [fr _ (by omega) (by omega) (by omega) (by omega)]; exact q⟩
  · exact (h9 d hd).frame (fr _ (by omega) (by omega) (by omega) (by omega))
  · by_cases e : d = (hD h).length
    · rw [e]; exact c
    · obtain ⟨w, lim, nm, q, hw⟩ := h10 d i1 i2
      exact ⟨w, lim, nm, by rw [fr _ (by omega) (by omega) (by omega) (by omega)]; exact q, hw⟩
theorem HAt.addD' {c : Nat × Nat × List Nat} (H : HAt f b s h) (ok : okH h) (l6 : (hD h).length < 6) (fr : ∀ a, b ≤ a → a < b + 29 → (a < b + 7 ∨ b + 13 ≤ a) → a ≠ b → a ≠ b + 23 + (hD h).length → f' a = f a) (e0 : f' b = some (.inl (3, hcell b s (hN h) (hC h).length ((hD h).length + 1) (hS h).length (hR h).length))) (e1 : dAt f' (b + 23 + (hD h).length) c) : HAt f' b s (adD h c) := by
  obtain ⟨h0, ⟨q1, a1, b1⟩, ⟨q2, a2, b2⟩, ⟨q3, a3, b3⟩, ⟨q4, a4, b4⟩, ⟨q5, a5, b5⟩, ⟨q6, a6, b6⟩, h7, h8, h9, h10⟩ := H
  have l10 := ok.2.1
  have ll : (hD (adD h c)).length = (hD h).length + 1 := len1 _ _
  refine ⟨?_, ⟨q1, ?_, b1⟩, ⟨q2, ?_, b2⟩, ⟨q3, ?_, b3⟩, ⟨q4, ?_, b4⟩, ⟨q5, ?_, b5⟩, ⟨q6, ?_, b6⟩, fun i hi => ?_, fun i i1 i2 => ?_, fun d hd => ?_, fun d i1 i2 => ?_⟩
  · rw [ll]; exact e0
  · rw [fr _ (by omega) (by omega) (by omega) (by omega) (by omega)]; exact a1
  · rw [fr _ (by omega) (by omega) (by omega) (by omega) (by omega)]; exact a2
  · rw [fr _ (by omega) (by omega) (by omega) (by omega) (by omega)]; exact a3
  · rw [fr _ (by omega) (by omega) (by omega) (by omega) (by omega)]; exact a4
  · rw [fr _ (by omega) (by omega) (by omega) (by omega) (by omega)]; exact a5
  · rw [fr _ (by omega) (by omega) (by omega) (by omega) (by omega)]; exact a6
  · have hi' : i < (hC h).length := hi
    rw [fr _ (by omega) (by omega) (by omega) (by omega) (by omega)]; exact h7 i hi'
  · have i1' : (hC h).length ≤ i := i1
    obtain ⟨n0, i1', i2', i3, i4, i5, q⟩ := h8 i i1' i2
    exact ⟨n0, i1', i2', i3, i4, i5, by rw [fr _ (by omega) (by omega) (by omega) (by omega) (by omega)]; exact q⟩
  · by_cases e : d < (hD h).length
    · have ee : (hD (adD h c))[d] = (hD h)[d] := gE_l hd e
      rw [ee]
      exact (h9 d e).frame (fr _ (by omega) (by omega) (by omega) (by omega) (by omega))
    · have ee : (hD (adD h c))[d] = c := gE_r hd e
      rw [ee, show d = (hD h).length by omega]; exact e1
  · obtain ⟨w, lim, nm, q, hw⟩ := h10 d (by omega) i2
    exact ⟨w, lim, nm, by rw [fr _ (by omega) (by omega) (by omega) (by omega) (by omega)]; exact q, hw⟩
theorem HAt.stW' {p w : Nat} (H : HAt f b s h) (ok : okH h) (hp : p < 6) {v : Nat → Int32} (ev : f (b + 3) = rwI 6 v) (fr : ∀ a, b ≤ a → a < b + 29 → (a < b + 7 ∨ b + 13 ≤ a) → a ≠ b + 3 → f' a = f a) (e : f' (b + 3) = rwI 6 (upd v p (nI w))) : HAt f' b s (stW h p w) := by
  obtain ⟨h0, ⟨q1, a1, b1⟩, ⟨q2, a2, b2⟩, ⟨q3, a3, b3⟩, ⟨q4, a4, b4⟩, ⟨q5, a5, b5⟩, ⟨q6, a6, b6⟩, h7, h8, h9, h10⟩ := H
  have l10 := ok.2.1
  have l6 := ok.2.2.2.1
  have eq : q3 = v := by
    rw [ev] at a3
    simpa [rwI] using a3.symm
  subst eq
  refine ⟨?_, ⟨q1, ?_, b1⟩, ⟨q2, ?_, b2⟩, ⟨_, e, fun i hi => ?_⟩, ⟨q4, ?_, b4⟩, ⟨q5, ?_, b5⟩, ⟨q6, ?_, b6⟩, fun i (hi : i < (hC h).length) => ?_, fun i (i1 : (hC h).length ≤ i) i2 => ?_, fun d (hd : d < (hD h).length) => ?_, fun d i1 i2 => ?_⟩
  · rw [fr _ (by omega) (by omega) (by omega) (by omega)]; exact h0
  · rw [fr _ (by omega) (by omega) (by omega) (by omega)]; exact a1
  · rw [fr _ (by omega) (by omega) (by omega) (by omega)]; exact a2
  · show upd q3 p (nI w) i = nI (updN (hW h) p w i)
    unfold updN
    by_cases c : i = p
    · rw [if_pos c, c, upd_s]
    · rw [if_neg c, upd_n c]; exact b3 i hi
  · rw [fr _ (by omega) (by omega) (by omega) (by omega)]; exact a4
  · rw [fr _ (by omega) (by omega) (by omega) (by omega)]; exact a5
  · rw [fr _ (by omega) (by omega) (by omega) (by omega)]; exact a6
  · rw [fr _ (by omega) (by omega) (by omega) (by omega)]; exact h7 i hi
  · obtain ⟨n0, i1', i2', i3, i4, i5, q⟩ := h8 i i1 i2
    exact ⟨n0, i1', i2', i3, i4, i5, by rw [fr _ (by omega) (by omega) (by omega) (by omega)]; exact q⟩
  · exact (h9 d hd).frame (fr _ (by omega) (by omega) (by omega) (by omega))
  · obtain ⟨w, lim, nm, q, hw⟩ := h10 d i1 i2
    exact ⟨w, lim, nm, by rw [fr _ (by omega) (by omega) (by omega) (by omega)]; exact q, hw⟩
theorem HAt.stN'' {N : Nat} (H : HAt f b s h) (ok : okH h) (fr : ∀ a, b ≤ a → a < b + 29 → (a < b + 7 ∨ b + 13 ≤ a) → a ≠ b → f' a = f a) (e : f' b = some (.inl (3, hcell b s N (hC h).length (hD h).length (hS h).length (hR h).length))) : HAt f' b s (stN' h N) := by
  obtain ⟨h0, ⟨q1, a1, b1⟩, ⟨q2, a2, b2⟩, ⟨q3, a3, b3⟩, ⟨q4, a4, b4⟩, ⟨q5, a5, b5⟩, ⟨q6, a6, b6⟩, h7, h8, h9, h10⟩ := H
  have l10 := ok.2.1
  have l6 := ok.2.2.2.1
  refine ⟨e, ⟨q1, ?_, b1⟩, ⟨q2, ?_, b2⟩, ⟨q3, ?_, b3⟩, ⟨q4, ?_, b4⟩, ⟨q5, ?_, b5⟩, ⟨q6, ?_, b6⟩, fun i (hi : i < (hC h).length) => ?_, fun i (i1 : (hC h).length ≤ i) i2 => ?_, fun d (hd : d < (hD h).length) => ?_, fun d i1 i2 => ?_⟩
  · rw [fr _ (by omega) (by omega) (by omega) (by omega)]; exact a1
  · rw [fr _ (by omega) (by omega) (by omega) (by omega)]; exact a2
  · rw [fr _ (by omega) (by omega) (by omega) (by omega)]; exact a3
  · rw [fr _ (by omega) (by omega) (by omega) (by omega)]; exact a4
  · rw [fr _ (by omega) (by omega) (by omega) (by omega)]; exact a5
  · rw [fr _ (by omega) (by omega) (by omega) (by omega)]; exact a6
  · rw [fr _ (by omega) (by omega) (by omega) (by omega)]; exact h7 i hi
  · obtain ⟨n0, i1', i2', i3, i4, i5, q⟩ := h8 i i1 i2
    exact ⟨n0, i1', i2', i3, i4, i5, by rw [fr _ (by omega) (by omega) (by omega) (by omega)]; exact q⟩
  · exact (h9 d hd).frame (fr _ (by omega) (by omega) (by omega) (by omega))
  · obtain ⟨w, lim, nm, q, hw⟩ := h10 d i1 i2
    exact ⟨w, lim, nm, by rw [fr _ (by omega) (by omega) (by omega) (by omega)]; exact q, hw⟩
theorem HAt.addS {x y : Nat} (H : HAt f b s h) (ok : okH h) {v w : Nat → Int32} (ev : f (b + 4) = rwI 12 v) (ew : f (b + 5) = rwI 12 w) (fr : ∀ a, b ≤ a → a < b + 29 → (a < b + 7 ∨ b + 13 ≤ a) → a ≠ b → a ≠ b + 4 → a ≠ b + 5 → f' a = f a) (e0 : f' b = some (.inl (3, hcell b s (hN h) (hC h).length (hD h).length ((hS h).length + 1) (hR h).length))) (e4 : f' (b + 4) = rwI 12 (upd v (hS h).length (nI x))) (e5 : f' (b + 5) = rwI 12 (upd w (hS h).length (nI y))) : HAt f' b s (adS h (x, y)) := by
  obtain ⟨h0, ⟨q1, a1, b1⟩, ⟨q2, a2, b2⟩, ⟨q3, a3, b3⟩, ⟨q4, a4, b4⟩, ⟨q5, a5, b5⟩, ⟨q6, a6, b6⟩, h7, h8, h9, h10⟩ := H
  have l10 := ok.2.1
  have l6 := ok.2.2.2.1
  have eq : q4 = v := by
    rw [ev] at a4
    simpa [rwI] using a4.symm
  subst eq
  have eq : q5 = w := by
    rw [ew] at a5
    simpa [rwI] using a5.symm
  subst eq
  have ll : (hS (adS h (x, y))).length = (hS h).length + 1 := len1 _ _
  refine ⟨?_, ⟨q1, ?_, b1⟩, ⟨q2, ?_, b2⟩, ⟨q3, ?_, b3⟩, ⟨_, e4, fun i hi => ?_⟩, ⟨_, e5, fun i hi => ?_⟩, ⟨q6, ?_, b6⟩, fun i (hi : i < (hC h).length) => ?_, fun i (i1 : (hC h).length ≤ i) i2 => ?_, fun d (hd : d < (hD h).length) => ?_, fun d i1 i2 => ?_⟩
  · rw [ll]; exact e0
  · rw [fr _ (by omega) (by omega) (by omega) (by omega) (by omega) (by omega)]; exact a1
  · rw [fr _ (by omega) (by omega) (by omega) (by omega) (by omega) (by omega)]; exact a2
  · rw [fr _ (by omega) (by omega) (by omega) (by omega) (by omega) (by omega)]; exact a3
  · by_cases e : i < (hS h).length
    · have ee : (hS (adS h (x, y)))[i] = (hS h)[i] := gE_l hi e
      rw [ee, upd_n (by omega)]; exact b4 i e
    · have ee : (hS (adS h (x, y)))[i] = (x, y) := gE_r hi e
      rw [ee, show i = (hS h).length by omega, upd_s]
  · by_cases e : i < (hS h).length
    · have ee : (hS (adS h (x, y)))[i] = (hS h)[i] := gE_l hi e
      rw [ee, upd_n (by omega)]; exact b5 i e
    · have ee : (hS (adS h (x, y)))[i] = (x, y) := gE_r hi e
      rw [ee, show i = (hS h).length by omega, upd_s]
  · rw [fr _ (by omega) (by omega) (by omega) (by omega) (by omega) (by omega)]; exact a6
  · rw [fr _ (by omega) (by omega) (by omega) (by omega) (by omega) (by omega)]; exact h7 i hi
  · obtain ⟨n0, i1', i2', i3, i4, i5, q⟩ := h8 i i1 i2
    exact ⟨n0, i1', i2', i3, i4, i5, by rw [fr _ (by omega) (by omega) (by omega) (by omega) (by omega) (by omega)]; exact q⟩
  · exact (h9 d hd).frame (fr _ (by omega) (by omega) (by omega) (by omega) (by omega) (by omega))
  · obtain ⟨w, lim, nm, q, hw⟩ := h10 d i1 i2
    exact ⟨w, lim, nm, by rw [fr _ (by omega) (by omega) (by omega) (by omega) (by omega) (by omega)]; exact q, hw⟩
theorem gain_app (R : List (Nat × Nat × Nat)) (q : Nat × Nat × Nat) (x : Nat) : gain (R ++ [q]) x = gain R x + (if q.1 * 7 + q.2.1 = x then q.2.2 else 0) := by
  unfold gain
  simp
theorem gain_0 {x y N : Nat} (hN : N ≤ 7) (hx : x < N) (hy : y < N) : ∀ {R : List (Nat × Nat × Nat)}, (∀ q ∈ R, q.1 < N ∧ q.2.1 < N ∧ q.1 ≠ q.2.1 ∧ 1 ≤ q.2.2 ∧ q.2.2 ≤ 99) → (gain R (x * 7 + y) = 0 ↔ (x, y) ∉ R.map (fun q => (q.1, q.2.1)))
  | [], _ => ⟨fun _ => List.not_mem_nil, fun _ => rfl⟩
  | q :: R, h => by
    have hq := h q List.mem_cons_self
    have ih := gain_0 hN hx hy (R := R) (fun p hp => h p (List.mem_cons_of_mem _ hp))
    have e : gain (q :: R) (x * 7 + y) = (if q.1 * 7 + q.2.1 = x * 7 + y then q.2.2 else 0) + gain R (x * 7 + y) := by
      unfold gain
      simp
    rw [e, List.map_cons, List.mem_cons, not_or, ← ih]
    by_cases c : q.1 * 7 + q.2.1 = x * 7 + y
    · rw [if_pos c]
      have : x = q.1 ∧ y = q.2.1 := by omega
      constructor
      · intro z; omega
      · rintro ⟨z, -⟩
        exact absurd (Prod.ext this.1 this.2) z
    · rw [if_neg c]
      constructor
      · intro z
        refine ⟨fun k => c ?_, by omega⟩
        have k1 : x = q.1 := congrArg Prod.fst k
        have k2 : y = q.2.1 := congrArg Prod.snd k
        rw [k1, k2]
      · rintro ⟨-, z⟩
        omega
theorem HAt.addR {x y v : Nat} (H : HAt f b s h) (ok : okH h) {w : Nat → Int32} (ew : f (b + 6) = rwI 49 w) (g0 : gain (hR h) (x * 7 + y) = 0) (fr : ∀ a, b ≤ a → a < b + 29 → (a < b + 7 ∨ b + 13 ≤ a) → a ≠ b → a ≠ b + 6 → f' a = f a) (e0 : f' b = some (.inl (3, hcell b s (hN h) (hC h).length (hD h).length (hS h).length ((hR h).length + 1)))) (e6 : f' (b + 6) = rwI 49 (upd w (x * 7 + y) (nI v))) : HAt f' b s (adR h (x, y, v)) := by
  obtain ⟨h0, ⟨q1, a1, b1⟩, ⟨q2, a2, b2⟩, ⟨q3, a3, b3⟩, ⟨q4, a4, b4⟩, ⟨q5, a5, b5⟩, ⟨q6, a6, b6⟩, h7, h8, h9, h10⟩ := H
  have l10 := ok.2.1
  have l6 := ok.2.2.2.1
  have eq : q6 = w := by
    rw [ew] at a6
    simpa [rwI] using a6.symm
  subst eq
  have ll : (hR (adR h (x, y, v))).length = (hR h).length + 1 := len1 _ _
  refine ⟨?_, ⟨q1, ?_, b1⟩, ⟨q2, ?_, b2⟩, ⟨q3, ?_, b3⟩, ⟨q4, ?_, b4⟩, ⟨q5, ?_, b5⟩, ⟨_, e6, fun i hi => ?_⟩, fun i (hi : i < (hC h).length) => ?_, fun i (i1 : (hC h).length ≤ i) i2 => ?_, fun d (hd : d < (hD h).length) => ?_, fun d i1 i2 => ?_⟩
  · rw [ll]; exact e0
  · rw [fr _ (by omega) (by omega) (by omega) (by omega) (by omega)]; exact a1
  · rw [fr _ (by omega) (by omega) (by omega) (by omega) (by omega)]; exact a2
  · rw [fr _ (by omega) (by omega) (by omega) (by omega) (by omega)]; exact a3
  · rw [fr _ (by omega) (by omega) (by omega) (by omega) (by omega)]; exact a4
  · rw [fr _ (by omega) (by omega) (by omega) (by omega) (by omega)]; exact a5
  · show upd q6 (x * 7 + y) (nI v) i = nI (gain (hR h ++ [(x, y, v)]) i)
    rw [gain_app]
    by_cases c : i = x * 7 + y
    · subst c
      rw [upd_s, g0, if_pos rfl, Nat.zero_add]
    · rw [upd_n c, if_neg (show ¬ x * 7 + y = i from fun e => c e.symm), Nat.add_zero]; exact b6 i hi
  · rw [fr _ (by omega) (by omega) (by omega) (by omega) (by omega)]; exact h7 i hi
  · obtain ⟨n0, i1', i2', i3, i4, i5, q⟩ := h8 i i1 i2
    exact ⟨n0, i1', i2', i3, i4, i5, by rw [fr _ (by omega) (by omega) (by omega) (by omega) (by omega)]; exact q⟩
  · exact (h9 d hd).frame (fr _ (by omega) (by omega) (by omega) (by omega) (by omega))
  · obtain ⟨w, lim, nm, q, hw⟩ := h10 d i1 i2
    exact ⟨w, lim, nm, by rw [fr _ (by omega) (by omega) (by omega) (by omega) (by omega)]; exact q, hw⟩
/-! what must stand -/
theorem okH.addD {d : Nat × Nat × List Nat} (ok : okH h) (l6 : (hD h).length < 6) (h1 : okName d.2.2) (h2 : d.1 < 3) (h3 : d.1 = 1 → 1 ≤ d.2.1 ∧ d.2.1 ≤ 9) : okH (adD h d) := by
  obtain ⟨a1, a2, a3, a4, a5, a6⟩ := ok
  refine ⟨a1, a2, a3, ?_, fun q hq => ?_, a6⟩
  · rw [show (hD (adD h d)).length = (hD h).length + 1 from len1 _ _]; exact l6
  · rcases List.mem_append.mp hq with e | e
    · exact a5 q e
    · rw [List.mem_singleton.mp e]; exact ⟨h1, h2, h3⟩
theorem okH.stW {p w : Nat} (ok : okH h) (hw : w ≤ 9) : okH (stW h p w) := by
  obtain ⟨a1, a2, a3, a4, a5, a6, a7⟩ := ok
  refine ⟨a1, a2, a3, a4, a5, fun i => ?_, a7⟩
  show updN (hW h) p w i ≤ 9
  unfold updN
  split
  · exact hw
  · exact a6 i
theorem okH.addS {x y : Nat} (ok : okH h) (l12 : (hS h).length < 12) (hx : x < hN h) (hy : y < hN h) (hne : x ≠ y) : okH (adS h (x, y)) := by
  obtain ⟨a1, a2, a3, a4, a5, a6, a7, a8, a9⟩ := ok
  refine ⟨a1, a2, a3, a4, a5, a6, ?_, fun q hq => ?_, a9⟩
  · rw [show (hS (adS h (x, y))).length = (hS h).length + 1 from len1 _ _]; exact l12
  · rcases List.mem_append.mp hq with e | e
    · exact a8 q e
    · rw [List.mem_singleton.mp e]; exact ⟨hx, hy, hne⟩
theorem okH.addR {x y v : Nat} (ok : okH h) (l12 : (hR h).length < 12) (hx : x < hN h) (hy : y < hN h) (hne : x ≠ y) (hv : 1 ≤ v ∧ v ≤ 99) (hn : (x, y) ∉ (hR h).map (fun q => (q.1, q.2.1))) : okH (adR h (x, y, v)) := by
  obtain ⟨a1, a2, a3, a4, a5, a6, a7, a8, a9, a10, a11⟩ := ok
  refine ⟨a1, a2, a3, a4, a5, a6, a7, a8, ?_, fun q hq => ?_, ?_⟩
  · rw [show (hR (adR h (x, y, v))).length = (hR h).length + 1 from len1 _ _]; exact l12
  · rcases List.mem_append.mp hq with e | e
    · exact a10 q e
    · rw [List.mem_singleton.mp e]; exact ⟨hx, hy, hne, hv⟩
  · show ((hR h ++ [(x, y, v)]).map (fun q => (q.1, q.2.1))).Nodup
    rw [List.map_append, List.nodup_append]
    refine ⟨a11, by simp, fun a ha c hc => ?_⟩
    rw [List.map_cons, List.map_nil, List.mem_singleton] at hc
    subst hc
    exact fun e => hn (e ▸ ha)
theorem okH.stN {N : Nat} (ok : okH h) (h1 : 2 ≤ N) (h2 : N ≤ 7) (e1 : hC h = []) (e2 : hS h = []) (e3 : hR h = []) : okH (stN' h N) := by
  obtain ⟨a1, a2, a3, a4, a5, a6, a7, a8, a9, a10, a11⟩ := ok
  exact ⟨⟨h1, h2⟩, a2, fun c hc => by have hc : c ∈ hC h := hc; rw [e1] at hc; exact absurd hc List.not_mem_nil, a4, a5, a6, a7, fun c hc => by have hc : c ∈ hS h := hc; rw [e2] at hc; exact absurd hc List.not_mem_nil, a9, fun c hc => by have hc : c ∈ hR h := hc; rw [e3] at hc; exact absurd hc List.not_mem_nil, a11⟩
end HADD
