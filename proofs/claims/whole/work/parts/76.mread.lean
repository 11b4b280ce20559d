/-! the text of a HOUSE, told by mathematical values -/
abbrev Flt : Type := Nat × Nat
def nxT (B : Nat → Nat) (n R : Nat) (t : Tok) : Tok := tokF B n R (tB t)
def mNum (t : Tok) (lo hi : Nat) : Flt ⊕ Nat := if tK t = 3 then (if lo ≤ tV t ∧ tV t ≤ hi then .inr (tV t) else .inl (2, tA t)) else .inl (1, tA t)
def mLet (t : Tok) (N : Nat) : Flt ⊕ Nat := if tK t = 2 then (if (tL t).length = 1 ∧ (tL t).getD 0 0 ≤ N then .inr ((tL t).getD 0 0 - 1) else .inl (2, tA t)) else .inl (1, tA t)
def nmB (h : HS) (L : List Nat) : Bool := (hC h).any (fun c => decide (c.1 = L)) || (hD h).any (fun d => decide (d.2.2 = L))
def mName (h : HS) (t : Tok) : Option Flt := if tK t = 2 ∧ kwF (tL t) = 0 then (if nmB h (tL t) then some (3, tA t) else none) else some (1, tA t)
def okO (N : Nat) (L : List Nat) : Bool := L.all (fun l => decide (l ≤ N)) && decide L.Nodup
abbrev adD (h : HS) (d : Nat × Nat × List Nat) : HS := (hN h, hC h, hD h ++ [d], hW h, hS h, hR h)
abbrev adS (h : HS) (q : Nat × Nat) : HS := (hN h, hC h, hD h, hW h, hS h ++ [q], hR h)
abbrev adR (h : HS) (q : Nat × Nat × Nat) : HS := (hN h, hC h, hD h, hW h, hS h, hR h ++ [q])
abbrev stW (h : HS) (p w : Nat) : HS := (hN h, hC h, hD h, updN (hW h) p w, hS h, hR h)
abbrev stN' (h : HS) (N : Nat) : HS := (N, hC h, hD h, hW h, hS h, hR h)
section MREAD
variable (B : Nat → Nat) (n R : Nat)
def mCopy (h : HS) (t : Tok) : Flt ⊕ (HS × Tok) :=
  if (hC h).length = 10 then .inl (4, tA t) else
  match mName h (nxT B n R t) with
  | some q => .inl q
  | none =>
    if tK (nxT B n R (nxT B n R t)) = 2 then
      (if okO (hN h) (tL (nxT B n R (nxT B n R t))) then .inr (adC h (tL (nxT B n R t), (tL (nxT B n R (nxT B n R t))).map (fun l => l - 1)), nxT B n R (nxT B n R (nxT B n R t))) else .inl (2, tA (nxT B n R (nxT B n R t))))
    else .inl (1, tA (nxT B n R (nxT B n R t)))
def mDesk (h : HS) (t : Tok) : Flt ⊕ (HS × Tok) :=
  if (hD h).length = 6 then .inl (4, tA t) else
  match mName h (nxT B n R t) with
  | some q => .inl q
  | none =>
    if tK (nxT B n R (nxT B n R t)) = 2 ∧ kwF (tL (nxT B n R (nxT B n R t))) = 4 then .inr (adD h (0, 0, tL (nxT B n R t)), nxT B n R (nxT B n R (nxT B n R t))) else
    if tK (nxT B n R (nxT B n R t)) = 2 ∧ kwF (tL (nxT B n R (nxT B n R t))) = 5 then
      match mNum (nxT B n R (nxT B n R (nxT B n R t))) 1 9 with
      | .inl q => .inl q
      | .inr v => .inr (adD h (1, v, tL (nxT B n R t)), nxT B n R (nxT B n R (nxT B n R (nxT B n R t)))) else
    if tK (nxT B n R (nxT B n R t)) = 2 ∧ kwF (tL (nxT B n R (nxT B n R t))) = 6 then .inr (adD h (2, 0, tL (nxT B n R t)), nxT B n R (nxT B n R (nxT B n R t))) else
    .inl (1, tA (nxT B n R (nxT B n R t)))
def mLikely (h : HS) (t : Tok) (pt : Nat) : Flt ⊕ (HS × Tok × Nat) :=
  match mNum (nxT B n R t) 1 (hN h - 1) with
  | .inl q => .inl q
  | .inr p =>
    if pt.testBit p then .inl (3, tA (nxT B n R t)) else
    match mNum (nxT B n R (nxT B n R t)) 0 9 with
    | .inl q => .inl q
    | .inr w => .inr (stW h (p - 1) w, nxT B n R (nxT B n R (nxT B n R t)), pt ||| 2 ^ p)
def mPair (h : HS) (t : Tok) : Flt ⊕ (Nat × Nat) :=
  match mLet t (hN h) with
  | .inl q => .inl q
  | .inr a =>
    match mLet (nxT B n R t) (hN h) with
    | .inl q => .inl q
    | .inr b => if a = b then .inl (3, tA (nxT B n R t)) else .inr (a, b)
def mSense (h : HS) (t : Tok) : Flt ⊕ (HS × Tok) :=
  if (hS h).length = 12 then .inl (4, tA t) else
  match mPair B n R h (nxT B n R t) with
  | .inl q => .inl q
  | .inr ab => if ab ∈ hS h then .inl (3, tA (nxT B n R (nxT B n R t))) else .inr (adS h ab, nxT B n R (nxT B n R (nxT B n R t)))
def mRhyme (h : HS) (t : Tok) : Flt ⊕ (HS × Tok) :=
  if (hR h).length = 12 then .inl (4, tA t) else
  match mPair B n R h (nxT B n R t) with
  | .inl q => .inl q
  | .inr ab => if ab ∈ (hR h).map (fun q => (q.1, q.2.1)) then .inl (3, tA (nxT B n R (nxT B n R t))) else
    match mNum (nxT B n R (nxT B n R (nxT B n R t))) 1 99 with
    | .inl q => .inl q
    | .inr v => .inr (adR h (ab.1, ab.2, v), nxT B n R (nxT B n R (nxT B n R (nxT B n R t))))
def mLines (h : HS) (t : Tok) (lc : Bool) : Flt ⊕ (HS × Tok) :=
  if lc then .inl (3, tA t) else
  match mNum (nxT B n R t) 2 7 with
  | .inl q => .inl q
  | .inr v => .inr (stN' h v, nxT B n R (nxT B n R t))
/-- a LINE without its sign: HOUSE, TOKEN, whether 'lines' can't come any more, the places told -/
def mLine0 (h : HS) (t : Tok) (lc : Bool) (pt : Nat) : Flt ⊕ (HS × Tok × Bool × Nat) :=
  if tK t = 2 then
    match kwF (tL t) with
    | 1 => (mLines B n R h t lc).map id (fun q => (q.1, q.2, true, pt))
    | 2 => (mCopy B n R h t).map id (fun q => (q.1, q.2, true, pt))
    | 3 => (mDesk B n R h t).map id (fun q => (q.1, q.2, lc, pt))
    | 7 => (mLikely B n R h t pt).map id (fun q => (q.1, q.2.1, true, q.2.2))
    | 8 => (mSense B n R h t).map id (fun q => (q.1, q.2, true, pt))
    | 9 => (mRhyme B n R h t).map id (fun q => (q.1, q.2, true, pt))
    | _ => .inl (1, tA t)
  else .inl (1, tA t)
def mLine (h : HS) (t : Tok) (lc : Bool) (pt : Nat) : Flt ⊕ (HS × Tok × Bool × Nat) :=
  match mLine0 B n R h t lc pt with
  | .inl q => .inl q
  | .inr q => if tK q.2.1 = 4 ∧ tS q.2.1 = 59 then .inr (q.1, nxT B n R q.2.1, q.2.2.1, q.2.2.2) else .inl (1, tA q.2.1)
def mHouse : Nat → Nat → HS → Tok → Bool → Nat → Flt ⊕ (Nat × HS)
  | 0, _, _, _, _, _ => .inl (0, 0)
  | d + 1, k, h, t, lc, pt => if tK t = 0 then .inr (k, h) else
    match mLine B n R h t lc pt with
    | .inl q => .inl q
    | .inr q => mHouse d (k + 1) q.1 q.2.1 q.2.2.1 q.2.2.2
end MREAD
/-- a TOKEN of the text -/
def isT (B : Nat → Nat) (n R : Nat) (t : Tok) : Prop := ∃ p, p ≤ n ∧ t = tokF B n R p
theorem isT.o {B : Nat → Nat} {n R : Nat} {t : Tok} (h : isT B n R t) : ∃ p, tkO B n R p t := by
  obtain ⟨p, h1, rfl⟩ := h
  exact ⟨p, tok_ok B n R p h1⟩
theorem isT.nx {B : Nat → Nat} {n R : Nat} {t : Tok} (h : isT B n R t) (k : 2 ≤ tK t) : isT B n R (nxT B n R t) := by
  obtain ⟨p, o⟩ := h.o
  exact ⟨tB t, (o.2.2.1 k).2.2, rfl⟩
/-- a TOKEN further on, if it is one -/
theorem isT.fwd {B : Nat → Nat} {n R : Nat} {t : Tok} (h : isT B n R t) (k : 2 ≤ tK t) (k2 : 2 ≤ tK (nxT B n R t)) : tA t < tA (nxT B n R t) := by
  obtain ⟨p, o⟩ := h.o
  obtain ⟨o1, o2, o3⟩ := o.2.2.1 k
  have o' := tok_ok B n R (tB t) o3
  have := (o'.2.2.1 k2).1
  exact Nat.lt_of_lt_of_le o2 this
