/-! pure: what a text says: a machine that takes tokens (the class's kinds: 0 end, 1 none, 2 name, 3 variable, 4 number, 5 not, 6 (, 7 ), 8 comma, 9 dot, 10 :-, 11 .. 16 comparisons) -/
abbrev Wd : Type := List Int32
/-- a term: a variable's number in its clause, or a constant; and its place -/
abbrev Tm : Type := (Nat ⊕ Con) × Nat
/-- a literal: kind (0 an atom, 1 behind not, 11 .. 16 a comparison), predicate, place, place of not, terms -/
abbrev Lt : Type := Int32 × Wd × Nat × Nat × List Tm
/-- clauses that are closed; literals of this clause that are closed; the one that is open; this clause's variables; predicates; constants -/
abbrev Dt : Type := List (List Lt) × List Lt × Lt × List (Option Wd) × List Wd × List Con
abbrev Ct : Type := Nat × Nat × Nat
def pushT (o : Lt) (t : Tm) : Lt := (o.1, o.2.1, o.2.2.1, o.2.2.2.1, o.2.2.2.2 ++ [t])
/-- a predicate's name: known, or new, or one too many -/
def mPred (md : Nat) (ps : List Wd) (w : Wd) : Option (List Wd) := if md = 0 then (if w ∈ ps then some ps else if ps.length = 64 then none else some (ps ++ [w])) else some ps
def mCon (md : Nat) (cn : List Con) (c : Con) : Option (List Con) := if md = 0 then (if c ∈ cn then some cn else if cn.length = 1000 then none else some (cn ++ [c])) else some cn
/-- a variable: its number and the variables behind it; none: one too many -/
def mVar (vs : List (Option Wd)) (w : Wd) : Option (Nat × List (Option Wd)) :=
  match (if w = [95] then none else vs.findIdx? (fun y => decide (y = some w))) with
  | some j => some (j, vs)
  | none => if vs.length = 12 then none else some (vs.length, vs ++ [if w = [95] then none else some w])
/-- a term is taken: a variable or a constant -/
def mTerm (md : Nat) (F : Nat → Int32) (D : Dt) (kd : Int32) (a b : Nat) (v : Int) : Option Dt :=
  if kd = 3 then (match mVar D.2.2.2.1 (sl F a (b - a)) with
    | some (j, vs) => some (D.1, D.2.1, pushT D.2.2.1 (.inl j, a), vs, D.2.2.2.2.1, D.2.2.2.2.2)
    | none => none)
  else (match mCon md D.2.2.2.2.2 (if kd = 4 then ([], v) else (sl F a (b - a), 0)) with
    | some cn => some (D.1, D.2.1, pushT D.2.2.1 (.inr (if kd = 4 then ([], v) else (sl F a (b - a), 0)), a), D.2.2.2.1, D.2.2.2.2.1, cn)
    | none => none)
abbrev Rs : Type := (Nat × Nat) ⊕ (Option (Ct × Dt × Nat))
def mName (md : Nat) (F : Nat → Int32) (D : Dt) (kind : Int32) (np a b k2 : Nat) : Rs :=
  match mPred md D.2.2.2.2.1 (sl F a (b - a)) with
  | some ps => .inr (some ((if md = 3 then 11 else 2, 0, 0), (D.1, D.2.1, (kind, sl F a (b - a), a, np, []), D.2.2.2.1, ps, D.2.2.2.2.2), k2))
  | none => .inl (3, a)
/-- an atom is closed -/
def mShut (md : Nat) (D : Dt) (k2 : Nat) : Rs := .inr (some ((if md = 2 then 11 else if md = 0 ∧ D.2.1 = [] then 5 else 10, 0, 0), (D.1, D.2.1 ++ [D.2.2.1], D.2.2.1, D.2.2.2.1, D.2.2.2.2.1, D.2.2.2.2.2), k2))
def mDot (D : Dt) (k2 : Nat) : Rs := .inr (some ((0, 0, 0), (D.1 ++ [D.2.1], [], D.2.2.1, D.2.2.2.1, D.2.2.2.2.1, D.2.2.2.2.2), k2))
def isT (kd : Int32) : Bool := decide (kd = 2) || decide (kd = 3) || decide (kd = 4)
/-- one token (or none) is taken -/
def mStep (md : Nat) (F : Nat → Int32) (n : Nat) (c : Ct) (D : Dt) (k : Nat) : Rs :=
  let kd := (TK F n k).1
  let a := (TK F n k).2.1
  let b := (TK F n k).2.2.1
  let v := (TK F n k).2.2.2
  if c.1 = 2 then (if kd = 6 then .inr (some ((3, 0, 0), D, b)) else mShut md D k)
  else if c.1 = 7 then (if (11 : Int32) ≤ kd then (match mTerm md F (D.1, D.2.1, (11, [], c.2.1, 0, []), D.2.2.2) 2 c.2.1 c.2.2 0 with
      | some D2 => .inr (some ((8, 0, 0), D2, k))
      | none => .inl (3, c.2.1))
    else mName md F D 0 0 c.2.1 c.2.2 k)
  else if kd = 1 then .inl (1, a)
  else if c.1 = 0 then (if kd = 0 then .inr none else if ¬ kd = 2 then .inl (2, a) else if D.1.length = 256 then .inl (3, a) else mName md F (D.1, [], D.2.2.1, [], D.2.2.2.2) 0 0 a b b)
  else if c.1 = 1 then (if ¬ kd = 2 then .inl (2, a) else mName md F D D.2.2.1.1 D.2.2.1.2.2.2.1 a b b)
  else if c.1 = 3 then (if ¬ (isT kd = true ∧ ¬ (kd = 3 ∧ md = 2)) then .inl (2, a) else if D.2.2.1.2.2.2.2.length = 6 then .inl (3, a) else (match mTerm md F D kd a b v with
      | some D2 => .inr (some ((4, 0, 0), D2, b))
      | none => .inl (3, a)))
  else if c.1 = 4 then (if kd = 8 then .inr (some ((3, 0, 0), D, b)) else if kd = 7 then mShut md D b else .inl (2, a))
  else if c.1 = 5 then (if kd = 9 then mDot D b else if kd = 10 then .inr (some ((6, 0, 0), D, b)) else .inl (2, a))
  else if c.1 = 6 then (if ¬ (isT kd = true ∨ kd = 5) then .inl (2, a) else if D.2.1.length = 12 + (if md = 0 then 1 else 0) then .inl (3, a) else if kd = 2 then .inr (some ((7, a, b), D, b)) else if kd = 5 then .inr (some ((1, 0, 0), (D.1, D.2.1, (1, [], 0, a, []), D.2.2.2), b)) else (match mTerm md F (D.1, D.2.1, (11, [], a, 0, []), D.2.2.2) kd a b v with
      | some D2 => .inr (some ((8, 0, 0), D2, b))
      | none => .inl (3, a)))
  else if c.1 = 8 then (if (11 : Int32) ≤ kd then .inr (some ((9, 0, 0), (D.1, D.2.1, (kd, D.2.2.1.2), D.2.2.2), b)) else .inl (2, a))
  else if c.1 = 9 then (if ¬ isT kd = true then .inl (2, a) else (match mTerm md F D kd a b v with
      | some D2 => .inr (some ((10, 0, 0), (D2.1, D2.2.1 ++ [D2.2.2.1], D2.2.2), b))
      | none => .inl (3, a)))
  else if c.1 = 10 then (if kd = 8 then .inr (some ((6, 0, 0), D, b)) else if md = 0 ∧ kd = 9 then mDot D b else if md = 1 ∧ kd = 0 then .inr none else .inl (2, a))
  else (if kd = 0 then .inr none else .inl (2, a))
def mRun (md : Nat) (F : Nat → Int32) (n : Nat) : Nat → Ct → Dt → Nat → Option ((Nat × Nat) ⊕ Dt)
  | 0, _, _, _ => none
  | f + 1, c, D, k => match mStep md F n c D k with
    | .inl e => some (.inl e)
    | .inr none => some (.inr D)
    | .inr (some (c2, D2, k2)) => mRun md F n f c2 D2 k2
/-- from there on the machine comes to this end -/
def Ends (md : Nat) (F : Nat → Int32) (n : Nat) (c : Ct) (D : Dt) (k : Nat) (r : (Nat × Nat) ⊕ Dt) : Prop := ∃ f, mRun md F n f c D k = some r
theorem Ends_flt {md : Nat} {F : Nat → Int32} {n k : Nat} {c : Ct} {D : Dt} {e : Nat × Nat} (h : mStep md F n c D k = .inl e) : Ends md F n c D k (.inl e) := ⟨1, by unfold mRun; rw [h]⟩
theorem Ends_end {md : Nat} {F : Nat → Int32} {n k : Nat} {c : Ct} {D : Dt} (h : mStep md F n c D k = .inr none) : Ends md F n c D k (.inr D) := ⟨1, by unfold mRun; rw [h]⟩
theorem Ends_go {md : Nat} {F : Nat → Int32} {n k k2 : Nat} {c c2 : Ct} {D D2 : Dt} {r : (Nat × Nat) ⊕ Dt} (h : mStep md F n c D k = .inr (some (c2, D2, k2))) (h2 : Ends md F n c2 D2 k2 r) : Ends md F n c D k r := by
  obtain ⟨f, hf⟩ := h2
  exact ⟨f + 1, by unfold mRun; rw [h]; exact hf⟩
theorem mRun_more {md : Nat} {F : Nat → Int32} {n : Nat} : ∀ (f g : Nat) (c : Ct) (D : Dt) (k : Nat) (r : (Nat × Nat) ⊕ Dt), f ≤ g → mRun md F n f c D k = some r → mRun md F n g c D k = some r := by
  intro f
  induction f with
  | zero =>
    intro g c D k r hg h
    unfold mRun at h
    exact absurd h (by simp)
  | succ f ih =>
    intro g c D k r hg h
    obtain ⟨g1, rfl⟩ : ∃ g1, g = g1 + 1 := ⟨g - 1, by omega⟩
    unfold mRun at h ⊢
    cases hs : mStep md F n c D k with
    | inl e =>
      rw [hs] at h
      exact h
    | inr x =>
      rw [hs] at h
      cases x with
      | none => exact h
      | some y =>
        obtain ⟨c2, D2, k2⟩ := y
        exact ih g1 c2 D2 k2 r (by omega) h
theorem Ends_one {md : Nat} {F : Nat → Int32} {n k : Nat} {c : Ct} {D : Dt} {r1 r2 : (Nat × Nat) ⊕ Dt} (h1 : Ends md F n c D k r1) (h2 : Ends md F n c D k r2) : r1 = r2 := by
  obtain ⟨f, hf⟩ := h1
  obtain ⟨g, hg⟩ := h2
  have a := mRun_more f (f + g) c D k r1 (by omega) hf
  have b := mRun_more g (f + g) c D k r2 (by omega) hg
  rw [a] at b
  exact Option.some.inj b
