/-! pure: the class's reader and the machine: what stands for what -/
def lsO (c : Ct) (D : Dt) : List Lt := if c.1 = 2 ∨ c.1 = 3 ∨ c.1 = 4 ∨ c.1 = 8 ∨ c.1 = 9 then D.2.1 ++ [D.2.2.1] else D.2.1
def kn (c : Ct) (D : Dt) (k : Nat) : Nat := if c.1 = 2 ∨ c.1 = 3 ∨ c.1 = 4 then D.2.2.1.2.2.1 else if c.1 = 7 then c.2.1 else k
def opc (c : Ct) : Nat := if c.1 = 1 ∨ c.1 = 2 ∨ c.1 = 3 ∨ c.1 = 4 ∨ c.1 = 8 ∨ c.1 = 9 then 1 else 0
def opb (c : Ct) : Nat := if c.1 = 7 then 1 else opc c
def sdOf (l : Lt) : List Con := l.2.2.2.2.filterMap (fun t => match t.1 with
  | .inl _ => none
  | .inr c => some c)
/-- where the clauses begin -/
def FFQ (cs : List (List Lt)) (FF : Nat → Int32) : Prop := ∀ c, c ≤ cs.length → FF c = nI (cs.take c).flatten.length
/-- the faults that are noted -/
def WN (md : Nat) (ar : Nat → Nat) (D : Dt) (c p : Nat) : Prop := if md = 0 then ((∃ ls ∈ D.1, W11 0 ls ls.length c p) ∨ W10 (Lc D) c p) else W10q D.2.2.2.2.1 ar D.2.1 D.2.1.length c p
section CRel
variable {md : Nat} {ar : Nat → Nat} {ps : List Wd} {L : List Lt} {l : Lt} {c p : Nat} {D : Dt}
theorem W10q_push : W10q ps ar (L ++ [l]) (L ++ [l]).length c p ↔ (W10q ps ar L L.length c p ∨ (c = 10 ∧ isA l ∧ l.2.2.1 = p ∧ ∃ m, dueQ ps ar L l.2.1 (some m) ∧ ¬ m = l.2.2.2.2.length)) := by
  unfold W10q
  constructor
  · rintro ⟨hc, k, x, -, hx, hA, hp, m, hd, hm⟩
    rcases app1.mp hx with q | ⟨q1, q2⟩
    · have hk := (List.getElem?_eq_some_iff.mp q).1
      rw [List.take_append_of_le_length (by omega)] at hd
      exact Or.inl ⟨hc, k, x, hk, q, hA, hp, m, hd, hm⟩
    · subst q1 q2
      rw [List.take_append_of_le_length (by omega), List.take_length] at hd
      exact Or.inr ⟨hc, hA, hp, m, hd, hm⟩
  · rintro (⟨hc, k, x, hk, hx, hA, hp, m, hd, hm⟩ | ⟨hc, hA, hp, m, hd, hm⟩)
    · refine ⟨hc, k, x, by rw [List.length_append]; omega, app1.mpr (Or.inl hx), hA, hp, m, ?_, hm⟩
      rw [List.take_append_of_le_length (by omega)]
      exact hd
    · refine ⟨hc, L.length, l, by rw [List.length_append]; simp, app1.mpr (Or.inr ⟨rfl, rfl⟩), hA, hp, m, ?_, hm⟩
      rw [List.take_append_of_le_length (by omega), List.take_length]
      exact hd
theorem Lc_push {x : Lt} {vs : List (Option Wd)} {q : List Wd × List Con} : Lc (D.1, D.2.1 ++ [l], x, vs, q) = Lc D ++ [l] := by
  show D.1.flatten ++ (D.2.1 ++ [l]) = D.1.flatten ++ D.2.1 ++ [l]
  rw [List.append_assoc]
/-- an atom more is closed -/
theorem WN_atom {x : Lt} {vs : List (Option Wd)} {cn : List Con} (hA : isA l) (h1 : ¬ md = 0 → D.1 = []) : WN md ar (D.1, D.2.1 ++ [l], x, vs, D.2.2.2.2.1, cn) c p ↔ (WN md ar D c p ∨ WB md D.2.2.2.2.1 ar (Lc D) l c p) := by
  unfold WN WB due
  by_cases h0 : md = 0
  · rw [if_pos h0, if_pos h0, Lc_push]
    show ((∃ ls ∈ D.1, _) ∨ _) ↔ _
    rw [W10_push]
    constructor
    · rintro (q | q | ⟨q1, q2, q3, m, q4, q5⟩)
      · exact Or.inl (Or.inl q)
      · exact Or.inl (Or.inr q)
      · exact Or.inr ⟨q1, q3.symm, m, by rw [if_pos h0]; exact q4, q5⟩
    · rintro ((q | q) | ⟨q1, q3, m, q4, q5⟩)
      · exact Or.inl q
      · exact Or.inr (Or.inl q)
      · rw [if_pos h0] at q4
        exact Or.inr (Or.inr ⟨q1, hA, q3.symm, m, q4, q5⟩)
  · rw [if_neg h0, if_neg h0]
    have eL : Lc D = D.2.1 := by
      unfold Lc
      rw [h1 h0]
      rfl
    rw [eL]
    show W10q D.2.2.2.2.1 ar (D.2.1 ++ [l]) (D.2.1 ++ [l]).length c p ↔ _
    rw [W10q_push]
    constructor
    · rintro (q | ⟨q1, q2, q3, m, q4, q5⟩)
      · exact Or.inl q
      · exact Or.inr ⟨q1, q3.symm, m, by rw [if_neg h0]; exact q4, q5⟩
    · rintro (q | ⟨q1, q3, m, q4, q5⟩)
      · exact Or.inl q
      · rw [if_neg h0] at q4
        exact Or.inr ⟨q1, hA, q3.symm, m, q4, q5⟩
/-- a comparison more is closed -/
theorem WN_cmp {x : Lt} {vs : List (Option Wd)} {cn : List Con} (hA : ¬ isA l) : WN md ar (D.1, D.2.1 ++ [l], x, vs, D.2.2.2.2.1, cn) c p ↔ WN md ar D c p := by
  unfold WN
  by_cases h0 : md = 0
  · rw [if_pos h0, if_pos h0, Lc_push]
    show ((∃ ls ∈ D.1, _) ∨ _) ↔ _
    rw [W10_push]
    constructor
    · rintro (q | q | ⟨q1, q2, -⟩)
      · exact Or.inl q
      · exact Or.inr q
      · exact absurd q2 hA
    · rintro (q | q)
      · exact Or.inl q
      · exact Or.inr (Or.inl q)
  · rw [if_neg h0, if_neg h0]
    show W10q D.2.2.2.2.1 ar (D.2.1 ++ [l]) (D.2.1 ++ [l]).length c p ↔ _
    rw [W10q_push]
    constructor
    · rintro (q | ⟨q1, q2, -⟩)
      · exact q
      · exact absurd q2 hA
    · exact Or.inl
/-- a clause is closed -/
theorem WN_dot {x : Lt} {vs : List (Option Wd)} {q : List Wd × List Con} (h0 : md = 0) : WN md ar (D.1 ++ [D.2.1], [], x, vs, q) c p ↔ (WN md ar D c p ∨ W11 0 D.2.1 D.2.1.length c p) := by
  unfold WN
  rw [if_pos h0, if_pos h0]
  have eL : Lc (D.1 ++ [D.2.1], [], x, vs, q) = Lc D := by
    show (D.1 ++ [D.2.1]).flatten ++ [] = D.1.flatten ++ D.2.1
    rw [List.flatten_append, List.append_nil]
    simp
  rw [eL]
  show ((∃ ls ∈ D.1 ++ [D.2.1], _) ∨ _) ↔ _
  constructor
  · rintro (⟨ls, hl, w⟩ | w)
    · rcases List.mem_append.mp hl with r | r
      · exact Or.inl (Or.inl ⟨ls, r, w⟩)
      · rw [List.mem_singleton.mp r] at w
        exact Or.inr w
    · exact Or.inl (Or.inr w)
  · rintro ((⟨ls, hl, w⟩ | w) | w)
    · exact Or.inl ⟨ls, List.mem_append_left _ hl, w⟩
    · exact Or.inr w
    · exact Or.inl ⟨D.2.1, List.mem_append_right _ (List.mem_singleton.mpr rfl), w⟩
theorem Lc_dot {x : Lt} {vs : List (Option Wd)} {q : List Wd × List Con} : Lc (D.1 ++ [D.2.1], [], x, vs, q) = Lc D := by
  show (D.1 ++ [D.2.1]).flatten ++ [] = D.1.flatten ++ D.2.1
  rw [List.flatten_append, List.append_nil]
  simp
/-- the first needed places stand for all that are unbound -/
theorem W11_nd {ls : List Lt} {nv k : Nat} {ND : Nat → Int32} (h4 : ∀ v, v < nv → NdQ md ls k v (ND v)) (h5 : ∀ l ∈ ls, ∀ v, occ l v → v < nv) : (∀ c p, (c = 11 ∧ ∃ v, v < nv ∧ (Nd md ls v p ∧ ∀ p2, Nd md ls v p2 → p ≤ p2) ∧ ¬ bnd md ls v) → W11 md ls ls.length c p) ∧ (∀ c p, W11 md ls ls.length c p → ∃ p2, (∃ v, v < nv ∧ (Nd md ls v p2 ∧ ∀ p3, Nd md ls v p3 → p2 ≤ p3) ∧ ¬ bnd md ls v) ∧ p2 ≤ p) := by
  constructor
  · rintro c p ⟨hc, v, hv, ⟨⟨j, l, hj, hn, t, ht, e1, e2⟩, -⟩, hb⟩
    exact ⟨hc, j, l, (List.getElem?_eq_some_iff.mp hj).1, hj, hn, t, ht, e1, v, e2, hb⟩
  · rintro c p ⟨-, j, l, -, hj, hn, t, ht, e1, v, e2, hb⟩
    have hv := h5 l (List.mem_of_getElem? hj) v ⟨t, ht, e2⟩
    have hN : Nd md ls v p := ⟨j, l, hj, hn, t, ht, e1, e2⟩
    rcases h4 v hv with ⟨-, q⟩ | ⟨p2, -, -, q1, q2⟩
    · exact absurd hN (q p)
    · exact ⟨p2, ⟨v, hv, ⟨q1, q2⟩, hb⟩, q2 p hN⟩
end CRel
