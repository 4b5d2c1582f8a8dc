/-! pure: a variable _ stands in one literal -/
def VU (c : Ct) (D : Dt) : Prop := (∀ x, D.2.2.2.1[x]? = some none → (∀ (i j : Nat) (l l2 : Lt), D.2.1[i]? = some l → D.2.1[j]? = some l2 → occ l x → occ l2 x → i = j) ∧ (opo c → occ D.2.2.1 x → ∀ l ∈ D.2.1, ¬ occ l x)) ∧ ∀ x, ((∃ l ∈ D.2.1, occ l x) ∨ (opo c ∧ occ D.2.2.1 x)) → x < D.2.2.2.1.length
section VarU
variable {md n k : Nat} {F : Nat → Int32}
theorem occ_nil {l : Lt} {x : Nat} (e : l.2.2.2.2 = []) : ¬ occ l x := by
  rintro ⟨t, t1, -⟩
  rw [e] at t1
  cases t1
theorem VU_cl {c c2 : Ct} {D D2 : Dt} (hc : ¬ opo c) (h : VU c D) (e1 : D2.2.1 = D.2.1) (e2 : D2.2.2.2.1 = D.2.2.2.1) (e3 : D2.2.2.1.2.2.2.2 = [] ∨ ¬ opo c2) : VU c2 D2 := by
  refine ⟨fun x hx => ?_, fun x hx => ?_⟩
  · rw [e2] at hx
    rw [e1]
    refine ⟨(h.1 x hx).1, fun ho hoc => ?_⟩
    rcases e3 with e | e
    · exact absurd hoc (occ_nil e)
    · exact absurd ho e
  · rw [e2]
    rw [e1] at hx
    rcases hx with hx | ⟨ho, hoc⟩
    · exact h.2 x (Or.inl hx)
    · rcases e3 with e | e
      · exact absurd hoc (occ_nil e)
      · exact absurd ho e
theorem VU_op {c c2 : Ct} {D D2 : Dt} (hco : opo c) (hc2 : opo c2) (h : VU c D) (e1 : D2.2.1 = D.2.1) (e2 : D2.2.2.2.1 = D.2.2.2.1) (e3 : D2.2.2.1.2.2.2.2 = D.2.2.1.2.2.2.2) : VU c2 D2 := by
  have eo : ∀ x, occ D2.2.2.1 x → occ D.2.2.1 x := by
    rintro x ⟨t, t1, t2⟩
    rw [e3] at t1
    exact ⟨t, t1, t2⟩
  refine ⟨fun x hx => ?_, fun x hx => ?_⟩
  · rw [e2] at hx
    rw [e1]
    exact ⟨(h.1 x hx).1, fun _ hoc => (h.1 x hx).2 hco (eo x hoc)⟩
  · rw [e2]
    rw [e1] at hx
    rcases hx with hx | ⟨-, hoc⟩
    · exact h.2 x (Or.inl hx)
    · exact h.2 x (Or.inr ⟨hco, eo x hoc⟩)
theorem VU_push {c c2 : Ct} {D D2 : Dt} (hco : opo c) (hn : ¬ opo c2) (h : VU c D) (e1 : D2.2.1 = D.2.1 ++ [D.2.2.1]) (e2 : D2.2.2.2.1 = D.2.2.2.1) : VU c2 D2 := by
  have at1 : ∀ (i : Nat) (l : Lt), (D.2.1 ++ [D.2.2.1])[i]? = some l → D.2.1[i]? = some l ∨ (i = D.2.1.length ∧ l = D.2.2.1) := by
    intro i l hi
    rcases Nat.lt_or_ge i D.2.1.length with z | z
    · rw [List.getElem?_append_left z] at hi
      exact Or.inl hi
    · have := (List.getElem?_eq_some_iff.mp hi).1
      rw [List.length_append, List.length_singleton] at this
      obtain rfl : i = D.2.1.length := by omega
      rw [List.getElem?_append_right (Nat.le_refl _), Nat.sub_self] at hi
      exact Or.inr ⟨rfl, (Option.some.inj hi).symm⟩
  refine ⟨fun x hx => ?_, fun x hx => ?_⟩
  · rw [e2] at hx
    rw [e1]
    refine ⟨fun i j l l2 hi hj o1 o2 => ?_, fun ho => absurd ho hn⟩
    rcases at1 i l hi with a | ⟨a1, a2⟩
    · rcases at1 j l2 hj with b | ⟨b1, b2⟩
      · exact (h.1 x hx).1 i j l l2 a b o1 o2
      · rw [b2] at o2
        exact absurd o1 ((h.1 x hx).2 hco o2 l (List.mem_of_getElem? a))
    · rcases at1 j l2 hj with b | ⟨b1, b2⟩
      · rw [a2] at o1
        exact absurd o2 ((h.1 x hx).2 hco o1 l2 (List.mem_of_getElem? b))
      · rw [a1, b1]
  · rw [e2]
    rw [e1] at hx
    rcases hx with ⟨l, l1, l2⟩ | ⟨ho, -⟩
    · rcases List.mem_append.mp l1 with w | w
      · exact h.2 x (Or.inl ⟨l, w, l2⟩)
      · rw [List.mem_singleton.mp w] at l2
        exact h.2 x (Or.inr ⟨hco, l2⟩)
    · exact absurd ho hn
theorem mVar_u {vs vs2 : List (Option Wd)} {w : Wd} {j : Nat} (h : mVar vs w = some (j, vs2)) : (vs2 = vs ∧ vs[j]? = some (some w)) ∨ (j = vs.length ∧ ∃ o, vs2 = vs ++ [o]) := by
  unfold mVar at h
  split at h
  · rename_i j2 hf
    simp only [Option.some.injEq, Prod.mk.injEq] at h
    obtain ⟨rfl, rfl⟩ := h
    split at hf
    · cases hf
    · left
      refine ⟨rfl, ?_⟩
      obtain ⟨q1, q2, -⟩ := List.findIdx?_eq_some_iff_getElem.mp hf
      rw [List.getElem?_eq_getElem q1]
      exact congrArg some (of_decide_eq_true q2)
  · split at h
    · cases h
    · simp only [Option.some.injEq, Prod.mk.injEq] at h
      obtain ⟨rfl, rfl⟩ := h
      exact Or.inr ⟨rfl, _, rfl⟩
theorem term_vu {c c2 : Ct} {D D2 : Dt} {kd : Int32} {a b : Nat} {v : Int} (hco : opo c) (hc2 : opo c2) (h : VU c D) (hm : mTerm md F D kd a b v = some D2) : VU c2 D2 := by
  unfold mTerm at hm
  by_cases z : kd = 3
  · rw [if_pos z] at hm
    cases hv : mVar D.2.2.2.1 (sl F a (b - a)) with
    | none =>
      rw [hv] at hm
      cases hm
    | some x =>
      obtain ⟨i, vs2⟩ := x
      rw [hv] at hm
      simp only [Option.some.injEq] at hm
      subst hm
      have op : ∀ x, occ (pushT D.2.2.1 (Sum.inl i, a)) x → occ D.2.2.1 x ∨ x = i := by
        intro x hx
        rcases occ_push.mp hx with w | w
        · exact Or.inl w
        · exact Or.inr (Sum.inl.inj w).symm
      rcases mVar_u hv with ⟨e, g⟩ | ⟨e, o, g⟩
      · subst e
        refine ⟨fun x hx => ⟨(h.1 x hx).1, fun _ hoc => ?_⟩, fun x hx => ?_⟩
        · rcases op x hoc with w | w
          · exact (h.1 x hx).2 hco w
          · subst w
            rw [g] at hx
            cases hx
        · rcases hx with hx | ⟨-, hoc⟩
          · exact h.2 x (Or.inl hx)
          · rcases op x hoc with w | w
            · exact h.2 x (Or.inr ⟨hco, w⟩)
            · subst w
              exact (List.getElem?_eq_some_iff.mp g).1
      · subst g
        have hin : ∀ x, ((∃ l ∈ D.2.1, occ l x) ∨ occ D.2.2.1 x) → x < D.2.2.2.1.length := by
          intro x hx
          rcases hx with w | w
          · exact h.2 x (Or.inl w)
          · exact h.2 x (Or.inr ⟨hco, w⟩)
        refine ⟨fun x hx => ?_, fun x hx => ?_⟩
        · replace hx : (D.2.2.2.1 ++ [o])[x]? = some none := hx
          rcases Nat.lt_or_ge x D.2.2.2.1.length with w | w
          · rw [List.getElem?_append_left w] at hx
            refine ⟨(h.1 x hx).1, fun _ hoc => ?_⟩
            rcases op x hoc with w2 | w2
            · exact (h.1 x hx).2 hco w2
            · omega
          · refine ⟨fun i2 j2 l l2 hi hj o1 o2 => ?_, fun _ _ l hl hol => ?_⟩
            · have := hin x (Or.inl ⟨l, List.mem_of_getElem? hi, o1⟩)
              omega
            · have := hin x (Or.inl ⟨l, hl, hol⟩)
              omega
        · show x < (D.2.2.2.1 ++ [o]).length
          rw [List.length_append, List.length_singleton]
          rcases hx with hx | ⟨-, hoc⟩
          · have := hin x (Or.inl hx)
            omega
          · rcases op x hoc with w | w
            · have := hin x (Or.inr w)
              omega
            · omega
  · rw [if_neg z] at hm
    generalize (if kd = 4 then (([], v) : Con) else (sl F a (b - a), 0)) = cx at hm
    cases hv : mCon md D.2.2.2.2.2 cx with
    | none =>
      rw [hv] at hm
      cases hm
    | some x =>
      rw [hv] at hm
      simp only [Option.some.injEq] at hm
      subst hm
      have op : ∀ x, occ (pushT D.2.2.1 (Sum.inr cx, a)) x → occ D.2.2.1 x := by
        intro x hx
        rcases occ_push.mp hx with w | w
        · exact w
        · cases w
      refine ⟨fun x hx => ⟨(h.1 x hx).1, fun _ hoc => (h.1 x hx).2 hco (op x hoc)⟩, fun x hx => ?_⟩
      rcases hx with hx | ⟨-, hoc⟩
      · exact h.2 x (Or.inl hx)
      · exact h.2 x (Or.inr ⟨hco, op x hoc⟩)
theorem name_vu {c c2 : Ct} {D D2 : Dt} {kind : Int32} {np a b k3 k2 : Nat} (hc : ¬ opo c) (h : VU c D) (hm : mName md F D kind np a b k3 = .inr (some (c2, D2, k2))) : VU c2 D2 := by
  unfold mName at hm
  split at hm
  · simp only [Sum.inr.injEq, Option.some.injEq, Prod.mk.injEq] at hm
    obtain ⟨-, h2, -⟩ := hm
    subst h2
    exact VU_cl hc h rfl rfl (Or.inl rfl)
  · cases hm
theorem shut_vu {c c2 : Ct} {D D2 : Dt} {k3 k2 : Nat} (hco : opo c) (hmd : ¬ md = 0) (h : VU c D) (hm : mShut md D k3 = .inr (some (c2, D2, k2))) : VU c2 D2 := by
  unfold mShut at hm
  simp only [Sum.inr.injEq, Option.some.injEq, Prod.mk.injEq] at hm
  obtain ⟨h1, h2, -⟩ := hm
  subst h2
  refine VU_push hco ?_ h rfl rfl
  rw [← h1]
  have hno : ¬ (md = 0 ∧ D.2.1 = []) := fun w => hmd w.1
  rw [if_neg hno]
  unfold opo
  show ¬ ((if md = 2 then 11 else 10) = 2 ∨ (if md = 2 then 11 else 10) = 3 ∨ (if md = 2 then 11 else 10) = 4 ∨ (if md = 2 then 11 else 10) = 8 ∨ (if md = 2 then 11 else 10) = 9)
  split <;> omega
theorem mStep_vu {c c2 : Ct} {D D2 : Dt} {k2 : Nat} (hmd : ¬ md = 0) (hc0 : ¬ c.1 = 0) (hc5 : ¬ c.1 = 5) (hV : VU c D) (h : mStep md F n c D k = .inr (some (c2, D2, k2))) : VU c2 D2 ∧ ¬ c2.1 = 0 ∧ ¬ c2.1 = 5 := by
  have nope : ∀ x : Nat, ¬ x = 2 → ¬ x = 3 → ¬ x = 4 → ¬ x = 8 → ¬ x = 9 → c.1 = x → ¬ opo c := by
    intro x a1 a2 a3 a4 a5 e w
    unfold opo at w
    omega
  have nm : ∀ {D0 : Dt} {kind : Int32} {np a b k3 : Nat}, mName md F D0 kind np a b k3 = .inr (some (c2, D2, k2)) → ¬ c2.1 = 0 ∧ ¬ c2.1 = 5 := by
    intro D0 kind np a b k3 hm
    unfold mName at hm
    split at hm
    · simp only [Sum.inr.injEq, Option.some.injEq, Prod.mk.injEq] at hm
      obtain ⟨h1, -, -⟩ := hm
      rw [← h1]
      show ¬ (if md = 3 then 11 else 2) = 0 ∧ ¬ (if md = 3 then 11 else 2) = 5
      split <;> omega
    · cases hm
  have sm : ∀ {k3 : Nat}, mShut md D k3 = .inr (some (c2, D2, k2)) → ¬ c2.1 = 0 ∧ ¬ c2.1 = 5 := by
    intro k3 hm
    unfold mShut at hm
    simp only [Sum.inr.injEq, Option.some.injEq, Prod.mk.injEq] at hm
    obtain ⟨h1, -, -⟩ := hm
    rw [← h1]
    show ¬ (if md = 2 then 11 else if md = 0 ∧ D.2.1 = [] then 5 else 10) = 0 ∧ ¬ (if md = 2 then 11 else if md = 0 ∧ D.2.1 = [] then 5 else 10) = 5
    have hno : ¬ (md = 0 ∧ D.2.1 = []) := fun w => hmd w.1
    rw [if_neg hno]
    split <;> omega
  unfold mStep at h
  simp only at h
  by_cases e2 : c.1 = 2
  · rw [if_pos e2] at h
    split at h
    · simp only [Sum.inr.injEq, Option.some.injEq, Prod.mk.injEq] at h
      obtain ⟨h1, h2, -⟩ := h
      subst h1 h2
      exact ⟨VU_op (Or.inl e2) (Or.inr (Or.inl rfl)) hV rfl rfl rfl, by decide, by decide⟩
    · exact ⟨shut_vu (Or.inl e2) hmd hV h, sm h⟩
  rw [if_neg e2] at h
  by_cases e7 : c.1 = 7
  · rw [if_pos e7] at h
    have hno := nope 7 (by decide) (by decide) (by decide) (by decide) (by decide) e7
    split at h
    · split at h
      · rename_i D3 hm
        simp only [Sum.inr.injEq, Option.some.injEq, Prod.mk.injEq] at h
        obtain ⟨h1, h2, -⟩ := h
        subst h1 h2
        exact ⟨term_vu (c := (8, 0, 0)) (Or.inr (Or.inr (Or.inr (Or.inl rfl)))) (Or.inr (Or.inr (Or.inr (Or.inl rfl)))) (VU_cl (D2 := (D.1, D.2.1, (11, [], c.2.1, 0, []), D.2.2.2)) hno hV rfl rfl (Or.inl rfl)) hm, by decide, by decide⟩
      · cases h
    · exact ⟨name_vu hno hV h, nm h⟩
  rw [if_neg e7] at h
  by_cases kb : (TK F n k).1 = 1
  · rw [if_pos kb] at h
    cases h
  rw [if_neg kb, if_neg hc0] at h
  by_cases e1 : c.1 = 1
  · rw [if_pos e1] at h
    have hno := nope 1 (by decide) (by decide) (by decide) (by decide) (by decide) e1
    split at h
    · cases h
    · exact ⟨name_vu hno hV h, nm h⟩
  rw [if_neg e1] at h
  by_cases e3 : c.1 = 3
  · rw [if_pos e3] at h
    split at h
    · cases h
    · split at h
      · cases h
      · split at h
        · rename_i D3 hm
          simp only [Sum.inr.injEq, Option.some.injEq, Prod.mk.injEq] at h
          obtain ⟨h1, h2, -⟩ := h
          subst h1 h2
          exact ⟨term_vu (Or.inr (Or.inl e3)) (Or.inr (Or.inr (Or.inl rfl))) hV hm, by decide, by decide⟩
        · cases h
  rw [if_neg e3] at h
  by_cases e4 : c.1 = 4
  · rw [if_pos e4] at h
    split at h
    · simp only [Sum.inr.injEq, Option.some.injEq, Prod.mk.injEq] at h
      obtain ⟨h1, h2, -⟩ := h
      subst h1 h2
      exact ⟨VU_op (Or.inr (Or.inr (Or.inl e4))) (Or.inr (Or.inl rfl)) hV rfl rfl rfl, by decide, by decide⟩
    · split at h
      · exact ⟨shut_vu (Or.inr (Or.inr (Or.inl e4))) hmd hV h, sm h⟩
      · cases h
  rw [if_neg e4, if_neg hc5] at h
  by_cases e6 : c.1 = 6
  · rw [if_pos e6] at h
    have hno := nope 6 (by decide) (by decide) (by decide) (by decide) (by decide) e6
    by_cases hnt : ¬ (isT (TK F n k).1 = true ∨ (TK F n k).1 = 5)
    · rw [if_pos hnt] at h
      cases h
    · rw [if_neg hnt] at h
      by_cases hl : D.2.1.length = 12 + (if md = 0 then 1 else 0)
      · rw [if_pos hl] at h
        cases h
      · rw [if_neg hl] at h
        split at h
        · simp only [Sum.inr.injEq, Option.some.injEq, Prod.mk.injEq] at h
          obtain ⟨h1, h2, -⟩ := h
          subst h1 h2
          exact ⟨VU_cl hno hV rfl rfl (Or.inr (by unfold opo; simp)), by show ¬ (7 : Nat) = 0; decide, by show ¬ (7 : Nat) = 5; decide⟩
        · split at h
          · simp only [Sum.inr.injEq, Option.some.injEq, Prod.mk.injEq] at h
            obtain ⟨h1, h2, -⟩ := h
            subst h1 h2
            exact ⟨VU_cl hno hV rfl rfl (Or.inr (by unfold opo; simp)), by decide, by decide⟩
          · split at h
            · rename_i D3 hm
              simp only [Sum.inr.injEq, Option.some.injEq, Prod.mk.injEq] at h
              obtain ⟨h1, h2, -⟩ := h
              subst h1 h2
              exact ⟨term_vu (c := (8, 0, 0)) (Or.inr (Or.inr (Or.inr (Or.inl rfl)))) (Or.inr (Or.inr (Or.inr (Or.inl rfl)))) (VU_cl (D2 := (D.1, D.2.1, (11, [], (TK F n k).2.1, 0, []), D.2.2.2)) hno hV rfl rfl (Or.inl rfl)) hm, by decide, by decide⟩
            · cases h
  rw [if_neg e6] at h
  by_cases e8 : c.1 = 8
  · rw [if_pos e8] at h
    split at h
    · simp only [Sum.inr.injEq, Option.some.injEq, Prod.mk.injEq] at h
      obtain ⟨h1, h2, -⟩ := h
      subst h1 h2
      exact ⟨VU_op (Or.inr (Or.inr (Or.inr (Or.inl e8)))) (Or.inr (Or.inr (Or.inr (Or.inr rfl)))) hV rfl rfl rfl, by decide, by decide⟩
    · cases h
  rw [if_neg e8] at h
  by_cases e9 : c.1 = 9
  · rw [if_pos e9] at h
    split at h
    · cases h
    · split at h
      · rename_i D3 hm
        simp only [Sum.inr.injEq, Option.some.injEq, Prod.mk.injEq] at h
        obtain ⟨h1, h2, -⟩ := h
        subst h1 h2
        have hV3 : VU (9, 0, 0) D3 := term_vu (Or.inr (Or.inr (Or.inr (Or.inr e9)))) (Or.inr (Or.inr (Or.inr (Or.inr rfl)))) hV hm
        exact ⟨VU_push (Or.inr (Or.inr (Or.inr (Or.inr rfl)))) (by unfold opo; decide) hV3 rfl rfl, by decide, by decide⟩
      · cases h
  rw [if_neg e9] at h
  by_cases e10 : c.1 = 10
  · rw [if_pos e10] at h
    have hno := nope 10 (by decide) (by decide) (by decide) (by decide) (by decide) e10
    split at h
    · simp only [Sum.inr.injEq, Option.some.injEq, Prod.mk.injEq] at h
      obtain ⟨h1, h2, -⟩ := h
      subst h1 h2
      exact ⟨VU_cl hno hV rfl rfl (Or.inr (by unfold opo; simp)), by decide, by decide⟩
    · rw [if_neg (fun w => hmd w.1)] at h
      split at h
      · cases h
      · cases h
  rw [if_neg e10] at h
  split at h
  · cases h
  · cases h
theorem Ends_vu {c : Ct} {D D2 : Dt} (hmd : ¬ md = 0) (hc0 : ¬ c.1 = 0) (hc5 : ¬ c.1 = 5) (hV : VU c D) (h : Ends md F n c D k (.inr D2)) : ∀ x, D2.2.2.2.1[x]? = some none → ∀ (i j : Nat) (l l2 : Lt), D2.2.1[i]? = some l → D2.2.1[j]? = some l2 → occ l x → occ l2 x → i = j := by
  obtain ⟨f, hf⟩ := h
  induction f generalizing c D k with
  | zero =>
    unfold mRun at hf
    cases hf
  | succ f ih =>
    unfold mRun at hf
    cases hs : mStep md F n c D k with
    | inl e =>
      rw [hs] at hf
      cases hf
    | inr x =>
      rw [hs] at hf
      cases x with
      | none =>
        simp only [Option.some.injEq, Sum.inr.injEq] at hf
        subst hf
        exact fun x hx => (hV.1 x hx).1
      | some y =>
        obtain ⟨c2, D3, k2⟩ := y
        obtain ⟨h1, h2, h3⟩ := mStep_vu hmd hc0 hc5 hV hs
        exact ih h2 h3 h1 hf
end VarU
