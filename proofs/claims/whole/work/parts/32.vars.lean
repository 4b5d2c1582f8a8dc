/-! pure: each variable of a question stands in a literal -/
def occ (l : Lt) (j : Nat) : Prop := ∃ t ∈ l.2.2.2.2, t.1 = Sum.inl j
def opo (c : Ct) : Prop := c.1 = 2 ∨ c.1 = 3 ∨ c.1 = 4 ∨ c.1 = 8 ∨ c.1 = 9
def VI (c : Ct) (D : Dt) : Prop := ∀ j, j < D.2.2.2.1.length → (∃ l ∈ D.2.1, occ l j) ∨ (opo c ∧ occ D.2.2.1 j)
section VarI
variable {md n k : Nat} {F : Nat → Int32}
theorem VI_cl {c c2 : Ct} {D D2 : Dt} (hc : ¬ opo c) (h : VI c D) (e1 : D2.2.1 = D.2.1) (e2 : D2.2.2.2.1 = D.2.2.2.1) : VI c2 D2 := by
  intro j hj
  rw [e2] at hj
  rcases h j hj with w | w
  · rw [e1]
    exact Or.inl w
  · exact absurd w.1 hc
theorem VI_op {c c2 : Ct} {D D2 : Dt} (hc2 : opo c2) (h : VI c D) (e1 : D2.2.1 = D.2.1) (e2 : D2.2.2.2.1 = D.2.2.2.1) (e3 : D2.2.2.1.2.2.2.2 = D.2.2.1.2.2.2.2) : VI c2 D2 := by
  intro j hj
  rw [e2] at hj
  rcases h j hj with w | ⟨-, t, w⟩
  · rw [e1]
    exact Or.inl w
  · exact Or.inr ⟨hc2, t, by rw [e3]; exact w.1, w.2⟩
theorem VI_push {c c2 : Ct} {D D2 : Dt} (h : VI c D) (e1 : D2.2.1 = D.2.1 ++ [D.2.2.1]) (e2 : D2.2.2.2.1 = D.2.2.2.1) : VI c2 D2 := by
  intro j hj
  rw [e2] at hj
  rw [e1]
  rcases h j hj with ⟨l, w1, w2⟩ | ⟨-, w⟩
  · exact Or.inl ⟨l, List.mem_append_left _ w1, w2⟩
  · exact Or.inl ⟨_, List.mem_append_right _ (List.mem_singleton.mpr rfl), w⟩
theorem mVar_last {vs vs2 : List (Option Wd)} {w : Wd} {j : Nat} (h : mVar vs w = some (j, vs2)) : vs2 = vs ∨ (j = vs.length ∧ vs2.length = vs.length + 1) := by
  unfold mVar at h
  split at h
  · simp only [Option.some.injEq, Prod.mk.injEq] at h
    exact Or.inl h.2.symm
  · split at h
    · cases h
    · simp only [Option.some.injEq, Prod.mk.injEq] at h
      obtain ⟨rfl, rfl⟩ := h
      exact Or.inr ⟨rfl, by simp⟩
theorem term_vi {c c2 : Ct} {D D2 : Dt} {kd : Int32} {a b : Nat} {v : Int} (hc2 : opo c2) (h : VI c D) (hm : mTerm md F D kd a b v = some D2) : VI c2 D2 := by
  unfold mTerm at hm
  by_cases z : kd = 3
  · rw [if_pos z] at hm
    cases hv : mVar D.2.2.2.1 (sl F a (b - a)) with
    | none =>
      rw [hv] at hm
      cases hm
    | some x =>
      obtain ⟨i, vs2⟩ := x
      rw [hv] at hm
      simp only [Option.some.injEq] at hm
      subst hm
      intro j hj
      replace hj : j < vs2.length := hj
      have old : j < D.2.2.2.1.length → (∃ l ∈ D.2.1, occ l j) ∨ (opo c2 ∧ occ (pushT D.2.2.1 (Sum.inl i, a)) j) := by
        intro hj2
        rcases h j hj2 with w | ⟨-, t, w1, w2⟩
        · exact Or.inl w
        · exact Or.inr ⟨hc2, t, List.mem_append_left _ w1, w2⟩
      rcases mVar_last hv with e | ⟨e1, e2⟩
      · rw [e] at hj
        exact old hj
      · by_cases g : j < D.2.2.2.1.length
        · exact old g
        · obtain rfl : j = i := by omega
          exact Or.inr ⟨hc2, (Sum.inl j, a), List.mem_append_right _ (List.mem_singleton.mpr rfl), rfl⟩
  · rw [if_neg z] at hm
    generalize (if kd = 4 then (([], v) : Con) else (sl F a (b - a), 0)) = cx at hm
    cases hv : mCon md D.2.2.2.2.2 cx with
    | none =>
      rw [hv] at hm
      cases hm
    | some x =>
      rw [hv] at hm
      simp only [Option.some.injEq] at hm
      subst hm
      intro j hj
      rcases h j hj with w | ⟨-, t, w1, w2⟩
      · exact Or.inl w
      · exact Or.inr ⟨hc2, t, List.mem_append_left _ w1, w2⟩
theorem name_vi {c c2 : Ct} {D D2 : Dt} {kind : Int32} {np a b k3 k2 : Nat} (hc : ¬ opo c) (h : VI c D) (hm : mName md F D kind np a b k3 = .inr (some (c2, D2, k2))) : VI c2 D2 := by
  unfold mName at hm
  split at hm
  · simp only [Sum.inr.injEq, Option.some.injEq, Prod.mk.injEq] at hm
    obtain ⟨-, h2, -⟩ := hm
    subst h2
    exact VI_cl hc h rfl rfl
  · cases hm
theorem shut_vi {c c2 : Ct} {D D2 : Dt} {k3 k2 : Nat} (h : VI c D) (hm : mShut md D k3 = .inr (some (c2, D2, k2))) : VI c2 D2 := by
  unfold mShut at hm
  simp only [Sum.inr.injEq, Option.some.injEq, Prod.mk.injEq] at hm
  obtain ⟨-, h2, -⟩ := hm
  subst h2
  exact VI_push h rfl rfl
theorem mStep_vi {c c2 : Ct} {D D2 : Dt} {k2 : Nat} (hmd : ¬ md = 0) (hc0 : ¬ c.1 = 0) (hc5 : ¬ c.1 = 5) (hV : VI c D) (h : mStep md F n c D k = .inr (some (c2, D2, k2))) : VI c2 D2 ∧ ¬ c2.1 = 0 ∧ ¬ c2.1 = 5 := by
  have nope : ∀ x : Nat, ¬ x = 2 → ¬ x = 3 → ¬ x = 4 → ¬ x = 8 → ¬ x = 9 → c.1 = x → ¬ opo c := by
    intro x a1 a2 a3 a4 a5 e w
    unfold opo at w
    omega
  have nm : ∀ {D0 : Dt} {kind : Int32} {np a b k3 : Nat}, mName md F D0 kind np a b k3 = .inr (some (c2, D2, k2)) → ¬ c2.1 = 0 ∧ ¬ c2.1 = 5 := by
    intro D0 kind np a b k3 hm
    unfold mName at hm
    split at hm
    · simp only [Sum.inr.injEq, Option.some.injEq, Prod.mk.injEq] at hm
      obtain ⟨h1, -, -⟩ := hm
      rw [← h1]
      show ¬ (if md = 3 then 11 else 2) = 0 ∧ ¬ (if md = 3 then 11 else 2) = 5
      split <;> omega
    · cases hm
  have sm : ∀ {k3 : Nat}, mShut md D k3 = .inr (some (c2, D2, k2)) → ¬ c2.1 = 0 ∧ ¬ c2.1 = 5 := by
    intro k3 hm
    unfold mShut at hm
    simp only [Sum.inr.injEq, Option.some.injEq, Prod.mk.injEq] at hm
    obtain ⟨h1, -, -⟩ := hm
    rw [← h1]
    show ¬ (if md = 2 then 11 else if md = 0 ∧ D.2.1 = [] then 5 else 10) = 0 ∧ ¬ (if md = 2 then 11 else if md = 0 ∧ D.2.1 = [] then 5 else 10) = 5
    have hno : ¬ (md = 0 ∧ D.2.1 = []) := fun w => hmd w.1
    rw [if_neg hno]
    split <;> omega
  unfold mStep at h
  simp only at h
  by_cases e2 : c.1 = 2
  · rw [if_pos e2] at h
    split at h
    · simp only [Sum.inr.injEq, Option.some.injEq, Prod.mk.injEq] at h
      obtain ⟨h1, h2, -⟩ := h
      subst h1 h2
      exact ⟨VI_op (Or.inr (Or.inl rfl)) hV rfl rfl rfl, by decide, by decide⟩
    · exact ⟨shut_vi hV h, sm h⟩
  rw [if_neg e2] at h
  by_cases e7 : c.1 = 7
  · rw [if_pos e7] at h
    have hno := nope 7 (by decide) (by decide) (by decide) (by decide) (by decide) e7
    split at h
    · split at h
      · rename_i D3 hm
        simp only [Sum.inr.injEq, Option.some.injEq, Prod.mk.injEq] at h
        obtain ⟨h1, h2, -⟩ := h
        subst h1 h2
        exact ⟨term_vi (c := (10, 0, 0)) (Or.inr (Or.inr (Or.inr (Or.inl rfl)))) (VI_cl (D2 := (D.1, D.2.1, (11, [], c.2.1, 0, []), D.2.2.2)) hno hV rfl rfl) hm, by decide, by decide⟩
      · cases h
    · exact ⟨name_vi hno hV h, nm h⟩
  rw [if_neg e7] at h
  by_cases kb : (TK F n k).1 = 1
  · rw [if_pos kb] at h
    cases h
  rw [if_neg kb, if_neg hc0] at h
  by_cases e1 : c.1 = 1
  · rw [if_pos e1] at h
    have hno := nope 1 (by decide) (by decide) (by decide) (by decide) (by decide) e1
    split at h
    · cases h
    · exact ⟨name_vi hno hV h, nm h⟩
  rw [if_neg e1] at h
  by_cases e3 : c.1 = 3
  · rw [if_pos e3] at h
    split at h
    · cases h
    · split at h
      · cases h
      · split at h
        · rename_i D3 hm
          simp only [Sum.inr.injEq, Option.some.injEq, Prod.mk.injEq] at h
          obtain ⟨h1, h2, -⟩ := h
          subst h1 h2
          exact ⟨term_vi (Or.inr (Or.inr (Or.inl rfl))) hV hm, by decide, by decide⟩
        · cases h
  rw [if_neg e3] at h
  by_cases e4 : c.1 = 4
  · rw [if_pos e4] at h
    split at h
    · simp only [Sum.inr.injEq, Option.some.injEq, Prod.mk.injEq] at h
      obtain ⟨h1, h2, -⟩ := h
      subst h1 h2
      exact ⟨VI_op (Or.inr (Or.inl rfl)) hV rfl rfl rfl, by decide, by decide⟩
    · split at h
      · exact ⟨shut_vi hV h, sm h⟩
      · cases h
  rw [if_neg e4, if_neg hc5] at h
  by_cases e6 : c.1 = 6
  · rw [if_pos e6] at h
    have hno := nope 6 (by decide) (by decide) (by decide) (by decide) (by decide) e6
    by_cases hnt : ¬ (isT (TK F n k).1 = true ∨ (TK F n k).1 = 5)
    · rw [if_pos hnt] at h
      cases h
    · rw [if_neg hnt] at h
      by_cases hl : D.2.1.length = 12 + (if md = 0 then 1 else 0)
      · rw [if_pos hl] at h
        cases h
      · rw [if_neg hl] at h
        split at h
        · simp only [Sum.inr.injEq, Option.some.injEq, Prod.mk.injEq] at h
          obtain ⟨h1, h2, -⟩ := h
          subst h1 h2
          exact ⟨VI_cl hno hV rfl rfl, by show ¬ (7 : Nat) = 0; decide, by show ¬ (7 : Nat) = 5; decide⟩
        · split at h
          · simp only [Sum.inr.injEq, Option.some.injEq, Prod.mk.injEq] at h
            obtain ⟨h1, h2, -⟩ := h
            subst h1 h2
            exact ⟨VI_cl hno hV rfl rfl, by decide, by decide⟩
          · split at h
            · rename_i D3 hm
              simp only [Sum.inr.injEq, Option.some.injEq, Prod.mk.injEq] at h
              obtain ⟨h1, h2, -⟩ := h
              subst h1 h2
              exact ⟨term_vi (c := (10, 0, 0)) (Or.inr (Or.inr (Or.inr (Or.inl rfl)))) (VI_cl (D2 := (D.1, D.2.1, (11, [], (TK F n k).2.1, 0, []), D.2.2.2)) hno hV rfl rfl) hm, by decide, by decide⟩
            · cases h
  rw [if_neg e6] at h
  by_cases e8 : c.1 = 8
  · rw [if_pos e8] at h
    split at h
    · simp only [Sum.inr.injEq, Option.some.injEq, Prod.mk.injEq] at h
      obtain ⟨h1, h2, -⟩ := h
      subst h1 h2
      exact ⟨VI_op (Or.inr (Or.inr (Or.inr (Or.inr rfl)))) hV rfl rfl rfl, by decide, by decide⟩
    · cases h
  rw [if_neg e8] at h
  by_cases e9 : c.1 = 9
  · rw [if_pos e9] at h
    split at h
    · cases h
    · split at h
      · rename_i D3 hm
        simp only [Sum.inr.injEq, Option.some.injEq, Prod.mk.injEq] at h
        obtain ⟨h1, h2, -⟩ := h
        subst h1 h2
        have hV3 : VI (9, 0, 0) D3 := term_vi (Or.inr (Or.inr (Or.inr (Or.inr rfl)))) hV hm
        exact ⟨VI_push hV3 rfl rfl, by decide, by decide⟩
      · cases h
  rw [if_neg e9] at h
  by_cases e10 : c.1 = 10
  · rw [if_pos e10] at h
    have hno := nope 10 (by decide) (by decide) (by decide) (by decide) (by decide) e10
    split at h
    · simp only [Sum.inr.injEq, Option.some.injEq, Prod.mk.injEq] at h
      obtain ⟨h1, h2, -⟩ := h
      subst h1 h2
      exact ⟨VI_cl hno hV rfl rfl, by decide, by decide⟩
    · rw [if_neg (fun w => hmd w.1)] at h
      split at h
      · cases h
      · cases h
  rw [if_neg e10] at h
  split at h
  · cases h
  · cases h
theorem Ends_vi {c : Ct} {D D2 : Dt} (hmd : ¬ md = 0) (hc0 : ¬ c.1 = 0) (hc5 : ¬ c.1 = 5) (hV : VI c D) (h : Ends md F n c D k (.inr D2)) : ∀ j, j < D2.2.2.2.1.length → ∃ l ∈ D2.2.1, occ l j := by
  obtain ⟨f, hf⟩ := h
  induction f generalizing c D k with
  | zero =>
    unfold mRun at hf
    cases hf
  | succ f ih =>
    unfold mRun at hf
    cases hs : mStep md F n c D k with
    | inl e =>
      rw [hs] at hf
      cases hf
    | inr x =>
      rw [hs] at hf
      cases x with
      | none =>
        simp only [Option.some.injEq, Sum.inr.injEq] at hf
        subst hf
        intro j hj
        rcases hV j hj with w | w
        · exact w
        · exfalso
          have := mStep_end hs
          have := w.1
          unfold opo at this
          omega
      | some y =>
        obtain ⟨c2, D3, k2⟩ := y
        obtain ⟨h1, h2, h3⟩ := mStep_vi hmd hc0 hc5 hV hs
        exact ih h2 h3 h1 hf
end VarI
