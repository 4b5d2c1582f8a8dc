/-! pure: names as they stand in a text; each predicate has an atom -/
def WdAt (G : Nat → Int32) (n a : Nat) (w : Wd) : Prop := 0 < w.length ∧ a + w.length ≤ n ∧ sl G a w.length = w ∧ (∀ x ∈ w, tkW x = true) ∧ (a + w.length < n → tkW (G (a + w.length)) = false)
theorem tkE_end (F : Nat → Int32) : ∀ d k, tkE F d k < k + d → tkW (F (tkE F d k)) = false := by
  intro d
  induction d with
  | zero =>
    intro k h
    unfold tkE at h
    omega
  | succ d ih =>
    intro k h
    unfold tkE at h ⊢
    by_cases w : tkW (F k) = true
    · rw [if_pos w] at h ⊢
      exact ih (k + 1) (by omega)
    · rw [if_neg w] at h ⊢
      simpa using w
theorem TK_wd (F : Nat → Int32) (n k : Nat) (hk : k ≤ n) (h : (TK F n k).1 = 2) : WdAt F n (TK F n k).2.1 (sl F (TK F n k).2.1 ((TK F n k).2.2.1 - (TK F n k).2.1)) := by
  have hpos := TK_pos F n k hk
  have hlt : (TK F n k).2.1 < (TK F n k).2.2.1 := by
    rcases hpos.2.2.2 with g | g
    · rw [h] at g
      exact absurd g (by decide)
    · exact g
  have hw := TK_word F n k h
  unfold WdAt
  rw [sl_len]
  refine ⟨by omega, by omega, rfl, hw, fun hb => ?_⟩
  rw [show (TK F n k).2.1 + ((TK F n k).2.2.1 - (TK F n k).2.1) = (TK F n k).2.2.1 by omega] at hb ⊢
  revert h hb
  unfold TK
  generalize tkSk F (n - k) k false = a
  by_cases q : a < n
  · rw [if_pos q]
    by_cases g1 : (tkW (F a) && !tkD (F a)) = true
    · rw [if_pos g1]
      intro _ hb
      exact tkE_end F (n - a) a (by show tkE F (n - a) a < a + (n - a); replace hb : tkE F (n - a) a < n := hb; omega)
    · rw [if_neg g1]
      by_cases g2 : (tkD (F a) || decide (F a = 45)) = true
      · rw [if_pos g2]
        intro h
        exfalso
        revert h
        show (if decide ((tv F (n - ds F a) (ds F a) 0).2 ≤ ds F a) = true then (1 : Int32) else if (if decide (F a = 45) = true then 2147483648 else 2147483647) < (tv F (n - ds F a) (ds F a) 0).1 then 1 else 4) = 2 → False
        by_cases z1 : decide ((tv F (n - ds F a) (ds F a) 0).2 ≤ ds F a) = true
        · rw [if_pos z1]
          decide
        · rw [if_neg z1]
          by_cases z2 : (if decide (F a = 45) = true then 2147483648 else 2147483647) < (tv F (n - ds F a) (ds F a) 0).1
          · rw [if_pos z2]
            decide
          · rw [if_neg z2]
            decide
      · rw [if_neg g2]
        intro h
        exfalso
        replace h : (sgk F n a).1 = 2 := h
        rcases sgk_cases F n a with c | ⟨-, c⟩ | ⟨-, c⟩
        · rw [c] at h
          exact absurd h (by decide)
        · rcases c with c | c | c | c | c | c | c <;> rw [c] at h <;> exact absurd h (by decide)
        · rcases c with c | c | c | c <;> rw [c] at h <;> exact absurd h (by decide)
  · rw [if_neg q]
    intro h
    exact absurd h (by show ¬ (0 : Int32) = 2; decide)
def isA (l : Lt) : Prop := l.1 = 0 ∨ l.1 = 1
def opn (c : Ct) : Prop := c.1 = 2 ∨ c.1 = 3 ∨ c.1 = 4
/-- the names of atoms stand in the text; each predicate is in an atom -/
def NA (md n : Nat) (G : Nat → Int32) (D : Dt) : Prop := (∀ l ∈ D.2.1, isA l → WdAt G n l.2.2.1 l.2.1) ∧ (md = 0 → ∀ w ∈ D.2.2.2.2.1, (∃ ls ∈ D.1, ∃ l ∈ ls, isA l ∧ l.2.1 = w) ∨ (∃ l ∈ D.2.1, isA l ∧ l.2.1 = w))
def NI (md n : Nat) (G : Nat → Int32) (c : Ct) (D : Dt) : Prop := (opn c → WdAt G n D.2.2.1.2.2.1 D.2.2.1.2.1 ∧ isA D.2.2.1 ∧ (∀ l ∈ D.2.1, isA l → WdAt G n l.2.2.1 l.2.1) ∧ (md = 0 → ∀ w ∈ D.2.2.2.2.1, (∃ ls ∈ D.1, ∃ l ∈ ls, isA l ∧ l.2.1 = w) ∨ (∃ l ∈ D.2.1, isA l ∧ l.2.1 = w) ∨ D.2.2.1.2.1 = w)) ∧ (¬ opn c → NA md n G D) ∧ (c.1 = 7 → WdAt G n c.2.1 (sl G c.2.1 (c.2.2 - c.2.1)))
section Nm
variable {md n k : Nat} {F : Nat → Int32}
theorem name_nm {D D2 : Dt} {kind : Int32} {np a b k3 k2 : Nat} {c2 : Ct} (hN : NA md n F D) (hw : WdAt F n a (sl F a (b - a))) (hk : kind = 0 ∨ kind = 1) (h : mName md F D kind np a b k3 = .inr (some (c2, D2, k2))) : NI md n F c2 D2 := by
  unfold mName at h
  split at h
  · rename_i ps2 hp
    simp only [Sum.inr.injEq, Option.some.injEq, Prod.mk.injEq] at h
    obtain ⟨h1, h2, -⟩ := h
    subst h1 h2
    have hps : md = 0 → ∀ w ∈ ps2, w ∈ D.2.2.2.2.1 ∨ w = sl F a (b - a) := by
      intro hm w hw2
      unfold mPred at hp
      rw [if_pos hm] at hp
      split at hp
      · obtain rfl := Option.some.inj hp
        exact Or.inl hw2
      · split at hp
        · cases hp
        · obtain rfl := Option.some.inj hp
          rcases List.mem_append.mp hw2 with g | g
          · exact Or.inl g
          · exact Or.inr (List.mem_singleton.mp g)
    refine ⟨fun _ => ⟨hw, hk, hN.1, fun hm w hw2 => ?_⟩, fun ho => ?_, fun h7 => ?_⟩
    · rcases hps hm w hw2 with g | g
      · rcases hN.2 hm w g with g | g
        · exact Or.inl g
        · exact Or.inr (Or.inl g)
      · exact Or.inr (Or.inr g.symm)
    · by_cases z : md = 3
      · exact ⟨hN.1, fun hm => absurd (hm.symm.trans z) (by decide)⟩
      · exfalso
        apply ho
        show (if md = 3 then 11 else 2) = 2 ∨ _
        rw [if_neg z]
        exact Or.inl rfl
    · exfalso
      replace h7 : (if md = 3 then 11 else 2) = 7 := h7
      split at h7 <;> omega
  · cases h
theorem mTerm_nm {D D2 : Dt} {kd : Int32} {a b : Nat} {v : Int} (h : mTerm md F D kd a b v = some D2) : ∃ t vs2 cn2, D2 = (D.1, D.2.1, pushT D.2.2.1 t, vs2, D.2.2.2.2.1, cn2) := by
  unfold mTerm at h
  split at h
  · split at h
    · simp only [Option.some.injEq] at h
      exact ⟨_, _, _, h.symm⟩
    · cases h
  · split at h
    · simp only [Option.some.injEq] at h
      exact ⟨_, _, _, h.symm⟩
    · cases h
theorem NA_open {D : Dt} {o2 : Lt} {vs2 : List (Option Wd)} {cn2 : List Con} (h : NA md n F D) : NA md n F (D.1, D.2.1, o2, vs2, D.2.2.2.2.1, cn2) := h
theorem NA_push {D : Dt} {o : Lt} {x : Lt × List (Option Wd) × List Wd × List Con} (hx : x.2.2.1 = D.2.2.2.2.1) (h : NA md n F D) (ho : ¬ isA o) : NA md n F (D.1, D.2.1 ++ [o], x) := by
  refine ⟨fun l hl hA => ?_, fun hm w hw => ?_⟩
  · rcases List.mem_append.mp hl with g | g
    · exact h.1 l g hA
    · rw [List.mem_singleton] at g
      rw [g] at hA
      exact absurd hA ho
  · rcases h.2 hm w (by rw [← hx]; exact hw) with g | ⟨l, g1, g2⟩
    · exact Or.inl g
    · exact Or.inr ⟨l, List.mem_append_left _ g1, g2⟩
theorem shut_nm {D D2 : Dt} {k3 k2 : Nat} {c c2 : Ct} (hc : opn c) (hN : NI md n F c D) (h : mShut md D k3 = .inr (some (c2, D2, k2))) : NI md n F c2 D2 := by
  unfold mShut at h
  simp only [Sum.inr.injEq, Option.some.injEq, Prod.mk.injEq] at h
  obtain ⟨h1, h2, -⟩ := h
  subst h2
  obtain ⟨o1, o2, o3, o4⟩ := hN.1 hc
  have hna : NA md n F (D.1, D.2.1 ++ [D.2.2.1], D.2.2.1, D.2.2.2.1, D.2.2.2.2.1, D.2.2.2.2.2) := by
    refine ⟨fun l hl hA => ?_, fun hm w hw => ?_⟩
    · rcases List.mem_append.mp hl with g | g
      · exact o3 l g hA
      · rw [List.mem_singleton] at g
        rw [g]
        exact o1
    · rcases o4 hm w hw with g | ⟨l, g1, g2⟩ | g
      · exact Or.inl g
      · exact Or.inr ⟨l, List.mem_append_left _ g1, g2⟩
      · exact Or.inr ⟨D.2.2.1, List.mem_append_right _ (List.mem_singleton.mpr rfl), o2, g⟩
  have hc2 : c2.1 = 11 ∨ c2.1 = 5 ∨ c2.1 = 10 := by
    rw [← h1]
    show (if md = 2 then 11 else if md = 0 ∧ D.2.1 = [] then 5 else 10) = 11 ∨ _
    split
    · exact Or.inl rfl
    · split
      · exact Or.inr (Or.inl rfl)
      · exact Or.inr (Or.inr rfl)
  refine ⟨fun ho => ?_, fun _ => hna, fun h7 => ?_⟩
  · exfalso
    unfold opn at ho
    omega
  · exfalso
    omega
theorem dot_nm {D D2 : Dt} {k3 k2 : Nat} {c2 : Ct} (hN : NA md n F D) (h : mDot D k3 = .inr (some (c2, D2, k2))) : NI md n F c2 D2 := by
  unfold mDot at h
  simp only [Sum.inr.injEq, Option.some.injEq, Prod.mk.injEq] at h
  obtain ⟨h1, h2, -⟩ := h
  subst h1 h2
  refine ⟨fun ho => ?_, fun _ => ⟨fun l hl => (by cases hl), fun hm w hw => ?_⟩, fun h7 => absurd h7 (by decide)⟩
  · exfalso
    rcases ho with h | h | h <;> exact absurd h (by decide)
  · rcases hN.2 hm w hw with ⟨ls, g1, g2⟩ | ⟨l, g1, g2⟩
    · exact Or.inl ⟨ls, List.mem_append_left _ g1, g2⟩
    · exact Or.inl ⟨D.2.1, List.mem_append_right _ (List.mem_singleton.mpr rfl), l, g1, g2⟩
theorem no_opn {c : Ct} (h2 : ¬ c.1 = 2) (h3 : ¬ c.1 = 3) (h4 : ¬ c.1 = 4) : ¬ opn c := by
  rintro (h | h | h)
  · exact h2 h
  · exact h3 h
  · exact h4 h
/-- a state with nothing open -/
theorem NI_na {c : Ct} {D : Dt} (h2 : ¬ c.1 = 2) (h3 : ¬ c.1 = 3) (h4 : ¬ c.1 = 4) (h7 : ¬ c.1 = 7) (h : NA md n F D) : NI md n F c D := ⟨fun w => absurd w (no_opn h2 h3 h4), fun _ => h, fun w => absurd w h7⟩
theorem NI_open {c c2 : Ct} {D : Dt} {o2 : Lt} {vs2 : List (Option Wd)} {cn2 : List Con} (hc : opn c) (hc2 : opn c2) (hN : NI md n F c D) (e1 : o2.1 = D.2.2.1.1) (e2 : o2.2.1 = D.2.2.1.2.1) (e3 : o2.2.2.1 = D.2.2.1.2.2.1) : NI md n F c2 (D.1, D.2.1, o2, vs2, D.2.2.2.2.1, cn2) := by
  obtain ⟨o1, o3, o4, o5⟩ := hN.1 hc
  refine ⟨fun _ => ⟨?_, ?_, o4, fun hm w hw => ?_⟩, fun w => absurd hc2 w, fun h7 => ?_⟩
  · show WdAt F n o2.2.2.1 o2.2.1
    rw [e2, e3]
    exact o1
  · show o2.1 = 0 ∨ o2.1 = 1
    rw [e1]
    exact o3
  · rcases o5 hm w hw with g | g | g
    · exact Or.inl g
    · exact Or.inr (Or.inl g)
    · exact Or.inr (Or.inr (by show o2.2.1 = w; rw [e2]; exact g))
  · exfalso
    unfold opn at hc2
    omega
theorem mStep_nm {c c2 : Ct} {D D2 : Dt} {k2 : Nat} (hp : POk n c k) (ho : OI md F c D) (hN : NI md n F c D) (h : mStep md F n c D k = .inr (some (c2, D2, k2))) : NI md n F c2 D2 := by
  have s2 := TK_wd F n k hp.1
  unfold mStep at h
  simp only at h
  have hn11 : ∀ o : Lt, o.1 = 11 → ¬ isA o := by
    intro o e
    unfold isA
    rw [e]
    decide
  by_cases e2 : c.1 = 2
  · rw [if_pos e2] at h
    split at h
    · simp only [Sum.inr.injEq, Option.some.injEq, Prod.mk.injEq] at h
      obtain ⟨h1, h2, -⟩ := h
      subst h1 h2
      exact NI_open (Or.inl e2) (Or.inr (Or.inl rfl)) hN rfl rfl rfl
    · exact shut_nm (Or.inl e2) hN h
  rw [if_neg e2] at h
  by_cases e7 : c.1 = 7
  · have hna := hN.2.1 (no_opn e2 (by omega) (by omega))
    rw [if_pos e7] at h
    split at h
    · split at h
      · rename_i D3 hm
        simp only [Sum.inr.injEq, Option.some.injEq, Prod.mk.injEq] at h
        obtain ⟨h1, h2, -⟩ := h
        obtain ⟨t, vs2, cn2, hD3⟩ := mTerm_nm hm
        subst h1 h2
        rw [hD3]
        exact NI_na (by decide) (by decide) (by decide) (by decide) (NA_open hna)
      · cases h
    · exact name_nm hna (hN.2.2 e7) (Or.inl rfl) h
  rw [if_neg e7] at h
  by_cases kb : (TK F n k).1 = 1
  · rw [if_pos kb] at h
    cases h
  rw [if_neg kb] at h
  by_cases e0 : c.1 = 0
  · have hna := hN.2.1 (no_opn e2 (by omega) (by omega))
    have ho2 : D.2.1 = [] := by
      unfold OI at ho
      rw [e0] at ho
      exact ho
    rw [if_pos e0] at h
    split at h
    · cases h
    · split at h
      · cases h
      · rename_i k2e
        split at h
        · cases h
        · refine name_nm (D := (D.1, [], D.2.2.1, [], D.2.2.2.2)) ⟨fun l hl => (by cases hl), fun hm w hw => ?_⟩ (s2 (by simpa using k2e)) (Or.inl rfl) h
          rcases hna.2 hm w hw with g | ⟨l, g, -⟩
          · exact Or.inl g
          · rw [ho2] at g
            cases g
  rw [if_neg e0] at h
  by_cases e1 : c.1 = 1
  · have hna := hN.2.1 (no_opn e2 (by omega) (by omega))
    obtain ⟨o1, -⟩ : (D.2.2.1.1 = 0 ∨ D.2.2.1.1 = 1) ∧ (md = 0 → ¬ D.2.1 = []) ∧ D.2.1.length < lim md ∧ D.2.2.1.2.2.2.1 ≤ 65536 := by
      unfold OI at ho
      rw [e1] at ho
      exact ho
    rw [if_pos e1] at h
    split at h
    · cases h
    · rename_i k2e
      exact name_nm hna (s2 (by simpa using k2e)) o1 h
  rw [if_neg e1] at h
  by_cases e3 : c.1 = 3
  · rw [if_pos e3] at h
    split at h
    · cases h
    · split at h
      · cases h
      · split at h
        · rename_i D3 hm
          simp only [Sum.inr.injEq, Option.some.injEq, Prod.mk.injEq] at h
          obtain ⟨h1, h2, -⟩ := h
          obtain ⟨t, vs2, cn2, hD3⟩ := mTerm_nm hm
          subst h1 h2
          rw [hD3]
          exact NI_open (Or.inr (Or.inl e3)) (Or.inr (Or.inr rfl)) hN rfl rfl rfl
        · cases h
  rw [if_neg e3] at h
  by_cases e4 : c.1 = 4
  · rw [if_pos e4] at h
    split at h
    · simp only [Sum.inr.injEq, Option.some.injEq, Prod.mk.injEq] at h
      obtain ⟨h1, h2, -⟩ := h
      subst h1 h2
      exact NI_open (Or.inr (Or.inr e4)) (Or.inr (Or.inl rfl)) hN rfl rfl rfl
    · split at h
      · exact shut_nm (Or.inr (Or.inr e4)) hN h
      · cases h
  rw [if_neg e4] at h
  have hna := hN.2.1 (no_opn e2 e3 e4)
  by_cases e5 : c.1 = 5
  · rw [if_pos e5] at h
    split at h
    · exact dot_nm hna h
    · split at h
      · simp only [Sum.inr.injEq, Option.some.injEq, Prod.mk.injEq] at h
        obtain ⟨h1, h2, -⟩ := h
        subst h1 h2
        exact NI_na (by decide) (by decide) (by decide) (by decide) hna
      · cases h
  rw [if_neg e5] at h
  by_cases e6 : c.1 = 6
  · rw [if_pos e6] at h
    by_cases hnt : ¬ (isT (TK F n k).1 = true ∨ (TK F n k).1 = 5)
    · rw [if_pos hnt] at h
      cases h
    · rw [if_neg hnt] at h
      by_cases hl : D.2.1.length = 12 + (if md = 0 then 1 else 0)
      · rw [if_pos hl] at h
        cases h
      · rw [if_neg hl] at h
        split at h
        · rename_i k2e
          simp only [Sum.inr.injEq, Option.some.injEq, Prod.mk.injEq] at h
          obtain ⟨h1, h2, -⟩ := h
          subst h1 h2
          exact ⟨fun w => absurd w (no_opn (show ¬ (7 : Nat) = 2 by decide) (show ¬ (7 : Nat) = 3 by decide) (show ¬ (7 : Nat) = 4 by decide)), fun _ => hna, fun _ => s2 k2e⟩
        · split at h
          · simp only [Sum.inr.injEq, Option.some.injEq, Prod.mk.injEq] at h
            obtain ⟨h1, h2, -⟩ := h
            subst h1 h2
            exact NI_na (by decide) (by decide) (by decide) (by decide) (NA_open hna)
          · split at h
            · rename_i D3 hm
              simp only [Sum.inr.injEq, Option.some.injEq, Prod.mk.injEq] at h
              obtain ⟨h1, h2, -⟩ := h
              obtain ⟨t, vs2, cn2, hD3⟩ := mTerm_nm hm
              subst h1 h2
              rw [hD3]
              exact NI_na (by decide) (by decide) (by decide) (by decide) (NA_open hna)
            · cases h
  rw [if_neg e6] at h
  by_cases e8 : c.1 = 8
  · rw [if_pos e8] at h
    split at h
    · simp only [Sum.inr.injEq, Option.some.injEq, Prod.mk.injEq] at h
      obtain ⟨h1, h2, -⟩ := h
      subst h1 h2
      exact NI_na (by decide) (by decide) (by decide) (by decide) (NA_open hna)
    · cases h
  rw [if_neg e8] at h
  by_cases e9 : c.1 = 9
  · have ho2 : oB md F D := by
      unfold OI at ho
      rw [e9] at ho
      exact ho
    rw [if_pos e9] at h
    split at h
    · cases h
    · split at h
      · rename_i D3 hm
        simp only [Sum.inr.injEq, Option.some.injEq, Prod.mk.injEq] at h
        obtain ⟨h1, h2, -⟩ := h
        obtain ⟨t, vs2, cn2, hD3⟩ := mTerm_nm hm
        subst h1 h2
        rw [hD3]
        refine NI_na (by decide) (by decide) (by decide) (by decide) (NA_push (D := D) (x := (_, _, _, _)) rfl hna ?_)
        rintro (w | w)
        · replace w : D.2.2.1.1 = 0 := w
          have := ho2.1.1
          rw [w] at this
          exact absurd this (by decide)
        · replace w : D.2.2.1.1 = 1 := w
          have := ho2.1.1
          rw [w] at this
          exact absurd this (by decide)
      · cases h
  rw [if_neg e9] at h
  by_cases e10 : c.1 = 10
  · rw [if_pos e10] at h
    split at h
    · simp only [Sum.inr.injEq, Option.some.injEq, Prod.mk.injEq] at h
      obtain ⟨h1, h2, -⟩ := h
      subst h1 h2
      exact NI_na (by decide) (by decide) (by decide) (by decide) hna
    · split at h
      · exact dot_nm hna h
      · split at h
        · cases h
        · cases h
  rw [if_neg e10] at h
  split at h
  · cases h
  · cases h
/-- where the machine may end well -/
theorem mStep_end {c : Ct} {D : Dt} (h : mStep md F n c D k = .inr none) : c.1 = 0 ∨ c.1 = 10 ∨ 11 ≤ c.1 := by
  unfold mStep at h
  simp only at h
  by_cases e2 : c.1 = 2
  · rw [if_pos e2] at h
    split at h
    · cases h
    · unfold mShut at h
      cases h
  rw [if_neg e2] at h
  by_cases e7 : c.1 = 7
  · rw [if_pos e7] at h
    split at h
    · split at h
      · cases h
      · cases h
    · unfold mName at h
      split at h
      · cases h
      · cases h
  rw [if_neg e7] at h
  by_cases kb : (TK F n k).1 = 1
  · rw [if_pos kb] at h
    cases h
  rw [if_neg kb] at h
  by_cases e0 : c.1 = 0
  · exact Or.inl e0
  rw [if_neg e0] at h
  by_cases e1 : c.1 = 1
  · rw [if_pos e1] at h
    split at h
    · cases h
    · unfold mName at h
      split at h
      · cases h
      · cases h
  rw [if_neg e1] at h
  by_cases e3 : c.1 = 3
  · rw [if_pos e3] at h
    split at h
    · cases h
    · split at h
      · cases h
      · split at h
        · cases h
        · cases h
  rw [if_neg e3] at h
  by_cases e4 : c.1 = 4
  · rw [if_pos e4] at h
    split at h
    · cases h
    · split at h
      · unfold mShut at h
        cases h
      · cases h
  rw [if_neg e4] at h
  by_cases e5 : c.1 = 5
  · rw [if_pos e5] at h
    split at h
    · unfold mDot at h
      cases h
    · split at h
      · cases h
      · cases h
  rw [if_neg e5] at h
  by_cases e6 : c.1 = 6
  · rw [if_pos e6] at h
    by_cases hnt : ¬ (isT (TK F n k).1 = true ∨ (TK F n k).1 = 5)
    · rw [if_pos hnt] at h
      cases h
    · rw [if_neg hnt] at h
      by_cases hl : D.2.1.length = 12 + (if md = 0 then 1 else 0)
      · rw [if_pos hl] at h
        cases h
      · rw [if_neg hl] at h
        split at h
        · cases h
        · split at h
          · cases h
          · split at h
            · cases h
            · cases h
  rw [if_neg e6] at h
  by_cases e8 : c.1 = 8
  · rw [if_pos e8] at h
    split at h
    · cases h
    · cases h
  rw [if_neg e8] at h
  by_cases e9 : c.1 = 9
  · rw [if_pos e9] at h
    split at h
    · cases h
    · split at h
      · cases h
      · cases h
  by_cases e10 : c.1 = 10
  · exact Or.inr (Or.inl e10)
  exact Or.inr (Or.inr (by omega))
theorem mRun_nm (hn : n ≤ 65536) : ∀ (f : Nat) (c : Ct) (D : Dt) (k : Nat) (D2 : Dt), POk n c k → DI md F D → OI md F c D → NI md n F c D → mRun md F n f c D k = some (.inr D2) → NA md n F D2 := by
  intro f
  induction f with
  | zero =>
    intro c D k D2 hp hd ho hN h
    unfold mRun at h
    cases h
  | succ f ih =>
    intro c D k D2 hp hd ho hN h
    unfold mRun at h
    cases hs : mStep md F n c D k with
    | inl e =>
      rw [hs] at h
      cases h
    | inr x =>
      rw [hs] at h
      cases x with
      | none =>
        simp only [Option.some.injEq, Sum.inr.injEq] at h
        rw [← h]
        refine hN.2.1 (fun w => ?_)
        have := mStep_end hs
        unfold opn at w
        omega
      | some y =>
        obtain ⟨c2, D3, k2⟩ := y
        obtain ⟨h1, h2⟩ := mStep_inv hn hp hd ho hs
        exact ih c2 D3 k2 D2 (mStep_pok hp hs) h1 h2 (mStep_nm hp ho hN hs) h
theorem Ends_nm {c : Ct} {D D2 : Dt} (hn : n ≤ 65536) (hp : POk n c k) (hd : DI md F D) (ho : OI md F c D) (hN : NI md n F c D) (h : Ends md F n c D k (.inr D2)) : NA md n F D2 := by
  obtain ⟨f, hf⟩ := h
  exact mRun_nm hn f c D k D2 hp hd ho hN hf
end Nm
