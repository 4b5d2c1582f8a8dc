/-! pure: what a body's order finds -/
def VisR (fs : List (Nat × List Nat)) (m n : Nat) (x : Nat × List Nat) : Prop := ∃ f, m ≤ f ∧ f < n ∧ fs[f]? = some x
/-- step s holds; the first takes fresh facts where fh -/
def Hs (fs : List (Nat × List Nat)) (vb vis : Nat) (bs : List BL) (js : Nat → Nat) (fh : Bool) (s : Nat) (u : Nat → Nat) : Prop := ∃ b, bs[js s]? = some b ∧ ((s = 0 ∧ fh = true ∧ ∃ p, b.2.1 = some p ∧ VisR fs vb vis (p, aOf u b)) ∨ (¬ (s = 0 ∧ fh = true) ∧ hB (VisN fs vis) u b))
/-- needed at step s or behind it -/
def NdJ (out : Nat → Prop) (bs : List BL) (js : Nat → Nat) (n s : Nat) (x : Nat) : Prop := out x ∨ ∃ s2 b, s ≤ s2 ∧ s2 < n ∧ bs[js s2]? = some b ∧ occB b x
theorem hB_cong {V : Nat × List Nat → Prop} {v u : Nat → Nat} {b : BL} (h : ∀ x, occB b x → v x = u x) : hB V v b ↔ hB V u b := by
  have e1 : aOf v b = aOf u b := by
    unfold aOf
    apply List.map_congr_left
    intro a ha
    cases a with
    | inl x => exact h x ha
    | inr q => rfl
  have e2 : ∀ a, a ∈ b.2.2 → oc v a = oc u a := by
    intro a ha
    cases a with
    | inl x =>
      show 2 * v x + 1 = 2 * u x + 1
      rw [h x ha]
    | inr q => rfl
  unfold hB
  rw [e1]
  refine or_congr Iff.rfl (or_congr Iff.rfl (and_congr Iff.rfl (and_congr Iff.rfl ?_)))
  constructor
  · rintro ⟨s, t, e, q⟩
    refine ⟨s, t, e, ?_⟩
    rw [← e2 s (by rw [e]; simp), ← e2 t (by rw [e]; simp)]
    exact q
  · rintro ⟨s, t, e, q⟩
    refine ⟨s, t, e, ?_⟩
    rw [e2 s (by rw [e]; simp), e2 t (by rw [e]; simp)]
    exact q
theorem aOf_cong {v u : Nat → Nat} {b : BL} (h : ∀ x, occB b x → v x = u x) : aOf v b = aOf u b := by
  unfold aOf
  apply List.map_congr_left
  intro a ha
  cases a with
  | inl x => exact h x ha
  | inr q => rfl
section CSol
variable {α : Type} {g : (Nat → Nat) → α} {fs : List (Nat × List Nat)} {vb vis n : Nat} {bs : List BL} {js : Nat → Nat} {fh : Bool} {out : Nat → Prop}
/-- u finds what v at step t leads to -/
def SolQ (fs : List (Nat × List Nat)) (vb vis n : Nat) (bs : List BL) (js : Nat → Nat) (fh : Bool) (out : Nat → Prop) (t : Nat) (v u : Nat → Nat) : Prop := (∀ x, BdJ bs js t x → NdJ out bs js n t x → u x = v x) ∧ ∀ s, t ≤ s → s < n → Hs fs vb vis bs js fh s u
/-- all that agrees with v on R has been found -/
def CmQ (g : (Nat → Nat) → α) (fs : List (Nat × List Nat)) (vb vis n : Nat) (bs : List BL) (js : Nat → Nat) (fh : Bool) (t : Nat) (v : Nat → Nat) (R : Nat → Prop) (E : List α) : Prop := ∀ u, (∀ x, R x → BdJ bs js t x → u x = v x) → (∀ s, t ≤ s → s < n → Hs fs vb vis bs js fh s u) → g u ∈ E
theorem Hs_cong {s : Nat} {v u : Nat → Nat} {b : BL} (hb : bs[js s]? = some b) (h : ∀ x, occB b x → v x = u x) : Hs fs vb vis bs js fh s v ↔ Hs fs vb vis bs js fh s u := by
  have e := aOf_cong h
  constructor
  · rintro ⟨b2, q1, q2⟩
    rw [hb] at q1
    obtain rfl := Option.some.inj q1
    refine ⟨b, hb, ?_⟩
    rcases q2 with ⟨r1, r2, r3⟩ | ⟨r1, r2⟩
    · rw [e] at r3
      exact Or.inl ⟨r1, r2, r3⟩
    · exact Or.inr ⟨r1, (hB_cong h).mp r2⟩
  · rintro ⟨b2, q1, q2⟩
    rw [hb] at q1
    obtain rfl := Option.some.inj q1
    refine ⟨b, hb, ?_⟩
    rcases q2 with ⟨r1, r2, r3⟩ | ⟨r1, r2⟩
    · rw [← e] at r3
      exact Or.inl ⟨r1, r2, r3⟩
    · exact Or.inr ⟨r1, (hB_cong h).mpr r2⟩
theorem NdJ_s {t : Nat} {b : BL} (ht : t < n) (hb : bs[js t]? = some b) (x : Nat) : NdJ out bs js n t x ↔ (NdJ out bs js n (t + 1) x ∨ occB b x) := by
  constructor
  · rintro (q | ⟨s, b2, q1, q2, q3, q4⟩)
    · exact Or.inl (Or.inl q)
    · by_cases w : s = t
      · subst w
        rw [hb] at q3
        obtain rfl := Option.some.inj q3
        exact Or.inr q4
      · exact Or.inl (Or.inr ⟨s, b2, by omega, q2, q3, q4⟩)
  · rintro ((q | ⟨s, b2, q1, q2, q3, q4⟩) | q)
    · exact Or.inl q
    · exact Or.inr ⟨s, b2, by omega, q2, q3, q4⟩
    · exact Or.inr ⟨t, b, Nat.le_refl _, ht, hb, q⟩
theorem NdJ_L {t : Nat} (x : Nat) : NdJ out bs js n (t + 1) x ↔ LvJ out bs js n t x := LvJ_p x
/-- a solution behind step t made one at step t: v0 gives the rest -/
theorem SolQ_up {t : Nat} {b : BL} {v ve v0 u : Nat → Nat} (ht : t < n) (hb : bs[js t]? = some b) (hg : ∀ v u, (∀ x, out x → v x = u x) → g v = g u) (h0 : Hs fs vb vis bs js fh t v0) (hv0 : ∀ x, occB b x → BdJ bs js t x → v0 x = v x) (hve : ∀ x, occB b x → NdJ out bs js n (t + 1) x → ve x = v0 x) (hveb : ∀ x, BdJ bs js t x → NdJ out bs js n (t + 1) x → ve x = v x) (hu : SolQ fs vb vis n bs js fh out (t + 1) ve u) : ∃ u2, SolQ fs vb vis n bs js fh out t v u2 ∧ g u2 = g u := by
  have ch : ∀ x, ∃ y, (NdJ out bs js n (t + 1) x → y = u x) ∧ (¬ NdJ out bs js n (t + 1) x → y = v0 x) := by
    intro x
    by_cases w : NdJ out bs js n (t + 1) x
    · exact ⟨u x, fun _ => rfl, fun z => absurd w z⟩
    · exact ⟨v0 x, fun z => absurd z w, fun _ => rfl⟩
  obtain ⟨u2, hu2⟩ := Classical.axiomOfChoice ch
  have key : ∀ x, occB b x → v0 x = u2 x := by
    intro x hx
    by_cases w : NdJ out bs js n (t + 1) x
    · rw [(hu2 x).1 w, hu.1 x ((BdJ_s hb x).mpr (Or.inr hx)) w]
      exact (hve x hx w).symm
    · rw [(hu2 x).2 w]
  refine ⟨u2, ⟨fun x hx hn => ?_, fun s s1 s2 => ?_⟩, hg u2 u (fun x hx => (hu2 x).1 (Or.inl hx))⟩
  · by_cases w : NdJ out bs js n (t + 1) x
    · rw [(hu2 x).1 w, hu.1 x ((BdJ_s hb x).mpr (Or.inl hx)) w]
      exact hveb x hx w
    · rcases (NdJ_s ht hb x).mp hn with q | q
      · exact absurd q w
      · rw [(hu2 x).2 w]
        exact hv0 x q hx
  · by_cases w : s = t
    · subst w
      exact (Hs_cong hb key).mp h0
    · have hs := hu.2 s (by omega) s2
      obtain ⟨b2, hb2, -⟩ := hs
      refine (Hs_cong hb2 (fun x hx => ?_)).mp (hu.2 s (by omega) s2)
      exact ((hu2 x).1 (Or.inr ⟨s, b2, by omega, s2, hb2, hx⟩)).symm
/-- a test that holds -/
theorem Sol_ok {t : Nat} {b : BL} {v u : Nat → Nat} (ht : t < n) (hb : bs[js t]? = some b) (hg : ∀ v u, (∀ x, out x → v x = u x) → g v = g u) (h0 : Hs fs vb vis bs js fh t v) (hu : SolQ fs vb vis n bs js fh out (t + 1) v u) : ∃ u2, SolQ fs vb vis n bs js fh out t v u2 ∧ g u2 = g u :=
  SolQ_up ht hb hg h0 (fun _ _ _ => rfl) (fun _ _ _ => rfl) (fun _ _ _ => rfl) hu
theorem Cm_ok {t : Nat} {b : BL} {v : Nat → Nat} {R : Nat → Prop} {E : List α} (hb : bs[js t]? = some b) (hc : cov b (BdJ bs js t)) (h : CmQ g fs vb vis n bs js fh (t + 1) v R E) : CmQ g fs vb vis n bs js fh t v R E := by
  intro u h1 h2
  refine h u (fun x hx hbx => h1 x hx ?_) (fun s s1 s2 => h2 s (by omega) s2)
  rcases (BdJ_s hb x).mp hbx with q | q
  · exact q
  · exact hc x q
theorem Cm_no {t : Nat} {b : BL} {v : Nat → Nat} {E : List α} (ht : t < n) (hb : bs[js t]? = some b) (hc : cov b (BdJ bs js t)) (h0 : ¬ Hs fs vb vis bs js fh t v) : CmQ g fs vb vis n bs js fh t v (occB b) E := by
  intro u h1 h2
  exact absurd ((Hs_cong hb (fun x hx => (h1 x hx (hc x hx)).symm)).mpr (h2 t (Nat.le_refl _) ht)) h0
theorem Cm_end {v : Nat → Nat} {E : List α} (hg : ∀ v u, (∀ x, out x → v x = u x) → g v = g u) (ho : ∀ x, out x → BdJ bs js n x) (h : g v ∈ E) : CmQ g fs vb vis n bs js fh n v out E := by
  intro u h1 _
  rw [hg u v (fun x hx => h1 x hx (ho x hx))]
  exact h
theorem Cm_sub {t : Nat} {v : Nat → Nat} {R : Nat → Prop} {E E2 : List α} (h : CmQ g fs vb vis n bs js fh t v R E) (hE : ∀ x ∈ E, x ∈ E2) : CmQ g fs vb vis n bs js fh t v R E2 := fun u h1 h2 => hE _ (h u h1 h2)
/-- what is found does not hang on what the scan gives -/
theorem Cm_back {t : Nat} {b : BL} {v ve : Nat → Nat} {R : Nat → Prop} {E : List α} (hb : bs[js t]? = some b) (hR : ∀ x, R x → NdJ out bs js n (t + 1) x) (hRG : ∀ x, R x → ¬ ((occB b x ∧ LvJ out bs js n t x) ∧ ¬ BdJ bs js t x)) (hve : ∀ x, BdJ bs js t x → ve x = v x) (h : CmQ g fs vb vis n bs js fh (t + 1) ve R E) : CmQ g fs vb vis n bs js fh t v R E := by
  intro u h1 h2
  refine h u (fun x hx hbx => ?_) (fun s s1 s2 => h2 s (by omega) s2)
  by_cases w : BdJ bs js t x
  · rw [hve x w]
    exact h1 x hx w
  · rcases (BdJ_s hb x).mp hbx with q | q
    · exact absurd q w
    · exact absurd ⟨⟨q, (NdJ_L x).mp (hR x hx)⟩, w⟩ (hRG x hx)
/-- all entries have been taken -/
theorem Cm_scan {t : Nat} {b : BL} {v : Nat → Nat} {H : Nat → Prop} {E : List α} (ht : t < n) (hb : bs[js t]? = some b) (hH : ∀ x, occB b x → BdJ bs js t x → H x)
    (h : ∀ u, Hs fs vb vis bs js fh t u → (∀ x, occB b x → BdJ bs js t x → u x = v x) → ∃ ve R, (∀ x, BdJ bs js t x → ve x = v x) ∧ (∀ x, (occB b x ∧ LvJ out bs js n t x) ∧ ¬ BdJ bs js t x → ve x = u x) ∧ (∀ x, R x → NdJ out bs js n (t + 1) x) ∧ (∀ x, R x → ¬ ((occB b x ∧ LvJ out bs js n t x) ∧ ¬ BdJ bs js t x) → H x) ∧ CmQ g fs vb vis n bs js fh (t + 1) ve R E) : CmQ g fs vb vis n bs js fh t v H E := by
  intro u h1 h2
  obtain ⟨ve, R, q1, q2, q3, q4, q5⟩ := h u (h2 t (Nat.le_refl _) ht) (fun x hx hbx => h1 x (hH x hx hbx) hbx)
  refine q5 u (fun x hx hbx => ?_) (fun s s1 s2 => h2 s (by omega) s2)
  by_cases w : (occB b x ∧ LvJ out bs js n t x) ∧ ¬ BdJ bs js t x
  · exact (q2 x w).symm
  · have hH2 := q4 x hx w
    by_cases w2 : BdJ bs js t x
    · rw [q1 x w2]
      exact h1 x hH2 w2
    · rcases (BdJ_s hb x).mp hbx with q | q
      · exact absurd q w2
      · exact absurd ⟨⟨q, (NdJ_L x).mp (q3 x hx)⟩, w2⟩ w
end CSol
