/-! pure: tables with open addressing, of the class and of the model -/
theorem php : ∀ (n N : Nat) (t : Nat → Nat), n < N → (∀ i, i < N → ¬ t i = 0 ∧ t i ≤ n) → ∃ i j, i < j ∧ j < N ∧ t i = t j := by
  intro n
  induction n with
  | zero =>
    intro N t h1 h2
    have := h2 0 (by omega)
    omega
  | succ n ih =>
    intro N t h1 h2
    by_cases h : ∃ i, i < N ∧ t i = n + 1
    · obtain ⟨i0, g1, g2⟩ := h
      by_cases h3 : ∃ j, j < N ∧ ¬ j = i0 ∧ t j = n + 1
      · obtain ⟨j, g3, g4, g5⟩ := h3
        rcases Nat.lt_or_gt_of_ne g4 with g | g
        · exact ⟨j, i0, g, g1, by omega⟩
        · exact ⟨i0, j, g, g3, by omega⟩
      · have h4 : ∀ j, j < N → ¬ j = i0 → t j ≤ n := by
          intro j hj hne
          have := h2 j hj
          rcases Nat.lt_or_ge n (t j) with g | g
          · exact absurd ⟨j, hj, hne, by omega⟩ h3
          · exact g
        obtain ⟨i, j, a1, a2, a3⟩ := ih (N - 1) (fun i => t (if i < i0 then i else i + 1)) (by omega) (fun i hi => by
          show ¬ t (if i < i0 then i else i + 1) = 0 ∧ t (if i < i0 then i else i + 1) ≤ n
          split
          · exact ⟨(h2 i (by omega)).1, h4 i (by omega) (by omega)⟩
          · exact ⟨(h2 (i + 1) (by omega)).1, h4 (i + 1) (by omega) (by omega)⟩)
        refine ⟨if i < i0 then i else i + 1, if j < i0 then j else j + 1, ?_, ?_, a3⟩
        · split <;> split <;> omega
        · split <;> omega
    · refine ih N t (by omega) (fun i hi => ⟨(h2 i hi).1, ?_⟩)
      have := (h2 i hi).2
      rcases Nat.lt_or_ge n (t i) with g | g
      · exact absurd ⟨i, hi, by omega⟩ h
      · exact g
/-- n things in a table of N places; place i holds 0, or 1 more than a thing's number; hs: where a thing is first looked for -/
def HT (N n : Nat) (tb hs : Nat → Nat) : Prop := (∀ i, i < N → tb i ≤ n) ∧ (∀ i j, i < N → j < N → tb i = tb j → ¬ tb i = 0 → i = j) ∧ (∀ f, f < n → hs f < N ∧ ∃ d, d < N ∧ tb ((hs f + d) % N) = f + 1 ∧ ∀ e, e < d → ¬ tb ((hs f + e) % N) = 0)
theorem HT_zero {N n : Nat} {tb hs : Nat → Nat} (h : HT N n tb hs) (hn : n < N) : ∃ i, i < N ∧ tb i = 0 := by
  rcases Classical.em (∃ i, i < N ∧ tb i = 0) with g | g
  · exact g
  · obtain ⟨i, j, a1, a2, a3⟩ := php n N tb hn (fun i hi => ⟨fun z => g ⟨i, hi, z⟩, h.1 i hi⟩)
    have := h.2.1 i j (by omega) a2 a3 (fun z => g ⟨i, by omega, z⟩)
    omega
theorem HT_stop {N n q : Nat} {tb hs : Nat → Nat} (h : HT N n tb hs) (hn : n < N) (hq : q < N) : ∃ d, d < N ∧ tb ((q + d) % N) = 0 := by
  obtain ⟨i, hi, hz⟩ := HT_zero h hn
  rcases Nat.lt_or_ge i q with g | g
  · refine ⟨i + N - q, by omega, ?_⟩
    rw [show q + (i + N - q) = i + N by omega, Nat.add_mod_right, Nat.mod_eq_of_lt hi]
    exact hz
  · refine ⟨i - q, by omega, ?_⟩
    rw [show q + (i - q) = i by omega, Nat.mod_eq_of_lt hi]
    exact hz
theorem HT_none {N n q d : Nat} {tb hs : Nat → Nat} {M : Nat → Prop} (h : HT N n tb hs) (hM : ∀ f, f < n → M f → hs f = q) (h1 : ∀ e, e < d → ¬ tb ((q + e) % N) = 0 ∧ ¬ M (tb ((q + e) % N) - 1)) (h2 : tb ((q + d) % N) = 0) : ∀ f, f < n → ¬ M f := by
  intro f hf hm
  have e := hM f hf hm
  obtain ⟨-, df, g1, g2, g3⟩ := h.2.2 f hf
  rw [e] at g2 g3
  rcases Nat.lt_trichotomy df d with g | g | g
  · have := (h1 df g).2
    rw [g2] at this
    exact this hm
  · rw [g] at g2
    omega
  · exact g3 d g h2
theorem HT_add {N n q d : Nat} {tb tb2 hs hs2 : Nat → Nat} (h : HT N n tb hs) (hq : q < N) (hd : d < N) (h1 : ∀ e, e < d → ¬ tb ((q + e) % N) = 0) (h2 : tb ((q + d) % N) = 0) (t1 : tb2 ((q + d) % N) = n + 1) (t2 : ∀ i, i < N → ¬ i = (q + d) % N → tb2 i = tb i) (s1 : hs2 n = q) (s2 : ∀ f, f < n → hs2 f = hs f) : HT N (n + 1) tb2 hs2 := by
  have hN : 0 < N := by omega
  have hsl : (q + d) % N < N := Nat.mod_lt _ hN
  have keep : ∀ i, i < N → ¬ tb i = 0 → tb2 i = tb i := fun i hi hz => t2 i hi (fun z => hz (by rw [z]; exact h2))
  refine ⟨fun i hi => ?_, fun i j hi hj he hz => ?_, fun f hf => ?_⟩
  · by_cases g : i = (q + d) % N
    · rw [g, t1]
      omega
    · rw [t2 i hi g]
      have := h.1 i hi
      omega
  · by_cases gi : i = (q + d) % N
    · by_cases gj : j = (q + d) % N
      · omega
      · rw [gi, t1, t2 j hj gj] at he
        have := h.1 j hj
        omega
    · by_cases gj : j = (q + d) % N
      · rw [gj, t1, t2 i hi gi] at he
        have := h.1 i hi
        omega
      · rw [t2 i hi gi, t2 j hj gj] at he
        rw [t2 i hi gi] at hz
        exact h.2.1 i j hi hj he hz
  · rcases Nat.lt_or_ge f n with g | g
    · obtain ⟨g0, df, g1, g2, g3⟩ := h.2.2 f g
      rw [s2 f g]
      refine ⟨g0, df, g1, ?_, fun e he => ?_⟩
      · rw [keep _ (Nat.mod_lt _ hN) (by omega)]
        exact g2
      · rw [keep _ (Nat.mod_lt _ hN) (g3 e he)]
        exact g3 e he
    · obtain rfl : f = n := by omega
      rw [s1]
      refine ⟨hq, d, hd, t1, fun e he => ?_⟩
      rw [keep _ (Nat.mod_lt _ hN) (h1 e he)]
      exact h1 e he
theorem mod_next {q d N : Nat} : ((q + d) % N + 1) % N = (q + (d + 1)) % N := by
  rw [Nat.mod_add_mod]
  rfl
/-- what a place of a table of ints holds -/
def tn (F : Nat → Int32) : Nat → Nat := fun i => (F i).toNatClampNeg
