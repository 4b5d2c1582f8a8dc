/-! pure: what the machine keeps, for the class's reader -/
def MSt (md : Nat) (c : Ct) : Prop := (c = (c.1, 0, 0) ∨ c.1 = 7) ∧ c.1 ≤ 11 ∧ (c.1 = 0 ∨ c.1 = 5 → md = 0) ∧ (md = 2 → c.1 = 1 ∨ c.1 = 2 ∨ c.1 = 3 ∨ c.1 = 4 ∨ c.1 = 11) ∧ (md = 3 → c.1 = 1 ∨ c.1 = 11) ∧ (c.1 = 11 → md = 2 ∨ md = 3)
def MD1 (md : Nat) (c : Ct) (D : Dt) : Prop := (¬ md = 0 → D.1 = []) ∧ D.1.length ≤ 256 ∧ (¬ c.1 = 0 → D.1.length < 256)
section CInv
variable {md n k k2 : Nat} {F : Nat → Int32} {c c2 : Ct} {D D2 : Dt}
theorem MSt_mk {x : Nat} (h1 : x ≤ 11) (h2 : x = 0 ∨ x = 5 → md = 0) (h3 : md = 2 → x = 1 ∨ x = 2 ∨ x = 3 ∨ x = 4 ∨ x = 11) (h4 : md = 3 → x = 1 ∨ x = 11) (h5 : x = 11 → md = 2 ∨ md = 3) : MSt md (x, 0, 0) := ⟨Or.inl rfl, h1, h2, h3, h4, h5⟩
theorem name_ms {kind : Int32} {np a b k3 : Nat} (h : mName md F D kind np a b k3 = .inr (some (c2, D2, k2))) : c2 = (if md = 3 then 11 else 2, 0, 0) ∧ D2.1 = D.1 := by
  unfold mName at h
  split at h
  · simp only [Sum.inr.injEq, Option.some.injEq, Prod.mk.injEq] at h
    obtain ⟨h1, h2, -⟩ := h
    exact ⟨h1.symm, by rw [← h2]⟩
  · cases h
theorem shut_ms {k3 : Nat} (h : mShut md D k3 = .inr (some (c2, D2, k2))) : c2 = (if md = 2 then 11 else if md = 0 ∧ D.2.1 = [] then 5 else 10, 0, 0) ∧ D2.1 = D.1 := by
  unfold mShut at h
  simp only [Sum.inr.injEq, Option.some.injEq, Prod.mk.injEq] at h
  obtain ⟨h1, h2, -⟩ := h
  exact ⟨h1.symm, by rw [← h2]⟩
theorem term_ms {kd : Int32} {a b : Nat} {v : Int} (h : mTerm md F D kd a b v = some D2) : D2.1 = D.1 := by
  unfold mTerm at h
  by_cases z : kd = 3
  · rw [if_pos z] at h
    split at h
    · have := Option.some.inj h
      rw [← this]
    · cases h
  · rw [if_neg z] at h
    split at h
    · have := Option.some.inj h
      rw [← this]
    · cases h
theorem dot_ms {k3 : Nat} (h : mDot D k3 = .inr (some (c2, D2, k2))) : c2 = (0, 0, 0) ∧ D2.1 = D.1 ++ [D.2.1] := by
  unfold mDot at h
  simp only [Sum.inr.injEq, Option.some.injEq, Prod.mk.injEq] at h
  obtain ⟨h1, h2, -⟩ := h
  exact ⟨h1.symm, by rw [← h2]⟩
theorem MD1_same {c c2 : Ct} (h : MD1 md c D) (hc : ¬ c.1 = 0) (e : D2.1 = D.1) : MD1 md c2 D2 := by
  unfold MD1
  rw [e]
  exact ⟨h.1, h.2.1, fun _ => h.2.2 hc⟩
theorem MSt_name (h23 : md = 3 → c.1 = 1) : MSt md (if md = 3 then 11 else 2, 0, 0) := by
  by_cases h3 : md = 3
  · rw [if_pos h3]
    exact MSt_mk (by omega) (by omega) (by omega) (by omega) (by omega)
  · rw [if_neg h3]
    exact MSt_mk (by omega) (by omega) (by omega) (by omega) (by omega)
theorem MSt_shut (h3 : ¬ md = 3) : MSt md (if md = 2 then 11 else if md = 0 ∧ D.2.1 = [] then 5 else 10, 0, 0) := by
  by_cases h2 : md = 2
  · rw [if_pos h2]
    exact MSt_mk (by omega) (by omega) (by omega) (by omega) (by omega)
  · rw [if_neg h2]
    by_cases h0 : md = 0 ∧ D.2.1 = []
    · rw [if_pos h0]
      have := h0.1
      exact MSt_mk (by omega) (by omega) (by omega) (by omega) (by omega)
    · rw [if_neg h0]
      exact MSt_mk (by omega) (by omega) (by omega) (by omega) (by omega)
theorem MSt_step (hM : MSt md c) (hD : MD1 md c D) (h : mStep md F n c D k = .inr (some (c2, D2, k2))) : MSt md c2 ∧ MD1 md c2 D2 := by
  obtain ⟨m1, m2, m3, m4, m5, m6⟩ := hM
  have go : ∀ {c3 : Ct} {D3 : Dt} {k3 : Nat}, (Sum.inr (some (c3, D3, k3)) : Rs) = .inr (some (c2, D2, k2)) → ¬ c.1 = 0 → D3.1 = D.1 → MSt md c3 → MSt md c2 ∧ MD1 md c2 D2 := by
    intro c3 D3 k3 e h0 e1 hm
    simp only [Sum.inr.injEq, Option.some.injEq, Prod.mk.injEq] at e
    obtain ⟨q1, q2, -⟩ := e
    rw [← q1, ← q2]
    exact ⟨hm, MD1_same hD h0 e1⟩
  unfold mStep at h
  simp only at h
  by_cases e2 : c.1 = 2
  · rw [if_pos e2] at h
    split at h
    · exact go h (by omega) rfl (MSt_mk (by omega) (by omega) (by omega) (by omega) (by omega))
    · obtain ⟨q1, q2⟩ := shut_ms h
      rw [q1]
      exact ⟨MSt_shut (by omega), MD1_same hD (by omega) q2⟩
  rw [if_neg e2] at h
  by_cases e7 : c.1 = 7
  · rw [if_pos e7] at h
    split at h
    · split at h
      · rename_i D3 hm
        have e9 : D3.1 = D.1 := term_ms (D := (D.1, D.2.1, (11, [], c.2.1, 0, []), D.2.2.2)) hm
        exact go h (by omega) e9 (MSt_mk (by omega) (by omega) (by omega) (by omega) (by omega))
      · cases h
    · obtain ⟨q1, q2⟩ := name_ms h
      rw [q1]
      exact ⟨MSt_name (c := c) (by omega), MD1_same hD (by omega) q2⟩
  rw [if_neg e7] at h
  by_cases k1 : (TK F n k).1 = 1
  · rw [if_pos k1] at h
    cases h
  rw [if_neg k1] at h
  by_cases e0 : c.1 = 0
  · rw [if_pos e0] at h
    have hmd : md = 0 := m3 (Or.inl e0)
    split at h
    · cases h
    split at h
    · cases h
    split at h
    · cases h
    rename_i hno
    obtain ⟨q1, q2⟩ := name_ms h
    rw [q1]
    refine ⟨MSt_name (c := c) (by omega), ?_⟩
    unfold MD1
    rw [q2]
    exact ⟨fun z => absurd hmd z, hD.2.1, fun _ => by have := hD.2.1; show D.1.length < 256; omega⟩
  rw [if_neg e0] at h
  by_cases e1 : c.1 = 1
  · rw [if_pos e1] at h
    split at h
    · cases h
    obtain ⟨q1, q2⟩ := name_ms h
    rw [q1]
    exact ⟨MSt_name (c := c) (by omega), MD1_same hD (by omega) q2⟩
  rw [if_neg e1] at h
  by_cases e3 : c.1 = 3
  · rw [if_pos e3] at h
    split at h
    · cases h
    split at h
    · cases h
    split at h
    · rename_i D3 hm
      exact go h (by omega) (term_ms hm) (MSt_mk (by omega) (by omega) (by omega) (by omega) (by omega))
    · cases h
  rw [if_neg e3] at h
  by_cases e4 : c.1 = 4
  · rw [if_pos e4] at h
    split at h
    · exact go h (by omega) rfl (MSt_mk (by omega) (by omega) (by omega) (by omega) (by omega))
    split at h
    · obtain ⟨q1, q2⟩ := shut_ms h
      rw [q1]
      exact ⟨MSt_shut (by omega), MD1_same hD (by omega) q2⟩
    · cases h
  rw [if_neg e4] at h
  have dot : ∀ {k3 : Nat}, md = 0 → mDot D k3 = .inr (some (c2, D2, k2)) → MSt md c2 ∧ MD1 md c2 D2 := by
    intro k3 hmd hd
    obtain ⟨q1, q2⟩ := dot_ms hd
    rw [q1]
    refine ⟨MSt_mk (by omega) (by omega) (by omega) (by omega) (by omega), ?_⟩
    unfold MD1
    rw [q2]
    refine ⟨fun z => absurd hmd z, ?_, fun z => absurd rfl z⟩
    rw [List.length_append]
    have := hD.2.2 e0
    show D.1.length + 1 ≤ 256
    omega
  by_cases e5 : c.1 = 5
  · rw [if_pos e5] at h
    have hmd : md = 0 := m3 (Or.inr e5)
    split at h
    · exact dot hmd h
    split at h
    · exact go h (by omega) rfl (MSt_mk (by omega) (by omega) (by omega) (by omega) (by omega))
    · cases h
  rw [if_neg e5] at h
  by_cases e6 : c.1 = 6
  · rw [if_pos e6] at h
    generalize (12 + (if md = 0 then 1 else 0)) = q9 at h
    split at h
    · cases h
    split at h
    · cases h
    split at h
    · simp only [Sum.inr.injEq, Option.some.injEq, Prod.mk.injEq] at h
      obtain ⟨q1, q2, -⟩ := h
      rw [← q1, ← q2]
      exact ⟨⟨Or.inr rfl, by show (7 : Nat) ≤ 11; omega, fun z => by have z2 : (7 : Nat) = 0 ∨ (7 : Nat) = 5 := z; omega, fun z => by omega, fun z => by omega, fun z => by have z2 : (7 : Nat) = 11 := z; omega⟩, MD1_same hD (by omega) rfl⟩
    split at h
    · exact go h (by omega) rfl (MSt_mk (by omega) (by omega) (by omega) (by omega) (by omega))
    split at h
    · rename_i D3 hm
      have e9 : D3.1 = D.1 := term_ms (D := (D.1, D.2.1, (11, [], (TK F n k).2.1, 0, []), D.2.2.2)) hm
      exact go h (by omega) e9 (MSt_mk (by omega) (by omega) (by omega) (by omega) (by omega))
    · cases h
  rw [if_neg e6] at h
  by_cases e8 : c.1 = 8
  · rw [if_pos e8] at h
    split at h
    · exact go h (by omega) rfl (MSt_mk (by omega) (by omega) (by omega) (by omega) (by omega))
    · cases h
  rw [if_neg e8] at h
  by_cases e9 : c.1 = 9
  · rw [if_pos e9] at h
    split at h
    · cases h
    split at h
    · rename_i D3 hm
      have e9' : D3.1 = D.1 := term_ms hm
      exact go h (by omega) e9' (MSt_mk (by omega) (by omega) (by omega) (by omega) (by omega))
    · cases h
  rw [if_neg e9] at h
  by_cases e10 : c.1 = 10
  · rw [if_pos e10] at h
    split at h
    · exact go h (by omega) rfl (MSt_mk (by omega) (by omega) (by omega) (by omega) (by omega))
    split at h
    · rename_i q
      exact dot q.1 h
    split at h
    · cases h
    · cases h
  rw [if_neg e10] at h
  split at h
  · cases h
  · cases h
/-- all that the machine keeps -/
def MI (md n : Nat) (F : Nat → Int32) (c : Ct) (D : Dt) (k : Nat) : Prop := POk n c k ∧ DI md F D ∧ OI md F c D ∧ NI md n F c D ∧ MSt md c ∧ MD1 md c D
theorem MI_step (hn : n ≤ 65536) (hM : MI md n F c D k) (h : mStep md F n c D k = .inr (some (c2, D2, k2))) : MI md n F c2 D2 k2 := by
  obtain ⟨h1, h2, h3, h4, h5, h6⟩ := hM
  obtain ⟨d1, d2⟩ := mStep_inv hn h1 h2 h3 h
  obtain ⟨s1, s2⟩ := MSt_step h5 h6 h
  exact ⟨mStep_pok h1 h, d1, d2, mStep_nm h1 h3 h4 h, s1, s2⟩
/-- closed literals, in their order -/
def Lc (D : Dt) : List Lt := D.1.flatten ++ D.2.1
theorem flat_le : ∀ cs : List (List Lt), (∀ ls ∈ cs, ls.length ≤ 13) → cs.flatten.length ≤ 13 * cs.length
  | [], _ => Nat.zero_le _
  | x :: r, h => by
    rw [List.flatten_cons, List.length_append, List.length_cons]
    have h1 := h x (List.mem_cons_self ..)
    have h2 := flat_le r (fun ls hl => h ls (List.mem_cons_of_mem _ hl))
    omega
theorem Lc_le (hM : MI md n F c D k) : (Lc D).length ≤ 13 * D.1.length + D.2.1.length := by
  unfold Lc
  rw [List.length_append]
  have := flat_le D.1 (fun ls hl => (hM.2.1.1 ls hl).2.1)
  omega
/-- room for literals -/
def rmo (md : Nat) : Nat := if md = 0 then 3328 else 13
theorem Lc_room (hM : MI md n F c D k) (hc : ¬ c.1 = 0) (hl : D.2.1.length < lim md) : (Lc D).length < rmo md := by
  have h1 := Lc_le hM
  have h2 := hM.2.2.2.2.2.2.2 hc
  unfold rmo
  unfold lim at hl
  by_cases h0 : md = 0
  · rw [if_pos h0] at hl ⊢
    omega
  · rw [if_neg h0] at hl ⊢
    have := hM.2.2.2.2.2.1 h0
    rw [this] at h1
    simp only [List.length_nil] at h1
    omega
theorem Lc_room0 (hM : MI 0 n F c D k) (hl : D.2.1 = []) (h256 : ¬ D.1.length = 256) : (Lc D).length < rmo 0 := by
  have h1 := Lc_le hM
  have h2 := hM.2.2.2.2.2.2.1
  rw [hl] at h1
  simp only [List.length_nil] at h1
  unfold rmo
  rw [if_pos rfl]
  omega
end CInv
