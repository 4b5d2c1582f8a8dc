/-! pure: a cell of the rows -/
theorem nI_n0 {k : Nat} (h : k < 2147483648) : ¬ nI k < 0 := by
  have q : (nI k < nI 0 → k < 0) ∧ (¬ nI k < nI 0 → True) := pk_lt k 0 (fun w => w) (fun _ => trivial)
  exact fun w => absurd (q.1 w) (by omega)
theorem sp_Ro_has {post : Int32 → Unit → Prop} {a b : Int32} {n w : Nat} (hn : n ≤ 5000) (hw : w ≤ 12) (h1 : ∀ i j, a = nI i → i < n → b = nI j → j < w → post 1 ()) (h0 : (¬ ∃ i j, a = nI i ∧ i < n ∧ b = nI j ∧ j < w) → post 0 ()) : wp_met_Ro_has post a b (nI n) (nI w) := by
  intro y1 e1
  by_cases c1 : a < 0
  · rw [if_pos c1] at e1
    subst e1
    refine h0 ?_
    rintro ⟨i, j, rfl, q, -⟩
    exact nI_n0 (by omega) c1
  · rw [if_neg c1] at e1
    obtain ⟨i, i1, rfl, -⟩ := nn_nI c1
    by_cases c2 : n ≤ i
    · rw [if_pos (nI_le c2 (by omega))] at e1
      subst e1
      refine h0 ?_
      rintro ⟨i', j, q1, q2, -⟩
      have := (nI_eq (by omega) (by omega)).mp q1
      omega
    · have q : (nI n ≤ nI i → n ≤ i) ∧ (¬ nI n ≤ nI i → True) := pk_le n i (fun w => w) (fun _ => trivial)
      rw [if_neg (fun w => c2 (q.1 w))] at e1
      by_cases c3 : b < 0
      · rw [if_pos c3] at e1
        subst e1
        refine h0 ?_
        rintro ⟨i', j, -, -, rfl, q3⟩
        exact nI_n0 (by omega) c3
      · rw [if_neg c3] at e1
        obtain ⟨j, j1, rfl, -⟩ := nn_nI c3
        by_cases c4 : w ≤ j
        · rw [if_pos (nI_le c4 (by omega))] at e1
          subst e1
          refine h0 ?_
          rintro ⟨i', j', -, -, q1, q2⟩
          have := (nI_eq (by omega) (by omega)).mp q1
          omega
        · have q' : (nI w ≤ nI j → w ≤ j) ∧ (¬ nI w ≤ nI j → True) := pk_le w j (fun w => w) (fun _ => trivial)
          rw [if_neg (fun w => c4 (q'.1 w))] at e1
          subst e1
          exact h1 i j rfl (by omega) rfl (by omega)
theorem sp_Ro_rankAt {post : Int32 → Unit → Prop} {wd i j : Nat} {rs : List (List Nat)} {rz : Int32} {RL RR : Nat → Int64} {r : List Nat} (hR : RwC wd rs rz RL RR) (hw : wd ≤ 12) (hi : rs[i]? = some r) (hj : j < wd) (h : post (nI (r.getD j 0)) ()) : wp_met_Ro_rankAt post (nI i) (nI j) RL RR := by
  obtain ⟨r1, r2, r3⟩ := hR
  obtain ⟨t1, t2, t3, t4⟩ := r3 i r hi
  have hil := (List.getElem?_eq_some_iff.mp hi).1
  have lr : ∀ j, r.getD j 0 < 1024 := fun j => Nat.lt_trans (getD_lt t2 j) (by omega)
  have k1 := kN_lt (f := fun j => r.getD j 0) (fun j _ => lr j)
  have k2 := kN_lt (f := fun j => r.getD (6 + j) 0) (fun j _ => lr _)
  refine pk_le 6 j (fun z => ?_) (fun z => ?_)
  · refine ⟨vp_in_nI (by omega) (by omega), fun y2 h2 y3 h3 => ?_⟩
    rw [nI_clamp (by omega), t4] at h2
    rw [show (6 : Int32) = nI 6 from rfl, pk_sub (by omega)] at h3
    subst h2 h3
    refine sp_rankIn (by omega) (by omega) ?_
    rw [col_kN (fun j _ => lr _) (by omega), show 6 + (j - 6) = j by omega]
    exact h
  · refine ⟨vp_in_nI (by omega) (by omega), fun y6 h6 => ?_⟩
    rw [nI_clamp (by omega), t3] at h6
    subst h6
    refine sp_rankIn (by omega) (by omega) ?_
    rw [col_kN (fun j _ => lr j) (by omega)]
    exact h
