/-! pure: sorted rows -/
theorem nlt64 {x y : Int64} (h : x ≤ y) : ¬ y < x := by
  intro w
  rw [Int64.lt_iff_toInt_lt] at w
  rw [Int64.le_iff_toInt_le] at h
  omega
theorem lxQ_key {a b : List Nat} {wd : Nat} (ha : a.length = wd) (hb : b.length = wd) (h12 : wd ≤ 12) (ha1 : ∀ x ∈ a, x < 1000) (hb1 : ∀ x ∈ b, x < 1000) (h : le2 (lN (kN (fun j => a.getD j 0)), lN (kN (fun j => a.getD (6 + j) 0))) (lN (kN (fun j => b.getD j 0)), lN (kN (fun j => b.getD (6 + j) 0)))) : a = b ∨ lxQ a b := by
  have la : ∀ j, a.getD j 0 < 1024 := fun j => Nat.lt_trans (getD_lt ha1 j) (by omega)
  have lb : ∀ j, b.getD j 0 < 1024 := fun j => Nat.lt_trans (getD_lt hb1 j) (by omega)
  have out : ∀ (c : List Nat) j, c.length = wd → wd ≤ j → c.getD j 0 = 0 := by
    intro c j hc hj
    rw [List.getD_eq_getElem?_getD, List.getElem?_eq_none (by omega)]
    rfl
  have mk : ∀ k, (∀ j, j < k → a.getD j 0 = b.getD j 0) → a.getD k 0 < b.getD k 0 → lxQ a b := by
    intro k h1 h2
    refine ⟨k, ?_, h1, h2⟩
    rcases Nat.lt_or_ge k a.length with z | z
    · exact z
    · rw [out b k hb (by omega)] at h2
      omega
  have k1 := kN_lt (f := fun j => a.getD j 0) (fun j _ => la j)
  have k2 := kN_lt (f := fun j => b.getD j 0) (fun j _ => lb j)
  have k3 := kN_lt (f := fun j => a.getD (6 + j) 0) (fun j _ => la _)
  have k4 := kN_lt (f := fun j => b.getD (6 + j) 0) (fun j _ => lb _)
  rcases h with h | ⟨h, h2⟩
  · have h' : kN (fun j => a.getD j 0) < kN (fun j => b.getD j 0) := (pk_lLT (by omega) (by omega)).mp h
    obtain ⟨k, -, q1, q2⟩ := kN_lex (fun j _ => la j) (fun j _ => lb j) h'
    exact Or.inr (mk k q1 q2)
  · have h' : kN (fun j => a.getD j 0) = kN (fun j => b.getD j 0) := (pk_lEQ (by omega) (by omega)).mp h
    have e6 : ∀ j, j < 6 → a.getD j 0 = b.getD j 0 := fun j hj => kN_inj (fun j _ => la j) (fun j _ => lb j) h' hj
    have h2' : kN (fun j => a.getD (6 + j) 0) ≤ kN (fun j => b.getD (6 + j) 0) := by
      rcases Nat.lt_or_ge (kN (fun j => b.getD (6 + j) 0)) (kN (fun j => a.getD (6 + j) 0)) with w | w
      · exact absurd ((pk_lLT (by omega) (by omega)).mpr w) (nlt64 h2)
      · exact w
    rcases Nat.lt_or_ge (kN (fun j => a.getD (6 + j) 0)) (kN (fun j => b.getD (6 + j) 0)) with z | z
    · obtain ⟨k, -, q1, q2⟩ := kN_lex (f := fun j => a.getD (6 + j) 0) (g := fun j => b.getD (6 + j) 0) (fun j _ => la _) (fun j _ => lb _) z
      refine Or.inr (mk (6 + k) (fun j hj => ?_) q2)
      rcases Nat.lt_or_ge j 6 with w | w
      · exact e6 j w
      · have := q1 (j - 6) (by omega)
        rw [show 6 + (j - 6) = j by omega] at this
        exact this
    · left
      have h3 : kN (fun j => a.getD (6 + j) 0) = kN (fun j => b.getD (6 + j) 0) := by omega
      refine List.ext_getElem (by omega) (fun i i1 i2 => ?_)
      have hi : a.getD i 0 = b.getD i 0 := by
        rcases Nat.lt_or_ge i 6 with w | w
        · exact e6 i w
        · have := kN_inj (f := fun j => a.getD (6 + j) 0) (g := fun j => b.getD (6 + j) 0) (fun j _ => la _) (fun j _ => lb _) h3 (show i - 6 < 6 by omega)
          rw [show 6 + (i - 6) = i by omega] at this
          exact this
      rw [List.getD_eq_getElem?_getD, List.getD_eq_getElem?_getD, List.getElem?_eq_getElem i1, List.getElem?_eq_getElem i2] at hi
      exact hi
theorem lxQ_ne {a b : List Nat} (h : lxQ a b) : ¬ a = b := by
  rintro rfl
  obtain ⟨k, -, -, h⟩ := h
  omega
/-- the rows, sorted -/
theorem Rw_sort {wd : Nat} {rs : List (List Nat)} {L R L2 R2 : Nat → Int64} (h12 : wd ≤ 12) (hR : RwC wd rs (nI rs.length) L R) (hnd : rs.Nodup) (hp : PmQ 0 rs.length (zp L R) (zp L2 R2)) (hs : ∀ p q, p < q → q < rs.length → le2 (zp L2 R2 p) (zp L2 R2 q)) : ∃ rs2, RwC wd rs2 (nI rs.length) L2 R2 ∧ (∀ r, r ∈ rs2 ↔ r ∈ rs) ∧ rs2.length = rs.length ∧ rs2.Pairwise lxQ := by
  obtain ⟨σ, τ, h1, h2⟩ := hp
  obtain ⟨r1, r2, r3⟩ := hR
  have hat : ∀ i, i < rs.length → ((List.range rs.length).map (fun i => rs.getD (σ i) []))[i]? = some (rs.getD (σ i) []) := by
    intro i hi
    rw [List.getElem?_map, List.getElem?_range hi]
    rfl
  have hsrc : ∀ i, i < rs.length → ∃ r, rs[σ i]? = some r ∧ rs.getD (σ i) [] = r ∧ L2 i = lN (kN (fun j => r.getD j 0)) ∧ R2 i = lN (kN (fun j => r.getD (6 + j) 0)) ∧ r.length = wd ∧ ∀ x ∈ r, x < 1000 := by
    intro i hi
    obtain ⟨q1, q2, q3, q4, q5⟩ := h1 i ⟨Nat.zero_le _, hi⟩
    have he := List.getElem?_eq_getElem q1.2
    generalize rs[σ i]'q1.2 = r at he
    obtain ⟨t1, t2, t3, t4⟩ := r3 (σ i) r he
    have e1 : L2 i = L (σ i) := congrArg Prod.fst q5
    have e2 : R2 i = R (σ i) := congrArg Prod.snd q5
    exact ⟨r, he, by rw [List.getD_eq_getElem?_getD, he]; rfl, by rw [e1, t3], by rw [e2, t4], t1, t2⟩
  have hlen : ((List.range rs.length).map (fun i => rs.getD (σ i) [])).length = rs.length := by rw [List.length_map, List.length_range]
  refine ⟨(List.range rs.length).map (fun i => rs.getD (σ i) []), ⟨by omega, by rw [hlen], fun i r hi => ?_⟩, fun r => ?_, hlen, ?_⟩
  · have hil := (List.getElem?_eq_some_iff.mp hi).1
    rw [hlen] at hil
    rw [hat i hil] at hi
    obtain ⟨r', t1, t2, t3, t4, t5, t6⟩ := hsrc i hil
    obtain rfl := Option.some.inj hi
    rw [t2]
    exact ⟨t5, t6, t3, t4⟩
  · constructor
    · intro hr
      obtain ⟨i, i1, i2⟩ := List.mem_map.mp hr
      obtain ⟨r', t1, t2, -⟩ := hsrc i (List.mem_range.mp i1)
      rw [← i2, t2]
      exact List.mem_of_getElem? t1
    · intro hr
      obtain ⟨k, k1, k2⟩ := List.getElem_of_mem hr
      obtain ⟨q1, q2, q3, q4, q5⟩ := h1 k ⟨Nat.zero_le _, k1⟩
      refine List.mem_map.mpr ⟨τ k, List.mem_range.mpr q2.2, ?_⟩
      rw [q4, List.getD_eq_getElem?_getD, List.getElem?_eq_getElem k1, k2]
      rfl
  · refine List.pairwise_iff_getElem.mpr (fun i j hi hj hij => ?_)
    rw [hlen] at hi hj
    obtain ⟨a, a1, a2, a3, a4, a5, a6⟩ := hsrc i hi
    obtain ⟨b, b1, b2, b3, b4, b5, b6⟩ := hsrc j hj
    rw [List.getElem_map, List.getElem_map, List.getElem_range, List.getElem_range, a2, b2]
    have hle := hs i j hij hj
    unfold zp at hle
    rw [a3, a4, b3, b4] at hle
    rcases lxQ_key a5 b5 h12 a6 b6 hle with e | e
    · exfalso
      subst e
      have e2 : σ i = σ j := by
        obtain ⟨q1, -⟩ := h1 i ⟨Nat.zero_le _, hi⟩
        obtain ⟨q2, -⟩ := h1 j ⟨Nat.zero_le _, hj⟩
        exact (List.getElem?_inj q1.2 hnd).mp (a1.trans b1.symm)
      obtain ⟨-, -, q3, -⟩ := h1 i ⟨Nat.zero_le _, hi⟩
      obtain ⟨-, -, q4, -⟩ := h1 j ⟨Nat.zero_le _, hj⟩
      rw [e2, q4] at q3
      omega
    · exact e
