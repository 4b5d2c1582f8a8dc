/-! pure: the rows' sort -/
def zp (L R : Nat → Int64) : Nat → Int64 × Int64 := fun i => (L i, R i)
def le2 (x y : Int64 × Int64) : Prop := x.1 < y.1 ∨ (x.1 = y.1 ∧ x.2 ≤ y.2)
theorem le64_t2 {x y z : Int64} (h1 : x ≤ y) (h2 : y ≤ z) : x ≤ z := le64_tr x y z h1 h2
theorem tot64 {x y : Int64} (h : ¬ x ≤ y) : y ≤ x := by
  have := nle64 h
  rw [Int64.lt_iff_toInt_lt] at this
  rw [Int64.le_iff_toInt_le]
  omega
theorem tri64 {x y : Int64} (h : ¬ x < y) (hn : ¬ y = x) : y < x := by
  rw [Int64.lt_iff_toInt_lt] at *
  have : ¬ y.toInt = x.toInt := fun e => hn (Int64.toInt_inj.mp e)
  omega
theorem le2_tr (x y z : Int64 × Int64) (h1 : le2 x y) (h2 : le2 y z) : le2 x z := by
  rcases h1 with a | ⟨a, a2⟩
  · rcases h2 with b | ⟨b, -⟩
    · exact Or.inl (lt64_tr a b)
    · exact Or.inl (by rw [← b]; exact a)
  · rcases h2 with b | ⟨b, b2⟩
    · exact Or.inl (by rw [a]; exact b)
    · exact Or.inr ⟨a.trans b, le64_t2 a2 b2⟩
theorem zp_swp {f g : Nat → Int64} {j k : Nat} : zp (swp f j k) (swp g j k) = swp (zp f g) j k := by
  funext i
  unfold zp swp
  by_cases z : i = j
  · rw [if_pos z, if_pos z, if_pos z]
  · rw [if_neg z, if_neg z, if_neg z]
    by_cases w : i = k
    · rw [if_pos w, if_pos w, if_pos w]
    · rw [if_neg w, if_neg w, if_neg w]
section RSo
variable {n : Nat} {Gr : Nat → Int32} {PO : Nat → Int64 × Int64}
theorem sp_isAbove {post : Int32 → Unit → Prop} {r : Nat} {a b : Int64} {L R : Nat → Int64} (hr : r < 5000) (h0 : le2 (L r, R r) (a, b) → post 0 ()) (h1 : le2 (a, b) (L r, R r) → post 1 ()) : wp_met_Ro_isAbove post (nI r) a b L R := by
  have v : vp_in (nI r) 5000 := vp_in_nI (by omega) (by omega)
  refine ⟨v, fun y2 h2 => ⟨⟨fun _ => trivial, fun _ => ⟨v, fun _ => ⟨v, trivial⟩, fun _ => trivial⟩⟩, fun y3 h3 => ?_⟩⟩
  rw [nI_clamp (by omega)] at h2 h3
  subst h2
  by_cases e1 : a < L r
  · rw [if_pos e1] at h3
    subst h3
    exact h1 (Or.inl e1)
  · rw [if_neg e1] at h3
    by_cases e2 : L r = a
    · rw [if_pos e2] at h3
      by_cases e3 : R r ≤ b
      · rw [if_pos e3] at h3
        subst h3
        exact h0 (Or.inr ⟨e2, e3⟩)
      · rw [if_neg e3] at h3
        subst h3
        exact h1 (Or.inr ⟨e2.symm, tot64 e3⟩)
    · rw [if_neg e2] at h3
      subst h3
      exact h0 (Or.inl (tri64 e1 e2))
theorem ro_18 {post : ((Nat → Int64) × (Nat → Int64)) → Prop} {g i : Nat} {a b : Int64} (hn : n ≤ 5000) (hg : 1 ≤ g ∧ g ≤ 8858) (hi2 : i < n) (hJ : ∀ L2 R2, PmQ 0 n PO (zp L2 R2) → (g = 1 → (∀ p q, p < q → q < i → le2 (PO p) (PO q)) → ∀ p q, p < q → q ≤ i → le2 (zp L2 R2 p) (zp L2 R2 q)) → post (L2, R2)) : ∀ m j : Nat, j ≤ m → j ≤ i → ∀ L R, PmQ 0 n PO (zp (vp_updL L j a) (vp_updL R j b)) → (g = 1 → (∀ p q, p < q → q < i → le2 (PO p) (PO q)) → SoX le2 0 i j (zp (vp_updL L j a) (vp_updL R j b))) → lw_met_Ro_sink_18 post (nI g) a b (m + 1) (nI j, L, R) := by
  have fin : ∀ j L R, j ≤ i → PmQ 0 n PO (zp (vp_updL L j a) (vp_updL R j b)) → (g = 1 → (∀ p q, p < q → q < i → le2 (PO p) (PO q)) → SoX le2 0 i j (zp (vp_updL L j a) (vp_updL R j b))) → (g ≤ j → le2 (L (j - g), R (j - g)) (a, b)) → jw_met_Ro_sink_79 post (nI j) L a R b () := by
    intro j L R h2 h3 h4 h5
    refine ⟨vp_in_nI (by omega) (by omega), fun g24 h24 => ⟨vp_in_nI (by omega) (by omega), fun g26 h26 => ?_⟩⟩
    rw [nI_clamp (by omega)] at h24 h26
    subst h24 h26
    refine hJ _ _ h3 (fun e1 e2 p q hpq hq => ?_)
    subst e1
    refine SoX_end le2_tr h2 (h4 rfl e2) (fun hl => ?_) p q (Nat.zero_le _) hpq hq
    show le2 (vp_updL L j a (j - 1), vp_updL R j b (j - 1)) (vp_updL L j a j, vp_updL R j b j)
    rw [pk_uLn (by omega), pk_uLn (by omega), pk_uLs, pk_uLs]
    exact h5 (by omega)
  intro m
  induction m with
  | zero =>
    intro j hjm hji L R h3 h4
    exact pk_lt j g (fun z => fin j L R hji h3 h4 (fun w => absurd w (by omega))) (fun z => absurd z (by omega))
  | succ m ih =>
    intro j hjm hji L R h3 h4
    refine pk_lt j g (fun z => fin j L R hji h3 h4 (fun w => absurd w (by omega))) (fun z => ?_)
    intro y10 h10
    rw [pk_sub (by omega)] at h10
    subst h10
    refine sp_isAbove (by omega) (fun w => ?_) (fun w => ?_)
    · exact ⟨fun _ => fin j L R hji h3 h4 (fun _ => w), fun e => absurd rfl e⟩
    · refine ⟨fun e => absurd e (by decide), fun _ y12 h12 => ?_⟩
      rw [pk_sub (by omega)] at h12
      subst h12
      refine ⟨vp_in_nI (by omega) (by omega), fun y14 h14 => ⟨vp_in_nI (by omega) (by omega), fun g16 h16 y17 h17 => ?_⟩⟩
      rw [nI_clamp (by omega)] at h14 h16
      rw [pk_sub (by omega)] at h17
      subst h14 h16 h17
      refine ⟨vp_in_nI (by omega) (by omega), fun y19 h19 => ⟨vp_in_nI (by omega) (by omega), fun g21 h21 y22 h22 => ?_⟩⟩
      rw [nI_clamp (by omega)] at h19 h21
      rw [pk_sub (by omega)] at h22
      subst h19 h21 h22
      have hs1 := upd_swp (cur := L) (j := j) (k := j - g) (key := a) (by omega)
      have hs2 := upd_swp (cur := R) (j := j) (k := j - g) (key := b) (by omega)
      refine ih (j - g) (by omega) (by omega) _ _ ?_ (fun e1 e2 => ?_)
      · rw [hs1, hs2, zp_swp]
        exact PmQ_tr h3 (PmQ_sw ⟨Nat.zero_le _, by omega⟩ ⟨Nat.zero_le _, by omega⟩)
      · rw [hs1, hs2, zp_swp]
        subst e1
        refine SoX_st (by omega) hji (h4 rfl e2) ?_
        show le2 (vp_updL L j a j, vp_updL R j b j) (vp_updL L j a (j - 1), vp_updL R j b (j - 1))
        rw [pk_uLs, pk_uLs, pk_uLn (by omega), pk_uLn (by omega)]
        exact w
theorem ro_23 {post : ((Nat → Int64) × (Nat → Int64)) → Prop} {J : (Int32 × (Nat → Int64) × (Nat → Int64)) → Prop} {g t : Nat} (hn : n ≤ 5000) (hg : 1 ≤ g ∧ g ≤ 8858) (hJ : ∀ L R, PmQ 0 n PO (zp L R) → (g = 1 → ∀ p q, p < q → q < n → le2 (zp L R p) (zp L R q)) → J (nI (t + 1), L, R)) : ∀ m i : Nat, i ≤ 20000 → n ≤ i + m → ∀ L R, PmQ 0 n PO (zp L R) → (g = 1 → ∀ p q, p < q → q < i → q < n → le2 (zp L R p) (zp L R q)) → lw_met_Ro_sort_23 post J (nI n) (nI t) (nI g) (m + 1) (nI i, L, R) := by
  intro m
  induction m with
  | zero =>
    intro i hi h2 L R h3 h4
    refine pk_le n i (fun _ => ?_) (fun z => absurd z (by omega))
    rw [nI_1]
    exact hJ L R h3 (fun e p q p2 p3 => h4 e p q p2 (by omega) p3)
  | succ m ih =>
    intro i hi h2 L R h3 h4
    refine pk_le n i (fun z => ?_) (fun z => ?_)
    · rw [nI_1]
      exact hJ L R h3 (fun e p q p2 p3 => h4 e p q p2 (by omega) p3)
    · refine ⟨vp_in_nI (by omega) (by omega), fun y2 e2 => ⟨vp_in_nI (by omega) (by omega), fun y4 e4 => ?_⟩⟩
      rw [nI_clamp (by omega)] at e2 e4
      subst e2 e4
      refine ⟨_, ro_18 (PO := zp L R) hn hg z (fun L2 R2 v1 v2 => ?_) i i (Nat.le_refl _) (Nat.le_refl _) L R ?_ (fun e1 e2 => ?_)⟩
      · dsimp only
        rw [nI_1]
        refine ih (i + 1) (by omega) (by omega) L2 R2 (PmQ_tr h3 v1) (fun e p q p2 p3 p4 => ?_)
        exact v2 e (fun p q p2 p3 => h4 e p q p2 p3 (by omega)) p q p2 (by omega)
      · rw [upd_id, upd_id]
        exact PmQ_rf
      · rw [upd_id, upd_id]
        intro p q p1 p2 p3 p4
        exact e2 p q p2 (by omega)
theorem ro_9 {post : ((Nat → Int64) × (Nat → Int64)) → Prop} (hn : n ≤ 5000) (hG : GpI 9 Gr) (h : ∀ L R, PmQ 0 n PO (zp L R) → (∀ p q, p < q → q < n → le2 (zp L R p) (zp L R q)) → post (L, R)) : ∀ m t : Nat, t + m = 9 → ∀ L R, PmQ 0 n PO (zp L R) → (t = 9 → ∀ p q, p < q → q < n → le2 (zp L R p) (zp L R q)) → lw_met_Ro_sort_9 post Gr (nI n) (m + 1) (nI t, L, R) := by
  intro m
  induction m with
  | zero =>
    intro t ht L R h1 h2
    exact pk_le 9 t (fun _ => h L R h1 (h2 (by omega))) (fun z => absurd z (by omega))
  | succ m ih =>
    intro t ht L R h1 h2
    refine pk_le 9 t (fun z => absurd z (by omega)) (fun _ => ?_)
    obtain ⟨g, g1, g2, g3, g4⟩ := hG t (by omega)
    refine ⟨vp_in_nI (by omega) (by omega), fun y6 h6 => ?_⟩
    rw [nI_clamp (by omega), g3] at h6
    subst h6
    refine ⟨_, ro_23 (PO := zp L R) hn ⟨g1, g2⟩ (fun L2 R2 v1 v2 => ?_) n g (by omega) (by omega) L R PmQ_rf (fun e p q p2 p3 p4 => absurd p3 (by omega))⟩
    exact ih (t + 1) (by omega) L2 R2 (PmQ_tr h1 v1) (fun e => v2 (g4 (by omega)))
theorem sp_Ro_sort {post : ((Nat → Int64) × (Nat → Int64)) → Prop} {L R : Nat → Int64} (hn : n ≤ 5000) (hG : GpI 9 Gr) (h : ∀ L2 R2, PmQ 0 n (zp L R) (zp L2 R2) → (∀ p q, p < q → q < n → le2 (zp L2 R2 p) (zp L2 R2 q)) → post (L2, R2)) : wp_met_Ro_sort post (nI n) L R Gr :=
  ⟨_, ro_9 hn hG h 9 0 (by omega) L R PmQ_rf (fun z => absurd z (by omega))⟩
end RSo
/-- rows in the order of ranks -/
def lxQ (a b : List Nat) : Prop := ∃ k, k < a.length ∧ (∀ j, j < k → a.getD j 0 = b.getD j 0) ∧ a.getD k 0 < b.getD k 0
theorem kN_lex {f g : Nat → Nat} (hf : ∀ j, j < 6 → f j < 1024) (hg : ∀ j, j < 6 → g j < 1024) (h : kN f < kN g) : ∃ k, k < 6 ∧ (∀ j, j < k → f j = g j) ∧ f k < g k := by
  have f0 := hf 0 (by omega)
  have f1 := hf 1 (by omega)
  have f2 := hf 2 (by omega)
  have f3 := hf 3 (by omega)
  have f4 := hf 4 (by omega)
  have f5 := hf 5 (by omega)
  have g0 := hg 0 (by omega)
  have g1 := hg 1 (by omega)
  have g2 := hg 2 (by omega)
  have g3 := hg 3 (by omega)
  have g4 := hg 4 (by omega)
  have g5 := hg 5 (by omega)
  unfold kN at h
  by_cases a0 : f 0 = g 0
  · by_cases a1 : f 1 = g 1
    · by_cases a2 : f 2 = g 2
      · by_cases a3 : f 3 = g 3
        · by_cases a4 : f 4 = g 4
          · refine ⟨5, by omega, fun j hj => ?_, by omega⟩
            obtain rfl | rfl | rfl | rfl | rfl : j = 0 ∨ j = 1 ∨ j = 2 ∨ j = 3 ∨ j = 4 := by omega
            · exact a0
            · exact a1
            · exact a2
            · exact a3
            · exact a4
          · refine ⟨4, by omega, fun j hj => ?_, by omega⟩
            obtain rfl | rfl | rfl | rfl : j = 0 ∨ j = 1 ∨ j = 2 ∨ j = 3 := by omega
            · exact a0
            · exact a1
            · exact a2
            · exact a3
        · refine ⟨3, by omega, fun j hj => ?_, by omega⟩
          obtain rfl | rfl | rfl : j = 0 ∨ j = 1 ∨ j = 2 := by omega
          · exact a0
          · exact a1
          · exact a2
      · refine ⟨2, by omega, fun j hj => ?_, by omega⟩
        obtain rfl | rfl : j = 0 ∨ j = 1 := by omega
        · exact a0
        · exact a1
    · refine ⟨1, by omega, fun j hj => ?_, by omega⟩
      obtain rfl : j = 0 := by omega
      exact a0
  · exact ⟨0, by omega, fun j hj => absurd hj (by omega), by omega⟩
