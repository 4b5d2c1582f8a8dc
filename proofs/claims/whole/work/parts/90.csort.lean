/-! pure: places exchanged; the index's sort -/
section Pm
variable {α : Type}
def RgQ (lo hi i : Nat) : Prop := lo ≤ i ∧ i < hi
/-- the same values at exchanged places -/
def PmQ (lo hi : Nat) (f g : Nat → α) : Prop := ∃ σ τ : Nat → Nat, (∀ i, RgQ lo hi i → RgQ lo hi (σ i) ∧ RgQ lo hi (τ i) ∧ τ (σ i) = i ∧ σ (τ i) = i ∧ g i = f (σ i)) ∧ (∀ i, ¬ RgQ lo hi i → g i = f i)
theorem PmQ_rf {lo hi : Nat} {f : Nat → α} : PmQ lo hi f f := ⟨fun i => i, fun i => i, fun i h => ⟨h, h, rfl, rfl, rfl⟩, fun _ _ => rfl⟩
theorem PmQ_tr {lo hi : Nat} {f g h : Nat → α} (h1 : PmQ lo hi f g) (h2 : PmQ lo hi g h) : PmQ lo hi f h := by
  obtain ⟨σ, τ, a, b⟩ := h1
  obtain ⟨σ2, τ2, c, d⟩ := h2
  refine ⟨fun i => σ (σ2 i), fun i => τ2 (τ i), fun i hi => ?_, fun i hi => (d i hi).trans (b i hi)⟩
  obtain ⟨c1, c2, c3, c4, c5⟩ := c i hi
  obtain ⟨a1, a2, a3, a4, a5⟩ := a _ c1
  obtain ⟨e1, e2, e3, e4, e5⟩ := a i hi
  obtain ⟨f1, f2, f3, f4, f5⟩ := c _ e2
  refine ⟨a1, f2, ?_, ?_, c5.trans a5⟩
  · show τ2 (τ (σ (σ2 i))) = i
    rw [a3, c3]
  · show σ (σ2 (τ2 (τ i))) = i
    rw [f4, e4]
def swp (f : Nat → α) (a b : Nat) : Nat → α := fun i => if i = a then f b else if i = b then f a else f i
def tr2 (a b i : Nat) : Nat := if i = a then b else if i = b then a else i
theorem PmQ_sw {lo hi a b : Nat} {f : Nat → α} (ha : RgQ lo hi a) (hb : RgQ lo hi b) : PmQ lo hi f (swp f a b) := by
  have t : ∀ i, tr2 a b (tr2 a b i) = i := by
    intro i
    unfold tr2
    by_cases z : i = a
    · rw [if_pos z]
      by_cases w : b = a
      · rw [if_pos w, z, w]
      · rw [if_neg w, if_pos rfl, z]
    · rw [if_neg z]
      by_cases w : i = b
      · rw [if_pos w, if_pos rfl, w]
      · rw [if_neg w, if_neg z, if_neg w]
  have r : ∀ i, RgQ lo hi i → RgQ lo hi (tr2 a b i) := by
    intro i h
    unfold tr2
    by_cases z : i = a
    · rw [if_pos z]
      exact hb
    · rw [if_neg z]
      by_cases w : i = b
      · rw [if_pos w]
        exact ha
      · rw [if_neg w]
        exact h
  refine ⟨tr2 a b, tr2 a b, fun i h => ⟨r i h, r i h, t i, t i, ?_⟩, fun i h => ?_⟩
  · unfold swp tr2
    by_cases z : i = a
    · rw [if_pos z, if_pos z]
    · rw [if_neg z, if_neg z]
      by_cases w : i = b
      · rw [if_pos w, if_pos w]
      · rw [if_neg w, if_neg w]
  · unfold swp
    have n1 : ¬ i = a := fun z => h (by rw [z]; exact ha)
    have n2 : ¬ i = b := fun z => h (by rw [z]; exact hb)
    rw [if_neg n1, if_neg n2]
theorem PmQ_mem {lo hi : Nat} {f g : Nat → α} (h : PmQ lo hi f g) (x : α) : (∃ i, RgQ lo hi i ∧ g i = x) ↔ (∃ i, RgQ lo hi i ∧ f i = x) := by
  obtain ⟨σ, τ, a, b⟩ := h
  constructor
  · rintro ⟨i, i1, i2⟩
    obtain ⟨a1, a2, a3, a4, a5⟩ := a i i1
    exact ⟨σ i, a1, a5.symm.trans i2⟩
  · rintro ⟨i, i1, i2⟩
    obtain ⟨a1, a2, a3, a4, a5⟩ := a i i1
    obtain ⟨c1, c2, c3, c4, c5⟩ := a _ a2
    exact ⟨τ i, a2, by rw [c5, a4, i2]⟩
theorem PmQ_inj {lo hi : Nat} {f g : Nat → α} (h : PmQ lo hi f g) (hf : ∀ i j, RgQ lo hi i → RgQ lo hi j → f i = f j → i = j) : ∀ i j, RgQ lo hi i → RgQ lo hi j → g i = g j → i = j := by
  obtain ⟨σ, τ, a, b⟩ := h
  intro i j hi hj e
  obtain ⟨a1, a2, a3, a4, a5⟩ := a i hi
  obtain ⟨b1, b2, b3, b4, b5⟩ := a j hj
  rw [a5, b5] at e
  have := hf _ _ a1 b1 e
  rw [← a3, ← b3, this]
/-- in order but for what stands at j -/
def SoX (le : α → α → Prop) (lo i j : Nat) (V : Nat → α) : Prop := ∀ p q, lo ≤ p → p < q → q ≤ i → ¬ q = j → le (V p) (V q)
theorem SoX_st {le : α → α → Prop} {lo i j : Nat} {V : Nat → α} (hj : lo < j) (hji : j ≤ i) (h : SoX le lo i j V) (hk : le (V j) (V (j - 1))) : SoX le lo i (j - 1) (swp V j (j - 1)) := by
  intro p q hp hpq hq hne
  unfold swp
  by_cases q1 : q = j
  · subst q1
    rw [if_pos rfl]
    by_cases p1 : p = q - 1
    · rw [p1, if_neg (by omega), if_pos rfl]
      exact hk
    · rw [if_neg (by omega), if_neg p1]
      exact h p (q - 1) hp (by omega) (by omega) (by omega)
  · rw [if_neg q1, if_neg hne]
    by_cases p1 : p = j
    · rw [if_pos p1]
      exact h (j - 1) q (by omega) (by omega) hq q1
    · rw [if_neg p1]
      by_cases p2 : p = j - 1
      · rw [if_pos p2]
        exact h j q (by omega) (by omega) hq q1
      · rw [if_neg p2]
        exact h p q hp hpq hq q1
theorem SoX_end {le : α → α → Prop} (htr : ∀ x y z, le x y → le y z → le x z) {lo i j : Nat} {V : Nat → α} (hji : j ≤ i) (h : SoX le lo i j V) (hk : lo < j → le (V (j - 1)) (V j)) : ∀ p q, lo ≤ p → p < q → q ≤ i → le (V p) (V q) := by
  intro p q hp hpq hq
  by_cases q1 : q = j
  · subst q1
    have h1 := hk (by omega)
    by_cases p1 : p = q - 1
    · rw [p1]
      exact h1
    · exact htr _ _ _ (h p (q - 1) hp (by omega) (by omega) (by omega)) h1
  · exact h p q hp hpq hq q1
end Pm
/-- the gaps -/
def GpI (N : Nat) (Gp : Nat → Int32) : Prop := ∀ t, t < N → ∃ g, 1 ≤ g ∧ g ≤ 8858 ∧ Gp t = nI g ∧ (t + 1 = N → g = 1)
section Srt
variable {lo hi nP : Nat} {Gp : Nat → Int32} {PO : Nat → Int64}
def le64 (x y : Int64) : Prop := x ≤ y
theorem le64_tr (x y z : Int64) (h1 : le64 x y) (h2 : le64 y z) : le64 x z := by
  unfold le64 at *
  rw [Int64.le_iff_toInt_le] at *
  omega
theorem upd_swp {cur : Nat → Int64} {j k : Nat} {key : Int64} (hne : ¬ j = k) : vp_updL (vp_updL cur j (cur k)) k key = swp (vp_updL cur j key) j k := by
  funext i
  unfold swp
  by_cases z : i = j
  · subst z
    rw [if_pos rfl, pk_uLn hne, pk_uLs, pk_uLn (fun e => hne e.symm)]
  · rw [if_neg z]
    by_cases w : i = k
    · subst w
      rw [if_pos rfl, pk_uLs, pk_uLs]
    · rw [if_neg w, pk_uLn w, pk_uLn z, pk_uLn z]
/-- one value goes down by steps of g -/
theorem so_50 {post : (Nat → Int64) → Prop} {J : (Int32 × (Nat → Int64)) → Prop} {g i : Nat} {key : Int64} (hnP : nP < 1000000) (hhi : hi ≤ nP) (hg : 1 ≤ g ∧ g ≤ 8858) (hi1 : lo + g ≤ i) (hi2 : i < hi) (hJ : ∀ V, PmQ lo hi PO V → (g = 1 → (∀ p q, lo ≤ p → p < q → q < i → le64 (PO p) (PO q)) → ∀ p q, lo ≤ p → p < q → q ≤ i → le64 (V p) (V q)) → J (nI (i + 1), V)) : ∀ m j : Nat, lo ≤ j → j ≤ lo + m → j ≤ i → ∀ cur, PmQ lo hi PO (vp_updL cur j key) → (g = 1 → (∀ p q, lo ≤ p → p < q → q < i → le64 (PO p) (PO q)) → SoX le64 lo i j (vp_updL cur j key)) → lw_met_Ix_sort_50 post J (nI lo) (nI g) nP key (nI i) (m + 1) (nI j, cur) := by
  have fin : ∀ j cur, lo ≤ j → j ≤ i → PmQ lo hi PO (vp_updL cur j key) → (g = 1 → (∀ p q, lo ≤ p → p < q → q < i → le64 (PO p) (PO q)) → SoX le64 lo i j (vp_updL cur j key)) → (lo + g ≤ j → le64 (cur (j - g)) key) → jw_met_Ix_sort_102 post J (nI j) nP cur key (nI i) () := by
    intro j cur h1 h2 h3 h4 h5
    refine ⟨vp_in_nI (by omega) (by omega), fun g27 h27 => ?_⟩
    rw [nI_clamp (by omega)] at h27
    subst h27
    rw [nI_1]
    refine hJ _ h3 (fun e1 e2 => ?_)
    subst e1
    refine SoX_end le64_tr h2 (h4 rfl e2) (fun hl => ?_)
    rw [pk_uLn (by omega), pk_uLs]
    exact h5 (by omega)
  intro m
  induction m with
  | zero =>
    intro j hj hjm hji cur h3 h4 y15 h15
    rw [nI_add] at h15
    subst h15
    refine pk_lt j (lo + g) (fun z => fin j cur hj hji h3 h4 (fun w => absurd w (by omega))) (fun z => absurd z (by omega))
  | succ m ih =>
    intro j hj hjm hji cur h3 h4 y15 h15
    rw [nI_add] at h15
    subst h15
    refine pk_lt j (lo + g) (fun z => fin j cur hj hji h3 h4 (fun w => absurd w (by omega))) (fun z => ?_)
    intro y17 h17
    rw [pk_sub (by omega)] at h17
    subst h17
    refine ⟨vp_in_nI (by omega) (by omega), fun y19 h19 => ?_⟩
    rw [nI_clamp (by omega)] at h19
    refine ⟨fun w => fin j cur hj hji h3 h4 (fun _ => by rw [← h19]; exact w), fun w => ?_⟩
    intro y20 h20
    rw [pk_sub (by omega)] at h20
    subst h20
    refine ⟨vp_in_nI (by omega) (by omega), fun y22 h22 => ⟨vp_in_nI (by omega) (by omega), fun g24 h24 y25 h25 => ?_⟩⟩
    rw [nI_clamp (by omega)] at h22 h24
    rw [pk_sub (by omega)] at h25
    subst h22 h24 h25
    have hsw := upd_swp (cur := cur) (j := j) (k := j - g) (key := key) (by omega)
    refine ih (j - g) (by omega) (by omega) (by omega) _ ?_ (fun e1 e2 => ?_)
    · rw [hsw]
      exact PmQ_tr h3 (PmQ_sw ⟨hj, by omega⟩ ⟨by omega, by omega⟩)
    · rw [hsw]
      subst e1
      refine SoX_st (by omega) hji (h4 rfl e2) ?_
      rw [pk_uLs, pk_uLn (by omega)]
      unfold le64
      rw [h19, Int64.le_iff_toInt_le] at w
      rw [Int64.le_iff_toInt_le]
      omega
theorem upd_id {cur : Nat → Int64} {i : Nat} : vp_updL cur i (cur i) = cur := by
  funext k
  by_cases z : k = i
  · subst z
    rw [pk_uLs]
  · rw [pk_uLn z]
theorem so_28 {post : (Nat → Int64) → Prop} {J : (Int32 × (Nat → Int64)) → Prop} {g t : Nat} (hnP : nP < 1000000) (hhi : hi ≤ nP) (hg : 1 ≤ g ∧ g ≤ 8858) (ht : t < 11) (hJ : ∀ V, PmQ lo hi PO V → (g = 1 → ∀ p q, lo ≤ p → p < q → q < hi → le64 (V p) (V q)) → J (nI (t + 1), V)) : ∀ m i : Nat, lo + g ≤ i → i < 1100000 → hi ≤ i + m → ∀ cur, PmQ lo hi PO cur → (g = 1 → ∀ p q, lo ≤ p → p < q → q < i → q < hi → le64 (cur p) (cur q)) → lw_met_Ix_sort_28 post J (nI hi) (nI t) nP (nI lo) (nI g) (m + 1) (nI i, cur) := by
  intro m
  induction m with
  | zero =>
    intro i h1 hib h2 cur h3 h4
    refine pk_le hi i (fun _ => ?_) (fun z => absurd z (by omega))
    rw [nI_1]
    exact hJ cur h3 (fun e p q p1 p2 p3 => h4 e p q p1 p2 (by omega) p3)
  | succ m ih =>
    intro i h1 hib h2 cur h3 h4
    refine pk_le hi i (fun z => ?_) (fun z => ?_)
    · rw [nI_1]
      exact hJ cur h3 (fun e p q p1 p2 p3 => h4 e p q p1 p2 (by omega) p3)
    · refine ⟨vp_in_nI (by omega) (by omega), fun y11 h11 => ?_⟩
      rw [nI_clamp (by omega)] at h11
      subst h11
      refine ⟨_, so_50 (PO := cur) hnP hhi hg h1 z (fun V v1 v2 => ?_) (i - lo) i (by omega) (by omega) (Nat.le_refl _) cur ?_ (fun e1 e2 => ?_)⟩
      · refine ih (i + 1) (by omega) (by omega) (by omega) V (PmQ_tr h3 v1) (fun e p q p1 p2 p3 p4 => ?_)
        exact v2 e (fun p q p1 p2 p3 => h4 e p q p1 p2 p3 (by omega)) p q p1 p2 (by omega)
      · rw [upd_id]
        exact PmQ_rf
      · rw [upd_id]
        intro p q p1 p2 p3 p4
        exact e2 p q p1 p2 (by omega)
theorem so_10 {post : (Nat → Int64) → Prop} (hnP : nP < 1000000) (hhi : hi ≤ nP) (hlo : lo ≤ hi) (hG : GpI 11 Gp) (h : ∀ V, PmQ lo hi PO V → (∀ p q, lo ≤ p → p < q → q < hi → le64 (V p) (V q)) → post V) : ∀ m t : Nat, t + m = 11 → ∀ cur, PmQ lo hi PO cur → (t = 11 → ∀ p q, lo ≤ p → p < q → q < hi → le64 (cur p) (cur q)) → lw_met_Ix_sort_10 post Gp (nI lo) (nI hi) nP (m + 1) (nI t, cur) := by
  intro m
  induction m with
  | zero =>
    intro t ht cur h1 h2
    exact pk_le 11 t (fun _ => h cur h1 (h2 (by omega))) (fun z => absurd z (by omega))
  | succ m ih =>
    intro t ht cur h1 h2
    refine pk_le 11 t (fun z => absurd z (by omega)) (fun _ => ?_)
    obtain ⟨g, g1, g2, g3, g4⟩ := hG t (by omega)
    refine ⟨vp_in_nI (by omega) (by omega), fun y5 h5 y6 h6 => ?_⟩
    rw [nI_clamp (by omega), g3] at h5
    subst h5
    rw [nI_add] at h6
    subst h6
    refine ⟨_, so_28 (PO := cur) hnP hhi ⟨g1, g2⟩ (by omega) (fun V v1 v2 => ?_) hi (lo + g) (Nat.le_refl _) (by omega) (by omega) cur PmQ_rf (fun e p q p1 p2 p3 p4 => absurd p3 (by omega))⟩
    exact ih (t + 1) (by omega) V (PmQ_tr h1 v1) (fun e => v2 (g4 (by omega)))
theorem sp_Ix_sort {post : (Nat → Int64) → Prop} (hnP : nP < 1000000) (hhi : hi ≤ nP) (hlo : lo ≤ hi) (hG : GpI 11 Gp) (h : ∀ V, PmQ lo hi PO V → (∀ p q, lo ≤ p → p < q → q < hi → le64 (V p) (V q)) → post V) : wp_met_Ix_sort post nP (nI lo) (nI hi) PO Gp :=
  ⟨_, so_10 hnP hhi hlo hG h 11 0 (by omega) PO PmQ_rf (fun z => absurd z (by omega))⟩
/-- equals are dropped -/
theorem sp_Ix_dropEquals {post : (Int32 × (Nat → Int64)) → Prop} (hnP : nP < 1000000) (hhi : hi ≤ nP) (hlo : lo ≤ hi) (hs : ∀ p q, lo ≤ p → p < q → q < hi → le64 (PO p) (PO q)) (h : ∀ ke V, lo ≤ ke → ke ≤ hi → (∀ p q, lo ≤ p → p < q → q < ke → V p < V q) → (∀ x, (∃ k, lo ≤ k ∧ k < ke ∧ V k = x) ↔ ∃ k, lo ≤ k ∧ k < hi ∧ PO k = x) → (∀ k, k < lo → V k = PO k) → post (nI ke, V)) : wp_met_Ix_dropEquals post nP (nI lo) (nI hi) PO := by
  have ltt : ∀ x y : Int64, le64 x y → ¬ x = y → x < y := by
    intro x y h1 h2
    unfold le64 at h1
    rw [Int64.le_iff_toInt_le] at h1
    rw [Int64.lt_iff_toInt_lt]
    have : ¬ x.toInt = y.toInt := fun e => h2 (Int64.toInt_inj.mp e)
    omega
  have ltr : ∀ x y z : Int64, x < y → le64 y z → x < z := by
    intro x y z h1 h2
    unfold le64 at h2
    rw [Int64.le_iff_toInt_le] at h2
    rw [Int64.lt_iff_toInt_lt] at h1 ⊢
    omega
  have go : ∀ m i, i + m = hi → lo ≤ i → ∀ ke V, lo ≤ ke → ke ≤ i → (i = lo → ke = lo) → (lo < i → lo < ke ∧ V (ke - 1) = PO (i - 1)) → (∀ p q, lo ≤ p → p < q → q < ke → V p < V q) → (∀ x, (∃ k, lo ≤ k ∧ k < ke ∧ V k = x) ↔ ∃ k, lo ≤ k ∧ k < i ∧ PO k = x) → (∀ k, k < lo ∨ i ≤ k → V k = PO k) → lw_met_Ix_dropEquals_4 post (nI hi) (nI lo) nP (m + 1) (nI i, nI ke, V) := by
    intro m
    induction m with
    | zero =>
      intro i hi1 hli ke V k1 k2 k3 k4 k5 k6 k7
      obtain rfl : i = hi := by omega
      exact pk_le i i (fun _ => h ke V k1 k2 k5 k6 (fun k hk => k7 k (Or.inl hk))) (fun z => absurd z (by omega))
    | succ m ih =>
      intro i hi1 hli ke V k1 k2 k3 k4 k5 k6 k7
      refine pk_le hi i (fun z => absurd z (by omega)) (fun _ => ?_)
      have put : (lo < ke → V (ke - 1) < PO i) → jw_met_Ix_dropEquals_35 post (fun x9 => lw_met_Ix_dropEquals_4 post (nI hi) (nI lo) nP (m + 1) x9) (nI i) nP V (nI ke) () := by
        intro hlt
        refine ⟨vp_in_nI (by omega) (by omega), fun y13 h13 => ⟨vp_in_nI (by omega) (by omega), fun g15 h15 => ?_⟩⟩
        rw [nI_clamp (by omega), k7 i (Or.inr (Nat.le_refl _))] at h13
        rw [nI_clamp (by omega)] at h15
        subst h13 h15
        rw [nI_1, nI_1]
        refine ih (i + 1) (by omega) (by omega) (ke + 1) _ (by omega) (by omega) (fun z => absurd z (by omega)) (fun _ => ⟨by omega, ?_⟩) (fun p q p1 p2 p3 => ?_) (fun x => ?_) (fun k hk => ?_)
        · rw [Nat.add_sub_cancel, Nat.add_sub_cancel, pk_uLs]
        · by_cases z : q = ke
          · subst z
            rw [pk_uLs, pk_uLn (by omega)]
            have hb := hlt (by omega)
            by_cases z2 : p = q - 1
            · rw [z2]
              exact hb
            · have h1 := k5 p (q - 1) p1 (by omega) (by omega)
              rw [Int64.lt_iff_toInt_lt] at h1 hb ⊢
              omega
          · rw [pk_uLn (by omega), pk_uLn z]
            exact k5 p q p1 p2 (by omega)
        · constructor
          · rintro ⟨k, q1, q2, q3⟩
            by_cases z : k = ke
            · subst z
              rw [pk_uLs] at q3
              exact ⟨i, hli, by omega, q3⟩
            · rw [pk_uLn z] at q3
              obtain ⟨k', r1, r2, r3⟩ := (k6 x).mp ⟨k, q1, by omega, q3⟩
              exact ⟨k', r1, by omega, r3⟩
          · rintro ⟨k, q1, q2, q3⟩
            by_cases z : k = i
            · subst z
              exact ⟨ke, k1, by omega, by rw [pk_uLs]; exact q3⟩
            · obtain ⟨k', r1, r2, r3⟩ := (k6 x).mpr ⟨k, q1, by omega, q3⟩
              exact ⟨k', r1, by omega, by rw [pk_uLn (by omega)]; exact r3⟩
        · rw [pk_uLn (by omega)]
          exact k7 k (by omega)
      refine pk_eq ke lo (fun e => put (fun z => absurd z (by omega))) (fun e => ?_)
      have hli2 : lo < i := by
        rcases Nat.lt_or_ge lo i with z | z
        · exact z
        · exact absurd (k3 (by omega)) e
      obtain ⟨l1, l2⟩ := k4 hli2
      intro y7 h7
      rw [show (1 : Int32) = nI 1 from rfl, pk_sub (by omega)] at h7
      subst h7
      refine ⟨vp_in_nI (by omega) (by omega), fun y9 h9 => ⟨vp_in_nI (by omega) (by omega), fun y11 h11 => ?_⟩⟩
      rw [nI_clamp (by omega), l2] at h9
      rw [nI_clamp (by omega), k7 i (Or.inr (Nat.le_refl _))] at h11
      subst h9 h11
      refine ⟨fun z => ?_, fun z => put (fun _ => ?_)⟩
      · rw [nI_1]
        refine ih (i + 1) (by omega) (by omega) ke V k1 (by omega) (fun z2 => absurd z2 (by omega)) (fun _ => ⟨l1, ?_⟩) k5 (fun x => ?_) (fun k hk => k7 k (by omega))
        · rw [Nat.add_sub_cancel, l2, z]
        · rw [k6 x]
          constructor
          · rintro ⟨k, q1, q2, q3⟩
            exact ⟨k, q1, by omega, q3⟩
          · rintro ⟨k, q1, q2, q3⟩
            by_cases w : k = i
            · subst w
              exact ⟨k - 1, by omega, by omega, z.trans q3⟩
            · exact ⟨k, q1, by omega, q3⟩
      · rw [l2]
        exact ltt _ _ (hs (i - 1) i (by omega) (by omega) (by omega)) z
  exact ⟨_, go (hi - lo) lo (by omega) (Nat.le_refl _) lo PO (Nat.le_refl _) (Nat.le_refl _) (fun _ => rfl) (fun z => absurd z (by omega)) (fun p q p1 p2 p3 => absurd p3 (by omega)) (fun x => ⟨fun ⟨k, a, b, _⟩ => absurd b (by omega), fun ⟨k, a, b, _⟩ => absurd b (by omega)⟩) (fun _ _ => rfl)⟩
end Srt
