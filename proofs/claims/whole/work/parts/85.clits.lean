/-! pure: literals by ranks: keys, comparisons, tests -/
abbrev BL : Type := Int32 × Option Nat × List (Nat ⊕ Nat)
def ev (v : Nat → Nat) : Nat ⊕ Nat → Nat
  | .inl x => v x
  | .inr q => q
def cdx : Nat ⊕ Nat → Nat
  | .inl x => x
  | .inr q => 16 + q
def oc (v : Nat → Nat) : Nat ⊕ Nat → Nat
  | .inl x => 2 * v x + 1
  | .inr a => a
def occB (b : BL) (x : Nat) : Prop := Sum.inl x ∈ b.2.2
def pI : Option Nat → Int32
  | some p => nI p
  | none => -1
def blOk (ar : Nat → Nat) (b : BL) : Prop := kdOk b.1 ∧ b.2.2.length ≤ 6 ∧ (∀ x, Sum.inl x ∈ b.2.2 → x < 12) ∧ ((b.1 = 0 ∨ b.1 = 1) → (∀ q, Sum.inr q ∈ b.2.2 → q < 1000) ∧ ∀ p, b.2.1 = some p → p < 64 ∧ b.2.2.length = ar p) ∧ (¬ (b.1 = 0 ∨ b.1 = 1) → (∃ s t, b.2.2 = [s, t]) ∧ ∀ q, Sum.inr q ∈ b.2.2 → q < 5000)
def BQ (rm : Nat) (b : BL) (i : Nat) (K P Z M T : Nat → Int32) : Prop := i < rm ∧ K i = b.1 ∧ ((b.1 = 0 ∨ b.1 = 1) → P i = pI b.2.1) ∧ Z i = nI b.2.2.length ∧ MK (occB b) (M i) ∧ ∀ (j : Nat) (a : Nat ⊕ Nat), b.2.2[j]? = some a → T (6 * i + j) = nI (cdx a)
def aOf (v : Nat → Nat) (b : BL) : List Nat := b.2.2.map (ev v)
/-- a literal holds: Vis are the facts that may be used -/
def hB (Vis : Nat × List Nat → Prop) (v : Nat → Nat) (b : BL) : Prop := (b.1 = 0 ∧ ∃ p, b.2.1 = some p ∧ Vis (p, aOf v b)) ∨ (b.1 = 1 ∧ ¬ ∃ p, b.2.1 = some p ∧ Vis (p, aOf v b)) ∨ (¬ b.1 = 0 ∧ ¬ b.1 = 1 ∧ ∃ s t, b.2.2 = [s, t] ∧ cmpH b.1 ((oc v s : Int) - (oc v t : Int)))
/-- the values array holds v at these variables -/
def VV (b : BL) (v : Nat → Nat) (W : Nat → Int32) : Prop := ∀ x, occB b x → W x = nI (v x) ∧ v x < 1000
theorem kN_0 : kN (fun _ => 0) = 0 := by
  unfold kN
  simp
section CLi
variable {ar : Nat → Nat} {rm i : Nat} {b : BL} {K P Z M T W : Nat → Int32} {v : Nat → Nat}
theorem aOf_ok {p : Nat} (hok : blOk ar b) (hA : b.1 = 0 ∨ b.1 = 1) (hp : b.2.1 = some p) (hV : VV b v W) : fOk (p, aOf v b) ∧ (aOf v b).length = ar p := by
  obtain ⟨h1, h2, h3, h4, h5⟩ := hok
  obtain ⟨a1, a2⟩ := h4 hA
  obtain ⟨p1, p2⟩ := a2 p hp
  refine ⟨⟨p1, by unfold aOf; rw [List.length_map]; exact h2, fun r hr => ?_⟩, by unfold aOf; rw [List.length_map]; exact p2⟩
  obtain ⟨a, ha, rfl⟩ := List.mem_map.mp hr
  cases a with
  | inl x => exact (hV x ha).2
  | inr q => exact a1 q ha
theorem sp_keyOf {post : Int64 → Unit → Prop} (hrm : rm < 100000) (hB : BQ rm b i K P Z M T) (hok : blOk ar b) (hA : b.1 = 0 ∨ b.1 = 1) (hV : VV b v W) (h : post (lN (kN (fun j => (aOf v b).getD j 0))) ()) : wp_met_Cl_keyOf post rm (6 * rm) 12 (nI i) Z T W := by
  obtain ⟨q1, q2, q3, q4, q5, q6⟩ := hB
  obtain ⟨h1, h2, h3, h4, h5⟩ := hok
  obtain ⟨a1, -⟩ := h4 hA
  have hlen : (aOf v b).length = b.2.2.length := List.length_map ..
  have hfc : ∀ j, (aOf v b).getD j 0 < 1000 := by
    intro j
    rw [List.getD_eq_getElem?_getD]
    cases e : (aOf v b)[j]? with
    | none => show 0 < 1000; omega
    | some r =>
      obtain ⟨a, ha, rfl⟩ := List.mem_map.mp (List.mem_of_getElem? e)
      cases a with
      | inl x => exact (hV x ha).2
      | inr q => exact a1 q ha
  have go : ∀ m j, j + m = b.2.2.length → lw_met_Cl_keyOf_5 post (nI i) rm Z 12 W (6 * rm) T (m + 1) (nI j, lN (kN (upto (fun j => (aOf v b).getD j 0) j))) := by
    intro m
    induction m with
    | zero =>
      intro j hj
      refine ⟨vp_in_nI q1 (by omega), fun y5 h5' => ?_⟩
      rw [nI_clamp (by omega), q4] at h5'
      subst h5'
      refine pk_le b.2.2.length j (fun _ => ?_) (fun z => absurd z (by omega))
      have e : kN (upto (fun j => (aOf v b).getD j 0) j) = kN (fun j => (aOf v b).getD j 0) := kN_cong (fun x _ => by
        show (if x < j then (aOf v b).getD x 0 else 0) = (aOf v b).getD x 0
        by_cases z : x < j
        · rw [if_pos z]
        · rw [if_neg z, List.getD_eq_getElem?_getD, List.getElem?_eq_none (by omega)]
          rfl)
      rw [e]
      exact h
    | succ m ih =>
      intro j hj
      refine ⟨vp_in_nI q1 (by omega), fun y5 h5' => ?_⟩
      rw [nI_clamp (by omega), q4] at h5'
      subst h5'
      refine pk_le b.2.2.length j (fun z => absurd z (by omega)) (fun _ => ?_)
      have hjl : j < b.2.2.length := by omega
      have hje := List.getElem?_eq_getElem hjl
      generalize b.2.2[j] = a at hje
      have hm := List.mem_of_getElem? hje
      intro y1 hy1 y2 hy2
      have ey : y2 = nI (6 * i + j) := by
        rw [hy2, hy1, show (6 : Int32) = nI 6 from rfl, pk_mul, nI_add, Nat.mul_comm]
      subst ey
      refine ⟨vp_in_nI (by omega) (by omega), fun y4 hy4 => ?_⟩
      rw [nI_clamp (by omega), q6 j a hje] at hy4
      subst hy4
      have hfj : (aOf v b).getD j 0 = ev v a := by
        unfold aOf
        rw [List.getD_eq_getElem?_getD, List.getElem?_map, hje]
        rfl
      have fin : ∀ y7 : Int64, y7 = lN (ev v a) → wp_met_Fa_shiftOf (fun r9 (_ : Unit) => (∀ y10 : Int64, y10 = y7 <<< (r9.toInt64 &&& 63) → (∀ y11 : Int64, y11 = lN (kN (upto (fun j => (aOf v b).getD j 0) j)) ||| y10 → (lw_met_Cl_keyOf_5 post (nI i) rm Z 12 W (6 * rm) T (m + 1) ((nI j + 1), y11))))) (nI j) := by
        intro y7 h7
        refine sp_shiftOf (by omega) (fun y10 h10 y11 h11 => ?_)
        have hlt := hfc j
        rw [hfj] at hlt
        have hu : ∀ x, x < 6 → upto (fun j => (aOf v b).getD j 0) j x < 1024 := by
          intro x _
          show (if x < j then (aOf v b).getD x 0 else 0) < 1024
          by_cases z : x < j
          · rw [if_pos z]
            have := hfc x
            omega
          · rw [if_neg z]
            omega
        rw [h7, lN_shl _ (by omega)] at h10
        rw [h10, kN_or hu (by omega) (by omega) (if_neg (by omega))] at h11
        have e : kN (put1 (upto (fun j => (aOf v b).getD j 0) j) j (ev v a)) = kN (upto (fun j => (aOf v b).getD j 0) (j + 1)) := kN_cong (fun x _ => by
          show (if x = j then ev v a else (if x < j then (aOf v b).getD x 0 else 0)) = (if x < j + 1 then (aOf v b).getD x 0 else 0)
          by_cases z : x = j
          · subst z
            rw [if_pos rfl, if_pos (by omega), hfj]
          · rw [if_neg z]
            by_cases z2 : x < j
            · rw [if_pos z2, if_pos (by omega)]
            · rw [if_neg z2, if_neg (by omega)])
        rw [e] at h11
        rw [h11, nI_1]
        exact ih (j + 1) (by omega)
      cases a with
      | inl x =>
        have hx := h3 x hm
        obtain ⟨v1, v2⟩ := hV x hm
        have n16 : ¬ (16 : Int32) ≤ nI (cdx (Sum.inl x)) := fun z => by
          have z2 := Int32.le_iff_toInt_le.mp z
          rw [nI_toInt (by show x < 2147483648; omega)] at z2
          have : (16 : Int32).toInt = 16 := by decide
          rw [this] at z2
          have : ((cdx (Sum.inl x) : Nat) : Int) = (x : Int) := rfl
          omega
        refine ⟨⟨fun _ => trivial, fun _ => ⟨vp_in_nI hx (by omega), trivial⟩⟩, fun y7 h7 => fin y7 ?_⟩
        rw [h7, if_neg n16]
        show (W (nI x).toNatClampNeg).toInt64 = lN (v x)
        rw [nI_clamp (by omega), v1, nI_l9 (by omega)]
      | inr q =>
        have hq := a1 q hm
        have n16 : (16 : Int32) ≤ nI (cdx (Sum.inr q)) := by
          refine Int32.le_iff_toInt_le.mpr ?_
          rw [nI_toInt (by show 16 + q < 2147483648; omega)]
          have : (16 : Int32).toInt = 16 := by decide
          rw [this]
          have : ((cdx (Sum.inr q) : Nat) : Int) = ((16 + q : Nat) : Int) := rfl
          omega
        refine ⟨⟨fun _ => trivial, fun z => absurd n16 z⟩, fun y7 h7 => fin y7 ?_⟩
        rw [h7, if_pos n16]
        show (nI (16 + q) - 16).toInt64 = lN q
        rw [show (16 : Int32) = nI 16 from rfl, pk_sub (by omega), Nat.add_sub_cancel_left, nI_l9 (by omega)]
  have e0 : kN (upto (fun j => (aOf v b).getD j 0) 0) = 0 := (kN_cong (g := fun _ => 0) (fun x _ => if_neg (by omega))).trans kN_0
  have := go b.2.2.length 0 (by omega)
  rw [e0] at this
  exact ⟨_, this⟩
theorem sp_orderCode {post : Int32 → Unit → Prop} {j : Nat} {a : Nat ⊕ Nat} (hrm : rm < 100000) (hB : BQ rm b i K P Z M T) (hok : blOk ar b) (hC : ¬ (b.1 = 0 ∨ b.1 = 1)) (hV : VV b v W) (hj : b.2.2[j]? = some a) (h : oc v a < 5000 → post (nI (oc v a)) ()) : wp_met_Cl_orderCode post (6 * rm) 12 (nI i) (nI j) T W := by
  obtain ⟨q1, q2, q3, q4, q5, q6⟩ := hB
  obtain ⟨h1, h2, h3, h4, h5⟩ := hok
  have hjl := (List.getElem?_eq_some_iff.mp hj).1
  have hm := List.mem_of_getElem? hj
  intro y1 hy1 y2 hy2
  have ey : y2 = nI (6 * i + j) := by
    rw [hy2, hy1, show (6 : Int32) = nI 6 from rfl, pk_mul, nI_add, Nat.mul_comm]
  subst ey
  refine ⟨vp_in_nI (by omega) (by omega), fun y4 hy4 => ?_⟩
  rw [nI_clamp (by omega), q6 j a hj] at hy4
  subst hy4
  cases a with
  | inl x =>
    have hx := h3 x hm
    obtain ⟨v1, v2⟩ := hV x hm
    have n16 : ¬ (16 : Int32) ≤ nI (cdx (Sum.inl x)) := fun z => by
      have z2 := Int32.le_iff_toInt_le.mp z
      rw [nI_toInt (by show x < 2147483648; omega)] at z2
      have : (16 : Int32).toInt = 16 := by decide
      rw [this] at z2
      have : ((cdx (Sum.inl x) : Nat) : Int) = (x : Int) := rfl
      omega
    refine ⟨⟨fun _ => trivial, fun _ => ⟨vp_in_nI hx (by omega), trivial⟩⟩, fun y5 h5' => ?_⟩
    rw [if_neg n16] at h5'
    have e : y5 = nI (2 * v x + 1) := by
      rw [h5']
      show 2 * W (nI x).toNatClampNeg + 1 = _
      rw [nI_clamp (by omega), v1, show (2 : Int32) = nI 2 from rfl, pk_mul, nI_1]
    rw [e]
    exact h (by show 2 * v x + 1 < 5000; omega)
  | inr q =>
    have hq := (h5 hC).2 q hm
    have n16 : (16 : Int32) ≤ nI (cdx (Sum.inr q)) := by
      refine Int32.le_iff_toInt_le.mpr ?_
      rw [nI_toInt (by show 16 + q < 2147483648; omega)]
      have : (16 : Int32).toInt = 16 := by decide
      rw [this]
      have : ((cdx (Sum.inr q) : Nat) : Int) = ((16 + q : Nat) : Int) := rfl
      omega
    refine ⟨⟨fun _ => trivial, fun z => absurd n16 z⟩, fun y5 h5' => ?_⟩
    rw [if_pos n16] at h5'
    have e : y5 = nI q := by
      rw [h5']
      show nI (16 + q) - 16 = _
      rw [show (16 : Int32) = nI 16 from rfl, pk_sub (by omega), Nat.add_sub_cancel_left]
    rw [e]
    exact h hq
theorem ltN {a c : Nat} (ha : a < 5000) (hc : c < 5000) : nI a < nI c ↔ a < c := by
  rw [Int32.lt_iff_toInt_lt, nI_toInt (by omega), nI_toInt (by omega)]
  omega
theorem leN {a c : Nat} (ha : a < 5000) (hc : c < 5000) : nI a ≤ nI c ↔ a ≤ c := by
  rw [Int32.le_iff_toInt_le, nI_toInt (by omega), nI_toInt (by omega)]
  omega
theorem sp_compares {post : Int32 → Unit → Prop} {Vis : Nat × List Nat → Prop} (hrm : rm < 100000) (hQ : BQ rm b i K P Z M T) (hok : blOk ar b) (hC : ¬ (b.1 = 0 ∨ b.1 = 1)) (hV : VV b v W) (h1 : hB Vis v b → post 1 ()) (h0 : ¬ hB Vis v b → post 0 ()) : wp_met_Cl_compares post rm (6 * rm) 12 (nI i) K T W := by
  obtain ⟨⟨s, t, est⟩, -⟩ := hok.2.2.2.2 hC
  have n0 : ¬ b.1 = 0 := fun z => hC (Or.inl z)
  have n1 : ¬ b.1 = 1 := fun z => hC (Or.inr z)
  have hi := hQ.1
  have hK := hQ.2.1
  refine sp_orderCode (j := 0) (a := s) hrm hQ hok hC hV (by rw [est]; rfl) (fun ls => ?_)
  refine sp_orderCode (j := 1) (a := t) hrm hQ hok hC hV (by rw [est]; rfl) (fun lt => ?_)
  have key : hB Vis v b ↔ cmpH b.1 ((oc v s : Int) - (oc v t : Int)) := by
    constructor
    · rintro (q | q | ⟨-, -, s2, t2, e, q⟩)
      · exact absurd q.1 n0
      · exact absurd q.1 n1
      · rw [est] at e
        injection e with e1 e2
        injection e2 with e3 e4
        subst e1 e3
        exact q
    · exact fun q => Or.inr (Or.inr ⟨n0, n1, s, t, est, q⟩)
  have pos : ∀ y : Int32, ∀ c : Prop, (c ↔ cmpH b.1 ((oc v s : Int) - (oc v t : Int))) → (c → y = 1) → (¬ c → y = 0) → post y () := by
    intro y c hc y1 y0
    by_cases z : c
    · rw [y1 z]
      exact h1 (key.mpr (hc.mp z))
    · rw [y0 z]
      exact h0 (fun w => z (hc.mpr (key.mp w)))
  refine ⟨vp_in_nI hi (by omega), fun y4 h4 => ?_⟩
  rw [nI_clamp (by omega), hK] at h4
  subst h4
  have hk : (11 : Int32) ≤ b.1 ∧ b.1 ≤ 16 := by
    rcases hok.1 with z | z | z
    · exact absurd z n0
    · exact absurd z n1
    · exact z
  have eqN : nI (oc v s) = nI (oc v t) ↔ oc v s = oc v t := nI_eq (by omega) (by omega)
  unfold cmpH at pos
  rcases kd_enum hk with e | e | e | e | e | e
  · refine ⟨fun _ y hy => pos y (oc v s = oc v t) ?_ (fun c => ?_) (fun c => ?_), fun z => absurd e z⟩
    · rw [e]
      simp <;> omega
    · rw [hy, if_pos (eqN.mpr c)]
    · rw [hy, if_neg (fun z => c (eqN.mp z))]
  · refine ⟨fun z => absurd (e.symm.trans z) (by decide), fun _ => ⟨fun _ y hy => pos y (¬ oc v s = oc v t) ?_ (fun c => ?_) (fun c => ?_), fun z => absurd e z⟩⟩
    · rw [e]
      simp <;> omega
    · rw [hy, if_neg (fun z => c (eqN.mp z))]
    · rw [hy, if_pos (eqN.mpr (Classical.byContradiction c))]
  · refine ⟨fun z => absurd (e.symm.trans z) (by decide), fun _ => ⟨fun z => absurd (e.symm.trans z) (by decide), fun _ => ⟨fun _ y hy => pos y (oc v s < oc v t) ?_ (fun c => ?_) (fun c => ?_), fun z => absurd e z⟩⟩⟩
    · rw [e]
      simp <;> omega
    · rw [hy, if_neg (fun z => by have := (leN lt ls).mp z; omega)]
    · rw [hy, if_pos ((leN lt ls).mpr (by omega))]
  · refine ⟨fun z => absurd (e.symm.trans z) (by decide), fun _ => ⟨fun z => absurd (e.symm.trans z) (by decide), fun _ => ⟨fun z => absurd (e.symm.trans z) (by decide), fun _ => ⟨fun _ y hy => pos y (oc v s ≤ oc v t) ?_ (fun c => ?_) (fun c => ?_), fun z => absurd e z⟩⟩⟩⟩
    · rw [e]
      simp <;> omega
    · rw [hy, if_neg (fun z => by have := (ltN lt ls).mp z; omega)]
    · rw [hy, if_pos ((ltN lt ls).mpr (by omega))]
  · refine ⟨fun z => absurd (e.symm.trans z) (by decide), fun _ => ⟨fun z => absurd (e.symm.trans z) (by decide), fun _ => ⟨fun z => absurd (e.symm.trans z) (by decide), fun _ => ⟨fun z => absurd (e.symm.trans z) (by decide), fun _ => ⟨fun _ y hy => pos y (oc v t < oc v s) ?_ (fun c => ?_) (fun c => ?_), fun z => absurd e z⟩⟩⟩⟩⟩
    · rw [e]
      simp <;> omega
    · rw [hy, if_neg (fun z => by have := (leN ls lt).mp z; omega)]
    · rw [hy, if_pos ((leN ls lt).mpr (by omega))]
  · refine ⟨fun z => absurd (e.symm.trans z) (by decide), fun _ => ⟨fun z => absurd (e.symm.trans z) (by decide), fun _ => ⟨fun z => absurd (e.symm.trans z) (by decide), fun _ => ⟨fun z => absurd (e.symm.trans z) (by decide), fun _ => ⟨fun z => absurd (e.symm.trans z) (by decide), fun _ => fun y hy => pos y (oc v t ≤ oc v s) ?_ (fun c => ?_) (fun c => ?_)⟩⟩⟩⟩⟩
    · rw [e]
      simp <;> omega
    · rw [hy, if_neg (fun z => by have := (ltN ls lt).mp z; omega)]
    · rw [hy, if_pos ((ltN ls lt).mpr (by omega))]
/-- the facts before n -/
def VisN (fs : List (Nat × List Nat)) (n : Nat) (x : Nat × List Nat) : Prop := ∃ f, f < n ∧ fs[f]? = some x
theorem sp_holds {post : Int32 → Unit → Prop} {fs : List (Nat × List Nat)} {sg : Nat → Nat} {sz hg : Int32} {FK : Nat → Int64} {S A FP N FT O NW : Nat → Int32} {vis : Nat} (hrm : rm < 100000) (hQ : BQ rm b i K P Z M T) (hok : blOk ar b) (hV : VV b v W) (hF : FaR ar fs sg sz hg FK S A FP N FT O NW) (hvis : vis ≤ fs.length) (h1 : hB (VisN fs vis) v b → post 1 ()) (h0 : ¬ hB (VisN fs vis) v b → post 0 ()) : wp_met_Jo_holds post rm rm rm (6 * rm) (nI i) W (nI vis) FK FP FT K P Z T := by
  have hi := hQ.1
  have hK := hQ.2.1
  have hF20 := hF.1
  refine ⟨vp_in_nI hi (by omega), fun y2 h2 => ?_⟩
  rw [nI_clamp (by omega), hK] at h2
  subst h2
  by_cases hA : b.1 = 0 ∨ b.1 = 1
  · have le1 : b.1 ≤ 1 := by rcases hA with z | z <;> rw [z] <;> decide
    refine ⟨fun _ => ⟨vp_in_nI hi (by omega), fun y4 h4 => ?_⟩, fun z => absurd le1 z⟩
    rw [nI_clamp (by omega), hQ.2.2.1 hA] at h4
    subst h4
    cases hp : b.2.1 with
    | none =>
      refine ⟨fun _ y9 h9 => ?_, fun z => absurd rfl z⟩
      rcases hA with z | z
      · rw [z, if_neg (by decide)] at h9
        subst h9
        refine h0 ?_
        rintro (⟨-, p, q, -⟩ | ⟨q, -⟩ | ⟨q, -⟩)
        · rw [hp] at q
          cases q
        · rw [z] at q
          exact absurd q (by decide)
        · exact q z
      · rw [z, if_pos rfl] at h9
        subst h9
        refine h1 (Or.inr (Or.inl ⟨z, ?_⟩))
        rintro ⟨p, q, -⟩
        rw [hp] at q
        cases q
    | some p =>
      obtain ⟨ok1, ok2⟩ := aOf_ok hok hA hp hV
      have hp64 := ok1.1
      have hp64 : p < 64 := hp64
      refine ⟨fun z => absurd z (nI_ne1 (by omega)), fun _ => ?_⟩
      refine sp_keyOf hrm hQ hok hA hV ?_
      refine sp_Fa_isVisible hF.2.2.1 (by omega) (fun bb hbb y7 h7 y8 h8 => ?_) (FaR_uniq hF)
      have hvv : bb = true ↔ VisN fs vis (p, aOf v b) := by
        rw [hbb]
        constructor
        · rintro ⟨f, f1, f2, f3, f4⟩
          exact ⟨f, f2, (FaR_key hF ok1 ok2 f).mp ⟨f1, f3, f4⟩⟩
        · rintro ⟨f, f1, f2⟩
          obtain ⟨g1, g2, g3⟩ := (FaR_key hF ok1 ok2 f).mpr f2
          exact ⟨f, g1, f1, g2, g3⟩
      rcases hA with z | z
      · rw [z, if_pos rfl] at h7
        subst h7
        have hh : hB (VisN fs vis) v b ↔ VisN fs vis (p, aOf v b) := by
          constructor
          · rintro (⟨-, p2, q, q2⟩ | ⟨q, -⟩ | ⟨q, -⟩)
            · rw [hp] at q
              obtain rfl := Option.some.inj q
              exact q2
            · rw [z] at q
              exact absurd q (by decide)
            · exact absurd z q
          · exact fun q => Or.inl ⟨z, p, hp, q⟩
        cases bb with
        | true =>
          rw [if_pos (show b01 true = 1 from rfl)] at h8
          subst h8
          exact h1 (hh.mpr (hvv.mp rfl))
        | false =>
          rw [if_neg (by decide)] at h8
          subst h8
          exact h0 (fun w => by have := hvv.mpr (hh.mp w); cases this)
      · rw [z, if_neg (by decide)] at h7
        subst h7
        have hh : hB (VisN fs vis) v b ↔ ¬ VisN fs vis (p, aOf v b) := by
          constructor
          · rintro (⟨q, -⟩ | ⟨-, q⟩ | ⟨-, q, -⟩)
            · rw [z] at q
              exact absurd q (by decide)
            · exact fun w => q ⟨p, hp, w⟩
            · exact absurd z q
          · refine fun q => Or.inr (Or.inl ⟨z, ?_⟩)
            rintro ⟨p2, e, w⟩
            rw [hp] at e
            obtain rfl := Option.some.inj e
            exact q w
        cases bb with
        | true =>
          rw [if_neg (by decide)] at h8
          subst h8
          exact h0 (fun w => hh.mp w (hvv.mp rfl))
        | false =>
          rw [if_pos (show b01 false = 0 from rfl)] at h8
          subst h8
          exact h1 (hh.mpr (fun w => by have := hvv.mpr w; cases this))
  · have gt1 : ¬ b.1 ≤ 1 := by
      intro w
      rcases hok.1 with z | z | z
      · exact hA (Or.inl z)
      · exact hA (Or.inr z)
      · rcases kd_enum z with e | e | e | e | e | e <;> rw [e] at w <;> exact absurd w (by decide)
    refine ⟨fun z => absurd z gt1, fun _ => ?_⟩
    exact sp_compares (Vis := VisN fs vis) hrm hQ hok hA hV (fun w => ⟨Or.inr rfl, h1 w⟩) (fun w => ⟨Or.inl rfl, h0 w⟩)
end CLi
