/-! pure: a step's shape -/
/-- which columns are given positions -/
def nR (ro : Nat → Nat) : Nat → Nat
  | 0 => 0
  | n + 1 => nR ro n + (if ro n < 6 then 1 else 0)
theorem nR_le (ro : Nat → Nat) : ∀ n, nR ro n ≤ n := by
  intro n
  induction n with
  | zero => exact Nat.le_refl _
  | succ n ih =>
    show nR ro n + (if ro n < 6 then 1 else 0) ≤ n + 1
    split <;> omega
theorem nR_lt {ro : Nat → Nat} {j : Nat} : ∀ n, j < n → ¬ ro j < 6 → nR ro n < n := by
  intro n
  induction n with
  | zero => exact fun h => absurd h (by omega)
  | succ n ih =>
    intro hj hr
    show nR ro n + (if ro n < 6 then 1 else 0) < n + 1
    by_cases e : j = n
    · subst e
      rw [if_neg hr]
      have := nR_le ro j
      omega
    · have := ih (by omega) hr
      split <;> omega
theorem nR_cong {ro ro2 : Nat → Nat} : ∀ n, (∀ c, c < n → (ro c < 6 ↔ ro2 c < 6)) → nR ro n = nR ro2 n := by
  intro n
  induction n with
  | zero => exact fun _ => rfl
  | succ n ih =>
    intro h
    show nR ro n + (if ro n < 6 then 1 else 0) = nR ro2 n + (if ro2 n < 6 then 1 else 0)
    rw [ih (fun c hc => h c (by omega))]
    by_cases e : ro n < 6
    · rw [if_pos e, if_pos ((h n (by omega)).mp e)]
    · rw [if_neg e, if_neg (fun z => e ((h n (by omega)).mpr z))]
theorem nR_up {ro ro2 : Nat → Nat} {j : Nat} : ∀ n, j < n → ¬ ro j < 6 → ro2 j < 6 → (∀ c, ¬ c = j → ro2 c = ro c) → nR ro2 n = nR ro n + 1 := by
  intro n
  induction n with
  | zero => exact fun h => absurd h (by omega)
  | succ n ih =>
    intro hj h1 h2 h3
    show nR ro2 n + (if ro2 n < 6 then 1 else 0) = nR ro n + (if ro n < 6 then 1 else 0) + 1
    by_cases e : j = n
    · subst e
      rw [if_pos h2, if_neg h1, nR_cong (ro := ro2) (ro2 := ro) j (fun c hc => by rw [h3 c (by omega)])]
    · rw [ih (by omega) h1 h2 h3, h3 n (fun z => e z.symm)]
      omega
/-- column j has its variable or constant for the first time -/
def fst1 (as : List (Nat ⊕ Nat)) (j : Nat) : Prop := ∀ (k : Nat) (a : Nat ⊕ Nat), k < j → as[k]? = some a → ¬ as[j]? = some a
/-- the roles: which columns have positions from w0 to w, among those before j -/
def GpQ (as : List (Nat ⊕ Nat)) (Wt : Nat → Prop) (w0 : Nat) (ro0 va0 : Nat → Nat) (j w : Nat) (ro va : Nat → Nat) : Prop := w0 ≤ w ∧ (∀ c x, c < j → as[c]? = some (Sum.inl x) → fst1 as c → Wt x → w0 ≤ ro c ∧ ro c < w ∧ va (ro c) = x) ∧ (∀ c, ¬ (c < j ∧ ∃ x, as[c]? = some (Sum.inl x) ∧ fst1 as c ∧ Wt x) → ro c = ro0 c) ∧ (∀ q, w0 ≤ q → q < w → ∃ c x, c < j ∧ as[c]? = some (Sum.inl x) ∧ fst1 as c ∧ Wt x ∧ ro c = q ∧ va q = x) ∧ (∀ q, q < w0 → va q = va0 q)
/-- a step's arrays -/
def rN (ro : Nat → Nat) (R : Nat → Int32) : Prop := ∀ c, c < 6 → R c = nI (ro c)
section CSh
variable {ar : Nat → Nat} {rm i X0 : Nat} {b : BL} {K P Z M T : Nat → Int32} {SL : Nat → Int32}
theorem cdx_inj {a c : Nat ⊕ Nat} (ha : ∀ x, a = Sum.inl x → x < 12) (hc : ∀ x, c = Sum.inl x → x < 12) (e : cdx a = cdx c) : a = c := by
  cases a with
  | inl x =>
    have h1 := ha x rfl
    cases c with
    | inl y => exact congrArg Sum.inl e
    | inr q =>
      have e2 : x = 16 + q := e
      omega
  | inr p =>
    cases c with
    | inl y =>
      have h1 := hc y rfl
      have e2 : 16 + p = y := e
      omega
    | inr q =>
      have e2 : 16 + p = 16 + q := e
      exact congrArg Sum.inr (by omega)
theorem cdx_lt (hok : blOk ar b) (hA : b.1 = 0 ∨ b.1 = 1) {a : Nat ⊕ Nat} (h : a ∈ b.2.2) : cdx a < 1016 := by
  cases a with
  | inl x =>
    have := hok.2.2.1 x h
    show x < 1016
    omega
  | inr q =>
    have := (hok.2.2.2.1 hA).1 q h
    show 16 + q < 1016
    omega
theorem sp_term {post : Int32 → Unit → Prop} {j : Nat} {a : Nat ⊕ Nat} (hrm : rm < 100000) (hQ : BQ rm b i K P Z M T) (hok : blOk ar b) (hj : b.2.2[j]? = some a) (h : post (nI (cdx a)) ()) : wp_met_Cl_term post (6 * rm) (nI i) (nI j) T := by
  have hjl := (List.getElem?_eq_some_iff.mp hj).1
  have h6 := hok.2.1
  have hi := hQ.1
  intro y1 hy1 y2 hy2
  have ey : y2 = nI (6 * i + j) := by
    rw [hy2, hy1, show (6 : Int32) = nI 6 from rfl, pk_mul, nI_add, Nat.mul_comm]
  subst ey
  refine ⟨vp_in_nI (by omega) (by omega), fun y4 hy4 => ?_⟩
  rw [nI_clamp (by omega), hQ.2.2.2.2.2 j a hj] at hy4
  subst hy4
  exact h
theorem sp_firstColumnOf {post : Int32 → Unit → Prop} {j : Nat} {a : Nat ⊕ Nat} (hX : X0 < 12) (hrm : rm < 100000) (hQ : BQ rm b i K P Z M T) (hok : blOk ar b) (hA : b.1 = 0 ∨ b.1 = 1) (hS : SL X0 = nI i) (hj : b.2.2[j]? = some a) (h : ∀ k, k ≤ j → b.2.2[k]? = some a → (∀ k2, k2 < k → ¬ b.2.2[k2]? = some a) → post (nI k) ()) : wp_met_St_firstColumnOf post rm (6 * rm) (nI (cdx a)) Z T SL X0 := by
  have hjl := (List.getElem?_eq_some_iff.mp hj).1
  have hi := hQ.1
  have h6 := hok.2.1
  have go : ∀ m k, k + m = j → (∀ k2, k2 < k → ¬ b.2.2[k2]? = some a) → lw_met_St_firstColumnOf_2 post SL X0 rm Z (nI (cdx a)) (6 * rm) T (m + 1) (nI k) := by
    intro m
    induction m with
    | zero =>
      intro k hk hno y3 h3
      rw [hS] at h3
      subst h3
      refine ⟨vp_in_nI hi (by omega), fun y5 h5 => ?_⟩
      rw [nI_clamp (by omega), hQ.2.2.2.1] at h5
      subst h5
      refine pk_le b.2.2.length k (fun z => absurd z (by omega)) (fun _ => ?_)
      intro y6 h6'
      rw [hS] at h6'
      subst h6'
      obtain rfl : k = j := by omega
      refine sp_term hrm hQ hok hj ?_
      exact ⟨fun _ => h k (Nat.le_refl _) hj hno, fun z => absurd rfl z⟩
    | succ m ih =>
      intro k hk hno y3 h3
      rw [hS] at h3
      subst h3
      refine ⟨vp_in_nI hi (by omega), fun y5 h5 => ?_⟩
      rw [nI_clamp (by omega), hQ.2.2.2.1] at h5
      subst h5
      refine pk_le b.2.2.length k (fun z => absurd z (by omega)) (fun _ => ?_)
      intro y6 h6'
      rw [hS] at h6'
      subst h6'
      have hke := List.getElem?_eq_getElem (show k < b.2.2.length by omega)
      generalize b.2.2[k] = c at hke
      refine sp_term hrm hQ hok hke ?_
      have l1 := cdx_lt hok hA (List.mem_of_getElem? hke)
      have l2 := cdx_lt hok hA (List.mem_of_getElem? hj)
      refine ⟨fun z => ?_, fun z => ?_⟩
      · have e := cdx_inj (fun x hx => hok.2.2.1 x (by rw [← hx]; exact List.mem_of_getElem? hke)) (fun x hx => hok.2.2.1 x (by rw [← hx]; exact List.mem_of_getElem? hj)) ((nI_eq (by omega) (by omega)).mp z)
        subst e
        exact h k (by omega) hke hno
      · rw [nI_1]
        refine ih (k + 1) (by omega) (fun k2 hk2 e => ?_)
        by_cases w : k2 = k
        · subst w
          rw [hke] at e
          obtain rfl := Option.some.inj e
          exact z rfl
        · exact hno k2 (by omega) e
  exact ⟨hX, _, go j 0 (by omega) (fun k2 hk2 => absurd hk2 (by omega))⟩
theorem fst_iff {as : List (Nat ⊕ Nat)} {a : Nat ⊕ Nat} {j k : Nat} (hj : as[j]? = some a) (hkj : k ≤ j) (hk : as[k]? = some a) (hno : ∀ k2, k2 < k → ¬ as[k2]? = some a) : k = j ↔ fst1 as j := by
  constructor
  · rintro rfl k2 c hk2 e1 e2
    rw [hj] at e2
    obtain rfl := Option.some.inj e2
    exact hno k2 hk2 e1
  · intro h
    apply Classical.byContradiction
    intro w
    exact h k a (by omega) hk hj
/-- positions for the wanted variables -/
theorem sp_givePositions {post : ((Nat → Int32) × (Nat → Nat → Int32) × (Nat → Nat → Int32)) → Prop} {Wt : Nat → Prop} {wt : Int32} {w0 : Nat} {ro0 va0 : Nat → Nat} {SW : Nat → Int32} {SR SV : Nat → Nat → Int32} (hX : X0 < 12) (hrm : rm < 100000) (hQ : BQ rm b i K P Z M T) (hok : blOk ar b) (hA : b.1 = 0 ∨ b.1 = 1) (hS : SL X0 = nI i) (hM : MK Wt wt) (hw : SW X0 = nI w0) (hwr : w0 = nR ro0 6) (hr : rN ro0 (SR X0)) (hv : ∀ q, q < w0 → SV X0 q = nI (va0 q)) (hfree : ∀ c x, b.2.2[c]? = some (Sum.inl x) → fst1 b.2.2 c → Wt x → ro0 c = 6)
    (h : ∀ w ro va SW2 SR2 SV2, GpQ b.2.2 Wt w0 ro0 va0 b.2.2.length w ro va → w = nR ro 6 → w ≤ 6 → SW2 X0 = nI w → rN ro (SR2 X0) → (∀ q, q < w → SV2 X0 q = nI (va q)) → (∀ Y, ¬ Y = X0 → SW2 Y = SW Y ∧ SR2 Y = SR Y ∧ SV2 Y = SV Y) → post (SW2, SR2, SV2)) : wp_met_St_givePositions post rm (6 * rm) (nI b.2.2.length) wt Z T SL SW SR SV X0 := by
  have h6 := hok.2.1
  have go : ∀ m j, j + m = b.2.2.length → ∀ w ro va SW2 SR2 SV2, GpQ b.2.2 Wt w0 ro0 va0 j w ro va → w = nR ro 6 → SW2 X0 = nI w → rN ro (SR2 X0) → (∀ q, q < w → SV2 X0 q = nI (va q)) → (∀ Y, ¬ Y = X0 → SW2 Y = SW Y ∧ SR2 Y = SR Y ∧ SV2 Y = SV Y) → lw_met_St_givePositions_3 post (nI b.2.2.length) SL X0 wt rm (6 * rm) Z T (m + 1) (nI j, SW2, SR2, SV2) := by
    intro m
    induction m with
    | zero =>
      intro j hj w ro va SW2 SR2 SV2 g1 g2 g3 g4 g5 g6
      obtain rfl : j = b.2.2.length := by omega
      have hw6 : w ≤ 6 := by rw [g2]; exact nR_le ro 6
      exact pk_le b.2.2.length b.2.2.length (fun _ => h w ro va SW2 SR2 SV2 g1 g2 hw6 g3 g4 g5 g6) (fun z => absurd z (by omega))
    | succ m ih =>
      intro j hj w ro va SW2 SR2 SV2 g1 g2 g3 g4 g5 g6
      refine pk_le b.2.2.length j (fun z => absurd z (by omega)) (fun _ => ?_)
      intro y6 hy6
      rw [hS] at hy6
      subst hy6
      have hje := List.getElem?_eq_getElem (show j < b.2.2.length by omega)
      generalize b.2.2[j] = a at hje
      have skip : ¬ (∃ x, b.2.2[j]? = some (Sum.inl x) ∧ fst1 b.2.2 j ∧ Wt x) → lw_met_St_givePositions_3 post (nI b.2.2.length) SL X0 wt rm (6 * rm) Z T (m + 1) (nI j + 1, SW2, SR2, SV2) := by
        intro hno
        rw [nI_1]
        obtain ⟨k1, k2, k3, k4, k5⟩ := g1
        refine ih (j + 1) (by omega) w ro va SW2 SR2 SV2 ⟨k1, fun c x hc e1 e2 e3 => ?_, fun c hc => k3 c (fun z => hc ⟨by omega, z.2⟩), fun q q1 q2 => ?_, k5⟩ g2 g3 g4 g5 g6
        · by_cases z : c = j
          · subst z
            exact absurd ⟨x, e1, e2, e3⟩ hno
          · exact k2 c x (by omega) e1 e2 e3
        · obtain ⟨c, x, c1, c2⟩ := k4 q q1 q2
          exact ⟨c, x, by omega, c2⟩
      refine sp_term hrm hQ hok hje ?_
      cases a with
      | inr q =>
        have hq := (hok.2.2.2.1 hA).1 q (List.mem_of_getElem? hje)
        refine ⟨fun _ => skip ?_, fun z => absurd ?_ z⟩
        · rintro ⟨x, e, -⟩
          rw [hje] at e
          cases e
        · exact (nI_leI (a := 16) (b := 16 + q) (by omega) (by omega)).mpr (by omega)
      | inl x =>
        have hx := hok.2.2.1 x (List.mem_of_getElem? hje)
        refine ⟨fun z => absurd ((nI_leI (a := 16) (b := x) (by omega) (by omega)).mp z) (by omega), fun _ => ?_⟩
        intro y8 hy8 y9 hy9
        subst hy8
        rcases MK_bit hM (show x < 16 by omega) with ⟨z1, z2⟩ | ⟨z1, z2⟩
        · have e9 : y9 = 0 := hy9.trans z1
          refine ⟨fun _ => skip ?_, fun z => absurd e9 z⟩
          rintro ⟨x2, e, -, q⟩
          rw [hje] at e
          obtain rfl := Sum.inl.inj (Option.some.inj e)
          exact z2 q
        · have e9 : y9 = 1 := hy9.trans z1
          refine ⟨fun z => absurd (e9.symm.trans z) (by decide), fun _ => ?_⟩
          refine sp_firstColumnOf hX hrm hQ hok hA hS hje (fun k hk1 hk2 hk3 => ?_)
          have hfi := fst_iff hje hk1 hk2 hk3
          have hjl := (List.getElem?_eq_some_iff.mp hje).1
          refine pk_eq k j (fun e => ?_) (fun e => ?_)
          · have hfst := hfi.mp e
            have hr0 : ro j = 6 := by
              rw [g1.2.2.1 j (fun z => absurd z.1 (by omega))]
              exact hfree j x hje hfst z2
            have hw6 : w < 6 := by
              rw [g2]
              exact nR_lt (j := j) 6 (by omega) (by omega)
            intro y11 h11
            rw [g3] at h11
            subst h11
            refine ⟨vp_in_nI (by omega) (by omega), fun g13 h13 y14 h14 => ?_⟩
            rw [g3] at h14
            subst h14
            refine ⟨vp_in_nI hw6 (by omega), fun g16 h16 y17 h17 y18 h18 g19 h19 => ?_⟩
            rw [nI_clamp (by omega)] at h13 h16
            rw [g3] at h17
            rw [h17, nI_1] at h18
            rw [nI_1]
            have ro2 : ∃ ro2 : Nat → Nat, ro2 = fun c => if c = j then w else ro c := ⟨_, rfl⟩
            obtain ⟨ro2, hro2⟩ := ro2
            have va2 : ∃ va2 : Nat → Nat, va2 = fun q => if q = w then x else va q := ⟨_, rfl⟩
            obtain ⟨va2, hva2⟩ := va2
            have r2j : ro2 j = w := by rw [hro2]; exact if_pos rfl
            have r2n : ∀ c, ¬ c = j → ro2 c = ro c := fun c hc => by rw [hro2]; exact if_neg hc
            have v2w : va2 w = x := by rw [hva2]; exact if_pos rfl
            have v2n : ∀ q, ¬ q = w → va2 q = va q := fun q hq => by rw [hva2]; exact if_neg hq
            obtain ⟨k1, k2, k3, k4, k5⟩ := g1
            refine ih (j + 1) (by omega) (w + 1) ro2 va2 g19 g13 g16 ⟨by omega, fun c x2 hc e1 e2 e3 => ?_, fun c hc => ?_, fun q q1 q2 => ?_, fun q q1 => ?_⟩ ?_ ?_ ?_ ?_ ?_
            · by_cases z : c = j
              · subst z
                rw [hje] at e1
                obtain rfl := Sum.inl.inj (Option.some.inj e1)
                rw [r2j]
                exact ⟨k1, by omega, v2w⟩
              · obtain ⟨l1, l2, l3⟩ := k2 c x2 (by omega) e1 e2 e3
                rw [r2n c z]
                exact ⟨l1, by omega, by rw [v2n _ (by omega)]; exact l3⟩
            · by_cases z : c = j
              · subst z
                exact absurd ⟨by omega, x, hje, hfst, z2⟩ hc
              · rw [r2n c z]
                exact k3 c (fun y => hc ⟨by omega, y.2⟩)
            · by_cases z : q = w
              · subst z
                exact ⟨j, x, by omega, hje, hfst, z2, r2j, v2w⟩
              · obtain ⟨c, x2, c1, c2, c3, c4, c5, c6⟩ := k4 q q1 (by omega)
                exact ⟨c, x2, by omega, c2, c3, c4, by rw [r2n c (by omega)]; exact c5, by rw [v2n q z]; exact c6⟩
            · rw [v2n q (by omega)]
              exact k5 q q1
            · rw [g2]
              exact (nR_up (j := j) 6 (by omega) (by omega) (by rw [r2j]; exact hw6) r2n).symm
            · rw [h19, fup_self, h18]
            · intro c hc
              rw [h13, fup_self]
              by_cases z : c = j
              · subst z
                rw [upd_same, r2j]
              · rw [upd_ne z, r2n c z]
                exact g4 c hc
            · intro q hq
              rw [h16, fup_self]
              by_cases z : q = w
              · subst z
                rw [upd_same, v2w]
                rfl
              · rw [upd_ne z, v2n q z]
                exact g5 q (by omega)
            · intro Y hY
              rw [h19, h13, h16, fup_ne _ _ hY, fup_ne _ _ hY, fup_ne _ _ hY]
              exact g6 Y hY
          · refine skip ?_
            rintro ⟨x2, -, q, -⟩
            exact e (hfi.mpr q)
  exact ⟨hX, _, go b.2.2.length 0 (by omega) w0 ro0 va0 SW SR SV ⟨Nat.le_refl _, fun c x hc => absurd hc (by omega), fun c _ => rfl, fun q q1 q2 => absurd q1 (by omega), fun q _ => rfl⟩ hwr hw hr hv (fun Y _ => ⟨rfl, rfl, rfl⟩)⟩
end CSh
