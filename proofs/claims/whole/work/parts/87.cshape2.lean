/-! pure: a step's shape: masks, other roles, the index's number -/
theorem nI_xor (a b : Nat) : nI a ^^^ nI b = nI (a ^^^ b) := by
  apply Int32.toBitVec_inj.mp
  show BitVec.ofNat 32 a ^^^ BitVec.ofNat 32 b = BitVec.ofNat 32 (a ^^^ b)
  exact (BitVec.ofNat_xor).symm
theorem x_andn (x y : Int32) : x &&& (y ^^^ -1) = x ^^^ (x &&& y) := by
  apply Int32.toBitVec_inj.mp
  show x.toBitVec &&& (y.toBitVec ^^^ BitVec.allOnes 32) = x.toBitVec ^^^ (x.toBitVec &&& y.toBitVec)
  apply BitVec.eq_of_getLsbD_eq
  intro i hi
  rw [BitVec.getLsbD_and, BitVec.getLsbD_xor, BitVec.getLsbD_xor, BitVec.getLsbD_and, BitVec.getLsbD_allOnes]
  have e : decide (i < 32) = true := decide_eq_true hi
  rw [e]
  cases x.toBitVec.getLsbD i <;> cases y.toBitVec.getLsbD i <;> rfl
section MKs
variable {A B : Nat → Prop} {x y : Int32}
theorem and_lt16 {a b : Nat} (ha : a < 65536) : a &&& b < 65536 := Nat.lt_of_le_of_lt Nat.and_le_left ha
theorem MK_and (h1 : MK A x) (h2 : MK B y) : MK (fun v => A v ∧ B v) (x &&& y) := by
  obtain ⟨m, m1, m2, m3⟩ := h1
  obtain ⟨k, k1, k2, k3⟩ := h2
  refine ⟨m &&& k, and_lt16 m1, by rw [m2, k2, nI_and], fun v hv => ?_⟩
  rw [Nat.testBit_and, Bool.and_eq_true, m3 v hv, k3 v hv]
theorem MK_andn (h1 : MK A x) (h2 : MK B y) : MK (fun v => A v ∧ ¬ B v) (x &&& (y ^^^ -1)) := by
  obtain ⟨m, m1, m2, m3⟩ := h1
  obtain ⟨k, k1, k2, k3⟩ := h2
  refine ⟨m ^^^ (m &&& k), ?_, by rw [x_andn, m2, k2, nI_and, nI_xor], fun v hv => ?_⟩
  · have := Nat.xor_lt_two_pow (n := 16) (x := m) (y := m &&& k) (by omega) (by have := @and_lt16 m k m1; omega)
    omega
  · rw [Nat.testBit_xor, Nat.testBit_and]
    have a1 := m3 v hv
    have a2 := k3 v hv
    cases e1 : m.testBit v <;> cases e2 : k.testBit v <;> rw [e1] at a1 <;> rw [e2] at a2 <;> simp at a1 a2 ⊢ <;> simp [a1, a2]
theorem MK_orm (h1 : MK A x) (h2 : MK B y) : MK (fun v => A v ∨ B v) (x ||| y) := by
  obtain ⟨m, m1, m2, m3⟩ := h1
  obtain ⟨k, k1, k2, k3⟩ := h2
  refine ⟨m ||| k, or_lt m1 k1, by rw [m2, k2, nI_or], fun v hv => ?_⟩
  rw [Nat.testBit_or, Bool.or_eq_true, m3 v hv, k3 v hv]
end MKs
/-- a scan's shape: s sought positions out of w, roles, variables, fixed columns -/
def ShQ (as : List (Nat ⊕ Nat)) (B Lv : Nat → Prop) (s w : Nat) (ro va fx : Nat → Nat) : Prop := (s ≤ w ∧ w ≤ 6) ∧ (∀ c x, as[c]? = some (Sum.inl x) → fst1 as c → B x → ro c < s ∧ va (ro c) = x) ∧ (∀ c x, as[c]? = some (Sum.inl x) → fst1 as c → ¬ B x → Lv x → s ≤ ro c ∧ ro c < w ∧ va (ro c) = x) ∧ (∀ c x, as[c]? = some (Sum.inl x) → fst1 as c → ¬ B x → ¬ Lv x → ro c = 6) ∧ (∀ c k x, as[c]? = some (Sum.inl x) → as[k]? = some (Sum.inl x) → k < c → fst1 as k → ro c = 7 + k) ∧ (∀ c q, as[c]? = some (Sum.inr q) → ro c = 13 ∧ fx c = q) ∧ (∀ c, as.length ≤ c → ro c = 6 ∧ fx c = 0) ∧ (∀ q, q < w → ∃ c x, as[c]? = some (Sum.inl x) ∧ fst1 as c ∧ ro c = q ∧ va q = x) ∧ (∀ c x, as[c]? = some (Sum.inl x) → fx c = 0)
/-- the index must be in order -/
def OrQ (as : List (Nat ⊕ Nat)) (s : Nat) (ro : Nat → Nat) : Prop := 0 < s ∨ ∃ c, c < as.length ∧ ro c = 6
def shN (p o : Nat) (ro : Nat → Nat) : Nat := (p * 2 + o) * 16777216 + ro 0 * 1048576 + ro 1 * 65536 + ro 2 * 4096 + ro 3 * 256 + ro 4 * 16 + ro 5
theorem shN_inj {p o p2 o2 : Nat} {ro ro2 : Nat → Nat} (ho : o ≤ 1) (ho2 : o2 ≤ 1) (h : ∀ c, c < 6 → ro c < 16) (h2 : ∀ c, c < 6 → ro2 c < 16) (e : shN p o ro = shN p2 o2 ro2) : p = p2 ∧ o = o2 ∧ ∀ c, c < 6 → ro c = ro2 c := by
  have a0 := h 0 (by omega)
  have a1 := h 1 (by omega)
  have a2 := h 2 (by omega)
  have a3 := h 3 (by omega)
  have a4 := h 4 (by omega)
  have a5 := h 5 (by omega)
  have b0 := h2 0 (by omega)
  have b1 := h2 1 (by omega)
  have b2 := h2 2 (by omega)
  have b3 := h2 3 (by omega)
  have b4 := h2 4 (by omega)
  have b5 := h2 5 (by omega)
  unfold shN at e
  refine ⟨by omega, by omega, fun c hc => ?_⟩
  rcases six hc with r | r | r | r | r | r <;> subst r <;> omega
section CS2
variable {ar : Nat → Nat} {rm i X0 : Nat} {b : BL} {K P Z M T : Nat → Int32} {SL : Nat → Int32}
theorem first_ex {as : List (Nat ⊕ Nat)} {a : Nat ⊕ Nat} : ∀ c, as[c]? = some a → ∃ k, k ≤ c ∧ as[k]? = some a ∧ fst1 as k := by
  intro c hc
  obtain ⟨k, k1, k2⟩ := pk_least (fun k => as[k]? = some a) ⟨c, hc⟩
  refine ⟨k, ?_, k1, fun k2' a2 hk e1 e2 => ?_⟩
  · apply Classical.byContradiction
    intro w
    exact k2 c (by omega) hc
  · rw [k1] at e2
    obtain rfl := Option.some.inj e2
    exact k2 k2' hk e1
/-- the roles of the columns before j are told -/
def OtQ (as : List (Nat ⊕ Nat)) (ro1 : Nat → Nat) (j : Nat) (ro fx : Nat → Nat) : Prop := (∀ c k x, c < j → as[c]? = some (Sum.inl x) → as[k]? = some (Sum.inl x) → k < c → fst1 as k → ro c = 7 + k) ∧ (∀ c q, c < j → as[c]? = some (Sum.inr q) → ro c = 13 ∧ fx c = q) ∧ (∀ c, (j ≤ c ∨ ∃ x, as[c]? = some (Sum.inl x) ∧ fst1 as c) → ro c = ro1 c) ∧ (∀ c, (j ≤ c ∨ ∃ x, as[c]? = some (Sum.inl x)) → fx c = 0) ∧ ∀ c, fx c < 1000
theorem sp_otherRoles {post : ((Nat → Int64) × (Nat → Nat → Int32)) → Prop} {ro1 : Nat → Nat} {SF0 : Nat → Int64} {SR0 : Nat → Nat → Int32} {J : (Int32 × (Nat → Int64) × (Nat → Nat → Int32)) → Prop} (hX : X0 < 12) (hrm : rm < 100000) (hQ : BQ rm b i K P Z M T) (hok : blOk ar b) (hA : b.1 = 0 ∨ b.1 = 1) (hS : SL X0 = nI i) {j : Nat} (hj : j < b.2.2.length) {ro fx : Nat → Nat} {SF : Nat → Int64} {SR : Nat → Nat → Int32} (g1 : OtQ b.2.2 ro1 j ro fx) (g2 : rN ro (SR X0)) (g3 : SF X0 = lN (kN fx)) (h : ∀ ro fx SF2 SR2, OtQ b.2.2 ro1 (j + 1) ro fx → rN ro (SR2 X0) → SF2 X0 = lN (kN fx) → (∀ Y, ¬ Y = X0 → SF2 Y = SF Y ∧ SR2 Y = SR Y) → post (SF2, SR2)) : wp_met_St_setOtherRole post rm (6 * rm) (nI j) Z T SL SF SR X0 := by
  have h6 := hok.2.1
  have hje := List.getElem?_eq_getElem hj
  generalize b.2.2[j] = a at hje
  refine ⟨hX, fun y1 hy1 => ?_⟩
  rw [hS] at hy1
  subst hy1
  refine sp_term hrm hQ hok hje ?_
  refine sp_firstColumnOf hX hrm hQ hok hA hS hje (fun k hk1 hk2 hk3 => ?_)
  obtain ⟨o1, o2, o3, o4, o5⟩ := g1
  cases a with
  | inl x =>
    have hx := hok.2.2.1 x (List.mem_of_getElem? hje)
    refine pk_lt x 16 (fun _ => ?_) (fun z => absurd z (by omega))
    refine pk_le j k (fun e => ?_) (fun e => ?_)
    · have hfst := (fst_iff hje hk1 hk2 hk3).mp (by omega)
      refine h ro fx SF SR ⟨fun c k2 x2 hc e1 e2 e3 e4 => ?_, fun c q hc e1 => ?_, fun c hc => ?_, fun c hc => ?_, o5⟩ g2 g3 (fun Y _ => ⟨rfl, rfl⟩)
      · by_cases z : c = j
        · subst z
          exact absurd e1 (hfst k2 _ e3 e2)
        · exact o1 c k2 x2 (by omega) e1 e2 e3 e4
      · by_cases z : c = j
        · subst z
          rw [hje] at e1
          cases e1
        · exact o2 c q (by omega) e1
      · refine o3 c ?_
        rcases hc with hc | hc
        · exact Or.inl (by omega)
        · exact Or.inr hc
      · refine o4 c ?_
        rcases hc with hc | hc
        · exact Or.inl (by omega)
        · exact Or.inr hc
    · intro y4 h4
      rw [show (7 : Int32) = nI 7 from rfl, nI_add] at h4
      subst h4
      refine ⟨vp_in_nI (by omega) (by omega), fun g6 hg6 => ?_⟩
      rw [nI_clamp (by omega)] at hg6
      have hfk : fst1 b.2.2 k := fun k2 c hk e1 e2 => by
        rw [hk2] at e2
        obtain rfl := Option.some.inj e2
        exact hk3 k2 hk e1
      obtain ⟨ro2, hro2⟩ : ∃ ro2 : Nat → Nat, ro2 = fun c => if c = j then 7 + k else ro c := ⟨_, rfl⟩
      have r2j : ro2 j = 7 + k := by rw [hro2]; exact if_pos rfl
      have r2n : ∀ c, ¬ c = j → ro2 c = ro c := fun c hc => by rw [hro2]; exact if_neg hc
      refine h ro2 fx SF g6 ⟨fun c k2 x2 hc e1 e2 e3 e4 => ?_, fun c q hc e1 => ?_, fun c hc => ?_, fun c hc => ?_, o5⟩ ?_ g3 (fun Y hY => ⟨rfl, by rw [hg6, fup_ne _ _ hY]⟩)
      · by_cases z : c = j
        · subst z
          rw [hje] at e1
          obtain rfl := Sum.inl.inj (Option.some.inj e1)
          rw [r2j]
          have e5 : k2 = k := by
            rcases Nat.lt_trichotomy k2 k with w | w | w
            · exact absurd e2 (hk3 k2 w)
            · exact w
            · exact absurd e2 (e4 k _ w hk2)
          rw [e5]
        · rw [r2n c z]
          exact o1 c k2 x2 (by omega) e1 e2 e3 e4
      · by_cases z : c = j
        · subst z
          rw [hje] at e1
          cases e1
        · rw [r2n c z]
          exact o2 c q (by omega) e1
      · by_cases z : c = j
        · subst z
          rcases hc with hc | ⟨x2, e1, e2⟩
          · omega
          · exact absurd hje (e2 k _ e hk2)
        · rw [r2n c z]
          refine o3 c ?_
          rcases hc with hc | hc
          · exact Or.inl (by omega)
          · exact Or.inr hc
      · refine o4 c ?_
        rcases hc with hc | hc
        · exact Or.inl (by omega)
        · exact Or.inr hc
      · intro c hc
        rw [hg6, fup_self]
        by_cases z : c = j
        · subst z
          rw [upd_same, r2j]
        · rw [upd_ne z, r2n c z]
          exact g2 c hc
  | inr q =>
    have hq := (hok.2.2.2.1 hA).1 q (List.mem_of_getElem? hje)
    refine pk_lt (16 + q) 16 (fun z => absurd z (by omega)) (fun _ => ?_)
    refine ⟨vp_in_nI (by omega) (by omega), fun g8 hg8 y9 h9 y10 h10 y11 h11 => ?_⟩
    rw [nI_clamp (by omega)] at hg8
    rw [g3] at h9
    subst h9
    have e10 : y10 = nI q := by
      rw [h10]
      show nI (16 + q) - 16 = _
      rw [show (16 : Int32) = nI 16 from rfl, pk_sub (by omega), Nat.add_sub_cancel_left]
    rw [e10, nI_l9 (by omega)] at h11
    subst h11
    refine sp_shiftOf (by omega) (fun y13 h13 y14 h14 g15 h15 => ?_)
    rw [lN_shl _ (by omega)] at h13
    rw [h13, kN_or (fun c _ => by have := o5 c; omega) (by omega) (by omega) (o4 j (Or.inl (Nat.le_refl _)))] at h14
    obtain ⟨ro2, hro2⟩ : ∃ ro2 : Nat → Nat, ro2 = fun c => if c = j then 13 else ro c := ⟨_, rfl⟩
    have r2j : ro2 j = 13 := by rw [hro2]; exact if_pos rfl
    have r2n : ∀ c, ¬ c = j → ro2 c = ro c := fun c hc => by rw [hro2]; exact if_neg hc
    have f2j : put1 fx j q j = q := if_pos rfl
    have f2n : ∀ c, ¬ c = j → put1 fx j q c = fx c := fun c hc => if_neg hc
    refine h ro2 (put1 fx j q) g15 g8 ⟨fun c k2 x2 hc e1 e2 e3 e4 => ?_, fun c q2 hc e1 => ?_, fun c hc => ?_, fun c hc => ?_, fun c => ?_⟩ ?_ (by rw [h15, fup_self, h14]) (fun Y hY => ⟨by rw [h15, fup_ne _ _ hY], by rw [hg8, fup_ne _ _ hY]⟩)
    · by_cases z : c = j
      · subst z
        rw [hje] at e1
        cases e1
      · rw [r2n c z]
        exact o1 c k2 x2 (by omega) e1 e2 e3 e4
    · by_cases z : c = j
      · subst z
        rw [hje] at e1
        obtain rfl := Sum.inr.inj (Option.some.inj e1)
        exact ⟨r2j, f2j⟩
      · rw [r2n c z, f2n c z]
        exact o2 c q2 (by omega) e1
    · by_cases z : c = j
      · subst z
        rcases hc with hc | ⟨x2, e1, -⟩
        · omega
        · rw [hje] at e1
          cases e1
      · rw [r2n c z]
        refine o3 c ?_
        rcases hc with hc | hc
        · exact Or.inl (by omega)
        · exact Or.inr hc
    · by_cases z : c = j
      · subst z
        rcases hc with hc | ⟨x2, e1⟩
        · omega
        · rw [hje] at e1
          cases e1
      · rw [f2n c z]
        refine o4 c ?_
        rcases hc with hc | hc
        · exact Or.inl (by omega)
        · exact Or.inr hc
    · by_cases z : c = j
      · subst z
        rw [f2j]
        exact hq
      · rw [f2n c z]
        exact o5 c
    · intro c hc
      rw [hg8, fup_self]
      by_cases z : c = j
      · subst z
        rw [upd_same, r2j]
        rfl
      · rw [upd_ne z, r2n c z]
        exact g2 c hc
/-- the number of the index -/
theorem sp_setIndex {post : ((Nat → Int32) × (Nat → Int32)) → Prop} {s p n : Nat} {ro : Nat → Nat} {SS SP SO SH : Nat → Int32} {SR : Nat → Nat → Int32} (hX : X0 < 12) (hs : s ≤ 6) (hn : n ≤ 6) (hp : p < 64) (h16 : ∀ c, c < 6 → ro c < 16) (g1 : SS X0 = nI s) (g2 : SP X0 = nI p) (g3 : rN ro (SR X0)) (h : ∀ (o : Nat) SO2 SH2, o ≤ 1 → (o = 1 ↔ (0 < s ∨ ∃ c, c < n ∧ ro c = 6)) → SO2 X0 = nI o → SH2 X0 = nI (shN p o ro) → (∀ Y, ¬ Y = X0 → SO2 Y = SO Y ∧ SH2 Y = SH Y) → post (SO2, SH2)) : wp_met_St_setIndex post (nI n) SS SP SO SH SR X0 := by
  refine ⟨hX, fun y1 h1 y2 h2 g3' hg3 => ?_⟩
  rw [g1] at h1
  subst h1
  have e2 : y2 = nI (if 0 < s then 1 else 0) := by
    rw [h2]
    by_cases z : 0 < s
    · rw [if_pos z, if_neg (fun w => by have := (nI_leI (a := s) (b := 0) (by omega) (by omega)).mp w; omega)]
      rfl
    · rw [if_neg z, if_pos (show nI s ≤ 0 from (nI_leI (a := s) (b := 0) (by omega) (by omega)).mpr (by omega))]
      rfl
  have a0 := h16 0 (by omega)
  have a1 := h16 1 (by omega)
  have a2 := h16 2 (by omega)
  have a3 := h16 3 (by omega)
  have a4 := h16 4 (by omega)
  have a5 := h16 5 (by omega)
  have shl4 : ∀ (x c : Nat), x < 134217728 → c < 6 → ∀ y25 : Int32, y25 = nI x <<< ((4 : Int32) &&& 31) → ∀ y28 : Int32, y28 = y25 ||| nI (ro c) → y28 = nI (x * 16 + ro c) := by
    intro x c hx hc y25 h25 y28 h28
    rw [pk_shlN _ 4 (by decide) (by omega)] at h25
    rw [h28, h25, nI_or]
    congr 1
    have := or_add (s := 4) (q := x) (b := ro c) (h16 c hc)
    rw [Nat.mul_comm x]
    exact this
  have last : ∀ (o : Nat) (SO2 : Nat → Int32), o ≤ 1 → (o = 1 ↔ (0 < s ∨ ∃ c, c < n ∧ ro c = 6)) → SO2 X0 = nI o → (∀ Y, ¬ Y = X0 → SO2 Y = SO Y) → jw_met_St_setIndex_54 post SP X0 SO2 SH SR () := by
    intro o SO2 o1 o2 o3 o4 y15 h15 y16 h16' y17 h17 y18 h18 y19 h19 g20 h20
    rw [g2] at h15
    subst h15
    rw [pk_shlN _ 1 (by decide) (by omega)] at h16'
    rw [o3] at h17
    subst h17
    have e18 : y18 = nI o := by
      rw [h18]
      rcases Nat.lt_or_ge o 1 with z | z
      · obtain rfl : o = 0 := by omega
        rfl
      · obtain rfl : o = 1 := by omega
        rfl
    have e19 : y19 = nI (p * 2 + o) := by
      rw [h19, h16', e18, nI_or]
      congr 1
      have := or_add (s := 1) (q := p) (b := o) (by omega)
      rw [Nat.mul_comm p]
      exact this
    have hl : ∀ (g : Nat → Int32), g X0 = nI (p * 2 + o) → (∀ Y, ¬ Y = X0 → g Y = SH Y) → ∃ n9, lw_met_St_setIndex_79 post SO2 X0 SR n9 (0, g) := by
      intro g hg hgn
      have st1 : ∀ (m c x : Nat) (g : Nat → Int32), c < 6 → x < 134217728 → g X0 = nI x → (∀ Y, ¬ Y = X0 → g Y = SH Y) → (∀ g2 : Nat → Int32, g2 X0 = nI (x * 16 + ro c) → (∀ Y, ¬ Y = X0 → g2 Y = SH Y) → lw_met_St_setIndex_79 post SO2 X0 SR m (nI (c + 1), g2)) → lw_met_St_setIndex_79 post SO2 X0 SR (m + 1) (nI c, g) := by
        intro m c x g hc hx hg hgn hk
        refine pk_le 6 c (fun z => absurd z (by omega)) (fun _ => ?_)
        intro y24 h24 y25 h25
        rw [hg] at h24
        subst h24
        refine ⟨vp_in_nI hc (by omega), fun y27 h27 y28 h28 g29 h29 => ?_⟩
        rw [nI_clamp (by omega), g3 c hc] at h27
        subst h27
        have e28 := shl4 x c hx hc y25 h25 y28 h28
        rw [nI_1]
        exact hk g29 (by rw [h29, fup_self, e28]) (fun Y hY => by rw [h29, fup_ne _ _ hY]; exact hgn Y hY)
      refine ⟨7, ?_⟩
      refine st1 6 0 _ g (by omega) (by omega) hg hgn (fun g hg hgn => ?_)
      refine st1 5 1 _ g (by omega) (by omega) hg hgn (fun g hg hgn => ?_)
      refine st1 4 2 _ g (by omega) (by omega) hg hgn (fun g hg hgn => ?_)
      refine st1 3 3 _ g (by omega) (by omega) hg hgn (fun g hg hgn => ?_)
      refine st1 2 4 _ g (by omega) (by omega) hg hgn (fun g hg hgn => ?_)
      refine st1 1 5 _ g (by omega) (by omega) hg hgn (fun g hg hgn => ?_)
      refine pk_le 6 6 (fun _ => ?_) (fun z => absurd z (by omega))
      refine h o SO2 g o1 o2 o3 ?_ (fun Y hY => ⟨o4 Y hY, hgn Y hY⟩)
      rw [hg]
      congr 1
      unfold shN
      omega
    exact hl g20 (by rw [h20, fup_self, e19]) (fun Y hY => by rw [h20, fup_ne _ _ hY])
  have go : ∀ m c, c + m = n → ∀ (o : Nat) (SO2 : Nat → Int32), o ≤ 1 → (o = 1 ↔ (0 < s ∨ ∃ c2, c2 < c ∧ ro c2 = 6)) → SO2 X0 = nI o → (∀ Y, ¬ Y = X0 → SO2 Y = SO Y) → lw_met_St_setIndex_18 post (nI n) X0 SR SP SH (m + 1) (nI c, SO2) := by
    intro m
    induction m with
    | zero =>
      intro c hc o SO2 o1 o2 o3 o4
      obtain rfl : c = n := by omega
      exact pk_le c c (fun _ => last o SO2 o1 o2 o3 o4) (fun z => absurd z (by omega))
    | succ m ih =>
      intro c hc o SO2 o1 o2 o3 o4
      refine pk_le n c (fun z => absurd z (by omega)) (fun _ => ?_)
      intro y8 h8
      rw [o3] at h8
      subst h8
      refine ⟨vp_in_nI (by omega) (by omega), fun y10 h10 y11 h11 y12 h12 => ?_⟩
      rw [nI_clamp (by omega), g3 c (by omega)] at h10
      subst h10
      have hr := h16 c (by omega)
      have e11 : y11 = nI (if ro c = 6 then 1 else 0) := by
        rw [h11]
        by_cases z : ro c = 6
        · rw [if_pos z, z, if_pos (show nI 6 = 6 from rfl)]
          rfl
        · rw [if_neg z, if_neg (show ¬ nI (ro c) = 6 from fun w => z ((nI_eq (b := 6) (by omega) (by omega)).mp w))]
          rfl
      obtain ⟨o2', ho2', hoo⟩ : ∃ o2' : Nat, y12 = nI o2' ∧ o2' ≤ 1 ∧ (o2' = 1 ↔ (o = 1 ∨ ro c = 6)) := by
        rw [h12, e11]
        by_cases z : ro c = 6
        · rw [if_pos z]
          refine ⟨1, ?_, by omega, by simp [z]⟩
          rcases Nat.lt_or_ge o 1 with w | w
          · obtain rfl : o = 0 := by omega
            rfl
          · obtain rfl : o = 1 := by omega
            rfl
        · rw [if_neg z]
          refine ⟨o, ?_, o1, by simp [z]⟩
          rcases Nat.lt_or_ge o 1 with w | w
          · obtain rfl : o = 0 := by omega
            rfl
          · obtain rfl : o = 1 := by omega
            rfl
      refine ⟨?_, fun g14 h14 => ?_⟩
      · rw [ho2']
        rcases Nat.lt_or_ge o2' 1 with w | w
        · obtain rfl : o2' = 0 := by omega
          exact Or.inl rfl
        · obtain rfl : o2' = 1 := by omega
          exact Or.inr rfl
      · rw [nI_1]
        refine ih (c + 1) (by omega) o2' g14 hoo.1 ?_ (by rw [h14, fup_self, ho2']) (fun Y hY => by rw [h14, fup_ne _ _ hY]; exact o4 Y hY)
        rw [hoo.2, o2]
        constructor
        · rintro ((q | ⟨c2, q1, q2⟩) | q)
          · exact Or.inl q
          · exact Or.inr ⟨c2, by omega, q2⟩
          · exact Or.inr ⟨c, by omega, q⟩
        · rintro (q | ⟨c2, q1, q2⟩)
          · exact Or.inl (Or.inl q)
          · by_cases z : c2 = c
            · subst z
              exact Or.inr q2
            · exact Or.inl (Or.inr ⟨c2, by omega, q2⟩)
  refine ⟨_, go n 0 (by omega) (if 0 < s then 1 else 0) g3' ?_ ?_ (by rw [hg3, fup_self, e2]) (fun Y hY => by rw [hg3, fup_ne _ _ hY])⟩
  · split <;> omega
  · constructor
    · intro z
      by_cases w : 0 < s
      · exact Or.inl w
      · rw [if_neg w] at z
        omega
    · rintro (z | ⟨c2, z, -⟩)
      · exact if_pos z
      · omega
end CS2
