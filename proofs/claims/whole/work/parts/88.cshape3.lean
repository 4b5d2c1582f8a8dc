/-! pure: a step's shape, whole; what a scan takes and gives -/
theorem sp_Ar_fill_F {post : (Nat → Nat → Int32) → Prop} {x : Int32} {fa : Nat → Nat → Int32} {X0 : Nat} (hX : X0 < 12) (h : ∀ g, (∀ j, j < 6 → g X0 j = x) → (∀ Y, ¬ Y = X0 → g Y = fa Y) → post g) : wp_met_Ar_fill_F post x fa X0 := by
  have go : ∀ d i, i + d = 6 → ∀ g : Nat → Nat → Int32, (∀ j, j < i → g X0 j = x) → (∀ Y, ¬ Y = X0 → g Y = fa Y) → lw_met_Ar_fill_F_5 post X0 x (d + 1) (nI i, g) := by
    intro d
    induction d with
    | zero =>
      intro i hi g hg hn
      exact pk_le 6 i (fun _ => h g (fun j hj => hg j (by omega)) hn) (fun z => absurd z (by omega))
    | succ d ih =>
      intro i hi g hg hn
      refine pk_le 6 i (fun z => absurd z (by omega)) (fun _ => ?_)
      refine ⟨vp_in_nI (by omega) (by omega), fun g5 h5 => ?_⟩
      rw [nI_clamp (by omega)] at h5
      subst h5
      rw [nI_1]
      refine ih (i + 1) (by omega) _ (fun j hj => ?_) (fun Y hY => ?_)
      · rw [fup_self]
        rcases Nat.lt_or_ge j i with z | z
        · rw [upd_ne (by omega)]
          exact hg j z
        · obtain rfl : j = i := by omega
          exact upd_same
      · rw [fup_ne _ _ hY]
        exact hn Y hY
  exact ⟨hX, _, go 6 0 (by omega) fa (fun j hj => absurd hj (by omega)) (fun _ _ => rfl)⟩
section CS3
variable {ar : Nat → Nat} {rm i X0 p : Nat} {b : BL} {K P Z M T : Nat → Int32} {SL SB SV SM SG SS SW SP SO SH : Nat → Int32} {SF : Nat → Int64} {SR SX : Nat → Nat → Int32} {B Lv : Nat → Prop}
theorem ShQ_of {as : List (Nat ⊕ Nat)} {s w : Nat} {ro1 va1 ro2 va2 ro fx va0 : Nat → Nat} (h1 : GpQ as B 0 (fun _ => 6) va0 as.length s ro1 va1) (h2 : GpQ as (fun x => Lv x ∧ ¬ B x) s ro1 va1 as.length w ro2 va2) (hw : w ≤ 6) (h3 : OtQ as ro2 as.length ro fx) : ShQ as B Lv s w ro va2 fx := by
  obtain ⟨a1, a2, a3, a4, a5⟩ := h1
  obtain ⟨b1, b2, b3, b4, b5⟩ := h2
  obtain ⟨o1, o2, o3, o4, o5⟩ := h3
  have inl : ∀ c (x : Nat ⊕ Nat), as[c]? = some x → c < as.length := fun c x e => (List.getElem?_eq_some_iff.mp e).1
  refine ⟨⟨b1, hw⟩, fun c x e1 e2 e3 => ?_, fun c x e1 e2 e3 e4 => ?_, fun c x e1 e2 e3 e4 => ?_, fun c k x e1 e2 e3 e4 => o1 c k x (inl c _ e1) e1 e2 e3 e4, fun c q e1 => o2 c q (inl c _ e1) e1, fun c hc => ?_, fun q hq => ?_, fun c x e1 => o4 c (Or.inr ⟨x, e1⟩)⟩
  · obtain ⟨-, l2, l3⟩ := a2 c x (inl c _ e1) e1 e2 e3
    have r2 : ro2 c = ro1 c := b3 c (by
      rintro ⟨-, x2, f1, -, f3⟩
      rw [e1] at f1
      obtain rfl := Sum.inl.inj (Option.some.inj f1)
      exact f3.2 e3)
    have r3 : ro c = ro1 c := (o3 c (Or.inr ⟨x, e1, e2⟩)).trans r2
    rw [r3]
    exact ⟨l2, by rw [b5 _ l2]; exact l3⟩
  · obtain ⟨l1, l2, l3⟩ := b2 c x (inl c _ e1) e1 e2 ⟨e4, e3⟩
    rw [o3 c (Or.inr ⟨x, e1, e2⟩)]
    exact ⟨l1, l2, l3⟩
  · have no1 : ro1 c = 6 := a3 c (by
      rintro ⟨-, x2, f1, -, f3⟩
      rw [e1] at f1
      obtain rfl := Sum.inl.inj (Option.some.inj f1)
      exact e3 f3)
    have no2 : ro2 c = ro1 c := b3 c (by
      rintro ⟨-, x2, f1, -, f3⟩
      rw [e1] at f1
      obtain rfl := Sum.inl.inj (Option.some.inj f1)
      exact e4 f3.1)
    rw [o3 c (Or.inr ⟨x, e1, e2⟩), no2, no1]
  · have n1 : as[c]? = none := List.getElem?_eq_none hc
    refine ⟨?_, o4 c (Or.inl hc)⟩
    rw [o3 c (Or.inl hc), b3 c (by rintro ⟨z, -⟩; omega), a3 c (by rintro ⟨z, -⟩; omega)]
  · rcases Nat.lt_or_ge q s with z | z
    · obtain ⟨c, x, c1, c2, c3, c4, c5, c6⟩ := a4 q (Nat.zero_le _) z
      have r2 : ro2 c = ro1 c := b3 c (by
        rintro ⟨-, x2, f1, -, f3⟩
        rw [c2] at f1
        obtain rfl := Sum.inl.inj (Option.some.inj f1)
        exact f3.2 c4)
      exact ⟨c, x, c2, c3, by rw [o3 c (Or.inr ⟨x, c2, c3⟩), r2]; exact c5, by rw [b5 q z]; exact c6⟩
    · obtain ⟨c, x, c1, c2, c3, c4, c5, c6⟩ := b4 q z hq
      exact ⟨c, x, c2, c3, by rw [o3 c (Or.inr ⟨x, c2, c3⟩)]; exact c5, c6⟩
theorem ShQ_16 {as : List (Nat ⊕ Nat)} {s w : Nat} {ro va fx : Nat → Nat} (hl : as.length ≤ 6) (h : ShQ as B Lv s w ro va fx) : ∀ c, ro c ≤ 13 := by
  obtain ⟨a1, a2, a3, a4, a5, a6, a7, a8, a9⟩ := h
  intro c
  rcases Nat.lt_or_ge c as.length with z | z
  · have he := List.getElem?_eq_getElem z
    generalize as[c] = a at he
    cases a with
    | inr q =>
      have := (a6 c q he).1
      omega
    | inl x =>
      obtain ⟨k, k1, k2, k3⟩ := first_ex c he
      rcases Nat.lt_or_ge k c with w2 | w2
      · have := a5 c k x he k2 w2 k3
        omega
      · obtain rfl : k = c := by omega
        by_cases hb : B x
        · have := (a2 k x he k3 hb).1
          omega
        · by_cases hl2 : Lv x
          · have := (a3 k x he k3 hb hl2).2.1
            omega
          · have := a4 k x he k3 hb hl2
            omega
  · have := (a7 c z).1
    omega
theorem sp_setShape {post : ((Nat → Int32) × (Nat → Int32) × (Nat → Int32) × (Nat → Int32) × (Nat → Int32) × (Nat → Int32) × (Nat → Int32) × (Nat → Int64) × (Nat → Nat → Int32) × (Nat → Nat → Int32)) → Prop} (hX : X0 < 12) (hrm : rm < 100000) (hQ : BQ rm b i K P Z M T) (hok : blOk ar b) (hA : b.1 = 0) (hp : b.2.1 = some p) (hS : SL X0 = nI i) (hB : MK B (SB X0)) (hL : MK Lv (SV X0))
    (h : ∀ s w ro va fx (o : Nat) SM2 SG2 SS2 SW2 SP2 SO2 SH2 SF2 SR2 SX2, ShQ b.2.2 B Lv s w ro va fx → o ≤ 1 → (o = 1 ↔ OrQ b.2.2 s ro) → (∀ c, fx c < 1000) → MK (fun x => occB b x ∧ B x) (SM2 X0) → MK (fun x => (occB b x ∧ Lv x) ∧ ¬ B x) (SG2 X0) → SS2 X0 = nI s → SW2 X0 = nI w → SP2 X0 = nI p → SO2 X0 = nI o → SH2 X0 = nI (shN p o ro) → SF2 X0 = lN (kN fx) → rN ro (SR2 X0) → (∀ q, q < w → SX2 X0 q = nI (va q)) → (∀ Y, ¬ Y = X0 → SM2 Y = SM Y ∧ SG2 Y = SG Y ∧ SS2 Y = SS Y ∧ SW2 Y = SW Y ∧ SP2 Y = SP Y ∧ SO2 Y = SO Y ∧ SH2 Y = SH Y ∧ SF2 Y = SF Y ∧ SR2 Y = SR Y ∧ SX2 Y = SX Y) → post (SM2, SG2, SS2, SW2, SP2, SO2, SH2, SF2, SR2, SX2)) : wp_met_St_setShape post rm rm rm (6 * rm) P Z M T SL SB SV SM SG SS SW SP SO SH SF SR SX X0 := by
  have hi := hQ.1
  have h6 := hok.2.1
  have ci : (nI i).toNatClampNeg = i := nI_clamp (by omega)
  have vi : vp_in (nI i) rm := vp_in_nI hi (by omega)
  have hA1 : b.1 = 0 ∨ b.1 = 1 := Or.inl hA
  have hp64 := ((hok.2.2.2.1 hA1).2 p hp).1
  refine ⟨hX, fun y1 h1 => ?_⟩
  rw [hS] at h1
  subst h1
  refine ⟨vi, fun y3 h3 y4 h4 => ?_⟩
  rw [ci, hQ.2.2.2.1] at h3
  rw [hS] at h4
  subst h3 h4
  refine ⟨vi, fun y6 hy6 g7 h7 => ?_⟩
  rw [ci, hQ.2.2.1 hA1, hp] at hy6
  subst hy6
  refine sp_Ar_fill_F hX (fun o8 f1 f2 g10 h10 g11 h11 y12 h12 => ?_)
  subst h12
  refine sp_givePositions (Wt := B) (w0 := 0) (ro0 := fun _ => 6) (va0 := fun _ => 0) hX hrm hQ hok hA1 hS hB (by rw [h10, fup_self]; rfl) rfl (fun c hc => f1 c hc) (fun q hq => absurd hq (by omega)) (fun _ _ _ _ _ => rfl) (fun s ro1 va1 o13 o14 o15 p1 p2 p3 p4 p5 p6 p7 => ?_)
  intro y17 h17 g18 h18 y19 h19
  rw [p4] at h17
  rw [hS] at h19
  subst h17 h19
  refine ⟨vi, fun y21 h21 y22 h22 y23 h23 g24 h24 y25 h25 y26 h26 y27 h27 y28 h28 => ?_⟩
  rw [ci] at h21
  subst h21 h22 h23 h25 h26 h27 h28
  have mk2 := MK_andn hL hB
  refine sp_givePositions (Wt := fun x => Lv x ∧ ¬ B x) (w0 := s) (ro0 := ro1) (va0 := va1) hX hrm hQ hok hA1 hS mk2 p4 p2 p5 p6 (fun c x e1 e2 e3 => ?_) (fun w ro2 va2 o29 o30 o31 r1 r2 r3 r4 r5 r6 r7 => ?_)
  · refine p1.2.2.1 c ?_
    rintro ⟨-, x2, f1', -, f3⟩
    rw [e1] at f1'
    obtain rfl := Sum.inl.inj (Option.some.inj f1')
    exact e3.2 f3
  intro y33 h33
  rw [hS] at h33
  subst h33
  refine ⟨vi, fun y35 h35 y36 h36 y37 h37 y38 h38 y39 h39 y40 h40 g41 h41 => ?_⟩
  rw [ci] at h35
  subst h35 h36 h37 h38 h39 h40
  have mkM := hQ.2.2.2.2.1
  have go : ∀ m j, j + m = b.2.2.length → ∀ ro fx (SF2 : Nat → Int64) (SR2 : Nat → Nat → Int32), OtQ b.2.2 ro2 j ro fx → rN ro (SR2 X0) → SF2 X0 = lN (kN fx) → (∀ Y, ¬ Y = X0 → SF2 Y = SF Y ∧ SR2 Y = SR Y) → lw_met_St_setShape_122 post (nI b.2.2.length) rm (6 * rm) Z T SL X0 g24 g41 g18 o29 g7 o31 SO SH (m + 1) (nI j, SF2, SR2) := by
    intro m
    induction m with
    | zero =>
      intro j hj ro fx SF2 SR2 q1 q2 q3 q4
      obtain rfl : j = b.2.2.length := by omega
      refine pk_le b.2.2.length b.2.2.length (fun _ => ?_) (fun z => absurd z (by omega))
      have hSh := ShQ_of p1 r1 r3 q1
      have h13 := ShQ_16 h6 hSh
      refine sp_setIndex (s := s) (p := p) (n := b.2.2.length) (ro := ro) hX p3 h6 hp64 (fun c _ => by have := h13 c; omega) (by rw [h18, fup_self]) (by rw [h7, fup_self]; rfl) q2 (fun o SO2 SH2 t1 t2 t3 t4 t5 => ?_)
      refine h s w ro va2 fx o g24 g41 g18 o29 g7 SO2 SH2 SF2 SR2 o31 hSh t1 t2 q1.2.2.2.2 (by rw [h24, fup_self]; exact MK_and mkM hB) (by rw [h41, fup_self]; exact MK_andn (MK_and mkM hL) hB) (by rw [h18, fup_self]) r4 (by rw [h7, fup_self]; rfl) t3 t4 q3 q2 r6 (fun Y hY => ?_)
      obtain ⟨u1, u2⟩ := q4 Y hY
      obtain ⟨w1, w2, w3⟩ := r7 Y hY
      obtain ⟨x1, x2, x3⟩ := p7 Y hY
      obtain ⟨t6, t7⟩ := t5 Y hY
      refine ⟨by rw [h24, fup_ne _ _ hY], by rw [h41, fup_ne _ _ hY], by rw [h18, fup_ne _ _ hY], ?_, by rw [h7, fup_ne _ _ hY], t6, t7, u1, u2, w3.trans x3⟩
      rw [w1, x1, h10, fup_ne _ _ hY]
    | succ m ih =>
      intro j hj ro fx SF2 SR2 q1 q2 q3 q4
      refine pk_le b.2.2.length j (fun z => absurd z (by omega)) (fun _ => ?_)
      refine sp_otherRoles (SF0 := SF) (SR0 := SR) (J := fun _ => True) hX hrm hQ hok hA1 hS (by omega) q1 q2 q3 (fun ro3 fx3 SF3 SR3 s1 s2 s3 s4 => ?_)
      rw [nI_1]
      refine ih (j + 1) (by omega) ro3 fx3 SF3 SR3 s1 s2 s3 (fun Y hY => ?_)
      obtain ⟨u1, u2⟩ := s4 Y hY
      obtain ⟨v1, v2⟩ := q4 Y hY
      exact ⟨u1.trans v1, u2.trans v2⟩
  refine ⟨_, go b.2.2.length 0 (by omega) ro2 (fun _ => 0) g11 o30 ⟨fun c k x hc => absurd hc (by omega), fun c q hc => absurd hc (by omega), fun c _ => rfl, fun c _ => rfl, fun c => (show 0 < 1000 by omega)⟩ r5 (by rw [h11, fup_self, kN_0]; rfl) (fun Y hY => ?_)⟩
  obtain ⟨w1, w2, w3⟩ := r7 Y hY
  obtain ⟨x1, x2, x3⟩ := p7 Y hY
  exact ⟨by rw [h11, fup_ne _ _ hY], by rw [w2, x2, f2 Y hY]⟩
end CS3
