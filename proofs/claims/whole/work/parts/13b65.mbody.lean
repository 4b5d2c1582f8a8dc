/-! pure: the model's body -/
def sf (md : Nat) : Nat := if md = 0 then 0 else 1
/-- the literals of a clause as the model holds them -/
def CR (md : Nat) (ps : List Wd) (mc : List Con) (o set cl : Nat) (A : A7) (ls : List Lt) : Prop := ∀ (j : Nat) (lt : Lt), ls[j]? = some lt → lt.2.2.2.2.length ≤ 6 ∧ LR md ps mc o ((257 * set + cl) * 13 + (j + sf md)) (13 * cl + (j + sf md)) A lt
/-- arrays that differ at most in one clause -/
def OfC (set cl : Nat) (A B : A7) : Prop := (∀ j, ¬ ((257 * set + cl) * 13 ≤ j ∧ j < (257 * set + cl) * 13 + 13) → A.1 j = B.1 j ∧ A.2.1 j = B.2.1 j) ∧ (∀ j, ¬ ((257 * set + cl) * 13 * 6 ≤ j ∧ j < ((257 * set + cl) * 13 + 13) * 6) → A.2.2.1 j = B.2.2.1 j) ∧ (∀ j, ¬ (13 * cl ≤ j ∧ j < 13 * cl + 13) → A.2.2.2.1 j = B.2.2.2.1 j ∧ A.2.2.2.2.1 j = B.2.2.2.2.1 j ∧ A.2.2.2.2.2.2 j = B.2.2.2.2.2.2 j) ∧ (∀ j, ¬ (13 * cl * 6 ≤ j ∧ j < (13 * cl + 13) * 6) → A.2.2.2.2.2.1 j = B.2.2.2.2.2.1 j)
theorem OfC_refl {set cl : Nat} {A : A7} : OfC set cl A A := ⟨fun _ _ => ⟨rfl, rfl⟩, fun _ _ => rfl, fun _ _ => ⟨rfl, rfl, rfl⟩, fun _ _ => rfl⟩
theorem OfC_off {set cl k : Nat} {A B C : A7} (hk : k < 13) (h1 : OfC set cl B C) (h2 : Off ((257 * set + cl) * 13 + k) (13 * cl + k) A B) : OfC set cl A C := by
  obtain ⟨a1, a2, a3, a4⟩ := h1
  obtain ⟨b1, b2, b3, b4, b5, b6, b7⟩ := h2
  refine ⟨fun j hj => ?_, fun j hj => ?_, fun j hj => ?_, fun j hj => ?_⟩
  · obtain ⟨x1, x2⟩ := a1 j hj
    exact ⟨(b1 j (by omega)).trans x1, (b2 j (by omega)).trans x2⟩
  · exact (b3 j (by omega)).trans (a2 j hj)
  · obtain ⟨x1, x2, x3⟩ := a3 j hj
    exact ⟨(b4 j (by omega)).trans x1, (b5 j (by omega)).trans x2, (b7 j (by omega)).trans x3⟩
  · exact (b6 j (by omega)).trans (a4 j hj)
theorem CR_push {md : Nat} {ps ps2 : List Wd} {mc mc2 : List Con} {o set cl : Nat} {A B : A7} {ls : List Lt} {lt : Lt} (hp : Pre ps ps2) (hpm : ¬ md = 0 → ps2 = ps) (hm : Pre mc mc2) (hl : lt.2.2.2.2.length ≤ 6) (hO : Off ((257 * set + cl) * 13 + (ls.length + sf md)) (13 * cl + (ls.length + sf md)) B A) (hn : LR md ps2 mc2 o ((257 * set + cl) * 13 + (ls.length + sf md)) (13 * cl + (ls.length + sf md)) B lt) (h : CR md ps mc o set cl A ls) : CR md ps2 mc2 o set cl B (ls ++ [lt]) := by
  intro j lt2 hj
  rcases Nat.lt_or_ge j ls.length with g | g
  · rw [List.getElem?_append_left g] at hj
    obtain ⟨h1, h2⟩ := h j lt2 hj
    exact ⟨h1, LR_off hp hpm hm h1 (by omega) (by omega) hO h2⟩
  · have h2 := (List.getElem?_eq_some_iff.mp hj).1
    rw [List.length_append, List.length_singleton] at h2
    obtain rfl : j = ls.length := by omega
    rw [List.getElem?_append_right (Nat.le_refl _), Nat.sub_self] at hj
    obtain rfl : lt = lt2 := by simpa using hj
    exact ⟨hl, hn⟩
abbrev U23 : Type := Int32 × Int32 × Int32 × Int64 × Int32 × Int32 × (Nat → Int32) × (Nat → Int32) × (Nat → Int32) × (Nat → Int32) × (Nat → Int32) × (Nat → Int32) × (Nat → Int32) × (Nat → Int32) × (Nat → Int32) × (Nat → Int32) × (Nat → Int32) × (Nat → Int32) × (Nat → Int32) × (Nat → Int32) × (Nat → Int32) × (Nat → Int32) × (Nat → Int32)
def g23 (u : U23) : G11 := (u.2.2.2.2.2.2.1, u.2.2.2.2.2.2.2.1, u.2.2.2.2.2.2.2.2.1, u.2.2.2.2.2.2.2.2.2.1, u.2.2.2.2.2.2.2.2.2.2.1, u.2.2.2.2.2.2.2.2.2.2.2.1, u.2.2.2.2.2.2.2.2.2.2.2.2.1, u.2.2.2.2.2.2.2.2.2.2.2.2.2.1, u.2.2.2.2.2.2.2.2.2.2.2.2.2.2.1, u.2.2.2.2.2.2.2.2.2.2.2.2.2.2.2.1, u.2.2.2.2.2.2.2.2.2.2.2.2.2.2.2.2.1)
theorem Fr_lo {md set c0 lo lo2 : Nat} {X Y : G11} (h : Fr md set c0 lo2 X Y) (hl : lo ≤ lo2) : Fr md set c0 lo X Y := by
  obtain ⟨a1, a2, a3, a4, a5, a6⟩ := h
  exact ⟨a1, a2, Fc_trans Fc_refl a3 hl, a4, a5, a6⟩
section MBody
variable {post : Int32 → (Int32 × Int32 × U23) → Prop} {n o set cl md c0 lo p0 : Nat} {am : Int64} {F LC : Nat → Int32} {X0 : G11} {A0 : A7} {D1 : List (List Lt)} {cn mc0 : List Con} {ps0 : List Wd} {St : ((Nat × Nat) ⊕ Dt) → Prop} {tk fr to : Int32}
/-- what the model leaves behind a body -/
def BoQ (post : Int32 → (Int32 × Int32 × U23) → Prop) (md n o set cl c0 lo : Nat) (F LC : Nat → Int32) (X0 : G11) (A0 : A7) (D1 : List (List Lt)) (cn : List Con) (ps0 : List Wd) (mc0 : List Con) (St : ((Nat × Nat) ⊕ Dt) → Prop) : Prop :=
  ∀ ls lt vs ps mc p tk fr to am PF PL PA PS CN CV CF LK LP LT LQ NQ TP LA VF VL, p ≤ n → Cur (shf F o) n o p tk fr to am → ¬ (TK (shf F o) n p).1 = 8 → MG md set F mc vs CN CV CF VF VL → PR set ps PF PL PS F → PN md set ps PA → CR md ps mc o set cl (LK, LP, LT, LQ, NQ, TP, LA) ls → OfC set cl (LK, LP, LT, LQ, NQ, TP, LA) A0 → Pre ps0 ps → (¬ md = 0 → ps = ps0) → Pre mc0 mc → mc.length ≤ mc0.length + 72 → 2 ≤ ls.length + sf md → ls.length + sf md ≤ 13 → Fr md set c0 lo (PF, PL, PA, PS, CN, CV, CF, upd LC (257 * set + cl) (nI (ls.length + sf md)), LK, LP, LT) X0 →
    (∀ r, Ends md (shf F o) n (10, 0, 0) (D1, ls, lt, vs, ps, if md = 0 then mc else cn) p r → St r) →
    post 1 (0, 0, tk, fr, to, am, nI mc.length, nI vs.length, PF, PL, PA, PS, CN, CV, CF, upd LC (257 * set + cl) (nI (ls.length + sf md)), LK, LP, LT, LQ, NQ, TP, LA, VF, VL)
theorem body_lp (hs : o + n ≤ 196608) (hB : TxOk md set o n F) (hset : set < 2) (hcl : cl < 257) (hc0 : c0 ≤ cl) (hlo : lo ≤ mc0.length) (hmd : md = 0 ∨ md = 1) (hmc0 : mc0.length ≤ 1000) (hQ : BoQ post md n o set cl c0 lo F LC X0 A0 D1 cn ps0 mc0 St)
    (hF : ∀ (c q : Nat) (u : U23), Fr md set c0 lo (g23 u) X0 → St (.inl (c, q)) → post 0 (nI c, nI q, u)) : ∀ m k : Nat, k + m = 13 → 1 ≤ k → ∀ ls lt vs ps mc p tk fr to am PF PL PA PS CN CV CF LK LP LT LQ NQ TP LA VF VL, ls.length + sf md = k → p ≤ n → Cur (shf F o) n o p tk fr to am → MG md set F mc vs CN CV CF VF VL → PR set ps PF PL PS F → PN md set ps PA → CR md ps mc o set cl (LK, LP, LT, LQ, NQ, TP, LA) ls → OfC set cl (LK, LP, LT, LQ, NQ, TP, LA) A0 → Pre ps0 ps → (¬ md = 0 → ps = ps0) → Pre mc0 mc → mc.length + 6 ≤ mc0.length + 6 * k → Fr md set c0 lo (PF, PL, PA, PS, CN, CV, CF, LC, LK, LP, LT) X0 →
    (∀ r, Ends md (shf F o) n (6, 0, 0) (D1, ls, lt, vs, ps, if md = 0 then mc else cn) p r → St r) →
    lw_met_Mo_body_4 post LC (nI o) (nI (o + n)) F (nI set) (nI cl) (b01 (asksOf md)) (m + 2) (1, nI k, 0, 0, tk, fr, to, am, nI mc.length, nI vs.length, PF, PL, PA, PS, CN, CV, CF, LK, LP, LT, LQ, NQ, TP, LA, VF, VL) := by
  intro m
  induction m with
  | zero =>
    intro k hkm hk1 ls lt vs ps mc p tk fr to am PF PL PA PS CN CV CF LK LP LT LQ NQ TP LA VF VL hls hp hC hG hP hN hCR hOf q1 q2 q3 hml hfr hE
    obtain rfl : k = 13 := by omega
    obtain ⟨c1, c2, c3, c4, c5⟩ := hC
    subst c2 c3 c4
    have hpos := TK_pos (shf F o) n p hp
    have hlim : ls.length = 12 + (if md = 0 then 1 else 0) := by
      unfold sf at hls
      rcases hmd with z | z <;> subst z <;> simp at hls ⊢ <;> omega
    refine ⟨fun z => absurd z (by decide), fun _ => ?_⟩
    refine ⟨fun _ => ?_, fun z => absurd rfl z⟩
    have f3 : (isT (TK (shf F o) n p).1 = true ∨ (TK (shf F o) n p).1 = 5) → jw_met_Mo_body_34 post (mkd (TK (shf F o) n p).1) (nI (o + (TK (shf F o) n p).2.1)) (nI (o + (TK (shf F o) n p).2.2.1)) am (nI mc.length) (nI vs.length) PF PL PA PS CN CV CF LC LK LP LT LQ NQ TP LA VF VL (nI o) () := by
      intro hz
      unfold jw_met_Mo_body_34
      refine sp_Mo_flaw ?_
      rw [pk_sub (by omega), show o + (TK (shf F o) n p).2.1 - o = (TK (shf F o) n p).2.1 by omega]
      exact ⟨Or.inl rfl, hF 3 _ _ hfr (hE _ (Ends_flt (by rw [step_6, if_neg c1, if_neg (fun w => w hz), if_pos hlim])))⟩
    refine sp_Mo_isTerm c1 ?_
    refine b01_if (fun g => ?_) (fun g => f3 (Or.inl g))
    refine ⟨fun z => f3 (Or.inr ((mk4 _ _ _).mp z)), fun z => ?_⟩
    refine sp_Mo_cannot (by omega) ?_
    exact ⟨Or.inl rfl, hF 2 _ _ hfr (hE _ (Ends_flt (by rw [step_6, if_neg c1, if_pos (fun w => by
      rcases w with w | w
      · rw [g] at w; cases w
      · exact z ((mk4 _ _ _).mpr w))])))⟩
  | succ m ih =>
    intro k hkm hk1 ls lt vs ps mc p tk fr to am PF PL PA PS CN CV CF LK LP LT LQ NQ TP LA VF VL hls hp hC hG hP hN hCR hOf q1 q2 q3 hml hfr hE
    refine ⟨fun z => absurd z (by decide), fun _ => ?_⟩
    refine pk_eq k 13 (fun z => absurd z (by omega)) (fun _ => ?_)
    have hmcl : mc.length + 6 < 1100 := by omega
    refine sp_Mo_bodyLiteral (D := (D1, ls, lt, vs, ps, if md = 0 then mc else cn)) (md := md) (LC := LC) (St := St) (c0 := c0) (lo := lo) hs hB hset hcl hc0 (by have := pre_len q3; omega) (by omega) hk1 (by unfold sf at hls; exact hls) hmd hmcl hp hC hG hP hN rfl rfl (fun z => by simp [z]) hE ?_ ?_
    · intro lt2 mc2 vs2 ps2 p2 tk2 fr2 to2 am2 PF2 PL2 PA2 PS2 CN2 CV2 CF2 LK2 LP2 LT2 LQ2 NQ2 TP2 LA2 VF2 VL2 hlen hp2 hC2 hG2 hP2 hN2 hLR hOff r1 r2 r3 r4 hfr2 hE2
      have hCR2 : CR md ps2 mc2 o set cl (LK2, LP2, LT2, LQ2, NQ2, TP2, LA2) (ls ++ [lt2]) := CR_push r1 r2 r3 hlen (by rw [hls]; exact hOff) (by rw [hls]; exact hLR) hCR
      have hOf2 := OfC_off (show k < 13 by omega) hOf hOff
      have hfr3 := Fr_trans hfr hfr2
      have hE3 : ∀ r, Ends md (shf F o) n (10, 0, 0) (D1, ls ++ [lt2], lt2, vs2, ps2, if md = 0 then mc2 else cn) p2 r → St r := by
        intro r hr
        refine hE2 r ?_
        by_cases z : md = 0
        · simp only [z, if_true] at hr ⊢
          exact hr
        · simp only [z, if_false] at hr ⊢
          exact hr
      have hl2 : (ls ++ [lt2]).length + sf md = k + 1 := by
        rw [List.length_append, List.length_singleton]
        omega
      refine ⟨fun z => absurd z (by decide), fun _ => ?_⟩
      intro y54 h54
      have hC3 := hC2
      obtain ⟨c1, c2, c3, c4, c5⟩ := hC2
      subst c2 c3 c4
      have hpos2 := TK_pos (shf F o) n p2 hp2
      by_cases h8 : (TK (shf F o) n p2).1 = 8
      · rw [if_pos ((mk8 _ _ _).mpr h8)] at h54
        subst h54
        refine ⟨fun z => absurd z (by decide), fun _ => ?_⟩
        have hE6 : ∀ r, Ends md (shf F o) n (6, 0, 0) (D1, ls ++ [lt2], lt2, vs2, ps2, if md = 0 then mc2 else cn) (TK (shf F o) n p2).2.2.1 r → St r := fun r hr => hE3 r (Ends_go (by rw [step_10, if_neg c1, if_pos h8]) hr)
        refine sp_Mo_nextR hs hB.1 hpos2.2.2.1 (fun hbad tk3 fr3 to3 am3 => ?_) (fun tk3 fr3 to3 am3 hC4 => ?_)
        · exact ⟨fun _ => hF 1 _ _ hfr3 (hE6 _ (Ends_flt (by rw [step_6, if_pos hbad]))), fun z => absurd rfl z⟩
        refine ⟨fun z => absurd z (by decide), fun _ => ?_⟩
        rw [nI_1]
        exact ih (k + 1) (by omega) (by omega) (ls ++ [lt2]) lt2 vs2 ps2 mc2 _ _ _ _ _ _ _ _ _ _ _ _ _ _ _ _ _ _ _ _ _ hl2 hpos2.2.2.1 hC4 hG2 hP2 hN2 hCR2 hOf2 (Pre_trans q1 r1) (fun z => by rw [r2 z, q2 z]) (Pre_trans q3 r3) (by omega) hfr3 hE6
      · rw [if_neg (fun z => h8 ((mk8 _ _ _).mp z))] at h54
        subst h54
        refine ⟨fun _ => ?_, fun z => absurd rfl z⟩
        rw [nI_1]
        refine ⟨fun _ => ?_, fun z => absurd rfl z⟩
        intro y72 h72 y73 h73
        rw [show (257 : Int32) = nI 257 from rfl, pk_mul] at h72
        rw [h72, nI_add] at h73
        subst h73
        refine ⟨vp_in_nI (by omega) (by omega), fun g75 h75 => ?_⟩
        rw [nI_clamp (by omega)] at h75
        rw [h75, ← hl2]
        refine hQ (ls ++ [lt2]) lt2 vs2 ps2 mc2 p2 _ _ _ _ _ _ _ _ _ _ _ _ _ _ _ _ _ _ _ _ hp2 hC3 h8 hG2 hP2 hN2 hCR2 hOf2 (Pre_trans q1 r1) (fun z => by rw [r2 z, q2 z]) (Pre_trans q3 r3) (by omega) (by omega) (by omega) ?_ hE3
        obtain ⟨f1, f2, f3, f4, f5, f6⟩ := hfr3
        exact ⟨f1, f2, f3, fun j hj => by
          show upd LC (257 * set + cl) _ j = _
          rw [upd_ne (by omega)]
          exact f4 j hj, f5, f6⟩
    · intro c q u hfr2 hst
      obtain ⟨u1, u2, u3, u4, u5, u6, u7, u8, u9, u10, u11, u12, u13, u14, u15, u16, u17, u18, u19, u20, u21, u22⟩ := u
      exact ⟨fun _ => hF c q _ (Fr_trans hfr hfr2) hst, fun z => absurd rfl z⟩
theorem sp_Mo_body {ls : List Lt} {lt : Lt} {vs : List (Option Wd)} {ps : List Wd} {mc : List Con} {PF PL PA PS CN CV CF LK LP LT LQ NQ TP LA VF VL : Nat → Int32} (hs : o + n ≤ 196608) (hB : TxOk md set o n F) (hset : set < 2) (hcl : cl < 257) (hc0 : c0 ≤ cl) (hlo : lo ≤ mc.length) (hmd : md = 0 ∨ md = 1) (hmc0 : mc.length ≤ 1000) (hQ : BoQ post md n o set cl c0 lo F LC X0 A0 D1 cn ps mc St)
    (hF : ∀ (c q : Nat) (u : U23), Fr md set c0 lo (g23 u) X0 → St (.inl (c, q)) → post 0 (nI c, nI q, u)) (hls : ls.length + sf md = 1) (hp : p0 ≤ n) (hC : Cur (shf F o) n o p0 tk fr to am) (hG : MG md set F mc vs CN CV CF VF VL) (hP : PR set ps PF PL PS F) (hN : PN md set ps PA) (hCR : CR md ps mc o set cl (LK, LP, LT, LQ, NQ, TP, LA) ls) (hOf : OfC set cl (LK, LP, LT, LQ, NQ, TP, LA) A0) (hfr : Fr md set c0 lo (PF, PL, PA, PS, CN, CV, CF, LC, LK, LP, LT) X0)
    (hE : ∀ r, Ends md (shf F o) n (6, 0, 0) (D1, ls, lt, vs, ps, if md = 0 then mc else cn) p0 r → St r) :
    wp_met_Mo_body post 0 0 (nI set) (nI o) (nI (o + n)) tk fr to am (nI cl) (b01 (asksOf md)) (nI mc.length) (nI vs.length) F PF PL PA PS CN CV CF LC LK LP LT LQ NQ TP LA VF VL :=
  ⟨12 + 2, body_lp hs hB hset hcl hc0 hlo hmd hmc0 hQ hF 12 1 (by omega) (by omega) ls lt vs ps mc p0 _ _ _ _ _ _ _ _ _ _ _ _ _ _ _ _ _ _ _ _ hls hp hC hG hP hN hCR hOf Pre_refl (fun _ => rfl) Pre_refl (by omega) hfr hE⟩
end MBody
