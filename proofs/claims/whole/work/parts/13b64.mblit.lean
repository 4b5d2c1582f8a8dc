/-! pure: the model's literal of a body -/
section MBl
variable {post : Int32 → (Int32 × Int32 × U22) → Prop} {n o set cl k md c0 lo p0 : Nat} {am : Int64} {F LC PF PL PA PS CN CV CF LK LP LT LQ NQ TP LA VF VL : Nat → Int32} {D : Dt} {mc : List Con} {ps : List Wd} {vs : List (Option Wd)} {St : ((Nat × Nat) ⊕ Dt) → Prop} {tk fr to : Int32}
theorem sp_Mo_bodyLiteral (hs : o + n ≤ 196608) (hB : TxOk md set o n F) (hset : set < 2) (hcl : cl < 257) (hc0 : c0 ≤ cl) (hlo : lo ≤ mc.length) (hk : k < 13) (hk1 : 1 ≤ k) (hkD : D.2.1.length + (if md = 0 then 0 else 1) = k) (hmd : md = 0 ∨ md = 1) (hmc : mc.length + 6 < 1100) (hp0 : p0 ≤ n) (hC : Cur (shf F o) n o p0 tk fr to am) (hG : MG md set F mc vs CN CV CF VF VL) (hP : PR set ps PF PL PS F) (hN : PN md set ps PA) (hD : D.2.2.2.1 = vs) (hDp : D.2.2.2.2.1 = ps) (hD2 : md = 0 → D.2.2.2.2.2 = mc)
    (hE : ∀ r, Ends md (shf F o) n (6, 0, 0) D p0 r → St r) (hQ : BlQ post md n o set cl k c0 lo F LC PF PL PA PS CN CV CF LK LP LT LQ NQ TP LA D ps mc St)
    (hF : ∀ (c q : Nat) (u : U22), Fr md set c0 lo (g22 LC u) (PF, PL, PA, PS, CN, CV, CF, LC, LK, LP, LT) → St (.inl (c, q)) → post 0 (nI c, nI q, u)) :
    wp_met_Mo_bodyLiteral post (nI k) 0 0 (nI set) (nI o) (nI (o + n)) tk fr to am (nI cl) (b01 (asksOf md)) (nI mc.length) (nI vs.length) F PF PL PA PS CN CV CF LK LP LT LQ NQ TP LA VF VL := by
  obtain ⟨c1, c2, c3, c4, c5⟩ := hC
  subst c2 c3 c4
  have hpos := TK_pos (shf F o) n p0 hp0
  have hlim : ¬ D.2.1.length = 12 + (if md = 0 then 1 else 0) := by
    rcases hmd with z | z <;> subst z <;> simp at hkD ⊢ <;> omega
  have hne : ¬ (md = 0 ∧ D.2.1 = []) := by
    rintro ⟨z1, z2⟩
    rw [z2, if_pos z1] at hkD
    simp at hkD
    omega
  have hcAt : ∀ l : Lt, cAt md (D.1, D.2.1, l, D.2.2.2) = 10 := by
    intro l
    unfold cAt
    rw [if_neg (by omega), if_neg hne]
  have hcAt0 : cAt md D = 10 := by
    unfold cAt
    rw [if_neg (by omega), if_neg hne]
  obtain ⟨b, hb⟩ : ∃ b, b = (TK (shf F o) n p0).2.2.1 := ⟨_, rfl⟩
  have hbn : b ≤ n := by rw [hb]; exact hpos.2.2.1
  have hpos2 := TK_pos (shf F o) n b hbn
  refine ⟨fun z => ?_, fun z => ?_⟩
  · have h5 := (mk4 _ _ _).mp z
    have hst := step_6 (md := md) (n := n) (q := p0) (G := shf F o) (D1 := D)
    rw [if_neg c1, if_neg (fun w => w (Or.inr h5)), if_neg hlim, if_neg (by rw [h5]; decide), if_pos h5] at hst
    obtain ⟨D1, hD1⟩ : ∃ D1 : Dt, D1 = (D.1, D.2.1, (1, [], 0, (TK (shf F o) n p0).2.1, []), D.2.2.2) := ⟨_, rfl⟩
    rw [← hD1, ← hb] at hst
    have hE1 : ∀ r, Ends md (shf F o) n (1, 0, 0) D1 b r → St r := fun r hr => hE r (Ends_go hst hr)
    intro y112 h112 y113 h113
    rw [show (13 : Int32) = nI 13 from rfl, pk_mul] at h112
    rw [h112, nI_add] at h113
    subst h113
    refine ⟨vp_in_nI (by omega) (by omega), fun g115 h115 => ?_⟩
    rw [nI_clamp (by omega)] at h115
    rw [← hb]
    refine sp_Mo_nextR hs hB.1 hbn (fun hbad tk2 fr2 to2 am2 => ?_) (fun tk2 fr2 to2 am2 hC2 => ?_)
    · exact ⟨fun _ => hF 1 _ _ Fr_refl (hE1 _ (Ends_flt (by rw [step_1, if_pos hbad]))), fun z => absurd rfl z⟩
    refine ⟨fun z => absurd z (by decide), fun _ => ?_⟩
    obtain ⟨d1, d2, d3, d4, d5⟩ := hC2
    subst d2 d3 d4
    by_cases h2 : (TK (shf F o) n b).1 = 2
    · have e1 : mkd (TK (shf F o) n b).1 = 1 := (mk1 _ _ _).mpr h2
      have hlt := TK_term_lt hbn (show isT (TK (shf F o) n b).1 = true by rw [h2]; decide)
      rw [e1]
      refine sp_Mo_atom (D := D1) (md := md) (NQ := g115) (np := (TK (shf F o) n p0).2.1) (LC := LC) (St := St) hs hB hset hcl hc0 hlo hk hmd hmc hlt hpos2.2.2.1 hG hP hN (by rw [hD1]; exact hD) (by rw [hD1]; exact hDp) (fun z => by rw [hD1]; exact hD2 z) (Or.inr rfl) (fun _ => by rw [h115, upd_same]) (fun r hr => hE1 r (Ends_of (by rw [step_1, if_neg d1, if_neg (fun w => w h2)]) ?_)) ?_ ?_
      · rw [hD1] at hr ⊢
        exact hr
      · intro lt mc2 vs2 ps2 p tk3 fr3 to3 am3 PF2 PL2 PA2 PS2 CN2 CV2 CF2 LK2 LP2 LT2 LQ2 TP2 LA2 VF2 VL2 hkd hlen hp hC3 hG3 hP3 hN3 hLR hOff q1 q2 q3 q4 hfr hE3 y147 h147
        rw [if_neg (by decide)] at h147
        subst h147
        refine hQ lt mc2 vs2 ps2 p tk3 fr3 to3 am3 PF2 PL2 PA2 PS2 CN2 CV2 CF2 LK2 LP2 LT2 LQ2 g115 TP2 LA2 VF2 VL2 hlen hp hC3 hG3 hP3 hN3 hLR ?_ q1 q2 q3 q4 hfr (fun r hr => hE3 r ?_)
        · obtain ⟨o1, o2, o3, o4, o5, o6, o7⟩ := hOff
          exact ⟨o1, o2, o3, o4, fun j hj => by show g115 j = NQ j; rw [h115, upd_ne hj], o6, o7⟩
        · rw [hD1, hcAt]
          exact hr
      · intro c q u hfr hst2 y147 h147
        rw [if_pos rfl] at h147
        subst h147
        obtain ⟨u1, u2, u3, u4, u5, u6, u7, u8, u9, u10, u11, u12, u13, u14, u15, u16, u17, u18, u19, u20, u21⟩ := u
        exact hF c q _ hfr hst2
    · refine ⟨fun w => absurd ((mk1 _ _ _).mp w) h2, fun _ => ?_⟩
      refine sp_Mo_cannot (by omega) ?_
      refine ⟨Or.inl rfl, fun y147 h147 => ?_⟩
      rw [if_pos rfl] at h147
      subst h147
      exact hF 2 _ _ Fr_refl (hE1 _ (Ends_flt (by rw [step_1, if_neg d1, if_pos h2])))
  · have h5 : ¬ (TK (shf F o) n p0).1 = 5 := fun w => z ((mk4 _ _ _).mpr w)
    refine sp_Mo_isTerm c1 ?_
    refine b01_if (fun g => ?_) (fun g => ?_)
    · refine sp_Mo_cannot (by omega) ?_
      exact ⟨Or.inl rfl, hF 2 _ _ Fr_refl (hE _ (Ends_flt (by rw [step_6, if_neg c1, if_pos (by simp [g, h5])])))⟩
    have hlt := TK_term_lt hp0 g
    have hst := step_6 (md := md) (n := n) (q := p0) (G := shf F o) (D1 := D)
    rw [if_neg c1, if_neg (fun w => w (Or.inl g)), if_neg hlim] at hst
    by_cases h2 : (TK (shf F o) n p0).1 = 2
    · have e1 : mkd (TK (shf F o) n p0).1 = 1 := (mk1 _ _ _).mpr h2
      rw [if_pos h2] at hst
      rw [← hb] at hst hlt ⊢
      have hE7 : ∀ r, Ends md (shf F o) n (7, (TK (shf F o) n p0).2.1, b) D b r → St r := fun r hr => hE r (Ends_go hst hr)
      refine ⟨fun _ => ?_, fun w => absurd e1 w⟩
      have at0 : ∀ am2, ¬ (11 : Int32) ≤ (TK (shf F o) n b).1 → jw_met_Mo_bodyLiteral_101 post NQ (nI k) (nI set) (nI o) (nI (o + n)) (nI (o + (TK (shf F o) n p0).2.1)) (nI (o + b)) am2 (nI cl) (b01 (asksOf md)) (nI mc.length) (nI vs.length) F PF PL PA PS CN CV CF LK LP LT LQ TP LA VF VL 0 := by
        intro am2 h11
        refine ⟨fun _ => ?_, fun w => absurd rfl w⟩
        refine sp_Mo_atom (D := D) (md := md) (NQ := NQ) (np := 0) (LC := LC) (St := St) hs hB hset hcl hc0 hlo hk hmd hmc hlt hbn hG hP hN hD hDp hD2 (Or.inl rfl) (fun w => absurd w (by decide)) (fun r hr => hE7 r (Ends_of (by rw [step_7, if_neg h11]) hr)) ?_ ?_
        · intro lt mc2 vs2 ps2 p tk3 fr3 to3 am3 PF2 PL2 PA2 PS2 CN2 CV2 CF2 LK2 LP2 LT2 LQ2 TP2 LA2 VF2 VL2 hkd hlen hp hC3 hG3 hP3 hN3 hLR hOff q1 q2 q3 q4 hfr hE3
          refine ⟨Or.inr rfl, ?_⟩
          refine hQ lt mc2 vs2 ps2 p tk3 fr3 to3 am3 PF2 PL2 PA2 PS2 CN2 CV2 CF2 LK2 LP2 LT2 LQ2 NQ TP2 LA2 VF2 VL2 hlen hp hC3 hG3 hP3 hN3 hLR hOff q1 q2 q3 q4 hfr (fun r hr => hE3 r ?_)
          rw [hcAt0]
          exact hr
        · intro c q u hfr hst2
          obtain ⟨u1, u2, u3, u4, u5, u6, u7, u8, u9, u10, u11, u12, u13, u14, u15, u16, u17, u18, u19, u20, u21⟩ := u
          exact ⟨Or.inl rfl, hF c q _ hfr hst2⟩
      refine sp_Mo_nextR hs hB.1 hbn (fun hbad tk2 fr2 to2 am2 => ?_) (fun tk2 fr2 to2 am2 hC2 => ?_)
      · exact ⟨fun _ => at0 am2 (by rw [hbad]; decide), fun w => absurd rfl w⟩
      refine ⟨fun w => absurd w (by decide), fun _ => ?_⟩
      obtain ⟨d1, d2, d3, d4, d5⟩ := hC2
      subst d2 d3 d4
      refine sp_Mo_isSign d1 ?_
      intro y13 h13
      rw [b01_id] at h13
      subst h13
      by_cases h11 : (11 : Int32) ≤ (TK (shf F o) n b).1
      · rw [decide_eq_true h11]
        refine ⟨fun w => absurd w (by decide), fun _ => ?_⟩
        exact lit_140 (kd := 2) (v := 0) (LC := LC) hs hB hset hcl hc0 hlo hk hmd hmc hlt hbn hG hP hN hD hDp hD2 (Or.inl rfl) (fun w => absurd w (by decide)) (fun r hr => hE7 r (Ends_of (by rw [step_7, if_pos h11]) hr)) hQ hF (by decide)
      · rw [decide_eq_false h11]
        exact at0 am2 h11
    · rw [if_neg h2, if_neg h5, ← hb] at hst
      rw [← hb] at hlt ⊢
      refine ⟨fun w => absurd ((mk1 _ _ _).mp w) h2, fun _ => ?_⟩
      exact lit_140 (kd := (TK (shf F o) n p0).1) (v := (TK (shf F o) n p0).2.2.2) (LC := LC) hs hB hset hcl hc0 hlo hk hmd hmc hlt hbn hG hP hN hD hDp hD2 (isT_or g) (fun w => ⟨c5 w, TK_num w⟩) (fun r hr => hE r (Ends_of hst hr)) hQ hF rfl
end MBl
