/-! pure: the model reads clauses -/
theorem LR_same {md : Nat} {ps ps2 : List Wd} {mc mc2 : List Con} {o L l2 : Nat} {A B : A7} {lt : Lt} (hp : Pre ps ps2) (hpm : ¬ md = 0 → ps2 = ps) (hm : Pre mc mc2) (hl : lt.2.2.2.2.length ≤ 6) (e1 : B.1 L = A.1 L) (e2 : B.2.1 L = A.2.1 L) (e3 : ∀ j, j < 6 → B.2.2.1 (6 * L + j) = A.2.2.1 (6 * L + j)) (e4 : B.2.2.2.1 l2 = A.2.2.2.1 l2) (e5 : B.2.2.2.2.1 l2 = A.2.2.2.2.1 l2) (e6 : ∀ j, j < 6 → B.2.2.2.2.2.1 (6 * l2 + j) = A.2.2.2.2.2.1 (6 * l2 + j)) (e7 : B.2.2.2.2.2.2 l2 = A.2.2.2.2.2.2 l2) (h : LR md ps mc o L l2 A lt) : LR md ps2 mc2 o L l2 B lt := by
  obtain ⟨r1, r2, r3, r4, r5, r6, r7⟩ := h
  refine ⟨by rw [e1]; exact r1, fun z => ?_, fun z => ?_, by rw [e4]; exact r4, fun z => by rw [e5]; exact r5 z, by rw [e7]; exact r6, TR_off hm hl e3 e6 r7⟩
  · rw [e2]
    exact PC_ext hp hpm (r2 z)
  · rw [e2]
    exact r3 z
/-- the clauses that the model holds -/
def AR (ps : List Wd) (mc : List Con) (o set : Nat) (A : A7) (LC : Nat → Int32) (cs : List (List Lt)) : Prop := ∀ (c : Nat) (ls : List Lt), cs[c]? = some ls → 1 ≤ ls.length ∧ ls.length ≤ 13 ∧ LC (257 * set + c) = nI ls.length ∧ CR 0 ps mc o set c A ls
theorem AR_push {ps ps2 : List Wd} {mc mc2 : List Con} {o set : Nat} {A B : A7} {LC LC2 : Nat → Int32} {cs : List (List Lt)} {ls : List Lt} (hp : Pre ps ps2) (hm : Pre mc mc2) (hO : OfC set cs.length B A) (hL : ∀ j, ¬ j = 257 * set + cs.length → LC2 j = LC j) (h : AR ps mc o set A LC cs) (h1 : 1 ≤ ls.length) (h2 : ls.length ≤ 13) (h3 : LC2 (257 * set + cs.length) = nI ls.length) (h4 : CR 0 ps2 mc2 o set cs.length B ls) : AR ps2 mc2 o set B LC2 (cs ++ [ls]) := by
  intro c l2 hc
  rcases Nat.lt_or_ge c cs.length with g | g
  · rw [List.getElem?_append_left g] at hc
    obtain ⟨a1, a2, a3, a4⟩ := h c l2 hc
    refine ⟨a1, a2, by rw [hL _ (by omega)]; exact a3, ?_⟩
    intro j lt hj
    have hjl := (List.getElem?_eq_some_iff.mp hj).1
    obtain ⟨b1, b2⟩ := a4 j lt hj
    obtain ⟨o1, o2, o3, o4⟩ := hO
    have e0 : sf 0 = 0 := rfl
    have x1 := o1 ((257 * set + c) * 13 + (j + sf 0)) (by omega)
    have x3 := o3 (13 * c + (j + sf 0)) (by omega)
    exact ⟨b1, LR_same hp (fun z => absurd rfl z) hm b1 x1.1 x1.2 (fun i hi => o2 _ (by omega)) x3.1 x3.2.1 (fun i hi => o4 _ (by omega)) x3.2.2 b2⟩
  · have h5 := (List.getElem?_eq_some_iff.mp hc).1
    rw [List.length_append, List.length_singleton] at h5
    obtain rfl : c = cs.length := by omega
    rw [List.getElem?_append_right (Nat.le_refl _), Nat.sub_self] at hc
    obtain rfl : ls = l2 := by simpa using hc
    exact ⟨h1, h2, h3, h4⟩
theorem Gos_name {md n np a b k2 : Nat} {G : Nat → Int32} {D0 D D9 : Dt} {kind : Int32} {r : (Nat × Nat) ⊕ Dt} (h : Gos md G n (mName md G D0 kind np a b k2) D r) : Gos md G n (mName md G D0 kind np a b k2) D9 r := by
  unfold mName at h ⊢
  cases hq : mPred md D0.2.2.2.2.1 (sl G a (b - a)) with
  | none =>
    rw [hq] at h
    exact h
  | some ps =>
    rw [hq] at h
    exact h
abbrev U26 : Type := Int32 × Int32 × Int32 × Int64 × Int32 × Int32 × Int32 × (Nat → Int32) × (Nat → Int32) × (Nat → Int32) × (Nat → Int32) × (Nat → Int32) × (Nat → Int32) × (Nat → Int32) × (Nat → Int32) × (Nat → Int32) × (Nat → Int32) × (Nat → Int32) × (Nat → Int32) × (Nat → Int32) × (Nat → Int32) × (Nat → Int32) × (Nat → Int32) × (Nat → Int32) × (Nat → Int32) × (Nat → Int32)
section MClauses
variable {post : Int32 → (Int32 × Int32 × U26) → Prop} {n o set : Nat} {F Cl : Nat → Int32} {X0 : G11} {St : ((Nat × Nat) ⊕ Dt) → Prop}
def RcF (post : Int32 → (Int32 × Int32 × U26) → Prop) (set : Nat) (Cl : Nat → Int32) (X0 : G11) (St : ((Nat × Nat) ⊕ Dt) → Prop) : Prop :=
  ∀ (c q : Nat) tk fr to am cl cA vr PF PL PA PS CN CV CF LC LK LP LT VC LQ NQ TP LA VF VL, Fr 0 set 0 0 (PF, PL, PA, PS, CN, CV, CF, LC, LK, LP, LT) X0 → St (.inl (c, q)) → post 0 (nI c, nI q, tk, fr, to, am, cl, cA, vr, PF, PL, PA, PS, CN, CV, CF, Cl, LC, LK, LP, LT, VC, LQ, NQ, TP, LA, VF, VL)
/-- what the model leaves when clauses are read -/
def RcQ (post : Int32 → (Int32 × Int32 × U26) → Prop) (o set : Nat) (F Cl : Nat → Int32) (X0 : G11) (St : ((Nat × Nat) ⊕ Dt) → Prop) : Prop :=
  ∀ (cs : List (List Lt)) (lt : Lt) (vs : List (Option Wd)) (ps : List Wd) (mc : List Con) tk fr to am vr PF PL PA PS CN CV CF LC LK LP LT VC LQ NQ TP LA VF VL, cs.length ≤ 256 → MCo (asksOf 0) mc (1100 * set) CN CV CF F → Cap 0 mc → PR set ps PF PL PS F → PN 0 set ps PA → AR ps mc o set (LK, LP, LT, LQ, NQ, TP, LA) LC cs → Fr 0 set 0 0 (PF, PL, PA, PS, CN, CV, CF, LC, LK, LP, LT) X0 → St (.inr (cs, [], lt, vs, ps, mc)) → post 1 (0, 0, tk, fr, to, am, nI cs.length, nI mc.length, vr, PF, PL, PA, PS, CN, CV, CF, upd Cl set (nI cs.length), LC, LK, LP, LT, VC, LQ, NQ, TP, LA, VF, VL)
theorem rc_105 {J : (Int32 × Int32 × Int32 × Int32 × Int32 × Int64 × Int32 × Int32 × Int32 × (Nat → Int32) × (Nat → Int32) × (Nat → Int32) × (Nat → Int32) × (Nat → Int32) × (Nat → Int32) × (Nat → Int32) × (Nat → Int32) × (Nat → Int32) × (Nat → Int32) × (Nat → Int32) × (Nat → Int32) × (Nat → Int32) × (Nat → Int32) × (Nat → Int32) × (Nat → Int32) × (Nat → Int32) × (Nat → Int32)) → Prop} {cs : List (List Lt)} {lt : Lt} {vs : List (Option Wd)} {ps : List Wd} {mc : List Con} {p cl : Nat} {tk fr to : Int32} {am : Int64} {PF PL PA PS CN CV CF LC LK LP LT VC LQ NQ TP LA VF VL : Nat → Int32} (hs : o + n ≤ 196608) (hB : TxOk 0 set o n F) (hset : set < 2) (hcl : cl < 257) (hF : RcF post set Cl X0 St) (hp : p ≤ n) (hC : Cur (shf F o) n o p tk fr to am)
    (h9 : (TK (shf F o) n p).1 = 9 → ∀ r, Ends 0 (shf F o) n (0, 0, 0) (cs, [], lt, vs, ps, mc) (TK (shf F o) n p).2.2.1 r → St r) (hn : ¬ (TK (shf F o) n p).1 = 9 → St (.inl (2, (TK (shf F o) n p).2.1))) (hfr : Fr 0 set 0 0 (PF, PL, PA, PS, CN, CV, CF, LC, LK, LP, LT) X0)
    (hJ : (TK (shf F o) n p).1 = 9 → ∀ tk2 fr2 to2 am2, Cur (shf F o) n o (TK (shf F o) n p).2.2.1 tk2 fr2 to2 am2 → J (0, 0, tk2, fr2, to2, am2, nI (cl + 1), nI mc.length, nI vs.length, PF, PL, PA, PS, CN, CV, CF, LC, LK, LP, LT, upd VC (257 * set + cl) (nI vs.length), LQ, NQ, TP, LA, VF, VL)) :
    jw_met_Mo_readClauses_105 post J (nI set) (nI cl) VC Cl (nI o) (nI (o + n)) F (0, 0, tk, fr, to, am, nI mc.length, nI vs.length, PF, PL, PA, PS, CN, CV, CF, LC, LK, LP, LT, LQ, NQ, TP, LA, VF, VL) := by
  obtain ⟨c1, c2, c3, c4, c5⟩ := hC
  subst c2 c3 c4
  have hpos := TK_pos (shf F o) n p hp
  refine ⟨fun z => ?_, fun z => ?_⟩
  · have k9 := (mk8d _ _ _).mp z
    intro y117 h117 y118 h118
    rw [show (257 : Int32) = nI 257 from rfl, pk_mul] at h117
    rw [h117, nI_add] at h118
    subst h118
    refine ⟨vp_in_nI (by omega) (by omega), fun g120 h120 y121 h121 => ?_⟩
    rw [nI_clamp (by omega)] at h120
    rw [nI_1] at h121
    subst h120 h121
    refine sp_Mo_nextR hs hB.1 hpos.2.2.1 (fun hbad tk3 fr3 to3 am3 => ?_) (fun tk3 fr3 to3 am3 hC4 => ?_)
    · exact ⟨fun _ => hF 1 _ _ _ _ _ _ _ _ _ _ _ _ _ _ _ _ _ _ _ _ _ _ _ _ _ _ hfr (h9 k9 _ (Ends_flt (by rw [step_0, if_pos hbad]))), fun z => absurd rfl z⟩
    · exact ⟨fun z => absurd z (by decide), fun _ => hJ k9 _ _ _ _ hC4⟩
  · refine sp_Mo_cannot (by omega) ?_
    exact ⟨Or.inl rfl, hF 2 _ _ _ _ _ _ _ _ _ _ _ _ _ _ _ _ _ _ _ _ _ _ _ _ _ _ hfr (hn (fun w => z ((mk8d _ _ _).mpr w)))⟩
theorem rc_lp (hs : o + n ≤ 196608) (hB : TxOk 0 set o n F) (hset : set < 2) (hQ : RcQ post o set F Cl X0 St) (hF : RcF post set Cl X0 St) : ∀ m cl : Nat, cl + m = 256 → ∀ (cs : List (List Lt)) (lt : Lt) (vs : List (Option Wd)) (ps : List Wd) (mc : List Con) (p : Nat) tk fr to am vr PF PL PA PS CN CV CF LC LK LP LT VC LQ NQ TP LA VF VL, cs.length = cl → p ≤ n → Cur (shf F o) n o p tk fr to am → MCo (asksOf 0) mc (1100 * set) CN CV CF F → Cap 0 mc → PR set ps PF PL PS F → PN 0 set ps PA → AR ps mc o set (LK, LP, LT, LQ, NQ, TP, LA) LC cs → Fr 0 set 0 0 (PF, PL, PA, PS, CN, CV, CF, LC, LK, LP, LT) X0 → (∀ r, Ends 0 (shf F o) n (0, 0, 0) (cs, [], lt, vs, ps, mc) p r → St r) →
    lw_met_Mo_readClauses_5 post Cl (nI o) (nI set) (nI (o + n)) (b01 (asksOf 0)) F (m + 1) (0, 0, tk, fr, to, am, nI cl, nI mc.length, vr, PF, PL, PA, PS, CN, CV, CF, LC, LK, LP, LT, VC, LQ, NQ, TP, LA, VF, VL) := by
  intro m
  induction m with
  | zero =>
    intro cl hcm cs lt vs ps mc p tk fr to am vr PF PL PA PS CN CV CF LC LK LP LT VC LQ NQ TP LA VF VL hcs hp hC hM hml hP hN hA hfr hE
    obtain ⟨c1, c2, c3, c4, c5⟩ := hC
    subst c2 c3 c4
    have hpos := TK_pos (shf F o) n p hp
    refine ⟨fun z => ?_, fun z => ?_⟩
    · have k0 := (mk0 c1).mp z
      refine ⟨vp_in_nI hset (by omega), fun g142 h142 => ?_⟩
      rw [nI_clamp (by omega), ← hcs] at h142
      rw [h142, ← hcs]
      exact hQ cs lt vs ps mc _ _ _ _ _ _ _ _ _ _ _ _ _ _ _ _ _ _ _ _ _ _ _ (by omega) hM hml hP hN hA hfr (hE _ (Ends_end (by rw [step_0, if_neg c1, if_pos k0])))
    · have k0 : ¬ (TK (shf F o) n p).1 = 0 := fun w => z ((mk0 c1).mpr w)
      refine ⟨fun z1 => ?_, fun z1 => ?_⟩
      · have k2 := (mk1 _ _ _).mp z1
        refine pk_eq cl 256 (fun _ => ?_) (fun w => absurd (by omega) w)
        refine sp_Mo_flaw ?_
        rw [pk_sub (by omega), show o + (TK (shf F o) n p).2.1 - o = (TK (shf F o) n p).2.1 by omega]
        exact ⟨Or.inl rfl, hF 3 _ _ _ _ _ _ _ _ _ _ _ _ _ _ _ _ _ _ _ _ _ _ _ _ _ _ hfr (hE _ (Ends_flt (by rw [step_0, if_neg c1, if_neg k0, if_neg (fun w => w k2), if_pos (show cs.length = 256 by omega)])))⟩
      · have k2 : ¬ (TK (shf F o) n p).1 = 2 := fun w => z1 ((mk1 _ _ _).mpr w)
        refine sp_Mo_cannot (by omega) ?_
        exact ⟨Or.inl rfl, hF 2 _ _ _ _ _ _ _ _ _ _ _ _ _ _ _ _ _ _ _ _ _ _ _ _ _ _ hfr (hE _ (Ends_flt (by rw [step_0, if_neg c1, if_neg k0, if_pos k2])))⟩
  | succ m ih =>
    intro cl hcm cs lt vs ps mc p tk fr to am vr PF PL PA PS CN CV CF LC LK LP LT VC LQ NQ TP LA VF VL hcs hp hC hM hml hP hN hA hfr hE
    obtain ⟨c1, c2, c3, c4, c5⟩ := hC
    subst c2 c3 c4
    have hpos := TK_pos (shf F o) n p hp
    refine ⟨fun z => ?_, fun z => ?_⟩
    · have k0 := (mk0 c1).mp z
      refine ⟨vp_in_nI hset (by omega), fun g142 h142 => ?_⟩
      rw [nI_clamp (by omega), ← hcs] at h142
      rw [h142, ← hcs]
      exact hQ cs lt vs ps mc _ _ _ _ _ _ _ _ _ _ _ _ _ _ _ _ _ _ _ _ _ _ _ (by omega) hM hml hP hN hA hfr (hE _ (Ends_end (by rw [step_0, if_neg c1, if_pos k0])))
    have k0 : ¬ (TK (shf F o) n p).1 = 0 := fun w => z ((mk0 c1).mpr w)
    refine ⟨fun z1 => ?_, fun z1 => ?_⟩
    · have k2 := (mk1 _ _ _).mp z1
      have hab : (TK (shf F o) n p).2.1 < (TK (shf F o) n p).2.2.1 := TK_term_lt hp (by rw [k2]; decide)
      have hst : mStep 0 (shf F o) n (0, 0, 0) (cs, [], lt, vs, ps, mc) p = mName 0 (shf F o) (cs, [], lt, [], ps, mc) 0 0 (TK (shf F o) n p).2.1 (TK (shf F o) n p).2.2.1 (TK (shf F o) n p).2.2.1 := by
        rw [step_0, if_neg c1, if_neg k0, if_neg (fun w => w k2), if_neg (show ¬ cs.length = 256 by omega)]
      refine pk_eq cl 256 (fun w => absurd w (by omega)) (fun _ => ?_)
      rw [z1]
      refine sp_Mo_atom (k := 0) (cl := cl) (D := (cs, [], lt, [], ps, mc)) (md := 0) (LC := LC) (St := St) (c0 := 0) (lo := 0) (np := 0) (kind := 0) (vs := []) (NQ := NQ) hs hB hset (by omega) (Nat.zero_le _) (Nat.zero_le _) (by omega) (Or.inl rfl) (by have := hml.1 rfl; omega) hab hpos.2.2.1 ⟨hM, fun j x hj => absurd hj (by simp), by simp, hml⟩ hP hN rfl rfl (fun _ => rfl) (Or.inl rfl) (fun z => absurd z (by decide)) (fun r hr => hE r (Ends_of hst (Gos_name hr))) ?_ ?_
      · intro lt2 mc2 vs2 ps2 p2 tk2 fr2 to2 am2 PF2 PL2 PA2 PS2 CN2 CV2 CF2 LK2 LP2 LT2 LQ2 TP2 LA2 VF2 VL2 hkd hlen hp2 hC2 hG2 hP2 hN2 hLR hOff r1 r2 r3 r4 hfr2 hE2
        refine ⟨fun z => absurd z (by decide), fun _ => ?_⟩
        intro y54 h54 y55 h55
        rw [show (257 : Int32) = nI 257 from rfl, pk_mul] at h54
        rw [h54, nI_add] at h55
        subst h55
        refine ⟨vp_in_nI (by omega) (by omega), fun g57 h57 => ?_⟩
        rw [nI_clamp (by omega)] at h57
        have hE5 : ∀ r, Ends 0 (shf F o) n (5, 0, 0) (cs, [lt2], lt2, vs2, ps2, mc2) p2 r → St r := by
          intro r hr
          refine hE2 r ?_
          have e5 : cAt 0 (cs, ([] : List Lt), lt, ([] : List (Option Wd)), ps, mc) = 5 := by simp [cAt]
          rw [e5, if_pos rfl]
          exact hr
        have hCR2 : CR 0 ps2 mc2 o set cl (LK2, LP2, LT2, LQ2, NQ, TP2, LA2) [lt2] := CR_push (ls := []) r1 r2 r3 hlen hOff hLR (fun j lt hj => absurd hj (by simp))
        have hOf2 : OfC set cl (LK2, LP2, LT2, LQ2, NQ, TP2, LA2) (LK, LP, LT, LQ, NQ, TP, LA) := OfC_off (k := 0) (by omega) OfC_refl hOff
        have hfr3 : Fr 0 set 0 0 (PF2, PL2, PA2, PS2, CN2, CV2, CF2, g57, LK2, LP2, LT2) X0 := by
          obtain ⟨f1, f2, f3, f4, f5, f6⟩ := Fr_trans hfr hfr2
          exact ⟨f1, f2, f3, fun j hj => by
            show g57 j = _
            rw [h57, upd_ne (by omega)]
            exact f4 j hj, f5, f6⟩
        have hml2 : Cap 0 mc2 := hG2.2.2.2
        have c12 := hC2.1
        refine ⟨fun z9 => ?_, fun z9 => ?_⟩
        · have hC3 := hC2
          obtain ⟨d1, d2, d3, d4, d5⟩ := hC2
          subst d2 d3 d4
          have k10 := (mk9 _ _ _).mp z9
          have hpos2 := TK_pos (shf F o) n p2 hp2
          have hE6 : ∀ r, Ends 0 (shf F o) n (6, 0, 0) (cs, [lt2], lt2, vs2, ps2, mc2) (TK (shf F o) n p2).2.2.1 r → St r := fun r hr => hE5 r (Ends_go (by rw [step_5, if_neg d1, if_neg (by rw [k10]; decide), if_pos k10]) hr)
          refine sp_Mo_nextR hs hB.1 hpos2.2.2.1 (fun hbad tk3 fr3 to3 am3 => ?_) (fun tk3 fr3 to3 am3 hC4 => ?_)
          · exact ⟨fun _ => hF 1 _ _ _ _ _ _ _ _ _ _ _ _ _ _ _ _ _ _ _ _ _ _ _ _ _ _ hfr3 (hE6 _ (Ends_flt (by rw [step_6, if_pos hbad]))), fun z => absurd rfl z⟩
          refine ⟨fun z => absurd z (by decide), fun _ => ?_⟩
          refine sp_Mo_body (md := 0) (c0 := 0) (lo := 0) (cl := cl) (ls := [lt2]) (lt := lt2) (vs := vs2) (ps := ps2) (mc := mc2) (cn := mc2) (D1 := cs) (X0 := X0) (A0 := (LK, LP, LT, LQ, NQ, TP, LA)) (St := St) hs hB hset (by omega) (Nat.zero_le _) (Nat.zero_le _) (Or.inl rfl) (hml2.1 rfl) ?_ ?_ rfl hpos2.2.2.1 hC4 hG2 hP2 hN2 hCR2 hOf2 hfr3 (fun r hr => hE6 r (by rw [if_pos rfl] at hr; exact hr))
          · intro ls4 lt4 vs4 ps4 mc4 p4 tk4 fr4 to4 am4 PF4 PL4 PA4 PS4 CN4 CV4 CF4 LK4 LP4 LT4 LQ4 NQ4 TP4 LA4 VF4 VL4 hp4 hC5 h8 hG4 hP4 hN4 hCR4 hOf4 s1 s2 s3 s4 s5 s6 hfr4 hE4
            have e0 : sf 0 = 0 := rfl
            rw [e0] at s5 s6
            have hE7 : ∀ r, Ends 0 (shf F o) n (10, 0, 0) (cs, ls4, lt4, vs4, ps4, mc4) p4 r → St r := fun r hr => hE4 r (by rw [if_pos rfl]; exact hr)
            have d1 := hC5.1
            refine ⟨fun z => absurd z (by decide), fun _ => ?_⟩
            refine rc_105 (cs := cs ++ [ls4]) (lt := lt4) (ps := ps4) hs hB hset (by omega) hF hp4 hC5 (fun k9 r hr => hE7 r (Ends_go (by rw [step_10, if_neg d1, if_neg h8, if_pos ⟨rfl, k9⟩]; rfl) hr)) (fun k9 => hE7 _ (Ends_flt (by rw [step_10, if_neg d1, if_neg h8, if_neg (fun w => k9 w.2), if_neg (fun w => absurd w.1 (by decide))]))) hfr4 (fun k9 tk5 fr5 to5 am5 hC6 => ?_)
            refine ih (cl + 1) (by omega) (cs ++ [ls4]) lt4 vs4 ps4 mc4 _ _ _ _ _ _ _ _ _ _ _ _ _ _ _ _ _ _ _ _ _ _ _ _ (by simp [hcs]) (TK_pos (shf F o) n p4 hp4).2.2.1 hC6 hG4.1 hG4.2.2.2 hP4 hN4 ?_ hfr4 (fun r hr => hE7 r (Ends_go (by rw [step_10, if_neg d1, if_neg h8, if_pos ⟨rfl, k9⟩]; rfl) hr))
            refine AR_push (Pre_trans r1 s1) (Pre_trans r3 s3) (by rw [hcs]; exact hOf4) (fun j hj => ?_) hA (by omega) (by omega) (by rw [hcs, upd_same]; rfl) (by rw [hcs]; exact hCR4)
            rw [hcs] at hj
            rw [upd_ne hj, h57, upd_ne hj]
          · intro c q u hfr4 hst4
            obtain ⟨u1, u2, u3, u4, u5, u6, u7, u8, u9, u10, u11, u12, u13, u14, u15, u16, u17, u18, u19, u20, u21, u22, u23⟩ := u
            exact ⟨fun _ => hF c q _ _ _ _ _ _ _ _ _ _ _ _ _ _ _ _ _ _ _ _ _ _ _ _ _ hfr4 hst4, fun z => absurd rfl z⟩
        · have n10 : ¬ (TK (shf F o) n p2).1 = 10 := fun w => z9 (by rw [hC2.2.1]; exact (mk9 _ _ _).mpr w)
          refine rc_105 (cs := cs ++ [[lt2]]) (lt := lt2) (ps := ps2) hs hB hset (by omega) hF hp2 hC2 (fun k9 r hr => hE5 r (Ends_go (by rw [step_5, if_neg c12, if_pos k9]; rfl) hr)) (fun k9 => hE5 _ (Ends_flt (by rw [step_5, if_neg c12, if_neg k9, if_neg n10]))) hfr3 (fun k9 tk5 fr5 to5 am5 hC6 => ?_)
          refine ih (cl + 1) (by omega) (cs ++ [[lt2]]) lt2 vs2 ps2 mc2 _ _ _ _ _ _ _ _ _ _ _ _ _ _ _ _ _ _ _ _ _ _ _ _ (by simp [hcs]) (TK_pos (shf F o) n p2 hp2).2.2.1 hC6 hG2.1 hml2 hP2 hN2 ?_ hfr3 (fun r hr => hE5 r (Ends_go (by rw [step_5, if_neg c12, if_pos k9]; rfl) hr))
          refine AR_push r1 r3 (by rw [hcs]; exact hOf2) (fun j hj => ?_) hA (by simp) (by simp) (by rw [hcs, h57, upd_same]; rfl) (by rw [hcs]; exact hCR2)
          rw [hcs] at hj
          rw [h57, upd_ne hj]
      · intro c q u hfr2 hst2
        obtain ⟨u1, u2, u3, u4, u5, u6, u7, u8, u9, u10, u11, u12, u13, u14, u15, u16, u17, u18, u19, u20, u21⟩ := u
        exact ⟨fun _ => hF c q _ _ _ _ _ _ _ _ _ _ _ _ _ _ _ _ _ _ _ _ _ _ _ _ _ (Fr_trans hfr hfr2) hst2, fun z => absurd rfl z⟩
    · have k2 : ¬ (TK (shf F o) n p).1 = 2 := fun w => z1 ((mk1 _ _ _).mpr w)
      refine sp_Mo_cannot (by omega) ?_
      exact ⟨Or.inl rfl, hF 2 _ _ _ _ _ _ _ _ _ _ _ _ _ _ _ _ _ _ _ _ _ _ _ _ _ _ hfr (hE _ (Ends_flt (by rw [step_0, if_neg c1, if_neg k0, if_pos k2])))⟩
/-- the machine before a text -/
def D00 (ps : List Wd) (cn : List Con) : Dt := ([], [], (0, [], 0, 0, []), [], ps, cn)
theorem sp_Mo_readClauses {p : Nat} {tk fr to vr : Int32} {am : Int64} {PF PL PA PS CN CV CF LC LK LP LT VC LQ NQ TP LA VF VL : Nat → Int32} (hs : o + n ≤ 196608) (hB : TxOk 0 set o n F) (hset : set < 2) (hQ : RcQ post o set F Cl (PF, PL, PA, PS, CN, CV, CF, LC, LK, LP, LT) St) (hF : RcF post set Cl (PF, PL, PA, PS, CN, CV, CF, LC, LK, LP, LT) St) (hp : p ≤ n) (hC : Cur (shf F o) n o p tk fr to am) (hPS : PS set = 0) (hE : ∀ r, Ends 0 (shf F o) n (0, 0, 0) (D00 [] []) p r → St r) :
    wp_met_Mo_readClauses post 0 0 (nI set) (nI o) (nI (o + n)) tk fr to am (b01 (asksOf 0)) 0 vr F PF PL PA PS CN CV CF Cl LC LK LP LT VC LQ NQ TP LA VF VL :=
  ⟨256 + 1, rc_lp hs hB hset hQ hF 256 0 (by omega) [] _ [] [] [] p _ _ _ _ _ _ _ _ _ _ _ _ _ _ _ _ _ _ _ _ _ _ _ rfl hp hC (fun j x hj => absurd hj (by simp)) ⟨fun _ => by simp, by simp⟩ ⟨fun j x hj => absurd hj (by simp), by simp, hPS⟩ (fun _ i hi => absurd hi (by simp)) (fun c ls hj => absurd hj (by simp)) Fr_refl hE⟩
end MClauses
