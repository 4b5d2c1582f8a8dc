/-! pure: the model's stage and stratum -/
theorem mTerm_con {md : Nat} {F : Nat → Int32} {D : Dt} {kd : Int32} {a b : Nat} {v : Int} {t : Nat ⊕ Con} {x1 : List (List Lt)} {x2 : List Lt} {x3 : List (Option Wd)} {x4 : List Wd} {x5 : List Con} (hk : ¬ kd = 3) (h : mTerm md F D kd a b v = some (x1, x2, pushT D.2.2.1 (t, a), x3, x4, x5)) : (∃ c, t = Sum.inr c) ∧ x3 = D.2.2.2.1 := by
  unfold mTerm at h
  rw [if_neg hk] at h
  generalize (if kd = 4 then (([], v) : Con) else (sl F a (b - a), 0)) = cx at h
  cases hc : mCon md D.2.2.2.2.2 cx with
  | none =>
    rw [hc] at h
    cases h
  | some cn2 =>
    rw [hc] at h
    simp only [Option.some.injEq, Prod.mk.injEq] at h
    obtain ⟨-, -, h3, h4, -⟩ := h
    refine ⟨⟨cx, ?_⟩, h4.symm⟩
    unfold pushT at h3
    simp only [Prod.mk.injEq] at h3
    have := List.append_cancel_left h3.2.2.2.2
    simp only [List.cons.injEq, Prod.mk.injEq, and_true] at this
    exact this.symm
section Ground
variable {post : Int32 → (Int32 × Int32 × Int32 × Int32 × Int32 × Int64 × Int32 × Int32 × (Nat → Int32) × (Nat → Int32) × (Nat → Int32) × (Nat → Int32) × (Nat → Int32) × (Nat → Int32) × (Nat → Int32) × (Nat → Int32) × (Nat → Int32) × (Nat → Int32) × (Nat → Int32) × (Nat → Int32) × (Nat → Int32) × (Nat → Int32) × (Nat → Int32)) → Prop} {n o set : Nat} {w : Wd} {na : Nat} {ps : List Wd} {cn : List Con} {F PF PL PA PS LK LP LQ LA CN0 CV0 CF0 LT0 : Nat → Int32} {St : ((Nat × Nat) ⊕ Dt) → Prop}
/-- the atom that stage() reads -/
def gD (ps : List Wd) (cn : List Con) (w : Wd) (na : Nat) (ts : List Tm) : Dt := ([], [], ((0 : Int32), w, na, 0, ts), [], ps, cn)
def gE (ps : List Wd) (cn : List Con) (w : Wd) (na : Nat) (ts : List Tm) : Dt := ([], [((0 : Int32), w, na, 0, ts)], ((0 : Int32), w, na, 0, ts), [], ps, cn)
/-- what is left behind a fault, behind the atom -/
def GdF (post : Int32 → (Int32 × Int32 × Int32 × Int32 × Int32 × Int64 × Int32 × Int32 × (Nat → Int32) × (Nat → Int32) × (Nat → Int32) × (Nat → Int32) × (Nat → Int32) × (Nat → Int32) × (Nat → Int32) × (Nat → Int32) × (Nat → Int32) × (Nat → Int32) × (Nat → Int32) × (Nat → Int32) × (Nat → Int32) × (Nat → Int32) × (Nat → Int32)) → Prop) (set : Nat) (cn : List Con) (PF PL PA PS LK LP LQ CN0 CV0 CF0 LT0 : Nat → Int32) (St : ((Nat × Nat) ⊕ Dt) → Prop) : Prop := ∀ (c q : Nat) tk fr to am cA vr CN CV CF LT TP LA VF VL, Fc set cn.length CN CV CF CN0 CV0 CF0 → At6 LT LT0 (6 * ((257 * set + 256) * 13 + 1)) → St (.inl (c, q)) → post 0 (nI c, nI q, tk, fr, to, am, cA, vr, PF, PL, PA, PS, CN, CV, CF, LK, LP, LT, LQ, TP, LA, VF, VL)
def GdQ (post : Int32 → (Int32 × Int32 × Int32 × Int32 × Int32 × Int64 × Int32 × Int32 × (Nat → Int32) × (Nat → Int32) × (Nat → Int32) × (Nat → Int32) × (Nat → Int32) × (Nat → Int32) × (Nat → Int32) × (Nat → Int32) × (Nat → Int32) × (Nat → Int32) × (Nat → Int32) × (Nat → Int32) × (Nat → Int32) × (Nat → Int32) × (Nat → Int32)) → Prop) (o set : Nat) (F : Nat → Int32) (ps : List Wd) (cn : List Con) (w : Wd) (na : Nat) (PF PL PA PS LK LP LQ LA CN0 CV0 CF0 LT0 : Nat → Int32) (St : ((Nat × Nat) ⊕ Dt) → Prop) : Prop := ∀ ts mc tk fr to am vr CN CV CF LT TP VF VL, MCo true mc (1100 * set) CN CV CF F → mc.Nodup → Pre cn mc → mc.length ≤ cn.length + 6 → TR mc o ((257 * set + 256) * 13 + 1) (13 * 256 + 1) LT TP ts → ts.length ≤ 6 → (∀ t ∈ ts, ∃ c, t.1 = Sum.inr c) → At6 LT LT0 (6 * ((257 * set + 256) * 13 + 1)) → Fc set cn.length CN CV CF CN0 CV0 CF0 → St (.inr (gE ps cn w na ts)) → post 1 (0, 0, tk, fr, to, am, nI mc.length, vr, PF, PL, PA, PS, CN, CV, CF, LK, LP, LT, LQ, TP, upd LA (13 * 256 + 1) (nI ts.length), VF, VL)
theorem gr_162 {ts : List Tm} {mc : List Con} {p : Nat} {tk fr to vr : Int32} {am : Int64} {CN CV CF LT TP VF VL : Nat → Int32} (hs : o + n ≤ 196608) (hQ : GdQ post o set F ps cn w na PF PL PA PS LK LP LQ LA CN0 CV0 CF0 LT0 St) (hF : GdF post set cn PF PL PA PS LK LP LQ CN0 CV0 CF0 LT0 St) (hp : p ≤ n) (hC : Cur (shf F o) n o p tk fr to am) (hM : MCo true mc (1100 * set) CN CV CF F) (hnd : mc.Nodup) (hex : Pre cn mc) (hml : mc.length ≤ cn.length + 6) (hT : TR mc o ((257 * set + 256) * 13 + 1) (13 * 256 + 1) LT TP ts) (h6 : ts.length ≤ 6) (hcon : ∀ t ∈ ts, ∃ c, t.1 = Sum.inr c) (a1 : At6 LT LT0 (6 * ((257 * set + 256) * 13 + 1))) (hfc : Fc set cn.length CN CV CF CN0 CV0 CF0) (hE : ∀ r, Ends 2 (shf F o) n (11, 0, 0) (gE ps cn w na ts) p r → St r) : jw_met_Mo_ground_162 post (nI 256) LA (nI ts.length) (nI mc.length) vr PF PL PA PS CN CV CF LK LP LT LQ TP VF VL (nI o) (0, 0, tk, fr, to, am) := by
  obtain ⟨c1, c2, c3, c4, c5⟩ := hC
  have hpos := TK_pos (shf F o) n p hp
  subst c2 c3
  intro y90 h90 y91 h91
  rw [show (13 : Int32) = nI 13 from rfl, pk_mul] at h90
  rw [h90, nI_1] at h91
  subst h91
  refine ⟨vp_in_nI (by omega) (by omega), fun g93 h93 => ?_⟩
  rw [nI_clamp (by omega)] at h93
  subst h93
  refine ⟨fun z => ?_, fun z => ?_⟩
  · have k0 := (mk0 c1).mp z
    exact hQ ts mc _ _ _ _ _ _ _ _ _ _ _ _ hM hnd hex hml hT h6 hcon a1 hfc (hE _ (Ends_end (by rw [step_11, if_neg c1, if_pos k0])))
  · have k0 : ¬ (TK (shf F o) n p).1 = 0 := fun q => z ((mk0 c1).mpr q)
    refine sp_Mo_cannot (by omega) ?_
    intro y97 h97
    rw [if_pos rfl] at h97
    subst h97
    exact hF 2 _ _ _ _ _ _ _ _ _ _ _ _ _ _ _ hfc a1 (hE _ (Ends_flt (by rw [step_11, if_neg c1, if_neg k0])))
theorem gr_lp (hs : o + n ≤ 196608) (hB : TxOk 2 set o n F) (hset : set < 2) (hcn : cn.length ≤ 1000) (hQ : GdQ post o set F ps cn w na PF PL PA PS LK LP LQ LA CN0 CV0 CF0 LT0 St) (hF : GdF post set cn PF PL PA PS LK LP LQ CN0 CV0 CF0 LT0 St) : ∀ m i : Nat, i + m = 7 → i ≤ 6 → ∀ (ts : List Tm) (mc : List Con) (p : Nat) (tk fr : Int32) (am : Int64) (CN CV CF LT TP VF VL : Nat → Int32), ts.length = i → p ≤ n → MCo true mc (1100 * set) CN CV CF F → mc.Nodup → Pre cn mc → mc.length ≤ cn.length + i → TR mc o ((257 * set + 256) * 13 + 1) (13 * 256 + 1) LT TP ts → (∀ t ∈ ts, ∃ c, t.1 = Sum.inr c) → At6 LT LT0 (6 * ((257 * set + 256) * 13 + 1)) → Fc set cn.length CN CV CF CN0 CV0 CF0 → (∀ r, Ends 2 (shf F o) n (3, 0, 0) (gD ps cn w na ts) p r → St r) →
    lw_met_Mo_ground_49 post PF PL PA PS LK LP LQ LA (nI o) (nI (o + n)) F 1 (nI set) (nI 256) 1 (m + 1) (1, nI i, 0, 0, tk, fr, nI (o + p), am, nI mc.length, nI 0, CN, CV, CF, LT, TP, VF, VL) := by
  have n10 : ¬ (1 : Int32) = 0 := by decide
  intro m
  induction m with
  | zero => intro i h1 h2; omega
  | succ m ih =>
    intro i him hi6 ts mc p tk fr am CN CV CF LT TP VF VL hts hp hM hnd hex hml hT hcon a1 hfc hE
    have hpos := TK_pos (shf F o) n p hp
    refine ⟨fun z => absurd z n10, fun _ => ?_⟩
    refine sp_Mo_nextR hs hB.1 hp (fun hbad tk2 fr2 to2 am2 => ?_) (fun tk2 fr2 to2 am2 hC => ?_)
    · exact ⟨fun _ => hF 1 _ _ _ _ _ _ _ _ _ _ _ _ _ _ _ hfc a1 (hE _ (Ends_flt (by rw [step_T, if_pos hbad]))), fun z => absurd rfl z⟩
    obtain ⟨c1, c2, c3, c4, c5⟩ := hC
    subst c2 c3 c4
    refine ⟨fun z => absurd z n10, fun _ => ?_⟩
    -- a constant stands there
    have good : ((TK (shf F o) n p).1 = 2 ∨ (TK (shf F o) n p).1 = 4) → jw_met_Mo_ground_83 post (fun x9 => lw_met_Mo_ground_49 post PF PL PA PS LK LP LQ LA (nI o) (nI (o + n)) F 1 (nI set) (nI 256) 1 (m + 1) x9) (nI i) (mkd (TK (shf F o) n p).1) (nI (o + (TK (shf F o) n p).2.1)) (nI (o + (TK (shf F o) n p).2.2.1)) am2 (nI mc.length) (nI 0) PF PL PA PS CN CV CF LK LP LT LQ TP LA VF VL (nI o) 0 0 (nI set) (nI (o + n)) (nI 256) 1 F () := by
      intro hk
      have h3 : ¬ (TK (shf F o) n p).1 = 3 := by
        rcases hk with e | e <;> rw [e] <;> decide
      have g : isT (TK (shf F o) n p).1 = true := by
        rcases hk with e | e <;> rw [e] <;> decide
      have hgood : ¬ ¬ (isT (TK (shf F o) n p).1 = true ∧ ¬ ((TK (shf F o) n p).1 = 3 ∧ 2 = 2)) := fun z => z ⟨g, fun z2 => h3 z2.1⟩
      have hlt := TK_term_lt hp g
      unfold jw_met_Mo_ground_83
      refine pk_eq i 6 (fun q => ?_) (fun q => ?_)
      · refine sp_Mo_flaw ?_
        rw [pk_sub (by omega), show o + (TK (shf F o) n p).2.1 - o = (TK (shf F o) n p).2.1 by omega]
        exact ⟨Or.inl rfl, hF 3 _ _ _ _ _ _ _ _ _ _ _ _ _ _ _ hfc a1 (hE _ (Ends_flt (by rw [step_T, if_neg c1, if_neg hgood, if_pos (show (gD ps cn w na ts).2.2.1.2.2.2.2.length = 6 from (show ts.length = 6 by omega))])))⟩
      have hl6 : ¬ (gD ps cn w na ts).2.2.1.2.2.2.2.length = 6 := fun z => q (by have : ts.length = 6 := z; omega)
      refine sp_Mo_term (D := gD ps cn w na ts) (md := 2) (k := 1) (cl := 256) (vs := []) hs hB hset (by omega) (by omega) (by omega) hlt hpos.2.2.1 hM (by omega) (fun j x hx => (by cases hx)) (Nat.zero_le _) rfl (fun z => absurd z (by decide)) (hk.elim Or.inl (fun e => Or.inr (Or.inr e))) (fun z => ⟨c5 z, TK_num z⟩) (fun hn u hu => ?_) (fun t mc2 vs2 code CN2 CV2 CF2 VF2 VL2 hmt hTC x1 x2 x3 hM2 hf2 hV2 hv2 => ?_)
      · obtain ⟨u1, u2, u3, u4, u5, u6, u7, u8, u9, u10, u11, u12, u13⟩ := u
        obtain ⟨s1, s2, s3, s4⟩ := hu
        simp only at s1 s2 s3 s4
        subst s1 s2 s3 s4
        exact ⟨fun _ => hF 3 _ _ _ _ _ _ _ _ _ _ _ _ _ _ _ hfc a1 (hE _ (Ends_flt (by rw [step_T, if_neg c1, if_neg hgood, if_neg hl6, hn]))), fun z => absurd rfl z⟩
      obtain ⟨⟨cc0, hcc0⟩, hvs0⟩ := mTerm_con h3 hmt
      obtain rfl : vs2 = [] := hvs0
      have hb2 := hpos.2.2.1
      have stp : mStep 2 (shf F o) n (3, 0, 0) (gD ps cn w na ts) p = .inr (some ((4, 0, 0), gD ps cn w na (ts ++ [(t, (TK (shf F o) n p).2.1)]), (TK (shf F o) n p).2.2.1)) := by
        rw [step_T, if_neg c1, if_neg hgood, if_neg hl6, hmt]
        rfl
      have hE2 : ∀ r, Ends 2 (shf F o) n (4, 0, 0) (gD ps cn w na (ts ++ [(t, (TK (shf F o) n p).2.1)])) (TK (shf F o) n p).2.2.1 r → St r := fun r hr => hE r (Ends_go stp hr)
      have hTR := TR_add (t := (t, (TK (shf F o) n p).2.1)) hT x1 hTC
      have hA1 := At6_add (v := code) a1 (show ts.length < 6 by omega)
      rw [hts] at hTR hA1
      have hfc2 := Fc_trans hfc hf2 (pre_len hex)
      have hnd2 : mc2.Nodup := (x3 ⟨fun z => absurd z (by decide), hnd⟩).2
      have hlen2 : (ts ++ [(t, (TK (shf F o) n p).2.1)]).length = i + 1 := by simp [hts]
      have hex2 : Pre cn mc2 := fun id c z => x1 id c (hex id c z)
      have hcon2 : ∀ t2 ∈ ts ++ [(t, (TK (shf F o) n p).2.1)], ∃ c, t2.1 = Sum.inr c := by
        intro t2 ht2
        rcases List.mem_append.mp ht2 with z | z
        · exact hcon t2 z
        · rw [List.mem_singleton] at z
          rw [z]
          exact ⟨cc0, hcc0⟩
      have hpos2 := TK_pos (shf F o) n (TK (shf F o) n p).2.2.1 hb2
      refine MN_of hs hb2 (fun hbad tk2 fr2 to2 am3 => ?_) (fun tk2 fr2 to2 am3 hC2 => ?_)
      · exact ⟨fun _ => hF 1 _ _ _ _ _ _ _ _ _ _ _ _ _ _ _ hfc2 hA1 (hE2 _ (Ends_flt (by rw [step_TE, if_pos hbad]))), fun z => absurd rfl z⟩
      refine ⟨fun z => absurd z n10, fun _ => ?_⟩
      intro y66 h66
      obtain ⟨d1, d2, d3, d4, d5⟩ := hC2
      subst d2 d3 d4
      by_cases h8 : (TK (shf F o) n (TK (shf F o) n p).2.2.1).1 = 8
      · rw [if_pos ((mk8 _ _ _).mpr h8)] at h66
        rw [h66, nI_1]
        exact ih (i + 1) (by omega) (by omega) (ts ++ [(t, (TK (shf F o) n p).2.1)]) mc2 (TK (shf F o) n (TK (shf F o) n p).2.2.1).2.2.1 _ _ _ _ _ _ _ _ _ _ hlen2 hpos2.2.2.1 hM2 hnd2 hex2 (by omega) hTR hcon2 hA1 hfc2 (fun r hr => hE2 r (Ends_go (by rw [step_TE, if_neg d1, if_pos h8]) hr))
      · rw [if_neg (fun z => h8 ((mk8 _ _ _).mp z))] at h66
        rw [h66, nI_1]
        refine ⟨fun _ => ?_, fun z => absurd rfl z⟩
        refine ⟨fun z => absurd z n10, fun _ => ?_⟩
        refine ⟨fun z => ?_, fun z => ?_⟩
        · have h7 := (mk7 _ _ _).mp z
          have sh : mStep 2 (shf F o) n (4, 0, 0) (gD ps cn w na (ts ++ [(t, (TK (shf F o) n p).2.1)])) (TK (shf F o) n p).2.2.1 = .inr (some ((11, 0, 0), gE ps cn w na (ts ++ [(t, (TK (shf F o) n p).2.1)]), (TK (shf F o) n (TK (shf F o) n p).2.2.1).2.2.1)) := by
            rw [step_TE, if_neg d1, if_neg h8, if_pos h7]
            rfl
          refine ⟨fun z => absurd z n10, fun _ => ?_⟩
          refine sp_Mo_nextR hs hB.1 hpos2.2.2.1 (fun hbad tk2 fr2 to2 am4 => ?_) (fun tk2 fr2 to2 am4 hC4 => ?_)
          · exact ⟨fun _ => hF 1 _ _ _ _ _ _ _ _ _ _ _ _ _ _ _ hfc2 hA1 (hE2 _ (Ends_go sh (Ends_flt (step_bad (by decide) (by decide) hbad)))), fun z => absurd rfl z⟩
          · refine ⟨fun z => absurd z n10, fun _ => ?_⟩
            rw [← hlen2]
            exact gr_162 hs hQ hF hpos2.2.2.1 hC4 hM2 hnd2 hex2 (by omega) hTR (by omega) hcon2 hA1 hfc2 (fun r hr => hE2 r (Ends_go sh hr))
        · refine sp_Mo_cannot (by omega) ?_
          exact ⟨Or.inl rfl, hF 2 _ _ _ _ _ _ _ _ _ _ _ _ _ _ _ hfc2 hA1 (hE2 _ (Ends_flt (by rw [step_TE, if_neg d1, if_neg h8, if_neg (fun w => z ((mk7 _ _ _).mpr w))])))⟩
    have mk3 : mkd (TK (shf F o) n p).1 = 3 ↔ (TK (shf F o) n p).1 = 4 := by
      rcases TK_kinds (shf F o) n p with c | c | c | c | c | c | c | c | c | c | c | c | c | c | c | c | c <;> rw [c] <;> decide
    refine ⟨fun z => good (Or.inl ((mk1 _ _ _).mp z)), fun z => ?_⟩
    refine ⟨fun z2 => good (Or.inr (mk3.mp z2)), fun z2 => ?_⟩
    refine sp_Mo_cannot (by omega) ?_
    refine ⟨Or.inl rfl, hF 2 _ _ _ _ _ _ _ _ _ _ _ _ _ _ _ hfc a1 (hE _ (Ends_flt ?_))⟩
    rw [step_T, if_neg c1, if_pos]
    rintro ⟨g1, g2⟩
    rcases isT_or g1 with e | e | e
    · exact z ((mk1 _ _ _).mpr e)
    · exact g2 ⟨e, rfl⟩
    · exact z2 (mk3.mpr e)
theorem sp_Mo_ground {tk fr to wc wp : Int32} {am : Int64} {TP VF VL : Nat → Int32} (hs : o + n ≤ 196608) (hB : TxOk 2 set o n F) (hset : set < 2) (hcn : cn.length ≤ 1000) (hC : Cur (shf F o) n o 0 tk fr to am) (hM : MCo false cn (1100 * set) CN0 CV0 CF0 F) (hnd : cn.Nodup) (hP : PR set ps PF PL PS F)
    (h0 : ∀ (c q : Nat) tk fr to am cA vr CN CV CF LK2 LP2 LT LQ2 TP LA VF VL, (∀ j, ¬ j = (257 * set + 256) * 13 + 1 → LK2 j = LK j ∧ LP2 j = LP j) → Fc set cn.length CN CV CF CN0 CV0 CF0 → At6 LT LT0 (6 * ((257 * set + 256) * 13 + 1)) → Ends 2 (shf F o) n (1, 0, 0) (D00 ps cn) 0 (.inl (c, q)) → post 0 (nI c, nI q, tk, fr, to, am, cA, vr, PF, PL, PA, PS, CN, CV, CF, LK2, LP2, LT, LQ2, TP, LA, VF, VL))
    (h1 : ∀ w na ts mc code tk fr to am vr CN CV CF LT TP VF VL, PC 2 ps w code → MCo true mc (1100 * set) CN CV CF F → mc.Nodup → Pre cn mc → mc.length ≤ cn.length + 6 → TR mc o ((257 * set + 256) * 13 + 1) (13 * 256 + 1) LT TP ts → ts.length ≤ 6 → (∀ t ∈ ts, ∃ c, t.1 = Sum.inr c) → At6 LT LT0 (6 * ((257 * set + 256) * 13 + 1)) → Fc set cn.length CN CV CF CN0 CV0 CF0 → na ≤ n → Ends 2 (shf F o) n (1, 0, 0) (D00 ps cn) 0 (.inr (gE ps cn w na ts)) → post 1 (0, 0, tk, fr, to, am, nI mc.length, vr, PF, PL, PA, PS, CN, CV, CF, upd LK ((257 * set + 256) * 13 + 1) 0, upd LP ((257 * set + 256) * 13 + 1) code, LT, upd LQ (13 * 256 + 1) (nI (o + na)), TP, upd LA (13 * 256 + 1) (nI ts.length), VF, VL)) :
    wp_met_Mo_ground post 0 0 (nI set) (nI o) (nI (o + n)) tk fr to am (nI 256) 1 (nI cn.length) (nI 0) F PF PL PA PS CN0 CV0 CF0 LK LP LT0 LQ TP LA VF VL := by
  have n10 : ¬ (1 : Int32) = 0 := by decide
  have hpos := TK_pos (shf F o) n 0 (Nat.zero_le _)
  obtain ⟨c1, c2, c3, c4, c5⟩ := hC
  subst c2 c3 c4
  have key : ∀ {a b : Nat}, (TK (shf F o) n 0).1 = 2 → a = (TK (shf F o) n 0).2.1 → b = (TK (shf F o) n 0).2.2.1 - (TK (shf F o) n 0).2.1 → True := fun _ _ _ => trivial
  refine ⟨fun z => ?_, fun z => ?_⟩
  · have k2 := (mk1 _ _ _).mp z
    have hlt : (TK (shf F o) n 0).2.1 < (TK (shf F o) n 0).2.2.1 := TK_term_lt (Nat.zero_le _) (by rw [k2]; decide)
    have hto : nI (o + (TK (shf F o) n 0).2.2.1) = nI (o + (TK (shf F o) n 0).2.1 + ((TK (shf F o) n 0).2.2.1 - (TK (shf F o) n 0).2.1)) := by
      rw [show o + (TK (shf F o) n 0).2.1 + ((TK (shf F o) n 0).2.2.1 - (TK (shf F o) n 0).2.1) = o + (TK (shf F o) n 0).2.2.1 by omega]
    generalize hwe : sl (shf F o) (TK (shf F o) n 0).2.1 ((TK (shf F o) n 0).2.2.1 - (TK (shf F o) n 0).2.1) = wn
    have st1 : mStep 2 (shf F o) n (1, 0, 0) (D00 ps cn) 0 = .inr (some ((2, 0, 0), gD ps cn wn (TK (shf F o) n 0).2.1 [], (TK (shf F o) n 0).2.2.1)) := by
      rw [step_1, if_neg c1, if_neg (fun w => w k2)]
      unfold mName
      rw [hwe]
      rfl
    have nm := sp_Mo_name (md := 2) (k := 1) (cl := 256) (set := set) (o := o) (n := n) (kind := 0) (fc := 0) (fp := 0) (LK := LK) (LP := LP) (LQ := LQ) (PA := PA) (a := (TK (shf F o) n 0).2.1) (m := (TK (shf F o) n 0).2.2.1 - (TK (shf F o) n 0).2.1) (post := fun r10 u9 => match u9 with
      | (o1, o2, o3, o4, o5, o6, o7, o8, o9) => ((r10 = 0 → (post 0 (o1, o2, mkd (TK (shf F o) n 0).1, nI (o + (TK (shf F o) n 0).2.1), nI (o + (TK (shf F o) n 0).2.2.1), am, nI cn.length, nI 0, o3, o4, o5, o6, CN0, CV0, CF0, o7, o8, LT0, o9, TP, LA, VF, VL))) ∧ (¬ (r10 = 0) → (wp_met_Mo_next (fun r17 u9 => match u9 with | (o11, o12, o13, o14, o15, o16) => (((r17 = 0 → (post 0 (o11, o12, o13, o14, o15, o16, nI cn.length, nI 0, o3, o4, o5, o6, CN0, CV0, CF0, o7, o8, LT0, o9, TP, LA, VF, VL))) ∧ (¬ (r17 = 0) → (∀ y18 : Int32, y18 = (if o13 = 5 then 1 else 0) → (∃ n9 : Nat, lw_met_Mo_ground_49 post o3 o4 o5 o6 o7 o8 o9 LA (nI o) (nI (o + n)) F y18 (nI set) (nI 256) 1 n9 (y18, 0, o11, o12, o13, o14, o15, o16, nI cn.length, nI 0, CN0, CV0, CF0, LT0, TP, VF, VL))))))) o1 o2 (nI o) (nI (o + n)) (nI (o + (TK (shf F o) n 0).2.2.1)) am F)))) hs hB.2 hset (by omega) (by omega) (by omega) hP.1 hP.2.1 hP.2.2 (fun hn => by cases hn) (fun ps2 PF2 PL2 PA2 PS2 code hmp hpc hM2 hl2 hs2 hof hf2 hpa => ?_)
    · rw [← hto] at nm
      exact nm
    · rcases hpa with ⟨rfl, rfl, rfl, rfl⟩ | ⟨w, -⟩
      · rw [hwe] at hpc
        obtain rfl : PS2 = PS := by
          funext j
          by_cases g : j = set
          · rw [g, hs2, hP.2.2]
          · exact hof j g
        refine ⟨fun z => absurd z n10, fun _ => ?_⟩
        have hpos2 := TK_pos (shf F o) n (TK (shf F o) n 0).2.2.1 hpos.2.2.1
        have hoff : ∀ j, ¬ j = (257 * set + 256) * 13 + 1 → upd LK ((257 * set + 256) * 13 + 1) 0 j = LK j ∧ upd LP ((257 * set + 256) * 13 + 1) code j = LP j := fun j hj => ⟨upd_ne hj, upd_ne hj⟩
        have hFd : GdF post set cn PF2 PL2 PA2 PS2 (upd LK ((257 * set + 256) * 13 + 1) 0) (upd LP ((257 * set + 256) * 13 + 1) code) (upd LQ (13 * 256 + 1) (nI (o + (TK (shf F o) n 0).2.1))) CN0 CV0 CF0 LT0 (fun r => Ends 2 (shf F o) n (1, 0, 0) (D00 ps2 cn) 0 r) := fun c q tk fr to am cA vr CN CV CF LT TP LA VF VL f1 f2 f3 => h0 c q tk fr to am cA vr CN CV CF _ _ LT _ TP LA VF VL hoff f1 f2 f3
        have hQd : GdQ post o set F ps2 cn wn (TK (shf F o) n 0).2.1 PF2 PL2 PA2 PS2 (upd LK ((257 * set + 256) * 13 + 1) 0) (upd LP ((257 * set + 256) * 13 + 1) code) (upd LQ (13 * 256 + 1) (nI (o + (TK (shf F o) n 0).2.1))) LA CN0 CV0 CF0 LT0 (fun r => Ends 2 (shf F o) n (1, 0, 0) (D00 ps2 cn) 0 r) := fun ts mc tk fr to am vr CN CV CF LT TP VF VL g1 g2 g3 g4 g5 g6 g7 g8 g9 g10 => h1 wn _ ts mc code tk fr to am vr CN CV CF LT TP VF VL hpc g1 g2 g3 g4 g5 g6 g7 g8 g9 (by omega) g10
        have st2 : mStep 2 (shf F o) n (2, 0, 0) (gD ps2 cn wn (TK (shf F o) n 0).2.1 []) (TK (shf F o) n 0).2.2.1 = if (TK (shf F o) n (TK (shf F o) n 0).2.2.1).1 = 6 then .inr (some ((3, 0, 0), gD ps2 cn wn (TK (shf F o) n 0).2.1 [], (TK (shf F o) n (TK (shf F o) n 0).2.2.1).2.2.1)) else .inr (some ((11, 0, 0), gE ps2 cn wn (TK (shf F o) n 0).2.1 [], (TK (shf F o) n 0).2.2.1)) := by
          unfold mStep
          rfl
        refine sp_Mo_nextR hs hB.1 hpos.2.2.1 (fun hbad tk2 fr2 to2 am2 => ?_) (fun tk2 fr2 to2 am2 hC2 => ?_)
        · refine ⟨fun _ => ?_, fun z => absurd rfl z⟩
          refine hFd 1 _ _ _ _ _ _ _ _ _ _ _ _ _ _ _ Fc_refl (fun _ _ => rfl) (Ends_go st1 (Ends_go (by rw [st2, if_neg (by rw [hbad]; decide)]) (Ends_flt (by rw [step_11, if_pos hbad]))))
        · refine ⟨fun z => absurd z n10, fun _ => ?_⟩
          intro y18 h18
          have hC3 := hC2
          obtain ⟨d1, d2, d3, d4, d5⟩ := hC2
          by_cases k6 : (TK (shf F o) n (TK (shf F o) n 0).2.2.1).1 = 6
          · rw [d2, if_pos ((mk6 _ _ _).mpr k6)] at h18
            subst h18 d4
            exact ⟨_, gr_lp hs hB hset hcn hQd hFd 7 0 (by omega) (by omega) [] cn _ _ _ _ _ _ _ _ _ _ _ rfl hpos2.2.2.1 (MCo_true hM) hnd Pre_refl (by omega) (fun j t h => by cases j <;> cases h) (fun t ht => by cases ht) (fun _ _ => rfl) Fc_refl (fun r hr => Ends_go st1 (Ends_go (by rw [st2, if_pos k6]) hr))⟩
          · rw [d2, if_neg (fun w => k6 ((mk6 _ _ _).mp w))] at h18
            subst h18
            refine ⟨1, ?_⟩
            refine ⟨fun _ => ?_, fun z => absurd rfl z⟩
            refine ⟨fun _ => ?_, fun z => absurd rfl z⟩
            refine ⟨fun _ => ?_, fun z => absurd rfl z⟩
            exact gr_162 (ts := []) hs hQd hFd hpos.2.2.1 hC3 (MCo_true hM) hnd Pre_refl (by omega) (fun j t h => by cases j <;> cases h) (by simp) (fun t ht => by cases ht) (fun _ _ => rfl) Fc_refl (fun r hr => Ends_go st1 (Ends_go (by rw [st2, if_neg k6]) hr))
      · exact absurd w (by decide)
  · have k2 : ¬ (TK (shf F o) n 0).1 = 2 := fun w => z ((mk1 _ _ _).mpr w)
    refine sp_Mo_cannot (by omega) ?_
    exact ⟨Or.inl rfl, h0 2 _ _ _ _ _ _ _ _ _ _ _ _ _ _ _ _ _ _ (fun _ _ => ⟨rfl, rfl⟩) Fc_refl (fun _ _ => rfl) (Ends_flt (by rw [step_1, if_neg c1, if_pos k2]))⟩
end Ground
