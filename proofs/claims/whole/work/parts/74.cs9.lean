/-! pure: the class's reader: the right side of a comparison -/
section S9
variable {md n k k2 a mc ms vtx stx ctx : Nat} {F : Nat → Int32} {ar rk rk2 : Nat → Nat} {q0 : List Wd × List Con} {D : Dt} {l2 : Lt} {vs2 : List (Option Wd)} {cn2 sd2 : List Con} {kV kS kC : ClassId} {vl : Int32} {sR : Nat → Int32} {code place an st bz ih fg ns ne po vz vu : Int32} {vS vL : Nat → Int32} {vN : Nat} {vT ND : Nat → Int32} {oz ou : Int32} {oS oL : Nat → Int32} {oN : Nat} {oT OZ : Nat → Int32} {sz su : Int32} {sS sL : Nat → Int32} {sN : Nat} {sT sV sB : Nat → Int32} {pz pu : Int32} {pS pL : Nat → Int32} {pN : Nat} {pT PZ : Nat → Int32} {cz cu : Int32} {cS cL : Nat → Int32} {cN : Nat} {cT cV cB : Nat → Int32} {tz tl : Int32} {FF K P Pl Z M TT : Nat → Int32}
theorem cr_RQ {an2 po2 vz2 vu2 : Int32} {vS2 vL2 : Nat → Int32} {vN2 : Nat} {vT2 ND2 : Nat → Int32} {sz2 su2 : Int32} {sS2 sL2 : Nat → Int32} {sN2 : Nat} {sT2 sV2 sB2 : Nat → Int32} {cz2 cu2 : Int32} {cS2 cL2 : Nat → Int32} {cN2 : Nat} {cT2 cV2 cB2 Z2 M2 TT2 : Nat → Int32} (h : RdQ md n F ar rk q0 (9, 0, 0) D k code place an st bz ih fg ns ne po vz vu vS vL vN vT ND oz ou oS oL oN oT OZ sz su sS sL sN sT sV sB pz pu pS pL pN pT PZ cz cu cS cL cN cT cV cB tz tl FF K P Pl Z M TT) (hmd : md < 4) (hMI : MI md n F (10, 0, 0) (D.1, D.2.1 ++ [l2], l2, vs2, D.2.2.2.2.1, cn2) k2) (hU : CnU md D.2.2.2.2.2 cn2 rk rk2) (hA : ¬ isA l2) (hV : VQ md a vs2 (D.2.1 ++ [l2]) vz2 vu2 an2 po2 vS2 vL2 vN2 vT2 ND2) (htv : tot (vs2.map gdw) ≤ k2) (ha : a ≤ k2) (hk : k ≤ k2) (hC : CBr 1000 cn2 rk2 cz2 cu2 cS2 cL2 cN2 cT2 cV2 cB2) (htc : md = 0 → tot (cn2.map (·.1)) ≤ k2) (hS : CB 2 sd2 sz2 su2 sS2 sL2 sN2 sT2 sV2 sB2) (hf : FrL (Lc D).length Z2 Z M2 M TT2 TT) (hcl : CLm md D.2.2.2.2.1 cn2 rk2 (Lc D).length l2 K P Pl Z2 M2 TT2) : RdQ md n F ar rk2 q0 (10, 0, 0) (D.1, D.2.1 ++ [l2], l2, vs2, D.2.2.2.2.1, cn2) k2 code place an2 10 bz ih fg ns ne po2 vz2 vu2 vS2 vL2 vN2 vT2 ND2 oz ou oS oL oN oT OZ sz2 su2 sS2 sL2 sN2 sT2 sV2 sB2 pz pu pS pL pN pT PZ cz2 cu2 cS2 cL2 cN2 cT2 cV2 cB2 tz tl FF K P Pl Z2 M2 TT2 := by
  have h01 := md01 hmd h.1 (Or.inr (Or.inr (Or.inr (Or.inl rfl))))
  have hoB : oB md F D := h.1.2.2.1
  obtain ⟨u1, u2⟩ := CnU_rk hU
  obtain ⟨hM, hq, hst, ⟨gv, gv2⟩, ⟨ows, o1, ⟨o2, o22⟩, o3⟩, ⟨sd, s1, s2⟩, ⟨p1, p2⟩, ⟨c1, c2⟩, ⟨t1, t2, t3, t4⟩, -, ⟨b1, b2⟩, gw⟩ := h
  have p2 : md = 0 → tot D.2.2.2.2.1 ≤ k := p2
  have o2 : tot ows ≤ k := o2
  have htl : tl = nI ((Lc D).length + 1) := t2 (show ¬ (9 : Nat) = 11 by decide)
  obtain ⟨a1, a6⟩ := RdQ_atm hM
  have eL : Lc (D.1, D.2.1 ++ [l2], l2, vs2, D.2.2.2.2.1, cn2) = Lc D ++ [l2] := Lc_push
  have hih := b2 (show ¬ (9 : Nat) = 0 by decide) (show ¬ (9 : Nat) = 5 by decide)
  have hpl : 1 ≤ D.2.1.length + sf md := by
    unfold sf
    rcases h01 with z | z
    · have := hoB.2.2.2.1 z
      rcases Nat.eq_zero_or_pos D.2.1.length with w | w
      · exact absurd (List.eq_nil_of_length_eq_zero w) this
      · omega
    · rw [if_neg (show ¬ md = 0 by omega)]
      omega
  have hlen : (D.2.1 ++ [l2]).length = D.2.1.length + 1 := by simp
  refine ⟨hMI, fun z => ?_, rfl, ⟨fun _ => ⟨VQ_up hV ha, htv⟩, ⟨_, hV.1⟩⟩, ⟨ows, o1, ⟨Nat.le_trans o2 hk, fun z => ?_⟩, ?_⟩, ⟨sd2, hS, fun z => ?_⟩, ⟨p1, fun z => Nat.le_trans (p2 z) hk⟩, ⟨hC, htc⟩, ⟨t1, fun _ => ?_, t3, fun i l hi => ?_⟩, ⟨fun z => ?_, fun z => ?_, fun z => ?_, fun z => ?_, fun z => absurd z (by simp)⟩, ⟨fun z1 z2 => ?_, fun z1 z2 => ?_⟩, ?_⟩
  · show (D.2.2.2.2.1, cn2) = q0
    rw [u2 z]
    exact hq z
  · exact absurd z (show ¬ ((10 : Nat) = 2 ∨ (10 : Nat) = 3 ∨ (10 : Nat) = 4) by decide)
  · rw [eL]
    exact SzQ_no o3 (fun _ z => absurd z hA) (fun _ z => absurd z hA)
  · exact absurd z (show ¬ ((10 : Nat) = 8 ∨ (10 : Nat) = 9) by decide)
  · rw [eL, htl, List.length_append]
    rfl
  · rw [eL] at hi
    rcases app1.mp hi with q | ⟨q1, q2⟩
    · exact FrA_cl hU a6 (FrA_L hf) t4 i l q
    · subst q2
      rw [q1]
      exact hcl
  · exact absurd z (show ¬ ((10 : Nat) = 2 ∨ (10 : Nat) = 3 ∨ (10 : Nat) = 4) by decide)
  · exact absurd z (show ¬ ((10 : Nat) = 8 ∨ (10 : Nat) = 9) by decide)
  · exact absurd z (show ¬ (10 : Nat) = 1 by decide)
  · exact absurd z (show ¬ (10 : Nat) = 7 by decide)
  · obtain ⟨b, d1, d2⟩ := b1 z1 (show ¬ (9 : Nat) = 0 by decide)
    have d3 : b + 1 = D.2.1.length + 1 + sf md := d2
    refine ⟨b, d1, ?_⟩
    show b + 1 = (D.2.1 ++ [l2]).length + 0 + sf md
    rw [hlen]
    exact d3
  · refine Or.inl ⟨?_, ?_⟩
    · rcases hih with z | z
      · exact z.1
      · have := z.2
        omega
    · show 1 ≤ (D.2.1 ++ [l2]).length + sf md
      rw [hlen]
      omega
  · exact WRc_iff gw (fun c p => (WN_cmp hA).symm)
theorem st_9 {post : (Int32 × Int32 × Int32 × Int32 × Int32 × Int32 × Int32 × (Nat → Int32) × (Nat → Int32) × Nat × ClassId × Nat × (Nat → Int32) × (Nat → Int32) × Int32 × Int32 × (Nat → Int32) × (Nat → Int32) × Nat × ClassId × Nat × (Nat → Int32) × (Nat → Int32) × (Nat → Int32) × (Nat → Int32) × Int32 × Int32 × (Nat → Int32) × (Nat → Int32) × Nat × ClassId × Nat × (Nat → Int32) × (Nat → Int32) × (Nat → Int32) × (Nat → Int32) × (Nat → Int32) × (Nat → Int32) × Nat × Nat) → Prop} (hmd : md < 4) (hn : n ≤ 20480) (hF : ∀ j, j < n → byt (F j)) (hmc : 1 ≤ mc) (hms : 40960 ≤ ms) (hk1 : ¬ (TK F n k).1 = 1) (hvl : TkC F n k vl) (h : RdQ md n F ar rk q0 (9, 0, 0) D k code place an st bz ih fg ns ne po vz vu vS vL vN vT ND oz ou oS oL oN oT OZ sz su sS sL sN sT sV sB pz pu pS pL pN pT PZ cz cu cS cL cN cT cV cB tz tl FF K P Pl Z M TT)
    (h0 : ∀ e, mStep md F n (9, 0, 0) D k = .inl e → ∀ sR2 TT2, post (nI e.1, nI e.2, an, 12, po, vz, vu, vS, vL, vtx, kV, vN, vT, ND, sz, su, sS, sL, stx, kS, sN, sT, sV, sB, sR2, cz, cu, cS, cL, ctx, kC, cN, cT, cV, cB, Z, M, TT2, 0, 0))
    (h1 : ∀ c2 D2, mStep md F n (9, 0, 0) D k = .inr (some (c2, D2, (TK F n k).2.2.1)) → ∀ rk2, (¬ md = 0 → rk2 = rk) → ∀ an2 po2 vz2 vu2 vS2 vL2 vtx2 kV2 vN2 vT2 ND2 sz2 su2 sS2 sL2 stx2 kS2 sN2 sT2 sV2 sB2 sR2 cz2 cu2 cS2 cL2 ctx2 kC2 cN2 cT2 cV2 cB2 Z2 M2 TT2 kc ks, RdQ md n F ar rk2 q0 c2 D2 (TK F n k).2.2.1 code place an2 10 bz ih fg ns ne po2 vz2 vu2 vS2 vL2 vN2 vT2 ND2 oz ou oS oL oN oT OZ sz2 su2 sS2 sL2 sN2 sT2 sV2 sB2 pz pu pS pL pN pT PZ cz2 cu2 cS2 cL2 cN2 cT2 cV2 cB2 tz tl FF K P Pl Z2 M2 TT2 → cst (vN + sN + cN) (vN2 + sN2 + cN2) kc ks → post (code, place, an2, 10, po2, vz2, vu2, vS2, vL2, vtx2, kV2, vN2, vT2, ND2, sz2, su2, sS2, sL2, stx2, kS2, sN2, sT2, sV2, sB2, sR2, cz2, cu2, cS2, cL2, ctx2, kC2, cN2, cT2, cV2, cB2, Z2, M2, TT2, kc, ks)) : wp_met_Re_readRightSide post mc ms 12 12 vN 2 2 sN 2 2 2 1000 1000 cN 1000 1000 (rmo md) (rmo md) (rmo md) (6 * rmo md) vtx stx ctx code place an (nI md) ih po vz vu vS vL vT (TK F n k).1 (nI (TK F n k).2.1) (nI (TK F n k).2.2.1) vl F ND sz su sS sL sT sV sB sR cz cu cS cL cT cV cB tl K Z M TT kV kS kC := by
  have hh := h
  have h01 := md01 hmd h.1 (Or.inr (Or.inr (Or.inr (Or.inl rfl))))
  have hoB : oB md F D := h.1.2.2.1
  have hroom := Lc_room h.1 (show ¬ (9 : Nat) = 0 by decide) hoB.2.2.2.2
  obtain ⟨hM, hq, hst, ⟨gv, gv2⟩, -, ⟨sd, s1, s2⟩, ⟨p1, p2⟩, ⟨c1, c2⟩, ⟨t1, t2, t3, t4⟩, ⟨-, gl, -, -⟩, ⟨b1, b2⟩, gw⟩ := h
  have c2 : md = 0 → tot (D.2.2.2.2.2.map (·.1)) ≤ k := c2
  obtain ⟨hV, htv⟩ := gv (show ¬ (9 : Nat) = 0 by decide)
  have hV' : VQ md k D.2.2.2.1 (D.2.1 ++ [D.2.2.1]) vz vu an po vS vL vN vT ND := hV
  have l1 := gl (Or.inr rfl)
  obtain ⟨w1, w2, w3⟩ := s2 (Or.inr rfl)
  have hpk : k ≤ n := hM.1.1
  have hpos := TK_pos F n k hpk
  have htl : tl = nI ((Lc D).length + 1) := t2 (show ¬ (9 : Nat) = 11 by decide)
  have hih := b2 (show ¬ (9 : Nat) = 0 by decide) (show ¬ (9 : Nat) = 5 by decide)
  clear b1 b2 gv t2 gl s2
  subst htl
  have hrm : rmo md < 100000 := by
    unfold rmo
    split <;> omega
  obtain ⟨t0, ht0⟩ : ∃ t0, D.2.2.1.2.2.2.2 = [t0] := List.length_eq_one_iff.mp hoB.2.1
  have hk11 : (11 : Int32) ≤ D.2.2.1.1 := hoB.1.1
  have hnoA : ∀ t, ¬ isA (pushT D.2.2.1 t) := fun t z => by
    rcases z with z | z
    · exact ge11 hk11 z
    · have z : D.2.2.1.1 = 1 := z
      rw [z] at hk11
      exact absurd hk11 (by decide)
  have hv16 : ∀ l ∈ D.2.1 ++ [D.2.2.1], ∀ v, occ l v → v < 16 := fun l hl v hv => by
    have := hV'.2.2.2.2 l hl v hv
    have w := hV'.1.1
    rw [List.length_map] at w
    omega
  have J : isT (TK F n k).1 = true → jw_met_Re_readRightSide_26 post mc ms (nI md) (rmo md) 2 2 (6 * rmo md) sR (nI ((Lc D).length + 1)) 12 12 vN 2 2 sN 2 1000 1000 cN 1000 1000 (rmo md) (rmo md) vtx stx ctx code place an ih po vz vu vS vL vT (TK F n k).1 (nI (TK F n k).2.1) (nI (TK F n k).2.2.1) vl F ND sz su sS sL sT sV sB cz cu cS cL cT cV cB K Z M TT kV kS kC () := by
    intro hT
    refine ⟨mc, ms, by omega, by omega, ?_⟩
    refine sp_addSide (D := D) (sd := sd) (i := (Lc D).length) (rk := rk) hmd hn hF hmc hms hpk hvl hT hV' htv hih hroom l1 (by rw [ht0]; show (1 : Nat) < 6; omega) c1 c2 s1 w2 w1 (fun e => ?_) (fun t vs2 cn2 e rk2 sd2 hU an2 po2 vz2 vu2 vS2 vL2 vtx2 kV2 vN2 vT2 ND2 sz2 su2 sS2 sL2 stx2 kS2 sN2 sT2 sV2 sB2 cz2 cu2 cS2 cL2 ctx2 kC2 cN2 cT2 cV2 cB2 Z2 M2 TT2 kc ks x1 x2 x3 x4 x5 x6 x7 x8 x9 x10 x11 => ?_)
    · have eS : mStep md F n (9, 0, 0) D k = .inl (3, (TK F n k).2.1) := by
        rw [step_9, if_neg hk1, if_neg (fun z => z hT), e]
      refine ⟨fun z => ?_, fun _ => h0 _ eS _ _⟩
      have m1 : md = 1 := (nI_eq (b := 1) (by omega) (by omega)).mp z
      intro r49 h49
      rw [nI_pred] at h49
      subst h49
      refine ⟨vp_in_nI hroom (by omega), fun y51 h51 => ?_⟩
      rw [nI_clamp (by omega)] at h51
      refine ⟨fun z51 => ?_, fun _ => h0 _ eS _ _⟩
      have hno : ∀ v, ¬ occ D.2.2.1 v := fun v hv => (MK_z l1.2.2.1).mp (h51.symm.trans z51) v (hv16 _ (by simp) v hv) hv
      have hs1 := sides1 ht0 hno
      rw [← w3 (by omega)] at hs1
      obtain ⟨rks, hrks⟩ := s1.2
      have esz : sz = nI sd.length := by
        rw [s1.1.2.1, List.length_map]
      rw [esz]
      refine sp_compareSides hrks (by omega) (by omega) hroom hrm (fun R2 a b _ _ _ _ => ?_)
      rw [← esz]
      exact h0 _ eS _ _
    · have eS2 : mStep md F n (9, 0, 0) D k = .inr (some ((10, 0, 0), (D.1, D.2.1 ++ [pushT D.2.2.1 t], pushT D.2.2.1 t, vs2, D.2.2.2.2.1, cn2), (TK F n k).2.2.1)) := by
        rw [step_9, if_neg hk1, if_neg (fun z => z hT), e]
      have hMI := MI_step (by omega) hM eS2
      obtain ⟨u1, u2⟩ := CnU_rk hU
      have hv16' : ∀ v, occ (pushT D.2.2.1 t) v → v < 16 := fun v hv => by
        have := x1.2.2.2.2 _ (List.mem_append_right _ (List.mem_singleton.mpr rfl)) v hv
        have w := x1.1.1
        rw [List.length_map] at w
        omega
      have fin : ∀ sR2 TT3, FrL (Lc D).length Z2 Z M2 M TT3 TT → CLm md D.2.2.2.2.1 cn2 rk2 (Lc D).length (pushT D.2.2.1 t) K P Pl Z2 M2 TT3 → post (code, place, an2, 10, po2, vz2, vu2, vS2, vL2, vtx2, kV2, vN2, vT2, ND2, sz2, su2, sS2, sL2, stx2, kS2, sN2, sT2, sV2, sB2, sR2, cz2, cu2, cS2, cL2, ctx2, kC2, cN2, cT2, cV2, cB2, Z2, M2, TT3, kc, ks) := fun sR2 TT3 f1 f2 =>
        h1 _ _ eS2 rk2 u1 _ _ _ _ _ _ _ _ _ _ _ _ _ _ _ _ _ _ _ _ _ _ _ _ _ _ _ _ _ _ _ _ _ _ _ kc ks (cr_RQ hh hmd hMI hU (hnoA t) x1 x2 (by omega) (by omega) x3 x4 x5 f1 f2) x11
      dsimp only
      rw [Nat.zero_add, Nat.zero_add]
      refine ⟨fun z => ?_, fun z => ?_⟩
      · have m1 : md = 1 := (nI_eq (b := 1) (by omega) (by omega)).mp z
        have m0 : ¬ md = 0 := by omega
        have x9' : LQ (cdC cn2 rk2) (Lc D).length (pushT D.2.2.1 t) K Z2 M2 TT2 := by
          unfold Ec at x9
          rw [if_neg m0] at x9
          exact x9
        have two : ∀ c d p q, (pushT D.2.2.1 t).2.2.2.2 = [(Sum.inr c, p), (Sum.inr d, q)] → ∀ v, ¬ occ (pushT D.2.2.1 t) v := by
          rintro c d p q e v ⟨y, hy, ey⟩
          rw [e] at hy
          rcases List.mem_cons.mp hy with z | z
          · rw [z] at ey
            cases ey
          · rw [List.mem_singleton.mp z] at ey
            cases ey
        intro r49 h49
        rw [nI_pred] at h49
        subst h49
        refine ⟨vp_in_nI hroom (by omega), fun y51 h51 => ?_⟩
        rw [nI_clamp (by omega)] at h51
        subst h51
        refine ⟨fun z51 => ?_, fun z51 => ?_⟩
        · have hno : ∀ v, ¬ occ (pushT D.2.2.1 t) v := fun v hv => (MK_z x9.2.2.1).mp z51 v (hv16' v hv) hv
          obtain ⟨c, d, p, q, et0, et, g1, g2, g3, g4⟩ := sides2 ht0 hno
          have esd : sd2 = sdT (sdOf D.2.2.1) t := by
            rw [x8 m0, w3 m0]
          rw [← esd] at g1 g2 g3 g4
          obtain ⟨rks, hrks⟩ := x5.2
          have esz : sz2 = nI sd2.length := by
            rw [x5.1.2.1, List.length_map]
          rw [esz]
          refine sp_compareSides hrks g1 g2 hroom hrm (fun R2 a b ha hb hab1 hab2 => ?_)
          rw [← esz]
          rw [g3, g4] at hab1 hab2
          refine fin _ _ ⟨x10.1, fun j hj => ?_⟩ ?_
          · dsimp only
            rw [upd_ne (by omega), upd_ne (by omega)]
            exact x10.2 j hj
          · unfold CLm
            rw [if_neg m0]
            refine ⟨x9'.1, x9'.2.1, x9'.2.2.1, fun z => absurd z (hnoA t), fun _ => ⟨fun ⟨v, hv⟩ => absurd hv (hno v), fun c' d' p' q' e' => ?_⟩⟩
            have e4 : (pushT D.2.2.1 t).2.2.2.2 = [(Sum.inr c, p), (Sum.inr d, q)] := by
              show D.2.2.1.2.2.2.2 ++ [t] = _
              rw [ht0, et0, et]
              rfl
            rw [e4] at e'
            injection e' with e5 e6
            injection e6 with e7 e8
            injection e5 with e9 e10
            injection e9 with e11
            injection e7 with e12 e13
            injection e12 with e14
            subst e11 e14
            refine ⟨a, b, ha, hb, ?_, upd_same, hab1, hab2⟩
            dsimp only
            rw [upd_ne (by omega)]
            exact upd_same
        · refine fin _ _ x10 ?_
          unfold CLm
          rw [if_neg m0]
          refine ⟨x9'.1, x9'.2.1, x9'.2.2.1, fun z => absurd z (hnoA t), fun _ => ⟨fun _ => x9'.2.2.2, fun c d p q e' => ?_⟩⟩
          exact absurd ((MK_z x9.2.2.1).mpr (fun v _ => two c d p q e' v)) z51
      · have m0 : md = 0 := by
          rcases h01 with z2 | z2
          · exact z2
          · exact absurd (by rw [z2]; rfl) z
        refine fin _ _ x10 ?_
        unfold CLm
        rw [if_pos m0]
        refine ⟨?_, fun z => absurd (Or.inr z) (hnoA t), fun z => absurd z (hnoA t)⟩
        unfold Ec at x9
        rw [if_pos m0] at x9
        exact x9
  intro r1 hr1
  by_cases hT : isT (TK F n k).1 = true
  · refine ⟨fun z => ?_, fun _ => J hT⟩
    refine ⟨fun _ => J hT, fun z3 => ?_⟩
    rcases isT_or hT with q | q | q
    · rw [if_pos q] at hr1
      rw [hr1] at z
      exact absurd z (by decide)
    · exact absurd q z3
    · rw [q] at hr1
      rw [hr1] at z
      exact absurd z (by decide)
  · have n2 : ¬ (TK F n k).1 = 2 := fun z => hT (by rw [z]; rfl)
    have n3 : ¬ (TK F n k).1 = 3 := fun z => hT (by rw [z]; rfl)
    have n4 : ¬ (TK F n k).1 = 4 := fun z => hT (by rw [z]; rfl)
    rw [if_neg n2, if_neg n4] at hr1
    refine ⟨fun _ => ⟨fun z => absurd z n3, fun _ => ?_⟩, fun z => absurd hr1 z⟩
    refine h0 (2, (TK F n k).2.1) ?_ _ _
    rw [step_9, if_neg hk1, if_pos hT]
end S9
