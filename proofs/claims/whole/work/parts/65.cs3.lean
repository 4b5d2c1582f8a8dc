/-! pure: the class's reader: a term of an atom -/
section S3
variable {md n k mc ms vtx ctx : Nat} {F : Nat → Int32} {ar rk : Nat → Nat} {q0 : List Wd × List Con} {c : Ct} {D : Dt} {kV kC : ClassId} {vl : Int32} {code place an st bz ih fg ns ne po vz vu : Int32} {vS vL : Nat → Int32} {vN : Nat} {vT ND : Nat → Int32} {oz ou : Int32} {oS oL : Nat → Int32} {oN : Nat} {oT OZ : Nat → Int32} {sz su : Int32} {sS sL : Nat → Int32} {sN : Nat} {sT sV sB : Nat → Int32} {pz pu : Int32} {pS pL : Nat → Int32} {pN : Nat} {pT PZ : Nat → Int32} {cz cu : Int32} {cS cL : Nat → Int32} {cN : Nat} {cT cV cB : Nat → Int32} {tz tl : Int32} {FF K P Pl Z M TT : Nat → Int32}
theorem FrA_L {i : Nat} {Z2 M2 TT2 : Nat → Int32} (h : FrL i Z2 Z M2 M TT2 TT) : FrA i K K P P Pl Pl Z2 Z M2 M TT2 TT := ⟨fun j hj => ⟨rfl, rfl, rfl, (h.1 j hj).1, (h.1 j hj).2⟩, h.2⟩
theorem st_3 {post : (Int32 × Int32 × Int32 × Int32 × Int32 × Int32 × Int32 × Int32 × (Nat → Int32) × (Nat → Int32) × Nat × ClassId × Nat × (Nat → Int32) × (Nat → Int32) × Int32 × Int32 × (Nat → Int32) × (Nat → Int32) × Nat × ClassId × Nat × (Nat → Int32) × (Nat → Int32) × (Nat → Int32) × (Nat → Int32) × (Nat → Int32) × (Nat → Int32) × Nat × Nat) → Prop} (hmd : md < 4) (hn : n ≤ 20480) (hF : ∀ j, j < n → byt (F j)) (hmc : 1 ≤ mc) (hms : 40960 ≤ ms) (hk1 : ¬ (TK F n k).1 = 1) (hvl : TkC F n k vl) (h : RdQ md n F ar rk q0 (3, 0, 0) D k code place an st bz ih fg ns ne po vz vu vS vL vN vT ND oz ou oS oL oN oT OZ sz su sS sL sN sT sV sB pz pu pS pL pN pT PZ cz cu cS cL cN cT cV cB tz tl FF K P Pl Z M TT)
    (h0 : ∀ e, mStep md F n (3, 0, 0) D k = .inl e → post (nI e.1, nI e.2, an, 12, fg, po, vz, vu, vS, vL, vtx, kV, vN, vT, ND, cz, cu, cS, cL, ctx, kC, cN, cT, cV, cB, Z, M, TT, 0, 0))
    (h1 : ∀ c2 D2, mStep md F n (3, 0, 0) D k = .inr (some (c2, D2, (TK F n k).2.2.1)) → ∀ rk2, (¬ md = 0 → rk2 = rk) → ∀ an2 st2 fg2 po2 vz2 vu2 vS2 vL2 vtx2 kV2 vN2 vT2 ND2 cz2 cu2 cS2 cL2 ctx2 kC2 cN2 cT2 cV2 cB2 Z2 M2 TT2 kc ks, RdQ md n F ar rk2 q0 c2 D2 (TK F n k).2.2.1 code place an2 st2 bz ih fg2 ns ne po2 vz2 vu2 vS2 vL2 vN2 vT2 ND2 oz ou oS oL oN oT OZ sz su sS sL sN sT sV sB pz pu pS pL pN pT PZ cz2 cu2 cS2 cL2 cN2 cT2 cV2 cB2 tz tl FF K P Pl Z2 M2 TT2 → cst (vN + cN) (vN2 + cN2) kc ks → post (code, place, an2, st2, fg2, po2, vz2, vu2, vS2, vL2, vtx2, kV2, vN2, vT2, ND2, cz2, cu2, cS2, cL2, ctx2, kC2, cN2, cT2, cV2, cB2, Z2, M2, TT2, kc, ks)) : wp_met_Re_readTerm post mc ms 12 12 vN 1000 1000 cN 1000 1000 (rmo md) (rmo md) (rmo md) (6 * rmo md) vtx ctx code place an (nI md) ih fg po vz vu vS vL vT (TK F n k).1 (nI (TK F n k).2.1) (nI (TK F n k).2.2.1) vl F ND cz cu cS cL cT cV cB tl K Z M TT kV kC := by
  have hc3 : ((3, 0, 0) : Ct).1 = 2 ∨ ((3, 0, 0) : Ct).1 = 3 ∨ ((3, 0, 0) : Ct).1 = 4 := Or.inr (Or.inl rfl)
  obtain ⟨hM, hq, hst, ⟨gv, gv2⟩, ⟨ows, o1, ⟨o2, o22⟩, o3⟩, ⟨sd, s1, s2⟩, ⟨p1, p2⟩, ⟨c1, c2⟩, ⟨t1, t2, t3, t4⟩, ⟨gl, -, -, -⟩, ⟨b1, b2⟩, gw⟩ := h
  have p2 : md = 0 → tot D.2.2.2.2.1 ≤ k := p2
  have c2 : md = 0 → tot (D.2.2.2.2.2.map (·.1)) ≤ k := c2
  obtain ⟨hV, htv⟩ := gv (by decide)
  have hV' : VQ md k D.2.2.2.1 (D.2.1 ++ [D.2.2.1]) vz vu an po vS vL vN vT ND := hV
  obtain ⟨l1, l2, l3, l4, l5, l6⟩ := gl hc3
  have o2' : tot ows ≤ D.2.2.1.2.2.1 := o2
  have hend := o22 hc3
  have hpk : k ≤ n := hM.1.1
  have hpos := TK_pos F n k hpk
  obtain ⟨a1, a6⟩ := RdQ_atm hM
  have hoA := oi_shut hc3 hM.2.2.1
  have hroom := Lc_room hM (by decide) hoA.2.2.2.2
  have htl : tl = nI ((Lc D).length + 1) := t2 (by decide)
  subst htl l5 l6
  have hrm : rmo md < 100000 := by
    unfold rmo
    split <;> omega
  have hih := b2 (by decide) (by decide)
  have gb : ∀ l2 vs2 cn2, GB md (4, 0, 0) (D.1, D.2.1, l2, vs2, D.2.2.2.2.1, cn2) bz ih := fun l2 vs2 cn2 => ⟨fun z1 z2 => b1 z1 (by decide), fun z1 z2 => hih⟩
  have hsm : ∀ fc, mStep md F n (3, 0, 0) D k = .inl (fc, (TK F n k).2.1) → post (nI fc, nI (TK F n k).2.1, an, 12, fg, po, vz, vu, vS, vL, vtx, kV, vN, vT, ND, cz, cu, cS, cL, ctx, kC, cN, cT, cV, cB, Z, M, TT, 0, 0) := fun fc e => h0 _ e
  intro r1 hr1 y2 hy2
  by_cases hgood : isT (TK F n k).1 = true ∧ ¬ ((TK F n k).1 = 3 ∧ md = 2)
  · have hy : y2 = 1 := by
      rw [hy2, hr1]
      have hT := hgood.1
      unfold isT at hT
      rw [Bool.or_eq_true, Bool.or_eq_true, decide_eq_true_iff, decide_eq_true_iff, decide_eq_true_iff] at hT
      rcases hT with (e | e) | e
      · rw [if_pos e]
        rfl
      · have n2 : ¬ nI md = 2 := fun z => hgood.2 ⟨e, (nI_eq (b := 2) (by omega) (by omega)).mp z⟩
        rw [if_neg (show ¬ (TK F n k).1 = 2 by rw [e]; decide), if_neg (show ¬ (TK F n k).1 = 4 by rw [e]; decide), if_pos rfl, if_pos e, if_neg n2]
      · rw [if_neg (show ¬ (TK F n k).1 = 2 by rw [e]; decide), if_pos e]
        rfl
    subst hy
    refine ⟨fun z => absurd z (by decide), fun _ => ?_⟩
    intro r3 h3
    rw [nI_pred] at h3
    subst h3
    refine ⟨vp_in_nI hroom (by omega), fun y5 h5 => ?_⟩
    rw [nI_clamp (by omega), l1.2.1] at h5
    subst h5
    have hl6 := hoA.2.2.1
    by_cases h6 : D.2.2.1.2.2.2.2.length = 6
    · refine ⟨fun _ => ?_, fun z => absurd (by rw [h6]; rfl) z⟩
      exact hsm 3 (by rw [step_T, if_neg hk1, if_neg (fun z => z hgood), if_pos h6])
    refine ⟨fun z => absurd ((nI_eq (b := 6) (by omega) (by omega)).mp z) h6, fun _ => ?_⟩
    have hlt : (TK F n k).2.1 < (TK F n k).2.2.1 := by
      rcases hpos.2.2.2 with z | z
      · have hT := hgood.1
        rw [z] at hT
        exact absurd hT (by decide)
      · exact z
    obtain ⟨m, hm⟩ : ∃ m, (TK F n k).2.2.1 = (TK F n k).2.1 + m := ⟨(TK F n k).2.2.1 - (TK F n k).2.1, by omega⟩
    have em : (TK F n k).2.2.1 - (TK F n k).2.1 = m := by omega
    by_cases k3 : (TK F n k).1 = 3
    · refine ⟨fun _ => ⟨mc, ms, by omega, by omega, ?_⟩, fun z => absurd k3 z⟩
      have hpc := c1.1
      rw [hm]
      refine sp_Re_addVariable (i := (Lc D).length) (E := Ea md D.2.2.2.2.2 rk) hV' (by omega) (by omega) (by omega) (fun j hj => hF j (by omega)) (by omega) hih hroom hrm l1 (by omega) hmc hms (fun e => ?_) (fun j vs2 e an2 po2 vz2 vu2 S2 L2 vt2 kT2 nT2 T2 ND2 Z2 M2 TT2 kc ks q1 q2 q3 q4 q5 => ?_)
      · refine hsm 3 ?_
        rw [step_T, if_neg hk1, if_neg (fun z => z hgood), if_neg h6]
        unfold mTerm
        rw [if_pos k3, em, e]
      · have eS2 : mStep md F n (3, 0, 0) D k = .inr (some ((4, 0, 0), (D.1, D.2.1, pushT D.2.2.1 (Sum.inl j, (TK F n k).2.1), vs2, D.2.2.2.2.1, D.2.2.2.2.2), (TK F n k).2.2.1)) := by
          rw [step_T, if_neg hk1, if_neg (fun z => z hgood), if_neg h6]
          unfold mTerm
          rw [if_pos k3, em, e]
        have hMI := MI_step (by omega) hM eS2
        dsimp only
        rw [Nat.zero_add, Nat.zero_add]
        refine h1 _ _ eS2 rk (fun _ => rfl) _ _ _ _ _ _ _ _ _ _ _ _ _ _ _ _ _ _ _ _ _ _ _ _ _ _ kc ks (tm_RQ (q0 := q0) (l0 := D.2.2.1) (vs := D.2.2.2.1) (k := (TK F n k).2.1) (cs := D.1) (ls := D.2.1) hMI hq CnU_rf a6 q1 (by omega) (by omega) o1 o2' (by show D.2.2.1.2.2.1 + D.2.2.1.2.1.length ≤ _; omega) o3 s1 p1 (fun z => by have := p2 z; omega) c1 (fun z => by have := c2 z; omega) t1 rfl t3 t4 (FrA_L q4) q3 l2 l3 (by
          rcases l4 with ⟨e1, e2⟩ | ⟨e1, e2⟩
          · exact Or.inl ⟨e1, e2⟩
          · exact Or.inr ⟨e1, e2.elim (fun z => Or.inl ⟨z.1, cIn_pushV.mpr z.2⟩) (fun z => Or.inr ⟨z.1, fun w => z.2 (cIn_pushV.mp w)⟩)⟩) (gb _ _ _) gw) ?_
        exact ⟨by have := q5.1; omega, by have := q5.2.1; omega, by have := q5.2.2; omega⟩
    · refine ⟨fun z => absurd z k3, fun _ => ⟨mc, ms, by omega, by omega, ?_⟩⟩
      obtain ⟨d, hd, hdm⟩ : ∃ d : Con, (((TK F n k).1 = 4 ∧ d = ([], vl.toInt)) ∨ (¬ (TK F n k).1 = 4 ∧ d = (sl F (TK F n k).2.1 ((TK F n k).2.2.1 - (TK F n k).2.1), vl.toInt))) ∧ d = (if (TK F n k).1 = 4 then (([], (TK F n k).2.2.2) : Con) else (sl F (TK F n k).2.1 ((TK F n k).2.2.1 - (TK F n k).2.1), 0)) := by
        by_cases k4 : (TK F n k).1 = 4
        · exact ⟨([], vl.toInt), Or.inl ⟨k4, rfl⟩, by rw [if_pos k4, hvl.1 k4]⟩
        · have k2 : (TK F n k).1 = 2 := by
            rcases isT_or hgood.1 with z | z | z
            · exact z
            · exact absurd z k3
            · exact absurd z k4
          exact ⟨(sl F (TK F n k).2.1 ((TK F n k).2.2.1 - (TK F n k).2.1), vl.toInt), Or.inr ⟨k4, rfl⟩, by rw [if_neg k4, hvl.2 k2]; rfl⟩
      refine sp_Re_addAtomConstant (b := (TK F n k).2.2.1) (c := d) (i := (Lc D).length) hmd c1 (by omega) (by omega) (fun j hj => hF j (by omega)) (fun z => by have := c2 z; omega) hd hroom hrm l1 (by omega) l4 hmc hms (fun e => ?_) (fun cn2 e rk2 fg2 pz2 pu2 S2 L2 pt2 kT2 nT2 T2 V2 BR2 Z2 M2 TT2 kc ks q1 q2 q3 q4 q5 q6 q7 => ?_)
      · refine hsm 3 ?_
        rw [step_T, if_neg hk1, if_neg (fun z => z hgood), if_neg h6]
        unfold mTerm
        rw [if_neg k3, ← hdm, e]
      · have eS2 : mStep md F n (3, 0, 0) D k = .inr (some ((4, 0, 0), (D.1, D.2.1, pushT D.2.2.1 (Sum.inr d, (TK F n k).2.1), D.2.2.2.1, D.2.2.2.2.1, cn2), (TK F n k).2.2.1)) := by
          rw [step_T, if_neg hk1, if_neg (fun z => z hgood), if_neg h6]
          unfold mTerm
          rw [if_neg k3, ← hdm, e]
        have hMI := MI_step (by omega) hM eS2
        dsimp only
        rw [Nat.zero_add, Nat.zero_add]
        refine h1 _ _ eS2 rk2 q2 _ _ _ _ _ _ _ _ _ _ _ _ _ _ _ _ _ _ _ _ _ _ _ _ _ _ kc ks (tm_RQ (q0 := q0) (l0 := D.2.2.1) (vs := D.2.2.2.1) (k := k) (cs := D.1) (ls := D.2.1) hMI (fun z => by
          rcases mCon_pre e with e9 | ⟨e9, -⟩
          · rw [e9]
            exact hq z
          · exact absurd e9 z) (CnU_of e q2) a6 (VQ_con hV') (by omega) (by omega) o1 o2' (by show D.2.2.1.2.2.1 + D.2.2.1.2.1.length ≤ _; omega) o3 s1 p1 (fun z => by have := p2 z; omega) q1 (fun z => by have := q3 z; omega) t1 rfl t3 t4 (FrA_L q5) q4 l2 l3 q6 (gb _ _ _) gw) ?_
        exact ⟨by have := q7.1; omega, by have := q7.2.1; omega, by have := q7.2.2; omega⟩
  · have hy : y2 = 0 := by
      rw [hy2, hr1]
      have n2 : ¬ (TK F n k).1 = 2 := fun z => hgood ⟨by rw [z]; rfl, fun w => by rw [z] at w; exact absurd w.1 (by decide)⟩
      have n4 : ¬ (TK F n k).1 = 4 := fun z => hgood ⟨by rw [z]; rfl, fun w => by rw [z] at w; exact absurd w.1 (by decide)⟩
      rw [if_neg n2, if_neg n4, if_pos rfl]
      by_cases e3 : (TK F n k).1 = 3
      · have e2 : md = 2 := by
          refine Decidable.byContradiction (fun w => hgood ⟨by rw [e3]; rfl, fun z => w z.2⟩)
        rw [if_pos e3, if_pos (show nI md = 2 by rw [e2]; rfl)]
      · rw [if_neg e3]
    subst hy
    refine ⟨fun _ => ?_, fun z => absurd rfl z⟩
    exact hsm 2 (by rw [step_T, if_neg hk1, if_pos hgood])
end S3
