/-! pure: the class's reader: a literal begins -/
theorem sdT_nil {a : Nat} {t : Tm} : sdT [] t = sdOf (pushT (11, [], a, 0, []) t) := by
  obtain ⟨x, p⟩ := t
  cases x with
  | inl v => rfl
  | inr c =>
    unfold sdT sdA
    dsimp only
    rw [if_neg (by simp)]
    rfl
theorem CnU_rk {md : Nat} {cn cn2 : List Con} {rk rk2 : Nat → Nat} (h : CnU md cn cn2 rk rk2) : (¬ md = 0 → rk2 = rk) ∧ (¬ md = 0 → cn2 = cn) := by
  rcases h with ⟨h0, -⟩ | ⟨-, e1, e2⟩
  · exact ⟨fun z => absurd h0 z, fun z => absurd h0 z⟩
  · exact ⟨fun _ => e2, fun _ => e1⟩
theorem md01 {md n k : Nat} {F : Nat → Int32} {c : Ct} {D : Dt} (hmd : md < 4) (h : MI md n F c D k) (hc : c.1 = 6 ∨ c.1 = 7 ∨ c.1 = 8 ∨ c.1 = 9 ∨ c.1 = 10) : md = 0 ∨ md = 1 := by
  have h2 := h.2.2.2.2.1.2.2.2.1
  have h3 := h.2.2.2.2.1.2.2.2.2.1
  omega
section S6
variable {md n k mc ms vtx stx ctx : Nat} {F : Nat → Int32} {ar rk : Nat → Nat} {q0 : List Wd × List Con} {D : Dt} {kV kS kC : ClassId} {vl : Int32} {code place an st bz ih fg ns ne po vz vu : Int32} {vS vL : Nat → Int32} {vN : Nat} {vT ND : Nat → Int32} {oz ou : Int32} {oS oL : Nat → Int32} {oN : Nat} {oT OZ : Nat → Int32} {sz su : Int32} {sS sL : Nat → Int32} {sN : Nat} {sT sV sB : Nat → Int32} {pz pu : Int32} {pS pL : Nat → Int32} {pN : Nat} {pT PZ : Nat → Int32} {cz cu : Int32} {cS cL : Nat → Int32} {cN : Nat} {cT cV cB : Nat → Int32} {tz tl : Int32} {FF K P Pl Z M TT : Nat → Int32}
theorem st_6 {post : (Int32 × Int32 × Int32 × Int32 × Int32 × Int32 × Int32 × Int32 × Int32 × Int32 × (Nat → Int32) × (Nat → Int32) × Nat × ClassId × Nat × (Nat → Int32) × (Nat → Int32) × Int32 × Int32 × (Nat → Int32) × (Nat → Int32) × Nat × ClassId × Nat × (Nat → Int32) × (Nat → Int32) × (Nat → Int32) × Int32 × Int32 × (Nat → Int32) × (Nat → Int32) × Nat × ClassId × Nat × (Nat → Int32) × (Nat → Int32) × (Nat → Int32) × Int32 × (Nat → Int32) × (Nat → Int32) × (Nat → Int32) × (Nat → Int32) × (Nat → Int32) × (Nat → Int32) × Nat × Nat) → Prop} (hmd : md < 4) (hn : n ≤ 20480) (hF : ∀ j, j < n → byt (F j)) (hmc : 1 ≤ mc) (hms : 40960 ≤ ms) (hk1 : ¬ (TK F n k).1 = 1) (hvl : TkC F n k vl) (h : RdQ md n F ar rk q0 (6, 0, 0) D k code place an st bz ih fg ns ne po vz vu vS vL vN vT ND oz ou oS oL oN oT OZ sz su sS sL sN sT sV sB pz pu pS pL pN pT PZ cz cu cS cL cN cT cV cB tz tl FF K P Pl Z M TT)
    (h0 : ∀ e, mStep md F n (6, 0, 0) D k = .inl e → ∀ bz2 sz2 su2 tl2 K2 P2 Pl2 Z2 M2, (∃ sd, CB 2 sd sz2 su2 sS sL sN sT sV sB) → post (nI e.1, nI e.2, an, 12, bz2, ns, ne, po, vz, vu, vS, vL, vtx, kV, vN, vT, ND, sz2, su2, sS, sL, stx, kS, sN, sT, sV, sB, cz, cu, cS, cL, ctx, kC, cN, cT, cV, cB, tl2, K2, P2, Pl2, Z2, M2, TT, 0, 0))
    (h1 : ∀ c2 D2, mStep md F n (6, 0, 0) D k = .inr (some (c2, D2, (TK F n k).2.2.1)) → ∀ rk2, (¬ md = 0 → rk2 = rk) → ∀ an2 st2 bz2 ns2 ne2 po2 vz2 vu2 vS2 vL2 vtx2 kV2 vN2 vT2 ND2 sz2 su2 sS2 sL2 stx2 kS2 sN2 sT2 sV2 sB2 cz2 cu2 cS2 cL2 ctx2 kC2 cN2 cT2 cV2 cB2 tl2 K2 P2 Pl2 Z2 M2 TT2 kc ks, RdQ md n F ar rk2 q0 c2 D2 (TK F n k).2.2.1 code place an2 st2 bz2 ih fg ns2 ne2 po2 vz2 vu2 vS2 vL2 vN2 vT2 ND2 oz ou oS oL oN oT OZ sz2 su2 sS2 sL2 sN2 sT2 sV2 sB2 pz pu pS pL pN pT PZ cz2 cu2 cS2 cL2 cN2 cT2 cV2 cB2 tz tl2 FF K2 P2 Pl2 Z2 M2 TT2 → cst (vN + sN + cN) (vN2 + sN2 + cN2) kc ks → post (code, place, an2, st2, bz2, ns2, ne2, po2, vz2, vu2, vS2, vL2, vtx2, kV2, vN2, vT2, ND2, sz2, su2, sS2, sL2, stx2, kS2, sN2, sT2, sV2, sB2, cz2, cu2, cS2, cL2, ctx2, kC2, cN2, cT2, cV2, cB2, tl2, K2, P2, Pl2, Z2, M2, TT2, kc, ks)) : wp_met_Re_beginLiteral post mc ms 12 12 vN 2 2 sN 2 2 1000 1000 cN 1000 1000 (rmo md) (rmo md) (rmo md) (rmo md) (rmo md) (6 * rmo md) vtx stx ctx code place an (nI md) bz ih ns ne po vz vu vS vL vT (TK F n k).1 (nI (TK F n k).2.1) (nI (TK F n k).2.2.1) vl F ND sz su sS sL sT sV sB cz cu cS cL cT cV cB tl K P Pl Z M TT kV kS kC := by
  have h01 := md01 hmd h.1 (Or.inl rfl)
  obtain ⟨hM, hq, hst, ⟨gv, gv2⟩, ⟨ows, o1, ⟨o2, o22⟩, o3⟩, ⟨sd, s1, s2⟩, ⟨p1, p2⟩, ⟨c1, c2⟩, ⟨t1, t2, t3, t4⟩, -, ⟨b1, b2⟩, gw⟩ := h
  have p2 : md = 0 → tot D.2.2.2.2.1 ≤ k := p2
  have c2 : md = 0 → tot (D.2.2.2.2.2.map (·.1)) ≤ k := c2
  have o2 : tot ows ≤ k := o2
  obtain ⟨hV, htv⟩ := gv (show ¬ (6 : Nat) = 0 by decide)
  have hV' : VQ md k D.2.2.2.1 D.2.1 vz vu an po vS vL vN vT ND := hV
  have hpk : k ≤ n := hM.1.1
  have hpos := TK_pos F n k hpk
  obtain ⟨a1, a6⟩ := RdQ_atm hM
  have hle : D.2.1.length ≤ lim md := hM.2.1.2.2.2.1
  have htl : tl = nI (Lc D).length := t2 (show ¬ (6 : Nat) = 11 by decide)
  obtain ⟨b, hb, hb2⟩ := b1 h01 (show ¬ (6 : Nat) = 0 by decide)
  have hb2 : b + 1 = D.2.1.length + 0 + sf md := hb2
  have hih := b2 (show ¬ (6 : Nat) = 0 by decide) (show ¬ (6 : Nat) = 5 by decide)
  clear b1 b2 gv t2 o22
  subst htl hb
  have hrm : rmo md < 100000 := by
    unfold rmo
    split <;> omega
  have hbl : b ≤ 12 ∧ (b = 12 ↔ D.2.1.length = 12 + (if md = 0 then 1 else 0)) := by
    unfold lim at hle
    unfold sf at hb2
    rcases h01 with z | z
    · rw [if_pos z] at hle hb2 ⊢
      omega
    · have z2 : ¬ md = 0 := by omega
      rw [if_neg z2] at hle hb2 ⊢
      omega
  have gbx : ∀ (c2 : Ct) l2 vs2 ps2 cn2, opb c2 = 1 → GB md c2 (D.1, D.2.1, l2, vs2, ps2, cn2) (nI (b + 1)) ih := fun c2 l2 vs2 ps2 cn2 e => ⟨fun z1 z2 => ⟨b + 1, rfl, by
      rw [e]
      show b + 1 + 1 = D.2.1.length + 1 + sf md
      omega⟩, fun z1 z2 => hih⟩
  have J : ∀ y1, y1 = (if (TK F n k).1 = 5 then (1 : Int32) else 0) → isT (TK F n k).1 = true ∨ (TK F n k).1 = 5 → jw_met_Re_beginLiteral_49 post (nI b) an ns ne po vz vu vS vL vtx kV vN vT ND sz su sS sL stx kS sN sT sV sB cz cu cS cL ctx kC cN cT cV cB (nI (Lc D).length) K P Pl Z M TT (nI (TK F n k).2.1) (TK F n k).1 code place (nI (TK F n k).2.2.1) y1 mc ms 12 12 2 2 2 2 1000 1000 1000 1000 (rmo md) (rmo md) (rmo md) (6 * rmo md) (nI md) ih vl F (rmo md) (rmo md) () := by
    intro y1 hy1 hgood
    refine ⟨fun z => ?_, fun z => ?_⟩
    · have e12 : D.2.1.length = 12 + (if md = 0 then 1 else 0) := hbl.2.mp ((nI_eq (b := 12) (by omega) (by omega)).mp z)
      exact h0 (3, (TK F n k).2.1) (by rw [step_6, if_neg hk1, if_neg (fun z => z hgood), if_pos e12]) _ _ _ _ _ _ _ _ _ ⟨_, s1⟩
    have e12 : ¬ D.2.1.length = 12 + (if md = 0 then 1 else 0) := fun e => z (by rw [hbl.2.mpr e]; rfl)
    have hlt : D.2.1.length < lim md := by
      unfold lim at hle ⊢
      omega
    have hroom := Lc_room hM (show ¬ (6 : Nat) = 0 by decide) hlt
    intro y8 h8
    rw [nI_1] at h8
    subst h8
    have hkk : k ≤ (TK F n k).2.2.1 := by omega
    have hka : k ≤ (TK F n k).2.1 := by omega
    by_cases k2 : (TK F n k).1 = 2
    · refine ⟨fun _ => ?_, fun z => absurd k2 z⟩
      have eS2 : mStep md F n (6, 0, 0) D k = .inr (some ((7, (TK F n k).2.1, (TK F n k).2.2.1), D, (TK F n k).2.2.1)) := by
        rw [step_6, if_neg hk1, if_neg (fun z => z hgood), if_neg e12, if_pos k2]
      have hMI := MI_step (by omega) hM eS2
      refine h1 _ _ eS2 rk (fun _ => rfl) _ _ _ _ _ _ _ _ _ _ _ _ _ _ _ _ _ _ _ _ _ _ _ _ _ _ _ _ _ _ _ _ _ _ _ _ _ _ _ _ _ _ 0 0 ⟨hMI, hq, rfl, ⟨fun _ => ⟨VQ_up hV' hkk, Nat.le_trans htv hkk⟩, gv2⟩, ⟨ows, o1, ⟨Nat.le_trans o2 hka, fun z => ?_⟩, o3⟩, ⟨sd, s1, fun z => ?_⟩, ⟨p1, fun z => Nat.le_trans (p2 z) hka⟩, ⟨c1, fun z => Nat.le_trans (c2 z) hka⟩, ⟨t1, fun _ => rfl, t3, t4⟩, ⟨fun z => ?_, fun z => ?_, fun z => ?_, fun z => ⟨rfl, rfl⟩, fun z => absurd z (by simp)⟩, gbx _ _ _ _ _ rfl, gw⟩ ⟨by omega, by omega, by omega⟩
      · exact absurd z (show ¬ ((7 : Nat) = 2 ∨ (7 : Nat) = 3 ∨ (7 : Nat) = 4) by decide)
      · exact absurd z (show ¬ ((7 : Nat) = 8 ∨ (7 : Nat) = 9) by decide)
      · exact absurd z (show ¬ ((7 : Nat) = 2 ∨ (7 : Nat) = 3 ∨ (7 : Nat) = 4) by decide)
      · exact absurd z (show ¬ ((7 : Nat) = 8 ∨ (7 : Nat) = 9) by decide)
      · exact absurd z (show ¬ (7 : Nat) = 1 by decide)
    refine ⟨fun z => absurd z k2, fun _ => ?_⟩
    by_cases k5 : (TK F n k).1 = 5
    · rw [if_pos k5] at hy1
      subst hy1
      refine ⟨fun z => absurd z (by decide), fun _ => ?_⟩
      refine sp_Cl_open (i := (Lc D).length) hroom (by omega) ?_
      dsimp only
      have eS2 : mStep md F n (6, 0, 0) D k = .inr (some ((1, 0, 0), (D.1, D.2.1, (1, [], 0, (TK F n k).2.1, []), D.2.2.2), (TK F n k).2.2.1)) := by
        rw [step_6, if_neg hk1, if_neg (fun z => z hgood), if_neg e12, if_neg k2, if_pos k5]
      have hMI := MI_step (by omega) hM eS2
      refine h1 _ _ eS2 rk (fun _ => rfl) _ _ _ _ _ _ _ _ _ _ _ _ _ _ _ _ _ _ _ _ _ _ _ _ _ _ _ _ _ _ _ _ _ _ _ _ _ _ _ _ _ _ 0 0 ⟨hMI, hq, rfl, ⟨fun _ => ⟨VQ_up hV' hkk, Nat.le_trans htv hkk⟩, gv2⟩, ⟨ows, o1, ⟨Nat.le_trans o2 hkk, fun z => ?_⟩, o3⟩, ⟨sd, s1, fun z => ?_⟩, ⟨p1, fun z => Nat.le_trans (p2 z) hkk⟩, ⟨c1, fun z => Nat.le_trans (c2 z) hkk⟩, ⟨t1, fun _ => rfl, t3, fun i l hi => ?_⟩, ⟨fun z => ?_, fun z => ?_, fun z => ⟨upd_same, upd_same, upd_same, fun _ => upd_same⟩, fun z => ?_, fun z => absurd z (by simp)⟩, gbx _ _ _ _ _ rfl, gw⟩ ⟨by omega, by omega, by omega⟩
      · exact absurd z (show ¬ ((1 : Nat) = 2 ∨ (1 : Nat) = 3 ∨ (1 : Nat) = 4) by decide)
      · exact absurd z (show ¬ ((1 : Nat) = 8 ∨ (1 : Nat) = 9) by decide)
      · have hlt2 : i < (Lc D).length := (List.getElem?_eq_some_iff.mp hi).1
        exact CLm_cong (t4 i l hi) (a6 l (List.mem_of_getElem? hi)) (upd_ne (by omega)) (upd_ne (by omega)) (upd_ne (by omega)) (upd_ne (by omega)) (upd_ne (by omega)) (fun _ _ => rfl)
      · exact absurd z (show ¬ ((1 : Nat) = 2 ∨ (1 : Nat) = 3 ∨ (1 : Nat) = 4) by decide)
      · exact absurd z (show ¬ ((1 : Nat) = 8 ∨ (1 : Nat) = 9) by decide)
      · exact absurd z (show ¬ (1 : Nat) = 7 by decide)
    rw [if_neg k5] at hy1
    subst hy1
    refine ⟨fun _ => ?_, fun z => absurd rfl z⟩
    have hT : isT (TK F n k).1 = true := by
      rcases hgood with z | z
      · exact z
      · exact absurd z k5
    refine sp_Cl_open (i := (Lc D).length) hroom (by omega) ?_
    dsimp only
    refine ⟨mc, ms, by omega, by omega, ?_⟩
    have hS0 := CB_clear s1
    refine sp_addSide (D := (D.1, D.2.1, (11, [], (TK F n k).2.1, 0, []), D.2.2.2)) (sd := []) (i := (Lc D).length) (rk := rk) hmd hn hF hmc hms hpk hvl hT (VQ_open hV' rfl) htv hih hroom LQ_open (show (0 : Nat) < 6 by omega) c1 c2 hS0 (Nat.zero_le _) (Nat.zero_le _) (fun e => ?_) (fun t vs2 cn2 e rk2 sd2 hU an2 po2 vz2 vu2 vS2 vL2 vtx2 kV2 vN2 vT2 ND2 sz2 su2 sS2 sL2 stx2 kS2 sN2 sT2 sV2 sB2 cz2 cu2 cS2 cL2 ctx2 kC2 cN2 cT2 cV2 cB2 Z2 M2 TT2 kc ks w1 w2 w3 w4 w5 w6 w7 w8 w9 w10 w11 => ?_)
    · refine h0 (3, (TK F n k).2.1) ?_ _ _ _ _ _ _ _ _ _ ⟨_, hS0⟩
      rw [step_6, if_neg hk1, if_neg (fun z => z hgood), if_neg e12, if_neg k2, if_neg k5, e]
    · have eS2 : mStep md F n (6, 0, 0) D k = .inr (some ((8, 0, 0), (D.1, D.2.1, pushT (11, [], (TK F n k).2.1, 0, []) t, vs2, D.2.2.2.2.1, cn2), (TK F n k).2.2.1)) := by
        rw [step_6, if_neg hk1, if_neg (fun z => z hgood), if_neg e12, if_neg k2, if_neg k5, e]
      have hMI := MI_step (by omega) hM eS2
      obtain ⟨u1, u2⟩ := CnU_rk hU
      dsimp only
      rw [Nat.zero_add, Nat.zero_add]
      have hR := cm_RQ (fg := fg) (ns := ns) (ne := ne) (q0 := q0) (l0 := D.2.2.1) (vs := D.2.2.2.1) (k := (TK F n k).2.1) (cs := D.1) (ls := D.2.1) (K2 := upd K (Lc D).length 11) (P2 := upd P (Lc D).length (-1)) (Pl2 := upd Pl (Lc D).length (nI (TK F n k).2.1)) (tl := nI ((Lc D).length + 1)) hMI (fun z => by
          rw [u2 z]
          exact hq z) hU a6 w1 w2 (by omega) o1 (by omega) o3 w5 w6 w7 (fun z => by rw [w8 z]; exact sdT_nil) p1 (fun z => by have := p2 z; omega) w3 w4 t1 rfl t3 t4 ⟨fun j hj => ⟨upd_ne hj, upd_ne hj, upd_ne hj, (w10.1 j hj).1.trans (upd_ne hj), (w10.1 j hj).2.trans (upd_ne hj)⟩, w10.2⟩ w9 (gbx _ _ _ _ _ rfl) gw
      exact h1 _ _ eS2 rk2 u1 _ _ _ _ _ _ _ _ _ _ _ _ _ _ _ _ _ _ _ _ _ _ _ _ _ _ _ _ _ _ _ _ _ _ _ _ _ _ _ _ _ _ kc ks hR w11
  intro y1 hy1
  by_cases k5 : (TK F n k).1 = 5
  · have e1 : y1 = 1 := by rw [hy1, if_pos k5]
    refine ⟨fun z => absurd (e1.symm.trans z) (by decide), fun _ => J y1 hy1 (Or.inr k5)⟩
  · have e1 : y1 = 0 := by rw [hy1, if_neg k5]
    refine ⟨fun _ => ?_, fun z => absurd e1 z⟩
    intro r3 hr3
    by_cases hT : isT (TK F n k).1 = true
    · refine ⟨fun z => ?_, fun _ => J y1 hy1 (Or.inl hT)⟩
      refine ⟨fun _ => J y1 hy1 (Or.inl hT), fun z3 => ?_⟩
      rcases isT_or hT with q | q | q
      · rw [if_pos q] at hr3
        rw [hr3] at z
        exact absurd z (by decide)
      · exact absurd q z3
      · rw [q] at hr3
        rw [hr3] at z
        exact absurd z (by decide)
    · have n2 : ¬ (TK F n k).1 = 2 := fun z => hT (by rw [z]; rfl)
      have n3 : ¬ (TK F n k).1 = 3 := fun z => hT (by rw [z]; rfl)
      have n4 : ¬ (TK F n k).1 = 4 := fun z => hT (by rw [z]; rfl)
      rw [if_neg n2, if_neg n4] at hr3
      refine ⟨fun _ => ⟨fun z => absurd z n3, fun _ => ?_⟩, fun z => absurd hr3 z⟩
      refine h0 (2, (TK F n k).2.1) ?_ _ _ _ _ _ _ _ _ _ ⟨_, s1⟩
      rw [step_6, if_neg hk1, if_pos (fun z => z.elim hT k5)]
end S6
