/-! pure: the class's reader: what a body's name was -/
section S7
variable {md n k x y mc ms stx ptx ctx : Nat} {F : Nat → Int32} {ar rk : Nat → Nat} {q0 : List Wd × List Con} {D : Dt} {kS kP kC : ClassId} {code place an st bz ih fg ns ne po vz vu : Int32} {vS vL : Nat → Int32} {vN : Nat} {vT ND : Nat → Int32} {oz ou : Int32} {oS oL : Nat → Int32} {oN : Nat} {oT OZ : Nat → Int32} {sz su : Int32} {sS sL : Nat → Int32} {sN : Nat} {sT sV sB : Nat → Int32} {pz pu : Int32} {pS pL : Nat → Int32} {pN : Nat} {pT PZ : Nat → Int32} {cz cu : Int32} {cS cL : Nat → Int32} {cN : Nat} {cT cV cB : Nat → Int32} {tz tl : Int32} {FF K P Pl Z M TT : Nat → Int32}
theorem st_7 {post : (Int32 × Int32 × Int32 × Int32 × Int32 × Int32 × (Nat → Int32) × (Nat → Int32) × Nat × ClassId × Nat × (Nat → Int32) × (Nat → Int32) × (Nat → Int32) × Int32 × Int32 × (Nat → Int32) × (Nat → Int32) × Nat × ClassId × Nat × (Nat → Int32) × Int32 × Int32 × (Nat → Int32) × (Nat → Int32) × Nat × ClassId × Nat × (Nat → Int32) × (Nat → Int32) × (Nat → Int32) × Int32 × (Nat → Int32) × (Nat → Int32) × (Nat → Int32) × (Nat → Int32) × (Nat → Int32) × (Nat → Int32) × Nat × Nat) → Prop} (hmd : md < 4) (hn : n ≤ 20480) (hF : ∀ j, j < n → byt (F j)) (hmc : 1 ≤ mc) (hms : 40960 ≤ ms) (h : RdQ md n F ar rk q0 (7, x, y) D k code place an st bz ih fg ns ne po vz vu vS vL vN vT ND oz ou oS oL oN oT OZ sz su sS sL sN sT sV sB pz pu pS pL pN pT PZ cz cu cS cL cN cT cV cB tz tl FF K P Pl Z M TT)
    (h0 : ∀ e, mStep md F n (7, x, y) D k = .inl e → ∀ fg2 sz2 su2 tl2 K2 P2 Pl2 Z2 M2 TT2, (∃ sd, CB 2 sd sz2 su2 sS sL sN sT sV sB) → post (nI e.1, nI e.2, 12, fg2, sz2, su2, sS, sL, stx, kS, sN, sT, sV, sB, pz, pu, pS, pL, ptx, kP, pN, pT, cz, cu, cS, cL, ctx, kC, cN, cT, cV, cB, tl2, K2, P2, Pl2, Z2, M2, TT2, 0, 0))
    (h1 : ∀ c2 D2, mStep md F n (7, x, y) D k = .inr (some (c2, D2, k)) → (c2.1 = 2 ∨ c2.1 = 8) → ∀ rk2, (¬ md = 0 → rk2 = rk) → ∀ st2 fg2 sz2 su2 sS2 sL2 stx2 kS2 sN2 sT2 sV2 sB2 pz2 pu2 pS2 pL2 ptx2 kP2 pN2 pT2 cz2 cu2 cS2 cL2 ctx2 kC2 cN2 cT2 cV2 cB2 tl2 K2 P2 Pl2 Z2 M2 TT2 kc ks, RdQ md n F ar rk2 q0 c2 D2 k code place an st2 bz ih fg2 ns ne po vz vu vS vL vN vT ND oz ou oS oL oN oT OZ sz2 su2 sS2 sL2 sN2 sT2 sV2 sB2 pz2 pu2 pS2 pL2 pN2 pT2 PZ cz2 cu2 cS2 cL2 cN2 cT2 cV2 cB2 tz tl2 FF K2 P2 Pl2 Z2 M2 TT2 → cst (sN + pN + cN) (sN2 + pN2 + cN2) kc ks → post (code, place, st2, fg2, sz2, su2, sS2, sL2, stx2, kS2, sN2, sT2, sV2, sB2, pz2, pu2, pS2, pL2, ptx2, kP2, pN2, pT2, cz2, cu2, cS2, cL2, ctx2, kC2, cN2, cT2, cV2, cB2, tl2, K2, P2, Pl2, Z2, M2, TT2, kc, ks)) : wp_met_Re_decideName post mc ms 2 2 sN 2 2 64 64 pN 1000 1000 cN 1000 1000 (rmo md) (rmo md) (rmo md) (rmo md) (rmo md) (6 * rmo md) stx ptx ctx code place (nI md) fg ns ne (TK F n k).1 F sz su sS sL sT sV sB pz pu pS pL pT cz cu cS cL cT cV cB tl K P Pl Z M TT kS kP kC := by
  obtain ⟨hM, hq, hst, ⟨gv, gv2⟩, ⟨ows, o1, ⟨o2, o22⟩, o3⟩, ⟨sd, s1, s2⟩, ⟨p1, p2⟩, ⟨c1, c2⟩, ⟨t1, t2, t3, t4⟩, ⟨-, -, -, gl, -⟩, ⟨b1, b2⟩, gw⟩ := h
  have p2 : md = 0 → tot D.2.2.2.2.1 ≤ x := p2
  have c2 : md = 0 → tot (D.2.2.2.2.2.map (·.1)) ≤ x := c2
  obtain ⟨hV, htv⟩ := gv (show ¬ (7 : Nat) = 0 by decide)
  have hV' : VQ md k D.2.2.2.1 D.2.1 vz vu an po vS vL vN vT ND := hV
  obtain ⟨l5, l6⟩ := gl rfl
  have l5' : ns = nI x := l5
  have l6' : ne = nI y := l6
  have o2' : tot ows ≤ x := o2
  have hxy : x < y ∧ y ≤ k := hM.1.2 rfl
  have hpk : k ≤ n := hM.1.1
  obtain ⟨a1, a6⟩ := RdQ_atm hM
  have hoi : tkS (F x) = true ∧ (md = 0 → ¬ D.2.1 = []) ∧ D.2.1.length < lim md ∧ ∀ z ∈ sl F x (y - x), tkW z = true := hM.2.2.1
  have hroom := Lc_room hM (show ¬ (7 : Nat) = 0 by decide) hoi.2.2.1
  have htl : tl = nI (Lc D).length := t2 (show ¬ (7 : Nat) = 11 by decide)
  subst htl l5' l6'
  have hrm : rmo md < 100000 := by
    unfold rmo
    split <;> omega
  have hm3 : ¬ md = 3 := fun z => by
    have w : (7 : Nat) = 1 ∨ (7 : Nat) = 11 := hM.2.2.2.2.1.2.2.2.2.1 z
    omega
  have hih := b2 (show ¬ (7 : Nat) = 0 by decide) (show ¬ (7 : Nat) = 5 by decide)
  obtain ⟨m, hm⟩ : ∃ m, y = x + m := ⟨y - x, by omega⟩
  have em : y - x = m := by omega
  have hlw : (sl F x m).length = m := sl_len _ _ _
  have gbx : ∀ (c2 : Ct) l2 vs2 ps2 cn2, opb c2 = 1 → GB md c2 (D.1, D.2.1, l2, vs2, ps2, cn2) bz ih := fun c2 l2 vs2 ps2 cn2 e => ⟨fun z1 z2 => by
      obtain ⟨b, d1, d2⟩ := b1 z1 (show ¬ (7 : Nat) = 0 by decide)
      have d3 : b + 1 = D.2.1.length + 1 + sf md := d2
      refine ⟨b, d1, ?_⟩
      rw [e]
      exact d3, fun z1 z2 => hih⟩
  intro r1 hr1
  by_cases hk : (11 : Int32) ≤ (TK F n k).1
  · have e1 : r1 = 1 := by
      rw [hr1, if_neg (fun z => Int32.not_lt.mpr hk z)]
    subst e1
    refine ⟨fun z => absurd z (by decide), fun _ => ?_⟩
    refine sp_Cl_open (i := (Lc D).length) hroom (by omega) ?_
    dsimp only
    intro y36 h36
    rw [pk_sub (by omega), em] at h36
    subst h36
    refine ⟨mc, ms, by omega, by omega, ?_⟩
    have hS0 := CB_clear s1
    refine sp_Re_addSideConstant (cn := D.2.2.2.2.2) (rk := rk) (sd := []) (c := (sl F x m, 0)) (i := (Lc D).length) (l := (11, [], x, 0, [])) (K := upd K (Lc D).length 11) hmd c1 hS0 (Nat.zero_le _) (by omega) (fun j hj => hF j (by omega)) c2 (Nat.zero_le _) (by rfl) hroom hrm LQ_open (by show (0 : Nat) < 6; omega) hmc hms (fun e => ?_) (fun cn2 e rk2 sd2 sz2 su2 SS2 SL2 stx2 kS2 nTs2 ST2 SV2 SB2 pz2 pu2 S2 L2 pt2 kT2 nT2 T2 V2 BR2 Z2 M2 TT2 kc ks q1 q2 q3 q4 q5 q6 q66 q7 q8 q9 => ?_)
    · refine h0 (3, x) ?_ _ _ _ _ _ _ _ _ _ _ ⟨_, hS0⟩
      rw [step_7, if_pos hk]
      unfold mTerm
      dsimp only
      rw [if_neg (by decide), if_neg (by decide), em, e]
    · have eS2 : mStep md F n (7, x, y) D k = .inr (some ((8, 0, 0), (D.1, D.2.1, pushT (11, [], x, 0, []) (Sum.inr (sl F x m, 0), x), D.2.2.2.1, D.2.2.2.2.1, cn2), k)) := by
        rw [step_7, if_pos hk]
        unfold mTerm
        dsimp only
        rw [if_neg (by decide), if_neg (by decide), em, e]
      have hMI := MI_step (by omega) hM eS2
      dsimp only
      rw [Nat.zero_add, Nat.zero_add]
      have hR := cm_RQ (fg := fg) (ns := nI x) (ne := nI y) (q0 := q0) (l0 := D.2.2.1) (vs := D.2.2.2.1) (k := k) (cs := D.1) (ls := D.2.1) (K2 := upd K (Lc D).length 11) (P2 := upd P (Lc D).length (-1)) (Pl2 := upd Pl (Lc D).length (nI x)) (tl := nI ((Lc D).length + 1)) hMI (fun z => by
          rcases mCon_pre e with e9 | ⟨e9, -⟩
          · rw [e9]
            exact hq z
          · exact absurd e9 z) (CnU_of e q2) a6 (VQ_con (VQ_open hV' rfl)) htv (Nat.le_refl _) o1 (by omega) o3 q4 (by omega) q66 (fun z => by rw [q6 z]; unfold sdA; rw [if_neg (by simp)]; rfl) p1 (fun z => by have := p2 z; omega) q1 (fun z => by have := q3 z; omega) t1 rfl t3 t4 ⟨fun j hj => ⟨upd_ne hj, upd_ne hj, upd_ne hj, (q8.1 j hj).1.trans (upd_ne hj), (q8.1 j hj).2.trans (upd_ne hj)⟩, q8.2⟩ q7 (gbx _ _ _ _ _ rfl) gw
      obtain ⟨k1, s1', k2, s2', r1', r2', r3, r4⟩ := q9
      refine h1 _ _ eS2 (Or.inr rfl) rk2 q2 _ _ _ _ _ _ _ _ _ _ _ _ _ _ _ _ _ _ _ _ _ _ _ _ _ _ _ _ _ _ _ _ _ _ _ _ _ kc ks hR ?_
      exact ⟨by have := r1'.1; have := r2'.1; omega, by have := r1'.2.1; have := r2'.2.1; have := r1'.1; have := r2'.1; omega, by have := r1'.2.2; have := r2'.2.2; have := r1'.1; have := r2'.1; omega⟩
  · have e1 : r1 = 0 := by
      rw [hr1, if_pos (Int32.not_le.mp hk)]
    subst e1
    refine ⟨fun _ => ?_, fun z => absurd rfl z⟩
    refine sp_Cl_open (i := (Lc D).length) hroom (by omega) ?_
    dsimp only
    refine ⟨mc, ms, by omega, by omega, ?_⟩
    rw [hm]
    refine sp_Re_namePredicate (i := (Lc D).length) hmd p1 (by omega) (fun j hj => hF j (by omega)) p2 hroom hrm hmc hms (fun e => ?_) (fun ps2 e pz2 pu2 pS2 pL2 ptx2 kP2 pN2 pT2 xx kc ks q1 q2 q3 q4 => ?_)
    · refine h0 (3, x) ?_ _ _ _ _ _ _ _ _ _ _ ⟨_, s1⟩
      rw [step_7, if_neg hk]
      unfold mName
      rw [em, e]
    · have eS2 : mStep md F n (7, x, y) D k = .inr (some ((if md = 3 then 11 else 2, 0, 0), (D.1, D.2.1, (0, sl F x m, x, 0, []), D.2.2.2.1, ps2, D.2.2.2.2.2), k)) := by
        rw [step_7, if_neg hk]
        unfold mName
        rw [em, e]
      have hMI := MI_step (by omega) hM eS2
      dsimp only
      rw [Nat.zero_add, Nat.zero_add]
      have e32 : (if md = 3 then 11 else 2 : Nat) = 2 := if_neg hm3
      have hR := nm_RQ (q0 := q0) (l0 := D.2.2.1) (k := k) (x := xx) (bz := bz) (ih := ih) (tl := nI ((Lc D).length + 1)) (cs := D.1) (ls := D.2.1) (K := upd K (Lc D).length 0) (P := upd P (Lc D).length (-1)) (Pl := upd Pl (Lc D).length (nI x)) (Z := upd Z (Lc D).length 0) (M := upd M (Lc D).length 0) (TT := TT) hmd hMI (fun z => by
          rcases mPred_pre e with e9 | ⟨e9, -, -⟩
          · rw [e9]
            exact hq z
          · exact absurd e9 z) e q1.1 a1 a6 hV' htv (Nat.le_refl _) o1 o2' (by rw [hlw]; omega) o3 s1 q1 (fun z => by have := q2 z; omega) c1 (fun z => by have := c2 z; omega) t1 rfl t3 (fun i l hi => ?_) upd_same upd_same upd_same (fun z => absurd z (by decide)) q3 (gbx _ _ _ _ _ (by rw [e32]; rfl)) gw
      · rw [hlw, ← hm] at hR
        refine h1 _ _ eS2 (Or.inl e32) rk (fun _ => rfl) _ _ _ _ _ _ _ _ _ _ _ _ _ _ _ _ _ _ _ _ _ _ _ _ _ _ _ _ _ _ _ _ _ _ _ _ _ kc ks hR ?_
        exact ⟨by have := q4.1; omega, by have := q4.2.1; have := q4.1; omega, by have := q4.2.2; have := q4.1; omega⟩
      · have hlt2 : i < (Lc D).length := (List.getElem?_eq_some_iff.mp hi).1
        exact CLm_cong (t4 i l hi) (a6 l (List.mem_of_getElem? hi)) (upd_ne (by omega)) (upd_ne (by omega)) (upd_ne (by omega)) (upd_ne (by omega)) (upd_ne (by omega)) (fun _ _ => rfl)
end S7
