/-! pure: the class's reader: a side of a comparison -/
/-- the sides with a term more -/
def sdT (sd : List Con) (t : Tm) : List Con := match t.1 with
  | .inl _ => sd
  | .inr c => sdA sd c
section SSd
variable {md n k i mc ms vtx stx ctx : Nat} {F : Nat → Int32} {rk : Nat → Nat} {D : Dt} {sd : List Con} {kV kS kC : ClassId} {vl st9 : Int32} {code place an st bz ih fg ns ne po vz vu : Int32} {vS vL : Nat → Int32} {vN : Nat} {vT ND : Nat → Int32} {oz ou : Int32} {oS oL : Nat → Int32} {oN : Nat} {oT OZ : Nat → Int32} {sz su : Int32} {sS sL : Nat → Int32} {sN : Nat} {sT sV sB : Nat → Int32} {pz pu : Int32} {pS pL : Nat → Int32} {pN : Nat} {pT PZ : Nat → Int32} {cz cu : Int32} {cS cL : Nat → Int32} {cN : Nat} {cT cV cB : Nat → Int32} {tz tl : Int32} {FF K P Pl Z M TT : Nat → Int32}
theorem sp_addSide {post : (Int32 × Int32 × Int32 × Int32 × Int32 × Int32 × Int32 × (Nat → Int32) × (Nat → Int32) × Nat × ClassId × Nat × (Nat → Int32) × (Nat → Int32) × Int32 × Int32 × (Nat → Int32) × (Nat → Int32) × Nat × ClassId × Nat × (Nat → Int32) × (Nat → Int32) × (Nat → Int32) × Int32 × Int32 × (Nat → Int32) × (Nat → Int32) × Nat × ClassId × Nat × (Nat → Int32) × (Nat → Int32) × (Nat → Int32) × (Nat → Int32) × (Nat → Int32) × (Nat → Int32) × Nat × Nat) → Prop} (hmd : md < 4) (hn : n ≤ 20480) (hF : ∀ j, j < n → byt (F j)) (hmc : 1 ≤ mc) (hms : 40960 ≤ ms) (hkn : k ≤ n) (hvl : TkC F n k vl) (hT : isT (TK F n k).1 = true)
    (hV : VQ md k D.2.2.2.1 (D.2.1 ++ [D.2.2.1]) vz vu an po vS vL vN vT ND) (htv : tot (D.2.2.2.1.map gdw) ≤ k) (hih : (ih = 0 ∧ 1 ≤ D.2.1.length + sf md) ∨ (ih = 1 ∧ D.2.1.length + sf md = 0)) (hi : i < rmo md) (hL : LQ (Ec md D.2.2.2.2.2 rk) i D.2.2.1 K Z M TT) (h5 : D.2.2.1.2.2.2.2.length < 6)
    (hC : CBr 1000 D.2.2.2.2.2 rk cz cu cS cL cN cT cV cB) (htc : md = 0 → tot (D.2.2.2.2.2.map (·.1)) ≤ k) (hS : CB 2 sd sz su sS sL sN sT sV sB) (hs1 : sd.length ≤ 1) (hts : tot (sd.map (·.1)) ≤ k)
    (h0 : mTerm md F D (TK F n k).1 (TK F n k).2.1 (TK F n k).2.2.1 (TK F n k).2.2.2 = none → post (3, nI (TK F n k).2.1, an, 12, po, vz, vu, vS, vL, vtx, kV, vN, vT, ND, sz, su, sS, sL, stx, kS, sN, sT, sV, sB, cz, cu, cS, cL, ctx, kC, cN, cT, cV, cB, Z, M, TT, 0, 0))
    (h1 : ∀ t vs2 cn2, mTerm md F D (TK F n k).1 (TK F n k).2.1 (TK F n k).2.2.1 (TK F n k).2.2.2 = some (D.1, D.2.1, pushT D.2.2.1 t, vs2, D.2.2.2.2.1, cn2) → ∀ rk2 sd2, CnU md D.2.2.2.2.2 cn2 rk rk2 → ∀ an2 po2 vz2 vu2 vS2 vL2 vtx2 kV2 vN2 vT2 ND2 sz2 su2 sS2 sL2 stx2 kS2 sN2 sT2 sV2 sB2 cz2 cu2 cS2 cL2 ctx2 kC2 cN2 cT2 cV2 cB2 Z2 M2 TT2 kc ks, VQ md (TK F n k).2.1 vs2 (D.2.1 ++ [pushT D.2.2.1 t]) vz2 vu2 an2 po2 vS2 vL2 vN2 vT2 ND2 → tot (vs2.map gdw) ≤ (TK F n k).2.2.1 → CBr 1000 cn2 rk2 cz2 cu2 cS2 cL2 cN2 cT2 cV2 cB2 → (md = 0 → tot (cn2.map (·.1)) ≤ (TK F n k).2.2.1) → CB 2 sd2 sz2 su2 sS2 sL2 sN2 sT2 sV2 sB2 → tot (sd2.map (·.1)) ≤ (TK F n k).2.2.1 → sd2.length ≤ sd.length + 1 → (¬ md = 0 → sd2 = sdT sd t) → LQ (Ec md cn2 rk2) i (pushT D.2.2.1 t) K Z2 M2 TT2 → FrL i Z2 Z M2 M TT2 TT → cst (vN + sN + cN) (vN2 + sN2 + cN2) kc ks → post (code, place, an2, st9, po2, vz2, vu2, vS2, vL2, vtx2, kV2, vN2, vT2, ND2, sz2, su2, sS2, sL2, stx2, kS2, sN2, sT2, sV2, sB2, cz2, cu2, cS2, cL2, ctx2, kC2, cN2, cT2, cV2, cB2, Z2, M2, TT2, kc, ks)) : wp_met_Re_addSide post mc ms 12 12 vN 2 2 sN 2 2 1000 1000 cN 1000 1000 (rmo md) (rmo md) (rmo md) (6 * rmo md) vtx stx ctx st9 code place an (nI md) ih po vz vu vS vL vT (TK F n k).1 (nI (TK F n k).2.1) (nI (TK F n k).2.2.1) vl F ND sz su sS sL sT sV sB cz cu cS cL cT cV cB (nI (i + 1)) K Z M TT kV kS kC := by
  have hpos := TK_pos F n k hkn
  have hrm : rmo md < 100000 := by
    unfold rmo
    split <;> omega
  have hlt : (TK F n k).2.1 < (TK F n k).2.2.1 := by
    rcases hpos.2.2.2 with z | z
    · rw [z] at hT
      exact absurd hT (by decide)
    · exact z
  obtain ⟨m, hm⟩ : ∃ m, (TK F n k).2.2.1 = (TK F n k).2.1 + m := ⟨(TK F n k).2.2.1 - (TK F n k).2.1, by omega⟩
  have em : (TK F n k).2.2.1 - (TK F n k).2.1 = m := by omega
  by_cases k3 : (TK F n k).1 = 3
  · refine ⟨fun _ => ⟨mc, ms, by omega, by omega, ?_⟩, fun z => absurd k3 z⟩
    rw [hm]
    refine sp_Re_addVariable (i := i) (E := Ec md D.2.2.2.2.2 rk) hV (by omega) (by omega) (by omega) (fun j hj => hF j (by omega)) (by omega) hih hi hrm hL h5 hmc hms (fun e => ?_) (fun j vs2 e an2 po2 vz2 vu2 S2 L2 vt2 kT2 nT2 T2 ND2 Z2 M2 TT2 kc ks q1 q2 q3 q4 q5 => ?_)
    · refine h0 ?_
      unfold mTerm
      rw [if_pos k3, em, e]
    · have e2 : mTerm md F D (TK F n k).1 (TK F n k).2.1 (TK F n k).2.2.1 (TK F n k).2.2.2 = some (D.1, D.2.1, pushT D.2.2.1 (Sum.inl j, (TK F n k).2.1), vs2, D.2.2.2.2.1, D.2.2.2.2.2) := by
        unfold mTerm
        rw [if_pos k3, em, e]
      dsimp only
      rw [Nat.zero_add, Nat.zero_add]
      exact h1 _ _ _ e2 rk sd CnU_rf _ _ _ _ _ _ _ _ _ _ _ _ _ _ _ _ _ _ _ _ _ _ _ _ _ _ _ _ _ _ _ _ _ _ kc ks q1 (by omega) hC (fun z => by have := htc z; omega) hS (by omega) (by omega) (fun _ => rfl) q3 q4 ⟨by have := q5.1; omega, by have := q5.2.1; omega, by have := q5.2.2; omega⟩
  · refine ⟨fun z => absurd z k3, fun _ => ?_⟩
    intro r1 hr1
    obtain ⟨m', d, hd1, hd2, hd3, hdm⟩ : ∃ (m' : Nat) (d : Con), r1 = nI m' ∧ (TK F n k).2.1 + m' ≤ (TK F n k).2.2.1 ∧ d = (sl F (TK F n k).2.1 m', vl.toInt) ∧ d = (if (TK F n k).1 = 4 then (([], (TK F n k).2.2.2) : Con) else (sl F (TK F n k).2.1 ((TK F n k).2.2.1 - (TK F n k).2.1), 0)) := by
      by_cases k4 : (TK F n k).1 = 4
      · rw [if_pos k4] at hr1
        exact ⟨0, ([], vl.toInt), hr1, by omega, rfl, by rw [if_pos k4, hvl.1 k4]⟩
      · have k2 : (TK F n k).1 = 2 := by
          rcases isT_or hT with z | z | z
          · exact z
          · exact absurd z k3
          · exact absurd z k4
        rw [if_neg k4, pk_sub (by omega)] at hr1
        exact ⟨_, (sl F (TK F n k).2.1 ((TK F n k).2.2.1 - (TK F n k).2.1), vl.toInt), hr1, by omega, rfl, by rw [if_neg k4, hvl.2 k2]; rfl⟩
    subst hd1
    refine ⟨mc, ms, by omega, by omega, ?_⟩
    refine sp_Re_addSideConstant (cn := D.2.2.2.2.2) (rk := rk) (sd := sd) (c := d) (i := i) (l := D.2.2.1) (K := K) hmd hC hS hs1 (by omega) (fun j hj => hF j (by omega)) (fun z => by have := htc z; omega) (by omega) hd3 hi hrm hL h5 hmc hms (fun e => ?_) (fun cn2 e rk2 sd2 sz2 su2 SS2 SL2 stx2 kS2 nTs2 ST2 SV2 SB2 pz2 pu2 S2 L2 pt2 kT2 nT2 T2 V2 BR2 Z2 M2 TT2 kc ks q1 q2 q3 q4 q5 q6 q66 q7 q8 q9 => ?_)
    · refine h0 ?_
      unfold mTerm
      rw [if_neg k3, ← hdm, e]
    · have e2 : mTerm md F D (TK F n k).1 (TK F n k).2.1 (TK F n k).2.2.1 (TK F n k).2.2.2 = some (D.1, D.2.1, pushT D.2.2.1 (Sum.inr d, (TK F n k).2.1), D.2.2.2.1, D.2.2.2.2.1, cn2) := by
        unfold mTerm
        rw [if_neg k3, ← hdm, e]
      obtain ⟨k1, s1', k2', s2', r1', r2', r3, r4⟩ := q9
      dsimp only
      rw [Nat.zero_add, Nat.zero_add]
      exact h1 _ _ _ e2 rk2 sd2 (CnU_of e q2) _ _ _ _ _ _ _ _ _ _ _ _ _ _ _ _ _ _ _ _ _ _ _ _ _ _ _ _ _ _ _ _ _ _ kc ks (VQ_up (VQ_con hV) (by omega)) (by omega) q1 (fun z => by have := q3 z; omega) q4 (by omega) q66 q6 q7 q8 ⟨by have := r1'.1; have := r2'.1; omega, by have := r1'.2.1; have := r2'.2.1; have := r1'.1; have := r2'.1; omega, by have := r1'.2.2; have := r2'.2.2; have := r1'.1; have := r2'.1; omega⟩
end SSd
