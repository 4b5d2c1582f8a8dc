/-! pure: the class's reader: its loop (the program) -/
section RdL
variable {n mc ms T0 : Nat} {F : Nat → Int32} {ar rk0 : Nat → Nat} {q0 : List Wd × List Con} {c0 : Ct} {D0 : Dt}
theorem rd_lp_L {post : (Int32 × Int32 × Int32 × Int32 × Int32 × Int32 × Int32 × Int32 × Int32 × Int32 × Int32 × Int32 × Int32 × (Nat → Int32) × (Nat → Int32) × Nat × ClassId × Nat × (Nat → Int32) × Int32 × Int32 × Int32 × Int32 × Int32 × (Nat → Int32) × Int32 × Int32 × (Nat → Int32) × (Nat → Int32) × Nat × ClassId × Nat × (Nat → Int32) × (Nat → Int32) × Int32 × Int32 × (Nat → Int32) × (Nat → Int32) × Nat × ClassId × Nat × (Nat → Int32) × (Nat → Int32) × (Nat → Int32) × (Nat → Int32) × Int32 × Int32 × (Nat → Int32) × (Nat → Int32) × (Nat → Int32) × (Nat → Int32) × (Nat → Int32) × (Nat → Int32) × (Nat → Int32) × Int32 × Int32 × (Nat → Int32) × (Nat → Int32) × Nat × ClassId × Nat × (Nat → Int32) × (Nat → Int32) × Int32 × Int32 × (Nat → Int32) × (Nat → Int32) × Nat × ClassId × Nat × (Nat → Int32) × (Nat → Int32) × (Nat → Int32) × Nat × Nat) → Prop} (hmd : 0 < 4) (hm0 : 0 = 0) (hn : n ≤ 20480) (hF : ∀ j, j < n → byt (F j)) (hmc : 2000 ≤ mc) (hms : 700000 ≤ ms) (hT0 : T0 ≤ 204800)
    (hI : ∀ {e : Nat × Nat} {rk : Nat → Nat} {an bz ih fg ns ne po vz vu : Int32} {vS vL : Nat → Int32} {vN : Nat} {vT ND : Nat → Int32} {oz ou : Int32} {oS oL : Nat → Int32} {oN : Nat} {oT OZ : Nat → Int32} {sz su : Int32} {sS sL : Nat → Int32} {sN : Nat} {sT sV sB : Nat → Int32} {pz pu : Int32} {pS pL : Nat → Int32} {pN : Nat} {pT PZ : Nat → Int32} {cz cu : Int32} {cS cL : Nat → Int32} {cN : Nat} {cT cV cB : Nat → Int32} {tz tl : Int32} {FF K P Pl Z M TT : Nat → Int32} {vtx : Nat} {kV : ClassId} {otx : Nat} {kO : ClassId} {stx : Nat} {kS : ClassId} {sR : Nat → Int32} {ptx : Nat} {kP : ClassId} {ctx : Nat} {kC : ClassId} {kc ks : Nat} {kd sa vl sb : Int32}, Ends 0 F n c0 D0 0 (.inl e) → (¬ 0 = 0 → rk = rk0) → RF 0 ar rk q0 vz vu vS vL vN vT oz ou oS oL oN oT sz su sS sL sN sT sV sB pz pu pS pL pN pT PZ cz cu cS cL cN cT cV cB → FF 0 = 0 → cst T0 (vN + oN + sN + pN + cN) kc ks → post (nI e.1, nI e.2, an, 0, 12, bz, ih, fg, ns, ne, po, vz, vu, vS, vL, vtx, kV, vN, vT, kd, sa, sb, vl, nI n, ND, oz, ou, oS, oL, otx, kO, oN, oT, OZ, sz, su, sS, sL, stx, kS, sN, sT, sV, sB, sR, tz, tl, FF, K, P, Pl, Z, M, TT, pz, pu, pS, pL, ptx, kP, pN, pT, PZ, cz, cu, cS, cL, ctx, kC, cN, cT, cV, cB, kc, ks))
    (hE : ∀ {c : Ct} {D : Dt} {k : Nat} {rk : Nat → Nat} {code place an st bz ih fg ns ne po vz vu : Int32} {vS vL : Nat → Int32} {vN : Nat} {vT ND : Nat → Int32} {oz ou : Int32} {oS oL : Nat → Int32} {oN : Nat} {oT OZ : Nat → Int32} {sz su : Int32} {sS sL : Nat → Int32} {sN : Nat} {sT sV sB : Nat → Int32} {pz pu : Int32} {pS pL : Nat → Int32} {pN : Nat} {pT PZ : Nat → Int32} {cz cu : Int32} {cS cL : Nat → Int32} {cN : Nat} {cT cV cB : Nat → Int32} {tz tl : Int32} {FF K P Pl Z M TT : Nat → Int32} {vtx : Nat} {kV : ClassId} {otx : Nat} {kO : ClassId} {stx : Nat} {kS : ClassId} {sR : Nat → Int32} {ptx : Nat} {kP : ClassId} {ctx : Nat} {kC : ClassId} {kc ks : Nat} {kd sa vl sb code2 place2 tz2 : Int32} {FF2 : Nat → Int32}, Ends 0 F n c0 D0 0 (.inr D) → (¬ 0 = 0 → rk = rk0) → RdQ 0 n F ar rk q0 c D k code place an st bz ih fg ns ne po vz vu vS vL vN vT ND oz ou oS oL oN oT OZ sz su sS sL sN sT sV sB pz pu pS pL pN pT PZ cz cu cS cL cN cT cV cB tz tl FF K P Pl Z M TT → FinQ 0 ar c D code place tz FF code2 place2 tz2 FF2 → cst T0 (vN + oN + sN + pN + cN) kc ks → post (code2, place2, an, 0, 12, bz, ih, fg, ns, ne, po, vz, vu, vS, vL, vtx, kV, vN, vT, kd, sa, sb, vl, nI n, ND, oz, ou, oS, oL, otx, kO, oN, oT, OZ, sz, su, sS, sL, stx, kS, sN, sT, sV, sB, sR, tz2, tl, FF2, K, P, Pl, Z, M, TT, pz, pu, pS, pL, ptx, kP, pN, pT, PZ, cz, cu, cS, cL, ctx, kC, cN, cT, cV, cB, kc, ks)) : ∀ f {i : Nat} {c : Ct} {D : Dt} {k : Nat} {rk : Nat → Nat} {code place an st bz ih fg ns ne po vz vu : Int32} {vS vL : Nat → Int32} {vN : Nat} {vT ND : Nat → Int32} {oz ou : Int32} {oS oL : Nat → Int32} {oN : Nat} {oT OZ : Nat → Int32} {sz su : Int32} {sS sL : Nat → Int32} {sN : Nat} {sT sV sB : Nat → Int32} {pz pu : Int32} {pS pL : Nat → Int32} {pN : Nat} {pT PZ : Nat → Int32} {cz cu : Int32} {cS cL : Nat → Int32} {cN : Nat} {cT cV cB : Nat → Int32} {tz tl : Int32} {FF K P Pl Z M TT : Nat → Int32} {vtx : Nat} {kV : ClassId} {otx : Nat} {kO : ClassId} {stx : Nat} {kS : ClassId} {sR : Nat → Int32} {ptx : Nat} {kP : ClassId} {ctx : Nat} {kC : ClassId} {kc ks : Nat} {kd sa vl : Int32}, RdQ 0 n F ar rk q0 c D k code place an st bz ih fg ns ne po vz vu vS vL vN vT ND oz ou oS oL oN oT OZ sz su sS sL sN sT sV sB pz pu pS pL pN pT PZ cz cu cS cL cN cT cV cB tz tl FF K P Pl Z M TT → i ≤ k → n + 2 ≤ i + f → (∀ r, Ends 0 F n c D k r → Ends 0 F n c0 D0 0 r) → (¬ 0 = 0 → rk = rk0) → cst T0 (vN + oN + sN + pN + cN) kc ks → lw_met_Re_read_L_33 post (nI n) (nI n) mc ms 64 64 (rmo 0) (rmo 0) (rmo 0) (rmo 0) (rmo 0) F 12 12 1000 1000 1000 1000 (6 * rmo 0) 12 12 257 2 2 2 2 2 f (nI i, code, place, an, st, bz, ih, fg, ns, ne, po, vz, vu, vS, vL, vtx, kV, vN, vT, kd, sa, nI k, vl, ND, oz, ou, oS, oL, otx, kO, oN, oT, OZ, sz, su, sS, sL, stx, kS, sN, sT, sV, sB, sR, tz, tl, FF, K, P, Pl, Z, M, TT, pz, pu, pS, pL, ptx, kP, pN, pT, PZ, cz, cu, cS, cL, ctx, kC, cN, cT, cV, cB, kc, ks) := by
  intro f
  induction f with
  | zero =>
    intros
    rename_i R hik hf tr hrk hcs
    have := R.1.1.1
    omega
  | succ f IH =>
    intro i c D k rk code place an st bz ih fg ns ne po vz vu vS vL vN vT ND oz ou oS oL oN oT OZ sz su sS sL sN sT sV sB pz pu pS pL pN pT PZ cz cu cS cL cN cT cV cB tz tl FF K P Pl Z M TT vtx kV otx kO stx kS sR ptx kP ctx kC kc ks kd sa vl
    intro R hik hf tr hrk hcs
    have hkn : k ≤ n := R.1.1.1
    have hpos := TK_pos F n k hkn
    have hc11 : c.1 ≤ 11 := R.1.2.2.2.2.1.2.1
    have hst : st = nI c.1 := R.2.2.1
    have hF0 : FF 0 = 0 := RdQ_F0 R
    obtain ⟨g, hg⟩ : ∃ g, f = g + 1 := ⟨f - 1, by omega⟩
    have dn : ∀ {i' : Int32} {code place an bz ih fg ns ne po vz vu : Int32} {vS vL : Nat → Int32} {vN : Nat} {vT ND : Nat → Int32} {oz ou : Int32} {oS oL : Nat → Int32} {oN : Nat} {oT OZ : Nat → Int32} {sz su : Int32} {sS sL : Nat → Int32} {sN : Nat} {sT sV sB : Nat → Int32} {pz pu : Int32} {pS pL : Nat → Int32} {pN : Nat} {pT PZ : Nat → Int32} {cz cu : Int32} {cS cL : Nat → Int32} {cN : Nat} {cT cV cB : Nat → Int32} {tz tl : Int32} {FF K P Pl Z M TT : Nat → Int32} {vtx : Nat} {kV : ClassId} {otx : Nat} {kO : ClassId} {stx : Nat} {kS : ClassId} {sR : Nat → Int32} {ptx : Nat} {kP : ClassId} {ctx : Nat} {kC : ClassId} {kc ks : Nat} {kd sa vl sb : Int32}, post (code, place, an, 0, 12, bz, ih, fg, ns, ne, po, vz, vu, vS, vL, vtx, kV, vN, vT, kd, sa, sb, vl, nI n, ND, oz, ou, oS, oL, otx, kO, oN, oT, OZ, sz, su, sS, sL, stx, kS, sN, sT, sV, sB, sR, tz, tl, FF, K, P, Pl, Z, M, TT, pz, pu, pS, pL, ptx, kP, pN, pT, PZ, cz, cu, cS, cL, ctx, kC, cN, cT, cV, cB, kc, ks) → lw_met_Re_read_L_33 post (nI n) (nI n) mc ms 64 64 (rmo 0) (rmo 0) (rmo 0) (rmo 0) (rmo 0) F 12 12 1000 1000 1000 1000 (6 * rmo 0) 12 12 257 2 2 2 2 2 f (i', code, place, an, 12, bz, ih, fg, ns, ne, po, vz, vu, vS, vL, vtx, kV, vN, vT, kd, sa, sb, vl, ND, oz, ou, oS, oL, otx, kO, oN, oT, OZ, sz, su, sS, sL, stx, kS, sN, sT, sV, sB, sR, tz, tl, FF, K, P, Pl, Z, M, TT, pz, pu, pS, pL, ptx, kP, pN, pT, PZ, cz, cu, cS, cL, ctx, kC, cN, cT, cV, cB, kc, ks) := by
      intros
      rename_i hp
      subst hg
      exact ⟨fun _ => hp, fun _ => ⟨fun _ => hp, fun z => absurd rfl z⟩⟩
    refine pk_lt n i (fun z => absurd z (by omega)) (fun _ => ?_)
    refine ⟨fun z => ?_, fun _ => ?_⟩
    · rw [hst] at z
      have := (nI_eq (b := 12) (by omega) (by omega)).mp z
      omega
    refine sp_To_next (by omega) hkn (fun kd' a' b' vl' hT => ?_)
    obtain ⟨e1, e2, e3, hvl⟩ := TkC_of hT
    subst e1 e2 e3
    have hle0 := RF_le (RdQ_RF R)
    have hb0 := cst_le hcs (N := 204800) (by omega)
    refine ⟨1000, 290000, by omega, by omega, ?_⟩
    refine st_bf hmd hn hF (Nat.le_refl _) (Nat.le_refl _) R ?_ ?_
    · intro e he rk2 hrk2
      intros
      rename_i hRF hc1
      refine ⟨fun z => absurd z (by decide), fun _ => ⟨fun z => absurd z (by decide), fun _ => ⟨fun z => absurd z (by decide), fun _ => ⟨fun z => absurd z (by decide), fun _ => ⟨fun z => absurd z (by decide), fun _ => ⟨fun z => absurd z (by decide), fun _ => ⟨fun z => absurd z (by decide), fun _ => ⟨fun z => absurd z (by decide), fun _ => ⟨fun z => absurd z (by decide), fun _ => ⟨fun z => absurd z (by decide), fun _ => ⟨fun z => absurd z (by decide), fun _ => ⟨fun z => absurd z (by decide), fun _ => ?_⟩⟩⟩⟩⟩⟩⟩⟩⟩⟩⟩⟩
      exact dn (hI (tr _ he) (fun z => (hrk2 z).trans (hrk z)) hRF hF0 (cst_2 hcs hc1 (by omega)))
    · intro c2 D2 ht n7 n26 nk1 rk2 hrk2 code2 place2 st2 fg2 oz2 ou2 oS2 oL2 otx2 kO2 oN2 oT2 OZ2 sz2 su2 sS2 sL2 stx2 kS2 sN2 sT2 sV2 sB2 pz2 pu2 pS2 pL2 ptx2 kP2 pN2 pT2 PZ2 cz2 cu2 cS2 cL2 ctx2 kC2 cN2 cT2 cV2 cB2 tl2 K2 P2 Pl2 Z2 M2 TT2 kc2 ks2 R2 hc1
      have hrk0 : ¬ 0 = 0 → rk2 = rk0 := fun z => (hrk2 z).trans (hrk z)
      have hcc := cst_2 hcs hc1 (b2 := vN + oN2 + sN2 + pN2 + cN2) (by omega)
      have hle := RF_le (RdQ_RF R2)
      have hbb := cst_le hcc (N := 204800) (by omega)
      obtain ⟨r1, r2, r3, r4, r5⟩ := RdQ_RF R2
      have hst2 : st2 = nI c2.1 := R2.2.2.1
      have prg : ∀ {c3 : Ct} {D3 : Dt} {k3 : Nat}, mStep 0 F n c2 D2 k = .inr (some (c3, D3, k3)) → i + 1 ≤ (TK F n k).2.2.1 := by
        intro c3 D3 k3 e
        have q := mStep_prog n7 n26 e
        rcases hpos.2.2.2 with z | z
        · exact absurd z q
        · omega
      have n1 : nI i + 1 = nI (i + 1) := nI_1 i
      have hsh := R2.1.2.2.2.2.1
      have hj := hsh.2.1
      obtain ⟨j, x, y⟩ := c2
      have hxy : x = 0 ∧ y = 0 := by
        rcases hsh.1 with z | z
        · exact ⟨congrArg (fun q : Ct => q.2.1) z, congrArg (fun q : Ct => q.2.2) z⟩
        · exact absurd z n7
      obtain ⟨rfl, rfl⟩ := hxy
      have hj2 : j = 0 ∨ j = 1 ∨ j = 2 ∨ j = 3 ∨ j = 4 ∨ j = 5 ∨ j = 6 ∨ j = 7 ∨ j = 8 ∨ j = 9 ∨ j = 10 ∨ j = 11 := by
        have : j ≤ 11 := hj
        omega
      clear hj
      rcases hj2 with rfl | rfl | rfl | rfl | rfl | rfl | rfl | rfl | rfl | rfl | rfl | rfl
      all_goals subst hst2
      · refine ⟨fun _ => ?_, fun z => absurd rfl z⟩
        refine ⟨1, 40960, by omega, by omega, ?_⟩
        refine st_0 hmd hn hF (Nat.le_refl _) (Nat.le_refl _) nk1 R2 ?_ ?_ ?_
        · intro he
          exact dn (hE (tr _ (ht _ (Ends_end he))) hrk0 R2 (Or.inl ⟨Or.inl rfl, rfl, rfl, rfl, rfl⟩) hcc)
        · intro e he
          intros
          rename_i hws
          exact dn (hI (tr _ (ht _ (Ends_flt he))) hrk0 ⟨hws, r2, r3, r4, r5⟩ hF0 hcc)
        · intro c3 D3 he
          intros
          rename_i R3 hc3
          rw [n1]
          exact IH R3 (prg he) (by omega) (fun r q => tr _ (ht _ (Ends_go he q))) hrk0 (cst_2 hcc hc3 (by omega))
      · refine ⟨fun z => absurd z (by decide), fun _ => ⟨fun _ => ?_, fun z => absurd rfl z⟩⟩
        refine ⟨1, 40960, by omega, by omega, ?_⟩
        refine st_1 hmd hn hF (Nat.le_refl _) (Nat.le_refl _) nk1 R2 ?_ ?_
        · intro e he
          intros
          exact dn (hI (tr _ (ht _ (Ends_flt he))) hrk0 ⟨r1, r2, r3, r4, r5⟩ hF0 hcc)
        · intro c3 D3 he
          intros
          rename_i R3 hc3
          rw [n1]
          exact IH R3 (prg he) (by omega) (fun r q => tr _ (ht _ (Ends_go he q))) hrk0 (cst_2 hcc hc3 (by omega))
      · refine ⟨fun z => absurd z (by decide), fun _ => ⟨fun z => absurd z (by decide), fun _ => ⟨fun _ => ?_, fun z => absurd rfl z⟩⟩⟩
        have k6 := n26 rfl
        have he := step_op (md := 0) (D := D2) k6
        have R3 := op_RQ (x := 2) (y := 3) (Or.inl rfl) (Or.inr (Or.inl rfl)) (by omega) (MI_step (by omega) R2.1 he) R2
        rw [n1]
        exact IH R3 (prg he) (by omega) (fun r q => tr _ (ht _ (Ends_go he q))) hrk0 hcc
      · refine ⟨fun z => absurd z (by decide), fun _ => ⟨fun z => absurd z (by decide), fun _ => ⟨fun z => absurd z (by decide), fun _ => ⟨fun _ => ?_, fun z => absurd rfl z⟩⟩⟩⟩
        refine ⟨1, 40960, by omega, by omega, ?_⟩
        refine st_3 hmd hn hF (Nat.le_refl _) (Nat.le_refl _) nk1 hvl R2 ?_ ?_
        · intro e he
          intros
          exact dn (hI (tr _ (ht _ (Ends_flt he))) hrk0 ⟨r1, r2, r3, r4, r5⟩ hF0 hcc)
        · intro c3 D3 he rk3 hrk3
          intros
          rename_i R3 hc3
          rw [n1]
          exact IH R3 (prg he) (by omega) (fun r q => tr _ (ht _ (Ends_go he q))) (fun z => (hrk3 z).trans (hrk0 z)) (cst_2 hcc hc3 (by omega))
      · refine ⟨fun z => absurd z (by decide), fun _ => ⟨fun z => absurd z (by decide), fun _ => ⟨fun z => absurd z (by decide), fun _ => ⟨fun z => absurd z (by decide), fun _ => ⟨fun _ => ?_, fun z => absurd rfl z⟩⟩⟩⟩⟩
        refine ⟨1, 40960, by omega, by omega, ?_⟩
        refine st_4 hmd hn hF (Nat.le_refl _) (Nat.le_refl _) nk1 R2 ?_ ?_
        · intro e he
          intros
          exact dn (hI (tr _ (ht _ (Ends_flt he))) hrk0 ⟨r1, r2, r3, r4, r5⟩ hF0 hcc)
        · intro c3 D3 he
          intros
          rename_i R3 hc3
          rw [n1]
          exact IH R3 (prg he) (by omega) (fun r q => tr _ (ht _ (Ends_go he q))) hrk0 (cst_2 hcc hc3 (by omega))
      · refine ⟨fun z => absurd z (by decide), fun _ => ⟨fun z => absurd z (by decide), fun _ => ⟨fun z => absurd z (by decide), fun _ => ⟨fun z => absurd z (by decide), fun _ => ⟨fun z => absurd z (by decide), fun _ => ⟨fun _ => ?_, fun z => absurd rfl z⟩⟩⟩⟩⟩⟩
        refine st_5 hn nk1 R2 ?_ ?_
        · intro e he
          intros
          exact dn (hI (tr _ (ht _ (Ends_flt he))) hrk0 ⟨r1, r2, r3, r4, r5⟩ hF0 hcc)
        · intro c3 D3 he
          intros
          rename_i R3
          rw [n1]
          exact IH R3 (prg he) (by omega) (fun r q => tr _ (ht _ (Ends_go he q))) hrk0 hcc
      · refine ⟨fun z => absurd z (by decide), fun _ => ⟨fun z => absurd z (by decide), fun _ => ⟨fun z => absurd z (by decide), fun _ => ⟨fun z => absurd z (by decide), fun _ => ⟨fun z => absurd z (by decide), fun _ => ⟨fun z => absurd z (by decide), fun _ => ⟨fun _ => ?_, fun z => absurd rfl z⟩⟩⟩⟩⟩⟩⟩
        refine ⟨1, 40960, by omega, by omega, ?_⟩
        refine st_6 hmd hn hF (Nat.le_refl _) (Nat.le_refl _) nk1 hvl R2 ?_ ?_
        · intro e he
          intros
          rename_i hss
          exact dn (hI (tr _ (ht _ (Ends_flt he))) hrk0 ⟨r1, r2, hss, r4, r5⟩ hF0 hcc)
        · intro c3 D3 he rk3 hrk3
          intros
          rename_i R3 hc3
          rw [n1]
          exact IH R3 (prg he) (by omega) (fun r q => tr _ (ht _ (Ends_go he q))) (fun z => (hrk3 z).trans (hrk0 z)) (cst_2 hcc hc3 (by omega))
      · exact absurd rfl n7
      · refine ⟨fun z => absurd z (by decide), fun _ => ⟨fun z => absurd z (by decide), fun _ => ⟨fun z => absurd z (by decide), fun _ => ⟨fun z => absurd z (by decide), fun _ => ⟨fun z => absurd z (by decide), fun _ => ⟨fun z => absurd z (by decide), fun _ => ⟨fun z => absurd z (by decide), fun _ => ⟨fun z => absurd z (by decide), fun _ => ⟨fun _ => ?_, fun z => absurd rfl z⟩⟩⟩⟩⟩⟩⟩⟩⟩
        refine st_8 hn nk1 R2 ?_ ?_
        · intro e he
          intros
          exact dn (hI (tr _ (ht _ (Ends_flt he))) hrk0 ⟨r1, r2, r3, r4, r5⟩ hF0 hcc)
        · intro c3 D3 he
          intros
          rename_i R3
          rw [n1]
          exact IH R3 (prg he) (by omega) (fun r q => tr _ (ht _ (Ends_go he q))) hrk0 hcc
      · refine ⟨fun z => absurd z (by decide), fun _ => ⟨fun z => absurd z (by decide), fun _ => ⟨fun z => absurd z (by decide), fun _ => ⟨fun z => absurd z (by decide), fun _ => ⟨fun z => absurd z (by decide), fun _ => ⟨fun z => absurd z (by decide), fun _ => ⟨fun z => absurd z (by decide), fun _ => ⟨fun z => absurd z (by decide), fun _ => ⟨fun z => absurd z (by decide), fun _ => ⟨fun _ => ?_, fun z => absurd rfl z⟩⟩⟩⟩⟩⟩⟩⟩⟩⟩
        refine ⟨1, 40960, by omega, by omega, ?_⟩
        refine st_9 hmd hn hF (Nat.le_refl _) (Nat.le_refl _) nk1 hvl R2 ?_ ?_
        · intro e he
          intros
          exact dn (hI (tr _ (ht _ (Ends_flt he))) hrk0 ⟨r1, r2, r3, r4, r5⟩ hF0 hcc)
        · intro c3 D3 he rk3 hrk3
          intros
          rename_i R3 hc3
          rw [n1]
          exact IH R3 (prg he) (by omega) (fun r q => tr _ (ht _ (Ends_go he q))) (fun z => (hrk3 z).trans (hrk0 z)) (cst_2 hcc hc3 (by omega))
      · refine ⟨fun z => absurd z (by decide), fun _ => ⟨fun z => absurd z (by decide), fun _ => ⟨fun z => absurd z (by decide), fun _ => ⟨fun z => absurd z (by decide), fun _ => ⟨fun z => absurd z (by decide), fun _ => ⟨fun z => absurd z (by decide), fun _ => ⟨fun z => absurd z (by decide), fun _ => ⟨fun z => absurd z (by decide), fun _ => ⟨fun z => absurd z (by decide), fun _ => ⟨fun z => absurd z (by decide), fun _ => ⟨fun _ => ?_, fun z => absurd rfl z⟩⟩⟩⟩⟩⟩⟩⟩⟩⟩⟩
        refine st_10 (nf := 257) hmd (by omega) hn (by have := R2.1.2.2.2.2.2.2.2 (show ¬ (10 : Nat) = 0 by decide); omega) nk1 R2 ?_ ?_ ?_
        · intro he hm1
          intros
          rename_i hW
          exact dn (hE (tr _ (ht _ (Ends_end he))) hrk0 R2 (Or.inr ⟨rfl, hm1, hW, rfl, rfl⟩) hcc)
        · intro e he
          intros
          exact dn (hI (tr _ (ht _ (Ends_flt he))) hrk0 ⟨r1, r2, r3, r4, r5⟩ hF0 hcc)
        · intro c3 D3 he
          intros
          rename_i R3
          rw [n1]
          exact IH R3 (prg he) (by omega) (fun r q => tr _ (ht _ (Ends_go he q))) hrk0 hcc
      · refine ⟨fun z => absurd z (by decide), fun _ => ⟨fun z => absurd z (by decide), fun _ => ⟨fun z => absurd z (by decide), fun _ => ⟨fun z => absurd z (by decide), fun _ => ⟨fun z => absurd z (by decide), fun _ => ⟨fun z => absurd z (by decide), fun _ => ⟨fun z => absurd z (by decide), fun _ => ⟨fun z => absurd z (by decide), fun _ => ⟨fun z => absurd z (by decide), fun _ => ⟨fun z => absurd z (by decide), fun _ => ⟨fun z => absurd z (by decide), fun _ => ⟨fun _ => ?_, fun z => absurd rfl z⟩⟩⟩⟩⟩⟩⟩⟩⟩⟩⟩⟩
        refine st_11 (n := n) (k := k) (D := D2) (md := 0) nk1 ?_ ?_
        · intro he
          exact dn (hE (tr _ (ht _ (Ends_end he))) hrk0 R2 (Or.inl ⟨Or.inr rfl, rfl, rfl, rfl, rfl⟩) hcc)
        · intro e he
          intros
          exact dn (hI (tr _ (ht _ (Ends_flt he))) hrk0 ⟨r1, r2, r3, r4, r5⟩ hF0 hcc)
end RdL
