/-! pure: the class's reader: what comes before a token is taken -/
theorem cst_2 {a b a1 b1 k s k1 s1 b2 : Nat} (h : cst a b k s) (h1 : cst a1 b1 k1 s1) (e : b2 + a1 = b + b1) : cst a b2 (k + k1) (s + s1) := by
  obtain ⟨x1, x2, x3⟩ := h
  obtain ⟨y1, y2, y3⟩ := h1
  exact ⟨by omega, by omega, by omega⟩
theorem cst_le {a b k s N : Nat} (h : cst a b k s) (hb : b ≤ N) : 256 * k ≤ N ∧ s ≤ 2 * N := by
  obtain ⟨x1, x2, x3⟩ := h
  exact ⟨by omega, by omega⟩
section MSp
variable {md n k k2 : Nat} {F : Nat → Int32} {c c2 : Ct} {D D2 : Dt}
theorem step_k1 (h7 : ¬ c.1 = 7) (h2 : ¬ c.1 = 2) (hk : (TK F n k).1 = 1) : mStep md F n c D k = .inl (1, (TK F n k).2.1) := by
  unfold mStep
  dsimp only
  rw [if_neg h2, if_neg h7, if_pos hk]
theorem step_sh (h2 : c.1 = 2) (hk : ¬ (TK F n k).1 = 6) : mStep md F n c D k = mShut md D k := by
  unfold mStep
  dsimp only
  rw [if_pos h2, if_neg hk]
theorem step_op (hk : (TK F n k).1 = 6) : mStep md F n (2, 0, 0) D k = .inr (some ((3, 0, 0), D, (TK F n k).2.2.1)) := by
  unfold mStep
  dsimp only
  rw [if_pos rfl, if_pos hk]
theorem mStep_prog (h7 : ¬ c.1 = 7) (h2 : c.1 = 2 → (TK F n k).1 = 6) (h : mStep md F n c D k = .inr (some (c2, D2, k2))) : ¬ (TK F n k).1 = 0 := by
  intro z
  unfold mStep at h
  dsimp only at h
  by_cases e2 : c.1 = 2
  · have := h2 e2
    rw [z] at this
    exact absurd this (by decide)
  rw [if_neg e2, if_neg h7, z, if_neg (by decide)] at h
  by_cases e0 : c.1 = 0
  · rw [if_pos e0, if_pos rfl] at h
    cases h
  rw [if_neg e0] at h
  by_cases e1 : c.1 = 1
  · rw [if_pos e1, if_pos (by decide)] at h
    cases h
  rw [if_neg e1] at h
  by_cases e3 : c.1 = 3
  · rw [if_pos e3, if_pos (fun q => absurd q.1 (by decide))] at h
    cases h
  rw [if_neg e3] at h
  by_cases e4 : c.1 = 4
  · rw [if_pos e4, if_neg (by decide), if_neg (by decide)] at h
    cases h
  rw [if_neg e4] at h
  by_cases e5 : c.1 = 5
  · rw [if_pos e5, if_neg (by decide), if_neg (by decide)] at h
    cases h
  rw [if_neg e5] at h
  by_cases e6 : c.1 = 6
  · rw [if_pos e6, if_pos (by decide)] at h
    cases h
  rw [if_neg e6] at h
  by_cases e8 : c.1 = 8
  · rw [if_pos e8, if_neg (by decide)] at h
    cases h
  rw [if_neg e8] at h
  by_cases e9 : c.1 = 9
  · rw [if_pos e9, if_pos (by decide)] at h
    cases h
  rw [if_neg e9] at h
  by_cases e10 : c.1 = 10
  · rw [if_pos e10, if_neg (by decide), if_neg (fun q => absurd q.2 (by decide))] at h
    by_cases m1 : md = 1
    · rw [if_pos ⟨m1, rfl⟩] at h
      cases h
    · rw [if_neg (fun q => m1 q.1)] at h
      cases h
  rw [if_neg e10, if_pos rfl] at h
  cases h
end MSp
section SBf
variable {md n k mc ms otx stx ptx ctx kc ks : Nat} {F : Nat → Int32} {ar rk : Nat → Nat} {q0 : List Wd × List Con} {c : Ct} {D : Dt} {kO kS kP kC : ClassId} {code place an st bz ih fg ns ne po vz vu : Int32} {vS vL : Nat → Int32} {vN : Nat} {vT ND : Nat → Int32} {oz ou : Int32} {oS oL : Nat → Int32} {oN : Nat} {oT OZ : Nat → Int32} {sz su : Int32} {sS sL : Nat → Int32} {sN : Nat} {sT sV sB : Nat → Int32} {pz pu : Int32} {pS pL : Nat → Int32} {pN : Nat} {pT PZ : Nat → Int32} {cz cu : Int32} {cS cL : Nat → Int32} {cN : Nat} {cT cV cB : Nat → Int32} {tz tl : Int32} {FF K P Pl Z M TT : Nat → Int32}
theorem RF_le (h : RF md ar rk q0 vz vu vS vL vN vT oz ou oS oL oN oT sz su sS sL sN sT sV sB pz pu pS pL pN pT PZ cz cu cS cL cN cT cV cB) : vN ≤ 40960 ∧ oN ≤ 40960 ∧ sN ≤ 40960 ∧ pN ≤ 40960 ∧ cN ≤ 40960 := by
  obtain ⟨⟨_, v⟩, ⟨_, o⟩, ⟨_, s⟩, ⟨_, p, -⟩, ⟨_, _, c, -⟩⟩ := h
  exact ⟨v.2.2.2.2.2.2.1, o.2.2.2.2.2.2.1, s.1.2.2.2.2.2.2.1, p.2.2.2.2.2.2.1, c.1.2.2.2.2.2.2.1⟩
theorem st_C {post : (Int32 × Int32 × Int32 × Int32 × Int32 × Int32 × (Nat → Int32) × (Nat → Int32) × Nat × ClassId × Nat × (Nat → Int32) × (Nat → Int32) × Int32 × Int32 × (Nat → Int32) × (Nat → Int32) × Nat × ClassId × Nat × (Nat → Int32) × (Nat → Int32) × (Nat → Int32) × Int32 × Int32 × (Nat → Int32) × (Nat → Int32) × Nat × ClassId × Nat × (Nat → Int32) × (Nat → Int32) × Int32 × Int32 × (Nat → Int32) × (Nat → Int32) × Nat × ClassId × Nat × (Nat → Int32) × (Nat → Int32) × (Nat → Int32) × Int32 × (Nat → Int32) × (Nat → Int32) × (Nat → Int32) × (Nat → Int32) × (Nat → Int32) × (Nat → Int32) × Nat × Nat) → Prop} (h : RdQ md n F ar rk q0 c D k code place an st bz ih fg ns ne po vz vu vS vL vN vT ND oz ou oS oL oN oT OZ sz su sS sL sN sT sV sB pz pu pS pL pN pT PZ cz cu cS cL cN cT cV cB tz tl FF K P Pl Z M TT) (n7 : ¬ c.1 = 7) (n2 : c.1 = 2 → (TK F n k).1 = 6)
    (h0 : mStep md F n c D k = .inl (1, (TK F n k).2.1) → post (1, nI (TK F n k).2.1, 12, fg, oz, ou, oS, oL, otx, kO, oN, oT, OZ, sz, su, sS, sL, stx, kS, sN, sT, sV, sB, pz, pu, pS, pL, ptx, kP, pN, pT, PZ, cz, cu, cS, cL, ctx, kC, cN, cT, cV, cB, tl, K, P, Pl, Z, M, TT, kc, ks))
    (h1 : ¬ (TK F n k).1 = 1 → post (code, place, st, fg, oz, ou, oS, oL, otx, kO, oN, oT, OZ, sz, su, sS, sL, stx, kS, sN, sT, sV, sB, pz, pu, pS, pL, ptx, kP, pN, pT, PZ, cz, cu, cS, cL, ctx, kC, cN, cT, cV, cB, tl, K, P, Pl, Z, M, TT, kc, ks)) : jw_met_Re_settleBefore_37 post fg sz su sS sL stx kS sN sT sV sB pz pu pS pL ptx kP pN pT cz cu cS cL ctx kC cN cT cV cB tl K Pl Z M TT (TK F n k).1 (nI (TK F n k).2.1) (code, place, st, oz, ou, oS, oL, otx, kO, oN, oT, OZ, PZ, P, kc, ks) := by
  have hc : c.1 ≤ 11 := h.1.2.2.2.2.1.2.1
  have hst : st = nI c.1 := h.2.2.1
  refine ⟨fun z => ?_, fun _ => ⟨fun z => ?_, fun z => h1 z⟩⟩
  · rw [hst] at z
    have := (nI_eq (b := 12) (by omega) (by omega)).mp z
    omega
  · refine h0 (step_k1 n7 (fun z2 => ?_) z)
    have := n2 z2
    rw [z] at this
    exact absurd this (by decide)
theorem st_B {post : (Int32 × Int32 × Int32 × Int32 × Int32 × Int32 × (Nat → Int32) × (Nat → Int32) × Nat × ClassId × Nat × (Nat → Int32) × (Nat → Int32) × Int32 × Int32 × (Nat → Int32) × (Nat → Int32) × Nat × ClassId × Nat × (Nat → Int32) × (Nat → Int32) × (Nat → Int32) × Int32 × Int32 × (Nat → Int32) × (Nat → Int32) × Nat × ClassId × Nat × (Nat → Int32) × (Nat → Int32) × Int32 × Int32 × (Nat → Int32) × (Nat → Int32) × Nat × ClassId × Nat × (Nat → Int32) × (Nat → Int32) × (Nat → Int32) × Int32 × (Nat → Int32) × (Nat → Int32) × (Nat → Int32) × (Nat → Int32) × (Nat → Int32) × (Nat → Int32) × Nat × Nat) → Prop} (hmd : md < 4) (hn : n ≤ 20480) (hF : ∀ j, j < n → byt (F j)) (hmc : kc + 1 ≤ mc) (hms : ks + 40960 ≤ ms) (h : RdQ md n F ar rk q0 c D k code place an st bz ih fg ns ne po vz vu vS vL vN vT ND oz ou oS oL oN oT OZ sz su sS sL sN sT sV sB pz pu pS pL pN pT PZ cz cu cS cL cN cT cV cB tz tl FF K P Pl Z M TT) (n7 : ¬ c.1 = 7)
    (h0 : ∀ e, Ends md F n c D k (.inl e) → ∀ oz2 ou2 oS2 oL2 otx2 kO2 oN2 oT2 OZ2 PZ2 P2 kc2 ks2, RF md ar rk q0 vz vu vS vL vN vT oz2 ou2 oS2 oL2 oN2 oT2 sz su sS sL sN sT sV sB pz pu pS pL pN pT PZ2 cz cu cS cL cN cT cV cB → cst oN oN2 kc2 ks2 → post (nI e.1, nI e.2, 12, fg, oz2, ou2, oS2, oL2, otx2, kO2, oN2, oT2, OZ2, sz, su, sS, sL, stx, kS, sN, sT, sV, sB, pz, pu, pS, pL, ptx, kP, pN, pT, PZ2, cz, cu, cS, cL, ctx, kC, cN, cT, cV, cB, tl, K, P2, Pl, Z, M, TT, kc + kc2, ks + ks2))
    (h1 : ∀ c2 D2, (∀ r, Ends md F n c2 D2 k r → Ends md F n c D k r) → ¬ c2.1 = 7 → (c2.1 = 2 → (TK F n k).1 = 6) → ¬ (TK F n k).1 = 1 → ∀ code2 place2 st2 oz2 ou2 oS2 oL2 otx2 kO2 oN2 oT2 OZ2 PZ2 P2 kc2 ks2, RdQ md n F ar rk q0 c2 D2 k code2 place2 an st2 bz ih fg ns ne po vz vu vS vL vN vT ND oz2 ou2 oS2 oL2 oN2 oT2 OZ2 sz su sS sL sN sT sV sB pz pu pS pL pN pT PZ2 cz cu cS cL cN cT cV cB tz tl FF K P2 Pl Z M TT → cst oN oN2 kc2 ks2 → post (code2, place2, st2, fg, oz2, ou2, oS2, oL2, otx2, kO2, oN2, oT2, OZ2, sz, su, sS, sL, stx, kS, sN, sT, sV, sB, pz, pu, pS, pL, ptx, kP, pN, pT, PZ2, cz, cu, cS, cL, ctx, kC, cN, cT, cV, cB, tl, K, P2, Pl, Z, M, TT, kc + kc2, ks + ks2)) : jw_met_Re_settleBefore_13 post (TK F n k).1 oz ou oS oL otx kO oN oT OZ PZ mc ms 12 12 (rmo md) (rmo md) (nI md) ih ns ne F (nI (TK F n k).2.1) (code, place, st, fg, sz, su, sS, sL, stx, kS, sN, sT, sV, sB, pz, pu, pS, pL, ptx, kP, pN, pT, cz, cu, cS, cL, ctx, kC, cN, cT, cV, cB, tl, K, P, Pl, Z, M, TT, kc, ks) := by
  have hc : c.1 ≤ 11 := h.1.2.2.2.2.1.2.1
  have hst : st = nI c.1 := h.2.2.1
  have plain : (c.1 = 2 → (TK F n k).1 = 6) → jw_met_Re_settleBefore_37 post fg sz su sS sL stx kS sN sT sV sB pz pu pS pL ptx kP pN pT cz cu cS cL ctx kC cN cT cV cB tl K Pl Z M TT (TK F n k).1 (nI (TK F n k).2.1) (code, place, st, oz, ou, oS, oL, otx, kO, oN, oT, OZ, PZ, P, kc, ks) := fun n2 =>
    st_C h n7 n2 (fun e => h0 _ (Ends_flt e) _ _ _ _ _ _ _ _ _ _ _ 0 0 (RdQ_RF h) cst_0) (fun z => h1 c D (fun _ q => q) n7 n2 z _ _ _ _ _ _ _ _ _ _ _ _ _ _ 0 0 h cst_0)
  refine pk_eq c.1 2 (fun e2 => ?_) (fun e2 => plain (fun z => absurd z e2)) hst rfl (by omega) (by omega)
  refine ⟨fun k6 => plain (fun _ => k6), fun k6 => ⟨1, 40960, by omega, by omega, ?_⟩⟩
  refine st_shut hmd hn hF (Nat.le_refl _) (Nat.le_refl _) (Or.inl e2) (Nat.le_refl _) (step_sh e2 k6) h (fun c2 D2 he hc2 code2 place2 st2 oz2 ou2 oS2 oL2 otx2 kO2 oN2 oT2 OZ2 PZ2 P2 kc2 ks2 R hcs => ?_)
  have m7 : ¬ c2.1 = 7 := by
    clear h0 h1 plain
    omega
  have m2 : ¬ c2.1 = 2 := by
    clear h0 h1 plain
    omega
  exact st_C R m7 (fun z => absurd z m2) (fun e => h0 _ (Ends_go he (Ends_flt e)) _ _ _ _ _ _ _ _ _ _ _ _ _ (RdQ_RF R) hcs) (fun z => h1 c2 D2 (fun _ q => Ends_go he q) m7 (fun z => absurd z m2) z _ _ _ _ _ _ _ _ _ _ _ _ _ _ _ _ R hcs)
end SBf
section SBg
variable {md n k mc ms otx stx ptx ctx : Nat} {F : Nat → Int32} {ar rk : Nat → Nat} {q0 : List Wd × List Con} {c : Ct} {D : Dt} {kO kS kP kC : ClassId} {code place an st bz ih fg ns ne po vz vu : Int32} {vS vL : Nat → Int32} {vN : Nat} {vT ND : Nat → Int32} {oz ou : Int32} {oS oL : Nat → Int32} {oN : Nat} {oT OZ : Nat → Int32} {sz su : Int32} {sS sL : Nat → Int32} {sN : Nat} {sT sV sB : Nat → Int32} {pz pu : Int32} {pS pL : Nat → Int32} {pN : Nat} {pT PZ : Nat → Int32} {cz cu : Int32} {cS cL : Nat → Int32} {cN : Nat} {cT cV cB : Nat → Int32} {tz tl : Int32} {FF K P Pl Z M TT : Nat → Int32}
theorem st_bf {post : (Int32 × Int32 × Int32 × Int32 × Int32 × Int32 × (Nat → Int32) × (Nat → Int32) × Nat × ClassId × Nat × (Nat → Int32) × (Nat → Int32) × Int32 × Int32 × (Nat → Int32) × (Nat → Int32) × Nat × ClassId × Nat × (Nat → Int32) × (Nat → Int32) × (Nat → Int32) × Int32 × Int32 × (Nat → Int32) × (Nat → Int32) × Nat × ClassId × Nat × (Nat → Int32) × (Nat → Int32) × Int32 × Int32 × (Nat → Int32) × (Nat → Int32) × Nat × ClassId × Nat × (Nat → Int32) × (Nat → Int32) × (Nat → Int32) × Int32 × (Nat → Int32) × (Nat → Int32) × (Nat → Int32) × (Nat → Int32) × (Nat → Int32) × (Nat → Int32) × Nat × Nat) → Prop} (hmd : md < 4) (hn : n ≤ 20480) (hF : ∀ j, j < n → byt (F j)) (hmc : 1000 ≤ mc) (hms : 290000 ≤ ms) (h : RdQ md n F ar rk q0 c D k code place an st bz ih fg ns ne po vz vu vS vL vN vT ND oz ou oS oL oN oT OZ sz su sS sL sN sT sV sB pz pu pS pL pN pT PZ cz cu cS cL cN cT cV cB tz tl FF K P Pl Z M TT)
    (h0 : ∀ e, Ends md F n c D k (.inl e) → ∀ rk2, (¬ md = 0 → rk2 = rk) → ∀ fg2 oz2 ou2 oS2 oL2 otx2 kO2 oN2 oT2 OZ2 sz2 su2 sS2 sL2 stx2 kS2 sN2 sT2 sV2 sB2 pz2 pu2 pS2 pL2 ptx2 kP2 pN2 pT2 PZ2 cz2 cu2 cS2 cL2 ctx2 kC2 cN2 cT2 cV2 cB2 tl2 K2 P2 Pl2 Z2 M2 TT2 kc2 ks2, RF md ar rk2 q0 vz vu vS vL vN vT oz2 ou2 oS2 oL2 oN2 oT2 sz2 su2 sS2 sL2 sN2 sT2 sV2 sB2 pz2 pu2 pS2 pL2 pN2 pT2 PZ2 cz2 cu2 cS2 cL2 cN2 cT2 cV2 cB2 → cst (oN + sN + pN + cN) (oN2 + sN2 + pN2 + cN2) kc2 ks2 → post (nI e.1, nI e.2, 12, fg2, oz2, ou2, oS2, oL2, otx2, kO2, oN2, oT2, OZ2, sz2, su2, sS2, sL2, stx2, kS2, sN2, sT2, sV2, sB2, pz2, pu2, pS2, pL2, ptx2, kP2, pN2, pT2, PZ2, cz2, cu2, cS2, cL2, ctx2, kC2, cN2, cT2, cV2, cB2, tl2, K2, P2, Pl2, Z2, M2, TT2, kc2, ks2))
    (h1 : ∀ c2 D2, (∀ r, Ends md F n c2 D2 k r → Ends md F n c D k r) → ¬ c2.1 = 7 → (c2.1 = 2 → (TK F n k).1 = 6) → ¬ (TK F n k).1 = 1 → ∀ rk2, (¬ md = 0 → rk2 = rk) → ∀ code2 place2 st2 fg2 oz2 ou2 oS2 oL2 otx2 kO2 oN2 oT2 OZ2 sz2 su2 sS2 sL2 stx2 kS2 sN2 sT2 sV2 sB2 pz2 pu2 pS2 pL2 ptx2 kP2 pN2 pT2 PZ2 cz2 cu2 cS2 cL2 ctx2 kC2 cN2 cT2 cV2 cB2 tl2 K2 P2 Pl2 Z2 M2 TT2 kc2 ks2, RdQ md n F ar rk2 q0 c2 D2 k code2 place2 an st2 bz ih fg2 ns ne po vz vu vS vL vN vT ND oz2 ou2 oS2 oL2 oN2 oT2 OZ2 sz2 su2 sS2 sL2 sN2 sT2 sV2 sB2 pz2 pu2 pS2 pL2 pN2 pT2 PZ2 cz2 cu2 cS2 cL2 cN2 cT2 cV2 cB2 tz tl2 FF K2 P2 Pl2 Z2 M2 TT2 → cst (oN + sN + pN + cN) (oN2 + sN2 + pN2 + cN2) kc2 ks2 → post (code2, place2, st2, fg2, oz2, ou2, oS2, oL2, otx2, kO2, oN2, oT2, OZ2, sz2, su2, sS2, sL2, stx2, kS2, sN2, sT2, sV2, sB2, pz2, pu2, pS2, pL2, ptx2, kP2, pN2, pT2, PZ2, cz2, cu2, cS2, cL2, ctx2, kC2, cN2, cT2, cV2, cB2, tl2, K2, P2, Pl2, Z2, M2, TT2, kc2, ks2)) : wp_met_Re_settleBefore post mc ms 12 12 oN 2 2 sN 2 2 64 64 pN 1000 1000 cN 1000 1000 (rmo md) (rmo md) (rmo md) (rmo md) (rmo md) (6 * rmo md) otx stx ptx ctx code place (nI md) st ih fg ns ne (TK F n k).1 (nI (TK F n k).2.1) F oz ou oS oL oT OZ sz su sS sL sT sV sB pz pu pS pL pT PZ cz cu cS cL cT cV cB tl K P Pl Z M TT kO kS kP kC := by
  have hc : c.1 ≤ 11 := h.1.2.2.2.2.1.2.1
  have hst : st = nI c.1 := h.2.2.1
  refine pk_eq c.1 7 (fun e7 => ?_) (fun e7 => ?_) hst rfl (by omega) (by omega)
  · obtain ⟨c1, x, y⟩ := c
    have e7 : c1 = 7 := e7
    subst e7
    refine ⟨1, 40960, by omega, by omega, ?_⟩
    refine st_7 hmd hn hF (Nat.le_refl _) (Nat.le_refl _) h (fun e he fg2 sz2 su2 tl2 K2 P2 Pl2 Z2 M2 TT2 hs2 => ?_) (fun c2 D2 he0 hc2 rk2 hrk2 st2 fg2 sz2 su2 sS2 sL2 stx2 kS2 sN2 sT2 sV2 sB2 pz2 pu2 pS2 pL2 ptx2 kP2 pN2 pT2 cz2 cu2 cS2 cL2 ctx2 kC2 cN2 cT2 cV2 cB2 tl2 K2 P2 Pl2 Z2 M2 TT2 kc1 ks1 R hcs => ?_)
    · obtain ⟨r1, r2, -, r4, r5⟩ := RdQ_RF h
      exact ⟨fun z => absurd z (by decide), fun _ => ⟨fun _ => h0 e (Ends_flt he) rk (fun _ => rfl) _ _ _ _ _ _ _ _ _ _ _ _ _ _ _ _ _ _ _ _ _ _ _ _ _ _ _ _ _ _ _ _ _ _ _ _ _ _ _ _ _ _ _ _ _ _ _ _ ⟨r1, r2, hs2, r4, r5⟩ cst_0, fun z => absurd rfl z⟩⟩
    · have hle := RF_le (RdQ_RF R)
      have hb := cst_le hcs (N := 122880) (by omega)
      have m7 : ¬ c2.1 = 7 := by
        clear h0 h1
        omega
      refine st_B (kc := 0 + kc1) (ks := 0 + ks1) hmd hn hF (by omega) (by omega) R m7 (fun e he oz3 ou3 oS3 oL3 otx3 kO3 oN3 oT3 OZ3 PZ3 P3 kc3 ks3 hRF hc3 => ?_) (fun c3 D3 ht n7 n2 nk code3 place3 st3 oz3 ou3 oS3 oL3 otx3 kO3 oN3 oT3 OZ3 PZ3 P3 kc3 ks3 R3 hc3 => ?_)
      · exact h0 e (Ends_go he0 he) rk2 hrk2 _ _ _ _ _ _ _ _ _ _ _ _ _ _ _ _ _ _ _ _ _ _ _ _ _ _ _ _ _ _ _ _ _ _ _ _ _ _ _ _ _ _ _ _ _ _ _ _ hRF (cst_2 (cst_2 cst_0 hcs (b2 := oN + sN2 + pN2 + cN2) (by omega)) hc3 (by omega))
      · exact h1 c3 D3 (fun r q => Ends_go he0 (ht r q)) n7 n2 nk rk2 hrk2 _ _ _ _ _ _ _ _ _ _ _ _ _ _ _ _ _ _ _ _ _ _ _ _ _ _ _ _ _ _ _ _ _ _ _ _ _ _ _ _ _ _ _ _ _ _ _ _ _ _ _ R3 (cst_2 (cst_2 cst_0 hcs (b2 := oN + sN2 + pN2 + cN2) (by omega)) hc3 (by omega))
  · refine st_B (kc := 0) (ks := 0) hmd hn hF (by omega) (by omega) h e7 (fun e he oz3 ou3 oS3 oL3 otx3 kO3 oN3 oT3 OZ3 PZ3 P3 kc3 ks3 hRF hc3 => ?_) (fun c3 D3 ht n7 n2 nk code3 place3 st3 oz3 ou3 oS3 oL3 otx3 kO3 oN3 oT3 OZ3 PZ3 P3 kc3 ks3 R3 hc3 => ?_)
    · exact h0 e he rk (fun _ => rfl) _ _ _ _ _ _ _ _ _ _ _ _ _ _ _ _ _ _ _ _ _ _ _ _ _ _ _ _ _ _ _ _ _ _ _ _ _ _ _ _ _ _ _ _ _ _ _ _ hRF (cst_2 cst_0 hc3 (by omega))
    · exact h1 c3 D3 ht n7 n2 nk rk (fun _ => rfl) _ _ _ _ _ _ _ _ _ _ _ _ _ _ _ _ _ _ _ _ _ _ _ _ _ _ _ _ _ _ _ _ _ _ _ _ _ _ _ _ _ _ _ _ _ _ _ _ _ _ _ R3 (cst_2 cst_0 hc3 (by omega))
end SBg
