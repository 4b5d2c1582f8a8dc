/-! pure: the class's reader: a comparison's first side, a term of an atom: the relation behind them -/
theorem mCon_pre {md : Nat} {cn cn2 : List Con} {c : Con} (h : mCon md cn c = some cn2) : cn2 = cn ∨ (md = 0 ∧ cn2 = cn ++ [c]) := by
  unfold mCon at h
  by_cases h0 : md = 0
  · rw [if_pos h0] at h
    by_cases hw : c ∈ cn
    · rw [if_pos hw] at h
      exact Or.inl (Option.some.inj h).symm
    · rw [if_neg hw] at h
      by_cases h64 : cn.length = 1000
      · rw [if_pos h64] at h
        cases h
      · rw [if_neg h64] at h
        exact Or.inr ⟨h0, (Option.some.inj h).symm⟩
  · rw [if_neg h0] at h
    exact Or.inl (Option.some.inj h).symm
/-- constants that may be more (program), or the same with the same ranks -/
def CnU (md : Nat) (cn cn2 : List Con) (rk rk2 : Nat → Nat) : Prop := (md = 0 ∧ ∀ (i : Nat) (c : Con), cn[i]? = some c → cn2[i]? = some c) ∨ (¬ md = 0 ∧ cn2 = cn ∧ rk2 = rk)
theorem CnU_of {md : Nat} {cn cn2 : List Con} {c : Con} {rk rk2 : Nat → Nat} (h : mCon md cn c = some cn2) (hr : ¬ md = 0 → rk2 = rk) : CnU md cn cn2 rk rk2 := by
  by_cases h0 : md = 0
  · refine Or.inl ⟨h0, fun i d hi => ?_⟩
    rcases mCon_pre h with e | ⟨-, e⟩
    · rw [e]
      exact hi
    · rw [e]
      exact app1.mpr (Or.inl hi)
  · refine Or.inr ⟨h0, ?_, hr h0⟩
    rcases mCon_pre h with e | ⟨e, -⟩
    · exact e
    · exact absurd e h0
theorem CnU_rf {md : Nat} {cn : List Con} {rk : Nat → Nat} : CnU md cn cn rk rk := by
  by_cases h0 : md = 0
  · exact Or.inl ⟨h0, fun _ _ h => h⟩
  · exact Or.inr ⟨h0, rfl, rfl⟩
theorem CLm_cn {md : Nat} {ps : List Wd} {cn cn2 : List Con} {rk rk2 : Nat → Nat} {i : Nat} {l : Lt} {K P Pl Z M TT : Nat → Int32} (hU : CnU md cn cn2 rk rk2) (h : CLm md ps cn rk i l K P Pl Z M TT) : CLm md ps cn2 rk2 i l K P Pl Z M TT := by
  rcases hU with ⟨h0, hu⟩ | ⟨h0, e1, e2⟩
  · unfold CLm at h ⊢
    rw [if_pos h0] at h ⊢
    refine ⟨LQ_mono (fun c x q => ?_) h.1, h.2⟩
    obtain ⟨j, hj, e⟩ := q
    exact ⟨j, hu j c hj, e⟩
  · rw [e1, e2]
    exact h
section CmRQ
variable {md n k k2 : Nat} {F : Nat → Int32} {ar rk rk2 : Nat → Nat} {q0 : List Wd × List Con} {cs : List (List Lt)} {ls : List Lt} {l0 l2 : Lt} {vs vs2 : List (Option Wd)} {ps ows : List Wd} {cn cn2 sd : List Con} {K2 P2 Pl2 Z2 M2 TT2 : Nat → Int32} {code place an st bz ih fg ns ne po vz vu : Int32} {vS vL : Nat → Int32} {vN : Nat} {vT ND : Nat → Int32} {oz ou : Int32} {oS oL : Nat → Int32} {oN : Nat} {oT OZ : Nat → Int32} {sz su : Int32} {sS sL : Nat → Int32} {sN : Nat} {sT sV sB : Nat → Int32} {pz pu : Int32} {pS pL : Nat → Int32} {pN : Nat} {pT PZ : Nat → Int32} {cz cu : Int32} {cS cL : Nat → Int32} {cN : Nat} {cT cV cB : Nat → Int32} {tz tl : Int32} {FF K P Pl Z M TT : Nat → Int32}
/-- changed at literal i alone -/
def FrA (i : Nat) (K2 K P2 P Pl2 Pl Z2 Z M2 M T2 T : Nat → Int32) : Prop := (∀ j, ¬ j = i → K2 j = K j ∧ P2 j = P j ∧ Pl2 j = Pl j ∧ Z2 j = Z j ∧ M2 j = M j) ∧ (∀ j, ¬ (6 * i ≤ j ∧ j < 6 * i + 6) → T2 j = T j)
theorem FrA_cl (hU : CnU md cn cn2 rk rk2) (h6 : ∀ x ∈ cs.flatten ++ ls, x.2.2.2.2.length ≤ 6) (hf : FrA (cs.flatten ++ ls).length K2 K P2 P Pl2 Pl Z2 Z M2 M TT2 TT) (hcl : ∀ (i : Nat) (l : Lt), (cs.flatten ++ ls)[i]? = some l → CLm md ps cn rk i l K P Pl Z M TT) : ∀ (i : Nat) (l : Lt), (cs.flatten ++ ls)[i]? = some l → CLm md ps cn2 rk2 i l K2 P2 Pl2 Z2 M2 TT2 := by
  intro i l hi
  have hlt := (List.getElem?_eq_some_iff.mp hi).1
  obtain ⟨e1, e2, e3, e4, e5⟩ := hf.1 i (by omega)
  exact CLm_cong (CLm_cn hU (hcl i l hi)) (h6 l (List.mem_of_getElem? hi)) e1 e2 e3 e4 e5 (fun j hj => hf.2 _ (by omega))
theorem cm_RQ (hMI : MI md n F (8, 0, 0) (cs, ls, l2, vs2, ps, cn2) k2) (hq : ¬ md = 0 → (ps, cn2) = q0) (hU : CnU md cn cn2 rk rk2) (h6 : ∀ x ∈ cs.flatten ++ ls, x.2.2.2.2.length ≤ 6)
    (hV : VQ md k vs2 (ls ++ [l2]) vz vu an po vS vL vN vT ND) (htv : tot (vs2.map gdw) ≤ k2) (hk : k ≤ k2) (hO : NB 12 ows oz ou oS oL oN oT) (hto : tot ows ≤ k2) (hSz : SzQ md ps ar (cs.flatten ++ ls) PZ ows OZ) (hS : CB 2 sd sz su sS sL sN sT sV sB) (hts : tot (sd.map (·.1)) ≤ k2) (hs1 : sd.length ≤ 1) (hsd : ¬ md = 0 → sd = sdOf l2)
    (hP : NB 64 ps pz pu pS pL pN pT) (htp : md = 0 → tot ps ≤ k2) (hC : CBr 1000 cn2 rk2 cz cu cS cL cN cT cV cB) (htc : md = 0 → tot (cn2.map (·.1)) ≤ k2)
    (htz : tz = nI cs.length) (htl : tl = nI ((cs.flatten ++ ls).length + 1)) (hFF : FFQ cs FF) (hcl : ∀ (i : Nat) (l : Lt), (cs.flatten ++ ls)[i]? = some l → CLm md ps cn rk i l K P Pl Z M TT) (hf : FrA (cs.flatten ++ ls).length K2 K P2 P Pl2 Pl Z2 Z M2 M TT2 TT)
    (hL : LQ (Ec md cn2 rk2) (cs.flatten ++ ls).length l2 K2 Z2 M2 TT2)
    (hB : GB md (8, 0, 0) (cs, ls, l2, vs2, ps, cn2) bz ih) (hW : WRc (WN md ar (cs, ls, l0, vs, ps, cn)) code place) :
    RdQ md n F ar rk2 q0 (8, 0, 0) (cs, ls, l2, vs2, ps, cn2) k2 code place an (nI 8) bz ih fg ns ne po vz vu vS vL vN vT ND oz ou oS oL oN oT OZ sz su sS sL sN sT sV sB pz pu pS pL pN pT PZ cz cu cS cL cN cT cV cB tz tl FF K2 P2 Pl2 Z2 M2 TT2 := by
  refine ⟨hMI, hq, rfl, ⟨fun _ => ⟨VQ_up hV hk, htv⟩, ⟨_, hV.1⟩⟩, ⟨ows, hO, ⟨hto, fun z => ?_⟩, hSz⟩, ⟨sd, hS, fun _ => ⟨hts, hs1, hsd⟩⟩, ⟨hP, htp⟩, ⟨hC, htc⟩, ⟨htz, fun _ => htl, hFF, FrA_cl hU h6 hf hcl⟩, ⟨fun z => ?_, fun _ => hL, fun z => ?_, fun z => ?_, fun z => absurd z (by simp)⟩, hB, hW⟩
  · have z2 : (8 : Nat) = 2 ∨ (8 : Nat) = 3 ∨ (8 : Nat) = 4 := z
    omega
  · have z2 : (8 : Nat) = 2 ∨ (8 : Nat) = 3 ∨ (8 : Nat) = 4 := z
    omega
  · have z2 : (8 : Nat) = 1 := z
    omega
  · have z2 : (8 : Nat) = 7 := z
    omega
theorem tm_RQ (hMI : MI md n F (4, 0, 0) (cs, ls, l2, vs2, ps, cn2) k2) (hq : ¬ md = 0 → (ps, cn2) = q0) (hU : CnU md cn cn2 rk rk2) (h6 : ∀ x ∈ cs.flatten ++ ls, x.2.2.2.2.length ≤ 6)
    (hV : VQ md k vs2 (ls ++ [l2]) vz vu an po vS vL vN vT ND) (htv : tot (vs2.map gdw) ≤ k2) (hk : k ≤ k2) (hO : NB 12 ows oz ou oS oL oN oT) (hto : tot ows ≤ l2.2.2.1) (hle : l2.2.2.1 + l2.2.1.length ≤ k2) (hSz : SzQ md ps ar (cs.flatten ++ ls) PZ ows OZ) (hS : CB 2 sd sz su sS sL sN sT sV sB)
    (hP : NB 64 ps pz pu pS pL pN pT) (htp : md = 0 → tot ps ≤ k2) (hC : CBr 1000 cn2 rk2 cz cu cS cL cN cT cV cB) (htc : md = 0 → tot (cn2.map (·.1)) ≤ k2)
    (htz : tz = nI cs.length) (htl : tl = nI ((cs.flatten ++ ls).length + 1)) (hFF : FFQ cs FF) (hcl : ∀ (i : Nat) (l : Lt), (cs.flatten ++ ls)[i]? = some l → CLm md ps cn rk i l K P Pl Z M TT) (hf : FrA (cs.flatten ++ ls).length K2 K P2 P Pl2 Pl Z2 Z M2 M TT2 TT)
    (hL : LQ (Ea md cn2 rk2) (cs.flatten ++ ls).length l2 K2 Z2 M2 TT2) (hX : PC md ps l2.2.1 (P2 (cs.flatten ++ ls).length)) (hPl : l2.1 = 1 → Pl2 (cs.flatten ++ ls).length = nI l2.2.2.2.1) (hFg : FgQ md cn2 fg l2)
    (hB : GB md (4, 0, 0) (cs, ls, l2, vs2, ps, cn2) bz ih) (hW : WRc (WN md ar (cs, ls, l0, vs, ps, cn)) code place) :
    RdQ md n F ar rk2 q0 (4, 0, 0) (cs, ls, l2, vs2, ps, cn2) k2 code place an (nI 4) bz ih fg (nI l2.2.2.1) (nI (l2.2.2.1 + l2.2.1.length)) po vz vu vS vL vN vT ND oz ou oS oL oN oT OZ sz su sS sL sN sT sV sB pz pu pS pL pN pT PZ cz cu cS cL cN cT cV cB tz tl FF K2 P2 Pl2 Z2 M2 TT2 := by
  refine ⟨hMI, hq, rfl, ⟨fun _ => ⟨VQ_up hV hk, htv⟩, ⟨_, hV.1⟩⟩, ⟨ows, hO, ⟨hto, fun _ => hle⟩, hSz⟩, ⟨sd, hS, fun z => ?_⟩, ⟨hP, htp⟩, ⟨hC, htc⟩, ⟨htz, fun _ => htl, hFF, FrA_cl hU h6 hf hcl⟩, ⟨fun _ => ⟨hL, hX, hPl, hFg, rfl, rfl⟩, fun z => ?_, fun z => ?_, fun z => ?_, fun z => absurd z (by simp)⟩, hB, hW⟩
  · have z2 : (4 : Nat) = 8 ∨ (4 : Nat) = 9 := z
    omega
  · have z2 : (4 : Nat) = 8 ∨ (4 : Nat) = 9 := z
    omega
  · have z2 : (4 : Nat) = 1 := z
    omega
  · have z2 : (4 : Nat) = 7 := z
    omega
end CmRQ
