/-! pure: a predicate is named -/
theorem AriR_ps {ps : List Wd} {PZ : Nat → Int32} {L : List Lt} {w : Wd} (h : AriR ps 0 PZ L) (h2 : PZ ps.length = -1) (hn : firstAr L w = none) : AriR (ps ++ [w]) 0 PZ L := by
  intro i x hi
  rcases app1.mp hi with q | ⟨q1, q2⟩
  · exact h i x q
  · subst q1 q2
    rw [hn, show 65 * 0 + ps.length = ps.length by omega]
    exact h2
theorem mPred_pre {md : Nat} {ps ps2 : List Wd} {w : Wd} (h : mPred md ps w = some ps2) : ps2 = ps ∨ (md = 0 ∧ w ∉ ps ∧ ps2 = ps ++ [w]) := by
  unfold mPred at h
  by_cases h0 : md = 0
  · rw [if_pos h0] at h
    by_cases hw : w ∈ ps
    · rw [if_pos hw] at h
      exact Or.inl (Option.some.inj h).symm
    · rw [if_neg hw] at h
      by_cases h64 : ps.length = 64
      · rw [if_pos h64] at h
        cases h
      · rw [if_neg h64] at h
        exact Or.inr ⟨h0, hw, (Option.some.inj h).symm⟩
  · rw [if_neg h0] at h
    exact Or.inl (Option.some.inj h).symm
theorem CLm_ps {md : Nat} {ps : List Wd} {w : Wd} {cn : List Con} {rk : Nat → Nat} {i : Nat} {l : Lt} {K P Pl Z M TT : Nat → Int32} (h0 : md = 0) (h : CLm md ps cn rk i l K P Pl Z M TT) : CLm md (ps ++ [w]) cn rk i l K P Pl Z M TT := by
  unfold CLm at h ⊢
  rw [if_pos h0] at h ⊢
  refine ⟨h.1, h.2.1, fun hA => ?_⟩
  obtain ⟨p, hp, e⟩ := h.2.2 hA
  exact ⟨p, app1.mpr (Or.inl hp), e⟩
theorem LQ_mk {E : Con → Int32 → Prop} {i : Nat} {w : Wd} {a np : Nat} {kd : Int32} {K Z M TT : Nat → Int32} (hK : K i = kd) (hZ : Z i = 0) (hM : M i = 0) : LQ E i (kd, w, a, np, []) K Z M TT := by
  refine ⟨hK, by rw [hZ]; rfl, ?_, fun j t hj => (by cases hj)⟩
  rw [hM]
  refine MK_0 (fun v z => ?_)
  obtain ⟨t, ht, -⟩ := z
  cases ht
section NmRQ
variable {md n k k2 : Nat} {F : Nat → Int32} {ar rk : Nat → Nat} {q0 : List Wd × List Con} {cs : List (List Lt)} {ls : List Lt} {l0 : Lt} {vs : List (Option Wd)} {ps ps2 ows : List Wd} {cn sd : List Con} {w : Wd} {a np : Nat} {kind x : Int32} {code place an st bz ih fg ns ne po vz vu : Int32} {vS vL : Nat → Int32} {vN : Nat} {vT ND : Nat → Int32} {oz ou : Int32} {oS oL : Nat → Int32} {oN : Nat} {oT OZ : Nat → Int32} {sz su : Int32} {sS sL : Nat → Int32} {sN : Nat} {sT sV sB : Nat → Int32} {pz pu : Int32} {pS pL : Nat → Int32} {pN : Nat} {pT PZ : Nat → Int32} {cz cu : Int32} {cS cL : Nat → Int32} {cN : Nat} {cT cV cB : Nat → Int32} {tz tl : Int32} {FF K P Pl Z M TT : Nat → Int32}
theorem nm_RQ (hmd : md < 4) (hMI : MI md n F (if md = 3 then 11 else 2, 0, 0) (cs, ls, (kind, w, a, np, []), vs, ps2, cn) k2) (hq : ¬ md = 0 → (ps2, cn) = q0) (hps : mPred md ps w = some ps2) (hp64 : ps2.length ≤ 64) (hatm : md = 0 → ∀ x ∈ cs.flatten ++ ls, isA x → x.2.1 ∈ ps) (h6 : ∀ x ∈ cs.flatten ++ ls, x.2.2.2.2.length ≤ 6)
    (hV : VQ md k vs ls vz vu an po vS vL vN vT ND) (htv : tot (vs.map gdw) ≤ k2) (hk : k ≤ k2) (hO : NB 12 ows oz ou oS oL oN oT) (hto : tot ows ≤ a) (hak : a + w.length ≤ k2) (hSz : SzQ md ps ar (cs.flatten ++ ls) PZ ows OZ) (hS : CB 2 sd sz su sS sL sN sT sV sB)
    (hP : NB 64 ps2 pz pu pS pL pN pT) (htp : md = 0 → tot ps2 ≤ k2) (hC : CBr 1000 cn rk cz cu cS cL cN cT cV cB) (htc : md = 0 → tot (cn.map (·.1)) ≤ k2)
    (htz : tz = nI cs.length) (htl : tl = nI ((cs.flatten ++ ls).length + 1)) (hFF : FFQ cs FF) (hcl : ∀ (i : Nat) (l : Lt), (cs.flatten ++ ls)[i]? = some l → CLm md ps cn rk i l K P Pl Z M TT)
    (hK : K (cs.flatten ++ ls).length = kind) (hZ : Z (cs.flatten ++ ls).length = 0) (hM : M (cs.flatten ++ ls).length = 0) (hPl : kind = 1 → Pl (cs.flatten ++ ls).length = nI np) (hX : PC md ps2 w x)
    (hB : GB md (if md = 3 then 11 else 2, 0, 0) (cs, ls, (kind, w, a, np, []), vs, ps2, cn) bz ih) (hW : WRc (WN md ar (cs, ls, l0, vs, ps, cn)) code place) :
    RdQ md n F ar rk q0 (if md = 3 then 11 else 2, 0, 0) (cs, ls, (kind, w, a, np, []), vs, ps2, cn) k2 code place an (if nI md = 3 then 11 else 2) bz ih 0 (nI a) (nI (a + w.length)) po vz vu vS vL vN vT ND oz ou oS oL oN oT OZ sz su sS sL sN sT sV sB pz pu pS pL pN pT PZ cz cu cS cL cN cT cV cB tz tl FF K (upd P (cs.flatten ++ ls).length x) Pl Z M TT := by
  have eL : Lc (cs, ls, ((kind, w, a, np, []) : Lt), vs, ps2, cn) = cs.flatten ++ ls := rfl
  have eL1 : Lc (cs, ls, l0, vs, ps, cn) = cs.flatten ++ ls := rfl
  have hVk := VQ_up hV hk
  have hpre := mPred_pre hps
  have hcl2 : ∀ (i : Nat) (l : Lt), (cs.flatten ++ ls)[i]? = some l → CLm md ps2 cn rk i l K (upd P (cs.flatten ++ ls).length x) Pl Z M TT := by
    intro i l hi
    have hlt := (List.getElem?_eq_some_iff.mp hi).1
    have h1 : CLm md ps2 cn rk i l K P Pl Z M TT := by
      rcases hpre with e | ⟨e0, -, e⟩
      · rw [e]
        exact hcl i l hi
      · rw [e]
        exact CLm_ps e0 (hcl i l hi)
    exact CLm_cong h1 (h6 l (List.mem_of_getElem? hi)) rfl (upd_ne (by omega)) rfl rfl rfl (fun _ _ => rfl)
  have hSz2 : SzQ md ps2 ar (cs.flatten ++ ls) PZ ows OZ := by
    rcases hpre with e | ⟨e0, hno, e⟩
    · rw [e]
      exact hSz
    · have hl : ps.length + 1 ≤ 64 := by
        rw [e, List.length_append] at hp64
        simpa using hp64
      rw [e]
      refine ⟨fun _ => AriR_ps (hSz.1 e0) (hSz.2.1 e0 _ (Nat.le_refl _) (by omega)) (firstAr_none (fun y hy hA z => hno ?_)), fun _ p hp1 hp2 => hSz.2.1 e0 p ?_ hp2, fun z => absurd e0 z, fun z => absurd e0 z⟩
      · rw [← z]
        exact hatm e0 y hy hA
      · rw [List.length_append] at hp1
        omega
  have hW2 : WRc (WN md ar (cs, ls, (kind, w, a, np, []), vs, ps2, cn)) code place := by
    refine WRc_iff hW (fun c p => ?_)
    unfold WN
    rw [eL, eL1]
    by_cases h0 : md = 0
    · rw [if_pos h0, if_pos h0]
    · rw [if_neg h0, if_neg h0]
      rcases hpre with e | ⟨e0, -, -⟩
      · rw [e]
      · exact absurd e0 h0
  by_cases h3 : md = 3
  · have e3 : (if md = 3 then 11 else 2 : Nat) = 11 := if_pos h3
    have e4 : (if nI md = 3 then (11 : Int32) else 2) = nI 11 := by rw [if_pos (show nI md = 3 by rw [h3]; rfl)]; rfl
    rw [e3, e4]
    rw [e3] at hMI hB
    have n0 : ¬ (11 : Nat) = 0 := by omega
    refine ⟨hMI, hq, rfl, ⟨fun _ => ⟨?_, htv⟩, ⟨_, hV.1⟩⟩, ⟨ows, hO, ?_, hSz2⟩, ⟨sd, hS, fun z => ?_⟩, ⟨hP, htp⟩, ⟨hC, htc⟩, ⟨htz, fun z => absurd rfl z, hFF, hcl2⟩, ⟨fun z => ?_, fun z => ?_, fun z => ?_, fun z => ?_, fun _ _ => ?_⟩, hB, hW2⟩
    · have : lsO ((11, 0, 0) : Ct) (cs, ls, ((kind, w, a, np, []) : Lt), vs, ps2, cn) = ls := rfl
      rw [this]
      exact hVk
    · have : kn ((11, 0, 0) : Ct) (cs, ls, ((kind, w, a, np, []) : Lt), vs, ps2, cn) k2 = k2 := rfl
      rw [this]
      refine ⟨by omega, fun z => ?_⟩
      have z2 : (11 : Nat) = 2 ∨ (11 : Nat) = 3 ∨ (11 : Nat) = 4 := z
      omega
    · have z2 : (11 : Nat) = 8 ∨ (11 : Nat) = 9 := z
      omega
    · have z2 : (11 : Nat) = 2 ∨ (11 : Nat) = 3 ∨ (11 : Nat) = 4 := z
      omega
    · have z2 : (11 : Nat) = 8 ∨ (11 : Nat) = 9 := z
      omega
    · have z2 : (11 : Nat) = 1 := z
      omega
    · have z2 : (11 : Nat) = 7 := z
      omega
    · rw [eL, upd_same]
      exact hX
  · have e3 : (if md = 3 then 11 else 2 : Nat) = 2 := if_neg h3
    have e4 : (if nI md = 3 then (11 : Int32) else 2) = nI 2 := by
      have n3 : ¬ nI md = 3 := fun z => h3 ((nI_eq (b := 3) (by omega) (by omega)).mp z)
      rw [if_neg n3]
      rfl
    rw [e3, e4]
    rw [e3] at hMI hB
    refine ⟨hMI, hq, rfl, ⟨fun _ => ⟨?_, htv⟩, ⟨_, hV.1⟩⟩, ⟨ows, hO, ?_, hSz2⟩, ⟨sd, hS, fun z => ?_⟩, ⟨hP, htp⟩, ⟨hC, htc⟩, ⟨htz, fun _ => htl, hFF, hcl2⟩, ⟨fun _ => ⟨LQ_mk hK hZ hM, ?_, hPl, ?_, rfl, rfl⟩, fun z => ?_, fun z => ?_, fun z => ?_, fun z => absurd z (by simp)⟩, hB, hW2⟩
    · have : lsO ((2, 0, 0) : Ct) (cs, ls, ((kind, w, a, np, []) : Lt), vs, ps2, cn) = ls ++ [(kind, w, a, np, [])] := rfl
      rw [this]
      exact VQ_open hVk rfl
    · have : kn ((2, 0, 0) : Ct) (cs, ls, ((kind, w, a, np, []) : Lt), vs, ps2, cn) k2 = a := rfl
      rw [this]
      exact ⟨hto, fun _ => hak⟩
    · have z2 : (2 : Nat) = 8 ∨ (2 : Nat) = 9 := z
      omega
    · rw [eL, upd_same]
      exact hX
    · by_cases h0 : md = 0
      · exact Or.inl ⟨h0, rfl⟩
      · exact Or.inr ⟨h0, Or.inl ⟨rfl, fun t ht => (by cases ht)⟩⟩
    · have z2 : (2 : Nat) = 8 ∨ (2 : Nat) = 9 := z
      omega
    · have z2 : (2 : Nat) = 1 := z
      omega
    · have z2 : (2 : Nat) = 7 := z
      omega
end NmRQ
