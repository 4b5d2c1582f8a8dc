/-! pure: the class's reader: behind a head, behind a literal -/
section S10
variable {md n k k2 : Nat} {F : Nat → Int32} {ar rk : Nat → Nat} {q0 : List Wd × List Con} {c : Ct} {D : Dt} {code place an st bz ih fg ns ne po vz vu : Int32} {vS vL : Nat → Int32} {vN : Nat} {vT ND : Nat → Int32} {oz ou : Int32} {oS oL : Nat → Int32} {oN : Nat} {oT OZ : Nat → Int32} {sz su : Int32} {sS sL : Nat → Int32} {sN : Nat} {sT sV sB : Nat → Int32} {pz pu : Int32} {pS pL : Nat → Int32} {pN : Nat} {pT PZ : Nat → Int32} {cz cu : Int32} {cS cL : Nat → Int32} {cN : Nat} {cT cV cB : Nat → Int32} {tz tl : Int32} {FF K P Pl Z M TT : Nat → Int32}
theorem to6_RQ {ih2 : Int32} (hc : c.1 = 5 ∨ c.1 = 10) (hk : k ≤ k2) (hih : ih2 = 0 ∧ 1 ≤ D.2.1.length + sf md) (hMI : MI md n F (6, 0, 0) D k2) (h : RdQ md n F ar rk q0 c D k code place an st bz ih fg ns ne po vz vu vS vL vN vT ND oz ou oS oL oN oT OZ sz su sS sL sN sT sV sB pz pu pS pL pN pT PZ cz cu cS cL cN cT cV cB tz tl FF K P Pl Z M TT) : RdQ md n F ar rk q0 (6, 0, 0) D k2 code place an 6 bz ih2 fg ns ne po vz vu vS vL vN vT ND oz ou oS oL oN oT OZ sz su sS sL sN sT sV sB pz pu pS pL pN pT PZ cz cu cS cL cN cT cV cB tz tl FF K P Pl Z M TT := by
  obtain ⟨n0, n7, n11, n3, n5, n6⟩ := nc5 hc
  obtain ⟨hM, hq, hst, ⟨gv, gv2⟩, ⟨ows, o1, ⟨o2, o22⟩, o3⟩, ⟨sd, s1, s2⟩, ⟨p1, p2⟩, ⟨c1, c2⟩, ⟨t1, t2, t3, t4⟩, -, ⟨b1, b2⟩, gw⟩ := h
  have ekn : kn c D k = k := by
    unfold kn
    rw [if_neg n3, if_neg n7]
  have ekx : kx c k = k := if_neg n7
  rw [ekn] at o2
  rw [ekx] at p2 c2
  have eoc : opc c = 0 := if_neg n6
  have eob : opb c = 0 := by
    unfold opb
    rw [if_neg n7]
    exact eoc
  have htl : tl = nI (Lc D).length := by
    rw [t2 n11, eoc, Nat.add_zero]
  obtain ⟨hV, htv⟩ := gv n0
  have elO : lsO c D = D.2.1 := if_neg n5
  rw [elO] at hV
  refine ⟨hMI, hq, rfl, ⟨fun _ => ⟨VQ_up hV hk, Nat.le_trans htv hk⟩, gv2⟩, ⟨ows, o1, ⟨Nat.le_trans o2 hk, fun z => ?_⟩, o3⟩, ⟨sd, s1, fun z => ?_⟩, ⟨p1, fun z => Nat.le_trans (p2 z) hk⟩, ⟨c1, fun z => Nat.le_trans (c2 z) hk⟩, ⟨t1, fun _ => htl, t3, t4⟩, ⟨fun z => ?_, fun z => ?_, fun z => ?_, fun z => ?_, fun z => absurd z (by simp)⟩, ⟨fun z1 z2 => ?_, fun z1 z2 => Or.inl hih⟩, gw⟩
  · exact absurd z (show ¬ ((6 : Nat) = 2 ∨ (6 : Nat) = 3 ∨ (6 : Nat) = 4) by decide)
  · exact absurd z (show ¬ ((6 : Nat) = 8 ∨ (6 : Nat) = 9) by decide)
  · exact absurd z (show ¬ ((6 : Nat) = 2 ∨ (6 : Nat) = 3 ∨ (6 : Nat) = 4) by decide)
  · exact absurd z (show ¬ ((6 : Nat) = 8 ∨ (6 : Nat) = 9) by decide)
  · exact absurd z (show ¬ (6 : Nat) = 1 by decide)
  · exact absurd z (show ¬ (6 : Nat) = 7 by decide)
  · obtain ⟨b, d1, d2⟩ := b1 z1 n0
    rw [eob] at d2
    exact ⟨b, d1, d2⟩
theorem st_5 {post : (Int32 × Int32 × Int32 × Int32 × Int32 × (Nat → Int32)) → Prop} (hn : n ≤ 20480) (hk1 : ¬ (TK F n k).1 = 1) (h : RdQ md n F ar rk q0 (5, 0, 0) D k code place an st bz ih fg ns ne po vz vu vS vL vN vT ND oz ou oS oL oN oT OZ sz su sS sL sN sT sV sB pz pu pS pL pN pT PZ cz cu cS cL cN cT cV cB tz tl FF K P Pl Z M TT)
    (h0 : ∀ e, mStep md F n (5, 0, 0) D k = .inl e → post (nI e.1, nI e.2, 12, 0, tz, FF))
    (h1 : ∀ c2 D2, mStep md F n (5, 0, 0) D k = .inr (some (c2, D2, (TK F n k).2.2.1)) → ∀ code2 place2 st2 tz2 FF2, RdQ md n F ar rk q0 c2 D2 (TK F n k).2.2.1 code2 place2 an st2 bz 0 fg ns ne po vz vu vS vL vN vT ND oz ou oS oL oN oT OZ sz su sS sL sN sT sV sB pz pu pS pL pN pT PZ cz cu cS cL cN cT cV cB tz2 tl FF2 K P Pl Z M TT → post (code2, place2, st2, 0, tz2, FF2)) : wp_met_Re_readHeadEnd post 257 code place po vz (TK F n k).1 (nI (TK F n k).2.1) ND tz tl FF := by
  have hpos := TK_pos F n k h.1.1.1
  have hkk : k ≤ (TK F n k).2.2.1 := by omega
  have hmd0 : md = 0 := h.1.2.2.2.2.1.2.2.1 (Or.inr rfl)
  have hlen : D.1.length < 256 := h.1.2.2.2.2.2.2.2 (show ¬ (5 : Nat) = 0 by decide)
  have hne : ¬ D.2.1 = [] := h.1.2.2.1
  have hpl : 1 ≤ D.2.1.length := by
    rcases Nat.eq_zero_or_pos D.2.1.length with z | z
    · exact absurd (List.eq_nil_of_length_eq_zero z) hne
    · exact z
  by_cases k9 : (TK F n k).1 = 9
  · refine ⟨fun _ => ?_, fun z => absurd k9 z⟩
    have eS2 : mStep md F n (5, 0, 0) D k = .inr (some ((0, 0, 0), (D.1 ++ [D.2.1], [], D.2.2.1, D.2.2.2.1, D.2.2.2.2.1, D.2.2.2.2.2), (TK F n k).2.2.1)) := by
      rw [step_5, if_neg hk1, if_pos k9]
      rfl
    refine st_cl (Or.inl rfl) hn (by omega) (by omega) h (fun code2 place2 hW => ?_)
    exact h1 _ _ eS2 _ _ _ _ _ (dot_RQ (Or.inl rfl) hmd0 hkk (MI_step (by omega) h.1 eS2) hW h)
  · refine ⟨fun z => absurd z k9, fun _ => ?_⟩
    by_cases k10 : (TK F n k).1 = 10
    · refine ⟨fun _ => ?_, fun z => absurd k10 z⟩
      have eS2 : mStep md F n (5, 0, 0) D k = .inr (some ((6, 0, 0), D, (TK F n k).2.2.1)) := by
        rw [step_5, if_neg hk1, if_neg k9, if_pos k10]
      exact h1 _ _ eS2 _ _ _ _ _ (to6_RQ (Or.inl rfl) hkk ⟨rfl, by omega⟩ (MI_step (by omega) h.1 eS2) h)
    · refine ⟨fun z => absurd z k10, fun _ => ?_⟩
      exact h0 (2, (TK F n k).2.1) (by rw [step_5, if_neg hk1, if_neg k9, if_neg k10])
theorem st_10 {post : (Int32 × Int32 × Int32 × Int32 × (Nat → Int32)) → Prop} {nf : Nat} (hmd : md < 4) (hnf : nf < 1000) (hn : n ≤ 20480) (hsz : D.1.length + 1 < nf) (hk1 : ¬ (TK F n k).1 = 1) (h : RdQ md n F ar rk q0 (10, 0, 0) D k code place an st bz ih fg ns ne po vz vu vS vL vN vT ND oz ou oS oL oN oT OZ sz su sS sL sN sT sV sB pz pu pS pL pN pT PZ cz cu cS cL cN cT cV cB tz tl FF K P Pl Z M TT)
    (hE : mStep md F n (10, 0, 0) D k = .inr none → md = 1 → ∀ code2 place2, WRc (fun c p => WN md ar D c p ∨ W11 md D.2.1 D.2.1.length c p) code2 place2 → post (code2, place2, 12, nI (D.1.length + 1), upd FF (D.1.length + 1) (nI (Lc D).length)))
    (h0 : ∀ e, mStep md F n (10, 0, 0) D k = .inl e → post (nI e.1, nI e.2, 12, tz, FF))
    (h1 : ∀ c2 D2, mStep md F n (10, 0, 0) D k = .inr (some (c2, D2, (TK F n k).2.2.1)) → ∀ code2 place2 st2 tz2 FF2, RdQ md n F ar rk q0 c2 D2 (TK F n k).2.2.1 code2 place2 an st2 bz ih fg ns ne po vz vu vS vL vN vT ND oz ou oS oL oN oT OZ sz su sS sL sN sT sV sB pz pu pS pL pN pT PZ cz cu cS cL cN cT cV cB tz2 tl FF2 K P Pl Z M TT → post (code2, place2, st2, tz2, FF2)) : wp_met_Re_readLiteralEnd post nf code place (nI md) po vz (TK F n k).1 (nI (TK F n k).2.1) ND tz tl FF := by
  have hpos := TK_pos F n k h.1.1.1
  have hkk : k ≤ (TK F n k).2.2.1 := by omega
  have hne : ¬ D.2.1 = [] := h.1.2.2.1
  have hpl : 1 ≤ D.2.1.length := by
    rcases Nat.eq_zero_or_pos D.2.1.length with z | z
    · exact absurd (List.eq_nil_of_length_eq_zero z) hne
    · exact z
  have hih : ih = 0 := by
    rcases h.2.2.2.2.2.2.2.2.2.2.1.2 (show ¬ (10 : Nat) = 0 by decide) (show ¬ (10 : Nat) = 5 by decide) with z | z
    · exact z.1
    · have := z.2
      omega
  by_cases k8 : (TK F n k).1 = 8
  · refine ⟨fun _ => ?_, fun z => absurd k8 z⟩
    have eS2 : mStep md F n (10, 0, 0) D k = .inr (some ((6, 0, 0), D, (TK F n k).2.2.1)) := by
      rw [step_10, if_neg hk1, if_pos k8]
    exact h1 _ _ eS2 _ _ _ _ _ (to6_RQ (Or.inr rfl) hkk ⟨hih, by omega⟩ (MI_step (by omega) h.1 eS2) h)
  refine ⟨fun z => absurd z k8, fun _ => ?_⟩
  have rest : ¬ (md = 0 ∧ (TK F n k).1 = 9) → jw_met_Re_readLiteralEnd_47 post (nI md) (TK F n k).1 nf code place po vz ND tz tl FF (nI (TK F n k).2.1) () := by
    intro h9
    by_cases m1 : md = 1
    · refine ⟨fun _ => ?_, fun z => absurd (by rw [m1]; rfl) z⟩
      by_cases k0 : (TK F n k).1 = 0
      · refine ⟨fun _ => ?_, fun z => absurd k0 z⟩
        refine st_cl (Or.inr rfl) hn hnf hsz h (fun code2 place2 hW => ?_)
        exact hE (by rw [step_10, if_neg hk1, if_neg k8, if_neg h9, if_pos ⟨m1, k0⟩]) m1 _ _ hW
      · refine ⟨fun z => absurd z k0, fun _ => ?_⟩
        exact h0 (2, (TK F n k).2.1) (by rw [step_10, if_neg hk1, if_neg k8, if_neg h9, if_neg (fun z => k0 z.2)])
    · refine ⟨fun z => absurd ((nI_eq (b := 1) (by omega) (by omega)).mp z) m1, fun _ => ?_⟩
      exact h0 (2, (TK F n k).2.1) (by rw [step_10, if_neg hk1, if_neg k8, if_neg h9, if_neg (fun z => m1 z.1)])
  by_cases m0 : md = 0
  · refine ⟨fun _ => ?_, fun z => absurd (by rw [m0]; rfl) z⟩
    by_cases k9 : (TK F n k).1 = 9
    · refine ⟨fun _ => ?_, fun z => absurd k9 z⟩
      have eS2 : mStep md F n (10, 0, 0) D k = .inr (some ((0, 0, 0), (D.1 ++ [D.2.1], [], D.2.2.1, D.2.2.2.1, D.2.2.2.2.1, D.2.2.2.2.2), (TK F n k).2.2.1)) := by
        rw [step_10, if_neg hk1, if_neg k8, if_pos ⟨m0, k9⟩]
        rfl
      refine st_cl (Or.inr rfl) hn hnf hsz h (fun code2 place2 hW => ?_)
      exact h1 _ _ eS2 _ _ _ _ _ (dot_RQ (Or.inr rfl) m0 hkk (MI_step (by omega) h.1 eS2) hW h)
    · exact ⟨fun z => absurd z k9, fun _ => rest (fun z => k9 z.2)⟩
  · refine ⟨fun z => absurd z (nI_nz (by omega) (by omega)), fun _ => rest (fun z => m0 z.1)⟩
end S10
