/-! pure: the class's reader: the sign of a comparison, the end of a fact or a word -/
theorem VQ_kind {md k nT : Nat} {vs : List (Option Wd)} {ls : List Lt} {l : Lt} {kd vz vu an po : Int32} {S L T ND : Nat → Int32} (hl : ¬ l.1 = 0) (hk : ¬ kd = 0) (h : VQ md k vs (ls ++ [l]) vz vu an po S L nT T ND) : VQ md k vs (ls ++ [(kd, l.2)]) vz vu an po S L nT T ND := by
  obtain ⟨h1, h2, h3, h4, h5⟩ := h
  have nd : ∀ v p, Nd md (ls ++ [(kd, l.2)]) v p ↔ Nd md (ls ++ [l]) v p := by
    intro v p
    constructor
    · rintro ⟨j, x, hx, hn, t, ht, e⟩
      rcases app1.mp hx with q | ⟨q1, q2⟩
      · exact ⟨j, x, app1.mpr (Or.inl q), hn, t, ht, e⟩
      · subst q2
        exact ⟨j, l, app1.mpr (Or.inr ⟨q1, rfl⟩), Or.inr hl, t, ht, e⟩
    · rintro ⟨j, x, hx, hn, t, ht, e⟩
      rcases app1.mp hx with q | ⟨q1, q2⟩
      · exact ⟨j, x, app1.mpr (Or.inl q), hn, t, ht, e⟩
      · subst q2
        exact ⟨j, (kd, l.2), app1.mpr (Or.inr ⟨q1, rfl⟩), Or.inr hk, t, ht, e⟩
  have bd : ∀ v, bnd md (ls ++ [l]) v ↔ bnd md (ls ++ [(kd, l.2)]) v := by
    intro v
    constructor
    · rintro ⟨j, x, hx, hn, h0, e⟩
      rcases app1.mp hx with q | ⟨q1, q2⟩
      · exact ⟨j, x, app1.mpr (Or.inl q), hn, h0, e⟩
      · subst q2
        exact absurd h0 hl
    · rintro ⟨j, x, hx, hn, h0, e⟩
      rcases app1.mp hx with q | ⟨q1, q2⟩
      · exact ⟨j, x, app1.mpr (Or.inl q), hn, h0, e⟩
      · subst q2
        exact absurd h0 hk
  refine ⟨h1, h2, MK_iff h3 (fun v _ => bd v), fun v hv => ?_, fun x hx v hv => ?_⟩
  · rcases h4 v hv with ⟨e, q⟩ | ⟨p, e, q1, q2, q3⟩
    · exact Or.inl ⟨e, fun p z => q p ((nd v p).mp z)⟩
    · exact Or.inr ⟨p, e, q1, (nd v p).mpr q2, fun p2 z => q3 p2 ((nd v p2).mp z)⟩
  · rcases List.mem_append.mp hx with q | q
    · exact h5 x (List.mem_append_left _ q) v hv
    · rw [List.mem_singleton.mp q] at hv
      exact h5 l (List.mem_append_right _ (List.mem_singleton.mpr rfl)) v hv
theorem ge11 {x : Int32} (h : (11 : Int32) ≤ x) : ¬ x = 0 := fun z => by
  rw [z] at h
  exact absurd h (by decide)
section S8
variable {md n k : Nat} {F : Nat → Int32} {ar rk : Nat → Nat} {q0 : List Wd × List Con} {D : Dt} {code place an st bz ih fg ns ne po vz vu : Int32} {vS vL : Nat → Int32} {vN : Nat} {vT ND : Nat → Int32} {oz ou : Int32} {oS oL : Nat → Int32} {oN : Nat} {oT OZ : Nat → Int32} {sz su : Int32} {sS sL : Nat → Int32} {sN : Nat} {sT sV sB : Nat → Int32} {pz pu : Int32} {pS pL : Nat → Int32} {pN : Nat} {pT PZ : Nat → Int32} {cz cu : Int32} {cS cL : Nat → Int32} {cN : Nat} {cT cV cB : Nat → Int32} {tz tl : Int32} {FF K P Pl Z M TT : Nat → Int32}
theorem st_11 {post : (Int32 × Int32 × Int32) → Prop} (hk1 : ¬ (TK F n k).1 = 1) (hE : mStep md F n (11, 0, 0) D k = .inr none → post (code, place, 12)) (h0 : ∀ e, mStep md F n (11, 0, 0) D k = .inl e → post (nI e.1, nI e.2, 12)) : wp_met_Re_expectEnd post code place (TK F n k).1 (nI (TK F n k).2.1) := by
  by_cases k0 : (TK F n k).1 = 0
  · exact ⟨fun _ => hE (by rw [step_11, if_neg hk1, if_pos k0]), fun z => absurd k0 z⟩
  · exact ⟨fun z => absurd z k0, fun _ => h0 (2, (TK F n k).2.1) (by rw [step_11, if_neg hk1, if_neg k0])⟩
theorem st_8 {post : (Int32 × Int32 × Int32 × (Nat → Int32)) → Prop} (hn : n ≤ 20480) (hk1 : ¬ (TK F n k).1 = 1) (h : RdQ md n F ar rk q0 (8, 0, 0) D k code place an st bz ih fg ns ne po vz vu vS vL vN vT ND oz ou oS oL oN oT OZ sz su sS sL sN sT sV sB pz pu pS pL pN pT PZ cz cu cS cL cN cT cV cB tz tl FF K P Pl Z M TT)
    (h0 : ∀ e, mStep md F n (8, 0, 0) D k = .inl e → post (nI e.1, nI e.2, 12, K))
    (h1 : ∀ c2 D2, mStep md F n (8, 0, 0) D k = .inr (some (c2, D2, (TK F n k).2.2.1)) → ∀ K2, RdQ md n F ar rk q0 c2 D2 (TK F n k).2.2.1 code place an 9 bz ih fg ns ne po vz vu vS vL vN vT ND oz ou oS oL oN oT OZ sz su sS sL sN sT sV sB pz pu pS pL pN pT PZ cz cu cS cL cN cT cV cB tz tl FF K2 P Pl Z M TT → post (code, place, 9, K2)) : wp_met_Re_readComparison post (rmo md) code place (TK F n k).1 (nI (TK F n k).2.1) tl K := by
  have hpos := TK_pos F n k h.1.1.1
  have hoB : oB md F D := h.1.2.2.1
  have hroom := Lc_room h.1 (show ¬ (8 : Nat) = 0 by decide) hoB.2.2.2.2
  have hrm : rmo md < 100000 := by
    unfold rmo
    split <;> omega
  have h6 := (RdQ_atm h.1).2
  intro r1 hr1
  by_cases hk : (11 : Int32) ≤ (TK F n k).1
  · have e1 : r1 = 1 := by
      rw [hr1, if_neg (fun z => Int32.not_lt.mpr hk z)]
    subst e1
    refine ⟨fun z => absurd z (by decide), fun _ => ?_⟩
    have eS2 : mStep md F n (8, 0, 0) D k = .inr (some ((9, 0, 0), (D.1, D.2.1, ((TK F n k).1, D.2.2.1.2), D.2.2.2), (TK F n k).2.2.1)) := by rw [step_8, if_neg hk1, if_pos hk]
    have hMI := MI_step (by omega) h.1 eS2
    have hkk : k ≤ (TK F n k).2.2.1 := by omega
    obtain ⟨hM, hq, hst, ⟨gv, gv2⟩, ⟨ows, o1, ⟨o2, o22⟩, o3⟩, ⟨sd, s1, s2⟩, ⟨p1, p2⟩, ⟨c1, c2⟩, ⟨t1, t2, t3, t4⟩, ⟨-, gl, -, -⟩, ⟨b1, b2⟩, gw⟩ := h
    have htl : tl = nI ((Lc D).length + 1) := t2 (show ¬ (8 : Nat) = 11 by decide)
    obtain ⟨hV, htv⟩ := gv (show ¬ (8 : Nat) = 0 by decide)
    have l1 := gl (Or.inl rfl)
    intro r6 h6'
    rw [htl, nI_pred] at h6'
    subst h6'
    refine ⟨vp_in_nI hroom (by clear b1; omega), fun g8 h8 => ?_⟩
    rw [nI_clamp (by clear b1; omega)] at h8
    subst h8
    refine h1 _ _ eS2 _ ⟨hMI, hq, rfl, ⟨fun _ => ⟨?_, Nat.le_trans htv hkk⟩, gv2⟩, ⟨ows, o1, ⟨Nat.le_trans o2 hkk, fun z => ?_⟩, o3⟩, ⟨sd, s1, fun _ => ?_⟩, ⟨p1, fun z => Nat.le_trans (p2 z) hkk⟩, ⟨c1, fun z => Nat.le_trans (c2 z) hkk⟩, ⟨t1, fun _ => htl, t3, fun i l hi => ?_⟩, ⟨fun z => ?_, fun _ => ?_, fun z => ?_, fun z => ?_, fun z => absurd z (by simp)⟩, ⟨fun z1 z2 => b1 z1 (show ¬ (8 : Nat) = 0 by decide), fun z1 z2 => b2 (show ¬ (8 : Nat) = 0 by decide) (show ¬ (8 : Nat) = 5 by decide)⟩, gw⟩
    · exact VQ_up (VQ_kind (ge11 hoB.1.1) (ge11 hk) hV) hkk
    · exact absurd z (show ¬ ((9 : Nat) = 2 ∨ (9 : Nat) = 3 ∨ (9 : Nat) = 4) by decide)
    · obtain ⟨w1, w2, w3⟩ := s2 (Or.inl rfl)
      exact ⟨Nat.le_trans w1 hkk, w2, w3⟩
    · have hlt2 : i < (Lc D).length := (List.getElem?_eq_some_iff.mp hi).1
      exact CLm_cong (t4 i l hi) (h6 l (List.mem_of_getElem? hi)) (upd_ne (by clear b1; omega)) rfl rfl rfl rfl (fun _ _ => rfl)
    · exact absurd z (show ¬ ((9 : Nat) = 2 ∨ (9 : Nat) = 3 ∨ (9 : Nat) = 4) by decide)
    · exact ⟨upd_same, l1.2.1, l1.2.2.1, l1.2.2.2⟩
    · exact absurd z (show ¬ (9 : Nat) = 1 by decide)
    · exact absurd z (show ¬ (9 : Nat) = 7 by decide)
  · have e1 : r1 = 0 := by
      rw [hr1, if_pos (Int32.not_le.mp hk)]
    subst e1
    refine ⟨fun _ => ?_, fun z => absurd rfl z⟩
    exact h0 (2, (TK F n k).2.1) (by rw [step_8, if_neg hk1, if_neg hk])
end S8
