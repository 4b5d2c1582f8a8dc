/-! pure: the class's reader: a clause is closed -/
section S5
variable {md n k k2 : Nat} {F : Nat → Int32} {ar rk : Nat → Nat} {q0 : List Wd × List Con} {c : Ct} {D : Dt} {code place an st bz ih fg ns ne po vz vu : Int32} {vS vL : Nat → Int32} {vN : Nat} {vT ND : Nat → Int32} {oz ou : Int32} {oS oL : Nat → Int32} {oN : Nat} {oT OZ : Nat → Int32} {sz su : Int32} {sS sL : Nat → Int32} {sN : Nat} {sT sV sB : Nat → Int32} {pz pu : Int32} {pS pL : Nat → Int32} {pN : Nat} {pT PZ : Nat → Int32} {cz cu : Int32} {cS cL : Nat → Int32} {cN : Nat} {cT cV cB : Nat → Int32} {tz tl : Int32} {FF K P Pl Z M TT : Nat → Int32}
theorem nc5 {c : Ct} (h : c.1 = 5 ∨ c.1 = 10) : ¬ c.1 = 0 ∧ ¬ c.1 = 7 ∧ ¬ c.1 = 11 ∧ ¬ (c.1 = 2 ∨ c.1 = 3 ∨ c.1 = 4) ∧ ¬ (c.1 = 2 ∨ c.1 = 3 ∨ c.1 = 4 ∨ c.1 = 8 ∨ c.1 = 9) ∧ ¬ (c.1 = 1 ∨ c.1 = 2 ∨ c.1 = 3 ∨ c.1 = 4 ∨ c.1 = 8 ∨ c.1 = 9) := by omega
theorem st_cl {post : (Int32 × Int32 × Int32 × Int32 × (Nat → Int32)) → Prop} {nf : Nat} (hc : c.1 = 5 ∨ c.1 = 10) (hn : n ≤ 20480) (hnf : nf < 1000) (hsz : D.1.length + 1 < nf) (h : RdQ md n F ar rk q0 c D k code place an st bz ih fg ns ne po vz vu vS vL vN vT ND oz ou oS oL oN oT OZ sz su sS sL sN sT sV sB pz pu pS pL pN pT PZ cz cu cS cL cN cT cV cB tz tl FF K P Pl Z M TT)
    (h1 : ∀ code2 place2, WRc (fun c p => WN md ar D c p ∨ W11 md D.2.1 D.2.1.length c p) code2 place2 → post (code2, place2, 0, nI (D.1.length + 1), upd FF (D.1.length + 1) (nI (Lc D).length))) : wp_met_Re_closeClause post nf code place po vz ND tz tl FF := by
  obtain ⟨n0, n7, n11, n3, n5, n6⟩ := nc5 hc
  have hkn : k ≤ n := h.1.1.1
  obtain ⟨hM, hq, hst, ⟨gv, gv2⟩, -, -, -, -, ⟨t1, t2, t3, t4⟩, -, -, gw⟩ := h
  obtain ⟨hV, htv⟩ := gv n0
  have elO : lsO c D = D.2.1 := if_neg n5
  rw [elO] at hV
  have htl : tl = nI (Lc D).length := by
    rw [t2 n11]
    have : opc c = 0 := if_neg n6
    rw [this, Nat.add_zero]
  obtain ⟨v1, v2, v3, v4, v5⟩ := hV
  have hvz : vz = nI D.2.2.2.1.length := by
    rw [v1.2.1, List.length_map]
  have hvl : D.2.2.2.1.length ≤ 12 := by
    have := v1.1
    rw [List.length_map] at this
    exact this
  rw [htl, hvz, t1]
  obtain ⟨w1, w2⟩ := W11_nd v4 v5
  refine sp_Re_closeClause (W := WN md ar D) (pos := bnd md D.2.1) (nd := fun v p => Nd md D.2.1 v p ∧ ∀ p2, Nd md D.2.1 v p2 → p ≤ p2) gw hvl v3 (fun v hv => ?_) hsz (by omega) (fun code2 place2 hW => h1 _ _ (WRc_eqv hW (fun c p z => ?_) (fun c p z => ?_)))
  · rcases v4 v hv with ⟨e, q⟩ | ⟨p, e, q1, q2, q3⟩
    · exact Or.inl ⟨e, fun p z => q p z.1⟩
    · refine Or.inr ⟨p, e, by omega, ⟨q2, q3⟩, fun p2 z => ?_⟩
      have a1 := q3 p2 z.1
      have a2 := z.2 p q2
      omega
  · rcases z with z | z
    · exact Or.inl z
    · exact Or.inr (w1 c p z)
  · rcases z with z | z
    · exact ⟨c, p, Or.inl z, Nat.le_refl _⟩
    · obtain ⟨p2, a1, a2⟩ := w2 c p z
      exact ⟨11, p2, Or.inr ⟨rfl, a1⟩, a2⟩
theorem dot_RQ {code2 place2 : Int32} (hc : c.1 = 5 ∨ c.1 = 10) (hmd0 : md = 0) (hk : k ≤ k2) (hMI : MI md n F (0, 0, 0) (D.1 ++ [D.2.1], [], D.2.2.1, D.2.2.2.1, D.2.2.2.2.1, D.2.2.2.2.2) k2) (hW : WRc (fun c p => WN md ar D c p ∨ W11 md D.2.1 D.2.1.length c p) code2 place2) (h : RdQ md n F ar rk q0 c D k code place an st bz ih fg ns ne po vz vu vS vL vN vT ND oz ou oS oL oN oT OZ sz su sS sL sN sT sV sB pz pu pS pL pN pT PZ cz cu cS cL cN cT cV cB tz tl FF K P Pl Z M TT) {ih2 : Int32} : RdQ md n F ar rk q0 (0, 0, 0) (D.1 ++ [D.2.1], [], D.2.2.1, D.2.2.2.1, D.2.2.2.2.1, D.2.2.2.2.2) k2 code2 place2 an 0 bz ih2 fg ns ne po vz vu vS vL vN vT ND oz ou oS oL oN oT OZ sz su sS sL sN sT sV sB pz pu pS pL pN pT PZ cz cu cS cL cN cT cV cB (nI (D.1.length + 1)) tl (upd FF (D.1.length + 1) (nI (Lc D).length)) K P Pl Z M TT := by
  obtain ⟨n0, n7, n11, n3, n5, n6⟩ := nc5 hc
  obtain ⟨hM, hq, hst, ⟨gv, gv2⟩, ⟨ows, o1, ⟨o2, o22⟩, o3⟩, ⟨sd, s1, s2⟩, ⟨p1, p2⟩, ⟨c1, c2⟩, ⟨t1, t2, t3, t4⟩, -, -, gw⟩ := h
  have ekn : kn c D k = k := by
    unfold kn
    rw [if_neg n3, if_neg n7]
  have ekx : kx c k = k := if_neg n7
  rw [ekn] at o2
  rw [ekx] at p2 c2
  have htl : tl = nI (Lc D).length := by
    rw [t2 n11]
    have : opc c = 0 := if_neg n6
    rw [this, Nat.add_zero]
  have eLc : Lc (D.1 ++ [D.2.1], [], D.2.2.1, D.2.2.2.1, D.2.2.2.2.1, D.2.2.2.2.2) = Lc D := Lc_dot
  refine ⟨hMI, fun z => absurd hmd0 z, rfl, ⟨fun z => absurd rfl z, gv2⟩, ⟨ows, o1, ⟨Nat.le_trans o2 hk, fun z => ?_⟩, ?_⟩, ⟨sd, s1, fun z => ?_⟩, ⟨p1, fun z => Nat.le_trans (p2 z) hk⟩, ⟨c1, fun z => Nat.le_trans (c2 z) hk⟩, ⟨?_, fun _ => ?_, fun i hi => ?_, ?_⟩, ⟨fun z => ?_, fun z => ?_, fun z => ?_, fun z => ?_, fun z => absurd z (by simp)⟩, ⟨fun z1 z2 => absurd rfl z2, fun z1 z2 => absurd rfl z1⟩, ?_⟩
  · exact absurd z (show ¬ ((0 : Nat) = 2 ∨ (0 : Nat) = 3 ∨ (0 : Nat) = 4) by decide)
  · rw [eLc]
    exact o3
  · exact absurd z (show ¬ ((0 : Nat) = 8 ∨ (0 : Nat) = 9) by decide)
  · show nI (D.1.length + 1) = nI (D.1 ++ [D.2.1]).length
    rw [List.length_append]
    rfl
  · rw [eLc, htl]
    rfl
  · have hi2 : i ≤ (D.1 ++ [D.2.1]).length := hi
    rw [List.length_append, List.length_singleton] at hi2
    show upd FF (D.1.length + 1) (nI (Lc D).length) i = nI ((D.1 ++ [D.2.1]).take i).flatten.length
    rcases Nat.lt_or_ge D.1.length i with q | q
    · obtain rfl : i = D.1.length + 1 := by omega
      rw [upd_same, List.take_of_length_le (by simp), List.flatten_append]
      unfold Lc
      simp
    · rw [upd_ne (by omega), List.take_append_of_le_length q]
      exact t3 i q
  · rw [eLc]
    exact t4
  · exact absurd z (show ¬ ((0 : Nat) = 2 ∨ (0 : Nat) = 3 ∨ (0 : Nat) = 4) by decide)
  · exact absurd z (show ¬ ((0 : Nat) = 8 ∨ (0 : Nat) = 9) by decide)
  · exact absurd z (show ¬ (0 : Nat) = 1 by decide)
  · exact absurd z (show ¬ (0 : Nat) = 7 by decide)
  · subst hmd0
    exact WRc_iff hW (fun c p => (WN_dot rfl).symm)
end S5
