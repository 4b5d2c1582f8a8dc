/-! pure: the class's reader: behind a term -/
theorem n234 {x : Nat} (hx : x = 2 ∨ x = 3 ∨ x = 4) : ¬ x = 0 ∧ ¬ x = 1 ∧ ¬ x = 5 ∧ ¬ x = 7 ∧ ¬ x = 8 ∧ ¬ x = 9 ∧ ¬ x = 11 := by omega
section S4
variable {md n k k2 x y mc ms otx : Nat} {F : Nat → Int32} {ar rk : Nat → Nat} {q0 : List Wd × List Con} {c : Ct} {D : Dt} {kO : ClassId} {code place an st bz ih fg ns ne po vz vu : Int32} {vS vL : Nat → Int32} {vN : Nat} {vT ND : Nat → Int32} {oz ou : Int32} {oS oL : Nat → Int32} {oN : Nat} {oT OZ : Nat → Int32} {sz su : Int32} {sS sL : Nat → Int32} {sN : Nat} {sT sV sB : Nat → Int32} {pz pu : Int32} {pS pL : Nat → Int32} {pN : Nat} {pT PZ : Nat → Int32} {cz cu : Int32} {cS cL : Nat → Int32} {cN : Nat} {cT cV cB : Nat → Int32} {tz tl : Int32} {FF K P Pl Z M TT : Nat → Int32}
theorem op_RQ (hx : x = 2 ∨ x = 3 ∨ x = 4) (hy : y = 2 ∨ y = 3 ∨ y = 4) (hk : k ≤ k2) (hMI : MI md n F (y, 0, 0) D k2) (h : RdQ md n F ar rk q0 (x, 0, 0) D k code place an st bz ih fg ns ne po vz vu vS vL vN vT ND oz ou oS oL oN oT OZ sz su sS sL sN sT sV sB pz pu pS pL pN pT PZ cz cu cS cL cN cT cV cB tz tl FF K P Pl Z M TT) : RdQ md n F ar rk q0 (y, 0, 0) D k2 code place an (nI y) bz ih fg ns ne po vz vu vS vL vN vT ND oz ou oS oL oN oT OZ sz su sS sL sN sT sV sB pz pu pS pL pN pT PZ cz cu cS cL cN cT cV cB tz tl FF K P Pl Z M TT := by
  obtain ⟨hM, hq, hst, ⟨gv, gv2⟩, ⟨ows, o1, ⟨o2, o22⟩, o3⟩, ⟨sd, s1, s2⟩, ⟨p1, p2⟩, ⟨c1, c2⟩, ⟨t1, t2, t3, t4⟩, ⟨gl, -, -, -⟩, ⟨b1, b2⟩, gw⟩ := h
  have f1 : ∀ z : Nat, (z = 2 ∨ z = 3 ∨ z = 4) → lsO ((z, 0, 0) : Ct) D = D.2.1 ++ [D.2.2.1] := by
    intro z hz
    unfold lsO
    exact if_pos (by rcases hz with e | e | e <;> subst e <;> simp)
  have f2 : ∀ (z j : Nat), (z = 2 ∨ z = 3 ∨ z = 4) → kn ((z, 0, 0) : Ct) D j = D.2.2.1.2.2.1 := by
    intro z j hz
    unfold kn
    exact if_pos hz
  have f3 : ∀ (z j : Nat), (z = 2 ∨ z = 3 ∨ z = 4) → kx ((z, 0, 0) : Ct) j = j := by
    intro z j hz
    unfold kx
    exact if_neg (n234 hz).2.2.2.1
  have f4 : ∀ z : Nat, (z = 2 ∨ z = 3 ∨ z = 4) → opc ((z, 0, 0) : Ct) = 1 := by
    intro z hz
    unfold opc
    exact if_pos (by rcases hz with e | e | e <;> subst e <;> simp)
  have f5 : ∀ z : Nat, (z = 2 ∨ z = 3 ∨ z = 4) → opb ((z, 0, 0) : Ct) = 1 := by
    intro z hz
    unfold opb
    rw [if_neg (n234 hz).2.2.2.1]
    exact f4 z hz
  have nx0 : ¬ ((x, 0, 0) : Ct).1 = 0 := (n234 hx).1
  have nx5 : ¬ ((x, 0, 0) : Ct).1 = 5 := (n234 hx).2.2.1
  have nx11 : ¬ ((x, 0, 0) : Ct).1 = 11 := (n234 hx).2.2.2.2.2.2
  obtain ⟨hV, htv⟩ := gv nx0
  rw [f1 x hx] at hV
  rw [f2 x k hx] at o2
  rw [f3 x k hx] at p2 c2
  refine ⟨hMI, hq, rfl, ⟨fun _ => ⟨by rw [f1 y hy]; exact VQ_up hV hk, Nat.le_trans htv hk⟩, gv2⟩, ⟨ows, o1, ⟨by rw [f2 y k2 hy]; exact o2, fun _ => Nat.le_trans (o22 hx) hk⟩, o3⟩, ⟨sd, s1, fun z => ?_⟩, ⟨p1, fun z => by rw [f3 y k2 hy]; exact Nat.le_trans (p2 z) hk⟩, ⟨c1, fun z => by rw [f3 y k2 hy]; exact Nat.le_trans (c2 z) hk⟩, ⟨t1, fun _ => by rw [f4 y hy, ← f4 x hx]; exact t2 nx11, t3, t4⟩, ⟨fun _ => gl hx, fun z => ?_, fun z => ?_, fun z => ?_, fun z => absurd z (n234 hy).2.2.2.2.2.2⟩, ⟨fun z1 z2 => by
      obtain ⟨b, d1, d2⟩ := b1 z1 nx0
      rw [f5 x hx] at d2
      exact ⟨b, d1, by rw [f5 y hy]; exact d2⟩, fun z1 z2 => b2 nx0 nx5⟩, gw⟩
  · exact absurd z (fun w => w.elim (n234 hy).2.2.2.2.1 (n234 hy).2.2.2.2.2.1)
  · exact absurd z (fun w => w.elim (n234 hy).2.2.2.2.1 (n234 hy).2.2.2.2.2.1)
  · exact absurd z (n234 hy).2.1
  · exact absurd z (n234 hy).2.2.2.1
theorem st_4 {post : (Int32 × Int32 × Int32 × Int32 × Int32 × (Nat → Int32) × (Nat → Int32) × Nat × ClassId × Nat × (Nat → Int32) × (Nat → Int32) × (Nat → Int32) × (Nat → Int32) × Nat × Nat) → Prop} (hmd : md < 4) (hn : n ≤ 20480) (hF : ∀ j, j < n → byt (F j)) (hmc : 1 ≤ mc) (hms : 40960 ≤ ms) (hk1 : ¬ (TK F n k).1 = 1) (h : RdQ md n F ar rk q0 (4, 0, 0) D k code place an st bz ih fg ns ne po vz vu vS vL vN vT ND oz ou oS oL oN oT OZ sz su sS sL sN sT sV sB pz pu pS pL pN pT PZ cz cu cS cL cN cT cV cB tz tl FF K P Pl Z M TT)
    (h0 : ∀ e, mStep md F n (4, 0, 0) D k = .inl e → post (nI e.1, nI e.2, 12, oz, ou, oS, oL, otx, kO, oN, oT, OZ, PZ, P, 0, 0))
    (h1 : ∀ c2 D2, mStep md F n (4, 0, 0) D k = .inr (some (c2, D2, (TK F n k).2.2.1)) → ∀ code2 place2 st2 oz2 ou2 oS2 oL2 otx2 kO2 oN2 oT2 OZ2 PZ2 P2 kc ks, RdQ md n F ar rk q0 c2 D2 (TK F n k).2.2.1 code2 place2 an st2 bz ih fg ns ne po vz vu vS vL vN vT ND oz2 ou2 oS2 oL2 oN2 oT2 OZ2 sz su sS sL sN sT sV sB pz pu pS pL pN pT PZ2 cz cu cS cL cN cT cV cB tz tl FF K P2 Pl Z M TT → cst oN oN2 kc ks → post (code2, place2, st2, oz2, ou2, oS2, oL2, otx2, kO2, oN2, oT2, OZ2, PZ2, P2, kc, ks)) : wp_met_Re_readTermEnd post mc ms 12 12 oN (rmo md) (rmo md) otx code place (nI md) ih fg ns ne (TK F n k).1 (nI (TK F n k).2.1) F oz ou oS oL oT OZ PZ tl P Z kO := by
  have hpk : k ≤ n := h.1.1.1
  have hpos := TK_pos F n k hpk
  by_cases k8 : (TK F n k).1 = 8
  · refine ⟨fun _ => ?_, fun z => absurd k8 z⟩
    have eS2 : mStep md F n (4, 0, 0) D k = .inr (some ((3, 0, 0), D, (TK F n k).2.2.1)) := by rw [step_TE, if_neg hk1, if_pos k8]
    exact h1 _ _ eS2 _ _ _ _ _ _ _ _ _ _ _ _ _ _ 0 0 (op_RQ (x := 4) (y := 3) (by omega) (by omega) (by omega) (MI_step (by omega) h.1 eS2) h) cst_0
  · refine ⟨fun z => absurd z k8, fun _ => ?_⟩
    by_cases k7 : (TK F n k).1 = 7
    · refine ⟨fun _ => ⟨mc, ms, by omega, by omega, ?_⟩, fun z => absurd k7 z⟩
      have eS : mStep md F n (4, 0, 0) D k = mShut md D (TK F n k).2.2.1 := by rw [step_TE, if_neg hk1, if_neg k8, if_pos k7]
      refine st_shut hmd hn hF hmc hms (Or.inr rfl) (by omega) eS h (fun c2 D2 e _ code2 place2 st2 oz2 ou2 oS2 oL2 otx2 kO2 oN2 oT2 OZ2 PZ2 P2 kc ks hR hc => ?_)
      dsimp only
      rw [Nat.zero_add, Nat.zero_add]
      exact h1 c2 D2 e _ _ _ _ _ _ _ _ _ _ _ _ _ _ kc ks hR hc
    · refine ⟨fun z => absurd z k7, fun _ => ?_⟩
      exact h0 (2, (TK F n k).2.1) (by rw [step_TE, if_neg hk1, if_neg k8, if_neg k7])
end S4
