/-! pure: the class's reader: an atom is closed -/
section SSh
variable {md n k k3 mc ms otx : Nat} {F : Nat → Int32} {ar rk : Nat → Nat} {q0 : List Wd × List Con} {c : Ct} {D : Dt} {kO : ClassId} {code place an st bz ih fg ns ne po vz vu : Int32} {vS vL : Nat → Int32} {vN : Nat} {vT ND : Nat → Int32} {oz ou : Int32} {oS oL : Nat → Int32} {oN : Nat} {oT OZ : Nat → Int32} {sz su : Int32} {sS sL : Nat → Int32} {sN : Nat} {sT sV sB : Nat → Int32} {pz pu : Int32} {pS pL : Nat → Int32} {pN : Nat} {pT PZ : Nat → Int32} {cz cu : Int32} {cS cL : Nat → Int32} {cN : Nat} {cT cV cB : Nat → Int32} {tz tl : Int32} {FF K P Pl Z M TT : Nat → Int32}
theorem oi_shut (hc : c.1 = 2 ∨ c.1 = 3 ∨ c.1 = 4) (h : OI md F c D) : oA md F D := by
  unfold OI at h
  rcases hc with e | e | e
  · rw [if_neg (by omega), if_neg (by omega), if_pos e] at h
    exact h
  · rw [if_neg (by omega), if_neg (by omega), if_neg (by omega), if_pos e] at h
    exact h
  · rw [if_neg (by omega), if_neg (by omega), if_neg (by omega), if_neg (by omega), if_pos e] at h
    exact h
theorem st_shut {post : (Int32 × Int32 × Int32 × Int32 × Int32 × (Nat → Int32) × (Nat → Int32) × Nat × ClassId × Nat × (Nat → Int32) × (Nat → Int32) × (Nat → Int32) × (Nat → Int32) × Nat × Nat) → Prop} (hmd : md < 4) (hn : n ≤ 20480) (hF : ∀ j, j < n → byt (F j)) (hmc : 1 ≤ mc) (hms : 40960 ≤ ms) (hc : c.1 = 2 ∨ c.1 = 4) (hk3 : k ≤ k3) (eS : mStep md F n c D k = mShut md D k3) (h : RdQ md n F ar rk q0 c D k code place an st bz ih fg ns ne po vz vu vS vL vN vT ND oz ou oS oL oN oT OZ sz su sS sL sN sT sV sB pz pu pS pL pN pT PZ cz cu cS cL cN cT cV cB tz tl FF K P Pl Z M TT)
    (h1 : ∀ c2 D2, mStep md F n c D k = .inr (some (c2, D2, k3)) → (c2.1 = 5 ∨ c2.1 = 10 ∨ c2.1 = 11) → ∀ code2 place2 st2 oz2 ou2 oS2 oL2 otx2 kO2 oN2 oT2 OZ2 PZ2 P2 kc ks, RdQ md n F ar rk q0 c2 D2 k3 code2 place2 an st2 bz ih fg ns ne po vz vu vS vL vN vT ND oz2 ou2 oS2 oL2 oN2 oT2 OZ2 sz su sS sL sN sT sV sB pz pu pS pL pN pT PZ2 cz cu cS cL cN cT cV cB tz tl FF K P2 Pl Z M TT → cst oN oN2 kc ks → post (code2, place2, st2, oz2, ou2, oS2, oL2, otx2, kO2, oN2, oT2, OZ2, PZ2, P2, kc, ks)) : wp_met_Re_closeAtom post mc ms 12 12 oN (rmo md) (rmo md) otx code place (nI md) ih fg ns ne F oz ou oS oL oT OZ PZ tl P Z kO := by
  have hc3 : c.1 = 2 ∨ c.1 = 3 ∨ c.1 = 4 := hc.elim Or.inl (fun z => Or.inr (Or.inr z))
  have hc5 : c.1 = 2 ∨ c.1 = 3 ∨ c.1 = 4 ∨ c.1 = 8 ∨ c.1 = 9 := hc.elim Or.inl (fun z => Or.inr (Or.inr (Or.inl z)))
  have hc6 : c.1 = 1 ∨ c.1 = 2 ∨ c.1 = 3 ∨ c.1 = 4 ∨ c.1 = 8 ∨ c.1 = 9 := Or.inr hc5
  have nc0 : ¬ c.1 = 0 := by clear h h1 hF eS; omega
  have nc5 : ¬ c.1 = 5 := by clear h h1 hF eS; omega
  have nc7 : ¬ c.1 = 7 := by clear h h1 hF eS; omega
  have nc11 : ¬ c.1 = 11 := by clear h h1 hF eS; omega
  obtain ⟨hM, hq, hst, ⟨gv, gv2⟩, ⟨ows, o1, ⟨o2, o22⟩, o3⟩, ⟨sd, s1, s2⟩, ⟨p1, p2⟩, ⟨c1, c2⟩, ⟨t1, t2, t3, t4⟩, ⟨gl, -, -, -⟩, ⟨b1, b2⟩, gw⟩ := h
  have ekx : kx c k = k := if_neg nc7
  rw [ekx] at p2 c2
  obtain ⟨hV, htv⟩ := gv nc0
  obtain ⟨l1, l2, l3, l4, l5, l6⟩ := gl hc3
  have o2' : tot ows ≤ D.2.2.1.2.2.1 := by
    unfold kn at o2
    rw [if_pos hc3] at o2
    exact o2
  have hend := o22 hc3
  have eo1 : opc c = 1 := if_pos hc6
  have eob : opb c = 1 := by
    unfold opb
    rw [if_neg nc7]
    exact eo1
  have elO : lsO c D = D.2.1 ++ [D.2.2.1] := if_pos hc5
  obtain ⟨a1, a6⟩ := RdQ_atm hM
  have hoA := oi_shut hc3 hM.2.2.1
  have hwd := (hM.2.2.2.1.1 hc3).1
  have hroom := Lc_room hM nc0 hoA.2.2.2.2
  have htl : tl = nI ((Lc D).length + 1) := by rw [t2 nc11, eo1]
  have hrm : rmo md < 100000 := by
    unfold rmo
    split <;> omega
  have hih := b2 nc0 nc5
  have hsf : (md = 0 ∧ D.2.1 = []) ↔ D.2.1.length + sf md = 0 := by
    rw [sf_md]
    by_cases h0 : md = 0
    · rw [if_pos h0]
      constructor
      · intro z
        rw [z.2]
        rfl
      · intro z
        exact ⟨h0, List.eq_nil_of_length_eq_zero (by omega)⟩
    · rw [if_neg h0]
      exact ⟨fun z => absurd z.1 h0, fun z => by omega⟩
  rw [htl, l5, l6]
  refine sp_Re_closeAtom (cn := D.2.2.2.2.2) (rk := rk) (ar := ar) (ps := D.2.2.2.2.1) (Lc := Lc D) (ows := ows) (i := (Lc D).length) (l := D.2.2.1) (K := K) (Pl := Pl) (M := M) (TT := TT) hmd hM.2.1.2.2.2.2.2.1 p1.1 hoA.1.1 hoA.2.2.1 l2 l1 l3 l4 o3 a6 o1 gw rfl rfl (by have := hwd.2.1; omega) (fun j hj => hF j (by have := hwd.2.1; omega)) hwd.2.2.1 o2' (fun z => ?_) hroom hrm hmc hms (hih.elim (fun z => Or.inl z.1) (fun z => Or.inr z.1)) (fun code2 place2 ows2 oz2 ou2 oS2 oL2 otx2 kO2 oN2 oT2 OZ2 PZ2 P2 kc ks q1 q2 q3 q4 q5 q6 q7 q8 => ?_)
  · have e1 := hM.2.2.2.2.2.1 z
    have e2 := hoA.2.2.2.2
    unfold lim at e2
    rw [if_neg z] at e2
    have := Lc_le hM
    rw [e1] at this
    simp only [List.length_nil] at this
    omega
  · have eS2 : mStep md F n c D k = .inr (some ((if md = 2 then 11 else if md = 0 ∧ D.2.1 = [] then 5 else 10, 0, 0), (D.1, D.2.1 ++ [D.2.2.1], D.2.2.1, D.2.2.2.1, D.2.2.2.2.1, D.2.2.2.2.2), k3)) := eS
    have hMI := MI_step (by omega) hM eS2
    have ec2 : ∃ x : Nat, (if md = 2 then 11 else if md = 0 ∧ D.2.1 = [] then 5 else 10 : Nat) = x ∧ (x = 5 ∨ x = 10 ∨ x = 11) ∧ (if md = 2 then (11 : Int32) else if ih = 0 then 10 else 5) = nI x ∧ (¬ x = 5 → ih = 0) := by
      by_cases h2 : md = 2
      · refine ⟨11, if_pos h2, by omega, by rw [if_pos h2]; rfl, fun _ => ?_⟩
        rcases hih with z | z
        · exact z.1
        · have := (hsf.mpr z.2).1
          omega
      · rw [if_neg h2, if_neg h2]
        rcases hih with ⟨z1, z2⟩ | ⟨z1, z2⟩
        · refine ⟨10, if_neg (fun z => by have := hsf.mp z; omega), by omega, by rw [if_pos z1]; rfl, fun _ => z1⟩
        · refine ⟨5, if_pos (hsf.mpr z2), by omega, ?_, fun z => absurd rfl z⟩
          rw [if_neg (fun z => by rw [z1] at z; exact absurd z (by decide))]
          rfl
    obtain ⟨x, e1, e2, e3, e4⟩ := ec2
    rw [e1] at eS2 hMI
    have nx : ¬ (x = 2 ∨ x = 3 ∨ x = 4) := by omega
    have nx5 : ¬ (x = 2 ∨ x = 3 ∨ x = 4 ∨ x = 8 ∨ x = 9) := by omega
    have nx6 : ¬ (x = 1 ∨ x = 2 ∨ x = 3 ∨ x = 4 ∨ x = 8 ∨ x = 9) := by omega
    have f1 : lsO ((x, 0, 0) : Ct) (D.1, D.2.1 ++ [D.2.2.1], D.2.2.1, D.2.2.2.1, D.2.2.2.2.1, D.2.2.2.2.2) = D.2.1 ++ [D.2.2.1] := if_neg nx5
    have f2 : kn ((x, 0, 0) : Ct) (D.1, D.2.1 ++ [D.2.2.1], D.2.2.1, D.2.2.2.1, D.2.2.2.2.1, D.2.2.2.2.2) k3 = k3 := by
      unfold kn
      rw [if_neg nx, if_neg (show ¬ x = 7 by omega)]
    have f5 : kx ((x, 0, 0) : Ct) k3 = k3 := if_neg (show ¬ x = 7 by omega)
    have f3 : opc ((x, 0, 0) : Ct) = 0 := if_neg nx6
    have f4 : opb ((x, 0, 0) : Ct) = 0 := by
      unfold opb
      rw [if_neg (show ¬ x = 7 by omega)]
      exact f3
    have eLc : Lc (D.1, D.2.1 ++ [D.2.2.1], D.2.2.1, D.2.2.2.1, D.2.2.2.2.1, D.2.2.2.2.2) = Lc D ++ [D.2.2.1] := Lc_push
    rw [e3]
    refine h1 (x, 0, 0) _ eS2 e2 code2 place2 _ oz2 ou2 oS2 oL2 otx2 kO2 oN2 oT2 OZ2 PZ2 P2 kc ks ⟨hMI, hq, rfl, ⟨fun _ => ⟨?_, by show tot (D.2.2.2.1.map gdw) ≤ k3; omega⟩, gv2⟩, ⟨ows2, q2, ⟨?_, fun z => absurd z nx⟩, ?_⟩, ⟨sd, s1, fun z => ?_⟩, ⟨p1, fun z => ?_⟩, ⟨c1, fun z => ?_⟩, ⟨t1, fun _ => ?_, t3, fun i l hi => ?_⟩, ⟨fun z => absurd z nx, fun z => ?_, fun z => ?_, fun z => ?_, fun z z3 => absurd (show x = 11 from z) (by rw [← e1, if_neg (show ¬ md = 2 by omega)]; split <;> omega)⟩, ⟨fun z1 z2 => ?_, fun z1 z2 => ?_⟩, ?_⟩ q8
    · rw [f1, ← elO]
      exact VQ_up hV hk3
    · rw [f2]
      omega
    · rw [eLc]
      exact q4
    · have z2 : x = 8 ∨ x = 9 := z
      omega
    · have := p2 z
      rw [f5]
      show tot D.2.2.2.2.1 ≤ k3
      omega
    · have := c2 z
      rw [f5]
      show tot (D.2.2.2.2.2.map (·.1)) ≤ k3
      omega
    · rw [eLc, f3, List.length_append]
      exact htl
    · rw [eLc] at hi
      rcases app1.mp hi with r | ⟨r1, r2⟩
      · have hlt := (List.getElem?_eq_some_iff.mp r).1
        exact CLm_cong (t4 i l r) (a6 l (List.mem_of_getElem? r)) rfl (q7 i (by omega)) rfl rfl rfl (fun _ _ => rfl)
      · subst r1 r2
        exact q6
    · have z2 : x = 8 ∨ x = 9 := z
      omega
    · have z2 : x = 1 := z
      omega
    · have z2 : x = 7 := z
      omega
    · obtain ⟨b, d1, d2⟩ := b1 z1 nc0
      refine ⟨b, d1, ?_⟩
      rw [f4]
      rw [eob] at d2
      show b + 1 = (D.2.1 ++ [D.2.2.1]).length + 0 + sf md
      rw [List.length_append, List.length_singleton]
      omega
    · refine Or.inl ⟨e4 z2, ?_⟩
      show 1 ≤ (D.2.1 ++ [D.2.2.1]).length + sf md
      rw [List.length_append, List.length_singleton]
      omega
    · exact WRc_iff q1 (fun c p => (WN_atom hoA.1.1 (fun z => hM.2.2.2.2.2.1 z)).symm)
end SSh
