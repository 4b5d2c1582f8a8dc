/-! pure: the class's reader: a clause begins -/
theorem VQ_nil {md k nT : Nat} {ws : List Wd} {vz vu : Int32} {S L T ND : Nat → Int32} (h : NB 12 ws vz vu S L nT T) : VQ md k [] [] 0 0 0 0 S L nT T ND := by
  refine ⟨NB_clear h, MK_0 (fun v z => (by cases z)), MK_0 (fun v z => ?_), fun v hv => absurd hv (by simp), fun l hl => (by cases hl)⟩
  obtain ⟨j, l, hj, -⟩ := z
  cases hj
section S0
variable {md n k mc ms ptx : Nat} {F : Nat → Int32} {ar rk : Nat → Nat} {q0 : List Wd × List Con} {c : Ct} {D : Dt} {kP : ClassId} {code place an st bz ih fg ns ne po vz vu : Int32} {vS vL : Nat → Int32} {vN : Nat} {vT ND : Nat → Int32} {oz ou : Int32} {oS oL : Nat → Int32} {oN : Nat} {oT OZ : Nat → Int32} {sz su : Int32} {sS sL : Nat → Int32} {sN : Nat} {sT sV sB : Nat → Int32} {pz pu : Int32} {pS pL : Nat → Int32} {pN : Nat} {pT PZ : Nat → Int32} {cz cu : Int32} {cS cL : Nat → Int32} {cN : Nat} {cT cV cB : Nat → Int32} {tz tl : Int32} {FF K P Pl Z M TT : Nat → Int32}
theorem st_0 {post : (Int32 × Int32 × Int32 × Int32 × Int32 × Int32 × Int32 × Int32 × Int32 × Int32 × Int32 × Int32 × Int32 × Int32 × (Nat → Int32) × (Nat → Int32) × Nat × ClassId × Nat × (Nat → Int32) × Int32 × (Nat → Int32) × (Nat → Int32) × (Nat → Int32) × (Nat → Int32) × (Nat → Int32) × Nat × Nat) → Prop} (hmd : md < 4) (hn : n ≤ 20480) (hF : ∀ j, j < n → byt (F j)) (hmc : 1 ≤ mc) (hms : 40960 ≤ ms) (hk1 : ¬ (TK F n k).1 = 1) (h : RdQ md n F ar rk q0 (0, 0, 0) D k code place an st bz ih fg ns ne po vz vu vS vL vN vT ND oz ou oS oL oN oT OZ sz su sS sL sN sT sV sB pz pu pS pL pN pT PZ cz cu cS cL cN cT cV cB tz tl FF K P Pl Z M TT)
    (hE : mStep md F n (0, 0, 0) D k = .inr none → post (code, place, an, 12, bz, ih, fg, ns, ne, po, vz, vu, pz, pu, pS, pL, ptx, kP, pN, pT, tl, K, P, Pl, Z, M, 0, 0))
    (h0 : ∀ e, mStep md F n (0, 0, 0) D k = .inl e → ∀ an2 bz2 ih2 fg2 ns2 ne2 po2 vz2 vu2 tl2 K2 P2 Pl2 Z2 M2, (∃ ws, NB 12 ws vz2 vu2 vS vL vN vT) → post (nI e.1, nI e.2, an2, 12, bz2, ih2, fg2, ns2, ne2, po2, vz2, vu2, pz, pu, pS, pL, ptx, kP, pN, pT, tl2, K2, P2, Pl2, Z2, M2, 0, 0))
    (h1 : ∀ c2 D2, mStep md F n (0, 0, 0) D k = .inr (some (c2, D2, (TK F n k).2.2.1)) → ∀ an2 st2 bz2 ih2 fg2 ns2 ne2 po2 vz2 vu2 pz2 pu2 pS2 pL2 ptx2 kP2 pN2 pT2 tl2 K2 P2 Pl2 Z2 M2 kc ks, RdQ md n F ar rk q0 c2 D2 (TK F n k).2.2.1 code place an2 st2 bz2 ih2 fg2 ns2 ne2 po2 vz2 vu2 vS vL vN vT ND oz ou oS oL oN oT OZ sz su sS sL sN sT sV sB pz2 pu2 pS2 pL2 pN2 pT2 PZ cz cu cS cL cN cT cV cB tz tl2 FF K2 P2 Pl2 Z2 M2 TT → cst pN pN2 kc ks → post (code, place, an2, st2, bz2, ih2, fg2, ns2, ne2, po2, vz2, vu2, pz2, pu2, pS2, pL2, ptx2, kP2, pN2, pT2, tl2, K2, P2, Pl2, Z2, M2, kc, ks)) : wp_met_Re_beginClause post mc ms 64 64 pN (rmo md) (rmo md) (rmo md) (rmo md) (rmo md) ptx code place an (nI md) bz ih fg ns ne po vz vu (TK F n k).1 (nI (TK F n k).2.1) (nI (TK F n k).2.2.1) F pz pu pS pL pT tz tl K P Pl Z M kP := by
  obtain ⟨hM, hq, hst, ⟨gv, ⟨vws, gv2⟩⟩, ⟨ows, o1, o2, o3⟩, ⟨sd, s1, s2⟩, ⟨p1, p2⟩, ⟨c1, c2⟩, ⟨t1, t2, t3, t4⟩, -, ⟨b1, b2⟩, gw⟩ := h
  have p2 : md = 0 → tot D.2.2.2.2.1 ≤ k := p2
  have c2 : md = 0 → tot (D.2.2.2.2.2.map (·.1)) ≤ k := c2
  have hmd0 : md = 0 := hM.2.2.2.2.1.2.2.1 (Or.inl rfl)
  have hpk : k ≤ n := hM.1.1
  have hpos := TK_pos F n k hpk
  have hls : D.2.1 = [] := hM.2.2.1
  obtain ⟨a1, a6⟩ := RdQ_atm hM
  have h256 := hM.2.2.2.2.2.2.1
  have htl : tl = nI (Lc D).length := t2 (by decide)
  have hrm : rmo md < 100000 := by
    unfold rmo
    split <;> omega
  by_cases k0 : (TK F n k).1 = 0
  · exact ⟨fun _ => hE (by rw [step_0, if_neg hk1, if_pos k0]), fun z => absurd k0 z⟩
  refine ⟨fun z => absurd z k0, fun _ => ?_⟩
  by_cases k2 : (TK F n k).1 = 2
  · refine ⟨fun _ => ?_, fun z => absurd k2 z⟩
    rw [t1]
    by_cases hl : D.1.length = 256
    · refine ⟨fun _ => ?_, fun z => absurd (by rw [hl]; rfl) z⟩
      exact h0 (3, (TK F n k).2.1) (by rw [step_0, if_neg hk1, if_neg k0, if_neg (fun z => z k2), if_pos hl]) _ _ _ _ _ _ _ _ _ _ _ _ _ _ _ ⟨vws, gv2⟩
    · refine ⟨fun z => absurd ((nI_eq (b := 256) (by omega) (by omega)).mp z) hl, fun _ => ?_⟩
      have hroom : (Lc D).length < rmo md := by
        subst hmd0
        exact Lc_room0 hM hls hl
      rw [htl]
      unfold wp_met_Re_beginBody wp_met_Na_clear
      dsimp only
      refine sp_Cl_open (i := (Lc D).length) hroom (by omega) ?_
      refine ⟨mc, ms, by omega, by omega, ?_⟩
      refine ⟨fun _ => ?_, fun z => absurd k2 z⟩
      refine ⟨mc, ms, by omega, by omega, ?_⟩
      have hlt : (TK F n k).2.1 < (TK F n k).2.2.1 := by
        rcases hpos.2.2.2 with z | z
        · rw [k2] at z
          exact absurd z (by decide)
        · exact z
      obtain ⟨m, hm⟩ : ∃ m, (TK F n k).2.2.1 = (TK F n k).2.1 + m := ⟨(TK F n k).2.2.1 - (TK F n k).2.1, by omega⟩
      have em : (TK F n k).2.2.1 - (TK F n k).2.1 = m := by omega
      have eS : mStep md F n (0, 0, 0) D k = mName md F (D.1, [], D.2.2.1, [], D.2.2.2.2) 0 0 (TK F n k).2.1 (TK F n k).2.2.1 (TK F n k).2.2.1 := by
        rw [step_0, if_neg hk1, if_neg k0, if_neg (fun z => z k2), if_neg hl]
      have hlw : (sl F (TK F n k).2.1 m).length = m := sl_len _ _ _
      rw [hm]
      refine sp_Re_namePredicate (i := (Lc D).length) hmd p1 (by omega) (fun j hj => hF j (by omega)) (fun z => by have := p2 z; omega) hroom hrm hmc hms (fun e => ?_) (fun ps2 e pz2 pu2 pS2 pL2 ptx2 kP2 pN2 pT2 x kc ks q1 q2 q3 q4 => ?_)
      · refine h0 (3, (TK F n k).2.1) ?_ _ _ _ _ _ _ _ _ _ _ _ _ _ _ _ ⟨_, NB_clear gv2⟩
        rw [eS]
        unfold mName
        dsimp only
        rw [em, e]
      · have eS2 : mStep md F n (0, 0, 0) D k = .inr (some ((if md = 3 then 11 else 2, 0, 0), (D.1, [], (0, sl F (TK F n k).2.1 m, (TK F n k).2.1, 0, []), [], ps2, D.2.2.2.2.2), (TK F n k).2.2.1)) := by
          rw [eS]
          unfold mName
          dsimp only
          rw [em, e]
        have hMI := MI_step (by omega) hM eS2
        have eLc : Lc D = D.1.flatten ++ [] := by
          unfold Lc
          rw [hls]
        dsimp only
        rw [Nat.zero_add, Nat.zero_add, Nat.zero_add, Nat.zero_add]
        rw [hls] at a1 a6
        have t4' := t4
        have o3' := o3
        have gw' : WRc (WN md ar (D.1, [], D.2.2.1, [], D.2.2.2.2.1, D.2.2.2.2.2)) code place := by
          refine WRc_iff gw (fun c p => ?_)
          unfold WN
          rw [if_pos hmd0, if_pos hmd0, show Lc (D.1, [], D.2.2.1, [], D.2.2.2.2.1, D.2.2.2.2.2) = Lc D by unfold Lc; rw [hls]]
        rw [eLc] at o3' t4'
        have hR := nm_RQ (q0 := q0) (l0 := D.2.2.1) (k := k) (x := x) (bz := 0) (ih := 1) (tl := nI ((Lc D).length + 1)) (K := upd K (Lc D).length 0) (P := upd P (Lc D).length (-1)) (Pl := upd Pl (Lc D).length (nI (TK F n k).2.1)) (Z := upd Z (Lc D).length 0) (M := upd M (Lc D).length 0) (TT := TT) (rk := rk) (ls := []) (vs := []) (cs := D.1) (ps := D.2.2.2.2.1) hmd hMI (fun z => absurd hmd0 z) e q1.1 a1 a6 (VQ_nil (k := k) (ND := ND) gv2) (Nat.zero_le _) (by omega) o1 (by have z : tot ows ≤ k := o2.1; omega) (by rw [hlw]; omega) o3' s1 q1 (fun z => by have := q2 z; omega) c1 (fun z => by have := c2 z; omega) t1 (by rw [eLc]) t3 (fun i l hi => ?_) (by rw [← eLc, upd_same]) (by rw [← eLc, upd_same]) (by rw [← eLc, upd_same]) (fun z => absurd z (by decide)) q3 ⟨fun z1 z2 => ?_, fun z1 z2 => ?_⟩ gw'
        · rw [hlw, ← eLc] at hR
          exact h1 _ _ eS2 _ _ _ _ _ _ _ _ _ _ _ _ _ _ _ _ _ _ _ _ _ _ _ _ kc ks hR q4
        · have hlt2 := (List.getElem?_eq_some_iff.mp hi).1
          rw [← eLc] at hlt2
          exact CLm_cong (t4' i l hi) (a6 l (List.mem_of_getElem? hi)) (upd_ne (by omega)) (upd_ne (by omega)) (upd_ne (by omega)) (upd_ne (by omega)) (upd_ne (by omega)) (fun _ _ => rfl)
        · refine ⟨0, rfl, ?_⟩
          have n3 : ¬ md = 3 := by omega
          have eo : opb ((if md = 3 then 11 else 2, 0, 0) : Ct) = 1 := by
            rw [show (if md = 3 then 11 else 2 : Nat) = 2 from if_neg n3]
            rfl
          rw [eo, sf_md, if_pos hmd0]
          rfl
        · refine Or.inr ⟨rfl, ?_⟩
          rw [sf_md, if_pos hmd0]
          rfl
  · refine ⟨fun z => absurd z k2, fun _ => ?_⟩
    exact h0 (2, (TK F n k).2.1) (by rw [step_0, if_neg hk1, if_neg k0, if_pos k2]) _ _ _ _ _ _ _ _ _ _ _ _ _ _ _ ⟨vws, gv2⟩
end S0
