/-! pure: all clauses of a stage; plain facts -/
section CCn
variable {G : Nat → Int32} {ps : List Wd} {cn : List Con} {cs : List (List Lt)} {rk ar L : Nat → Nat} {FF K P Z M T ST V BR : Nat → Int32} {s k vb nP0 mc ms : Nat} {E0 : List (Nat × List Nat)} {sg0 : Nat → Nat} {OV Q : Prop} {Kn Kb Gp : Nat → Int32} {n_a0_clauses_places h0 values_ facts_ indexes_ steps_ a0_clauses_ indexes_shapes_ indexes_fixed_ indexes_firsts_ indexes_lasts_ indexes_froms_ indexes_tos_ facts_keys_ facts_stages_ facts_amounts_ facts_predicates_ facts_next_ facts_slots_ facts_oldest_ facts_newest_ facts_known_ facts_knownBefore_ a0_clauses_first_ a0_clauses_kinds_ a0_clauses_predicates_ a0_clauses_places_ a0_clauses_sizes_ a0_clauses_masks_ a0_clauses_terms_ : Nat} {a0_clauses_literals_ : Int32} {F_a0_clauses_places : Nat → Int32} {rows_ : Option Nat} {sa st_a_roles st_a_variables : Nat → Nat}
theorem close_60 {post : (Int32 × Int32 × Int32 × Int32 × Int32 × (Nat → Int32) × Int32 × Int32 × (Nat → Int32) × (Nat → Int64) × (Nat → Int32) × (Nat → Int32) × (Nat → Int32) × (Nat → Int32) × Nat × ClassId × Nat × (Nat → Int64) × Int32 × Int32 × Int32 × Int32 × (Nat → Int64) × (Nat → Int32) × (Nat → Int32) × (Nat → Int32) × (Nat → Int32) × (Nat → Int32) × (Nat → Int32) × (Nat → Int32) × (Nat → Int32) × (Nat → Int32) × (Nat → Int32) × (Nat → Int32) × (Nat → Int32) × (Nat → Int32) × (Nat → Int32) × (Nat → Int32) × (Nat → Int32) × (Nat → Int32) × (Nat → Int32) × (Nat → Int32) × (Nat → Int32) × (Nat → Int32) × (Nat → Int64) × (Nat → Int32) × (Nat → Int32) × (Nat → Nat → Int32) × (Nat → Nat → Int32) × Nat × Nat) → Prop} {J : (Int32 × Int32 × Int32 × Int32 × Int32 × Int32 × (Nat → Int32) × Int32 × Int32 × (Nat → Int32) × (Nat → Int64) × (Nat → Int32) × (Nat → Int32) × (Nat → Int32) × (Nat → Int32) × Nat × ClassId × Nat × (Nat → Int64) × Int32 × Int32 × Int32 × Int32 × (Nat → Int64) × (Nat → Int32) × (Nat → Int32) × (Nat → Int32) × (Nat → Int32) × (Nat → Int32) × (Nat → Int32) × (Nat → Int32) × (Nat → Int32) × (Nat → Int32) × (Nat → Int32) × (Nat → Int32) × (Nat → Int32) × (Nat → Int32) × (Nat → Int32) × (Nat → Int32) × (Nat → Int32) × (Nat → Int32) × (Nat → Int32) × (Nat → Int32) × (Nat → Int32) × (Nat → Int32) × (Nat → Int64) × (Nat → Int32) × (Nat → Int32) × (Nat → Nat → Int32) × (Nat → Nat → Int32) × Nat × Nat) → Prop} (h : PgK G ps cn cs rk ar L (nI cs.length) FF K P Z M T ST V BR) (hs : s ≤ 64) (hk : k ≤ 20001) (hE0 : E0.length ≤ 20000) (hvb : vb ≤ E0.length) (hKn : ∀ p, p < 64 → LsQ E0 p E0.length (Kn p)) (hKb : ∀ p, p < 64 → LsQ E0 p vb (Kb p)) (hG : GpI 11 Gp) (hmc : 960256 ≤ 256 * mc + nP0) (hms : 2880000 ≤ ms + 2 * nP0) (hov : ∀ nw c x, (∀ x ∈ nw, ∃ c, DrC ps L K P Z T cs s E0 E0.length c x) → (E0 ++ nw).Nodup → (E0 ++ nw).length = 20000 → DrC ps L K P Z T cs s E0 E0.length c x → x ∉ E0 ++ nw → OV)
    (hJ : ∀ (sc : Int32) (stp : Int32) (W : Nat → Int32) (z : Nat) (u : Nat) (SHa : Nat → Int32) (FXa : Nat → Int64) (FIa : Nat → Int32) (LAa : Nat → Int32) (FRa : Nat → Int32) (TOa : Nat → Int32) (pl : Nat) (kp : ClassId) (nP : Nat) (PO : Nat → Int64) (sz : Int32) (hg : Int32) (fu : Int32) (FK : Nat → Int64) (S : Nat → Int32) (A : Nat → Int32) (FP : Nat → Int32) (N : Nat → Int32) (FT : Nat → Int32) (O : Nat → Int32) (NW : Nat → Int32) (SL : Nat → Int32) (SC : Nat → Int32) (SQ : Nat → Int32) (SB : Nat → Int32) (SV : Nat → Int32) (SM : Nat → Int32) (SG : Nat → Int32) (SS : Nat → Int32) (SW : Nat → Int32) (SP : Nat → Int32) (SO : Nat → Int32) (SH : Nat → Int32) (SF : Nat → Int64) (SFm : Nat → Int32) (STo : Nat → Int32) (SR : Nat → Nat → Int32) (SX : Nat → Nat → Int32) (kc : Nat) (ks : Nat) hh oo E sgE, FaR ar E sgE sz hg FK S A FP N FT O NW → IxS E z u nP SHa FXa FIa LAa FRa TOa PO → cst nP0 nP kc ks → SgI ps L K P Z T cs s k E0 vb sg0 OV Q (fun _ _ => True) E sgE fu → J (nI E0.length, sc, hh, nI (k + 1), oo, stp, W, nI z, nI u, SHa, FXa, FIa, LAa, FRa, TOa, pl, kp, nP, PO, sz, hg, fu, nI E0.length, FK, S, A, FP, N, FT, O, NW, Kn, Kb, SL, SC, SQ, SB, SV, SM, SG, SS, SW, SP, SO, SH, SF, SFm, STo, SR, SX, kc, ks)) : ∀ m c, c + m = cs.length → ∀ (sc : Int32) (stp : Int32) (W : Nat → Int32) (z : Nat) (u : Nat) (SHa : Nat → Int32) (FXa : Nat → Int64) (FIa : Nat → Int32) (LAa : Nat → Int32) (FRa : Nat → Int32) (TOa : Nat → Int32) (pl : Nat) (kp : ClassId) (nP : Nat) (PO : Nat → Int64) (sz : Int32) (hg : Int32) (fu : Int32) (FK : Nat → Int64) (S : Nat → Int32) (A : Nat → Int32) (FP : Nat → Int32) (N : Nat → Int32) (FT : Nat → Int32) (O : Nat → Int32) (NW : Nat → Int32) (SL : Nat → Int32) (SC : Nat → Int32) (SQ : Nat → Int32) (SB : Nat → Int32) (SV : Nat → Int32) (SM : Nat → Int32) (SG : Nat → Int32) (SS : Nat → Int32) (SW : Nat → Int32) (SP : Nat → Int32) (SO : Nat → Int32) (SH : Nat → Int32) (SF : Nat → Int64) (SFm : Nat → Int32) (STo : Nat → Int32) (SR : Nat → Nat → Int32) (SX : Nat → Nat → Int32) (kc : Nat) (ks : Nat) hh oo E sgE, FaR ar E sgE sz hg FK S A FP N FT O NW → IxS E z u nP SHa FXa FIa LAa FRa TOa PO → cst nP0 nP kc ks → SgI ps L K P Z T cs s k E0 vb sg0 OV Q (fun c9 _ => c9 < c) E sgE fu → lw_met_Jo_closeStratum_60 post J (nI cs.length) 257 FF 3328 M (nI k) (nI E0.length) (nI E0.length) Kn Kb mc ms 3328 3328 n_a0_clauses_places 3328 (6 * 3328) h0 values_ facts_ indexes_ steps_ a0_clauses_ indexes_shapes_ indexes_fixed_ indexes_firsts_ indexes_lasts_ indexes_froms_ indexes_tos_ facts_keys_ facts_stages_ facts_amounts_ facts_predicates_ facts_next_ facts_slots_ facts_oldest_ facts_newest_ facts_known_ facts_knownBefore_ a0_clauses_first_ a0_clauses_kinds_ a0_clauses_predicates_ a0_clauses_places_ a0_clauses_sizes_ a0_clauses_masks_ a0_clauses_terms_ a0_clauses_literals_ K P F_a0_clauses_places Z T Gp rows_ sa st_a_roles st_a_variables (nI s) ST (m + 1) (nI c, sc, hh, oo, stp, W, nI z, nI u, SHa, FXa, FIa, LAa, FRa, TOa, pl, kp, nP, PO, sz, hg, fu, FK, S, A, FP, N, FT, O, NW, SL, SC, SQ, SB, SV, SM, SG, SS, SW, SP, SO, SH, SF, SFm, STo, SR, SX, kc, ks) := by
  have hcl := h.1.2.1
  intro m
  induction m with
  | zero =>
    intro c hj sc stp W z u SHa FXa FIa LAa FRa TOa pl kp nP PO sz hg fu FK S A FP N FT O NW SL SC SQ SB SV SM SG SS SW SP SO SH SF SFm STo SR SX kc ks hh oo E sgE hF hI hC hS
    refine pk_le cs.length c (fun _ => ?_) (fun w => absurd w (by omega))
    intro y226 h226
    rw [nI_1] at h226
    subst h226
    refine hJ sc stp W z u SHa FXa FIa LAa FRa TOa pl kp nP PO sz hg fu FK S A FP N FT O NW SL SC SQ SB SV SM SG SS SW SP SO SH SF SFm STo SR SX kc ks hh oo E sgE hF hI hC (SgI_mono (fun c9 j9 _ => ?_) hS)
    rcases Nat.lt_or_ge c9 c with z | z
    · exact Or.inl z
    · refine Or.inr (fun E9 ls9 hp9 g1 => ?_)
      have := (List.getElem?_eq_some_iff.mp g1).1
      omega
  | succ m ih =>
    intro c hj sc stp W z u SHa FXa FIa LAa FRa TOa pl kp nP PO sz hg fu FK S A FP N FT O NW SL SC SQ SB SV SM SG SS SW SP SO SH SF SFm STo SR SX kc ks hh oo E sgE hF hI hC hS
    refine pk_le cs.length c (fun w => absurd w (by omega)) (fun _ => ?_)
    have hce := List.getElem?_eq_getElem (show c < cs.length by omega)
    generalize cs[c] = ls at hce
    have hlen : (bdO K P Z T cs c ls.length).length = ls.length - 1 := bs_len
    obtain ⟨d1, d2, d3, d4, d5, d6⟩ := CT_cl h.1 hce
    refine ⟨vp_in_nI (by omega) (by omega), fun y121 h121 => ?_⟩
    rw [nI_clamp (by omega), d4] at h121
    subst h121
    refine ⟨vp_in_nI (by omega) (by omega), fun y123 h123 y124 h124 => ?_⟩
    rw [nI_clamp (by omega)] at h123
    subst h123
    rw [nI_1] at h124
    subst h124
    refine ⟨vp_in_nI (by omega) (by omega), fun y126 h126 y127 h127 => ?_⟩
    rw [nI_clamp (by omega), d5, show off cs c + ls.length = off cs c + 1 + (bdO K P Z T cs c ls.length).length by rw [hlen]; omega] at h126
    subst h126
    rw [nI_1] at h127
    subst h127
    refine ⟨_, close_124 h hce hs hk hE0 hvb hKn hKb hG hmc hms hov (fun sc2 stp2 W2 z2 u2 SHa2 FXa2 FIa2 LAa2 FRa2 TOa2 pl2 kp2 nP2 PO2 sz2 hg2 fu2 FK2 S2 A2 FP2 N2 FT2 O2 NW2 SL2 SC2 SQ2 SB2 SV2 SM2 SG2 SS2 SW2 SP2 SO2 SH2 SF2 SFm2 STo2 SR2 SX2 kc2 ks2 E2 sgE2 g1 g2 g3 g4 => ih (c + 1) (by omega) sc2 stp2 W2 z2 u2 SHa2 FXa2 FIa2 LAa2 FRa2 TOa2 pl2 kp2 nP2 PO2 sz2 hg2 fu2 FK2 S2 A2 FP2 N2 FT2 O2 NW2 SL2 SC2 SQ2 SB2 SV2 SM2 SG2 SS2 SW2 SP2 SO2 SH2 SF2 SFm2 STo2 SR2 SX2 kc2 ks2 _ _ E2 sgE2 g1 g2 g3 g4) (ls.length - 1) 1 (by omega) (by omega) sc stp W z u SHa FXa FIa LAa FRa TOa pl kp nP PO sz hg fu FK S A FP N FT O NW SL SC SQ SB SV SM SG SS SW SP SO SH SF SFm STo SR SX kc ks E sgE hF hI hC (SgI_mono (fun c9 j9 w => ?_) hS)⟩
    rcases w with w | ⟨rfl, w⟩
    · exact Or.inl w
    · exact Or.inr (fun E9 ls9 hp9 g1 g2 => absurd g2 (by omega))
theorem sp_addPlainFacts {post : (Int32 × Int32 × Int32 × (Nat → Int64) × (Nat → Int32) × (Nat → Int32) × (Nat → Int32) × (Nat → Int32) × (Nat → Int32) × (Nat → Int32) × (Nat → Int32)) → Prop} {W : Nat → Int32} {E : List (Nat × List Nat)} {sgE : Nat → Nat} {sz hg : Int32} {FK : Nat → Int64} {S A FP N FT O NW : Nat → Int32} (h : PgK G ps cn cs rk ar L (nI cs.length) FF K P Z M T ST V BR) (hs : s ≤ 64) (hF : FaR ar E sgE sz hg FK S A FP N FT O NW) (hcb : ∀ sz2 hg2 fu2 FK2 S2 A2 FP2 N2 FT2 O2 NW2 E2 sgE2, FaR ar E2 sgE2 sz2 hg2 FK2 S2 A2 FP2 N2 FT2 O2 NW2 → (∃ nw, E2 = E ++ nw ∧ ∀ x ∈ nw, ∃ c, PlF L K P Z T cs s c x) → (∀ i, i < E2.length → sgE2 i = if i < E.length then sgE i else 0) → ((fu2 = 0 ∧ ∀ c x, PlF L K P Z T cs s c x → x ∈ E2) ∨ (fu2 = 1 ∧ E2.length = 20000 ∧ ∃ c x, PlF L K P Z T cs s c x ∧ x ∉ E2)) → post (sz2, hg2, fu2, FK2, S2, A2, FP2, N2, FT2, O2, NW2)) : wp_met_Jo_addPlainFacts post 257 3328 3328 (6 * 3328) (nI s) W sz hg 0 FK S A FP N FT O NW (nI cs.length) FF P Z T ST := by
  have hcl := h.1.2.1
  have go : ∀ m c, c + m = cs.length → ∀ sz1 hg1 fu1 FK1 S1 A1 FP1 N1 FT1 O1 NW1 E1 sgE1, FaR ar E1 sgE1 sz1 hg1 FK1 S1 A1 FP1 N1 FT1 O1 NW1 → (∃ nw, E1 = E ++ nw ∧ ∀ x ∈ nw, ∃ c, PlF L K P Z T cs s c x) → (∀ i, i < E1.length → sgE1 i = if i < E.length then sgE i else 0) → ((fu1 = 0 ∧ ∀ c9 x, c9 < c → PlF L K P Z T cs s c9 x → x ∈ E1) ∨ (fu1 = 1 ∧ E1.length = 20000 ∧ ∃ c x, PlF L K P Z T cs s c x ∧ x ∉ E1)) → lw_met_Jo_addPlainFacts_2 post (nI cs.length) ST (nI s) 257 FF 3328 (6 * 3328) Z T W 3328 P (m + 1) (nI c, sz1, hg1, fu1, FK1, S1, A1, FP1, N1, FT1, O1, NW1) := by
    intro m
    induction m with
    | zero =>
      intro c hj sz1 hg1 fu1 FK1 S1 A1 FP1 N1 FT1 O1 NW1 E1 sgE1 f1 f2 f3 f4
      refine pk_le cs.length c (fun _ => hcb _ _ _ _ _ _ _ _ _ _ _ E1 sgE1 f1 f2 f3 ?_) (fun w => absurd w (by omega))
      rcases f4 with ⟨q1, q2⟩ | q
      · refine Or.inl ⟨q1, fun c9 x hx => q2 c9 x ?_ hx⟩
        obtain ⟨ls, hp, c2, -⟩ := hx
        have := (List.getElem?_eq_some_iff.mp c2).1
        omega
      · exact Or.inr q
    | succ m ih =>
      intro c hj sz1 hg1 fu1 FK1 S1 A1 FP1 N1 FT1 O1 NW1 E1 sgE1 f1 f2 f3 f4
      refine pk_le cs.length c (fun w => absurd w (by omega)) (fun _ => ?_)
      have hce := List.getElem?_eq_getElem (show c < cs.length by omega)
      generalize cs[c] = ls at hce
      obtain ⟨d1, d2, d3, d4, d5, d6⟩ := CT_cl h.1 hce
      obtain ⟨hd, p, e1, e2, e3, e4, e5, e6, e7, e8, e9, e10⟩ := Pg_hd h hce
      have hLp := h.2.2.2.1.2.1 p
      have skip : (∀ x, ¬ PlF L K P Z T cs s c x) → lw_met_Jo_addPlainFacts_2 post (nI cs.length) ST (nI s) 257 FF 3328 (6 * 3328) Z T W 3328 P (m + 1) (nI c + 1, sz1, hg1, fu1, FK1, S1, A1, FP1, N1, FT1, O1, NW1) := by
        intro hno
        rw [show nI c + 1 = nI (c + 1) from nI_1 _]
        refine ih (c + 1) (by omega) _ _ _ _ _ _ _ _ _ _ _ E1 sgE1 f1 f2 f3 ?_
        rcases f4 with ⟨q1, q2⟩ | q
        · refine Or.inl ⟨q1, fun c9 x w hx => ?_⟩
          rcases Nat.lt_or_ge c9 c with z | z
          · exact q2 c9 x z hx
          · obtain rfl : c9 = c := by omega
            exact absurd hx (hno x)
        · exact Or.inr q
      refine sp_headOf h.1 hce e5 ?_
      refine sp_hasBody h.1 hce (fun hl => ?_) (fun hl => ?_)
      · refine ⟨fun _ => ?_, fun w => absurd rfl w⟩
        refine ⟨vp_in_nI e3 (by omega), fun y17 h17 => ?_⟩
        rw [nI_clamp (by omega), h.2.2.2.1.2.2 p e3] at h17
        subst h17
        refine pk_eq (L p) s (fun q => ?_) (fun q => skip (fun x hx => ?_))
        · refine ⟨vp_in_nI (by omega) (by omega), fun y19 h19 => ?_⟩
          rw [nI_clamp (by omega), d4] at h19
          subst h19
          have hvv : VV (hdO K P Z T cs c) (fun _ => 0) W := fun x hx => absurd ((e10 x).mp hx) (Pl_occ h hce hl e1 x)
          obtain ⟨a1, a2⟩ := aOf_ok e9 (Or.inl e6) e7 hvv
          refine sp_keyOf (rm := 3328) (b := hdO K P Z T cs c) (v := fun _ => 0) (by omega) e8 e9 (Or.inl e6) hvv ?_
          have hpl : PlF L K P Z T cs s c (p, aOf (fun _ => 0) (hdO K P Z T cs c)) := ⟨ls, p, hce, hl, e7, q, rfl⟩
          have hone : ∀ x, PlF L K P Z T cs s c x → x = (p, aOf (fun _ => 0) (hdO K P Z T cs c)) := by
            rintro x ⟨ls9, hp9, g1, g2, g3, g4, g5⟩
            obtain rfl := Option.some.inj (e7.symm.trans g3)
            exact g5
          have nx : ∀ sz2 hg2 fu2 FK2 S2 A2 FP2 N2 FT2 O2 NW2 E2 sgE2, FaR ar E2 sgE2 sz2 hg2 FK2 S2 A2 FP2 N2 FT2 O2 NW2 → (∃ nw, E2 = E ++ nw ∧ ∀ x ∈ nw, ∃ c, PlF L K P Z T cs s c x) → (∀ i, i < E2.length → sgE2 i = if i < E.length then sgE i else 0) → ((fu2 = 0 ∧ ∀ c9 x, c9 < c + 1 → PlF L K P Z T cs s c9 x → x ∈ E2) ∨ (fu2 = 1 ∧ E2.length = 20000 ∧ ∃ c x, PlF L K P Z T cs s c x ∧ x ∉ E2)) → lw_met_Jo_addPlainFacts_2 post (nI cs.length) ST (nI s) 257 FF 3328 (6 * 3328) Z T W 3328 P (m + 1) (nI c + 1, sz2, hg2, fu2, FK2, S2, A2, FP2, N2, FT2, O2, NW2) := by
            intro sz2 hg2 fu2 FK2 S2 A2 FP2 N2 FT2 O2 NW2 E2 sgE2 g1 g2 g3 g4
            rw [show nI c + 1 = nI (c + 1) from nI_1 _]
            exact ih (c + 1) (by omega) _ _ _ _ _ _ _ _ _ _ _ E2 sgE2 g1 g2 g3 g4
          refine sp_Fa_add (st := 0) f1 a1 a2 (by omega) (fun hm => ?_) (fun hm hl2 => ?_) (fun hm hl2 hg2 K2 S2 A2 P2 N2 T2 O2 W2 hF2 => ?_)
          · refine nx _ _ _ _ _ _ _ _ _ _ _ E1 sgE1 f1 f2 f3 ?_
            rcases f4 with ⟨q1, q2⟩ | q
            · refine Or.inl ⟨q1, fun c9 x w hx => ?_⟩
              rcases Nat.lt_or_ge c9 c with z | z
              · exact q2 c9 x z hx
              · obtain rfl : c9 = c := by omega
                rw [hone x hx]
                exact hm
            · exact Or.inr q
          · exact nx _ _ _ _ _ _ _ _ _ _ _ E1 sgE1 f1 f2 f3 (Or.inr ⟨rfl, hl2, c, _, hpl, hm⟩)
          · obtain ⟨nw, n1, n2⟩ := f2
            refine nx _ _ _ _ _ _ _ _ _ _ _ (E1 ++ [(p, aOf (fun _ => 0) (hdO K P Z T cs c))]) _ hF2 ⟨nw ++ [(p, aOf (fun _ => 0) (hdO K P Z T cs c))], by rw [n1, List.append_assoc], fun x hx => ?_⟩ (fun i hi => ?_) ?_
            · rcases List.mem_append.mp hx with hx | hx
              · exact n2 x hx
              · rw [List.mem_singleton.mp hx]
                exact ⟨c, hpl⟩
            · rw [List.length_append, List.length_singleton] at hi
              have hEl : E.length ≤ E1.length := by
                rw [n1, List.length_append]
                omega
              by_cases w : i = E1.length
              · rw [if_pos w, if_neg (by omega)]
              · rw [if_neg w]
                exact f3 i (by omega)
            · rcases f4 with ⟨q1, q2⟩ | ⟨-, q2, -⟩
              · refine Or.inl ⟨q1, fun c9 x w hx => ?_⟩
                rcases Nat.lt_or_ge c9 c with z | z
                · exact List.mem_append_left _ (q2 c9 x z hx)
                · obtain rfl : c9 = c := by omega
                  rw [hone x hx]
                  exact List.mem_append_right _ (List.mem_singleton.mpr rfl)
              · omega
        · obtain ⟨ls9, hp9, g1, g2, g3, g4, g5⟩ := hx
          obtain rfl := Option.some.inj (e7.symm.trans g3)
          exact q g4
      · refine ⟨fun w => absurd w (by decide), fun _ => skip (fun x hx => ?_)⟩
        obtain ⟨ls9, hp9, g1, g2, -⟩ := hx
        obtain rfl := Option.some.inj (hce.symm.trans g1)
        exact hl g2
  have := go cs.length 0 (by omega) sz hg 0 FK S A FP N FT O NW E sgE hF ⟨[], by simp, fun x hx => (by cases hx)⟩ (fun i hi => by rw [if_pos hi]) (Or.inl ⟨rfl, fun c9 x w => absurd w (by omega)⟩)
  exact ⟨_, this⟩
end CCn
