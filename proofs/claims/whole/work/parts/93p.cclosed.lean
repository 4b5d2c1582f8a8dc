/-! pure: closeStratum -/
section CCq
variable {G : Nat → Int32} {ps : List Wd} {cn : List Con} {cs : List (List Lt)} {rk ar L : Nat → Nat} {FF K P Z M T ST V BR : Nat → Int32} {s nP0 mc ms : Nat} {B : Fct → Prop} {Es : List (Nat × List Nat)} {sgs : Nat → Nat} {Gp : Nat → Int32} {n_a0_clauses_places h0 values_ facts_ indexes_ steps_ a0_clauses_ indexes_shapes_ indexes_fixed_ indexes_firsts_ indexes_lasts_ indexes_froms_ indexes_tos_ facts_keys_ facts_stages_ facts_amounts_ facts_predicates_ facts_next_ facts_slots_ facts_oldest_ facts_newest_ facts_known_ facts_knownBefore_ a0_clauses_first_ a0_clauses_kinds_ a0_clauses_predicates_ a0_clauses_places_ a0_clauses_sizes_ a0_clauses_masks_ a0_clauses_terms_ : Nat} {a0_clauses_literals_ : Int32} {F_a0_clauses_places : Nat → Int32} {rows_ : Option Nat} {sa st_a_roles st_a_variables : Nat → Nat}
/-- the last facts of each predicate, before vi and before a place before it -/
def KnQ (E : List (Nat × List Nat)) (vi : Nat) (Kn Kb : Nat → Int32) : Prop := (∀ p, p < 64 → LsQ E p vi (Kn p)) ∧ ∃ vb, vb ≤ E.length ∧ ∀ p, p < 64 → LsQ E p vb (Kb p)
/-- how a stratum ends -/
def ClE (cn : List Con) (rk : Nat → Nat) (ps : List Wd) (cs : List (List Lt)) (L : Nat → Nat) (B : Fct → Prop) (s : Nat) (Es : List (Nat × List Nat)) (sgs : Nat → Nat) (vi : Nat) (E : List (Nat × List Nat)) (sgE : Nat → Nat) (fu : Int32) : Prop := (∃ nw, E = Es ++ nw) ∧ ((fu = 0 ∧ vi = E.length ∧ RkE cn E ∧ (∀ y, (∃ j, SgS ps cs L B s j y) ↔ FX cn rk (fun x => x ∈ E) y) ∧ (∀ i, i < Es.length → sgE i = sgs i) ∧ ∀ (i : Nat) (x : Nat × List Nat), Es.length ≤ i → E[i]? = some x → SgX cn rk ps cs L B s x (sgE i)) ∨ (fu = 1 ∧ E.length = 20000 ∧ OvS ps cs L B s))
theorem close_21 {post : (Int32 × Int32 × Int32 × Int32 × Int32 × (Nat → Int32) × Int32 × Int32 × (Nat → Int32) × (Nat → Int64) × (Nat → Int32) × (Nat → Int32) × (Nat → Int32) × (Nat → Int32) × Nat × ClassId × Nat × (Nat → Int64) × Int32 × Int32 × Int32 × Int32 × (Nat → Int64) × (Nat → Int32) × (Nat → Int32) × (Nat → Int32) × (Nat → Int32) × (Nat → Int32) × (Nat → Int32) × (Nat → Int32) × (Nat → Int32) × (Nat → Int32) × (Nat → Int32) × (Nat → Int32) × (Nat → Int32) × (Nat → Int32) × (Nat → Int32) × (Nat → Int32) × (Nat → Int32) × (Nat → Int32) × (Nat → Int32) × (Nat → Int32) × (Nat → Int32) × (Nat → Int32) × (Nat → Int64) × (Nat → Int32) × (Nat → Int32) × (Nat → Nat → Int32) × (Nat → Nat → Int32) × Nat × Nat) → Prop} (h : PgK G ps cn cs rk ar L (nI cs.length) FF K P Z M T ST V BR) (hs : s ≤ 64) (hG : GpI 11 Gp) (hmc : 960256 ≤ 256 * mc + nP0) (hms : 2880000 ≤ ms + 2 * nP0)
    (hcb : ∀ (sc : Int32) (stp : Int32) (W : Nat → Int32) (z : Nat) (u : Nat) (SHa : Nat → Int32) (FXa : Nat → Int64) (FIa : Nat → Int32) (LAa : Nat → Int32) (FRa : Nat → Int32) (TOa : Nat → Int32) (pl : Nat) (kp : ClassId) (nP : Nat) (PO : Nat → Int64) (sz : Int32) (hg : Int32) (fu : Int32) (FK : Nat → Int64) (S : Nat → Int32) (A : Nat → Int32) (FP : Nat → Int32) (N : Nat → Int32) (FT : Nat → Int32) (O : Nat → Int32) (NW : Nat → Int32) (SL : Nat → Int32) (SC : Nat → Int32) (SQ : Nat → Int32) (SB : Nat → Int32) (SV : Nat → Int32) (SM : Nat → Int32) (SG : Nat → Int32) (SS : Nat → Int32) (SW : Nat → Int32) (SP : Nat → Int32) (SO : Nat → Int32) (SH : Nat → Int32) (SF : Nat → Int64) (SFm : Nat → Int32) (STo : Nat → Int32) (SR : Nat → Nat → Int32) (SX : Nat → Nat → Int32) (kc : Nat) (ks : Nat) hh oo kk vi Kn2 Kb2 E sgE, FaR ar E sgE sz hg FK S A FP N FT O NW → IxS E z u nP SHa FXa FIa LAa FRa TOa PO → cst nP0 nP kc ks → vi ≤ E.length → KnQ E vi Kn2 Kb2 → ClE cn rk ps cs L B s Es sgs vi E sgE fu → post (sc, hh, kk, oo, stp, W, nI z, nI u, SHa, FXa, FIa, LAa, FRa, TOa, pl, kp, nP, PO, sz, hg, fu, nI vi, FK, S, A, FP, N, FT, O, NW, Kn2, Kb2, SL, SC, SQ, SB, SV, SM, SG, SS, SW, SP, SO, SH, SF, SFm, STo, SR, SX, kc, ks)) : ∀ d k, 1 ≤ k → k + d = 20002 → ∀ (sc : Int32) (stp : Int32) (W : Nat → Int32) (z : Nat) (u : Nat) (SHa : Nat → Int32) (FXa : Nat → Int64) (FIa : Nat → Int32) (LAa : Nat → Int32) (FRa : Nat → Int32) (TOa : Nat → Int32) (pl : Nat) (kp : ClassId) (nP : Nat) (PO : Nat → Int64) (sz : Int32) (hg : Int32) (fu : Int32) (FK : Nat → Int64) (S : Nat → Int32) (A : Nat → Int32) (FP : Nat → Int32) (N : Nat → Int32) (FT : Nat → Int32) (O : Nat → Int32) (NW : Nat → Int32) (SL : Nat → Int32) (SC : Nat → Int32) (SQ : Nat → Int32) (SB : Nat → Int32) (SV : Nat → Int32) (SM : Nat → Int32) (SG : Nat → Int32) (SS : Nat → Int32) (SW : Nat → Int32) (SP : Nat → Int32) (SO : Nat → Int32) (SH : Nat → Int32) (SF : Nat → Int64) (SFm : Nat → Int32) (STo : Nat → Int32) (SR : Nat → Nat → Int32) (SX : Nat → Nat → Int32) (kc : Nat) (ks : Nat) hh oo fv bf vi Kn Kb E sgE np, FaR ar E sgE sz hg FK S A FP N FT O NW → IxS E z u nP SHa FXa FIa LAa FRa TOa PO → cst nP0 nP kc ks → vi ≤ E.length → KnQ E vi Kn Kb → (k = 1 → bf = -1) → (¬ k = 1 → bf = nI np ∧ vi = np ∧ fv = nI vi) → ClJ cn rk ps L K P Z T cs B s Es sgs k np E sgE fu → lw_met_Jo_closeStratum_21 post (nI cs.length) 257 FF 3328 M mc ms 3328 3328 n_a0_clauses_places 3328 (6 * 3328) h0 values_ facts_ indexes_ steps_ a0_clauses_ indexes_shapes_ indexes_fixed_ indexes_firsts_ indexes_lasts_ indexes_froms_ indexes_tos_ facts_keys_ facts_stages_ facts_amounts_ facts_predicates_ facts_next_ facts_slots_ facts_oldest_ facts_newest_ facts_known_ facts_knownBefore_ a0_clauses_first_ a0_clauses_kinds_ a0_clauses_predicates_ a0_clauses_places_ a0_clauses_sizes_ a0_clauses_masks_ a0_clauses_terms_ a0_clauses_literals_ K P F_a0_clauses_places Z T Gp rows_ sa st_a_roles st_a_variables (nI s) ST (d + 1) (bf, sc, hh, nI k, oo, stp, W, nI z, nI u, SHa, FXa, FIa, LAa, FRa, TOa, pl, kp, nP, PO, sz, hg, fu, fv, FK, S, A, FP, N, FT, O, NW, Kn, Kb, SL, SC, SQ, SB, SV, SM, SG, SS, SW, SP, SO, SH, SF, SFm, STo, SR, SX, kc, ks) := by
  intro d
  induction d with
  | zero =>
    intro k hk0 hkd sc stp W z u SHa FXa FIa LAa FRa TOa pl kp nP PO sz hg fu FK S A FP N FT O NW SL SC SQ SB SV SM SG SS SW SP SO SH SF SFm STo SR SX kc ks hh oo fv bf vi Kn Kb E sgE np hF hI hC hvi hKn b1 b2 hJ
    have h20 := hF.1
    obtain ⟨c1, c2, c3⟩ := b2 (by omega)
    refine pk_lt 20001 k (fun _ => ?_) (fun w => absurd w (by omega))
    subst c3
    refine hcb sc stp W z u SHa FXa FIa LAa FRa TOa pl kp nP PO sz hg fu FK S A FP N FT O NW SL SC SQ SB SV SM SG SS SW SP SO SH SF SFm STo SR SX kc ks hh oo _ vi Kn Kb E sgE hF hI hC hvi hKn ⟨hJ.1, ?_⟩
    rcases hJ.2 with ⟨q1, q2, q3, q4, q5⟩ | q
    · have := q5 (by omega)
      exact Or.inl ⟨q1, by omega, q2, Cl_end h (by omega) hk0 q2 (by omega) q3, q4, q3.2.1⟩
    · exact Or.inr q
  | succ d ih =>
    intro k hk0 hkd sc stp W z u SHa FXa FIa LAa FRa TOa pl kp nP PO sz hg fu FK S A FP N FT O NW SL SC SQ SB SV SM SG SS SW SP SO SH SF SFm STo SR SX kc ks hh oo fv bf vi Kn Kb E sgE np hF hI hC hvi hKn b1 b2 hJ
    have h20 := hF.1
    have hsz : sz = nI E.length := hF.2.1
    subst hsz
    refine pk_lt 20001 k (fun w => absurd w (by omega)) (fun _ => ⟨fun e => ?_, fun e => ?_⟩)
    · by_cases k1 : k = 1
      · rw [b1 k1] at e
        exact absurd e (nI_ne1 (by omega))
      · obtain ⟨c1, c2, c3⟩ := b2 k1
        rw [c1] at e
        have e2 := (nI_eq (by omega) (by omega)).mp e
        subst c3
        refine hcb sc stp W z u SHa FXa FIa LAa FRa TOa pl kp nP PO (nI E.length) hg fu FK S A FP N FT O NW SL SC SQ SB SV SM SG SS SW SP SO SH SF SFm STo SR SX kc ks hh oo _ vi Kn Kb E sgE hF hI hC hvi hKn ⟨hJ.1, ?_⟩
        rcases hJ.2 with ⟨q1, q2, q3, q4, q5⟩ | q
        · exact Or.inl ⟨q1, by omega, q2, Cl_end h k1 hk0 q2 (by omega) q3, q4, q3.2.1⟩
        · exact Or.inr q
    · have hgt : ¬ k = 1 → np < E.length := by
        intro k1
        obtain ⟨c1, c2, c3⟩ := b2 k1
        have : ¬ E.length = np := fun w => e (by rw [c1, w])
        omega
      refine sp_Fa_mark (fun Kn2 Kb2 m1 m2 => ?_)
      have hov : ∀ nw c x, (∀ x ∈ nw, ∃ c, DrC ps L K P Z T cs s E E.length c x) → (E ++ nw).Nodup → (E ++ nw).length = 20000 → DrC ps L K P Z T cs s E E.length c x → x ∉ E ++ nw → OvS ps cs L B s := by
        rcases hJ.2 with ⟨q1, q2, q3, q4, q5⟩ | ⟨-, -, q⟩
        · exact Cl_ov h hk0 q2 q3
        · exact fun _ _ _ _ _ _ _ _ => q
      obtain ⟨nw0, hpre⟩ := hJ.1
      have hEs : Es.length ≤ E.length := by
        rw [hpre, List.length_append]
        omega
      refine ⟨_, close_60 (E0 := E) (vb := vi) (sg0 := sgE) (OV := OvS ps cs L B s) (Q := fu = 0) h hs (by omega) h20 hvi (fun p hp => ?_) (fun p hp => ?_) hG hmc hms hov (fun sc2 stp2 W2 z2 u2 SHa2 FXa2 FIa2 LAa2 FRa2 TOa2 pl2 kp2 nP2 PO2 sz2 hg2 fu2 FK2 S2 A2 FP2 N2 FT2 O2 NW2 SL2 SC2 SQ2 SB2 SV2 SM2 SG2 SS2 SW2 SP2 SO2 SH2 SF2 SFm2 STo2 SR2 SX2 kc2 ks2 hh2 oo2 E2 sgE2 g1 g2 g3 g4 => ?_) cs.length 0 (by omega) sc stp W z u SHa FXa FIa LAa FRa TOa pl kp nP PO (nI E.length) hg fu FK S A FP N FT O NW SL SC SQ SB SV SM SG SS SW SP SO SH SF SFm STo SR SX kc ks hh oo E sgE hF hI hC ⟨⟨[], by simp, fun _ x hx => (by cases hx)⟩, fun i hi => (by rw [if_pos hi]), ?_⟩⟩
      · rw [m1 p hp]
        exact hF.2.2.2.2.2.2.2.2.1 p hp
      · rw [m2 p hp]
        exact hKn.1 p hp
      · obtain ⟨⟨nw, n1, n2⟩, n3, n4⟩ := id g4
        refine ih (k + 1) (by omega) (by omega) sc2 stp2 W2 z2 u2 SHa2 FXa2 FIa2 LAa2 FRa2 TOa2 pl2 kp2 nP2 PO2 sz2 hg2 fu2 FK2 S2 A2 FP2 N2 FT2 O2 NW2 SL2 SC2 SQ2 SB2 SV2 SM2 SG2 SS2 SW2 SP2 SO2 SH2 SF2 SFm2 STo2 SR2 SX2 kc2 ks2 hh2 oo2 (nI E.length) (nI E.length) E.length Kn2 Kb2 E2 sgE2 E.length g1 g2 g3 (by rw [n1, List.length_append]; omega) ⟨fun p hp => ?_, vi, by rw [n1, List.length_append]; omega, fun p hp => ?_⟩ (fun w => absurd w (by omega)) (fun _ => ⟨rfl, rfl, rfl⟩) ⟨⟨nw0 ++ nw, by rw [n1, hpre, List.append_assoc]⟩, ?_⟩
        · rw [n1, m1 p hp]
          exact Ls_pre (Nat.le_refl _) (hF.2.2.2.2.2.2.2.2.1 p hp)
        · rw [n1, m2 p hp]
          exact Ls_pre hvi (hKn.1 p hp)
        · rcases n4 with ⟨r1, r2, r3⟩ | r
          · rcases hJ.2 with ⟨q1, q2, q3, q4, q5⟩ | ⟨q, -⟩
            · subst r1
              obtain ⟨t1, t2⟩ := Cl_step h hk0 q2 hEs (fun w => (b2 w).2.1) q3 g4 g1.2.2.2.2.1
              refine Or.inl ⟨rfl, t1, t2, fun i hi => ?_, fun _ => ?_⟩
              · rw [n3 i (by rw [n1, List.length_append]; omega), if_pos (by omega)]
                exact q4 i hi
              · by_cases k1 : k = 1
                · omega
                · have := q5 k1
                  have := hgt k1
                  omega
            · rw [r2] at q
              exact absurd q (by decide)
          · exact Or.inr r
      · rcases hJ.2 with ⟨q1, -⟩ | q
        · exact Or.inl ⟨q1, q1, fun c9 j9 w => absurd w (by omega)⟩
        · exact Or.inr q
theorem sp_closeStratum {post : (Int32 × Int32 × Int32 × Int32 × Int32 × (Nat → Int32) × Int32 × Int32 × (Nat → Int32) × (Nat → Int64) × (Nat → Int32) × (Nat → Int32) × (Nat → Int32) × (Nat → Int32) × Nat × ClassId × Nat × (Nat → Int64) × Int32 × Int32 × Int32 × Int32 × (Nat → Int64) × (Nat → Int32) × (Nat → Int32) × (Nat → Int32) × (Nat → Int32) × (Nat → Int32) × (Nat → Int32) × (Nat → Int32) × (Nat → Int32) × (Nat → Int32) × (Nat → Int32) × (Nat → Int32) × (Nat → Int32) × (Nat → Int32) × (Nat → Int32) × (Nat → Int32) × (Nat → Int32) × (Nat → Int32) × (Nat → Int32) × (Nat → Int32) × (Nat → Int32) × (Nat → Int32) × (Nat → Int64) × (Nat → Int32) × (Nat → Int32) × (Nat → Nat → Int32) × (Nat → Nat → Int32) × Nat × Nat) → Prop} {sc : Int32} {stp : Int32} {W : Nat → Int32} {z : Nat} {u : Nat} {SHa : Nat → Int32} {FXa : Nat → Int64} {FIa : Nat → Int32} {LAa : Nat → Int32} {FRa : Nat → Int32} {TOa : Nat → Int32} {pl : Nat} {kp : ClassId} {nP : Nat} {PO : Nat → Int64} {sz : Int32} {hg : Int32} {FK : Nat → Int64} {S : Nat → Int32} {A : Nat → Int32} {FP : Nat → Int32} {N : Nat → Int32} {FT : Nat → Int32} {O : Nat → Int32} {NW : Nat → Int32} {SL : Nat → Int32} {SC : Nat → Int32} {SQ : Nat → Int32} {SB : Nat → Int32} {SV : Nat → Int32} {SM : Nat → Int32} {SG : Nat → Int32} {SS : Nat → Int32} {SW : Nat → Int32} {SP : Nat → Int32} {SO : Nat → Int32} {SH : Nat → Int32} {SF : Nat → Int64} {SFm : Nat → Int32} {STo : Nat → Int32} {SR : Nat → Nat → Int32} {SX : Nat → Nat → Int32} {hh oo fv : Int32} {Kn Kb : Nat → Int32} {vi : Nat} (h : PgK G ps cn cs rk ar L (nI cs.length) FF K P Z M T ST V BR) (hs : s ≤ 64) (hG : GpI 11 Gp) (hmc : 960256 ≤ 256 * mc + nP) (hms : 2880000 ≤ ms + 2 * nP) (hF : FaR ar Es sgs sz hg FK S A FP N FT O NW) (hI : IxS Es z u nP SHa FXa FIa LAa FRa TOa PO) (hvi : vi ≤ Es.length) (hKn : KnQ Es vi Kn Kb) (hR : RkE cn Es) (hB : ∀ y, B y ↔ FX cn rk (fun x => x ∈ Es) y)
    (hcb : ∀ (sc2 : Int32) (stp2 : Int32) (W2 : Nat → Int32) (z2 : Nat) (u2 : Nat) (SHa2 : Nat → Int32) (FXa2 : Nat → Int64) (FIa2 : Nat → Int32) (LAa2 : Nat → Int32) (FRa2 : Nat → Int32) (TOa2 : Nat → Int32) (pl2 : Nat) (kp2 : ClassId) (nP2 : Nat) (PO2 : Nat → Int64) (sz2 : Int32) (hg2 : Int32) (fu2 : Int32) (FK2 : Nat → Int64) (S2 : Nat → Int32) (A2 : Nat → Int32) (FP2 : Nat → Int32) (N2 : Nat → Int32) (FT2 : Nat → Int32) (O2 : Nat → Int32) (NW2 : Nat → Int32) (SL2 : Nat → Int32) (SC2 : Nat → Int32) (SQ2 : Nat → Int32) (SB2 : Nat → Int32) (SV2 : Nat → Int32) (SM2 : Nat → Int32) (SG2 : Nat → Int32) (SS2 : Nat → Int32) (SW2 : Nat → Int32) (SP2 : Nat → Int32) (SO2 : Nat → Int32) (SH2 : Nat → Int32) (SF2 : Nat → Int64) (SFm2 : Nat → Int32) (STo2 : Nat → Int32) (SR2 : Nat → Nat → Int32) (SX2 : Nat → Nat → Int32) (kc2 : Nat) (ks2 : Nat) hh2 oo2 kk vi2 Kn2 Kb2 E sgE, FaR ar E sgE sz2 hg2 FK2 S2 A2 FP2 N2 FT2 O2 NW2 → IxS E z2 u2 nP2 SHa2 FXa2 FIa2 LAa2 FRa2 TOa2 PO2 → cst nP nP2 kc2 ks2 → vi2 ≤ E.length → KnQ E vi2 Kn2 Kb2 → ClE cn rk ps cs L B s Es sgs vi2 E sgE fu2 → post (sc2, hh2, kk, oo2, stp2, W2, nI z2, nI u2, SHa2, FXa2, FIa2, LAa2, FRa2, TOa2, pl2, kp2, nP2, PO2, sz2, hg2, fu2, nI vi2, FK2, S2, A2, FP2, N2, FT2, O2, NW2, Kn2, Kb2, SL2, SC2, SQ2, SB2, SV2, SM2, SG2, SS2, SW2, SP2, SO2, SH2, SF2, SFm2, STo2, SR2, SX2, kc2, ks2)) : wp_met_Jo_closeStratum post mc ms nP 257 3328 3328 n_a0_clauses_places 3328 3328 (6 * 3328) h0 values_ facts_ indexes_ steps_ indexes_shapes_ indexes_fixed_ indexes_firsts_ indexes_lasts_ indexes_froms_ indexes_tos_ pl facts_keys_ facts_stages_ facts_amounts_ facts_predicates_ facts_next_ facts_slots_ facts_oldest_ facts_newest_ facts_known_ facts_knownBefore_ a0_clauses_ a0_clauses_first_ a0_clauses_kinds_ a0_clauses_predicates_ a0_clauses_places_ a0_clauses_sizes_ a0_clauses_masks_ a0_clauses_terms_ (nI s) sc hh oo stp W (nI z) (nI u) SHa FXa FIa LAa FRa TOa PO sz hg 0 fv FK S A FP N FT O NW Kn Kb (nI cs.length) a0_clauses_literals_ FF K P F_a0_clauses_places Z M T ST kp Gp rows_ sa SL SC SQ SB SV SM SG SS SW SP SO SH SF SFm STo st_a_roles st_a_variables SR SX := by
  refine sp_addPlainFacts h hs hF (fun sz2 hg2 fu2 FK2 S2 A2 FP2 N2 FT2 O2 NW2 E2 sgE2 g1 g2 g3 g4 => ?_)
  obtain ⟨nw, n1, n2⟩ := id g2
  refine ⟨_, close_21 (nP0 := nP) (B := B) (Es := Es) (sgs := sgs) h hs hG hmc hms hcb 20001 1 (by omega) (by omega) sc stp W z u SHa FXa FIa LAa FRa TOa pl kp nP PO sz2 hg2 fu2 FK2 S2 A2 FP2 N2 FT2 O2 NW2 SL SC SQ SB SV SM SG SS SW SP SO SH SF SFm STo SR SX 0 0 hh oo fv (-1) vi Kn Kb E2 sgE2 0 g1 (by rw [n1]; exact IxS_app nw hI) cst_0 (by rw [n1, List.length_append]; omega) ?_ (fun _ => rfl) (fun w => absurd rfl w) (Cl_0 h hR hB g1.2.2.2.2.1 g2 g3 g4)⟩
  obtain ⟨k1, vb, k2, k3⟩ := hKn
  rw [n1]
  exact ⟨fun p hp => Ls_pre hvi (k1 p hp), vb, by rw [List.length_append]; omega, fun p hp => Ls_pre k2 (k3 p hp)⟩
end CCq
