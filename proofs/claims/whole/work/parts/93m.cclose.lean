/-! pure: a stratum is closed -/
theorem sp_hasBody {post : Int32 → Unit → Prop} {G : Nat → Int32} {ps : List Wd} {cn : List Con} {cs : List (List Lt)} {tz : Int32} {FF K P : Nat → Int32} {c : Nat} {ls : List Lt} (h : CT G ps cn cs tz FF K P) (hc : cs[c]? = some ls) (h0 : ls.length = 1 → post 0 ()) (h1 : ¬ ls.length = 1 → post 1 ()) : wp_met_Cl_hasBody post 257 (nI c) FF := by
  obtain ⟨d1, d2, d3, d4, d5, d6⟩ := CT_cl h hc
  intro y1 e1
  rw [nI_1] at e1
  subst e1
  refine ⟨vp_in_nI (by omega) (by omega), fun y3 h3 => ⟨vp_in_nI (by omega) (by omega), fun y5 h5 y6 h6 y7 h7 => ?_⟩⟩
  rw [nI_clamp (by omega), d5] at h3
  rw [nI_clamp (by omega), d4] at h5
  rw [h3, h5, pk_sub (by omega), show off cs c + ls.length - off cs c = ls.length by omega] at h6
  subst h6
  by_cases e : ls.length = 1
  · rw [e, if_pos (show nI 1 ≤ 1 by decide)] at h7
    subst h7
    exact h0 e
  · have q : (nI ls.length ≤ nI 1 → ls.length ≤ 1) ∧ (¬ nI ls.length ≤ nI 1 → True) := pk_le ls.length 1 (fun w => w) (fun _ => trivial)
    rw [if_neg (show ¬ nI ls.length ≤ 1 from fun w => e (by have := q.1 w; omega))] at h7
    subst h7
    exact h1 e
/-- a stage under way: D tells what is worked -/
def SgI (ps : List Wd) (L : Nat → Nat) (K P Z T : Nat → Int32) (cs : List (List Lt)) (s k : Nat) (E0 : List (Nat × List Nat)) (vb : Nat) (sg0 : Nat → Nat) (OV Q : Prop) (D : Nat → Nat → Prop) (E : List (Nat × List Nat)) (sgE : Nat → Nat) (fu : Int32) : Prop := (∃ nw, E = E0 ++ nw ∧ (fu = 0 → ∀ x ∈ nw, ∃ c, DrC ps L K P Z T cs s E0 E0.length c x)) ∧ (∀ i, i < E.length → sgE i = if i < E0.length then sg0 i else k) ∧ ((fu = 0 ∧ Q ∧ ∀ c j, D c j → PrD L K P Z T cs s k E0 vb E c j) ∨ (fu = 1 ∧ E.length = 20000 ∧ OV))
section CCl
variable {G : Nat → Int32} {ps : List Wd} {cn : List Con} {cs : List (List Lt)} {rk ar L : Nat → Nat} {FF K P Z M T ST V BR : Nat → Int32} {s k vb c nP0 mc ms : Nat} {E0 : List (Nat × List Nat)} {sg0 : Nat → Nat} {OV Q : Prop} {ls : List Lt} {Kn Kb Gp : Nat → Int32} {n_a0_clauses_places h0 values_ facts_ indexes_ steps_ a0_clauses_ indexes_shapes_ indexes_fixed_ indexes_firsts_ indexes_lasts_ indexes_froms_ indexes_tos_ facts_keys_ facts_stages_ facts_amounts_ facts_predicates_ facts_next_ facts_slots_ facts_oldest_ facts_newest_ facts_known_ facts_knownBefore_ a0_clauses_first_ a0_clauses_kinds_ a0_clauses_predicates_ a0_clauses_places_ a0_clauses_sizes_ a0_clauses_masks_ a0_clauses_terms_ : Nat} {a0_clauses_literals_ : Int32} {F_a0_clauses_places : Nat → Int32} {rows_ : Option Nat} {sa st_a_roles st_a_variables : Nat → Nat}
theorem SgI_mono {D D2 : Nat → Nat → Prop} {E : List (Nat × List Nat)} {sgE : Nat → Nat} {fu : Int32} (hD : ∀ c j, D2 c j → D c j ∨ ∀ E9, PrD L K P Z T cs s k E0 vb E9 c j) (h : SgI ps L K P Z T cs s k E0 vb sg0 OV Q D E sgE fu) : SgI ps L K P Z T cs s k E0 vb sg0 OV Q D2 E sgE fu := by
  obtain ⟨h1, h2, h3⟩ := h
  refine ⟨h1, h2, ?_⟩
  rcases h3 with ⟨q1, q0, q2⟩ | q
  · refine Or.inl ⟨q1, q0, fun c j w => ?_⟩
    rcases hD c j w with w | w
    · exact q2 c j w
    · exact w E
  · exact Or.inr q
theorem Pr_none {j hp : Nat} (hc : cs[c]? = some ls) (hj1 : 1 ≤ j) (hj : j < ls.length) (hhp : (hdO K P Z T cs c).2.1 = some hp) (hE : E0.length ≤ 20000) (hvb : vb ≤ E0.length) (hKn : ∀ p, p < 64 → LsQ E0 p E0.length (Kn p)) (hKb : ∀ p, p < 64 → LsQ E0 p vb (Kb p)) (h0 : (L hp = s → (k = 1 → j = 1) → (¬ k = 1 → K (off cs c + j) = 0 ∧ ∃ p, pd (P (off cs c + j)) = some p ∧ L p = s) → ¬ k = 1 ∧ ∃ p, p < 64 ∧ pd (P (off cs c + j)) = some p ∧ Kn p = Kb p)) (E9 : List (Nat × List Nat)) : PrD L K P Z T cs s k E0 vb E9 c j := by
  intro ls' hp' hc' _ _ hh hL k1 k2 v hv
  obtain rfl := Option.some.inj (hc.symm.trans hc')
  obtain rfl := Option.some.inj (hhp.symm.trans hh)
  obtain ⟨n1, p, p1, p2, p3⟩ := h0 hL k1 k2
  exfalso
  have hat := bs_at (K := K) (P := P) (Z := Z) (T := T) (o := off cs c + 1) (show j - 1 < ls.length - 1 by omega)
  rw [show off cs c + 1 + (j - 1) = off cs c + j by omega] at hat
  rcases hv (j - 1) _ hat with ⟨-, -, p', r1, f, r2, r3, r4⟩ | ⟨r, -⟩
  · have r1' : pd (P (off cs c + j)) = some p' := r1
    rw [p2] at r1'
    obtain rfl := Option.some.inj r1'
    exact (Ls_new hvb hE (hKn p p1) (hKb p p1)).1 p3 f _ r2 r3 r4 rfl
  · exact r ⟨decide_eq_true n1, rfl⟩
theorem SgI_step {j hp : Nat} {D D2 : Nat → Nat → Prop} {E E2 : List (Nat × List Nat)} {sgE sgE2 : Nat → Nat} {fu fu2 : Int32} (hc : cs[c]? = some ls) (hj1 : 1 ≤ j) (hj : j < ls.length) (hhp : (hdO K P Z T cs c).2.1 = some hp) (hL : L hp = s) (hk2 : ¬ k = 1 → K (off cs c + j) = 0) (hov : ∀ nw c x, (∀ x ∈ nw, ∃ c, DrC ps L K P Z T cs s E0 E0.length c x) → (E0 ++ nw).Nodup → (E0 ++ nw).length = 20000 → DrC ps L K P Z T cs s E0 E0.length c x → x ∉ E0 ++ nw → OV) (hnd : E2.Nodup) (hI : SgI ps L K P Z T cs s k E0 vb sg0 OV Q D E sgE fu) (hD : ∀ c9 j9, D2 c9 j9 → D c9 j9 ∨ (c9 = c ∧ j9 = j)) (hnw : ∃ nw, E2 = E ++ nw ∧ ∀ x ∈ nw, ∃ v, BoH E vb E0.length (bdO K P Z T cs c ls.length) (decide (¬ k = 1)) (j - 1) v ∧ x = (hp, aOf v (hdO K P Z T cs c))) (hst : ∀ i, i < E2.length → sgE2 i = if i < E0.length then sg0 i else k) (halt : (fu2 = 0 ∧ fu = 0 ∧ ∀ v, BoH E vb E0.length (bdO K P Z T cs c ls.length) (decide (¬ k = 1)) (j - 1) v → (hp, aOf v (hdO K P Z T cs c)) ∈ E2) ∨ (fu2 = 1 ∧ E2.length = 20000 ∧ (fu = 1 ∨ ∃ v, BoH E vb E0.length (bdO K P Z T cs c ls.length) (decide (¬ k = 1)) (j - 1) v ∧ ¬ (hp, aOf v (hdO K P Z T cs c)) ∈ E2))) : SgI ps L K P Z T cs s k E0 vb sg0 OV Q D2 E2 sgE2 fu2 := by
  obtain ⟨⟨nw, n1, n2⟩, i2, i3⟩ := hI
  obtain ⟨nw2, m1, m2⟩ := hnw
  subst n1
  have hat := bs_at (K := K) (P := P) (Z := Z) (T := T) (o := off cs c + 1) (show j - 1 < ls.length - 1 by omega)
  rw [show off cs c + 1 + (j - 1) = off cs c + j by omega] at hat
  have dr : ∀ v, BoH (E0 ++ nw) vb E0.length (bdO K P Z T cs c ls.length) (decide (¬ k = 1)) (j - 1) v → DrC ps L K P Z T cs s E0 E0.length c (hp, aOf v (hdO K P Z T cs c)) := fun v hv => ⟨ls, hp, v, hc, by omega, hhp, hL, Bo_any (fun w => ⟨_, hat, hk2 (of_decide_eq_true w)⟩) ((Bo_pre (Nat.le_refl _)).mp hv), rfl⟩
  have hs2 : fu = 0 → ∀ x ∈ nw ++ nw2, ∃ c, DrC ps L K P Z T cs s E0 E0.length c x := by
    intro e x hx
    rcases List.mem_append.mp hx with hx | hx
    · exact n2 e x hx
    · obtain ⟨v, v1, rfl⟩ := m2 x hx
      exact ⟨c, dr v v1⟩
  rw [List.append_assoc] at m1
  rcases halt with ⟨a1, a2, a3⟩ | ⟨a1, a2, a3⟩
  · refine ⟨⟨nw ++ nw2, m1, fun _ => hs2 a2⟩, hst, ?_⟩
    rcases i3 with ⟨-, i0, i3⟩ | ⟨b1, -⟩
    · refine Or.inl ⟨a1, i0, fun c9 j9 w => ?_⟩
      rcases hD c9 j9 w with w | ⟨rfl, rfl⟩
      · intro ls9 hp9 g1 g2 g3 g4 g5 g6 g7 v g8
        have := i3 c9 j9 w ls9 hp9 g1 g2 g3 g4 g5 g6 g7 v g8
        rw [m1, ← List.append_assoc]
        exact List.mem_append_left _ this
      · intro ls9 hp9 g1 g2 g3 g4 g5 g6 g7 v g8
        obtain rfl := Option.some.inj (hc.symm.trans g1)
        obtain rfl := Option.some.inj (hhp.symm.trans g4)
        exact a3 v ((Bo_pre (Nat.le_refl _)).mpr g8)
    · rw [a2] at b1
      exact absurd b1 (by decide)
  · refine ⟨⟨nw ++ nw2, m1, fun w => ?_⟩, hst, Or.inr ⟨a1, a2, ?_⟩⟩
    · rw [a1] at w
      exact absurd w (by decide)
    · rcases i3 with ⟨b1, -⟩ | ⟨-, -, b⟩
      · rcases a3 with a3 | ⟨v, v1, v2⟩
        · rw [b1] at a3
          exact absurd a3 (by decide)
        · rw [m1] at hnd a2 v2
          exact hov (nw ++ nw2) c _ (hs2 b1) hnd a2 (dr v v1) v2
      · exact b
theorem close_124 {post : (Int32 × Int32 × Int32 × Int32 × Int32 × (Nat → Int32) × Int32 × Int32 × (Nat → Int32) × (Nat → Int64) × (Nat → Int32) × (Nat → Int32) × (Nat → Int32) × (Nat → Int32) × Nat × ClassId × Nat × (Nat → Int64) × Int32 × Int32 × Int32 × Int32 × (Nat → Int64) × (Nat → Int32) × (Nat → Int32) × (Nat → Int32) × (Nat → Int32) × (Nat → Int32) × (Nat → Int32) × (Nat → Int32) × (Nat → Int32) × (Nat → Int32) × (Nat → Int32) × (Nat → Int32) × (Nat → Int32) × (Nat → Int32) × (Nat → Int32) × (Nat → Int32) × (Nat → Int32) × (Nat → Int32) × (Nat → Int32) × (Nat → Int32) × (Nat → Int32) × (Nat → Int32) × (Nat → Int64) × (Nat → Int32) × (Nat → Int32) × (Nat → Nat → Int32) × (Nat → Nat → Int32) × Nat × Nat) → Prop} {J : (Int32 × Int32 × Int32 × Int32 × Int32 × (Nat → Int32) × Int32 × Int32 × (Nat → Int32) × (Nat → Int64) × (Nat → Int32) × (Nat → Int32) × (Nat → Int32) × (Nat → Int32) × Nat × ClassId × Nat × (Nat → Int64) × Int32 × Int32 × Int32 × (Nat → Int64) × (Nat → Int32) × (Nat → Int32) × (Nat → Int32) × (Nat → Int32) × (Nat → Int32) × (Nat → Int32) × (Nat → Int32) × (Nat → Int32) × (Nat → Int32) × (Nat → Int32) × (Nat → Int32) × (Nat → Int32) × (Nat → Int32) × (Nat → Int32) × (Nat → Int32) × (Nat → Int32) × (Nat → Int32) × (Nat → Int32) × (Nat → Int32) × (Nat → Int64) × (Nat → Int32) × (Nat → Int32) × (Nat → Nat → Int32) × (Nat → Nat → Int32) × Nat × Nat) → Prop} (h : PgK G ps cn cs rk ar L (nI cs.length) FF K P Z M T ST V BR) (hc : cs[c]? = some ls) (hs : s ≤ 64) (hk : k ≤ 20001) (hE0 : E0.length ≤ 20000) (hvb : vb ≤ E0.length) (hKn : ∀ p, p < 64 → LsQ E0 p E0.length (Kn p)) (hKb : ∀ p, p < 64 → LsQ E0 p vb (Kb p)) (hG : GpI 11 Gp) (hmc : 960256 ≤ 256 * mc + nP0) (hms : 2880000 ≤ ms + 2 * nP0) (hov : ∀ nw c x, (∀ x ∈ nw, ∃ c, DrC ps L K P Z T cs s E0 E0.length c x) → (E0 ++ nw).Nodup → (E0 ++ nw).length = 20000 → DrC ps L K P Z T cs s E0 E0.length c x → x ∉ E0 ++ nw → OV)
    (hJ : ∀ (sc : Int32) (stp : Int32) (W : Nat → Int32) (z : Nat) (u : Nat) (SHa : Nat → Int32) (FXa : Nat → Int64) (FIa : Nat → Int32) (LAa : Nat → Int32) (FRa : Nat → Int32) (TOa : Nat → Int32) (pl : Nat) (kp : ClassId) (nP : Nat) (PO : Nat → Int64) (sz : Int32) (hg : Int32) (fu : Int32) (FK : Nat → Int64) (S : Nat → Int32) (A : Nat → Int32) (FP : Nat → Int32) (N : Nat → Int32) (FT : Nat → Int32) (O : Nat → Int32) (NW : Nat → Int32) (SL : Nat → Int32) (SC : Nat → Int32) (SQ : Nat → Int32) (SB : Nat → Int32) (SV : Nat → Int32) (SM : Nat → Int32) (SG : Nat → Int32) (SS : Nat → Int32) (SW : Nat → Int32) (SP : Nat → Int32) (SO : Nat → Int32) (SH : Nat → Int32) (SF : Nat → Int64) (SFm : Nat → Int32) (STo : Nat → Int32) (SR : Nat → Nat → Int32) (SX : Nat → Nat → Int32) (kc : Nat) (ks : Nat) E sgE, FaR ar E sgE sz hg FK S A FP N FT O NW → IxS E z u nP SHa FXa FIa LAa FRa TOa PO → cst nP0 nP kc ks → SgI ps L K P Z T cs s k E0 vb sg0 OV Q (fun c9 _ => c9 < c + 1) E sgE fu → J (nI (c + 1), sc, nI (off cs c), M (off cs c), stp, W, nI z, nI u, SHa, FXa, FIa, LAa, FRa, TOa, pl, kp, nP, PO, sz, hg, fu, FK, S, A, FP, N, FT, O, NW, SL, SC, SQ, SB, SV, SM, SG, SS, SW, SP, SO, SH, SF, SFm, STo, SR, SX, kc, ks)) : ∀ m j, 1 ≤ j → j + m = ls.length → ∀ (sc : Int32) (stp : Int32) (W : Nat → Int32) (z : Nat) (u : Nat) (SHa : Nat → Int32) (FXa : Nat → Int64) (FIa : Nat → Int32) (LAa : Nat → Int32) (FRa : Nat → Int32) (TOa : Nat → Int32) (pl : Nat) (kp : ClassId) (nP : Nat) (PO : Nat → Int64) (sz : Int32) (hg : Int32) (fu : Int32) (FK : Nat → Int64) (S : Nat → Int32) (A : Nat → Int32) (FP : Nat → Int32) (N : Nat → Int32) (FT : Nat → Int32) (O : Nat → Int32) (NW : Nat → Int32) (SL : Nat → Int32) (SC : Nat → Int32) (SQ : Nat → Int32) (SB : Nat → Int32) (SV : Nat → Int32) (SM : Nat → Int32) (SG : Nat → Int32) (SS : Nat → Int32) (SW : Nat → Int32) (SP : Nat → Int32) (SO : Nat → Int32) (SH : Nat → Int32) (SF : Nat → Int64) (SFm : Nat → Int32) (STo : Nat → Int32) (SR : Nat → Nat → Int32) (SX : Nat → Nat → Int32) (kc : Nat) (ks : Nat) E sgE, FaR ar E sgE sz hg FK S A FP N FT O NW → IxS E z u nP SHa FXa FIa LAa FRa TOa PO → cst nP0 nP kc ks → SgI ps L K P Z T cs s k E0 vb sg0 OV Q (fun c9 j9 => c9 < c ∨ (c9 = c ∧ j9 < j)) E sgE fu → lw_met_Jo_closeStratum_124 post J (nI (off cs c + 1 + (bdO K P Z T cs c ls.length).length)) (nI c) (nI (off cs c)) (M (off cs c)) (nI k) mc ms 257 3328 3328 n_a0_clauses_places 3328 3328 (6 * 3328) h0 values_ facts_ indexes_ steps_ a0_clauses_ indexes_shapes_ indexes_fixed_ indexes_firsts_ indexes_lasts_ indexes_froms_ indexes_tos_ facts_keys_ facts_stages_ facts_amounts_ facts_predicates_ facts_next_ facts_slots_ facts_oldest_ facts_newest_ facts_known_ facts_knownBefore_ a0_clauses_first_ a0_clauses_kinds_ a0_clauses_predicates_ a0_clauses_places_ a0_clauses_sizes_ a0_clauses_masks_ a0_clauses_terms_ (nI E0.length) Kn Kb (nI cs.length) a0_clauses_literals_ FF K P F_a0_clauses_places Z M T Gp rows_ sa st_a_roles st_a_variables (nI s) ST (m + 1) (nI (off cs c + j), sc, stp, W, nI z, nI u, SHa, FXa, FIa, LAa, FRa, TOa, pl, kp, nP, PO, sz, hg, fu, FK, S, A, FP, N, FT, O, NW, SL, SC, SQ, SB, SV, SM, SG, SS, SW, SP, SO, SH, SF, SFm, STo, SR, SX, kc, ks) := by
  have hlen : (bdO K P Z T cs c ls.length).length = ls.length - 1 := bs_len
  obtain ⟨d1, d2, d3, d4, d5, d6⟩ := CT_cl h.1 hc
  obtain ⟨hd, p, e1, e2, e3, e4, e5, e6, e7, e8, e9, e10⟩ := Pg_hd h hc
  intro m
  induction m with
  | zero =>
    intro j hj1 hj sc stp W z u SHa FXa FIa LAa FRa TOa pl kp nP PO sz hg fu FK S A FP N FT O NW SL SC SQ SB SV SM SG SS SW SP SO SH SF SFm STo SR SX kc ks E sgE hF hI hC hS
    refine pk_le (off cs c + 1 + (bdO K P Z T cs c ls.length).length) (off cs c + j) (fun _ => ?_) (fun w => absurd w (by omega))
    rw [show nI c + 1 = nI (c + 1) from nI_1 _]
    refine hJ sc stp W z u SHa FXa FIa LAa FRa TOa pl kp nP PO sz hg fu FK S A FP N FT O NW SL SC SQ SB SV SM SG SS SW SP SO SH SF SFm STo SR SX kc ks E sgE hF hI hC (SgI_mono (fun c9 j9 w => ?_) hS)
    rcases Nat.lt_or_ge c9 c with z | z
    · exact Or.inl (Or.inl z)
    obtain rfl : c9 = c := by omega
    rcases Nat.lt_or_ge j9 j with z | z
    · exact Or.inl (Or.inr ⟨rfl, z⟩)
    · refine Or.inr (fun E9 ls9 hp9 g1 g2 g3 => ?_)
      obtain rfl := Option.some.inj (hc.symm.trans g1)
      omega
  | succ m ih =>
    intro j hj1 hj sc stp W z u SHa FXa FIa LAa FRa TOa pl kp nP PO sz hg fu FK S A FP N FT O NW SL SC SQ SB SV SM SG SS SW SP SO SH SF SFm STo SR SX kc ks E sgE hF hI hC hS
    refine pk_le (off cs c + 1 + (bdO K P Z T cs c ls.length).length) (off cs c + j) (fun w => absurd w (by omega)) (fun _ => ?_)
    refine sp_startsWork h hc hj1 (by omega) e7 hs hk (fun q => ?_) (fun q1 q2 q3 => ?_)
    · refine ⟨fun _ => ?_, fun w => absurd rfl w⟩
      rw [show nI (off cs c + j) + 1 = nI (off cs c + (j + 1)) from nI_1 _]
      refine ih (j + 1) (by omega) (by omega) sc stp W z u SHa FXa FIa LAa FRa TOa pl kp nP PO sz hg fu FK S A FP N FT O NW SL SC SQ SB SV SM SG SS SW SP SO SH SF SFm STo SR SX kc ks E sgE hF hI hC (SgI_mono (fun c9 j9 w => ?_) hS)
      rcases w with w | ⟨rfl, w⟩
      · exact Or.inl (Or.inl w)
      · rcases Nat.lt_or_ge j9 j with z | z
        · exact Or.inl (Or.inr ⟨rfl, z⟩)
        · obtain rfl : j9 = j := by omega
          exact Or.inr (Pr_none hc hj1 (by omega) e7 hE0 hvb hKn hKb q)
    · obtain ⟨hc1, hc2, hc3⟩ := id hC
      have hc4 := hI.1.2.2.2
      refine ⟨fun w => absurd w (by decide), fun _ y176 h176 y177 h177 => ⟨1, 960000, by omega, by omega, ?_⟩⟩
      rw [nI_1] at h176
      subst h176
      have hS0 := hS
      obtain ⟨⟨nw, n1, -⟩, s2, s3⟩ := hS
      have hEl : E0.length ≤ E.length := by
        rw [n1, List.length_append]
        omega
      have hat := bs_at (K := K) (P := P) (Z := Z) (T := T) (o := off cs c + 1) (show j - 1 < ls.length - 1 by omega)
      rw [show off cs c + 1 + (j - 1) = off cs c + j by omega] at hat
      refine sp_work_F (rm := 3328) (fr := off cs c + 1) (bs := bdO K P Z T cs c ls.length) (fh := decide (¬ k = 1)) (j0 := j - 1) (b0 := bOf K P Z T (off cs c + j)) (hd := hdO K P Z T cs c) (hp := p) (hdi := off cs c) (sgn := k) (fs0 := E0.length) (sg0 := sg0) (out := occB (hdO K P Z T cs c)) (E := E) (sgE := sgE) (vb := vb) (vis := E0.length) (by omega) (by omega) hk (Pg_bd h hc).1 (Pg_safe h hc).1 hF hEl s2 ?_ ?_ (fun p hp => ?_) (fun p hp => ?_) (by omega) hEl hG (by omega) (by omega) ?_ (fun w => ?_) hI ⟨e8, e9, e6, e7, fun _ w => w⟩ e8.2.2.2.2.1 (Pg_safe h hc).2 (fun sc2 stp2 W2 z2 u2 SHa2 FXa2 FIa2 LAa2 FRa2 TOa2 pl2 kp2 nP2 PO2 sz2 hg2 fu2 FK2 S2 A2 FP2 N2 FT2 O2 NW2 SL2 SC2 SQ2 SB2 SV2 SM2 SG2 SS2 SW2 SP2 SO2 SH2 SF2 SFm2 STo2 SR2 SX2 kc2 ks2 E2 sgE2 w1 w2 w3 w4 w5 w6 => ?_)
      · rcases s3 with ⟨w, -⟩ | ⟨w, -⟩
        · exact Or.inl w
        · exact Or.inr w
      · intro w
        rcases s3 with ⟨w2, -⟩ | ⟨-, w2, -⟩
        · rw [w2] at w
          exact absurd w (by decide)
        · exact w2
      · rw [n1]
        exact Ls_pre (Nat.le_refl _) (hKn p hp)
      · rw [n1]
        exact Ls_pre hvb (hKb p hp)
      · by_cases e : k = 1
        · left
          refine ⟨decide_eq_false (fun w => w e), ?_⟩
          rw [h177, e]
          rfl
        · right
          refine ⟨decide_eq_true e, ?_, hat, (q3 e).1⟩
          rw [h177, if_neg (show ¬ nI k = 1 from fun w => e ((nI_eq (b := 1) (by omega) (by omega)).mp w)), show off cs c + 1 + (j - 1) = off cs c + j by omega]
      · obtain ⟨-, p', p1, p2, p3, p4⟩ := q3 (of_decide_eq_true w)
        obtain ⟨i, y, y1, y2, y3, y4⟩ := (Ls_new hvb hE0 (hKn p' p1) (hKb p' p1)).2 p4
        refine ⟨p', i, y, p2, y1, y2, ?_, y4⟩
        rw [n1, List.getElem?_append_left y2]
        exact y3
      · dsimp only
        rw [show nI (off cs c + j) + 1 = nI (off cs c + (j + 1)) from nI_1 _]
        refine ih (j + 1) (by omega) (by omega) _ _ _ z2 u2 _ _ _ _ _ _ _ _ _ _ _ _ _ _ _ _ _ _ _ _ _ _ _ _ _ _ _ _ _ _ _ _ _ _ _ _ _ _ _ _ E2 sgE2 w1 w2 (cst_add hC w3) (SgI_step hc hj1 (by omega) e7 q1 (fun w => (q3 w).1) hov w1.2.2.2.2.1 hS0 (fun c9 j9 w => ?_) w4 w5 w6)
        rcases w with w | ⟨rfl, w⟩
        · exact Or.inl (Or.inl w)
        · rcases Nat.lt_or_ge j9 j with z | z
          · exact Or.inl (Or.inr ⟨rfl, z⟩)
          · exact Or.inr ⟨rfl, by omega⟩
end CCl
