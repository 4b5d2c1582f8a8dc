/-! pure: a question is answered -/
section CAn
variable {G : Nat → Int32} {ps : List Wd} {cn : List Con} {rk ar : Nat → Nat} {ls : List Lt} {vs : List (Option Wd)} {K P Z M T FF V BR : Nat → Int32} {z u nP mc ms pl : Nat} {E : List (Nat × List Nat)} {sgE : Nat → Nat} {sz hg fu : Int32} {FK : Nat → Int64} {S A FP N FT O NW Kn Kb W VC : Nat → Int32} {PO FXa RL RR : Nat → Int64} {SHa FIa LAa FRa TOa Gp : Nat → Int32} {kp : ClassId} {n_a0_places h0 values_ facts_ indexes_ steps_ indexes_shapes_ indexes_fixed_ indexes_firsts_ indexes_lasts_ indexes_froms_ indexes_tos_ facts_keys_ facts_stages_ facts_amounts_ facts_predicates_ facts_next_ facts_slots_ facts_oldest_ facts_newest_ facts_known_ facts_knownBefore_ a0 a0_first_ a0_kinds_ a0_predicates_ a0_places_ a0_sizes_ a0_masks_ a0_terms_ a1 a1_left_ a1_right_ a1_variables_ : Nat} {stepCount_ stage_ a0_size_ a0_literals_ : Int32} {F_a0_places st_literal st_scans st_freshOnly st_bound st_live st_soughtMask st_givenMask st_sought st_width st_predicate st_ordered st_shape st_from st_to : Nat → Int32} {sa st_a_roles st_a_variables : Nat → Nat} {st_fixed : Nat → Int64} {st_roles st_variables : Nat → Nat → Int32}
theorem Qu_no (h : QuK G ps cn rk ar ls vs K P Z M T V BR) {E : List (Nat × List Nat)} (hR : RkE cn E) {RS : List (List Nat)} (hm : ∀ r, r ∈ RS ↔ ∃ v, BoH E 0 E.length (qbO K P Z T ls.length) false 0 v ∧ r = (cols vs).map v) (hl : RS.length ≤ 5000) : ¬ AnsO ps (FX cn rk (fun x => x ∈ E)) ls vs := by
  rintro ⟨l, hnd, hx, h5⟩
  have q : ∀ x ∈ l, x ∈ RS.map (fun r => r.map (cnr cn rk)) := fun x hx2 => by
    obtain ⟨v, v1, v2⟩ := hx x hx2
    obtain ⟨u, u1, u2⟩ := (Qu_row h hR).2 v v1
    refine List.mem_map.mpr ⟨(cols vs).map u, (hm _).mpr ⟨u, u1, rfl⟩, ?_⟩
    rw [v2, List.map_map]
    exact List.map_congr_left (fun z hz => (u2 z hz).symm)
  have := hnd.length_le_of_subset (fun x hx => q x hx)
  rw [List.length_map] at this
  omega
/-- the answer's rows, not yet sorted; or too many -/
def AnK (ps : List Wd) (cn : List Con) (rk : Nat → Nat) (ls : List Lt) (vs : List (Option Wd)) (E : List (Nat × List Nat)) (RS : List (List Nat)) (rf : Int32) : Prop := (rf = 0 ∧ RS.Nodup ∧ (∀ R2 : List (List Nat), (∀ r, r ∈ R2 ↔ r ∈ RS) → R2.Pairwise lxQ → R2.length ≤ 5000 → AnsR ps (FX cn rk (fun x => x ∈ E)) ls vs (R2.map (fun r => r.map (cnr cn rk))) ∧ ∀ r ∈ R2, ∀ x ∈ r, x < cn.length) ∧ ¬ AnsO ps (FX cn rk (fun x => x ∈ E)) ls vs) ∨ (rf = 1 ∧ AnsO ps (FX cn rk (fun x => x ∈ E)) ls vs)
theorem sp_answer {post : (Int32 × Int32 × Int32 × Int32 × (Nat → Int32) × Int32 × Int32 × (Nat → Int32) × (Nat → Int64) × (Nat → Int32) × (Nat → Int32) × (Nat → Int32) × (Nat → Int32) × Nat × ClassId × Nat × (Nat → Int64) × Int32 × Int32 × Int32 × (Nat → Int64) × (Nat → Int32) × (Nat → Int32) × (Nat → Int32) × (Nat → Int32) × (Nat → Int32) × (Nat → Int32) × (Nat → Int32) × (Nat → Int32) × (Nat → Int32) × (Nat → Int32) × (Nat → Int32) × (Nat → Int32) × (Nat → Int32) × (Nat → Int32) × (Nat → Int32) × (Nat → Int32) × (Nat → Int32) × (Nat → Int32) × (Nat → Int32) × (Nat → Int64) × (Nat → Int32) × (Nat → Int32) × (Nat → Nat → Int32) × (Nat → Nat → Int32) × Int32 × Int32 × (Nat → Int64) × (Nat → Int64) × Nat × Nat) → Prop} (h : QuK G ps cn rk ar ls vs K P Z M T V BR) (hFF : FF 1 = nI ls.length) (hR : RkE cn E) (hF : FaR ar E sgE sz hg FK S A FP N FT O NW) (hKn : KnQ E E.length Kn Kb) (hG : GpI 11 Gp) (hmc : 1 ≤ mc) (hms : 960000 ≤ ms)
    (hI : IxS E z u nP SHa FXa FIa LAa FRa TOa PO) (hco : CoV (cols vs) VC)
    (hcb : ∀ sc2 stp2 W2 z2 u2 SHa2 FXa2 FIa2 LAa2 FRa2 TOa2 pl2 kp2 nP2 PO2 rz2 rf2 RL2 RR2 SL2 SC2 SQ2 SB2 SV2 SM2 SG2 SS2 SW2 SP2 SO2 SH2 SF2 SFm2 STo2 SR2 SX2 kc ks ou2 RS, RwC (cols vs).length RS rz2 RL2 RR2 → IxS E z2 u2 nP2 SHa2 FXa2 FIa2 LAa2 FRa2 TOa2 PO2 → cst nP nP2 kc ks → AnK ps cn rk ls vs E RS rf2 → post (sc2, (-1), ou2, stp2, W2, nI z2, nI u2, SHa2, FXa2, FIa2, LAa2, FRa2, TOa2, pl2, kp2, nP2, PO2, sz, hg, fu, FK, S, A, FP, N, FT, O, NW, SL2, SC2, SQ2, SB2, SV2, SM2, SG2, SS2, SW2, SP2, SO2, SH2, SF2, SFm2, STo2, SR2, SX2, rz2, rf2, RL2, RR2, kc, ks)) : wp_met_Jo_answer post mc ms nP 2 13 13 n_a0_places 13 13 (6 * 13) h0 values_ facts_ indexes_ steps_ indexes_shapes_ indexes_fixed_ indexes_firsts_ indexes_lasts_ indexes_froms_ indexes_tos_ pl facts_keys_ facts_stages_ facts_amounts_ facts_predicates_ facts_next_ facts_slots_ facts_oldest_ facts_newest_ facts_known_ facts_knownBefore_ a0 a0_first_ a0_kinds_ a0_predicates_ a0_places_ a0_sizes_ a0_masks_ a0_terms_ a1 a1_left_ a1_right_ a1_variables_ stepCount_ stage_ W (nI z) (nI u) SHa FXa FIa LAa FRa TOa PO sz hg fu (nI E.length) FK S A FP N FT O NW Kn Kb a0_size_ a0_literals_ FF K P F_a0_places Z M T 0 (nI (cols vs).length) 0 RL RR VC kp Gp sa st_literal st_scans st_freshOnly st_bound st_live st_soughtMask st_givenMask st_sought st_width st_predicate st_ordered st_shape st_fixed st_from st_to st_a_roles st_a_variables st_roles st_variables := by
  obtain ⟨b1, b2, b3, b4⟩ := Qu_bd h
  obtain ⟨k1, vb, k2, k3⟩ := hKn
  have hlen : (qbO K P Z T ls.length).length = ls.length := bs_len
  refine sp_usedVariables hco (fun m hm => ?_)
  refine ⟨vp_in_nI (n := 1) (N := 2) (by omega) (by omega), fun y3 h3 => ?_⟩
  replace h3 : y3 = FF 1 := h3
  rw [hFF, show ls.length = 0 + (qbO K P Z T ls.length).length by rw [hlen]; omega] at h3
  subst h3
  refine ⟨mc, ms, by omega, by omega, ?_⟩
  refine sp_work_A (rm := 13) (fr := 0) (bs := qbO K P Z T ls.length) (co := cols vs) (vb := vb) (vis := E.length) (by omega) (by omega) b1 b2 hF k1 k3 k2 (Nat.le_refl _) hG hmc hms hI hco hm b3 b4 (fun sc2 stp2 W2 z2 u2 SHa2 FXa2 FIa2 LAa2 FRa2 TOa2 pl2 kp2 nP2 PO2 rz2 rf2 RL2 RR2 SL2 SC2 SQ2 SB2 SV2 SM2 SG2 SS2 SW2 SP2 SO2 SH2 SF2 SFm2 STo2 SR2 SX2 kc ks RS w1 w2 w3 w4 => ?_)
  dsimp only
  rw [Nat.zero_add, Nat.zero_add]
  refine hcb sc2 stp2 W2 z2 u2 SHa2 FXa2 FIa2 LAa2 FRa2 TOa2 pl2 kp2 nP2 PO2 rz2 rf2 RL2 RR2 SL2 SC2 SQ2 SB2 SV2 SM2 SG2 SS2 SW2 SP2 SO2 SH2 SF2 SFm2 STo2 SR2 SX2 kc ks m RS w1 w2 w3 ?_
  rcases w4 with ⟨q1, q2, q3⟩ | ⟨q1, nv, q2, q3, q4⟩
  · exact Or.inl ⟨q1, q2, fun R2 r1 r2 r3 => Qu_ans h hR (fun r => (r1 r).trans (q3 r)) r2 r3, Qu_no h hR q3 w1.1⟩
  · exact Or.inr ⟨q1, Qu_over h hR q2 q3 q4⟩
end CAn
