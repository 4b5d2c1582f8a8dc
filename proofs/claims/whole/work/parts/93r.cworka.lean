/-! pure: a body is worked through, whole: answers -/
section WkA
variable {ar : Nat → Nat} {rm fr z u nP vb vis mc ms pl : Nat} {bs : List BL} {co : List Nat} {K P Z M T : Nat → Int32} {E : List (Nat × List Nat)} {sgE : Nat → Nat} {sz hg fu ou : Int32} {FK : Nat → Int64} {S A FP N FT O NW Kn Kb W VC : Nat → Int32} {PO FXa RL RR : Nat → Int64} {SHa FIa LAa FRa TOa Gp : Nat → Int32} {kp : ClassId} {n_clauses_first n_clauses_places h0 values_ facts_ indexes_ steps_ clauses_ rows_ indexes_shapes_ indexes_fixed_ indexes_firsts_ indexes_lasts_ indexes_froms_ indexes_tos_ facts_keys_ facts_stages_ facts_amounts_ facts_predicates_ facts_next_ facts_slots_ facts_oldest_ facts_newest_ facts_known_ facts_knownBefore_ clauses_first_ clauses_kinds_ clauses_predicates_ clauses_places_ clauses_sizes_ clauses_masks_ clauses_terms_ rows_left_ rows_right_ rows_variables_ : Nat} {stepCount_ stage_ clauses_size_ clauses_literals_ : Int32} {F_clauses_first F_clauses_places st_literal st_scans st_freshOnly st_bound st_live st_soughtMask st_givenMask st_sought st_width st_predicate st_ordered st_shape st_from st_to : Nat → Int32} {sa st_a_roles st_a_variables : Nat → Nat} {st_fixed : Nat → Int64} {st_roles st_variables : Nat → Nat → Int32}
/-- the rows of an answer, or more than there may be -/
def AwQ (E : List (Nat × List Nat)) (vis : Nat) (bs : List BL) (co : List Nat) (R : List (List Nat)) (rf : Int32) : Prop := (rf = 0 ∧ R.Nodup ∧ ∀ r, r ∈ R ↔ ∃ v, BoH E 0 vis bs false 0 v ∧ r = co.map v) ∨ (rf = 1 ∧ ∃ nv : List (List Nat), nv.Nodup ∧ 5000 < nv.length ∧ ∀ r ∈ nv, ∃ v, BoH E 0 vis bs false 0 v ∧ r = co.map v)
theorem sp_work_A {post : (Int32 × Int32 × (Nat → Int32) × Int32 × Int32 × (Nat → Int32) × (Nat → Int64) × (Nat → Int32) × (Nat → Int32) × (Nat → Int32) × (Nat → Int32) × Nat × ClassId × Nat × (Nat → Int64) × Int32 × Int32 × Int32 × (Nat → Int64) × (Nat → Int32) × (Nat → Int32) × (Nat → Int32) × (Nat → Int32) × (Nat → Int32) × (Nat → Int32) × (Nat → Int32) × Int32 × Int32 × (Nat → Int64) × (Nat → Int64) × (Nat → Int32) × (Nat → Int32) × (Nat → Int32) × (Nat → Int32) × (Nat → Int32) × (Nat → Int32) × (Nat → Int32) × (Nat → Int32) × (Nat → Int32) × (Nat → Int32) × (Nat → Int32) × (Nat → Int32) × (Nat → Int64) × (Nat → Int32) × (Nat → Int32) × (Nat → Nat → Int32) × (Nat → Nat → Int32) × Nat × Nat) → Prop} (hrm : rm < 100000) (hfr : fr < 100000) (hD : BdA ar rm fr bs K P Z M T) (hS : (∀ b ∈ bs, ¬ b.1 = 0 → ∀ x, occB b x → ∃ b2 ∈ bs, b2.1 = 0 ∧ occB b2 x)) (hF : FaR ar E sgE sz hg FK S A FP N FT O NW) (hKn : ∀ p, p < 64 → LsQ E p vis (Kn p)) (hKb : ∀ p, p < 64 → LsQ E p vb (Kb p)) (hvb : vb ≤ E.length) (hvis : vis ≤ E.length) (hG : GpI 11 Gp) (hmc : 1 ≤ mc) (hms : 960000 ≤ ms)
    (hI : IxS E z u nP SHa FXa FIa LAa FRa TOa PO) (hco : CoV co VC) (hou : MK (fun x => x ∈ co) ou) (hout : ∀ x, x ∈ co → ∃ b ∈ bs, occB b x) (hone : ∀ (i j : Nat) (b b2 : BL) (x : Nat), bs[i]? = some b → bs[j]? = some b2 → occB b x → occB b2 x → ¬ i = j → x ∈ co)
    (hcb : ∀ sc2 stp2 W2 z2 u2 SHa2 FXa2 FIa2 LAa2 FRa2 TOa2 pl2 kp2 nP2 PO2 rz2 rf2 RL2 RR2 SL2 SC2 SQ2 SB2 SV2 SM2 SG2 SS2 SW2 SP2 SO2 SH2 SF2 SFm2 STo2 SR2 SX2 kc ks R, RwC co.length R rz2 RL2 RR2 → IxS E z2 u2 nP2 SHa2 FXa2 FIa2 LAa2 FRa2 TOa2 PO2 → cst nP nP2 kc ks → AwQ E vis bs co R rf2 → post (sc2, stp2, W2, nI z2, nI u2, SHa2, FXa2, FIa2, LAa2, FRa2, TOa2, pl2, kp2, nP2, PO2, sz, hg, fu, FK, S, A, FP, N, FT, O, NW, rz2, rf2, RL2, RR2, SL2, SC2, SQ2, SB2, SV2, SM2, SG2, SS2, SW2, SP2, SO2, SH2, SF2, SFm2, STo2, SR2, SX2, kc, ks)) : wp_met_Jo_work_A post mc ms nP n_clauses_first rm rm n_clauses_places rm rm (6 * rm) h0 values_ facts_ indexes_ steps_ clauses_ rows_ indexes_shapes_ indexes_fixed_ indexes_firsts_ indexes_lasts_ indexes_froms_ indexes_tos_ pl facts_keys_ facts_stages_ facts_amounts_ facts_predicates_ facts_next_ facts_slots_ facts_oldest_ facts_newest_ facts_known_ facts_knownBefore_ clauses_first_ clauses_kinds_ clauses_predicates_ clauses_places_ clauses_sizes_ clauses_masks_ clauses_terms_ rows_left_ rows_right_ rows_variables_ (nI fr) (nI (fr + bs.length)) (-1) stepCount_ (-1) stage_ ou W (nI z) (nI u) SHa FXa FIa LAa FRa TOa PO sz hg fu (nI vis) FK S A FP N FT O NW Kn Kb clauses_size_ clauses_literals_ F_clauses_first K P F_clauses_places Z M T 0 (nI co.length) 0 RL RR VC kp Gp sa st_literal st_scans st_freshOnly st_bound st_live st_soughtMask st_givenMask st_sought st_width st_predicate st_ordered st_shape st_fixed st_from st_to st_a_roles st_a_variables st_roles st_variables := by
  have h12 := hD.1
  have h20 := hF.1
  have hR0 : RwC co.length [] 0 RL RR := ⟨Nat.zero_le _, rfl, fun i r hi => (by rw [List.getElem?_nil] at hi; cases hi)⟩
  intro y1 h1
  rw [if_pos rfl] at h1
  subst h1
  refine ⟨fun _ => ?_, fun w => absurd rfl w⟩
  refine sp_lacksFacts hrm hfr hD hKn h20 (fun hlack => ?_) (fun hall => ?_)
  · refine ⟨fun w => absurd w (by decide), fun _ => ?_⟩
    obtain ⟨b, m1, m2, m3⟩ := hlack
    refine hcb _ _ _ z u _ _ _ _ _ _ _ _ _ _ _ _ _ _ _ _ _ _ _ _ _ _ _ _ _ _ _ _ _ _ _ 0 0 [] hR0 hI cst_0 (Or.inl ⟨rfl, List.nodup_nil, fun r => ⟨fun w => (by cases w), ?_⟩⟩)
    rintro ⟨v, hv, -⟩
    exfalso
    obtain ⟨i, hi, e⟩ := List.getElem_of_mem m1
    have he := List.getElem?_eq_getElem hi
    rw [e] at he
    rcases hv i b he with ⟨q, -⟩ | ⟨-, r⟩
    · cases q
    · rcases r with ⟨-, p, r1, f, r2, r3⟩ | ⟨r, -⟩ | ⟨r, -⟩
      · exact m3 p r1 f _ r2 r3 rfl
      · rw [m2] at r
        exact absurd r (by decide)
      · exact r m2
  · refine ⟨fun _ => ?_, fun w => absurd rfl w⟩
    have hSB : SafeB bs := ⟨hS, fun b hb hk => by
      obtain ⟨p, e, -⟩ := hall b hb hk
      exact ⟨p, e⟩⟩
    refine sp_arrange (fh := false) (j0 := 0) (b0 := ((0 : Int32), none, [])) hrm hfr hD hSB hF.2.2.2.2.2.2.1 h20 (Or.inl ⟨rfl, rfl⟩) (fun js SL SC SQ SB q1 q2 q3 => ?_)
    refine ⟨mc, ms, by omega, by omega, ?_⟩
    refine sp_prepare (n := bs.length) (out := fun x => x ∈ co) (js := js) (fh := false) (vb := vb) (vis := vis) hrm hfr rfl hD hSB q1 hF hKn hKb hvb hvis hG hmc hms (fun s b p s1 s2 s3 s4 => ?_) hI hou (fun z2 u2 nP2 pl2 kp2 kc ks SHa2 FXa2 FIa2 LAa2 FRa2 TOa2 PO2 SV2 SM2 SG2 SS2 SW2 SP2 SO2 SH2 SF2 SFm2 STo2 SR2 SX2 r1 r2 r3 => ?_)
    · rw [if_neg (fun w => (by cases w.2))]
      obtain ⟨p', e, i, y, f1, f2, f3⟩ := hall b (List.mem_of_getElem? s2) s3
      rw [s4] at e
      obtain rfl := Option.some.inj e
      exact ⟨i, y, Nat.zero_le _, f1, f2, f3⟩
    have hnP2 := r1.1.2.2.2
    have hX : FxA ar rm fr bs.length nP2 vb vis bs js false (fun x => x ∈ co) K P Z M T E sgE ou PO2 co VC sz hg FK S A FP N FT O NW SL SC SQ SB SM2 SG2 SS2 SW2 SP2 SO2 SH2 SFm2 STo2 SF2 SR2 SX2 := by
      refine ⟨⟨hrm, hfr, rfl, hnP2, hvis⟩, hD, q1, r3, ⟨hco, fun x => Iff.rfl⟩, hou, fun x hx => ?_, fun t b x ht hb hl => ?_, hF⟩
      · obtain ⟨b, m1, m2⟩ := hout x hx
        obtain ⟨i, hi, e⟩ := List.getElem_of_mem m1
        have he := List.getElem?_eq_getElem hi
        rw [e] at he
        obtain ⟨s, s1, s2⟩ := q2 i hi
        exact ⟨s, b, s1, by rw [s2]; exact he, m2⟩
      · rcases hl with hl | ⟨s2, b2, l1, l2, l3, l4⟩
        · exact hl
        · refine hone (js t) (js s2) b b2 x ht l3 hb l4 (fun e => ?_)
          have := q1.2.1 t s2 (by omega) l2 e
          omega
    have hHB := fun v => Hs_Bo (E := E) (vb := vb) (vis := vis) (fh := false) (j0 := 0) q1.1 q2 q1.2.1 (fun w => (by cases w)) v
    have hB0 : ∀ u, BoH E vb vis bs false 0 u ↔ BoH E 0 vis bs false 0 u := fun u => ⟨fun w => Bo_pl.mpr (Bo_pl.mp w), fun w => Bo_pl.mpr (Bo_pl.mp w)⟩
    have hsol : ∀ v u, SolQ E vb vis bs.length bs js false (fun x => x ∈ co) 0 v u ↔ BoH E 0 vis bs false 0 u := by
      intro v u
      rw [← hB0 u, ← hHB u]
      constructor
      · exact fun q s s1 => q.2 s (Nat.zero_le _) s1
      · refine fun q => ⟨fun x hx => ?_, fun s _ s1 => q s s1⟩
        obtain ⟨s, b, s1, -⟩ := hx
        omega
    refine work_A hX 12 0 (Nat.zero_le _) (by omega) (fun _ => 0) W [] 0 RL RR ⟨hR0, fun x hx => ?_⟩ _ (fun r st2 W2 E2 rz2 rf2 RL2 RR2 R w1 w2 w3 w4 w5 w6 => ?_)
    · obtain ⟨s, b, s1, -⟩ := hx
      omega
    obtain ⟨nw, nv, n1, n2, n3, n4⟩ := w4
    rw [List.nil_append] at n1
    subst n1
    dsimp only
    rw [Nat.zero_add, Nat.zero_add]
    refine hcb _ _ _ z2 u2 _ _ _ _ _ _ _ _ _ _ _ _ _ _ _ _ _ _ _ _ _ _ _ _ _ _ _ _ _ _ _ kc ks E2 w3 r1 r2 ?_
    rcases w6 with ⟨z1, z2, z3⟩ | ⟨z1, z2, z3⟩
    · rcases n2 with ⟨-, rfl⟩ | ⟨n2, -⟩
      · refine Or.inl ⟨z2, n3, fun r => ⟨fun hr => ?_, ?_⟩⟩
        · obtain ⟨v, v1, v2⟩ := n4 r hr
          exact ⟨v, (hsol _ v).mp v1, v2⟩
        · rintro ⟨v, hv, rfl⟩
          refine z3 v (fun x _ hx => ?_) (fun s _ s1 => (hHB v).mpr ((hB0 v).mpr hv) s s1)
          obtain ⟨s, b, s1, -⟩ := hx
          omega
      · rw [z1] at n2
        exact absurd n2 (by decide)
    · rcases n2 with ⟨n2, -⟩ | ⟨-, x, n2⟩
      · rw [z1] at n2
        exact absurd n2 (by decide)
      · refine Or.inr ⟨z2, nv, n3, by rw [n2, List.length_append, z3, List.length_singleton]; omega, fun r hr => ?_⟩
        obtain ⟨v, v1, v2⟩ := n4 r hr
        exact ⟨v, (hsol _ v).mp v1, v2⟩
end WkA
