/-! pure: a body is worked through, whole: facts -/
/-- a body holds; literal j0 takes a fresh fact where fh -/
def BoH (fs : List (Nat × List Nat)) (vb vis : Nat) (bs : List BL) (fh : Bool) (j0 : Nat) (u : Nat → Nat) : Prop := ∀ (j : Nat) (b : BL), bs[j]? = some b → (fh = true ∧ j = j0 ∧ ∃ p, b.2.1 = some p ∧ VisR fs vb vis (p, aOf u b)) ∨ (¬ (fh = true ∧ j = j0) ∧ hB (VisN fs vis) u b)
theorem IxS_app {fs : List (Nat × List Nat)} {z u nP : Nat} {SHa FIa LAa FRa TOa : Nat → Int32} {FXa PO : Nat → Int64} : ∀ nw : List (Nat × List Nat), IxS fs z u nP SHa FXa FIa LAa FRa TOa PO → IxS (fs ++ nw) z u nP SHa FXa FIa LAa FRa TOa PO := by
  intro nw
  induction nw generalizing fs with
  | nil =>
    intro h
    rw [List.append_nil]
    exact h
  | cons x nw ih =>
    intro h
    have := ih (fs := fs ++ [x]) (IxS_add h)
    rw [List.append_assoc] at this
    exact this
section WkF
variable {ar : Nat → Nat} {rm fr z u nP vb vis hdi hp sgn mc ms pl j0 : Nat} {bs : List BL} {fh : Bool} {out : Nat → Prop} {K P Z M T : Nat → Int32} {E : List (Nat × List Nat)} {sgE sg0 : Nat → Nat} {fs0 : Nat} {sz hg fu ou fa : Int32} {FK : Nat → Int64} {S A FP N FT O NW Kn Kb W : Nat → Int32} {PO FXa : Nat → Int64} {SHa FIa LAa FRa TOa Gp : Nat → Int32} {kp : ClassId} {hd b0 : BL} {n_clauses_first n_clauses_places h0 values_ facts_ indexes_ steps_ clauses_ indexes_shapes_ indexes_fixed_ indexes_firsts_ indexes_lasts_ indexes_froms_ indexes_tos_ facts_keys_ facts_stages_ facts_amounts_ facts_predicates_ facts_next_ facts_slots_ facts_oldest_ facts_newest_ facts_known_ facts_knownBefore_ clauses_first_ clauses_kinds_ clauses_predicates_ clauses_places_ clauses_sizes_ clauses_masks_ clauses_terms_ : Nat} {stepCount_ clauses_size_ clauses_literals_ : Int32} {F_clauses_first F_clauses_places st_literal st_scans st_freshOnly st_bound st_live st_soughtMask st_givenMask st_sought st_width st_predicate st_ordered st_shape st_from st_to : Nat → Int32} {rows_ : Option Nat} {sa st_a_roles st_a_variables : Nat → Nat} {st_fixed : Nat → Int64} {st_roles st_variables : Nat → Nat → Int32}
theorem Hs_Bo {js : Nat → Nat} (h1 : ∀ s, s < bs.length → js s < bs.length) (h2 : ∀ i, i < bs.length → ∃ s, s < bs.length ∧ js s = i) (hi : ∀ s s2, s < bs.length → s2 < bs.length → js s = js s2 → s = s2) (h3 : fh = true → 0 < bs.length → js 0 = j0) (v : Nat → Nat) : (∀ s, s < bs.length → Hs E vb vis bs js fh s v) ↔ BoH E vb vis bs fh j0 v := by
  constructor
  · intro h j b hj
    have hjl := (List.getElem?_eq_some_iff.mp hj).1
    obtain ⟨s, s1, s2⟩ := h2 j hjl
    obtain ⟨b', e1, e2⟩ := h s s1
    rw [s2, hj] at e1
    obtain rfl := Option.some.inj e1
    rcases e2 with ⟨r1, r2, r3⟩ | ⟨r1, r2⟩
    · subst r1
      exact Or.inl ⟨r2, by rw [← s2]; exact h3 r2 (by omega), r3⟩
    · refine Or.inr ⟨fun w => r1 ⟨?_, w.1⟩, r2⟩
      refine hi s 0 s1 (by omega) ?_
      rw [s2, w.2]
      exact (h3 w.1 (by omega)).symm
  · intro h s s1
    have hjl := h1 s s1
    have he := List.getElem?_eq_getElem hjl
    generalize bs[js s]'hjl = b at he
    refine ⟨b, he, ?_⟩
    rcases h (js s) b he with ⟨r1, r2, r3⟩ | ⟨r1, r2⟩
    · refine Or.inl ⟨?_, r1, r3⟩
      refine hi s 0 s1 (by omega) ?_
      rw [r2]
      exact (h3 r1 (by omega)).symm
    · refine Or.inr ⟨fun w => r1 ⟨w.2, ?_⟩, r2⟩
      rw [w.1]
      exact h3 w.2 (by omega)
theorem sp_lacksFacts {post : Int32 → Unit → Prop} (hrm : rm < 100000) (hfr : fr < 100000) (hD : BdA ar rm fr bs K P Z M T) (hKn : ∀ p, p < 64 → LsQ E p vis (Kn p)) (h20 : E.length ≤ 20000) (h1 : (∃ b ∈ bs, b.1 = 0 ∧ ∀ p, b.2.1 = some p → ∀ i y, i < vis → E[i]? = some y → ¬ y.1 = p) → post 1 ()) (h0 : (∀ b ∈ bs, b.1 = 0 → ∃ p, b.2.1 = some p ∧ ∃ i y, i < vis ∧ E[i]? = some y ∧ y.1 = p) → post 0 ()) : wp_met_Jo_lacksFacts post rm rm (nI fr) (nI (fr + bs.length)) Kn K P := by
  have h12 := hD.1
  have go : ∀ m j, j + m = bs.length → (∀ i b, i < j → bs[i]? = some b → b.1 = 0 → ∃ p, b.2.1 = some p ∧ ∃ i y, i < vis ∧ E[i]? = some y ∧ y.1 = p) → lw_met_Jo_lacksFacts_2 post (nI (fr + bs.length)) rm P rm K Kn (m + 1) (nI (fr + j)) := by
    intro m
    induction m with
    | zero =>
      intro j hj hq
      refine pk_le (fr + bs.length) (fr + j) (fun _ => h0 (fun b hb hk => ?_)) (fun w => absurd w (by omega))
      obtain ⟨i, hi, e⟩ := List.getElem_of_mem hb
      have he := List.getElem?_eq_getElem hi
      rw [e] at he
      exact hq i b (by omega) he hk
    | succ m ih =>
      intro j hj hq
      refine pk_le (fr + bs.length) (fr + j) (fun w => absurd w (by omega)) (fun _ => ?_)
      have hje := List.getElem?_eq_getElem (show j < bs.length by omega)
      generalize bs[j] = b at hje
      obtain ⟨d1, d2⟩ := hD.2 j b hje
      have hi := d1.1
      have nx : (b.1 = 0 → ∃ p, b.2.1 = some p ∧ ∃ i y, i < vis ∧ E[i]? = some y ∧ y.1 = p) → lw_met_Jo_lacksFacts_2 post (nI (fr + bs.length)) rm P rm K Kn (m + 1) (nI (fr + j) + 1) := by
        intro hb
        rw [nI_1, Nat.add_assoc]
        refine ih (j + 1) (by omega) (fun i b' hi2 e hk => ?_)
        by_cases w : i = j
        · subst w
          rw [hje] at e
          obtain rfl := Option.some.inj e
          exact hb hk
        · exact hq i b' (by omega) e hk
      refine ⟨vp_in_nI hi (by omega), fun y4 h4 => ⟨vp_in_nI hi (by omega), fun y6 h6 => ?_⟩⟩
      rw [nI_clamp (by omega)] at h4 h6
      rw [d1.2.1] at h6
      subst h6
      refine ⟨fun k0 => ?_, fun k0 => nx (fun w => absurd w k0)⟩
      rw [d1.2.2.1 (Or.inl k0)] at h4
      subst h4
      cases hp9 : b.2.1 with
      | none =>
        refine ⟨fun _ => h1 ⟨b, List.mem_of_getElem? hje, k0, fun p e => ?_⟩, fun w => absurd rfl w⟩
        rw [hp9] at e
        cases e
      | some p =>
        have p1 := ((d2.2.2.2.1 (Or.inl k0)).2 p hp9).1
        refine ⟨fun w => absurd w (nI_ne1 (by omega)), fun _ => ?_⟩
        refine ⟨vp_in_nI p1 (by omega), fun y2 h2 y3 h3 => ?_⟩
        have h2' : y2 = Kn p := by
          rw [h2]
          show Kn (nI p).toNatClampNeg = Kn p
          rw [nI_clamp (by omega)]
        rcases hKn p p1 with ⟨e1, e2⟩ | ⟨i, y, e1, e2, e3, e4, e5⟩
        · rw [h2', e1, if_pos rfl] at h3
          subst h3
          refine ⟨fun w => absurd w (by decide), fun _ => h1 ⟨b, List.mem_of_getElem? hje, k0, fun p' e => ?_⟩⟩
          rw [hp9] at e
          obtain rfl := Option.some.inj e
          exact e2
        · have hil := (List.getElem?_eq_some_iff.mp e2).1
          rw [h2', e4, if_neg (nI_ne1 (by omega))] at h3
          subst h3
          exact ⟨fun _ => nx (fun _ => ⟨p, hp9, i, y, e1, e2, e3⟩), fun w => absurd rfl w⟩
  have := go bs.length 0 (by omega) (fun i b hi => absurd hi (by omega))
  exact ⟨_, this⟩
theorem sp_work_F {post : (Int32 × Int32 × (Nat → Int32) × Int32 × Int32 × (Nat → Int32) × (Nat → Int64) × (Nat → Int32) × (Nat → Int32) × (Nat → Int32) × (Nat → Int32) × Nat × ClassId × Nat × (Nat → Int64) × Int32 × Int32 × Int32 × (Nat → Int64) × (Nat → Int32) × (Nat → Int32) × (Nat → Int32) × (Nat → Int32) × (Nat → Int32) × (Nat → Int32) × (Nat → Int32) × (Nat → Int32) × (Nat → Int32) × (Nat → Int32) × (Nat → Int32) × (Nat → Int32) × (Nat → Int32) × (Nat → Int32) × (Nat → Int32) × (Nat → Int32) × (Nat → Int32) × (Nat → Int32) × (Nat → Int32) × (Nat → Int64) × (Nat → Int32) × (Nat → Int32) × (Nat → Nat → Int32) × (Nat → Nat → Int32) × Nat × Nat) → Prop} (hrm : rm < 100000) (hfr : fr < 100000) (hsgn : sgn ≤ 20001) (hD : BdA ar rm fr bs K P Z M T) (hS : (∀ b ∈ bs, ¬ b.1 = 0 → ∀ x, occB b x → ∃ b2 ∈ bs, b2.1 = 0 ∧ occB b2 x)) (hF : FaR ar E sgE sz hg FK S A FP N FT O NW) (hfs0 : fs0 ≤ E.length) (hst : ∀ i, i < E.length → sgE i = if i < fs0 then sg0 i else sgn) (hfu : fu = 0 ∨ fu = 1) (hfull : fu = 1 → E.length = 20000) (hKn : ∀ p, p < 64 → LsQ E p vis (Kn p)) (hKb : ∀ p, p < 64 → LsQ E p vb (Kb p)) (hvb : vb ≤ E.length) (hvis : vis ≤ E.length) (hG : GpI 11 Gp) (hmc : 1 ≤ mc) (hms : 960000 ≤ ms)
    (hfa : (fh = false ∧ fa = -1) ∨ (fh = true ∧ fa = nI (fr + j0) ∧ bs[j0]? = some b0 ∧ b0.1 = 0)) (hfresh : fh = true → ∃ p j y, b0.2.1 = some p ∧ vb ≤ j ∧ j < vis ∧ E[j]? = some y ∧ y.1 = p) (hI : IxS E z u nP SHa FXa FIa LAa FRa TOa PO) (hhd : BQ rm hd hdi K P Z M T ∧ blOk ar hd ∧ hd.1 = 0 ∧ hd.2.1 = some hp ∧ ∀ x, occB hd x → out x) (hou : MK out ou) (hout : ∀ x, out x → ∃ b ∈ bs, occB b x)
    (hcb : ∀ sc2 stp2 W2 z2 u2 SHa2 FXa2 FIa2 LAa2 FRa2 TOa2 pl2 kp2 nP2 PO2 sz2 hg2 fu2 FK2 S2 A2 FP2 N2 FT2 O2 NW2 SL2 SC2 SQ2 SB2 SV2 SM2 SG2 SS2 SW2 SP2 SO2 SH2 SF2 SFm2 STo2 SR2 SX2 kc ks E2 sgE2, FaR ar E2 sgE2 sz2 hg2 FK2 S2 A2 FP2 N2 FT2 O2 NW2 → IxS E2 z2 u2 nP2 SHa2 FXa2 FIa2 LAa2 FRa2 TOa2 PO2 → cst nP nP2 kc ks → (∃ nw, E2 = E ++ nw ∧ ∀ x ∈ nw, ∃ v, BoH E vb vis bs fh j0 v ∧ x = (hp, aOf v hd)) → (∀ i, i < E2.length → sgE2 i = if i < fs0 then sg0 i else sgn) → ((fu2 = 0 ∧ fu = 0 ∧ ∀ v, BoH E vb vis bs fh j0 v → (hp, aOf v hd) ∈ E2) ∨ (fu2 = 1 ∧ E2.length = 20000 ∧ (fu = 1 ∨ ∃ v, BoH E vb vis bs fh j0 v ∧ ¬ (hp, aOf v hd) ∈ E2))) → post (sc2, stp2, W2, nI z2, nI u2, SHa2, FXa2, FIa2, LAa2, FRa2, TOa2, pl2, kp2, nP2, PO2, sz2, hg2, fu2, FK2, S2, A2, FP2, N2, FT2, O2, NW2, SL2, SC2, SQ2, SB2, SV2, SM2, SG2, SS2, SW2, SP2, SO2, SH2, SF2, SFm2, STo2, SR2, SX2, kc, ks)) : wp_met_Jo_work_F post mc ms nP n_clauses_first rm rm n_clauses_places rm rm (6 * rm) h0 values_ facts_ indexes_ steps_ clauses_ indexes_shapes_ indexes_fixed_ indexes_firsts_ indexes_lasts_ indexes_froms_ indexes_tos_ pl facts_keys_ facts_stages_ facts_amounts_ facts_predicates_ facts_next_ facts_slots_ facts_oldest_ facts_newest_ facts_known_ facts_knownBefore_ clauses_first_ clauses_kinds_ clauses_predicates_ clauses_places_ clauses_sizes_ clauses_masks_ clauses_terms_ (nI fr) (nI (fr + bs.length)) fa stepCount_ (nI hdi) (nI sgn) ou W (nI z) (nI u) SHa FXa FIa LAa FRa TOa PO sz hg fu (nI vis) FK S A FP N FT O NW Kn Kb clauses_size_ clauses_literals_ F_clauses_first K P F_clauses_places Z M T kp Gp rows_ sa st_literal st_scans st_freshOnly st_bound st_live st_soughtMask st_givenMask st_sought st_width st_predicate st_ordered st_shape st_fixed st_from st_to st_a_roles st_a_variables st_roles st_variables := by
  have h12 := hD.1
  have h20 := hF.1
  have hdi9 := hhd.1.1
  intro y1 h1
  rw [if_neg (nI_ne1 (by omega))] at h1
  rcases hfu with hfu | hfu
  · subst hfu
    rw [if_pos rfl] at h1
    subst h1
    refine ⟨fun _ => ?_, fun w => absurd rfl w⟩
    refine sp_lacksFacts hrm hfr hD hKn h20 (fun hlack => ?_) (fun hall => ?_)
    · refine ⟨fun w => absurd w (by decide), fun _ => ?_⟩
      obtain ⟨b, m1, m2, m3⟩ := hlack
      refine hcb _ _ _ z u _ _ _ _ _ _ _ _ _ _ _ _ 0 _ _ _ _ _ _ _ _ _ _ _ _ _ _ _ _ _ _ _ _ _ _ _ _ _ 0 0 E sgE hF hI cst_0 ⟨[], by simp, fun x hx => (by cases hx)⟩ hst (Or.inl ⟨rfl, rfl, fun v hv => ?_⟩)
      exfalso
      obtain ⟨i, hi, e⟩ := List.getElem_of_mem m1
      have he := List.getElem?_eq_getElem hi
      rw [e] at he
      rcases hv i b he with ⟨-, -, p, r1, f, r2, r3, r4⟩ | ⟨-, r⟩
      · exact m3 p r1 f _ r3 r4 rfl
      · rcases r with ⟨-, p, r1, f, r2, r3⟩ | ⟨r, -⟩ | ⟨r, -⟩
        · exact m3 p r1 f _ r2 r3 rfl
        · rw [m2] at r
          exact absurd r (by decide)
        · exact r m2
    · refine ⟨fun _ => ?_, fun w => absurd rfl w⟩
      have hSB : SafeB bs := ⟨hS, fun b hb hk => by
        obtain ⟨p, e, -⟩ := hall b hb hk
        exact ⟨p, e⟩⟩
      refine sp_arrange hrm hfr hD hSB hF.2.2.2.2.2.2.1 h20 hfa (fun js SL SC SQ SB q1 q2 q3 => ?_)
      refine ⟨mc, ms, by omega, by omega, ?_⟩
      refine sp_prepare (n := bs.length) (out := out) (js := js) (fh := fh) (vb := vb) (vis := vis) hrm hfr rfl hD hSB q1 hF hKn hKb hvb hvis hG hmc hms (fun s b p s1 s2 s3 s4 => ?_) hI hou (fun z2 u2 nP2 pl2 kp2 kc ks SHa2 FXa2 FIa2 LAa2 FRa2 TOa2 PO2 SV2 SM2 SG2 SS2 SW2 SP2 SO2 SH2 SF2 SFm2 STo2 SR2 SX2 r1 r2 r3 => ?_)
      · by_cases w : s = 0 ∧ fh = true
        · rw [if_pos w]
          obtain ⟨p', j, y, f1, f2, f3, f4, f5⟩ := hfresh w.2
          rcases hfa with ⟨z1, -⟩ | ⟨z1, z2, z3, z4⟩
          · rw [w.2] at z1
            cases z1
          · rw [w.1, q3 w.2 (by omega), z3] at s2
            obtain rfl := Option.some.inj s2
            rw [s4] at f1
            obtain rfl := Option.some.inj f1
            exact ⟨j, y, f2, f3, f4, f5⟩
        · rw [if_neg w]
          obtain ⟨p', e, i, y, f1, f2, f3⟩ := hall b (List.mem_of_getElem? s2) s3
          rw [s4] at e
          obtain rfl := Option.some.inj e
          exact ⟨i, y, Nat.zero_le _, f1, f2, f3⟩
      have hnP2 := r1.1.2.2.2
      have hX : FxF ar rm fr bs.length nP2 vb vis hdi hp sgn bs js fh out K P Z M T E ou PO2 hd SL SC SQ SB SM2 SG2 SS2 SW2 SP2 SO2 SH2 SFm2 STo2 SF2 SR2 SX2 := by
        refine ⟨⟨hrm, hfr, rfl, hnP2, hvis, hsgn⟩, hD, q1, r3, hhd, hou, fun x hx => ?_⟩
        obtain ⟨b, m1, m2⟩ := hout x hx
        obtain ⟨i, hi, e⟩ := List.getElem_of_mem m1
        have he := List.getElem?_eq_getElem hi
        rw [e] at he
        obtain ⟨s, s1, s2⟩ := q2 i hi
        exact ⟨s, b, s1, by rw [s2]; exact he, m2⟩
      have hHB := fun v => Hs_Bo (E := E) (vb := vb) (vis := vis) (fh := fh) (j0 := j0) q1.1 q2 q1.2.1 q3 v
      have hsol : ∀ v u, SolQ E vb vis bs.length bs js fh out 0 v u ↔ BoH E vb vis bs fh j0 u := by
        intro v u
        rw [← hHB u]
        constructor
        · exact fun q s s1 => q.2 s (Nat.zero_le _) s1
        · refine fun q => ⟨fun x hx => ?_, fun s _ s1 => q s s1⟩
          obtain ⟨s, b, s1, -⟩ := hx
          omega
      refine work_F (sg0 := sgE) hX hF 12 0 (Nat.zero_le _) (by omega) (fun _ => 0) W E sgE sz hg FK S A FP N FT O NW ⟨hF, ⟨[], by simp⟩, fun i hi => ?_, fun x hx => ?_⟩ _ (fun r st2 W2 E2 sgE2 sz2 hg2 fu2 FK2 S2 A2 FP2 N2 FT2 O2 NW2 R w1 w2 w3 w4 w5 w6 w7 => ?_)
      · rw [if_pos hi]
      · obtain ⟨s, b, s1, -⟩ := hx
        omega
      obtain ⟨nw, n1, n2⟩ := w4
      dsimp only
      rw [Nat.zero_add, Nat.zero_add]
      refine hcb _ _ _ z2 u2 _ _ _ _ _ _ _ _ _ _ _ _ fu2 _ _ _ _ _ _ _ _ _ _ _ _ _ _ _ _ _ _ _ _ _ _ _ _ _ kc ks E2 sgE2 w3 (by rw [n1]; exact IxS_app nw r1) r2 ⟨nw, n1, fun x hx => ?_⟩ (fun i hi => ?_) ?_
      · obtain ⟨v, v1, v2⟩ := n2 x hx
        exact ⟨v, (hsol _ v).mp v1, v2⟩
      · have := w5 i hi
        rw [this]
        by_cases w : i < E.length
        · rw [if_pos w]
          exact hst i w
        · rw [if_neg w, if_neg (by omega)]
      · rcases w7 with ⟨z1, z2, z3⟩ | ⟨z1, z2, z3, v, v1, v2⟩
        · refine Or.inl ⟨z2, rfl, fun v hv => ?_⟩
          refine z3 v (fun x _ hx => ?_) (fun s _ s1 => (hHB v).mpr hv s s1)
          obtain ⟨s, b, s1, -⟩ := hx
          omega
        · exact Or.inr ⟨z2, z3, Or.inr ⟨v, (hsol _ v).mp v1, v2⟩⟩
  · subst hfu
    rw [if_neg (by decide)] at h1
    subst h1
    refine ⟨fun w => absurd w (by decide), fun _ => ?_⟩
    exact hcb _ _ _ z u _ _ _ _ _ _ _ _ _ _ _ _ 1 _ _ _ _ _ _ _ _ _ _ _ _ _ _ _ _ _ _ _ _ _ _ _ _ _ 0 0 E sgE hF hI cst_0 ⟨[], by simp, fun x hx => (by cases hx)⟩ hst (Or.inr ⟨rfl, hfull rfl, Or.inl rfl⟩)
end WkF
