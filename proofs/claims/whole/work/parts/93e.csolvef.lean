/-! pure: a body is worked through: facts -/
/-- before step t: facts E, values W of v -/
def PrF (ar : Nat → Nat) (fs : List (Nat × List Nat)) (sg0 : Nat → Nat) (sgn : Nat) (bs : List BL) (js : Nat → Nat) (n : Nat) (out : Nat → Prop) (t : Nat) (v : Nat → Nat) (W : Nat → Int32) (E : List (Nat × List Nat)) (sgE : Nat → Nat) (sz hg : Int32) (FK : Nat → Int64) (S A FP N FT O NW : Nat → Int32) : Prop := FaR ar E sgE sz hg FK S A FP N FT O NW ∧ (∃ nw, E = fs ++ nw) ∧ (∀ i, i < E.length → sgE i = if i < fs.length then sg0 i else sgn) ∧ (∀ x, BdJ bs js t x → NdJ out bs js n t x → W x = nI (v x) ∧ v x < 1000)
/-- behind it -/
def CbF (g : (Nat → Nat) → Nat × List Nat) (ar : Nat → Nat) (fs : List (Nat × List Nat)) (sg0 : Nat → Nat) (sgn vb vis n : Nat) (bs : List BL) (js : Nat → Nat) (fh : Bool) (out : Nat → Prop) (t : Nat) (v : Nat → Nat) (W : Nat → Int32) (E : List (Nat × List Nat)) (post : Int32 → (Int32 × (Nat → Int32) × Int32 × Int32 × Int32 × (Nat → Int64) × (Nat → Int32) × (Nat → Int32) × (Nat → Int32) × (Nat → Int32) × (Nat → Int32) × (Nat → Int32) × (Nat → Int32)) → Prop) : Prop := ∀ (r st2 : Int32) (W2 : Nat → Int32) (E2 : List (Nat × List Nat)) (sgE2 : Nat → Nat) (sz2 hg2 fu2 : Int32) (FK2 : Nat → Int64) (S2 A2 FP2 N2 FT2 O2 NW2 : Nat → Int32) (R : Nat → Prop), MK R r → (∀ x, R x → NdJ out bs js n t x) → FaR ar E2 sgE2 sz2 hg2 FK2 S2 A2 FP2 N2 FT2 O2 NW2 → (∃ nw, E2 = E ++ nw ∧ ∀ x ∈ nw, ∃ u, SolQ fs vb vis n bs js fh out t v u ∧ x = g u) → (∀ i, i < E2.length → sgE2 i = if i < fs.length then sg0 i else sgn) → (∀ x, BdJ bs js t x → W2 x = W x) → ((st2 = 0 ∧ fu2 = 0 ∧ CmQ g fs vb vis n bs js fh t v R E2) ∨ (st2 = 1 ∧ fu2 = 1 ∧ E2.length = 20000 ∧ ∃ u, SolQ fs vb vis n bs js fh out t v u ∧ ¬ g u ∈ E2)) → post r (st2, W2, sz2, hg2, fu2, FK2, S2, A2, FP2, N2, FT2, O2, NW2)
theorem VisN_app {fs nw : List (Nat × List Nat)} {vis : Nat} (h : vis ≤ fs.length) (x : Nat × List Nat) : VisN (fs ++ nw) vis x ↔ VisN fs vis x := by
  constructor
  · rintro ⟨f, f1, f2⟩
    rw [List.getElem?_append_left (by omega)] at f2
    exact ⟨f, f1, f2⟩
  · rintro ⟨f, f1, f2⟩
    refine ⟨f, f1, ?_⟩
    rw [List.getElem?_append_left (by omega)]
    exact f2
theorem hB_iff {V V2 : Nat × List Nat → Prop} {v : Nat → Nat} {b : BL} (h : ∀ x, V x ↔ V2 x) : hB V v b ↔ hB V2 v b := by
  have : V = V2 := funext (fun x => propext (h x))
  rw [this]
section SvF
variable {ar : Nat → Nat} {rm fr n nP vb vis hdi hp sgn : Nat} {bs : List BL} {js : Nat → Nat} {fh : Bool} {out : Nat → Prop} {K P Z M T : Nat → Int32} {fs : List (Nat × List Nat)} {sg0 : Nat → Nat} {sz0 hg0 ou : Int32} {FK0 : Nat → Int64} {S0 A0 FP0 N0 FT0 O0 NW0 : Nat → Int32} {PO : Nat → Int64} {hd : BL} {SL SC SQ SB SM SG SS SW SP SO SH SFm STo : Nat → Int32} {SF : Nat → Int64} {SR SX : Nat → Nat → Int32} {n_clauses_first n_clauses_places h0 values_ facts_ indexes_ steps_ clauses_ indexes_shapes_ indexes_fixed_ indexes_firsts_ indexes_lasts_ indexes_froms_ indexes_tos_ indexes_pool_ facts_keys_ facts_stages_ facts_amounts_ facts_predicates_ facts_next_ facts_slots_ facts_oldest_ facts_newest_ facts_known_ facts_knownBefore_ clauses_first_ clauses_kinds_ clauses_predicates_ clauses_places_ clauses_sizes_ clauses_masks_ clauses_terms_ : Nat} {indexes_size_ indexes_used_ clauses_size_ clauses_literals_ : Int32} {F_indexes_shapes F_indexes_firsts F_indexes_lasts F_indexes_froms F_indexes_tos F_facts_known F_facts_knownBefore F_clauses_first F_clauses_places st_live : Nat → Int32} {F_indexes_fixed : Nat → Int64} {rows_ : Option Nat} {sa st_a_roles st_a_variables : Nat → Nat}
/-- what stands fast while a body is worked through -/
def FxF (ar : Nat → Nat) (rm fr n nP vb vis hdi hp sgn : Nat) (bs : List BL) (js : Nat → Nat) (fh : Bool) (out : Nat → Prop) (K P Z M T : Nat → Int32) (fs : List (Nat × List Nat)) (ou : Int32) (PO : Nat → Int64) (hd : BL) (SL SC SQ SB SM SG SS SW SP SO SH SFm STo : Nat → Int32) (SF : Nat → Int64) (SR SX : Nat → Nat → Int32) : Prop := (rm < 100000 ∧ fr < 100000 ∧ n = bs.length ∧ nP ≤ 960000 ∧ vis ≤ fs.length ∧ sgn ≤ 20001) ∧ BdA ar rm fr bs K P Z M T ∧ ArQ fr bs js fh n SL SC SQ SB ∧ (∀ s b, s < n → bs[js s]? = some b → SC s = 1 → ∃ p s0 w ro va fx o lo hi, StP b (BdJ bs js s) (LvJ out bs js n s) p s0 w ro va fx o (SM s) (SG s) (SS s) (SW s) (SP s) (SO s) (SH s) (SF s) (SR s) (SX s) ∧ SnI fs (if s = 0 ∧ fh = true then vb else 0) vis p o ro fx lo hi PO ∧ SFm s = nI lo ∧ STo s = nI hi ∧ lo ≤ hi ∧ hi ≤ nP) ∧ (BQ rm hd hdi K P Z M T ∧ blOk ar hd ∧ hd.1 = 0 ∧ hd.2.1 = some hp ∧ ∀ x, occB hd x → out x) ∧ MK out ou ∧ ∀ x, out x → BdJ bs js n x
theorem solve_F {WS : (Int32 → (Int32 × (Nat → Int32) × Int32 × Int32 × Int32 × (Nat → Int64) × (Nat → Int32) × (Nat → Int32) × (Nat → Int32) × (Nat → Int32) × (Nat → Int32) × (Nat → Int32) × (Nat → Int32)) → Prop) → Nat → Nat → Nat → Nat → Nat → Nat → Nat → Nat → Nat → Nat → Nat → Nat → Nat → Nat → Nat → Nat → Nat → Nat → Nat → Nat → Nat → Nat → Nat → Nat → Nat → Nat → Nat → Nat → Nat → Nat → Nat → Nat → Nat → Nat → Nat → Nat → Nat → Nat → Int32 → Int32 → Int32 → Int32 → Int32 → Int32 → (Nat → Int32) → Int32 → Int32 → (Nat → Int32) → (Nat → Int64) → (Nat → Int32) → (Nat → Int32) → (Nat → Int32) → (Nat → Int32) → (Nat → Int64) → Int32 → Int32 → Int32 → Int32 → (Nat → Int64) → (Nat → Int32) → (Nat → Int32) → (Nat → Int32) → (Nat → Int32) → (Nat → Int32) → (Nat → Int32) → (Nat → Int32) → (Nat → Int32) → (Nat → Int32) → Int32 → Int32 → (Nat → Int32) → (Nat → Int32) → (Nat → Int32) → (Nat → Int32) → (Nat → Int32) → (Nat → Int32) → (Nat → Int32) → Option Nat → (Nat → Nat) → (Nat → Int32) → (Nat → Int32) → (Nat → Int32) → (Nat → Int32) → (Nat → Int32) → (Nat → Int32) → (Nat → Int32) → (Nat → Int32) → (Nat → Int32) → (Nat → Int32) → (Nat → Int32) → (Nat → Int32) → (Nat → Int64) → (Nat → Int32) → (Nat → Int32) → (Nat → Nat) → (Nat → Nat) → (Nat → Nat → Int32) → (Nat → Nat → Int32) → Prop} {tm : Nat} (hX : FxF ar rm fr n nP vb vis hdi hp sgn bs js fh out K P Z M T fs ou PO hd SL SC SQ SB SM SG SS SW SP SO SH SFm STo SF SR SX)
    (hWS : ∀ t, tm ≤ t → t < n → SC t = 1 → ∀ v W E sgE sz hg FK S A FP N FT O NW, PrF ar fs sg0 sgn bs js n out t v W E sgE sz hg FK S A FP N FT O NW → ∀ post, CbF (fun u => (hp, aOf u hd)) ar fs sg0 sgn vb vis n bs js fh out t v W E post → WS post nP n_clauses_first rm rm n_clauses_places rm rm (6 * rm) h0 values_ facts_ indexes_ steps_ clauses_ indexes_shapes_ indexes_fixed_ indexes_firsts_ indexes_lasts_ indexes_froms_ indexes_tos_ indexes_pool_ facts_keys_ facts_stages_ facts_amounts_ facts_predicates_ facts_next_ facts_slots_ facts_oldest_ facts_newest_ facts_known_ facts_knownBefore_ clauses_first_ clauses_kinds_ clauses_predicates_ clauses_places_ clauses_sizes_ clauses_masks_ clauses_terms_ (nI t) (nI n) (nI hdi) (nI sgn) ou 0 W indexes_size_ indexes_used_ F_indexes_shapes F_indexes_fixed F_indexes_firsts F_indexes_lasts F_indexes_froms F_indexes_tos PO sz hg 0 (nI vis) FK S A FP N FT O NW F_facts_known F_facts_knownBefore clauses_size_ clauses_literals_ F_clauses_first K P F_clauses_places Z M T rows_ sa SL SC SQ SB st_live SM SG SS SW SP SO SH SF SFm STo st_a_roles st_a_variables SR SX) : ∀ m t, tm ≤ t → t + m = n → ∀ v W E sgE sz hg FK S A FP N FT O NW, PrF ar fs sg0 sgn bs js n out t v W E sgE sz hg FK S A FP N FT O NW → ∀ post, CbF (fun u => (hp, aOf u hd)) ar fs sg0 sgn vb vis n bs js fh out t v W E post → lw_met_Jo_solve_F_2 post (nI n) SC SL rm M 0 W sz hg 0 FK S A FP N FT O NW rm rm rm (6 * rm) (nI vis) K P Z T ou (nI hdi) (nI sgn) WS nP n_clauses_first n_clauses_places h0 values_ facts_ indexes_ steps_ clauses_ indexes_shapes_ indexes_fixed_ indexes_firsts_ indexes_lasts_ indexes_froms_ indexes_tos_ indexes_pool_ facts_keys_ facts_stages_ facts_amounts_ facts_predicates_ facts_next_ facts_slots_ facts_oldest_ facts_newest_ facts_known_ facts_knownBefore_ clauses_first_ clauses_kinds_ clauses_predicates_ clauses_places_ clauses_sizes_ clauses_masks_ clauses_terms_ indexes_size_ indexes_used_ F_indexes_shapes F_indexes_fixed F_indexes_firsts F_indexes_lasts F_indexes_froms F_indexes_tos PO F_facts_known F_facts_knownBefore clauses_size_ clauses_literals_ F_clauses_first F_clauses_places rows_ sa SQ SB st_live SM SG SS SW SP SO SH SF SFm STo st_a_roles st_a_variables SR SX (m + 1) (nI t) := by
  obtain ⟨⟨x1, x2, x3, x4, x5, x6⟩, hD, hArr, hSn, ⟨y1, y2, y3, y4, y5⟩, hou, hout⟩ := hX
  have h12 : n ≤ 12 := by rw [x3]; exact hD.1
  have hgc : ∀ v u : Nat → Nat, (∀ x, out x → v x = u x) → ((hp, aOf v hd) : Nat × List Nat) = (hp, aOf u hd) := fun v u h => by rw [aOf_cong (fun x hx => h x (y5 x hx))]
  intro m
  induction m with
  | zero =>
    intro t htm ht v W E sgE sz hg FK S A FP N FT O NW hpr post hcb
    obtain rfl : t = n := by omega
    obtain ⟨f1, f2, f3, f4⟩ := hpr
    have f20 := f1.1
    refine pk_le t t (fun _ => ?_) (fun w => absurd w (by omega))
    refine pk_le t t (fun _ => ?_) (fun w => absurd w (by omega))
    have hi := y1.1
    refine ⟨nI_ne1 (by omega), vp_in_nI hi (by omega), fun y2' h2 => ?_⟩
    rw [nI_clamp (by omega), y1.2.2.1 (Or.inl y3), y4] at h2
    have h2' : y2' = nI hp := h2
    subst h2'
    have hVV : VV hd v W := fun x hx => f4 x (hout x (y5 x hx)) (Or.inl (y5 x hx))
    refine sp_keyOf x1 y1 y2 (Or.inl y3) hVV ?_
    obtain ⟨ok1, ok2⟩ := aOf_ok y2 (Or.inl y3) y4 hVV
    have hsol : SolQ fs vb vis t bs js fh out t v v := ⟨fun _ _ _ => rfl, fun s s1 s2 => absurd s2 (by omega)⟩
    refine sp_Fa_add (p := hp) (r := aOf v hd) (st := sgn) f1 ok1 ok2 x6 (fun hm => ?_) (fun hm hl => ?_) (fun hm hl hg2 K2 S2 A2 P2 N2 T2 O2 W2 hF2 => ?_)
    · refine ⟨Or.inl rfl, ?_⟩
      exact hcb ou 0 W E sgE _ _ 0 _ _ _ _ _ _ _ _ out hou (fun x hx => Or.inl hx) f1 ⟨[], by simp, fun x hx => (by cases hx)⟩ f3 (fun _ _ => rfl) (Or.inl ⟨rfl, rfl, Cm_end hgc hout hm⟩)
    · refine ⟨Or.inr rfl, ?_⟩
      exact hcb ou 1 W E sgE _ _ 1 _ _ _ _ _ _ _ _ out hou (fun x hx => Or.inl hx) f1 ⟨[], by simp, fun x hx => (by cases hx)⟩ f3 (fun _ _ => rfl) (Or.inr ⟨rfl, rfl, hl, v, hsol, hm⟩)
    · refine ⟨Or.inl rfl, ?_⟩
      refine hcb ou 0 W (E ++ [(hp, aOf v hd)]) _ _ _ 0 _ _ _ _ _ _ _ _ out hou (fun x hx => Or.inl hx) hF2 ⟨[(hp, aOf v hd)], rfl, fun x hx => ⟨v, hsol, List.mem_singleton.mp hx⟩⟩ (fun i hi2 => ?_) (fun _ _ => rfl) (Or.inl ⟨rfl, rfl, Cm_end hgc hout (by simp)⟩)
      obtain ⟨nw, hnw⟩ := f2
      have hlen : fs.length ≤ E.length := by rw [hnw, List.length_append]; omega
      by_cases w : i = E.length
      · rw [if_pos w, if_neg (by omega)]
      · rw [if_neg w]
        rw [List.length_append, List.length_singleton] at hi2
        exact f3 i (by omega)
  | succ m ih =>
    intro t htm ht v W E sgE sz hg FK S A FP N FT O NW hpr post hcb
    have htn : t < n := by omega
    have ct : (nI t).toNatClampNeg = t := nI_clamp (by omega)
    have vt : vp_in (nI t) 12 := vp_in_nI (by omega) (by omega)
    obtain ⟨b, b1, b2, b3, b4, b5⟩ := hArr.2.2 t htn
    obtain ⟨d1, d2⟩ := hD.2 (js t) b b1
    have hid := d1.1
    refine pk_le n t (fun w => absurd w (by omega)) (fun _ => ⟨vt, fun y6 h6 => ?_⟩)
    rw [ct] at h6
    subst h6
    rcases b5 with ⟨c1, c2, c3⟩ | ⟨c1, c2, c3⟩
    · refine ⟨fun w => absurd (c1.symm.trans w) (by decide), fun _ => ?_⟩
      refine pk_le n t (fun w => absurd w (by omega)) (fun _ => ?_)
      exact hWS t htm htn c1 v W E sgE sz hg FK S A FP N FT O NW hpr _ hcb
    · refine ⟨fun _ => ⟨vt, fun y9 h9 => ?_⟩, fun w => absurd c1 w⟩
      rw [ct, b2] at h9
      subst h9
      obtain ⟨f1, ⟨nw0, f2⟩, f3, f4⟩ := hpr
      have hlen : fs.length ≤ E.length := by rw [f2, List.length_append]; omega
      have hVV : VV b v W := fun x hx => f4 x (c2 x hx) (Or.inr ⟨t, b, Nat.le_refl _, htn, b1, hx⟩)
      have hvi : ∀ x, VisN E vis x ↔ VisN fs vis x := by
        rw [f2]
        exact VisN_app x5
      refine sp_holds (vis := vis) x1 d1 d2 hVV f1 (by omega) (fun hh => ?_) (fun hh => ?_)
      · have hH : Hs fs vb vis bs js fh t v := ⟨b, b1, Or.inr ⟨c3, (hB_iff hvi).mp hh⟩⟩
        refine ⟨fun w => absurd w (by decide), fun _ => ?_⟩
        rw [nI_1]
        refine ih (t + 1) (by omega) (by omega) v W E sgE sz hg FK S A FP N FT O NW ⟨f1, ⟨nw0, f2⟩, f3, fun x hx hnx => f4 x ?_ ((NdJ_s htn b1 x).mpr (Or.inl hnx))⟩ post (fun r st2 W2 E2 sgE2 sz2 hg2 fu2 FK2 S2 A2 FP2 N2 FT2 O2 NW2 R q1 q2 q3 q4 q5 q6 q7 => ?_)
        · rcases (BdJ_s b1 x).mp hx with z | z
          · exact z
          · exact c2 x z
        obtain ⟨nw, n1, n2⟩ := q4
        refine hcb r st2 W2 E2 sgE2 sz2 hg2 fu2 FK2 S2 A2 FP2 N2 FT2 O2 NW2 R q1 (fun x hx => (NdJ_s htn b1 x).mpr (Or.inl (q2 x hx))) q3 ⟨nw, n1, fun x hx => ?_⟩ q5 (fun x hx => q6 x ((BdJ_s b1 x).mpr (Or.inl hx))) ?_
        · obtain ⟨u, u1, u2⟩ := n2 x hx
          obtain ⟨u', w1, w2⟩ := Sol_ok (g := fun u => ((hp, aOf u hd) : Nat × List Nat)) htn b1 hgc hH u1
          exact ⟨u', w1, u2.trans w2.symm⟩
        · rcases q7 with ⟨z1, z2, z3⟩ | ⟨z1, z2, z3, u, u1, u2⟩
          · exact Or.inl ⟨z1, z2, Cm_ok b1 c2 z3⟩
          · obtain ⟨u', w1, w2⟩ := Sol_ok (g := fun u => ((hp, aOf u hd) : Nat × List Nat)) htn b1 hgc hH u1
            refine Or.inr ⟨z1, z2, z3, u', w1, fun w => u2 ?_⟩
            show (hp, aOf u hd) ∈ E2
            rw [← show (hp, aOf u' hd) = (hp, aOf u hd) from w2]
            exact w
      · refine ⟨fun _ => ⟨vt, fun y13 h13 => ?_⟩, fun w => absurd rfl w⟩
        rw [ct, b2] at h13
        subst h13
        refine ⟨vp_in_nI hid (by omega), fun y15 h15 => ?_⟩
        rw [nI_clamp (by omega)] at h15
        have hnH : ¬ Hs fs vb vis bs js fh t v := by
          rintro ⟨b', e1, e2⟩
          rw [b1] at e1
          obtain rfl := Option.some.inj e1
          rcases e2 with ⟨z1, z2, -⟩ | ⟨-, z⟩
          · exact c3 ⟨z1, z2⟩
          · exact hh ((hB_iff hvi).mpr z)
        refine hcb y15 0 W E sgE _ _ 0 _ _ _ _ _ _ _ _ (occB b) (by rw [h15]; exact d1.2.2.2.2.1) (fun x hx => Or.inr ⟨t, b, Nat.le_refl _, htn, b1, hx⟩) f1 ⟨[], by simp, fun x hx => (by cases hx)⟩ f3 (fun _ _ => rfl) (Or.inl ⟨rfl, rfl, Cm_no htn b1 c2 hnH⟩)
theorem scan_F {WS : (Int32 → (Int32 × (Nat → Int32) × Int32 × Int32 × Int32 × (Nat → Int64) × (Nat → Int32) × (Nat → Int32) × (Nat → Int32) × (Nat → Int32) × (Nat → Int32) × (Nat → Int32) × (Nat → Int32)) → Prop) → Nat → Nat → Nat → Nat → Nat → Nat → Nat → Nat → Nat → Nat → Nat → Nat → Nat → Nat → Nat → Nat → Nat → Nat → Nat → Nat → Nat → Nat → Nat → Nat → Nat → Nat → Nat → Nat → Nat → Nat → Nat → Nat → Nat → Nat → Nat → Nat → Nat → Nat → Int32 → Int32 → Int32 → Int32 → Int32 → Int32 → (Nat → Int32) → Int32 → Int32 → (Nat → Int32) → (Nat → Int64) → (Nat → Int32) → (Nat → Int32) → (Nat → Int32) → (Nat → Int32) → (Nat → Int64) → Int32 → Int32 → Int32 → Int32 → (Nat → Int64) → (Nat → Int32) → (Nat → Int32) → (Nat → Int32) → (Nat → Int32) → (Nat → Int32) → (Nat → Int32) → (Nat → Int32) → (Nat → Int32) → (Nat → Int32) → Int32 → Int32 → (Nat → Int32) → (Nat → Int32) → (Nat → Int32) → (Nat → Int32) → (Nat → Int32) → (Nat → Int32) → (Nat → Int32) → Option Nat → (Nat → Nat) → (Nat → Int32) → (Nat → Int32) → (Nat → Int32) → (Nat → Int32) → (Nat → Int32) → (Nat → Int32) → (Nat → Int32) → (Nat → Int32) → (Nat → Int32) → (Nat → Int32) → (Nat → Int32) → (Nat → Int32) → (Nat → Int64) → (Nat → Int32) → (Nat → Int32) → (Nat → Nat) → (Nat → Nat) → (Nat → Nat → Int32) → (Nat → Nat → Int32) → Prop} (hX : FxF ar rm fr n nP vb vis hdi hp sgn bs js fh out K P Z M T fs ou PO hd SL SC SQ SB SM SG SS SW SP SO SH SFm STo SF SR SX) (hF0 : FaR ar fs sg0 sz0 hg0 FK0 S0 A0 FP0 N0 FT0 O0 NW0) {t : Nat} (htn : t < n) (hsc : SC t = 1)
    (hWS : ∀ v W E sgE sz hg FK S A FP N FT O NW, PrF ar fs sg0 sgn bs js n out (t + 1) v W E sgE sz hg FK S A FP N FT O NW → ∀ post, CbF (fun u => (hp, aOf u hd)) ar fs sg0 sgn vb vis n bs js fh out (t + 1) v W E post → WS post nP n_clauses_first rm rm n_clauses_places rm rm (6 * rm) h0 values_ facts_ indexes_ steps_ clauses_ indexes_shapes_ indexes_fixed_ indexes_firsts_ indexes_lasts_ indexes_froms_ indexes_tos_ indexes_pool_ facts_keys_ facts_stages_ facts_amounts_ facts_predicates_ facts_next_ facts_slots_ facts_oldest_ facts_newest_ facts_known_ facts_knownBefore_ clauses_first_ clauses_kinds_ clauses_predicates_ clauses_places_ clauses_sizes_ clauses_masks_ clauses_terms_ (nI (t + 1)) (nI n) (nI hdi) (nI sgn) ou 0 W indexes_size_ indexes_used_ F_indexes_shapes F_indexes_fixed F_indexes_firsts F_indexes_lasts F_indexes_froms F_indexes_tos PO sz hg 0 (nI vis) FK S A FP N FT O NW F_facts_known F_facts_knownBefore clauses_size_ clauses_literals_ F_clauses_first K P F_clauses_places Z M T rows_ sa SL SC SQ SB st_live SM SG SS SW SP SO SH SF SFm STo st_a_roles st_a_variables SR SX) : ∀ v W E sgE sz hg FK S A FP N FT O NW, PrF ar fs sg0 sgn bs js n out t v W E sgE sz hg FK S A FP N FT O NW → ∀ post, CbF (fun u => (hp, aOf u hd)) ar fs sg0 sgn vb vis n bs js fh out t v W E post → wp_met_Jo_scan_F post WS nP n_clauses_first rm rm n_clauses_places rm rm (6 * rm) h0 values_ facts_ indexes_ steps_ clauses_ indexes_shapes_ indexes_fixed_ indexes_firsts_ indexes_lasts_ indexes_froms_ indexes_tos_ indexes_pool_ facts_keys_ facts_stages_ facts_amounts_ facts_predicates_ facts_next_ facts_slots_ facts_oldest_ facts_newest_ facts_known_ facts_knownBefore_ clauses_first_ clauses_kinds_ clauses_predicates_ clauses_places_ clauses_sizes_ clauses_masks_ clauses_terms_ (nI t) (nI n) (nI hdi) (nI sgn) ou 0 W indexes_size_ indexes_used_ F_indexes_shapes F_indexes_fixed F_indexes_firsts F_indexes_lasts F_indexes_froms F_indexes_tos PO sz hg 0 (nI vis) FK S A FP N FT O NW F_facts_known F_facts_knownBefore clauses_size_ clauses_literals_ F_clauses_first K P F_clauses_places Z M T rows_ sa SL SC SQ SB st_live SM SG SS SW SP SO SH SF SFm STo st_a_roles st_a_variables SR SX := by
  obtain ⟨⟨x1, x2, x3, x4, x5, x6⟩, hD, hArr, hSn, ⟨y1, y2, y3, y4, y5⟩, hou, hout⟩ := hX
  have h12 : n ≤ 12 := by rw [x3]; exact hD.1
  have hgc : ∀ v u : Nat → Nat, (∀ x, out x → v x = u x) → ((hp, aOf v hd) : Nat × List Nat) = (hp, aOf u hd) := fun v u h => by rw [aOf_cong (fun x hx => h x (y5 x hx))]
  intro v W E sgE sz hg FK S A FP N FT O NW hpr post hcb
  have ct : (nI t).toNatClampNeg = t := nI_clamp (by omega)
  have vt : vp_in (nI t) 12 := vp_in_nI (by omega) (by omega)
  have t12 : t < 12 := by omega
  obtain ⟨b, b1, b2, b3, b4, b5⟩ := hArr.2.2 t htn
  obtain ⟨d1, d2⟩ := hD.2 (js t) b b1
  have hA : b.1 = 0 := by
    rcases b5 with ⟨-, c2, -⟩ | ⟨c1, -, -⟩
    · exact c2
    · rw [hsc] at c1
      exact absurd c1 (by decide)
  obtain ⟨p, s0, w, ro, va, fx, o, lo, hi, ⟨t1, hSh, t3, t4, t5, t6, t7, t8, t9, t10, t11, t12', t13, t14, t15⟩, hI, l1, l2, l3, l4⟩ := hSn t b htn b1 hsc
  have hsw := hSh.1.1
  have hw6 := hSh.1.2
  have f4 := hpr.2.2.2
  have hndb : ∀ x, occB b x → NdJ out bs js n t x := fun x hx => Or.inr ⟨t, b, Nat.le_refl _, htn, b1, hx⟩
  have hvs : ∀ q, q < s0 → W (va q) = nI (v (va q)) ∧ v (va q) < 1000 := fun q hq => f4 (va q) ((va_B hSh (by omega)).1 hq) (hndb _ (va_occ hSh (by omega)))
  have hva12 : ∀ q, q < w → va q < 12 := fun q hq => d2.2.2.1 _ (va_occ hSh hq)
  have hm : ∀ v0, VisR fs (if t = 0 ∧ fh = true then vb else 0) vis (p, aOf v0 b) ↔ Hs fs vb vis bs js fh t v0 := by
    intro v0
    by_cases z : t = 0 ∧ fh = true
    · rw [if_pos z]
      constructor
      · exact fun q => ⟨b, b1, Or.inl ⟨z.1, z.2, p, t1, q⟩⟩
      · rintro ⟨b', e1, e2⟩
        rw [b1] at e1
        obtain rfl := Option.some.inj e1
        rcases e2 with ⟨-, -, p', r1, r2⟩ | ⟨r, -⟩
        · rw [t1] at r1
          obtain rfl := Option.some.inj r1
          exact r2
        · exact absurd z r
    · rw [if_neg z]
      constructor
      · rintro ⟨f, g1, g2, g3⟩
        exact ⟨b, b1, Or.inr ⟨z, Or.inl ⟨hA, p, t1, f, g2, g3⟩⟩⟩
      · rintro ⟨b', e1, e2⟩
        rw [b1] at e1
        obtain rfl := Option.some.inj e1
        rcases e2 with ⟨r1, r2, -⟩ | ⟨-, r⟩
        · exact absurd ⟨r1, r2⟩ z
        · rcases r with ⟨-, p', r1, f, r2, r3⟩ | ⟨r, -⟩ | ⟨r, -⟩
          · rw [t1] at r1
            obtain rfl := Option.some.inj r1
            exact ⟨f, Nat.zero_le _, r2, r3⟩
          · rw [hA] at r
            exact absurd r (by decide)
          · exact absurd hA r
  have hGq : ∀ q, s0 ≤ q → q < w → (occB b (va q) ∧ LvJ out bs js n t (va q)) ∧ ¬ BdJ bs js t (va q) := fun q q1 q2 => by
    obtain ⟨z1, z2⟩ := (va_B hSh q2).2 q1
    exact ⟨⟨va_occ hSh q2, z2⟩, z1⟩
  have hso : ∀ j, j < 6 → prt s0 va v j < 1024 := prt_lt (fun q hq => (hvs q hq).2)
  have hks := kN_lt hso
  -- prefixes
  have hpre : ∀ v0 : Nat → Nat, (∀ q, q < w → v0 (va q) < 1000) → (kN (prt w va v0) / 2 ^ (60 - 10 * s0) = kN (prt s0 va v) / 2 ^ (60 - 10 * s0) ↔ ∀ x, occB b x → BdJ bs js t x → v0 x = v x) := by
    intro v0 hb0
    rw [kN_pre (prt_lt hb0) hso (by omega)]
    constructor
    · intro h x hx hbx
      obtain ⟨q, q1, q2⟩ := (va_of hSh hx).1 hbx
      have := h q q1
      unfold prt at this
      rw [if_pos (by omega), if_pos q1, q2] at this
      exact this
    · intro h q hq
      unfold prt
      rw [if_pos (by omega), if_pos hq]
      exact h _ (va_occ hSh (by omega)) ((va_B hSh (by omega)).1 hq)
  refine ⟨vt, ?_⟩
  rw [ct]
  refine sp_soughtKey (s := s0) (va := va) (v := v) t12 (by omega) t8 (fun q hq => ⟨t15 q (by omega), hva12 q (by omega)⟩) hvs ?_
  intro y4 h4 y5' h5 y6 h6 y7 h7 y8 h8
  rw [t8] at h4
  rw [h4, show (10 : Int32) = nI 10 from rfl, pk_mul] at h5
  rw [h5, show (60 : Int32) = nI 60 from rfl, pk_sub (by omega)] at h6
  rw [t8] at h8
  subst h6 h7 h8
  -- the loop, from a place before which nothing fits
  have lp : ∀ start, lo ≤ start → start ≤ hi → (∀ k u, lo ≤ k → k < start → PO k = lN (kN (prt w va u)) → (∀ q, q < w → u (va q) < 1000) → ¬ kN (prt w va u) / 2 ^ (60 - 10 * s0) = kN (prt s0 va v) / 2 ^ (60 - 10 * s0)) → (0 < s0 → ∀ k, start ≤ k → k < hi → lN (kN (prt s0 va v)) ≤ PO k) → jw_met_Jo_scan_F_64 post (SM t) 0 W sz hg 0 FK S A FP N FT O NW STo (nI t) (nI (60 - 10 * s0)) (lN (kN (prt s0 va v))) WS SG nP n_clauses_first rm rm n_clauses_places rm rm (6 * rm) h0 values_ facts_ indexes_ steps_ clauses_ indexes_shapes_ indexes_fixed_ indexes_firsts_ indexes_lasts_ indexes_froms_ indexes_tos_ indexes_pool_ facts_keys_ facts_stages_ facts_amounts_ facts_predicates_ facts_next_ facts_slots_ facts_oldest_ facts_newest_ facts_known_ facts_knownBefore_ clauses_first_ clauses_kinds_ clauses_predicates_ clauses_places_ clauses_sizes_ clauses_masks_ clauses_terms_ (nI n) (nI hdi) (nI sgn) ou indexes_size_ indexes_used_ F_indexes_shapes F_indexes_fixed F_indexes_firsts F_indexes_lasts F_indexes_froms F_indexes_tos PO (nI vis) F_facts_known F_facts_knownBefore clauses_size_ clauses_literals_ F_clauses_first K P F_clauses_places Z M T rows_ sa SL SC SQ SB st_live SM SS SW SP SO SH SF SFm st_a_roles st_a_variables SR SX (nI start) := by
    intro start hst1 hst2 hbefore hge
    have hsorted : 0 < s0 → ∀ k k2, lo ≤ k → k < k2 → k2 < hi → PO k < PO k2 := fun z => by
      obtain ⟨a, e, g1, g2, g3, g4, g5, g6, g7⟩ := hI
      exact g6 (t4.mpr (Or.inl z))
    -- done with entries before k: nothing more fits
    have fin : ∀ k (h : Int32) (H : Nat → Prop) (W1 : Nat → Int32) (E1 : List (Nat × List Nat)) (sgE1 : Nat → Nat) (sz1 hg1 : Int32) (FK1 : Nat → Int64) (S1 A1 FP1 N1 FT1 O1 NW1 : Nat → Int32), (∀ k2 u, k ≤ k2 → k2 < hi → PO k2 = lN (kN (prt w va u)) → (∀ q, q < w → u (va q) < 1000) → ¬ kN (prt w va u) / 2 ^ (60 - 10 * s0) = kN (prt s0 va v) / 2 ^ (60 - 10 * s0)) → MK H h → (∀ x, occB b x → BdJ bs js t x → H x) → (∀ x, H x → NdJ out bs js n t x) → PrF ar fs sg0 sgn bs js n out t v W1 E1 sgE1 sz1 hg1 FK1 S1 A1 FP1 N1 FT1 O1 NW1 → (∀ x, BdJ bs js t x → W1 x = W x) → (∃ nw, E1 = E ++ nw ∧ ∀ x ∈ nw, ∃ u, SolQ fs vb vis n bs js fh out t v u ∧ x = (hp, aOf u hd)) → (∀ k2 u, start ≤ k2 → k2 < k → PO k2 = lN (kN (prt w va u)) → (∀ q, q < w → u (va q) < 1000) → ∃ ve R, (∀ x, BdJ bs js t x → ve x = v x) ∧ (∀ x, (occB b x ∧ LvJ out bs js n t x) ∧ ¬ BdJ bs js t x → ve x = u x) ∧ (∀ x, R x → NdJ out bs js n (t + 1) x) ∧ (∀ x, R x → ¬ ((occB b x ∧ LvJ out bs js n t x) ∧ ¬ BdJ bs js t x) → H x) ∧ CmQ (fun u => ((hp, aOf u hd) : Nat × List Nat)) fs vb vis n bs js fh (t + 1) ve R E1) → post h (0, W1, sz1, hg1, 0, FK1, S1, A1, FP1, N1, FT1, O1, NW1) := by
      intro k h H W1 E1 sgE1 sz1 hg1 FK1 S1 A1 FP1 N1 FT1 O1 NW1 g0 g1 g2 g3 g4 g5 g6 g7
      refine hcb h 0 W1 E1 sgE1 sz1 hg1 0 FK1 S1 A1 FP1 N1 FT1 O1 NW1 H g1 g3 g4.1 g6 g4.2.2.1 g5 (Or.inl ⟨rfl, rfl, Cm_scan (out := out) htn b1 g2 (fun u hu hv => ?_)⟩)
      have hvr := (hm u).mpr hu
      obtain ⟨k2, k21, k22, k23⟩ := En_2 hF0 d2 hSh hI hvr
      have hub : ∀ q, q < w → u (va q) < 1000 := by
        intro q hq
        obtain ⟨f, -, -, r3⟩ := hvr
        refine (hF0.2.2.2.2.2.1 _ (List.mem_of_getElem? r3)).1.2.2 (u (va q)) ?_
        exact List.mem_map.mpr ⟨Sum.inl (va q), va_occ hSh hq, rfl⟩
      have hpe := (hpre u hub).mpr hv
      rcases Nat.lt_or_ge k2 start with z | z
      · exact absurd hpe (hbefore k2 u k21 z k23 hub)
      · rcases Nat.lt_or_ge k2 k with z2 | z2
        · exact g7 k2 u z z2 k23 hub
        · exact absurd hpe (g0 k2 u z2 k22 k23 hub)
    have go : ∀ m k, start ≤ k → k ≤ hi → hi ≤ k + m → ∀ (h : Int32) (H : Nat → Prop) (W1 : Nat → Int32) (E1 : List (Nat × List Nat)) (sgE1 : Nat → Nat) (sz1 hg1 : Int32) (FK1 : Nat → Int64) (S1 A1 FP1 N1 FT1 O1 NW1 : Nat → Int32), MK H h → (∀ x, occB b x → BdJ bs js t x → H x) → (∀ x, H x → NdJ out bs js n t x) → PrF ar fs sg0 sgn bs js n out t v W1 E1 sgE1 sz1 hg1 FK1 S1 A1 FP1 N1 FT1 O1 NW1 → (∀ x, BdJ bs js t x → W1 x = W x) → (∃ nw, E1 = E ++ nw ∧ ∀ x ∈ nw, ∃ u, SolQ fs vb vis n bs js fh out t v u ∧ x = (hp, aOf u hd)) → (∀ k2 u, start ≤ k2 → k2 < k → PO k2 = lN (kN (prt w va u)) → (∀ q, q < w → u (va q) < 1000) → ∃ ve R, (∀ x, BdJ bs js t x → ve x = v x) ∧ (∀ x, (occB b x ∧ LvJ out bs js n t x) ∧ ¬ BdJ bs js t x → ve x = u x) ∧ (∀ x, R x → NdJ out bs js n (t + 1) x) ∧ (∀ x, R x → ¬ ((occB b x ∧ LvJ out bs js n t x) ∧ ¬ BdJ bs js t x) → H x) ∧ CmQ (fun u => ((hp, aOf u hd) : Nat × List Nat)) fs vb vis n bs js fh (t + 1) ve R E1) → lw_met_Jo_scan_F_66 post STo (nI t) (nI (60 - 10 * s0)) (lN (kN (prt s0 va v))) WS SG nP n_clauses_first rm rm n_clauses_places rm rm (6 * rm) h0 values_ facts_ indexes_ steps_ clauses_ indexes_shapes_ indexes_fixed_ indexes_firsts_ indexes_lasts_ indexes_froms_ indexes_tos_ indexes_pool_ facts_keys_ facts_stages_ facts_amounts_ facts_predicates_ facts_next_ facts_slots_ facts_oldest_ facts_newest_ facts_known_ facts_knownBefore_ clauses_first_ clauses_kinds_ clauses_predicates_ clauses_places_ clauses_sizes_ clauses_masks_ clauses_terms_ (nI n) (nI hdi) (nI sgn) ou indexes_size_ indexes_used_ F_indexes_shapes F_indexes_fixed F_indexes_firsts F_indexes_lasts F_indexes_froms F_indexes_tos PO (nI vis) F_facts_known F_facts_knownBefore clauses_size_ clauses_literals_ F_clauses_first K P F_clauses_places Z M T rows_ sa SL SC SQ SB st_live SM SS SW SP SO SH SF SFm st_a_roles st_a_variables SR SX (m + 1) (nI k, h, 0, W1, sz1, hg1, 0, FK1, S1, A1, FP1, N1, FT1, O1, NW1) := by
      intro m
      induction m with
      | zero =>
        intro k hk1 hk2 hk3 h H W1 E1 sgE1 sz1 hg1 FK1 S1 A1 FP1 N1 FT1 O1 NW1 g1 g2 g3 g4 g5 g6 g7 y31 h31
        rw [ct, l2] at h31
        subst h31
        exact pk_le hi k (fun _ => fin k h H W1 E1 sgE1 sz1 hg1 FK1 S1 A1 FP1 N1 FT1 O1 NW1 (fun k2 u z1 z2 => absurd z2 (by omega)) g1 g2 g3 g4 g5 g6 g7) (fun z => absurd z (by omega))
      | succ m ih =>
        intro k hk1 hk2 hk3 h H W1 E1 sgE1 sz1 hg1 FK1 S1 A1 FP1 N1 FT1 O1 NW1 g1 g2 g3 g4 g5 g6 g7 y31 h31
        rw [ct, l2] at h31
        subst h31
        refine pk_le hi k (fun _ => fin k h H W1 E1 sgE1 sz1 hg1 FK1 S1 A1 FP1 N1 FT1 O1 NW1 (fun k2 u z1 z2 => absurd z2 (by omega)) g1 g2 g3 g4 g5 g6 g7) (fun hkh => ?_)
        obtain ⟨v0, e1, e2, e3⟩ := En_1 hF0 d2 hA t1 hSh hI (show lo ≤ k by omega) hkh
        have hb0 : ∀ q, q < w → v0 (va q) < 1000 := fun q hq => e3 _ (va_occ hSh hq)
        have hk0 := kN_lt (prt_lt hb0)
        have hdv : kN (prt w va v0) / 2 ^ (60 - 10 * s0) ≤ kN (prt w va v0) := Nat.div_le_self _ _
        have hds : kN (prt s0 va v) / 2 ^ (60 - 10 * s0) ≤ kN (prt s0 va v) := Nat.div_le_self _ _
        refine ⟨vp_in_nI (by omega) (by omega), fun r32 h32 y33 h33 y34 h34 => ?_⟩
        rw [nI_clamp (by omega), e2] at h32
        rw [h32, lN_shr (by omega) (by omega)] at h33
        rw [lN_shr (by omega) (by omega)] at h34
        subst h33 h34
        refine ⟨fun hpe => ?_, fun hpe => ?_⟩
        · have hpe2 := (pk_lEQ (by omega) (by omega)).mp hpe
          have hv0 := (hpre v0 hb0).mp hpe2
          refine ⟨vp_in_nI (by omega) (by omega), fun r35 h35 => ?_⟩
          rw [nI_clamp (by omega), e2] at h35
          subst h35
          rw [ct]
          refine sp_give (s := s0) (w := w) (va := va) t12 hw6 hsw t8 t9 (fun q hq => ⟨t15 q hq, hva12 q hq⟩) (fun a c ha hc e => va_inj hSh ha hc e) (by omega) (fun W2 m1 m2 => ?_)
          intro y38 h38
          rw [nI_1] at h38
          subst h38
          have ch : ∀ x, ∃ y, (((occB b x ∧ LvJ out bs js n t x) ∧ ¬ BdJ bs js t x) → y = v0 x) ∧ (¬ ((occB b x ∧ LvJ out bs js n t x) ∧ ¬ BdJ bs js t x) → y = v x) := by
            intro x
            by_cases z : (occB b x ∧ LvJ out bs js n t x) ∧ ¬ BdJ bs js t x
            · exact ⟨v0 x, fun _ => rfl, fun q => absurd z q⟩
            · exact ⟨v x, fun q => absurd q z, fun _ => rfl⟩
          obtain ⟨ve, hve⟩ := Classical.axiomOfChoice ch
          have hveB : ∀ x, BdJ bs js t x → ve x = v x := fun x hx => (hve x).2 (fun z => z.2 hx)
          have hW2b : ∀ x, BdJ bs js t x → W2 x = W1 x := fun x hx => m2 x (fun q q1 q2 e => (hGq q q1 q2).2 (by rw [e]; exact hx))
          have hve0 : ∀ x, occB b x → NdJ out bs js n (t + 1) x → ve x = v0 x := by
            intro x hx hnx
            by_cases z : BdJ bs js t x
            · rw [hveB x z]
              exact (hv0 x hx z).symm
            · exact (hve x).1 ⟨⟨hx, (NdJ_L x).mp hnx⟩, z⟩
          have h0 : Hs fs vb vis bs js fh t v0 := (hm v0).mp e1
          have lift : ∀ u, SolQ fs vb vis n bs js fh out (t + 1) ve u → ∃ u2, SolQ fs vb vis n bs js fh out t v u2 ∧ ((hp, aOf u2 hd) : Nat × List Nat) = (hp, aOf u hd) := fun u hu => SolQ_up (g := fun u => ((hp, aOf u hd) : Nat × List Nat)) htn b1 hgc h0 (fun x hx hbx => hv0 x hx hbx) hve0 (fun x hx _ => hveB x hx) hu
          refine hWS ve W2 E1 sgE1 sz1 hg1 FK1 S1 A1 FP1 N1 FT1 O1 NW1 ⟨g4.1, g4.2.1, g4.2.2.1, fun x hx hnx => ?_⟩ _ (fun r st2 W3 E2 sgE2 sz2 hg2 fu2 FK2 S2 A2 FP2 N2 FT2 O2 NW2 R q1 q2 q3 q4 q5 q6 q7 => ?_)
          · by_cases z : BdJ bs js t x
            · rw [hW2b x z, hveB x z]
              exact g4.2.2.2 x z ((NdJ_s htn b1 x).mpr (Or.inl hnx))
            · rcases (BdJ_s b1 x).mp hx with z2 | z2
              · exact absurd z2 z
              · obtain ⟨q, qa, qb, qc⟩ := (va_of hSh z2).2 z ((NdJ_L x).mp hnx)
                have e5 := m1 q qa qb
                rw [col_kN (prt_lt hb0) (by omega)] at e5
                unfold prt at e5
                rw [if_pos qb, qc] at e5
                rw [e5, hve0 x z2 hnx]
                exact ⟨rfl, e3 x z2⟩
          obtain ⟨nw, n1, n2⟩ := q4
          obtain ⟨nwa, n3, n4⟩ := g6
          have hnw : ∃ nw, E2 = E ++ nw ∧ ∀ x ∈ nw, ∃ u, SolQ fs vb vis n bs js fh out t v u ∧ x = (hp, aOf u hd) := by
            refine ⟨nwa ++ nw, by rw [n1, n3, List.append_assoc], fun x hx => ?_⟩
            rcases List.mem_append.mp hx with z | z
            · exact n4 x z
            · obtain ⟨u, u1, u2⟩ := n2 x z
              obtain ⟨u', w1, w2⟩ := lift u u1
              exact ⟨u', w1, u2.trans w2.symm⟩
          have hsub : ∀ x ∈ E1, x ∈ E2 := fun x hx => by
            rw [n1]
            exact List.mem_append_left _ hx
          have hW3 : ∀ x, BdJ bs js t x → W3 x = W1 x := fun x hx => (q6 x ((BdJ_s b1 x).mpr (Or.inl hx))).trans (hW2b x hx)
          have hR1 : ∀ x, R x → NdJ out bs js n t x := fun x hx => (NdJ_s htn b1 x).mpr (Or.inl (q2 x hx))
          rcases q7 with ⟨z1, z2, z3⟩ | ⟨z1, z2, z3, u, u1, u2⟩
          · subst z1 z2
            refine ⟨fun _ y53 h53 y54 h54 => ?_, fun z => absurd rfl z⟩
            subst h53
            have hRG := MK_z (MK_and q1 t7)
            rw [← h54] at hRG
            refine ⟨fun z => ?_, fun z => ?_⟩
            · refine hcb r 0 W3 E2 sgE2 sz2 hg2 0 FK2 S2 A2 FP2 N2 FT2 O2 NW2 R q1 hR1 q3 hnw q5 (fun x hx => (hW3 x hx).trans (g5 x hx)) (Or.inl ⟨rfl, rfl, Cm_back b1 q2 (fun x hx hg9 => ?_) hveB z3⟩)
              exact hRG.mp z x (by have := d2.2.2.1 x hg9.1.1; omega) ⟨hx, hg9⟩
            · intro y55 h55 y56 h56 y57 h57 y58 h58
              subst h55 h56 h57 h58
              rw [nI_1]
              refine ih (k + 1) (by omega) (by omega) (by omega) _ (fun x => H x ∨ (R x ∧ ¬ ((occB b x ∧ LvJ out bs js n t x) ∧ ¬ BdJ bs js t x))) W3 E2 sgE2 sz2 hg2 FK2 S2 A2 FP2 N2 FT2 O2 NW2 (MK_orm g1 (MK_andn q1 t7)) (fun x hx hbx => Or.inl (g2 x hx hbx)) (fun x hx => ?_) ⟨q3, ?_, q5, fun x hx hnx => ?_⟩ (fun x hx => (hW3 x hx).trans (g5 x hx)) hnw (fun k2 u ka kb kc kd => ?_)
              · rcases hx with hx | hx
                · exact g3 x hx
                · exact hR1 x hx.1
              · obtain ⟨nw0, hnw0⟩ := g4.2.1
                exact ⟨nw0 ++ nw, by rw [n1, hnw0, List.append_assoc]⟩
              · rw [hW3 x hx]
                exact g4.2.2.2 x hx hnx
              · rcases Nat.lt_or_ge k2 k with z9 | z9
                · obtain ⟨ve', R', r1, r2, r3, r4, r5⟩ := g7 k2 u ka z9 kc kd
                  exact ⟨ve', R', r1, r2, r3, fun x hx hx2 => Or.inl (r4 x hx hx2), Cm_sub r5 hsub⟩
                · obtain rfl : k2 = k := by omega
                  refine ⟨ve, R, hveB, fun x hx => ?_, q2, fun x hx hx2 => Or.inr ⟨hx, hx2⟩, z3⟩
                  rw [(hve x).1 hx]
                  rw [e2] at kc
                  have hku := kN_lt (prt_lt kd)
                  have ek := (pk_lEQ (by omega) (by omega)).mp kc
                  obtain ⟨q, qa, qb, qc⟩ := (va_of hSh hx.1.1).2 hx.2 hx.1.2
                  have e9 := kN_inj (prt_lt hb0) (prt_lt kd) ek (j := q) (by omega)
                  unfold prt at e9
                  rw [if_pos qb, if_pos qb, qc] at e9
                  exact e9
          · subst z1 z2
            refine ⟨fun z => absurd z (by decide), fun _ => ?_⟩
            obtain ⟨u', w1, w2⟩ := lift u u1
            refine hcb r 1 W3 E2 sgE2 sz2 hg2 1 FK2 S2 A2 FP2 N2 FT2 O2 NW2 R q1 hR1 q3 hnw q5 (fun x hx => (hW3 x hx).trans (g5 x hx)) (Or.inr ⟨rfl, rfl, z3, u', w1, fun q => u2 ?_⟩)
            show (hp, aOf u hd) ∈ E2
            rw [← w2]
            exact q
        · have hs0 : 0 < s0 := by
            rcases Nat.eq_zero_or_pos s0 with z | z
            · exfalso
              have hq9 := (kN_pre (s := s0) (prt_lt hb0) hso (by omega)).mpr (fun q hq => absurd hq (by omega))
              exact hpe (by rw [hq9])
            · exact z
          have hge2 := hge hs0 k hk1 hkh
          rw [e2] at hge2
          have hge3 := (pk_lLE (by omega) (by omega)).mp hge2
          have hlt : kN (prt s0 va v) / 2 ^ (60 - 10 * s0) < kN (prt w va v0) / 2 ^ (60 - 10 * s0) := by
            have h1 := Nat.div_le_div_right (c := 2 ^ (60 - 10 * s0)) hge3
            have h2 : ¬ kN (prt w va v0) / 2 ^ (60 - 10 * s0) = kN (prt s0 va v) / 2 ^ (60 - 10 * s0) := fun z => hpe (by rw [z])
            omega
          refine fin k h H W1 E1 sgE1 sz1 hg1 FK1 S1 A1 FP1 N1 FT1 O1 NW1 (fun k2 u z1 z2 z3 z4 => ?_) g1 g2 g3 g4 g5 g6 g7
          have hku := kN_lt (prt_lt z4)
          have hle : kN (prt w va v0) ≤ kN (prt w va u) := by
            rcases Nat.lt_or_ge k k2 with z5 | z5
            · have := hsorted hs0 k k2 (by omega) z5 z2
              rw [e2, z3] at this
              have := (pk_lLT (by omega) (by omega)).mp this
              omega
            · obtain rfl : k2 = k := by omega
              rw [e2] at z3
              have := (pk_lEQ (by omega) (by omega)).mp z3
              omega
          have h1 := Nat.div_le_div_right (c := 2 ^ (60 - 10 * s0)) hle
          omega
    refine ⟨_, go (hi - start) start (Nat.le_refl _) hst2 (by omega) (SM t) (fun x => occB b x ∧ BdJ bs js t x) W E sgE sz hg FK S A FP N FT O NW t6 (fun x hx hbx => ⟨hx, hbx⟩) (fun x hx => hndb x hx.1) hpr (fun _ _ => rfl) ⟨[], by simp, fun x hx => (by cases hx)⟩ (fun k2 u ka kb => absurd kb (by omega))⟩
  refine ⟨fun z => ?_, fun z => ?_⟩
  · have hs0 : s0 = 0 := (nI_eq (b := 0) (by omega) (by omega)).mp z
    intro y13 h13
    rw [l1] at h13
    subst h13
    exact lp lo (Nat.le_refl _) l3 (fun k u k1 k2 => absurd k2 (by omega)) (fun q => absurd q (by omega))
  · have hs0 : 0 < s0 := by
      rcases Nat.eq_zero_or_pos s0 with q | q
      · exact absurd (by rw [q]; rfl) z
      · exact q
    intro y10 h10 y11 h11
    rw [l1] at h10
    rw [l2] at h11
    subst h10 h11
    have hsorted : ∀ k k2, lo ≤ k → k < k2 → k2 < hi → PO k < PO k2 := by
      obtain ⟨a, e, g1, g2, g3, g4, g5, g6, g7⟩ := hI
      exact g6 (t4.mpr (Or.inl hs0))
    refine sp_Ix_seek x4 l4 l3 hsorted (fun r r1 r2 r3 r4 => lp r r1 r2 (fun k u k1 k2 k3 k4 hpe => ?_) (fun _ k k1 k2 => r4 k k1 k2))
    have hlt := r3 k k1 k2
    have hku := kN_lt (prt_lt k4)
    rw [k3] at hlt
    have hlt2 := (pk_lLT (by omega) (by omega)).mp hlt
    have hmul := kN_mul (g := prt s0 va v) (s := s0) (by omega) (fun q hq => if_neg (by omega))
    rw [← hpe] at hmul
    have := Nat.div_mul_le_self (kN (prt w va u)) (2 ^ (60 - 10 * s0))
    omega
theorem work_F (hX : FxF ar rm fr n nP vb vis hdi hp sgn bs js fh out K P Z M T fs ou PO hd SL SC SQ SB SM SG SS SW SP SO SH SFm STo SF SR SX) (hF0 : FaR ar fs sg0 sz0 hg0 FK0 S0 A0 FP0 N0 FT0 O0 NW0) : ∀ d t, t ≤ n → n ≤ t + d → ∀ v W E sgE sz hg FK S A FP N FT O NW, PrF ar fs sg0 sgn bs js n out t v W E sgE sz hg FK S A FP N FT O NW → ∀ post, CbF (fun u => (hp, aOf u hd)) ar fs sg0 sgn vb vis n bs js fh out t v W E post → wS_F d post nP n_clauses_first rm rm n_clauses_places rm rm (6 * rm) h0 values_ facts_ indexes_ steps_ clauses_ indexes_shapes_ indexes_fixed_ indexes_firsts_ indexes_lasts_ indexes_froms_ indexes_tos_ indexes_pool_ facts_keys_ facts_stages_ facts_amounts_ facts_predicates_ facts_next_ facts_slots_ facts_oldest_ facts_newest_ facts_known_ facts_knownBefore_ clauses_first_ clauses_kinds_ clauses_predicates_ clauses_places_ clauses_sizes_ clauses_masks_ clauses_terms_ (nI t) (nI n) (nI hdi) (nI sgn) ou 0 W indexes_size_ indexes_used_ F_indexes_shapes F_indexes_fixed F_indexes_firsts F_indexes_lasts F_indexes_froms F_indexes_tos PO sz hg 0 (nI vis) FK S A FP N FT O NW F_facts_known F_facts_knownBefore clauses_size_ clauses_literals_ F_clauses_first K P F_clauses_places Z M T rows_ sa SL SC SQ SB st_live SM SG SS SW SP SO SH SF SFm STo st_a_roles st_a_variables SR SX := by
  intro d
  induction d with
  | zero =>
    intro t h1 h2 v W E sgE sz hg FK S A FP N FT O NW hpr post hcb
    exact ⟨_, solve_F (tm := t) hX (fun t' h3 h4 => absurd h4 (by omega)) (n - t) t (Nat.le_refl _) (by omega) v W E sgE sz hg FK S A FP N FT O NW hpr post hcb⟩
  | succ d ih =>
    intro t h1 h2 v W E sgE sz hg FK S A FP N FT O NW hpr post hcb
    refine ⟨_, solve_F (tm := t) hX (fun t' h3 h4 h5 v W E sgE sz hg FK S A FP N FT O NW hpr post hcb => ?_) (n - t) t (Nat.le_refl _) (by omega) v W E sgE sz hg FK S A FP N FT O NW hpr post hcb⟩
    exact scan_F hX hF0 h4 h5 (fun v W E sgE sz hg FK S A FP N FT O NW hpr post hcb => ih (t' + 1) (by omega) (by omega) v W E sgE sz hg FK S A FP N FT O NW hpr post hcb) v W E sgE sz hg FK S A FP N FT O NW hpr post hcb
end SvF
