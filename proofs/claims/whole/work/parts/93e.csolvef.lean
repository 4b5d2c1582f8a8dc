/-! pure: a body is worked through: facts -/
/-- before step t: facts E, values W of v -/
def PrF (ar : Nat → Nat) (fs : List (Nat × List Nat)) (sg0 : Nat → Nat) (sgn : Nat) (bs : List BL) (js : Nat → Nat) (n : Nat) (out : Nat → Prop) (t : Nat) (v : Nat → Nat) (W : Nat → Int32) (E : List (Nat × List Nat)) (sgE : Nat → Nat) (sz hg : Int32) (FK : Nat → Int64) (S A FP N FT O NW : Nat → Int32) : Prop := FaR ar E sgE sz hg FK S A FP N FT O NW ∧ (∃ nw, E = fs ++ nw) ∧ (∀ i, i < E.length → sgE i = if i < fs.length then sg0 i else sgn) ∧ (∀ x, BdJ bs js t x → NdJ out bs js n t x → W x = nI (v x) ∧ v x < 1000)
/-- behind it -/
def CbF (g : (Nat → Nat) → Nat × List Nat) (ar : Nat → Nat) (fs : List (Nat × List Nat)) (sg0 : Nat → Nat) (sgn vb vis n : Nat) (bs : List BL) (js : Nat → Nat) (fh : Bool) (out : Nat → Prop) (t : Nat) (v : Nat → Nat) (W : Nat → Int32) (E : List (Nat × List Nat)) (post : Int32 → (Int32 × (Nat → Int32) × Int32 × Int32 × Int32 × (Nat → Int64) × (Nat → Int32) × (Nat → Int32) × (Nat → Int32) × (Nat → Int32) × (Nat → Int32) × (Nat → Int32) × (Nat → Int32)) → Prop) : Prop := ∀ (r st2 : Int32) (W2 : Nat → Int32) (E2 : List (Nat × List Nat)) (sgE2 : Nat → Nat) (sz2 hg2 fu2 : Int32) (FK2 : Nat → Int64) (S2 A2 FP2 N2 FT2 O2 NW2 : Nat → Int32) (R : Nat → Prop), MK R r → (∀ x, R x → NdJ out bs js n t x) → FaR ar E2 sgE2 sz2 hg2 FK2 S2 A2 FP2 N2 FT2 O2 NW2 → (∃ nw, E2 = E ++ nw ∧ ∀ x ∈ nw, ∃ u, SolQ fs vb vis n bs js fh out t v u ∧ x = g u) → (∀ i, i < E2.length → sgE2 i = if i < fs.length then sg0 i else sgn) → (∀ x, BdJ bs js t x → W2 x = W x) → ((st2 = 0 ∧ fu2 = 0 ∧ CmQ g fs vb vis n bs js fh t v R E2) ∨ (st2 = 1 ∧ fu2 = 1 ∧ E2.length = 20000 ∧ ∃ u, SolQ fs vb vis n bs js fh out t v u ∧ ¬ g u ∈ E2)) → post r (st2, W2, sz2, hg2, fu2, FK2, S2, A2, FP2, N2, FT2, O2, NW2)
theorem VisN_app {fs nw : List (Nat × List Nat)} {vis : Nat} (h : vis ≤ fs.length) (x : Nat × List Nat) : VisN (fs ++ nw) vis x ↔ VisN fs vis x := by
  constructor
  · rintro ⟨f, f1, f2⟩
    rw [List.getElem?_append_left (by omega)] at f2
    exact ⟨f, f1, f2⟩
  · rintro ⟨f, f1, f2⟩
    refine ⟨f, f1, ?_⟩
    rw [List.getElem?_append_left (by omega)]
    exact f2
theorem hB_iff {V V2 : Nat × List Nat → Prop} {v : Nat → Nat} {b : BL} (h : ∀ x, V x ↔ V2 x) : hB V v b ↔ hB V2 v b := by
  have : V = V2 := funext (fun x => propext (h x))
  rw [this]
section SvF
variable {ar : Nat → Nat} {rm fr n nP vb vis hdi hp sgn : Nat} {bs : List BL} {js : Nat → Nat} {fh : Bool} {out : Nat → Prop} {K P Z M T : Nat → Int32} {fs : List (Nat × List Nat)} {sg0 : Nat → Nat} {sz0 hg0 ou : Int32} {FK0 : Nat → Int64} {S0 A0 FP0 N0 FT0 O0 NW0 : Nat → Int32} {PO : Nat → Int64} {hd : BL} {SL SC SQ SB SM SG SS SW SP SO SH SFm STo : Nat → Int32} {SF : Nat → Int64} {SR SX : Nat → Nat → Int32} {n_clauses_first n_clauses_places h0 values_ facts_ indexes_ steps_ clauses_ indexes_shapes_ indexes_fixed_ indexes_firsts_ indexes_lasts_ indexes_froms_ indexes_tos_ indexes_pool_ facts_keys_ facts_stages_ facts_amounts_ facts_predicates_ facts_next_ facts_slots_ facts_oldest_ facts_newest_ facts_known_ facts_knownBefore_ clauses_first_ clauses_kinds_ clauses_predicates_ clauses_places_ clauses_sizes_ clauses_masks_ clauses_terms_ : Nat} {indexes_size_ indexes_used_ clauses_size_ clauses_literals_ : Int32} {F_indexes_shapes F_indexes_firsts F_indexes_lasts F_indexes_froms F_indexes_tos F_facts_known F_facts_knownBefore F_clauses_first F_clauses_places st_live : Nat → Int32} {F_indexes_fixed : Nat → Int64} {rows_ : Option Nat} {sa st_a_roles st_a_variables : Nat → Nat}
/-- what stands fast while a body is worked through -/
def FxF (ar : Nat → Nat) (rm fr n nP vb vis hdi hp sgn : Nat) (bs : List BL) (js : Nat → Nat) (fh : Bool) (out : Nat → Prop) (K P Z M T : Nat → Int32) (fs : List (Nat × List Nat)) (ou : Int32) (PO : Nat → Int64) (hd : BL) (SL SC SQ SB SM SG SS SW SP SO SH SFm STo : Nat → Int32) (SF : Nat → Int64) (SR SX : Nat → Nat → Int32) : Prop := (rm < 100000 ∧ fr < 100000 ∧ n = bs.length ∧ nP ≤ 960000 ∧ vis ≤ fs.length ∧ sgn ≤ 20001) ∧ BdA ar rm fr bs K P Z M T ∧ ArQ fr bs js fh n SL SC SQ SB ∧ (∀ s b, s < n → bs[js s]? = some b → SC s = 1 → ∃ p s0 w ro va fx o lo hi, StP b (BdJ bs js s) (LvJ out bs js n s) p s0 w ro va fx o (SM s) (SG s) (SS s) (SW s) (SP s) (SO s) (SH s) (SF s) (SR s) (SX s) ∧ SnI fs (if s = 0 ∧ fh = true then vb else 0) vis p o ro fx lo hi PO ∧ SFm s = nI lo ∧ STo s = nI hi ∧ lo ≤ hi ∧ hi ≤ nP) ∧ (BQ rm hd hdi K P Z M T ∧ blOk ar hd ∧ hd.1 = 0 ∧ hd.2.1 = some hp ∧ ∀ x, occB hd x → out x) ∧ MK out ou ∧ ∀ x, out x → BdJ bs js n x
theorem solve_F {WS : (Int32 → (Int32 × (Nat → Int32) × Int32 × Int32 × Int32 × (Nat → Int64) × (Nat → Int32) × (Nat → Int32) × (Nat → Int32) × (Nat → Int32) × (Nat → Int32) × (Nat → Int32) × (Nat → Int32)) → Prop) → Nat → Nat → Nat → Nat → Nat → Nat → Nat → Nat → Nat → Nat → Nat → Nat → Nat → Nat → Nat → Nat → Nat → Nat → Nat → Nat → Nat → Nat → Nat → Nat → Nat → Nat → Nat → Nat → Nat → Nat → Nat → Nat → Nat → Nat → Nat → Nat → Nat → Nat → Int32 → Int32 → Int32 → Int32 → Int32 → Int32 → (Nat → Int32) → Int32 → Int32 → (Nat → Int32) → (Nat → Int64) → (Nat → Int32) → (Nat → Int32) → (Nat → Int32) → (Nat → Int32) → (Nat → Int64) → Int32 → Int32 → Int32 → Int32 → (Nat → Int64) → (Nat → Int32) → (Nat → Int32) → (Nat → Int32) → (Nat → Int32) → (Nat → Int32) → (Nat → Int32) → (Nat → Int32) → (Nat → Int32) → (Nat → Int32) → Int32 → Int32 → (Nat → Int32) → (Nat → Int32) → (Nat → Int32) → (Nat → Int32) → (Nat → Int32) → (Nat → Int32) → (Nat → Int32) → Option Nat → (Nat → Nat) → (Nat → Int32) → (Nat → Int32) → (Nat → Int32) → (Nat → Int32) → (Nat → Int32) → (Nat → Int32) → (Nat → Int32) → (Nat → Int32) → (Nat → Int32) → (Nat → Int32) → (Nat → Int32) → (Nat → Int32) → (Nat → Int64) → (Nat → Int32) → (Nat → Int32) → (Nat → Nat) → (Nat → Nat) → (Nat → Nat → Int32) → (Nat → Nat → Int32) → Prop} (hX : FxF ar rm fr n nP vb vis hdi hp sgn bs js fh out K P Z M T fs ou PO hd SL SC SQ SB SM SG SS SW SP SO SH SFm STo SF SR SX)
    (hWS : ∀ t, t < n → SC t = 1 → ∀ v W E sgE sz hg FK S A FP N FT O NW, PrF ar fs sg0 sgn bs js n out t v W E sgE sz hg FK S A FP N FT O NW → ∀ post, CbF (fun u => (hp, aOf u hd)) ar fs sg0 sgn vb vis n bs js fh out t v W E post → WS post nP n_clauses_first rm rm n_clauses_places rm rm (6 * rm) h0 values_ facts_ indexes_ steps_ clauses_ indexes_shapes_ indexes_fixed_ indexes_firsts_ indexes_lasts_ indexes_froms_ indexes_tos_ indexes_pool_ facts_keys_ facts_stages_ facts_amounts_ facts_predicates_ facts_next_ facts_slots_ facts_oldest_ facts_newest_ facts_known_ facts_knownBefore_ clauses_first_ clauses_kinds_ clauses_predicates_ clauses_places_ clauses_sizes_ clauses_masks_ clauses_terms_ (nI t) (nI n) (nI hdi) (nI sgn) ou 0 W indexes_size_ indexes_used_ F_indexes_shapes F_indexes_fixed F_indexes_firsts F_indexes_lasts F_indexes_froms F_indexes_tos PO sz hg 0 (nI vis) FK S A FP N FT O NW F_facts_known F_facts_knownBefore clauses_size_ clauses_literals_ F_clauses_first K P F_clauses_places Z M T rows_ sa SL SC SQ SB st_live SM SG SS SW SP SO SH SF SFm STo st_a_roles st_a_variables SR SX) : ∀ m t, t + m = n → ∀ v W E sgE sz hg FK S A FP N FT O NW, PrF ar fs sg0 sgn bs js n out t v W E sgE sz hg FK S A FP N FT O NW → ∀ post, CbF (fun u => (hp, aOf u hd)) ar fs sg0 sgn vb vis n bs js fh out t v W E post → lw_met_Jo_solve_F_2 post (nI n) SC SL rm M 0 W sz hg 0 FK S A FP N FT O NW rm rm rm (6 * rm) (nI vis) K P Z T ou (nI hdi) (nI sgn) WS nP n_clauses_first n_clauses_places h0 values_ facts_ indexes_ steps_ clauses_ indexes_shapes_ indexes_fixed_ indexes_firsts_ indexes_lasts_ indexes_froms_ indexes_tos_ indexes_pool_ facts_keys_ facts_stages_ facts_amounts_ facts_predicates_ facts_next_ facts_slots_ facts_oldest_ facts_newest_ facts_known_ facts_knownBefore_ clauses_first_ clauses_kinds_ clauses_predicates_ clauses_places_ clauses_sizes_ clauses_masks_ clauses_terms_ indexes_size_ indexes_used_ F_indexes_shapes F_indexes_fixed F_indexes_firsts F_indexes_lasts F_indexes_froms F_indexes_tos PO F_facts_known F_facts_knownBefore clauses_size_ clauses_literals_ F_clauses_first F_clauses_places rows_ sa SQ SB st_live SM SG SS SW SP SO SH SF SFm STo st_a_roles st_a_variables SR SX (m + 1) (nI t) := by
  obtain ⟨⟨x1, x2, x3, x4, x5, x6⟩, hD, hArr, hSn, ⟨y1, y2, y3, y4, y5⟩, hou, hout⟩ := hX
  have h12 : n ≤ 12 := by rw [x3]; exact hD.1
  have hgc : ∀ v u : Nat → Nat, (∀ x, out x → v x = u x) → ((hp, aOf v hd) : Nat × List Nat) = (hp, aOf u hd) := fun v u h => by rw [aOf_cong (fun x hx => h x (y5 x hx))]
  intro m
  induction m with
  | zero =>
    intro t ht v W E sgE sz hg FK S A FP N FT O NW hpr post hcb
    obtain rfl : t = n := by omega
    obtain ⟨f1, f2, f3, f4⟩ := hpr
    have f20 := f1.1
    refine pk_le t t (fun _ => ?_) (fun w => absurd w (by omega))
    refine pk_le t t (fun _ => ?_) (fun w => absurd w (by omega))
    have hi := y1.1
    refine ⟨nI_ne1 (by omega), vp_in_nI hi (by omega), fun y2' h2 => ?_⟩
    rw [nI_clamp (by omega), y1.2.2.1 (Or.inl y3), y4] at h2
    have h2' : y2' = nI hp := h2
    subst h2'
    have hVV : VV hd v W := fun x hx => f4 x (hout x (y5 x hx)) (Or.inl (y5 x hx))
    refine sp_keyOf x1 y1 y2 (Or.inl y3) hVV ?_
    obtain ⟨ok1, ok2⟩ := aOf_ok y2 (Or.inl y3) y4 hVV
    have hsol : SolQ fs vb vis t bs js fh out t v v := ⟨fun _ _ _ => rfl, fun s s1 s2 => absurd s2 (by omega)⟩
    refine sp_Fa_add (p := hp) (r := aOf v hd) (st := sgn) f1 ok1 ok2 x6 (fun hm => ?_) (fun hm hl => ?_) (fun hm hl hg2 K2 S2 A2 P2 N2 T2 O2 W2 hF2 => ?_)
    · refine ⟨Or.inl rfl, ?_⟩
      exact hcb ou 0 W E sgE _ _ 0 _ _ _ _ _ _ _ _ out hou (fun x hx => Or.inl hx) f1 ⟨[], by simp, fun x hx => (by cases hx)⟩ f3 (fun _ _ => rfl) (Or.inl ⟨rfl, rfl, Cm_end hgc hout hm⟩)
    · refine ⟨Or.inr rfl, ?_⟩
      exact hcb ou 1 W E sgE _ _ 1 _ _ _ _ _ _ _ _ out hou (fun x hx => Or.inl hx) f1 ⟨[], by simp, fun x hx => (by cases hx)⟩ f3 (fun _ _ => rfl) (Or.inr ⟨rfl, rfl, hl, v, hsol, hm⟩)
    · refine ⟨Or.inl rfl, ?_⟩
      refine hcb ou 0 W (E ++ [(hp, aOf v hd)]) _ _ _ 0 _ _ _ _ _ _ _ _ out hou (fun x hx => Or.inl hx) hF2 ⟨[(hp, aOf v hd)], rfl, fun x hx => ⟨v, hsol, List.mem_singleton.mp hx⟩⟩ (fun i hi2 => ?_) (fun _ _ => rfl) (Or.inl ⟨rfl, rfl, Cm_end hgc hout (by simp)⟩)
      obtain ⟨nw, hnw⟩ := f2
      have hlen : fs.length ≤ E.length := by rw [hnw, List.length_append]; omega
      dsimp only
      by_cases w : i = E.length
      · rw [if_pos w, if_neg (by omega)]
      · rw [if_neg w]
        rw [List.length_append, List.length_singleton] at hi2
        exact f3 i (by omega)
  | succ m ih =>
    intro t ht v W E sgE sz hg FK S A FP N FT O NW hpr post hcb
    have htn : t < n := by omega
    have ct : (nI t).toNatClampNeg = t := nI_clamp (by omega)
    have vt : vp_in (nI t) 12 := vp_in_nI (by omega) (by omega)
    obtain ⟨b, b1, b2, b3, b4, b5⟩ := hArr.2.2 t htn
    obtain ⟨d1, d2⟩ := hD.2 (js t) b b1
    have hid := d1.1
    refine pk_le n t (fun w => absurd w (by omega)) (fun _ => ⟨vt, fun y6 h6 => ?_⟩)
    rw [ct] at h6
    subst h6
    rcases b5 with ⟨c1, c2, c3⟩ | ⟨c1, c2, c3⟩
    · refine ⟨fun w => absurd (c1.symm.trans w) (by decide), fun _ => ?_⟩
      refine pk_le n t (fun w => absurd w (by omega)) (fun _ => ?_)
      exact hWS t htn c1 v W E sgE sz hg FK S A FP N FT O NW hpr _ hcb
    · refine ⟨fun _ => ⟨vt, fun y9 h9 => ?_⟩, fun w => absurd c1 w⟩
      rw [ct, b2] at h9
      subst h9
      obtain ⟨f1, ⟨nw0, f2⟩, f3, f4⟩ := hpr
      have hlen : fs.length ≤ E.length := by rw [f2, List.length_append]; omega
      have hVV : VV b v W := fun x hx => f4 x (c2 x hx) (Or.inr ⟨t, b, Nat.le_refl _, htn, b1, hx⟩)
      have hvi : ∀ x, VisN E vis x ↔ VisN fs vis x := by
        rw [f2]
        exact VisN_app x5
      refine sp_holds (vis := vis) x1 d1 d2 hVV f1 (by omega) (fun hh => ?_) (fun hh => ?_)
      · have hH : Hs fs vb vis bs js fh t v := ⟨b, b1, Or.inr ⟨c3, (hB_iff hvi).mp hh⟩⟩
        refine ⟨fun w => absurd w (by decide), fun _ => ?_⟩
        rw [nI_1]
        refine ih (t + 1) (by omega) v W E sgE sz hg FK S A FP N FT O NW ⟨f1, ⟨nw0, f2⟩, f3, fun x hx hnx => f4 x ?_ ((NdJ_s htn b1 x).mpr (Or.inl hnx))⟩ post (fun r st2 W2 E2 sgE2 sz2 hg2 fu2 FK2 S2 A2 FP2 N2 FT2 O2 NW2 R q1 q2 q3 q4 q5 q6 q7 => ?_)
        · rcases (BdJ_s b1 x).mp hx with z | z
          · exact z
          · exact c2 x z
        obtain ⟨nw, n1, n2⟩ := q4
        refine hcb r st2 W2 E2 sgE2 sz2 hg2 fu2 FK2 S2 A2 FP2 N2 FT2 O2 NW2 R q1 (fun x hx => (NdJ_s htn b1 x).mpr (Or.inl (q2 x hx))) q3 ⟨nw, n1, fun x hx => ?_⟩ q5 (fun x hx => q6 x ((BdJ_s b1 x).mpr (Or.inl hx))) ?_
        · obtain ⟨u, u1, u2⟩ := n2 x hx
          obtain ⟨u', w1, w2⟩ := Sol_ok (g := fun u => ((hp, aOf u hd) : Nat × List Nat)) htn b1 hgc hH u1
          exact ⟨u', w1, u2.trans w2.symm⟩
        · rcases q7 with ⟨z1, z2, z3⟩ | ⟨z1, z2, z3, u, u1, u2⟩
          · exact Or.inl ⟨z1, z2, Cm_ok b1 c2 z3⟩
          · obtain ⟨u', w1, w2⟩ := Sol_ok (g := fun u => ((hp, aOf u hd) : Nat × List Nat)) htn b1 hgc hH u1
            refine Or.inr ⟨z1, z2, z3, u', w1, fun w => u2 ?_⟩
            rw [← w2]
            exact w
      · refine ⟨fun _ => ⟨vt, fun y13 h13 => ?_⟩, fun w => absurd rfl w⟩
        rw [ct, b2] at h13
        subst h13
        refine ⟨vp_in_nI hid (by omega), fun y15 h15 => ?_⟩
        rw [nI_clamp (by omega)] at h15
        have hnH : ¬ Hs fs vb vis bs js fh t v := by
          rintro ⟨b', e1, e2⟩
          rw [b1] at e1
          obtain rfl := Option.some.inj e1
          rcases e2 with ⟨z1, z2, -⟩ | ⟨-, z⟩
          · exact c3 ⟨z1, z2⟩
          · exact hh ((hB_iff hvi).mpr z)
        refine hcb y15 0 W E sgE _ _ 0 _ _ _ _ _ _ _ _ (occB b) (by rw [h15]; exact d1.2.2.2.2.1) (fun x hx => Or.inr ⟨t, b, Nat.le_refl _, htn, b1, hx⟩) f1 ⟨[], by simp, fun x hx => (by cases hx)⟩ f3 (fun _ _ => rfl) (Or.inl ⟨rfl, rfl, Cm_no htn b1 c2 hnH⟩)
end SvF
