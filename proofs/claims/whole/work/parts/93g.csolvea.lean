/-! pure: a body is worked through: rows -/
def PrA (bs : List BL) (js : Nat → Nat) (n : Nat) (out : Nat → Prop) (wd t : Nat) (v : Nat → Nat) (W : Nat → Int32) (E : List (List Nat)) (rz : Int32) (RL RR : Nat → Int64) : Prop := RwC wd E rz RL RR ∧ (∀ x, BdJ bs js t x → NdJ out bs js n t x → W x = nI (v x) ∧ v x < 1000)
/-- nv: the rows that came, and the one for which there was no room -/
def NvQ (st : Int32) (nw nv : List (List Nat)) : Prop := (st = 0 ∧ nv = nw) ∨ (st = 1 ∧ ∃ x, nv = nw ++ [x])
def CbA (g : (Nat → Nat) → List Nat) (fs : List (Nat × List Nat)) (vb vis n : Nat) (bs : List BL) (js : Nat → Nat) (fh : Bool) (out : Nat → Prop) (wd t : Nat) (v : Nat → Nat) (W : Nat → Int32) (E : List (List Nat)) (sz hg fu : Int32) (FK : Nat → Int64) (S A FP N FT O NW : Nat → Int32) (post : Int32 → (Int32 × (Nat → Int32) × Int32 × Int32 × Int32 × (Nat → Int64) × (Nat → Int32) × (Nat → Int32) × (Nat → Int32) × (Nat → Int32) × (Nat → Int32) × (Nat → Int32) × (Nat → Int32) × Int32 × Int32 × (Nat → Int64) × (Nat → Int64)) → Prop) : Prop := ∀ (r st2 : Int32) (W2 : Nat → Int32) (E2 : List (List Nat)) (rz2 rf2 : Int32) (RL2 RR2 : Nat → Int64) (R : Nat → Prop), MK R r → (∀ x, R x → NdJ out bs js n t x) → RwC wd E2 rz2 RL2 RR2 → (∃ nw nv, E2 = E ++ nw ∧ NvQ st2 nw nv ∧ nv.Nodup ∧ ∀ x ∈ nv, ∃ u, SolQ fs vb vis n bs js fh out t v u ∧ x = g u) → (∀ x, BdJ bs js t x → W2 x = W x) → ((st2 = 0 ∧ rf2 = 0 ∧ CmQ g fs vb vis n bs js fh t v R E2) ∨ (st2 = 1 ∧ rf2 = 1 ∧ E2.length = 5000)) → post r (st2, W2, sz, hg, fu, FK, S, A, FP, N, FT, O, NW, rz2, rf2, RL2, RR2)
section SvA
variable {ar : Nat → Nat} {rm fr n nP vb vis : Nat} {bs : List BL} {js : Nat → Nat} {fh : Bool} {out : Nat → Prop} {K P Z M T : Nat → Int32} {fs : List (Nat × List Nat)} {sg0 : Nat → Nat} {ou : Int32} {PO : Nat → Int64} {cs : List Nat} {VC : Nat → Int32} {sz hg fu : Int32} {FK : Nat → Int64} {S A FP N FT O NW : Nat → Int32} {SL SC SQ SB SM SG SS SW SP SO SH SFm STo : Nat → Int32} {SF : Nat → Int64} {SR SX : Nat → Nat → Int32} {n_clauses_first n_clauses_places h0 values_ facts_ indexes_ steps_ clauses_ rows_ indexes_shapes_ indexes_fixed_ indexes_firsts_ indexes_lasts_ indexes_froms_ indexes_tos_ indexes_pool_ facts_keys_ facts_stages_ facts_amounts_ facts_predicates_ facts_next_ facts_slots_ facts_oldest_ facts_newest_ facts_known_ facts_knownBefore_ clauses_first_ clauses_kinds_ clauses_predicates_ clauses_places_ clauses_sizes_ clauses_masks_ clauses_terms_ rows_left_ rows_right_ rows_variables_ : Nat} {stage_ indexes_size_ indexes_used_ clauses_size_ clauses_literals_ : Int32} {F_indexes_shapes F_indexes_firsts F_indexes_lasts F_indexes_froms F_indexes_tos F_facts_known F_facts_knownBefore F_clauses_first F_clauses_places st_live : Nat → Int32} {F_indexes_fixed : Nat → Int64} {sa st_a_roles st_a_variables : Nat → Nat}
/-- what stands fast while a body is worked through -/
def FxA (ar : Nat → Nat) (rm fr n nP vb vis : Nat) (bs : List BL) (js : Nat → Nat) (fh : Bool) (out : Nat → Prop) (K P Z M T : Nat → Int32) (fs : List (Nat × List Nat)) (sg0 : Nat → Nat) (ou : Int32) (PO : Nat → Int64) (cs : List Nat) (VC : Nat → Int32) (sz hg : Int32) (FK : Nat → Int64) (S A FP N FT O NW : Nat → Int32) (SL SC SQ SB SM SG SS SW SP SO SH SFm STo : Nat → Int32) (SF : Nat → Int64) (SR SX : Nat → Nat → Int32) : Prop := (rm < 100000 ∧ fr < 100000 ∧ n = bs.length ∧ nP ≤ 960000 ∧ vis ≤ fs.length) ∧ BdA ar rm fr bs K P Z M T ∧ ArQ fr bs js fh n SL SC SQ SB ∧ (∀ s b, s < n → bs[js s]? = some b → SC s = 1 → ∃ p s0 w ro va fx o lo hi, StP b (BdJ bs js s) (LvJ out bs js n s) p s0 w ro va fx o (SM s) (SG s) (SS s) (SW s) (SP s) (SO s) (SH s) (SF s) (SR s) (SX s) ∧ SnI fs (if s = 0 ∧ fh = true then vb else 0) vis p o ro fx lo hi PO ∧ SFm s = nI lo ∧ STo s = nI hi ∧ lo ≤ hi ∧ hi ≤ nP) ∧ (CoV cs VC ∧ ∀ x, out x ↔ x ∈ cs) ∧ MK out ou ∧ (∀ x, out x → BdJ bs js n x) ∧ (∀ t b x, bs[js t]? = some b → occB b x → LvJ out bs js n t x → out x) ∧ FaR ar fs sg0 sz hg FK S A FP N FT O NW
theorem solve_A {WS : (Int32 → (Int32 × (Nat → Int32) × Int32 × Int32 × Int32 × (Nat → Int64) × (Nat → Int32) × (Nat → Int32) × (Nat → Int32) × (Nat → Int32) × (Nat → Int32) × (Nat → Int32) × (Nat → Int32) × Int32 × Int32 × (Nat → Int64) × (Nat → Int64)) → Prop) → Nat → Nat → Nat → Nat → Nat → Nat → Nat → Nat → Nat → Nat → Nat → Nat → Nat → Nat → Nat → Nat → Nat → Nat → Nat → Nat → Nat → Nat → Nat → Nat → Nat → Nat → Nat → Nat → Nat → Nat → Nat → Nat → Nat → Nat → Nat → Nat → Nat → Nat → Nat → Nat → Nat → Nat → Int32 → Int32 → Int32 → Int32 → Int32 → Int32 → (Nat → Int32) → Int32 → Int32 → (Nat → Int32) → (Nat → Int64) → (Nat → Int32) → (Nat → Int32) → (Nat → Int32) → (Nat → Int32) → (Nat → Int64) → Int32 → Int32 → Int32 → Int32 → (Nat → Int64) → (Nat → Int32) → (Nat → Int32) → (Nat → Int32) → (Nat → Int32) → (Nat → Int32) → (Nat → Int32) → (Nat → Int32) → (Nat → Int32) → (Nat → Int32) → Int32 → Int32 → (Nat → Int32) → (Nat → Int32) → (Nat → Int32) → (Nat → Int32) → (Nat → Int32) → (Nat → Int32) → (Nat → Int32) → Int32 → Int32 → Int32 → (Nat → Int64) → (Nat → Int64) → (Nat → Int32) → (Nat → Nat) → (Nat → Int32) → (Nat → Int32) → (Nat → Int32) → (Nat → Int32) → (Nat → Int32) → (Nat → Int32) → (Nat → Int32) → (Nat → Int32) → (Nat → Int32) → (Nat → Int32) → (Nat → Int32) → (Nat → Int32) → (Nat → Int64) → (Nat → Int32) → (Nat → Int32) → (Nat → Nat) → (Nat → Nat) → (Nat → Nat → Int32) → (Nat → Nat → Int32) → Prop} {tm : Nat} (hX : FxA ar rm fr n nP vb vis bs js fh out K P Z M T fs sg0 ou PO cs VC sz hg FK S A FP N FT O NW SL SC SQ SB SM SG SS SW SP SO SH SFm STo SF SR SX)
    (hWS : ∀ t, tm ≤ t → t < n → SC t = 1 → ∀ v W E rz RL RR, PrA bs js n out cs.length t v W E rz RL RR → ∀ post, CbA (fun u => cs.map u) fs vb vis n bs js fh out cs.length t v W E sz hg fu FK S A FP N FT O NW post → WS post nP n_clauses_first rm rm n_clauses_places rm rm (6 * rm) h0 values_ facts_ indexes_ steps_ clauses_ rows_ indexes_shapes_ indexes_fixed_ indexes_firsts_ indexes_lasts_ indexes_froms_ indexes_tos_ indexes_pool_ facts_keys_ facts_stages_ facts_amounts_ facts_predicates_ facts_next_ facts_slots_ facts_oldest_ facts_newest_ facts_known_ facts_knownBefore_ clauses_first_ clauses_kinds_ clauses_predicates_ clauses_places_ clauses_sizes_ clauses_masks_ clauses_terms_ rows_left_ rows_right_ rows_variables_ (nI t) (nI n) (-1) stage_ ou 0 W indexes_size_ indexes_used_ F_indexes_shapes F_indexes_fixed F_indexes_firsts F_indexes_lasts F_indexes_froms F_indexes_tos PO sz hg fu (nI vis) FK S A FP N FT O NW F_facts_known F_facts_knownBefore clauses_size_ clauses_literals_ F_clauses_first K P F_clauses_places Z M T rz (nI cs.length) 0 RL RR VC sa SL SC SQ SB st_live SM SG SS SW SP SO SH SF SFm STo st_a_roles st_a_variables SR SX) : ∀ m t, tm ≤ t → t + m = n → ∀ v W E rz RL RR, PrA bs js n out cs.length t v W E rz RL RR → ∀ post, CbA (fun u => cs.map u) fs vb vis n bs js fh out cs.length t v W E sz hg fu FK S A FP N FT O NW post → lw_met_Jo_solve_A_2 post (nI n) SC SL rm M 0 W sz hg fu FK S A FP N FT O NW rz 0 RL RR rm rm rm (6 * rm) (nI vis) K P Z T ou (-1) stage_ (nI cs.length) VC WS nP n_clauses_first n_clauses_places h0 values_ facts_ indexes_ steps_ clauses_ rows_ indexes_shapes_ indexes_fixed_ indexes_firsts_ indexes_lasts_ indexes_froms_ indexes_tos_ indexes_pool_ facts_keys_ facts_stages_ facts_amounts_ facts_predicates_ facts_next_ facts_slots_ facts_oldest_ facts_newest_ facts_known_ facts_knownBefore_ clauses_first_ clauses_kinds_ clauses_predicates_ clauses_places_ clauses_sizes_ clauses_masks_ clauses_terms_ rows_left_ rows_right_ rows_variables_ indexes_size_ indexes_used_ F_indexes_shapes F_indexes_fixed F_indexes_firsts F_indexes_lasts F_indexes_froms F_indexes_tos PO F_facts_known F_facts_knownBefore clauses_size_ clauses_literals_ F_clauses_first F_clauses_places sa SQ SB st_live SM SG SS SW SP SO SH SF SFm STo st_a_roles st_a_variables SR SX (m + 1) (nI t) := by
  obtain ⟨⟨x1, x2, x3, x4, x5⟩, hD, hArr, hSn, ⟨hCV, hco⟩, hou, hout, hano, hF0⟩ := hX
  have h12 : n ≤ 12 := by rw [x3]; exact hD.1
  have hgc : ∀ v u : Nat → Nat, (∀ x, out x → v x = u x) → cs.map v = cs.map u := fun v u h => List.map_congr_left (fun x hx => h x ((hco x).mpr hx))
  intro m
  induction m with
  | zero =>
    intro t htm ht v W E rz RL RR hpr post hcb
    obtain rfl : t = n := by omega
    obtain ⟨f1, f4⟩ := hpr
    refine pk_le t t (fun _ => ?_) (fun w => absurd w (by omega))
    refine pk_le t t (fun _ => ?_) (fun w => absurd w (by omega))
    have hW9 : ∀ x ∈ cs, W x = nI (v x) ∧ v x < 1000 := fun x hx => f4 x (hout x ((hco x).mpr hx)) (Or.inl ((hco x).mpr hx))
    have hsol : SolQ fs vb vis t bs js fh out t v v := ⟨fun _ _ _ => rfl, fun s s1 s2 => absurd s2 (by omega)⟩
    refine ⟨fun _ => ?_, fun z => absurd rfl z⟩
    refine sp_Ro_add (v := v) hCV hW9 f1 (fun hl => ⟨Or.inr rfl, ?_⟩) (fun hl RL2 RR2 hR2 => ⟨Or.inl rfl, ?_⟩)
    · exact hcb ou 1 W E _ 1 _ _ out hou (fun x hx => Or.inl hx) f1 ⟨[], [cs.map v], by simp, Or.inr ⟨rfl, _, rfl⟩, by simp, fun x hx => ⟨v, hsol, List.mem_singleton.mp hx⟩⟩ (fun _ _ => rfl) (Or.inr ⟨rfl, rfl, hl⟩)
    · exact hcb ou 0 W (E ++ [cs.map v]) _ 0 _ _ out hou (fun x hx => Or.inl hx) hR2 ⟨[cs.map v], [cs.map v], rfl, Or.inl ⟨rfl, rfl⟩, by simp, fun x hx => ⟨v, hsol, List.mem_singleton.mp hx⟩⟩ (fun _ _ => rfl) (Or.inl ⟨rfl, rfl, Cm_end hgc hout (by simp)⟩)
  | succ m ih =>
    intro t htm ht v W E rz RL RR hpr post hcb
    have htn : t < n := by omega
    have ct : (nI t).toNatClampNeg = t := nI_clamp (by omega)
    have vt : vp_in (nI t) 12 := vp_in_nI (by omega) (by omega)
    obtain ⟨b, b1, b2, b3, b4, b5⟩ := hArr.2.2 t htn
    obtain ⟨d1, d2⟩ := hD.2 (js t) b b1
    have hid := d1.1
    refine pk_le n t (fun w => absurd w (by omega)) (fun _ => ⟨vt, fun y6 h6 => ?_⟩)
    rw [ct] at h6
    subst h6
    rcases b5 with ⟨c1, c2, c3⟩ | ⟨c1, c2, c3⟩
    · refine ⟨fun w => absurd (c1.symm.trans w) (by decide), fun _ => ?_⟩
      refine pk_le n t (fun w => absurd w (by omega)) (fun _ => ?_)
      exact hWS t htm htn c1 v W E rz RL RR hpr _ hcb
    · refine ⟨fun _ => ⟨vt, fun y9 h9 => ?_⟩, fun w => absurd c1 w⟩
      rw [ct, b2] at h9
      subst h9
      obtain ⟨f1, f4⟩ := hpr
      have hVV : VV b v W := fun x hx => f4 x (c2 x hx) (Or.inr ⟨t, b, Nat.le_refl _, htn, b1, hx⟩)
      refine sp_holds (vis := vis) x1 d1 d2 hVV hF0 x5 (fun hh => ?_) (fun hh => ?_)
      · have hH : Hs fs vb vis bs js fh t v := ⟨b, b1, Or.inr ⟨c3, hh⟩⟩
        refine ⟨fun w => absurd w (by decide), fun _ => ?_⟩
        rw [nI_1]
        refine ih (t + 1) (by omega) (by omega) v W E rz RL RR ⟨f1, fun x hx hnx => f4 x ?_ ((NdJ_s htn b1 x).mpr (Or.inl hnx))⟩ post (fun r st2 W2 E2 rz2 rf2 RL2 RR2 R q1 q2 q3 q4 q6 q7 => ?_)
        · rcases (BdJ_s b1 x).mp hx with z | z
          · exact z
          · exact c2 x z
        obtain ⟨nw, nv, n1, n0, n5, n2⟩ := q4
        refine hcb r st2 W2 E2 rz2 rf2 RL2 RR2 R q1 (fun x hx => (NdJ_s htn b1 x).mpr (Or.inl (q2 x hx))) q3 ⟨nw, nv, n1, n0, n5, fun x hx => ?_⟩ (fun x hx => q6 x ((BdJ_s b1 x).mpr (Or.inl hx))) ?_
        · obtain ⟨u, u1, u2⟩ := n2 x hx
          obtain ⟨u', w1, w2⟩ := Sol_ok (g := fun u => cs.map u) htn b1 hgc hH u1
          exact ⟨u', w1, u2.trans w2.symm⟩
        · rcases q7 with ⟨z1, z2, z3⟩ | z
          · exact Or.inl ⟨z1, z2, Cm_ok b1 c2 z3⟩
          · exact Or.inr z
      · refine ⟨fun _ => ⟨vt, fun y13 h13 => ?_⟩, fun w => absurd rfl w⟩
        rw [ct, b2] at h13
        subst h13
        refine ⟨vp_in_nI hid (by omega), fun y15 h15 => ?_⟩
        rw [nI_clamp (by omega)] at h15
        have hnH : ¬ Hs fs vb vis bs js fh t v := by
          rintro ⟨b', e1, e2⟩
          rw [b1] at e1
          obtain rfl := Option.some.inj e1
          rcases e2 with ⟨z1, z2, -⟩ | ⟨-, z⟩
          · exact c3 ⟨z1, z2⟩
          · exact hh z
        exact hcb y15 0 W E _ 0 _ _ (occB b) (by rw [h15]; exact d1.2.2.2.2.1) (fun x hx => Or.inr ⟨t, b, Nat.le_refl _, htn, b1, hx⟩) f1 ⟨[], [], by simp, Or.inl ⟨rfl, rfl⟩, List.nodup_nil, fun x hx => (by cases hx)⟩ (fun _ _ => rfl) (Or.inl ⟨rfl, rfl, Cm_no htn b1 c2 hnH⟩)
theorem scan_A {WS : (Int32 → (Int32 × (Nat → Int32) × Int32 × Int32 × Int32 × (Nat → Int64) × (Nat → Int32) × (Nat → Int32) × (Nat → Int32) × (Nat → Int32) × (Nat → Int32) × (Nat → Int32) × (Nat → Int32) × Int32 × Int32 × (Nat → Int64) × (Nat → Int64)) → Prop) → Nat → Nat → Nat → Nat → Nat → Nat → Nat → Nat → Nat → Nat → Nat → Nat → Nat → Nat → Nat → Nat → Nat → Nat → Nat → Nat → Nat → Nat → Nat → Nat → Nat → Nat → Nat → Nat → Nat → Nat → Nat → Nat → Nat → Nat → Nat → Nat → Nat → Nat → Nat → Nat → Nat → Nat → Int32 → Int32 → Int32 → Int32 → Int32 → Int32 → (Nat → Int32) → Int32 → Int32 → (Nat → Int32) → (Nat → Int64) → (Nat → Int32) → (Nat → Int32) → (Nat → Int32) → (Nat → Int32) → (Nat → Int64) → Int32 → Int32 → Int32 → Int32 → (Nat → Int64) → (Nat → Int32) → (Nat → Int32) → (Nat → Int32) → (Nat → Int32) → (Nat → Int32) → (Nat → Int32) → (Nat → Int32) → (Nat → Int32) → (Nat → Int32) → Int32 → Int32 → (Nat → Int32) → (Nat → Int32) → (Nat → Int32) → (Nat → Int32) → (Nat → Int32) → (Nat → Int32) → (Nat → Int32) → Int32 → Int32 → Int32 → (Nat → Int64) → (Nat → Int64) → (Nat → Int32) → (Nat → Nat) → (Nat → Int32) → (Nat → Int32) → (Nat → Int32) → (Nat → Int32) → (Nat → Int32) → (Nat → Int32) → (Nat → Int32) → (Nat → Int32) → (Nat → Int32) → (Nat → Int32) → (Nat → Int32) → (Nat → Int32) → (Nat → Int64) → (Nat → Int32) → (Nat → Int32) → (Nat → Nat) → (Nat → Nat) → (Nat → Nat → Int32) → (Nat → Nat → Int32) → Prop} (hX : FxA ar rm fr n nP vb vis bs js fh out K P Z M T fs sg0 ou PO cs VC sz hg FK S A FP N FT O NW SL SC SQ SB SM SG SS SW SP SO SH SFm STo SF SR SX) {t : Nat} (htn : t < n) (hsc : SC t = 1)
    (hWS : ∀ v W E rz RL RR, PrA bs js n out cs.length (t + 1) v W E rz RL RR → ∀ post, CbA (fun u => cs.map u) fs vb vis n bs js fh out cs.length (t + 1) v W E sz hg fu FK S A FP N FT O NW post → WS post nP n_clauses_first rm rm n_clauses_places rm rm (6 * rm) h0 values_ facts_ indexes_ steps_ clauses_ rows_ indexes_shapes_ indexes_fixed_ indexes_firsts_ indexes_lasts_ indexes_froms_ indexes_tos_ indexes_pool_ facts_keys_ facts_stages_ facts_amounts_ facts_predicates_ facts_next_ facts_slots_ facts_oldest_ facts_newest_ facts_known_ facts_knownBefore_ clauses_first_ clauses_kinds_ clauses_predicates_ clauses_places_ clauses_sizes_ clauses_masks_ clauses_terms_ rows_left_ rows_right_ rows_variables_ (nI (t + 1)) (nI n) (-1) stage_ ou 0 W indexes_size_ indexes_used_ F_indexes_shapes F_indexes_fixed F_indexes_firsts F_indexes_lasts F_indexes_froms F_indexes_tos PO sz hg fu (nI vis) FK S A FP N FT O NW F_facts_known F_facts_knownBefore clauses_size_ clauses_literals_ F_clauses_first K P F_clauses_places Z M T rz (nI cs.length) 0 RL RR VC sa SL SC SQ SB st_live SM SG SS SW SP SO SH SF SFm STo st_a_roles st_a_variables SR SX) : ∀ v W E rz RL RR, PrA bs js n out cs.length t v W E rz RL RR → ∀ post, CbA (fun u => cs.map u) fs vb vis n bs js fh out cs.length t v W E sz hg fu FK S A FP N FT O NW post → wp_met_Jo_scan_A post WS nP n_clauses_first rm rm n_clauses_places rm rm (6 * rm) h0 values_ facts_ indexes_ steps_ clauses_ rows_ indexes_shapes_ indexes_fixed_ indexes_firsts_ indexes_lasts_ indexes_froms_ indexes_tos_ indexes_pool_ facts_keys_ facts_stages_ facts_amounts_ facts_predicates_ facts_next_ facts_slots_ facts_oldest_ facts_newest_ facts_known_ facts_knownBefore_ clauses_first_ clauses_kinds_ clauses_predicates_ clauses_places_ clauses_sizes_ clauses_masks_ clauses_terms_ rows_left_ rows_right_ rows_variables_ (nI t) (nI n) (-1) stage_ ou 0 W indexes_size_ indexes_used_ F_indexes_shapes F_indexes_fixed F_indexes_firsts F_indexes_lasts F_indexes_froms F_indexes_tos PO sz hg fu (nI vis) FK S A FP N FT O NW F_facts_known F_facts_knownBefore clauses_size_ clauses_literals_ F_clauses_first K P F_clauses_places Z M T rz (nI cs.length) 0 RL RR VC sa SL SC SQ SB st_live SM SG SS SW SP SO SH SF SFm STo st_a_roles st_a_variables SR SX := by
  obtain ⟨⟨x1, x2, x3, x4, x5⟩, hD, hArr, hSn, ⟨hCV, hco⟩, hou, hout, hano, hF0⟩ := hX
  have h12 : n ≤ 12 := by rw [x3]; exact hD.1
  have hgc : ∀ v u : Nat → Nat, (∀ x, out x → v x = u x) → cs.map v = cs.map u := fun v u h => List.map_congr_left (fun x hx => h x ((hco x).mpr hx))
  intro v W E rz RL RR hpr post hcb
  have ct : (nI t).toNatClampNeg = t := nI_clamp (by omega)
  have vt : vp_in (nI t) 12 := vp_in_nI (by omega) (by omega)
  have t12 : t < 12 := by omega
  obtain ⟨b, b1, b2, b3, b4, b5⟩ := hArr.2.2 t htn
  obtain ⟨d1, d2⟩ := hD.2 (js t) b b1
  have hA : b.1 = 0 := by
    rcases b5 with ⟨-, c2, -⟩ | ⟨c1, -, -⟩
    · exact c2
    · rw [hsc] at c1
      exact absurd c1 (by decide)
  obtain ⟨p, s0, w, ro, va, fx, o, lo, hi, ⟨t1, hSh, t3, t4, t5, t6, t7, t8, t9, t10, t11, t12', t13, t14, t15⟩, hI, l1, l2, l3, l4⟩ := hSn t b htn b1 hsc
  have hsw := hSh.1.1
  have hw6 := hSh.1.2
  have f4 := hpr.2
  have hndb : ∀ x, occB b x → NdJ out bs js n t x := fun x hx => Or.inr ⟨t, b, Nat.le_refl _, htn, b1, hx⟩
  have hvs : ∀ q, q < s0 → W (va q) = nI (v (va q)) ∧ v (va q) < 1000 := fun q hq => f4 (va q) ((va_B hSh (by omega)).1 hq) (hndb _ (va_occ hSh (by omega)))
  have hva12 : ∀ q, q < w → va q < 12 := fun q hq => d2.2.2.1 _ (va_occ hSh hq)
  have hm : ∀ v0, VisR fs (if t = 0 ∧ fh = true then vb else 0) vis (p, aOf v0 b) ↔ Hs fs vb vis bs js fh t v0 := by
    intro v0
    by_cases z : t = 0 ∧ fh = true
    · rw [if_pos z]
      constructor
      · exact fun q => ⟨b, b1, Or.inl ⟨z.1, z.2, p, t1, q⟩⟩
      · rintro ⟨b', e1, e2⟩
        rw [b1] at e1
        obtain rfl := Option.some.inj e1
        rcases e2 with ⟨-, -, p', r1, r2⟩ | ⟨r, -⟩
        · rw [t1] at r1
          obtain rfl := Option.some.inj r1
          exact r2
        · exact absurd z r
    · rw [if_neg z]
      constructor
      · rintro ⟨f, g1, g2, g3⟩
        exact ⟨b, b1, Or.inr ⟨z, Or.inl ⟨hA, p, t1, f, g2, g3⟩⟩⟩
      · rintro ⟨b', e1, e2⟩
        rw [b1] at e1
        obtain rfl := Option.some.inj e1
        rcases e2 with ⟨r1, r2, -⟩ | ⟨-, r⟩
        · exact absurd ⟨r1, r2⟩ z
        · rcases r with ⟨-, p', r1, f, r2, r3⟩ | ⟨r, -⟩ | ⟨r, -⟩
          · rw [t1] at r1
            obtain rfl := Option.some.inj r1
            exact ⟨f, Nat.zero_le _, r2, r3⟩
          · rw [hA] at r
            exact absurd r (by decide)
          · exact absurd hA r
  have hGq : ∀ q, s0 ≤ q → q < w → (occB b (va q) ∧ LvJ out bs js n t (va q)) ∧ ¬ BdJ bs js t (va q) := fun q q1 q2 => by
    obtain ⟨z1, z2⟩ := (va_B hSh q2).2 q1
    exact ⟨⟨va_occ hSh q2, z2⟩, z1⟩
  have hso : ∀ j, j < 6 → prt s0 va v j < 1024 := prt_lt (fun q hq => (hvs q hq).2)
  have hks := kN_lt hso
  -- prefixes
  have hpre : ∀ v0 : Nat → Nat, (∀ q, q < w → v0 (va q) < 1000) → (kN (prt w va v0) / 2 ^ (60 - 10 * s0) = kN (prt s0 va v) / 2 ^ (60 - 10 * s0) ↔ ∀ x, occB b x → BdJ bs js t x → v0 x = v x) := by
    intro v0 hb0
    rw [kN_pre (prt_lt hb0) hso (by omega)]
    constructor
    · intro h x hx hbx
      obtain ⟨q, q1, q2⟩ := (va_of hSh hx).1 hbx
      have := h q q1
      unfold prt at this
      rw [if_pos (by omega), if_pos q1, q2] at this
      exact this
    · intro h q hq
      unfold prt
      rw [if_pos (by omega), if_pos hq]
      exact h _ (va_occ hSh (by omega)) ((va_B hSh (by omega)).1 hq)
  refine ⟨vt, ?_⟩
  rw [ct]
  refine sp_soughtKey (s := s0) (va := va) (v := v) t12 (by omega) t8 (fun q hq => ⟨t15 q (by omega), hva12 q (by omega)⟩) hvs ?_
  intro y4 h4 y5' h5 y6 h6 y7 h7 y8 h8
  rw [t8] at h4
  rw [h4, show (10 : Int32) = nI 10 from rfl, pk_mul] at h5
  rw [h5, show (60 : Int32) = nI 60 from rfl, pk_sub (by omega)] at h6
  rw [t8] at h8
  subst h6 h7 h8
  -- the loop, from a place before which nothing fits
  have lp : ∀ start, lo ≤ start → start ≤ hi → (∀ k u, lo ≤ k → k < start → PO k = lN (kN (prt w va u)) → (∀ q, q < w → u (va q) < 1000) → ¬ kN (prt w va u) / 2 ^ (60 - 10 * s0) = kN (prt s0 va v) / 2 ^ (60 - 10 * s0)) → (0 < s0 → ∀ k, start ≤ k → k < hi → lN (kN (prt s0 va v)) ≤ PO k) → jw_met_Jo_scan_A_64 post (SM t) 0 W sz hg fu FK S A FP N FT O NW rz 0 RL RR STo (nI t) (nI (60 - 10 * s0)) (lN (kN (prt s0 va v))) WS SG nP n_clauses_first rm rm n_clauses_places rm rm (6 * rm) h0 values_ facts_ indexes_ steps_ clauses_ rows_ indexes_shapes_ indexes_fixed_ indexes_firsts_ indexes_lasts_ indexes_froms_ indexes_tos_ indexes_pool_ facts_keys_ facts_stages_ facts_amounts_ facts_predicates_ facts_next_ facts_slots_ facts_oldest_ facts_newest_ facts_known_ facts_knownBefore_ clauses_first_ clauses_kinds_ clauses_predicates_ clauses_places_ clauses_sizes_ clauses_masks_ clauses_terms_ rows_left_ rows_right_ rows_variables_ (nI n) (-1) stage_ ou indexes_size_ indexes_used_ F_indexes_shapes F_indexes_fixed F_indexes_firsts F_indexes_lasts F_indexes_froms F_indexes_tos PO (nI vis) F_facts_known F_facts_knownBefore clauses_size_ clauses_literals_ F_clauses_first K P F_clauses_places Z M T (nI cs.length) VC sa SL SC SQ SB st_live SM SS SW SP SO SH SF SFm st_a_roles st_a_variables SR SX (nI start) := by
    intro start hst1 hst2 hbefore hge
    have hsorted : 0 < s0 → ∀ k k2, lo ≤ k → k < k2 → k2 < hi → PO k < PO k2 := fun z => by
      obtain ⟨a, e, g1, g2, g3, g4, g5, g6, g7⟩ := hI
      exact g6 (t4.mpr (Or.inl z))
    -- done with entries before k: nothing more fits
    have fin : ∀ k (h : Int32) (H : Nat → Prop) (W1 : Nat → Int32) (E1 : List (List Nat)) (rz1 : Int32) (RL1 RR1 : Nat → Int64), (∀ k2 u, k ≤ k2 → k2 < hi → PO k2 = lN (kN (prt w va u)) → (∀ q, q < w → u (va q) < 1000) → ¬ kN (prt w va u) / 2 ^ (60 - 10 * s0) = kN (prt s0 va v) / 2 ^ (60 - 10 * s0)) → MK H h → (∀ x, occB b x → BdJ bs js t x → H x) → (∀ x, H x → NdJ out bs js n t x) → PrA bs js n out cs.length t v W1 E1 rz1 RL1 RR1 → (∀ x, BdJ bs js t x → W1 x = W x) → (∃ nw, E1 = E ++ nw ∧ nw.Nodup ∧ ∀ x ∈ nw, (∃ u, SolQ fs vb vis n bs js fh out t v u ∧ x = cs.map u) ∧ ∃ k2 v2 u2, start ≤ k2 ∧ k2 < k ∧ PO k2 = lN (kN (prt w va v2)) ∧ (∀ q, q < w → v2 (va q) < 1000) ∧ (∀ y, occB b y → BdJ bs js t y → v2 y = v y) ∧ (∀ y, (occB b y ∧ LvJ out bs js n t y) ∧ ¬ BdJ bs js t y → u2 y = v2 y) ∧ x = cs.map u2) → (∀ k2 u, start ≤ k2 → k2 < k → PO k2 = lN (kN (prt w va u)) → (∀ q, q < w → u (va q) < 1000) → ∃ ve R, (∀ x, BdJ bs js t x → ve x = v x) ∧ (∀ x, (occB b x ∧ LvJ out bs js n t x) ∧ ¬ BdJ bs js t x → ve x = u x) ∧ (∀ x, R x → NdJ out bs js n (t + 1) x) ∧ (∀ x, R x → ¬ ((occB b x ∧ LvJ out bs js n t x) ∧ ¬ BdJ bs js t x) → H x) ∧ CmQ (fun u => cs.map u) fs vb vis n bs js fh (t + 1) ve R E1) → post h (0, W1, sz, hg, fu, FK, S, A, FP, N, FT, O, NW, rz1, 0, RL1, RR1) := by
      intro k h H W1 E1 rz1 RL1 RR1 g0 g1 g2 g3 g4 g5 g6 g7
      obtain ⟨nw, n1, n2, n3⟩ := g6
      refine hcb h 0 W1 E1 rz1 0 RL1 RR1 H g1 g3 g4.1 ⟨nw, nw, n1, Or.inl ⟨rfl, rfl⟩, n2, fun x hx => (n3 x hx).1⟩ g5 (Or.inl ⟨rfl, rfl, Cm_scan (out := out) htn b1 g2 (fun u hu hv => ?_)⟩)
      have hvr := (hm u).mpr hu
      obtain ⟨k2, k21, k22, k23⟩ := En_2 hF0 d2 hSh hI hvr
      have hub : ∀ q, q < w → u (va q) < 1000 := by
        intro q hq
        obtain ⟨f, -, -, r3⟩ := hvr
        refine (hF0.2.2.2.2.2.1 _ (List.mem_of_getElem? r3)).1.2.2 (u (va q)) ?_
        exact List.mem_map.mpr ⟨Sum.inl (va q), va_occ hSh hq, rfl⟩
      have hpe := (hpre u hub).mpr hv
      rcases Nat.lt_or_ge k2 start with z | z
      · exact absurd hpe (hbefore k2 u k21 z k23 hub)
      · rcases Nat.lt_or_ge k2 k with z2 | z2
        · exact g7 k2 u z z2 k23 hub
        · exact absurd hpe (g0 k2 u z2 k22 k23 hub)
    have go : ∀ m k, start ≤ k → k ≤ hi → hi ≤ k + m → ∀ (h : Int32) (H : Nat → Prop) (W1 : Nat → Int32) (E1 : List (List Nat)) (rz1 : Int32) (RL1 RR1 : Nat → Int64), MK H h → (∀ x, occB b x → BdJ bs js t x → H x) → (∀ x, H x → NdJ out bs js n t x) → PrA bs js n out cs.length t v W1 E1 rz1 RL1 RR1 → (∀ x, BdJ bs js t x → W1 x = W x) → (∃ nw, E1 = E ++ nw ∧ nw.Nodup ∧ ∀ x ∈ nw, (∃ u, SolQ fs vb vis n bs js fh out t v u ∧ x = cs.map u) ∧ ∃ k2 v2 u2, start ≤ k2 ∧ k2 < k ∧ PO k2 = lN (kN (prt w va v2)) ∧ (∀ q, q < w → v2 (va q) < 1000) ∧ (∀ y, occB b y → BdJ bs js t y → v2 y = v y) ∧ (∀ y, (occB b y ∧ LvJ out bs js n t y) ∧ ¬ BdJ bs js t y → u2 y = v2 y) ∧ x = cs.map u2) → (∀ k2 u, start ≤ k2 → k2 < k → PO k2 = lN (kN (prt w va u)) → (∀ q, q < w → u (va q) < 1000) → ∃ ve R, (∀ x, BdJ bs js t x → ve x = v x) ∧ (∀ x, (occB b x ∧ LvJ out bs js n t x) ∧ ¬ BdJ bs js t x → ve x = u x) ∧ (∀ x, R x → NdJ out bs js n (t + 1) x) ∧ (∀ x, R x → ¬ ((occB b x ∧ LvJ out bs js n t x) ∧ ¬ BdJ bs js t x) → H x) ∧ CmQ (fun u => cs.map u) fs vb vis n bs js fh (t + 1) ve R E1) → lw_met_Jo_scan_A_66 post STo (nI t) (nI (60 - 10 * s0)) (lN (kN (prt s0 va v))) WS SG nP n_clauses_first rm rm n_clauses_places rm rm (6 * rm) h0 values_ facts_ indexes_ steps_ clauses_ rows_ indexes_shapes_ indexes_fixed_ indexes_firsts_ indexes_lasts_ indexes_froms_ indexes_tos_ indexes_pool_ facts_keys_ facts_stages_ facts_amounts_ facts_predicates_ facts_next_ facts_slots_ facts_oldest_ facts_newest_ facts_known_ facts_knownBefore_ clauses_first_ clauses_kinds_ clauses_predicates_ clauses_places_ clauses_sizes_ clauses_masks_ clauses_terms_ rows_left_ rows_right_ rows_variables_ (nI n) (-1) stage_ ou indexes_size_ indexes_used_ F_indexes_shapes F_indexes_fixed F_indexes_firsts F_indexes_lasts F_indexes_froms F_indexes_tos PO (nI vis) F_facts_known F_facts_knownBefore clauses_size_ clauses_literals_ F_clauses_first K P F_clauses_places Z M T (nI cs.length) VC sa SL SC SQ SB st_live SM SS SW SP SO SH SF SFm st_a_roles st_a_variables SR SX (m + 1) (nI k, h, 0, W1, sz, hg, fu, FK, S, A, FP, N, FT, O, NW, rz1, 0, RL1, RR1) := by
      intro m
      induction m with
      | zero =>
        intro k hk1 hk2 hk3 h H W1 E1 rz1 RL1 RR1 g1 g2 g3 g4 g5 g6 g7 y31 h31
        rw [ct, l2] at h31
        subst h31
        exact pk_le hi k (fun _ => fin k h H W1 E1 rz1 RL1 RR1 (fun k2 u z1 z2 => absurd z2 (by omega)) g1 g2 g3 g4 g5 g6 g7) (fun z => absurd z (by omega))
      | succ m ih =>
        intro k hk1 hk2 hk3 h H W1 E1 rz1 RL1 RR1 g1 g2 g3 g4 g5 g6 g7 y31 h31
        rw [ct, l2] at h31
        subst h31
        refine pk_le hi k (fun _ => fin k h H W1 E1 rz1 RL1 RR1 (fun k2 u z1 z2 => absurd z2 (by omega)) g1 g2 g3 g4 g5 g6 g7) (fun hkh => ?_)
        obtain ⟨v0, e1, e2, e3⟩ := En_1 hF0 d2 hA t1 hSh hI (show lo ≤ k by omega) hkh
        have hb0 : ∀ q, q < w → v0 (va q) < 1000 := fun q hq => e3 _ (va_occ hSh hq)
        have hk0 := kN_lt (prt_lt hb0)
        have hdv : kN (prt w va v0) / 2 ^ (60 - 10 * s0) ≤ kN (prt w va v0) := Nat.div_le_self _ _
        have hds : kN (prt s0 va v) / 2 ^ (60 - 10 * s0) ≤ kN (prt s0 va v) := Nat.div_le_self _ _
        refine ⟨vp_in_nI (by omega) (by omega), fun r32 h32 y33 h33 y34 h34 => ?_⟩
        rw [nI_clamp (by omega), e2] at h32
        rw [h32, lN_shr (by omega) (by omega)] at h33
        rw [lN_shr (by omega) (by omega)] at h34
        subst h33 h34
        refine ⟨fun hpe => ?_, fun hpe => ?_⟩
        · have hpe2 := (pk_lEQ (by omega) (by omega)).mp hpe
          have hv0 := (hpre v0 hb0).mp hpe2
          refine ⟨vp_in_nI (by omega) (by omega), fun r35 h35 => ?_⟩
          rw [nI_clamp (by omega), e2] at h35
          subst h35
          rw [ct]
          refine sp_give (s := s0) (w := w) (va := va) t12 hw6 hsw t8 t9 (fun q hq => ⟨t15 q hq, hva12 q hq⟩) (fun a c ha hc e => va_inj hSh ha hc e) (by omega) (fun W2 m1 m2 => ?_)
          intro y38 h38
          rw [nI_1] at h38
          subst h38
          have ch : ∀ x, ∃ y, (((occB b x ∧ LvJ out bs js n t x) ∧ ¬ BdJ bs js t x) → y = v0 x) ∧ (¬ ((occB b x ∧ LvJ out bs js n t x) ∧ ¬ BdJ bs js t x) → y = v x) := by
            intro x
            by_cases z : (occB b x ∧ LvJ out bs js n t x) ∧ ¬ BdJ bs js t x
            · exact ⟨v0 x, fun _ => rfl, fun q => absurd z q⟩
            · exact ⟨v x, fun q => absurd q z, fun _ => rfl⟩
          obtain ⟨ve, hve⟩ := Classical.axiomOfChoice ch
          have hveB : ∀ x, BdJ bs js t x → ve x = v x := fun x hx => (hve x).2 (fun z => z.2 hx)
          have hW2b : ∀ x, BdJ bs js t x → W2 x = W1 x := fun x hx => m2 x (fun q q1 q2 e => (hGq q q1 q2).2 (by rw [e]; exact hx))
          have hve0 : ∀ x, occB b x → NdJ out bs js n (t + 1) x → ve x = v0 x := by
            intro x hx hnx
            by_cases z : BdJ bs js t x
            · rw [hveB x z]
              exact (hv0 x hx z).symm
            · exact (hve x).1 ⟨⟨hx, (NdJ_L x).mp hnx⟩, z⟩
          have h0 : Hs fs vb vis bs js fh t v0 := (hm v0).mp e1
          have lift : ∀ u, SolQ fs vb vis n bs js fh out (t + 1) ve u → ∃ u2, SolQ fs vb vis n bs js fh out t v u2 ∧ cs.map u2 = cs.map u := fun u hu => SolQ_up (g := fun u => cs.map u) htn b1 hgc h0 (fun x hx hbx => hv0 x hx hbx) hve0 (fun x hx _ => hveB x hx) hu
          refine hWS ve W2 E1 rz1 RL1 RR1 ⟨g4.1, fun x hx hnx => ?_⟩ _ (fun r st2 W3 E2 rz2 rf2 RL2 RR2 R q1 q2 q3 q4 q6 q7 => ?_)
          · by_cases z : BdJ bs js t x
            · rw [hW2b x z, hveB x z]
              exact g4.2 x z ((NdJ_s htn b1 x).mpr (Or.inl hnx))
            · rcases (BdJ_s b1 x).mp hx with z2 | z2
              · exact absurd z2 z
              · obtain ⟨q, qa, qb, qc⟩ := (va_of hSh z2).2 z ((NdJ_L x).mp hnx)
                have e5 := m1 q qa qb
                rw [col_kN (prt_lt hb0) (by omega)] at e5
                unfold prt at e5
                rw [if_pos qb, qc] at e5
                rw [e5, hve0 x z2 hnx]
                exact ⟨rfl, e3 x z2⟩
          obtain ⟨nw, nv, n1, n0, n5, n2⟩ := q4
          obtain ⟨nwa, n3, n6, n4⟩ := g6
          have lft : ∀ x ∈ nv, (∃ u, SolQ fs vb vis n bs js fh out t v u ∧ x = cs.map u) ∧ ∃ k2 v2 u2, start ≤ k2 ∧ k2 < k + 1 ∧ PO k2 = lN (kN (prt w va v2)) ∧ (∀ q, q < w → v2 (va q) < 1000) ∧ (∀ y, occB b y → BdJ bs js t y → v2 y = v y) ∧ (∀ y, (occB b y ∧ LvJ out bs js n t y) ∧ ¬ BdJ bs js t y → u2 y = v2 y) ∧ x = cs.map u2 := by
            intro x hx
            obtain ⟨u, u1, u2⟩ := n2 x hx
            obtain ⟨u', w1, w2⟩ := lift u u1
            refine ⟨⟨u', w1, u2.trans w2.symm⟩, k, v0, u, hk1, by omega, e2, hb0, hv0, fun y hy => ?_, u2⟩
            have hny : NdJ out bs js n (t + 1) y := (NdJ_L y).mpr hy.1.2
            rw [u1.1 y ((BdJ_s b1 y).mpr (Or.inr hy.1.1)) hny]
            exact (hve y).1 hy
          have dis : ∀ x ∈ nwa, ∀ y ∈ nv, ¬ x = y := by
            intro x hx y hy exy
            obtain ⟨-, k2, v2, u2, a1, a2, a3, a4, a5, a6, a7⟩ := n4 x hx
            obtain ⟨u, u1, u3⟩ := n2 y hy
            rw [a7, u3] at exy
            have hout9 : ∀ z, out z → u2 z = u z := by
              intro z hz
              have hm9 := (hco z).mp hz
              obtain ⟨i, hi9, ei⟩ := List.getElem_of_mem hm9
              have e9 := congrArg (fun l : List Nat => l[i]?) exy
              dsimp only at e9
              rw [List.getElem?_map, List.getElem?_map, List.getElem?_eq_getElem hi9, ei] at e9
              exact Option.some.inj e9
            have hk2 := kN_lt (prt_lt a4)
            have hks2 : kN (prt w va v2) = kN (prt w va v0) := kN_cong (fun q hq => by
              unfold prt
              by_cases z : q < w
              · rw [if_pos z, if_pos z]
                rcases Nat.lt_or_ge q s0 with z2 | z2
                · have hB9 := (va_B hSh z).1 z2
                  rw [a5 _ (va_occ hSh z) hB9, hv0 _ (va_occ hSh z) hB9]
                · have hG9 := hGq q z2 z
                  have hny : NdJ out bs js n (t + 1) (va q) := (NdJ_L _).mpr hG9.1.2
                  rw [← a6 _ hG9, hout9 _ (hano t b _ b1 hG9.1.1 hG9.1.2), u1.1 _ ((BdJ_s b1 _).mpr (Or.inr hG9.1.1)) hny]
                  exact (hve _).1 hG9
              · rw [if_neg z, if_neg z])
            refine En_3 hF0 d2 hA t1 hSh t3 t4 hI (show lo ≤ k2 by omega) a2 hkh ?_
            rw [a3, e2, hks2]
          have hnd : (nwa ++ nv).Nodup := by
            rw [List.nodup_append]
            exact ⟨n6, n5, fun x hx y hy => dis x hx y hy⟩
          have hsub : ∀ x ∈ E1, x ∈ E2 := fun x hx => by
            rw [n1]
            exact List.mem_append_left _ hx
          have hW3 : ∀ x, BdJ bs js t x → W3 x = W1 x := fun x hx => (q6 x ((BdJ_s b1 x).mpr (Or.inl hx))).trans (hW2b x hx)
          have hR1 : ∀ x, R x → NdJ out bs js n t x := fun x hx => (NdJ_s htn b1 x).mpr (Or.inl (q2 x hx))
          rcases q7 with ⟨z1, z2, z3⟩ | ⟨z1, z2, z3⟩
          · subst z1 z2
            have env : nv = nw := by
              rcases n0 with ⟨-, z⟩ | ⟨z, -⟩
              · exact z
              · exact absurd z (by decide)
            rw [env] at hnd lft
            refine ⟨fun _ y53 h53 y54 h54 => ?_, fun z => absurd rfl z⟩
            subst h53
            have hRG := MK_z (MK_and q1 t7)
            rw [← h54] at hRG
            refine ⟨fun z => ?_, fun z => ?_⟩
            · refine hcb r 0 W3 E2 rz2 0 RL2 RR2 R q1 hR1 q3 ⟨nwa ++ nw, nwa ++ nw, by rw [n1, n3, List.append_assoc], Or.inl ⟨rfl, rfl⟩, hnd, fun x hx => ?_⟩ (fun x hx => (hW3 x hx).trans (g5 x hx)) (Or.inl ⟨rfl, rfl, Cm_back b1 q2 (fun x hx hg9 => ?_) hveB z3⟩)
              · rcases List.mem_append.mp hx with z9 | z9
                · exact (n4 x z9).1
                · exact (lft x z9).1
              exact hRG.mp z x (by have := d2.2.2.1 x hg9.1.1; omega) ⟨hx, hg9⟩
            · intro y55 h55 y56 h56 y57 h57 y58 h58
              subst h55 h56 h57 h58
              rw [nI_1]
              refine ih (k + 1) (by omega) (by omega) (by omega) _ (fun x => H x ∨ (R x ∧ ¬ ((occB b x ∧ LvJ out bs js n t x) ∧ ¬ BdJ bs js t x))) W3 E2 rz2 RL2 RR2 (MK_orm g1 (MK_andn q1 t7)) (fun x hx hbx => Or.inl (g2 x hx hbx)) (fun x hx => ?_) ⟨q3, fun x hx hnx => ?_⟩ (fun x hx => (hW3 x hx).trans (g5 x hx)) ⟨nwa ++ nw, by rw [n1, n3, List.append_assoc], hnd, fun x hx => ?_⟩ (fun k2 u ka kb kc kd => ?_)
              · rcases hx with hx | hx
                · exact g3 x hx
                · exact hR1 x hx.1
              · rw [hW3 x hx]
                exact g4.2 x hx hnx
              · rcases List.mem_append.mp hx with z9 | z9
                · obtain ⟨a0, k2, v2, u2, a1, a2, a3⟩ := n4 x z9
                  exact ⟨a0, k2, v2, u2, a1, by omega, a3⟩
                · exact lft x z9
              · rcases Nat.lt_or_ge k2 k with z9 | z9
                · obtain ⟨ve', R', r1, r2, r3, r4, r5⟩ := g7 k2 u ka z9 kc kd
                  exact ⟨ve', R', r1, r2, r3, fun x hx hx2 => Or.inl (r4 x hx hx2), Cm_sub r5 hsub⟩
                · obtain rfl : k2 = k := by omega
                  refine ⟨ve, R, hveB, fun x hx => ?_, q2, fun x hx hx2 => Or.inr ⟨hx, hx2⟩, z3⟩
                  rw [(hve x).1 hx]
                  rw [e2] at kc
                  have hku := kN_lt (prt_lt kd)
                  have ek := (pk_lEQ (by omega) (by omega)).mp kc
                  obtain ⟨q, qa, qb, qc⟩ := (va_of hSh hx.1.1).2 hx.2 hx.1.2
                  have e9 := kN_inj (prt_lt hb0) (prt_lt kd) ek (j := q) (by omega)
                  unfold prt at e9
                  rw [if_pos qb, if_pos qb, qc] at e9
                  exact e9
          · subst z1 z2
            refine ⟨fun z => absurd z (by decide), fun _ => ?_⟩
            obtain ⟨x0, hx0⟩ : ∃ x0, nv = nw ++ [x0] := by
              rcases n0 with ⟨z, -⟩ | ⟨-, z⟩
              · exact absurd z (by decide)
              · exact z
            refine hcb r 1 W3 E2 rz2 1 RL2 RR2 R q1 hR1 q3 ⟨nwa ++ nw, nwa ++ nv, by rw [n1, n3, List.append_assoc], Or.inr ⟨rfl, x0, by rw [hx0, List.append_assoc]⟩, hnd, fun x hx => ?_⟩ (fun x hx => (hW3 x hx).trans (g5 x hx)) (Or.inr ⟨rfl, rfl, z3⟩)
            rcases List.mem_append.mp hx with z9 | z9
            · exact (n4 x z9).1
            · exact (lft x z9).1
        · have hs0 : 0 < s0 := by
            rcases Nat.eq_zero_or_pos s0 with z | z
            · exfalso
              have hq9 := (kN_pre (s := s0) (prt_lt hb0) hso (by omega)).mpr (fun q hq => absurd hq (by omega))
              exact hpe (by rw [hq9])
            · exact z
          have hge2 := hge hs0 k hk1 hkh
          rw [e2] at hge2
          have hge3 := (pk_lLE (by omega) (by omega)).mp hge2
          have hlt : kN (prt s0 va v) / 2 ^ (60 - 10 * s0) < kN (prt w va v0) / 2 ^ (60 - 10 * s0) := by
            have h1 := Nat.div_le_div_right (c := 2 ^ (60 - 10 * s0)) hge3
            have h2 : ¬ kN (prt w va v0) / 2 ^ (60 - 10 * s0) = kN (prt s0 va v) / 2 ^ (60 - 10 * s0) := fun z => hpe (by rw [z])
            omega
          refine fin k h H W1 E1 rz1 RL1 RR1 (fun k2 u z1 z2 z3 z4 => ?_) g1 g2 g3 g4 g5 g6 g7
          have hku := kN_lt (prt_lt z4)
          have hle : kN (prt w va v0) ≤ kN (prt w va u) := by
            rcases Nat.lt_or_ge k k2 with z5 | z5
            · have := hsorted hs0 k k2 (by omega) z5 z2
              rw [e2, z3] at this
              have := (pk_lLT (by omega) (by omega)).mp this
              omega
            · obtain rfl : k2 = k := by omega
              rw [e2] at z3
              have := (pk_lEQ (by omega) (by omega)).mp z3
              omega
          have h1 := Nat.div_le_div_right (c := 2 ^ (60 - 10 * s0)) hle
          omega
    refine ⟨_, go (hi - start) start (Nat.le_refl _) hst2 (by omega) (SM t) (fun x => occB b x ∧ BdJ bs js t x) W E rz RL RR t6 (fun x hx hbx => ⟨hx, hbx⟩) (fun x hx => hndb x hx.1) hpr (fun _ _ => rfl) ⟨[], by simp, List.nodup_nil, fun x hx => (by cases hx)⟩ (fun k2 u ka kb => absurd kb (by omega))⟩
  refine ⟨fun z => ?_, fun z => ?_⟩
  · have hs0 : s0 = 0 := (nI_eq (b := 0) (by omega) (by omega)).mp z
    intro y13 h13
    rw [l1] at h13
    subst h13
    exact lp lo (Nat.le_refl _) l3 (fun k u k1 k2 => absurd k2 (by omega)) (fun q => absurd q (by omega))
  · have hs0 : 0 < s0 := by
      rcases Nat.eq_zero_or_pos s0 with q | q
      · exact absurd (by rw [q]; rfl) z
      · exact q
    intro y10 h10 y11 h11
    rw [l1] at h10
    rw [l2] at h11
    subst h10 h11
    have hsorted : ∀ k k2, lo ≤ k → k < k2 → k2 < hi → PO k < PO k2 := by
      obtain ⟨a, e, g1, g2, g3, g4, g5, g6, g7⟩ := hI
      exact g6 (t4.mpr (Or.inl hs0))
    refine sp_Ix_seek x4 l4 l3 hsorted (fun r r1 r2 r3 r4 => lp r r1 r2 (fun k u k1 k2 k3 k4 hpe => ?_) (fun _ k k1 k2 => r4 k k1 k2))
    have hlt := r3 k k1 k2
    have hku := kN_lt (prt_lt k4)
    rw [k3] at hlt
    have hlt2 := (pk_lLT (by omega) (by omega)).mp hlt
    have hmul := kN_mul (g := prt s0 va v) (s := s0) (by omega) (fun q hq => if_neg (by omega))
    rw [← hpe] at hmul
    have := Nat.div_mul_le_self (kN (prt w va u)) (2 ^ (60 - 10 * s0))
    omega
theorem work_A (hX : FxA ar rm fr n nP vb vis bs js fh out K P Z M T fs sg0 ou PO cs VC sz hg FK S A FP N FT O NW SL SC SQ SB SM SG SS SW SP SO SH SFm STo SF SR SX) : ∀ d t, t ≤ n → n ≤ t + d → ∀ v W E rz RL RR, PrA bs js n out cs.length t v W E rz RL RR → ∀ post, CbA (fun u => cs.map u) fs vb vis n bs js fh out cs.length t v W E sz hg fu FK S A FP N FT O NW post → wS_A d post nP n_clauses_first rm rm n_clauses_places rm rm (6 * rm) h0 values_ facts_ indexes_ steps_ clauses_ rows_ indexes_shapes_ indexes_fixed_ indexes_firsts_ indexes_lasts_ indexes_froms_ indexes_tos_ indexes_pool_ facts_keys_ facts_stages_ facts_amounts_ facts_predicates_ facts_next_ facts_slots_ facts_oldest_ facts_newest_ facts_known_ facts_knownBefore_ clauses_first_ clauses_kinds_ clauses_predicates_ clauses_places_ clauses_sizes_ clauses_masks_ clauses_terms_ rows_left_ rows_right_ rows_variables_ (nI t) (nI n) (-1) stage_ ou 0 W indexes_size_ indexes_used_ F_indexes_shapes F_indexes_fixed F_indexes_firsts F_indexes_lasts F_indexes_froms F_indexes_tos PO sz hg fu (nI vis) FK S A FP N FT O NW F_facts_known F_facts_knownBefore clauses_size_ clauses_literals_ F_clauses_first K P F_clauses_places Z M T rz (nI cs.length) 0 RL RR VC sa SL SC SQ SB st_live SM SG SS SW SP SO SH SF SFm STo st_a_roles st_a_variables SR SX := by
  intro d
  induction d with
  | zero =>
    intro t h1 h2 v W E rz RL RR hpr post hcb
    exact ⟨_, solve_A (tm := t) hX (fun t' h3 h4 => absurd h4 (by omega)) (n - t) t (Nat.le_refl _) (by omega) v W E rz RL RR hpr post hcb⟩
  | succ d ih =>
    intro t h1 h2 v W E rz RL RR hpr post hcb
    refine ⟨_, solve_A (tm := t) hX (fun t' h3 h4 h5 v W E rz RL RR hpr post hcb => ?_) (n - t) t (Nat.le_refl _) (by omega) v W E rz RL RR hpr post hcb⟩
    exact scan_A hX h4 h5 (fun v W E rz RL RR hpr post hcb => ih (t' + 1) (by omega) (by omega) v W E rz RL RR hpr post hcb) v W E rz RL RR hpr post hcb
end SvA
