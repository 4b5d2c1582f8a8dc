/-! pure: a constant or a predicate more, in the class -/
/-- a table of constants with these ranks -/
def CBr (lim : Nat) (cs : List Con) (rk : Nat → Nat) (sz us : Int32) (S L : Nat → Int32) (nT : Nat) (T V BR : Nat → Int32) : Prop := NB lim (cs.map (·.1)) sz us S L nT T ∧ CoR cs rk V BR
def Ea (md : Nat) (cn : List Con) (rk : Nat → Nat) : Con → Int32 → Prop := if md = 0 then cdP cn else cdA cn rk
def Ec (md : Nat) (cn : List Con) (rk : Nat → Nat) : Con → Int32 → Prop := if md = 0 then cdP cn else cdC cn rk
def FgQ (md : Nat) (cn : List Con) (fg : Int32) (l : Lt) : Prop := (md = 0 ∧ fg = 0) ∨ (¬ md = 0 ∧ ((fg = 0 ∧ cIn cn l) ∨ (fg = 1 ∧ ¬ cIn cn l)))
theorem cIn_push {cn : List Con} {l : Lt} {c : Con} {a : Nat} : cIn cn (pushT l (Sum.inr c, a)) ↔ (cIn cn l ∧ c ∈ cn) := by
  unfold cIn
  constructor
  · intro h
    exact ⟨fun t ht d e => h t (List.mem_append_left _ ht) d e, h (Sum.inr c, a) (List.mem_append_right _ (List.mem_singleton.mpr rfl)) c rfl⟩
  · rintro ⟨h1, h2⟩ t ht d e
    rcases List.mem_append.mp ht with q | q
    · exact h1 t q d e
    · rw [List.mem_singleton.mp q] at e
      have : c = d := Sum.inr.inj e
      rw [← this]
      exact h2
theorem cIn_pushV {cn : List Con} {l : Lt} {v a : Nat} : cIn cn (pushT l (Sum.inl v, a)) ↔ cIn cn l := by
  unfold cIn
  constructor
  · intro h t ht d e
    exact h t (List.mem_append_left _ ht) d e
  · intro h t ht d e
    rcases List.mem_append.mp ht with q | q
    · exact h t q d e
    · rw [List.mem_singleton.mp q] at e
      cases e
section CCon
variable {md a m i rm nT pt mc ms : Nat} {cn : List Con} {rk : Nat → Nat} {l : Lt} {pz pu code place st fg vl kd : Int32} {S L T V BR K Z M TT F P : Nat → Int32} {kT : ClassId}
theorem sp_Re_addConstant {post : (Int32 × Int32 × Int32 × (Nat → Int32) × (Nat → Int32) × (Nat → Int32)) → Prop} {q : Nat} {w : Int32} (hi : i < rm) (hrm : rm < 100000) (hZ : Z i = nI m) (hm : m < 6) (hq : q < 100000) (h : post (code, place, st, upd Z i (nI (m + 1)), M, upd TT (6 * i + m) (nI (16 + q)))) : wp_met_Re_addConstant post rm rm (6 * rm) (nI q) w st code place (nI (i + 1)) Z M TT := by
  refine ⟨fun z => absurd z (nI_ne1 (by omega)), fun _ => ?_⟩
  intro y1 hy1
  rw [show (16 : Int32) = nI 16 from rfl, nI_add] at hy1
  subst hy1
  exact sp_Cl_addC hi hrm hZ hm (nI_le (a := 16) (by omega) (by omega)) h
theorem FrL_con {x : Int32} {y : Int32} {m : Nat} (hm : m < 6) : FrL i (upd Z i y) Z M M (upd TT (6 * i + m) x) TT := ⟨fun j hj => ⟨upd_ne hj, rfl⟩, fun j hj => upd_ne (by omega)⟩
theorem Ea_mono {d c : Con} {x : Int32} (h : md = 0) (q : Ea md cn rk c x) {rk2 : Nat → Nat} : Ea md (cn ++ [d]) rk2 c x := by
  unfold Ea at q ⊢
  rw [if_pos h] at q ⊢
  exact cdP_app q
theorem Ec_mono {d c : Con} {x : Int32} (h : md = 0) (q : Ec md cn rk c x) {rk2 : Nat → Nat} : Ec md (cn ++ [d]) rk2 c x := by
  unfold Ec at q ⊢
  rw [if_pos h] at q ⊢
  exact cdP_app q
theorem neg_toInt {r : Int32} {lo : Nat} (h : r.toInt = -1 - (lo : Int)) : r < 0 := by
  have z0 : (0 : Int32).toInt = 0 := by decide
  exact Int32.lt_iff_toInt_lt.mpr (by rw [z0, h]; omega)
theorem SR_in {c : Con} {r : Int32} (hC : CoR cn rk V BR) (h : SR c cn rk r) : (∃ q, r = nI q ∧ q < cn.length ∧ cg cn (rk q) = c ∧ c ∈ cn) ∨ (∃ lo : Nat, r.toInt = -1 - lo ∧ lo ≤ cn.length ∧ (∀ q, q < lo → cc (cg cn (rk q)) c < 0) ∧ (∀ q, lo ≤ q → q < cn.length → 0 < cc (cg cn (rk q)) c) ∧ c ∉ cn) := by
  rcases h with ⟨q, h1, h2, h3⟩ | ⟨lo, h1, h2, h3, h4⟩
  · refine Or.inl ⟨q, h1, h2, h3, ?_⟩
    rw [← h3]
    exact cg_mem (hC.2.1 q h2).1
  · refine Or.inr ⟨lo, h1, h2, h3, h4, fun z => ?_⟩
    obtain ⟨i, hi, e⟩ := cg_of z
    obtain ⟨q, hq, e2⟩ := hC.2.2.2 i hi
    rw [← e2] at e
    have z0 := cc_0.mpr e
    rcases Nat.lt_or_ge q lo with g | g
    · have := h3 q g
      omega
    · have := h4 q g hq
      omega
theorem sp_Re_addAtomConstant {post : (Int32 × Int32 × Int32 × Int32 × Int32 × Int32 × (Nat → Int32) × (Nat → Int32) × Nat × ClassId × Nat × (Nat → Int32) × (Nat → Int32) × (Nat → Int32) × (Nat → Int32) × (Nat → Int32) × (Nat → Int32) × Nat × Nat) → Prop} {b : Nat} {c : Con} (hmd : md < 4) (hN : CBr 1000 cn rk pz pu S L nT T V BR) (hab : a ≤ b) (hb : b ≤ 20480) (hF : ∀ j, j < b → byt (F j)) (htc : md = 0 → tot (cn.map (·.1)) ≤ a) (hc : (kd = 4 ∧ c = ([], vl.toInt)) ∨ (¬ kd = 4 ∧ c = (sl F a (b - a), vl.toInt))) (hi : i < rm) (hrm : rm < 100000) (hL : LQ (Ea md cn rk) i l K Z M TT) (h5 : l.2.2.2.2.length < 6) (hFg : FgQ md cn fg l) (hmc : 1 ≤ mc) (hms : 40960 ≤ ms)
    (h0 : mCon md cn c = none → post (3, nI a, 12, fg, pz, pu, S, L, pt, kT, nT, T, V, BR, Z, M, TT, 0, 0))
    (h1 : ∀ cn2, mCon md cn c = some cn2 → ∀ rk2 fg2 pz2 pu2 S2 L2 pt2 kT2 nT2 T2 V2 BR2 Z2 M2 TT2 kc ks, CBr 1000 cn2 rk2 pz2 pu2 S2 L2 nT2 T2 V2 BR2 → (¬ md = 0 → rk2 = rk) → (md = 0 → tot (cn2.map (·.1)) ≤ b) → LQ (Ea md cn2 rk2) i (pushT l (Sum.inr c, a)) K Z2 M2 TT2 → FrL i Z2 Z M2 M TT2 TT → FgQ md cn2 fg2 (pushT l (Sum.inr c, a)) → cst nT nT2 kc ks → post (code, place, 4, fg2, pz2, pu2, S2, L2, pt2, kT2, nT2, T2, V2, BR2, Z2, M2, TT2, kc, ks)) : wp_met_Re_addAtomConstant post mc ms 1000 1000 nT 1000 1000 rm rm (6 * rm) pt code place (nI md) fg kd (nI a) (nI b) vl F pz pu S L T V BR (nI (i + 1)) Z M TT kT := by
  obtain ⟨m', hm', hm2, hm3⟩ : ∃ m' : Nat, (∀ y : Int32, y = (if kd = 4 then 0 else (nI b - nI a)) → y = nI m') ∧ a + m' ≤ b ∧ c = (sl F a m', vl.toInt) := by
    rcases hc with ⟨e1, e2⟩ | ⟨e1, e2⟩
    · exact ⟨0, fun y hy => by rw [hy, if_pos e1]; rfl, by omega, e2⟩
    · exact ⟨b - a, fun y hy => by rw [hy, if_neg e1, pk_sub hab], by omega, e2⟩
  have lw : (sl F a m').length = m' := sl_len F m' a
  obtain ⟨hN1, hC⟩ := hN
  have hcn : cn.length ≤ 1000 := by have := hN1.1; simpa using this
  have hbb : ∀ j, j < m' → byt (F (a + j)) := fun j hj => hF (a + j) (by omega)
  by_cases h : md = 0
  · refine ⟨fun _ => ?_, fun z => absurd (by rw [h]; rfl) z⟩
    intro r8 h8
    have := hm' r8 h8
    subst this
    refine ⟨mc, ms, by omega, by omega, ?_⟩
    have eM : mCon md cn c = (if c ∈ cn then some cn else if cn.length = 1000 then none else some (cn ++ [c])) := by
      unfold mCon
      rw [if_pos h]
    have hFg0 : fg = 0 := by
      rcases hFg with ⟨-, e⟩ | ⟨e, -⟩
      · exact e
      · exact absurd h e
    refine sp_Co_intern2 ⟨hN1, rk, hC⟩ (by omega) (by omega) (by omega) hbb (by omega) hmc hms (fun j hj => ?_) (fun q1 q2 => ?_) (fun q1 q2 sz2 us2 S2 L2 a2 k2 nT2 T2 V2 BR2 kc ks hB hcs => ?_)
    · rw [← hm3] at hj
      have hjl := (List.getElem?_eq_some_iff.mp hj).1
      rw [if_pos (List.mem_of_getElem? hj)] at eM
      have ej : nI j = nI j := rfl
      try dsimp only
      unfold jw_met_Re_addAtomConstant_112
      refine sp_Re_addConstant hi hrm hL.2.1 h5 (by omega) ?_
      refine h1 cn eM rk fg _ _ _ _ _ _ _ _ _ _ _ _ _ _ _ ⟨hN1, hC⟩ (fun _ => rfl) (by omega) (LQ_con hL rfl ?_) (FrL_con h5) (Or.inl ⟨h, hFg0⟩) cst_0
      unfold Ea
      rw [if_pos h]
      exact ⟨j, hj, rfl⟩
    · rw [← hm3] at q1
      rw [if_neg q1, if_pos q2] at eM
      exact ⟨fun _ => h0 eM, fun z => absurd rfl z⟩
    · rw [← hm3] at q1 hB
      rw [if_neg q1, if_neg (by omega)] at eM
      obtain ⟨hB1, rk2, hB2⟩ := hB
      try dsimp only
      unfold jw_met_Re_addAtomConstant_112
      refine sp_Re_addConstant hi hrm hL.2.1 h5 (by omega) ?_
      rw [Nat.zero_add, Nat.zero_add]
      refine h1 _ eM rk2 fg _ _ _ _ _ _ _ _ _ _ _ _ _ _ _ ⟨hB1, hB2⟩ (fun z => absurd h z) ?_ (LQ_con (LQ_mono (fun c x q => Ea_mono h q) hL) rfl ?_) (FrL_con h5) (Or.inl ⟨h, hFg0⟩) hcs
      · intro _
        rw [List.map_append, tot_app]
        show _ + tot [c.1] ≤ _
        rw [tot_one, hm3, lw]
        omega
      · unfold Ea
        rw [if_pos h]
        refine ⟨cn.length, ?_, rfl⟩
        rw [List.getElem?_append_right (Nat.le_refl _), Nat.sub_self]
        rfl
  · have hz : ¬ nI md = 0 := nI_nz (by omega) (by omega)
    refine ⟨fun z => absurd z hz, fun _ => ?_⟩
    intro r2 h2
    have := hm' r2 h2
    subst this
    have eM : mCon md cn c = some cn := by
      unfold mCon
      rw [if_neg h]
    have hmap : (cn.map (·.1)).length = cn.length := by simp
    obtain ⟨g1, g2, g3, g4, g5, g6, g7, g8⟩ := hN1
    have g2' := g2
    have g3' := g3
    rw [hmap] at g2
    rw [g2]
    refine sp_Co_search g4 hC (by omega) (by omega) (by omega) g5 hcn (by omega) hbb (fun r hr => ?_)
    rw [← hm3] at hr
    have hN2 : CBr 1000 cn rk (nI cn.length) pu S L nT T V BR := by
      rw [← g2]
      exact ⟨⟨g1, g2', g3', g4, g5, g6, g7, g8⟩, hC⟩
    have hFg2 : (fg = 0 ∧ cIn cn l) ∨ (fg = 1 ∧ ¬ cIn cn l) := by
      rcases hFg with ⟨e, -⟩ | ⟨-, e⟩
      · exact absurd e h
      · exact e
    intro y4 h4 y5 h5' 
    rcases SR_in hC hr with ⟨q, e, hq, hcq, hin⟩ | ⟨lo, e, hlo, l1, l2, hno⟩
    · subst e
      rw [if_pos (nI_pos' (by omega))] at h4
      subst h4
      have e5 : y5 = fg := by
        rw [h5']
        rcases hFg2 with ⟨e, -⟩ | ⟨e, -⟩ <;> rw [e] <;> decide
      subst e5
      refine ⟨hFg2.elim (fun z => Or.inl z.1) (fun z => Or.inr z.1), fun y7 h7 => ?_⟩
      rw [if_neg (nI_pos (by omega))] at h7
      subst h7
      try dsimp only
      unfold jw_met_Re_addAtomConstant_112
      refine sp_Re_addConstant hi hrm hL.2.1 h5 (by omega) ?_
      refine h1 cn eM rk y5 _ _ _ _ _ _ _ _ _ _ _ _ _ _ _ hN2 (fun _ => rfl) (by omega) (LQ_con hL rfl ?_) (FrL_con h5) (Or.inr ⟨h, ?_⟩) cst_0
      · unfold Ea
        rw [if_neg h]
        exact Or.inl ⟨q, hq, hcq, rfl⟩
      · rcases hFg2 with ⟨e, z⟩ | ⟨e, z⟩
        · exact Or.inl ⟨e, cIn_push.mpr ⟨z, hin⟩⟩
        · exact Or.inr ⟨e, fun w => z (cIn_push.mp w).1⟩
    · have hneg := neg_toInt e
      have hn0 : ¬ (0 : Int32) ≤ r := fun z => by
        have a1 := Int32.le_iff_toInt_le.mp z
        have z0 : (0 : Int32).toInt = 0 := by decide
        rw [z0, e] at a1
        omega
      rw [if_neg hn0] at h4
      subst h4
      have e5 : y5 = 1 := by
        rw [h5']
        rcases hFg2 with ⟨e, -⟩ | ⟨e, -⟩ <;> rw [e] <;> decide
      subst e5
      refine ⟨Or.inr rfl, fun y7 h7 => ?_⟩
      rw [if_pos hneg] at h7
      subst h7
      try dsimp only
      unfold jw_met_Re_addAtomConstant_112
      refine sp_Re_addConstant (q := 0) hi hrm hL.2.1 h5 (by omega) ?_
      refine h1 cn eM rk 1 _ _ _ _ _ _ _ _ _ _ _ _ _ _ _ hN2 (fun _ => rfl) (by omega) (LQ_con hL rfl ?_) (FrL_con h5) (Or.inr ⟨h, Or.inr ⟨rfl, fun w => hno (cIn_push.mp w).2⟩⟩) cst_0
      unfold Ea
      rw [if_neg h]
      exact Or.inr ⟨hno, rfl⟩
/-- the sides of a comparison, in a question -/
def sdA (sd : List Con) (c : Con) : List Con := if c ∈ sd then sd else sd ++ [c]
theorem sp_Re_addSideConstant {post : (Int32 × Int32 × Int32 × Int32 × Int32 × (Nat → Int32) × (Nat → Int32) × Nat × ClassId × Nat × (Nat → Int32) × (Nat → Int32) × (Nat → Int32) × Int32 × Int32 × (Nat → Int32) × (Nat → Int32) × Nat × ClassId × Nat × (Nat → Int32) × (Nat → Int32) × (Nat → Int32) × (Nat → Int32) × (Nat → Int32) × (Nat → Int32) × Nat × Nat) → Prop} {m' nTs stx : Nat} {c : Con} {sd : List Con} {sz su : Int32} {SS SL ST SV SB : Nat → Int32} {kS : ClassId} (hmd : md < 4) (hN : CBr 1000 cn rk pz pu S L nT T V BR) (hS : CB 2 sd sz su SS SL nTs ST SV SB) (hsd : sd.length ≤ 1) (hb : a + m' ≤ 20480) (hF : ∀ j, j < a + m' → byt (F j)) (htc : md = 0 → tot (cn.map (·.1)) ≤ a) (hts : tot (sd.map (·.1)) ≤ a) (hm3 : c = (sl F a m', vl.toInt)) (hi : i < rm) (hrm : rm < 100000) (hL : LQ (Ec md cn rk) i l K Z M TT) (h5 : l.2.2.2.2.length < 6) (hmc : 1 ≤ mc) (hms : 40960 ≤ ms)
    (h0 : mCon md cn c = none → post (3, nI a, 12, sz, su, SS, SL, stx, kS, nTs, ST, SV, SB, pz, pu, S, L, pt, kT, nT, T, V, BR, Z, M, TT, 0, 0))
    (h1 : ∀ cn2, mCon md cn c = some cn2 → ∀ rk2 sd2 sz2 su2 SS2 SL2 stx2 kS2 nTs2 ST2 SV2 SB2 pz2 pu2 S2 L2 pt2 kT2 nT2 T2 V2 BR2 Z2 M2 TT2 kc ks, CBr 1000 cn2 rk2 pz2 pu2 S2 L2 nT2 T2 V2 BR2 → (¬ md = 0 → rk2 = rk) → (md = 0 → tot (cn2.map (·.1)) ≤ a + m') → CB 2 sd2 sz2 su2 SS2 SL2 nTs2 ST2 SV2 SB2 → tot (sd2.map (·.1)) ≤ a + m' → (¬ md = 0 → sd2 = sdA sd c) → sd2.length ≤ sd.length + 1 → LQ (Ec md cn2 rk2) i (pushT l (Sum.inr c, a)) K Z2 M2 TT2 → FrL i Z2 Z M2 M TT2 TT → (∃ kc1 ks1 kc2 ks2, cst nT nT2 kc1 ks1 ∧ cst nTs nTs2 kc2 ks2 ∧ kc = kc1 + kc2 ∧ ks = ks1 + ks2) → post (code, place, st, sz2, su2, SS2, SL2, stx2, kS2, nTs2, ST2, SV2, SB2, pz2, pu2, S2, L2, pt2, kT2, nT2, T2, V2, BR2, Z2, M2, TT2, kc, ks)) : wp_met_Re_addSideConstant post mc ms 2 2 nTs 2 2 1000 1000 nT 1000 1000 rm rm (6 * rm) stx pt (nI a) (nI m') vl st code place (nI md) F sz su SS SL ST SV SB pz pu S L T V BR (nI (i + 1)) Z M TT kS kT := by
  have lw : (sl F a m').length = m' := sl_len F m' a
  have hN0 := hN
  obtain ⟨hN1, hC⟩ := hN
  have hcn : cn.length ≤ 1000 := by have := hN1.1; simpa using this
  have hbb : ∀ j, j < m' → byt (F (a + j)) := fun j hj => hF (a + j) (by omega)
  by_cases h : md = 0
  · refine ⟨fun _ => ?_, fun z => absurd (by rw [h]; rfl) z⟩
    refine ⟨mc, ms, by omega, by omega, ?_⟩
    have eM : mCon md cn c = (if c ∈ cn then some cn else if cn.length = 1000 then none else some (cn ++ [c])) := by
      unfold mCon
      rw [if_pos h]
    refine sp_Co_intern2 ⟨hN1, rk, hC⟩ (by omega) (by omega) (by omega) hbb (by omega) hmc hms (fun j hj => ?_) (fun q1 q2 => ?_) (fun q1 q2 sz2 us2 S2 L2 a2 k2 nT2 T2 V2 BR2 kc ks hB hcs => ?_)
    · rw [← hm3] at hj
      have hjl := (List.getElem?_eq_some_iff.mp hj).1
      rw [if_pos (List.mem_of_getElem? hj)] at eM
      try dsimp only
      unfold jw_met_Re_addSideConstant_93
      refine sp_Re_addConstant hi hrm hL.2.1 h5 (by omega) ?_
      refine h1 cn eM rk sd _ _ _ _ _ _ _ _ _ _ _ _ _ _ _ _ _ _ _ _ _ _ _ _ _ hN0 (fun _ => rfl) (by omega) hS (by omega) (fun z => absurd h z) (Nat.le_succ _) (LQ_con hL rfl ?_) (FrL_con h5) ⟨0, 0, 0, 0, cst_0, cst_0, rfl, rfl⟩
      unfold Ec
      rw [if_pos h]
      exact ⟨j, hj, rfl⟩
    · rw [← hm3] at q1
      rw [if_neg q1, if_pos q2] at eM
      exact ⟨fun _ => h0 eM, fun z => absurd rfl z⟩
    · rw [← hm3] at q1 hB
      rw [if_neg q1, if_neg (by omega)] at eM
      obtain ⟨hB1, rk2, hB2⟩ := hB
      try dsimp only
      unfold jw_met_Re_addSideConstant_93
      refine sp_Re_addConstant hi hrm hL.2.1 h5 (by omega) ?_
      refine h1 _ eM rk2 sd _ _ _ _ _ _ _ _ _ _ _ _ _ _ _ _ _ _ _ _ _ _ _ _ _ ⟨hB1, hB2⟩ (fun z => absurd h z) ?_ hS (by omega) (fun z => absurd h z) (Nat.le_succ _) (LQ_con (LQ_mono (fun c x q => Ec_mono h q) hL) rfl ?_) (FrL_con h5) ⟨kc, ks, 0, 0, hcs, cst_0, by omega, by omega⟩
      · intro _
        rw [List.map_append, tot_app]
        show _ + tot [c.1] ≤ _
        rw [tot_one, hm3, lw]
        omega
      · unfold Ec
        rw [if_pos h]
        refine ⟨cn.length, ?_, rfl⟩
        rw [List.getElem?_append_right (Nat.le_refl _), Nat.sub_self]
        rfl
  · have hz : ¬ nI md = 0 := nI_nz (by omega) (by omega)
    refine ⟨fun z => absurd z hz, fun _ => ?_⟩
    have eM : mCon md cn c = some cn := by
      unfold mCon
      rw [if_neg h]
    have hmap : (cn.map (·.1)).length = cn.length := by simp
    obtain ⟨g1, g2, g3, g4, g5, g6, g7, g8⟩ := hN1
    have g2' := g2
    rw [hmap] at g2'
    have tail : ∀ q : Nat, q < 90000 → Ec md cn rk c (nI (16 + q)) → jw_met_Re_addSideConstant_73 post mc ms pz pu S L pt kT nT T V BR 2 2 nTs 2 2 stx (nI a) (nI m') vl sz su SS SL ST SV SB F kS rm rm (6 * rm) st code place (nI (i + 1)) Z M TT (nI q) := by
      intro q hq hE
      refine ⟨mc, ms, by omega, by omega, ?_⟩
      have fin : ∀ sd2 sz2 su2 SS2 SL2 stx2 kS2 nTs2 ST2 SV2 SB2 kc ks, CB 2 sd2 sz2 su2 SS2 SL2 nTs2 ST2 SV2 SB2 → tot (sd2.map (·.1)) ≤ a + m' → sd2 = sdA sd c → cst nTs nTs2 kc ks → sd2.length ≤ sd.length + 1 → jw_met_Re_addSideConstant_93 post rm rm (6 * rm) (nI a) st code place (nI (i + 1)) Z M TT (sz2, su2, SS2, SL2, stx2, kS2, nTs2, ST2, SV2, SB2, pz, pu, S, L, pt, kT, nT, T, V, BR, (0 + kc), (0 + ks), nI q) := by
        intro sd2 sz2 su2 SS2 SL2 stx2 kS2 nTs2 ST2 SV2 SB2 kc ks r1 r2 r3 r4 r5
        try dsimp only
        unfold jw_met_Re_addSideConstant_93
        refine sp_Re_addConstant hi hrm hL.2.1 h5 (by omega) ?_
        exact h1 cn eM rk sd2 _ _ _ _ _ _ _ _ _ _ _ _ _ _ _ _ _ _ _ _ _ _ _ _ _ hN0 (fun _ => rfl) (by omega) r1 r2 (fun _ => r3) r5 (LQ_con hL rfl hE) (FrL_con h5) ⟨0, 0, kc, ks, cst_0, r4, rfl, rfl⟩
      refine sp_Co_intern2 hS (by omega) (by omega) (by omega) hbb (by omega) hmc hms (fun j hj => ?_) (fun q1 q2 => ?_) (fun q1 q2 sz2 us2 S2 L2 a2 k2 nT2 T2 V2 BR2 kc ks hB hcs => ?_)
      · rw [← hm3] at hj
        exact fin sd _ _ _ _ _ _ _ _ _ _ 0 0 hS (by omega) (by unfold sdA; rw [if_pos (List.mem_of_getElem? hj)]) cst_0 (Nat.le_succ _)
      · omega
      · rw [← hm3] at q1 hB
        refine fin _ _ _ _ _ _ _ _ _ _ _ _ _ hB ?_ (by unfold sdA; rw [if_neg q1]) hcs (by simp)
        rw [List.map_append, tot_app]
        show _ + tot [c.1] ≤ _
        rw [tot_one, hm3, lw]
        omega
    have hse : wp_met_Co_search (fun r2 (_ : Unit) => (((r2 < 0 → (∀ y4 : Int32, y4 = r2 ^^^ -1 → (∀ y5 : Int32, y5 = 2 * y4 → (jw_met_Re_addSideConstant_73 post mc ms pz pu S L pt kT nT T V BR 2 2 nTs 2 2 stx (nI a) (nI m') vl sz su SS SL ST SV SB F kS rm rm (6 * rm) st code place (nI (i + 1)) Z M TT y5)))) ∧ (¬ (r2 < 0) → (wp_met_Cl_codeOfRank (fun r6 (_ : Unit) => (jw_met_Re_addSideConstant_73 post mc ms pz pu S L pt kT nT T V BR 2 2 nTs 2 2 stx (nI a) (nI m') vl sz su SS SL ST SV SB F kS rm rm (6 * rm) st code place (nI (i + 1)) Z M TT r6)) r2))))) 1000 1000 nT 1000 1000 65536 (nI a) (nI m') vl (nI cn.length) S L T V BR F := by
      refine sp_Co_search g4 hC (by omega) (by omega) (by omega) g5 hcn (by omega) hbb (fun r hr => ?_)
      rw [← hm3] at hr
      rcases SR_in hC hr with ⟨q, e, hq, hcq, hin⟩ | ⟨lo, e, hlo, l1, l2, hno⟩
      · subst e
        refine ⟨fun z => absurd z (nI_pos (by omega)), fun _ => ?_⟩
        intro y1 hy1 y2 hy2
        rw [show (2 : Int32) = nI 2 from rfl, pk_mul] at hy1
        rw [hy1, nI_1] at hy2
        subst hy2
        refine tail (2 * q + 1) (by omega) ?_
        unfold Ec
        rw [if_neg h]
        exact Or.inl ⟨q, hq, hcq, rfl⟩
      · refine ⟨fun _ => ?_, fun z => absurd (neg_toInt e) z⟩
        intro y4 h4 y5 h5'
        rw [neg_of e (by omega)] at h4
        rw [h4, show (2 : Int32) = nI 2 from rfl, pk_mul] at h5'
        subst h5'
        refine tail (2 * lo) (by omega) ?_
        unfold Ec
        rw [if_neg h]
        exact Or.inr ⟨lo, hlo, l1, l2, rfl⟩
    rw [← g2'] at hse
    exact hse
theorem sp_Re_namePredicate {post : (Int32 × Int32 × Int32 × Int32 × Int32 × Int32 × (Nat → Int32) × (Nat → Int32) × Nat × ClassId × Nat × (Nat → Int32) × (Nat → Int32) × Nat × Nat) → Prop} {ps : List Wd} (hmd : md < 4) (hN : NB 64 ps pz pu S L nT T) (hb : a + m ≤ 20480) (hF : ∀ j, j < a + m → byt (F j)) (htp : md = 0 → tot ps ≤ a) (hi : i < rm) (hrm : rm < 100000) (hmc : 1 ≤ mc) (hms : 40960 ≤ ms)
    (h0 : mPred md ps (sl F a m) = none → post (3, nI a, 12, fg, pz, pu, S, L, pt, kT, nT, T, P, 0, 0))
    (h1 : ∀ ps2, mPred md ps (sl F a m) = some ps2 → ∀ pz2 pu2 S2 L2 pt2 kT2 nT2 T2 x kc ks, NB 64 ps2 pz2 pu2 S2 L2 nT2 T2 → (md = 0 → tot ps2 ≤ a + m) → PC md ps2 (sl F a m) x → cst nT nT2 kc ks → post (code, place, (if nI md = 3 then 11 else 2), 0, pz2, pu2, S2, L2, pt2, kT2, nT2, T2, upd P i x, kc, ks)) : wp_met_Re_namePredicate post mc ms 64 64 nT rm pt code place (nI md) fg (nI a) (nI (a + m)) F pz pu S L T (nI (i + 1)) P kT := by
  have lw : (sl F a m).length = m := sl_len F m a
  have hbb : ∀ j, j < m → byt (F (a + j)) := fun j hj => hF (a + j) (by omega)
  have hps := hN.1
  intro y1 hy1
  rw [pk_sub (by omega), show a + m - a = m by omega] at hy1
  subst hy1
  have tail : ∀ pz2 pu2 S2 L2 pt2 kT2 nT2 T2 kc ks x, post (code, place, (if nI md = 3 then 11 else 2), 0, pz2, pu2, S2, L2, pt2, kT2, nT2, T2, upd P i x, kc, ks) → jw_met_Re_namePredicate_83 post rm P (nI md) code place (nI (i + 1)) (pz2, pu2, S2, L2, pt2, kT2, nT2, T2, kc, ks, x) := by
    intro pz2 pu2 S2 L2 pt2 kT2 nT2 T2 kc ks x hp
    intro r32 h32
    rw [nI_pred] at h32
    subst h32
    refine ⟨vp_in_nI hi (by omega), fun g34 h34 y35 h35 => ?_⟩
    rw [nI_clamp (by omega)] at h34
    subst h34 h35
    exact hp
  refine sp_Na_find2 hN (by omega) (by omega) (by omega) hbb (fun r hr => ?_)
  rcases hr with ⟨j, e, q1, q2⟩ | ⟨e, q⟩
  · subst e
    have hj := (List.getElem?_eq_some_iff.mp q1).1
    have hin := List.mem_of_getElem? q1
    refine ⟨fun z => absurd z (nI_ne1 (by omega)), fun _ => ?_⟩
    have eM : mPred md ps (sl F a m) = some ps := by
      unfold mPred
      by_cases h : md = 0
      · rw [if_pos h, if_pos hin]
      · rw [if_neg h]
    exact tail _ _ _ _ _ _ _ _ _ _ _ (h1 ps eM _ _ _ _ _ _ _ _ _ 0 0 hN (by omega) (Or.inl ⟨j, q1, rfl⟩) cst_0)
  · subst e
    have hno : sl F a m ∉ ps := fun z => by
      obtain ⟨j, hj, e⟩ := List.mem_iff_getElem.mp z
      exact q j (by rw [List.getElem?_eq_getElem hj, e])
    refine ⟨fun _ => ?_, fun z => absurd rfl z⟩
    by_cases h : md = 0
    · refine ⟨fun _ => ⟨mc, ms, by omega, by omega, ?_⟩, fun z => absurd (by rw [h]; rfl) z⟩
      have eM : mPred md ps (sl F a m) = (if ps.length = 64 then none else some (ps ++ [sl F a m])) := by
        unfold mPred
        rw [if_pos h, if_neg hno]
      refine sp_Na_add2 hN (by omega) (by omega) (by omega) hbb (by omega) hmc hms (fun hl => ?_) (fun hl sz2 us2 S2 L2 a2 k2 nT2 T2 kc ks hN2 hc => ?_)
      · rw [if_pos hl] at eM
        exact ⟨fun _ => h0 eM, fun z => absurd rfl z⟩
      · rw [if_neg (by omega)] at eM
        refine ⟨fun z => absurd z (nI_ne1 (by omega)), fun _ => ?_⟩
        rw [Nat.zero_add, Nat.zero_add]
        refine tail _ _ _ _ _ _ _ _ _ _ _ (h1 _ eM _ _ _ _ _ _ _ _ _ kc ks hN2 ?_ (Or.inl ⟨ps.length, ?_, rfl⟩) hc)
        · rw [tot_app, tot_one, lw]
          omega
        · rw [List.getElem?_append_right (Nat.le_refl _), Nat.sub_self]
          rfl
    · have hz : ¬ nI md = 0 := nI_nz (by omega) (by omega)
      refine ⟨fun z => absurd z hz, fun _ => ?_⟩
      have eM : mPred md ps (sl F a m) = some ps := by
        unfold mPred
        rw [if_neg h]
      exact tail _ _ _ _ _ _ _ _ _ _ _ (h1 ps eM _ _ _ _ _ _ _ _ _ 0 0 hN (by omega) (Or.inr ⟨h, hno, rfl⟩) cst_0)
end CCon
