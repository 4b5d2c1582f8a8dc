/-! pure: the class asks -/
/-- the names of a program -/
def PqI (ps : List Wd) (cn : List Con) (ar rk : Nat → Nat) (pz pu : Int32) (pS pL : Nat → Int32) (pN : Nat) (pT PZ : Nat → Int32) (cz cu : Int32) (cS cL : Nat → Int32) (cN : Nat) (cT cV cB : Nat → Int32) : Prop := NB 64 ps pz pu pS pL pN pT ∧ CBr 1000 cn rk cz cu cS cL cN cT cV cB ∧ (∀ p, p < ps.length → PZ p = nI (ar p) ∧ ar p ≤ 6) ∧ ps.Nodup ∧ cn.Nodup ∧ ∀ c ∈ cn, wOk c
theorem PgI_Pq {D : Dt} {rk L : Nat → Nat} {S : Nat} {sc tz : Int32} {FF K P Z M T : Nat → Int32} {pz pu : Int32} {pS pL : Nat → Int32} {pN : Nat} {pT PZ ST : Nat → Int32} {cz cu : Int32} {cS cL : Nat → Int32} {cN : Nat} {cT cV cB : Nat → Int32} (h : PgI D rk L S sc tz FF K P Z M T pz pu pS pL pN pT PZ ST cz cu cS cL cN cT cV cB) : PqI D.2.2.2.2.1 D.2.2.2.2.2 (arF D.2.2.2.2.1 D.1) rk pz pu pS pL pN pT PZ cz cu cS cL cN cT cV cB := by
  obtain ⟨⟨G, hG⟩, h1, h2, h3, h4, ⟨h5, h6⟩, -, -, -⟩ := h
  exact ⟨h1, h2, fun p hp => ⟨h3 p hp, h4 p⟩, hG.1.2.2.2.2.1, h5, h6⟩
theorem PgI_up {D : Dt} {rk L : Nat → Nat} {S : Nat} {sc tz : Int32} {FF K P Z M T : Nat → Int32} {pz pu : Int32} {pS pL : Nat → Int32} {pN : Nat} {pT PZ ST : Nat → Int32} {cz cu : Int32} {cS cL : Nat → Int32} {cN : Nat} {cT cV cB : Nat → Int32} (h : PgI D rk L S sc tz FF K P Z M T pz pu pS pL pN pT PZ ST cz cu cS cL cN cT cV cB) {pz5 pu5 : Int32} {pS5 pL5 : Nat → Int32} {pN5 : Nat} {pT5 PZ5 : Nat → Int32} {cz5 cu5 : Int32} {cS5 cL5 : Nat → Int32} {cN5 : Nat} {cT5 cV5 cB5 : Nat → Int32} (q : PqI D.2.2.2.2.1 D.2.2.2.2.2 (arF D.2.2.2.2.1 D.1) rk pz5 pu5 pS5 pL5 pN5 pT5 PZ5 cz5 cu5 cS5 cL5 cN5 cT5 cV5 cB5) : PgI D rk L S sc tz FF K P Z M T pz5 pu5 pS5 pL5 pN5 pT5 PZ5 ST cz5 cu5 cS5 cL5 cN5 cT5 cV5 cB5 := by
  obtain ⟨⟨G, g1, g2, g3, g4, g5, g6⟩, h1, h2, h3, h4, h5, h6⟩ := h
  obtain ⟨q1, q2, q3, -⟩ := q
  exact ⟨⟨G, g1, g2, ⟨q2.2, g3.2⟩, g4, g5, g6⟩, q1, q2, fun p hp => (q3 p hp).1, h4, h5, h6⟩
theorem PqI_RF {md : Nat} {ps : List Wd} {cn : List Con} {ar rk rk0 : Nat → Nat} {vz vu : Int32} {vS vL : Nat → Int32} {vN : Nat} {vT : Nat → Int32} {oz ou : Int32} {oS oL : Nat → Int32} {oN : Nat} {oT : Nat → Int32} {sz su : Int32} {sS sL : Nat → Int32} {sN : Nat} {sT sV sB : Nat → Int32} {pz pu : Int32} {pS pL : Nat → Int32} {pN : Nat} {pT PZ : Nat → Int32} {cz cu : Int32} {cS cL : Nat → Int32} {cN : Nat} {cT cV cB : Nat → Int32} (h : RF md ar rk (ps, cn) vz vu vS vL vN vT oz ou oS oL oN oT sz su sS sL sN sT sV sB pz pu pS pL pN pT PZ cz cu cS cL cN cT cV cB) (hm : ¬ md = 0) (hr : ¬ md = 0 → rk = rk0) (h1 : ps.Nodup) (h2 : cn.Nodup) (h3 : ∀ c ∈ cn, wOk c) : PqI ps cn ar rk0 pz pu pS pL pN pT PZ cz cu cS cL cN cT cV cB := by
  obtain ⟨-, -, -, ⟨ps2, a1, a2⟩, ⟨cn2, r2, b1, b2⟩⟩ := h
  obtain ⟨a3, a4⟩ := a2 hm
  obtain ⟨b3, b4⟩ := b2 hm
  have hr := hr hm
  subst a3 b3 b4 hr
  exact ⟨a1, b1, a4, h1, h2, h3⟩
section CAk
variable {n mc ms : Nat} {F : Nat → Int32} {ps : List Wd} {cn : List Con} {ar rk : Nat → Nat} {vS vL : Nat → Int32} {vN : Nat} {vT oS oL : Nat → Int32} {oN : Nat} {oT : Nat → Int32} {sz su : Int32} {sS sL : Nat → Int32} {sN : Nat} {sT sV sB : Nat → Int32} {pz pu : Int32} {pS pL : Nat → Int32} {pN : Nat} {pT PZ : Nat → Int32} {cz cu : Int32} {cS cL : Nat → Int32} {cN : Nat} {cT cV cB FF : Nat → Int32} {E : List (Nat × List Nat)} {sgE : Nat → Nat} {z u nP : Nat} {SHa FIa LAa FRa TOa Gp Gr : Nat → Int32} {FXa PO : Nat → Int64} {fz fh : Int32} {FK : Nat → Int64} {FS FA FP FN FT FO FW Kn Kb : Nat → Int32} {question_ facts_ join_ rows_ spareRows_ program_predicates_text_ program_constants_names_text_ question_first_ question_kinds_ question_predicates_ question_places_ question_sizes_ question_masks_ question_terms_ reader_variables_text_ reader_ownPredicates_text_ reader_sides_names_text_ facts_keys_ facts_stages_ facts_amounts_ facts_predicates_ facts_next_ facts_slots_ facts_oldest_ facts_newest_ facts_known_ facts_knownBefore_ join_values_ join_indexes_ join_steps_ join_indexes_shapes_ join_indexes_fixed_ join_indexes_firsts_ join_indexes_lasts_ join_indexes_froms_ join_indexes_tos_ join_indexes_pool_ rows_left_ rows_right_ rows_variables_ spareRows_left_ spareRows_right_ spareRows_variables_ : Nat} {program_clauses_size_ program_clauses_literals_ reader_place_ reader_foreign_ reader_nameStart_ reader_nameStop_ reader_tokens_kind_ reader_tokens_start_ reader_tokens_value_ facts_full_ join_stepCount_ join_head_ join_stage_ join_output_ join_stopped_ rows_size_ rows_width_ rows_full_ spareRows_size_ spareRows_width_ spareRows_full_ : Int32} {F_question_kinds F_question_predicates F_question_places F_question_sizes F_question_masks F_question_terms F_reader_needed F_reader_ownSizes F_reader_sides_ranks F_join_values F_rows_variables F_spareRows_variables st_literal st_scans st_freshOnly st_bound st_live st_soughtMask st_givenMask st_sought st_width st_predicate st_ordered st_shape st_from st_to : Nat → Int32} {F_rows_left F_rows_right F_spareRows_left F_spareRows_right st_fixed : Nat → Int64} {k_program_predicates_text k_program_constants_names_text k_reader_variables_text k_reader_ownPredicates_text k_reader_sides_names_text k_join_indexes_pool k_rows_left k_rows_right k_rows_variables k_spareRows_left k_spareRows_right k_spareRows_variables : ClassId} {join_clauses_ join_rows_ : Option Nat} {sa st_a_roles st_a_variables : Nat → Nat} {st_roles st_variables : Nat → Nat → Int32}
theorem cl_ask {post : Int32 → (Int32 × Int32 × Int32 × Int32 × Int32 × Int32 × (Nat → Int32) × (Nat → Int32) × Nat × ClassId × Nat × (Nat → Int32) × (Nat → Int32) × Int32 × Int32 × (Nat → Int32) × (Nat → Int32) × Nat × ClassId × Nat × (Nat → Int32) × (Nat → Int32) × (Nat → Int32) × Int32 × Int32 × (Nat → Int32) × (Nat → Int32) × (Nat → Int32) × (Nat → Int32) × (Nat → Int32) × (Nat → Int32) × (Nat → Int32) × Int32 × Int32 × Int32 × Int32 × Int32 × Int32 × Int32 × Int32 × Int32 × Int32 × Int32 × Int32 × Int32 × (Nat → Int32) × (Nat → Int32) × Nat × ClassId × Nat × (Nat → Int32) × Int32 × Int32 × Int32 × Int32 × Int32 × (Nat → Int32) × Int32 × Int32 × (Nat → Int32) × (Nat → Int32) × Nat × ClassId × Nat × (Nat → Int32) × (Nat → Int32) × Int32 × Int32 × (Nat → Int32) × (Nat → Int32) × Nat × ClassId × Nat × (Nat → Int32) × (Nat → Int32) × (Nat → Int32) × (Nat → Int32) × Int32 × Int32 × Int32 × (Nat → Int64) × (Nat → Int32) × (Nat → Int32) × (Nat → Int32) × (Nat → Int32) × (Nat → Int32) × (Nat → Int32) × (Nat → Int32) × Int32 × Option Nat × Int32 × Option Nat × Int32 × Int32 × (Nat → Int32) × Int32 × Int32 × (Nat → Int32) × (Nat → Int64) × (Nat → Int32) × (Nat → Int32) × (Nat → Int32) × (Nat → Int32) × Nat × ClassId × Nat × (Nat → Int64) × Nat × Int32 × Int32 × Int32 × Nat × ClassId × (Nat → Int64) × Nat × ClassId × (Nat → Int64) × Nat × ClassId × (Nat → Int32) × Nat × Int32 × Int32 × Int32 × Nat × ClassId × (Nat → Int64) × Nat × ClassId × (Nat → Int64) × Nat × ClassId × (Nat → Int32) × (Nat → Int32) × (Nat → Int32) × (Nat → Int32) × (Nat → Int32) × (Nat → Int32) × (Nat → Int32) × (Nat → Int32) × (Nat → Int32) × (Nat → Int32) × (Nat → Int32) × (Nat → Int32) × (Nat → Int32) × (Nat → Int64) × (Nat → Int32) × (Nat → Int32) × (Nat → Nat → Int32) × (Nat → Nat → Int32) × Nat × Nat) → Prop} (hn : n ≤ 20480) (hF : ∀ j, j < n → byt (F j)) (hmc : 6000 ≤ mc) (hms : 2700000 ≤ ms) (hR : RdI vS vL vN vT oS oL oN oT sz su sS sL sN sT sV sB) (hP : PqI ps cn ar rk pz pu pS pL pN pT PZ cz cu cS cL cN cT cV cB) (hFF : FF 0 = 0) (hFa : FaR ar E sgE fz fh FK FS FA FP FN FT FO FW) (hKn : KnQ E E.length Kn Kb) (hIx : IxS E z u nP SHa FXa FIa LAa FRa TOa PO) (hRk : RkE cn E) (hG : GpI 11 Gp) (hGr : GpI 9 Gr) (hno : ∀ ls vs, AsR ps cn ar F n (.inr (ls, vs)) → ¬ AnsO ps (FX cn rk (fun x => x ∈ E)) ls vs)
    (h0 : ∀ {e : Nat × Nat} {an5 bz5 ih5 fg5 ns5 ne5 po5 vz5 vu5 kd5 sa5 sb5 vl5 oz5 ou5 sz5 su5 pz5 pu5 cz5 cu5 tz2 tl5 : Int32} {vS5 vL5 vT5 ND5 oS5 oL5 oT5 OZ5 sS5 sL5 sT5 sV5 sB5 sR5 pS5 pL5 pT5 PZ5 cS5 cL5 cT5 cV5 cB5 FF2 K5 P5 Pl5 Z5 M5 TT5 : Nat → Int32} {vtx5 vN5 otx5 oN5 stx5 sN5 ptx5 pN5 ctx5 cN5 kc5 ks5 : Nat} {kV5 kO5 kS5 kP5 kC5 : ClassId}, AsR ps cn ar F n (.inl e) → (1 ≤ e.1 ∧ e.1 ≤ 20) → RdI vS5 vL5 vN5 vT5 oS5 oL5 oN5 oT5 sz5 su5 sS5 sL5 sN5 sT5 sV5 sB5 → PqI ps cn ar rk pz5 pu5 pS5 pL5 pN5 pT5 PZ5 cz5 cu5 cS5 cL5 cN5 cT5 cV5 cB5 → FF2 0 = 0 → cst (vN + oN + sN + pN + cN) (vN5 + oN5 + sN5 + pN5 + cN5) kc5 ks5 → post (-1 - nI e.2) (0, nI e.1, program_clauses_size_, program_clauses_literals_, pz5, pu5, pS5, pL5, ptx5, kP5, pN5, pT5, PZ5, cz5, cu5, cS5, cL5, ctx5, kC5, cN5, cT5, cV5, cB5, tz2, tl5, FF2, K5, P5, Pl5, Z5, M5, TT5, nI e.1, nI e.2, an5, 1, 12, bz5, ih5, fg5, ns5, ne5, po5, vz5, vu5, vS5, vL5, vtx5, kV5, vN5, vT5, kd5, sa5, sb5, vl5, nI n, ND5, oz5, ou5, oS5, oL5, otx5, kO5, oN5, oT5, OZ5, sz5, su5, sS5, sL5, stx5, kS5, sN5, sT5, sV5, sB5, sR5, fz, fh, facts_full_, FK, FS, FA, FP, FN, FT, FO, FW, join_stepCount_, join_clauses_, join_head_, join_rows_, join_output_, join_stopped_, F_join_values, (nI z), (nI u), SHa, FXa, FIa, LAa, FRa, TOa, join_indexes_pool_, k_join_indexes_pool, nP, PO, rows_, rows_size_, rows_width_, rows_full_, rows_left_, k_rows_left, F_rows_left, rows_right_, k_rows_right, F_rows_right, rows_variables_, k_rows_variables, F_rows_variables, spareRows_, spareRows_size_, spareRows_width_, spareRows_full_, spareRows_left_, k_spareRows_left, F_spareRows_left, spareRows_right_, k_spareRows_right, F_spareRows_right, spareRows_variables_, k_spareRows_variables, F_spareRows_variables, st_literal, st_scans, st_freshOnly, st_bound, st_live, st_soughtMask, st_givenMask, st_sought, st_width, st_predicate, st_ordered, st_shape, st_fixed, st_from, st_to, st_roles, st_variables, kc5, ks5))
    (h1 : ∀ {ls : List Lt} {vs : List (Option Wd)} {rs : List (List Nat)} {N : Nat} {place2 : Int32} {an5 bz5 ih5 fg5 ns5 ne5 po5 vz5 vu5 kd5 sa5 sb5 vl5 oz5 ou5 sz5 su5 pz5 pu5 cz5 cu5 tz2 tl5 : Int32} {vS5 vL5 vT5 ND5 oS5 oL5 oT5 OZ5 sS5 sL5 sT5 sV5 sB5 sR5 pS5 pL5 pT5 PZ5 cS5 cL5 cT5 cV5 cB5 FF2 K5 P5 Pl5 Z5 M5 TT5 : Nat → Int32} {vtx5 vN5 otx5 oN5 stx5 sN5 ptx5 pN5 ctx5 cN5 kc5 ks5 : Nat} {kV5 kO5 kS5 kP5 kC5 : ClassId} {sc2 ou2 stp2 : Int32} {W2 SHa2 FIa2 LAa2 FRa2 TOa2 SL2 SC2 SQ2 SB2 SV2 SM2 SG2 SS2 SW2 SP2 SO2 SH2 SFm2 STo2 : Nat → Int32} {z2 u2 pl2 nP2 kc ks : Nat} {FXa2 PO2 SF2 : Nat → Int64} {kp2 : ClassId} {SR2 SX2 : Nat → Nat → Int32} {RL3 RR3 : Nat → Int64} {VC2 : Nat → Int32}, AsR ps cn ar F n (.inr (ls, vs)) → AnsR ps (FX cn rk (fun x => x ∈ E)) ls vs (rs.map (fun r => r.map (cnr cn rk))) → (∀ r ∈ rs, ∀ x ∈ r, x < cn.length) → rs.length = N → RwC (cols vs).length rs (nI N) RL3 RR3 → (cols vs).length ≤ 12 → RdI vS5 vL5 vN5 vT5 oS5 oL5 oN5 oT5 sz5 su5 sS5 sL5 sN5 sT5 sV5 sB5 → PqI ps cn ar rk pz5 pu5 pS5 pL5 pN5 pT5 PZ5 cz5 cu5 cS5 cL5 cN5 cT5 cV5 cB5 → FF2 0 = 0 → IxS E z2 u2 nP2 SHa2 FXa2 FIa2 LAa2 FRa2 TOa2 PO2 → cst (vN + oN + sN + pN + cN) (vN5 + oN5 + sN5 + pN5 + cN5) kc5 ks5 → cst nP nP2 kc ks → post (nI N) (0, 0, program_clauses_size_, program_clauses_literals_, pz5, pu5, pS5, pL5, ptx5, kP5, pN5, pT5, PZ5, cz5, cu5, cS5, cL5, ctx5, kC5, cN5, cT5, cV5, cB5, tz2, tl5, FF2, K5, P5, Pl5, Z5, M5, TT5, 0, place2, an5, 1, 12, bz5, ih5, fg5, ns5, ne5, po5, vz5, vu5, vS5, vL5, vtx5, kV5, vN5, vT5, kd5, sa5, sb5, vl5, nI n, ND5, oz5, ou5, oS5, oL5, otx5, kO5, oN5, oT5, OZ5, sz5, su5, sS5, sL5, stx5, kS5, sN5, sT5, sV5, sB5, sR5, fz, fh, facts_full_, FK, FS, FA, FP, FN, FT, FO, FW, sc2, (some question_), (-1), (some spareRows_), ou2, stp2, W2, nI z2, nI u2, SHa2, FXa2, FIa2, LAa2, FRa2, TOa2, pl2, kp2, nP2, PO2, spareRows_, nI N, nI (cols vs).length, 0, spareRows_left_, k_spareRows_left, RL3, spareRows_right_, k_spareRows_right, RR3, spareRows_variables_, k_spareRows_variables, VC2, rows_, rows_size_, rows_width_, rows_full_, rows_left_, k_rows_left, F_rows_left, rows_right_, k_rows_right, F_rows_right, rows_variables_, k_rows_variables, F_rows_variables, SL2, SC2, SQ2, SB2, SV2, SM2, SG2, SS2, SW2, SP2, SO2, SH2, SF2, SFm2, STo2, SR2, SX2, (kc5 + kc), (ks5 + ks))) : wp_met_SB_ask post mc ms 64 64 pN 1000 1000 cN 1000 1000 2 13 13 13 13 13 78 12 12 vN 12 12 oN 2 2 sN 2 2 2 nP question_ facts_ join_ rows_ spareRows_ program_predicates_text_ program_constants_names_text_ question_first_ question_kinds_ question_predicates_ question_places_ question_sizes_ question_masks_ question_terms_ reader_variables_text_ reader_ownPredicates_text_ reader_sides_names_text_ facts_keys_ facts_stages_ facts_amounts_ facts_predicates_ facts_next_ facts_slots_ facts_oldest_ facts_newest_ facts_known_ facts_knownBefore_ join_values_ join_indexes_ join_steps_ join_indexes_shapes_ join_indexes_fixed_ join_indexes_firsts_ join_indexes_lasts_ join_indexes_froms_ join_indexes_tos_ join_indexes_pool_ rows_left_ rows_right_ rows_variables_ spareRows_left_ spareRows_right_ spareRows_variables_ (nI n) 1 F program_clauses_size_ program_clauses_literals_ pz pu pS pL pT PZ cz cu cS cL cT cV cB FF F_question_kinds F_question_predicates F_question_places F_question_sizes F_question_masks F_question_terms reader_place_ reader_foreign_ reader_nameStart_ reader_nameStop_ vS vL vT reader_tokens_kind_ reader_tokens_start_ reader_tokens_value_ F_reader_needed oS oL oT F_reader_ownSizes sz su sS sL sT sV sB F_reader_sides_ranks fz fh facts_full_ (nI E.length) FK FS FA FP FN FT FO FW Kn Kb join_stepCount_ join_head_ join_stage_ join_output_ join_stopped_ F_join_values (nI z) (nI u) SHa FXa FIa LAa FRa TOa PO rows_size_ rows_width_ rows_full_ F_rows_left F_rows_right F_rows_variables spareRows_size_ spareRows_width_ spareRows_full_ F_spareRows_left F_spareRows_right F_spareRows_variables k_program_predicates_text k_program_constants_names_text k_reader_variables_text k_reader_ownPredicates_text k_reader_sides_names_text k_join_indexes_pool k_rows_left k_rows_right k_rows_variables k_spareRows_left k_spareRows_right k_spareRows_variables Gp Gr join_clauses_ join_rows_ sa st_literal st_scans st_freshOnly st_bound st_live st_soughtMask st_givenMask st_sought st_width st_predicate st_ordered st_shape st_fixed st_from st_to st_a_roles st_a_variables st_roles st_variables := by
  obtain ⟨hV, hO, hSd⟩ := hR
  obtain ⟨p1, p2, p3, p4, p5, p6⟩ := hP
  refine ⟨fun w => absurd w (by decide), fun _ => ⟨2000, 700000, by omega, by omega, ?_⟩⟩
  refine sp_Re_read_Q (md := 1) (ar := ar) (rk0 := rk) (ps := ps) (cn := cn) (Or.inl rfl) hn hF (Nat.le_refl _) (Nat.le_refl _) hV hO hSd p1 p3 p2 p4 p5 p6 hFF ?_ ?_
  · intros
    rename_i hEn hrk hRF hF0 hcs
    dsimp only
    have hz := Ends_nz hEn
    refine ⟨fun w => absurd w hz.1, fun _ => ?_⟩
    unfold jw_met_SB_ask_106
    refine sp_forgetTape ?_
    dsimp only
    refine ⟨fun w => absurd w hz.1, fun _ y hy => ?_⟩
    subst hy
    rw [Nat.zero_add, Nat.zero_add]
    exact h0 (Or.inl ⟨_, hEn, rfl⟩) hz.2 (RdI_RF hRF) (PqI_RF hRF (by decide) hrk p4 p5 p6) hF0 hcs
  · intros
    rename_i hEn hrk hQ hFi hcs
    dsimp only
    have hRF := RdQ_RF hQ
    have hF2 := FinQ_F0 hFi (RdQ_F0 hQ)
    have hle := RF_le hRF
    obtain ⟨t1, t2, t3⟩ := id hcs
    rcases Qu_end hEn hQ hFi with ⟨hc0, hA, hK, hFF1, hvz, hMK, h12⟩ | ⟨e, hA, he1, he2, he3, hc, hp⟩
    · subst hc0
      refine ⟨fun _ => ?_, fun w => absurd rfl w⟩
      subst hvz
      have hrk1 := hrk (by decide)
      subst hrk1
      refine sp_Ro_open h12 hMK (fun co VC2 hcl hco => ?_)
      dsimp only
      have hco2 := cols_of hcl
      subst hco2
      refine ⟨4000, 2000000, by omega, by omega, ?_⟩
      refine sp_answer hK hFF1 hRk hFa hKn hG (by omega) (by omega) hIx hco (fun sc2 stp2 W2 z2 u2 SHa2 FXa2 FIa2 LAa2 FRa2 TOa2 pl2 kp2 nP2 PO2 rz2 rf2 RL2 RR2 SL2 SC2 SQ2 SB2 SV2 SM2 SG2 SS2 SW2 SP2 SO2 SH2 SF2 SFm2 STo2 SR2 SX2 kc ks ou2 RS w1 w2 w3 w4 => ?_)
      dsimp only
      have hrz := w1.2.1
      subst hrz
      rcases w4 with ⟨q1, q2, q3, q4⟩ | ⟨q1, q2⟩
      · subst q1
        refine ⟨fun _ => ?_, fun w => absurd rfl w⟩
        unfold jw_met_SB_ask_106
        refine sp_forgetTape ?_
        dsimp only
        refine ⟨fun _ => ?_, fun w => absurd rfl w⟩
        refine sp_Ro_sort w1.1 hGr (fun RL3 RR3 s1 s2 => ?_)
        dsimp only
        obtain ⟨rs, r1, r2, r3, r4⟩ := Rw_sort hco.1 w1 q2 s1 s2
        obtain ⟨a1, a2⟩ := q3 rs r2 r4 (by rw [r3]; exact w1.1)
        rw [Nat.zero_add, Nat.zero_add]
        exact h1 hA a1 a2 r3 r1 hco.1 (RdI_RF hRF) (PqI_RF hRF (by decide) (fun _ => rfl) p4 p5 p6) hF2 w2 hcs w3
      · exact absurd q2 (hno _ _ hA)
    · subst hc hp
      have hz := nI_nz he1 (by omega)
      refine ⟨fun w => absurd w hz, fun _ => ?_⟩
      unfold jw_met_SB_ask_106
      refine sp_forgetTape ?_
      dsimp only
      refine ⟨fun w => absurd w hz, fun _ y hy => ?_⟩
      subst hy
      rw [Nat.zero_add, Nat.zero_add]
      exact h0 hA ⟨he1, he2⟩ (RdI_RF hRF) (PqI_RF hRF (by decide) hrk p4 p5 p6) hF2 hcs
theorem cl_askU {post : (Int32 × Int32 × Int32 × Int32 × (Nat → Int32) × (Nat → Int32) × Nat × ClassId × Nat × (Nat → Int32) × (Nat → Int32) × Int32 × Int32 × (Nat → Int32) × (Nat → Int32) × Nat × ClassId × Nat × (Nat → Int32) × (Nat → Int32) × (Nat → Int32) × Int32 × Int32 × (Nat → Int32) × (Nat → Int32) × (Nat → Int32) × (Nat → Int32) × (Nat → Int32) × (Nat → Int32) × (Nat → Int32) × Int32 × Int32 × Int32 × Int32 × Int32 × Int32 × Int32 × Int32 × Int32 × Int32 × Int32 × Int32 × Int32 × (Nat → Int32) × (Nat → Int32) × Nat × ClassId × Nat × (Nat → Int32) × Int32 × Int32 × Int32 × Int32 × Int32 × (Nat → Int32) × Int32 × Int32 × (Nat → Int32) × (Nat → Int32) × Nat × ClassId × Nat × (Nat → Int32) × (Nat → Int32) × Int32 × Int32 × (Nat → Int32) × (Nat → Int32) × Nat × ClassId × Nat × (Nat → Int32) × (Nat → Int32) × (Nat → Int32) × (Nat → Int32) × Int32 × Int32 × Int32 × (Nat → Int64) × (Nat → Int32) × (Nat → Int32) × (Nat → Int32) × (Nat → Int32) × (Nat → Int32) × (Nat → Int32) × (Nat → Int32) × Int32 × Int32 × Int32 × Int32 × (Nat → Int32) × Int32 × Int32 × (Nat → Int32) × (Nat → Int64) × (Nat → Int32) × (Nat → Int32) × (Nat → Int32) × (Nat → Int32) × Nat × ClassId × Nat × (Nat → Int64) × Int32 × Int32 × Int32 × (Nat → Int64) × (Nat → Int64) × (Nat → Int32) × (Nat → Int32) × (Nat → Int32) × (Nat → Int32) × (Nat → Int32) × (Nat → Int32) × (Nat → Int32) × (Nat → Int32) × (Nat → Int32) × (Nat → Int32) × (Nat → Int32) × (Nat → Int32) × (Nat → Int32) × (Nat → Int64) × (Nat → Int32) × (Nat → Int32) × (Nat → Nat → Int32) × (Nat → Nat → Int32) × Nat × Nat) → Prop} (hn : n ≤ 20480) (hF : ∀ j, j < n → byt (F j)) (hmc : 6000 ≤ mc) (hms : 2700000 ≤ ms) (hR : RdI vS vL vN vT oS oL oN oT sz su sS sL sN sT sV sB) (hP : PqI ps cn ar rk pz pu pS pL pN pT PZ cz cu cS cL cN cT cV cB) (hFF : FF 0 = 0) (hFa : FaR ar E sgE fz fh FK FS FA FP FN FT FO FW) (hKn : KnQ E E.length Kn Kb) (hIx : IxS E z u nP SHa FXa FIa LAa FRa TOa PO) (hRk : RkE cn E) (hG : GpI 11 Gp) {ls : List Lt} {vs : List (Option Wd)} (hA0 : AsR ps cn ar F n (.inr (ls, vs))) (hov : AnsO ps (FX cn rk (fun x => x ∈ E)) ls vs)
    (h1 : ∀ {place2 rz2 : Int32} {an5 bz5 ih5 fg5 ns5 ne5 po5 vz5 vu5 kd5 sa5 sb5 vl5 oz5 ou5 sz5 su5 pz5 pu5 cz5 cu5 tz2 tl5 : Int32} {vS5 vL5 vT5 ND5 oS5 oL5 oT5 OZ5 sS5 sL5 sT5 sV5 sB5 sR5 pS5 pL5 pT5 PZ5 cS5 cL5 cT5 cV5 cB5 FF2 K5 P5 Pl5 Z5 M5 TT5 : Nat → Int32} {vtx5 vN5 otx5 oN5 stx5 sN5 ptx5 pN5 ctx5 cN5 kc5 ks5 : Nat} {kV5 kO5 kS5 kP5 kC5 : ClassId} {sc2 ou2 stp2 : Int32} {W2 SHa2 FIa2 LAa2 FRa2 TOa2 SL2 SC2 SQ2 SB2 SV2 SM2 SG2 SS2 SW2 SP2 SO2 SH2 SFm2 STo2 : Nat → Int32} {z2 u2 pl2 nP2 kc ks : Nat} {FXa2 PO2 SF2 RL2 RR2 : Nat → Int64} {kp2 : ClassId} {SR2 SX2 : Nat → Nat → Int32} {VC2 : Nat → Int32}, RdI vS5 vL5 vN5 vT5 oS5 oL5 oN5 oT5 sz5 su5 sS5 sL5 sN5 sT5 sV5 sB5 → PqI ps cn ar rk pz5 pu5 pS5 pL5 pN5 pT5 PZ5 cz5 cu5 cS5 cL5 cN5 cT5 cV5 cB5 → FF2 0 = 0 → IxS E z2 u2 nP2 SHa2 FXa2 FIa2 LAa2 FRa2 TOa2 PO2 → cst (vN + oN + sN + pN + cN) (vN5 + oN5 + sN5 + pN5 + cN5) kc5 ks5 → cst nP nP2 kc ks → post (program_clauses_size_, program_clauses_literals_, pz5, pu5, pS5, pL5, ptx5, kP5, pN5, pT5, PZ5, cz5, cu5, cS5, cL5, ctx5, kC5, cN5, cT5, cV5, cB5, tz2, tl5, FF2, K5, P5, Pl5, Z5, M5, TT5, 0, place2, an5, 1, 12, bz5, ih5, fg5, ns5, ne5, po5, vz5, vu5, vS5, vL5, vtx5, kV5, vN5, vT5, kd5, sa5, sb5, vl5, nI n, ND5, oz5, ou5, oS5, oL5, otx5, kO5, oN5, oT5, OZ5, sz5, su5, sS5, sL5, stx5, kS5, sN5, sT5, sV5, sB5, sR5, fz, fh, facts_full_, FK, FS, FA, FP, FN, FT, FO, FW, sc2, (-1), ou2, stp2, W2, nI z2, nI u2, SHa2, FXa2, FIa2, LAa2, FRa2, TOa2, pl2, kp2, nP2, PO2, rz2, nI (cols vs).length, 1, RL2, RR2, VC2, SL2, SC2, SQ2, SB2, SV2, SM2, SG2, SS2, SW2, SP2, SO2, SH2, SF2, SFm2, STo2, SR2, SX2, ((kc5 + kc) + 1), ((ks5 + ks) + 6))) : wp_thr_SB_ask_UOE post mc ms 64 64 pN 1000 1000 cN 1000 1000 2 13 13 13 13 13 78 12 12 vN 12 12 oN 2 2 sN 2 2 2 nP question_ facts_ join_ spareRows_ program_predicates_text_ program_constants_names_text_ question_first_ question_kinds_ question_predicates_ question_places_ question_sizes_ question_masks_ question_terms_ reader_variables_text_ reader_ownPredicates_text_ reader_sides_names_text_ facts_keys_ facts_stages_ facts_amounts_ facts_predicates_ facts_next_ facts_slots_ facts_oldest_ facts_newest_ facts_known_ facts_knownBefore_ join_values_ join_indexes_ join_steps_ join_indexes_shapes_ join_indexes_fixed_ join_indexes_firsts_ join_indexes_lasts_ join_indexes_froms_ join_indexes_tos_ join_indexes_pool_ spareRows_left_ spareRows_right_ spareRows_variables_ (nI n) 1 F program_clauses_size_ program_clauses_literals_ pz pu pS pL pT PZ cz cu cS cL cT cV cB FF F_question_kinds F_question_predicates F_question_places F_question_sizes F_question_masks F_question_terms reader_place_ reader_foreign_ reader_nameStart_ reader_nameStop_ vS vL vT reader_tokens_kind_ reader_tokens_start_ reader_tokens_value_ F_reader_needed oS oL oT F_reader_ownSizes sz su sS sL sT sV sB F_reader_sides_ranks fz fh facts_full_ (nI E.length) FK FS FA FP FN FT FO FW Kn Kb join_stepCount_ join_stage_ F_join_values (nI z) (nI u) SHa FXa FIa LAa FRa TOa PO F_spareRows_left F_spareRows_right F_spareRows_variables k_program_predicates_text k_program_constants_names_text k_reader_variables_text k_reader_ownPredicates_text k_reader_sides_names_text k_join_indexes_pool Gp sa st_literal st_scans st_freshOnly st_bound st_live st_soughtMask st_givenMask st_sought st_width st_predicate st_ordered st_shape st_fixed st_from st_to st_a_roles st_a_variables st_roles st_variables := by
  obtain ⟨hV, hO, hSd⟩ := hR
  obtain ⟨p1, p2, p3, p4, p5, p6⟩ := hP
  refine ⟨(by decide), 2000, 700000, by omega, by omega, ?_⟩
  refine sp_Re_read_Q (md := 1) (ar := ar) (rk0 := rk) (ps := ps) (cn := cn) (Or.inl rfl) hn hF (Nat.le_refl _) (Nat.le_refl _) hV hO hSd p1 p3 p2 p4 p5 p6 hFF ?_ ?_
  · intros
    rename_i hEn hrk hRF hF0 hcs
    have := AsR_one (by omega) p4 p5 p6 hA0 (Or.inl ⟨_, hEn, rfl⟩)
    cases this
  · intros
    rename_i hEn hrk hQ hFi hcs
    dsimp only
    have hRF := RdQ_RF hQ
    have hF2 := FinQ_F0 hFi (RdQ_F0 hQ)
    have hle := RF_le hRF
    obtain ⟨t1, t2, t3⟩ := id hcs
    rcases Qu_end hEn hQ hFi with ⟨hc0, hA, hK, hFF1, hvz, hMK, h12⟩ | ⟨e, hA, he1, he2, he3, hc, hp⟩
    · subst hc0
      refine ⟨rfl, ?_⟩
      subst hvz
      have hrk1 := hrk (by decide)
      subst hrk1
      have hsame := AsR_one (by omega) p4 p5 p6 hA0 hA
      have e1 : ls = _ := congrArg Prod.fst (Sum.inr.inj hsame)
      have e2 : vs = _ := congrArg Prod.snd (Sum.inr.inj hsame)
      dsimp only at e1 e2
      subst e1 e2
      refine sp_Ro_open h12 hMK (fun co VC2 hcl hco => ?_)
      dsimp only
      have hco2 := cols_of hcl
      subst hco2
      refine ⟨4000, 2000000, by omega, by omega, ?_⟩
      refine sp_answer hK hFF1 hRk hFa hKn hG (by omega) (by omega) hIx hco (fun sc2 stp2 W2 z2 u2 SHa2 FXa2 FIa2 LAa2 FRa2 TOa2 pl2 kp2 nP2 PO2 rz2 rf2 RL2 RR2 SL2 SC2 SQ2 SB2 SV2 SM2 SG2 SS2 SW2 SP2 SO2 SH2 SF2 SFm2 STo2 SR2 SX2 kc ks ou2 RS w1 w2 w3 w4 => ?_)
      dsimp only
      rcases w4 with ⟨q1, q2, q3, q4⟩ | ⟨q1, q2⟩
      · exact absurd hov q4
      · subst q1
        obtain ⟨u1, u2, u3⟩ := id w3
        have u4 := w2.1.2.2
        rw [Nat.zero_add, Nat.zero_add]
        refine ⟨(by decide), by omega, by omega, ?_⟩
        exact h1 (RdI_RF hRF) (PqI_RF hRF (by decide) (fun _ => rfl) p4 p5 p6) hF2 w2 hcs w3
    · have := AsR_one (by omega) p4 p5 p6 hA0 hA
      cases this
end CAk
