/-! the law: all turns -/
set_option maxHeartbeats 4000000 in
set_option maxRecDepth 100000 in
theorem law_inv {L : Nat} {xs : Nat → Int32} {tape_ facts_ join_ facts_keys_ facts_stages_ facts_amounts_ facts_predicates_ facts_next_ facts_slots_ facts_oldest_ facts_newest_ facts_known_ facts_knownBefore_ join_values_ join_indexes_ join_steps_ join_indexes_shapes_ join_indexes_fixed_ join_indexes_firsts_ join_indexes_lasts_ join_indexes_froms_ join_indexes_tos_ question_ question_first_ question_kinds_ question_predicates_ question_places_ question_sizes_ question_masks_ question_terms_ : Nat} {F_gaps_Ix F_gaps_Ro : Nat → Int32} {sa st_a_roles st_a_variables : Nat → Nat} (hL : L ≤ 3072) (hgI : GpI 11 F_gaps_Ix) (hgR : GpI 9 F_gaps_Ro) : ∀ (m c : Nat), c + m = 513 → ∀ t, LInv c t → lw_law_23 L xs tape_ 12 12 12 12 2 2 2 2 2 facts_ join_ facts_keys_ facts_stages_ facts_amounts_ facts_predicates_ facts_next_ facts_slots_ facts_oldest_ facts_newest_ facts_known_ facts_knownBefore_ join_values_ join_indexes_ join_steps_ join_indexes_shapes_ join_indexes_fixed_ join_indexes_firsts_ join_indexes_lasts_ join_indexes_froms_ join_indexes_tos_ F_gaps_Ix sa st_a_roles st_a_variables 2 13 13 13 13 13 78 question_ question_first_ question_kinds_ question_predicates_ question_places_ question_sizes_ question_masks_ question_terms_ F_gaps_Ro (m + 1) t := by
  intro m
  induction m with
  | zero =>
    intro c hcm t ht
    refine tup_all (Q := fun t => LInv c t → lw_law_23 L xs tape_ 12 12 12 12 2 2 2 2 2 facts_ join_ facts_keys_ facts_stages_ facts_amounts_ facts_predicates_ facts_next_ facts_slots_ facts_oldest_ facts_newest_ facts_known_ facts_knownBefore_ join_values_ join_indexes_ join_steps_ join_indexes_shapes_ join_indexes_fixed_ join_indexes_firsts_ join_indexes_lasts_ join_indexes_froms_ join_indexes_tos_ F_gaps_Ix sa st_a_roles st_a_variables 2 13 13 13 13 13 78 question_ question_first_ question_kinds_ question_predicates_ question_places_ question_sizes_ question_masks_ question_terms_ F_gaps_Ro (0 + 1) t) ?_ t ht
    intros
    rename_i h
    have ih0 : 6 * c + 6 ≤ L → ∀ t, LInv (c + 1) t → lw_law_23 L xs tape_ 12 12 12 12 2 2 2 2 2 facts_ join_ facts_keys_ facts_stages_ facts_amounts_ facts_predicates_ facts_next_ facts_slots_ facts_oldest_ facts_newest_ facts_known_ facts_knownBefore_ join_values_ join_indexes_ join_steps_ join_indexes_shapes_ join_indexes_fixed_ join_indexes_firsts_ join_indexes_lasts_ join_indexes_froms_ join_indexes_tos_ F_gaps_Ix sa st_a_roles st_a_variables 2 13 13 13 13 13 78 question_ question_first_ question_kinds_ question_predicates_ question_places_ question_sizes_ question_masks_ question_terms_ F_gaps_Ro 0 t := fun q => absurd q (by omega)
    have q9 := law_body hL (show c ≤ 513 by omega) hgI hgR ih0 h
    exact law_unf q9
  | succ m IH =>
    intro c hcm t ht
    refine tup_all (Q := fun t => LInv c t → lw_law_23 L xs tape_ 12 12 12 12 2 2 2 2 2 facts_ join_ facts_keys_ facts_stages_ facts_amounts_ facts_predicates_ facts_next_ facts_slots_ facts_oldest_ facts_newest_ facts_known_ facts_knownBefore_ join_values_ join_indexes_ join_steps_ join_indexes_shapes_ join_indexes_fixed_ join_indexes_firsts_ join_indexes_lasts_ join_indexes_froms_ join_indexes_tos_ F_gaps_Ix sa st_a_roles st_a_variables 2 13 13 13 13 13 78 question_ question_first_ question_kinds_ question_predicates_ question_places_ question_sizes_ question_masks_ question_terms_ F_gaps_Ro (m + 1 + 1) t) ?_ t ht
    intros
    rename_i h
    have ih0 : 6 * c + 6 ≤ L → ∀ t, LInv (c + 1) t → lw_law_23 L xs tape_ 12 12 12 12 2 2 2 2 2 facts_ join_ facts_keys_ facts_stages_ facts_amounts_ facts_predicates_ facts_next_ facts_slots_ facts_oldest_ facts_newest_ facts_known_ facts_knownBefore_ join_values_ join_indexes_ join_steps_ join_indexes_shapes_ join_indexes_fixed_ join_indexes_firsts_ join_indexes_lasts_ join_indexes_froms_ join_indexes_tos_ F_gaps_Ix sa st_a_roles st_a_variables 2 13 13 13 13 13 78 question_ question_first_ question_kinds_ question_predicates_ question_places_ question_sizes_ question_masks_ question_terms_ F_gaps_Ro (m + 1) t := fun _ t ht => IH (c + 1) (by omega) t ht
    have q9 := law_body hL (show c ≤ 513 by omega) hgI hgR ih0 h
    exact law_unf q9
