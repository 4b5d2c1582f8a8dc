/-! pure: the class loads -/
theorem mName_flt {md : Nat} {F : Nat → Int32} {D : Dt} {kd : Int32} {np a b k2 : Nat} {e : Nat × Nat} (h : mName md F D kd np a b k2 = .inl e) : e.1 = 3 := by
  unfold mName at h
  split at h
  · cases h
  · cases h
    rfl
theorem mStep_flt {md n k : Nat} {F : Nat → Int32} {c : Ct} {D : Dt} {e : Nat × Nat} (h : mStep md F n c D k = .inl e) : e.1 = 1 ∨ e.1 = 2 ∨ e.1 = 3 := by
  have h1 : ∀ {a : Nat}, (Sum.inl (1, a) : Rs) = Sum.inl e → e.1 = 1 ∨ e.1 = 2 ∨ e.1 = 3 := fun q => Or.inl (congrArg Prod.fst (Sum.inl.inj q)).symm
  have h2 : ∀ {a : Nat}, (Sum.inl (2, a) : Rs) = Sum.inl e → e.1 = 1 ∨ e.1 = 2 ∨ e.1 = 3 := fun q => Or.inr (Or.inl (congrArg Prod.fst (Sum.inl.inj q)).symm)
  have h3 : ∀ {a : Nat}, (Sum.inl (3, a) : Rs) = Sum.inl e → e.1 = 1 ∨ e.1 = 2 ∨ e.1 = 3 := fun q => Or.inr (Or.inr (congrArg Prod.fst (Sum.inl.inj q)).symm)
  have h4 : ∀ {x : Option (Ct × Dt × Nat)}, (Sum.inr x : Rs) = Sum.inl e → e.1 = 1 ∨ e.1 = 2 ∨ e.1 = 3 := fun q => by cases q
  have h5 : ∀ {D : Dt} {kd : Int32} {np a b k2 : Nat}, mName md F D kd np a b k2 = Sum.inl e → e.1 = 1 ∨ e.1 = 2 ∨ e.1 = 3 := fun q => Or.inr (Or.inr (mName_flt q))
  have h6 : ∀ {D : Dt} {k2 : Nat}, mShut md D k2 = Sum.inl e → e.1 = 1 ∨ e.1 = 2 ∨ e.1 = 3 := fun q => h4 q
  have h7 : ∀ {D : Dt} {k2 : Nat}, mDot D k2 = Sum.inl e → e.1 = 1 ∨ e.1 = 2 ∨ e.1 = 3 := fun q => h4 q
  unfold mStep at h
  dsimp only at h
  by_cases e2 : c.1 = 2
  · rw [if_pos e2] at h
    split at h
    · exact h4 h
    · exact h6 h
  rw [if_neg e2] at h
  by_cases e7 : c.1 = 7
  · rw [if_pos e7] at h
    split at h
    · split at h
      · exact h4 h
      · exact h3 h
    · exact h5 h
  rw [if_neg e7] at h
  by_cases kb : (TK F n k).1 = 1
  · rw [if_pos kb] at h
    exact h1 h
  rw [if_neg kb] at h
  by_cases e0 : c.1 = 0
  · rw [if_pos e0] at h
    split at h
    · exact h4 h
    · split at h
      · exact h2 h
      · split at h
        · exact h3 h
        · exact h5 h
  rw [if_neg e0] at h
  by_cases e1 : c.1 = 1
  · rw [if_pos e1] at h
    split at h
    · exact h2 h
    · exact h5 h
  rw [if_neg e1] at h
  by_cases e3 : c.1 = 3
  · rw [if_pos e3] at h
    split at h
    · exact h2 h
    · split at h
      · exact h3 h
      · split at h
        · exact h4 h
        · exact h3 h
  rw [if_neg e3] at h
  by_cases e4 : c.1 = 4
  · rw [if_pos e4] at h
    split at h
    · exact h4 h
    · split at h
      · exact h6 h
      · exact h2 h
  rw [if_neg e4] at h
  by_cases e5 : c.1 = 5
  · rw [if_pos e5] at h
    split at h
    · exact h7 h
    · split at h
      · exact h4 h
      · exact h2 h
  rw [if_neg e5] at h
  by_cases e6 : c.1 = 6
  · rw [if_pos e6] at h
    generalize 12 + (if md = 0 then 1 else 0) = lm at h
    split at h
    · exact h2 h
    · split at h
      · exact h3 h
      · split at h
        · exact h4 h
        · split at h
          · exact h4 h
          · split at h
            · exact h4 h
            · exact h3 h
  rw [if_neg e6] at h
  by_cases e8 : c.1 = 8
  · rw [if_pos e8] at h
    split at h
    · exact h4 h
    · exact h2 h
  rw [if_neg e8] at h
  by_cases e9 : c.1 = 9
  · rw [if_pos e9] at h
    split at h
    · exact h2 h
    · split at h
      · exact h4 h
      · exact h3 h
  rw [if_neg e9] at h
  by_cases e10 : c.1 = 10
  · rw [if_pos e10] at h
    split at h
    · exact h4 h
    · split at h
      · exact h7 h
      · split at h
        · exact h4 h
        · exact h2 h
  rw [if_neg e10] at h
  split at h
  · exact h4 h
  · exact h2 h
theorem Ends_nz {md n k : Nat} {F : Nat → Int32} {c : Ct} {D : Dt} {e : Nat × Nat} (h : Ends md F n c D k (.inl e)) : ¬ nI e.1 = 0 ∧ 1 ≤ e.1 ∧ e.1 ≤ 20 := by
  have q : ∀ (f : Nat) (c : Ct) (D : Dt) (k : Nat), mRun md F n f c D k = some (.inl e) → e.1 = 1 ∨ e.1 = 2 ∨ e.1 = 3 := by
    intro f
    induction f with
    | zero =>
      intro c D k h
      unfold mRun at h
      exact absurd h (by simp)
    | succ f ih =>
      intro c D k h
      unfold mRun at h
      cases hs : mStep md F n c D k with
      | inl x =>
        rw [hs] at h
        obtain rfl : x = e := Sum.inl.inj (Option.some.inj h)
        exact mStep_flt hs
      | inr x =>
        rw [hs] at h
        cases x with
        | none => exact absurd (Option.some.inj h) (by simp)
        | some y => exact ih _ _ _ h
  obtain ⟨f, hf⟩ := h
  rcases q f c D k hf with z | z | z <;> rw [z] <;> decide
theorem FinQ_F0 {ar : Nat → Nat} {c : Ct} {D : Dt} {code place tz : Int32} {FF : Nat → Int32} {code2 place2 tz2 : Int32} {FF2 : Nat → Int32} {md : Nat} (h : FinQ md ar c D code place tz FF code2 place2 tz2 FF2) (h0 : FF 0 = 0) : FF2 0 = 0 := by
  rcases h with ⟨-, -, -, -, h⟩ | ⟨-, -, -, -, h⟩
  · rw [h]
    exact h0
  · rw [h]
    unfold upd
    rw [if_neg (by omega)]
    exact h0
theorem MK_00 : MK (fun _ => False) 0 := ⟨0, by decide, rfl, fun v _ => ⟨fun h => absurd h (by rw [Nat.zero_testBit]; decide), fun h => h.elim⟩⟩
theorem sp_forgetTape {post : (Int32 × Int32) → Prop} {c : Int32} (h : post (0, c)) : wp_met_SB_forgetTape post c := h
/-- the reader's own tables -/
def RdI (vS vL : Nat → Int32) (vN : Nat) (vT oS oL : Nat → Int32) (oN : Nat) (oT : Nat → Int32) (sz su : Int32) (sS sL : Nat → Int32) (sN : Nat) (sT sV sB : Nat → Int32) : Prop := (∃ ws a b, NB 12 ws a b vS vL vN vT) ∧ (∃ ws a b, NB 12 ws a b oS oL oN oT) ∧ ∃ sd, CB 2 sd sz su sS sL sN sT sV sB
/-- a program that lies spare -/
def SpI (FF pS pL : Nat → Int32) (pN : Nat) (pT cS cL : Nat → Int32) (cN : Nat) (cT cV cB : Nat → Int32) : Prop := FF 0 = 0 ∧ (∃ ps a b, NB 64 ps a b pS pL pN pT) ∧ ∃ cn rk a b, CBr 1000 cn rk a b cS cL cN cT cV cB
/-- the program that is loaded -/
def PgI (D : Dt) (rk L : Nat → Nat) (S : Nat) (sc tz : Int32) (FF K P Z M T : Nat → Int32) (pz pu : Int32) (pS pL : Nat → Int32) (pN : Nat) (pT PZ ST : Nat → Int32) (cz cu : Int32) (cS cL : Nat → Int32) (cN : Nat) (cT cV cB : Nat → Int32) : Prop := (∃ G, PgK G D.2.2.2.2.1 D.2.2.2.2.2 D.1 rk (arF D.2.2.2.2.1 D.1) L tz FF K P Z M T ST cV cB) ∧ NB 64 D.2.2.2.2.1 pz pu pS pL pN pT ∧ CBr 1000 D.2.2.2.2.2 rk cz cu cS cL cN cT cV cB ∧ (∀ p, p < D.2.2.2.2.1.length → PZ p = nI (arF D.2.2.2.2.1 D.1 p)) ∧ (∀ p, arF D.2.2.2.2.1 D.1 p ≤ 6) ∧ (D.2.2.2.2.2.Nodup ∧ ∀ c ∈ D.2.2.2.2.2, wOk c) ∧ FF 0 = 0 ∧ sc = nI S ∧ ScQ D.2.2.2.2.1 L D.2.2.2.2.1.length S
theorem RdI_RF {md : Nat} {ar rk : Nat → Nat} {q0 : List Wd × List Con} {vz vu : Int32} {vS vL : Nat → Int32} {vN : Nat} {vT : Nat → Int32} {oz ou : Int32} {oS oL : Nat → Int32} {oN : Nat} {oT : Nat → Int32} {sz su : Int32} {sS sL : Nat → Int32} {sN : Nat} {sT sV sB : Nat → Int32} {pz pu : Int32} {pS pL : Nat → Int32} {pN : Nat} {pT PZ : Nat → Int32} {cz cu : Int32} {cS cL : Nat → Int32} {cN : Nat} {cT cV cB : Nat → Int32} (h : RF md ar rk q0 vz vu vS vL vN vT oz ou oS oL oN oT sz su sS sL sN sT sV sB pz pu pS pL pN pT PZ cz cu cS cL cN cT cV cB) : RdI vS vL vN vT oS oL oN oT sz su sS sL sN sT sV sB := by
  obtain ⟨⟨w, h1⟩, ⟨o, h2⟩, h3, -, -⟩ := h
  exact ⟨⟨w, _, _, h1⟩, ⟨o, _, _, h2⟩, h3⟩
theorem SpI_RF {md : Nat} {ar rk : Nat → Nat} {q0 : List Wd × List Con} {vz vu : Int32} {vS vL : Nat → Int32} {vN : Nat} {vT : Nat → Int32} {oz ou : Int32} {oS oL : Nat → Int32} {oN : Nat} {oT : Nat → Int32} {sz su : Int32} {sS sL : Nat → Int32} {sN : Nat} {sT sV sB : Nat → Int32} {pz pu : Int32} {pS pL : Nat → Int32} {pN : Nat} {pT PZ : Nat → Int32} {cz cu : Int32} {cS cL : Nat → Int32} {cN : Nat} {cT cV cB FF : Nat → Int32} (h : RF md ar rk q0 vz vu vS vL vN vT oz ou oS oL oN oT sz su sS sL sN sT sV sB pz pu pS pL pN pT PZ cz cu cS cL cN cT cV cB) (h0 : FF 0 = 0) : SpI FF pS pL pN pT cS cL cN cT cV cB := by
  obtain ⟨-, -, -, ⟨ps, h4, -⟩, ⟨cn, r, h5, -⟩⟩ := h
  exact ⟨h0, ⟨ps, _, _, h4⟩, ⟨cn, r, _, _, h5⟩⟩
theorem PgI_Sp {D : Dt} {rk L : Nat → Nat} {S : Nat} {sc tz : Int32} {FF K P Z M T : Nat → Int32} {pz pu : Int32} {pS pL : Nat → Int32} {pN : Nat} {pT PZ ST : Nat → Int32} {cz cu : Int32} {cS cL : Nat → Int32} {cN : Nat} {cT cV cB : Nat → Int32} (h : PgI D rk L S sc tz FF K P Z M T pz pu pS pL pN pT PZ ST cz cu cS cL cN cT cV cB) : SpI FF pS pL pN pT cS cL cN cT cV cB := ⟨h.2.2.2.2.2.2.1, ⟨_, _, _, h.2.1⟩, ⟨_, _, _, _, h.2.2.1⟩⟩
theorem Ld_na {n k : Nat} {F : Nat → Int32} {ar rk : Nat → Nat} {q0 : List Wd × List Con} {c : Ct} {D : Dt} {code place an st bz ih fg ns ne po vz vu : Int32} {vS vL : Nat → Int32} {vN : Nat} {vT ND : Nat → Int32} {oz ou : Int32} {oS oL : Nat → Int32} {oN : Nat} {oT OZ : Nat → Int32} {sz su : Int32} {sS sL : Nat → Int32} {sN : Nat} {sT sV sB : Nat → Int32} {pz pu : Int32} {pS pL : Nat → Int32} {pN : Nat} {pT PZ : Nat → Int32} {cz cu : Int32} {cS cL : Nat → Int32} {cN : Nat} {cT cV cB : Nat → Int32} {tz tl : Int32} {FF K P Pl Z M TT : Nat → Int32} {code2 place2 tz2 : Int32} {FF2 : Nat → Int32} (hQ : RdQ 0 n F ar rk q0 c D k code place an st bz ih fg ns ne po vz vu vS vL vN vT ND oz ou oS oL oN oT OZ sz su sS sL sN sT sV sB pz pu pS pL pN pT PZ cz cu cS cL cN cT cV cB tz tl FF K P Pl Z M TT) (hFi : FinQ 0 ar c D code place tz FF code2 place2 tz2 FF2) : D.2.1 = [] ∧ NA 0 n F D := by
  obtain ⟨⟨-, -, hOI, hNI, hMS, -⟩, -⟩ := hQ
  have h0 : c.1 = 0 := by
    rcases hFi with ⟨z | z, -⟩ | ⟨-, z, -⟩
    · exact z
    · have := hMS.2.2.2.2.2 z
      omega
    · omega
  unfold OI at hOI
  rw [if_pos h0] at hOI
  exact ⟨hOI, hNI.2.1 (fun z => by unfold opn at z; omega)⟩
theorem LdR_wa {F : Nat → Int32} {n : Nat} {D : Dt} (h : LdR F n (.inr D)) : (∀ c p, ¬ WA D.1 c p) ∧ ∀ c j, ¬ Flg D.2.2.2.2.1 D.1 c j := by
  rcases h with ⟨e, -, h⟩ | ⟨D2, -, ⟨c, p, -, -, h⟩ | ⟨h1, ⟨p, -, h⟩ | ⟨h2, h⟩⟩⟩
  · cases h
  · cases h
  · cases h
  · obtain rfl := Sum.inr.inj h
    exact ⟨h1, h2⟩
section CLd
variable {n mc ms : Nat} {F : Nat → Int32} {vS vL : Nat → Int32} {vN : Nat} {vT oS oL : Nat → Int32} {oN : Nat} {oT : Nat → Int32} {sz su : Int32} {sS sL : Nat → Int32} {sN : Nat} {sT sV sB : Nat → Int32} {pS pL : Nat → Int32} {pN : Nat} {pT cS cL : Nat → Int32} {cN : Nat} {cT cV cB FF : Nat → Int32} {n_program_clauses_first n_program_clauses_kinds n_program_clauses_predicates n_program_clauses_places n_program_clauses_sizes n_program_clauses_masks n_program_clauses_terms n_program_predicates_starts n_program_predicates_lengths n_program_predicates_text n_program_constants_names_starts n_program_constants_names_lengths n_program_constants_names_text n_program_constants_values n_program_constants_byRank n_program_constants_ranks program_ spare_ program_clauses_ program_predicates_ program_sizes_ program_strata_ program_constants_ program_reached_ program_clauses_first_ program_clauses_kinds_ program_clauses_predicates_ program_clauses_places_ program_clauses_sizes_ program_clauses_masks_ program_clauses_terms_ program_predicates_starts_ program_predicates_lengths_ program_predicates_text_ program_constants_names_ program_constants_values_ program_constants_byRank_ program_constants_ranks_ program_constants_names_starts_ program_constants_names_lengths_ program_constants_names_text_ spare_clauses_ spare_predicates_ spare_sizes_ spare_strata_ spare_constants_ spare_reached_ spare_clauses_first_ spare_clauses_kinds_ spare_clauses_predicates_ spare_clauses_places_ spare_clauses_sizes_ spare_clauses_masks_ spare_clauses_terms_ spare_predicates_starts_ spare_predicates_lengths_ spare_predicates_text_ spare_constants_names_ spare_constants_values_ spare_constants_byRank_ spare_constants_ranks_ spare_constants_names_starts_ spare_constants_names_lengths_ spare_constants_names_text_ reader_variables_text_ reader_ownPredicates_text_ reader_sides_names_text_ : Nat} {ran_ overflowed_ program_strataCount_ program_clauses_size_ program_clauses_literals_ program_predicates_size_ program_predicates_used_ program_constants_names_size_ program_constants_names_used_ spare_strataCount_ reader_place_ reader_foreign_ reader_nameStart_ reader_nameStop_ reader_tokens_kind_ reader_tokens_start_ reader_tokens_value_ rows_size_ rows_width_ rows_full_ : Int32} {F_program_clauses_first F_program_clauses_kinds F_program_clauses_predicates F_program_clauses_places F_program_clauses_sizes F_program_clauses_masks F_program_clauses_terms F_program_predicates_starts F_program_predicates_lengths F_program_predicates_text F_program_sizes F_program_strata F_program_constants_names_starts F_program_constants_names_lengths F_program_constants_names_text F_program_constants_values F_program_constants_byRank F_program_constants_ranks F_spare_clauses_kinds F_spare_clauses_predicates F_spare_clauses_places F_spare_clauses_sizes F_spare_clauses_masks F_spare_clauses_terms F_spare_sizes F_spare_strata F_spare_constants_ranks F_reader_needed F_reader_ownSizes F_reader_sides_ranks F_rows_variables : Nat → Int32} {F_program_reached F_spare_reached : Nat → Int64} {k_program_clauses_first k_program_clauses_kinds k_program_clauses_predicates k_program_clauses_places k_program_clauses_sizes k_program_clauses_masks k_program_clauses_terms k_program_predicates_starts k_program_predicates_lengths k_program_predicates_text k_program_sizes k_program_strata k_program_constants_names_starts k_program_constants_names_lengths k_program_constants_names_text k_program_constants_values k_program_constants_byRank k_program_constants_ranks k_program_reached k_spare_clauses_first k_spare_clauses_kinds k_spare_clauses_predicates k_spare_clauses_places k_spare_clauses_sizes k_spare_clauses_masks k_spare_clauses_terms k_spare_predicates_starts k_spare_predicates_lengths k_spare_predicates_text k_spare_sizes k_spare_strata k_spare_constants_names_starts k_spare_constants_names_lengths k_spare_constants_names_text k_spare_constants_values k_spare_constants_byRank k_spare_constants_ranks k_spare_reached k_reader_variables_text k_reader_ownPredicates_text k_reader_sides_names_text : ClassId}
theorem cl_load {post : Int32 → (Int32 × Int32 × Int32 × Int32 × Nat × Int32 × Nat × Int32 × Int32 × Nat × ClassId × Nat × (Nat → Int32) × Nat × ClassId × Nat × (Nat → Int32) × Nat × ClassId × Nat × (Nat → Int32) × Nat × ClassId × Nat × (Nat → Int32) × Nat × ClassId × Nat × (Nat → Int32) × Nat × ClassId × Nat × (Nat → Int32) × Nat × ClassId × Nat × (Nat → Int32) × Nat × Int32 × Int32 × Nat × ClassId × Nat × (Nat → Int32) × Nat × ClassId × Nat × (Nat → Int32) × Nat × ClassId × Nat × (Nat → Int32) × Nat × ClassId × (Nat → Int32) × Nat × ClassId × (Nat → Int32) × Nat × Nat × Int32 × Int32 × Nat × ClassId × Nat × (Nat → Int32) × Nat × ClassId × Nat × (Nat → Int32) × Nat × ClassId × Nat × (Nat → Int32) × Nat × ClassId × Nat × (Nat → Int32) × Nat × ClassId × Nat × (Nat → Int32) × Nat × ClassId × Nat × (Nat → Int32) × Nat × ClassId × (Nat → Int64) × Nat × Int32 × Nat × Int32 × Int32 × Nat × ClassId × Nat × (Nat → Int32) × Nat × ClassId × Nat × (Nat → Int32) × Nat × ClassId × Nat × (Nat → Int32) × Nat × ClassId × Nat × (Nat → Int32) × Nat × ClassId × Nat × (Nat → Int32) × Nat × ClassId × Nat × (Nat → Int32) × Nat × ClassId × Nat × (Nat → Int32) × Nat × Int32 × Int32 × Nat × ClassId × Nat × (Nat → Int32) × Nat × ClassId × Nat × (Nat → Int32) × Nat × ClassId × Nat × (Nat → Int32) × Nat × ClassId × (Nat → Int32) × Nat × ClassId × (Nat → Int32) × Nat × Nat × Int32 × Int32 × Nat × ClassId × Nat × (Nat → Int32) × Nat × ClassId × Nat × (Nat → Int32) × Nat × ClassId × Nat × (Nat → Int32) × Nat × ClassId × Nat × (Nat → Int32) × Nat × ClassId × Nat × (Nat → Int32) × Nat × ClassId × Nat × (Nat → Int32) × Nat × ClassId × (Nat → Int64) × Int32 × Int32 × Int32 × Int32 × Int32 × Int32 × Int32 × Int32 × Int32 × Int32 × Int32 × Int32 × Int32 × (Nat → Int32) × (Nat → Int32) × Nat × ClassId × Nat × (Nat → Int32) × Int32 × Int32 × Int32 × Int32 × Int32 × (Nat → Int32) × Int32 × Int32 × (Nat → Int32) × (Nat → Int32) × Nat × ClassId × Nat × (Nat → Int32) × (Nat → Int32) × Int32 × Int32 × (Nat → Int32) × (Nat → Int32) × Nat × ClassId × Nat × (Nat → Int32) × (Nat → Int32) × (Nat → Int32) × (Nat → Int32) × Int32 × Int32 × Int32 × (Nat → Int32) × Nat × Nat) → Prop} (hn : n ≤ 20480) (hF : ∀ j, j < n → byt (F j)) (hmc : 2000 ≤ mc) (hms : 700000 ≤ ms) (hR : RdI vS vL vN vT oS oL oN oT sz su sS sL sN sT sV sB) (hS : SpI FF pS pL pN pT cS cL cN cT cV cB)
    (h0 : ∀ {e : Nat × Nat} {an5 bz5 ih5 fg5 ns5 ne5 po5 vz5 vu5 kd5 sa5 sb5 vl5 oz5 ou5 sz5 su5 tz2 tl5 pz5 pu5 cz5 cu5 : Int32} {vS5 vL5 vT5 ND5 oS5 oL5 oT5 OZ5 sS5 sL5 sT5 sV5 sB5 sR5 FF2 K5 P5 Pl5 Z5 M5 TT5 pS5 pL5 pT5 PZ5 cS5 cL5 cT5 cV5 cB5 : Nat → Int32} {vtx5 vN5 otx5 oN5 stx5 sN5 ptx5 pN5 ctx5 cN5 kc5 ks5 : Nat} {kV5 kO5 kS5 kP5 kC5 : ClassId} {RB2 : Nat → Int64}, LdR F n (.inl e) → (1 ≤ e.1 ∧ e.1 ≤ 20) → RdI vS5 vL5 vN5 vT5 oS5 oL5 oN5 oT5 sz5 su5 sS5 sL5 sN5 sT5 sV5 sB5 → SpI FF2 pS5 pL5 pN5 pT5 cS5 cL5 cN5 cT5 cV5 cB5 → cst (vN + oN + sN + pN + cN) (vN5 + oN5 + sN5 + pN5 + cN5) kc5 ks5 → post (nI e.2) (0, nI e.1, ran_, overflowed_, program_, program_strataCount_, program_clauses_, program_clauses_size_, program_clauses_literals_, program_clauses_first_, k_program_clauses_first, n_program_clauses_first, F_program_clauses_first, program_clauses_kinds_, k_program_clauses_kinds, n_program_clauses_kinds, F_program_clauses_kinds, program_clauses_predicates_, k_program_clauses_predicates, n_program_clauses_predicates, F_program_clauses_predicates, program_clauses_places_, k_program_clauses_places, n_program_clauses_places, F_program_clauses_places, program_clauses_sizes_, k_program_clauses_sizes, n_program_clauses_sizes, F_program_clauses_sizes, program_clauses_masks_, k_program_clauses_masks, n_program_clauses_masks, F_program_clauses_masks, program_clauses_terms_, k_program_clauses_terms, n_program_clauses_terms, F_program_clauses_terms, program_predicates_, program_predicates_size_, program_predicates_used_, program_predicates_starts_, k_program_predicates_starts, n_program_predicates_starts, F_program_predicates_starts, program_predicates_lengths_, k_program_predicates_lengths, n_program_predicates_lengths, F_program_predicates_lengths, program_predicates_text_, k_program_predicates_text, n_program_predicates_text, F_program_predicates_text, program_sizes_, k_program_sizes, F_program_sizes, program_strata_, k_program_strata, F_program_strata, program_constants_, program_constants_names_, program_constants_names_size_, program_constants_names_used_, program_constants_names_starts_, k_program_constants_names_starts, n_program_constants_names_starts, F_program_constants_names_starts, program_constants_names_lengths_, k_program_constants_names_lengths, n_program_constants_names_lengths, F_program_constants_names_lengths, program_constants_names_text_, k_program_constants_names_text, n_program_constants_names_text, F_program_constants_names_text, program_constants_values_, k_program_constants_values, n_program_constants_values, F_program_constants_values, program_constants_byRank_, k_program_constants_byRank, n_program_constants_byRank, F_program_constants_byRank, program_constants_ranks_, k_program_constants_ranks, n_program_constants_ranks, F_program_constants_ranks, program_reached_, k_program_reached, F_program_reached, spare_, spare_strataCount_, spare_clauses_, tz2, tl5, spare_clauses_first_, k_spare_clauses_first, 257, FF2, spare_clauses_kinds_, k_spare_clauses_kinds, 3328, K5, spare_clauses_predicates_, k_spare_clauses_predicates, 3328, P5, spare_clauses_places_, k_spare_clauses_places, 3328, Pl5, spare_clauses_sizes_, k_spare_clauses_sizes, 3328, Z5, spare_clauses_masks_, k_spare_clauses_masks, 3328, M5, spare_clauses_terms_, k_spare_clauses_terms, 19968, TT5, spare_predicates_, pz5, pu5, spare_predicates_starts_, k_spare_predicates_starts, 64, pS5, spare_predicates_lengths_, k_spare_predicates_lengths, 64, pL5, ptx5, kP5, pN5, pT5, spare_sizes_, k_spare_sizes, PZ5, spare_strata_, k_spare_strata, F_spare_strata, spare_constants_, spare_constants_names_, cz5, cu5, spare_constants_names_starts_, k_spare_constants_names_starts, 1000, cS5, spare_constants_names_lengths_, k_spare_constants_names_lengths, 1000, cL5, ctx5, kC5, cN5, cT5, spare_constants_values_, k_spare_constants_values, 1000, cV5, spare_constants_byRank_, k_spare_constants_byRank, 1000, cB5, spare_constants_ranks_, k_spare_constants_ranks, 1000, F_spare_constants_ranks, spare_reached_, k_spare_reached, RB2, nI e.1, nI e.2, an5, 0, 12, bz5, ih5, fg5, ns5, ne5, po5, vz5, vu5, vS5, vL5, vtx5, kV5, vN5, vT5, kd5, sa5, sb5, vl5, nI n, ND5, oz5, ou5, oS5, oL5, otx5, kO5, oN5, oT5, OZ5, sz5, su5, sS5, sL5, stx5, kS5, sN5, sT5, sV5, sB5, sR5, rows_size_, rows_width_, rows_full_, F_rows_variables, kc5, ks5))
    (h1 : ∀ {D : Dt} {rk L : Nat → Nat} {S : Nat} {an5 bz5 ih5 fg5 ns5 ne5 po5 vz5 vu5 kd5 sa5 sb5 vl5 oz5 ou5 sz5 su5 tz2 tl5 pz5 pu5 cz5 cu5 : Int32} {vS5 vL5 vT5 ND5 oS5 oL5 oT5 OZ5 sS5 sL5 sT5 sV5 sB5 sR5 FF2 K5 P5 Pl5 Z5 M5 pS5 pL5 pT5 PZ5 cS5 cL5 cT5 cV5 cB5 : Nat → Int32} {vtx5 vN5 otx5 oN5 stx5 sN5 ptx5 pN5 ctx5 cN5 kc5 ks5 : Nat} {kV5 kO5 kS5 kP5 kC5 : ClassId} {RB2 : Nat → Int64} {T2 ST2 R2 VC2 : Nat → Int32} {place2 : Int32}, LdR F n (.inr D) → DI 0 F D → (D.2.1 = [] ∧ NA 0 n F D) → PgI D rk L S (nI S) tz2 FF2 K5 P5 Z5 M5 T2 pz5 pu5 pS5 pL5 pN5 pT5 PZ5 ST2 cz5 cu5 cS5 cL5 cN5 cT5 cV5 cB5 → RdI vS5 vL5 vN5 vT5 oS5 oL5 oN5 oT5 sz5 su5 sS5 sL5 sN5 sT5 sV5 sB5 → cst (vN + oN + sN + pN + cN) (vN5 + oN5 + sN5 + pN5 + cN5) kc5 ks5 → post (-1) (0, 0, (0 : Int32), (0 : Int32), spare_, nI S, spare_clauses_, tz2, tl5, spare_clauses_first_, k_spare_clauses_first, 257, FF2, spare_clauses_kinds_, k_spare_clauses_kinds, 3328, K5, spare_clauses_predicates_, k_spare_clauses_predicates, 3328, P5, spare_clauses_places_, k_spare_clauses_places, 3328, Pl5, spare_clauses_sizes_, k_spare_clauses_sizes, 3328, Z5, spare_clauses_masks_, k_spare_clauses_masks, 3328, M5, spare_clauses_terms_, k_spare_clauses_terms, 19968, T2, spare_predicates_, pz5, pu5, spare_predicates_starts_, k_spare_predicates_starts, 64, pS5, spare_predicates_lengths_, k_spare_predicates_lengths, 64, pL5, ptx5, kP5, pN5, pT5, spare_sizes_, k_spare_sizes, PZ5, spare_strata_, k_spare_strata, ST2, spare_constants_, spare_constants_names_, cz5, cu5, spare_constants_names_starts_, k_spare_constants_names_starts, 1000, cS5, spare_constants_names_lengths_, k_spare_constants_names_lengths, 1000, cL5, ctx5, kC5, cN5, cT5, spare_constants_values_, k_spare_constants_values, 1000, cV5, spare_constants_byRank_, k_spare_constants_byRank, 1000, cB5, spare_constants_ranks_, k_spare_constants_ranks, 1000, R2, spare_reached_, k_spare_reached, RB2, program_, program_strataCount_, program_clauses_, program_clauses_size_, program_clauses_literals_, program_clauses_first_, k_program_clauses_first, n_program_clauses_first, F_program_clauses_first, program_clauses_kinds_, k_program_clauses_kinds, n_program_clauses_kinds, F_program_clauses_kinds, program_clauses_predicates_, k_program_clauses_predicates, n_program_clauses_predicates, F_program_clauses_predicates, program_clauses_places_, k_program_clauses_places, n_program_clauses_places, F_program_clauses_places, program_clauses_sizes_, k_program_clauses_sizes, n_program_clauses_sizes, F_program_clauses_sizes, program_clauses_masks_, k_program_clauses_masks, n_program_clauses_masks, F_program_clauses_masks, program_clauses_terms_, k_program_clauses_terms, n_program_clauses_terms, F_program_clauses_terms, program_predicates_, program_predicates_size_, program_predicates_used_, program_predicates_starts_, k_program_predicates_starts, n_program_predicates_starts, F_program_predicates_starts, program_predicates_lengths_, k_program_predicates_lengths, n_program_predicates_lengths, F_program_predicates_lengths, program_predicates_text_, k_program_predicates_text, n_program_predicates_text, F_program_predicates_text, program_sizes_, k_program_sizes, F_program_sizes, program_strata_, k_program_strata, F_program_strata, program_constants_, program_constants_names_, program_constants_names_size_, program_constants_names_used_, program_constants_names_starts_, k_program_constants_names_starts, n_program_constants_names_starts, F_program_constants_names_starts, program_constants_names_lengths_, k_program_constants_names_lengths, n_program_constants_names_lengths, F_program_constants_names_lengths, program_constants_names_text_, k_program_constants_names_text, n_program_constants_names_text, F_program_constants_names_text, program_constants_values_, k_program_constants_values, n_program_constants_values, F_program_constants_values, program_constants_byRank_, k_program_constants_byRank, n_program_constants_byRank, F_program_constants_byRank, program_constants_ranks_, k_program_constants_ranks, n_program_constants_ranks, F_program_constants_ranks, program_reached_, k_program_reached, F_program_reached, 0, place2, an5, 0, 12, bz5, ih5, fg5, ns5, ne5, po5, vz5, vu5, vS5, vL5, vtx5, kV5, vN5, vT5, kd5, sa5, sb5, vl5, nI n, ND5, oz5, ou5, oS5, oL5, otx5, kO5, oN5, oT5, OZ5, sz5, su5, sS5, sL5, stx5, kS5, sN5, sT5, sV5, sB5, sR5, 0, 0, 0, VC2, kc5, ks5)) : wp_met_SB_load post mc ms n_program_clauses_first n_program_clauses_kinds n_program_clauses_predicates n_program_clauses_places n_program_clauses_sizes n_program_clauses_masks n_program_clauses_terms n_program_predicates_starts n_program_predicates_lengths n_program_predicates_text n_program_constants_names_starts n_program_constants_names_lengths n_program_constants_names_text n_program_constants_values n_program_constants_byRank n_program_constants_ranks 257 3328 3328 3328 3328 3328 19968 64 64 pN 1000 1000 cN 1000 1000 1000 12 12 vN 12 12 oN 2 2 sN 2 2 2 program_ spare_ program_clauses_ program_predicates_ program_sizes_ program_strata_ program_constants_ program_reached_ program_clauses_first_ program_clauses_kinds_ program_clauses_predicates_ program_clauses_places_ program_clauses_sizes_ program_clauses_masks_ program_clauses_terms_ program_predicates_starts_ program_predicates_lengths_ program_predicates_text_ program_constants_names_ program_constants_values_ program_constants_byRank_ program_constants_ranks_ program_constants_names_starts_ program_constants_names_lengths_ program_constants_names_text_ spare_clauses_ spare_predicates_ spare_sizes_ spare_strata_ spare_constants_ spare_reached_ spare_clauses_first_ spare_clauses_kinds_ spare_clauses_predicates_ spare_clauses_places_ spare_clauses_sizes_ spare_clauses_masks_ spare_clauses_terms_ spare_predicates_starts_ spare_predicates_lengths_ spare_predicates_text_ spare_constants_names_ spare_constants_values_ spare_constants_byRank_ spare_constants_ranks_ spare_constants_names_starts_ spare_constants_names_lengths_ spare_constants_names_text_ reader_variables_text_ reader_ownPredicates_text_ reader_sides_names_text_ (nI n) ran_ overflowed_ F program_strataCount_ program_clauses_size_ program_clauses_literals_ F_program_clauses_first F_program_clauses_kinds F_program_clauses_predicates F_program_clauses_places F_program_clauses_sizes F_program_clauses_masks F_program_clauses_terms program_predicates_size_ program_predicates_used_ F_program_predicates_starts F_program_predicates_lengths F_program_predicates_text F_program_sizes F_program_strata program_constants_names_size_ program_constants_names_used_ F_program_constants_names_starts F_program_constants_names_lengths F_program_constants_names_text F_program_constants_values F_program_constants_byRank F_program_constants_ranks F_program_reached spare_strataCount_ FF F_spare_clauses_kinds F_spare_clauses_predicates F_spare_clauses_places F_spare_clauses_sizes F_spare_clauses_masks F_spare_clauses_terms pS pL pT F_spare_sizes F_spare_strata cS cL cT cV cB F_spare_constants_ranks F_spare_reached reader_place_ reader_foreign_ reader_nameStart_ reader_nameStop_ vS vL vT reader_tokens_kind_ reader_tokens_start_ reader_tokens_value_ F_reader_needed oS oL oT F_reader_ownSizes sz su sS sL sT sV sB F_reader_sides_ranks rows_size_ rows_width_ rows_full_ F_rows_variables k_program_clauses_first k_program_clauses_kinds k_program_clauses_predicates k_program_clauses_places k_program_clauses_sizes k_program_clauses_masks k_program_clauses_terms k_program_predicates_starts k_program_predicates_lengths k_program_predicates_text k_program_sizes k_program_strata k_program_constants_names_starts k_program_constants_names_lengths k_program_constants_names_text k_program_constants_values k_program_constants_byRank k_program_constants_ranks k_program_reached k_spare_clauses_first k_spare_clauses_kinds k_spare_clauses_predicates k_spare_clauses_places k_spare_clauses_sizes k_spare_clauses_masks k_spare_clauses_terms k_spare_predicates_starts k_spare_predicates_lengths k_spare_predicates_text k_spare_sizes k_spare_strata k_spare_constants_names_starts k_spare_constants_names_lengths k_spare_constants_names_text k_spare_constants_values k_spare_constants_byRank k_spare_constants_ranks k_spare_reached k_reader_variables_text k_reader_ownPredicates_text k_reader_sides_names_text := by
  obtain ⟨hV, hO, hSd⟩ := hR
  obtain ⟨hFF, hP, hC⟩ := hS
  refine ⟨2000, 700000, by omega, by omega, ?_⟩
  refine sp_Re_read_L (ar := fun _ => 0) (rk0 := fun _ => 0) (q0 := ([], [])) hn hF (Nat.le_refl _) (Nat.le_refl _) hV hO hSd hP hC hFF ?_ ?_
  · intros
    rename_i hEn _ hRF hF0 hcs
    dsimp only
    have hz := Ends_nz hEn
    refine sp_checkCycle (G := F) (ps := []) (cn := []) (cs := []) (fun _ => ?_) (fun z => absurd z hz.1) (fun z => absurd z hz.1) (fun z => absurd z hz.1)
    dsimp only
    refine sp_forgetTape ?_
    dsimp only
    refine ⟨fun z => absurd z hz.1, fun _ => ?_⟩
    rw [Nat.zero_add, Nat.zero_add]
    exact h0 (Or.inl ⟨_, hEn, rfl⟩) hz.2 (RdI_RF hRF) (SpI_RF hRF hF0) hcs
  · intros
    rename_i hEn _ hQ hFi hcs
    dsimp only
    have hRF := RdQ_RF hQ
    have hF2 := FinQ_F0 hFi (RdQ_F0 hQ)
    rcases Ld_end hEn hQ hFi with ⟨hc0, hK⟩ | ⟨e, hLd, he1, he2, he3, hc, hp⟩
    · subst hc0
      have hpz := hQ.2.2.2.2.2.2.1.1.2.1
      have hcz := hQ.2.2.2.2.2.2.2.1.1.1.2.1
      rw [List.length_map] at hcz
      refine sp_checkCycle (G := F) (fun z => absurd rfl z) (fun _ => ⟨hK.2.1, fun i l hi hl => (hK.2.2.1 i l hi).2.1 hl⟩) (fun _ hno RB => ?_) (fun _ p hp _ RB => ?_)
      · dsimp only
        refine sp_forgetTape ?_
        dsimp only
        refine ⟨fun _ => ?_, fun z => absurd rfl z⟩
        subst hpz hcz
        refine sp_settle hK.2.1 hK.2.2.2.1 hK.2.2.1 hK.2.2.2.2.1.1 hK.2.2.2.2.1.2 hno (fun L hi ST T2 R hL hL64 hSt hSc hCl => ?_)
        dsimp only
        refine sp_Ro_open (nv := 0) (An := fun _ => False) (an := 0) (Nat.zero_le _) MK_00 (fun cs VC2 hcl hco => ?_)
        dsimp only
        have e0 : cs = [] := by
          cases cs with
          | nil => rfl
          | cons x xs => exact absurd (((hcl.1 x).mp List.mem_cons_self).1) (Nat.not_lt_zero _)
        subst e0
        rw [Nat.zero_add, Nat.zero_add]
        exact h1 (Or.inr ⟨_, hEn, Or.inr ⟨hK.1, Or.inr ⟨hno, rfl⟩⟩⟩) hQ.1.2.1 (Ld_na hQ hFi) ⟨⟨F, PgK_of hK hL hL64 hSt hCl⟩, hQ.2.2.2.2.2.2.1.1, hQ.2.2.2.2.2.2.2.1.1, fun p hp => hK.2.2.2.2.2.2.2 p hp, fun p => arF_6 hQ.1.2.1 p, hQ.1.2.1.2.2.2.2.2.2, hF2, rfl, hSc⟩ (RdI_RF hRF) hcs
      · dsimp only
        refine sp_forgetTape ?_
        dsimp only
        refine ⟨fun z => absurd z (by decide), fun _ => ?_⟩
        rw [Nat.zero_add, Nat.zero_add]
        exact h0 (e := (12, p)) (Or.inr ⟨_, hEn, Or.inr ⟨hK.1, Or.inl ⟨p, hp, rfl⟩⟩⟩) ⟨show 1 ≤ 12 by decide, show 12 ≤ 20 by decide⟩ (RdI_RF hRF) (SpI_RF hRF hF2) hcs
    · subst hc hp
      have hz := nI_nz he1 (by omega)
      refine sp_checkCycle (G := F) (ps := []) (cn := []) (cs := []) (fun _ => ?_) (fun z => absurd z hz) (fun z => absurd z hz) (fun z => absurd z hz)
      dsimp only
      refine sp_forgetTape ?_
      dsimp only
      refine ⟨fun z => absurd z hz, fun _ => ?_⟩
      rw [Nat.zero_add, Nat.zero_add]
      exact h0 hLd ⟨he1, he2⟩ (RdI_RF hRF) (SpI_RF hRF hF2) hcs
end CLd
