/-! pure: the class tells stages and strata -/
theorem mPred_2 {md : Nat} {ps : List Wd} {w : Wd} (h : ¬ md = 0) : mPred md ps w = some ps := if_neg h
theorem mCon_2 {md : Nat} {cn : List Con} {c : Con} (h : ¬ md = 0) : mCon md cn c = some cn := if_neg h
/-- the reader of stage(), as it goes -/
def GdI (ps : List Wd) (cn : List Con) (c : Ct) (D : Dt) : Prop := (c = (1, 0, 0) ∧ D = D00 ps cn) ∨ ((c.1 = 2 ∨ c.1 = 3 ∨ c.1 = 4) ∧ ∃ w na ts, D = gD ps cn w na ts ∧ ∀ t ∈ ts, ∃ c, t.1 = Sum.inr c) ∨ (c.1 = 11 ∧ ∃ w na ts, D = gE ps cn w na ts ∧ ∀ t ∈ ts, ∃ c, t.1 = Sum.inr c)
theorem GdI_step {n k k2 : Nat} {F : Nat → Int32} {ps : List Wd} {cn : List Con} {c c2 : Ct} {D D2 : Dt} (h : GdI ps cn c D) (hs : mStep 2 F n c D k = .inr (some (c2, D2, k2))) : GdI ps cn c2 D2 := by
  rcases h with ⟨rfl, rfl⟩ | ⟨hc, w, na, ts, rfl, ht⟩ | ⟨hc, w, na, ts, rfl, ht⟩
  · unfold mStep at hs
    dsimp only at hs
    rw [if_neg (by decide), if_neg (by decide)] at hs
    by_cases kb : (TK F n k).1 = 1
    · rw [if_pos kb] at hs
      cases hs
    rw [if_neg kb] at hs
    rw [if_neg (by decide), if_pos rfl] at hs
    split at hs
    · cases hs
    unfold mName at hs
    rw [mPred_2 (by decide)] at hs
    dsimp only at hs
    cases hs
    exact Or.inr (Or.inl ⟨Or.inl rfl, _, _, [], rfl, fun t ht => (by cases ht)⟩)
  · unfold mStep at hs
    dsimp only at hs
    rcases hc with hc | hc | hc
    · rw [if_pos hc] at hs
      split at hs
      · cases hs
        exact Or.inr (Or.inl ⟨Or.inr (Or.inl rfl), _, _, _, rfl, ht⟩)
      · unfold mShut at hs
        cases hs
        exact Or.inr (Or.inr ⟨rfl, _, _, _, rfl, ht⟩)
    · rw [hc, if_neg (by decide), if_neg (by decide)] at hs
      by_cases kb : (TK F n k).1 = 1
      · rw [if_pos kb] at hs
        cases hs
      rw [if_neg kb] at hs
      rw [if_neg (by decide), if_neg (by decide), if_pos rfl] at hs
      by_cases hk : isT (TK F n k).1 = true ∧ ¬ ((TK F n k).1 = 3 ∧ 2 = 2)
      · rw [if_neg (fun z => z hk)] at hs
        split at hs
        · cases hs
        have k3 : ¬ (TK F n k).1 = 3 := fun z => hk.2 ⟨z, rfl⟩
        unfold mTerm at hs
        rw [if_neg k3, mCon_2 (by decide)] at hs
        dsimp only at hs
        cases hs
        refine Or.inr (Or.inl ⟨Or.inr (Or.inr rfl), w, na, ts ++ [_], rfl, fun t h => ?_⟩)
        rcases List.mem_append.mp h with h | h
        · exact ht t h
        · rw [List.mem_singleton] at h
          rw [h]
          exact ⟨_, rfl⟩
      · rw [if_pos hk] at hs
        cases hs
    · rw [hc, if_neg (by decide), if_neg (by decide)] at hs
      by_cases kb : (TK F n k).1 = 1
      · rw [if_pos kb] at hs
        cases hs
      rw [if_neg kb] at hs
      rw [if_neg (by decide), if_neg (by decide), if_neg (by decide), if_pos rfl] at hs
      split at hs
      · cases hs
        exact Or.inr (Or.inl ⟨Or.inr (Or.inl rfl), _, _, _, rfl, ht⟩)
      · split at hs
        · unfold mShut at hs
          cases hs
          exact Or.inr (Or.inr ⟨rfl, _, _, _, rfl, ht⟩)
        · cases hs
  · unfold mStep at hs
    dsimp only at hs
    rw [hc, if_neg (by decide), if_neg (by decide)] at hs
    by_cases kb : (TK F n k).1 = 1
    · rw [if_pos kb] at hs
      cases hs
    rw [if_neg kb] at hs
    rw [if_neg (by decide), if_neg (by decide), if_neg (by decide), if_neg (by decide), if_neg (by decide), if_neg (by decide), if_neg (by decide), if_neg (by decide), if_neg (by decide)] at hs
    split at hs
    · cases hs
    · cases hs
theorem GdI_end {n : Nat} {F : Nat → Int32} {ps : List Wd} {cn : List Con} {D9 : Dt} : ∀ (f : Nat) (c : Ct) (D : Dt) (k : Nat), GdI ps cn c D → mRun 2 F n f c D k = some (.inr D9) → ∃ w na ts, D9 = gE ps cn w na ts ∧ ∀ t ∈ ts, ∃ c, t.1 = Sum.inr c := by
  intro f
  induction f with
  | zero =>
    intro c D k _ h
    unfold mRun at h
    exact absurd h (by simp)
  | succ f ih =>
    intro c D k hI h
    unfold mRun at h
    cases hs : mStep 2 F n c D k with
    | inl e =>
      rw [hs] at h
      exact absurd (Option.some.inj h) (by simp)
    | inr x =>
      rw [hs] at h
      cases x with
      | none =>
        obtain rfl : D = D9 := Sum.inr.inj (Option.some.inj h)
        have q := mStep_end hs
        rcases hI with ⟨rfl, -⟩ | ⟨hc, -⟩ | ⟨-, hc⟩
        · exact absurd q (by decide)
        · exact absurd q (by omega)
        · exact hc
      | some y =>
        obtain ⟨c2, D2, k2⟩ := y
        exact ih c2 D2 k2 (GdI_step hI hs) h
/-- the reader of stratum() -/
theorem St3_end {n : Nat} {F : Nat → Int32} {ps : List Wd} {cn : List Con} {D : Dt} (h : Ends 3 F n (1, 0, 0) (D00 ps cn) 0 (.inr D)) : D.1 = [] ∧ D.2.1 = [] ∧ D.2.2.2.2.1 = ps := by
  have q : ∀ (f : Nat) (c : Ct) (E : Dt) (k : Nat), (c = (1, 0, 0) ∨ c.1 = 11) ∧ E.1 = [] ∧ E.2.1 = [] ∧ E.2.2.2.2.1 = ps → mRun 3 F n f c E k = some (.inr D) → D.1 = [] ∧ D.2.1 = [] ∧ D.2.2.2.2.1 = ps := by
    intro f
    induction f with
    | zero =>
      intro c E k _ h
      unfold mRun at h
      exact absurd h (by simp)
    | succ f ih =>
      intro c E k hI h
      unfold mRun at h
      cases hs : mStep 3 F n c E k with
      | inl e =>
        rw [hs] at h
        exact absurd (Option.some.inj h) (by simp)
      | inr x =>
        rw [hs] at h
        cases x with
        | none =>
          obtain rfl : E = D := Sum.inr.inj (Option.some.inj h)
          exact hI.2
        | some y =>
          obtain ⟨c2, D2, k2⟩ := y
          refine ih c2 D2 k2 ?_ h
          obtain ⟨hc, e1, e2, e3⟩ := hI
          unfold mStep at hs
          dsimp only at hs
          rcases hc with rfl | hc
          · rw [if_neg (by decide), if_neg (by decide)] at hs
            by_cases kb : (TK F n k).1 = 1
            · rw [if_pos kb] at hs
              cases hs
            rw [if_neg kb] at hs
            rw [if_neg (by decide), if_pos rfl] at hs
            split at hs
            · cases hs
            unfold mName at hs
            rw [mPred_2 (by decide)] at hs
            dsimp only at hs
            cases hs
            exact ⟨Or.inr rfl, e1, e2, e3⟩
          · rw [hc, if_neg (by decide), if_neg (by decide)] at hs
            by_cases kb : (TK F n k).1 = 1
            · rw [if_pos kb] at hs
              cases hs
            rw [if_neg kb] at hs
            rw [if_neg (by decide), if_neg (by decide), if_neg (by decide), if_neg (by decide), if_neg (by decide), if_neg (by decide), if_neg (by decide), if_neg (by decide), if_neg (by decide)] at hs
            split at hs
            · cases hs
            · cases hs
  obtain ⟨f, hf⟩ := h
  exact q f _ _ 0 ⟨Or.inl rfl, rfl, rfl, rfl⟩ hf
section CSe
variable {n k : Nat} {F : Nat → Int32} {ar rk : Nat → Nat} {ps : List Wd} {cn : List Con} {c : Ct} {D : Dt} {code place an st bz ih fg ns ne po vz vu : Int32} {vS vL : Nat → Int32} {vN : Nat} {vT ND : Nat → Int32} {oz ou : Int32} {oS oL : Nat → Int32} {oN : Nat} {oT OZ : Nat → Int32} {sz su : Int32} {sS sL : Nat → Int32} {sN : Nat} {sT sV sB : Nat → Int32} {pz pu : Int32} {pS pL : Nat → Int32} {pN : Nat} {pT PZ : Nat → Int32} {cz cu : Int32} {cS cL : Nat → Int32} {cN : Nat} {cT cV cB : Nat → Int32} {tz tl : Int32} {FF K P Pl Z M TT : Nat → Int32} {code2 place2 tz2 : Int32} {FF2 : Nat → Int32}
theorem Fin_n1 {md : Nat} (h1 : ¬ md = 1) (h : FinQ md ar c D code place tz FF code2 place2 tz2 FF2) : (c.1 = 0 ∨ c.1 = 11) ∧ code2 = code ∧ place2 = place := by
  rcases h with ⟨a1, a2, a3, -⟩ | ⟨-, a, -⟩
  · exact ⟨a1, a2, a3⟩
  · exact absurd a h1
theorem Sm_end (hEn : Ends 3 F n (1, 0, 0) (D00 ps cn) 0 (.inr D)) (hQ : RdQ 3 n F ar rk (ps, cn) c D k code place an st bz ih fg ns ne po vz vu vS vL vN vT ND oz ou oS oL oN oT OZ sz su sS sL sN sT sV sB pz pu pS pL pN pT PZ cz cu cS cL cN cT cV cB tz tl FF K P Pl Z M TT) (hFi : FinQ 3 ar c D code place tz FF code2 place2 tz2 FF2) : code2 = 0 ∧ WdR ps cn F n (.inr D.2.2.1.2.1) ∧ PC 3 ps D.2.2.1.2.1 (P 0) := by
  obtain ⟨e1, e2, e3⟩ := St3_end hEn
  obtain ⟨f1, f2, -⟩ := Fin_n1 (by decide) hFi
  have hms : c.1 = 1 ∨ c.1 = 11 := hQ.1.2.2.2.2.1.2.2.2.2.1 rfl
  have hc : c.1 = 11 := by omega
  have hw := hQ.2.2.2.2.2.2.2.2.2.2.2
  have hgl := hQ.2.2.2.2.2.2.2.2.2.1.2.2.2.2 hc rfl
  have hL : (Lc D).length = 0 := by
    unfold Lc
    rw [e1, e2]
    rfl
  rw [hL, e3] at hgl
  refine ⟨?_, Or.inr ⟨D, hEn, rfl⟩, hgl⟩
  rcases hw with ⟨w, -⟩ | ⟨c9, p9, w, -⟩
  · exact f2.trans w
  · unfold WN W10q at w
    rw [if_neg (by decide), e2] at w
    obtain ⟨-, k9, l9, w1, -⟩ := w
    exact absurd w1 (Nat.not_lt_zero _)
theorem Sg_end (hEn : Ends 2 F n (1, 0, 0) (D00 ps cn) 0 (.inr D)) (hQ : RdQ 2 n F ar rk (ps, cn) c D k code place an st bz ih fg ns ne po vz vu vS vL vN vT ND oz ou oS oL oN oT OZ sz su sS sL sN sT sV sB pz pu pS pL pN pT PZ cz cu cS cL cN cT cV cB tz tl FF K P Pl Z M TT) (hFi : FinQ 2 ar c D code place tz FF code2 place2 tz2 FF2) : (∃ w na ts, code2 = 0 ∧ SgR ps cn ar F n (.inr (w, tcons ts)) ∧ (∀ i : Nat, ps[i]? = some w → ar i = ts.length) ∧ CLf ps cn rk 0 ((0 : Int32), w, na, 0, ts) K P Z M TT ∧ LtOk 2 F ps cn ((0 : Int32), w, na, 0, ts) ∧ ∀ t ∈ ts, ∃ c, t.1 = Sum.inr c) ∨ (∃ e : Nat × Nat, SgR ps cn ar F n (.inl e) ∧ 1 ≤ e.1 ∧ e.1 ≤ 20 ∧ code2 = nI e.1 ∧ place2 = nI e.2) := by
  obtain ⟨w, na, ts, hD, hts⟩ : ∃ w na ts, D = gE ps cn w na ts ∧ ∀ t ∈ ts, ∃ c, t.1 = Sum.inr c := by
    obtain ⟨f, hf⟩ := hEn
    exact GdI_end f _ _ 0 (Or.inl ⟨rfl, rfl⟩) hf
  subst hD
  obtain ⟨f1, f2, f3⟩ := Fin_n1 (by decide) hFi
  have hw := hQ.2.2.2.2.2.2.2.2.2.2.2
  have hiff : ∀ c9 p9, WN 2 ar (gE ps cn w na ts) c9 p9 ↔ (c9 = 10 ∧ p9 = na ∧ ∃ i : Nat, ps[i]? = some w ∧ ¬ ar i = ts.length) := by
    intro c9 p9
    unfold WN W10q
    rw [if_neg (by decide)]
    constructor
    · rintro ⟨h1, k9, l9, h2, h3, h4, h5, m, h6, h7⟩
      have k0 : k9 = 0 := by
        have : k9 < 1 := h2
        omega
      subst k0
      obtain rfl : ((0 : Int32), w, na, 0, ts) = l9 := Option.some.inj h3
      refine ⟨h1, h5.symm, ?_⟩
      rcases h6 with ⟨i, i1, i2⟩ | ⟨-, i2⟩
      · have i3 := Option.some.inj i2
        subst i3
        exact ⟨i, i1, h7⟩
      · cases i2
    · rintro ⟨h1, h2, i, i1, i2⟩
      exact ⟨h1, 0, ((0 : Int32), w, na, 0, ts), Nat.zero_lt_one, rfl, Or.inl rfl, h2.symm, ar i, Or.inl ⟨i, i1, rfl⟩, i2⟩
  have hcl : CLf ps cn rk 0 ((0 : Int32), w, na, 0, ts) K P Z M TT := by
    have h9 := hQ.2.2.2.2.2.2.2.2.1.2.2.2 0 ((0 : Int32), w, na, 0, ts) rfl
    unfold CLm at h9
    rw [if_neg (by decide)] at h9
    exact h9
  have hlt : LtOk 2 F ps cn ((0 : Int32), w, na, 0, ts) := hQ.1.2.1.2.1 _ List.mem_cons_self
  rcases hw with ⟨w1, w2⟩ | ⟨c9, p9, w1, w2, w3, w4, w5, w6, w7⟩
  · refine Or.inl ⟨w, na, ts, f2.trans w1, ?_, ?_, hcl, hlt, hts⟩
    · refine Or.inr ⟨w, na, ts, hEn, Or.inr ⟨fun i hi => ?_, rfl⟩⟩
      exact Decidable.byContradiction (fun z => w2 10 na ((hiff 10 na).mpr ⟨rfl, rfl, i, hi, z⟩))
    · intro i hi
      exact Decidable.byContradiction (fun z => w2 10 na ((hiff 10 na).mpr ⟨rfl, rfl, i, hi, z⟩))
  · obtain ⟨v1, v2, v3⟩ := (hiff c9 p9).mp w1
    subst v1 v2
    obtain ⟨i, i1, i2⟩ := v3
    exact Or.inr ⟨(10, _), Or.inr ⟨w, _, ts, hEn, Or.inl ⟨i, i1, i2, rfl⟩⟩, show 1 ≤ 10 by decide, show 10 ≤ 20 by decide, f2.trans w5, f3.trans w6⟩
end CSe
theorem Sg_find {G : Nat → Int32} {ps : List Wd} {cn : List Con} {cs : List (List Lt)} {rk ar L : Nat → Nat} {S : Nat} {V BR K P Z M T W : Nat → Int32} {w : Wd} {na : Nat} {ts : List Tm} {E : List (Nat × List Nat)} {sgE : Nat → Nat} {fz fh : Int32} {FK : Nat → Int64} {FS FA FP FN FT FO FW : Nat → Int32} (hC : CoR cn rk V BR) (hcn : cn.length ≤ 1000) (hps : ps.length ≤ 64) (hnd : ps.Nodup) (hCL : CLf ps cn rk 0 ((0 : Int32), w, na, 0, ts) K P Z M T) (hk : LtOk 2 G ps cn ((0 : Int32), w, na, 0, ts)) (hg : ∀ t ∈ ts, ∃ c, t.1 = Sum.inr c) (har : ∀ i : Nat, ps[i]? = some w → ar i = ts.length) (hF : FaR ar E sgE fz fh FK FS FA FP FN FT FO FW) (hR : RnQ cn rk ps cs L S E.length E sgE) : (P 0 = -1 ∧ SgA ps cs L (FX cn rk (fun x => x ∈ E)) w (tcons ts) (-1)) ∨ (∃ p, p < 64 ∧ P 0 = nI p ∧ BQ 13 (bOf K P Z T 0) 0 K P Z M T ∧ blOk ar (bOf K P Z T 0) ∧ ((bOf K P Z T 0).1 = 0 ∨ (bOf K P Z T 0).1 = 1) ∧ VV (bOf K P Z T 0) (fun _ => 0) W ∧ ∀ r, FdQ E.length FP FK (nI p) (lN (kN (fun j => (aOf (fun _ => 0) (bOf K P Z T 0)).getD j 0))) r → (r = -1 ∧ SgA ps cs L (FX cn rk (fun x => x ∈ E)) w (tcons ts) (-1)) ∨ ∃ f, f < 20000 ∧ r = nI f ∧ SgA ps cs L (FX cn rk (fun x => x ∈ E)) w (tcons ts) (FS f)) := by
  have hA : isA ((0 : Int32), w, na, 0, ts) := Or.inl rfl
  have hno : ∀ x, ¬ occ ((0 : Int32), w, na, 0, ts) x := by
    rintro x ⟨t, t1, t2⟩
    obtain ⟨c, e⟩ := hg t t1
    rw [e] at t2
    cases t2
  have hta : targs dflt ((0 : Int32), w, na, 0, ts) = tcons ts := rfl
  rcases bA_pred hps hCL hA with ⟨p, p1, p2, p3, p4⟩ | ⟨p1, p2, p3⟩
  · have hp64 : p < 64 := by
      have := (List.getElem?_eq_some_iff.mp p1).1
      omega
    obtain ⟨b1, b2⟩ := BQ_of (ar := ar) (rm := 13) hC hcn hps (by omega) hCL hk (fun _ q hq => (har q hq).symm)
    have hbk : (bOf K P Z T 0).1 = 0 := b1.2.1.symm.trans hCL.1
    have hVV : VV (bOf K P Z T 0) (fun _ => 0) W := fun x hx => absurd ((bA_occ hcn hCL hk hA x).mp hx) (hno x)
    obtain ⟨a1, a2⟩ := bA_args (u := fun _ => 0) (v := dflt) hcn hCL hk hA p4 (fun x hx => absurd hx (hno x))
    have hbp : (bOf K P Z T 0).2.1 = some p := p3
    obtain ⟨o1, o2⟩ := aOf_ok b2 (Or.inl hbk) hbp hVV
    refine Or.inr ⟨p, hp64, p2, b1, b2, Or.inl hbk, hVV, fun r hr => ?_⟩
    rcases hr with ⟨f, f1, f2, f3, f4⟩ | ⟨r1, r2⟩
    · have hx := (FaR_key hF o1 o2 f).mp ⟨f1, f3, f4⟩
      have hE := hF.1
      obtain ⟨-, -, x3, x4⟩ := hF.2.2.2.1 f _ hx
      have hst := hR.2.2.2 f _ hx
      have e9 : phi cn rk (p, aOf (fun _ => 0) (bOf K P Z T 0)) = (p, tcons ts) := by
        unfold phi
        rw [a1, hta]
      rw [e9] at hst
      refine Or.inr ⟨f, by omega, f2, Or.inl ⟨p, sgE f, p1, ⟨_, List.mem_of_getElem? hx, ?_⟩, hst, by omega, x3⟩⟩
      rw [a1, hta]
    · refine Or.inl ⟨r1, Or.inr ⟨fun q q1 => ?_, rfl⟩⟩
      rintro ⟨x, x1, x2⟩
      obtain rfl := nodup_inj hnd p1 q1
      have e1 : p = x.1 := congrArg Prod.fst x2
      have e2 : tcons ts = x.2.map (cnr cn rk) := congrArg Prod.snd x2
      have e3 : x.2 = aOf (fun _ => 0) (bOf K P Z T 0) := map_inj hC _ _ (hR.1 x x1) a2 (by rw [a1, hta, e2])
      obtain ⟨f, f1⟩ := List.getElem?_of_mem x1
      have e4 : x = (p, aOf (fun _ => 0) (bOf K P Z T 0)) := by
        rw [← e3, e1]
      rw [e4] at f1
      obtain ⟨g1, g2, g3⟩ := (FaR_key hF o1 o2 f).mpr f1
      exact r2 f g1 ⟨g2, g3⟩
  · refine Or.inl ⟨p1, Or.inr ⟨fun q q1 => ?_, rfl⟩⟩
    rintro ⟨x, x1, x2⟩
    have e2 : tcons ts = x.2.map (cnr cn rk) := congrArg Prod.snd x2
    exact p3 ⟨List.mem_of_getElem? q1, (bA_back (v := dflt) (l := ((0 : Int32), w, na, 0, ts)) hC (hR.1 x x1) (hta.trans e2)).1⟩
section CSg
variable {n mc ms : Nat} {F : Nat → Int32} {ps : List Wd} {cn : List Con} {ar rk L : Nat → Nat} {vS vL : Nat → Int32} {vN : Nat} {vT oS oL : Nat → Int32} {oN : Nat} {oT : Nat → Int32} {sz su : Int32} {sS sL : Nat → Int32} {sN : Nat} {sT sV sB : Nat → Int32} {pz pu : Int32} {pS pL : Nat → Int32} {pN : Nat} {pT PZ ST : Nat → Int32} {cz cu : Int32} {cS cL : Nat → Int32} {cN : Nat} {cT cV cB FF : Nat → Int32} {E : List (Nat × List Nat)} {sgE : Nat → Nat} {fz fh : Int32} {FK : Nat → Int64} {FS FA FP FN FT FO FW : Nat → Int32} {cs : List (List Lt)} {S : Nat} {program_predicates_text_ program_constants_names_text_ reader_variables_text_ reader_ownPredicates_text_ reader_sides_names_text_ : Nat} {program_clauses_size_ program_clauses_literals_ reader_place_ reader_foreign_ reader_nameStart_ reader_nameStop_ reader_tokens_kind_ reader_tokens_start_ reader_tokens_value_ : Int32} {F_question_kinds F_question_predicates F_question_places F_question_sizes F_question_masks F_question_terms F_reader_needed F_reader_ownSizes F_reader_sides_ranks F_join_values : Nat → Int32} {k_program_predicates_text k_program_constants_names_text k_reader_variables_text k_reader_ownPredicates_text k_reader_sides_names_text : ClassId}
theorem cl_stratum {post : Int32 → (Int32 × Int32 × Int32 × Int32 × Int32 × Int32 × (Nat → Int32) × (Nat → Int32) × Nat × ClassId × Nat × (Nat → Int32) × (Nat → Int32) × Int32 × Int32 × (Nat → Int32) × (Nat → Int32) × Nat × ClassId × Nat × (Nat → Int32) × (Nat → Int32) × (Nat → Int32) × Int32 × Int32 × (Nat → Int32) × (Nat → Int32) × (Nat → Int32) × (Nat → Int32) × (Nat → Int32) × (Nat → Int32) × (Nat → Int32) × Int32 × Int32 × Int32 × Int32 × Int32 × Int32 × Int32 × Int32 × Int32 × Int32 × Int32 × Int32 × Int32 × (Nat → Int32) × (Nat → Int32) × Nat × ClassId × Nat × (Nat → Int32) × Int32 × Int32 × Int32 × Int32 × Int32 × (Nat → Int32) × Int32 × Int32 × (Nat → Int32) × (Nat → Int32) × Nat × ClassId × Nat × (Nat → Int32) × (Nat → Int32) × Int32 × Int32 × (Nat → Int32) × (Nat → Int32) × Nat × ClassId × Nat × (Nat → Int32) × (Nat → Int32) × (Nat → Int32) × (Nat → Int32) × Nat × Nat) → Prop} (hn : n ≤ 20480) (hF : ∀ j, j < n → byt (F j)) (hmc : 2000 ≤ mc) (hms : 700000 ≤ ms) (hR : RdI vS vL vN vT oS oL oN oT sz su sS sL sN sT sV sB) (hP : PqI ps cn ar rk pz pu pS pL pN pT PZ cz cu cS cL cN cT cV cB) (hFF : FF 0 = 0) (hSt : StA L ST)
    (h0 : ∀ {e : Nat × Nat} {an5 bz5 ih5 fg5 ns5 ne5 po5 vz5 vu5 kd5 sa5 sb5 vl5 oz5 ou5 sz5 su5 pz5 pu5 cz5 cu5 tz2 tl5 : Int32} {vS5 vL5 vT5 ND5 oS5 oL5 oT5 OZ5 sS5 sL5 sT5 sV5 sB5 sR5 pS5 pL5 pT5 PZ5 cS5 cL5 cT5 cV5 cB5 FF2 K5 P5 Pl5 Z5 M5 TT5 : Nat → Int32} {vtx5 vN5 otx5 oN5 stx5 sN5 ptx5 pN5 ctx5 cN5 kc5 ks5 : Nat} {kV5 kO5 kS5 kP5 kC5 : ClassId}, WdR ps cn F n (.inl e) → (1 ≤ e.1 ∧ e.1 ≤ 20) → RdI vS5 vL5 vN5 vT5 oS5 oL5 oN5 oT5 sz5 su5 sS5 sL5 sN5 sT5 sV5 sB5 → PqI ps cn ar rk pz5 pu5 pS5 pL5 pN5 pT5 PZ5 cz5 cu5 cS5 cL5 cN5 cT5 cV5 cB5 → FF2 0 = 0 → cst (vN + oN + sN + pN + cN) (vN5 + oN5 + sN5 + pN5 + cN5) kc5 ks5 → post (-2 - nI e.2) (0, nI e.1, program_clauses_size_, program_clauses_literals_, pz5, pu5, pS5, pL5, ptx5, kP5, pN5, pT5, PZ5, cz5, cu5, cS5, cL5, ctx5, kC5, cN5, cT5, cV5, cB5, tz2, tl5, FF2, K5, P5, Pl5, Z5, M5, TT5, nI e.1, nI e.2, an5, 3, 12, bz5, ih5, fg5, ns5, ne5, po5, vz5, vu5, vS5, vL5, vtx5, kV5, vN5, vT5, kd5, sa5, sb5, vl5, nI n, ND5, oz5, ou5, oS5, oL5, otx5, kO5, oN5, oT5, OZ5, sz5, su5, sS5, sL5, stx5, kS5, sN5, sT5, sV5, sB5, sR5, kc5, ks5))
    (h1 : ∀ {w : Wd} {ans place2 : Int32} {an5 bz5 ih5 fg5 ns5 ne5 po5 vz5 vu5 kd5 sa5 sb5 vl5 oz5 ou5 sz5 su5 pz5 pu5 cz5 cu5 tz2 tl5 : Int32} {vS5 vL5 vT5 ND5 oS5 oL5 oT5 OZ5 sS5 sL5 sT5 sV5 sB5 sR5 pS5 pL5 pT5 PZ5 cS5 cL5 cT5 cV5 cB5 FF2 K5 P5 Pl5 Z5 M5 TT5 : Nat → Int32} {vtx5 vN5 otx5 oN5 stx5 sN5 ptx5 pN5 ctx5 cN5 kc5 ks5 : Nat} {kV5 kO5 kS5 kP5 kC5 : ClassId}, WdR ps cn F n (.inr w) → StA2 ps L w ans → RdI vS5 vL5 vN5 vT5 oS5 oL5 oN5 oT5 sz5 su5 sS5 sL5 sN5 sT5 sV5 sB5 → PqI ps cn ar rk pz5 pu5 pS5 pL5 pN5 pT5 PZ5 cz5 cu5 cS5 cL5 cN5 cT5 cV5 cB5 → FF2 0 = 0 → cst (vN + oN + sN + pN + cN) (vN5 + oN5 + sN5 + pN5 + cN5) kc5 ks5 → post ans (0, 0, program_clauses_size_, program_clauses_literals_, pz5, pu5, pS5, pL5, ptx5, kP5, pN5, pT5, PZ5, cz5, cu5, cS5, cL5, ctx5, kC5, cN5, cT5, cV5, cB5, tz2, tl5, FF2, K5, P5, Pl5, Z5, M5, TT5, 0, place2, an5, 3, 12, bz5, ih5, fg5, ns5, ne5, po5, vz5, vu5, vS5, vL5, vtx5, kV5, vN5, vT5, kd5, sa5, sb5, vl5, nI n, ND5, oz5, ou5, oS5, oL5, otx5, kO5, oN5, oT5, OZ5, sz5, su5, sS5, sL5, stx5, kS5, sN5, sT5, sV5, sB5, sR5, kc5, ks5)) : wp_met_SB_stratum post mc ms 64 64 pN 1000 1000 cN 1000 1000 2 13 13 13 13 13 78 12 12 vN 12 12 oN 2 2 sN 2 2 2 program_predicates_text_ program_constants_names_text_ reader_variables_text_ reader_ownPredicates_text_ reader_sides_names_text_ (nI n) F program_clauses_size_ program_clauses_literals_ pz pu pS pL pT PZ ST cz cu cS cL cT cV cB FF F_question_kinds F_question_predicates F_question_places F_question_sizes F_question_masks F_question_terms reader_place_ reader_foreign_ reader_nameStart_ reader_nameStop_ vS vL vT reader_tokens_kind_ reader_tokens_start_ reader_tokens_value_ F_reader_needed oS oL oT F_reader_ownSizes sz su sS sL sT sV sB F_reader_sides_ranks k_program_predicates_text k_program_constants_names_text k_reader_variables_text k_reader_ownPredicates_text k_reader_sides_names_text := by
  obtain ⟨hV, hO, hSd⟩ := hR
  obtain ⟨p1, p2, p3, p4, p5, p6⟩ := hP
  refine ⟨2000, 700000, by omega, by omega, ?_⟩
  refine sp_Re_read_Q (md := 3) (ar := ar) (rk0 := rk) (ps := ps) (cn := cn) (Or.inr (Or.inr rfl)) hn hF (Nat.le_refl _) (Nat.le_refl _) hV hO hSd p1 p3 p2 p4 p5 p6 hFF ?_ ?_
  · intros
    rename_i hEn hrk hRF hF0 hcs
    dsimp only
    have hz := Ends_nz hEn
    refine sp_forgetTape ?_
    dsimp only
    refine ⟨fun w => absurd w hz.1, fun _ y hy => ?_⟩
    subst hy
    rw [Nat.zero_add, Nat.zero_add]
    exact h0 (Or.inl ⟨_, hEn, rfl⟩) hz.2 (RdI_RF hRF) (PqI_RF hRF (by decide) hrk p4 p5 p6) hF0 hcs
  · intros
    rename_i hEn hrk hQ hFi hcs
    dsimp only
    have hRF := RdQ_RF hQ
    have hF2 := FinQ_F0 hFi (RdQ_F0 hQ)
    obtain ⟨hc0, hA, hPC⟩ := Sm_end hEn hQ hFi
    subst hc0
    refine sp_forgetTape ?_
    dsimp only
    refine ⟨fun _ => ⟨vp_in_nI (n := 0) (N := 13) (by omega) (by omega), fun y hy => ?_⟩, fun w => absurd rfl w⟩
    rw [show (0 : Int32).toNatClampNeg = 0 from rfl] at hy
    rcases hPC with ⟨i, i1, i2⟩ | ⟨-, i1, i2⟩
    · have hi : i < 64 := by
        have := (List.getElem?_eq_some_iff.mp i1).1
        have := p1.1
        omega
      rw [i2] at hy
      subst hy
      refine ⟨⟨fun w => absurd w (nI_ne1 (by omega)), fun _ => ⟨vp_in_nI hi (by omega), trivial⟩⟩, fun y2 h2 => ?_⟩
      rw [if_neg (nI_ne1 (by omega)), nI_clamp (by omega), hSt i hi] at h2
      subst h2
      rw [Nat.zero_add, Nat.zero_add]
      exact h1 hA (Or.inl ⟨i, i1, rfl⟩) (RdI_RF hRF) (PqI_RF hRF (by decide) hrk p4 p5 p6) hF2 hcs
    · rw [i2] at hy
      subst hy
      refine ⟨⟨fun _ => trivial, fun w => absurd rfl w⟩, fun y2 h2 => ?_⟩
      rw [if_pos rfl] at h2
      subst h2
      rw [Nat.zero_add, Nat.zero_add]
      exact h1 hA (Or.inr ⟨fun p hp => i1 (List.mem_of_getElem? hp), rfl⟩) (RdI_RF hRF) (PqI_RF hRF (by decide) hrk p4 p5 p6) hF2 hcs
theorem cl_stage {post : Int32 → (Int32 × Int32 × Int32 × Int32 × Int32 × Int32 × (Nat → Int32) × (Nat → Int32) × Nat × ClassId × Nat × (Nat → Int32) × (Nat → Int32) × Int32 × Int32 × (Nat → Int32) × (Nat → Int32) × Nat × ClassId × Nat × (Nat → Int32) × (Nat → Int32) × (Nat → Int32) × Int32 × Int32 × (Nat → Int32) × (Nat → Int32) × (Nat → Int32) × (Nat → Int32) × (Nat → Int32) × (Nat → Int32) × (Nat → Int32) × Int32 × Int32 × Int32 × Int32 × Int32 × Int32 × Int32 × Int32 × Int32 × Int32 × Int32 × Int32 × Int32 × (Nat → Int32) × (Nat → Int32) × Nat × ClassId × Nat × (Nat → Int32) × Int32 × Int32 × Int32 × Int32 × Int32 × (Nat → Int32) × Int32 × Int32 × (Nat → Int32) × (Nat → Int32) × Nat × ClassId × Nat × (Nat → Int32) × (Nat → Int32) × Int32 × Int32 × (Nat → Int32) × (Nat → Int32) × Nat × ClassId × Nat × (Nat → Int32) × (Nat → Int32) × (Nat → Int32) × (Nat → Int32) × Nat × Nat) → Prop} (hn : n ≤ 20480) (hF : ∀ j, j < n → byt (F j)) (hmc : 2000 ≤ mc) (hms : 700000 ≤ ms) (hR : RdI vS vL vN vT oS oL oN oT sz su sS sL sN sT sV sB) (hP : PqI ps cn ar rk pz pu pS pL pN pT PZ cz cu cS cL cN cT cV cB) (hFF : FF 0 = 0) (hFa : FaR ar E sgE fz fh FK FS FA FP FN FT FO FW) (hRn : RnQ cn rk ps cs L S E.length E sgE)
    (h0 : ∀ {e : Nat × Nat} {an5 bz5 ih5 fg5 ns5 ne5 po5 vz5 vu5 kd5 sa5 sb5 vl5 oz5 ou5 sz5 su5 pz5 pu5 cz5 cu5 tz2 tl5 : Int32} {vS5 vL5 vT5 ND5 oS5 oL5 oT5 OZ5 sS5 sL5 sT5 sV5 sB5 sR5 pS5 pL5 pT5 PZ5 cS5 cL5 cT5 cV5 cB5 FF2 K5 P5 Pl5 Z5 M5 TT5 : Nat → Int32} {vtx5 vN5 otx5 oN5 stx5 sN5 ptx5 pN5 ctx5 cN5 kc5 ks5 : Nat} {kV5 kO5 kS5 kP5 kC5 : ClassId}, SgR ps cn ar F n (.inl e) → (1 ≤ e.1 ∧ e.1 ≤ 20) → RdI vS5 vL5 vN5 vT5 oS5 oL5 oN5 oT5 sz5 su5 sS5 sL5 sN5 sT5 sV5 sB5 → PqI ps cn ar rk pz5 pu5 pS5 pL5 pN5 pT5 PZ5 cz5 cu5 cS5 cL5 cN5 cT5 cV5 cB5 → FF2 0 = 0 → cst (vN + oN + sN + pN + cN) (vN5 + oN5 + sN5 + pN5 + cN5) kc5 ks5 → post (-2 - nI e.2) (0, nI e.1, program_clauses_size_, program_clauses_literals_, pz5, pu5, pS5, pL5, ptx5, kP5, pN5, pT5, PZ5, cz5, cu5, cS5, cL5, ctx5, kC5, cN5, cT5, cV5, cB5, tz2, tl5, FF2, K5, P5, Pl5, Z5, M5, TT5, nI e.1, nI e.2, an5, 2, 12, bz5, ih5, fg5, ns5, ne5, po5, vz5, vu5, vS5, vL5, vtx5, kV5, vN5, vT5, kd5, sa5, sb5, vl5, nI n, ND5, oz5, ou5, oS5, oL5, otx5, kO5, oN5, oT5, OZ5, sz5, su5, sS5, sL5, stx5, kS5, sN5, sT5, sV5, sB5, sR5, kc5, ks5))
    (h1 : ∀ {w : Wd} {ts : List Tm} {ans place2 : Int32} {an5 bz5 ih5 fg5 ns5 ne5 po5 vz5 vu5 kd5 sa5 sb5 vl5 oz5 ou5 sz5 su5 pz5 pu5 cz5 cu5 tz2 tl5 : Int32} {vS5 vL5 vT5 ND5 oS5 oL5 oT5 OZ5 sS5 sL5 sT5 sV5 sB5 sR5 pS5 pL5 pT5 PZ5 cS5 cL5 cT5 cV5 cB5 FF2 K5 P5 Pl5 Z5 M5 TT5 : Nat → Int32} {vtx5 vN5 otx5 oN5 stx5 sN5 ptx5 pN5 ctx5 cN5 kc5 ks5 : Nat} {kV5 kO5 kS5 kP5 kC5 : ClassId}, SgR ps cn ar F n (.inr (w, tcons ts)) → SgA ps cs L (FX cn rk (fun x => x ∈ E)) w (tcons ts) ans → RdI vS5 vL5 vN5 vT5 oS5 oL5 oN5 oT5 sz5 su5 sS5 sL5 sN5 sT5 sV5 sB5 → PqI ps cn ar rk pz5 pu5 pS5 pL5 pN5 pT5 PZ5 cz5 cu5 cS5 cL5 cN5 cT5 cV5 cB5 → FF2 0 = 0 → cst (vN + oN + sN + pN + cN) (vN5 + oN5 + sN5 + pN5 + cN5) kc5 ks5 → post ans (0, 0, program_clauses_size_, program_clauses_literals_, pz5, pu5, pS5, pL5, ptx5, kP5, pN5, pT5, PZ5, cz5, cu5, cS5, cL5, ctx5, kC5, cN5, cT5, cV5, cB5, tz2, tl5, FF2, K5, P5, Pl5, Z5, M5, TT5, 0, place2, an5, 2, 12, bz5, ih5, fg5, ns5, ne5, po5, vz5, vu5, vS5, vL5, vtx5, kV5, vN5, vT5, kd5, sa5, sb5, vl5, nI n, ND5, oz5, ou5, oS5, oL5, otx5, kO5, oN5, oT5, OZ5, sz5, su5, sS5, sL5, stx5, kS5, sN5, sT5, sV5, sB5, sR5, kc5, ks5)) : wp_met_SB_stage post mc ms 64 64 pN 1000 1000 cN 1000 1000 2 13 13 13 13 13 78 12 12 vN 12 12 oN 2 2 sN 2 2 2 program_predicates_text_ program_constants_names_text_ reader_variables_text_ reader_ownPredicates_text_ reader_sides_names_text_ (nI n) 1 F program_clauses_size_ program_clauses_literals_ pz pu pS pL pT PZ cz cu cS cL cT cV cB FF F_question_kinds F_question_predicates F_question_places F_question_sizes F_question_masks F_question_terms reader_place_ reader_foreign_ reader_nameStart_ reader_nameStop_ vS vL vT reader_tokens_kind_ reader_tokens_start_ reader_tokens_value_ F_reader_needed oS oL oT F_reader_ownSizes sz su sS sL sT sV sB F_reader_sides_ranks FK FS FP FT F_join_values k_program_predicates_text k_program_constants_names_text k_reader_variables_text k_reader_ownPredicates_text k_reader_sides_names_text := by
  obtain ⟨hV, hO, hSd⟩ := hR
  obtain ⟨p1, p2, p3, p4, p5, p6⟩ := hP
  refine ⟨fun w => absurd w (by decide), fun _ => ⟨2000, 700000, by omega, by omega, ?_⟩⟩
  refine sp_Re_read_Q (md := 2) (ar := ar) (rk0 := rk) (ps := ps) (cn := cn) (Or.inr (Or.inl rfl)) hn hF (Nat.le_refl _) (Nat.le_refl _) hV hO hSd p1 p3 p2 p4 p5 p6 hFF ?_ ?_
  · intros
    rename_i hEn hrk hRF hF0 hcs
    dsimp only
    have hz := Ends_nz hEn
    refine sp_forgetTape ?_
    dsimp only
    refine ⟨fun w => absurd w hz.1, fun _ y hy => ?_⟩
    subst hy
    rw [Nat.zero_add, Nat.zero_add]
    exact h0 (Or.inl ⟨_, hEn, rfl⟩) hz.2 (RdI_RF hRF) (PqI_RF hRF (by decide) hrk p4 p5 p6) hF0 hcs
  · intros
    rename_i hEn hrk hQ hFi hcs
    dsimp only
    have hRF := RdQ_RF hQ
    have hF2 := FinQ_F0 hFi (RdQ_F0 hQ)
    have hPq := PqI_RF hRF (by decide) hrk p4 p5 p6
    rcases Sg_end hEn hQ hFi with ⟨w, na, ts, hc0, hA, har, hCL, hlt, hts⟩ | ⟨e, hA, he1, he2, hc, hp⟩
    · subst hc0
      have hrk1 := hrk (by decide)
      subst hrk1
      have hcn : cn.length ≤ 1000 := by
        have := hPq.2.1.1.1
        rw [List.length_map] at this
        exact this
      refine sp_forgetTape ?_
      dsimp only
      refine ⟨fun _ => ⟨vp_in_nI (n := 0) (N := 13) (by omega) (by omega), fun y hy => ?_⟩, fun w => absurd rfl w⟩
      rw [show (0 : Int32).toNatClampNeg = 0 from rfl] at hy
      rcases Sg_find (W := F_join_values) hPq.2.1.2 hcn p1.1 p4 hCL hlt hts har hFa hRn with ⟨q1, q2⟩ | ⟨p, q0, q1, q2, q3, q4, q5, q6⟩
      · rw [q1] at hy
        subst hy
        refine ⟨fun _ => ?_, fun w => absurd rfl w⟩
        refine ⟨⟨fun _ => trivial, fun w => absurd rfl w⟩, fun y2 h2 => ?_⟩
        rw [if_pos rfl] at h2
        subst h2
        rw [Nat.zero_add, Nat.zero_add]
        exact h1 hA q2 (RdI_RF hRF) hPq hF2 hcs
      · rw [q1] at hy
        subst hy
        refine ⟨fun w => absurd w (nI_ne1 (by omega)), fun _ => ?_⟩
        refine sp_keyOf (rm := 13) (i := 0) (by omega) q2 q3 q4 q5 ?_
        refine sp_Fa_find hFa.2.2.1 (fun r hr => ?_)
        rcases q6 r hr with ⟨r1, r2⟩ | ⟨f, r1, r2, r3⟩
        · subst r1
          refine ⟨⟨fun _ => trivial, fun w => absurd rfl w⟩, fun y2 h2 => ?_⟩
          rw [if_pos rfl] at h2
          subst h2
          rw [Nat.zero_add, Nat.zero_add]
          exact h1 hA r2 (RdI_RF hRF) hPq hF2 hcs
        · subst r2
          refine ⟨⟨fun w => absurd w (nI_ne1 (by omega)), fun _ => ⟨vp_in_nI r1 (by omega), trivial⟩⟩, fun y2 h2 => ?_⟩
          rw [if_neg (nI_ne1 (by omega)), nI_clamp (by omega)] at h2
          subst h2
          rw [Nat.zero_add, Nat.zero_add]
          exact h1 hA r3 (RdI_RF hRF) hPq hF2 hcs
    · subst hc hp
      have hz := nI_nz he1 (by omega)
      refine sp_forgetTape ?_
      dsimp only
      refine ⟨fun w => absurd w hz, fun _ y hy => ?_⟩
      subst hy
      rw [Nat.zero_add, Nat.zero_add]
      exact h0 hA ⟨he1, he2⟩ (RdI_RF hRF) hPq hF2 hcs
end CSg
