/-! pure: the model's list of terms: the loop -/
theorem mk8 (F : Nat → Int32) (n k : Nat) : mkd (TK F n k).1 = 7 ↔ (TK F n k).1 = 8 := by
  rcases TK_kinds F n k with c | c | c | c | c | c | c | c | c | c | c | c | c | c | c | c | c <;> rw [c] <;> decide
theorem mk7 (F : Nat → Int32) (n k : Nat) : mkd (TK F n k).1 = 6 ↔ (TK F n k).1 = 7 := by
  rcases TK_kinds F n k with c | c | c | c | c | c | c | c | c | c | c | c | c | c | c | c | c <;> rw [c] <;> decide
theorem mk6 (F : Nat → Int32) (n k : Nat) : mkd (TK F n k).1 = 5 ↔ (TK F n k).1 = 6 := by
  rcases TK_kinds F n k with c | c | c | c | c | c | c | c | c | c | c | c | c | c | c | c | c <;> rw [c] <;> decide
theorem isT_or {x : Int32} (h : isT x = true) : x = 2 ∨ x = 3 ∨ x = 4 := by
  simp only [isT, Bool.or_eq_true, decide_eq_true_eq] at h
  rcases h with (h | h) | h
  · exact Or.inl h
  · exact Or.inr (Or.inl h)
  · exact Or.inr (Or.inr h)
/-- behind a closed atom a token that is none ends it -/
theorem step_bad {md n : Nat} {G : Nat → Int32} {D1 : Dt} {c1 q : Nat} (h2 : ¬ c1 = 2) (h7 : ¬ c1 = 7) (hb : (TK G n q).1 = 1) : mStep md G n (c1, 0, 0) D1 q = .inl (1, (TK G n q).2.1) := by
  unfold mStep
  simp only
  rw [if_neg h2, if_neg h7, if_pos hb]
theorem pre_len {α : Type} {a b : List α} (h : ∀ (id : Nat) (c : α), a[id]? = some c → b[id]? = some c) : a.length ≤ b.length := by
  rcases Nat.lt_or_ge b.length a.length with g | g
  · have := h b.length _ (List.getElem?_eq_getElem g)
    have := (List.getElem?_eq_some_iff.mp this).1
    omega
  · exact g
section MTlp
variable {post : Int32 → (Int32 × Int32 × Int32 × Int32 × Int32 × Int64 × Int32 × Int32 × (Nat → Int32) × (Nat → Int32) × (Nat → Int32) × (Nat → Int32) × (Nat → Int32) × (Nat → Int32) × (Nat → Int32) × (Nat → Int32)) → Prop} {n o set cl k md : Nat} {fc fp : Int32} {F LA CN0 CV0 CF0 LT0 TP0 : Nat → Int32} {D : Dt} {mc0 : List Con} {St : ((Nat × Nat) ⊕ Dt) → Prop}
theorem putD_push {md : Nat} {D : Dt} {ts : List Tm} {vs vs2 : List (Option Wd)} {mc mc2 : List Con} {t : Tm} : ((putD md D ts vs mc).1, (putD md D ts vs mc).2.1, pushT (putD md D ts vs mc).2.2.1 t, vs2, (putD md D ts vs mc).2.2.2.2.1, if md = 0 then mc2 else (putD md D ts vs mc).2.2.2.2.2) = putD md D (ts ++ [t]) vs2 mc2 := by
  unfold putD pushT withT
  by_cases h : md = 0
  · simp [h]
  · simp [h]
theorem terms_lp (hs : o + n ≤ 196608) (hB : TxOk md set o n F) (hset : set < 2) (hcl : cl < 257) (hk : k < 13) (hmd : ¬ md = 2) (hmc0 : mc0.length + 6 < 1100) (hQ : TsQ post md n o set cl k fc fp F LA CN0 CV0 CF0 LT0 TP0 D mc0 St) (hF : ∀ (c q : Nat) (u : U14), FrU set mc0.length ((257 * set + cl) * 13 + k) CN0 CV0 CF0 LT0 u → St (.inl (c, q)) → post 0 (nI c, nI q, u)) : ∀ m i : Nat, i + m = 7 → i ≤ 6 → ∀ (ts : List Tm) (mc : List Con) (vs : List (Option Wd)) (p : Nat) (tk fr : Int32) (am : Int64) (CN CV CF LT TP VF VL : Nat → Int32), ts.length = i → p ≤ n → MG md set F mc vs CN CV CF VF VL → TR mc o ((257 * set + cl) * 13 + k) (13 * cl + k) LT TP ts → At6 LT LT0 (6 * ((257 * set + cl) * 13 + k)) → At6 TP TP0 (6 * (13 * cl + k)) → Fc set mc0.length CN CV CF CN0 CV0 CF0 → mc.length ≤ mc0.length + i → (∀ (id : Nat) (c : Con), mc0[id]? = some c → mc[id]? = some c) → (∀ r, Ends md (shf F o) n (3, 0, 0) (putD md D ts vs mc) p r → St r) →
    lw_met_Mo_terms_12 post LA (nI o) (nI k) (nI set) (nI (o + n)) (nI cl) (b01 (asksOf md)) F (m + 1) (1, nI i, fc, fp, tk, fr, nI (o + p), am, nI mc.length, nI vs.length, CN, CV, CF, LT, TP, VF, VL) := by
  intro m
  induction m with
  | zero => intro i h1 h2; omega
  | succ m ih =>
    intro i him hi6 ts mc vs p tk fr am CN CV CF LT TP VF VL hts hp hG hT a1 a2 hfc hmc hex hE
    have hpos := TK_pos (shf F o) n p hp
    refine ⟨fun z => absurd z (by decide), fun _ => ?_⟩
    refine sp_Mo_nextR hs hB.1 hp (fun hbad tk2 fr2 to2 am2 => ?_) (fun tk2 fr2 to2 am2 hC => ?_)
    · exact ⟨fun _ => hF 1 _ _ ⟨hfc, a1⟩ (hE _ (Ends_flt (by rw [step_T, if_pos hbad]))), fun z => absurd rfl z⟩
    obtain ⟨c1, c2, c3, c4, c5⟩ := hC
    subst c2 c3 c4
    refine ⟨fun z => absurd z (by decide), fun _ => ?_⟩
    refine sp_Mo_isTerm c1 ?_
    refine b01_if (fun g => ?_) (fun g => ?_)
    · refine sp_Mo_cannot (by omega) ?_
      exact ⟨Or.inl rfl, hF 2 _ _ ⟨hfc, a1⟩ (hE _ (Ends_flt (by rw [step_T, if_neg c1, if_pos (by simp [g])])))⟩
    have ht := isT_or g
    have hgood : ¬ ¬ (isT (TK (shf F o) n p).1 = true ∧ ¬ ((TK (shf F o) n p).1 = 3 ∧ md = 2)) := fun z => z ⟨g, fun z2 => hmd z2.2⟩
    have hlt : (TK (shf F o) n p).2.1 < (TK (shf F o) n p).2.2.1 := by
      rcases hpos.2.2.2 with z | z
      · rw [z] at ht
        rcases ht with w | w | w <;> exact absurd w (by decide)
      · exact z
    refine pk_eq i 6 (fun q => ?_) (fun q => ?_)
    · refine sp_Mo_flaw ?_
      rw [pk_sub (by omega), show o + (TK (shf F o) n p).2.1 - o = (TK (shf F o) n p).2.1 by omega]
      exact ⟨Or.inl rfl, hF 3 _ _ ⟨hfc, a1⟩ (hE _ (Ends_flt (by rw [step_T, if_neg c1, if_neg hgood, if_pos (show (putD md D ts vs mc).2.2.1.2.2.2.2.length = 6 from (show ts.length = 6 by omega))])))⟩
    have hl6 : ¬ (putD md D ts vs mc).2.2.1.2.2.2.2.length = 6 := fun z => q (by have : ts.length = 6 := z; omega)
    obtain ⟨m1, m2, m3, m4⟩ := hG
    refine sp_Mo_term (D := putD md D ts vs mc) (md := md) hs hB hset hcl hk (by omega) hlt hpos.2.2.1 m1 (by omega) m2 m3 rfl (fun z => by show (if md = 0 then mc else _) = mc; rw [if_pos z]) ht (fun z => ⟨c5 z, TK_num z⟩) (fun hn u hu => ?_) (fun t mc2 vs2 code CN2 CV2 CF2 VF2 VL2 hmt hTC x1 x2 x3 hM2 hf2 hV2 hv2 => ?_)
    · obtain ⟨u1, u2, u3, u4, u5, u6, u7, u8, u9, u10, u11, u12, u13⟩ := u
      obtain ⟨s1, s2, s3, s4⟩ := hu
      simp only at s1 s2 s3 s4
      subst s1 s2 s3 s4
      exact ⟨fun _ => hF 3 _ _ ⟨hfc, a1⟩ (hE _ (Ends_flt (by rw [step_T, if_neg c1, if_neg hgood, if_neg hl6, hn]))), fun z => absurd rfl z⟩
    rw [putD_push] at hmt
    have hb2 := hpos.2.2.1
    have stp : mStep md (shf F o) n (3, 0, 0) (putD md D ts vs mc) p = .inr (some ((4, 0, 0), putD md D (ts ++ [(t, (TK (shf F o) n p).2.1)]) vs2 mc2, (TK (shf F o) n p).2.2.1)) := by
      rw [step_T, if_neg c1, if_neg hgood, if_neg hl6, hmt]
    have hE2 : ∀ r, Ends md (shf F o) n (4, 0, 0) (putD md D (ts ++ [(t, (TK (shf F o) n p).2.1)]) vs2 mc2) (TK (shf F o) n p).2.2.1 r → St r := fun r hr => hE r (Ends_go stp hr)
    have hTR := TR_add (t := (t, (TK (shf F o) n p).2.1)) hT x1 hTC
    have hA1 := At6_add (v := code) a1 (show ts.length < 6 by omega)
    have hA2 := At6_add (v := nI (o + (TK (shf F o) n p).2.1)) a2 (show ts.length < 6 by omega)
    rw [hts] at hTR hA1 hA2
    have hfc2 := Fc_trans hfc hf2 (pre_len hex)
    have hG2 : MG md set F mc2 vs2 CN2 CV2 CF2 VF2 VL2 := ⟨hM2, hV2, hv2, x3 m4⟩
    have hlen2 : (ts ++ [(t, (TK (shf F o) n p).2.1)]).length = i + 1 := by simp [hts]
    have hex2 : ∀ (id : Nat) (c : Con), mc0[id]? = some c → mc2[id]? = some c := fun id c z => x1 id c (hex id c z)
    have hpos2 := TK_pos (shf F o) n (TK (shf F o) n p).2.2.1 hb2
    refine MN_of hs hb2 (fun hbad tk2 fr2 to2 am3 => ?_) (fun tk2 fr2 to2 am3 hC2 => ?_)
    · exact ⟨fun _ => hF 1 _ _ ⟨hfc2, hA1⟩ (hE2 _ (Ends_flt (by rw [step_TE, if_pos hbad]))), fun z => absurd rfl z⟩
    refine ⟨fun z => absurd z (by decide), fun _ => ?_⟩
    intro y45 h45
    have hC3 := hC2
    obtain ⟨d1, d2, d3, d4, d5⟩ := hC2
    subst d2 d3 d4
    by_cases h8 : (TK (shf F o) n (TK (shf F o) n p).2.2.1).1 = 8
    · rw [if_pos ((mk8 _ _ _).mpr h8)] at h45
      rw [h45, nI_1]
      refine ih (i + 1) (by omega) (by omega) (ts ++ [(t, (TK (shf F o) n p).2.1)]) mc2 vs2 (TK (shf F o) n (TK (shf F o) n p).2.2.1).2.2.1 _ _ _ _ _ _ _ _ _ _ hlen2 hpos2.2.2.1 hG2 hTR hA1 hA2 hfc2 (by omega) hex2 (fun r hr => hE2 r (Ends_go (by rw [step_TE, if_neg d1, if_pos h8]) hr))
    · rw [if_neg (fun z => h8 ((mk8 _ _ _).mp z))] at h45
      rw [h45, nI_1]
      refine ⟨fun _ => ?_, fun z => absurd rfl z⟩
      refine ⟨fun z => ?_, fun z => ?_⟩
      · have h7 := (mk7 _ _ _).mp z
        have sh : mStep md (shf F o) n (4, 0, 0) (putD md D (ts ++ [(t, (TK (shf F o) n p).2.1)]) vs2 mc2) (TK (shf F o) n p).2.2.1 = mShut md (putD md D (ts ++ [(t, (TK (shf F o) n p).2.1)]) vs2 mc2) (TK (shf F o) n (TK (shf F o) n p).2.2.1).2.2.1 := by rw [step_TE, if_neg d1, if_neg h8, if_pos h7]
        refine sp_Mo_nextR hs hB.1 hpos2.2.2.1 (fun hbad tk2 fr2 to2 am4 => ?_) (fun tk2 fr2 to2 am4 hC4 => ?_)
        · refine ⟨fun _ => hF 1 _ _ ⟨hfc2, hA1⟩ (hE2 _ (Ends_go sh (Ends_flt (step_bad ?_ ?_ hbad)))), fun z => absurd rfl z⟩
          · rw [if_neg hmd]
            split <;> decide
          · rw [if_neg hmd]
            split <;> decide
        · refine ⟨fun z => absurd z (by decide), fun _ => ?_⟩
          rw [← hlen2]
          exact terms_108 hcl hk hQ hpos2.2.2.1 hC4 hG2 hTR hA1 hA2 hfc2 (by omega) (by omega) hex2 (fun r hr => hE2 r (Ends_go sh hr))
      · refine sp_Mo_cannot (by omega) ?_
        exact ⟨Or.inl rfl, hF 2 _ _ ⟨hfc2, hA1⟩ (hE2 _ (Ends_flt (by rw [step_TE, if_neg d1, if_neg h8, if_neg (fun w => z ((mk7 _ _ _).mpr w))])))⟩
theorem sp_Mo_terms {tk fr to : Int32} {am : Int64} {CN CV CF LT TP VF VL : Nat → Int32} {mc : List Con} {vs : List (Option Wd)} {k0 : Nat} (hs : o + n ≤ 196608) (hB : TxOk md set o n F) (hset : set < 2) (hcl : cl < 257) (hk : k < 13) (hmd : ¬ md = 2) (hmc : mc.length + 6 < 1100) (hk0 : k0 ≤ n) (hC : Cur (shf F o) n o k0 tk fr to am) (hG : MG md set F mc vs CN CV CF VF VL) (hD : D.2.2.2.1 = vs) (hD2 : md = 0 → D.2.2.2.2.2 = mc) (hop : D.2.2.1.2.2.2.2 = [])
    (hQ : TsQ post md n o set cl k fc fp F LA CN CV CF LT TP D mc (fun r => Ends md (shf F o) n (2, 0, 0) D k0 r)) (hF : ∀ (c q : Nat) (u : U14), FrU set mc.length ((257 * set + cl) * 13 + k) CN CV CF LT u → Ends md (shf F o) n (2, 0, 0) D k0 (.inl (c, q)) → post 0 (nI c, nI q, u)) :
    wp_met_Mo_terms post (nI k) fc fp (nI set) (nI o) (nI (o + n)) tk fr to am (nI cl) (b01 (asksOf md)) (nI mc.length) (nI vs.length) F CN CV CF LT TP LA VF VL := by
  have hpos := TK_pos (shf F o) n k0 hk0
  have hput : putD md D [] vs mc = D := by
    obtain ⟨d1, d2, ⟨l1, l2, l3, l4, l5⟩, d4, d5, d6⟩ := D
    simp only at hD hop hD2
    subst hD hop
    unfold putD withT
    by_cases z : md = 0
    · simp [z, hD2 z]
    · simp [z]
  have hwith : withT D.2.2.1 [] = D.2.2.1 := by
    obtain ⟨d1, d2, ⟨l1, l2, l3, l4, l5⟩, d4, d5, d6⟩ := D
    simp only at hop
    subst hop
    rfl
  have hC2 := hC
  obtain ⟨c1, c2, c3, c4, c5⟩ := hC
  have st2 : mStep md (shf F o) n (2, 0, 0) D k0 = if (TK (shf F o) n k0).1 = 6 then .inr (some ((3, 0, 0), D, (TK (shf F o) n k0).2.2.1)) else mShut md D k0 := by
    unfold mStep
    rfl
  subst c2
  refine ⟨fun z => ?_, fun z => ?_⟩
  · have h6 := (mk6 _ _ _).mp z
    subst c3 c4
    refine ⟨7 + 1, terms_lp hs hB hset hcl hk hmd hmc hQ hF 7 0 (by omega) (by omega) [] mc vs (TK (shf F o) n k0).2.2.1 _ _ _ _ _ _ _ _ _ _ rfl hpos.2.2.1 hG (fun j t h => by cases j <;> cases h) (fun _ _ => rfl) (fun _ _ => rfl) Fc_refl (by omega) (fun _ _ h => h) (fun r hr => ?_)⟩
    rw [hput] at hr
    exact Ends_go (by rw [st2, if_pos h6]) hr
  · have h6 : ¬ (TK (shf F o) n k0).1 = 6 := fun w => z ((mk6 _ _ _).mpr w)
    refine terms_108 (ts := []) hcl hk hQ hk0 hC2 hG (fun j t h => by cases j <;> cases h) (fun _ _ => rfl) (fun _ _ => rfl) Fc_refl (by simp) (by omega) (fun _ _ h => h) (fun r hr => ?_)
    refine Ends_go (k2 := k0) (c2 := (if md = 2 then 11 else if md = 0 ∧ D.2.1 = [] then 5 else 10, 0, 0)) (D2 := (D.1, D.2.1 ++ [D.2.2.1], D.2.2.1, D.2.2.2.1, D.2.2.2.2.1, D.2.2.2.2.2)) (by rw [st2, if_neg h6]; rfl) ?_
    rw [hwith] at hr
    have e : (if md = 0 then mc else D.2.2.2.2.2) = D.2.2.2.2.2 := by
      by_cases w : md = 0
      · rw [if_pos w, hD2 w]
      · rw [if_neg w]
    rw [e, ← hD] at hr
    exact hr
end MTlp
