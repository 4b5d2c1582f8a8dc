/-! pure: the model's comparisons and literals -/
section Steps
variable {md n q : Nat} {G : Nat → Int32} {D1 : Dt} {x y : Nat}
theorem step_1 : mStep md G n (1, 0, 0) D1 q = if (TK G n q).1 = 1 then .inl (1, (TK G n q).2.1) else if ¬ (TK G n q).1 = 2 then .inl (2, (TK G n q).2.1) else mName md G D1 D1.2.2.1.1 D1.2.2.1.2.2.2.1 (TK G n q).2.1 (TK G n q).2.2.1 (TK G n q).2.2.1 := by
  unfold mStep
  rfl
theorem step_5 : mStep md G n (5, 0, 0) D1 q = if (TK G n q).1 = 1 then .inl (1, (TK G n q).2.1) else if (TK G n q).1 = 9 then mDot D1 (TK G n q).2.2.1 else if (TK G n q).1 = 10 then .inr (some ((6, 0, 0), D1, (TK G n q).2.2.1)) else .inl (2, (TK G n q).2.1) := by
  unfold mStep
  rfl
theorem step_6 : mStep md G n (6, 0, 0) D1 q = if (TK G n q).1 = 1 then .inl (1, (TK G n q).2.1) else if ¬ (isT (TK G n q).1 = true ∨ (TK G n q).1 = 5) then .inl (2, (TK G n q).2.1) else if D1.2.1.length = 12 + (if md = 0 then 1 else 0) then .inl (3, (TK G n q).2.1) else if (TK G n q).1 = 2 then .inr (some ((7, (TK G n q).2.1, (TK G n q).2.2.1), D1, (TK G n q).2.2.1)) else if (TK G n q).1 = 5 then .inr (some ((1, 0, 0), (D1.1, D1.2.1, (1, [], 0, (TK G n q).2.1, []), D1.2.2.2), (TK G n q).2.2.1)) else (match mTerm md G (D1.1, D1.2.1, (11, [], (TK G n q).2.1, 0, []), D1.2.2.2) (TK G n q).1 (TK G n q).2.1 (TK G n q).2.2.1 (TK G n q).2.2.2 with
      | some D2 => .inr (some ((8, 0, 0), D2, (TK G n q).2.2.1))
      | none => .inl (3, (TK G n q).2.1)) := by
  unfold mStep
  rfl
theorem step_7 : mStep md G n (7, x, y) D1 q = if (11 : Int32) ≤ (TK G n q).1 then (match mTerm md G (D1.1, D1.2.1, (11, [], x, 0, []), D1.2.2.2) 2 x y 0 with
      | some D2 => .inr (some ((8, 0, 0), D2, q))
      | none => .inl (3, x)) else mName md G D1 0 0 x y q := by
  unfold mStep
  rfl
theorem step_8 : mStep md G n (8, 0, 0) D1 q = if (TK G n q).1 = 1 then .inl (1, (TK G n q).2.1) else if (11 : Int32) ≤ (TK G n q).1 then .inr (some ((9, 0, 0), (D1.1, D1.2.1, ((TK G n q).1, D1.2.2.1.2), D1.2.2.2), (TK G n q).2.2.1)) else .inl (2, (TK G n q).2.1) := by
  unfold mStep
  rfl
theorem step_9 : mStep md G n (9, 0, 0) D1 q = if (TK G n q).1 = 1 then .inl (1, (TK G n q).2.1) else if ¬ isT (TK G n q).1 = true then .inl (2, (TK G n q).2.1) else (match mTerm md G D1 (TK G n q).1 (TK G n q).2.1 (TK G n q).2.2.1 (TK G n q).2.2.2 with
      | some D2 => .inr (some ((10, 0, 0), (D2.1, D2.2.1 ++ [D2.2.2.1], D2.2.2), (TK G n q).2.2.1))
      | none => .inl (3, (TK G n q).2.1)) := by
  unfold mStep
  rfl
theorem step_10 : mStep md G n (10, 0, 0) D1 q = if (TK G n q).1 = 1 then .inl (1, (TK G n q).2.1) else if (TK G n q).1 = 8 then .inr (some ((6, 0, 0), D1, (TK G n q).2.2.1)) else if md = 0 ∧ (TK G n q).1 = 9 then mDot D1 (TK G n q).2.2.1 else if md = 1 ∧ (TK G n q).1 = 0 then .inr none else .inl (2, (TK G n q).2.1) := by
  unfold mStep
  rfl
theorem step_0 : mStep md G n (0, 0, 0) D1 q = if (TK G n q).1 = 1 then .inl (1, (TK G n q).2.1) else if (TK G n q).1 = 0 then .inr none else if ¬ (TK G n q).1 = 2 then .inl (2, (TK G n q).2.1) else if D1.1.length = 256 then .inl (3, (TK G n q).2.1) else mName md G (D1.1, [], D1.2.2.1, [], D1.2.2.2.2) 0 0 (TK G n q).2.1 (TK G n q).2.2.1 (TK G n q).2.2.1 := by
  unfold mStep
  rfl
theorem step_11 : mStep md G n (11, 0, 0) D1 q = if (TK G n q).1 = 1 then .inl (1, (TK G n q).2.1) else if (TK G n q).1 = 0 then .inr none else .inl (2, (TK G n q).2.1) := by
  unfold mStep
  rfl
end Steps
theorem sp_Mo_isSign {post : Int32 → Unit → Prop} {F : Nat → Int32} {n k : Nat} (hn : ¬ (TK F n k).1 = 1) (h : post (b01 (decide ((11 : Int32) ≤ (TK F n k).1))) ()) : wp_met_Mo_isSign post (mkd (TK F n k).1) := by
  intro y hy
  have e : y = b01 (decide ((11 : Int32) ≤ (TK F n k).1)) := by
    rw [hy]
    rcases TK_kinds F n k with c | c | c | c | c | c | c | c | c | c | c | c | c | c | c | c | c <;> first | exact absurd c hn | (rw [c]; decide)
  rw [e]
  exact h
theorem mk4 (F : Nat → Int32) (n k : Nat) : mkd (TK F n k).1 = 4 ↔ (TK F n k).1 = 5 := by
  rcases TK_kinds F n k with c | c | c | c | c | c | c | c | c | c | c | c | c | c | c | c | c <;> rw [c] <;> decide
theorem mk1 (F : Nat → Int32) (n k : Nat) : mkd (TK F n k).1 = 1 ↔ (TK F n k).1 = 2 := by
  rcases TK_kinds F n k with c | c | c | c | c | c | c | c | c | c | c | c | c | c | c | c | c <;> rw [c] <;> decide
theorem mk0 {F : Nat → Int32} {n k : Nat} (h : ¬ (TK F n k).1 = 1) : mkd (TK F n k).1 = 0 ↔ (TK F n k).1 = 0 := by
  rcases TK_kinds F n k with c | c | c | c | c | c | c | c | c | c | c | c | c | c | c | c | c <;> first | exact absurd c h | (rw [c]; decide)
theorem mk9 (F : Nat → Int32) (n k : Nat) : mkd (TK F n k).1 = 9 ↔ (TK F n k).1 = 10 := by
  rcases TK_kinds F n k with c | c | c | c | c | c | c | c | c | c | c | c | c | c | c | c | c <;> rw [c] <;> decide
theorem mk8d (F : Nat → Int32) (n k : Nat) : mkd (TK F n k).1 = 8 ↔ (TK F n k).1 = 9 := by
  rcases TK_kinds F n k with c | c | c | c | c | c | c | c | c | c | c | c | c | c | c | c | c <;> rw [c] <;> decide
theorem sign_lkd (F : Nat → Int32) (n k : Nat) (h : (11 : Int32) ≤ (TK F n k).1) : lkd (TK F n k).1 = mkd (TK F n k).1 ∧ ¬ ((TK F n k).1 = 0 ∨ (TK F n k).1 = 1) := by
  rcases TK_kinds F n k with c | c | c | c | c | c | c | c | c | c | c | c | c | c | c | c | c <;> rw [c] at h ⊢ <;> first | exact absurd h (by decide) | exact ⟨by decide, by decide⟩
theorem TK_term_lt {F : Nat → Int32} {n k : Nat} (hk : k ≤ n) (h : isT (TK F n k).1 = true) : (TK F n k).2.1 < (TK F n k).2.2.1 := by
  rcases (TK_pos F n k hk).2.2.2 with z | z
  · rw [z] at h
    exact absurd h (by decide)
  · exact z
abbrev U22 : Type := Int32 × Int32 × Int32 × Int64 × Int32 × Int32 × (Nat → Int32) × (Nat → Int32) × (Nat → Int32) × (Nat → Int32) × (Nat → Int32) × (Nat → Int32) × (Nat → Int32) × (Nat → Int32) × (Nat → Int32) × (Nat → Int32) × (Nat → Int32) × (Nat → Int32) × (Nat → Int32) × (Nat → Int32) × (Nat → Int32) × (Nat → Int32)
def g22 (LC : Nat → Int32) (u : U22) : G11 := (u.2.2.2.2.2.2.1, u.2.2.2.2.2.2.2.1, u.2.2.2.2.2.2.2.2.1, u.2.2.2.2.2.2.2.2.2.1, u.2.2.2.2.2.2.2.2.2.2.1, u.2.2.2.2.2.2.2.2.2.2.2.1, u.2.2.2.2.2.2.2.2.2.2.2.2.1, LC, u.2.2.2.2.2.2.2.2.2.2.2.2.2.1, u.2.2.2.2.2.2.2.2.2.2.2.2.2.2.1, u.2.2.2.2.2.2.2.2.2.2.2.2.2.2.2.1)
section MLit
variable {post : Int32 → (Int32 × Int32 × U22) → Prop} {n o set cl k md c0 lo a b : Nat} {kd : Int32} {v : Int} {am : Int64} {F LC PF PL PA PS CN CV CF LK LP LT LQ NQ TP LA VF VL : Nat → Int32} {D : Dt} {mc : List Con} {ps : List Wd} {vs : List (Option Wd)} {St : ((Nat × Nat) ⊕ Dt) → Prop}
/-- what the model leaves behind a literal of a body -/
def BlQ (post : Int32 → (Int32 × Int32 × U22) → Prop) (md n o set cl k c0 lo : Nat) (F LC PF PL PA PS CN CV CF LK LP LT LQ NQ TP LA : Nat → Int32) (D : Dt) (ps : List Wd) (mc : List Con) (St : ((Nat × Nat) ⊕ Dt) → Prop) : Prop :=
  ∀ lt mc2 vs2 ps2 p tk fr to am PF2 PL2 PA2 PS2 CN2 CV2 CF2 LK2 LP2 LT2 LQ2 NQ2 TP2 LA2 VF2 VL2, lt.2.2.2.2.length ≤ 6 → p ≤ n → Cur (shf F o) n o p tk fr to am → MG md set F mc2 vs2 CN2 CV2 CF2 VF2 VL2 → PR set ps2 PF2 PL2 PS2 F → PN md set ps2 PA2 → LR md ps2 mc2 o ((257 * set + cl) * 13 + k) (13 * cl + k) (LK2, LP2, LT2, LQ2, NQ2, TP2, LA2) lt → Off ((257 * set + cl) * 13 + k) (13 * cl + k) (LK2, LP2, LT2, LQ2, NQ2, TP2, LA2) (LK, LP, LT, LQ, NQ, TP, LA) → Pre ps ps2 → (¬ md = 0 → ps2 = ps) → Pre mc mc2 → mc2.length ≤ mc.length + 6 → Fr md set c0 lo (PF2, PL2, PA2, PS2, CN2, CV2, CF2, LC, LK2, LP2, LT2) (PF, PL, PA, PS, CN, CV, CF, LC, LK, LP, LT) →
    (∀ r, Ends md (shf F o) n (10, 0, 0) (D.1, D.2.1 ++ [lt], lt, vs2, ps2, if md = 0 then mc2 else D.2.2.2.2.2) p r → St r) →
    post 1 (0, 0, tk, fr, to, am, nI mc2.length, nI vs2.length, PF2, PL2, PA2, PS2, CN2, CV2, CF2, LK2, LP2, LT2, LQ2, NQ2, TP2, LA2, VF2, VL2)
theorem lit_140 {tk : Int32} (hs : o + n ≤ 196608) (hB : TxOk md set o n F) (hset : set < 2) (hcl : cl < 257) (hc0 : c0 ≤ cl) (hlo : lo ≤ mc.length) (hk : k < 13) (hmd : md = 0 ∨ md = 1) (hmc : mc.length + 6 < 1100) (hab : a < b) (hb : b ≤ n) (hG : MG md set F mc vs CN CV CF VF VL) (hP : PR set ps PF PL PS F) (hN : PN md set ps PA) (hD : D.2.2.2.1 = vs) (hDp : D.2.2.2.2.1 = ps) (hD2 : md = 0 → D.2.2.2.2.2 = mc) (hkd : kd = 2 ∨ kd = 3 ∨ kd = 4) (hv : kd = 4 → am.toInt = v ∧ -2147483648 ≤ v ∧ v < 2147483648)
    (hE : ∀ r, Gos md (shf F o) n (match mTerm md (shf F o) (D.1, D.2.1, (11, [], a, 0, []), D.2.2.2) kd a b v with
      | some D2 => .inr (some ((8, 0, 0), D2, b))
      | none => .inl (3, a)) D r → St r) (hQ : BlQ post md n o set cl k c0 lo F LC PF PL PA PS CN CV CF LK LP LT LQ NQ TP LA D ps mc St)
    (hF : ∀ (c q : Nat) (u : U22), Fr md set c0 lo (g22 LC u) (PF, PL, PA, PS, CN, CV, CF, LC, LK, LP, LT) → St (.inl (c, q)) → post 0 (nI c, nI q, u)) (htk : tk = mkd kd) :
    jw_met_Mo_bodyLiteral_140 post (nI cl) (nI k) LQ (nI (o + a)) LP LA PF PL PA PS LK NQ (nI o) (nI set) (nI (o + n)) (b01 (asksOf md)) F (nI (o + b)) (nI mc.length) (nI vs.length) CN CV CF LT TP VF VL (0, 0, tk, am) := by
  subst htk
  obtain ⟨D1, hD1⟩ : ∃ D1 : Dt, D1 = (D.1, D.2.1, (11, [], a, 0, []), D.2.2.2) := ⟨_, rfl⟩
  rw [← hD1] at hE
  have hL : (257 * set + c0) * 13 ≤ (257 * set + cl) * 13 + k ∧ (257 * set + cl) * 13 + k < (257 * set + 257) * 13 := by omega
  have hL6 : (257 * set + cl) * 13 + k < 6682 := by omega
  generalize hLe : (257 * set + cl) * 13 + k = L at hL hL6
  have hfr : ∀ CN2 CV2 CF2 LK2 LT2 x, Fc set mc.length CN2 CV2 CF2 CN CV CF → (∀ j, ¬ j = L → LK2 j = LK j) → At6 LT2 LT (6 * L) → Fr md set c0 lo (PF, PL, PA, PS, CN2, CV2, CF2, LC, LK2, upd LP L x, LT2) (PF, PL, PA, PS, CN, CV, CF, LC, LK, LP, LT) := by
    intro CN2 CV2 CF2 LK2 LT2 x q1 q2 q3
    exact ⟨fun _ _ => ⟨rfl, rfl, rfl⟩, fun _ _ => rfl, Fc_trans Fc_refl q1 hlo, fun _ _ => rfl, fun j hj => ⟨q2 j (by omega), by show upd LP L x j = LP j; rw [upd_ne (by omega)]⟩, fun j hj => q3 j (by omega)⟩
  intro y44 h44 y45 h45
  rw [show (13 : Int32) = nI 13 from rfl, pk_mul] at h44
  rw [h44, nI_add] at h45
  subst h45
  have hl2 : vp_in (nI (13 * cl + k)) 3341 := vp_in_nI (by omega) (by omega)
  have cl2 : (nI (13 * cl + k)).toNatClampNeg = 13 * cl + k := nI_clamp (by omega)
  refine ⟨hl2, fun g47 h47 => ?_⟩
  rw [cl2] at h47
  refine sp_Mo_literal ?_
  rw [hLe]
  refine ⟨vp_in_nI hL6 (by omega), fun g50 h50 y51 h51 y52 h52 => ?_⟩
  rw [nI_clamp (by omega)] at h50
  rw [show (13 : Int32) = nI 13 from rfl, pk_mul] at h51
  rw [h51, nI_add] at h52
  subst h52
  refine ⟨hl2, fun g54 h54 => ?_⟩
  rw [cl2] at h54
  obtain ⟨m1, m2, m3, m4⟩ := hG
  have hLT0 : 6 * ((257 * set + cl) * 13 + k) + 0 = 6 * L + 0 := by omega
  have hLT1 : 6 * ((257 * set + cl) * 13 + k) + 1 = 6 * L + 1 := by omega
  refine sp_Mo_term (D := D1) (md := md) (i := 0) hs hB hset hcl hk (by omega) hab hb m1 (by omega) m2 m3 (by rw [hD1]; exact hD) (fun z => by rw [hD1]; exact hD2 z) hkd hv (fun hn u hu => ?_) (fun t mc2 vs2 code CN2 CV2 CF2 VF2 VL2 hmt hTC x1 x2 x3 hM2 hf2 hV2 hv2 => ?_)
  · obtain ⟨u1, u2, u3, u4, u5, u6, u7, u8, u9, u10, u11, u12, u13⟩ := u
    obtain ⟨s1, s2, s3, s4⟩ := hu
    simp only at s1 s2 s3 s4
    subst s1 s2 s3 s4
    rw [hn] at hE
    subst h50
    exact ⟨fun _ => hF 3 _ _ (hfr _ _ _ _ _ _ Fc_refl (fun _ _ => rfl) (fun _ _ => rfl)) (hE _ rfl), fun z => absurd rfl z⟩
  rw [hmt] at hE
  have hpos := TK_pos (shf F o) n b hb
  have hTR1 : TR mc2 o L (13 * cl + k) (upd LT (6 * L + 0) code) (upd TP (6 * (13 * cl + k) + 0) (nI (o + a))) [(t, a)] := TR_add (t := (t, a)) (ts := []) (fun j t h => by cases j <;> cases h) x1 hTC
  have hA1 : At6 (upd LT (6 * L + 0) code) LT (6 * L) := At6_add (fun _ _ => rfl) (by omega)
  have hA2 : At6 (upd TP (6 * (13 * cl + k) + 0) (nI (o + a))) TP (6 * (13 * cl + k)) := At6_add (fun _ _ => rfl) (by omega)
  unfold TmQ
  rw [hLT0]
  obtain ⟨D2, hD2e⟩ : ∃ D2 : Dt, D2 = (D1.1, D1.2.1, pushT D1.2.2.1 (t, a), vs2, D1.2.2.2.2.1, if md = 0 then mc2 else D1.2.2.2.2.2) := ⟨_, rfl⟩
  rw [← hD2e] at hE
  have hE2 : ∀ r, Ends md (shf F o) n (8, 0, 0) D2 b r → St r := fun r hr => hE r hr
  refine MN_of hs hb (fun hbad tk2 fr2 to2 am2 => ?_) (fun tk2 fr2 to2 am2 hC => ?_)
  · subst h50
    exact ⟨fun _ => hF 1 _ _ (hfr _ _ _ _ _ _ hf2 (fun _ _ => rfl) hA1) (hE2 _ (Ends_flt (by rw [step_8, if_pos hbad]))), fun z => absurd rfl z⟩
  refine ⟨fun z => absurd z (by decide), fun _ => ?_⟩
  obtain ⟨c1, c2, c3, c4, c5⟩ := hC
  subst c2 c3 c4
  refine sp_Mo_isSign c1 ?_
  refine b01_if (fun g => ?_) (fun g => ?_)
  · have g2 := of_decide_eq_false g
    refine sp_Mo_cannot (by omega) ?_
    subst h50
    exact ⟨Or.inl rfl, hF 2 _ _ (hfr _ _ _ _ _ _ hf2 (fun _ _ => rfl) hA1) (hE2 _ (Ends_flt (by rw [step_8, if_neg c1, if_neg g2])))⟩
  have g2 := of_decide_eq_true g
  refine sp_Mo_literal ?_
  rw [hLe]
  refine ⟨vp_in_nI hL6 (by omega), fun g74 h74 => ?_⟩
  rw [nI_clamp (by omega)] at h74
  obtain ⟨D3, hD3⟩ : ∃ D3 : Dt, D3 = (D2.1, D2.2.1, ((TK (shf F o) n b).1, D2.2.2.1.2), D2.2.2.2) := ⟨_, rfl⟩
  obtain ⟨b2, hb2⟩ : ∃ b2, b2 = (TK (shf F o) n b).2.2.1 := ⟨_, rfl⟩
  have hE3 : ∀ r, Ends md (shf F o) n (9, 0, 0) D3 b2 r → St r := fun r hr => hE2 r (Ends_go (by rw [step_8, if_neg c1, if_pos g2, ← hD3, ← hb2]) hr)
  rw [← hb2]
  have hb3 : b2 ≤ n := by rw [hb2]; exact hpos.2.2.1
  have hpos2 := TK_pos (shf F o) n b2 hb3
  have hLK : ∀ j, ¬ j = L → g74 j = LK j := fun j hj => by rw [h74, upd_ne hj]
  refine sp_Mo_nextR hs hB.1 hb3 (fun hbad tk2 fr2 to2 am3 => ?_) (fun tk2 fr2 to2 am3 hC2 => ?_)
  · subst h50
    exact ⟨fun _ => hF 1 _ _ (hfr _ _ _ _ _ _ hf2 hLK hA1) (hE3 _ (Ends_flt (by rw [step_9, if_pos hbad]))), fun z => absurd rfl z⟩
  refine ⟨fun z => absurd z (by decide), fun _ => ?_⟩
  obtain ⟨d1, d2, d3, d4, d5⟩ := hC2
  subst d2 d3 d4
  refine sp_Mo_isTerm d1 ?_
  refine b01_if (fun e => ?_) (fun e => ?_)
  · refine sp_Mo_cannot (by omega) ?_
    subst h50
    exact ⟨Or.inl rfl, hF 2 _ _ (hfr _ _ _ _ _ _ hf2 hLK hA1) (hE3 _ (Ends_flt (by rw [step_9, if_neg d1, if_pos (by simp [e])])))⟩
  have hlt := TK_term_lt hb3 e
  have hD3v : D3.2.2.2.1 = vs2 := by rw [hD3, hD2e]
  have hmc2 : mc2.length < 1100 := by omega
  have ht2 := isT_or e
  refine sp_Mo_term (D := D3) (md := md) (i := 1) hs hB hset hcl hk (by omega) hlt hpos2.2.2.1 hM2 hmc2 hV2 hv2 hD3v (fun z => by rw [hD3, hD2e]; show (if md = 0 then mc2 else _) = mc2; rw [if_pos z]) ht2 (fun z => ⟨d5 z, TK_num z⟩) (fun hn u hu => ?_) (fun t2 mc3 vs3 code2 CN3 CV3 CF3 VF3 VL3 hmt2 hTC2 w1 w2 w3 hM3 hf3 hV3 hv3 => ?_)
  · obtain ⟨u1, u2, u3, u4, u5, u6, u7, u8, u9, u10, u11, u12, u13⟩ := u
    obtain ⟨s1, s2, s3, s4⟩ := hu
    simp only at s1 s2 s3 s4
    subst s1 s2 s3 s4
    subst h50
    exact ⟨Or.inl rfl, hF 3 _ _ (hfr _ _ _ _ _ _ hf2 hLK hA1) (hE3 _ (Ends_flt (by rw [step_9, if_neg d1, if_neg (by simp [e]), hn])))⟩
  unfold TmQ
  rw [hLT1]
  have hf23 : Fc set mc.length CN3 CV3 CF3 CN CV CF := Fc_trans hf2 hf3 (pre_len x1)
  have hTR2 : TR mc3 o L (13 * cl + k) (upd (upd LT (6 * L + 0) code) (6 * L + 1) code2) (upd (upd TP (6 * (13 * cl + k) + 0) (nI (o + a))) (6 * (13 * cl + k) + 1) (nI (o + (TK (shf F o) n b2).2.1))) [(t, a), (t2, (TK (shf F o) n b2).2.1)] := TR_add (t := (t2, (TK (shf F o) n b2).2.1)) hTR1 w1 hTC2
  have hA3 : At6 (upd (upd LT (6 * L + 0) code) (6 * L + 1) code2) LT (6 * L) := At6_add hA1 (by omega)
  have hA4 : At6 (upd (upd TP (6 * (13 * cl + k) + 0) (nI (o + a))) (6 * (13 * cl + k) + 1) (nI (o + (TK (shf F o) n b2).2.1))) TP (6 * (13 * cl + k)) := At6_add hA2 (by omega)
  obtain ⟨lt, hlte⟩ : ∃ lt : Lt, lt = ((TK (shf F o) n b).1, [], a, 0, [(t, a), (t2, (TK (shf F o) n b2).2.1)]) := ⟨_, rfl⟩
  have hE4 : ∀ r, Ends md (shf F o) n (10, 0, 0) (D.1, D.2.1 ++ [lt], lt, vs3, ps, if md = 0 then mc3 else D.2.2.2.2.2) (TK (shf F o) n b2).2.2.1 r → St r := by
    intro r hr
    refine hE3 r (Ends_go (by rw [step_9, if_neg d1, if_neg (by simp [e]), hmt2]) ?_)
    rw [hD3, hD2e, hD1]
    rw [hlte] at hr
    rw [← hDp] at hr
    by_cases z : md = 0
    · simp only [z, if_true] at hr ⊢
      exact hr
    · simp only [z, if_false] at hr ⊢
      exact hr
  refine MN_of hs hpos2.2.2.1 (fun hbad tk2 fr2 to2 am4 => ?_) (fun tk2 fr2 to2 am4 hC4 => ?_)
  · subst h50
    exact ⟨Or.inl rfl, hF 1 _ _ (hfr _ _ _ _ _ _ hf23 hLK hA3) (hE4 _ (Ends_flt (by rw [step_10, if_pos hbad])))⟩
  refine ⟨Or.inr rfl, ?_⟩
  subst h47 h50 h54 h74
  obtain ⟨sg1, sg2⟩ := sign_lkd (shf F o) n b g2
  refine hQ lt mc3 vs3 ps _ _ _ _ _ _ _ _ _ _ _ _ _ _ _ _ _ _ _ _ _ (by rw [hlte]; simp) hpos2.2.2.1 hC4 ⟨hM3, hV3, hv3, w3 (x3 m4)⟩ hP hN ?_ ?_ Pre_refl (fun _ => rfl) (Pre_trans x1 w1) (by omega) (hfr _ _ _ _ _ _ hf23 hLK hA3) hE4
  · rw [hLe, hlte]
    refine ⟨?_, fun z => absurd z sg2, fun _ => ?_, ?_, fun z => absurd (Or.inr z) sg2, ?_, hTR2⟩
    · show upd LK L _ L = lkd (TK (shf F o) n b).1
      rw [upd_same, sg1]
    · show upd LP L (-1) L = -1
      rw [upd_same]
    · show upd LQ (13 * cl + k) _ (13 * cl + k) = nI (o + a)
      rw [upd_same]
    · show upd LA (13 * cl + k) 2 (13 * cl + k) = nI 2
      rw [upd_same]
      rfl
  · rw [hLe]
    exact ⟨hLK, fun j hj => upd_ne hj, hA3, fun j hj => upd_ne hj, fun _ _ => rfl, hA4, fun j hj => upd_ne hj⟩
end MLit
