/-! pure: the model's stratum(), and its small answers -/
section MStratum
variable {post : Int32 → (Int32 × Int32 × Int32 × Int32 × Int32 × Int32 × Int32 × Int32 × Int32 × Int32 × Int64 × Int32 × Int32 × Int32 × Int32 × (Nat → Int32)) → Prop} {n live : Nat} {D : Dt} {L : Nat → Nat} {T F PF PL PA PS CN CV CF Cs Cl LC LK LP LT ST : Nat → Int32} {am : Int64}
/-- the stratum that is answered -/
def StA2 (ps : List Wd) (st : Nat → Nat) (w : Wd) (ans : Int32) : Prop := (∃ p : Nat, ps[p]? = some w ∧ ans = nI (st p)) ∨ ((∀ p : Nat, ¬ ps[p]? = some w) ∧ ans = -1)
theorem StA2_one {ps : List Wd} {st : Nat → Nat} {w : Wd} {a b : Int32} (hps : ps.Nodup) (h1 : StA2 ps st w a) (h2 : StA2 ps st w b) : a = b := by
  rcases h1 with ⟨p, a1, a2⟩ | ⟨a1, a2⟩
  · rcases h2 with ⟨q, b1, b2⟩ | ⟨b1, -⟩
    · rw [a2, b2, nodup_inj hps a1 b1]
    · exact absurd a1 (b1 p)
  · rcases h2 with ⟨q, b1, -⟩ | ⟨-, b2⟩
    · exact absurd b1 (a1 q)
    · rw [a2, b2]
theorem sp_Mo_stratum (hn : n ≤ 65536) (hT : ∀ j, j < n → byt (T j)) (hFb : ∀ j, j < 196608 → byt (F j)) (hP : MPo D L live F PF PL PA PS CN CV CF Cs Cl LC LK LP LT ST) (hps : D.2.2.2.2.1.Nodup)
    (h0 : ∀ (c q : Nat) ba so tk fr to am cA F2, WdR D.2.2.2.2.1 D.2.2.2.2.2 T n (.inl (c, q)) → (∀ j, j < 196608 → byt (F2 j)) → MPo D L live F2 PF PL PA PS CN CV CF Cs Cl LC LK LP LT ST → post (-2 - nI q) (0, 0, nI c, nI q, nI live, ba, so, tk, fr, to, am, 256, 1, cA, 0, F2))
    (h1 : ∀ (w : Wd) (ans : Int32) fpl ba so tk fr to am cA F2, WdR D.2.2.2.2.1 D.2.2.2.2.2 T n (.inr w) → StA2 D.2.2.2.2.1 L w ans → (∀ j, j < 196608 → byt (F2 j)) → MPo D L live F2 PF PL PA PS CN CV CF Cs Cl LC LK LP LT ST → post ans (0, 0, 0, fpl, nI live, ba, so, tk, fr, to, am, 256, 1, cA, 0, F2)) :
    wp_met_Mo_stratum post (nI n) (nI live) am T F PF PL PS Cs ST := by
  have hP0 := hP
  obtain ⟨hPR, ⟨hl, hcn, hmc, hcw, hM, hCl, hST, hAr, hCLp⟩, hCs, hc1, hcs⟩ := hP0
  have n10 : ¬ (1 : Int32) = 0 := by decide
  refine ⟨vp_in_nI hl (by omega), fun y2 hy2 => ?_⟩
  have e131 : (131072 : Int32) = nI 131072 := rfl
  rw [e131]
  have keep : ∀ F2 : Nat → Int32, (∀ j, j < 131072 → F2 j = F j) → MPo D L live F2 PF PL PA PS CN CV CF Cs Cl LC LK LP LT ST := fun F2 eF => MPo_q hP eF Fr_refl
  have hpk : POk n ((1, 0, 0) : Ct) 0 := ⟨Nat.zero_le _, fun z => absurd z (by decide)⟩
  refine sp_Mo_starts (o := 131072) (by omega) hn hT hFb (fun F2 tk2 fr2 to2 am2 e1 e2 hb hbad => ?_) (fun F2 tk2 fr2 to2 am2 e1 e2 hb hC => ?_)
  · have hce := TK_cong (F := shf F2 131072) (G := T) (fun j hj => e1 j hj) (Nat.zero_le n)
    rw [hce] at hbad ⊢
    refine ⟨fun _ => ?_, fun z => absurd rfl z⟩
    refine ⟨fun _ => ?_, fun z => absurd rfl z⟩
    refine ⟨⟨fun _ => trivial, fun z => absurd rfl z⟩, fun y51 h51 => ?_⟩
    rw [if_pos rfl] at h51
    rw [h51]
    exact h0 1 _ _ _ _ _ _ _ _ F2 (Or.inl ⟨_, Ends_flt (by rw [step_1, if_pos hbad]), rfl⟩) hb (keep F2 (fun j hj => e2 j (by omega)))
  · have hcg : ∀ r, Ends 3 (shf F2 131072) n (1, 0, 0) (D00 D.2.2.2.2.1 D.2.2.2.2.2) 0 r → Ends 3 T n (1, 0, 0) (D00 D.2.2.2.2.1 D.2.2.2.2.2) 0 r := fun r hr => (Ends_cong (fun j hj => e1 j hj) hpk).mp hr
    have hPk := keep F2 (fun j hj => e2 j (by omega))
    have hpos := TK_pos (shf F2 131072) n 0 (Nat.zero_le _)
    obtain ⟨c1, c2, c3, c4, c5⟩ := hC
    subst c2 c3 c4
    refine ⟨fun z => absurd z n10, fun _ => ?_⟩
    by_cases k2 : (TK (shf F2 131072) n 0).1 = 2
    · refine ⟨fun _ => ?_, fun z => absurd ((mk1 _ _ _).mpr k2) z⟩
      have hlt : (TK (shf F2 131072) n 0).2.1 < (TK (shf F2 131072) n 0).2.2.1 := TK_term_lt (Nat.zero_le _) (by rw [k2]; decide)
      refine ⟨fun z => absurd z n10, fun _ => ?_⟩
      have hto : nI (131072 + (TK (shf F2 131072) n 0).2.2.1) = nI (131072 + (TK (shf F2 131072) n 0).2.1 + ((TK (shf F2 131072) n 0).2.2.1 - (TK (shf F2 131072) n 0).2.1)) := by
        rw [show 131072 + (TK (shf F2 131072) n 0).2.1 + ((TK (shf F2 131072) n 0).2.2.1 - (TK (shf F2 131072) n 0).2.1) = 131072 + (TK (shf F2 131072) n 0).2.2.1 by omega]
      have hw9 : sl F2 (131072 + (TK (shf F2 131072) n 0).2.1) ((TK (shf F2 131072) n 0).2.2.1 - (TK (shf F2 131072) n 0).2.1) = sl (shf F2 131072) (TK (shf F2 131072) n 0).2.1 ((TK (shf F2 131072) n 0).2.2.1 - (TK (shf F2 131072) n 0).2.1) := sl_sh _ _
      generalize hwe : sl (shf F2 131072) (TK (shf F2 131072) n 0).2.1 ((TK (shf F2 131072) n 0).2.2.1 - (TK (shf F2 131072) n 0).2.1) = wn at hw9
      have st1 : mStep 3 (shf F2 131072) n (1, 0, 0) (D00 D.2.2.2.2.1 D.2.2.2.2.2) 0 = .inr (some ((11, 0, 0), ([], [], ((0 : Int32), wn, (TK (shf F2 131072) n 0).2.1, 0, []), [], D.2.2.2.2.1, D.2.2.2.2.2), (TK (shf F2 131072) n 0).2.2.1)) := by
        rw [step_1, if_neg c1, if_neg (fun w => w k2)]
        unfold mName
        rw [hwe]
        rfl
      have fin : ∀ (r25 : Int32), StA2 D.2.2.2.2.1 L wn (if r25 = -1 then -1 else ST r25.toNatClampNeg) → (¬ r25 = -1 → vp_in r25 64) → wp_met_Mo_next (fun (r32 : Int32) (u9 : Int32 × Int32 × Int32 × Int32 × Int32 × Int64) => match u9 with | (o26, o27, o28, o29, o30, o31) => (((r32 = 0 → (jw_met_Mo_stratum_70 post o26 o27 o28 o29 o30 o31 r25 ST (nI live) (nI 131072) (nI (131072 + n)) 256 1 y2 0 F2 ())) ∧ (¬ (r32 = 0) → (((o28 = 0 → (jw_met_Mo_stratum_66 post o26 o27 o28 o29 o30 o31 r25 ST (nI live) (nI 131072) (nI (131072 + n)) 256 1 y2 0 F2 ())) ∧ (¬ (o28 = 0) → (wp_met_Mo_cannot (fun (r38 : Int32) (u9 : Int32 × Int32) => match u9 with | (o36, o37) => (∀ y39 : Int32, y39 = (if r38 = 0 then (0 : Int32) else (1 : Int32)) → (jw_met_Mo_stratum_71 post o28 o29 o30 o31 r25 ST (nI live) (nI 131072) (nI (131072 + n)) 256 1 y2 0 F2 (o36, o37, y39)))) (nI 131072) o29)))))))) 0 0 (nI 131072) (nI (131072 + n)) (nI (131072 + (TK (shf F2 131072) n 0).2.2.1)) am2 F2 := by
        intro r25 hA hv
        have hpos2 := TK_pos (shf F2 131072) n (TK (shf F2 131072) n 0).2.2.1 hpos.2.2.1
        refine sp_Mo_nextR (by omega) (fun j hj => hb j (by omega)) hpos.2.2.1 (fun hbad tk3 fr3 to3 am3 => ?_) (fun tk3 fr3 to3 am3 hC3 => ?_)
        · refine ⟨fun _ => ?_, fun z => absurd rfl z⟩
          refine ⟨⟨fun _ => trivial, fun z => absurd rfl z⟩, fun y51 h51 => ?_⟩
          rw [if_pos rfl] at h51
          rw [h51]
          exact h0 1 _ _ _ _ _ _ _ _ F2 (Or.inl ⟨_, hcg _ (Ends_go st1 (Ends_flt (by rw [step_11, if_pos hbad]))), rfl⟩) hb hPk
        · obtain ⟨d1, d2, d3, d4, d5⟩ := hC3
          subst d2 d3
          refine ⟨fun z => absurd z n10, fun _ => ?_⟩
          by_cases k0 : (TK (shf F2 131072) n (TK (shf F2 131072) n 0).2.2.1).1 = 0
          · refine ⟨fun _ => ?_, fun z => absurd ((mk0 d1).mpr k0) z⟩
            refine ⟨⟨fun z => absurd z n10, fun _ => ⟨fun _ => trivial, fun z => ⟨hv z, trivial⟩⟩⟩, fun y51 h51 => ?_⟩
            rw [if_neg n10] at h51
            rw [h51]
            exact h1 wn _ _ _ _ _ _ _ _ _ F2 (Or.inr ⟨_, hcg _ (Ends_go st1 (Ends_end (by rw [step_11, if_neg d1, if_pos k0]))), rfl⟩) hA hb hPk
          · refine ⟨fun z => absurd ((mk0 d1).mp z) k0, fun _ => ?_⟩
            refine sp_Mo_cannot (by omega) ?_
            intro y39 h39
            rw [if_pos rfl] at h39
            subst h39
            refine ⟨⟨fun _ => trivial, fun z => absurd rfl z⟩, fun y51 h51 => ?_⟩
            rw [if_pos rfl] at h51
            rw [h51]
            exact h0 2 _ _ _ _ _ _ _ _ F2 (Or.inl ⟨_, hcg _ (Ends_go st1 (Ends_flt (by rw [step_11, if_neg d1, if_neg k0]))), rfl⟩) hb hPk
      have pr := sp_Mo_predicate (post := fun r25 _ => wp_met_Mo_next (fun (r32 : Int32) (u9 : Int32 × Int32 × Int32 × Int32 × Int32 × Int64) => match u9 with | (o26, o27, o28, o29, o30, o31) => (((r32 = 0 → (jw_met_Mo_stratum_70 post o26 o27 o28 o29 o30 o31 r25 ST (nI live) (nI 131072) (nI (131072 + n)) 256 1 y2 0 F2 ())) ∧ (¬ (r32 = 0) → (((o28 = 0 → (jw_met_Mo_stratum_66 post o26 o27 o28 o29 o30 o31 r25 ST (nI live) (nI 131072) (nI (131072 + n)) 256 1 y2 0 F2 ())) ∧ (¬ (o28 = 0) → (wp_met_Mo_cannot (fun (r38 : Int32) (u9 : Int32 × Int32) => match u9 with | (o36, o37) => (∀ y39 : Int32, y39 = (if r38 = 0 then (0 : Int32) else (1 : Int32)) → (jw_met_Mo_stratum_71 post o28 o29 o30 o31 r25 ST (nI live) (nI 131072) (nI (131072 + n)) 256 1 y2 0 F2 (o36, o37, y39)))) (nI 131072) o29)))))))) 0 0 (nI 131072) (nI (131072 + n)) (nI (131072 + (TK (shf F2 131072) n 0).2.2.1)) am2 F2) (a := 131072 + (TK (shf F2 131072) n 0).2.1) (m := (TK (shf F2 131072) n 0).2.2.1 - (TK (shf F2 131072) n 0).2.1) (F := F2) hPk.1.1 hl (by have := hPk.1.2.1; omega) hPk.1.2.2 (by omega) (fun r hr => ?_)
      · rw [← hto] at pr
        exact pr
      · rw [hw9] at hr
        have h64 := hPR.2.1
        rcases hr with ⟨i, i1, i2, -⟩ | ⟨i1, i2⟩
        · have hi := (List.getElem?_eq_some_iff.mp i2).1
          refine fin r (Or.inl ⟨i, i2, ?_⟩) (fun _ => by rw [i1]; exact vp_in_nI (by omega) (by omega))
          rw [i1, if_neg (nI_ne1 (by omega)), nI_clamp (by omega), hST i (by omega)]
        · exact fin r (Or.inr ⟨fun p hp => i2 p hp, by rw [if_pos i1]⟩) (fun z => absurd i1 z)
    · refine ⟨fun z => absurd ((mk1 _ _ _).mp z) k2, fun _ => ?_⟩
      refine sp_Mo_cannot (by omega) ?_
      refine ⟨fun _ => ?_, fun z => absurd rfl z⟩
      refine ⟨⟨fun _ => trivial, fun z => absurd rfl z⟩, fun y51 h51 => ?_⟩
      rw [if_pos rfl] at h51
      rw [h51]
      exact h0 2 _ _ _ _ _ _ _ _ F2 (Or.inl ⟨_, hcg _ (Ends_flt (by rw [step_1, if_neg c1, if_pos k2])), rfl⟩) hb hPk
end MStratum
section MCells
variable {live w : Nat} {cn : List Con} {qs : List (List Con)} {F CN CV CF RC : Nat → Int32}
/-- is there such a cell? -/
def inR (qs : List (List Con)) (w : Nat) (r c : Int32) : Prop := ¬ r < 0 ∧ r.toNatClampNeg < qs.length ∧ ¬ c < 0 ∧ c.toNatClampNeg < w
theorem nn_nI {x : Int32} (h : ¬ x < 0) : ∃ k : Nat, k < 2147483648 ∧ x = nI k ∧ x.toNatClampNeg = k := by
  have h0 : (0 : Int32).toInt = 0 := by decide
  have h1 : ¬ x.toInt < 0 := fun q => h (Int32.lt_iff_toInt_lt.mpr (by rw [h0]; exact q))
  have h2 := Int32.toInt_lt x
  refine ⟨x.toInt.toNat, by omega, ?_, rfl⟩
  apply Int32.toInt_inj.mp
  rw [nI_toInt (by omega)]
  omega
theorem sp_Mo_cell {post : Int32 → Int32 → Prop} {r c : Int32} (hq5 : qs.length ≤ 5000) (hw : w ≤ 12) (hR : RwR cn w qs RC) (hcn : cn.length ≤ 1000) (hl : live < 2)
    (h1 : inR qs w r c → ∀ y, (qs.getD r.toNatClampNeg []).getD c.toNatClampNeg ([], 0) = y → y ∈ cn → post (nI (1100 * live + ix cn y)) 0) (h0 : ¬ inR qs w r c → post 0 1) : wp_met_Mo_cell post r c (nI live) (nI qs.length) (nI w) RC := by
  intro y1 hy1
  by_cases r0 : r < 0
  · rw [if_pos r0] at hy1
    subst hy1
    refine ⟨⟨fun z => absurd z (by decide), fun _ => trivial⟩, fun y2 hy2 => ?_⟩
    rw [if_neg (by decide)] at hy2
    rw [hy2]
    exact h0 (fun w => w.1 r0)
  rw [if_neg r0] at hy1
  obtain ⟨kr, kr1, kr2, kr3⟩ := nn_nI r0
  by_cases r1 : nI qs.length ≤ r
  · rw [if_pos r1] at hy1
    subst hy1
    refine ⟨⟨fun z => absurd z (by decide), fun _ => trivial⟩, fun y2 hy2 => ?_⟩
    rw [if_neg (by decide)] at hy2
    rw [hy2]
    refine h0 (fun w => ?_)
    rw [kr2] at r1
    have := (nI_leI (by omega) (by omega)).mp r1
    have := w.2.1
    omega
  rw [if_neg r1] at hy1
  by_cases c0 : c < 0
  · rw [if_pos c0] at hy1
    subst hy1
    refine ⟨⟨fun z => absurd z (by decide), fun _ => trivial⟩, fun y2 hy2 => ?_⟩
    rw [if_neg (by decide)] at hy2
    rw [hy2]
    exact h0 (fun w => w.2.2.1 c0)
  rw [if_neg c0] at hy1
  obtain ⟨kc, kc1, kc2, kc3⟩ := nn_nI c0
  have hr : kr < qs.length := by
    rw [kr2] at r1
    have : ¬ qs.length ≤ kr := fun q => r1 (nI_le q (by omega))
    omega
  by_cases c1 : c < nI w
  · rw [if_pos c1] at hy1
    subst hy1
    have hc : kc < w := by
      rw [kc2] at c1
      exact (nI_ltI (by omega) (by omega)).mp c1
    obtain ⟨g1, g2⟩ := hR kr _ (List.getElem?_eq_getElem hr)
    have hcl : kc < (qs[kr]).length := by omega
    obtain ⟨g3, g4⟩ := g2 kc _ (List.getElem?_eq_getElem hcl)
    have e12 : (12 : Int32) * r + c = nI (12 * kr + kc) := by rw [kr2, kc2, show (12 : Int32) = nI 12 from rfl, pk_mul, nI_add]
    rw [e12]
    refine ⟨⟨fun _ => ⟨vp_in_nI (by omega) (by omega), trivial⟩, fun z => absurd (by decide) z⟩, fun y2 hy2 => ?_⟩
    rw [if_pos (by decide), nI_clamp (by omega), g4, show (1100 : Int32) = nI 1100 from rfl, pk_mul, nI_add] at hy2
    rw [hy2]
    refine h1 ⟨r0, by omega, c0, by omega⟩ _ ?_ g3
    rw [kr3, kc3, List.getD_eq_getElem?_getD, List.getD_eq_getElem?_getD, List.getElem?_eq_getElem hr]
    show (qs[kr])[kc]?.getD ([], 0) = _
    rw [List.getElem?_eq_getElem hcl]
    rfl
  · rw [if_neg c1] at hy1
    subst hy1
    refine ⟨⟨fun z => absurd z (by decide), fun _ => trivial⟩, fun y2 hy2 => ?_⟩
    rw [if_neg (by decide)] at hy2
    rw [hy2]
    refine h0 (fun q => c1 ?_)
    rw [kc2]
    exact nI_lt (by have := q.2.2.2; omega) (by omega)
/-- the cell's constant -/
def cellC (qs : List (List Con)) (r c : Int32) : Con := (qs.getD r.toNatClampNeg []).getD c.toNatClampNeg ([], 0)
theorem sp_Mo_isNumber {post : Int32 → Int32 → Prop} {r c : Int32} (hq5 : qs.length ≤ 5000) (hw : w ≤ 12) (hR : RwR cn w qs RC) (hcn : cn.length ≤ 1000) (hl : live < 2) (hM : MCo false cn (1100 * live) CN CV CF F)
    (h1 : inR qs w r c → post (b01 (decide ((cellC qs r c).1 = []))) 0) (h0 : ¬ inR qs w r c → post 0 1) : wp_met_Mo_isNumber post r c (nI live) (nI qs.length) (nI w) CN RC := by
  refine sp_Mo_cell hq5 hw hR hcn hl (fun hin y hy hyc => ?_) (fun hno => ?_)
  · have hix := ix_lt hyc
    refine ⟨⟨fun _ => ⟨vp_in_nI (by omega) (by omega), trivial⟩, fun z => absurd rfl z⟩, fun y3 h3 => ?_⟩
    rw [if_pos rfl, nI_clamp (by omega)] at h3
    have := h1 hin
    unfold cellC at this
    rw [hy] at this
    rcases hM _ y (ix_get cn hyc) with ⟨m1, m2, -⟩ | ⟨m1, -, m3, -⟩
    · rw [m2, if_neg (by decide)] at h3
      rw [decide_eq_true m1] at this
      rw [h3]
      exact this
    · rw [m3, if_pos rfl] at h3
      rw [decide_eq_false m1] at this
      rw [h3]
      exact this
  · refine ⟨⟨fun z => absurd z (by decide), fun _ => trivial⟩, fun y3 h3 => ?_⟩
    rw [if_neg (by decide)] at h3
    rw [h3]
    exact h0 hno
theorem sp_Mo_number {post : Int32 → Int32 → Prop} {r c : Int32} (hq5 : qs.length ≤ 5000) (hw : w ≤ 12) (hR : RwR cn w qs RC) (hcn : cn.length ≤ 1000) (hl : live < 2) (hM : MCo false cn (1100 * live) CN CV CF F)
    (h1 : inR qs w r c → ∀ a : Int32, (((cellC qs r c).1 = [] ∧ a.toInt = (cellC qs r c).2) ∨ (¬ (cellC qs r c).1 = [] ∧ a = nI (cellC qs r c).1.length)) → post a 0) (h0 : ¬ inR qs w r c → post 0 1) : wp_met_Mo_number post r c (nI live) (nI qs.length) (nI w) CV RC := by
  refine sp_Mo_cell hq5 hw hR hcn hl (fun hin y hy hyc => ?_) (fun hno => ?_)
  · have hix := ix_lt hyc
    refine ⟨⟨fun _ => ⟨vp_in_nI (by omega) (by omega), trivial⟩, fun z => absurd rfl z⟩, fun y3 h3 => ?_⟩
    rw [if_pos rfl, nI_clamp (by omega)] at h3
    have hh := h1 hin
    unfold cellC at hh
    rw [hy] at hh
    refine hh y3 ?_
    rcases hM _ y (ix_get cn hyc) with ⟨m1, -, m3⟩ | ⟨m1, -, -, m4, -⟩
    · exact Or.inl ⟨m1, by rw [h3]; exact m3⟩
    · exact Or.inr ⟨m1, h3.trans m4⟩
  · refine ⟨⟨fun z => absurd z (by decide), fun _ => trivial⟩, fun y3 h3 => ?_⟩
    rw [if_neg (by decide)] at h3
    rw [h3]
    exact h0 hno
end MCells
