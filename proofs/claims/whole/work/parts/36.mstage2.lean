/-! pure: the model answers stage() and stratum() -/
def dflt : Nat → Con := fun _ => ([], 0)
def tcons (ts : List Tm) : List Con := ts.map (fun t => tval dflt t.1)
theorem enc_inj {mc : List Con} {x y : Fct} (h1 : ∀ c ∈ y.2, c ∈ mc) (h2 : ∀ c ∈ x.2, c ∈ mc) (h3 : y.1 < 64) (h4 : x.1 < 64) (hm : mc.length ≤ 1100) (e : enc mc y = enc mc x) : y = x := by
  have e1 : y.1 = x.1 := (nI_eq (by omega) (by omega)).mp (congrArg Prod.fst e)
  have e2 : y.2.map (fun c => nI (ix mc c)) = x.2.map (fun c => nI (ix mc c)) := congrArg Prod.snd e
  refine Prod.ext e1 ?_
  revert e2 h1 h2
  generalize y.2 = a
  generalize x.2 = b
  intro ha hb q
  clear e e1
  induction a generalizing b with
  | nil =>
    cases b with
    | nil => rfl
    | cons z zs => cases q
  | cons w ws ih =>
    cases b with
    | nil => cases q
    | cons z zs =>
      rw [List.map_cons, List.map_cons] at q
      injection q with q1 q2
      have hw := ha w (List.mem_cons_self ..)
      have hz := hb z (List.mem_cons_self ..)
      have l1 := ix_lt hw
      have l2 := ix_lt hz
      rw [ix_inj hw hz ((nI_eq (by omega) (by omega)).mp q1), ih zs (fun c hc => ha c (List.mem_cons_of_mem _ hc)) (fun c hc => hb c (List.mem_cons_of_mem _ hc)) q2]
theorem lt_area' (y j : Nat) (a : 6 * (y * 13 + 1) ≤ j) (b : j < 6 * (y * 13 + 1) + 6) : y * 13 * 6 ≤ j ∧ j < (y + 1) * 13 * 6 := ⟨by omega, by omega⟩
theorem lt_area (lv j : Nat) (a : 6 * ((257 * lv + 256) * 13 + 1) ≤ j) (b : j < 6 * ((257 * lv + 256) * 13 + 1) + 6) : (257 * lv + 256) * 13 * 6 ≤ j ∧ j < (257 * lv + 257) * 13 * 6 := lt_area' (257 * lv + 256) j a b
/-- what comes of the text of stage() -/
def SgR (ps : List Wd) (cn : List Con) (ar : Nat → Nat) (T : Nat → Int32) (n : Nat) (r : (Nat × Nat) ⊕ (Wd × List Con)) : Prop := (∃ e, Ends 2 T n (1, 0, 0) (D00 ps cn) 0 (.inl e) ∧ r = .inl e) ∨ (∃ w na ts, Ends 2 T n (1, 0, 0) (D00 ps cn) 0 (.inr (gE ps cn w na ts)) ∧ ((∃ i : Nat, ps[i]? = some w ∧ ¬ ar i = ts.length ∧ r = .inl (10, na)) ∨ ((∀ i : Nat, ps[i]? = some w → ar i = ts.length) ∧ r = .inr (w, tcons ts))))
/-- the stage that is answered -/
def SgA (ps : List Wd) (cs : List (List Lt)) (st : Nat → Nat) (X : Fct → Prop) (w : Wd) (as : List Con) (ans : Int32) : Prop := (∃ p k : Nat, ps[p]? = some w ∧ X (p, as) ∧ StgR ps cs st (p, as) k ∧ k ≤ 20003 ∧ ans = nI k) ∨ ((∀ p : Nat, ps[p]? = some w → ¬ X (p, as)) ∧ ans = -1)
theorem SgA_one {ps : List Wd} {cs : List (List Lt)} {st : Nat → Nat} {X : Fct → Prop} {w : Wd} {as : List Con} {a b : Int32} (hps : ps.Nodup) (h1 : SgA ps cs st X w as a) (h2 : SgA ps cs st X w as b) : a = b := by
  rcases h1 with ⟨p, k, a1, a2, a3, -, a4⟩ | ⟨a1, a2⟩
  · rcases h2 with ⟨q, j, b1, b2, b3, -, b4⟩ | ⟨b1, -⟩
    · obtain rfl := nodup_inj hps a1 b1
      rw [a4, b4, StgR_one a3 b3]
    · exact absurd a2 (b1 p a1)
  · rcases h2 with ⟨q, j, b1, b2, -⟩ | ⟨-, b2⟩
    · exact absurd b2 (a1 q b1)
    · rw [a2, b2]
/-- what comes of the text of stratum() -/
def WdR (ps : List Wd) (cn : List Con) (T : Nat → Int32) (n : Nat) (r : (Nat × Nat) ⊕ Wd) : Prop := (∃ e, Ends 3 T n (1, 0, 0) (D00 ps cn) 0 (.inl e) ∧ r = .inl e) ∨ (∃ D : Dt, Ends 3 T n (1, 0, 0) (D00 ps cn) 0 (.inr D) ∧ r = .inr D.2.2.1.2.1)
section MStage
abbrev O33 : Type := Int32 × Int32 × Int32 × Int32 × Int32 × Int32 × Int32 × Int32 × Int32 × Int32 × Int64 × Int32 × Int32 × Int32 × Int32 × Int32 × (Nat → Int32) × (Nat → Int32) × (Nat → Int32) × (Nat → Int32) × (Nat → Int32) × (Nat → Int32) × (Nat → Int32) × (Nat → Int32) × (Nat → Int32) × (Nat → Int32) × (Nat → Int32) × (Nat → Int32) × (Nat → Int32) × (Nat → Int32) × (Nat → Int32) × (Nat → Int32) × (Nat → Int32)
variable {post : Int32 → O33 → Prop} {n live : Nat} {D : Dt} {L : Nat → Nat} {fs : List Fct} {T F PF PL PA PS CN CV CF Cs Cl LC LK LP LT LQ TP LA VF VL ST FP FT FS Tb Sg : Nat → Int32} {fc fp st0 bs sp tk fr to cl as cA vr pl : Int32} {am : Int64}
theorem stg_141 {m2 : List Int32} {p71 y1 v45 v46 o10 o11 v47 v48 v49 o4 v51 v52 pl : Int32} {v50 : Int64} {o16 v53 v54 v55 v56 v57 v58 v59 v60 v61 v62 v63 v64 v65 v66 v67 : Nat → Int32} (hl : live < 2) (h6 : m2.length ≤ 6) (hLT : ∀ (i : Nat) (x : Int32), m2[i]? = some x → v62 (6 * ((257 * live + 256) * 13 + 1) + i) = x)
    (h : ∀ S2 : Nat → Int32, sl S2 0 m2.length = m2 → jw_met_Mo_stage_176 post p71 pl (nI m2.length) FP FT Tb S2 FS y1 v45 v46 (nI live) o10 o11 v47 v48 v49 v50 (nI 256) o4 v51 v52 o16 v53 v54 v55 v56 v57 v58 v59 v60 v61 v62 v63 v64 v65 v66 v67 ()) : ∀ m i : Nat, i + m = m2.length → ∀ S1 : Nat → Int32, (∀ (i2 : Nat) (x : Int32), i2 < i → m2[i2]? = some x → S1 i2 = x) → lw_met_Mo_stage_141 post (nI m2.length) v62 (nI live) (nI 256) p71 pl FP FT Tb FS y1 v45 v46 o10 o11 v47 v48 v49 v50 o4 v51 v52 o16 v53 v54 v55 v56 v57 v58 v59 v60 v61 v63 v64 v65 v66 v67 (m + 1) (nI i, S1) := by
  intro m
  induction m with
  | zero =>
    intro i hi S1 hS
    refine pk_le m2.length i (fun _ => ?_) (fun q => absurd q (by omega))
    refine h S1 ?_
    apply List.ext_getElem?
    intro i2
    rcases Nat.lt_or_ge i2 m2.length with q | q
    · have q1 : i2 < (sl S1 0 m2.length).length := by rw [sl_len]; exact q
      have e1 := sl_idx _ 0 i2 _ (List.getElem?_eq_getElem q1)
      have e2 := hS i2 _ (by omega) (List.getElem?_eq_getElem q)
      rw [List.getElem?_eq_getElem q1, List.getElem?_eq_getElem q, ← e1, ← e2, Nat.zero_add]
    · rw [List.getElem?_eq_none (by rw [sl_len]; exact q), List.getElem?_eq_none (by omega)]
  | succ m ih =>
    intro i hi S1 hS
    refine pk_le m2.length i (fun q => absurd q (by omega)) (fun _ => ?_)
    refine sp_Mo_literal (k := 1) (set := live) (cl := 256) ?_
    intro y91 h91 y92 h92
    rw [show (6 : Int32) = nI 6 from rfl, pk_mul] at h91
    rw [h91, nI_add] at h92
    subst h92
    refine ⟨vp_in_nI (by omega) (by omega), fun y94 h94 => ⟨vp_in_nI (by omega) (by omega), fun g96 h96 => ?_⟩⟩
    rw [nI_clamp (by omega)] at h94 h96
    rw [nI_1]
    refine ih (i + 1) (by omega) g96 (fun i2 x hi2 hx => ?_)
    rw [h96]
    by_cases z : i2 = i
    · subst z
      rw [upd_same, h94]
      exact hLT i2 x hx
    · rw [upd_ne z]
      exact hS i2 x (by omega) hx
theorem sp_Mo_stage (hn : n ≤ 65536) (hT : ∀ j, j < n → byt (T j)) (hFb : ∀ j, j < 196608 → byt (F j)) (hP : MPo D L live F PF PL PA PS CN CV CF Cs Cl LC LK LP LT ST) (hps : D.2.2.2.2.1.Nodup) (har6 : ∀ i, arF D.2.2.2.2.1 D.1 i ≤ 6) (hS : MS D.2.2.2.2.2 live PA fs FP FT Tb) (hSt : StOk D.2.2.2.2.1 D.1 L fs FS)
    (h0 : ∀ (c q : Nat) se ba so tk fr to am cl as cA vr pl F2 CN2 CV2 CF2 LK2 LP2 LT2 LQ2 TP2 LA2 VF2 VL2 Sg2, SgR D.2.2.2.2.1 D.2.2.2.2.2 (arF D.2.2.2.2.1 D.1) T n (.inl (c, q)) → (∀ j, j < 196608 → byt (F2 j)) → MPo D L live F2 PF PL PA PS CN2 CV2 CF2 Cs Cl LC LK2 LP2 LT2 ST → post (-2 - nI q) (0, 0, nI c, nI q, se, ba, so, tk, fr, to, am, cl, as, cA, vr, pl, F2, PF, PL, PA, PS, CN2, CV2, CF2, LK2, LP2, LT2, LQ2, TP2, LA2, VF2, VL2, Sg2))
    (h1 : ∀ (w : Wd) (xs : List Con) (ans : Int32) fpl se ba so tk fr to am cl as cA vr pl F2 CN2 CV2 CF2 LK2 LP2 LT2 LQ2 TP2 LA2 VF2 VL2 Sg2, SgR D.2.2.2.2.1 D.2.2.2.2.2 (arF D.2.2.2.2.1 D.1) T n (.inr (w, xs)) → SgA D.2.2.2.2.1 D.1 L (fun x => x ∈ fs) w xs ans → (∀ j, j < 196608 → byt (F2 j)) → MPo D L live F2 PF PL PA PS CN2 CV2 CF2 Cs Cl LC LK2 LP2 LT2 ST → post ans (0, 0, 0, fpl, se, ba, so, tk, fr, to, am, cl, as, cA, vr, pl, F2, PF, PL, PA, PS, CN2, CV2, CF2, LK2, LP2, LT2, LQ2, TP2, LA2, VF2, VL2, Sg2)) :
    wp_met_Mo_stage post (nI n) fc fp (nI live) st0 bs sp tk fr to am cl as cA vr 1 pl T F PF PL PA PS CN CV CF Cs LK LP LT LQ TP LA VF VL FP FT FS Tb Sg := by
  have hP0 := hP
  obtain ⟨hPR, ⟨hl, hcn, hmc, hcw, hM, hCl, hST, hAr, hCLp⟩, hCs, hc1, hcs⟩ := hP0
  have n10 : ¬ (1 : Int32) = 0 := by decide
  intro y1 hy1
  rw [if_neg n10] at hy1
  subst hy1
  refine ⟨fun _ => ?_, fun z => absurd (by decide) z⟩
  refine ⟨vp_in_nI hl (by omega), fun y2 hy2 => ?_⟩
  rw [nI_clamp (by omega), hCs] at hy2
  subst hy2
  have e131 : (131072 : Int32) = nI 131072 := rfl
  have e256 : (256 : Int32) = nI 256 := rfl
  rw [e131, e256]
  have keep : ∀ (F2 CN2 CV2 CF2 LK2 LP2 LT2 : Nat → Int32), (∀ j, j < 131072 → F2 j = F j) → (∀ j, ¬ j = (257 * live + 256) * 13 + 1 → LK2 j = LK j ∧ LP2 j = LP j) → Fc live D.2.2.2.2.2.length CN2 CV2 CF2 CN CV CF → At6 LT2 LT (6 * ((257 * live + 256) * 13 + 1)) → MPo D L live F2 PF PL PA PS CN2 CV2 CF2 Cs Cl LC LK2 LP2 LT2 ST := by
    intro F2 CN2 CV2 CF2 LK2 LP2 LT2 eF eK eC eT
    have hf5 : ∀ j : Nat, ¬ ((257 * live + 256) * 13 ≤ j ∧ j < (257 * live + 257) * 13) → LK2 j = LK j ∧ LP2 j = LP j := by
      intro j hj
      refine eK j (fun e => hj ?_)
      rw [e]
      exact ⟨by omega, by omega⟩
    have hf6 : ∀ j : Nat, ¬ ((257 * live + 256) * 13 * 6 ≤ j ∧ j < (257 * live + 257) * 13 * 6) → LT2 j = LT j := by
      intro j hj
      refine eT j (fun e => hj ?_)
      exact lt_area live j e.1 e.2
    exact MPo_q hP eF ⟨fun _ _ => ⟨rfl, rfl, rfl⟩, fun _ _ => rfl, eC, fun _ _ => rfl, hf5, hf6⟩
  have fin0 : ∀ (c q : Nat) F2 ba so tk fr to am cA vr CN2 CV2 CF2 LK2 LP2 LT2 LQ2 TP2 LA2 VF2 VL2, (∀ j, j < 196608 → byt (F2 j)) → MPo D L live F2 PF PL PA PS CN2 CV2 CF2 Cs Cl LC LK2 LP2 LT2 ST → SgR D.2.2.2.2.1 D.2.2.2.2.2 (arF D.2.2.2.2.1 D.1) T n (.inl (c, q)) → jw_met_Mo_stage_51 post 0 (nI live) ba so (nI 256) 1 pl F2 Sg (nI live) FP FT Tb FS (nI c, nI q, tk, fr, to, am, cA, vr, PF, PL, PA, PS, CN2, CV2, CF2, LK2, LP2, LT2, LQ2, TP2, LA2, VF2, VL2, 0) := by
    intro c q F2 ba so tk fr to am cA vr CN2 CV2 CF2 LK2 LP2 LT2 LQ2 TP2 LA2 VF2 VL2 hb hPk hA
    refine ⟨fun _ => ?_, fun z => absurd rfl z⟩
    intro y104 h104
    rw [h104]
    exact h0 c q _ _ _ _ _ _ _ _ _ _ _ _ _ _ _ _ _ _ _ _ _ _ _ _ _ hA hb hPk
  refine sp_Mo_starts (o := 131072) (by omega) hn hT hFb (fun F2 tk2 fr2 to2 am2 e1 e2 hb hbad => ?_) (fun F2 tk2 fr2 to2 am2 e1 e2 hb hC => ?_)
  · have hce := TK_cong (F := shf F2 131072) (G := T) (fun j hj => e1 j hj) (Nat.zero_le n)
    rw [hce] at hbad ⊢
    refine ⟨fun _ => ?_, fun z => absurd rfl z⟩
    exact fin0 1 _ F2 _ _ _ _ _ _ _ _ _ _ _ _ _ _ _ _ _ _ _ hb (keep _ _ _ _ _ _ _ (fun j hj => e2 j (by omega)) (fun _ _ => ⟨rfl, rfl⟩) Fc_refl (fun _ _ => rfl)) (Or.inl ⟨_, Ends_flt (by rw [step_1, if_pos hbad]), rfl⟩)
  · refine ⟨fun z => absurd z n10, fun _ => ?_⟩
    have eF : ∀ j, j < 131072 → F2 j = F j := fun j hj => e2 j (by omega)
    have hPk := keep F2 CN CV CF LK LP LT eF (fun _ _ => ⟨rfl, rfl⟩) Fc_refl (fun _ _ => rfl)
    have hpk : POk n ((1, 0, 0) : Ct) 0 := ⟨Nat.zero_le _, fun z => absurd z (by decide)⟩
    have hcg : ∀ r, Ends 2 (shf F2 131072) n (1, 0, 0) (D00 D.2.2.2.2.1 D.2.2.2.2.2) 0 r → Ends 2 T n (1, 0, 0) (D00 D.2.2.2.2.1 D.2.2.2.2.2) 0 r := fun r hr => (Ends_cong (fun j hj => e1 j hj) hpk).mp hr
    refine sp_Mo_ground (wc := 0) (wp := 0) (o := 131072) (ps := D.2.2.2.2.1) (cn := D.2.2.2.2.2) (by omega) ⟨fun j hj => hb j (by omega), Or.inr ⟨rfl, rfl⟩⟩ hl hc1 hC hPk.2.1.2.2.2.2.1 hcn hPk.1 (fun c q tk3 fr3 to3 am3 cA3 vr3 CN3 CV3 CF3 LK3 LP3 LT3 LQ3 TP3 LA3 VF3 VL3 f1 f2 f3 hE => ?_) (fun w na ts mc code tk3 fr3 to3 am3 vr3 CN3 CV3 CF3 LT3 TP3 VF3 VL3 hpc g1 g2 g3 g4 g5 g6 g7 g8 g9 hna hE => ?_)
    · intro y44 h44
      rw [if_pos rfl] at h44
      subst h44
      exact fin0 c q F2 _ _ _ _ _ _ _ _ _ _ _ _ _ _ _ _ _ _ _ hb (keep _ _ _ _ _ _ _ eF f1 f2 f3) (Or.inl ⟨_, hcg _ hE, rfl⟩)
    · intro y44 h44
      rw [if_neg n10] at h44
      subst h44
      have hPk3 := keep F2 CN3 CV3 CF3 (upd LK ((257 * live + 256) * 13 + 1) 0) (upd LP ((257 * live + 256) * 13 + 1) code) LT3 eF (fun j hj => ⟨upd_ne hj, upd_ne hj⟩) g9 g8
      refine ⟨fun z => absurd z n10, fun _ => ?_⟩
      refine sp_Mo_literal (k := 1) (set := live) (cl := 256) ?_
      refine ⟨vp_in_nI (by omega) (by omega), fun y71 h71 y72 h72 y73 h73 => ?_⟩
      rw [nI_clamp (by omega), upd_same] at h71
      rw [show (13 : Int32) = nI 13 from rfl, pk_mul] at h72
      rw [h72, nI_1] at h73
      subst h73
      refine ⟨vp_in_nI (by omega) (by omega), fun y75 h75 => ?_⟩
      rw [nI_clamp (by omega), upd_same] at h75
      subst h75
      have hmc2 : mc.length ≤ 1100 := by omega
      have hFm := MFa_pre g3 g2 hS.1
      -- the constants as numbers
      have hlen : ((tcons ts).map (fun c => nI (ix mc c))).length = ts.length := by simp [tcons]
      have hin : ∀ c ∈ tcons ts, c ∈ mc := by
        intro c hc
        obtain ⟨t, ht, e⟩ := List.mem_map.mp hc
        obtain ⟨c2, hc2⟩ := g7 t ht
        obtain ⟨i, hi, e2⟩ := List.mem_iff_getElem.mp ht
        have hT2 := (g5 i t (by rw [List.getElem?_eq_getElem hi, e2])).1
        rw [hc2] at hT2 e
        obtain ⟨id, w1, -⟩ := hT2
        rw [← e]
        exact List.mem_of_getElem? w1
      have hLT : ∀ (i : Nat) (x : Int32), ((tcons ts).map (fun c => nI (ix mc c)))[i]? = some x → LT3 (6 * ((257 * live + 256) * 13 + 1) + i) = x := by
        intro i x hx
        unfold tcons at hx
        rw [List.getElem?_map, List.getElem?_map] at hx
        cases ht : ts[i]? with
        | none =>
          rw [ht] at hx
          cases hx
        | some t =>
          rw [ht] at hx
          have hx2 : nI (ix mc (tval dflt t.1)) = x := Option.some.inj hx
          obtain ⟨c2, hc2⟩ := g7 t (List.mem_of_getElem? ht)
          have hT2 := (g5 i t ht).1
          rw [hc2] at hT2 hx2
          obtain ⟨id, w1, w2⟩ := hT2
          rw [w2, ix_of g2 w1]
          exact hx2
      have done : (∀ i : Nat, D.2.2.2.2.1[i]? = some w → arF D.2.2.2.2.1 D.1 i = ts.length) → jw_met_Mo_stage_138 post Sg (nI ts.length) LT3 (nI live) (nI 256) y71 pl FP FT Tb FS 0 0 0 (nI 131072) (nI (131072 + n)) tk3 fr3 to3 am3 1 (nI mc.length) vr3 F2 PF PL PA PS CN3 CV3 CF3 (upd LK ((257 * live + 256) * 13 + 1) 0) (upd LP ((257 * live + 256) * 13 + 1) code) (upd LQ (13 * 256 + 1) (nI (131072 + na))) TP3 (upd LA (13 * 256 + 1) (nI ts.length)) VF3 VL3 () := by
        intro hok
        have hSg : SgR D.2.2.2.2.1 D.2.2.2.2.2 (arF D.2.2.2.2.1 D.1) T n (.inr (w, tcons ts)) := Or.inr ⟨w, na, ts, hcg _ hE, Or.inr ⟨hok, rfl⟩⟩
        rw [← hlen]
        refine ⟨_, stg_141 (m2 := (tcons ts).map (fun c => nI (ix mc c))) hl (by omega) hLT (fun S2 hS2 => ?_) _ 0 (Nat.zero_add _) Sg (fun i2 x hi2 => absurd hi2 (by omega))⟩
        have e191 : ∀ (pl9 v9 ans : Int32), (¬ v9 = -1 → vp_in v9 20001) → ans = (if v9 = (-1 : Int32) then (-1 : Int32) else FS v9.toNatClampNeg) → SgA D.2.2.2.2.1 D.1 L (fun x => x ∈ fs) w (tcons ts) ans → jw_met_Mo_stage_191 post FS 0 0 0 (nI live) (nI 131072) (nI (131072 + n)) tk3 fr3 to3 am3 (nI 256) 1 (nI mc.length) vr3 F2 PF PL PA PS CN3 CV3 CF3 (upd LK ((257 * live + 256) * 13 + 1) 0) (upd LP ((257 * live + 256) * 13 + 1) code) LT3 (upd LQ (13 * 256 + 1) (nI (131072 + na))) TP3 (upd LA (13 * 256 + 1) (nI ((tcons ts).map (fun c => nI (ix mc c))).length)) VF3 VL3 S2 (pl9, v9) := by
          intro pl9 v9 ans hv hans hA
          refine ⟨⟨fun _ => trivial, fun z => ⟨hv z, trivial⟩⟩, fun y102 h102 => ?_⟩
          rw [h102, ← hans, hlen]
          exact h1 w (tcons ts) ans _ _ _ _ _ _ _ _ _ _ _ _ _ _ _ _ _ _ _ _ _ _ _ _ _ _ hSg hA hb hPk3
        refine ⟨fun z => ?_, fun z => ?_⟩
        · refine e191 pl (-1) (-1) (fun z => absurd rfl z) (by rw [if_pos rfl]) (Or.inr ⟨fun p hp => ?_, rfl⟩)
          rcases hpc with ⟨i, i1, i2⟩ | ⟨-, i1, -⟩
          · rw [h71, i2] at z
            have := (List.getElem?_eq_some_iff.mp i1).1
            have h64 := hPR.2.1
            exact absurd z (nI_ne1 (by omega))
          · exact absurd (List.mem_of_getElem? hp) i1
        · rcases hpc with ⟨p, i1, i2⟩ | ⟨-, -, i2⟩
          · have hpl := (List.getElem?_eq_some_iff.mp i1).1
            have h64 := hPR.2.1
            rw [i2] at h71
            subst h71
            have hfm : ∀ x ∈ fs.map (enc mc), x.1 = nI p → x.2.length = ((tcons ts).map (fun c => nI (ix mc c))).length := by
              intro x hx e
              obtain ⟨y, hy, rfl⟩ := List.mem_map.mp hx
              have y64 := (hS.1.2.2 y hy).1
              have y6 := (hS.1.2.2 y hy).2
              have e2 : y.1 = p := (nI_eq (by omega) (by omega)).mp e
              have e3 := hS.2.1 y hy
              rw [e2, hAr p hpl, hok p i1] at e3
              show (y.2.map _).length = _
              rw [List.length_map, hlen]
              exact ((nI_eq (by omega) (by omega)).mp e3).symm
            have hmem : (nI p, (tcons ts).map (fun c => nI (ix mc c))) ∈ fs.map (enc mc) ↔ (p, tcons ts) ∈ fs := enc_mem (x := (p, tcons ts)) (fun y hy => ⟨hFm.2.1 y hy, (hFm.2.2 y hy).1⟩) hin (by show p < 64; omega) hmc2
            refine sp_Mo_find hFm.1 (by omega) hfm (fun r pl2 hq => ?_)
            rw [hS2] at hq
            rcases hq with ⟨f, q1, q2⟩ | ⟨q1, q2, -⟩
            · have hfl := (List.getElem?_eq_some_iff.mp q1).1
              have h20 := hFm.1.1
              rw [List.length_map] at hfl
              rw [List.length_map] at h20
              have hex : ∃ y, fs[f]? = some y := ⟨_, List.getElem?_eq_getElem hfl⟩
              obtain ⟨y, hy⟩ := hex
              have ey : enc mc y = (nI p, (tcons ts).map (fun c => nI (ix mc c))) := by
                rw [List.getElem?_map, hy] at q1
                exact Option.some.inj q1
              have hym : y = (p, tcons ts) := by
                exact enc_inj (x := (p, tcons ts)) (hFm.2.1 y (List.mem_of_getElem? hy)) hin (hFm.2.2 y (List.mem_of_getElem? hy)).1 (by show p < 64; omega) hmc2 ey
              obtain ⟨k, k1, k2, k3⟩ := hSt f y hy
              rw [hym] at k3
              refine e191 pl2 r (nI k) (fun _ => by rw [q2]; exact vp_in_nI (by omega) (by omega)) ?_ (Or.inl ⟨p, k, i1, by rw [← hym]; exact List.mem_of_getElem? hy, k3, k1, rfl⟩)
              rw [if_neg (by rw [q2]; exact nI_ne1 (by omega)), q2, nI_clamp (by omega), k2]
            · refine e191 pl2 r (-1) (fun z => absurd q1 z) (by rw [if_pos q1]) (Or.inr ⟨fun p2 hp2 hm => ?_, rfl⟩)
              rw [nodup_inj hps hp2 i1] at hm
              exact q2 (hmem.mpr hm)
          · exact absurd (h71.trans i2) z
      rcases hpc with ⟨p, i1, i2⟩ | ⟨-, i1, i2⟩
      · have hpl := (List.getElem?_eq_some_iff.mp i1).1
        have h64 := hPR.2.1
        have hne : ¬ y71 = (-1 : Int32) := by
          rw [h71, i2]
          exact nI_ne1 (by omega)
        refine ⟨fun z => absurd z hne, fun _ => ?_⟩
        rw [h71, i2] at done ⊢
        refine sp_Mo_arity hl (by omega) (hAr p hpl) ?_
        have a6 := har6 p
        refine pk_eq (arF D.2.2.2.2.1 D.1 p) ts.length (fun q => done (fun i hi => by rw [nodup_inj hps hi i1]; exact q)) (fun q => ?_)
        intro y78 h78 y79 h79
        rw [show (13 : Int32) = nI 13 from rfl, pk_mul] at h78
        rw [h78, nI_1] at h79
        subst h79
        refine ⟨vp_in_nI (by omega) (by omega), fun y81 h81 => ?_⟩
        rw [nI_clamp (by omega), upd_same] at h81
        subst h81
        refine sp_Mo_flaw ?_
        intro y85 h85
        rw [pk_sub (by omega), show 131072 + na - 131072 = na by omega] at h85 ⊢
        rw [h85]
        rw [i2] at hPk3
        exact h0 10 na _ _ _ _ _ _ _ _ _ _ _ _ _ _ _ _ _ _ _ _ _ _ _ _ _ (Or.inr ⟨w, na, ts, hcg _ hE, Or.inl ⟨p, i1, q, rfl⟩⟩) hb hPk3
      · refine ⟨fun _ => done (fun i hi => absurd (List.mem_of_getElem? hi) i1), fun z => absurd (h71.trans i2) z⟩
end MStage
