/-! pure: the model answers a question -/
theorem MCo_true {q : Bool} {cs : List Con} {o : Nat} {CN CV CF F : Nat → Int32} (h : MCo q cs o CN CV CF F) : MCo true cs o CN CV CF F := by
  intro i c hc
  rcases h i c hc with w | ⟨w1, w2, w3, w4, a, w5, ⟨w6, w7⟩, w8⟩
  · exact Or.inl w
  · refine Or.inr ⟨w1, w2, w3, w4, a, w5, ⟨w6, ?_⟩, w8⟩
    rcases w7 with w7 | w7
    · exact Or.inl w7
    · exact Or.inr ⟨rfl, w7.2⟩
/-- values come out of facts -/
theorem JA_vals {ps : List Wd} {fs0 : List Fct} {L md : Nat} {ls : List Lt} {al : List (Nat × Lt)} {V4 : Nat → Int32} {bb : Nat → Option Nat} {va : Nat → Con} (hAl : AlR md ls al V4) (hJ : JA ps fs0 L al al.length bb va) (hb : ∀ l ∈ ls, ∀ t ∈ l.2.2.2.2, ∀ v, t.1 = Sum.inl v → bnd md ls v) : ∀ l ∈ ls, ∀ t ∈ l.2.2.2.2, ∀ j, t.1 = Sum.inl j → ∃ y ∈ fs0, va j ∈ y.2 := by
  intro l hl t ht j hj
  obtain ⟨j2, l2, g1, g2, g3, t2, g4, g5⟩ := hb l hl t ht j hj
  obtain ⟨i, hi⟩ := hAl.2.2 j2 l2 g1 g2 g3
  obtain ⟨f, y, h1, h2, h3, h4⟩ := (hJ.2 i _ (List.getElem?_eq_some_iff.mp hi).1 hi).1 va (fun _ _ _ _ => rfl)
  refine ⟨y, List.mem_of_getElem? h2, ?_⟩
  rw [← h4]
  exact List.mem_map.mpr ⟨t2, g4, by rw [g5]; rfl⟩
section JRow2
variable {post : Int32 → (Int32 × Int32 × Int32 × Int32 × Int32 × (Nat → Int32) × (Nat → Int32) × (Nat → Int32) × (Nat → Int32) × (Nat → Int32) × (Nat → Int32) × (Nat → Int32) × (Nat → Int32) × (Nat → Int32) × (Nat → Int32)) → Prop} {mc : List Con} {fs : List Fct} {ps : List Wd} {ls : List Lt} {F CN CV CF PA LC LK LP LT NCo FP FT FS Tb Sg VA BB AT NC AM : Nat → Int32} {live cl : Nat} {pl la : Int32} {cols : List Nat}
theorem sp_Mo_join_row2 (hl : live < 2) (hcl : cl < 257) (hn : mc.Nodup) (hmc : mc.length ≤ 1100) (hw : ∀ x ∈ fs, ∀ c ∈ x.2, wOk c) (hps : ps.Nodup) (hpl : ps.length ≤ 64) (hC : CLp 1 ps mc live cl LC LK LP LT ls) {qq : Bool} (hM : MCo qq mc (1100 * live) CN CV CF F) (hAr : ∀ l ∈ ls, (l.1 = 0 ∨ l.1 = 1) → ∀ i : Nat, ps[i]? = some l.2.1 → PA (65 * live + i) = nI l.2.2.2.2.length) (hB : BBok BB)
    (hbn : ∀ l ∈ ls, ∀ t ∈ l.2.2.2.2, ∀ v, t.1 = Sum.inl v → bnd 1 ls v) (hF : MFa mc fs FP FT Tb) (hFa : ∀ x ∈ fs, PA (65 * live + x.1) = nI x.2.length) (hcols : cols.length ≤ 12 ∧ ∀ (c x : Nat), cols[c]? = some x → NCo c = nI x ∧ ∃ l ∈ ls, ∃ t ∈ l.2.2.2.2, t.1 = Sum.inl x)
    (h1 : ∀ rs pl aC Sg2 VA2 BB2 AM2 AT2 NC2, RQ mc ps ls fs cols rs NC2 → (∀ v, Bd ps 1 ls fs fs.length v → cols.map v ∈ rs) → BBok BB2 → post 1 (nI fs.length, la, pl, aC, nI rs.length, FP, FT, FS, Tb, Sg2, VA2, BB2, AM2, AT2, NC2))
    (h0 : ∀ rs pl aC nr Sg2 VA2 BB2 AM2 AT2 NC2, RQ mc ps ls fs cols rs NC2 → rs.length = 5000 → (∃ v, Bd ps 1 ls fs fs.length v ∧ ¬ cols.map v ∈ rs) → BBok BB2 → post 0 (nI fs.length, la, pl, aC, nr, FP, FT, FS, Tb, Sg2, VA2, BB2, AM2, AT2, NC2)) :
    wp_met_Mo_join post (nI fs.length) 0 1 (nI live) (nI live) (nI cl) (nI fs.length) la pl 0 (nI cols.length) F PA CN CV CF LC LK LP LT FP FT FS Tb Sg VA BB AM AT NC NCo := by
  have hf20 : fs.length ≤ 20000 := by
    have := hF.1.1
    rw [List.length_map] at this
    exact this
  obtain ⟨c1, c2, c3⟩ := hC
  have hsf : sf 1 = 1 := rfl
  have h12 : ∀ l ∈ ls, ∀ t ∈ l.2.2.2.2, ∀ v, t.1 = Sum.inl v → v < 12 := by
    intro l hl2
    obtain ⟨i, hi, e⟩ := List.mem_iff_getElem.mp hl2
    obtain ⟨-, -, -, -, u5, -⟩ := c3 i l (by rw [List.getElem?_eq_getElem hi, e])
    exact u5
  have z10 : ¬ (1 : Int32) = 0 := by decide
  refine ⟨_, jn_col (md := 1) hl hcl ⟨c1, c2, c3⟩ (fun al V4 hAl => ?_) (max 1 (ls.length + sf 1) - 1) 1 (by omega) (by omega) [] AM (by simp) (fun i x hx => by cases hx) (fun j l hj b1 b2 => absurd b2 (by omega))⟩
  refine sp_Mo_free0 hB (fun B2 hB2 => ?_)
  intro g18 h18
  have hal := hAl.1
  refine ⟨wj fs.length al.length + 1, ?_⟩
  refine jn_walk (md := 1) (ls := ls) (fs0 := fs) (I := IRq mc ps ls fs cols la FP FT FS Tb) hl hcl hn hmc hps hpl ⟨c1, c2, c3⟩ hAr hAl (Nat.le_refl _) (by omega) ⟨fun C a hI => ?_, fun C C2 a hI hCC => ?_⟩ ?_ al.length 0 (Nat.zero_add _) (fun _ => False) (nI fs.length, la, 0, FP, FT, FS, Tb, NC) pl Sg VA B2 g18 (fun _ => none) (fun _ => ([], 0)) 1 ?_ (fun j hj => Or.inl ⟨rfl, hB2 j hj⟩) ⟨fun j e _ he => (by cases he), fun i x hi => absurd hi (by omega)⟩ (by rw [h18]; exact upd_same) ?_ _ (Nat.le_refl _)
  · obtain ⟨rs, NC2, rfl, hq, -⟩ := hI
    exact ⟨fs, hF, hFa, fun f hf => rfl⟩
  · obtain ⟨rs, NC2, rfl, hq, hc⟩ := hI
    refine ⟨rs, NC2, rfl, hq, fun v hv hb => ?_⟩
    rcases hCC v hv with g | g
    · exact hc v g hb
    · exact absurd ((Bd_al hAl).mp hb.1) g
  · intro C a pl2 Sg2 VA2 BB2 AT2 b2 v2 m hI hBv hJ hK n hnn
    obtain ⟨n1, rfl⟩ : ∃ n1, n = n1 + 1 := ⟨n - 1, by omega⟩
    obtain ⟨rs, NC2, rfl, hq, hc⟩ := hI
    have hvars := JA_vars hAl hJ hBv h12 hbn
    have hag : ∀ v, Agr b2 v2 v → ∀ l ∈ ls, targs v l = targs v2 l := fun v hv l hl2 => targs_agr (fun t ht j hj => (hvars l hl2 t ht j hj).2.2 v hv)
    have hself : Agr b2 v2 v2 := fun _ _ _ _ => rfl
    have hcm : ∀ v, Agr b2 v2 v → cols.map v = cols.map v2 := by
      intro v hv
      apply List.map_congr_left
      intro x hx
      obtain ⟨i, hi, e⟩ := List.mem_iff_getElem.mp hx
      obtain ⟨-, l, hl2, t, ht, hj⟩ := hcols.2 i x (by rw [List.getElem?_eq_getElem hi, e])
      exact (hvars l hl2 t ht x hj).2.2 v hv
    have hcr : ColR mc cols NCo VA2 v2 := by
      refine ⟨hcols.1, fun c x hx => ?_⟩
      obtain ⟨g1, l, hl2, t, ht, hj⟩ := hcols.2 c x hx
      obtain ⟨u1, u2, -⟩ := hvars l hl2 t ht x hj
      have := h12 l hl2 t ht x hj
      exact ⟨g1, by omega, u1, u2⟩
    have hpos : ∀ (j : Nat) (l : Lt), ls[j]? = some l → 1 ≤ j + sf 1 → l.1 = 0 → AtS ps fs fs.length v2 l := by
      refine (Bd_al hAl).mpr (fun y hy => ?_)
      obtain ⟨i, hi, e⟩ := List.mem_iff_getElem.mp hy
      exact (hJ.2 i y hi (by rw [List.getElem?_eq_getElem hi, e])).1 v2 hself
    have iffB : (∀ (j : Nat) (l : Lt), ls[j]? = some l → 1 ≤ j + sf 1 → ¬ l.1 = 0 → lHo ps (fun x => x ∈ fs) v2 l) ↔ Bd ps 1 ls fs fs.length v2 := ⟨fun h => ⟨hpos, h⟩, fun h => h.2⟩
    refine ⟨fun z => absurd z (nI_pos (by omega)), fun _ => ?_⟩
    refine ⟨fun _ => ?_, fun z => absurd rfl z⟩
    refine sp_Mo_holds (md := 1) (ls := ls) (fs := fs) (v := v2) hl hcl hn hmc hps hpl ⟨c1, c2, c3⟩ hM hAr hF hFa (fun j l hj _ t ht x hx => ?_) (fun pl3 Sg3 hh => ?_) (fun pl3 Sg3 hh => ?_)
    · obtain ⟨u1, u2, -⟩ := hvars l (List.mem_of_getElem? hj) t ht x hx
      obtain ⟨y, y1, y2⟩ := JA_vals hAl hJ hbn l (List.mem_of_getElem? hj) t ht x hx
      exact ⟨u1, u2, hw y y1 _ y2⟩
    · have hB2' := iffB.mp hh
      refine ⟨fun z => absurd z z10, fun _ => ?_⟩
      refine ⟨fun z => absurd z z10, fun _ => ?_⟩
      obtain ⟨q1, q2, q3, q4⟩ := hq
      refine sp_Mo_row (cols := cols) (rs := rs) hmc hcr q1 q2 (fun hin => ?_) (fun NC4 hno hlt hR4 => ?_) (fun hno hfull => ?_)
      · refine ⟨fun z => absurd z z10, fun _ => ?_⟩
        refine hK (_, _, _, _, _, _, _, _) pl3 Sg3 ⟨rs, NC2, rfl, ⟨q1, q2, q3, q4⟩, fun v hv hb => ?_⟩ n1 (by omega)
        rcases hv with hv | hv
        · exact hc v hv hb
        · rw [hcm v hv]
          exact hin
      · refine ⟨fun z => absurd z z10, fun _ => ?_⟩
        have hlen : (rs ++ [cols.map v2]).length = rs.length + 1 := by simp
        refine hK (nI fs.length, la, nI (rs.length + 1), FP, FT, FS, Tb, NC4) pl3 Sg3 ⟨rs ++ [cols.map v2], NC4, by rw [hlen], ⟨hR4, by omega, nodup_push q3 hno, fun r hr => ?_⟩, fun v hv hb => ?_⟩ n1 (by omega)
        · rcases List.mem_append.mp hr with g | g
          · exact q4 r g
          · rw [List.mem_singleton] at g
            exact ⟨v2, hB2', g⟩
        · rcases hv with hv | hv
          · exact List.mem_append_left _ (hc v hv hb)
          · rw [hcm v hv]
            exact List.mem_append_right _ (List.mem_singleton.mpr rfl)
      · refine ⟨fun _ => ?_, fun z => absurd rfl z⟩
        exact h0 rs pl3 _ _ Sg3 VA2 BB2 V4 AT2 NC2 ⟨q1, q2, q3, q4⟩ hfull ⟨v2, hB2', hno⟩ (BBok_of hBv)
    · refine ⟨fun _ => ?_, fun z => absurd rfl z⟩
      refine hK (_, _, _, _, _, _, _, _) pl3 Sg3 ⟨rs, NC2, rfl, hq, fun v hv hb => ?_⟩ n1 (by omega)
      rcases hv with hv | hv
      · exact hc v hv hb
      · exact absurd (iffB.mpr ((Bd_agr (hag v hv)).mp hb)) hh
  · exact ⟨[], NC, rfl, ⟨fun r row hr => (by cases hr), Nat.zero_le _, List.nodup_nil, fun r hr => (by cases hr)⟩, fun v hv => absurd hv (fun w => w)⟩
  · intro a pl2 Sg2 VA2 BB2 AT2 b2 v2 hI hBv _ _ n hnn
    obtain ⟨n1, rfl⟩ : ∃ n1, n = n1 + 1 := ⟨n - 1, by omega⟩
    obtain ⟨rs, NC2, rfl, hq, hc⟩ := hI
    refine ⟨fun _ => ?_, fun z => absurd (by decide) z⟩
    exact h1 rs pl2 _ Sg2 VA2 BB2 V4 AT2 NC2 hq (fun v hb => hc v (Or.inr (fun j e _ he => by cases he)) hb) (BBok_of hBv)
end JRow2
section RdQ
variable {post : Int32 → (Int32 × Int32 × Int32 × Int32 × Int32 × Int64 × Int32 × Int32 × Int32 × Int32 × (Nat → Int32) × (Nat → Int32) × (Nat → Int32) × (Nat → Int32) × (Nat → Int32) × (Nat → Int32) × (Nat → Int32) × (Nat → Int32) × (Nat → Int32) × (Nat → Int32) × (Nat → Int32) × (Nat → Int32) × (Nat → Int32) × (Nat → Int32) × (Nat → Int32) × (Nat → Int32) × (Nat → Int32) × (Nat → Int32)) → Prop} {n o live : Nat} {ar : Nat → Nat} {ps : List Wd} {cn : List Con} {G F PF PL PA PS CN CV CF LC LK LP LT VC LQ NQ TP LA VF VL : Nat → Int32} {tk fr to wc wp : Int32} {am : Int64}
theorem sp_Mo_readQuestion (hs : o + n ≤ 196608) (hn : n ≤ 65536) (hB : TxOk 1 live o n F) (hl : live < 2) (hG : ∀ j, j < n → shf F o j = G j) (hC : Cur (shf F o) n o 0 tk fr to am) (hM : MCo false cn (1100 * live) CN CV CF F) (hcn : cn.Nodup) (hc1 : cn.length ≤ 1000) (hcw : ∀ c ∈ cn, wOk c) (hP : PR live ps PF PL PS F) (hps : ps.Nodup) (har : ∀ i, i < ps.length → PA (65 * live + i) = nI (ar i)) (har6 : ∀ i, ar i ≤ 6)
    (h0 : ∀ (c q : Nat) tk fr to am cA vr wc wp PF2 PL2 PA2 PS2 CN2 CV2 CF2 LC2 LK2 LP2 LT2 VC2 LQ2 NQ2 TP2 LA2 VF2 VL2, AsR ps cn ar G n (.inl (c, q)) → Fr 1 live 256 cn.length (PF2, PL2, PA2, PS2, CN2, CV2, CF2, LC2, LK2, LP2, LT2) (PF, PL, PA, PS, CN, CV, CF, LC, LK, LP, LT) → post 0 (nI c, nI q, tk, fr, to, am, cA, vr, wc, wp, PF2, PL2, PA2, PS2, CN2, CV2, CF2, LC2, LK2, LP2, LT2, VC2, LQ2, NQ2, TP2, LA2, VF2, VL2))
    (h1 : ∀ (ls : List Lt) (vs : List (Option Wd)) (mc : List Con) tk fr to am wc wp PF2 PL2 PA2 PS2 CN2 CV2 CF2 LC2 LK2 LP2 LT2 VC2 LQ2 NQ2 TP2 LA2 VF2 VL2, AsR ps cn ar G n (.inr (ls, vs)) → (∀ j, j < vs.length → ∃ l ∈ ls, occ l j) → (∀ l ∈ ls, LtOk 1 G ps cn l) → MG 1 live F mc vs CN2 CV2 CF2 VF2 VL2 → CR 1 ps mc o live 256 (LK2, LP2, LT2, LQ2, NQ2, TP2, LA2) ls → LC2 (257 * live + 256) = nI (ls.length + 1) → ls.length ≤ 12 → Pre cn mc → mc.length ≤ cn.length + 72 → PR live ps PF2 PL2 PS2 F → Fr 1 live 256 cn.length (PF2, PL2, PA2, PS2, CN2, CV2, CF2, LC2, LK2, LP2, LT2) (PF, PL, PA, PS, CN, CV, CF, LC, LK, LP, LT) → post 1 (0, 0, tk, fr, to, am, nI mc.length, nI vs.length, wc, wp, PF2, PL2, PA2, PS2, CN2, CV2, CF2, LC2, LK2, LP2, LT2, VC2, LQ2, NQ2, TP2, LA2, VF2, VL2)) :
    wp_met_Mo_readQuestion post 0 0 (nI live) (nI live) (nI o) (nI (o + n)) tk fr to am (nI 256) 1 (nI cn.length) (nI 0) wc wp F PF PL PA PS CN CV CF LC LK LP LT VC LQ NQ TP LA VF VL := by
  have hpk : POk n ((6, 0, 0) : Ct) 0 := ⟨Nat.zero_le _, fun z => absurd z (by decide)⟩
  have hcg : ∀ r, Ends 1 (shf F o) n (6, 0, 0) (D00 ps cn) 0 r → Ends 1 G n (6, 0, 0) (D00 ps cn) 0 r := fun r hr => (Ends_cong hG hpk).mp hr
  have s1 : sf 1 = 1 := rfl
  refine sp_Mo_body (md := 1) (n := n) (o := o) (set := live) (cl := 256) (c0 := 256) (lo := cn.length) (ls := []) (lt := (0, [], 0, 0, [])) (vs := []) (ps := ps) (mc := cn) (D1 := []) (cn := cn) (p0 := 0) (X0 := (PF, PL, PA, PS, CN, CV, CF, LC, LK, LP, LT)) (A0 := (LK, LP, LT, LQ, NQ, TP, LA)) (St := fun r => Ends 1 (shf F o) n (6, 0, 0) (D00 ps cn) 0 r) hs hB hl (by omega) (Nat.le_refl _) (Nat.le_refl _) (Or.inr rfl) hc1 ?_ ?_ rfl (Nat.zero_le _) hC ⟨MCo_true hM, fun j x hx => (by cases hx), Nat.zero_le _, fun z => absurd z (by decide), hcn⟩ hP (fun z => absurd z (by decide)) (fun j lt hj => by cases hj) OfC_refl Fr_refl (fun r hr => hr)
  · intro ls lt vs ps2 mc p tk2 fr2 to2 am2 PF2 PL2 PA2 PS2 CN2 CV2 CF2 LK2 LP2 LT2 LQ2 NQ2 TP2 LA2 VF2 VL2 hp hC2 hk8 hG2 hP2 hN2 hCR hOf q1 q2 q3 hml hl2 hl13 hfr hE
    obtain rfl : ps2 = ps := q2 (by decide)
    have hE2 : ∀ r, Ends 1 (shf F o) n (10, 0, 0) ([], ls, lt, vs, ps2, cn) p r → Ends 1 (shf F o) n (6, 0, 0) (D00 ps2 cn) 0 r := hE
    rw [s1] at hl2 hl13 hfr
    refine ⟨fun z => absurd z (by decide), fun _ => ?_⟩
    obtain ⟨c1, c2, c3, c4, c5⟩ := hC2
    have hpos := TK_pos (shf F o) n p hp
    subst c2
    by_cases k0 : (TK (shf F o) n p).1 = 0
    · refine ⟨fun _ => ?_, fun z => absurd ((mk0 c1).mpr k0) z⟩
      have hEnd : Ends 1 (shf F o) n (6, 0, 0) (D00 ps2 cn) 0 (.inr ([], ls, lt, vs, ps2, cn)) := hE2 _ (Ends_end (by rw [step_10, if_neg c1, if_neg hk8, if_neg (fun w => absurd w.1 (by decide)), if_pos ⟨rfl, k0⟩]))
      have hEG := hcg _ hEnd
      have hDI := Ends_inv hn hpk (DI_00 hps hcn hcw) (fun z => absurd z (by decide)) hEG
      have hNA := Ends_nm hn hpk (DI_00 hps hcn hcw) (fun z => absurd z (by decide)) ⟨fun w => by rcases w with w | w | w <;> exact absurd w (by decide), fun _ => ⟨fun l hl => (by cases hl), fun z => absurd z (by decide)⟩, fun w => absurd w (by decide)⟩ hEnd
      have hVI := Ends_vi (md := 1) (by decide) (by decide) (by decide) (fun j hj => absurd hj (by show ¬ j < 0; omega)) hEnd
      obtain ⟨d1, d2, -⟩ := hDI
      replace d2 : ∀ l ∈ ls, LtOk 1 G ps2 cn l := d2
      replace hNA : ∀ l ∈ ls, isA l → WdAt (shf F o) n l.2.2.1 l.2.1 := hNA.1
      replace hVI : ∀ j, j < vs.length → ∃ l ∈ ls, occ l j := hVI
      have hkd : ∀ l ∈ ls, kdOk l.1 := fun l hl => kd_of (d2 l hl)
      have hAr2 : ∀ i, i < ps2.length → PA2 (65 * live + i) = nI (ar i) := by
        intro i hi
        have hq9 := (hfr.1 (65 * live + i) (fun w => absurd w.1 (by decide))).2.2
        dsimp only at hq9
        rw [hq9]
        exact har i hi
      intro y27 h27 y28 h28
      rw [show (257 : Int32) = nI 257 from rfl, pk_mul] at h27
      rw [h27, nI_add] at h28
      subst h28
      refine ⟨vp_in_nI (by omega) (by omega), fun g30 h30 => ?_⟩
      refine sp_Mo_ownArities (W := fun _ _ => False) (ar := ar) hs hB.1 hl hps hP2.2.1 hCR (by rw [upd_same]; rfl) (by omega) hkd hNA hAr2 har6 (Or.inl ⟨fun _ _ w => w, rfl⟩) (fun wc2 wp2 hW2 => ?_)
      have hmc : mc.length ≤ 1100 := by omega
      have hCM : CM 1 ps2 mc o live 256 (LK2, LP2, LT2, LQ2, NQ2, TP2, LA2) (upd LC (257 * live + 256) (nI (ls.length + 1))) ls := CM_of (G := G) (by omega) hCR (by rw [upd_same, s1]) (by rw [s1]; omega) hmc (fun l hl => ⟨_, _, d2 l hl⟩)
      refine sp_Mo_look (md := 1) hl (by omega) hCM hW2 (fun wc3 wp3 hW3 => ?_)
      rcases hW3 with ⟨hno, hmax⟩ | ⟨c, q, hw, hlt, hc, hq, hmin⟩
      · refine ⟨fun _ => ?_, fun z => absurd hmax z⟩
        refine h1 ls vs mc _ _ _ _ _ _ _ _ _ _ _ _ _ _ _ _ _ _ _ _ _ _ _ _ (Or.inr ⟨_, hEG, Or.inr ⟨fun c p w => hno c p ?_, rfl⟩⟩) hVI d2 hG2 hCR (by rw [upd_same]; rfl) (by omega) q3 hml hP2 hfr
        rcases w with w | w
        · exact Or.inl (Or.inr w)
        · exact Or.inr w
      · have hne : ¬ wp3 = (2147483647 : Int32) := by
          intro z
          rw [hq] at z
          have e := congrArg Int32.toInt z
          rw [nI_toInt (by omega)] at e
          have e2 : (2147483647 : Int32).toInt = 2147483647 := by decide
          rw [e2] at e
          omega
        refine ⟨fun z => absurd z hne, fun _ => ?_⟩
        refine sp_Mo_flaw ?_
        intro y40 h40
        rw [if_pos rfl] at h40
        subst h40
        rw [hq, hc, pk_sub (by omega), show o + q - o = q by omega]
        refine h0 c q _ _ _ _ _ _ _ _ _ _ _ _ _ _ _ _ _ _ _ _ _ _ _ _ _ _ (Or.inr ⟨_, hEG, Or.inl ⟨c, q, ?_, fun c2 p2 w => hmin c2 p2 ?_, rfl⟩⟩) hfr
        · rcases hw with (w | w) | w
          · exact absurd w (fun w => w)
          · exact Or.inl w
          · exact Or.inr w
        · rcases w with w | w
          · exact Or.inl (Or.inr w)
          · exact Or.inr w
    · refine ⟨fun z => absurd ((mk0 c1).mp z) k0, fun _ => ?_⟩
      subst c3
      refine sp_Mo_cannot (by omega) ?_
      refine ⟨Or.inl rfl, h0 2 _ _ _ _ _ _ _ _ _ _ _ _ _ _ _ _ _ _ _ _ _ _ _ _ _ _ _ (Or.inl ⟨_, hcg _ (hE2 _ (Ends_flt (by rw [step_10, if_neg c1, if_neg hk8, if_neg (fun w => absurd w.1 (by decide)), if_neg (fun w => k0 w.2)]))), rfl⟩) hfr⟩
  · intro c q u hfr hE
    refine ⟨fun _ => ?_, fun z => absurd rfl z⟩
    exact h0 c q _ _ _ _ _ _ _ _ _ _ _ _ _ _ _ _ _ _ _ _ _ _ _ _ _ _ (Or.inl ⟨_, hcg _ hE, rfl⟩) hfr
end RdQ
section Ask
abbrev O56 : Type := Int32 × Int32 × Int32 × Int32 × Int32 × Int32 × Int32 × Int32 × Int32 × Int32 × Int64 × Int32 × Int32 × Int32 × Int32 × Int32 × Int32 × Int32 × Int32 × Int32 × Int32 × Int32 × Int32 × Int32 × Int32 × (Nat → Int32) × (Nat → Int32) × (Nat → Int32) × (Nat → Int32) × (Nat → Int32) × (Nat → Int32) × (Nat → Int32) × (Nat → Int32) × (Nat → Int32) × (Nat → Int32) × (Nat → Int32) × (Nat → Int32) × (Nat → Int32) × (Nat → Int32) × (Nat → Int32) × (Nat → Int32) × (Nat → Int32) × (Nat → Int32) × (Nat → Int32) × (Nat → Int32) × (Nat → Int32) × (Nat → Int32) × (Nat → Int32) × (Nat → Int32) × (Nat → Int32) × (Nat → Int32) × (Nat → Int32) × (Nat → Int32) × (Nat → Int32) × (Nat → Int32) × (Nat → Int32)
variable {post : Int32 → O56 → Prop} {n live : Nat} {D : Dt} {L : Nat → Nat} {fs : List Fct} {T F PF PL PA PS CN CV CF Cs Cl LC LK LP LT VC LQ NQ TP LA VF VL ST FP FT FS Tb Sg VA BB AM AT RC NC NCo : Nat → Int32} {fc fp st0 bs sp tk fr to cl as cA vr wc wp la pl aC ro wi nr nw : Int32} {am : Int64}
/-- the columns are laid -/
theorem ask_70 {vs : List (Option Wd)} {len fco fpl se ba so tk fr to cl as cA wc wp ro wi y1 fc2 lv fa la pl : Int32} {am : Int64} {F2 PF2 PL2 PA2 PS2 CN2 CV2 CF2 LC2 LK2 LP2 LT2 VC2 LQ2 NQ2 TP2 LA2 VF2 VL2 RC FP FT FS Tb Sg VA BB AM AT NC : Nat → Int32} (hv : vs.length ≤ 12) (hM : MV vs VF2 VL2 F2)
    (h : ∀ N2 : Nat → Int32, (∀ (c x : Nat), (cols vs)[c]? = some x → N2 c = nI x) → jw_met_Mo_ask_113 post len fco fpl se ba so tk fr to am cl as cA (nI vs.length) wc wp ro wi (nI (cols vs).length) F2 PF2 PL2 PA2 PS2 CN2 CV2 CF2 LC2 LK2 LP2 LT2 VC2 LQ2 NQ2 TP2 LA2 VF2 VL2 RC N2 y1 fc2 lv fa la pl FP FT FS Tb Sg VA BB AM AT NC ()) : ∀ m v : Nat, v + m = vs.length → ∀ N1 : Nat → Int32, (∀ (c x : Nat), (colsF (vs.take v) 0)[c]? = some x → N1 c = nI x) → lw_met_Mo_ask_70 post (nI vs.length) VL2 len fco fpl se ba so tk fr to am cl as cA wc wp ro wi F2 PF2 PL2 PA2 PS2 CN2 CV2 CF2 LC2 LK2 LP2 LT2 VC2 LQ2 NQ2 TP2 LA2 VF2 RC y1 fc2 lv fa la pl FP FT FS Tb Sg VA BB AM AT NC (m + 1) (nI v, nI (colsF (vs.take v) 0).length, N1) := by
  intro m
  induction m with
  | zero =>
    intro v hvm N1 hN
    refine pk_le vs.length v (fun _ => ?_) (fun q => absurd q (by omega))
    rw [List.take_of_length_le (by omega)] at hN ⊢
    exact h N1 hN
  | succ m ih =>
    intro v hvm N1 hN
    have hvl : v < vs.length := by omega
    have hve := List.getElem?_eq_getElem hvl
    have hlen : (vs.take v).length = v := by rw [List.length_take]; omega
    have hcl := colsF_len (vs.take v) 0
    have htk : colsF (vs.take (v + 1)) 0 = colsF (vs.take v) 0 ++ colsF [vs[v]] v := by
      rw [take_push _ v hvl, colsF_app, hlen, Nat.zero_add]
    refine pk_le vs.length v (fun q => absurd q (by omega)) (fun _ => ?_)
    refine ⟨vp_in_nI (by omega) (by omega), fun y54 h54 => ?_⟩
    rw [nI_clamp (by omega)] at h54
    have hMv := hM v _ hve
    cases hx : vs[v] with
    | none =>
      rw [hx] at hMv htk
      replace hMv : VL2 v = 0 := hMv
      rw [hMv] at h54
      refine ⟨fun _ => ?_, fun z => absurd (by rw [h54]; decide) z⟩
      rw [nI_1]
      have e0 : colsF [(none : Option Wd)] v = [] := rfl
      rw [e0, List.append_nil] at htk
      have key := ih (v + 1) (by omega) N1 (by rw [htk]; exact hN)
      rw [htk] at key
      exact key
    | some w =>
      rw [hx] at hMv htk
      obtain ⟨w1, w2, a, w3, w4, w5⟩ : ¬ w = [] ∧ VL2 v = nI w.length ∧ ∃ a, VF2 v = nI a ∧ a + w.length ≤ 196608 ∧ sl F2 a w.length = w := hMv
      have hwl : 0 < w.length := by
        cases w with
        | nil => exact absurd rfl w1
        | cons => simp
      rw [w2] at h54
      have e0 : colsF [some w] v = [v] := rfl
      rw [e0] at htk
      refine ⟨fun z => ?_, fun _ => ?_⟩
      · rw [h54] at z
        exact absurd ((nI_leI (b := 0) (by omega) (by omega)).mp z) (by omega)
      · refine ⟨vp_in_nI (by omega) (by omega), fun g56 h56 y57 h57 => ?_⟩
        rw [nI_clamp (by omega)] at h56
        rw [nI_1] at h57
        rw [h57, nI_1]
        have key := ih (v + 1) (by omega) g56 (fun c x hc => ?_)
        · rw [htk, List.length_append, List.length_singleton] at key
          exact key
        · rw [htk] at hc
          rw [h56]
          rcases Nat.lt_or_ge c (colsF (vs.take v) 0).length with g | g
          · rw [List.getElem?_append_left g] at hc
            rw [upd_ne (by omega)]
            exact hN c x hc
          · have hi := (List.getElem?_eq_some_iff.mp hc).1
            rw [List.length_append, List.length_singleton] at hi
            obtain rfl : c = (colsF (vs.take v) 0).length := by omega
            rw [List.getElem?_append_right (Nat.le_refl _), Nat.sub_self] at hc
            obtain rfl : v = x := by simpa using hc
            rw [upd_same]
theorem sp_Mo_ask (hn : n ≤ 65536) (hT : ∀ j, j < n → byt (T j)) (hFb : ∀ j, j < 196608 → byt (F j)) (hP : MPo D L live F PF PL PA PS CN CV CF Cs Cl LC LK LP LT ST) (hps : D.2.2.2.2.1.Nodup) (har6 : ∀ i, arF D.2.2.2.2.1 D.1 i ≤ 6) (hS : MS D.2.2.2.2.2 live PA fs FP FT Tb) (hBB : BBok BB)
    (h0 : ∀ (c q : Nat) se ba so tk fr to am cl as cA vr wc wp F2 PF2 PL2 PA2 PS2 CN2 CV2 CF2 LC2 LK2 LP2 LT2 VC2 LQ2 NQ2 TP2 LA2 VF2 VL2, AsR D.2.2.2.2.1 D.2.2.2.2.2 (arF D.2.2.2.2.1 D.1) T n (.inl (c, q)) → (∀ j, j < 196608 → byt (F2 j)) → MPo D L live F2 PF2 PL2 PA2 PS2 CN2 CV2 CF2 Cs Cl LC2 LK2 LP2 LT2 ST → (∀ j, PA2 j = PA j) →
      post (-1 - nI q) (0, 0, nI c, nI q, se, ba, so, tk, fr, to, am, cl, as, cA, vr, wc, wp, nI fs.length, la, pl, aC, ro, wi, nr, nw, F2, PF2, PL2, PA2, PS2, CN2, CV2, CF2, LC2, LK2, LP2, LT2, VC2, LQ2, NQ2, TP2, LA2, VF2, VL2, FP, FT, FS, Tb, Sg, VA, BB, AM, AT, RC, NC, NCo))
    (h2 : ∀ (ls : List Lt) (vs : List (Option Wd)) fpl se ba so tk fr to am cl as cA vr wc wp pl aC nr nw F2 PF2 PL2 PA2 PS2 CN2 CV2 CF2 LC2 LK2 LP2 LT2 VC2 LQ2 NQ2 TP2 LA2 VF2 VL2 Sg2 VA2 BB2 AM2 AT2 NC2 NCo2, AsR D.2.2.2.2.1 D.2.2.2.2.2 (arF D.2.2.2.2.1 D.1) T n (.inr (ls, vs)) → AnsO D.2.2.2.2.1 (fun x => x ∈ fs) ls vs → (∀ j, j < 196608 → byt (F2 j)) → MPo D L live F2 PF2 PL2 PA2 PS2 CN2 CV2 CF2 Cs Cl LC2 LK2 LP2 LT2 ST → (∀ j, PA2 j = PA j) → BBok BB2 →
      post 0 (2, nI n, fc, fpl, se, ba, so, tk, fr, to, am, cl, as, cA, vr, wc, wp, nI fs.length, la, pl, aC, ro, wi, nr, nw, F2, PF2, PL2, PA2, PS2, CN2, CV2, CF2, LC2, LK2, LP2, LT2, VC2, LQ2, NQ2, TP2, LA2, VF2, VL2, FP, FT, FS, Tb, Sg2, VA2, BB2, AM2, AT2, RC, NC2, NCo2))
    (h1 : ∀ (ls : List Lt) (vs : List (Option Wd)) (qs : List (List Con)) fpl se ba so tk fr to am cl as cA vr wc wp pl aC nr nw F2 PF2 PL2 PA2 PS2 CN2 CV2 CF2 LC2 LK2 LP2 LT2 VC2 LQ2 NQ2 TP2 LA2 VF2 VL2 Sg2 VA2 BB2 AM2 AT2 RC2 NC2 NCo2, AsR D.2.2.2.2.1 D.2.2.2.2.2 (arF D.2.2.2.2.1 D.1) T n (.inr (ls, vs)) → AnsR D.2.2.2.2.1 (fun x => x ∈ fs) ls vs qs → RwR D.2.2.2.2.2 (cols vs).length qs RC2 → (cols vs).length ≤ 12 → (∀ j, j < 196608 → byt (F2 j)) → MPo D L live F2 PF2 PL2 PA2 PS2 CN2 CV2 CF2 Cs Cl LC2 LK2 LP2 LT2 ST → (∀ j, PA2 j = PA j) → BBok BB2 →
      post (nI qs.length) (0, 0, 0, fpl, se, ba, so, tk, fr, to, am, cl, as, cA, vr, wc, wp, nI fs.length, la, pl, aC, nI qs.length, nI (cols vs).length, nr, nw, F2, PF2, PL2, PA2, PS2, CN2, CV2, CF2, LC2, LK2, LP2, LT2, VC2, LQ2, NQ2, TP2, LA2, VF2, VL2, FP, FT, FS, Tb, Sg2, VA2, BB2, AM2, AT2, RC2, NC2, NCo2)) :
    wp_met_Mo_ask post (nI n) fc fp (nI live) st0 bs sp tk fr to am cl as cA vr wc wp 1 (nI fs.length) la pl aC ro wi nr nw T F PF PL PA PS CN CV CF Cs LC LK LP LT VC LQ NQ TP LA VF VL FP FT FS Tb Sg VA BB AM AT RC NC NCo := by
  have hP0 := hP
  obtain ⟨hPR, ⟨hl, hcn, hmc, hcw, hM, hCl, hST, hAr, hCLp⟩, hCs, hc1, hcs⟩ := hP0
  have n10 : ¬ (1 : Int32) = 0 := by decide
  have n10' : ¬ (1 : Nat) = 0 := by decide
  intro y1 hy1
  rw [if_neg n10] at hy1
  subst hy1
  refine ⟨fun _ => ?_, fun z => absurd (by decide) z⟩
  refine ⟨vp_in_nI hl (by omega), fun y2 hy2 => ?_⟩
  rw [nI_clamp (by omega), hCs] at hy2
  subst hy2
  have e131 : (131072 : Int32) = nI 131072 := rfl
  rw [e131]
  have fin0 : ∀ (c q : Nat) (F2 : Nat → Int32) (ba so tk fr to : Int32) (am : Int64) (cA vr wc wp : Int32) (PF2 PL2 PA2 PS2 CN2 CV2 CF2 LC2 LK2 LP2 LT2 VC2 LQ2 NQ2 TP2 LA2 VF2 VL2 : Nat → Int32), (∀ j, j < 131072 → F2 j = F j) → (∀ j, j < 196608 → byt (F2 j)) → AsR D.2.2.2.2.1 D.2.2.2.2.2 (arF D.2.2.2.2.1 D.1) T n (.inl (c, q)) → Fr 1 live 256 D.2.2.2.2.2.length (PF2, PL2, PA2, PS2, CN2, CV2, CF2, LC2, LK2, LP2, LT2) (PF, PL, PA, PS, CN, CV, CF, LC, LK, LP, LT) → jw_met_Mo_ask_51 post 0 (nI live) ba so 256 1 (nI fs.length) la pl aC ro wi nr nw F2 FP FT FS Tb Sg VA BB AM AT RC NC NCo (nI c, nI q, tk, fr, to, am, cA, vr, wc, wp, PF2, PL2, PA2, PS2, CN2, CV2, CF2, LC2, LK2, LP2, LT2, VC2, LQ2, NQ2, TP2, LA2, VF2, VL2) := by
    intro c q F2 ba so tk fr to am cA vr wc wp PF2 PL2 PA2 PS2 CN2 CV2 CF2 LC2 LK2 LP2 LT2 VC2 LQ2 NQ2 TP2 LA2 VF2 VL2 eF hb hA hfr
    intro y106 h106
    rw [h106]
    exact h0 c q _ _ _ _ _ _ _ _ _ _ _ _ _ _ _ _ _ _ _ _ _ _ _ _ _ _ _ _ _ _ _ _ hA hb (MPo_q hP eF hfr) (fun j => (hfr.1 j (fun w => n10' w.1)).2.2)
  refine sp_Mo_starts (o := 131072) (by omega) hn hT hFb (fun F2 tk2 fr2 to2 am2 e1 e2 hb hbad => ?_) (fun F2 tk2 fr2 to2 am2 e1 e2 hb hC => ?_)
  · have hce := TK_cong (F := shf F2 131072) (G := T) (fun j hj => e1 j hj) (Nat.zero_le n)
    rw [hce] at hbad ⊢
    refine ⟨fun _ => ?_, fun z => absurd rfl z⟩
    exact fin0 1 _ F2 _ _ _ _ _ _ _ _ _ _ _ _ _ _ _ _ _ _ _ _ _ _ _ _ _ _ _ _ (fun j hj => e2 j (by omega)) hb (Or.inl ⟨_, Ends_flt (by rw [step_6, if_pos hbad]), rfl⟩) Fr_refl
  · refine ⟨fun z => absurd z n10, fun _ => ?_⟩
    have eF : ∀ j, j < 131072 → F2 j = F j := fun j hj => e2 j (by omega)
    have hPk := MPo_q hP eF Fr_refl
    refine sp_Mo_readQuestion (G := T) (ps := D.2.2.2.2.1) (cn := D.2.2.2.2.2) (ar := arF D.2.2.2.2.1 D.1) (by omega) hn ⟨fun j hj => hb j (by omega), Or.inr ⟨rfl, rfl⟩⟩ hl (fun j hj => e1 j hj) hC hPk.2.1.2.2.2.2.1 hcn hc1 hcw hPk.1 hps hAr har6 (fun c q tk3 fr3 to3 am3 cA3 vr3 wc3 wp3 PF3 PL3 PA3 PS3 CN3 CV3 CF3 LC3 LK3 LP3 LT3 VC3 LQ3 NQ3 TP3 LA3 VF3 VL3 hA hfr => ?_) (fun ls vs mc tk3 fr3 to3 am3 wc3 wp3 PF3 PL3 PA3 PS3 CN3 CV3 CF3 LC3 LK3 LP3 LT3 VC3 LQ3 NQ3 TP3 LA3 VF3 VL3 hA hocc hok hG3 hCR hLC hls hpre hml hPR3 hfr => ?_)
    · refine ⟨fun _ => ?_, fun z => absurd rfl z⟩
      exact fin0 c q F2 _ _ _ _ _ _ _ _ _ _ _ _ _ _ _ _ _ _ _ _ _ _ _ _ _ _ _ _ eF hb hA hfr
    · refine ⟨fun z => absurd z n10, fun _ => ?_⟩
      obtain ⟨g1, g2, g3, g4⟩ := hG3
      have hmc2 : mc.length ≤ 1100 := by omega
      have hnd2 : mc.Nodup := g4.2
      have hPk3 := MPo_q hP eF hfr
      have ePA : ∀ j, PA3 j = PA j := fun j => (hfr.1 j (fun w => n10' w.1)).2.2
      have hno : ∀ c p, ¬ QWA D.2.2.2.2.1 (arF D.2.2.2.2.1 D.1) ls c p := by
        rcases hA with ⟨e, -, w⟩ | ⟨D2, hE2, ⟨c, p, -, -, w⟩ | ⟨w1, w2⟩⟩
        · cases w
        · cases w
        · simp only [Sum.inr.injEq, Prod.mk.injEq] at w2
          rw [w2.1]
          exact w1
      have s1 : sf 1 = 1 := rfl
      have hbn : ∀ l ∈ ls, ∀ t ∈ l.2.2.2.2, ∀ v, t.1 = Sum.inl v → bnd 1 ls v := by
        intro l hl2 t ht v hv
        obtain ⟨j, hj, e⟩ := List.mem_iff_getElem.mp hl2
        have hje : ls[j]? = some l := by rw [List.getElem?_eq_getElem hj, e]
        apply Classical.byContradiction
        intro hb2
        by_cases z : l.1 = 0
        · exact hb2 ⟨j, l, hje, by omega, z, t, ht, hv⟩
        · exact hno 11 t.2 (Or.inr ⟨rfl, j, l, hj, hje, Or.inr z, t, ht, rfl, v, hv, hb2⟩)
      have hArq : ∀ l ∈ ls, (l.1 = 0 ∨ l.1 = 1) → ∀ i : Nat, D.2.2.2.2.1[i]? = some l.2.1 → PA3 (65 * live + i) = nI l.2.2.2.2.length := by
        intro l hl2 ha i hi
        have hil := (List.getElem?_eq_some_iff.mp hi).1
        obtain ⟨j, hj, e⟩ := List.mem_iff_getElem.mp hl2
        have hje : ls[j]? = some l := by rw [List.getElem?_eq_getElem hj, e]
        rw [ePA, hAr i hil]
        apply congrArg nI
        apply Classical.byContradiction
        intro hb2
        exact hno 10 l.2.2.1 (Or.inl ⟨rfl, j, l, hj, hje, ha, rfl, _, Or.inl ⟨i, hi, rfl⟩, hb2⟩)
      have hCq : CLp 1 D.2.2.2.2.1 mc live 256 LC3 LK3 LP3 LT3 ls := CLp_of (md := 1) (by rw [s1]; omega) (by rw [s1]; exact hLC) hCR hok
      have hwf : ∀ x ∈ fs, ∀ c ∈ x.2, wOk c := fun x hx c hc => hcw c (hS.1.2.1 x hx c hc)
      have hFm := MFa_pre hpre hnd2 hS.1
      have hFa3 : ∀ x ∈ fs, PA3 (65 * live + x.1) = nI x.2.length := fun x hx => by rw [ePA]; exact hS.2.1 x hx
      refine ⟨_, ask_70 g3 g2 (fun N2 hN2 => ?_) vs.length 0 (Nat.zero_add _) NCo (fun c x hx => by cases hx)⟩
      unfold jw_met_Mo_ask_113
      have hcl : (cols vs).length ≤ 12 := Nat.le_trans (colsF_len vs 0) g3
      have e256 : (256 : Int32) = nI 256 := rfl
      rw [e256]
      refine sp_Mo_join_row2 (fs := fs) (mc := mc) (ps := D.2.2.2.2.1) (ls := ls) (cols := cols vs) hl (by omega) hnd2 hmc2 hwf hps hPR3.2.1 hCq g1 hArq hBB hbn hFm hFa3 ⟨hcl, fun c x hx => ⟨hN2 c x hx, ?_⟩⟩ (fun rs pl4 aC4 Sg4 VA4 BB4 AM4 AT4 NC4 hQ hall hB4 => ?_) (fun rs pl4 aC4 nr4 Sg4 VA4 BB4 AM4 AT4 NC4 hQ hfull hex hB4 => ?_)
      · have hx2 := colsF_lt vs 0 x (List.mem_of_getElem? hx)
        obtain ⟨l, l1, t, l2, l3⟩ := hocc x (by omega)
        exact ⟨l, l1, t, l2, l3⟩
      · refine ⟨fun z => absurd z n10, fun _ => ?_⟩
        obtain ⟨k1, k2, k3, k4⟩ := hQ
        have hyc : ∀ row ∈ rs, ∀ y ∈ row, y ∈ D.2.2.2.2.2 := by
          intro row hrow y hy
          obtain ⟨v, v1, v2⟩ := k4 row hrow
          replace v1 := Bd_q.mp v1
          rw [v2] at hy
          obtain ⟨x, hx, e⟩ := List.mem_map.mp hy
          have hx2 := colsF_lt vs 0 x hx
          obtain ⟨l, l1, t, l2, l3⟩ := hocc x (by omega)
          obtain ⟨j2, l4, b1, -, b2, t2, b3, b4⟩ := hbn l l1 t l2 x l3
          rcases v1 l4 (List.mem_of_getElem? b1) with ⟨-, p, p1, p2⟩ | ⟨w, -⟩ | ⟨w, -⟩
          · rw [← e]
            exact hS.1.2.1 _ p2 (v x) (List.mem_map.mpr ⟨t2, b3, by rw [b4]; rfl⟩)
          · rw [b2] at w
            exact absurd w (by decide)
          · exact absurd b2 w
        have hRc : RwR D.2.2.2.2.2 (cols vs).length rs NC4 := by
          intro r row hr
          obtain ⟨r1, r2⟩ := k1 r row hr
          refine ⟨r1, fun c y hy => ?_⟩
          have hin2 := hyc row (List.mem_of_getElem? hr) y (List.mem_of_getElem? hy)
          exact ⟨hin2, by rw [← ix_pre hpre hnd2 hin2]; exact (r2 c y hy).2⟩
        refine sp_Mo_sort hl hmc hcw hPk3.2.1.2.2.2.2.1 hcl k2 hRc k3 (fun qs R2 hq hR => ?_)
        obtain ⟨s2, s3, s4, s5⟩ := hq
        have hin : ∀ x, x ∈ qs ↔ ∃ v, bHo D.2.2.2.2.1 (fun x => x ∈ fs) v ls ∧ x = (cols vs).map v := by
          intro x
          rw [s3 x]
          constructor
          · intro hx
            obtain ⟨v, v1, v2⟩ := k4 x hx
            exact ⟨v, Bd_q.mp v1, v2⟩
          · rintro ⟨v, v1, v2⟩
            rw [v2]
            exact hall v (Bd_q.mpr v1)
        rw [← s2]
        refine h1 ls vs qs _ _ _ _ _ _ _ _ _ _ _ _ _ _ _ _ _ _ _ _ _ _ _ _ _ _ _ _ _ _ _ _ _ _ _ _ _ _ _ _ _ _ _ _ _ hA ⟨hin, s5, by omega⟩ hR hcl hb hPk3 ePA hB4
      · refine ⟨fun _ => ?_, fun z => absurd rfl z⟩
        obtain ⟨k1, k2, k3, k4⟩ := hQ
        obtain ⟨v, v1, v2⟩ := hex
        refine h2 ls vs _ _ _ _ _ _ _ _ _ _ _ _ _ _ _ _ _ _ _ _ _ _ _ _ _ _ _ _ _ _ _ _ _ _ _ _ _ _ _ _ _ _ _ _ hA ⟨rs ++ [(cols vs).map v], nodup_push k3 v2, fun x hx => ?_, by rw [List.length_append, List.length_singleton]; omega⟩ hb hPk3 ePA hB4
        rcases List.mem_append.mp hx with w | w
        · obtain ⟨v3, v4, v5⟩ := k4 x w
          exact ⟨v3, Bd_q.mp v4, v5⟩
        · rw [List.mem_singleton] at w
          exact ⟨v, Bd_q.mp v1, w⟩
end Ask
