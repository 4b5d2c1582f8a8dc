/-! pure: the model takes a fact -/
theorem MFa_add {mc : List Con} {fs : List Fct} {FP FT Tb FP2 FT2 Tb2 : Nat → Int32} {x : Fct} {d : Nat} (h : MFa mc fs FP FT Tb) (hl : fs.length < 20000) (hx1 : x.1 < 64) (hx2 : x.2.length ≤ 6) (hx3 : ∀ c ∈ x.2, c ∈ mc) (hd : d < 65536) (hz : Tb ((mh (enc mc x).1 (enc mc x).2 + d) % 65536) = 0) (he : ∀ e, e < d → ¬ tn Tb ((mh (enc mc x).1 (enc mc x).2 + e) % 65536) = 0) (hP : FP2 = upd FP fs.length (nI x.1)) (hT : Tb2 = upd Tb ((mh (enc mc x).1 (enc mc x).2 + d) % 65536) (nI (fs.length + 1))) (hF1 : ∀ j, j < 6 * fs.length → FT2 j = FT j) (hF2 : sl FT2 (6 * fs.length) x.2.length = (enc mc x).2) : MFa mc (fs ++ [x]) FP2 FT2 Tb2 := by
  obtain ⟨⟨t1, t2, t3, t4⟩, h2, h3⟩ := h
  have hml : (fs.map (enc mc)).length = fs.length := List.length_map _
  have helen : (enc mc x).2.length = x.2.length := List.length_map _
  rw [hml] at t1 t3 t4
  have hsl : (mh (enc mc x).1 (enc mc x).2 + d) % 65536 < 65536 := Nat.mod_lt _ (by omega)
  have hmap : (fs ++ [x]).map (enc mc) = fs.map (enc mc) ++ [enc mc x] := by rw [List.map_append]; rfl
  have hlen2 : (fs.map (enc mc) ++ [enc mc x]).length = fs.length + 1 := by rw [List.length_append, hml]; rfl
  have gdo : ∀ f, f < fs.length → (fs.map (enc mc) ++ [enc mc x]).getD f (0, []) = (fs.map (enc mc)).getD f (0, []) := by
    intro f hf
    rw [List.getD_eq_getElem?_getD, List.getD_eq_getElem?_getD, List.getElem?_append_left (by omega)]
  have gdn : (fs.map (enc mc) ++ [enc mc x]).getD fs.length (0, []) = enc mc x := by
    rw [List.getD_eq_getElem?_getD, List.getElem?_append_right (by omega), hml, Nat.sub_self]
    rfl
  refine ⟨?_, fun y hy => ?_, fun y hy => ?_⟩
  · rw [hmap]
    refine ⟨by omega, fun f y hf => ?_, ?_, fun i hi => ?_⟩
    · rcases Nat.lt_or_ge f fs.length with g | g
      · rw [List.getElem?_append_left (by omega)] at hf
        obtain ⟨a1, a2, a3⟩ := t2 f y hf
        refine ⟨by rw [hP, upd_ne (by omega)]; exact a1, a2, ?_⟩
        rw [← a3]
        rw [a3]
        refine (sl_eq _ _ _ (fun j hj => ?_)).trans a3
        exact hF1 _ (by omega)
      · have h4 := (List.getElem?_eq_some_iff.mp hf).1
        rw [hlen2] at h4
        obtain rfl : f = fs.length := by omega
        rw [List.getElem?_append_right (by omega), hml, Nat.sub_self] at hf
        obtain rfl : enc mc x = y := by simpa using hf
        refine ⟨by rw [hP, upd_same]; rfl, by omega, ?_⟩
        rw [helen]
        exact hF2
    · rw [hlen2]
      refine HT_add t3 (mh_lt _ _) hd he ?_ ?_ (fun i hi hne => ?_) ?_ (fun f hf => ?_)
      · unfold tn
        rw [hz]
        decide
      · unfold tn
        rw [hT, upd_same]
        exact nI_clamp (by omega)
      · unfold tn
        rw [hT, upd_ne hne]
      · show mh ((fs.map (enc mc) ++ [enc mc x]).getD fs.length (0, [])).1 ((fs.map (enc mc) ++ [enc mc x]).getD fs.length (0, [])).2 = _
        rw [gdn]
      · show mh ((fs.map (enc mc) ++ [enc mc x]).getD f (0, [])).1 ((fs.map (enc mc) ++ [enc mc x]).getD f (0, [])).2 = _
        rw [gdo f hf]
    · rw [hlen2]
      by_cases g : i = (mh (enc mc x).1 (enc mc x).2 + d) % 65536
      · exact ⟨fs.length + 1, by omega, by rw [g, hT, upd_same]⟩
      · obtain ⟨k, a1, a2⟩ := t4 i hi
        exact ⟨k, by omega, by rw [hT, upd_ne g]; exact a2⟩
  · rcases List.mem_append.mp hy with g | g
    · exact h2 y g
    · rw [List.mem_singleton] at g
      rw [g]
      exact hx3
  · rcases List.mem_append.mp hy with g | g
    · exact h3 y g
    · rw [List.mem_singleton] at g
      rw [g]
      exact ⟨hx1, hx2⟩
section MFact
variable {post : Int32 → (Int32 × Int32 × Int32 × (Nat → Int32) × (Nat → Int32) × (Nat → Int32) × (Nat → Int32) × (Nat → Int32)) → Prop} {mc : List Con} {fs : List Fct} {FP FT FS Tb PA LP LT VA : Nat → Int32} {live cl p : Nat} {l : Lt} {v : Nat → Con} {stg ls : Int32}
theorem fact_in {Sg FP2 FS2 Tb2 : Nat → Int32} {pl : Int32} {n : Nat} {es : List Int32} (hl : live < 2) (hp : p < 64) (hPA : PA (65 * live + p) = nI n) (hn6 : n ≤ 6) (hfl : fs.length < 20000) (hes : es.length = n) (hS : ∀ (i : Nat) (x : Int32), es[i]? = some x → Sg i = x) (h : ∀ FT2, (∀ j, j < 6 * fs.length → FT2 j = FT j) → sl FT2 (6 * fs.length) n = es → jw_met_Mo_fact_153 post (nI fs.length) stg ls pl FP2 FT2 FS2 Tb2 Sg ()) : ∀ m i : Nat, i + m = n → ∀ FT1 : Nat → Int32, (∀ j, j < 6 * fs.length → FT1 j = FT j) → (∀ (i2 : Nat) (x : Int32), i2 < i → es[i2]? = some x → FT1 (6 * fs.length + i2) = x) → lw_met_Mo_fact_118 post (nI fs.length) Sg (nI p) (nI live) PA stg ls pl FP2 FS2 Tb2 (m + 1) (nI i, FT1) := by
  intro m
  induction m with
  | zero =>
    intro i hi FT1 h1 h2
    refine sp_Mo_arity hl hp hPA ?_
    refine pk_le n i (fun _ => ?_) (fun q => absurd q (by omega))
    refine h FT1 h1 ?_
    apply List.ext_getElem?
    intro i2
    rcases Nat.lt_or_ge i2 n with q | q
    · have q1 : i2 < (sl FT1 (6 * fs.length) n).length := by rw [sl_len]; exact q
      have q2 : i2 < es.length := by omega
      have e1 := sl_idx _ _ i2 _ (List.getElem?_eq_getElem q1)
      have e2 := h2 i2 _ (by omega) (List.getElem?_eq_getElem q2)
      rw [List.getElem?_eq_getElem q1, List.getElem?_eq_getElem q2, ← e1, ← e2]
    · rw [List.getElem?_eq_none (by rw [sl_len]; exact q), List.getElem?_eq_none (by omega)]
  | succ m ih =>
    intro i hi FT1 h1 h2
    refine sp_Mo_arity hl hp hPA ?_
    refine pk_le n i (fun q => absurd q (by omega)) (fun _ => ?_)
    intro y32 h32 y33 h33
    rw [show (6 : Int32) = nI 6 from rfl, pk_mul] at h32
    rw [h32, nI_add] at h33
    subst h33
    refine ⟨vp_in_nI (by omega) (by omega), fun y35 h35 => ⟨vp_in_nI (by omega) (by omega), fun g37 h37 => ?_⟩⟩
    rw [nI_clamp (by omega)] at h35 h37
    rw [nI_1]
    refine ih (i + 1) (by omega) g37 (fun j hj => ?_) (fun i2 x hi2 hx => ?_)
    · rw [h37, upd_ne (by omega)]
      exact h1 j hj
    · rw [h37]
      by_cases z : i2 = i
      · subst z
        rw [upd_same, h35]
        exact hS i2 x hx
      · rw [upd_ne (by omega)]
        exact h2 i2 x (by omega) hx
theorem fact_lp (hl : live < 2) (hcl : cl < 257) (hp : p < 64) (hn : mc.Nodup) (hmc : mc.length ≤ 1100) (hl6 : l.2.2.2.2.length ≤ 6) (hPA : PA (65 * live + p) = nI l.2.2.2.2.length) (hF : MFa mc fs FP FT Tb) (hFa : ∀ x ∈ fs, PA (65 * live + x.1) = nI x.2.length) (hTR : ∀ (i : Nat) (t : Tm), l.2.2.2.2[i]? = some t → TC mc t.1 (LT (6 * ((257 * live + cl) * 13 + 0) + i))) (hv12 : ∀ t ∈ l.2.2.2.2, ∀ j, t.1 = Sum.inl j → j < 12) (hval : ∀ t ∈ l.2.2.2.2, ∀ j, t.1 = Sum.inl j → VA j = nI (ix mc (v j)) ∧ v j ∈ mc)
    (h1 : ∀ pl Sg, (p, targs v l) ∈ fs → post 1 (nI fs.length, ls, pl, FP, FT, FS, Tb, Sg))
    (h2 : ∀ pl Sg FP2 FT2 Tb2, ¬ (p, targs v l) ∈ fs → fs.length < 20000 → MFa mc (fs ++ [(p, targs v l)]) FP2 FT2 Tb2 → post 1 (nI (fs.length + 1), (if stg ≤ ls then ls else stg), pl, FP2, FT2, upd FS fs.length stg, Tb2, Sg))
    (h0 : ∀ pl Sg, ¬ (p, targs v l) ∈ fs → fs.length = 20000 → post 0 (nI fs.length, ls, pl, FP, FT, FS, Tb, Sg)) :
    ∀ m i : Nat, i + m = l.2.2.2.2.length → ∀ Sg : Nat → Int32, (∀ (i2 : Nat) (x : Int32), i2 < i → (eargs mc v l)[i2]? = some x → Sg i2 = x) → lw_met_Mo_fact_13 post LT VA (nI live) (nI cl) (nI p) (nI live) PA (nI fs.length) ls FP FT FS Tb stg (m + 1) (nI i, Sg) := by
  have elen : (eargs mc v l).length = l.2.2.2.2.length := by simp [eargs, targs]
  have hf20 : fs.length ≤ 20000 := by
    have := hF.1.1
    rw [List.length_map] at this
    exact this
  intro m
  induction m with
  | zero =>
    intro i hi Sg hS
    refine sp_Mo_arity hl hp hPA ?_
    refine pk_le l.2.2.2.2.length i (fun _ => ?_) (fun q => absurd q (by omega))
    unfold jw_met_Mo_fact_53
    refine sp_Mo_arity hl hp hPA ?_
    have hS2 : ∀ (i2 : Nat) (x : Int32), (eargs mc v l)[i2]? = some x → Sg i2 = x := by
      intro i2 x hx
      have := (List.getElem?_eq_some_iff.mp hx).1
      exact hS i2 x (by omega) hx
    have hsl : sl Sg 0 l.2.2.2.2.length = eargs mc v l := by
      apply List.ext_getElem?
      intro i2
      rcases Nat.lt_or_ge i2 l.2.2.2.2.length with q | q
      · have q1 : i2 < (sl Sg 0 l.2.2.2.2.length).length := by rw [sl_len]; exact q
        have q2 : i2 < (eargs mc v l).length := by omega
        have e1 := sl_idx _ 0 i2 _ (List.getElem?_eq_getElem q1)
        have e2 := hS2 i2 _ (List.getElem?_eq_getElem q2)
        rw [List.getElem?_eq_getElem q1, List.getElem?_eq_getElem q2, ← e1, ← e2, Nat.zero_add]
      · rw [List.getElem?_eq_none (by rw [sl_len]; exact q), List.getElem?_eq_none (by omega)]
    have hfm : ∀ x ∈ fs.map (enc mc), x.1 = nI p → x.2.length = l.2.2.2.2.length := by
      intro x hx e
      obtain ⟨y, hy, rfl⟩ := List.mem_map.mp hx
      have y64 := (hF.2.2 y hy).1
      have e2 : y.1 = p := (nI_eq (by omega) (by omega)).mp e
      have e3 := hFa y hy
      rw [e2, hPA] at e3
      have y6 := (hF.2.2 y hy).2
      show (y.2.map _).length = _
      rw [List.length_map]
      exact ((nI_eq (by omega) (by omega)).mp e3).symm
    have hargs : ∀ c ∈ targs v l, c ∈ mc := by
      intro c hc
      obtain ⟨t, ht, e⟩ := List.mem_map.mp hc
      cases ht1 : t.1 with
      | inl j =>
        rw [ht1] at e
        rw [← e]
        exact (hval t ht j ht1).2
      | inr c2 =>
        obtain ⟨i2, hi2, e2⟩ := List.mem_iff_getElem.mp ht
        have hT := hTR i2 t (by rw [List.getElem?_eq_getElem hi2, e2])
        rw [ht1] at hT
        obtain ⟨id, w1, -⟩ := hT
        rw [ht1] at e
        rw [← e]
        exact List.mem_of_getElem? w1
    have htl : (targs v l).length = l.2.2.2.2.length := by simp [targs]
    have hmem : (nI p, eargs mc v l) ∈ fs.map (enc mc) ↔ (p, targs v l) ∈ fs := enc_mem (x := (p, targs v l)) (fun y hy => ⟨hF.2.1 y hy, (hF.2.2 y hy).1⟩) hargs hp hmc
    refine sp_Mo_find hF.1 hl6 hfm (fun r pl2 hq => ?_)
    rw [hsl] at hq
    rcases hq with ⟨f, q1, q2⟩ | ⟨q1, q2, d, d1, d2, d3, d4⟩
    · have hfl := (List.getElem?_eq_some_iff.mp q1).1
      rw [List.length_map] at hfl
      refine ⟨fun z => absurd (q2.symm.trans z) (nI_ne1 (by omega)), fun _ => h1 pl2 Sg (hmem.mp (List.mem_of_getElem? q1))⟩
    · have hno : ¬ (p, targs v l) ∈ fs := fun w => q2 (hmem.mpr w)
      refine ⟨fun _ => ?_, fun z => absurd q1 z⟩
      refine pk_eq fs.length 20000 (fun q => h0 pl2 Sg hno q) (fun q => ?_)
      have hfl : fs.length < 20000 := by omega
      intro y20 h20
      rw [nI_1] at h20
      have hsl2 : (mh (nI p) (eargs mc v l) + d) % 65536 < 65536 := Nat.mod_lt _ (by omega)
      rw [d2]
      refine ⟨vp_in_nI hsl2 (by omega), fun g22 h22 => ⟨vp_in_nI (by omega) (by omega), fun g24 h24 => ⟨vp_in_nI (by omega) (by omega), fun g26 h26 => ?_⟩⟩⟩
      rw [nI_clamp (by omega), h20] at h22
      rw [nI_clamp (by omega)] at h24 h26
      subst h26
      refine ⟨_, fact_in (fs := fs) (es := eargs mc v l) (FT := FT) hl hp hPA hl6 hfl elen hS2 (fun FT2 e1 e2 => ?_) l.2.2.2.2.length 0 (Nat.zero_add _) FT (fun _ _ => rfl) (fun i2 x hi2 => absurd hi2 (by omega))⟩
      intro y38 h38 y39 h39
      rw [nI_1] at h38
      rw [h38, h39]
      exact h2 _ _ _ _ _ hno hfl (MFa_add (x := (p, targs v l)) (d := d) hF hfl hp (by show (targs v l).length ≤ 6; omega) hargs d1 d3 d4 h24 h22 e1 (by show sl FT2 (6 * fs.length) (targs v l).length = _; rw [htl]; exact e2))
  | succ m ih =>
    intro i hi Sg hS
    refine sp_Mo_arity hl hp hPA ?_
    refine pk_le l.2.2.2.2.length i (fun q => absurd q (by omega)) (fun _ => ?_)
    refine sp_Mo_literal (k := 0) ?_
    intro y10 h10 y11 h11
    rw [show (6 : Int32) = nI 6 from rfl, pk_mul] at h10
    rw [h10, nI_add] at h11
    subst h11
    refine ⟨vp_in_nI (by omega) (by omega), fun y13 h13 => ?_⟩
    rw [nI_clamp (by omega)] at h13
    have hil : i < l.2.2.2.2.length := by omega
    have hte := List.getElem?_eq_getElem hil
    have hT := hTR i _ hte
    rw [← h13] at hT
    refine sp_Mo_value (v := v) hn hmc hT (fun j hj => ⟨hv12 _ (List.getElem_mem hil) j hj, (hval _ (List.getElem_mem hil) j hj).1⟩) ?_
    refine ⟨vp_in_nI (by omega) (by omega), fun g16 h16 => ?_⟩
    rw [nI_clamp (by omega)] at h16
    rw [nI_1]
    refine ih (i + 1) (by omega) g16 (fun i2 x hi2 hx => ?_)
    rw [h16]
    by_cases z : i2 = i
    · subst z
      rw [upd_same]
      have : (eargs mc v l)[i2]? = some (nI (ix mc (tval v (l.2.2.2.2[i2]).1))) := by
        unfold eargs targs
        rw [List.getElem?_map, List.getElem?_map, hte]
        rfl
      rw [this] at hx
      exact Option.some.inj hx
    · rw [upd_ne z]
      exact hS i2 x (by omega) hx
theorem sp_Mo_fact {Sg : Nat → Int32} (hl : live < 2) (hcl : cl < 257) (hp : p < 64) (hLP : LP ((257 * live + cl) * 13 + 0) = nI p) (hn : mc.Nodup) (hmc : mc.length ≤ 1100) (hl6 : l.2.2.2.2.length ≤ 6) (hPA : PA (65 * live + p) = nI l.2.2.2.2.length) (hF : MFa mc fs FP FT Tb) (hFa : ∀ x ∈ fs, PA (65 * live + x.1) = nI x.2.length) (hTR : ∀ (i : Nat) (t : Tm), l.2.2.2.2[i]? = some t → TC mc t.1 (LT (6 * ((257 * live + cl) * 13 + 0) + i))) (hv12 : ∀ t ∈ l.2.2.2.2, ∀ j, t.1 = Sum.inl j → j < 12) (hval : ∀ t ∈ l.2.2.2.2, ∀ j, t.1 = Sum.inl j → VA j = nI (ix mc (v j)) ∧ v j ∈ mc)
    (h1 : ∀ pl Sg, (p, targs v l) ∈ fs → post 1 (nI fs.length, ls, pl, FP, FT, FS, Tb, Sg))
    (h2 : ∀ pl Sg FP2 FT2 Tb2, ¬ (p, targs v l) ∈ fs → fs.length < 20000 → MFa mc (fs ++ [(p, targs v l)]) FP2 FT2 Tb2 → post 1 (nI (fs.length + 1), (if stg ≤ ls then ls else stg), pl, FP2, FT2, upd FS fs.length stg, Tb2, Sg))
    (h0 : ∀ pl Sg, ¬ (p, targs v l) ∈ fs → fs.length = 20000 → post 0 (nI fs.length, ls, pl, FP, FT, FS, Tb, Sg)) :
    wp_met_Mo_fact post stg (nI live) (nI live) (nI cl) (nI fs.length) ls PA LP LT FP FT FS Tb Sg VA := by
  refine sp_Mo_literal (k := 0) ?_
  refine ⟨vp_in_nI (by omega) (by omega), fun y3 h3 => ?_⟩
  rw [nI_clamp (by omega), hLP] at h3
  subst h3
  exact ⟨_, fact_lp (mc := mc) (fs := fs) (v := v) (l := l) hl hcl hp hn hmc hl6 hPA hF hFa hTR hv12 hval h1 h2 h0 l.2.2.2.2.length 0 (Nat.zero_add _) Sg (fun i2 x hi2 => absurd hi2 (by omega))⟩
end MFact
