/-! pure: the model tests what else a body says -/
def PX (ps : List Wd) (w : Wd) (x : Int32) : Prop := (∃ i : Nat, ps[i]? = some w ∧ x = nI i) ∨ ((∀ i : Nat, ¬ ps[i]? = some w) ∧ x = -1)
/-- a clause as the model keeps it -/
def CLp (md : Nat) (ps : List Wd) (mc : List Con) (live cl : Nat) (LC LK LP LT : Nat → Int32) (ls : List Lt) : Prop := LC (257 * live + cl) = nI (ls.length + sf md) ∧ ls.length + sf md ≤ 13 ∧ ∀ (j : Nat) (l : Lt), ls[j]? = some l → kdOk l.1 ∧ LK ((257 * live + cl) * 13 + (j + sf md)) = lkd l.1 ∧ ((l.1 = 0 ∨ l.1 = 1) → PX ps l.2.1 (LP ((257 * live + cl) * 13 + (j + sf md)))) ∧ (∀ (i : Nat) (t : Tm), l.2.2.2.2[i]? = some t → TC mc t.1 (LT (6 * ((257 * live + cl) * 13 + (j + sf md)) + i))) ∧ (∀ t ∈ l.2.2.2.2, ∀ v, t.1 = Sum.inl v → v < 12) ∧ l.2.2.2.2.length ≤ 6 ∧ (∀ t ∈ l.2.2.2.2, ∀ c, t.1 = Sum.inr c → wOk c) ∧ (¬ (l.1 = 0 ∨ l.1 = 1) → l.2.2.2.2.length = 2)
theorem nI_ne1 {x : Nat} (hx : x < 2147483648) : ¬ nI x = (-1 : Int32) := by
  intro e
  have := congrArg Int32.toInt e
  have m1 : (-1 : Int32).toInt = -1 := by decide
  rw [nI_toInt (by omega), m1] at this
  omega
theorem sp_Mo_arity {post : Int32 → Unit → Prop} {live i n : Nat} {PA : Nat → Int32} (hl : live < 2) (hi : i < 64) (hP : PA (65 * live + i) = nI n) (h : post (nI n) ()) : wp_met_Mo_arity post (nI i) (nI live) PA := by
  have e65 : (65 : Int32) * nI live + nI i = nI (65 * live + i) := by rw [show (65 : Int32) = nI 65 from rfl, pk_mul, nI_add]
  unfold wp_met_Mo_arity
  rw [e65, nI_clamp (by omega)]
  refine ⟨⟨fun _ => trivial, fun _ => ⟨vp_in_nI (by omega) (by omega), trivial⟩⟩, fun y1 hy => ?_⟩
  rw [if_neg (nI_ne1 (by omega)), hP] at hy
  rw [hy]
  exact h
theorem sp_Mo_arity1 {post : Int32 → Unit → Prop} {live : Int32} {PA : Nat → Int32} (h : post (-1) ()) : wp_met_Mo_arity post (-1) live PA := by
  refine ⟨⟨fun _ => trivial, fun z => absurd rfl z⟩, fun y1 hy => ?_⟩
  rw [if_pos rfl] at hy
  rw [hy]
  exact h
theorem enc_mem {mc : List Con} {fs : List Fct} {x : Fct} (h1 : ∀ y ∈ fs, (∀ c ∈ y.2, c ∈ mc) ∧ y.1 < 64) (h2 : ∀ c ∈ x.2, c ∈ mc) (h3 : x.1 < 64) (hm : mc.length ≤ 1100) : enc mc x ∈ fs.map (enc mc) ↔ x ∈ fs := by
  constructor
  · intro h
    obtain ⟨y, hy, e⟩ := List.mem_map.mp h
    obtain ⟨y1, y2⟩ := h1 y hy
    have e1 : y.1 = x.1 := by
      have := congrArg Prod.fst e
      exact (nI_eq (by omega) (by omega)).mp this
    have e2 : y.2.map (fun c => nI (ix mc c)) = x.2.map (fun c => nI (ix mc c)) := congrArg Prod.snd e
    have e3 : y.2 = x.2 := by
      revert e2 y1 h2
      generalize y.2 = a
      generalize x.2 = b
      induction a generalizing b with
      | nil =>
        intro _ _ q
        cases b with
        | nil => rfl
        | cons z zs => cases q
      | cons w ws ih =>
        intro hb ha q
        cases b with
        | nil => cases q
        | cons z zs =>
          rw [List.map_cons, List.map_cons] at q
          injection q with q1 q2
          have hw := ha w (List.mem_cons_self ..)
          have hz := hb z (List.mem_cons_self ..)
          have l1 := ix_lt hw
          have l2 := ix_lt hz
          rw [ix_inj hw hz ((nI_eq (by omega) (by omega)).mp q1), ih zs (fun c hc => hb c (List.mem_cons_of_mem _ hc)) (fun c hc => ha c (List.mem_cons_of_mem _ hc)) q2]
    have : y = x := Prod.ext e1 e3
    rw [← this]
    exact hy
  · exact fun h => List.mem_map_of_mem h
section Holds
variable {post : Int32 → (Int32 × (Nat → Int32)) → Prop} {J : (Int32 × Int32 × (Nat → Int32)) → Prop} {LP LT VA PA FP FT Tb Sg : Nat → Int32} {lv st cl pl k : Int32}
theorem hold_185 {y v : Int32} (hy : ¬ y = 1) (h1 : ¬ v = 0 → J (k + 1, pl, Sg)) (h0 : v = 0 → post 0 (pl, Sg)) : jw_met_Mo_holds_185 post J y LP Sg k st cl pl LT VA lv PA FP FT Tb v := by
  unfold jw_met_Mo_holds_185
  exact ⟨fun z => absurd z hy, fun _ => ⟨h0, h1⟩⟩
theorem hold_cmp {kd r : Int32} {z : Int} (hk : (11 : Int32) ≤ kd ∧ kd ≤ 16) (hr : r.toInt.sign = z) (h1 : cmpH kd z → J (k + 1, pl, Sg)) (h0 : ¬ cmpH kd z → post 0 (pl, Sg)) : jw_met_Mo_holds_108 post J (lkd kd) LP Sg k st cl pl LT VA lv PA FP FT Tb r := by
  have c0 : (0 : Int32).toInt = 0 := by decide
  have z10 : ¬ (1 : Int32) = 0 := by decide
  have t0 : r = 0 ↔ z = 0 := by
    rw [← hr, Int.sign_eq_zero_iff_zero]
    exact ⟨fun e => by rw [e, c0], fun e => Int32.toInt_inj.mp (by rw [e, c0])⟩
  have tn : r < 0 ↔ z < 0 := by
    rw [Int32.lt_iff_toInt_lt, c0, ← hr]
    rcases Int.lt_trichotomy r.toInt 0 with q | q | q
    · rw [Int.sign_eq_neg_one_of_neg q]
      omega
    · rw [q]
      decide
    · rw [Int.sign_eq_one_of_pos q]
      omega
  have tp : 0 < r ↔ 0 < z := by
    rw [Int32.lt_iff_toInt_lt, c0, ← hr]
    rcases Int.lt_trichotomy r.toInt 0 with q | q | q
    · rw [Int.sign_eq_neg_one_of_neg q]
      omega
    · rw [q]
      decide
    · rw [Int.sign_eq_one_of_pos q]
      omega
  have tl : r ≤ 0 ↔ z ≤ 0 := by
    rw [Int32.le_iff_toInt_le, c0, ← hr]
    rcases Int.lt_trichotomy r.toInt 0 with q | q | q
    · rw [Int.sign_eq_neg_one_of_neg q]
      omega
    · rw [q]
      decide
    · rw [Int.sign_eq_one_of_pos q]
      omega
  unfold jw_met_Mo_holds_108
  rcases kd_enum hk with c | c | c | c | c | c
  · subst c
    rw [show lkd 11 = 10 from by decide]
    have hc : cmpH 11 z ↔ z = 0 := by simp [cmpH]
    refine ⟨fun q => absurd q (by decide), fun _ => ⟨fun _ => ⟨fun q => ?_, fun q => ?_⟩, fun q => absurd rfl q⟩⟩
    · exact hold_185 (by decide) (fun _ => h1 (hc.mpr (t0.mp q))) (fun w => absurd w z10)
    · unfold jw_met_Mo_holds_125
      refine ⟨fun q => absurd q (by decide), fun _ => ?_⟩
      unfold jw_met_Mo_holds_136
      refine ⟨fun q => absurd q (by decide), fun _ => ?_⟩
      unfold jw_met_Mo_holds_147
      intro y36 h36
      rw [if_neg (by decide), if_neg (by decide), if_neg (by decide)] at h36
      exact hold_185 (by decide) (fun w => absurd h36 w) (fun _ => h0 (fun w => q (t0.mpr (hc.mp w))))
  · subst c
    rw [show lkd 12 = 11 from by decide]
    have hc : cmpH 12 z ↔ ¬ z = 0 := by simp [cmpH]
    refine ⟨fun q => absurd q (by decide), fun _ => ⟨fun q => absurd q (by decide), fun _ => ?_⟩⟩
    unfold jw_met_Mo_holds_125
    refine ⟨fun _ => ⟨fun q => ?_, fun q => ?_⟩, fun q => absurd rfl q⟩
    · unfold jw_met_Mo_holds_136
      refine ⟨fun q => absurd q (by decide), fun _ => ?_⟩
      unfold jw_met_Mo_holds_147
      intro y36 h36
      rw [if_neg (by decide), if_neg (by decide), if_neg (by decide)] at h36
      exact hold_185 (by decide) (fun w => absurd h36 w) (fun _ => h0 (fun w => (hc.mp w) (t0.mp q)))
    · exact hold_185 (by decide) (fun _ => h1 (hc.mpr (fun w => q (t0.mpr w)))) (fun w => absurd w z10)
  · subst c
    rw [show lkd 13 = 12 from by decide]
    have hc : cmpH 13 z ↔ z < 0 := by simp [cmpH]
    refine ⟨fun q => absurd q (by decide), fun _ => ⟨fun q => absurd q (by decide), fun _ => ?_⟩⟩
    unfold jw_met_Mo_holds_125
    refine ⟨fun q => absurd q (by decide), fun _ => ?_⟩
    unfold jw_met_Mo_holds_136
    refine ⟨fun _ => ?_, fun q => absurd rfl q⟩
    intro y35 h35
    rw [if_neg (show ¬ (12 : Int32) = 13 by decide), if_neg (show ¬ (12 : Int32) = 14 by decide), if_neg (show ¬ (12 : Int32) = 15 by decide)] at h35
    by_cases q : r < 0
    · rw [if_pos q] at h35
      exact hold_185 (by decide) (fun _ => h1 (hc.mpr (tn.mp q))) (fun w => by rw [h35] at w; exact absurd w z10)
    · rw [if_neg q] at h35
      exact hold_185 (by decide) (fun w => absurd h35 w) (fun _ => h0 (fun w => q (tn.mpr (hc.mp w))))
  · subst c
    rw [show lkd 14 = 13 from by decide]
    have hc : cmpH 14 z ↔ z ≤ 0 := by simp [cmpH]
    refine ⟨fun q => absurd q (by decide), fun _ => ⟨fun q => absurd q (by decide), fun _ => ?_⟩⟩
    unfold jw_met_Mo_holds_125
    refine ⟨fun q => absurd q (by decide), fun _ => ?_⟩
    unfold jw_met_Mo_holds_136
    refine ⟨fun q => absurd q (by decide), fun _ => ?_⟩
    unfold jw_met_Mo_holds_147
    intro y36 h36
    rw [if_pos rfl, if_neg (show ¬ (13 : Int32) = 14 by decide), if_neg (show ¬ (13 : Int32) = 15 by decide)] at h36
    by_cases q : r ≤ 0
    · rw [if_pos q] at h36
      exact hold_185 (by decide) (fun _ => h1 (hc.mpr (tl.mp q))) (fun w => by rw [h36] at w; exact absurd w z10)
    · rw [if_neg q] at h36
      exact hold_185 (by decide) (fun w => absurd h36 w) (fun _ => h0 (fun w => q (tl.mpr (hc.mp w))))
  · subst c
    rw [show lkd 15 = 14 from by decide]
    have hc : cmpH 15 z ↔ 0 < z := by simp [cmpH]
    refine ⟨fun q => absurd q (by decide), fun _ => ⟨fun q => absurd q (by decide), fun _ => ?_⟩⟩
    unfold jw_met_Mo_holds_125
    refine ⟨fun q => absurd q (by decide), fun _ => ?_⟩
    unfold jw_met_Mo_holds_136
    refine ⟨fun q => absurd q (by decide), fun _ => ?_⟩
    unfold jw_met_Mo_holds_147
    intro y36 h36
    rw [if_neg (show ¬ (14 : Int32) = 13 by decide), if_pos rfl, if_neg (show ¬ (14 : Int32) = 15 by decide)] at h36
    by_cases q : 0 < r
    · rw [if_pos q] at h36
      exact hold_185 (by decide) (fun _ => h1 (hc.mpr (tp.mp q))) (fun w => by rw [h36] at w; exact absurd w z10)
    · rw [if_neg q] at h36
      exact hold_185 (by decide) (fun w => absurd h36 w) (fun _ => h0 (fun w => q (tp.mpr (hc.mp w))))
  · subst c
    rw [show lkd 16 = 15 from by decide]
    have hc : cmpH 16 z ↔ 0 ≤ z := by simp [cmpH]
    refine ⟨fun q => absurd q (by decide), fun _ => ⟨fun q => absurd q (by decide), fun _ => ?_⟩⟩
    unfold jw_met_Mo_holds_125
    refine ⟨fun q => absurd q (by decide), fun _ => ?_⟩
    unfold jw_met_Mo_holds_136
    refine ⟨fun q => absurd q (by decide), fun _ => ?_⟩
    unfold jw_met_Mo_holds_147
    intro y36 h36
    rw [if_neg (show ¬ (15 : Int32) = 13 by decide), if_neg (show ¬ (15 : Int32) = 14 by decide), if_pos rfl] at h36
    by_cases q : r < 0
    · rw [if_pos q] at h36
      exact hold_185 (by decide) (fun w => absurd h36 w) (fun _ => h0 (fun w => by have := tn.mp q; have := hc.mp w; omega))
    · rw [if_neg q] at h36
      exact hold_185 (by decide) (fun _ => h1 (hc.mpr (by have : ¬ z < 0 := fun w => q (tn.mpr w); omega))) (fun w => by rw [h36] at w; exact absurd w z10)
end Holds
section Holds2
variable {mc : List Con} {fs : List Fct} {ps : List Wd} {ls : List Lt} {F CN CV CF FP FT Tb PA LC LK LP LT VA : Nat → Int32} {live cl md : Nat} {v : Nat → Con}
/-- arguments as numbers -/
def eargs (mc : List Con) (v : Nat → Con) (l : Lt) : List Int32 := (targs v l).map (fun c => nI (ix mc c))
theorem hold_not {post : Int32 → (Int32 × (Nat → Int32)) → Prop} {J : (Int32 × Int32 × (Nat → Int32)) → Prop} {k p : Nat} {l : Lt} {pl : Int32} (hl : live < 2) (hcl : cl < 257) (hk : k < 13) (hp64 : p < 64) (hn : mc.Nodup) (hmc : mc.length ≤ 1100) (hPA : PA (65 * live + p) = nI l.2.2.2.2.length) (hl6 : l.2.2.2.2.length ≤ 6) (hF : MFa mc fs FP FT Tb) (hFa : ∀ x ∈ fs, PA (65 * live + x.1) = nI x.2.length) (hTR : ∀ (i : Nat) (t : Tm), l.2.2.2.2[i]? = some t → TC mc t.1 (LT (6 * ((257 * live + cl) * 13 + k) + i))) (hv12 : ∀ t ∈ l.2.2.2.2, ∀ j, t.1 = Sum.inl j → j < 12) (hval : ∀ t ∈ l.2.2.2.2, ∀ j, t.1 = Sum.inl j → VA j = nI (ix mc (v j)) ∧ v j ∈ mc)
    (h1 : ∀ pl Sg, ¬ (p, targs v l) ∈ fs → J (nI (k + 1), pl, Sg)) (h0 : ∀ pl Sg, (p, targs v l) ∈ fs → post 0 (pl, Sg)) : ∀ m i : Nat, i + m = l.2.2.2.2.length → ∀ Sg : Nat → Int32, (∀ (i2 : Nat) (x : Int32), i2 < i → (eargs mc v l)[i2]? = some x → Sg i2 = x) → lw_met_Mo_holds_207 post J LT VA (nI k) (nI live) (nI cl) (nI p) (nI live) PA FP FT Tb pl (m + 1) (nI i, Sg) := by
  have elen : (eargs mc v l).length = l.2.2.2.2.length := by simp [eargs, targs]
  intro m
  induction m with
  | zero =>
    intro i hi Sg hS
    refine sp_Mo_arity hl hp64 hPA ?_
    refine pk_le l.2.2.2.2.length i (fun _ => ?_) (fun q => absurd q (by omega))
    refine ⟨fun z => absurd z (nI_ne1 (by omega)), fun _ => ?_⟩
    refine sp_Mo_arity hl hp64 hPA ?_
    have hsl : sl Sg 0 l.2.2.2.2.length = eargs mc v l := by
      apply List.ext_getElem?
      intro i2
      rcases Nat.lt_or_ge i2 l.2.2.2.2.length with q | q
      · have q1 : i2 < (sl Sg 0 l.2.2.2.2.length).length := by rw [sl_len]; exact q
        have q2 : i2 < (eargs mc v l).length := by omega
        have e1 := sl_idx _ 0 i2 _ (List.getElem?_eq_getElem q1)
        have e2 := hS i2 _ (by omega) (List.getElem?_eq_getElem q2)
        rw [List.getElem?_eq_getElem q1, List.getElem?_eq_getElem q2, ← e1, ← e2, Nat.zero_add]
      · rw [List.getElem?_eq_none (by rw [sl_len]; exact q), List.getElem?_eq_none (by omega)]
    have hfm : ∀ x ∈ fs.map (enc mc), x.1 = nI p → x.2.length = l.2.2.2.2.length := by
      intro x hx e
      obtain ⟨y, hy, rfl⟩ := List.mem_map.mp hx
      have y64 := (hF.2.2 y hy).1
      have e2 : y.1 = p := (nI_eq (by omega) (by omega)).mp e
      have e3 := hFa y hy
      rw [e2, hPA] at e3
      have y6 := (hF.2.2 y hy).2
      show (y.2.map _).length = _
      rw [List.length_map]
      exact ((nI_eq (by omega) (by omega)).mp e3).symm
    have hargs : ∀ c ∈ targs v l, c ∈ mc := by
      intro c hc
      obtain ⟨t, ht, e⟩ := List.mem_map.mp hc
      cases ht1 : t.1 with
      | inl j =>
        rw [ht1] at e
        rw [← e]
        exact (hval t ht j ht1).2
      | inr c2 =>
        obtain ⟨i2, hi2, e2⟩ := List.mem_iff_getElem.mp ht
        have hT := hTR i2 t (by rw [List.getElem?_eq_getElem hi2, e2])
        rw [ht1] at hT
        obtain ⟨id, w1, -⟩ := hT
        rw [ht1] at e
        rw [← e]
        exact List.mem_of_getElem? w1
    have hmem : (nI p, eargs mc v l) ∈ fs.map (enc mc) ↔ (p, targs v l) ∈ fs := enc_mem (x := (p, targs v l)) (fun y hy => ⟨hF.2.1 y hy, (hF.2.2 y hy).1⟩) hargs hp64 hmc
    refine sp_Mo_find hF.1 hl6 hfm (fun r pl2 hq => ?_)
    rw [hsl] at hq
    intro y59 h59
    rcases hq with ⟨f, q1, q2⟩ | ⟨q1, q2, -⟩
    · have hfl := (List.getElem?_eq_some_iff.mp q1).1
      have h20 := hF.1.1
      rw [if_neg (by rw [q2]; exact nI_ne1 (by omega))] at h59
      exact ⟨fun _ => h0 pl2 Sg (hmem.mp (List.mem_of_getElem? q1)), fun z => absurd h59 z⟩
    · rw [if_pos q1] at h59
      refine ⟨fun z => absurd (h59.symm.trans z) (by decide), fun _ => ?_⟩
      rw [nI_1]
      exact h1 pl2 Sg (fun w => q2 (hmem.mpr w))
  | succ m ih =>
    intro i hi Sg hS
    refine sp_Mo_arity hl hp64 hPA ?_
    refine pk_le l.2.2.2.2.length i (fun q => absurd q (by omega)) (fun _ => ?_)
    refine sp_Mo_literal ?_
    intro y47 h47 y48 h48
    rw [show (6 : Int32) = nI 6 from rfl, pk_mul] at h47
    rw [h47, nI_add] at h48
    subst h48
    refine ⟨vp_in_nI (by omega) (by omega), fun y50 h50 => ?_⟩
    rw [nI_clamp (by omega)] at h50
    have hil : i < l.2.2.2.2.length := by omega
    have hte := List.getElem?_eq_getElem hil
    have hT := hTR i _ hte
    rw [← h50] at hT
    refine sp_Mo_value (v := v) hn hmc hT (fun j hj => ⟨hv12 _ (List.getElem_mem hil) j hj, (hval _ (List.getElem_mem hil) j hj).1⟩) ?_
    refine ⟨vp_in_nI (by omega) (by omega), fun g53 h53 => ?_⟩
    rw [nI_clamp (by omega)] at h53
    rw [nI_1]
    refine ih (i + 1) (by omega) g53 (fun i2 x hi2 hx => ?_)
    rw [h53]
    by_cases z : i2 = i
    · subst z
      rw [upd_same]
      have : (eargs mc v l)[i2]? = some (nI (ix mc (tval v (l.2.2.2.2[i2]).1))) := by
        unfold eargs targs
        rw [List.getElem?_map, List.getElem?_map, hte]
        rfl
      rw [this] at hx
      exact Option.some.inj hx
    · rw [upd_ne z]
      exact hS i2 x (by omega) hx
theorem holds_lp {post : Int32 → (Int32 × (Nat → Int32)) → Prop} (hl : live < 2) (hcl : cl < 257) (hn : mc.Nodup) (hmc : mc.length ≤ 1100) (hps : ps.Nodup) (hpl : ps.length ≤ 64) (hC : CLp md ps mc live cl LC LK LP LT ls) {qq : Bool} (hM : MCo qq mc (1100 * live) CN CV CF F) (hAr : ∀ l ∈ ls, (l.1 = 0 ∨ l.1 = 1) → ∀ i : Nat, ps[i]? = some l.2.1 → PA (65 * live + i) = nI l.2.2.2.2.length) (hF : MFa mc fs FP FT Tb) (hFa : ∀ x ∈ fs, PA (65 * live + x.1) = nI x.2.length) (hval : ∀ (j : Nat) (l : Lt), ls[j]? = some l → 1 ≤ j + sf md → ∀ t ∈ l.2.2.2.2, ∀ x, t.1 = Sum.inl x → VA x = nI (ix mc (v x)) ∧ v x ∈ mc ∧ wOk (v x))
    (h1 : ∀ pl Sg, (∀ (j : Nat) (l : Lt), ls[j]? = some l → 1 ≤ j + sf md → ¬ l.1 = 0 → lHo ps (fun x => x ∈ fs) v l) → post 1 (pl, Sg)) (h0 : ∀ pl Sg, ¬ (∀ (j : Nat) (l : Lt), ls[j]? = some l → 1 ≤ j + sf md → ¬ l.1 = 0 → lHo ps (fun x => x ∈ fs) v l) → post 0 (pl, Sg)) :
    ∀ m k : Nat, k + m = max 1 (ls.length + sf md) → 1 ≤ k → (∀ (j : Nat) (l : Lt), ls[j]? = some l → 1 ≤ j + sf md → j + sf md < k → ¬ l.1 = 0 → lHo ps (fun x => x ∈ fs) v l) → ∀ pl Sg, lw_met_Mo_holds_2 post (nI live) (nI cl) LC LK LT VA (nI live) F CN CV CF LP PA FP FT Tb (m + 1) (nI k, pl, Sg) := by
  obtain ⟨c1, c2, c3⟩ := hC
  have hsf : sf md ≤ 1 := by unfold sf; split <;> omega
  intro m
  induction m with
  | zero =>
    intro k hk hk1 hdone pl Sg y5 h5 y6 h6
    rw [show (257 : Int32) = nI 257 from rfl, pk_mul] at h5
    rw [h5, nI_add] at h6
    subst h6
    refine ⟨vp_in_nI (by omega) (by omega), fun y8 h8 => ?_⟩
    rw [nI_clamp (by omega), c1] at h8
    subst h8
    refine pk_le (ls.length + sf md) k (fun _ => ?_) (fun q => absurd q (by omega))
    refine h1 pl Sg (fun j l hj b1 b2 => hdone j l hj b1 ?_ b2)
    have := (List.getElem?_eq_some_iff.mp hj).1
    omega
  | succ m ih =>
    intro k hk hk1 hdone pl Sg y5 h5 y6 h6
    rw [show (257 : Int32) = nI 257 from rfl, pk_mul] at h5
    rw [h5, nI_add] at h6
    subst h6
    refine ⟨vp_in_nI (by omega) (by omega), fun y8 h8 => ?_⟩
    rw [nI_clamp (by omega), c1] at h8
    subst h8
    refine pk_le (ls.length + sf md) k (fun q => absurd q (by omega)) (fun _ => ?_)
    have hjl : k - sf md < ls.length := by omega
    have hjk : k - sf md + sf md = k := by omega
    have hje := List.getElem?_eq_getElem hjl
    have hml : ls[k - sf md] ∈ ls := List.getElem_mem hjl
    have hvl := hval _ _ hje (by omega)
    obtain ⟨d1, d2, d3, d4, d5, d6, d7, d8⟩ := c3 _ _ hje
    rw [hjk] at d2 d3 d4
    have uniq : ∀ l, ls[k - sf md]? = some l → l = ls[k - sf md] := fun l h => by
      rw [hje] at h
      exact (Option.some.inj h).symm
    generalize ls[k - sf md] = l at hje hml hvl d1 d2 d3 d4 d5 d6 d7 d8 uniq
    have nxt : (¬ l.1 = 0 → lHo ps (fun x => x ∈ fs) v l) → ∀ pl Sg, lw_met_Mo_holds_2 post (nI live) (nI cl) LC LK LT VA (nI live) F CN CV CF LP PA FP FT Tb (m + 1) (nI (k + 1), pl, Sg) := by
      intro hh pl2 Sg2
      refine ih (k + 1) (by omega) (by omega) (fun j l2 hj b1 b2 b3 => ?_) pl2 Sg2
      by_cases z : j + sf md = k
      · obtain rfl : j = k - sf md := by omega
        rw [uniq l2 hj] at b3 ⊢
        exact hh b3
      · exact hdone j l2 hj b1 (by omega) b3
    have bad : ¬ l.1 = 0 → ¬ lHo ps (fun x => x ∈ fs) v l → ∀ pl Sg, post 0 (pl, Sg) := by
      intro hk0 hno pl2 Sg2
      refine h0 pl2 Sg2 (fun w => hno (w _ l hje (by omega) hk0))
    refine sp_Mo_literal ?_
    refine ⟨vp_in_nI (by omega) (by omega), fun y11 h11 => ?_⟩
    rw [nI_clamp (by omega), d2] at h11
    have le1 : lkd l.1 ≤ 1 ↔ (l.1 = 0 ∨ l.1 = 1) := by
      rcases d1 with h | h | h
      · rw [h]; decide
      · rw [h]; decide
      · rcases kd_enum h with c | c | c | c | c | c <;> rw [c] <;> decide
    subst h11
    by_cases hp : l.1 = 0 ∨ l.1 = 1
    · refine ⟨fun _ => ?_, fun z => absurd (le1.mpr hp) z⟩
      refine ⟨fun _ => ?_, fun z => absurd (le1.mpr hp) z⟩
      refine ⟨fun _ => ?_, fun z => absurd (le1.mpr hp) z⟩
      unfold jw_met_Mo_holds_108
      rcases hp with hp0 | hp1
      · rw [hp0, show lkd 0 = 0 from by decide]
        refine ⟨fun _ => ?_, fun z => absurd rfl z⟩
        refine hold_185 (by decide) (fun _ => ?_) (fun z => absurd z (by decide))
        rw [nI_1]
        exact nxt (fun w => absurd hp0 w) pl Sg
      · rw [hp1, show lkd 1 = 1 from by decide]
        refine ⟨fun z => absurd z (by decide), fun _ => ⟨fun z => absurd z (by decide), fun _ => ?_⟩⟩
        unfold jw_met_Mo_holds_125
        refine ⟨fun z => absurd z (by decide), fun _ => ?_⟩
        unfold jw_met_Mo_holds_136
        refine ⟨fun z => absurd z (by decide), fun _ => ?_⟩
        unfold jw_met_Mo_holds_147
        intro y36 h36
        unfold jw_met_Mo_holds_185
        refine ⟨fun _ => ?_, fun z => absurd rfl z⟩
        refine sp_Mo_literal ?_
        refine ⟨vp_in_nI (by omega) (by omega), fun y40 h40 => ?_⟩
        rw [nI_clamp (by omega)] at h40
        have hk0 : ¬ l.1 = 0 := by rw [hp1]; decide
        rcases d3 (Or.inr hp1) with ⟨p, p1, p2⟩ | ⟨p1, p2⟩
        · rw [p2] at h40
          subst h40
          have hp64 := (List.getElem?_eq_some_iff.mp p1).1
          have iff1 : lHo ps (fun x => x ∈ fs) v l ↔ ¬ (p, targs v l) ∈ fs := by
            constructor
            · rintro (⟨w, -⟩ | ⟨-, w⟩ | ⟨-, w, -⟩)
              · exact absurd w hk0
              · exact fun q => w ⟨p, p1, q⟩
              · exact absurd hp1 w
            · intro w
              refine Or.inr (Or.inl ⟨hp1, ?_⟩)
              rintro ⟨p3, q1, q2⟩
              rw [nodup_inj hps q1 p1] at q2
              exact w q2
          exact ⟨_, hold_not (fs := fs) (v := v) (l := l) hl hcl (by omega) (by omega) hn hmc (hAr l hml (Or.inr hp1) p p1) d6 hF hFa d4 d5 (fun t ht j hj => ⟨(hvl t ht j hj).1, (hvl t ht j hj).2.1⟩) (fun pl2 Sg2 w => nxt (fun _ => iff1.mpr w) pl2 Sg2) (fun pl2 Sg2 w => bad hk0 (fun q => (iff1.mp q) w) pl2 Sg2) l.2.2.2.2.length 0 (Nat.zero_add _) Sg (fun i2 x hi2 => absurd hi2 (by omega))⟩
        · rw [p2] at h40
          subst h40
          refine ⟨1, ?_⟩
          refine sp_Mo_arity1 ?_
          have m1 : (-1 : Int32) ≤ nI 0 := by decide
          refine ⟨fun _ => ?_, fun z => absurd m1 z⟩
          refine ⟨fun _ => ?_, fun z => absurd rfl z⟩
          refine ⟨fun z => absurd z (by decide), fun _ => ?_⟩
          rw [nI_1]
          refine nxt (fun _ => Or.inr (Or.inl ⟨hp1, ?_⟩)) pl Sg
          rintro ⟨p3, q1, -⟩
          exact p1 p3 q1
    · have hk2 : (11 : Int32) ≤ l.1 ∧ l.1 ≤ 16 := by
        rcases d1 with h | h | h
        · exact absurd (Or.inl h) hp
        · exact absurd (Or.inr h) hp
        · exact h
      have hk0 : ¬ l.1 = 0 := fun w => hp (Or.inl w)
      have h2 := d8 hp
      obtain ⟨t0, t1, hts⟩ : ∃ t0 t1, l.2.2.2.2 = [t0, t1] := by
        revert h2
        generalize l.2.2.2.2 = ts
        intro h2
        match ts, h2 with
        | [a, b], _ => exact ⟨a, b, rfl⟩
      have T0 := d4 0 t0 (by rw [hts]; rfl)
      have T1 := d4 1 t1 (by rw [hts]; rfl)
      have ht0 : t0 ∈ l.2.2.2.2 := by rw [hts]; simp
      have ht1 : t1 ∈ l.2.2.2.2 := by rw [hts]; simp
      have hmem : ∀ t ∈ l.2.2.2.2, ∀ i : Nat, TC mc t.1 (LT (6 * ((257 * live + cl) * 13 + k) + i)) → tval v t.1 ∈ mc ∧ wOk (tval v t.1) := by
        intro t ht i hT
        cases h3 : t.1 with
        | inl x => exact (hvl t ht x h3).2
        | inr c =>
          rw [h3] at hT
          obtain ⟨id, w1, -⟩ := hT
          exact ⟨List.mem_of_getElem? w1, d7 t ht c h3⟩
      have hta : targs v l = [tval v t0.1, tval v t1.1] := by
        unfold targs
        rw [hts]
        rfl
      have iff1 : lHo ps (fun x => x ∈ fs) v l ↔ cmpH l.1 (cc (tval v t0.1) (tval v t1.1)) := by
        constructor
        · rintro (⟨w, -⟩ | ⟨w, -⟩ | ⟨-, -, a, b, w1, w2⟩)
          · exact absurd w hk0
          · exact absurd (Or.inr w) hp
          · rw [hta] at w1
            injection w1 with w1 w3
            injection w3 with w3
            rw [w1, w3]
            exact w2
        · exact fun w => Or.inr (Or.inr ⟨hk0, fun z => hp (Or.inr z), _, _, hta, w⟩)
      refine ⟨fun z => absurd (le1.mp z) hp, fun _ => ?_⟩
      refine sp_Mo_literal ?_
      intro y14 h14
      rw [show (6 : Int32) = nI 6 from rfl, pk_mul] at h14
      subst h14
      refine ⟨vp_in_nI (by omega) (by omega), fun y16 h16 => ?_⟩
      rw [nI_clamp (by omega)] at h16
      refine sp_Mo_value (v := v) (t := t0.1) hn hmc (by rw [h16]; exact T0) (fun j hj => ⟨d5 t0 ht0 j hj, (hvl t0 ht0 j hj).1⟩) ?_
      refine ⟨fun z => absurd (le1.mp z) hp, fun _ => ?_⟩
      refine sp_Mo_literal ?_
      intro y21 h21 y22 h22
      rw [show (6 : Int32) = nI 6 from rfl, pk_mul] at h21
      rw [h21, nI_1] at h22
      subst h22
      refine ⟨vp_in_nI (by omega) (by omega), fun y24 h24 => ?_⟩
      rw [nI_clamp (by omega)] at h24
      refine sp_Mo_value (v := v) (t := t1.1) hn hmc (by rw [h24]; exact T1) (fun j hj => ⟨d5 t1 ht1 j hj, (hvl t1 ht1 j hj).1⟩) ?_
      refine ⟨fun z => absurd (le1.mp z) hp, fun _ => ?_⟩
      obtain ⟨a1, a2⟩ := hmem t0 ht0 0 T0
      obtain ⟨b1, b2⟩ := hmem t1 ht1 1 T1
      refine sp_Mo_order hl hM hmc (ix_get mc a1) (ix_get mc b1) a2 b2 (fun r hr => ?_)
      refine hold_cmp hk2 hr (fun w => ?_) (fun w => bad hk0 (fun q => w (iff1.mp q)) pl Sg)
      rw [nI_1]
      exact nxt (fun _ => iff1.mpr w) pl Sg
theorem sp_Mo_holds {post : Int32 → (Int32 × (Nat → Int32)) → Prop} {pl : Int32} {Sg : Nat → Int32} (hl : live < 2) (hcl : cl < 257) (hn : mc.Nodup) (hmc : mc.length ≤ 1100) (hps : ps.Nodup) (hpl : ps.length ≤ 64) (hC : CLp md ps mc live cl LC LK LP LT ls) {qq : Bool} (hM : MCo qq mc (1100 * live) CN CV CF F) (hAr : ∀ l ∈ ls, (l.1 = 0 ∨ l.1 = 1) → ∀ i : Nat, ps[i]? = some l.2.1 → PA (65 * live + i) = nI l.2.2.2.2.length) (hF : MFa mc fs FP FT Tb) (hFa : ∀ x ∈ fs, PA (65 * live + x.1) = nI x.2.length) (hval : ∀ (j : Nat) (l : Lt), ls[j]? = some l → 1 ≤ j + sf md → ∀ t ∈ l.2.2.2.2, ∀ x, t.1 = Sum.inl x → VA x = nI (ix mc (v x)) ∧ v x ∈ mc ∧ wOk (v x))
    (h1 : ∀ pl Sg, (∀ (j : Nat) (l : Lt), ls[j]? = some l → 1 ≤ j + sf md → ¬ l.1 = 0 → lHo ps (fun x => x ∈ fs) v l) → post 1 (pl, Sg)) (h0 : ∀ pl Sg, ¬ (∀ (j : Nat) (l : Lt), ls[j]? = some l → 1 ≤ j + sf md → ¬ l.1 = 0 → lHo ps (fun x => x ∈ fs) v l) → post 0 (pl, Sg)) :
    wp_met_Mo_holds post (nI live) (nI live) (nI cl) pl F PA CN CV CF LC LK LP LT FP FT Tb Sg VA :=
  ⟨_, holds_lp hl hcl hn hmc hps hpl hC hM hAr hF hFa hval h1 h0 (max 1 (ls.length + sf md) - 1) 1 (by omega) (by omega) (fun j l hj b1 b2 => absurd b2 (by omega)) pl Sg⟩
end Holds2
