/-! pure: what a clause says; the model's bindings -/
abbrev Fct : Type := Nat × List Con
def tval (v : Nat → Con) : Nat ⊕ Con → Con
  | .inl j => v j
  | .inr c => c
/-- an atom's arguments -/
def targs (v : Nat → Con) (l : Lt) : List Con := l.2.2.2.2.map (fun t => tval v t.1)
def cmpH (k : Int32) (z : Int) : Prop := (k = 11 ∧ z = 0) ∨ (k = 12 ∧ ¬ z = 0) ∨ (k = 13 ∧ z < 0) ∨ (k = 14 ∧ z ≤ 0) ∨ (k = 15 ∧ 0 < z) ∨ (k = 16 ∧ 0 ≤ z)
/-- a literal is so: X are the facts -/
def lHo (ps : List Wd) (X : Fct → Prop) (v : Nat → Con) (l : Lt) : Prop := (l.1 = 0 ∧ ∃ p : Nat, ps[p]? = some l.2.1 ∧ X (p, targs v l)) ∨ (l.1 = 1 ∧ ¬ ∃ p : Nat, ps[p]? = some l.2.1 ∧ X (p, targs v l)) ∨ (¬ l.1 = 0 ∧ ¬ l.1 = 1 ∧ ∃ a b, targs v l = [a, b] ∧ cmpH l.1 (cc a b))
def bHo (ps : List Wd) (X : Fct → Prop) (v : Nat → Con) (b : List Lt) : Prop := ∀ l ∈ b, lHo ps X v l
def ix : List Con → Con → Nat
  | [], _ => 0
  | x :: r, c => if x = c then 0 else ix r c + 1
theorem ix_get {c : Con} : ∀ mc : List Con, c ∈ mc → mc[ix mc c]? = some c := by
  intro mc
  induction mc with
  | nil => intro h; cases h
  | cons x r ih =>
    intro h
    unfold ix
    by_cases z : x = c
    · rw [if_pos z, z]
      rfl
    · rw [if_neg z]
      rcases List.mem_cons.mp h with h | h
      · exact absurd h.symm z
      · exact ih h
theorem ix_lt {mc : List Con} {c : Con} (h : c ∈ mc) : ix mc c < mc.length := (List.getElem?_eq_some_iff.mp (ix_get mc h)).1
theorem ix_of {mc : List Con} {c : Con} {i : Nat} (hn : mc.Nodup) (h : mc[i]? = some c) : i = ix mc c := nodup_inj hn h (ix_get mc (List.mem_of_getElem? h))
theorem ix_inj {mc : List Con} {c d : Con} (hc : c ∈ mc) (hd : d ∈ mc) (h : ix mc c = ix mc d) : c = d := by
  have h1 := ix_get mc hc
  rw [h, ix_get mc hd] at h1
  exact (Option.some.inj h1).symm
theorem code_nI {x : Int32} {j : Nat} (h : x.toInt = -1 - (j : Int)) (hj : j < 1000000) : (-1 : Int32) - x = nI j := by
  apply Int32.toInt_inj.mp
  have e : (-1 : Int32).toInt = -1 := by decide
  rw [Int32.toInt_sub, i_bm, e, h, nI_toInt (by omega)]
  omega
theorem code_neg {x : Int32} {j : Nat} (h : x.toInt = -1 - (j : Int)) : ¬ 0 ≤ x := by
  intro q
  have := Int32.le_iff_toInt_le.mp q
  have e : (0 : Int32).toInt = 0 := by decide
  omega
/-- a term's value, when its variable has one -/
theorem sp_Mo_value {post : Int32 → Unit → Prop} {mc : List Con} {t : Nat ⊕ Con} {x : Int32} {v : Nat → Con} {VA : Nat → Int32} (hn : mc.Nodup) (hmc : mc.length ≤ 1100) (hT : TC mc t x) (hv : ∀ j, t = .inl j → j < 12 ∧ VA j = nI (ix mc (v j))) (h : post (nI (ix mc (tval v t))) ()) : wp_met_Mo_value post x VA := by
  cases t with
  | inl j =>
    have hx : x.toInt = -1 - (j : Int) := hT
    obtain ⟨h1, h2⟩ := hv j rfl
    have hc := code_nI hx (by omega)
    have hneg := code_neg hx
    refine ⟨⟨fun z => absurd z hneg, fun _ => ⟨by rw [hc]; exact vp_in_nI (by omega) (by omega), trivial⟩⟩, fun y1 hy => ?_⟩
    rw [if_neg hneg, hc, nI_clamp (by omega), h2] at hy
    rw [hy]
    exact h
  | inr c =>
    obtain ⟨id, h1, h2⟩ := hT
    have hid := (List.getElem?_eq_some_iff.mp h1).1
    have hpos : 0 ≤ x := by
      rw [h2]
      exact nI_pos' (by omega)
    refine ⟨⟨fun _ => trivial, fun z => absurd hpos z⟩, fun y1 hy => ?_⟩
    rw [if_pos hpos, h2, ix_of hn h1] at hy
    rw [hy]
    exact h
/-- which variables have values, since which depth -/
def BvR (mc : List Con) (bb : Nat → Option Nat) (va : Nat → Con) (BB VA : Nat → Int32) : Prop := ∀ j, j < 13 → (bb j = none ∧ BB j = -1) ∨ (∃ e, bb j = some e ∧ e ≤ 13 ∧ BB j = nI e ∧ va j ∈ mc ∧ VA j = nI (ix mc (va j)))
def cutB (d : Nat) (bb : Nat → Option Nat) : Nat → Option Nat := fun j => match bb j with
  | some e => if e < d then some e else none
  | none => none
def Agr (bb : Nat → Option Nat) (va v : Nat → Con) : Prop := ∀ j e, j < 13 → bb j = some e → v j = va j
theorem free_lp {post : (Nat → Int32) → Prop} {d : Nat} {BB : Nat → Int32} (h : ∀ B2 : Nat → Int32, (∀ j, j < 13 → B2 j = if BB j < nI d then BB j else -1) → post B2) : ∀ m k : Nat, k + m = 13 → ∀ B1 : Nat → Int32, (∀ j, j < k → B1 j = if BB j < nI d then BB j else -1) → (∀ j, k ≤ j → B1 j = BB j) → lw_met_Mo_free_2 post (nI d) (m + 1) (nI k, B1) := by
  intro m
  induction m with
  | zero =>
    intro k hk B1 h1 h2
    refine pk_le 13 k (fun _ => ?_) (fun q => absurd q (by omega))
    exact h B1 (fun j hj => h1 j (by omega))
  | succ m ih =>
    intro k hk B1 h1 h2
    refine pk_le 13 k (fun q => absurd q (by omega)) (fun _ => ?_)
    have ik : vp_in (nI k) 13 := vp_in_nI (by omega) (by omega)
    refine ⟨ik, fun y5 h5 => ⟨⟨fun _ => ⟨ik, trivial⟩, fun _ => trivial⟩, fun y6 h6 => ⟨ik, fun g9 h9 => ?_⟩⟩⟩
    rw [nI_clamp (by omega), h2 k (Nat.le_refl _)] at h5 h6
    rw [nI_clamp (by omega)] at h9
    rw [h5] at h6
    rw [nI_1]
    refine ih (k + 1) (by omega) g9 (fun j hj => ?_) (fun j hj => ?_)
    · rw [h9]
      by_cases z : j = k
      · rw [z, upd_same, h6]
      · rw [upd_ne z]
        exact h1 j (by omega)
    · rw [h9, upd_ne (by omega)]
      exact h2 j (by omega)
theorem sp_Mo_free {post : (Nat → Int32) → Prop} {mc : List Con} {bb : Nat → Option Nat} {va : Nat → Con} {d : Nat} {BB VA : Nat → Int32} (hd : d ≤ 13) (hB : BvR mc bb va BB VA) (h : ∀ B2, BvR mc (cutB d bb) va B2 VA → post B2) : wp_met_Mo_free post (nI d) BB := by
  refine ⟨_, free_lp (BB := BB) (fun B2 hB2 => h B2 (fun j hj => ?_)) 13 0 (by omega) BB (fun j hj => absurd hj (by omega)) (fun _ _ => rfl)⟩
  have m1 : (-1 : Int32) < nI d := by
    apply Int32.lt_iff_toInt_lt.mpr
    have e : (-1 : Int32).toInt = -1 := by decide
    rw [e, nI_toInt (by omega)]
    omega
  unfold cutB
  rcases hB j hj with ⟨x1, x2⟩ | ⟨e, x1, x2, x3, x4, x5⟩
  · rw [hB2 j hj, x1, x2, if_pos m1]
    exact Or.inl ⟨rfl, rfl⟩
  · rw [hB2 j hj, x1, x3]
    by_cases z : e < d
    · rw [if_pos (nI_lt z (by omega))]
      exact Or.inr ⟨e, by show (if e < d then some e else none) = _; rw [if_pos z], x2, rfl, x4, x5⟩
    · rw [if_neg (fun w => z ((nI_ltI (by omega) (by omega)).mp w))]
      exact Or.inl ⟨by show (if e < d then some e else none) = _; rw [if_neg z], rfl⟩
/-- some variables more have values, at depth d -/
def Ext (d : Nat) (bb : Nat → Option Nat) (va : Nat → Con) (b2 : Nat → Option Nat) (v2 : Nat → Con) : Prop := ∀ j, j < 13 → (∀ e, bb j = some e → b2 j = some e ∧ v2 j = va j) ∧ (bb j = none → b2 j = none ∨ b2 j = some d)
theorem Ext_refl {d : Nat} {bb : Nat → Option Nat} {va : Nat → Con} : Ext d bb va bb va := fun j _ => ⟨fun e h => ⟨h, rfl⟩, fun h => Or.inl h⟩
/-- the facts that the model holds -/
def enc (mc : List Con) (x : Fct) : Int32 × List Int32 := (nI x.1, x.2.map (fun c => nI (ix mc c)))
def MFa (mc : List Con) (fs : List Fct) (FP FT Tb : Nat → Int32) : Prop := MoT (fs.map (enc mc)) FP FT Tb ∧ (∀ x ∈ fs, ∀ c ∈ x.2, c ∈ mc) ∧ (∀ x ∈ fs, x.1 < 64 ∧ x.2.length ≤ 6)
theorem sl_idx {F : Nat → Int32} : ∀ (l a i : Nat) (x : Int32), (sl F a l)[i]? = some x → F (a + i) = x := by
  intro l
  induction l with
  | zero => intro a i x h; cases i <;> cases h
  | succ l ih =>
    intro a i x h
    cases i with
    | zero => exact Option.some.inj h
    | succ i =>
      have := ih (a + 1) i x h
      rw [← this]
      congr 1
      omega
theorem MFa_at {mc : List Con} {fs : List Fct} {FP FT Tb : Nat → Int32} {f : Nat} {x : Fct} (h : MFa mc fs FP FT Tb) (hf : fs[f]? = some x) : f < 20000 ∧ FP f = nI x.1 ∧ ∀ (i : Nat) (c : Con), x.2[i]? = some c → FT (6 * f + i) = nI (ix mc c) := by
  obtain ⟨⟨t1, t2, t3, t4⟩, h2, h3⟩ := h
  have hl := (List.getElem?_eq_some_iff.mp hf).1
  have hg : (fs.map (enc mc))[f]? = some (enc mc x) := by rw [List.getElem?_map, hf]; rfl
  obtain ⟨g1, g2, g3⟩ := t2 f _ hg
  rw [List.length_map] at t1
  refine ⟨by omega, g1, fun i c hi => ?_⟩
  refine sl_idx _ _ i _ (?_ : (sl FT (6 * f) (enc mc x).2.length)[i]? = some _)
  rw [g3]
  show (x.2.map (fun c => nI (ix mc c)))[i]? = _
  rw [List.getElem?_map, hi]
  rfl
section IsFact
variable {post : Int32 → ((Nat → Int32) × (Nat → Int32)) → Prop} {mc : List Con} {fs : List Fct} {FP FT Tb PA LP LT : Nat → Int32} {live cl k f d n : Nat} {l : Lt} {x : Fct} {bb : Nat → Option Nat} {va : Nat → Con} {ps : List Wd}
theorem isf_lp (hl : live < 2) (hcl : cl < 257) (hk : k < 13) (hd : d ≤ 12) (hn : mc.Nodup) (hmc : mc.length ≤ 1100) (hF : MFa mc fs FP FT Tb) (hf : fs[f]? = some x) (hPA : PA (65 * live + x.1) = nI n) (hxl : x.2.length = n) (hll : l.2.2.2.2.length = n) (hTR : ∀ (i : Nat) (t : Tm), l.2.2.2.2[i]? = some t → TC mc t.1 (LT (6 * ((257 * live + cl) * 13 + k) + i))) (hv12 : ∀ t ∈ l.2.2.2.2, ∀ j, t.1 = Sum.inl j → j < 12)
    (h1 : ∀ b2 v2 VA BB, BvR mc b2 v2 BB VA → Ext d bb va b2 v2 → (∀ v, Agr b2 v2 v ↔ Agr bb va v ∧ targs v l = x.2) → (∀ t ∈ l.2.2.2.2, ∀ j, t.1 = Sum.inl j → ¬ b2 j = none) → post 1 (VA, BB))
    (h0 : ∀ b2 v2 VA BB, BvR mc b2 v2 BB VA → Ext d bb va b2 v2 → (∀ v, Agr bb va v → ¬ targs v l = x.2) → post 0 (VA, BB)) :
    ∀ m i : Nat, i + m = n → ∀ b2 v2 VA BB, BvR mc b2 v2 BB VA → Ext d bb va b2 v2 → (∀ v, Agr b2 v2 v ↔ Agr bb va v ∧ (targs v l).take i = x.2.take i) → (∀ (i2 : Nat) (t : Tm), i2 < i → l.2.2.2.2[i2]? = some t → ∀ j, t.1 = Sum.inl j → ¬ b2 j = none) → lw_met_Mo_isFact_24 post (nI f) FP LT FT (nI d) (nI k) (nI live) (nI cl) (nI live) PA (m + 1) (nI i, VA, BB) := by
  obtain ⟨hf2, hFP, hFT⟩ := MFa_at hF hf
  obtain ⟨-, hin, hx64⟩ := hF
  have hx := hx64 x (List.mem_of_getElem? hf)
  have hxm := hin x (List.mem_of_getElem? hf)
  have ar : ∀ {P : Int32 → Unit → Prop}, P (nI n) () → wp_met_Mo_arity P (nI x.1) (nI live) PA := by
    intro P hP
    have hne : ¬ nI x.1 = (-1 : Int32) := by
      intro e
      have := congrArg Int32.toInt e
      have m1 : (-1 : Int32).toInt = -1 := by decide
      rw [nI_toInt (by omega), m1] at this
      omega
    have e65 : (65 : Int32) * nI live + nI x.1 = nI (65 * live + x.1) := by rw [show (65 : Int32) = nI 65 from rfl, pk_mul, nI_add]
    unfold wp_met_Mo_arity
    rw [e65, nI_clamp (by omega)]
    refine ⟨⟨fun _ => trivial, fun _ => ⟨vp_in_nI (by omega) (by omega), trivial⟩⟩, fun y1 hy => ?_⟩
    rw [if_neg hne, hPA] at hy
    rw [hy]
    exact hP
  have hn6 : n ≤ 6 := by omega
  have tlen : ∀ v : Nat → Con, (targs v l).length = n := fun v => by
    unfold targs
    rw [List.length_map, hll]
  intro m
  induction m with
  | zero =>
    intro i hi b2 v2 VA BB hB hE hA hbd
    refine ⟨vp_in_nI (by omega) (by omega), fun y11 h11 => ?_⟩
    rw [nI_clamp (by omega), hFP] at h11
    subst h11
    refine ar ?_
    refine pk_le n i (fun _ => ?_) (fun q => absurd q (by omega))
    refine h1 b2 v2 VA BB hB hE (fun v => ?_) (fun t ht j hj => ?_)
    · rw [hA v, List.take_of_length_le (by rw [tlen]; omega), List.take_of_length_le (by omega)]
    · obtain ⟨i2, hi2, e⟩ := List.mem_iff_getElem.mp ht
      exact hbd i2 t (by omega) (by rw [List.getElem?_eq_getElem hi2, e]) j hj
  | succ m ih =>
    intro i hi b2 v2 VA BB hB hE hA hbd
    refine ⟨vp_in_nI (by omega) (by omega), fun y11 h11 => ?_⟩
    rw [nI_clamp (by omega), hFP] at h11
    subst h11
    refine ar ?_
    refine pk_le n i (fun q => absurd q (by omega)) (fun _ => ?_)
    refine sp_Mo_literal ?_
    intro y14 h14 y15 h15
    rw [show (6 : Int32) = nI 6 from rfl, pk_mul] at h14
    rw [h14, nI_add] at h15
    subst h15
    refine ⟨vp_in_nI (by omega) (by omega), fun y17 h17 y18 h18 y19 h19 => ?_⟩
    rw [nI_clamp (by omega)] at h17
    rw [show (6 : Int32) = nI 6 from rfl, pk_mul] at h18
    rw [h18, nI_add] at h19
    subst h19
    refine ⟨vp_in_nI (by omega) (by omega), fun y21 h21 => ?_⟩
    have hil : i < l.2.2.2.2.length := by omega
    have hix : i < x.2.length := by omega
    have hte := List.getElem?_eq_getElem hil
    have hce := List.getElem?_eq_getElem hix
    rw [nI_clamp (by omega), hFT i _ hce] at h21
    have hT := hTR i _ hte
    have hmt : l.2.2.2.2[i] ∈ l.2.2.2.2 := List.getElem_mem hil
    have hcm : x.2[i] ∈ mc := hxm _ (List.getElem_mem hix)
    generalize hg1 : l.2.2.2.2[i] = t at hte hT hmt
    generalize hg2 : x.2[i] = c at hce hcm h21
    rw [← h17] at hT
    have tk : ∀ v : Nat → Con, (targs v l).take (i + 1) = x.2.take (i + 1) ↔ (targs v l).take i = x.2.take i ∧ tval v t.1 = c := by
      intro v
      have hil2 : i < (targs v l).length := by rw [tlen]; omega
      have e1 : (targs v l)[i] = tval v t.1 := by
        have : (targs v l)[i]? = some (tval v t.1) := by
          unfold targs
          rw [List.getElem?_map, hte]
          rfl
        rw [List.getElem?_eq_getElem hil2] at this
        exact Option.some.inj this
      rw [take_push _ i hil2, take_push _ i hix, e1, hg2]
      constructor
      · intro h
        have := List.append_inj h (by rw [List.length_take, List.length_take, tlen, hxl])
        exact ⟨this.1, by simpa using this.2⟩
      · rintro ⟨q1, q2⟩
        rw [q1, q2]
    -- compare a value that is there
    have cmp : ∀ v0 : Nat → Con, (∀ j, t.1 = Sum.inl j → ∃ e, b2 j = some e ∧ v0 j = v2 j) → jw_met_Mo_isFact_113 post (fun x9 => lw_met_Mo_isFact_24 post (nI f) FP LT FT (nI d) (nI k) (nI live) (nI cl) (nI live) PA (m + 1) x9) y21 (nI i) VA BB y17 () := by
      intro v0 hv0
      unfold jw_met_Mo_isFact_113
      refine sp_Mo_value (v := v0) hn hmc hT (fun j hj => ?_) ?_
      · obtain ⟨e, q1, q2⟩ := hv0 j hj
        have hj12 := hv12 t hmt j hj
        rcases hB j (by omega) with ⟨z, -⟩ | ⟨e2, z1, z2, z3, z4, z5⟩
        · rw [z] at q1
          cases q1
        · exact ⟨hj12, by rw [q2]; exact z5⟩
      have hagv : ∀ v : Nat → Con, Agr b2 v2 v → tval v t.1 = tval v0 t.1 := by
        intro v hv
        cases ht : t.1 with
        | inl j =>
          obtain ⟨e, q1, q2⟩ := hv0 j ht
          have hj12 := hv12 t hmt j ht
          show v j = v0 j
          rw [q2]
          exact hv j e (by omega) q1
        | inr c2 => rfl
      have hvm : tval v0 t.1 ∈ mc := by
        cases ht : t.1 with
        | inl j =>
          obtain ⟨e, q1, q2⟩ := hv0 j ht
          have hj12 := hv12 t hmt j ht
          show v0 j ∈ mc
          rw [q2]
          rcases hB j (by omega) with ⟨z, -⟩ | ⟨e2, z1, z2, z3, z4, z5⟩
          · rw [z] at q1
            cases q1
          · exact z4
        | inr c2 =>
          rw [ht] at hT
          obtain ⟨id, w1, w2⟩ := hT
          exact List.mem_of_getElem? w1
      have hb1 := ix_lt hvm
      have hb2 := ix_lt hcm
      rw [h21]
      refine pk_eq (ix mc (tval v0 t.1)) (ix mc c) (fun q => ?_) (fun q => ?_)
      · have e := ix_inj hvm hcm q
        rw [nI_1]
        refine ih (i + 1) (by omega) b2 v2 VA BB hB hE (fun v => ?_) (fun i2 t2 hi2 ht2 j hj => ?_)
        · rw [tk v]
          constructor
          · intro hv
            exact ⟨((hA v).mp hv).1, ((hA v).mp hv).2, by rw [hagv v hv, e]⟩
          · rintro ⟨q1, q2, -⟩
            exact (hA v).mpr ⟨q1, q2⟩
        · by_cases z : i2 = i
          · subst z
            rw [hte] at ht2
            obtain rfl := Option.some.inj ht2
            obtain ⟨e2, q1, -⟩ := hv0 j hj
            rw [q1]
            simp
          · exact hbd i2 t2 (by omega) ht2 j hj
      · refine h0 b2 v2 VA BB hB hE (fun v hv hx2 => q ?_)
        have hag : Agr b2 v2 v := (hA v).mpr ⟨hv, by rw [hx2]⟩
        have := ((tk v).mp (by rw [hx2])).2
        rw [← hagv v hag, this]
    refine ⟨fun z => ?_, fun z => ?_⟩
    · obtain ⟨c2, hc2⟩ := (TC_neg hT hmc).1 z
      exact cmp va (fun j hj => by rw [hc2] at hj; cases hj)
    · obtain ⟨j, hj, hxj⟩ := (TC_neg hT hmc).2 z
      have hj12 := hv12 t hmt j hj
      have hcd := code_nI hxj (by omega)
      have ij : vp_in (nI j) 13 := vp_in_nI (by omega) (by omega)
      intro y23 h23
      rw [hcd] at h23
      subst h23
      refine ⟨ij, fun y25 h25 => ?_⟩
      rw [nI_clamp (by omega)] at h25
      rcases hB j (by omega) with ⟨w1, w2⟩ | ⟨e, w1, w2, w3, w4, w5⟩
      · rw [w2] at h25
        refine ⟨fun _ => ?_, fun q => absurd h25 q⟩
        intro y26 h26
        rw [hcd] at h26
        subst h26
        refine ⟨ij, fun g28 h28 y29 h29 => ?_⟩
        rw [hcd] at h29
        subst h29
        refine ⟨ij, fun g31 h31 => ?_⟩
        rw [nI_clamp (by omega)] at h28 h31
        rw [h21] at h31
        rw [nI_1]
        refine ih (i + 1) (by omega) (fun j2 => if j2 = j then some d else b2 j2) (fun j2 => if j2 = j then c else v2 j2) g31 g28 (fun j2 hj2 => ?_) (fun j2 hj2 => ?_) (fun v => ?_) (fun i2 t2 hi2 ht2 j2 hj2 => ?_)
        · show ((if j2 = j then some d else b2 j2) = none ∧ _) ∨ (∃ e, (if j2 = j then some d else b2 j2) = some e ∧ _ ∧ _ ∧ (if j2 = j then c else v2 j2) ∈ mc ∧ _ = nI (ix mc (if j2 = j then c else v2 j2)))
          rw [h28, h31]
          by_cases z2 : j2 = j
          · rw [if_pos z2, if_pos z2, z2, upd_same, upd_same]
            exact Or.inr ⟨d, rfl, by omega, rfl, hcm, rfl⟩
          · rw [if_neg z2, if_neg z2, upd_ne z2, upd_ne z2]
            exact hB j2 hj2
        · show (∀ e, bb j2 = some e → (if j2 = j then some d else b2 j2) = some e ∧ (if j2 = j then c else v2 j2) = va j2) ∧ (bb j2 = none → (if j2 = j then some d else b2 j2) = none ∨ (if j2 = j then some d else b2 j2) = some d)
          by_cases z2 : j2 = j
          · rw [if_pos z2, if_pos z2]
            refine ⟨fun e he => ?_, fun _ => Or.inr rfl⟩
            have := ((hE j2 hj2).1 e he).1
            rw [z2, w1] at this
            cases this
          · rw [if_neg z2, if_neg z2]
            exact hE j2 hj2
        · rw [tk v, hj]
          constructor
          · intro hv
            have hag : Agr b2 v2 v := by
              intro j2 e hj2 he
              have h3 := hv j2 e hj2
              by_cases z2 : j2 = j
              · rw [z2, w1] at he
                cases he
              · simp only [if_neg z2] at h3
                exact h3 he
            refine ⟨((hA v).mp hag).1, ((hA v).mp hag).2, ?_⟩
            have h3 := hv j d (by omega)
            simp only [if_true] at h3
            exact h3 trivial
          · rintro ⟨q1, q2, q3⟩ j2 e hj2 he
            have hag := (hA v).mpr ⟨q1, q2⟩
            by_cases z2 : j2 = j
            · simp only [if_pos z2]
              rw [z2]
              exact q3
            · simp only [if_neg z2] at he ⊢
              exact hag j2 e hj2 he
        · show ¬ (if j2 = j then some d else b2 j2) = none
          by_cases z2 : j2 = j
          · rw [if_pos z2]
            simp
          · rw [if_neg z2]
            by_cases z3 : i2 = i
            · subst z3
              rw [hte] at ht2
              obtain rfl := Option.some.inj ht2
              rw [hj] at hj2
              injection hj2 with hj2
              exact absurd hj2.symm z2
            · exact hbd i2 t2 (by omega) ht2 j2 hj2
      · rw [w3] at h25
        have hne : ¬ y25 = (-1 : Int32) := by
          rw [h25]
          intro e2
          have := congrArg Int32.toInt e2
          have m1 : (-1 : Int32).toInt = -1 := by decide
          rw [nI_toInt (by omega), m1] at this
          omega
        refine ⟨fun q => absurd q hne, fun _ => ?_⟩
        refine cmp v2 (fun j2 hj2 => ?_)
        rw [hj] at hj2
        injection hj2 with hj2
        rw [← hj2]
        exact ⟨e, w1, rfl⟩
/-- a fact fits an atom -/
def Mt (ps : List Wd) (v : Nat → Con) (l : Lt) (x : Fct) : Prop := ps[x.1]? = some l.2.1 ∧ targs v l = x.2
theorem sp_Mo_isFact {VA BB : Nat → Int32} (hl : live < 2) (hcl : cl < 257) (hk : k < 13) (hd : d ≤ 12) (hn : mc.Nodup) (hmc : mc.length ≤ 1100) (hF : MFa mc fs FP FT Tb) (hf : fs[f]? = some x) (hps : ps.Nodup) (hpl : ps.length ≤ 64) (hPA : ps[x.1]? = some l.2.1 → PA (65 * live + x.1) = nI l.2.2.2.2.length ∧ x.2.length = l.2.2.2.2.length) (hLP : (∃ i : Nat, ps[i]? = some l.2.1 ∧ LP ((257 * live + cl) * 13 + k) = nI i) ∨ ((∀ i : Nat, ¬ ps[i]? = some l.2.1) ∧ LP ((257 * live + cl) * 13 + k) = -1)) (hTR : ∀ (i : Nat) (t : Tm), l.2.2.2.2[i]? = some t → TC mc t.1 (LT (6 * ((257 * live + cl) * 13 + k) + i))) (hv12 : ∀ t ∈ l.2.2.2.2, ∀ j, t.1 = Sum.inl j → j < 12) (hB : BvR mc bb va BB VA)
    (h1 : ∀ b2 v2 VA BB, BvR mc b2 v2 BB VA → Ext d bb va b2 v2 → (∀ v, Agr b2 v2 v ↔ Agr bb va v ∧ Mt ps v l x) → (∀ t ∈ l.2.2.2.2, ∀ j, t.1 = Sum.inl j → ¬ b2 j = none) → post 1 (VA, BB))
    (h0 : ∀ b2 v2 VA BB, BvR mc b2 v2 BB VA → Ext d bb va b2 v2 → (∀ v, Agr bb va v → ¬ Mt ps v l x) → post 0 (VA, BB)) :
    wp_met_Mo_isFact post (nI f) (nI k) (nI d) (nI live) (nI live) (nI cl) PA LP LT FP FT VA BB := by
  obtain ⟨hf2, hFP, hFT⟩ := MFa_at hF hf
  have hx := hF.2.2 x (List.mem_of_getElem? hf)
  refine ⟨vp_in_nI (by omega) (by omega), fun y2 h2 => ?_⟩
  rw [nI_clamp (by omega), hFP] at h2
  refine sp_Mo_literal ?_
  refine ⟨vp_in_nI (by omega) (by omega), fun y5 h5 => ?_⟩
  rw [nI_clamp (by omega)] at h5
  by_cases hp : ps[x.1]? = some l.2.1
  · obtain ⟨hPA1, hPA2⟩ := hPA hp
    have he : y2 = y5 := by
      rcases hLP with ⟨i, i1, i2⟩ | ⟨i1, -⟩
      · rw [h2, h5, i2, nodup_inj hps hp i1]
      · exact absurd hp (i1 x.1)
    refine ⟨fun _ => ?_, fun z => absurd he z⟩
    refine ⟨_, isf_lp (bb := bb) (va := va) hl hcl hk hd hn hmc hF hf hPA1 hPA2 rfl hTR hv12 (fun b2 v2 VA2 BB2 g1 g2 g3 g4 => h1 b2 v2 VA2 BB2 g1 g2 (fun v => ?_) g4) (fun b2 v2 VA2 BB2 g1 g2 g3 => h0 b2 v2 VA2 BB2 g1 g2 (fun v hv hm => g3 v hv hm.2)) l.2.2.2.2.length 0 (Nat.zero_add _) bb va VA BB hB Ext_refl (fun v => ⟨fun hv => ⟨hv, rfl⟩, fun hv => hv.1⟩) (fun i2 t hi2 => absurd hi2 (by omega))⟩
    rw [g3 v]
    exact ⟨fun hv => ⟨hv.1, hp, hv.2⟩, fun hv => ⟨hv.1, hv.2.2⟩⟩
  · have hne : ¬ y2 = y5 := by
      rw [h2, h5]
      rcases hLP with ⟨i, i1, i2⟩ | ⟨-, i2⟩
      · have hil := (List.getElem?_eq_some_iff.mp i1).1
        rw [i2]
        intro e
        rw [(nI_eq (by omega) (by omega)).mp e] at hp
        exact hp i1
      · rw [i2]
        intro e
        have := congrArg Int32.toInt e
        have m1 : (-1 : Int32).toInt = -1 := by decide
        rw [nI_toInt (by omega), m1] at this
        omega
    refine ⟨fun z => absurd z hne, fun _ => h0 bb va VA BB hB Ext_refl (fun v _ hm => hp hm.1)⟩
end IsFact
