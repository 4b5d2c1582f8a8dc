/-! pure: the model looks for variables that nothing binds -/
/-- the wrong that counts so far -/
def WR (o : Nat) (W : Nat → Nat → Prop) (wc wp : Int32) : Prop := ((∀ c p, ¬ W c p) ∧ wp = 2147483647) ∨ (∃ c p, W c p ∧ o + p < 2147483647 ∧ wc = nI c ∧ wp = nI (o + p) ∧ ∀ c2 p2, W c2 p2 → p ≤ p2)
theorem WR_iff {o : Nat} {W W2 : Nat → Nat → Prop} {wc wp : Int32} (h : ∀ c p, W c p ↔ W2 c p) (q : WR o W wc wp) : WR o W2 wc wp := by
  rcases q with ⟨q1, q2⟩ | ⟨c, p, q1, q2, q3, q4, q5⟩
  · exact Or.inl ⟨fun c p w => q1 c p ((h c p).mpr w), q2⟩
  · exact Or.inr ⟨c, p, (h c p).mp q1, q2, q3, q4, fun c2 p2 w => q5 c2 p2 ((h c2 p2).mpr w)⟩
theorem sp_Mo_wrong {post : (Int32 × Int32) → Prop} {o c q : Nat} {W W2 : Nat → Nat → Prop} {wc wp : Int32} (hq : o + q < 2147483647) (hW : WR o W wc wp) (h2 : ∀ c2 p2, W2 c2 p2 ↔ W c2 p2 ∨ (c2 = c ∧ p2 = q)) (h : ∀ wc2 wp2, WR o W2 wc2 wp2 → post (wc2, wp2)) : wp_met_Mo_wrong post (nI c) (nI (o + q)) wc wp := by
  have e2 : (2147483647 : Int32).toInt = 2147483647 := by decide
  have e3 : (nI (o + q)).toInt = ((o + q : Nat) : Int) := nI_toInt (by omega)
  refine ⟨fun z => h wc wp ?_, fun z => h (nI c) (nI (o + q)) ?_⟩
  · have z2 := Int32.le_iff_toInt_le.mp z
    rw [e3] at z2
    rcases hW with ⟨_, e⟩ | ⟨c1, p1, w1, w2, w3, w4, w5⟩
    · exfalso
      rw [e, e2] at z2
      omega
    · rw [w4, nI_toInt (by omega)] at z2
      refine Or.inr ⟨c1, p1, (h2 _ _).mpr (Or.inl w1), w2, w3, w4, fun c2 p2 hw => ?_⟩
      rcases (h2 _ _).mp hw with g | ⟨_, g⟩
      · exact w5 _ _ g
      · omega
  · refine Or.inr ⟨c, q, (h2 _ _).mpr (Or.inr ⟨rfl, rfl⟩), hq, rfl, rfl, fun c2 p2 hw => ?_⟩
    rcases (h2 _ _).mp hw with g | ⟨_, g⟩
    · rcases hW with ⟨e, _⟩ | ⟨c1, p1, w1, w2, w3, w4, w5⟩
      · exact absurd g (e c2 p2)
      · have g2 := w5 _ _ g
        have z2 : ¬ p1 ≤ q := by
          intro z3
          refine z (Int32.le_iff_toInt_le.mpr ?_)
          rw [w4, e3, nI_toInt (by omega)]
          omega
        omega
    · omega
def kdOk (k : Int32) : Prop := k = 0 ∨ k = 1 ∨ ((11 : Int32) ≤ k ∧ k ≤ 16)
theorem kd_enum {k : Int32} (h : (11 : Int32) ≤ k ∧ k ≤ 16) : k = 11 ∨ k = 12 ∨ k = 13 ∨ k = 14 ∨ k = 15 ∨ k = 16 := by
  have h1 := Int32.le_iff_toInt_le.mp h.1
  have h2 := Int32.le_iff_toInt_le.mp h.2
  have e1 : (11 : Int32).toInt = 11 := by decide
  have e2 : (16 : Int32).toInt = 16 := by decide
  rw [e1] at h1
  rw [e2] at h2
  have hc : k.toInt = 11 ∨ k.toInt = 12 ∨ k.toInt = 13 ∨ k.toInt = 14 ∨ k.toInt = 15 ∨ k.toInt = 16 := by omega
  rcases hc with c | c | c | c | c | c
  · exact Or.inl (Int32.toInt_inj.mp (by rw [c]; decide))
  · exact Or.inr (Or.inl (Int32.toInt_inj.mp (by rw [c]; decide)))
  · exact Or.inr (Or.inr (Or.inl (Int32.toInt_inj.mp (by rw [c]; decide))))
  · exact Or.inr (Or.inr (Or.inr (Or.inl (Int32.toInt_inj.mp (by rw [c]; decide)))))
  · exact Or.inr (Or.inr (Or.inr (Or.inr (Or.inl (Int32.toInt_inj.mp (by rw [c]; decide))))))
  · exact Or.inr (Or.inr (Or.inr (Or.inr (Or.inr (Int32.toInt_inj.mp (by rw [c]; decide))))))
theorem lkd_0 {k : Int32} (h : kdOk k) : lkd k = 0 ↔ k = 0 := by
  rcases h with h | h | h
  · rw [h]; decide
  · rw [h]; decide
  · rcases kd_enum h with c | c | c | c | c | c <;> rw [c] <;> decide
theorem TC_var {mc : List Con} {t : Nat ⊕ Con} {x y : Int32} {v : Nat} (h : TC mc t x) (hmc : mc.length ≤ 1100) (hy : y.toInt = -1 - (v : Int)) : x = y ↔ t = .inl v := by
  cases t with
  | inl j =>
    have hj : x.toInt = -1 - (j : Int) := h
    constructor
    · intro e
      rw [e] at hj
      have : j = v := by omega
      rw [this]
    · intro e
      injection e with e
      apply Int32.toInt_inj.mp
      rw [hj, hy, e]
  | inr c =>
    obtain ⟨id, h1, h2⟩ := h
    have hid := (List.getElem?_eq_some_iff.mp h1).1
    constructor
    · intro e
      exfalso
      rw [← e, h2, nI_toInt (by omega)] at hy
      omega
    · intro e
      cases e
theorem TC_neg {mc : List Con} {t : Nat ⊕ Con} {x : Int32} (h : TC mc t x) (hmc : mc.length ≤ 1100) : (0 ≤ x → ∃ c, t = .inr c) ∧ (¬ 0 ≤ x → ∃ v, t = .inl v ∧ x.toInt = -1 - (v : Int)) := by
  cases t with
  | inl j =>
    have hj : x.toInt = -1 - (j : Int) := h
    refine ⟨fun e => ?_, fun _ => ⟨j, rfl, hj⟩⟩
    have e2 := Int32.le_iff_toInt_le.mp e
    have e3 : (0 : Int32).toInt = 0 := by decide
    rw [e3] at e2
    omega
  | inr c =>
    obtain ⟨id, h1, h2⟩ := h
    have hid := (List.getElem?_eq_some_iff.mp h1).1
    refine ⟨fun _ => ⟨c, rfl⟩, fun e => ?_⟩
    exfalso
    apply e
    apply Int32.le_iff_toInt_le.mpr
    have e3 : (0 : Int32).toInt = 0 := by decide
    rw [h2, nI_toInt (by omega), e3]
    omega
/-- a positive atom of the body has this variable -/
def bnd (md : Nat) (ls : List Lt) (v : Nat) : Prop := ∃ (j : Nat) (l : Lt), ls[j]? = some l ∧ 1 ≤ j + sf md ∧ l.1 = 0 ∧ ∃ t ∈ l.2.2.2.2, t.1 = Sum.inl v
/-- a clause as the model holds it, and what its reading keeps -/
def CM (md : Nat) (ps : List Wd) (mc : List Con) (o set cl : Nat) (A : A7) (LC : Nat → Int32) (ls : List Lt) : Prop := CR md ps mc o set cl A ls ∧ LC (257 * set + cl) = nI (ls.length + sf md) ∧ ls.length + sf md ≤ 13 ∧ mc.length ≤ 1100 ∧ (∀ l ∈ ls, kdOk l.1) ∧ (∀ l ∈ ls, ∀ t ∈ l.2.2.2.2, o + t.2 < 2147483647)
section Look
variable {md o set cl : Nat} {ps : List Wd} {mc : List Con} {LK LP LT LQ NQ TP LA LC : Nat → Int32} {ls : List Lt}
theorem sp_bnd_in {post : Int32 → Unit → Prop} {J : Int32 → Prop} {x : Int32} {v k : Nat} {l : Lt} (hset : set < 2) (hcl : cl < 257) (hk : k < 13) (hmc : mc.length ≤ 1100) (hl : l.2.2.2.2.length ≤ 6) (hR : LR md ps mc o ((257 * set + cl) * 13 + k) (13 * cl + k) (LK, LP, LT, LQ, NQ, TP, LA) l) (hx : x.toInt = -1 - (v : Int)) (hJ : (∀ t ∈ l.2.2.2.2, ¬ t.1 = Sum.inl v) → J (nI (k + 1))) (h1 : (∃ t ∈ l.2.2.2.2, t.1 = Sum.inl v) → post 1 ()) : ∀ m i : Nat, i + m = l.2.2.2.2.length → (∀ (i2 : Nat) (t : Tm), i2 < i → l.2.2.2.2[i2]? = some t → ¬ t.1 = Sum.inl v) → lw_met_Mo_isBound_39 post J (nI cl) (nI k) LA LT x (nI set) (m + 1) (nI i) := by
  obtain ⟨r1, r2, r3, r4, r5, r6, r7⟩ := hR
  replace r6 : LA (13 * cl + k) = nI l.2.2.2.2.length := r6
  intro m
  induction m with
  | zero =>
    intro i hi hno y12 h12 y13 h13
    rw [show (13 : Int32) = nI 13 from rfl, pk_mul] at h12
    rw [h12, nI_add] at h13
    subst h13
    refine ⟨vp_in_nI (by omega) (by omega), fun y15 h15 => ?_⟩
    rw [nI_clamp (by omega), r6] at h15
    subst h15
    refine pk_le l.2.2.2.2.length i (fun _ => ?_) (fun q => absurd q (by omega))
    rw [nI_1]
    refine hJ (fun t ht => ?_)
    obtain ⟨i2, hi2, e⟩ := List.mem_iff_getElem.mp ht
    exact hno i2 t (by omega) (by rw [List.getElem?_eq_getElem hi2, e])
  | succ m ih =>
    intro i hi hno y12 h12 y13 h13
    rw [show (13 : Int32) = nI 13 from rfl, pk_mul] at h12
    rw [h12, nI_add] at h13
    subst h13
    refine ⟨vp_in_nI (by omega) (by omega), fun y15 h15 => ?_⟩
    rw [nI_clamp (by omega), r6] at h15
    subst h15
    refine pk_le l.2.2.2.2.length i (fun q => absurd q (by omega)) (fun _ => ?_)
    refine sp_Mo_literal ?_
    intro y17 h17 y18 h18
    rw [show (6 : Int32) = nI 6 from rfl, pk_mul] at h17
    rw [h17, nI_add] at h18
    subst h18
    refine ⟨vp_in_nI (by omega) (by omega), fun y20 h20 => ?_⟩
    rw [nI_clamp (by omega)] at h20
    have hil : i < l.2.2.2.2.length := by omega
    have hT := (r7 i _ (List.getElem?_eq_getElem hil)).1
    have hv := TC_var hT hmc hx
    refine ⟨fun e => ?_, fun e => ?_⟩
    · rw [h20] at e
      exact h1 ⟨_, List.getElem_mem hil, hv.mp e⟩
    · rw [nI_1]
      refine ih (i + 1) (by omega) (fun i2 t hi2 ht => ?_)
      by_cases z : i2 = i
      · subst z
        rw [List.getElem?_eq_getElem hil] at ht
        obtain rfl := Option.some.inj ht
        intro w
        exact e (by rw [h20]; exact hv.mpr w)
      · exact hno i2 t (by omega) ht
theorem sp_bnd_lp {post : Int32 → Unit → Prop} {x : Int32} {v : Nat} (hset : set < 2) (hcl : cl < 257) (hC : CM md ps mc o set cl (LK, LP, LT, LQ, NQ, TP, LA) LC ls) (hx : x.toInt = -1 - (v : Int)) (h0 : ¬ bnd md ls v → post 0 ()) (h1 : bnd md ls v → post 1 ()) : ∀ m k : Nat, k + m = max 1 (ls.length + sf md) → 1 ≤ k → (∀ (j : Nat) (l : Lt), ls[j]? = some l → 1 ≤ j + sf md → j + sf md < k → l.1 = 0 → ∀ t ∈ l.2.2.2.2, ¬ t.1 = Sum.inl v) → lw_met_Mo_isBound_2 post (nI set) (nI cl) LC LK LA LT x (m + 1) (nI k) := by
  obtain ⟨c1, c2, c3, c4, c5, c6⟩ := hC
  have hsf : sf md ≤ 1 := by unfold sf; split <;> omega
  intro m
  induction m with
  | zero =>
    intro k hk hk1 hno y3 h3 y4 h4
    rw [show (257 : Int32) = nI 257 from rfl, pk_mul] at h3
    rw [h3, nI_add] at h4
    subst h4
    refine ⟨vp_in_nI (by omega) (by omega), fun y6 h6 => ?_⟩
    rw [nI_clamp (by omega), c2] at h6
    subst h6
    refine pk_le (ls.length + sf md) k (fun _ => ?_) (fun q => absurd q (by omega))
    refine h0 ?_
    intro ⟨j, l, hj, b1, b2, t, ht, b3⟩
    have hjl := (List.getElem?_eq_some_iff.mp hj).1
    exact hno j l hj b1 (by omega) b2 t ht b3
  | succ m ih =>
    intro k hk hk1 hno y3 h3 y4 h4
    rw [show (257 : Int32) = nI 257 from rfl, pk_mul] at h3
    rw [h3, nI_add] at h4
    subst h4
    refine ⟨vp_in_nI (by omega) (by omega), fun y6 h6 => ?_⟩
    rw [nI_clamp (by omega), c2] at h6
    subst h6
    refine pk_le (ls.length + sf md) k (fun q => absurd q (by omega)) (fun hlt => ?_)
    have hjl : k - sf md < ls.length := by omega
    have hsf : sf md ≤ 1 := by unfold sf; split <;> omega
    have hjk : k - sf md + sf md = k := by omega
    have hj := List.getElem?_eq_getElem hjl
    obtain ⟨hl6, hR⟩ := c1 _ _ hj
    rw [hjk] at hR
    have hkd := c5 _ (List.getElem_mem hjl)
    have hR1 : LK ((257 * set + cl) * 13 + k) = lkd (ls[k - sf md]).1 := hR.1
    refine sp_Mo_literal ?_
    refine ⟨vp_in_nI (by omega) (by omega), fun y9 h9 => ?_⟩
    rw [nI_clamp (by omega), hR1] at h9
    have nxt : (¬ (ls[k - sf md]).1 = 0 ∨ ∀ t ∈ (ls[k - sf md]).2.2.2.2, ¬ t.1 = Sum.inl v) → lw_met_Mo_isBound_2 post (nI set) (nI cl) LC LK LA LT x (m + 1) (nI (k + 1)) := by
      intro hor
      refine ih (k + 1) (by omega) (by omega) (fun j l hj2 b1 b2 b3 t ht => ?_)
      by_cases z : j + sf md = k
      · obtain rfl : j = k - sf md := by omega
        rw [hj] at hj2
        obtain rfl := Option.some.inj hj2
        rcases hor with g | g
        · exact absurd b3 g
        · exact g t ht
      · exact hno j l hj2 b1 (by omega) b3 t ht
    refine ⟨fun e => ?_, fun e => ?_⟩
    · rw [h9] at e
      have e0 := (lkd_0 hkd).mp e
      exact ⟨_, sp_bnd_in (J := fun x9 => lw_met_Mo_isBound_2 post (nI set) (nI cl) LC LK LA LT x (m + 1) x9) hset hcl (by omega) c4 hl6 hR hx (fun g => nxt (Or.inr g)) (fun ⟨t, ht, g⟩ => h1 ⟨k - sf md, _, hj, by omega, e0, t, ht, g⟩) _ 0 (Nat.zero_add _) (fun i2 t hi2 => absurd hi2 (by omega))⟩
    · rw [nI_1]
      exact nxt (Or.inl (fun w => e (by rw [h9]; exact (lkd_0 hkd).mpr w)))
theorem sp_Mo_isBound {post : Int32 → Unit → Prop} {x : Int32} {v : Nat} (hset : set < 2) (hcl : cl < 257) (hC : CM md ps mc o set cl (LK, LP, LT, LQ, NQ, TP, LA) LC ls) (hx : x.toInt = -1 - (v : Int)) (h0 : ¬ bnd md ls v → post 0 ()) (h1 : bnd md ls v → post 1 ()) : wp_met_Mo_isBound post x (nI set) (nI cl) LC LK LT LA :=
  ⟨_, sp_bnd_lp hset hcl hC hx h0 h1 (max 1 (ls.length + sf md) - 1) 1 (by omega) (by omega) (fun j l hj b1 b2 => absurd b2 (by omega))⟩
/-- an unbound variable's places: in the literals before the J-th -/
def W11 (md : Nat) (ls : List Lt) (J : Nat) (c p : Nat) : Prop := c = 11 ∧ ∃ (j : Nat) (l : Lt), j < J ∧ ls[j]? = some l ∧ (j + sf md = 0 ∨ ¬ l.1 = 0) ∧ ∃ t ∈ l.2.2.2.2, t.2 = p ∧ ∃ v, t.1 = Sum.inl v ∧ ¬ bnd md ls v
def W11i (md : Nat) (ls : List Lt) (l : Lt) (i : Nat) (c p : Nat) : Prop := c = 11 ∧ ∃ (i2 : Nat) (t : Tm), i2 < i ∧ l.2.2.2.2[i2]? = some t ∧ t.2 = p ∧ ∃ v, t.1 = Sum.inl v ∧ ¬ bnd md ls v
theorem sp_look_in {post : (Int32 × Int32) → Prop} {J : (Int32 × Int32 × Int32) → Prop} {k j : Nat} {l : Lt} {W : Nat → Nat → Prop} (hset : set < 2) (hcl : cl < 257) (hC : CM md ps mc o set cl (LK, LP, LT, LQ, NQ, TP, LA) LC ls) (hj : ls[j]? = some l) (hk : j + sf md = k)
    (hJ : ∀ wc wp, WR o (fun c p => W c p ∨ W11i md ls l l.2.2.2.2.length c p) wc wp → J (nI (k + 1), wc, wp)) : ∀ m i : Nat, i + m = l.2.2.2.2.length → ∀ wc wp, WR o (fun c p => W c p ∨ W11i md ls l i c p) wc wp → lw_met_Mo_look_61 post J (nI (13 * cl + k)) LA (nI k) 0 LT TP (nI set) (nI cl) LC LK (m + 1) (nI i, wc, wp) := by
  have hC0 := hC
  obtain ⟨c1, c2, c3, c4, c5, c6⟩ := hC0
  obtain ⟨hl6, hR⟩ := c1 j l hj
  rw [hk] at hR
  obtain ⟨r1, r2, r3, r4, r5, r6, r7⟩ := hR
  replace r6 : LA (13 * cl + k) = nI l.2.2.2.2.length := r6
  have hjl := (List.getElem?_eq_some_iff.mp hj).1
  have hml : l ∈ ls := List.mem_of_getElem? hj
  intro m
  induction m with
  | zero =>
    intro i hi wc wp hW
    refine ⟨vp_in_nI (by omega) (by omega), fun y23 h23 => ?_⟩
    rw [nI_clamp (by omega), r6] at h23
    subst h23
    refine pk_le l.2.2.2.2.length i (fun _ => ?_) (fun q => absurd q (by omega))
    rw [nI_1]
    obtain rfl : i = l.2.2.2.2.length := by omega
    exact hJ wc wp hW
  | succ m ih =>
    intro i hi wc wp hW
    refine ⟨vp_in_nI (by omega) (by omega), fun y23 h23 => ?_⟩
    rw [nI_clamp (by omega), r6] at h23
    subst h23
    refine pk_le l.2.2.2.2.length i (fun q => absurd q (by omega)) (fun _ => ?_)
    refine ⟨fun _ => ?_, fun z => absurd rfl z⟩
    refine sp_Mo_literal ?_
    intro y25 h25 y26 h26
    rw [show (6 : Int32) = nI 6 from rfl, pk_mul] at h25
    rw [h25, nI_add] at h26
    subst h26
    refine ⟨vp_in_nI (by omega) (by omega), fun y28 h28 => ?_⟩
    rw [nI_clamp (by omega)] at h28
    have hil : i < l.2.2.2.2.length := by omega
    obtain ⟨hT, hP⟩ := r7 i _ (List.getElem?_eq_getElem hil)
    replace hP : TP (6 * (13 * cl + k) + i) = nI (o + (l.2.2.2.2[i]).2) := hP
    obtain ⟨n1, n2⟩ := TC_neg hT c4
    have same : (∀ v, (l.2.2.2.2[i]).1 = Sum.inl v → bnd md ls v) → lw_met_Mo_look_61 post J (nI (13 * cl + k)) LA (nI k) 0 LT TP (nI set) (nI cl) LC LK (m + 1) (nI i + 1, wc, wp) := by
      intro hb
      rw [nI_1]
      refine ih (i + 1) (by omega) wc wp (WR_iff (fun c p => ?_) hW)
      constructor
      · rintro (w | ⟨w, i2, t, w1, w2⟩)
        · exact Or.inl w
        · exact Or.inr ⟨w, i2, t, by omega, w2⟩
      · rintro (w | ⟨w, i2, t, w1, w2, w3, v, w4, w5⟩)
        · exact Or.inl w
        · by_cases z : i2 = i
          · subst z
            rw [List.getElem?_eq_getElem hil] at w2
            obtain rfl := Option.some.inj w2
            exact absurd (hb v w4) w5
          · exact Or.inr ⟨w, i2, t, by omega, w2, w3, v, w4, w5⟩
    refine ⟨fun e => ?_, fun e => ?_⟩
    · rw [h28] at e
      obtain ⟨c, hc⟩ := n1 e
      exact same (fun v hv => by rw [hc] at hv; cases hv)
    · rw [h28] at e
      obtain ⟨v, hv, hx⟩ := n2 e
      rw [h28]
      refine sp_Mo_isBound hset hcl hC hx (fun hb => ?_) (fun hb => ?_)
      · refine ⟨fun _ => ?_, fun z => absurd rfl z⟩
        intro y30 h30 y31 h31
        rw [show (6 : Int32) = nI 6 from rfl, pk_mul] at h30
        rw [h30, nI_add] at h31
        subst h31
        refine ⟨vp_in_nI (by omega) (by omega), fun y33 h33 => ?_⟩
        rw [nI_clamp (by omega), hP] at h33
        subst h33
        refine sp_Mo_wrong (c := 11) (W2 := fun c p => W c p ∨ W11i md ls l (i + 1) c p) (c6 l hml _ (List.getElem_mem hil)) hW (fun c p => ?_) (fun wc2 wp2 hW2 => ?_)
        · constructor
          · rintro (w | ⟨w, i2, t, w1, w2, w3, v2, w4, w5⟩)
            · exact Or.inl (Or.inl w)
            · by_cases z : i2 = i
              · subst z
                rw [List.getElem?_eq_getElem hil] at w2
                obtain rfl := Option.some.inj w2
                exact Or.inr ⟨w, w3.symm⟩
              · exact Or.inl (Or.inr ⟨w, i2, t, by omega, w2, w3, v2, w4, w5⟩)
          · rintro ((w | ⟨w, i2, t, w1, w2⟩) | ⟨w1, w2⟩)
            · exact Or.inl w
            · exact Or.inr ⟨w, i2, t, by omega, w2⟩
            · exact Or.inr ⟨w1, i, _, by omega, List.getElem?_eq_getElem hil, w2.symm, v, hv, hb⟩
        · rw [nI_1]
          exact ih (i + 1) (by omega) wc2 wp2 hW2
      · refine ⟨fun z => absurd z (by decide), fun _ => ?_⟩
        refine same (fun v2 hv2 => ?_)
        rw [hv] at hv2
        injection hv2 with hv2
        rw [← hv2]
        exact hb
theorem look_push {j : Nat} {l : Lt} {c p : Nat} (hj : ls[j]? = some l) : W11 md ls (j + 1) c p ↔ W11 md ls j c p ∨ ((j + sf md = 0 ∨ ¬ l.1 = 0) ∧ W11i md ls l l.2.2.2.2.length c p) := by
  constructor
  · rintro ⟨w, j2, l2, w1, w2, w3, t, w4, w5⟩
    by_cases z : j2 = j
    · subst z
      rw [hj] at w2
      obtain rfl := Option.some.inj w2
      obtain ⟨i2, hi2, e⟩ := List.mem_iff_getElem.mp w4
      exact Or.inr ⟨w3, w, i2, t, hi2, by rw [List.getElem?_eq_getElem hi2, e], w5⟩
    · exact Or.inl ⟨w, j2, l2, by omega, w2, w3, t, w4, w5⟩
  · rintro (⟨w, j2, l2, w1, w2, w3⟩ | ⟨w3, w, i2, t, w4, w5, w6⟩)
    · exact ⟨w, j2, l2, by omega, w2, w3⟩
    · exact ⟨w, j, l, by omega, hj, w3, t, List.mem_of_getElem? w5, w6⟩
theorem sp_look_lp {post : (Int32 × Int32) → Prop} {W : Nat → Nat → Prop} (hset : set < 2) (hcl : cl < 257) (hC : CM md ps mc o set cl (LK, LP, LT, LQ, NQ, TP, LA) LC ls) (h : ∀ wc wp, WR o (fun c p => W c p ∨ W11 md ls ls.length c p) wc wp → post (wc, wp)) : ∀ m j : Nat, j + m = ls.length → ∀ wc wp, WR o (fun c p => W c p ∨ W11 md ls j c p) wc wp → lw_met_Mo_look_2 post (nI set) (nI cl) LC LK LA LT TP (m + 1) (nI (j + sf md), wc, wp) := by
  have hC0 := hC
  obtain ⟨c1, c2, c3, c4, c5, c6⟩ := hC0
  intro m
  induction m with
  | zero =>
    intro j hj wc wp hW y5 h5 y6 h6
    rw [show (257 : Int32) = nI 257 from rfl, pk_mul] at h5
    rw [h5, nI_add] at h6
    subst h6
    refine ⟨vp_in_nI (by omega) (by omega), fun y8 h8 => ?_⟩
    rw [nI_clamp (by omega), c2] at h8
    subst h8
    refine pk_le (ls.length + sf md) (j + sf md) (fun _ => ?_) (fun q => absurd q (by omega))
    obtain rfl : j = ls.length := by omega
    exact h wc wp hW
  | succ m ih =>
    intro j hj wc wp hW y5 h5 y6 h6
    rw [show (257 : Int32) = nI 257 from rfl, pk_mul] at h5
    rw [h5, nI_add] at h6
    subst h6
    refine ⟨vp_in_nI (by omega) (by omega), fun y8 h8 => ?_⟩
    rw [nI_clamp (by omega), c2] at h8
    subst h8
    refine pk_le (ls.length + sf md) (j + sf md) (fun q => absurd q (by omega)) (fun _ => ?_)
    intro y9 h9 y10 h10
    rw [show (13 : Int32) = nI 13 from rfl, pk_mul] at h9
    rw [h9, nI_add] at h10
    subst h10
    have hjl : j < ls.length := by omega
    have hje := List.getElem?_eq_getElem hjl
    obtain ⟨hl6, hR⟩ := c1 _ _ hje
    have hkd := c5 _ (List.getElem_mem hjl)
    have hR1 : LK ((257 * set + cl) * 13 + (j + sf md)) = lkd (ls[j]).1 := hR.1
    have hR6 : LA (13 * cl + (j + sf md)) = nI (ls[j]).2.2.2.2.length := hR.2.2.2.2.2.1
    have go : (j + sf md = 0 ∨ ¬ (ls[j]).1 = 0) → jw_met_Mo_look_56 post (fun x9 => lw_met_Mo_look_2 post (nI set) (nI cl) LC LK LA LT TP (m + 1) x9) wc wp (nI (13 * cl + (j + sf md))) LA (nI (j + sf md)) LT TP (nI set) (nI cl) LC LK 0 := by
      intro hor
      refine ⟨_, sp_look_in (W := fun c p => W c p ∨ W11 md ls j c p) hset hcl hC hje rfl (fun wc2 wp2 hW2 => ?_) _ 0 (Nat.zero_add _) wc wp (WR_iff (fun c p => ?_) hW)⟩
      · rw [show j + sf md + 1 = j + 1 + sf md by omega]
        refine ih (j + 1) (by omega) wc2 wp2 (WR_iff (fun c p => ?_) hW2)
        rw [look_push hje]
        constructor
        · rintro ((w | w) | w)
          · exact Or.inl w
          · exact Or.inr (Or.inl w)
          · exact Or.inr (Or.inr ⟨hor, w⟩)
        · rintro (w | w | ⟨-, w⟩)
          · exact Or.inl (Or.inl w)
          · exact Or.inl (Or.inr w)
          · exact Or.inr w
      · constructor
        · exact Or.inl
        · rintro (w | ⟨-, i2, t, w, -⟩)
          · exact w
          · omega
    refine pk_le (j + sf md) 0 (fun q => go (Or.inl (by omega))) (fun q => ?_)
    refine sp_Mo_literal ?_
    refine ⟨vp_in_nI (by omega) (by omega), fun y15 h15 y16 h16 => ?_⟩
    rw [nI_clamp (by omega), hR1] at h15
    by_cases z : (ls[j]).1 = 0
    · rw [h15, if_pos ((lkd_0 hkd).mpr z)] at h16
      subst h16
      have nxt : lw_met_Mo_look_2 post (nI set) (nI cl) LC LK LA LT TP (m + 1) (nI (j + sf md) + 1, wc, wp) := by
        rw [nI_1, show j + sf md + 1 = j + 1 + sf md by omega]
        refine ih (j + 1) (by omega) wc wp (WR_iff (fun c p => ?_) hW)
        rw [look_push hje]
        constructor
        · rintro (w | w)
          · exact Or.inl w
          · exact Or.inr (Or.inl w)
        · rintro (w | w | ⟨w, -⟩)
          · exact Or.inl w
          · exact Or.inr w
          · rcases w with w | w
            · omega
            · exact absurd z w
      refine ⟨1, ⟨vp_in_nI (by omega) (by omega), fun y23 h23 => ?_⟩⟩
      exact ⟨fun _ => nxt, fun _ => ⟨fun e => absurd e (by decide), fun _ => nxt⟩⟩
    · rw [h15, if_neg (fun e => z ((lkd_0 hkd).mp e))] at h16
      subst h16
      exact go (Or.inr z)
theorem sp_Mo_look {post : (Int32 × Int32) → Prop} {W : Nat → Nat → Prop} {wc wp : Int32} (hset : set < 2) (hcl : cl < 257) (hC : CM md ps mc o set cl (LK, LP, LT, LQ, NQ, TP, LA) LC ls) (hW : WR o W wc wp) (h : ∀ wc wp, WR o (fun c p => W c p ∨ W11 md ls ls.length c p) wc wp → post (wc, wp)) : wp_met_Mo_look post (nI (sf md)) (nI set) (nI cl) wc wp LC LK LT TP LA := by
  have key := sp_look_lp hset hcl hC h ls.length 0 (Nat.zero_add _) wc wp (WR_iff (fun c p => ⟨Or.inl, fun w => ?_⟩) hW)
  · rw [Nat.zero_add] at key
    exact ⟨_, key⟩
  · rcases w with w | ⟨-, j, l, w, -⟩
    · exact w
    · omega
end Look
