/-! pure: the model takes a variable -/
theorem mVar_hit {vs : List (Option Wd)} {w : Wd} {j : Nat} (hw : ¬ w = [95]) (h : vs[j]? = some (some w)) (hn : ∀ i, i < j → ¬ vs[i]? = some (some w)) : mVar vs w = some (j, vs) := by
  obtain ⟨hj, e⟩ := List.getElem?_eq_some_iff.mp h
  have e2 : vs.findIdx? (fun y => decide (y = some w)) = some j := by
    rw [List.findIdx?_eq_some_iff_getElem]
    refine ⟨hj, by simp [e], fun i hi => ?_⟩
    have := hn i hi
    rw [List.getElem?_eq_getElem (by omega)] at this
    simpa using this
  unfold mVar
  rw [if_neg hw, e2]
theorem mVar_new {vs : List (Option Wd)} {w : Wd} (h : w = [95] ∨ ∀ i : Nat, ¬ vs[i]? = some (some w)) : mVar vs w = if vs.length = 12 then none else some (vs.length, vs ++ [if w = [95] then none else some w]) := by
  have e : (if w = [95] then none else vs.findIdx? (fun y => decide (y = some w))) = none := by
    by_cases q : w = [95]
    · rw [if_pos q]
    · rw [if_neg q, List.findIdx?_eq_none_iff]
      intro x hx
      rcases h with z | z
      · exact absurd z q
      · obtain ⟨i, hi, ei⟩ := List.mem_iff_getElem.mp hx
        have := z i
        rw [List.getElem?_eq_getElem hi, ei] at this
        simpa using this
  unfold mVar
  rw [e]
theorem one95 {F : Nat → Int32} {a m : Nat} : sl F a m = [95] ↔ m = 1 ∧ F a = 95 := by
  constructor
  · intro h
    have h1 := congrArg List.length h
    rw [sl_len] at h1
    have h2 : m = 1 := h1
    subst h2
    exact ⟨rfl, (List.cons.inj h).1⟩
  · intro ⟨h1, h2⟩
    subst h1
    show [F a] = [95]
    rw [h2]
section MVarS
variable {post : Int32 → (Int32 × Int32 × Int32 × Int32 × Int32 × Int64 × Int32 × Int32 × (Nat → Int32) × (Nat → Int32) × (Nat → Int32) × (Nat → Int32) × (Nat → Int32) × (Nat → Int32) × (Nat → Int32)) → Prop} {vs : List (Option Wd)} {s set cl k i a m nc : Nat} {fc fp base tk as9 : Int32} {am : Int64} {F CN CV CF LT TP VF VL : Nat → Int32}
theorem sp_mv_end {j : Nat} (hs : s ≤ 196608) (hB : ∀ j, j < s → byt (F j)) (hset : set < 2) (hcl : cl < 257) (hk : k < 13) (hi : i < 6) (hm : 0 < m) (hb : a + m ≤ s) (hM : MV vs VF VL F) (hvs : vs.length ≤ 12) (hj : j ≤ vs.length) (hit : j < vs.length → mVar vs (sl F a m) = some (j, vs)) (new : j = vs.length → sl F a m = [95] ∨ ∀ i : Nat, ¬ vs[i]? = some (some (sl F a m)))
    (h0 : mVar vs (sl F a m) = none → ∀ u : U13, Sm u CN CV CF LT → post 0 (3, nI a - base, u))
    (h1 : ∀ j2 vs2 code VF2 VL2, mVar vs (sl F a m) = some (j2, vs2) → code.toInt = -1 - (j2 : Int) → MV vs2 VF2 VL2 F → vs2.length ≤ 12 → TmQ post F s set cl k i a (a + m) fc fp base LT TP code nc vs2.length CN CV CF VF2 VL2) : jw_met_Mo_term_112 post (nI j) tk (nI a) (nI (a + m)) am (nI nc) (nI vs.length) CN CV CF LT TP VF VL base (b01 (decide (sl F a m = [95]))) (nI i) (nI cl) (nI k) fc fp (nI s) F (nI set) () := by
  have code : ∀ j2 : Nat, j2 ≤ 12 → ∀ y : Int32, y = (-1 : Int32) - nI j2 → y.toInt = -1 - (j2 : Int) := by
    intro j2 hj2 y hy
    have m1 : (-1 : Int32).toInt = -1 := by decide
    have := i_sub hy (by rw [m1, nI_toInt (by omega)]; omega) (by rw [m1, nI_toInt (by omega)]; omega)
    rw [this, m1, nI_toInt (by omega)]
  refine pk_eq j 12 (fun q => ?_) (fun q => ?_)
  · have e := mVar_new (new (by omega))
    rw [if_pos (by omega)] at e
    refine sp_Mo_flaw ?_
    exact ⟨Or.inl rfl, h0 e _ ⟨rfl, rfl, rfl, rfl⟩⟩
  · refine pk_eq j vs.length (fun r => ?_) (fun r => ?_)
    · have e := mVar_new (new r)
      rw [if_neg (by omega)] at e
      have cj : (nI j).toNatClampNeg = j := nI_clamp (by omega)
      refine ⟨vp_in_nI (by omega) (by omega), fun g37 h37 y38 h38 => ⟨vp_in_nI (by omega) (by omega), fun g40 h40 y41 h41 => ?_⟩⟩
      rw [cj] at h37 h40
      rw [nI_1] at h41
      intro y45 h45
      have hl : (vs ++ [if sl F a m = [95] then none else some (sl F a m)]).length = vs.length + 1 := by simp
      have hq := h1 vs.length _ y45 g37 g40 e (by rw [← r]; exact code j (by omega) y45 h45) ?_ (by rw [hl]; omega)
      · rw [hl] at hq
        rw [h41]
        exact mterm_end hs hB hset hcl hk hi hb hq
      · intro j3 x hx
        rcases Nat.lt_or_ge j3 vs.length with g | g
        · rw [List.getElem?_append_left g] at hx
          have := hM j3 x hx
          rw [h37, h40, upd_ne (by omega), upd_ne (by omega)]
          exact this
        · have h2 := (List.getElem?_eq_some_iff.mp hx).1
          rw [hl] at h2
          obtain rfl : j3 = vs.length := by omega
          rw [List.getElem?_append_right (Nat.le_refl _), Nat.sub_self] at hx
          have hx2 : (if sl F a m = [95] then none else some (sl F a m)) = x := by simpa using hx
          rw [h37, h40, ← r, upd_same, upd_same]
          by_cases z : sl F a m = [95]
          · rw [if_pos z] at hx2
            subst hx2
            show y38 = 0
            rw [h38, decide_eq_true z]
            rfl
          · rw [if_neg z] at hx2
            subst hx2
            refine ⟨fun q2 => ?_, ?_, a, rfl, ?_, ?_⟩
            · have := congrArg List.length q2
              rw [sl_len] at this
              simp at this
              omega
            · rw [h38, decide_eq_false z, sl_len]
              show nI (a + m) - nI a = nI m
              rw [pk_sub (by omega), show a + m - a = m by omega]
            · rw [sl_len]
              omega
            · rw [sl_len]
    · intro y45 h45
      exact mterm_end hs hB hset hcl hk hi hb (h1 j vs y45 VF VL (hit (by omega)) (code j (by omega) y45 h45) hM hvs)
theorem sp_mv_lp (hs : s ≤ 196608) (hB : ∀ j, j < s → byt (F j)) (hset : set < 2) (hcl : cl < 257) (hk : k < 13) (hi : i < 6) (hm : 0 < m) (hb : a + m ≤ s) (hM : MV vs VF VL F) (hvs : vs.length ≤ 12)
    (h0 : mVar vs (sl F a m) = none → ∀ u : U13, Sm u CN CV CF LT → post 0 (3, nI a - base, u))
    (h1 : ∀ j2 vs2 code VF2 VL2, mVar vs (sl F a m) = some (j2, vs2) → code.toInt = -1 - (j2 : Int) → MV vs2 VF2 VL2 F → vs2.length ≤ 12 → TmQ post F s set cl k i a (a + m) fc fp base LT TP code nc vs2.length CN CV CF VF2 VL2) : ∀ d j : Nat, j + d = vs.length → (¬ sl F a m = [95] → ∀ i, i < j → ¬ vs[i]? = some (some (sl F a m))) → lw_met_Mo_term_46 post (nI vs.length) (b01 (decide (sl F a m = [95]))) VL (nI (a + m)) (nI a) VF F tk am (nI nc) CN CV CF LT TP base (nI i) (nI cl) (nI k) fc fp (nI s) (nI set) (d + 1) (nI j) := by
  intro d
  induction d with
  | zero =>
    intro j hj hn
    refine pk_le vs.length j (fun _ => ?_) (fun q => absurd q (by omega))
    refine sp_mv_end hs hB hset hcl hk hi hm hb hM hvs (by omega) (fun z => absurd z (by omega)) (fun _ => ?_) h0 h1
    by_cases z : sl F a m = [95]
    · exact Or.inl z
    · refine Or.inr (fun i2 z2 => ?_)
      have := (List.getElem?_eq_some_iff.mp z2).1
      exact hn z i2 (by omega) z2
  | succ d ih =>
    intro j hj hn
    have hjl : j < vs.length := by omega
    have hx : vs[j]? = some vs[j] := List.getElem?_eq_getElem hjl
    have hmv := hM j _ hx
    generalize vs[j] = x at hx hmv
    have cj : (nI j).toNatClampNeg = j := nI_clamp (by omega)
    have hin : vp_in (nI j) 13 := vp_in_nI (by omega) (by omega)
    have go : (¬ sl F a m = [95] → ¬ x = some (sl F a m)) → lw_met_Mo_term_46 post (nI vs.length) (b01 (decide (sl F a m = [95]))) VL (nI (a + m)) (nI a) VF F tk am (nI nc) CN CV CF LT TP base (nI i) (nI cl) (nI k) fc fp (nI s) (nI set) (d + 1) (nI j + 1) := by
      intro q
      rw [nI_1]
      refine ih (j + 1) (by omega) (fun z i2 hi2 => ?_)
      rcases Nat.lt_or_ge i2 j with g | g
      · exact hn z i2 g
      · obtain rfl : i2 = j := by omega
        rw [hx]
        exact fun z2 => q z (Option.some.inj z2)
    refine pk_le vs.length j (fun q => absurd q (by omega)) (fun _ => ?_)
    refine b01_if (fun q => ⟨hin, fun y29 h29 y30 h30 => ?_⟩) (fun q => go (fun z => absurd (of_decide_eq_true q) z))
    have q' := of_decide_eq_false q
    rw [cj] at h29
    rw [pk_sub (by omega), show a + m - a = m by omega] at h30
    subst h29 h30
    cases x with
    | none =>
      have e : VL j = 0 := hmv
      refine ⟨fun z => ?_, fun _ => go (fun _ z => by cases z)⟩
      exfalso
      rw [e] at z
      have := congrArg Int32.toInt z
      rw [nI_toInt (by omega)] at this
      have z0 : (0 : Int32).toInt = 0 := by decide
      rw [z0] at this
      omega
    | some w =>
      obtain ⟨g1, g2, a2, g3, g4, g5⟩ := hmv
      have hlen : some w = some (sl F a m) → w.length = m := fun z => by rw [Option.some.inj z, sl_len]
      refine ⟨fun z => ⟨hin, fun y32 h32 y33 h33 => ?_⟩, fun z => go (fun _ z2 => z (by rw [g2, hlen z2]))⟩
      have hw : w.length = m := by
        rw [g2] at z
        have := congrArg Int32.toInt z
        rw [nI_toInt (by omega), nI_toInt (by omega)] at this
        omega
      rw [cj, g3] at h32
      rw [pk_sub (by omega), show a + m - a = m by omega] at h33
      subst h32 h33
      rw [hw] at g4 g5
      refine sp_Mo_isSame g4 (by omega) ?_
      refine b01_if (fun z2 => go (fun _ z3 => ?_)) (fun z2 => ?_)
      · have := of_decide_eq_false z2
        exact this (by rw [g5, Option.some.inj z3])
      · have e := of_decide_eq_true z2
        have ew : w = sl F a m := by rw [← g5, e]
        refine sp_mv_end hs hB hset hcl hk hi hm hb hM hvs (by omega) (fun _ => mVar_hit q' (by rw [hx, ew]) (hn q')) (fun z3 => absurd z3 (by omega)) h0 h1
theorem sp_Mo_term_var (hs : s ≤ 196608) (hB : ∀ j, j < s → byt (F j)) (hset : set < 2) (hcl : cl < 257) (hk : k < 13) (hi : i < 6) (hm : 0 < m) (hb : a + m ≤ s) (hM : MV vs VF VL F) (hvs : vs.length ≤ 12)
    (h0 : mVar vs (sl F a m) = none → ∀ u : U13, Sm u CN CV CF LT → post 0 (3, nI a - base, u))
    (h1 : ∀ j2 vs2 code VF2 VL2, mVar vs (sl F a m) = some (j2, vs2) → code.toInt = -1 - (j2 : Int) → MV vs2 VF2 VL2 F → vs2.length ≤ 12 → TmQ post F s set cl k i a (a + m) fc fp base LT TP code nc vs2.length CN CV CF VF2 VL2) : wp_met_Mo_term post (nI k) (nI i) fc fp (nI set) base (nI s) 2 (nI a) (nI (a + m)) am (nI cl) as9 (nI nc) (nI vs.length) F CN CV CF LT TP VF VL := by
  have lp : jw_met_Mo_term_41 post (nI vs.length) VL (nI (a + m)) (nI a) VF F 2 am (nI nc) CN CV CF LT TP base (nI i) (nI cl) (nI k) fc fp (nI s) (nI set) (b01 (decide (sl F a m = [95]))) := ⟨vs.length + 1, sp_mv_lp hs hB hset hcl hk hi hm hb hM hvs h0 h1 vs.length 0 (by omega) (fun _ i2 hi2 => absurd hi2 (by omega))⟩
  refine ⟨fun _ => ?_, fun z => absurd rfl z⟩
  intro y19 h19
  rw [pk_sub (by omega), show a + m - a = m by omega] at h19
  subst h19
  refine pk_eq m 1 (fun q => ?_) (fun q => ?_)
  · refine sp_Mo_at hs (by omega) (fun ha => ?_) (fun z => absurd z (by omega))
    intro y23 h23
    rw [b01_dec, u_dec (hB a ha) (by decide) (by decide)] at h23
    have e : decide (F a = 95) = decide (sl F a m = [95]) := by
      by_cases z : F a = 95
      · rw [decide_eq_true z, decide_eq_true (one95.mpr ⟨q, z⟩)]
      · rw [decide_eq_false z, decide_eq_false (fun z2 => z (one95.mp z2).2)]
    rw [h23, e]
    exact lp
  · have e : decide (sl F a m = [95]) = false := decide_eq_false (fun z => q (one95.mp z).1)
    rw [e] at lp
    exact lp
end MVarS
