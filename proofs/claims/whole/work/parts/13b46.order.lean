/-! pure: the order of constants; the model's tables -/
theorem cw_neg : ∀ (x y : List Int32), cw x y = -cw y x
  | [], [] => rfl
  | [], _ :: _ => rfl
  | _ :: _, [] => rfl
  | x :: xs, y :: ys => by
    unfold cw
    by_cases h : x = y
    · rw [if_pos h, if_pos h.symm]
      exact cw_neg xs ys
    · have h2 : ¬ y = x := fun z => h z.symm
      rw [if_neg h, if_neg h2]
      by_cases l : x < y
      · have l2 : ¬ y < x := Int32.not_lt.mpr (Int32.le_of_lt l)
        rw [if_pos l, if_neg l2]
      · have l2 : y < x := by
          rcases Int32.lt_or_lt_of_ne h with q | q
          · exact absurd q l
          · exact q
        rw [if_neg l, if_pos l2]
        rfl
theorem cw_trans : ∀ (x y z : List Int32), cw x y < 0 → cw y z < 0 → cw x z < 0
  | [], [], _, h, _ => by simp [cw] at h
  | [], _ :: _, [], _, h => by simp [cw] at h
  | [], _ :: _, _ :: _, _, _ => by simp [cw]
  | _ :: _, [], _, h, _ => by simp [cw] at h
  | _ :: _, _ :: _, [], _, h => by simp [cw] at h
  | x :: xs, y :: ys, z :: zs, h1, h2 => by
    unfold cw at h1 h2 ⊢
    by_cases e1 : x = y
    · rw [if_pos e1] at h1
      subst e1
      by_cases e2 : x = z
      · rw [if_pos e2] at h2 ⊢
        exact cw_trans xs ys zs h1 h2
      · rw [if_neg e2] at h2 ⊢
        exact h2
    · rw [if_neg e1] at h1
      have l1 : x < y := by
        by_cases l : x < y
        · exact l
        · rw [if_neg l] at h1
          exact absurd h1 (by decide)
      by_cases e2 : y = z
      · subst e2
        rw [if_neg e1]
        rw [if_pos l1]
        decide
      · rw [if_neg e2] at h2
        have l2 : y < z := by
          by_cases l : y < z
          · exact l
          · rw [if_neg l] at h2
            exact absurd h2 (by decide)
        have l3 : x < z := Int32.lt_trans l1 l2
        have e3 : ¬ x = z := fun q => by subst q; exact absurd l1 (Int32.not_lt.mpr (Int32.le_of_lt l2))
        rw [if_neg e3, if_pos l3]
        decide
/-- a constant: a word and a number; a NUMBER has no word, a NAME has 0 -/
abbrev Con : Type := List Int32 × Int
def cc (x y : Con) : Int := if cw x.1 y.1 = 0 then (x.2 - y.2).sign else cw x.1 y.1
theorem cc_0 {x y : Con} : cc x y = 0 ↔ x = y := by
  unfold cc
  by_cases h : cw x.1 y.1 = 0
  · rw [if_pos h]
    have h1 := cw_0.mp h
    constructor
    · intro q
      have : x.2 - y.2 = 0 := Int.sign_eq_zero_iff_zero.mp q
      exact Prod.ext h1 (by omega)
    · intro q
      rw [q]
      simp
  · rw [if_neg h]
    constructor
    · intro q
      exact absurd q h
    · intro q
      rw [q] at h
      exact absurd (cw_0.mpr rfl) h
theorem cc_neg (x y : Con) : cc x y = -cc y x := by
  unfold cc
  have e := cw_neg x.1 y.1
  by_cases h : cw x.1 y.1 = 0
  · have h2 : cw y.1 x.1 = 0 := by omega
    rw [if_pos h, if_pos h2, ← Int.sign_neg]
    congr 1
    omega
  · have h2 : ¬ cw y.1 x.1 = 0 := by omega
    rw [if_neg h, if_neg h2]
    exact e
theorem cc_trans {x y z : Con} (h1 : cc x y < 0) (h2 : cc y z < 0) : cc x z < 0 := by
  unfold cc at h1 h2 ⊢
  by_cases e1 : cw x.1 y.1 = 0
  · rw [if_pos e1] at h1
    have x1 := cw_0.mp e1
    have s1 := Int.sign_neg_iff.mp h1
    by_cases e2 : cw y.1 z.1 = 0
    · rw [if_pos e2] at h2
      have s2 := Int.sign_neg_iff.mp h2
      rw [x1, if_pos e2]
      exact Int.sign_neg_iff.mpr (by omega)
    · rw [if_neg e2] at h2
      rw [x1, if_neg e2]
      exact h2
  · rw [if_neg e1] at h1
    by_cases e2 : cw y.1 z.1 = 0
    · have x2 := cw_0.mp e2
      rw [← x2, if_neg e1]
      exact h1
    · rw [if_neg e2] at h2
      have := cw_trans x.1 y.1 z.1 h1 h2
      rw [if_neg (by omega)]
      exact this
/-- where a name may stand: in its set's area, or in the area of questions -/
def Ar (q : Bool) (s a m : Nat) : Prop := (65536 * s ≤ a ∧ a + m ≤ 65536 * s + 65536) ∨ (q = true ∧ 131072 ≤ a)
/-- where a text stands -/
def Ao (q : Bool) (s o n : Nat) : Prop := (o = 65536 * s ∧ n ≤ 65536) ∨ (q = true ∧ o = 131072)
theorem Ar_of {q : Bool} {s o n a m : Nat} (h : Ao q s o n) (hm : a + m ≤ n) : Ar q s (o + a) m := by
  rcases h with h | h
  · exact Or.inl (by omega)
  · exact Or.inr ⟨h.1, by omega⟩
def MPr (ws : List (List Int32)) (o : Nat) (PF PL F : Nat → Int32) : Prop := ∀ i w, ws[i]? = some w → ∃ a, PF (o + i) = nI a ∧ PL (o + i) = nI w.length ∧ (a + w.length ≤ 196608 ∧ Ar false (o / 65) a w.length) ∧ sl F a w.length = w
section MPred
variable {post : Int32 → Unit → Prop} {ws : List (List Int32)} {set a m : Nat} {F PF PL PS : Nat → Int32}
theorem sp_Mo_pred_lp (hM : MPr ws (65 * set) PF PL F) (hset : set < 2) (hws : ws.length ≤ 65) (hPS : PS set = nI ws.length) (ha : a + m ≤ 196608) (h : ∀ r, fw (sl F a m) ws r → post r ()) : ∀ d k : Nat, k + d = ws.length → (∀ j, j < k → ¬ ws[j]? = some (sl F a m)) → lw_met_Mo_predicate_2 post (nI set) PS PL (nI (a + m)) (nI a) PF F (d + 1) (nI k) := by
  have cs : (nI set).toNatClampNeg = set := nI_clamp (by omega)
  intro d
  induction d with
  | zero =>
    intro k hk hno
    refine ⟨vp_in_nI hset (by omega), fun y4 h4 => ?_⟩
    rw [cs, hPS] at h4
    subst h4
    refine pk_le ws.length k (fun _ => ?_) (fun q => absurd q (by omega))
    refine h _ (Or.inr ⟨rfl, fun j hj => ?_⟩)
    have := (List.getElem?_eq_some_iff.mp hj).1
    exact hno j (by omega) hj
  | succ d ih =>
    intro k hk hno
    have hkl : k < ws.length := by omega
    have hwk : ws[k]? = some ws[k] := List.getElem?_eq_getElem hkl
    obtain ⟨a2, e1, e2, ⟨e3, -⟩, e4⟩ := hM k _ hwk
    have go : ¬ ws[k] = sl F a m → lw_met_Mo_predicate_2 post (nI set) PS PL (nI (a + m)) (nI a) PF F (d + 1) (nI k + 1) := by
      intro q
      rw [nI_1]
      refine ih (k + 1) (by omega) (fun j hj => ?_)
      rcases Nat.lt_or_ge j k with h9 | h9
      · exact hno j h9
      · obtain rfl : j = k := by omega
        rw [hwk]
        exact fun z => q (Option.some.inj z)
    refine ⟨vp_in_nI hset (by omega), fun y4 h4 => ?_⟩
    rw [cs, hPS] at h4
    subst h4
    refine pk_le ws.length k (fun q => absurd q (by omega)) (fun _ => ?_)
    intro y5 h5 y6 h6
    rw [show (65 : Int32) = nI 65 from rfl, pk_mul] at h5
    rw [h5, nI_add] at h6
    subst h6
    have c6 : (nI (65 * set + k)).toNatClampNeg = 65 * set + k := nI_clamp (by omega)
    refine ⟨vp_in_nI (by omega) (by omega), fun y8 h8 y9 h9 => ?_⟩
    rw [c6, e2] at h8
    rw [pk_sub (by omega), show a + m - a = m by omega] at h9
    subst h8 h9
    have hlen : ws[k] = sl F a m → (ws[k]).length = m := fun z => by rw [z, sl_len]
    refine ⟨fun q => ?_, fun q => go (fun z => q (by rw [hlen z]))⟩
    have q' : (ws[k]).length = m := by
      have := congrArg Int32.toInt q
      rw [nI_toInt (by omega), nI_toInt (by omega)] at this
      omega
    refine ⟨vp_in_nI (by omega) (by omega), fun y11 h11 y12 h12 => ?_⟩
    rw [c6, e1] at h11
    rw [pk_sub (by omega), show a + m - a = m by omega] at h12
    subst h11 h12
    rw [q'] at e3 e4
    refine sp_Mo_isSame e3 ha ?_
    refine b01_if (fun z => go (fun z2 => ?_)) (fun z => ?_)
    · have := of_decide_eq_false z
      exact this (by rw [e4, z2])
    · have e := of_decide_eq_true z
      exact h _ (Or.inl ⟨k, rfl, by rw [hwk, ← e4, e], hno⟩)
theorem sp_Mo_predicate (hM : MPr ws (65 * set) PF PL F) (hset : set < 2) (hws : ws.length ≤ 65) (hPS : PS set = nI ws.length) (ha : a + m ≤ 196608) (h : ∀ r, fw (sl F a m) ws r → post r ()) : wp_met_Mo_predicate post (nI set) (nI a) (nI (a + m)) F PF PL PS :=
  ⟨ws.length + 1, sp_Mo_pred_lp hM hset hws hPS ha h ws.length 0 (by omega) (fun j hj => absurd hj (by omega))⟩
end MPred
