/-! pure: the model's order of constants -/
theorem tkW_nI {x : Int32} (h : tkW x = true) : ∃ a : Nat, 0 < a ∧ a < 128 ∧ x = nI a := by
  have hb : 48 ≤ x.toInt ∧ x.toInt ≤ 122 := by
    have c1 : (97 : Int32).toInt = 97 := by decide
    have c2 : (122 : Int32).toInt = 122 := by decide
    have c3 : (65 : Int32).toInt = 65 := by decide
    have c4 : (90 : Int32).toInt = 90 := by decide
    have c5 : (48 : Int32).toInt = 48 := by decide
    have c6 : (57 : Int32).toInt = 57 := by decide
    have c7 : (95 : Int32).toInt = 95 := by decide
    unfold tkW tkS tkD at h
    simp only [Bool.or_eq_true, Bool.and_eq_true, decide_eq_true_eq] at h
    rcases h with ((⟨h1, h2⟩ | ⟨h1, h2⟩) | h1) | ⟨h1, h2⟩
    · have q1 := Int32.le_iff_toInt_le.mp h1
      have q2 := Int32.le_iff_toInt_le.mp h2
      omega
    · have q1 := Int32.le_iff_toInt_le.mp h1
      have q2 := Int32.le_iff_toInt_le.mp h2
      omega
    · rw [h1, c7]
      omega
    · have q1 := Int32.le_iff_toInt_le.mp h1
      have q2 := Int32.le_iff_toInt_le.mp h2
      omega
  have c0 : (0 : Int32).toInt = 0 := by decide
  obtain ⟨a, ha, e⟩ := nI_of (x := x) (fun q => by have := Int32.lt_iff_toInt_lt.mp q; omega)
  rw [e, nI_toInt ha] at hb
  exact ⟨a, by omega, by omega, e⟩
theorem cw_cons (x y : Int32) (xs ys : List Int32) : cw (x :: xs) (y :: ys) = if x = y then cw xs ys else if x < y then -1 else 1 := by
  rw [cw]
section MOrder
variable {post : Int32 → Unit → Prop} {F CN CV CF : Nat → Int32}
theorem ord_lp {fa fb la lb x y : Nat} (ha : fa + la ≤ 196608) (hb : fb + lb ≤ 196608) (hx : x < 2200) (hy : y < 2200) (ex : CF x = nI fa) (ey : CF y = nI fb) (vx : CV x = nI la) (vy : CV y = nI lb) (wa : ∀ j, j < la → tkW (F (fa + j)) = true) (wb : ∀ j, j < lb → tkW (F (fb + j)) = true) (h : ∀ r : Int32, r.toInt.sign = cw (sl F fa la) (sl F fb lb) → post r ()) : ∀ m k : Nat, k + m = min la lb → cw (sl F (fa + k) (la - k)) (sl F (fb + k) (lb - k)) = cw (sl F fa la) (sl F fb lb) → lw_met_Mo_order_154 post (nI (min la lb)) (nI x) CF F (nI y) CV (m + 1) (nI k) := by
  have kx : (nI x).toNatClampNeg = x := nI_clamp (by omega)
  have ky : (nI y).toNatClampNeg = y := nI_clamp (by omega)
  have ix : vp_in (nI x) 2200 := vp_in_nI hx (by omega)
  have iy : vp_in (nI y) 2200 := vp_in_nI hy (by omega)
  intro m
  induction m with
  | zero =>
    intro k hk hc
    refine pk_le (min la lb) k (fun _ => ?_) (fun q => absurd q (by omega))
    refine ⟨ix, fun y34 h34 => ⟨iy, fun y36 h36 y37 h37 => ?_⟩⟩
    rw [kx, vx] at h34
    rw [ky, vy] at h36
    refine h y37 ?_
    rw [h37, h34, h36, pk_sub_toInt (by omega) (by omega), ← hc]
    rcases Nat.lt_trichotomy la lb with q | q | q
    · obtain ⟨d, hd⟩ : ∃ d, lb - k = d + 1 := ⟨lb - k - 1, by omega⟩
      rw [show la - k = 0 by omega, hd, Int.sign_eq_neg_one_of_neg (by omega)]
      rfl
    · rw [show la - k = 0 by omega, show lb - k = 0 by omega, q, Int.sub_self]
      rfl
    · obtain ⟨d, hd⟩ : ∃ d, la - k = d + 1 := ⟨la - k - 1, by omega⟩
      rw [show lb - k = 0 by omega, hd, Int.sign_eq_one_of_pos (by omega)]
      rfl
  | succ m ih =>
    intro k hk hc
    refine pk_le (min la lb) k (fun q => absurd q (by omega)) (fun _ => ?_)
    obtain ⟨a, a1, a2, a3⟩ := tkW_nI (wa k (by omega))
    obtain ⟨b, b1, b2, b3⟩ := tkW_nI (wb k (by omega))
    refine ⟨ix, fun y21 h21 y22 h22 => ?_⟩
    rw [kx, ex] at h21
    rw [h21, nI_add] at h22
    subst h22
    refine ⟨vp_in_nI (by omega) (by omega), fun y24 h24 y25 h25 => ⟨iy, fun y27 h27 y28 h28 => ?_⟩⟩
    rw [ky, ey] at h27
    rw [h27, nI_add] at h28
    subst h28
    refine ⟨vp_in_nI (by omega) (by omega), fun y30 h30 y31 h31 y32 h32 => ?_⟩
    rw [nI_clamp (by omega), a3] at h24
    rw [nI_clamp (by omega), b3] at h30
    rw [h24, pk_andN (by omega) 8 (by decide), Nat.mod_eq_of_lt (by omega)] at h25
    rw [h30, pk_andN (by omega) 8 (by decide), Nat.mod_eq_of_lt (by omega)] at h31
    rw [h25, h31] at h32
    have e32 : y32.toInt = (a : Int) - b := by rw [h32, pk_sub_toInt (by omega) (by omega)]
    have c0 : (0 : Int32).toInt = 0 := by decide
    have hl : sl F (fa + k) (la - k) = nI a :: sl F (fa + (k + 1)) (la - (k + 1)) := by
      obtain ⟨d, hd⟩ : ∃ d, la - k = d + 1 := ⟨la - k - 1, by omega⟩
      rw [hd, show la - (k + 1) = d by omega, ← a3]
      rfl
    have hr : sl F (fb + k) (lb - k) = nI b :: sl F (fb + (k + 1)) (lb - (k + 1)) := by
      obtain ⟨d, hd⟩ : ∃ d, lb - k = d + 1 := ⟨lb - k - 1, by omega⟩
      rw [hd, show lb - (k + 1) = d by omega, ← b3]
      rfl
    rw [hl, hr] at hc
    refine ⟨fun z => ?_, fun z => ?_⟩
    · have e : a = b := by
        have := congrArg Int32.toInt z
        rw [e32, c0] at this
        omega
      rw [nI_1]
      refine ih (k + 1) (by omega) ?_
      rw [← hc, cw_cons, if_pos (by rw [e])]
    · have e : ¬ a = b := fun w => z (Int32.toInt_inj.mp (by rw [e32, c0]; omega))
      refine h y32 ?_
      rw [e32, ← hc, cw_cons]
      have hne : ¬ nI a = nI b := fun w => e ((nI_eq (by omega) (by omega)).mp w)
      rw [if_neg hne]
      by_cases q : a < b
      · rw [if_pos (nI_lt q (by omega)), Int.sign_eq_neg_one_of_neg (by omega)]
      · rw [if_neg (fun w => q ((nI_ltI (by omega) (by omega)).mp w)), Int.sign_eq_one_of_pos (by omega)]
theorem sp_Mo_order {mc : List Con} {live i j : Nat} {a b : Con} (hl : live < 2) {qq : Bool} (hM : MCo qq mc (1100 * live) CN CV CF F) (hmc : mc.length ≤ 1100) (hi : mc[i]? = some a) (hj : mc[j]? = some b) (oa : wOk a) (ob : wOk b) (h : ∀ r : Int32, r.toInt.sign = cc a b → post r ()) : wp_met_Mo_order post (nI i) (nI j) (nI live) F CN CV CF := by
  have hil := (List.getElem?_eq_some_iff.mp hi).1
  have hjl := (List.getElem?_eq_some_iff.mp hj).1
  intro y1 h1 y2 h2 y3 h3 y4 h4
  rw [show (1100 : Int32) = nI 1100 from rfl, pk_mul] at h1 h3
  rw [h1, nI_add] at h2
  rw [h3, nI_add] at h4
  subst h2 h4
  have kx : (nI (1100 * live + i)).toNatClampNeg = 1100 * live + i := nI_clamp (by omega)
  have ky : (nI (1100 * live + j)).toNatClampNeg = 1100 * live + j := nI_clamp (by omega)
  have ix : vp_in (nI (1100 * live + i)) 2200 := vp_in_nI (by omega) (by omega)
  have iy : vp_in (nI (1100 * live + j)) 2200 := vp_in_nI (by omega) (by omega)
  have z10 : ¬ (1 : Int32) = 0 := by decide
  have z01 : ¬ (0 : Int32) = 1 := by decide
  have num : ∀ (P : Prop), (CN (1100 * live + i) = 1 ∨ CN (1100 * live + i) = 0) → (CN (1100 * live + j) = 1 ∨ CN (1100 * live + j) = 0) → (∀ r : Int32, r = (if CN (1100 * live + i) = CN (1100 * live + j) then (if CV (1100 * live + j) ≤ CV (1100 * live + i) then (if CV (1100 * live + i) ≤ CV (1100 * live + j) then (0 : Int32) else (1 : Int32)) else ((-1) : Int32)) else (if CN (1100 * live + i) = 0 then (1 : Int32) else ((-1) : Int32))) → r.toInt.sign = cc a b) → jw_met_Mo_order_42 post (nI (1100 * live + i)) CN (nI (1100 * live + j)) CV () := by
    intro _ _ _ hr
    unfold jw_met_Mo_order_42
    rw [kx, ky]
    exact ⟨ix, fun y39 h39 => ⟨iy, fun y41 h41 => ⟨⟨fun _ => ⟨ix, iy, fun _ => ⟨ix, iy, trivial⟩, fun _ => trivial⟩, fun _ => ⟨ix, trivial⟩⟩, fun y42 h42 => h y42 (hr y42 (by rw [h42, h39, h41]))⟩⟩⟩
  refine ⟨ix, fun y6 h6 => ?_⟩
  rw [kx] at h6
  rcases hM i a hi with ⟨a1, a2, a3⟩ | ⟨a1, a2, a3, a4, fa, a5, ⟨a6, -⟩, a7⟩
  · rw [a2] at h6
    refine ⟨fun z => absurd (h6.symm.trans z) z10, fun _ => ?_⟩
    rcases hM j b hj with ⟨b1, b2, b3⟩ | ⟨b1, b2, b3, b4, fb, b5, ⟨b6, -⟩, b7⟩
    · refine num True (Or.inl a2) (Or.inl b2) (fun r hr => ?_)
      rw [a2, b2, if_pos rfl] at hr
      have hcc : cc a b = (a.2 - b.2).sign := by
        unfold cc
        rw [a1, b1]
        rfl
      rw [hcc, ← a3, ← b3, hr]
      by_cases q : CV (1100 * live + j) ≤ CV (1100 * live + i)
      · have q' := Int32.le_iff_toInt_le.mp q
        rw [if_pos q]
        by_cases q2 : CV (1100 * live + i) ≤ CV (1100 * live + j)
        · have q2' := Int32.le_iff_toInt_le.mp q2
          rw [if_pos q2, show (CV (1100 * live + i)).toInt - (CV (1100 * live + j)).toInt = 0 by omega]
          decide
        · have q2' : ¬ (CV (1100 * live + i)).toInt ≤ (CV (1100 * live + j)).toInt := fun w => q2 (Int32.le_iff_toInt_le.mpr w)
          rw [if_neg q2, Int.sign_eq_one_of_pos (a := (CV (1100 * live + i)).toInt - (CV (1100 * live + j)).toInt) (by omega)]
          decide
      · have q' : ¬ (CV (1100 * live + j)).toInt ≤ (CV (1100 * live + i)).toInt := fun w => q (Int32.le_iff_toInt_le.mpr w)
        rw [if_neg q, Int.sign_eq_neg_one_of_neg (a := (CV (1100 * live + i)).toInt - (CV (1100 * live + j)).toInt) (by omega)]
        decide
    · refine num True (Or.inl a2) (Or.inr b3) (fun r hr => ?_)
      rw [a2, b3, if_neg z10, if_neg z10] at hr
      have hcc : cc a b = -1 := by
        obtain ⟨w, v⟩ := b
        cases w with
        | nil => exact absurd rfl b1
        | cons x xs =>
          unfold cc
          rw [a1]
          rfl
      rw [hcc, hr]
      decide
  · rw [a3] at h6
    refine ⟨fun _ => ?_, fun z => absurd h6 z⟩
    refine ⟨iy, fun y9 h9 => ?_⟩
    rw [ky] at h9
    rcases hM j b hj with ⟨b1, b2, b3⟩ | ⟨b1, b2, b3, b4, fb, b5, ⟨b6, -⟩, b7⟩
    · rw [b2] at h9
      refine ⟨fun z => absurd (h9.symm.trans z) z10, fun _ => ?_⟩
      refine num True (Or.inr a3) (Or.inl b2) (fun r hr => ?_)
      rw [a3, b2, if_neg z01, if_pos rfl] at hr
      have hcc : cc a b = 1 := by
        obtain ⟨w, v⟩ := a
        cases w with
        | nil => exact absurd rfl a1
        | cons x xs =>
          unfold cc
          rw [b1]
          rfl
      rw [hcc, hr]
      decide
    · rw [b3] at h9
      refine ⟨fun _ => ?_, fun z => absurd h9 z⟩
      rw [kx, ky]
      refine ⟨ix, fun y11 h11 => ⟨iy, fun y13 h13 => ⟨⟨fun _ => ⟨iy, trivial⟩, fun _ => ⟨ix, trivial⟩⟩, fun y14 h14 => ?_⟩⟩⟩
      rw [a4] at h11 h14
      rw [b4] at h13 h14
      have e14 : y14 = nI (min a.1.length b.1.length) := by
        rw [h14, h11, h13]
        by_cases q : b.1.length ≤ a.1.length
        · rw [if_pos (nI_le q (by omega)), Nat.min_eq_right q]
        · rw [if_neg (fun w => q ((nI_leI (by omega) (by omega)).mp w)), Nat.min_eq_left (by omega)]
      rw [e14]
      have hcc : cc a b = cw a.1 b.1 := by
        unfold cc
        by_cases q : cw a.1 b.1 = 0
        · rw [if_pos q, q, a2, b2]
          rfl
        · rw [if_neg q]
      refine ⟨_, ord_lp a6 b6 (by omega) (by omega) a5 b5 a4 b4 (fun k hk => oa.1 _ ?_) (fun k hk => ob.1 _ ?_) (fun r hr => h r ?_) (min a.1.length b.1.length) 0 (Nat.zero_add _) rfl⟩
      · rw [← a7]
        exact sl_in _ _ hk
      · rw [← b7]
        exact sl_in _ _ hk
      · rw [hr, a7, b7, hcc]
end MOrder
