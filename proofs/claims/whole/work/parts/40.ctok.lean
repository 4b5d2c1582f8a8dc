/-! pure: tokens, the class's side -/
theorem sp_skip {post : Int32 → Prop} {F : Nat → Int32} {n : Nat} (hn : n < 65536) : ∀ (d k : Nat) (cm : Bool), k + d = n → post (nI (tkSk F d k cm)) → lw_met_To_skipBlanks_2 post (nI n) F (d + 1) (b01 cm, nI k) := by
  intro d
  induction d with
  | zero =>
    intro k cm hk h
    exact pk_le n k (fun _ => h) (fun q => absurd q (by omega))
  | succ d ih =>
    intro k cm hk h
    have hin : vp_in (nI k) 65536 := vp_in_nI (by omega) (by omega)
    have hcl : (nI k).toNatClampNeg = k := nI_clamp (by omega)
    have jw : ∀ cm2 : Bool, (if b01 cm = 0 then (if F k = 37 then (1 : Int32) else 0) else (if F k = 10 then (0 : Int32) else 1)) = b01 cm2 → post (nI (tkSk F d (k + 1) cm2)) → jw_met_To_skipBlanks_46 post (fun x9 => lw_met_To_skipBlanks_2 post (nI n) F (d + 1) x9) (b01 cm) (nI k) F () := by
      intro cm2 e h2
      refine ⟨⟨fun _ => ⟨hin, trivial⟩, fun _ => ⟨hin, trivial⟩⟩, fun y hy z hz => ?_⟩
      rw [hcl] at hy
      rw [hy, e, hz, nI_1]
      exact ih (k + 1) cm2 (by omega) h2
    refine pk_le n k (fun q => absurd q (by omega)) (fun _ => ?_)
    refine b01_if (fun hc => ?_) (fun hc => ?_)
    · subst hc
      refine ⟨hin, fun y hy => ?_⟩
      rw [hcl] at hy
      subst hy
      refine sp_To_isBlank ?_
      refine b01_if (fun hb => ?_) (fun hb => ?_)
      · refine ⟨hin, fun y hy => ?_⟩
        rw [hcl] at hy
        subst hy
        refine ⟨fun h7 => ?_, fun h7 => ?_⟩
        · refine jw true (by simp [b01, h7]) ?_
          have e : tkSk F (d + 1) k false = tkSk F d (k + 1) true := by
            conv => lhs; unfold tkSk
            rw [if_neg (by rw [hb]; decide), if_pos h7]
          rw [e] at h
          exact h
        · have e : tkSk F (d + 1) k false = k := by simp [tkSk, hb, h7]
          rw [e] at h
          exact h
      · refine jw false (by simp [b01, tkB_37 hb]) ?_
        have e : tkSk F (d + 1) k false = tkSk F d (k + 1) false := by simp [tkSk, hb]
        rw [e] at h
        exact h
    · subst hc
      refine jw (!decide (F k = 10)) (by by_cases q : F k = 10 <;> simp [b01, q]) ?_
      exact h
theorem sp_To_skipBlanks {post : Int32 → Prop} {F : Nat → Int32} {n k : Nat} (hn : n < 65536) (hk : k ≤ n) (h : post (nI (tkSk F (n - k) k false))) : wp_met_To_skipBlanks post (nI k) (nI n) F :=
  ⟨n - k + 1, sp_skip hn (n - k) k false (by omega) h⟩
theorem sp_To_isNot {post : Int32 → Unit → Prop} {F : Nat → Int32} {a b : Nat} (hb : b < 65536) (hab : a ≤ b) (h : post (b01 (isnot F a b)) ()) : wp_met_To_isNot post (nI a) (nI b) F := by
  intro y hy
  rw [pk_sub hab] at hy
  subst hy
  have h3 : (nI (b - a) = (3 : Int32)) ↔ b = a + 3 := by
    rw [show (3 : Int32) = nI 3 from rfl, nI_eq (by omega) (by omega)]
    omega
  have c0 : (nI a).toNatClampNeg = a := nI_clamp (by omega)
  have e1 : nI a + (1 : Int32) = nI (a + 1) := nI_1 a
  have e2 : nI a + (2 : Int32) = nI (a + 2) := nI_add a 2
  have c1 : (nI (a + 1)).toNatClampNeg = a + 1 := nI_clamp (by omega)
  have c2 : (nI (a + 2)).toNatClampNeg = a + 2 := nI_clamp (by omega)
  rw [e1, e2, c0, c1, c2]
  refine ⟨⟨fun q => ⟨vp_in_nI (by omega) (by omega), fun _ => ⟨vp_in_nI (by have := h3.mp q; omega) (by omega), fun _ => ⟨vp_in_nI (by have := h3.mp q; omega) (by omega), trivial⟩, fun _ => trivial⟩, fun _ => trivial⟩, fun _ => trivial⟩, fun z hz => ?_⟩
  have e : z = b01 (isnot F a b) := by
    rw [hz]
    by_cases q3 : b = a + 3
    · have q3' := h3.mpr q3
      by_cases q4 : F a = 110
      · by_cases q5 : F (a + 1) = 111
        · by_cases q6 : F (a + 2) = 116
          · rw [if_pos q3', if_pos q4, if_pos q5, if_pos q6]
            simp [b01, isnot, q3, q4, q5, q6]
          · simp [b01, isnot, q4, q5, q6]
        · simp [b01, isnot, q4, q5]
      · simp [b01, isnot, q4]
    · have q3' : ¬ nI (b - a) = (3 : Int32) := fun q => q3 (h3.mp q)
      simp [b01, isnot, q3, q3']
  rw [e]
  exact h
theorem sp_readWord {post : (Int32 × Int32) → Prop} {F : Nat → Int32} {n a : Nat} (hn : n < 65536) (ha : a < n) : ∀ (d k : Nat), a ≤ k → k + d = n → post (tkK F a (tkE F d k), nI (tkE F d k)) → lw_met_To_readWord_13 post (nI n) F (b01 (tkS (F a))) (nI a) (d + 1) (nI k) := by
  have fin : ∀ k : Nat, a ≤ k → k ≤ n → post (tkK F a k, nI k) → jw_met_To_readWord_52 post (b01 (tkS (F a))) (nI k) (nI a) F () := by
    intro k hk hk2 h
    refine b01_if (fun hs => ?_) (fun hs => ?_)
    · have e : tkK F a k = 3 := by simp [tkK, hs]
      rw [e] at h
      exact h
    · refine sp_To_isNot (by omega) hk ?_
      intro y hy
      have e : tkK F a k = y := by
        rw [hy]
        cases hi : isnot F a k <;> simp [tkK, hs, hi, b01]
      rw [e] at h
      exact h
  intro d
  induction d with
  | zero =>
    intro k hak hk h
    exact pk_le n k (fun _ => fin k hak (by omega) h) (fun q => absurd q (by omega))
  | succ d ih =>
    intro k hak hk h
    have hin : vp_in (nI k) 65536 := vp_in_nI (by omega) (by omega)
    have hcl : (nI k).toNatClampNeg = k := nI_clamp (by omega)
    refine pk_le n k (fun q => absurd q (by omega)) (fun _ => ⟨hin, fun y hy => ?_⟩)
    rw [hcl] at hy
    subst hy
    refine sp_To_isWordByte ?_
    refine b01_if (fun hw => ?_) (fun hw => ?_)
    · have e : tkE F (d + 1) k = k := by simp [tkE, hw]
      rw [e] at h
      exact fin k hak (by omega) h
    · have e : tkE F (d + 1) k = tkE F d (k + 1) := by simp [tkE, hw]
      rw [e] at h
      intro z hz
      rw [hz, nI_1]
      exact ih (k + 1) (by omega) (by omega) h
theorem sp_To_readWord {post : (Int32 × Int32) → Prop} {F : Nat → Int32} {n a : Nat} (hn : n < 65536) (ha : a < n) (h : post (tkK F a (tkE F (n - a) a), nI (tkE F (n - a) a))) : wp_met_To_readWord post (nI a) (nI a) (nI n) F := by
  have hin : vp_in (nI a) 65536 := vp_in_nI (by omega) (by omega)
  have hcl : (nI a).toNatClampNeg = a := nI_clamp (by omega)
  refine ⟨hin, fun y hy => ?_⟩
  rw [hcl] at hy
  subst hy
  refine sp_To_isSmall ?_
  exact ⟨n - a + 1, sp_readWord hn ha (n - a) a (Nat.le_refl _) (by omega) h⟩

theorem sp_num_end {post : (Int32 × Int32 × Int32) → Prop} {v6 k s : Nat} {mi : Bool} {v : Int64} (h6 : v6 < 65536) (hk : k < 65536) (hv : v.toInt = min (s : Int) 1099511627776) (h : ∀ kd vl, NumR mi (decide (k ≤ v6)) s kd vl → post (kd, nI k, vl)) : jw_met_To_readNumber_107 post (b01 mi) v (nI k) (nI v6) () := by
  intro w hw kd hkd vl hvl
  have c1 : ((-2147483648) : Int64).toInt = -2147483648 := by decide
  have c2 : (2147483647 : Int64).toInt = 2147483647 := by decide
  have hw2 : w.toInt = if mi = true then -(min (s : Int) 1099511627776) else min (s : Int) 1099511627776 := by
    rw [hw]
    cases mi
    · simp [b01, hv]
    · have := l_neg (a := v) (by omega) (by omega)
      simp [b01, this, hv]
  refine h kd vl ⟨?_, fun h4 => ?_⟩
  · rw [hkd]
    by_cases q : k ≤ v6
    · have q' : nI k ≤ nI v6 := (nI_leI (by omega) (by omega)).mpr q
      simp [q, q']
    · have q' : ¬ nI k ≤ nI v6 := fun z => q ((nI_leI (by omega) (by omega)).mp z)
      by_cases r1 : w < ((-2147483648) : Int64)
      · have r1' := Int64.lt_iff_toInt_lt.mp r1
        rw [c1, hw2] at r1'
        cases mi
        · simp at r1'
          omega
        · simp only [if_true] at r1'
          have r2 : 2147483648 < s := by omega
          simp [q, q', r1, r2]
      · have r1' : ¬ w.toInt < -2147483648 := fun z => r1 (Int64.lt_iff_toInt_lt.mpr (by rw [c1]; exact z))
        by_cases r2 : (2147483647 : Int64) < w
        · have r2' := Int64.lt_iff_toInt_lt.mp r2
          rw [c2, hw2] at r2'
          cases mi
          · simp only [Bool.false_eq_true, if_false] at r2'
            have r3 : 2147483647 < s := by omega
            simp [q, q', r1, r2, r3]
          · simp only [if_true] at r2'
            omega
        · have r2' : ¬ 2147483647 < w.toInt := fun z => r2 (Int64.lt_iff_toInt_lt.mpr (by rw [c2]; exact z))
          rw [hw2] at r1' r2'
          cases mi
          · simp only [Bool.false_eq_true, if_false] at r1' r2'
            have r3 : ¬ 2147483647 < s := by omega
            simp [q, q', r1, r2, r3]
          · simp only [if_true] at r1' r2'
            have r3 : ¬ 2147483648 < s := by omega
            simp [q, q', r1, r2, r3]
  · have r1' : ¬ w.toInt < -2147483648 := by
      intro z
      have r1 : w < ((-2147483648) : Int64) := Int64.lt_iff_toInt_lt.mpr (by rw [c1]; exact z)
      rw [h4] at hkd
      by_cases q' : nI k ≤ nI v6
      · simp [q'] at hkd
      · simp [q', r1] at hkd
    have r2' : ¬ 2147483647 < w.toInt := by
      intro z
      have r2 : (2147483647 : Int64) < w := Int64.lt_iff_toInt_lt.mpr (by rw [c2]; exact z)
      have r1 : ¬ w < ((-2147483648) : Int64) := fun y => r1' (by have := Int64.lt_iff_toInt_lt.mp y; rw [c1] at this; exact this)
      rw [h4] at hkd
      by_cases q' : nI k ≤ nI v6
      · simp [q'] at hkd
      · simp [q', r1, r2] at hkd
    rw [hvl, Int64.toInt_toInt32, i_bm, hw2]
    rw [hw2] at r1' r2'
    cases mi
    · simp only [Bool.false_eq_true, if_false] at r1' r2' ⊢
      omega
    · simp only [if_true] at r1' r2' ⊢
      omega
theorem sp_num {post : (Int32 × Int32 × Int32) → Prop} {F : Nat → Int32} {n v6 : Nat} {mi : Bool} (hn : n < 65536) (h6 : v6 < 65536) : ∀ (d k s : Nat) (v : Int64), k + d = n → v.toInt = min (s : Int) 1099511627776 → (∀ kd vl, NumR mi (decide ((tv F d k s).2 ≤ v6)) (tv F d k s).1 kd vl → post (kd, nI (tv F d k s).2, vl)) → lw_met_To_readNumber_41 post (nI n) F (b01 mi) (nI v6) (d + 1) (v, nI k) := by
  intro d
  induction d with
  | zero =>
    intro k s v hk hv h
    exact pk_le n k (fun _ => sp_num_end h6 (by omega) hv h) (fun q => absurd q (by omega))
  | succ d ih =>
    intro k s v hk hv h
    have hin : vp_in (nI k) 65536 := vp_in_nI (by omega) (by omega)
    have hcl : (nI k).toNatClampNeg = k := nI_clamp (by omega)
    refine pk_le n k (fun q => absurd q (by omega)) (fun _ => ⟨hin, fun y hy => ?_⟩)
    rw [hcl] at hy
    subst hy
    refine sp_To_isDigit ?_
    refine b01_if (fun hd => ?_) (fun hd => ?_)
    · have e : tv F (d + 1) k s = (s, k) := by simp [tv, hd]
      rw [e] at h
      exact sp_num_end h6 (by omega) hv h
    · have e : tv F (d + 1) k s = tv F d (k + 1) (10 * s + dv (F k)) := by simp [tv, hd]
      rw [e] at h
      intro y14 h14
      refine ⟨hin, fun y16 h16 y17 h17 y18 h18 y19 h19 y20 h20 y21 h21 => ?_⟩
      rw [hcl] at h16
      have hr := tkD_rng hd
      have e17 : y17.toInt = (F k).toInt := by rw [h17, h16, Int32.toInt_toInt64]
      have e14 := l_m10 h14 (by omega) (by omega)
      have e18 := l_add h18 (by omega) (by omega)
      have c48 : (48 : Int64).toInt = 48 := by decide
      have cC : (1099511627776 : Int64).toInt = 1099511627776 := by decide
      have e19 := l_sub h19 (by omega) (by omega)
      have hdv : ((dv (F k) : Nat) : Int) = (F k).toInt - 48 := by unfold dv; omega
      have e20 : y20.toInt = min ((10 * s + dv (F k) : Nat) : Int) 1099511627776 := by
        rw [h20]
        by_cases q : (1099511627776 : Int64) < y19
        · have q' := Int64.lt_iff_toInt_lt.mp q
          rw [cC] at q'
          simp only [q, if_true, cC]
          omega
        · have q' : ¬ 1099511627776 < y19.toInt := fun z => q (Int64.lt_iff_toInt_lt.mpr (by rw [cC]; exact z))
          simp only [q, if_false]
          omega
      rw [h21, nI_1]
      exact ih (k + 1) (10 * s + dv (F k)) y20 (by omega) e20 h
theorem sp_To_takes {post : Int32 → Int32 → Prop} {F : Nat → Int32} {n k : Nat} {c : Int32} (hn : n < 65536) (hk : k ≤ n) (h : post (b01 (tkc F n k c)) (nI (if tkc F n k c = true then k + 1 else k))) : wp_met_To_takes post c (nI k) (nI n) F := by
  have hcl : (nI k).toNatClampNeg = k := nI_clamp (by omega)
  refine ⟨pk_le n k (fun _ => trivial) (fun q => ⟨vp_in_nI (by omega) (by omega), trivial⟩), fun y hy => ?_⟩
  rw [hcl] at hy
  have e : y = b01 (tkc F n k c) := by
    rw [hy]
    by_cases q : k < n
    · have q' : ¬ nI n ≤ nI k := fun z => absurd ((nI_leI (by omega) (by omega)).mp z) (by omega)
      by_cases r : F k = c
      · simp [b01, tkc, q, q', r]
      · simp [b01, tkc, q', r]
    · have q' : nI n ≤ nI k := (nI_leI (by omega) (by omega)).mpr (by omega)
      simp [b01, tkc, q, q']
  subst e
  refine b01_if (fun q => ?_) (fun q => ?_)
  · simp only [q, Bool.false_eq_true, if_false] at h ⊢
    exact h
  · intro z hz
    rw [hz, nI_1]
    simp only [q, if_true] at h ⊢
    exact h
theorem sp_To_readSign {post : (Int32 × Int32) → Prop} {F : Nat → Int32} {n k : Nat} (hn : n < 65536) (hk : k < n) (h : post ((sgk F n k).1, nI (sgk F n k).2)) : wp_met_To_readSign post (nI k) (nI n) F := by
  have hcl : (nI k).toNatClampNeg = k := nI_clamp (by omega)
  refine ⟨vp_in_nI (by omega) (by omega), fun y hy z hz => ?_⟩
  rw [hcl] at hy
  rw [nI_1] at hz
  subst hy hz
  refine ⟨fun q => ?_, fun q33 => ?_⟩
  · have e : sgk F n k = (if tkc F n (k + 1) 61 = true then (12, k + 2) else (1, k + 1)) := by
      unfold sgk
      rw [if_pos q]
    rw [e] at h
    refine sp_To_takes hn (by omega) ?_
    intro y6 h6
    rw [h6]
    cases hc : tkc F n (k + 1) 61
    · simp only [hc, Bool.false_eq_true, if_false, b01] at h ⊢
      exact h
    · simp only [hc, if_true, b01] at h ⊢
      exact h
  refine ⟨fun q => ?_, fun q34 => ?_⟩
  · have e : sgk F n k = (1, k + 1) := by
      unfold sgk
      rw [if_neg (by rw [q]; decide), if_neg (by rw [q]; decide), if_neg (by rw [q]; decide), if_neg (by rw [q]; decide), if_neg (by rw [q]; decide), if_neg (by rw [q]; decide), if_neg (by rw [q]; decide), if_neg (by rw [q]; decide), if_neg (by rw [q]; decide)]
    rw [e] at h
    exact h
  refine ⟨fun q => ?_, fun q35 => ?_⟩
  · have e : sgk F n k = (1, k + 1) := by
      unfold sgk
      rw [if_neg (by rw [q]; decide), if_neg (by rw [q]; decide), if_neg (by rw [q]; decide), if_neg (by rw [q]; decide), if_neg (by rw [q]; decide), if_neg (by rw [q]; decide), if_neg (by rw [q]; decide), if_neg (by rw [q]; decide), if_neg (by rw [q]; decide)]
    rw [e] at h
    exact h
  refine ⟨fun q => ?_, fun q36 => ?_⟩
  · have e : sgk F n k = (1, k + 1) := by
      unfold sgk
      rw [if_neg (by rw [q]; decide), if_neg (by rw [q]; decide), if_neg (by rw [q]; decide), if_neg (by rw [q]; decide), if_neg (by rw [q]; decide), if_neg (by rw [q]; decide), if_neg (by rw [q]; decide), if_neg (by rw [q]; decide), if_neg (by rw [q]; decide)]
    rw [e] at h
    exact h
  refine ⟨fun q => ?_, fun q37 => ?_⟩
  · have e : sgk F n k = (1, k + 1) := by
      unfold sgk
      rw [if_neg (by rw [q]; decide), if_neg (by rw [q]; decide), if_neg (by rw [q]; decide), if_neg (by rw [q]; decide), if_neg (by rw [q]; decide), if_neg (by rw [q]; decide), if_neg (by rw [q]; decide), if_neg (by rw [q]; decide), if_neg (by rw [q]; decide)]
    rw [e] at h
    exact h
  refine ⟨fun q => ?_, fun q38 => ?_⟩
  · have e : sgk F n k = (1, k + 1) := by
      unfold sgk
      rw [if_neg (by rw [q]; decide), if_neg (by rw [q]; decide), if_neg (by rw [q]; decide), if_neg (by rw [q]; decide), if_neg (by rw [q]; decide), if_neg (by rw [q]; decide), if_neg (by rw [q]; decide), if_neg (by rw [q]; decide), if_neg (by rw [q]; decide)]
    rw [e] at h
    exact h
  refine ⟨fun q => ?_, fun q39 => ?_⟩
  · have e : sgk F n k = (1, k + 1) := by
      unfold sgk
      rw [if_neg (by rw [q]; decide), if_neg (by rw [q]; decide), if_neg (by rw [q]; decide), if_neg (by rw [q]; decide), if_neg (by rw [q]; decide), if_neg (by rw [q]; decide), if_neg (by rw [q]; decide), if_neg (by rw [q]; decide), if_neg (by rw [q]; decide)]
    rw [e] at h
    exact h
  refine ⟨fun q => ?_, fun q40 => ?_⟩
  · have e : sgk F n k = (6, k + 1) := by
      unfold sgk
      rw [if_neg (by rw [q]; decide), if_pos q]
    rw [e] at h
    exact h
  refine ⟨fun q => ?_, fun q41 => ?_⟩
  · have e : sgk F n k = (7, k + 1) := by
      unfold sgk
      rw [if_neg (by rw [q]; decide), if_neg (by rw [q]; decide), if_pos q]
    rw [e] at h
    exact h
  refine ⟨fun q => ?_, fun q42 => ?_⟩
  · have e : sgk F n k = (1, k + 1) := by
      unfold sgk
      rw [if_neg (by rw [q]; decide), if_neg (by rw [q]; decide), if_neg (by rw [q]; decide), if_neg (by rw [q]; decide), if_neg (by rw [q]; decide), if_neg (by rw [q]; decide), if_neg (by rw [q]; decide), if_neg (by rw [q]; decide), if_neg (by rw [q]; decide)]
    rw [e] at h
    exact h
  refine ⟨fun q => ?_, fun q43 => ?_⟩
  · have e : sgk F n k = (1, k + 1) := by
      unfold sgk
      rw [if_neg (by rw [q]; decide), if_neg (by rw [q]; decide), if_neg (by rw [q]; decide), if_neg (by rw [q]; decide), if_neg (by rw [q]; decide), if_neg (by rw [q]; decide), if_neg (by rw [q]; decide), if_neg (by rw [q]; decide), if_neg (by rw [q]; decide)]
    rw [e] at h
    exact h
  refine ⟨fun q => ?_, fun q44 => ?_⟩
  · have e : sgk F n k = (8, k + 1) := by
      unfold sgk
      rw [if_neg (by rw [q]; decide), if_neg (by rw [q]; decide), if_neg (by rw [q]; decide), if_pos q]
    rw [e] at h
    exact h
  refine ⟨fun q => ?_, fun q45 => ?_⟩
  · have e : sgk F n k = (1, k + 1) := by
      unfold sgk
      rw [if_neg (by rw [q]; decide), if_neg (by rw [q]; decide), if_neg (by rw [q]; decide), if_neg (by rw [q]; decide), if_neg (by rw [q]; decide), if_neg (by rw [q]; decide), if_neg (by rw [q]; decide), if_neg (by rw [q]; decide), if_neg (by rw [q]; decide)]
    rw [e] at h
    exact h
  refine ⟨fun q => ?_, fun q46 => ?_⟩
  · have e : sgk F n k = (9, k + 1) := by
      unfold sgk
      rw [if_neg (by rw [q]; decide), if_neg (by rw [q]; decide), if_neg (by rw [q]; decide), if_neg (by rw [q]; decide), if_pos q]
    rw [e] at h
    exact h
  refine ⟨fun q => ?_, fun q47 => ?_⟩
  · have e : sgk F n k = (1, k + 1) := by
      unfold sgk
      rw [if_neg (by rw [q]; decide), if_neg (by rw [q]; decide), if_neg (by rw [q]; decide), if_neg (by rw [q]; decide), if_neg (by rw [q]; decide), if_neg (by rw [q]; decide), if_neg (by rw [q]; decide), if_neg (by rw [q]; decide), if_neg (by rw [q]; decide)]
    rw [e] at h
    exact h
  refine ⟨fun q => ?_, fun q48 => ?_⟩
  · have e : sgk F n k = (1, k + 1) := by
      unfold sgk
      rw [if_neg (by rw [q]; decide), if_neg (by rw [q]; decide), if_neg (by rw [q]; decide), if_neg (by rw [q]; decide), if_neg (by rw [q]; decide), if_neg (by rw [q]; decide), if_neg (by rw [q]; decide), if_neg (by rw [q]; decide), if_neg (by rw [q]; decide)]
    rw [e] at h
    exact h
  refine ⟨fun q => ?_, fun q49 => ?_⟩
  · have e : sgk F n k = (1, k + 1) := by
      unfold sgk
      rw [if_neg (by rw [q]; decide), if_neg (by rw [q]; decide), if_neg (by rw [q]; decide), if_neg (by rw [q]; decide), if_neg (by rw [q]; decide), if_neg (by rw [q]; decide), if_neg (by rw [q]; decide), if_neg (by rw [q]; decide), if_neg (by rw [q]; decide)]
    rw [e] at h
    exact h
  refine ⟨fun q => ?_, fun q50 => ?_⟩
  · have e : sgk F n k = (1, k + 1) := by
      unfold sgk
      rw [if_neg (by rw [q]; decide), if_neg (by rw [q]; decide), if_neg (by rw [q]; decide), if_neg (by rw [q]; decide), if_neg (by rw [q]; decide), if_neg (by rw [q]; decide), if_neg (by rw [q]; decide), if_neg (by rw [q]; decide), if_neg (by rw [q]; decide)]
    rw [e] at h
    exact h
  refine ⟨fun q => ?_, fun q51 => ?_⟩
  · have e : sgk F n k = (1, k + 1) := by
      unfold sgk
      rw [if_neg (by rw [q]; decide), if_neg (by rw [q]; decide), if_neg (by rw [q]; decide), if_neg (by rw [q]; decide), if_neg (by rw [q]; decide), if_neg (by rw [q]; decide), if_neg (by rw [q]; decide), if_neg (by rw [q]; decide), if_neg (by rw [q]; decide)]
    rw [e] at h
    exact h
  refine ⟨fun q => ?_, fun q52 => ?_⟩
  · have e : sgk F n k = (1, k + 1) := by
      unfold sgk
      rw [if_neg (by rw [q]; decide), if_neg (by rw [q]; decide), if_neg (by rw [q]; decide), if_neg (by rw [q]; decide), if_neg (by rw [q]; decide), if_neg (by rw [q]; decide), if_neg (by rw [q]; decide), if_neg (by rw [q]; decide), if_neg (by rw [q]; decide)]
    rw [e] at h
    exact h
  refine ⟨fun q => ?_, fun q53 => ?_⟩
  · have e : sgk F n k = (1, k + 1) := by
      unfold sgk
      rw [if_neg (by rw [q]; decide), if_neg (by rw [q]; decide), if_neg (by rw [q]; decide), if_neg (by rw [q]; decide), if_neg (by rw [q]; decide), if_neg (by rw [q]; decide), if_neg (by rw [q]; decide), if_neg (by rw [q]; decide), if_neg (by rw [q]; decide)]
    rw [e] at h
    exact h
  refine ⟨fun q => ?_, fun q54 => ?_⟩
  · have e : sgk F n k = (1, k + 1) := by
      unfold sgk
      rw [if_neg (by rw [q]; decide), if_neg (by rw [q]; decide), if_neg (by rw [q]; decide), if_neg (by rw [q]; decide), if_neg (by rw [q]; decide), if_neg (by rw [q]; decide), if_neg (by rw [q]; decide), if_neg (by rw [q]; decide), if_neg (by rw [q]; decide)]
    rw [e] at h
    exact h
  refine ⟨fun q => ?_, fun q55 => ?_⟩
  · have e : sgk F n k = (1, k + 1) := by
      unfold sgk
      rw [if_neg (by rw [q]; decide), if_neg (by rw [q]; decide), if_neg (by rw [q]; decide), if_neg (by rw [q]; decide), if_neg (by rw [q]; decide), if_neg (by rw [q]; decide), if_neg (by rw [q]; decide), if_neg (by rw [q]; decide), if_neg (by rw [q]; decide)]
    rw [e] at h
    exact h
  refine ⟨fun q => ?_, fun q56 => ?_⟩
  · have e : sgk F n k = (1, k + 1) := by
      unfold sgk
      rw [if_neg (by rw [q]; decide), if_neg (by rw [q]; decide), if_neg (by rw [q]; decide), if_neg (by rw [q]; decide), if_neg (by rw [q]; decide), if_neg (by rw [q]; decide), if_neg (by rw [q]; decide), if_neg (by rw [q]; decide), if_neg (by rw [q]; decide)]
    rw [e] at h
    exact h
  refine ⟨fun q => ?_, fun q57 => ?_⟩
  · have e : sgk F n k = (1, k + 1) := by
      unfold sgk
      rw [if_neg (by rw [q]; decide), if_neg (by rw [q]; decide), if_neg (by rw [q]; decide), if_neg (by rw [q]; decide), if_neg (by rw [q]; decide), if_neg (by rw [q]; decide), if_neg (by rw [q]; decide), if_neg (by rw [q]; decide), if_neg (by rw [q]; decide)]
    rw [e] at h
    exact h
  refine ⟨fun q => ?_, fun q58 => ?_⟩
  · have e : sgk F n k = (if tkc F n (k + 1) 45 = true then (10, k + 2) else (1, k + 1)) := by
      unfold sgk
      rw [if_neg (by rw [q]; decide), if_neg (by rw [q]; decide), if_neg (by rw [q]; decide), if_neg (by rw [q]; decide), if_neg (by rw [q]; decide), if_pos q]
    rw [e] at h
    refine sp_To_takes hn (by omega) ?_
    intro y6 h6
    rw [h6]
    cases hc : tkc F n (k + 1) 45
    · simp only [hc, Bool.false_eq_true, if_false, b01] at h ⊢
      exact h
    · simp only [hc, if_true, b01] at h ⊢
      exact h
  refine ⟨fun q => ?_, fun q59 => ?_⟩
  · have e : sgk F n k = (1, k + 1) := by
      unfold sgk
      rw [if_neg (by rw [q]; decide), if_neg (by rw [q]; decide), if_neg (by rw [q]; decide), if_neg (by rw [q]; decide), if_neg (by rw [q]; decide), if_neg (by rw [q]; decide), if_neg (by rw [q]; decide), if_neg (by rw [q]; decide), if_neg (by rw [q]; decide)]
    rw [e] at h
    exact h
  refine ⟨fun q => ?_, fun q60 => ?_⟩
  · have e : sgk F n k = (if tkc F n (k + 1) 61 = true then (14, k + 2) else (13, k + 1)) := by
      unfold sgk
      rw [if_neg (by rw [q]; decide), if_neg (by rw [q]; decide), if_neg (by rw [q]; decide), if_neg (by rw [q]; decide), if_neg (by rw [q]; decide), if_neg (by rw [q]; decide), if_pos q]
    rw [e] at h
    refine sp_To_takes hn (by omega) ?_
    intro y6 h6
    rw [h6]
    cases hc : tkc F n (k + 1) 61
    · simp only [hc, Bool.false_eq_true, if_false, b01] at h ⊢
      exact h
    · simp only [hc, if_true, b01] at h ⊢
      exact h
  refine ⟨fun q => ?_, fun q61 => ?_⟩
  · have e : sgk F n k = (11, k + 1) := by
      unfold sgk
      rw [if_neg (by rw [q]; decide), if_neg (by rw [q]; decide), if_neg (by rw [q]; decide), if_neg (by rw [q]; decide), if_neg (by rw [q]; decide), if_neg (by rw [q]; decide), if_neg (by rw [q]; decide), if_pos q]
    rw [e] at h
    exact h
  refine ⟨fun q => ?_, fun q62 => ?_⟩
  · have e : sgk F n k = (if tkc F n (k + 1) 61 = true then (16, k + 2) else (15, k + 1)) := by
      unfold sgk
      rw [if_neg (by rw [q]; decide), if_neg (by rw [q]; decide), if_neg (by rw [q]; decide), if_neg (by rw [q]; decide), if_neg (by rw [q]; decide), if_neg (by rw [q]; decide), if_neg (by rw [q]; decide), if_neg (by rw [q]; decide), if_pos q]
    rw [e] at h
    refine sp_To_takes hn (by omega) ?_
    intro y6 h6
    rw [h6]
    cases hc : tkc F n (k + 1) 61
    · simp only [hc, Bool.false_eq_true, if_false, b01] at h ⊢
      exact h
    · simp only [hc, if_true, b01] at h ⊢
      exact h
  have e : sgk F n k = (1, k + 1) := by
    unfold sgk
    rw [if_neg q33, if_neg q40, if_neg q41, if_neg q44, if_neg q46, if_neg q58, if_neg q60, if_neg q61, if_neg q62]
  rw [e] at h
  exact h
theorem sp_To_readNumber {post : (Int32 × Int32 × Int32) → Prop} {F : Nat → Int32} {n a : Nat} (hn : n < 65536) (ha : a < n) (h : ∀ kd vl, NumR (decide (F a = 45)) (decide ((tv F (n - ds F a) (ds F a) 0).2 ≤ ds F a)) (tv F (n - ds F a) (ds F a) 0).1 kd vl → post (kd, nI (tv F (n - ds F a) (ds F a) 0).2, vl)) : wp_met_To_readNumber post (nI a) (nI n) F := by
  have hcl : (nI a).toNatClampNeg = a := nI_clamp (by omega)
  have z0 : (0 : Int64).toInt = min ((0 : Nat) : Int) 1099511627776 := by decide
  refine ⟨vp_in_nI (by omega) (by omega), fun y hy y3 h3 => ?_⟩
  rw [hcl] at hy
  subst hy
  rw [b01_dec] at h3
  subst h3
  refine b01_if (fun q => ?_) (fun q => ?_)
  · have q' : ¬ F a = 45 := by simpa using q
    have e : ds F a = a := by simp [ds, q']
    rw [e] at h
    exact ⟨n - a + 1, sp_num hn (by omega) (n - a) a 0 0 (by omega) z0 h⟩
  · have q' : F a = 45 := by simpa using q
    have e : ds F a = a + 1 := by simp [ds, q']
    rw [e] at h
    intro y5 h5
    rw [h5, nI_1]
    exact ⟨n - (a + 1) + 1, sp_num hn (by omega) (n - (a + 1)) (a + 1) 0 0 (by omega) z0 h⟩
theorem sp_To_next {post : (Int32 × Int32 × Int32 × Int32) → Prop} {F : Nat → Int32} {n k : Nat} (hn : n < 65536) (hk : k ≤ n) (h : ∀ kd a b vl, TokR F n k kd a b vl → post (kd, nI a, nI b, vl)) : wp_met_To_next post (nI k) (nI n) F := by
  unfold wp_met_To_next
  refine sp_To_skipBlanks hn hk ?_
  generalize ha : tkSk F (n - k) k false = a
  have hle := tkSk_le F (n - k) k false
  rw [ha] at hle
  have hcl : (nI a).toNatClampNeg = a := nI_clamp (by omega)
  have han : a ≤ n := by omega
  refine pk_lt a n (fun q => ?_) (fun q => ?_)
  · have hin : vp_in (nI a) 65536 := vp_in_nI (by omega) (by omega)
    have num : (tkW (F a) && !tkD (F a)) = false → (tkD (F a) || decide (F a = 45)) = true → jw_met_To_next_102 post (nI a) (nI n) F () := by
      intro g1 g2
      refine sp_To_readNumber hn q (fun kd vl hr => ?_)
      refine h kd a _ vl ⟨ha.symm, ?_⟩
      rw [if_pos q, if_neg (by rw [g1]; decide), if_pos g2]
      exact ⟨rfl, hr⟩
    have rest : (tkW (F a) && !tkD (F a)) = false → jw_met_To_next_73 post (nI a) F (nI n) () := by
      intro g1
      refine ⟨hin, fun y hy => ?_⟩
      rw [hcl] at hy
      subst hy
      refine sp_To_isDigit ?_
      refine b01_if (fun g2 => ?_) (fun g2 => num g1 (by simp [g2]))
      refine ⟨hin, fun y hy => ?_⟩
      rw [hcl] at hy
      subst hy
      refine ⟨fun g3 => num g1 (by simp [g3]), fun g3 => ?_⟩
      refine sp_To_readSign hn q ?_
      refine h _ a _ 0 ⟨ha.symm, ?_⟩
      rw [if_pos q, if_neg (by rw [g1]; decide), if_neg (by simp [g2, g3])]
      exact ⟨rfl, rfl, rfl⟩
    refine ⟨hin, fun y hy => ?_⟩
    rw [hcl] at hy
    subst hy
    refine sp_To_isWordByte ?_
    refine b01_if (fun g1 => rest (by simp [g1])) (fun g1 => ?_)
    refine ⟨hin, fun y hy => ?_⟩
    rw [hcl] at hy
    subst hy
    refine sp_To_isDigit ?_
    refine b01_if (fun g2 => ?_) (fun g2 => rest (by simp [g2]))
    refine sp_To_readWord hn q ?_
    refine h _ a _ 0 ⟨ha.symm, ?_⟩
    rw [if_pos q, if_pos (by simp [g1, g2])]
    exact ⟨rfl, rfl, rfl⟩
  · refine h 0 a a 0 ⟨ha.symm, ?_⟩
    rw [if_neg (by omega)]
    exact ⟨rfl, rfl, rfl⟩
