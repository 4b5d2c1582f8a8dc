/-! pure: bytes and tokens, the class's side -/
def b01 (b : Bool) : Int32 := if b = true then 1 else 0
theorem b01_if {b : Bool} {A B : Prop} (hf : b = false → A) (ht : b = true → B) : (b01 b = 0 → A) ∧ (¬ (b01 b = 0) → B) := by
  cases b
  · exact ⟨fun _ => hf rfl, fun h => absurd rfl h⟩
  · exact ⟨fun h => absurd h (by decide), fun _ => ht rfl⟩
theorem b01_or (b : Bool) : b01 b = 0 ∨ b01 b = 1 := by cases b <;> simp [b01]
theorem b01_id (b : Bool) : (if b01 b = 0 then (0 : Int32) else 1) = b01 b := by cases b <;> rfl
theorem b01_not (b : Bool) : (if b01 b = 0 then (1 : Int32) else 0) = b01 (!b) := by cases b <;> rfl
theorem b01_dec {P : Prop} (h : Decidable P) : (if P then (1 : Int32) else 0) = b01 (decide P) := by by_cases q : P <;> simp [b01, q]
def tkB (x : Int32) : Bool := decide (x = 9) || decide (x = 10) || decide (x = 13) || decide (x = 32)
def tkD (x : Int32) : Bool := decide ((48 : Int32) ≤ x) && decide (x ≤ 57)
def tkS (x : Int32) : Bool := decide ((97 : Int32) ≤ x) && decide (x ≤ 122)
def tkW (x : Int32) : Bool := tkS x || (decide ((65 : Int32) ≤ x) && decide (x ≤ 90)) || decide (x = 95) || tkD x
theorem rg_eq {x lo hi : Int32} : (if x < lo then (0 : Int32) else (if hi < x then (0 : Int32) else 1)) = b01 (decide (lo ≤ x) && decide (x ≤ hi)) := by
  by_cases h1 : x < lo
  · have h2 : ¬ lo ≤ x := Int32.not_le.mpr h1
    simp [b01, h1, h2]
  · have h2 : lo ≤ x := Int32.not_lt.mp h1
    by_cases h3 : hi < x
    · have h4 : ¬ x ≤ hi := Int32.not_le.mpr h3
      simp [b01, h1, h3, h4]
    · have h4 : x ≤ hi := Int32.not_lt.mp h3
      simp [b01, h1, h2, h3, h4]
theorem bl_eq {x : Int32} : (if x = (9 : Int32) then (1 : Int32) else (if x = (10 : Int32) then (1 : Int32) else (if x = (13 : Int32) then (1 : Int32) else (if x = (32 : Int32) then (1 : Int32) else (0 : Int32))))) = b01 (tkB x) := by
  by_cases h1 : x = 9
  · simp [b01, tkB, h1]
  by_cases h2 : x = 10
  · simp [b01, tkB, h2]
  by_cases h3 : x = 13
  · simp [b01, tkB, h3]
  by_cases h4 : x = 32
  · simp [b01, tkB, h4]
  simp [b01, tkB, h1, h2, h3, h4]
theorem sp_To_isDigit {post : Int32 → Unit → Prop} {x : Int32} (h : post (b01 (tkD x)) ()) : wp_met_To_isDigit post x := by
  intro y hy
  rw [hy, rg_eq]
  exact h
theorem sp_Mo_isDigit {post : Int32 → Unit → Prop} {x : Int32} (h : post (b01 (tkD x)) ()) : wp_met_Mo_isDigit post x := by
  intro y hy
  rw [hy, rg_eq]
  exact h
theorem sp_To_isSmall {post : Int32 → Unit → Prop} {x : Int32} (h : post (b01 (tkS x)) ()) : wp_met_To_isSmall post x := by
  intro y hy
  rw [hy, rg_eq]
  exact h
theorem sp_Mo_isSmall {post : Int32 → Unit → Prop} {x : Int32} (h : post (b01 (tkS x)) ()) : wp_met_Mo_isSmall post x := by
  intro y hy
  rw [hy, rg_eq]
  exact h
theorem sp_To_isBlank {post : Int32 → Unit → Prop} {x : Int32} (h : post (b01 (tkB x)) ()) : wp_met_To_isBlank post x := by
  intro y hy
  rw [hy, bl_eq]
  exact h
theorem sp_Mo_isBlank {post : Int32 → Unit → Prop} {x : Int32} (h : post (b01 (tkB x)) ()) : wp_met_Mo_isBlank post x := by
  intro y hy
  rw [hy, bl_eq]
  exact h
theorem gr_f {x : Int32} (h : ¬ ((65 : Int32) ≤ x ∧ x ≤ 90)) : (decide ((65 : Int32) ≤ x) && decide (x ≤ 90)) = false := by
  by_cases h1 : (65 : Int32) ≤ x
  · have h2 : ¬ x ≤ 90 := fun q => h ⟨h1, q⟩
    simp [h2]
  · simp [h1]
theorem sp_To_isWordByte {post : Int32 → Unit → Prop} {x : Int32} (h : post (b01 (tkW x)) ()) : wp_met_To_isWordByte post x := by
  unfold wp_met_To_isWordByte
  refine sp_To_isSmall ?_
  have k19 : tkS x = false → ¬ ((65 : Int32) ≤ x ∧ x ≤ 90) → jw_met_To_isWordByte_19 post x () := by
    intro hs hg
    have hg' := gr_f hg
    refine ⟨fun h1 => ?_, fun h1 => ?_⟩
    · have e : tkW x = true := by simp [tkW, h1]
      rw [e] at h
      exact h
    · refine sp_To_isDigit ?_
      intro y hy
      have e : tkW x = tkD x := by simp [tkW, hs, hg', h1]
      rw [hy, b01_id, ← e]
      exact h
  refine b01_if (fun hs => ?_) (fun hs => ?_)
  · refine ⟨fun h1 => k19 hs (fun q => absurd h1 (Int32.not_lt.mpr q.1)), fun h1 => ⟨fun h2 => ?_, fun h2 => k19 hs (fun q => h2 q.2)⟩⟩
    have h3 : (65 : Int32) ≤ x := Int32.not_lt.mp h1
    have e : tkW x = true := by simp [tkW, h3, h2]
    rw [e] at h
    exact h
  · have e : tkW x = true := by simp [tkW, hs]
    rw [e] at h
    exact h
theorem sp_Mo_isWord {post : Int32 → Unit → Prop} {x : Int32} (h : post (b01 (tkW x)) ()) : wp_met_Mo_isWord post x := by
  unfold wp_met_Mo_isWord
  refine sp_Mo_isDigit ?_
  refine b01_if (fun hd => ?_) (fun hd => ?_)
  · refine sp_Mo_isSmall ?_
    intro y hy
    have e : y = b01 (tkW x) := by
      rw [hy]
      cases hs : tkS x
      · by_cases h1 : x < 65
        · have h2 : ¬ (65 : Int32) ≤ x := Int32.not_le.mpr h1
          by_cases h3 : x = 95
          · simp [b01, tkW, h3]
          · simp [b01, tkW, hs, hd, h1, h2, h3]
        · have h2 : (65 : Int32) ≤ x := Int32.not_lt.mp h1
          by_cases h4 : x ≤ 90
          · simp [b01, tkW, h1, h2, h4]
          · by_cases h3 : x = 95
            · simp [b01, tkW, h3]
            · simp [b01, tkW, hs, hd, h1, h2, h3, h4]
      · simp [b01, tkW, hs]
    rw [e]
    exact h
  · have e : tkW x = true := by simp [tkW, hd]
    rw [e] at h
    exact h
/-- from k on, past blanks and remarks (cm: within one); d bytes are left -/
def tkSk (F : Nat → Int32) : Nat → Nat → Bool → Nat
  | 0, k, _ => k
  | d + 1, k, true => tkSk F d (k + 1) (!decide (F k = 10))
  | d + 1, k, false => if tkB (F k) = true then tkSk F d (k + 1) false else if F k = 37 then tkSk F d (k + 1) true else k
theorem tkB_37 {x : Int32} (h : tkB x = true) : ¬ x = 37 := by
  intro q
  rw [q] at h
  exact absurd h (by decide)
theorem sp_skip {post : Int32 → Prop} {F : Nat → Int32} {n : Nat} (hn : n < 65536) : ∀ (d k : Nat) (cm : Bool), k + d = n → post (nI (tkSk F d k cm)) → lw_met_To_skipBlanks_2 post (nI n) F (d + 1) (b01 cm, nI k) := by
  intro d
  induction d with
  | zero =>
    intro k cm hk h
    exact pk_le n k (fun _ => h) (fun q => absurd q (by omega))
  | succ d ih =>
    intro k cm hk h
    have hin : vp_in (nI k) 65536 := vp_in_nI (by omega) (by omega)
    have hcl : (nI k).toNatClampNeg = k := nI_clamp (by omega)
    have jw : ∀ cm2 : Bool, (if b01 cm = 0 then (if F k = 37 then (1 : Int32) else 0) else (if F k = 10 then (0 : Int32) else 1)) = b01 cm2 → post (nI (tkSk F d (k + 1) cm2)) → jw_met_To_skipBlanks_46 post (fun x9 => lw_met_To_skipBlanks_2 post (nI n) F (d + 1) x9) (b01 cm) (nI k) F () := by
      intro cm2 e h2
      refine ⟨⟨fun _ => ⟨hin, trivial⟩, fun _ => ⟨hin, trivial⟩⟩, fun y hy z hz => ?_⟩
      rw [hcl] at hy
      rw [hy, e, hz, nI_1]
      exact ih (k + 1) cm2 (by omega) h2
    refine pk_le n k (fun q => absurd q (by omega)) (fun _ => ?_)
    refine b01_if (fun hc => ?_) (fun hc => ?_)
    · subst hc
      refine ⟨hin, fun y hy => ?_⟩
      rw [hcl] at hy
      subst hy
      refine sp_To_isBlank ?_
      refine b01_if (fun hb => ?_) (fun hb => ?_)
      · refine ⟨hin, fun y hy => ?_⟩
        rw [hcl] at hy
        subst hy
        refine ⟨fun h7 => ?_, fun h7 => ?_⟩
        · refine jw true (by simp [b01, h7]) ?_
          have e : tkSk F (d + 1) k false = tkSk F d (k + 1) true := by
            conv => lhs; unfold tkSk
            rw [if_neg (by rw [hb]; decide), if_pos h7]
          rw [e] at h
          exact h
        · have e : tkSk F (d + 1) k false = k := by simp [tkSk, hb, h7]
          rw [e] at h
          exact h
      · refine jw false (by simp [b01, tkB_37 hb]) ?_
        have e : tkSk F (d + 1) k false = tkSk F d (k + 1) false := by simp [tkSk, hb]
        rw [e] at h
        exact h
    · subst hc
      refine jw (!decide (F k = 10)) (by by_cases q : F k = 10 <;> simp [b01, q]) ?_
      exact h
theorem sp_To_skipBlanks {post : Int32 → Prop} {F : Nat → Int32} {n k : Nat} (hn : n < 65536) (hk : k ≤ n) (h : post (nI (tkSk F (n - k) k false))) : wp_met_To_skipBlanks post (nI k) (nI n) F :=
  ⟨n - k + 1, sp_skip hn (n - k) k false (by omega) h⟩
/-- the first place from k on that is no byte of a word -/
def tkE (F : Nat → Int32) : Nat → Nat → Nat
  | 0, k => k
  | d + 1, k => if tkW (F k) = true then tkE F d (k + 1) else k
theorem tkE_le (F : Nat → Int32) : ∀ d k, k ≤ tkE F d k ∧ tkE F d k ≤ k + d := by
  intro d
  induction d with
  | zero => intro k; exact ⟨Nat.le_refl _, Nat.le_refl _⟩
  | succ d ih =>
    intro k
    unfold tkE
    split
    · have := ih (k + 1)
      omega
    · omega
theorem tkSk_le (F : Nat → Int32) : ∀ d k cm, k ≤ tkSk F d k cm ∧ tkSk F d k cm ≤ k + d := by
  intro d
  induction d with
  | zero => intro k cm; cases cm <;> exact ⟨Nat.le_refl _, Nat.le_refl _⟩
  | succ d ih =>
    intro k cm
    cases cm
    · unfold tkSk
      split
      · have := ih (k + 1) false
        omega
      · split
        · have := ih (k + 1) true
          omega
        · omega
    · unfold tkSk
      have := ih (k + 1) (!decide (F k = 10))
      omega
def isnot (F : Nat → Int32) (a b : Nat) : Bool := decide (b = a + 3) && decide (F a = 110) && decide (F (a + 1) = 111) && decide (F (a + 2) = 116)
theorem sp_To_isNot {post : Int32 → Unit → Prop} {F : Nat → Int32} {a b : Nat} (hb : b < 65536) (hab : a ≤ b) (h : post (b01 (isnot F a b)) ()) : wp_met_To_isNot post (nI a) (nI b) F := by
  intro y hy
  rw [pk_sub hab] at hy
  subst hy
  have h3 : (nI (b - a) = (3 : Int32)) ↔ b = a + 3 := by
    rw [show (3 : Int32) = nI 3 from rfl, nI_eq (by omega) (by omega)]
    omega
  have c0 : (nI a).toNatClampNeg = a := nI_clamp (by omega)
  have e1 : nI a + (1 : Int32) = nI (a + 1) := nI_1 a
  have e2 : nI a + (2 : Int32) = nI (a + 2) := nI_add a 2
  have c1 : (nI (a + 1)).toNatClampNeg = a + 1 := nI_clamp (by omega)
  have c2 : (nI (a + 2)).toNatClampNeg = a + 2 := nI_clamp (by omega)
  rw [e1, e2, c0, c1, c2]
  refine ⟨⟨fun q => ⟨vp_in_nI (by omega) (by omega), fun _ => ⟨vp_in_nI (by have := h3.mp q; omega) (by omega), fun _ => ⟨vp_in_nI (by have := h3.mp q; omega) (by omega), trivial⟩, fun _ => trivial⟩, fun _ => trivial⟩, fun _ => trivial⟩, fun z hz => ?_⟩
  have e : z = b01 (isnot F a b) := by
    rw [hz]
    by_cases q3 : b = a + 3
    · have q3' := h3.mpr q3
      by_cases q4 : F a = 110
      · by_cases q5 : F (a + 1) = 111
        · by_cases q6 : F (a + 2) = 116
          · rw [if_pos q3', if_pos q4, if_pos q5, if_pos q6]
            simp [b01, isnot, q3, q4, q5, q6]
          · simp [b01, isnot, q4, q5, q6]
        · simp [b01, isnot, q4, q5]
      · simp [b01, isnot, q4]
    · have q3' : ¬ nI (b - a) = (3 : Int32) := fun q => q3 (h3.mp q)
      simp [b01, isnot, q3, q3']
  rw [e]
  exact h
/-- the kind of a word: VARIABLE 3, NAME 2, not 5 -/
def tkK (F : Nat → Int32) (a b : Nat) : Int32 := if tkS (F a) = true then (if isnot F a b = true then 5 else 2) else 3
theorem sp_readWord {post : (Int32 × Int32) → Prop} {F : Nat → Int32} {n a : Nat} (hn : n < 65536) (ha : a < n) : ∀ (d k : Nat), a ≤ k → k + d = n → post (tkK F a (tkE F d k), nI (tkE F d k)) → lw_met_To_readWord_13 post (nI n) F (b01 (tkS (F a))) (nI a) (d + 1) (nI k) := by
  have fin : ∀ k : Nat, a ≤ k → k ≤ n → post (tkK F a k, nI k) → jw_met_To_readWord_52 post (b01 (tkS (F a))) (nI k) (nI a) F () := by
    intro k hk hk2 h
    refine b01_if (fun hs => ?_) (fun hs => ?_)
    · have e : tkK F a k = 3 := by simp [tkK, hs]
      rw [e] at h
      exact h
    · refine sp_To_isNot (by omega) hk ?_
      intro y hy
      have e : tkK F a k = y := by
        rw [hy]
        cases hi : isnot F a k <;> simp [tkK, hs, hi, b01]
      rw [e] at h
      exact h
  intro d
  induction d with
  | zero =>
    intro k hak hk h
    exact pk_le n k (fun _ => fin k hak (by omega) h) (fun q => absurd q (by omega))
  | succ d ih =>
    intro k hak hk h
    have hin : vp_in (nI k) 65536 := vp_in_nI (by omega) (by omega)
    have hcl : (nI k).toNatClampNeg = k := nI_clamp (by omega)
    refine pk_le n k (fun q => absurd q (by omega)) (fun _ => ⟨hin, fun y hy => ?_⟩)
    rw [hcl] at hy
    subst hy
    refine sp_To_isWordByte ?_
    refine b01_if (fun hw => ?_) (fun hw => ?_)
    · have e : tkE F (d + 1) k = k := by simp [tkE, hw]
      rw [e] at h
      exact fin k hak (by omega) h
    · have e : tkE F (d + 1) k = tkE F d (k + 1) := by simp [tkE, hw]
      rw [e] at h
      intro z hz
      rw [hz, nI_1]
      exact ih (k + 1) (by omega) (by omega) h
theorem sp_To_readWord {post : (Int32 × Int32) → Prop} {F : Nat → Int32} {n a : Nat} (hn : n < 65536) (ha : a < n) (h : post (tkK F a (tkE F (n - a) a), nI (tkE F (n - a) a))) : wp_met_To_readWord post (nI a) (nI a) (nI n) F := by
  have hin : vp_in (nI a) 65536 := vp_in_nI (by omega) (by omega)
  have hcl : (nI a).toNatClampNeg = a := nI_clamp (by omega)
  refine ⟨hin, fun y hy => ?_⟩
  rw [hcl] at hy
  subst hy
  refine sp_To_isSmall ?_
  exact ⟨n - a + 1, sp_readWord hn ha (n - a) a (Nat.le_refl _) (by omega) h⟩
