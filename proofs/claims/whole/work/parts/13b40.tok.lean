/-! pure: bytes and tokens, the class's side -/
def b01 (b : Bool) : Int32 := if b = true then 1 else 0
theorem b01_if {b : Bool} {A B : Prop} (hf : b = false → A) (ht : b = true → B) : (b01 b = 0 → A) ∧ (¬ (b01 b = 0) → B) := by
  cases b
  · exact ⟨fun _ => hf rfl, fun h => absurd rfl h⟩
  · exact ⟨fun h => absurd h (by decide), fun _ => ht rfl⟩
theorem b01_or (b : Bool) : b01 b = 0 ∨ b01 b = 1 := by cases b <;> simp [b01]
theorem b01_id (b : Bool) : (if b01 b = 0 then (0 : Int32) else 1) = b01 b := by cases b <;> rfl
theorem b01_not (b : Bool) : (if b01 b = 0 then (1 : Int32) else 0) = b01 (!b) := by cases b <;> rfl
theorem b01_dec {P : Prop} (h : Decidable P) : (if P then (1 : Int32) else 0) = b01 (decide P) := by by_cases q : P <;> simp [b01, q]
def tkB (x : Int32) : Bool := decide (x = 9) || decide (x = 10) || decide (x = 13) || decide (x = 32)
def tkD (x : Int32) : Bool := decide ((48 : Int32) ≤ x) && decide (x ≤ 57)
def tkS (x : Int32) : Bool := decide ((97 : Int32) ≤ x) && decide (x ≤ 122)
def tkW (x : Int32) : Bool := tkS x || (decide ((65 : Int32) ≤ x) && decide (x ≤ 90)) || decide (x = 95) || tkD x
theorem rg_eq {x lo hi : Int32} : (if x < lo then (0 : Int32) else (if hi < x then (0 : Int32) else 1)) = b01 (decide (lo ≤ x) && decide (x ≤ hi)) := by
  by_cases h1 : x < lo
  · have h2 : ¬ lo ≤ x := Int32.not_le.mpr h1
    simp [b01, h1, h2]
  · have h2 : lo ≤ x := Int32.not_lt.mp h1
    by_cases h3 : hi < x
    · have h4 : ¬ x ≤ hi := Int32.not_le.mpr h3
      simp [b01, h1, h3, h4]
    · have h4 : x ≤ hi := Int32.not_lt.mp h3
      simp [b01, h1, h2, h3, h4]
theorem bl_eq {x : Int32} : (if x = (9 : Int32) then (1 : Int32) else (if x = (10 : Int32) then (1 : Int32) else (if x = (13 : Int32) then (1 : Int32) else (if x = (32 : Int32) then (1 : Int32) else (0 : Int32))))) = b01 (tkB x) := by
  by_cases h1 : x = 9
  · simp [b01, tkB, h1]
  by_cases h2 : x = 10
  · simp [b01, tkB, h2]
  by_cases h3 : x = 13
  · simp [b01, tkB, h3]
  by_cases h4 : x = 32
  · simp [b01, tkB, h4]
  simp [b01, tkB, h1, h2, h3, h4]
theorem sp_To_isDigit {post : Int32 → Unit → Prop} {x : Int32} (h : post (b01 (tkD x)) ()) : wp_met_To_isDigit post x := by
  intro y hy
  rw [hy, rg_eq]
  exact h
theorem sp_Mo_isDigit {post : Int32 → Unit → Prop} {x : Int32} (h : post (b01 (tkD x)) ()) : wp_met_Mo_isDigit post x := by
  intro y hy
  rw [hy, rg_eq]
  exact h
theorem sp_To_isSmall {post : Int32 → Unit → Prop} {x : Int32} (h : post (b01 (tkS x)) ()) : wp_met_To_isSmall post x := by
  intro y hy
  rw [hy, rg_eq]
  exact h
theorem sp_Mo_isSmall {post : Int32 → Unit → Prop} {x : Int32} (h : post (b01 (tkS x)) ()) : wp_met_Mo_isSmall post x := by
  intro y hy
  rw [hy, rg_eq]
  exact h
theorem sp_To_isBlank {post : Int32 → Unit → Prop} {x : Int32} (h : post (b01 (tkB x)) ()) : wp_met_To_isBlank post x := by
  intro y hy
  rw [hy, bl_eq]
  exact h
theorem sp_Mo_isBlank {post : Int32 → Unit → Prop} {x : Int32} (h : post (b01 (tkB x)) ()) : wp_met_Mo_isBlank post x := by
  intro y hy
  rw [hy, bl_eq]
  exact h
theorem gr_f {x : Int32} (h : ¬ ((65 : Int32) ≤ x ∧ x ≤ 90)) : (decide ((65 : Int32) ≤ x) && decide (x ≤ 90)) = false := by
  by_cases h1 : (65 : Int32) ≤ x
  · have h2 : ¬ x ≤ 90 := fun q => h ⟨h1, q⟩
    simp [h2]
  · simp [h1]
theorem sp_To_isWordByte {post : Int32 → Unit → Prop} {x : Int32} (h : post (b01 (tkW x)) ()) : wp_met_To_isWordByte post x := by
  unfold wp_met_To_isWordByte
  refine sp_To_isSmall ?_
  have k19 : tkS x = false → ¬ ((65 : Int32) ≤ x ∧ x ≤ 90) → jw_met_To_isWordByte_19 post x () := by
    intro hs hg
    have hg' := gr_f hg
    refine ⟨fun h1 => ?_, fun h1 => ?_⟩
    · have e : tkW x = true := by simp [tkW, h1]
      rw [e] at h
      exact h
    · refine sp_To_isDigit ?_
      intro y hy
      have e : tkW x = tkD x := by simp [tkW, hs, hg', h1]
      rw [hy, b01_id, ← e]
      exact h
  refine b01_if (fun hs => ?_) (fun hs => ?_)
  · refine ⟨fun h1 => k19 hs (fun q => absurd h1 (Int32.not_lt.mpr q.1)), fun h1 => ⟨fun h2 => ?_, fun h2 => k19 hs (fun q => h2 q.2)⟩⟩
    have h3 : (65 : Int32) ≤ x := Int32.not_lt.mp h1
    have e : tkW x = true := by simp [tkW, h3, h2]
    rw [e] at h
    exact h
  · have e : tkW x = true := by simp [tkW, hs]
    rw [e] at h
    exact h
theorem sp_Mo_isWord {post : Int32 → Unit → Prop} {x : Int32} (h : post (b01 (tkW x)) ()) : wp_met_Mo_isWord post x := by
  unfold wp_met_Mo_isWord
  refine sp_Mo_isDigit ?_
  refine b01_if (fun hd => ?_) (fun hd => ?_)
  · refine sp_Mo_isSmall ?_
    intro y hy
    have e : y = b01 (tkW x) := by
      rw [hy]
      cases hs : tkS x
      · by_cases h1 : x < 65
        · have h2 : ¬ (65 : Int32) ≤ x := Int32.not_le.mpr h1
          by_cases h3 : x = 95
          · simp [b01, tkW, h3]
          · simp [b01, tkW, hs, hd, h1, h2, h3]
        · have h2 : (65 : Int32) ≤ x := Int32.not_lt.mp h1
          by_cases h4 : x ≤ 90
          · simp [b01, tkW, h1, h2, h4]
          · by_cases h3 : x = 95
            · simp [b01, tkW, h3]
            · simp [b01, tkW, hs, hd, h1, h2, h3, h4]
      · simp [b01, tkW, hs]
    rw [e]
    exact h
  · have e : tkW x = true := by simp [tkW, hd]
    rw [e] at h
    exact h
/-- from k on, past blanks and remarks (cm: within one); d bytes are left -/
def tkSk (F : Nat → Int32) : Nat → Nat → Bool → Nat
  | 0, k, _ => k
  | d + 1, k, true => tkSk F d (k + 1) (!decide (F k = 10))
  | d + 1, k, false => if tkB (F k) = true then tkSk F d (k + 1) false else if F k = 37 then tkSk F d (k + 1) true else k
theorem tkB_37 {x : Int32} (h : tkB x = true) : ¬ x = 37 := by
  intro q
  rw [q] at h
  exact absurd h (by decide)
/-- the first place from k on that is no byte of a word -/
def tkE (F : Nat → Int32) : Nat → Nat → Nat
  | 0, k => k
  | d + 1, k => if tkW (F k) = true then tkE F d (k + 1) else k
theorem tkE_le (F : Nat → Int32) : ∀ d k, k ≤ tkE F d k ∧ tkE F d k ≤ k + d := by
  intro d
  induction d with
  | zero => intro k; exact ⟨Nat.le_refl _, Nat.le_refl _⟩
  | succ d ih =>
    intro k
    unfold tkE
    split
    · have := ih (k + 1)
      omega
    · omega
theorem tkSk_le (F : Nat → Int32) : ∀ d k cm, k ≤ tkSk F d k cm ∧ tkSk F d k cm ≤ k + d := by
  intro d
  induction d with
  | zero => intro k cm; cases cm <;> exact ⟨Nat.le_refl _, Nat.le_refl _⟩
  | succ d ih =>
    intro k cm
    cases cm
    · unfold tkSk
      split
      · have := ih (k + 1) false
        omega
      · split
        · have := ih (k + 1) true
          omega
        · omega
    · unfold tkSk
      have := ih (k + 1) (!decide (F k = 10))
      omega
def isnot (F : Nat → Int32) (a b : Nat) : Bool := decide (b = a + 3) && decide (F a = 110) && decide (F (a + 1) = 111) && decide (F (a + 2) = 116)
/-- the kind of a word: VARIABLE 3, NAME 2, not 5 -/
def tkK (F : Nat → Int32) (a b : Nat) : Int32 := if tkS (F a) = true then (if isnot F a b = true then 5 else 2) else 3
