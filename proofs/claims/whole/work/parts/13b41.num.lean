/-! pure: numbers, signs and next, the class's side -/
theorem l_bm (x : Int) : x.bmod (2 ^ 64) = (x + 9223372036854775808) % 18446744073709551616 - 9223372036854775808 := by
  rw [Int.bmod_def]
  split <;> omega
theorem i_bm (x : Int) : x.bmod (2 ^ 32) = (x + 2147483648) % 4294967296 - 2147483648 := by
  rw [Int.bmod_def]
  split <;> omega
theorem i_add {a b y : Int32} (h : y = a + b) (h1 : -2147483648 ≤ a.toInt + b.toInt) (h2 : a.toInt + b.toInt < 2147483648) : y.toInt = a.toInt + b.toInt := by
  rw [h, Int32.toInt_add, i_bm]
  omega
theorem i_sub {a b y : Int32} (h : y = a - b) (h1 : -2147483648 ≤ a.toInt - b.toInt) (h2 : a.toInt - b.toInt < 2147483648) : y.toInt = a.toInt - b.toInt := by
  rw [h, Int32.toInt_sub, i_bm]
  omega
theorem l_add {a b y : Int64} (h : y = a + b) (h1 : -9223372036854775808 ≤ a.toInt + b.toInt) (h2 : a.toInt + b.toInt < 9223372036854775808) : y.toInt = a.toInt + b.toInt := by
  rw [h, Int64.toInt_add, l_bm]
  omega
theorem l_sub {a b y : Int64} (h : y = a - b) (h1 : -9223372036854775808 ≤ a.toInt - b.toInt) (h2 : a.toInt - b.toInt < 9223372036854775808) : y.toInt = a.toInt - b.toInt := by
  rw [h, Int64.toInt_sub, l_bm]
  omega
theorem l_neg {a : Int64} (h1 : -9223372036854775808 < a.toInt) (h2 : a.toInt < 9223372036854775808) : (-a).toInt = -a.toInt := by
  rw [Int64.toInt_neg, l_bm]
  omega
theorem l_m10 {a y : Int64} (h : y = a * 10) (h1 : 0 ≤ a.toInt) (h2 : a.toInt < 100000000000000000) : y.toInt = 10 * a.toInt := by
  have e : (10 : Int64).toInt = 10 := by decide
  rw [h, Int64.toInt_mul, l_bm, e]
  omega
theorem tkD_rng {x : Int32} (h : tkD x = true) : 48 ≤ x.toInt ∧ x.toInt ≤ 57 := by
  simp only [tkD, Bool.and_eq_true, decide_eq_true_eq] at h
  have h1 := Int32.le_iff_toInt_le.mp h.1
  have h2 := Int32.le_iff_toInt_le.mp h.2
  have e1 : (48 : Int32).toInt = 48 := by decide
  have e2 : (57 : Int32).toInt = 57 := by decide
  omega
def dv (x : Int32) : Nat := (x.toInt - 48).toNat
/-- the number that stands from k on, and where it ends -/
def tv (F : Nat → Int32) : Nat → Nat → Nat → Nat × Nat
  | 0, k, s => (s, k)
  | d + 1, k, s => if tkD (F k) = true then tv F d (k + 1) (10 * s + dv (F k)) else (s, k)
def NumR (mi none : Bool) (t : Nat) (kd vl : Int32) : Prop := kd = (if none = true then 1 else if (if mi = true then 2147483648 else 2147483647) < t then 1 else 4) ∧ (kd = 4 → vl.toInt = if mi = true then -(t : Int) else t)
def tkc (F : Nat → Int32) (n k : Nat) (c : Int32) : Bool := decide (k < n) && decide (F k = c)
/-- a sign: its kind, and where it ends -/
def sgk (F : Nat → Int32) (n k : Nat) : Int32 × Nat := if F k = 33 then (if tkc F n (k + 1) 61 = true then (12, k + 2) else (1, k + 1)) else if F k = 40 then (6, k + 1) else if F k = 41 then (7, k + 1) else if F k = 44 then (8, k + 1) else if F k = 46 then (9, k + 1) else if F k = 58 then (if tkc F n (k + 1) 45 = true then (10, k + 2) else (1, k + 1)) else if F k = 60 then (if tkc F n (k + 1) 61 = true then (14, k + 2) else (13, k + 1)) else if F k = 61 then (11, k + 1) else if F k = 62 then (if tkc F n (k + 1) 61 = true then (16, k + 2) else (15, k + 1)) else (1, k + 1)
/-- where the digits of a number begin that begins at a -/
def ds (F : Nat → Int32) (a : Nat) : Nat := if F a = 45 then a + 1 else a
/-- the token from k on, of a text of n bytes: its kind (the class's numbers), first place, end, value -/
def TokR (F : Nat → Int32) (n k : Nat) (kd : Int32) (a b : Nat) (vl : Int32) : Prop :=
  a = tkSk F (n - k) k false ∧ (if a < n then (if (tkW (F a) && !tkD (F a)) = true then b = tkE F (n - a) a ∧ kd = tkK F a b ∧ vl = 0 else if (tkD (F a) || decide (F a = 45)) = true then b = (tv F (n - ds F a) (ds F a) 0).2 ∧ NumR (decide (F a = 45)) (decide (b ≤ ds F a)) (tv F (n - ds F a) (ds F a) 0).1 kd vl else kd = (sgk F n a).1 ∧ b = (sgk F n a).2 ∧ vl = 0) else kd = 0 ∧ b = a ∧ vl = 0)
