/-! pure: a text that stands further on is read the same -/
section Shift
variable {F : Nat → Int32} {o : Nat}
def shf (F : Nat → Int32) (o : Nat) : Nat → Int32 := fun j => F (o + j)
theorem sl_sh : ∀ (l a : Nat), sl F (o + a) l = sl (shf F o) a l := by
  intro l
  induction l with
  | zero => intro a; rfl
  | succ l ih =>
    intro a
    unfold sl
    rw [show o + a + 1 = o + (a + 1) by omega, ih (a + 1)]
    rfl
theorem sk_sh : ∀ (d k : Nat) (cm : Bool), tkSk F d (o + k) cm = o + tkSk (shf F o) d k cm := by
  intro d
  induction d with
  | zero => intro k cm; cases cm <;> rfl
  | succ d ih =>
    intro k cm
    cases cm
    · unfold tkSk
      rw [show o + k + 1 = o + (k + 1) by omega, ih (k + 1) false, ih (k + 1) true]
      show (if tkB (F (o + k)) = true then _ else if F (o + k) = 37 then _ else _) = o + (if tkB (F (o + k)) = true then _ else if F (o + k) = 37 then _ else _)
      split
      · rfl
      · split <;> rfl
    · unfold tkSk
      rw [show o + k + 1 = o + (k + 1) by omega, ih]
      rfl
theorem e_sh : ∀ (d k : Nat), tkE F d (o + k) = o + tkE (shf F o) d k := by
  intro d
  induction d with
  | zero => intro k; rfl
  | succ d ih =>
    intro k
    unfold tkE
    rw [show o + k + 1 = o + (k + 1) by omega, ih (k + 1)]
    show (if tkW (F (o + k)) = true then _ else _) = o + (if tkW (F (o + k)) = true then _ else _)
    split <;> rfl
theorem not_sh {a b : Nat} : isnot F (o + a) (o + b) = isnot (shf F o) a b := by
  unfold isnot shf
  rw [show o + a + 1 = o + (a + 1) by omega, show o + a + 2 = o + (a + 2) by omega]
  have e : decide (o + b = o + a + 3) = decide (b = a + 3) := by
    by_cases q : b = a + 3
    · rw [decide_eq_true q, decide_eq_true (by omega)]
    · rw [decide_eq_false q, decide_eq_false (by omega)]
  rw [e]
theorem k_sh {a b : Nat} : tkK F (o + a) (o + b) = tkK (shf F o) a b := by
  unfold tkK
  rw [not_sh]
  rfl
theorem tv_sh : ∀ (d k t : Nat), tv F d (o + k) t = ((tv (shf F o) d k t).1, o + (tv (shf F o) d k t).2) := by
  intro d
  induction d with
  | zero => intro k t; rfl
  | succ d ih =>
    intro k t
    unfold tv
    rw [show o + k + 1 = o + (k + 1) by omega, ih (k + 1)]
    show (if tkD (F (o + k)) = true then _ else _) = ((if tkD (F (o + k)) = true then _ else _ : Nat × Nat).1, o + (if tkD (F (o + k)) = true then _ else _ : Nat × Nat).2)
    split <;> rfl
theorem ds_sh {a : Nat} : ds F (o + a) = o + ds (shf F o) a := by
  unfold ds
  show (if F (o + a) = 45 then _ else _) = o + (if F (o + a) = 45 then _ else _)
  split
  · omega
  · rfl
theorem c_sh {n k : Nat} {c : Int32} : tkc F (o + n) (o + k) c = tkc (shf F o) n k c := by
  unfold tkc shf
  have e : decide (o + k < o + n) = decide (k < n) := by
    by_cases q : k < n
    · rw [decide_eq_true q, decide_eq_true (by omega)]
    · rw [decide_eq_false q, decide_eq_false (by omega)]
  rw [e]
theorem sg_sh {n k : Nat} : sgk F (o + n) (o + k) = ((sgk (shf F o) n k).1, o + (sgk (shf F o) n k).2) := by
  unfold sgk
  rw [show o + k + 1 = o + (k + 1) by omega, show o + k + 2 = o + (k + 2) by omega, c_sh, c_sh]
  show (if F (o + k) = 33 then _ else _) = _
  have e : shf F o k = F (o + k) := rfl
  rw [e]
  repeat' split
  all_goals rfl
theorem TK_sh {n k : Nat} (hk : k ≤ n) : TK F (o + n) (o + k) = ((TK (shf F o) n k).1, o + (TK (shf F o) n k).2.1, o + (TK (shf F o) n k).2.2.1, (TK (shf F o) n k).2.2.2) := by
  have hs := tkSk_le (shf F o) (n - k) k false
  unfold TK
  rw [show o + n - (o + k) = n - k by omega, sk_sh]
  generalize tkSk (shf F o) (n - k) k false = a at hs ⊢
  have e : F (o + a) = shf F o a := rfl
  by_cases q : a < n
  · rw [if_pos q, if_pos (show o + a < o + n by omega), e]
    by_cases g1 : (tkW (shf F o a) && !tkD (shf F o a)) = true
    · rw [if_pos g1, if_pos g1, show o + n - (o + a) = n - a by omega, e_sh, k_sh]
    · rw [if_neg g1, if_neg g1]
      by_cases g2 : (tkD (shf F o a) || decide (shf F o a = 45)) = true
      · rw [if_pos g2, if_pos g2, ds_sh, show o + n - (o + ds (shf F o) a) = n - ds (shf F o) a by omega, tv_sh]
        have e2 : decide (o + (tv (shf F o) (n - ds (shf F o) a) (ds (shf F o) a) 0).2 ≤ o + ds (shf F o) a) = decide ((tv (shf F o) (n - ds (shf F o) a) (ds (shf F o) a) 0).2 ≤ ds (shf F o) a) := by
          by_cases z : (tv (shf F o) (n - ds (shf F o) a) (ds (shf F o) a) 0).2 ≤ ds (shf F o) a
          · rw [decide_eq_true z, decide_eq_true (by omega)]
          · rw [decide_eq_false z, decide_eq_false (by omega)]
        simp only [e2]
      · rw [if_neg g2, if_neg g2, sg_sh]
  · rw [if_neg q, if_neg (show ¬ o + a < o + n by omega)]
end Shift
