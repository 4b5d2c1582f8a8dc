/-! pure: the model's present token -/
def Cur (G : Nat → Int32) (n o k : Nat) (tk fr to : Int32) (am : Int64) : Prop := ¬ (TK G n k).1 = 1 ∧ tk = mkd (TK G n k).1 ∧ fr = nI (o + (TK G n k).2.1) ∧ to = nI (o + (TK G n k).2.2.1) ∧ ((TK G n k).1 = 4 → am.toInt = (TK G n k).2.2.2)
theorem MN_of {post : Int32 → (Int32 × Int32 × Int32 × Int32 × Int32 × Int64) → Prop} {F : Nat → Int32} {n o k : Nat} {fc fp : Int32} (hs : o + n ≤ 196608) (hk : k ≤ n)
    (h0 : (TK (shf F o) n k).1 = 1 → ∀ tk fr to am, post 0 (1, nI (TK (shf F o) n k).2.1, tk, fr, to, am))
    (h1 : ∀ tk fr to am, Cur (shf F o) n o k tk fr to am → post 1 (fc, fp, tk, fr, to, am)) : MN post F (o + n) (o + k) fc fp (nI o) := by
  intro kd a b vl ht
  have hp := TK_pos (shf F o) n k hk
  obtain ⟨e1, e2, e3, e4⟩ := TK_of ht
  rw [TK_sh hk] at e1 e2 e3 e4
  simp only at e1 e2 e3 e4
  subst e1 e2 e3
  refine ⟨fun z tk fr to am => ?_, fun z am hv => ?_⟩
  · rw [pk_sub (by omega), show o + (TK (shf F o) n k).2.1 - o = (TK (shf F o) n k).2.1 by omega]
    exact h0 z tk fr to am
  · exact h1 _ _ _ am ⟨z, rfl, rfl, rfl, fun q => by rw [hv q]; exact e4 q⟩
theorem sp_Mo_nextR {post : Int32 → (Int32 × Int32 × Int32 × Int32 × Int32 × Int64) → Prop} {F : Nat → Int32} {n o k : Nat} {fc fp : Int32} {am : Int64} (hs : o + n ≤ 196608) (hB : ∀ j, j < o + n → byt (F j)) (hk : k ≤ n)
    (h0 : (TK (shf F o) n k).1 = 1 → ∀ tk fr to am, post 0 (1, nI (TK (shf F o) n k).2.1, tk, fr, to, am))
    (h1 : ∀ tk fr to am, Cur (shf F o) n o k tk fr to am → post 1 (fc, fp, tk, fr, to, am)) : wp_met_Mo_next post fc fp (nI o) (nI (o + n)) (nI (o + k)) am F :=
  sp_Mo_next hs hB (by omega) (MN_of hs hk h0 h1)
/-- the kinds there are -/
theorem TK_kinds (F : Nat → Int32) (n k : Nat) : (TK F n k).1 = 0 ∨ (TK F n k).1 = 1 ∨ (TK F n k).1 = 2 ∨ (TK F n k).1 = 3 ∨ (TK F n k).1 = 4 ∨ (TK F n k).1 = 5 ∨ (TK F n k).1 = 6 ∨ (TK F n k).1 = 7 ∨ (TK F n k).1 = 8 ∨ (TK F n k).1 = 9 ∨ (TK F n k).1 = 10 ∨ (TK F n k).1 = 11 ∨ (TK F n k).1 = 12 ∨ (TK F n k).1 = 13 ∨ (TK F n k).1 = 14 ∨ (TK F n k).1 = 15 ∨ (TK F n k).1 = 16 := by
  unfold TK
  generalize tkSk F (n - k) k false = a
  by_cases q : a < n
  · rw [if_pos q]
    by_cases g1 : (tkW (F a) && !tkD (F a)) = true
    · rw [if_pos g1]
      rcases tkK_cases F a (tkE F (n - a) a) with c | c | c <;> simp [c]
    · rw [if_neg g1]
      by_cases g2 : (tkD (F a) || decide (F a = 45)) = true
      · rw [if_pos g2]
        by_cases z1 : decide ((tv F (n - ds F a) (ds F a) 0).2 ≤ ds F a) = true
        · rw [if_pos z1]
          exact Or.inr (Or.inl rfl)
        · rw [if_neg z1]
          by_cases z2 : (if decide (F a = 45) = true then 2147483648 else 2147483647) < (tv F (n - ds F a) (ds F a) 0).1
          · rw [if_pos z2]
            exact Or.inr (Or.inl rfl)
          · rw [if_neg z2]
            exact Or.inr (Or.inr (Or.inr (Or.inr (Or.inl rfl))))
      · rw [if_neg g2]
        rcases sgk_cases F n a with c | ⟨-, c⟩ | ⟨-, c⟩
        · simp [c]
        · rcases c with c | c | c | c | c | c | c <;> simp [c]
        · rcases c with c | c | c | c <;> simp [c]
  · rw [if_neg q]
    exact Or.inl rfl
theorem TK_num {F : Nat → Int32} {n k : Nat} (h : (TK F n k).1 = 4) : -2147483648 ≤ (TK F n k).2.2.2 ∧ (TK F n k).2.2.2 < 2147483648 := by
  unfold TK at h ⊢
  generalize tkSk F (n - k) k false = a at h ⊢
  by_cases q : a < n
  · rw [if_pos q] at h ⊢
    by_cases g1 : (tkW (F a) && !tkD (F a)) = true
    · rw [if_pos g1] at h ⊢
      simp
    · rw [if_neg g1] at h ⊢
      by_cases g2 : (tkD (F a) || decide (F a = 45)) = true
      · rw [if_pos g2] at h ⊢
        simp only at h ⊢
        by_cases z1 : decide ((tv F (n - ds F a) (ds F a) 0).2 ≤ ds F a) = true
        · rw [if_pos z1] at h
          exact absurd h (by decide)
        · rw [if_neg z1] at h
          by_cases z2 : (if decide (F a = 45) = true then 2147483648 else 2147483647) < (tv F (n - ds F a) (ds F a) 0).1
          · rw [if_pos z2] at h
            exact absurd h (by decide)
          · by_cases z3 : decide (F a = 45) = true
            · rw [if_pos z3] at z2 ⊢
              omega
            · rw [if_neg z3] at z2 ⊢
              omega
      · rw [if_neg g2] at h ⊢
        simp
  · rw [if_neg q] at h ⊢
    simp
theorem sp_Mo_isTerm {post : Int32 → Unit → Prop} {F : Nat → Int32} {n k : Nat} (hn : ¬ (TK F n k).1 = 1) (h : post (b01 (isT (TK F n k).1)) ()) : wp_met_Mo_isTerm post (mkd (TK F n k).1) := by
  intro y hy
  have e : y = b01 (isT (TK F n k).1) := by
    rw [hy]
    rcases TK_kinds F n k with c | c | c | c | c | c | c | c | c | c | c | c | c | c | c | c | c <;> first | exact absurd c hn | (rw [c]; decide)
  rw [e]
  exact h
theorem sp_Mo_cannot {post : Int32 → (Int32 × Int32) → Prop} {o a : Nat} (ho : o + a < 2147483648) (h : post 0 (2, nI a)) : wp_met_Mo_cannot post (nI o) (nI (o + a)) := by
  unfold wp_met_Mo_cannot
  refine sp_Mo_flaw ?_
  rw [pk_sub (by omega), show o + a - o = a by omega]
  exact ⟨Or.inl rfl, h⟩
