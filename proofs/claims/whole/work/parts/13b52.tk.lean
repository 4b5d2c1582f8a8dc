/-! pure: the token from a place on, as a function -/
def TK (F : Nat → Int32) (n k : Nat) : Int32 × Nat × Nat × Int :=
  if tkSk F (n - k) k false < n then
    (if (tkW (F (tkSk F (n - k) k false)) && !tkD (F (tkSk F (n - k) k false))) = true then (tkK F (tkSk F (n - k) k false) (tkE F (n - tkSk F (n - k) k false) (tkSk F (n - k) k false)), tkSk F (n - k) k false, tkE F (n - tkSk F (n - k) k false) (tkSk F (n - k) k false), 0)
    else if (tkD (F (tkSk F (n - k) k false)) || decide (F (tkSk F (n - k) k false) = 45)) = true then
      ((if decide ((tv F (n - ds F (tkSk F (n - k) k false)) (ds F (tkSk F (n - k) k false)) 0).2 ≤ ds F (tkSk F (n - k) k false)) = true then 1 else if (if decide (F (tkSk F (n - k) k false) = 45) = true then 2147483648 else 2147483647) < (tv F (n - ds F (tkSk F (n - k) k false)) (ds F (tkSk F (n - k) k false)) 0).1 then 1 else 4), tkSk F (n - k) k false, (tv F (n - ds F (tkSk F (n - k) k false)) (ds F (tkSk F (n - k) k false)) 0).2, (if decide (F (tkSk F (n - k) k false) = 45) = true then -((tv F (n - ds F (tkSk F (n - k) k false)) (ds F (tkSk F (n - k) k false)) 0).1 : Int) else ((tv F (n - ds F (tkSk F (n - k) k false)) (ds F (tkSk F (n - k) k false)) 0).1 : Int)))
    else ((sgk F n (tkSk F (n - k) k false)).1, tkSk F (n - k) k false, (sgk F n (tkSk F (n - k) k false)).2, 0))
  else (0, tkSk F (n - k) k false, tkSk F (n - k) k false, 0)
theorem TK_of {F : Nat → Int32} {n k a b : Nat} {kd vl : Int32} (h : TokR F n k kd a b vl) : kd = (TK F n k).1 ∧ a = (TK F n k).2.1 ∧ b = (TK F n k).2.2.1 ∧ (kd = 4 → vl.toInt = (TK F n k).2.2.2) := by
  obtain ⟨ha, h⟩ := h
  unfold TK
  rw [← ha]
  by_cases q : a < n
  · rw [if_pos q] at h ⊢
    by_cases g1 : (tkW (F a) && !tkD (F a)) = true
    · rw [if_pos g1] at h ⊢
      obtain ⟨h1, h2, h3⟩ := h
      subst h1
      refine ⟨h2, rfl, rfl, fun z => ?_⟩
      rw [h2] at z
      rcases tkK_cases F a (tkE F (n - a) a) with c | c | c <;> rw [c] at z <;> exact absurd z (by decide)
    · rw [if_neg g1] at h ⊢
      by_cases g2 : (tkD (F a) || decide (F a = 45)) = true
      · rw [if_pos g2] at h ⊢
        obtain ⟨h1, h2, h3⟩ := h
        subst h1
        exact ⟨h2, rfl, rfl, h3⟩
      · rw [if_neg g2] at h ⊢
        obtain ⟨h1, h2, h3⟩ := h
        subst h2
        refine ⟨h1, rfl, rfl, fun z => ?_⟩
        rw [h1] at z
        exfalso
        rcases sgk_cases F n a with c | ⟨-, c⟩ | ⟨-, c⟩
        · rw [c] at z
          exact absurd z (by decide)
        · rcases c with c | c | c | c | c | c | c <;> rw [c] at z <;> exact absurd z (by decide)
        · rcases c with c | c | c | c <;> rw [c] at z <;> exact absurd z (by decide)
  · rw [if_neg q] at h ⊢
    obtain ⟨h1, h2, h3⟩ := h
    subst h2
    exact ⟨h1, rfl, rfl, fun z => by rw [h1] at z; exact absurd z (by decide)⟩
theorem tv_le (F : Nat → Int32) : ∀ d k t, k ≤ (tv F d k t).2 ∧ (tv F d k t).2 ≤ k + d := by
  intro d
  induction d with
  | zero => intro k t; exact ⟨Nat.le_refl _, Nat.le_refl _⟩
  | succ d ih =>
    intro k t
    unfold tv
    split
    · have := ih (k + 1) (10 * t + dv (F k))
      omega
    · exact ⟨Nat.le_refl _, by omega⟩
/-- a token begins behind k and, but at the end, has a byte at least -/
theorem TK_pos (F : Nat → Int32) (n k : Nat) (hk : k ≤ n) : k ≤ (TK F n k).2.1 ∧ (TK F n k).2.1 ≤ (TK F n k).2.2.1 ∧ (TK F n k).2.2.1 ≤ n ∧ ((TK F n k).1 = 0 ∨ (TK F n k).2.1 < (TK F n k).2.2.1) := by
  have hs := tkSk_le F (n - k) k false
  unfold TK
  generalize tkSk F (n - k) k false = a at hs ⊢
  by_cases q : a < n
  · rw [if_pos q]
    by_cases g1 : (tkW (F a) && !tkD (F a)) = true
    · rw [if_pos g1]
      obtain ⟨d, hd⟩ : ∃ d, n - a = d + 1 := ⟨n - a - 1, by omega⟩
      have gw : tkW (F a) = true := by
        rw [Bool.and_eq_true] at g1
        exact g1.1
      have e : tkE F (n - a) a = tkE F d (a + 1) := by rw [hd]; simp [tkE, gw]
      have := tkE_le F d (a + 1)
      simp only [e]
      exact ⟨by omega, by omega, by omega, Or.inr (by omega)⟩
    · rw [if_neg g1]
      by_cases g2 : (tkD (F a) || decide (F a = 45)) = true
      · rw [if_pos g2]
        have hle := tv_le F (n - ds F a) (ds F a) 0
        have hds : (F a = 45 ∧ ds F a = a + 1) ∨ (¬ F a = 45 ∧ ds F a = a) := by
          unfold ds
          by_cases z : F a = 45
          · exact Or.inl ⟨z, by rw [if_pos z]⟩
          · exact Or.inr ⟨z, by rw [if_neg z]⟩
        have hpos : a < (tv F (n - ds F a) (ds F a) 0).2 := by
          rcases hds with ⟨z, e⟩ | ⟨z, e⟩
          · omega
          · have gd : tkD (F a) = true := by
              rw [Bool.or_eq_true] at g2
              rcases g2 with g | g
              · exact g
              · exact absurd (of_decide_eq_true g) z
            obtain ⟨d, hd⟩ : ∃ d, n - a = d + 1 := ⟨n - a - 1, by omega⟩
            rw [e, hd]
            have e2 : tv F (d + 1) a 0 = tv F d (a + 1) (10 * 0 + dv (F a)) := by simp [tv, gd]
            rw [e2]
            have := tv_le F d (a + 1) (10 * 0 + dv (F a))
            omega
        have hds2 : ds F a ≤ n := by rcases hds with ⟨_, e⟩ | ⟨_, e⟩ <;> omega
        exact ⟨by show k ≤ a; omega, by show a ≤ (tv F (n - ds F a) (ds F a) 0).2; omega, by show (tv F (n - ds F a) (ds F a) 0).2 ≤ n; omega, Or.inr hpos⟩
      · rw [if_neg g2]
        have hb : a + 1 ≤ (sgk F n a).2 ∧ (sgk F n a).2 ≤ n := by
          have tk2 : ∀ c, tkc F n (a + 1) c = true → a + 2 ≤ n := by
            intro c hc
            simp only [tkc, Bool.and_eq_true, decide_eq_true_eq] at hc
            omega
          unfold sgk
          repeat' split
          all_goals first | exact ⟨by show a + 1 ≤ a + 1; omega, by show a + 1 ≤ n; omega⟩ | (rename_i hh; exact ⟨by show a + 1 ≤ a + 2; omega, tk2 _ hh⟩)
        exact ⟨by show k ≤ a; omega, by show a ≤ (sgk F n a).2; omega, by show (sgk F n a).2 ≤ n; omega, Or.inr (by show a < (sgk F n a).2; omega)⟩
  · rw [if_neg q]
    exact ⟨by show k ≤ a; omega, Nat.le_refl _, by show a ≤ n; omega, Or.inl rfl⟩
