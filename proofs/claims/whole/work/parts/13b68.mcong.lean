/-! pure: what stands behind a text's end says nothing -/
section Cong
variable {F G : Nat → Int32} {n : Nat}
theorem sk_cong (h : ∀ j, j < n → F j = G j) : ∀ (d k : Nat) (cm : Bool), k + d ≤ n → tkSk F d k cm = tkSk G d k cm := by
  intro d
  induction d with
  | zero => intro k cm hk; cases cm <;> rfl
  | succ d ih =>
    intro k cm hk
    cases cm
    · unfold tkSk
      rw [h k (by omega), ih (k + 1) false (by omega), ih (k + 1) true (by omega)]
    · unfold tkSk
      rw [h k (by omega), ih (k + 1) _ (by omega)]
theorem e_cong (h : ∀ j, j < n → F j = G j) : ∀ (d k : Nat), k + d ≤ n → tkE F d k = tkE G d k := by
  intro d
  induction d with
  | zero => intro k hk; rfl
  | succ d ih =>
    intro k hk
    unfold tkE
    rw [h k (by omega), ih (k + 1) (by omega)]
theorem tv_cong (h : ∀ j, j < n → F j = G j) : ∀ (d k t : Nat), k + d ≤ n → tv F d k t = tv G d k t := by
  intro d
  induction d with
  | zero => intro k t hk; rfl
  | succ d ih =>
    intro k t hk
    unfold tv
    rw [h k (by omega), ih (k + 1) _ (by omega)]
theorem k_cong (h : ∀ j, j < n → F j = G j) {a b : Nat} (ha : a < n) (hb : b ≤ n) : tkK F a b = tkK G a b := by
  have e : isnot F a b = isnot G a b := by
    unfold isnot
    by_cases q : b = a + 3
    · rw [h a ha, h (a + 1) (by omega), h (a + 2) (by omega)]
    · rw [decide_eq_false q]
      rfl
  unfold tkK
  rw [h a ha, e]
theorem tkc_cong (h : ∀ j, j < n → F j = G j) {k : Nat} {c : Int32} : tkc F n k c = tkc G n k c := by
  unfold tkc
  by_cases q : k < n
  · rw [h k q]
  · rw [decide_eq_false q]
    rfl
theorem sg_cong (h : ∀ j, j < n → F j = G j) {k : Nat} (hk : k < n) : sgk F n k = sgk G n k := by
  unfold sgk
  rw [h k hk, tkc_cong h, tkc_cong h]
theorem ds_cong (h : ∀ j, j < n → F j = G j) {k : Nat} (hk : k < n) : ds F k = ds G k := by
  unfold ds
  rw [h k hk]
theorem TK_cong (h : ∀ j, j < n → F j = G j) {k : Nat} (hk : k ≤ n) : TK F n k = TK G n k := by
  have hs := tkSk_le G (n - k) k false
  unfold TK
  rw [sk_cong h (n - k) k false (by omega)]
  generalize tkSk G (n - k) k false = a at hs ⊢
  by_cases q : a < n
  · rw [if_pos q, if_pos q, h a q, e_cong h (n - a) a (by omega), ds_cong h q]
    have hE := tkE_le G (n - a) a
    have hds : ds G a ≤ n := by
      unfold ds
      split <;> omega
    rw [tv_cong h (n - ds G a) (ds G a) 0 (by omega), sg_cong h q, k_cong h q (by omega)]
  · rw [if_neg q, if_neg q]
theorem sl_cong (h : ∀ j, j < n → F j = G j) {a m : Nat} (hm : a + m ≤ n) : sl F a m = sl G a m := sl_eq m a a (fun j hj => h (a + j) (by omega))
theorem mTerm_cong (h : ∀ j, j < n → F j = G j) {md a b : Nat} {D : Dt} {kd : Int32} {v : Int} (hab : a ≤ b) (hb : b ≤ n) : mTerm md F D kd a b v = mTerm md G D kd a b v := by
  unfold mTerm
  rw [sl_cong h (show a + (b - a) ≤ n by omega)]
theorem mName_cong (h : ∀ j, j < n → F j = G j) {md a b np k2 : Nat} {D : Dt} {kind : Int32} (hab : a ≤ b) (hb : b ≤ n) : mName md F D kind np a b k2 = mName md G D kind np a b k2 := by
  unfold mName
  rw [sl_cong h (show a + (b - a) ≤ n by omega)]
/-- where the machine stands -/
def POk (n : Nat) (c : Ct) (k : Nat) : Prop := k ≤ n ∧ (c.1 = 7 → c.2.1 < c.2.2 ∧ c.2.2 ≤ k)
theorem mStep_cong (h : ∀ j, j < n → F j = G j) {md k : Nat} {c : Ct} {D : Dt} (hk : POk n c k) : mStep md F n c D k = mStep md G n c D k := by
  obtain ⟨h1, h2⟩ := hk
  have hpos := TK_pos G n k h1
  unfold mStep
  rw [TK_cong h h1]
  by_cases q7 : c.1 = 7
  · obtain ⟨q1, q2⟩ := h2 q7
    simp only [q7]
    rw [mTerm_cong h (show c.2.1 ≤ c.2.2 by omega) (show c.2.2 ≤ n by omega), mName_cong h (show c.2.1 ≤ c.2.2 by omega) (show c.2.2 ≤ n by omega)]
    rfl
  · simp only [if_neg q7, mTerm_cong h hpos.2.1 hpos.2.2.1, mName_cong h hpos.2.1 hpos.2.2.1]
end Cong
section Pok
variable {F : Nat → Int32} {n md k : Nat} {c c2 : Ct} {D D2 : Dt} {k2 : Nat}
theorem name_pok {x : Rs} {kind : Int32} {np a b k3 : Nat} {D0 : Dt} (hk : k3 ≤ n) (hx : mName md F D0 kind np a b k3 = x) (h : x = .inr (some (c2, D2, k2))) : POk n c2 k2 := by
  subst hx
  unfold mName at h
  split at h
  · simp only [Sum.inr.injEq, Option.some.injEq, Prod.mk.injEq] at h
    obtain ⟨h1, -, h3⟩ := h
    subst h1 h3
    refine ⟨hk, fun z => ?_⟩
    exfalso
    revert z
    show ¬ (if md = 3 then 11 else 2) = 7
    split <;> decide
  · cases h
theorem shut_pok {x : Rs} {k3 : Nat} {D0 : Dt} (hk : k3 ≤ n) (hx : mShut md D0 k3 = x) (h : x = .inr (some (c2, D2, k2))) : POk n c2 k2 := by
  subst hx
  unfold mShut at h
  simp only [Sum.inr.injEq, Option.some.injEq, Prod.mk.injEq] at h
  obtain ⟨h1, -, h3⟩ := h
  subst h1 h3
  refine ⟨hk, fun z => ?_⟩
  exfalso
  revert z
  show ¬ (if md = 2 then 11 else if md = 0 ∧ D0.2.1 = [] then 5 else 10) = 7
  repeat' split
  all_goals decide
theorem dot_pok {x : Rs} {k3 : Nat} {D0 : Dt} (hk : k3 ≤ n) (hx : mDot D0 k3 = x) (h : x = .inr (some (c2, D2, k2))) : POk n c2 k2 := by
  subst hx
  unfold mDot at h
  simp only [Sum.inr.injEq, Option.some.injEq, Prod.mk.injEq] at h
  obtain ⟨h1, -, h3⟩ := h
  subst h1 h3
  exact ⟨hk, fun z => absurd z (by decide)⟩
theorem st_pok {c3 : Ct} {D3 : Dt} {k3 : Nat} (hk : k3 ≤ n) (h7 : ¬ c3.1 = 7) (h : (Sum.inr (some (c3, D3, k3)) : Rs) = .inr (some (c2, D2, k2))) : POk n c2 k2 := by
  simp only [Sum.inr.injEq, Option.some.injEq, Prod.mk.injEq] at h
  obtain ⟨h1, -, h3⟩ := h
  subst h1 h3
  exact ⟨hk, fun z => absurd z h7⟩
theorem mStep_pok (hk : POk n c k) (h : mStep md F n c D k = .inr (some (c2, D2, k2))) : POk n c2 k2 := by
  obtain ⟨h1, h2⟩ := hk
  have hpos := TK_pos F n k h1
  have hlt : (TK F n k).1 = 2 → (TK F n k).2.1 < (TK F n k).2.2.1 := fun z => TK_term_lt h1 (by rw [z]; decide)
  unfold mStep at h
  simp only at h
  by_cases e2 : c.1 = 2
  · rw [if_pos e2] at h
    split at h
    · exact st_pok (by omega) (by decide) h
    · exact shut_pok h1 rfl h
  rw [if_neg e2] at h
  by_cases e7 : c.1 = 7
  · rw [if_pos e7] at h
    split at h
    · split at h
      · exact st_pok h1 (by decide) h
      · cases h
    · exact name_pok h1 rfl h
  rw [if_neg e7] at h
  by_cases kb : (TK F n k).1 = 1
  · rw [if_pos kb] at h
    cases h
  rw [if_neg kb] at h
  by_cases e0 : c.1 = 0
  · rw [if_pos e0] at h
    split at h
    · cases h
    · split at h
      · cases h
      · split at h
        · cases h
        · exact name_pok (by omega) rfl h
  rw [if_neg e0] at h
  by_cases e1 : c.1 = 1
  · rw [if_pos e1] at h
    split at h
    · cases h
    · exact name_pok (by omega) rfl h
  rw [if_neg e1] at h
  by_cases e3 : c.1 = 3
  · rw [if_pos e3] at h
    split at h
    · cases h
    · split at h
      · cases h
      · split at h
        · exact st_pok (by omega) (by decide) h
        · cases h
  rw [if_neg e3] at h
  by_cases e4 : c.1 = 4
  · rw [if_pos e4] at h
    split at h
    · exact st_pok (by omega) (by decide) h
    · split at h
      · exact shut_pok (by omega) rfl h
      · cases h
  rw [if_neg e4] at h
  by_cases e5 : c.1 = 5
  · rw [if_pos e5] at h
    split at h
    · exact dot_pok (by omega) rfl h
    · split at h
      · exact st_pok (by omega) (by decide) h
      · cases h
  rw [if_neg e5] at h
  by_cases e6 : c.1 = 6
  · rw [if_pos e6] at h
    by_cases hnt : ¬ (isT (TK F n k).1 = true ∨ (TK F n k).1 = 5)
    · rw [if_pos hnt] at h
      cases h
    · rw [if_neg hnt] at h
      by_cases hl : D.2.1.length = 12 + (if md = 0 then 1 else 0)
      · rw [if_pos hl] at h
        cases h
      · rw [if_neg hl] at h
        split at h
        · rename_i k2e
          simp only [Sum.inr.injEq, Option.some.injEq, Prod.mk.injEq] at h
          obtain ⟨g1, -, g3⟩ := h
          subst g1 g3
          exact ⟨by omega, fun _ => ⟨hlt k2e, Nat.le_refl _⟩⟩
        · split at h
          · exact st_pok (by omega) (by decide) h
          · split at h
            · exact st_pok (by omega) (by decide) h
            · cases h
  rw [if_neg e6] at h
  by_cases e8 : c.1 = 8
  · rw [if_pos e8] at h
    split at h
    · exact st_pok (by omega) (by decide) h
    · cases h
  rw [if_neg e8] at h
  by_cases e9 : c.1 = 9
  · rw [if_pos e9] at h
    split at h
    · cases h
    · split at h
      · exact st_pok (by omega) (by decide) h
      · cases h
  rw [if_neg e9] at h
  by_cases e10 : c.1 = 10
  · rw [if_pos e10] at h
    split at h
    · exact st_pok (by omega) (by decide) h
    · split at h
      · exact dot_pok (by omega) rfl h
      · split at h
        · cases h
        · cases h
  rw [if_neg e10] at h
  split at h
  · cases h
  · cases h
end Pok
theorem mRun_cong {F G : Nat → Int32} {n md : Nat} (h : ∀ j, j < n → F j = G j) : ∀ (f : Nat) (c : Ct) (D : Dt) (k : Nat), POk n c k → mRun md F n f c D k = mRun md G n f c D k := by
  intro f
  induction f with
  | zero => intro c D k hk; rfl
  | succ f ih =>
    intro c D k hk
    unfold mRun
    rw [mStep_cong h hk]
    cases hs : mStep md G n c D k with
    | inl e => rfl
    | inr x =>
      cases x with
      | none => rfl
      | some y =>
        obtain ⟨c2, D2, k2⟩ := y
        exact ih c2 D2 k2 (mStep_pok hk hs)
theorem Ends_cong {F G : Nat → Int32} {n md k : Nat} {c : Ct} {D : Dt} {r : (Nat × Nat) ⊕ Dt} (h : ∀ j, j < n → F j = G j) (hk : POk n c k) : Ends md F n c D k r ↔ Ends md G n c D k r := by
  constructor
  · intro ⟨f, hf⟩
    exact ⟨f, by rw [← mRun_cong h f c D k hk]; exact hf⟩
  · intro ⟨f, hf⟩
    exact ⟨f, by rw [mRun_cong h f c D k hk]; exact hf⟩
