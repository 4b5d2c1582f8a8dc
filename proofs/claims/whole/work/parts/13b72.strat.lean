/-! pure: what depends on what; the least strata -/
def pth (R : Nat → Nat → Prop) (B : Nat) : Nat → Nat → Nat → Prop
  | 0, a, c => R a c
  | n + 1, a, c => ∃ x, x < B ∧ R a x ∧ pth R B n x c
/-- there is a way, of one step at least, whose inner places are below B -/
def Pt (R : Nat → Nat → Prop) (B a c : Nat) : Prop := ∃ n, pth R B n a c
section Paths
variable {R : Nat → Nat → Prop} {B : Nat}
theorem pth_app {m x c : Nat} (hx : x < B) (h2 : pth R B m x c) : ∀ n a, pth R B n a x → Pt R B a c := by
  intro n
  induction n with
  | zero => intro a h; exact ⟨m + 1, x, hx, h, h2⟩
  | succ n ih =>
    intro a h
    obtain ⟨y, hy, h1, h3⟩ := h
    obtain ⟨k, hk⟩ := ih y h3
    exact ⟨k + 1, y, hy, h1, hk⟩
theorem Pt_app {a x c : Nat} (h1 : Pt R B a x) (hx : x < B) (h2 : Pt R B x c) : Pt R B a c := by
  obtain ⟨n, h1⟩ := h1
  obtain ⟨m, h2⟩ := h2
  exact pth_app hx h2 n a h1
theorem Pt_one {a c : Nat} (h : R a c) : Pt R B a c := ⟨0, h⟩
theorem pth_mono {B2 : Nat} (hB : B ≤ B2) : ∀ n a c, pth R B n a c → pth R B2 n a c := by
  intro n
  induction n with
  | zero => intro a c h; exact h
  | succ n ih =>
    intro a c h
    obtain ⟨y, hy, h1, h3⟩ := h
    exact ⟨y, by omega, h1, ih y c h3⟩
theorem Pt_mono {B2 a c : Nat} (hB : B ≤ B2) (h : Pt R B a c) : Pt R B2 a c := by
  obtain ⟨n, h⟩ := h
  exact ⟨n, pth_mono hB n a c h⟩
theorem pth_split : ∀ n a c, pth R (B + 1) n a c → Pt R B a c ∨ (Pt R B a B ∧ Pt R B B c) := by
  intro n
  induction n with
  | zero => intro a c h; exact Or.inl ⟨0, h⟩
  | succ n ih =>
    intro a c h
    obtain ⟨x, hx, h1, h2⟩ := h
    by_cases z : x = B
    · subst z
      rcases ih x c h2 with q | ⟨-, q⟩
      · exact Or.inr ⟨⟨0, h1⟩, q⟩
      · exact Or.inr ⟨⟨0, h1⟩, q⟩
    · rcases ih x c h2 with ⟨k, q⟩ | ⟨⟨k, q1⟩, q2⟩
      · exact Or.inl ⟨k + 1, x, by omega, h1, q⟩
      · exact Or.inr ⟨⟨k + 1, x, by omega, h1, q1⟩, q2⟩
theorem Pt_step {a c : Nat} : Pt R (B + 1) a c ↔ Pt R B a c ∨ (Pt R B a B ∧ Pt R B B c) := by
  constructor
  · intro ⟨n, h⟩
    exact pth_split n a c h
  · rintro (h | ⟨h1, h2⟩)
    · exact Pt_mono (by omega) h
    · exact Pt_app (Pt_mono (by omega) h1) (by omega) (Pt_mono (by omega) h2)
theorem Pt_zero {a c : Nat} : Pt R 0 a c ↔ R a c := by
  constructor
  · intro ⟨n, h⟩
    cases n with
    | zero => exact h
    | succ n =>
      obtain ⟨x, hx, -⟩ := h
      omega
  · exact fun h => ⟨0, h⟩
theorem pth_refl_iff {a c : Nat} : ∀ n a c, pth (fun x y => x = y ∨ R x y) B n a c → a = c ∨ Pt R B a c := by
  intro n
  induction n with
  | zero =>
    intro a c h
    rcases h with h | h
    · exact Or.inl h
    · exact Or.inr ⟨0, h⟩
  | succ n ih =>
    intro a c h
    obtain ⟨x, hx, h1, h2⟩ := h
    rcases h1 with h1 | h1
    · subst h1
      exact ih a c h2
    · rcases ih x c h2 with q | ⟨k, q⟩
      · subst q
        exact Or.inr ⟨0, h1⟩
      · exact Or.inr ⟨k + 1, x, hx, h1, q⟩
theorem pth_sub {R2 : Nat → Nat → Prop} (h : ∀ x y, R x y → R2 x y) : ∀ n a c, pth R B n a c → pth R2 B n a c := by
  intro n
  induction n with
  | zero => intro a c q; exact h a c q
  | succ n ih =>
    intro a c q
    obtain ⟨x, hx, h1, h2⟩ := q
    exact ⟨x, hx, h a x h1, ih x c h2⟩
theorem Pt_refl_iff {a c : Nat} : Pt (fun x y => x = y ∨ R x y) B a c ↔ a = c ∨ Pt R B a c := by
  constructor
  · intro ⟨n, h⟩
    exact pth_refl_iff (a := a) (c := c) n a c h
  · rintro (h | ⟨n, h⟩)
    · exact ⟨0, Or.inl h⟩
    · exact ⟨n, pth_sub (fun _ _ => Or.inr) n a c h⟩
end Paths
/-- so many of the first n have it -/
def cnt (P : Nat → Prop) : Nat → Nat → Prop
  | 0, k => k = 0
  | n + 1, k => (P n ∧ ∃ j, k = j + 1 ∧ cnt P n j) ∨ (¬ P n ∧ cnt P n k)
section Cnt
variable {P Q : Nat → Prop}
theorem cnt_ex : ∀ n, ∃ k, cnt P n k ∧ k ≤ n := by
  intro n
  induction n with
  | zero => exact ⟨0, rfl, Nat.le_refl _⟩
  | succ n ih =>
    obtain ⟨k, h1, h2⟩ := ih
    by_cases z : P n
    · exact ⟨k + 1, Or.inl ⟨z, k, rfl, h1⟩, by omega⟩
    · exact ⟨k, Or.inr ⟨z, h1⟩, by omega⟩
theorem cnt_le : ∀ n i j, (∀ b, b < n → P b → Q b) → cnt P n i → cnt Q n j → i ≤ j := by
  intro n
  induction n with
  | zero =>
    intro i j _ h1 h2
    have e1 : i = 0 := h1
    omega
  | succ n ih =>
    intro i j h h1 h2
    have hs : ∀ b, b < n → P b → Q b := fun b hb => h b (by omega)
    rcases h1 with ⟨a1, i2, a2, a3⟩ | ⟨a1, a3⟩ <;> rcases h2 with ⟨b1, j2, b2, b3⟩ | ⟨b1, b3⟩
    · have := ih i2 j2 hs a3 b3
      omega
    · exact absurd (h n (by omega) a1) b1
    · have := ih i j2 hs a3 b3
      omega
    · exact ih i j hs a3 b3
theorem cnt_lt : ∀ n i j, (∀ b, b < n → P b → Q b) → (∃ c, c < n ∧ Q c ∧ ¬ P c) → cnt P n i → cnt Q n j → i < j := by
  intro n
  induction n with
  | zero =>
    intro i j _ hc
    obtain ⟨c, hc, -⟩ := hc
    omega
  | succ n ih =>
    intro i j h hc h1 h2
    have hs : ∀ b, b < n → P b → Q b := fun b hb => h b (by omega)
    obtain ⟨c, c1, c2, c3⟩ := hc
    by_cases z : c = n
    · subst z
      rcases h1 with ⟨a1, -⟩ | ⟨a1, a3⟩
      · exact absurd a1 c3
      · rcases h2 with ⟨b1, j2, b2, b3⟩ | ⟨b1, b3⟩
        · have := cnt_le c i j2 hs a3 b3
          omega
        · exact absurd c2 b1
    · have hc2 : ∃ c, c < n ∧ Q c ∧ ¬ P c := ⟨c, by omega, c2, c3⟩
      rcases h1 with ⟨a1, i2, a2, a3⟩ | ⟨a1, a3⟩ <;> rcases h2 with ⟨b1, j2, b2, b3⟩ | ⟨b1, b3⟩
      · have := ih i2 j2 hs hc2 a3 b3
        omega
      · exact absurd (h n (by omega) a1) b1
      · have := ih i j2 hs hc2 a3 b3
        omega
      · exact ih i j hs hc2 a3 b3
theorem cnt_all : ∀ n k, cnt P n k → n ≤ k → ∀ b, b < n → P b := by
  intro n
  induction n with
  | zero => intro k _ _ b hb; omega
  | succ n ih =>
    intro k h hk b hb
    rcases h with ⟨a1, j, a2, a3⟩ | ⟨a1, a3⟩
    · by_cases z : b = n
      · rw [z]
        exact a1
      · exact ih j a3 (by omega) b (by omega)
    · exfalso
      obtain ⟨k2, h1, h2⟩ := cnt_ex (P := P) n
      have := cnt_le n k k2 (fun _ _ q => q) a3 h1
      omega
end Cnt
/-- strata that keep the edges: from a to b, with k added -/
def Val (E : Nat → Nat → Nat → Prop) (s : Nat → Nat) : Prop := ∀ a b k, E a b k → s b + k ≤ s a
def Lst (E : Nat → Nat → Nat → Prop) (L : Nat → Nat) : Prop := Val E L ∧ ∀ s, Val E s → ∀ p, L p ≤ s p
def Ebd (E : Nat → Nat → Nat → Prop) : Prop := ∀ a b k, E a b k → a < 64 ∧ b < 64 ∧ (k = 0 ∨ k = 1)
def Eany (E : Nat → Nat → Nat → Prop) (a b : Nat) : Prop := ∃ k, E a b k
section Strata
variable {E : Nat → Nat → Nat → Prop}
theorem Lst_one {L M : Nat → Nat} (h1 : Lst E L) (h2 : Lst E M) : L = M := by
  funext p
  exact Nat.le_antisymm (h1.2 M h2.1 p) (h2.2 L h1.1 p)
theorem val_ex (hb : Ebd E) (hn : ∀ a b, E a b 1 → ¬ (b = a ∨ Pt (Eany E) 64 b a)) : ∃ s, Val E s ∧ ∀ p, s p ≤ 64 := by
  have step : ∀ a b x, Eany E a b → (b = x ∨ Pt (Eany E) 64 b x) → Pt (Eany E) 64 a x := by
    intro a b x h1 h2
    obtain ⟨k, hk⟩ := h1
    rcases h2 with h2 | h2
    · rw [← h2]
      exact Pt_one ⟨k, hk⟩
    · exact Pt_app (Pt_one ⟨k, hk⟩) (hb _ _ _ hk).2.1 h2
  have hc : ∀ a, ∃ k, cnt (fun b => ∃ x y, (a = x ∨ Pt (Eany E) 64 a x) ∧ E x y 1 ∧ (y = b ∨ Pt (Eany E) 64 y b)) 64 k ∧ k ≤ 64 := fun a => cnt_ex 64
  obtain ⟨s, hs⟩ := Classical.skolem.mp hc
  refine ⟨s, fun a b k h => ?_, fun p => (hs p).2⟩
  have sub : ∀ c, c < 64 → (∃ x y, (b = x ∨ Pt (Eany E) 64 b x) ∧ E x y 1 ∧ (y = c ∨ Pt (Eany E) 64 y c)) → (∃ x y, (a = x ∨ Pt (Eany E) 64 a x) ∧ E x y 1 ∧ (y = c ∨ Pt (Eany E) 64 y c)) := by
    intro c _ ⟨x, y, h1, h2, h3⟩
    exact ⟨x, y, Or.inr (step a b x ⟨k, h⟩ h1), h2, h3⟩
  obtain ⟨ha, hbb, hk⟩ := hb a b k h
  rcases hk with hk | hk
  · subst hk
    exact cnt_le 64 _ _ sub (hs b).1 (hs a).1
  · subst hk
    have := cnt_lt 64 _ _ sub ⟨b, hbb, ⟨a, b, Or.inl rfl, h, Or.inl rfl⟩, fun ⟨x, y, h1, h2, h3⟩ => by
      refine hn x y h2 ?_
      rcases h3 with h3 | h3 <;> rcases h1 with h1 | h1
      · exact Or.inl (h3.trans h1)
      · rw [h3]
        exact Or.inr h1
      · rw [← h1]
        exact Or.inr h3
      · exact Or.inr (Pt_app h3 hbb h1)⟩ (hs b).1 (hs a).1
    omega
theorem least_ex (h : ∃ s, Val E s) : ∃ L, Lst E L := by
  obtain ⟨s, hs⟩ := h
  have hc : ∀ p, ∃ k, (∃ t, Val E t ∧ t p = k) ∧ ∀ j, j < k → ¬ ∃ t, Val E t ∧ t p = j := fun p => pk_least (fun k => ∃ t, Val E t ∧ t p = k) ⟨s p, s, hs, rfl⟩
  obtain ⟨L, hL⟩ := Classical.skolem.mp hc
  have low : ∀ t, Val E t → ∀ p, L p ≤ t p := by
    intro t ht p
    rcases Nat.lt_or_ge (t p) (L p) with q | q
    · exact absurd ⟨t, ht, rfl⟩ ((hL p).2 (t p) q)
    · exact q
  refine ⟨L, fun a b k he => ?_, low⟩
  obtain ⟨t, ht, e⟩ := (hL a).1
  have h1 := ht a b k he
  have h2 := low t ht b
  omega
/-- one round more makes one more right, or all are -/
theorem round_more {L st st2 : Nat → Nat} {i j : Nat} (hb : Ebd E) (hL : Lst E L) (h1 : ∀ p, st p ≤ L p) (h2 : ∀ a b k, E a b k → st b + k ≤ st2 a) (h3 : ∀ p, st p ≤ st2 p ∧ st2 p ≤ L p) (hi : cnt (fun p => st p = L p) 64 i) (hj : cnt (fun p => st2 p = L p) 64 j) : i < j ∨ ∀ p, st p = L p := by
  by_cases hall : ∀ p, st p = L p
  · exact Or.inr hall
  refine Or.inl ?_
  have hex : ∃ p q k, E p q k ∧ L q + k = L p ∧ st q = L q ∧ st p < L p := by
    apply Classical.byContradiction
    intro hno
    have hv : Val E (fun p => if st p < L p then L p - 1 else L p) := by
      intro a b k he
      have hab := hL.1 a b k he
      show (if st b < L b then L b - 1 else L b) + k ≤ (if st a < L a then L a - 1 else L a)
      by_cases za : st a < L a <;> by_cases zb : st b < L b
      · rw [if_pos za, if_pos zb]
        omega
      · rw [if_pos za, if_neg zb]
        have hbq := h1 b
        have : ¬ L b + k = L a := fun e => hno ⟨a, b, k, he, e, by omega, za⟩
        omega
      · rw [if_neg za, if_pos zb]
        omega
      · rw [if_neg za, if_neg zb]
        omega
    apply hall
    intro p
    have h4 := hL.2 _ hv p
    have h5 := h1 p
    replace h4 : L p ≤ (if st p < L p then L p - 1 else L p) := h4
    by_cases z : st p < L p
    · rw [if_pos z] at h4
      omega
    · omega
  obtain ⟨p, q, k, he, e1, e2, e3⟩ := hex
  refine cnt_lt 64 i j (fun b _ hbq => ?_) ⟨p, (hb p q k he).1, ?_, ?_⟩ hi hj
  · have := h3 b
    omega
  · have := h2 p q k he
    have := h3 p
    omega
  · show ¬ st p = L p
    omega
end Strata
