/-! pure: a word more in a table -/
theorem byt_fit {x : Int32} (h : byt x) : fits .byte (.int x) = true := by
  have c1 : (-128 : Int32).toInt = -128 := by decide
  have c2 : (127 : Int32).toInt = 127 := by decide
  have h1 : (-128 : Int32) ≤ x := Int32.le_iff_toInt_le.mpr (by rw [c1]; exact h.1)
  have h2 : x ≤ (127 : Int32) := Int32.le_iff_toInt_le.mpr (by rw [c2]; have := h.2; omega)
  simp [fits, h1, h2]
theorem byt_0 : byt 0 := by unfold byt; decide
theorem va_cpy_in {f g : Nat → Int32} {sp dp n k : Nat} (h : k < n) : va_cpy f g sp dp n (dp + k) = f (sp + k) := by
  unfold va_cpy
  rw [if_pos (by omega), show dp + k - dp = k by omega]
theorem va_cpy_out {f g : Nat → Int32} {sp dp n k : Nat} (h : ¬ (dp ≤ k ∧ k < dp + n)) : va_cpy f g sp dp n k = g k := by
  unfold va_cpy
  rw [if_neg h]
theorem upd_same {f : Nat → Int32} {k : Nat} {x : Int32} : upd f k x k = x := by simp [upd]
theorem upd_ne {f : Nat → Int32} {k j : Nat} {x : Int32} (h : ¬ j = k) : upd f k x j = f j := by simp [upd, h]
theorem sp_copyOf {post : (ClassId × Nat × (Nat → Int32)) → Prop} {mc ms n N : Nat} {F : Nat → Int32} (hN : N < 1000000) (hn : n < N) (hB : ∀ i, i < n → byt (F i)) (h1 : 1 ≤ mc) (h2 : N ≤ ms) (h : ∀ (k : ClassId) (G : Nat → Int32), (∀ i, i < n → G i = F i) → (∀ i, i < N → byt (G i)) → post (k, N, G)) : wp_met_Ar_copyOf post mc ms n (nI N) F := by
  have cN : (nI N).toNatClampNeg = N := nI_clamp (by omega)
  unfold wp_met_Ar_copyOf
  rw [cN]
  refine ⟨fun q => ?_, nI_pos (by omega), ?_, by omega, by omega, fun q k g1 hg1 y2 hy2 => ?_⟩
  · have := (nI_eq (by omega) (by omega)).mp q
    omega
  · show N * 1 ≤ 536870912
    omega
  have e2 : y2 = nI n := by
    rw [hy2, if_neg (nI_nlt (by omega) (by omega))]
  subst e2
  have c0 : (0 : Int32).toNatClampNeg = 0 := by decide
  have cn : (nI n).toNatClampNeg = n := nI_clamp (by omega)
  rw [c0, cn]
  refine ⟨by decide, by decide, nI_pos (by omega), by omega, by omega, fun i hi => byt_fit (by rw [Nat.zero_add]; exact hB i hi), fun g3 hg3 => ?_⟩
  refine h k g3 (fun i hi => ?_) (fun i hi => ?_)
  · have := va_cpy_in (f := F) (g := g1) (sp := 0) (dp := 0) (n := n) (k := i) hi
    rw [Nat.zero_add] at this
    rw [hg3, this]
  · rcases Nat.lt_or_ge i n with q | q
    · have := va_cpy_in (f := F) (g := g1) (sp := 0) (dp := 0) (n := n) (k := i) q
      rw [Nat.zero_add] at this
      rw [hg3, this]
      exact hB i q
    · rw [hg3, va_cpy_out (by omega), hg1]
      exact byt_0
theorem sl_cpy {f g : Nat → Int32} {sp dp n : Nat} : sl (va_cpy f g sp dp n) dp n = sl f sp n := sl_eq n dp sp (fun j hj => va_cpy_in hj)
