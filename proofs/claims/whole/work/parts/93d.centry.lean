/-! pure: the entries of a scan -/
theorem kN_div {f : Nat → Nat} (h : ∀ j, j < 6 → f j < 1024) : kN f / 2 ^ 60 = 0 ∧ kN f / 2 ^ 50 = f 0 ∧ kN f / 2 ^ 40 = f 0 * 1024 + f 1 ∧ kN f / 2 ^ 30 = f 0 * 1048576 + f 1 * 1024 + f 2 ∧ kN f / 2 ^ 20 = f 0 * 1073741824 + f 1 * 1048576 + f 2 * 1024 + f 3 ∧ kN f / 2 ^ 10 = f 0 * 1099511627776 + f 1 * 1073741824 + f 2 * 1048576 + f 3 * 1024 + f 4 := by
  have h0 := h 0 (by omega)
  have h1 := h 1 (by omega)
  have h2 := h 2 (by omega)
  have h3 := h 3 (by omega)
  have h4 := h 4 (by omega)
  have h5 := h 5 (by omega)
  unfold kN
  refine ⟨?_, ?_, ?_, ?_, ?_, ?_⟩ <;> omega
theorem seven {s : Nat} (h : s ≤ 6) : s = 0 ∨ s = 1 ∨ s = 2 ∨ s = 3 ∨ s = 4 ∨ s = 5 ∨ s = 6 := by omega
theorem kN_pre {f g : Nat → Nat} {s : Nat} (hf : ∀ j, j < 6 → f j < 1024) (hg : ∀ j, j < 6 → g j < 1024) (hs : s ≤ 6) : kN f / 2 ^ (60 - 10 * s) = kN g / 2 ^ (60 - 10 * s) ↔ ∀ q, q < s → f q = g q := by
  have f0 := hf 0 (by omega)
  have f1 := hf 1 (by omega)
  have f2 := hf 2 (by omega)
  have f3 := hf 3 (by omega)
  have f4 := hf 4 (by omega)
  have f5 := hf 5 (by omega)
  have g0 := hg 0 (by omega)
  have g1 := hg 1 (by omega)
  have g2 := hg 2 (by omega)
  have g3 := hg 3 (by omega)
  have g4 := hg 4 (by omega)
  have g5 := hg 5 (by omega)
  obtain ⟨a0, a1, a2, a3, a4, a5⟩ := kN_div hf
  obtain ⟨b0, b1, b2, b3, b4, b5⟩ := kN_div hg
  rcases seven hs with r | r | r | r | r | r | r
  all_goals subst r
  · show kN f / 2 ^ 60 = kN g / 2 ^ 60 ↔ _
    rw [a0, b0]
    exact ⟨fun _ q hq => absurd hq (by omega), fun _ => rfl⟩
  · show kN f / 2 ^ 50 = kN g / 2 ^ 50 ↔ _
    rw [a1, b1]
    refine ⟨fun e q hq => ?_, fun e => e 0 (by omega)⟩
    obtain rfl : q = 0 := by omega
    exact e
  · show kN f / 2 ^ 40 = kN g / 2 ^ 40 ↔ _
    rw [a2, b2]
    refine ⟨fun e q hq => ?_, fun e => by rw [e 0 (by omega), e 1 (by omega)]⟩
    have : q = 0 ∨ q = 1 := by omega
    rcases this with r | r <;> subst r <;> omega
  · show kN f / 2 ^ 30 = kN g / 2 ^ 30 ↔ _
    rw [a3, b3]
    refine ⟨fun e q hq => ?_, fun e => by rw [e 0 (by omega), e 1 (by omega), e 2 (by omega)]⟩
    have : q = 0 ∨ q = 1 ∨ q = 2 := by omega
    rcases this with r | r | r <;> subst r <;> omega
  · show kN f / 2 ^ 20 = kN g / 2 ^ 20 ↔ _
    rw [a4, b4]
    refine ⟨fun e q hq => ?_, fun e => by rw [e 0 (by omega), e 1 (by omega), e 2 (by omega), e 3 (by omega)]⟩
    have : q = 0 ∨ q = 1 ∨ q = 2 ∨ q = 3 := by omega
    rcases this with r | r | r | r <;> subst r <;> omega
  · show kN f / 2 ^ 10 = kN g / 2 ^ 10 ↔ _
    rw [a5, b5]
    refine ⟨fun e q hq => ?_, fun e => by rw [e 0 (by omega), e 1 (by omega), e 2 (by omega), e 3 (by omega), e 4 (by omega)]⟩
    have : q = 0 ∨ q = 1 ∨ q = 2 ∨ q = 3 ∨ q = 4 := by omega
    rcases this with r | r | r | r | r <;> subst r <;> omega
  · show kN f / 2 ^ 0 = kN g / 2 ^ 0 ↔ _
    rw [Nat.pow_zero, Nat.div_one, Nat.div_one]
    exact ⟨fun e q hq => kN_inj hf hg e hq, fun e => kN_cong (fun q hq => e q (by omega))⟩
/-- a key whose columns from s on are 0 -/
theorem kN_mul {g : Nat → Nat} {s : Nat} (hs : s ≤ 6) (h0 : ∀ q, s ≤ q → g q = 0) : kN g = kN g / 2 ^ (60 - 10 * s) * 2 ^ (60 - 10 * s) := by
  have hd : 2 ^ (60 - 10 * s) ∣ kN g := by
    unfold kN
    rcases seven hs with r | r | r | r | r | r | r
    all_goals subst r
    · rw [h0 0 (by omega), h0 1 (by omega), h0 2 (by omega), h0 3 (by omega), h0 4 (by omega), h0 5 (by omega)]
      exact ⟨0, by simp⟩
    · rw [h0 1 (by omega), h0 2 (by omega), h0 3 (by omega), h0 4 (by omega), h0 5 (by omega)]
      exact ⟨g 0, by show _ = 2 ^ 50 * g 0; omega⟩
    · rw [h0 2 (by omega), h0 3 (by omega), h0 4 (by omega), h0 5 (by omega)]
      exact ⟨g 0 * 1024 + g 1, by show _ = 2 ^ 40 * _; omega⟩
    · rw [h0 3 (by omega), h0 4 (by omega), h0 5 (by omega)]
      exact ⟨g 0 * 1048576 + g 1 * 1024 + g 2, by show _ = 2 ^ 30 * _; omega⟩
    · rw [h0 4 (by omega), h0 5 (by omega)]
      exact ⟨g 0 * 1073741824 + g 1 * 1048576 + g 2 * 1024 + g 3, by show _ = 2 ^ 20 * _; omega⟩
    · rw [h0 5 (by omega)]
      exact ⟨g 0 * 1099511627776 + g 1 * 1073741824 + g 2 * 1048576 + g 3 * 1024 + g 4, by show _ = 2 ^ 10 * _; omega⟩
    · exact ⟨_, by show _ = 2 ^ 0 * _; rw [Nat.pow_zero, Nat.one_mul]⟩
  exact (Nat.div_mul_cancel hd).symm
section CEn
variable {ar : Nat → Nat} {fs : List (Nat × List Nat)} {sg : Nat → Nat} {sz hg : Int32} {FK : Nat → Int64} {S A FP N FT O NW : Nat → Int32} {b : BL} {B Lv : Nat → Prop} {p s0 w m vis o lo hi : Nat} {ro va fx : Nat → Nat} {PO : Nat → Int64}
theorem prt_lt {v : Nat → Nat} (h : ∀ q, q < w → v (va q) < 1000) : ∀ j, j < 6 → prt w va v j < 1024 := by
  intro j _
  unfold prt
  by_cases z : j < w
  · rw [if_pos z]
    have := h j z
    omega
  · rw [if_neg z]
    omega
theorem va_occ (h : ShQ b.2.2 B Lv s0 w ro va fx) {q : Nat} (hq : q < w) : occB b (va q) := by
  obtain ⟨c, x, c1, c2, c3, c4⟩ := h.2.2.2.2.2.2.2.1 q hq
  rw [c4]
  exact List.mem_of_getElem? c1
theorem va_B (h : ShQ b.2.2 B Lv s0 w ro va fx) {q : Nat} (hq : q < w) : (q < s0 → B (va q)) ∧ (s0 ≤ q → ¬ B (va q) ∧ Lv (va q)) := by
  obtain ⟨⟨a0, a1⟩, a2, a3, a4, a5, a6, a7, a8, a9⟩ := h
  obtain ⟨c, x, c1, c2, c3, c4⟩ := a8 q hq
  rw [c4]
  by_cases hb : B x
  · have := (a2 c x c1 c2 hb).1
    exact ⟨fun _ => hb, fun z => absurd z (by omega)⟩
  · by_cases hl : Lv x
    · have := (a3 c x c1 c2 hb hl).1
      exact ⟨fun z => absurd z (by omega), fun _ => ⟨hb, hl⟩⟩
    · have := a4 c x c1 c2 hb hl
      omega
theorem va_of (h : ShQ b.2.2 B Lv s0 w ro va fx) {x : Nat} (hx : occB b x) : (B x → ∃ q, q < s0 ∧ va q = x) ∧ (¬ B x → Lv x → ∃ q, s0 ≤ q ∧ q < w ∧ va q = x) := by
  obtain ⟨⟨a0, a1⟩, a2, a3, a4, a5, a6, a7, a8, a9⟩ := h
  obtain ⟨c, hc, e⟩ := List.getElem_of_mem hx
  have he := List.getElem?_eq_getElem hc
  rw [e] at he
  obtain ⟨k, k1, k2, k3⟩ := first_ex c he
  refine ⟨fun hb => ?_, fun hb hl => ?_⟩
  · obtain ⟨q1, q2⟩ := a2 k x k2 k3 hb
    exact ⟨_, q1, q2⟩
  · obtain ⟨q0, q1, q2⟩ := a3 k x k2 k3 hb hl
    exact ⟨_, q0, q1, q2⟩
theorem En_1 (hF : FaR ar fs sg sz hg FK S A FP N FT O NW) (hok : blOk ar b) (hA : b.1 = 0) (hp : b.2.1 = some p) (hSh : ShQ b.2.2 B Lv s0 w ro va fx) (hI : SnI fs m vis p o ro fx lo hi PO) {k : Nat} (k1 : lo ≤ k) (k2 : k < hi) : ∃ v0, VisR fs m vis (p, aOf v0 b) ∧ PO k = lN (kN (prt w va v0)) ∧ ∀ x, occB b x → v0 x < 1000 := by
  obtain ⟨a, e, f1, f2, ⟨f3, f4, f5⟩, q1, -⟩ := hI
  have h20 := hF.1
  obtain ⟨i, x, g, r1, r2, r3, r4, r5, r6, r7⟩ := q1 k k1 k2
  obtain ⟨ok, al⟩ := hF.2.2.2.2.2.1 x (List.mem_of_getElem? r3)
  have hlen : x.2.length = b.2.2.length := by
    rw [al, r4, ((hok.2.2.2.1 (Or.inl hA)).2 p hp).2]
  obtain ⟨v0, hv0⟩ := Sh_inst hok.2.1 hSh hlen r5
  have hxe : x = (p, aOf v0 b) := by
    obtain ⟨x1, x2⟩ := x
    rw [show x1 = p from r4, show x2 = aOf v0 b from hv0]
  rw [hxe] at r3 r6 ok
  have hPa := (Sh_fit hok.2.1 hSh v0 p).2
  refine ⟨v0, ⟨i, ?_, ?_, r3⟩, ?_, fun y hy => ?_⟩
  · rcases f1 with ⟨z, -⟩ | ⟨i2, y2, z1, z2, z3, z4, z5⟩
    · exact absurd z (nI_ne1 (by omega))
    · have hl2 := (List.getElem?_eq_some_iff.mp z2).1
      have := (nI_eq (by omega) (by omega)).mp z4
      omega
  · rcases f2 with ⟨z, -⟩ | ⟨i2, y2, z1, z2, z3, z4, z5⟩
    · exact absurd z (nI_ne1 (by omega))
    · have hl2 := (List.getElem?_eq_some_iff.mp z2).1
      have := (nI_eq (by omega) (by omega)).mp z4
      omega
  · rw [r7, kN_cong (fun q hq => PaR_one r6 hPa q hq)]
  · refine ok.2.2 (v0 y) ?_
    show v0 y ∈ aOf v0 b
    exact List.mem_map.mpr ⟨Sum.inl y, hy, rfl⟩
theorem En_2 (hF : FaR ar fs sg sz hg FK S A FP N FT O NW) (hok : blOk ar b) (hSh : ShQ b.2.2 B Lv s0 w ro va fx) (hI : SnI fs m vis p o ro fx lo hi PO) {u : Nat → Nat} (hu : VisR fs m vis (p, aOf u b)) : ∃ k, lo ≤ k ∧ k < hi ∧ PO k = lN (kN (prt w va u)) := by
  obtain ⟨a, e, f1, f2, ⟨f3, f4, f5⟩, -, q2, -⟩ := hI
  have h20 := hF.1
  obtain ⟨f, g1, g2, g3⟩ := hu
  have hfl := (List.getElem?_eq_some_iff.mp g3).1
  obtain ⟨z1, z2⟩ := Sh_fit hok.2.1 hSh u p
  refine q2 f (p, aOf u b) _ ?_ ?_ g3 rfl z1 z2
  · rcases f1 with ⟨z, -⟩ | ⟨i2, y2, z1, z2, z3, z4, z5⟩
    · exact absurd z (nI_ne1 (by omega))
    · have hl2 := (List.getElem?_eq_some_iff.mp z2).1
      have e1 := (nI_eq (by omega) (by omega)).mp z4
      rcases Nat.lt_or_ge f a with y | y
      · exact absurd rfl (z5 f _ g1 (by omega) g3)
      · exact y
  · rcases f2 with ⟨z, -⟩ | ⟨i2, y2, z1, z2, z3, z4, z5⟩
    · exact absurd z (nI_ne1 (by omega))
    · have hl2 := (List.getElem?_eq_some_iff.mp z2).1
      have e1 := (nI_eq (by omega) (by omega)).mp z4
      rcases Nat.lt_or_ge e f with y | y
      · exact absurd rfl (z5 f _ (by omega) g2 g3)
      · exact y
/-- no entry stands twice -/
theorem En_3 (hF : FaR ar fs sg sz hg FK S A FP N FT O NW) (hok : blOk ar b) (hA : b.1 = 0) (hp : b.2.1 = some p) (hSh : ShQ b.2.2 B Lv s0 w ro va fx) (ho : o ≤ 1) (hor : o = 1 ↔ OrQ b.2.2 s0 ro) (hI : SnI fs m vis p o ro fx lo hi PO) {k k2 : Nat} (k1 : lo ≤ k) (k12 : k < k2) (k2h : k2 < hi) : ¬ PO k = PO k2 := by
  obtain ⟨a, e, f1, f2, f3, q1, q2, q3, q4⟩ := hI
  by_cases z : o = 1
  · intro w2
    have := q3 z k k2 k1 k12 k2h
    rw [w2, Int64.lt_iff_toInt_lt] at this
    omega
  · obtain ⟨src, s1, s2⟩ := q4 (by omega)
    have hno : ¬ OrQ b.2.2 s0 ro := fun y => z (hor.mpr y)
    obtain ⟨x, g, r1, r2, r3, r4, r5⟩ := s1 k k1 (by omega)
    obtain ⟨y, g', t1, t2, t3, t4, t5⟩ := s1 k2 (by omega) k2h
    intro he
    rw [r5, t5] at he
    obtain ⟨okx, alx⟩ := hF.2.2.2.2.2.1 x (List.mem_of_getElem? r1)
    obtain ⟨oky, aly⟩ := hF.2.2.2.2.2.1 y (List.mem_of_getElem? t1)
    have gl := PaR_lt r4 (fc_lt okx)
    have gl' := PaR_lt t4 (fc_lt oky)
    have l1 := kN_lt (f := g) (fun q hq => by have := gl q hq; omega)
    have l2 := kN_lt (f := g') (fun q hq => by have := gl' q hq; omega)
    have ek := (pk_lEQ (by omega) (by omega)).mp he
    have eg : ∀ q, q < 6 → g q = g' q := fun q hq => kN_inj (fun q hq => by have := gl q hq; omega) (fun q hq => by have := gl' q hq; omega) ek hq
    have hlen : ∀ w9 : Nat × List Nat, w9.1 = p → w9.2.length = ar w9.1 → w9.2.length = b.2.2.length := by
      intro w9 e1 e2
      rw [e2, e1, ((hok.2.2.2.1 (Or.inl hA)).2 p hp).2]
    obtain ⟨v1, hv1⟩ := Sh_inst hok.2.1 hSh (hlen x r2 alx) r3
    obtain ⟨v2, hv2⟩ := Sh_inst hok.2.1 hSh (hlen y t2 aly) t3
    have ex : x = (p, aOf v1 b) := by
      obtain ⟨x1, x2⟩ := x
      rw [show x1 = p from r2, show x2 = aOf v1 b from hv1]
    have ey : y = (p, aOf v2 b) := by
      obtain ⟨y1, y2⟩ := y
      rw [show y1 = p from t2, show y2 = aOf v2 b from hv2]
    have same : aOf v1 b = aOf v2 b := by
      refine aOf_cong (fun c hc => ?_)
      have hpx := (Sh_fit hok.2.1 hSh v1 p).2
      have hpy := (Sh_fit hok.2.1 hSh v2 p).2
      rw [ex] at r4
      rw [ey] at t4
      obtain ⟨j, hj, ej⟩ := List.getElem_of_mem hc
      have hje := List.getElem?_eq_getElem hj
      rw [ej] at hje
      obtain ⟨i, i1, i2, i3⟩ := first_ex j hje
      have hil := (List.getElem?_eq_some_iff.mp i2).1
      have hl6 := hok.2.1
      have hr6 : ro i < 6 := by
        have h13 := ShQ_16 hl6 hSh i
        obtain ⟨⟨b0, b1⟩, b2, b3, b4, -⟩ := hSh
        by_cases hb : B c
        · have := (b2 i c i2 i3 hb).1
          omega
        · by_cases hl : Lv c
          · have := (b3 i c i2 i3 hb hl).2.1
            omega
          · exact absurd (Or.inr ⟨i, hil, b4 i c i2 i3 hb hl⟩) hno
      obtain ⟨c', e1, e2, e3, e4⟩ := ShQ_pos hSh hr6
      rw [i2] at e1
      obtain rfl := Sum.inl.inj (Option.some.inj e1)
      have h1 := PaR_one r4 hpx (ro i) hr6
      have h2 := PaR_one t4 hpy (ro i) hr6
      have h3 := eg (ro i) hr6
      rw [h1, h2] at h3
      unfold prt at h3
      rw [if_pos e4, if_pos e4, e3] at h3
      exact h3
    have := s2 k k2 k1 k12 k2h
    rw [ex] at r1
    rw [ey, ← same] at t1
    have := nodup_inj hF.2.2.2.2.1 r1 t1
    omega
end CEn
