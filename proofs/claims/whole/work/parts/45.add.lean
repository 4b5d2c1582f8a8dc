/-! pure: a word more in a table -/
theorem byt_fit {x : Int32} (h : byt x) : fits .byte (.int x) = true := by
  have c1 : (-128 : Int32).toInt = -128 := by decide
  have c2 : (127 : Int32).toInt = 127 := by decide
  have h1 : (-128 : Int32) ≤ x := Int32.le_iff_toInt_le.mpr (by rw [c1]; exact h.1)
  have h2 : x ≤ (127 : Int32) := Int32.le_iff_toInt_le.mpr (by rw [c2]; have := h.2; omega)
  simp [fits, h1, h2]
theorem byt_0 : byt 0 := by unfold byt; decide
theorem va_cpy_in {f g : Nat → Int32} {sp dp n k : Nat} (h : k < n) : va_cpy f g sp dp n (dp + k) = f (sp + k) := by
  unfold va_cpy
  rw [if_pos (by omega), show dp + k - dp = k by omega]
theorem va_cpy_out {f g : Nat → Int32} {sp dp n k : Nat} (h : ¬ (dp ≤ k ∧ k < dp + n)) : va_cpy f g sp dp n k = g k := by
  unfold va_cpy
  rw [if_neg h]
theorem upd_same {f : Nat → Int32} {k : Nat} {x : Int32} : upd f k x k = x := by simp [upd]
theorem upd_ne {f : Nat → Int32} {k j : Nat} {x : Int32} (h : ¬ j = k) : upd f k x j = f j := by simp [upd, h]
theorem sp_copyOf {post : (ClassId × Nat × (Nat → Int32)) → Prop} {mc ms n N : Nat} {F : Nat → Int32} (hN : N < 1000000) (hn : n < N) (hB : ∀ i, i < n → byt (F i)) (h1 : 1 ≤ mc) (h2 : N ≤ ms) (h : ∀ (k : ClassId) (G : Nat → Int32), (∀ i, i < n → G i = F i) → (∀ i, i < N → byt (G i)) → post (k, N, G)) : wp_met_Ar_copyOf post mc ms n (nI N) F := by
  have cN : (nI N).toNatClampNeg = N := nI_clamp (by omega)
  unfold wp_met_Ar_copyOf
  rw [cN]
  refine ⟨fun q => ?_, nI_pos (by omega), ?_, by omega, by omega, fun q k g1 hg1 y2 hy2 => ?_⟩
  · have := (nI_eq (by omega) (by omega)).mp q
    omega
  · show N * 1 ≤ 536870912
    omega
  have e2 : y2 = nI n := by
    rw [hy2, if_neg (nI_nlt (by omega) (by omega))]
  subst e2
  have c0 : (0 : Int32).toNatClampNeg = 0 := by decide
  have cn : (nI n).toNatClampNeg = n := nI_clamp (by omega)
  rw [c0, cn]
  refine ⟨by decide, by decide, nI_pos (by omega), by omega, by omega, fun i hi => byt_fit (by rw [Nat.zero_add]; exact hB i hi), fun g3 hg3 => ?_⟩
  refine h k g3 (fun i hi => ?_) (fun i hi => ?_)
  · have := va_cpy_in (f := F) (g := g1) (sp := 0) (dp := 0) (n := n) (k := i) hi
    rw [Nat.zero_add] at this
    rw [hg3, this]
  · rcases Nat.lt_or_ge i n with q | q
    · have := va_cpy_in (f := F) (g := g1) (sp := 0) (dp := 0) (n := n) (k := i) q
      rw [Nat.zero_add] at this
      rw [hg3, this]
      exact hB i q
    · rw [hg3, va_cpy_out (by omega), hg1]
      exact byt_0
theorem sl_cpy {f g : Nat → Int32} {sp dp n : Nat} : sl (va_cpy f g sp dp n) dp n = sl f sp n := sl_eq n dp sp (fun j hj => va_cpy_in hj)
section Add
variable {post : Int32 → (Int32 × Int32 × (Nat → Int32) × (Nat → Int32) × Nat × ClassId × Nat × (Nat → Int32)) → Prop} {ws : List (List Int32)} {mc ms u lim nT nb b m ad : Nat} {fs fl ft fb : Nat → Int32} {kT : ClassId}
/-- what add leaves -/
def AddQ (ws : List (List Int32)) (u nT : Nat) (w : List Int32) (S L T : Nat → Int32) (nT2 : Nat) : Prop := NaR (ws ++ [w]) (u + w.length) S L T ∧ u + w.length ≤ nT2 ∧ (∀ i, i < nT2 → byt (T i)) ∧ (nT2 = nT ∨ (nT < u + w.length ∧ nT2 = max (u + w.length) (2 * nT)))
theorem add_fin {T : Nat → Int32} {nT2 a2 : Nat} {k2 : ClassId} {c1 s1 : Nat} (hN : NaR ws u fs fl ft) (hl : ws.length < lim) (hlim : lim < 1000000) (hnT : nT2 < 1000000) (hnb : nb < 1000000) (hum : u + m ≤ nT2) (hT : ∀ i, i < u → T i = ft i) (hTb : ∀ i, i < nT2 → byt (T i)) (hb : b + m ≤ nb) (hbb : ∀ j, j < m → byt (fb (b + j))) (hgr : nT2 = nT ∨ (nT < u + m ∧ nT2 = max (u + m) (2 * nT)))
    (h : ∀ S L T2, AddQ ws u nT (sl fb b m) S L T2 nT2 → post (nI ws.length) (nI (ws.length + 1), nI (u + m), S, L, a2, k2, nT2, T2)) : jw_met_Na_add_55 post (nI b) (nI u) (nI m) nb fb (nI ws.length) lim fs lim fl (a2, k2, nT2, T, c1, s1) := by
  have cb : (nI b).toNatClampNeg = b := nI_clamp (by omega)
  have cu : (nI u).toNatClampNeg = u := nI_clamp (by omega)
  have cm : (nI m).toNatClampNeg = m := nI_clamp (by omega)
  have cl : (nI ws.length).toNatClampNeg = ws.length := nI_clamp (by omega)
  have lw : (sl fb b m).length = m := sl_len fb m b
  unfold jw_met_Na_add_55
  rw [cb, cu, cm, cl]
  refine ⟨nI_pos (by omega), nI_pos (by omega), nI_pos (by omega), by omega, by omega, fun i hi => byt_fit (hbb i hi), fun g18 h18 => ⟨vp_in_nI (by omega) (by omega), fun g20 h20 => ⟨vp_in_nI (by omega) (by omega), fun g22 h22 y23 h23 y24 h24 y25 h25 => ?_⟩⟩⟩
  rw [nI_add] at h23
  rw [nI_1] at h24
  rw [h24, nI_pred] at h25
  subst h23 h24 h25
  refine h g20 g22 g18 ⟨?_, by rw [lw]; exact hum, ?_, by rw [lw]; exact hgr⟩
  · intro i w hi
    rcases Nat.lt_or_ge i ws.length with q | q
    · rw [List.getElem?_append_left q] at hi
      obtain ⟨g1, a, e1, e2, e3, e4⟩ := hN i w hi
      refine ⟨g1, a, ?_, ?_, by omega, ?_⟩
      · rw [h20, upd_ne (by omega)]
        exact e1
      · rw [h22, upd_ne (by omega)]
        exact e2
      · rw [← sl_eq w.length a a (fun j hj => ?_)]
        · exact e4
        · rw [h18, va_cpy_out (by omega)]
          exact (hT (a + j) (by omega)).symm
    · have hi2 := (List.getElem?_eq_some_iff.mp hi).1
      rw [List.length_append] at hi2
      simp only [List.length_singleton] at hi2
      obtain rfl : i = ws.length := by omega
      rw [List.getElem?_append_right (Nat.le_refl _), Nat.sub_self] at hi
      obtain rfl : sl fb b m = w := by simpa using hi
      refine ⟨fun x hx => ?_, u, ?_, ?_, by omega, ?_⟩
      · obtain ⟨j, h1, h2⟩ := sl_mem m b hx
        rw [h2]
        exact hbb j h1
      · rw [h20, upd_same]
      · rw [h22, upd_same, lw]
      · rw [lw, h18]
        exact sl_cpy
  · intro i hi
    rw [h18]
    by_cases q : u ≤ i ∧ i < u + m
    · obtain ⟨t, rfl⟩ : ∃ t, i = u + t := ⟨i - u, by omega⟩
      rw [va_cpy_in (by omega)]
      exact hbb t (by omega)
    · rw [va_cpy_out q]
      exact hTb i hi
theorem sp_Na_add (hN : NaR ws u fs fl ft) (hlim : lim < 1000000) (hnT : nT < 300000) (hnb : nb < 1000000) (hu : u ≤ nT) (hum : u + m < 300000) (hTb : ∀ i, i < nT → byt (ft i)) (hb : b + m ≤ nb) (hbb : ∀ j, j < m → byt (fb (b + j))) (hroom : u + m ≤ nT ∨ (1 ≤ mc ∧ max (u + m) (2 * nT) ≤ ms)) (hwl : ws.length ≤ lim)
    (h0 : ws.length = lim → post (-1) (nI ws.length, nI u, fs, fl, ad, kT, nT, ft))
    (h1 : ws.length < lim → ∀ S L T2 a2 k2 nT2, AddQ ws u nT (sl fb b m) S L T2 nT2 → post (nI ws.length) (nI (ws.length + 1), nI (u + m), S, L, a2, k2, nT2, T2)) : wp_met_Na_add post mc ms lim lim nT nb ad (nI b) (nI m) (nI ws.length) (nI u) fs fl ft fb kT := by
  refine pk_lt ws.length lim (fun q => ?_) (fun q => h0 (by omega))
  intro y1 hy1
  rw [nI_add] at hy1
  subst hy1
  refine pk_le (u + m) nT (fun r => ?_) (fun r => ?_)
  · exact add_fin hN q hlim (by omega) hnb r (fun i _ => rfl) hTb hb hbb (Or.inl rfl) (fun S L T2 hq => h1 q S L T2 ad kT nT hq)
  · intro y3 hy3 y4 hy4 y5 hy5
    rw [nI_add] at hy3
    rw [show (2 : Int32) = nI 2 from rfl, pk_mul] at hy4
    subst hy3 hy4
    have e5 : y5 = nI (max (u + m) (2 * nT)) := by
      rw [hy5]
      by_cases z : u + m < 2 * nT
      · rw [if_pos (nI_lt z (by omega)), Nat.max_eq_right (by omega)]
      · rw [if_neg (nI_nlt (by omega) (by omega)), Nat.max_eq_left (by omega)]
    subst e5
    have hr : 1 ≤ mc ∧ max (u + m) (2 * nT) ≤ ms := by
      rcases hroom with z | z
      · omega
      · exact z
    refine ⟨1, max (u + m) (2 * nT), by omega, by omega, ?_⟩
    refine sp_copyOf (by omega) (by omega) hTb (by omega) (by omega) (fun k G hG hGb => ?_)
    intro a2
    exact add_fin hN q hlim (by omega) hnb (by omega) (fun i hi => hG i (by omega)) hGb hb hbb (Or.inr ⟨r, rfl⟩) (fun S L T2 hq => h1 q S L T2 a2 k _ hq)
end Add
