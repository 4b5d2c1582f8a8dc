/-! pure: a word more in a table -/
/-- what a growing table costs: cells, slots -/
def cst (a b k s : Nat) : Prop := a ≤ b ∧ 256 * k ≤ b - a ∧ s ≤ 2 * (b - a)
theorem cst_0 {a : Nat} : cst a a 0 0 := ⟨Nat.le_refl _, by omega, by omega⟩
theorem cst_add {a b c k1 s1 k2 s2 : Nat} (h1 : cst a b k1 s1) (h2 : cst b c k2 s2) : cst a c (k1 + k2) (s1 + s2) := by
  obtain ⟨x1, x2, x3⟩ := h1
  obtain ⟨y1, y2, y3⟩ := h2
  exact ⟨by omega, by omega, by omega⟩
section Add
variable {post : Int32 → (Int32 × Int32 × (Nat → Int32) × (Nat → Int32) × Nat × ClassId × Nat × (Nat → Int32) × Nat × Nat) → Prop} {ws : List (List Int32)} {mc ms u lim nT nb b m ad : Nat} {fs fl ft fb : Nat → Int32} {kT : ClassId}
/-- what add leaves -/
def AddQ (ws : List (List Int32)) (u nT : Nat) (w : List Int32) (S L T : Nat → Int32) (nT2 : Nat) : Prop := NaR (ws ++ [w]) (u + w.length) S L T ∧ u + w.length ≤ nT2 ∧ (∀ i, i < nT2 → byt (T i)) ∧ (nT2 = nT ∨ (nT < u + w.length ∧ nT2 = max (u + w.length) (2 * nT)))
theorem add_fin {T : Nat → Int32} {nT2 a2 : Nat} {k2 : ClassId} {c1 s1 : Nat} (hN : NaR ws u fs fl ft) (hl : ws.length < lim) (hlim : lim < 1000000) (hnT : nT2 < 1000000) (hnb : nb < 1000000) (hum : u + m ≤ nT2) (hT : ∀ i, i < u → T i = ft i) (hTb : ∀ i, i < nT2 → byt (T i)) (hb : b + m ≤ nb) (hbb : ∀ j, j < m → byt (fb (b + j))) (hgr : nT2 = nT ∨ (nT < u + m ∧ nT2 = max (u + m) (2 * nT)))
    (h : ∀ S L T2, AddQ ws u nT (sl fb b m) S L T2 nT2 → post (nI ws.length) (nI (ws.length + 1), nI (u + m), S, L, a2, k2, nT2, T2, c1, s1)) : jw_met_Na_add_55 post (nI b) (nI u) (nI m) nb fb (nI ws.length) lim fs lim fl (a2, k2, nT2, T, c1, s1) := by
  have cb : (nI b).toNatClampNeg = b := nI_clamp (by omega)
  have cu : (nI u).toNatClampNeg = u := nI_clamp (by omega)
  have cm : (nI m).toNatClampNeg = m := nI_clamp (by omega)
  have cl : (nI ws.length).toNatClampNeg = ws.length := nI_clamp (by omega)
  have lw : (sl fb b m).length = m := sl_len fb m b
  unfold jw_met_Na_add_55
  rw [cb, cu, cm, cl]
  refine ⟨nI_pos (by omega), nI_pos (by omega), nI_pos (by omega), by omega, by omega, fun i hi => byt_fit (hbb i hi), fun g18 h18 => ⟨vp_in_nI (by omega) (by omega), fun g20 h20 => ⟨vp_in_nI (by omega) (by omega), fun g22 h22 y23 h23 y24 h24 y25 h25 => ?_⟩⟩⟩
  rw [nI_add] at h23
  rw [nI_1] at h24
  rw [h24, nI_pred] at h25
  subst h23 h24 h25
  refine h g20 g22 g18 ⟨?_, by rw [lw]; exact hum, ?_, by rw [lw]; exact hgr⟩
  · intro i w hi
    rcases Nat.lt_or_ge i ws.length with q | q
    · rw [List.getElem?_append_left q] at hi
      obtain ⟨g1, a, e1, e2, e3, e4⟩ := hN i w hi
      refine ⟨g1, a, ?_, ?_, by omega, ?_⟩
      · rw [h20, upd_ne (by omega)]
        exact e1
      · rw [h22, upd_ne (by omega)]
        exact e2
      · rw [← sl_eq w.length a a (fun j hj => ?_)]
        · exact e4
        · rw [h18, va_cpy_out (by omega)]
          exact (hT (a + j) (by omega)).symm
    · have hi2 := (List.getElem?_eq_some_iff.mp hi).1
      rw [List.length_append] at hi2
      simp only [List.length_singleton] at hi2
      obtain rfl : i = ws.length := by omega
      rw [List.getElem?_append_right (Nat.le_refl _), Nat.sub_self] at hi
      obtain rfl : sl fb b m = w := by simpa using hi
      refine ⟨fun x hx => ?_, u, ?_, ?_, by omega, ?_⟩
      · obtain ⟨j, h1, h2⟩ := sl_mem m b hx
        rw [h2]
        exact hbb j h1
      · rw [h20, upd_same]
      · rw [h22, upd_same, lw]
      · rw [lw, h18]
        exact sl_cpy
  · intro i hi
    rw [h18]
    by_cases q : u ≤ i ∧ i < u + m
    · obtain ⟨t, rfl⟩ : ∃ t, i = u + t := ⟨i - u, by omega⟩
      rw [va_cpy_in (by omega)]
      exact hbb t (by omega)
    · rw [va_cpy_out q]
      exact hTb i hi
theorem sp_Na_add (hN : NaR ws u fs fl ft) (hlim : lim < 1000000) (hnT : nT < 300000) (hn2 : 256 ≤ nT) (hnb : nb < 1000000) (hu : u ≤ nT) (hum : u + m < 300000) (hTb : ∀ i, i < nT → byt (ft i)) (hb : b + m ≤ nb) (hbb : ∀ j, j < m → byt (fb (b + j))) (hroom : u + m ≤ nT ∨ (1 ≤ mc ∧ max (u + m) (2 * nT) ≤ ms)) (hwl : ws.length ≤ lim)
    (h0 : ws.length = lim → post (-1) (nI ws.length, nI u, fs, fl, ad, kT, nT, ft, 0, 0))
    (h1 : ws.length < lim → ∀ S L T2 a2 k2 nT2 kc ks, AddQ ws u nT (sl fb b m) S L T2 nT2 → cst nT nT2 kc ks → post (nI ws.length) (nI (ws.length + 1), nI (u + m), S, L, a2, k2, nT2, T2, kc, ks)) : wp_met_Na_add post mc ms lim lim nT nb ad (nI b) (nI m) (nI ws.length) (nI u) fs fl ft fb kT := by
  refine pk_lt ws.length lim (fun q => ?_) (fun q => h0 (by omega))
  intro y1 hy1
  rw [nI_add] at hy1
  subst hy1
  refine pk_le (u + m) nT (fun r => ?_) (fun r => ?_)
  · exact add_fin hN q hlim (by omega) hnb r (fun i _ => rfl) hTb hb hbb (Or.inl rfl) (fun S L T2 hq => h1 q S L T2 ad kT nT 0 0 hq cst_0)
  · intro y3 hy3 y4 hy4 y5 hy5
    rw [nI_add] at hy3
    rw [show (2 : Int32) = nI 2 from rfl, pk_mul] at hy4
    subst hy3 hy4
    have e5 : y5 = nI (max (u + m) (2 * nT)) := by
      rw [hy5]
      by_cases z : u + m < 2 * nT
      · rw [if_pos (nI_lt z (by omega)), Nat.max_eq_right (by omega)]
      · rw [if_neg (nI_nlt (by omega) (by omega)), Nat.max_eq_left (by omega)]
    subst e5
    have hr : 1 ≤ mc ∧ max (u + m) (2 * nT) ≤ ms := by
      rcases hroom with z | z
      · omega
      · exact z
    refine ⟨1, max (u + m) (2 * nT), by omega, by omega, ?_⟩
    refine sp_copyOf (by omega) (by omega) hTb (by omega) (by omega) (fun k G hG hGb => ?_)
    intro a2
    exact add_fin hN q hlim (by omega) hnb (by omega) (fun i hi => hG i (by omega)) hGb hb hbb (Or.inr ⟨r, rfl⟩) (fun S L T2 hq => h1 q S L T2 a2 k _ _ _ hq ⟨by omega, by omega, by omega⟩)
end Add
