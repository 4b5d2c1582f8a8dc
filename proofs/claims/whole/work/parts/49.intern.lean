/-! pure: a constant more -/
theorem neg_of {r : Int32} {lo : Nat} (h : r.toInt = -1 - lo) (hl : lo < 1000000) : r ^^^ (-1 : Int32) = nI lo := by
  apply Int32.toInt_inj.mp
  rw [x_not, h, nI_toInt (by omega)]
  omega
theorem cg_l {cs : List Con} {c : Con} {i : Nat} (h : i < cs.length) : cg (cs ++ [c]) i = cg cs i := by
  unfold cg
  rw [List.getD_eq_getElem?_getD, List.getD_eq_getElem?_getD, List.getElem?_append_left h]
theorem cg_r {cs : List Con} {c : Con} : cg (cs ++ [c]) cs.length = c := by
  unfold cg
  rw [List.getD_eq_getElem?_getD, List.getElem?_append_right (Nat.le_refl _), Nat.sub_self]
  rfl
/-- ranks with one more, of rank lo -/
def rk1 (rk : Nat → Nat) (lo n : Nat) : Nat → Nat := fun q => if q < lo then rk q else if q = lo then n else rk (q - 1)
theorem CoR_add {cs : List Con} {rk : Nat → Nat} {V BR V2 BR2 : Nat → Int32} {c : Con} {lo : Nat} (hC : CoR cs rk V BR) (hlo : lo ≤ cs.length) (h1 : ∀ q, q < lo → cc (cg cs (rk q)) c < 0) (h2 : ∀ q, lo ≤ q → q < cs.length → 0 < cc (cg cs (rk q)) c) (hV : ∀ i, i < cs.length → V2 i = V i) (hV2 : (V2 cs.length).toInt = c.2) (b1 : ∀ q, q < lo → BR2 q = BR q) (b2 : BR2 lo = nI cs.length) (b3 : ∀ q, lo < q → q ≤ cs.length → BR2 q = BR (q - 1)) : CoR (cs ++ [c]) (rk1 rk lo cs.length) V2 BR2 := by
  have hlen : (cs ++ [c]).length = cs.length + 1 := by simp
  have hk : ∀ q, q < cs.length + 1 → (q < lo ∧ rk1 rk lo cs.length q = rk q) ∨ (q = lo ∧ rk1 rk lo cs.length q = cs.length) ∨ (lo < q ∧ rk1 rk lo cs.length q = rk (q - 1)) := by
    intro q hq
    unfold rk1
    rcases Nat.lt_trichotomy q lo with g | g | g
    · exact Or.inl ⟨g, by rw [if_pos g]⟩
    · exact Or.inr (Or.inl ⟨g, by rw [if_neg (by omega), if_pos g]⟩)
    · exact Or.inr (Or.inr ⟨g, by rw [if_neg (by omega), if_neg (by omega)]⟩)
  refine ⟨fun i hi => ?_, fun q hq => ?_, fun q r hqr hr => ?_, fun i hi => ?_⟩
  · rw [hlen] at hi
    rcases Nat.lt_or_ge i cs.length with g | g
    · rw [hV i g, cg_l g]
      exact hC.1 i g
    · obtain rfl : i = cs.length := by omega
      rw [cg_r, hV2]
  · rw [hlen] at hq ⊢
    rcases hk q hq with ⟨g, e⟩ | ⟨g, e⟩ | ⟨g, e⟩
    · have := hC.2.1 q (by omega)
      rw [e, b1 q g]
      exact ⟨by omega, this.2⟩
    · rw [e, g]
      exact ⟨by omega, b2⟩
    · have := hC.2.1 (q - 1) (by omega)
      rw [e, b3 q g (by omega)]
      exact ⟨by omega, this.2⟩
  · rw [hlen] at hr
    rcases hk q (by omega) with ⟨g, e⟩ | ⟨g, e⟩ | ⟨g, e⟩
    · rw [e, cg_l (hC.2.1 q (by omega)).1]
      rcases hk r hr with ⟨g2, e2⟩ | ⟨g2, e2⟩ | ⟨g2, e2⟩
      · rw [e2, cg_l (hC.2.1 r (by omega)).1]
        exact hC.2.2.1 q r hqr (by omega)
      · rw [e2, cg_r]
        exact h1 q g
      · rw [e2, cg_l (hC.2.1 (r - 1) (by omega)).1]
        exact hC.2.2.1 q (r - 1) (by omega) (by omega)
    · rw [e, cg_r]
      rcases hk r hr with ⟨g2, e2⟩ | ⟨g2, e2⟩ | ⟨g2, e2⟩
      · omega
      · omega
      · rw [e2, cg_l (hC.2.1 (r - 1) (by omega)).1, cc_neg]
        have := h2 (r - 1) (by omega) (by omega)
        omega
    · rw [e, cg_l (hC.2.1 (q - 1) (by omega)).1]
      rcases hk r hr with ⟨g2, e2⟩ | ⟨g2, e2⟩ | ⟨g2, e2⟩
      · omega
      · omega
      · rw [e2, cg_l (hC.2.1 (r - 1) (by omega)).1]
        exact hC.2.2.1 (q - 1) (r - 1) (by omega) (by omega)
  · rw [hlen] at hi ⊢
    rcases Nat.lt_or_ge i cs.length with g | g
    · obtain ⟨q, hq, e⟩ := hC.2.2.2 i g
      rcases Nat.lt_or_ge q lo with g2 | g2
      · exact ⟨q, by omega, by unfold rk1; rw [if_pos g2]; exact e⟩
      · refine ⟨q + 1, by omega, ?_⟩
        unfold rk1
        rw [if_neg (by omega), if_neg (by omega)]
        exact e
    · exact ⟨lo, by omega, by unfold rk1; rw [if_neg (by omega), if_pos rfl]; omega⟩
section Intern
variable {post : Int32 → (Int32 × Int32 × (Nat → Int32) × (Nat → Int32) × Nat × ClassId × Nat × (Nat → Int32) × (Nat → Int32) × (Nat → Int32) × Nat × Nat) → Prop} {cs : List Con} {rk : Nat → Nat} {mc ms u lim nT nb b m ad : Nat} {S L T V BR fb : Nat → Int32} {vl : Int32} {kT : ClassId}
theorem sp_Co_intern (hN : NaR (cs.map (·.1)) u S L T) (hC : CoR cs rk V BR) (hlim : lim < 1000000) (hnT : nT < 300000) (hn2 : 256 ≤ nT) (hnb : nb < 1000000) (hu : u ≤ nT) (hum : u + m < 300000) (hTb : ∀ i, i < nT → byt (T i)) (hcs : cs.length ≤ lim) (hb : b + m ≤ nb) (hbb : ∀ j, j < m → byt (fb (b + j))) (hroom : u + m ≤ nT ∨ (1 ≤ mc ∧ max (u + m) (2 * nT) ≤ ms))
    (h1 : ∀ i, i < cs.length → cg cs i = (sl fb b m, vl.toInt) → post (nI i) (nI cs.length, nI u, S, L, ad, kT, nT, T, V, BR, 0, 0))
    (h2 : (∀ i, i < cs.length → ¬ cg cs i = (sl fb b m, vl.toInt)) → cs.length = lim → post (-1) (nI cs.length, nI u, S, L, ad, kT, nT, T, V, BR, 0, 0))
    (h3 : (∀ i, i < cs.length → ¬ cg cs i = (sl fb b m, vl.toInt)) → cs.length < lim → ∀ S2 L2 T2 a2 k2 nT2 V2 BR2 rk2 kc ks, AddQ (cs.map (·.1)) u nT (sl fb b m) S2 L2 T2 nT2 → cst nT nT2 kc ks → CoR (cs ++ [(sl fb b m, vl.toInt)]) rk2 V2 BR2 → post (nI cs.length) (nI (cs.length + 1), nI (u + m), S2, L2, a2, k2, nT2, T2, V2, BR2, kc, ks)) : wp_met_Co_intern post mc ms lim lim nT lim lim nb ad (nI b) (nI m) vl (nI cs.length) (nI u) S L T V BR fb kT := by
  refine sp_Co_search hN hC hlim (by omega) hnb hu hcs hb hbb (fun r hr => ?_)
  rcases hr with ⟨q, e, hq, hc⟩ | ⟨lo, e, hlo, g1, g2⟩
  · subst e
    have cq : (nI q).toNatClampNeg = q := nI_clamp (by omega)
    obtain ⟨r1, r2⟩ := hC.2.1 q hq
    refine ⟨fun z => absurd z (nI_pos (by omega)), fun _ => ⟨vp_in_nI (by omega) (by omega), fun y hy => ?_⟩⟩
    rw [cq, r2] at hy
    subst hy
    exact h1 _ r1 hc
  · have hno : ∀ i, i < cs.length → ¬ cg cs i = (sl fb b m, vl.toInt) := by
      intro i hi z
      obtain ⟨q, hq, rfl⟩ := hC.2.2.2 i hi
      have z0 := cc_0.mpr z
      rcases Nat.lt_or_ge q lo with g | g
      · have := g1 q g
        omega
      · have := g2 q g hq
        omega
    have hneg : r < 0 := Int32.lt_iff_toInt_lt.mpr (by rw [e]; have z0 : (0 : Int32).toInt = 0 := (by decide); rw [z0]; omega)
    have hxr := neg_of e (by omega)
    refine ⟨fun _ => ⟨mc, ms, by omega, by omega, ?_⟩, fun z => absurd hneg z⟩
    have hmap : (cs.map (·.1)).length = cs.length := by simp
    rw [← hmap]
    refine sp_Na_add hN hlim hnT hn2 hnb hu hum hTb hb hbb hroom (by rw [hmap]; exact hcs) (fun hl => ?_) (fun hl S2 L2 T2 a2 k2 nT2 kc ks hA hcs2 => ?_)
    · rw [hmap] at hl ⊢
      exact ⟨fun _ => by rw [Nat.zero_add]; exact h2 hno hl, fun z => absurd rfl z⟩
    · rw [hmap] at hl ⊢
      have ci : (nI cs.length).toNatClampNeg = cs.length := nI_clamp (by omega)
      refine ⟨fun z => ?_, fun _ => ⟨vp_in_nI (by omega) (by omega), fun g14 h14 y15 h15 y16 h16 y17 h17 y18 h18 y19 h19 => ?_⟩⟩
      · have := congrArg Int32.toInt z
        rw [nI_toInt (by omega)] at this
        have m1 : (-1 : Int32).toInt = -1 := by decide
        rw [m1] at this
        omega
      rw [hxr] at h15 h16 h18
      rw [h16, nI_1] at h17
      rw [h18, pk_sub hlo] at h19
      subst h15 h17 h19
      have c1 : (nI lo).toNatClampNeg = lo := nI_clamp (by omega)
      have c2 : (nI (lo + 1)).toNatClampNeg = lo + 1 := nI_clamp (by omega)
      have c3 : (nI (cs.length - lo)).toNatClampNeg = cs.length - lo := nI_clamp (by omega)
      rw [c1, c2, c3]
      refine ⟨nI_pos (by omega), nI_pos (by omega), nI_pos (by omega), by omega, by omega, fun g20 h20 y21 h21 => ?_⟩
      rw [hxr] at h21
      subst h21
      refine ⟨vp_in_nI (by omega) (by omega), fun g23 h23 => ?_⟩
      rw [c1] at h23
      rw [ci] at h14
      rw [Nat.zero_add, Nat.zero_add]
      refine h3 hno hl S2 L2 T2 a2 k2 nT2 g14 g23 (rk1 rk lo cs.length) kc ks hA hcs2 ?_
      refine CoR_add hC hlo g1 g2 (fun i hi => ?_) ?_ (fun q hq => ?_) ?_ (fun q hq1 hq2 => ?_)
      · rw [h14, upd_ne (by omega)]
      · rw [h14, upd_same]
      · rw [h23, upd_ne (by omega), h20, va_cpy_out (by omega)]
      · rw [h23, upd_same]
      · rw [h23, upd_ne (by omega), h20]
        obtain ⟨t, rfl⟩ : ∃ t, q = lo + 1 + t := ⟨q - (lo + 1), by omega⟩
        rw [va_cpy_in (by omega)]
        congr 1
        omega
end Intern
