/-! pure: the model takes a predicate's name -/
section MName
variable {post : Int32 → (Int32 × Int32 × (Nat → Int32) × (Nat → Int32) × (Nat → Int32) × (Nat → Int32) × (Nat → Int32) × (Nat → Int32) × (Nat → Int32)) → Prop} {ps : List Wd} {n o set cl k a m md : Nat} {fc fp kind : Int32} {F PF PL PA PS LK LP LQ : Nat → Int32}
/-- the number of a predicate as the model holds it -/
def PC (md : Nat) (ps : List Wd) (w : Wd) (x : Int32) : Prop := (∃ i : Nat, ps[i]? = some w ∧ x = nI i) ∨ (¬ md = 0 ∧ w ∉ ps ∧ x = -1)
theorem name_120 {PF2 PL2 PA2 PS2 : Nat → Int32} {code : Int32} (hset : set < 2) (hcl : cl < 257) (hk : k < 13) (h : post 1 (fc, fp, PF2, PL2, PA2, PS2, upd LK ((257 * set + cl) * 13 + k) kind, upd LP ((257 * set + cl) * 13 + k) code, upd LQ (13 * cl + k) (nI (o + a)))) : jw_met_Mo_name_120 post LK kind LP (nI cl) (nI k) LQ (nI (o + a)) fc fp (nI set) (PF2, PL2, PA2, PS2, code) := by
  have hL : (257 * set + cl) * 13 + k < 6682 := by omega
  unfold jw_met_Mo_name_120
  refine sp_Mo_literal ?_
  refine ⟨vp_in_nI hL (by omega), fun g36 h36 => ?_⟩
  refine sp_Mo_literal ?_
  refine ⟨vp_in_nI hL (by omega), fun g39 h39 y40 h40 y41 h41 => ?_⟩
  rw [show (13 : Int32) = nI 13 from rfl, pk_mul] at h40
  rw [h40, nI_add] at h41
  subst h41
  refine ⟨vp_in_nI (by omega) (by omega), fun g43 h43 => ?_⟩
  rw [nI_clamp (by omega)] at h36 h39 h43
  rw [h36, h39, h43]
  exact h
theorem MPr_add {q : Nat} {w : Wd} {PF2 PL2 : Nat → Int32} (hM : MPr ps q PF PL F) (e1 : ∀ j, j < q + ps.length → PF2 j = PF j) (e2 : ∀ j, j < q + ps.length → PL2 j = PL j) (hw : ∃ a, PF2 (q + ps.length) = nI a ∧ PL2 (q + ps.length) = nI w.length ∧ (a + w.length ≤ 196608 ∧ Ar false (q / 65) a w.length) ∧ sl F a w.length = w) : MPr (ps ++ [w]) q PF2 PL2 F := by
  intro i w2 hi
  rcases Nat.lt_or_ge i ps.length with g | g
  · rw [List.getElem?_append_left g] at hi
    rw [e1 _ (by omega), e2 _ (by omega)]
    exact hM i w2 hi
  · have h2 := (List.getElem?_eq_some_iff.mp hi).1
    rw [List.length_append, List.length_singleton] at h2
    obtain rfl : i = ps.length := by omega
    rw [List.getElem?_append_right (Nat.le_refl _), Nat.sub_self] at hi
    obtain rfl : w = w2 := by simpa using hi
    exact hw
theorem sp_Mo_name (hs : o + n ≤ 196608) (hA : Ao (asksOf md) set o n) (hset : set < 2) (hcl : cl < 257) (hk : k < 13) (hb : a + m ≤ n) (hM : MPr ps (65 * set) PF PL F) (hps : ps.length ≤ 64) (hPS : PS set = nI ps.length)
    (h0 : mPred md ps (sl (shf F o) a m) = none → post 0 (3, nI a, PF, PL, PA, PS, LK, LP, LQ))
    (h1 : ∀ ps2 PF2 PL2 PA2 PS2 code, mPred md ps (sl (shf F o) a m) = some ps2 → PC md ps2 (sl (shf F o) a m) code → MPr ps2 (65 * set) PF2 PL2 F → ps2.length ≤ 64 → PS2 set = nI ps2.length → (∀ j, ¬ j = set → PS2 j = PS j) → (∀ j, ¬ j = 65 * set + ps.length → PF2 j = PF j ∧ PL2 j = PL j) → ((ps2 = ps ∧ PA2 = PA ∧ PF2 = PF ∧ PL2 = PL) ∨ (md = 0 ∧ ps2 = ps ++ [sl (shf F o) a m] ∧ PA2 = upd PA (65 * set + ps.length) (-1))) → post 1 (fc, fp, PF2, PL2, PA2, PS2, upd LK ((257 * set + cl) * 13 + k) kind, upd LP ((257 * set + cl) * 13 + k) code, upd LQ (13 * cl + k) (nI (o + a)))) :
    wp_met_Mo_name post (nI k) kind fc fp (nI set) (nI o) (nI (o + a)) (nI (o + a + m)) (nI cl) (b01 (asksOf md)) F PF PL PA PS LK LP LQ := by
  have cs : (nI set).toNatClampNeg = set := nI_clamp (by omega)
  have hin : vp_in (nI set) 2 := vp_in_nI hset (by omega)
  have m1 : (-1 : Int32).toInt = -1 := by decide
  refine sp_Mo_predicate hM hset (by omega) hPS (by omega) (fun r hr => ?_)
  rw [sl_sh] at hr
  rcases hr with ⟨i, e, hi, -⟩ | ⟨e, hno⟩
  · have hmem : sl (shf F o) a m ∈ ps := List.mem_of_getElem? hi
    have hil := (List.getElem?_eq_some_iff.mp hi).1
    have hmp : mPred md ps (sl (shf F o) a m) = some ps := by
      unfold mPred
      by_cases z : md = 0
      · rw [if_pos z, if_pos hmem]
      · rw [if_neg z]
    refine ⟨fun z => ?_, fun _ => ?_⟩
    · exfalso
      rw [e] at z
      have := congrArg Int32.toInt z
      rw [nI_toInt (by omega), m1] at this
      omega
    · exact name_120 hset hcl hk (h1 ps PF PL PA PS r hmp (Or.inl ⟨i, hi, e⟩) hM hps hPS (fun _ _ => rfl) (fun _ _ => ⟨rfl, rfl⟩) (Or.inl ⟨rfl, rfl, rfl, rfl⟩))
  · have hni : sl (shf F o) a m ∉ ps := fun z => by
      obtain ⟨i, hi, he⟩ := List.mem_iff_getElem.mp z
      exact hno i (by rw [List.getElem?_eq_getElem hi, he])
    refine ⟨fun _ => ?_, fun z => absurd e z⟩
    refine b01_if (fun q => ⟨hin, fun y4 h4 => ?_⟩) (fun q => ?_)
    · have z : md = 0 := by
        rcases Classical.em (md = 0) with w | w
        · exact w
        · simp [asksOf, w] at q
      rw [cs, hPS] at h4
      subst h4
      refine pk_eq ps.length 64 (fun q2 => ?_) (fun q2 => ⟨hin, fun y6 h6 y7 h7 y8 h8 => ?_⟩)
      · refine sp_Mo_flaw ?_
        rw [pk_sub (by omega), show o + a - o = a by omega]
        refine ⟨Or.inl rfl, h0 ?_⟩
        unfold mPred
        rw [if_pos z, if_neg hni, if_pos q2]
      · rw [cs, hPS] at h6
        rw [show (65 : Int32) = nI 65 from rfl, pk_mul] at h7
        rw [h7, h6, nI_add] at h8
        subst h8
        have c8 : (nI (65 * set + ps.length)).toNatClampNeg = 65 * set + ps.length := nI_clamp (by omega)
        have hi8 : vp_in (nI (65 * set + ps.length)) 130 := vp_in_nI (by omega) (by omega)
        refine ⟨hi8, fun g10 h10 y11 h11 y12 h12 y13 h13 => ?_⟩
        rw [show (65 : Int32) = nI 65 from rfl, pk_mul] at h11
        rw [h11, h6, nI_add] at h12
        subst h12
        refine ⟨hi8, fun g15 h15 y16 h16 y17 h17 => ?_⟩
        rw [show (65 : Int32) = nI 65 from rfl, pk_mul] at h16
        rw [h16, h6, nI_add] at h17
        subst h17
        refine ⟨hi8, fun g19 h19 => ⟨hin, fun y21 h21 y22 h22 => ⟨hin, fun g24 h24 => ?_⟩⟩⟩
        rw [cs, hPS] at h21
        rw [h21, nI_1] at h22
        rw [cs] at h24
        rw [c8] at h10 h15 h19
        rw [pk_sub (by omega), show o + a + m - (o + a) = m by omega] at h13
        have hl2 : (ps ++ [sl (shf F o) a m]).length = ps.length + 1 := by simp
        rw [h6]
        refine name_120 hset hcl hk (h1 (ps ++ [sl (shf F o) a m]) g10 g15 g19 g24 (nI ps.length) ?_ (Or.inl ⟨ps.length, by rw [List.getElem?_append_right (Nat.le_refl _), Nat.sub_self]; rfl, rfl⟩) ?_ (by rw [hl2]; omega) (by rw [h24, upd_same, h22, hl2]) (fun j hj => by rw [h24, upd_ne hj]) (fun j hj => ⟨by rw [h10, upd_ne hj], by rw [h15, upd_ne hj]⟩) (Or.inr ⟨z, rfl, h19⟩))
        · unfold mPred
          rw [if_pos z, if_neg hni, if_neg q2]
        · refine MPr_add hM (fun j hj => by rw [h10, upd_ne (by omega)]) (fun j hj => by rw [h15, upd_ne (by omega)]) ⟨o + a, by rw [h10, upd_same], by rw [h15, upd_same, h13, sl_len], ⟨by rw [sl_len]; omega, by rw [sl_len, Nat.mul_div_cancel_left _ (by omega)]; exact Ar_of (show Ao false set o n by rw [z] at hA; exact hA) hb⟩, by rw [sl_len, sl_sh]⟩
    · have z : ¬ md = 0 := by
        intro w
        simp [asksOf, w] at q
      refine name_120 hset hcl hk (h1 ps PF PL PA PS r ?_ (Or.inr ⟨z, hni, e⟩) hM hps hPS (fun _ _ => rfl) (fun _ _ => ⟨rfl, rfl⟩) (Or.inl ⟨rfl, rfl, rfl, rfl⟩))
      unfold mPred
      rw [if_neg z]
end MName
