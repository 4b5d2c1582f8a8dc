/-! pure: a fact is looked up -/
theorem sp_Fa_find {ar : Nat → Nat} {fs : List (Nat × List Nat)} {sg : Nat → Nat} {sz hg : Int32} {K : Nat → Int64} {S A P N T O W : Nat → Int32} {post : Int32 → Unit → Prop} {p : Nat} {r : List Nat} (h : FaR ar fs sg sz hg K S A P N T O W) (hx : fOk (p, r)) (hl : r.length = ar p) (h1 : ∀ f, fs[f]? = some (p, r) → post (nI f) ()) (h0 : (p, r) ∉ fs → post (-1) ()) : wp_met_Fa_find post (nI p) (lN (fk (p, r))) K P T := by
  have hk := FaR_key h hx hl
  obtain ⟨a1, a2, a3, a4, -⟩ := h
  refine sp_Fa_slotOf a3 (fun d hd => ?_)
  have hsl : (hq (nI p) (lN (fk (p, r))) + d) % 32768 < 32768 := Nat.mod_lt _ (by omega)
  refine ⟨vp_in_nI hsl (by omega), fun y3 h3 y4 h4 => ?_⟩
  rw [nI_clamp (by omega)] at h3
  obtain ⟨d1, d2, d3⟩ := hd
  rcases d3 with ⟨f, f1, f2, f3, f4⟩ | ⟨z1, z2⟩
  · have hm := (hk f).mp ⟨f1, f3, f4⟩
    rw [h3, f2, show (1 : Int32) = nI 1 from rfl, pk_sub (by omega), Nat.add_sub_cancel] at h4
    subst h4
    exact h1 f hm
  · have hno : (p, r) ∉ fs := fun hm => by
      obtain ⟨f, hf2, e⟩ := List.getElem_of_mem hm
      have he := List.getElem?_eq_getElem hf2
      rw [e] at he
      obtain ⟨b1, b2, -, -⟩ := a4 f _ he
      exact z2 f hf2 ⟨b1, b2⟩
    rw [h3, z1] at h4
    rw [h4]
    exact h0 hno
