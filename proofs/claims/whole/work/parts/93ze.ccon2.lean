/-! pure: a constant by its rank -/
section CCo
variable {cn : List Con} {rk : Nat → Nat} {V BR : Nat → Int32} {q : Nat}
theorem sp_Co_valueAt {post : Int32 → Unit → Prop} (hC : CoR cn rk V BR) (hl : cn.length ≤ 1000) (hq : q < cn.length) (h : ∀ x : Int32, x.toInt = (cnr cn rk q).2 → post x ()) : wp_met_Co_valueAt post 1000 1000 (nI q) V BR := by
  obtain ⟨c1, c2, -⟩ := hC
  obtain ⟨r1, r2⟩ := c2 q hq
  refine ⟨vp_in_nI (by omega) (by omega), fun y2 h2 => ?_⟩
  rw [nI_clamp (by omega), r2] at h2
  subst h2
  refine ⟨vp_in_nI (by omega) (by omega), fun y4 h4 => ?_⟩
  rw [nI_clamp (by omega)] at h4
  subst h4
  exact h _ (c1 _ r1)
theorem sp_Co_lengthAt {post : Int32 → Unit → Prop} {us : Nat} {S Ln Tx : Nat → Int32} (hN : NaR (cn.map (·.1)) us S Ln Tx) (hC : CoR cn rk V BR) (hl : cn.length ≤ 1000) (hq : q < cn.length) (h : post (nI (cnr cn rk q).1.length) ()) : wp_met_Co_lengthAt post 1000 1000 (nI q) Ln BR := by
  obtain ⟨c1, c2, -⟩ := hC
  obtain ⟨r1, r2⟩ := c2 q hq
  refine ⟨vp_in_nI (by omega) (by omega), fun y2 h2 => ?_⟩
  rw [nI_clamp (by omega), r2] at h2
  subst h2
  refine ⟨vp_in_nI (by omega) (by omega), fun y4 h4 => ?_⟩
  rw [nI_clamp (by omega)] at h4
  have he : (cn.map (·.1))[rk q]? = some (cnr cn rk q).1 := by
    rw [List.getElem?_map, cg_at r1]
    rfl
  obtain ⟨-, a, -, a2, -⟩ := hN _ _ he
  rw [a2] at h4
  subst h4
  exact h
end CCo
