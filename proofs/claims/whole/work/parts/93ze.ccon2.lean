/-! pure: a constant by its rank -/
section CCo
variable {cn : List Con} {rk : Nat → Nat} {V BR : Nat → Int32} {q : Nat}
theorem sp_Co_valueAt {post : Int32 → Unit → Prop} (hC : CoR cn rk V BR) (hl : cn.length ≤ 1000) (hq : q < cn.length) (h : ∀ x : Int32, x.toInt = (cnr cn rk q).2 → post x ()) : wp_met_Co_valueAt post 1000 1000 (nI q) V BR := by
  obtain ⟨c1, c2, -⟩ := hC
  obtain ⟨r1, r2⟩ := c2 q hq
  refine ⟨vp_in_nI (by omega) (by omega), fun y2 h2 => ?_⟩
  rw [nI_clamp (by omega), r2] at h2
  subst h2
  refine ⟨vp_in_nI (by omega) (by omega), fun y4 h4 => ?_⟩
  rw [nI_clamp (by omega)] at h4
  subst h4
  exact h _ (c1 _ r1)
end CCo
