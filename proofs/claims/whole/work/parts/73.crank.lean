/-! pure: ranks of constants; two constants compared -/
section SRk
variable {cs : List Con} {rk : Nat → Nat} {V BR R : Nat → Int32} {N : Nat}
theorem rk_inj (hC : CoR cs rk V BR) {q r : Nat} (hq : q < cs.length) (hr : r < cs.length) (e : rk q = rk r) : q = r := by
  rcases Nat.lt_trichotomy q r with z | z | z
  · have := hC.2.2.1 q r z hr
    rw [e, cc_0.mpr rfl] at this
    omega
  · exact z
  · have := hC.2.2.1 r q z hq
    rw [e, cc_0.mpr rfl] at this
    omega
theorem sr_lp {post : (Nat → Int32) → Prop} (hC : CoR cs rk V BR) (hl : cs.length ≤ N) (hN : N < 100000) (h : ∀ R2, (∀ q, q < cs.length → R2 (rk q) = nI q) → (∀ j, cs.length ≤ j → R2 j = R j) → post R2) : ∀ d q, q + d = cs.length → ∀ R1, (∀ p, p < q → R1 (rk p) = nI p) → (∀ j, cs.length ≤ j → R1 j = R j) → lw_met_Co_setRanks_2 post (nI cs.length) N BR N (d + 1) (nI q, R1) := by
  intro d
  induction d with
  | zero =>
    intro q hq R1 h1 h2
    exact pk_le cs.length q (fun _ => h R1 (fun p hp => h1 p (by omega)) h2) (fun z => absurd z (by omega))
  | succ d ih =>
    intro q hq R1 h1 h2
    refine pk_le cs.length q (fun z => absurd z (by omega)) (fun _ => ?_)
    obtain ⟨a1, a2⟩ := hC.2.1 q (by omega)
    refine ⟨vp_in_nI (by omega) (by omega), fun y5 h5 => ?_⟩
    rw [nI_clamp (by omega), a2] at h5
    subst h5
    refine ⟨vp_in_nI (by omega) (by omega), fun g7 h7 => ?_⟩
    rw [nI_clamp (by omega)] at h7
    subst h7
    rw [nI_1]
    refine ih (q + 1) (by omega) _ (fun p hp => ?_) (fun j hj => ?_)
    · rcases Nat.lt_or_ge p q with z | z
      · rw [upd_ne (fun e => by have := rk_inj hC (by omega) (by omega) e; omega)]
        exact h1 p z
      · obtain rfl : p = q := by omega
        exact upd_same
    · rw [upd_ne (by omega)]
      exact h2 j hj
theorem sp_Co_setRanks {post : (Nat → Int32) → Prop} (hC : CoR cs rk V BR) (hl : cs.length ≤ N) (hN : N < 100000) (h : ∀ R2, (∀ q, q < cs.length → R2 (rk q) = nI q) → (∀ j, cs.length ≤ j → R2 j = R j) → post R2) : wp_met_Co_setRanks post N N (nI cs.length) BR R :=
  ⟨_, sr_lp hC hl hN h cs.length 0 (by omega) R (fun p hp => absurd hp (by omega)) (fun _ _ => rfl)⟩
theorem sp_compareSides {post : ((Nat → Int32) × (Nat → Int32)) → Prop} {TT : Nat → Int32} {i rm : Nat} (hC : CoR cs rk V BR) (h1 : 1 ≤ cs.length) (h2 : cs.length ≤ 2) (hi : i < rm) (hrm : rm < 100000)
    (h : ∀ R2 (a b : Nat), a < 5000 → b < 5000 → (a < b ↔ cc (cg cs 0) (cg cs (cs.length - 1)) < 0) → (a = b ↔ cc (cg cs 0) (cg cs (cs.length - 1)) = 0) → post (R2, upd (upd TT (6 * i) (nI (16 + a))) (6 * i + 1) (nI (16 + b)))) : wp_met_Re_compareSides post 2 2 (6 * rm) (nI cs.length) BR R (nI (i + 1)) TT := by
  intro r1 hr1
  rw [nI_pred] at hr1
  subst hr1
  refine sp_Co_setRanks hC h2 (by omega) (fun R2 q1 q2 => ?_)
  obtain ⟨qa, ha, ea⟩ := hC.2.2.2 0 (by omega)
  obtain ⟨qb, hb, eb⟩ := hC.2.2.2 (cs.length - 1) (by omega)
  obtain ⟨m, hm⟩ : ∃ m, cs.length = m + 1 := ⟨cs.length - 1, by omega⟩
  have ra : R2 0 = nI qa := by
    have := q1 qa ha
    rw [ea] at this
    exact this
  have rb : R2 m = nI qb := by
    have := q1 qb hb
    rw [eb, hm] at this
    exact this
  refine ⟨vp_in_nI (n := 0) (by omega) (by omega), fun y2 hy2 => ?_⟩
  rw [show (0 : Int32).toNatClampNeg = 0 from rfl, ra] at hy2
  intro y6 hy6
  rw [hm, nI_pred] at hy6
  subst hy6
  refine ⟨vp_in_nI (by omega) (by omega), fun y7 hy7 => ?_⟩
  rw [nI_clamp (by omega), rb] at hy7
  intro z1 hz1 z2 hz2 y9 hy9
  have e9 : y9 = nI (16 + (2 * qa + 1)) := by rw [hy9, hz2, hz1, hy2, show (2 : Int32) = nI 2 from rfl, pk_mul, nI_1, show (16 : Int32) = nI 16 from rfl, nI_add]
  intro w1 hw1 w2 hw2
  have ew : w2 = nI (6 * i) := by rw [hw2, hw1, show (6 : Int32) = nI 6 from rfl, pk_mul, show (0 : Int32) = nI 0 from rfl, nI_add, Nat.add_zero, Nat.mul_comm]
  subst ew
  refine ⟨vp_in_nI (by omega) (by omega), fun g4 hg4 => ?_⟩
  rw [nI_clamp (by omega), e9] at hg4
  subst hg4
  intro x1 hx1 x2 hx2 y13 hy13
  have e13 : y13 = nI (16 + (2 * qb + 1)) := by rw [hy13, hx2, hx1, hy7, show (2 : Int32) = nI 2 from rfl, pk_mul, nI_1, show (16 : Int32) = nI 16 from rfl, nI_add]
  intro v1 hv1 v2 hv2
  have ev : v2 = nI (6 * i + 1) := by rw [hv2, hv1, show (6 : Int32) = nI 6 from rfl, pk_mul, show (1 : Int32) = nI 1 from rfl, nI_add, Nat.mul_comm]
  subst ev
  refine ⟨vp_in_nI (by omega) (by omega), fun g5 hg5 => ?_⟩
  rw [nI_clamp (by omega), e13] at hg5
  subst hg5
  have tri : (2 * qa + 1 < 2 * qb + 1 ↔ cc (cg cs 0) (cg cs (cs.length - 1)) < 0) ∧ (2 * qa + 1 = 2 * qb + 1 ↔ cc (cg cs 0) (cg cs (cs.length - 1)) = 0) := by
    rw [← ea, ← eb]
    rcases Nat.lt_trichotomy qa qb with z | z | z
    · have := hC.2.2.1 qa qb z hb
      omega
    · subst z
      rw [cc_0.mpr rfl]
      omega
    · have w := hC.2.2.1 qb qa z ha
      rw [cc_neg] at w
      omega
  exact h _ _ _ (by omega) (by omega) tri.1 tri.2
end SRk
theorem sides2 {l : Lt} {t t0 : Tm} (hl : l.2.2.2.2 = [t0]) (hno : ∀ v, ¬ occ (pushT l t) v) : ∃ c d p q, t0 = (Sum.inr c, p) ∧ t = (Sum.inr d, q) ∧ 1 ≤ (sdT (sdOf l) t).length ∧ (sdT (sdOf l) t).length ≤ 2 ∧ cg (sdT (sdOf l) t) 0 = c ∧ cg (sdT (sdOf l) t) ((sdT (sdOf l) t).length - 1) = d := by
  obtain ⟨x0, p⟩ := t0
  obtain ⟨x, q⟩ := t
  cases x0 with
  | inl v => exact absurd ⟨(Sum.inl v, p), by unfold pushT; dsimp only; rw [hl]; simp, rfl⟩ (hno v)
  | inr c =>
    cases x with
    | inl v => exact absurd ⟨(Sum.inl v, q), by unfold pushT; dsimp only; simp, rfl⟩ (hno v)
    | inr d =>
      have e1 : sdOf l = [c] := by
        unfold sdOf
        rw [hl]
        rfl
      have e2 : sdT (sdOf l) (Sum.inr d, q) = if d = c then [c] else [c, d] := by
        rw [e1]
        unfold sdT sdA
        dsimp only
        by_cases z : d = c
        · rw [if_pos (by simp [z]), if_pos z]
        · rw [if_neg (by simp [z]), if_neg z]
          rfl
      refine ⟨c, d, p, q, rfl, rfl, ?_⟩
      rw [e2]
      by_cases z : d = c
      · rw [if_pos z]
        subst z
        exact ⟨by simp, by simp, rfl, rfl⟩
      · rw [if_neg z]
        exact ⟨by simp, by simp, rfl, rfl⟩
theorem sides1 {l : Lt} {t0 : Tm} (hl : l.2.2.2.2 = [t0]) (hno : ∀ v, ¬ occ l v) : (sdOf l).length = 1 := by
  obtain ⟨x0, p⟩ := t0
  cases x0 with
  | inl v => exact absurd ⟨(Sum.inl v, p), by rw [hl]; simp, rfl⟩ (hno v)
  | inr c =>
    unfold sdOf
    rw [hl]
    rfl
