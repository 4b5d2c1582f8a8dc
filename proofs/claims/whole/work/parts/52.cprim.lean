/-! pure: small parts of the class's reader -/
theorem nI_nz {c : Nat} (h1 : 1 ≤ c) (h2 : c < 2147483648) : ¬ nI c = 0 := by
  intro e
  have := congrArg Int32.toInt e
  rw [nI_toInt h2] at this
  have z0 : (0 : Int32).toInt = 0 := by decide
  rw [z0] at this
  omega
/-- the noted fault that counts -/
def WRc (W : Nat → Nat → Prop) (code place : Int32) : Prop := (code = 0 ∧ ∀ c p, ¬ W c p) ∨ (∃ c p, W c p ∧ 1 ≤ c ∧ c ≤ 20 ∧ p ≤ 65536 ∧ code = nI c ∧ place = nI p ∧ ∀ c2 p2, W c2 p2 → p ≤ p2)
theorem WRc_eqv {W V : Nat → Nat → Prop} {code place : Int32} (h : WRc W code place) (h1 : ∀ c p, W c p → V c p) (h2 : ∀ c p, V c p → ∃ c2 p2, W c2 p2 ∧ p2 ≤ p) : WRc V code place := by
  rcases h with ⟨e, h0⟩ | ⟨c, p, w1, w2, w3, w4, e1, e2, hm⟩
  · refine Or.inl ⟨e, fun c p q => ?_⟩
    obtain ⟨c2, p2, q2, -⟩ := h2 c p q
    exact h0 _ _ q2
  · refine Or.inr ⟨c, p, h1 _ _ w1, w2, w3, w4, e1, e2, fun c2 p2 q => ?_⟩
    obtain ⟨c3, p3, q3, q4⟩ := h2 c2 p2 q
    have := hm _ _ q3
    omega
theorem WRc_iff {W V : Nat → Nat → Prop} {code place : Int32} (h : WRc W code place) (h1 : ∀ c p, W c p ↔ V c p) : WRc V code place := WRc_eqv h (fun c p q => (h1 c p).mp q) (fun c p q => ⟨c, p, (h1 c p).mpr q, Nat.le_refl _⟩)
theorem sp_Re_note {post : (Int32 × Int32) → Prop} {W : Nat → Nat → Prop} {c p : Nat} {code place : Int32} (hW : WRc W code place) (hc : 1 ≤ c) (hc2 : c ≤ 20) (hp : p ≤ 65536) (h : ∀ code2 place2, WRc (fun c2 p2 => W c2 p2 ∨ (c2 = c ∧ p2 = p)) code2 place2 → post (code2, place2)) : wp_met_Re_note post (nI c) (nI p) code place := by
  rcases hW with ⟨e, h0⟩ | ⟨c1, p1, w1, w2, w3, w4, e1, e2, hm⟩
  · refine ⟨fun _ => h _ _ (Or.inr ⟨c, p, Or.inr ⟨rfl, rfl⟩, hc, hc2, hp, rfl, rfl, fun c2 p2 q => ?_⟩), fun z => absurd e z⟩
    rcases q with q | ⟨-, q⟩
    · exact absurd q (h0 _ _)
    · omega
  · subst e1 e2
    refine ⟨fun z => absurd z (nI_nz w2 (by omega)), fun _ => ⟨fun q => ?_, fun q => ?_⟩⟩
    · have hle := (nI_leI (by omega) (by omega)).mp q
      refine h _ _ (Or.inr ⟨c1, p1, Or.inl w1, w2, w3, w4, rfl, rfl, fun c2 p2 z => ?_⟩)
      rcases z with z | ⟨-, z⟩
      · exact hm _ _ z
      · omega
    · have hlt : ¬ p1 ≤ p := fun z => q (nI_le z (by omega))
      refine h _ _ (Or.inr ⟨c, p, Or.inr ⟨rfl, rfl⟩, hc, hc2, hp, rfl, rfl, fun c2 p2 z => ?_⟩)
      rcases z with z | ⟨-, z⟩
      · have := hm _ _ z
        omega
      · omega
section CPrim
variable {W : Nat → Nat → Prop} {code place : Int32}
theorem cc_lp {post : (Int32 × Int32 × Int32 × Int32 × (Nat → Int32)) → Prop} {nv sz lt nf : Nat} {ND FF : Nat → Int32} {pos : Nat → Prop} {nd : Nat → Nat → Prop} {px : Int32} (hnv : nv ≤ 12) (hP : MK pos px) (hnd : ∀ v, v < nv → (ND v = -1 ∧ ∀ p, ¬ nd v p) ∨ (∃ p, ND v = nI p ∧ p ≤ 65536 ∧ nd v p ∧ ∀ p2, nd v p2 → p2 = p)) (hsz : sz + 1 < nf) (hnf : nf < 1000000)
    (h : ∀ code2 place2, WRc (fun c p => W c p ∨ (c = 11 ∧ ∃ v, v < nv ∧ nd v p ∧ ¬ pos v)) code2 place2 → post (code2, place2, 0, nI (sz + 1), upd FF (sz + 1) (nI lt))) : ∀ d v : Nat, v + d = nv → ∀ code place, WRc (fun c p => W c p ∨ (c = 11 ∧ ∃ u, u < v ∧ nd u p ∧ ¬ pos u)) code place → lw_met_Re_closeClause_2 post (nI nv) ND px nf (nI sz) (nI lt) FF (d + 1) (nI v, code, place) := by
  have go : ∀ code place v, nv ≤ v → v ≤ nv → WRc (fun c p => W c p ∨ (c = 11 ∧ ∃ u, u < v ∧ nd u p ∧ ¬ pos u)) code place → jw_met_Re_closeClause_52 post code place nf (nI sz) (nI lt) FF () := by
    intro code place v h1 h2 hW
    obtain rfl : v = nv := by omega
    intro y1 hy1
    rw [nI_1] at hy1
    subst hy1
    refine ⟨vp_in_nI hsz (by omega), fun g3 h3 => ?_⟩
    rw [h3, nI_clamp (by omega)]
    exact h code place hW
  intro d
  induction d with
  | zero =>
    intro v hv code place hW
    exact pk_le nv v (fun _ => go code place v (by omega) (by omega) hW) (fun q => absurd q (by omega))
  | succ d ih =>
    intro v hv code place hW
    refine pk_le nv v (fun q => absurd q (by omega)) (fun _ => ?_)
    refine ⟨vp_in_nI (by omega) (by omega), fun y7 h7 => ?_⟩
    rw [nI_clamp (by omega)] at h7
    have m1 : (-1 : Int32).toInt = -1 := by decide
    have step : ∀ code place, WRc (fun c p => W c p ∨ (c = 11 ∧ ∃ u, u < v + 1 ∧ nd u p ∧ ¬ pos u)) code place → lw_met_Re_closeClause_2 post (nI nv) ND px nf (nI sz) (nI lt) FF (d + 1) (nI v + 1, code, place) := by
      intro code place hW
      rw [nI_1]
      exact ih (v + 1) (by omega) code place hW
    have grow : (∀ p, nd v p → pos v) → ∀ c p, (W c p ∨ (c = 11 ∧ ∃ u, u < v ∧ nd u p ∧ ¬ pos u)) ↔ (W c p ∨ (c = 11 ∧ ∃ u, u < v + 1 ∧ nd u p ∧ ¬ pos u)) := by
      intro hno c p
      constructor
      · rintro (q | ⟨q1, u, q2, q3, q4⟩)
        · exact Or.inl q
        · exact Or.inr ⟨q1, u, by omega, q3, q4⟩
      · rintro (q | ⟨q1, u, q2, q3, q4⟩)
        · exact Or.inl q
        · rcases Nat.lt_or_ge u v with z | z
          · exact Or.inr ⟨q1, u, z, q3, q4⟩
          · obtain rfl : u = v := by omega
            exact absurd (hno p q3) q4
    rcases hnd v (by omega) with ⟨e, h0⟩ | ⟨p, e, hp, n1, n2⟩
    · refine ⟨fun _ => step _ _ (WRc_iff hW (grow (fun p q => absurd q (h0 p)))), fun z => absurd (h7.trans e) z⟩
    · rw [e] at h7
      subst h7
      refine ⟨fun z => absurd z (nI_ne1 (by omega)), fun _ => ?_⟩
      intro y8 h8 y9 h9
      rw [h8] at h9
      rcases MK_bit hP (v := v) (by omega) with ⟨b1, b2⟩ | ⟨b1, b2⟩
      · rw [b1] at h9
        subst h9
        refine ⟨fun _ => ?_, fun z => absurd rfl z⟩
        refine ⟨vp_in_nI (by omega) (by omega), fun y11 h11 => ?_⟩
        rw [nI_clamp (by omega), e] at h11
        subst h11
        refine sp_Re_note (c := 11) hW (by omega) (by omega) hp (fun code2 place2 hW2 => ?_)
        refine step _ _ (WRc_iff hW2 (fun c q => ?_))
        constructor
        · rintro ((q1 | ⟨q1, u, q2, q3, q4⟩) | ⟨q1, q2⟩)
          · exact Or.inl q1
          · exact Or.inr ⟨q1, u, by omega, q3, q4⟩
          · subst q2
            exact Or.inr ⟨q1, v, by omega, n1, b2⟩
        · rintro (q1 | ⟨q1, u, q2, q3, q4⟩)
          · exact Or.inl (Or.inl q1)
          · rcases Nat.lt_or_ge u v with z | z
            · exact Or.inl (Or.inr ⟨q1, u, z, q3, q4⟩)
            · obtain rfl : u = v := by omega
              exact Or.inr ⟨q1, n2 _ q3⟩
      · rw [b1] at h9
        subst h9
        exact ⟨fun z => absurd z (by decide), fun _ => step _ _ (WRc_iff hW (grow (fun _ _ => b2)))⟩
theorem sp_Re_closeClause {post : (Int32 × Int32 × Int32 × Int32 × (Nat → Int32)) → Prop} {nv sz lt nf : Nat} {ND FF : Nat → Int32} {pos : Nat → Prop} {nd : Nat → Nat → Prop} {px : Int32} (hW : WRc W code place) (hnv : nv ≤ 12) (hP : MK pos px) (hnd : ∀ v, v < nv → (ND v = -1 ∧ ∀ p, ¬ nd v p) ∨ (∃ p, ND v = nI p ∧ p ≤ 65536 ∧ nd v p ∧ ∀ p2, nd v p2 → p2 = p)) (hsz : sz + 1 < nf) (hnf : nf < 1000000)
    (h : ∀ code2 place2, WRc (fun c p => W c p ∨ (c = 11 ∧ ∃ v, v < nv ∧ nd v p ∧ ¬ pos v)) code2 place2 → post (code2, place2, 0, nI (sz + 1), upd FF (sz + 1) (nI lt))) : wp_met_Re_closeClause post nf code place px (nI nv) ND (nI sz) (nI lt) FF := by
  refine ⟨nv + 1, ?_⟩
  exact cc_lp hnv hP hnd hsz hnf h nv 0 (by omega) code place (WRc_iff hW (fun c p => ⟨Or.inl, fun q => q.elim id (fun z => by obtain ⟨-, u, z1, -⟩ := z; omega)⟩))
theorem sp_Cl_open {post : (Int32 × (Nat → Int32) × (Nat → Int32) × (Nat → Int32) × (Nat → Int32) × (Nat → Int32)) → Prop} {i rm : Nat} {kd pl : Int32} {K P Pl Z M : Nat → Int32} (hi : i < rm) (hrm : rm < 1000000) (h : post (nI (i + 1), upd K i kd, upd P i (-1), upd Pl i pl, upd Z i 0, upd M i 0)) : wp_met_Cl_open post rm rm rm rm rm kd pl (nI i) K P Pl Z M := by
  have ci : (nI i).toNatClampNeg = i := nI_clamp (by omega)
  have hin : vp_in (nI i) rm := vp_in_nI hi (by omega)
  refine ⟨hin, fun g2 h2 => ⟨hin, fun g4 h4 => ⟨hin, fun g6 h6 => ⟨hin, fun g8 h8 => ⟨hin, fun g10 h10 y11 h11 => ?_⟩⟩⟩⟩⟩
  rw [ci] at h2 h4 h6 h8 h10
  rw [nI_1] at h11
  subst h2 h4 h6 h8 h10 h11
  exact h
theorem sp_Cl_addV {post : ((Nat → Int32) × (Nat → Int32) × (Nat → Int32)) → Prop} {i rm m v : Nat} {Z M T : Nat → Int32} (hi : i < rm) (hrm : rm < 100000) (hZ : Z i = nI m) (hm : m < 6) (hv : v < 16) (h : post (upd Z i (nI (m + 1)), upd M i (M i ||| ((1 : Int32) <<< (nI v &&& 31))), upd T (6 * i + m) (nI v))) : wp_met_Cl_add post rm rm (6 * rm) (nI v) (nI (i + 1)) Z M T := by
  have ci : (nI i).toNatClampNeg = i := nI_clamp (by omega)
  have hin : vp_in (nI i) rm := vp_in_nI hi (by omega)
  intro y1 hy1
  rw [nI_pred] at hy1
  subst hy1
  refine ⟨hin, fun y3 h3 => ?_⟩
  rw [ci, hZ] at h3
  subst h3
  intro z1 hz1 z2 hz2
  rw [show (6 : Int32) = nI 6 from rfl, pk_mul] at hz1
  rw [hz1, nI_add, Nat.mul_comm] at hz2
  subst hz2
  refine ⟨vp_in_nI (by omega) (by omega), fun g4 hg4 => ?_⟩
  rw [nI_clamp (by omega)] at hg4
  subst hg4
  refine ⟨fun z => ?_, fun _ => ⟨hin, fun y8 h8 y9 h9 y10 h10 => ⟨hin, fun g12 h12 => ?_⟩⟩⟩
  · have := (nI_leI (a := 16) (by omega) (by omega)).mp z
    omega
  · rw [ci] at h8 h12
    subst h8 h9 h10 h12
    refine ⟨hin, fun y hy y2 hy2 => ?_⟩
    rw [ci, hZ] at hy
    rw [hy, nI_1] at hy2
    subst hy2
    refine ⟨hin, fun g hg => ?_⟩
    rw [ci] at hg
    subst hg
    exact h
theorem sp_Cl_addC {post : ((Nat → Int32) × (Nat → Int32) × (Nat → Int32)) → Prop} {i rm m : Nat} {x : Int32} {Z M T : Nat → Int32} (hi : i < rm) (hrm : rm < 100000) (hZ : Z i = nI m) (hm : m < 6) (hx : (16 : Int32) ≤ x) (h : post (upd Z i (nI (m + 1)), M, upd T (6 * i + m) x)) : wp_met_Cl_add post rm rm (6 * rm) x (nI (i + 1)) Z M T := by
  have ci : (nI i).toNatClampNeg = i := nI_clamp (by omega)
  have hin : vp_in (nI i) rm := vp_in_nI hi (by omega)
  intro y1 hy1
  rw [nI_pred] at hy1
  subst hy1
  refine ⟨hin, fun y3 h3 => ?_⟩
  rw [ci, hZ] at h3
  subst h3
  intro z1 hz1 z2 hz2
  rw [show (6 : Int32) = nI 6 from rfl, pk_mul] at hz1
  rw [hz1, nI_add, Nat.mul_comm] at hz2
  subst hz2
  refine ⟨vp_in_nI (by omega) (by omega), fun g4 hg4 => ?_⟩
  rw [nI_clamp (by omega)] at hg4
  subst hg4
  refine ⟨fun _ => ?_, fun z => absurd hx z⟩
  refine ⟨hin, fun y hy y2 hy2 => ?_⟩
  rw [ci, hZ] at hy
  rw [hy, nI_1] at hy2
  subst hy2
  refine ⟨hin, fun g hg => ?_⟩
  rw [ci] at hg
  subst hg
  exact h
end CPrim
