/-! pure: bodies by ranks and by constants -/
section CBo
variable {G : Nat → Int32} {md i rm : Nat} {ar : Nat → Nat} {ps : List Wd} {cn : List Con} {rk : Nat → Nat} {l : Lt} {K P Z M T V BR : Nat → Int32}
theorem b_occ (hC : CoR cn rk V BR) (hcn : cn.length ≤ 1000) (h : CLf ps cn rk i l K P Z M T) (hk : LtOk md G ps cn l) (x : Nat) : occB (bOf K P Z T i) x ↔ occ l x := by
  by_cases hA : isA l
  · exact bA_occ hcn h hk hA x
  · obtain ⟨t0, t1, s0, s1, e1, e2, -, -, e5, e6, -⟩ := bC_term hC hcn h hk hA
    unfold occB occ
    rw [e1, e2]
    constructor
    · intro hx
      rcases List.mem_cons.mp hx with z | z
      · exact ⟨t0, by simp, (e5 x).mp z.symm⟩
      · exact ⟨t1, by simp, (e6 x).mp (List.mem_singleton.mp z).symm⟩
    · rintro ⟨t, ht, et⟩
      rcases List.mem_cons.mp ht with z | z
      · rw [z] at et
        rw [(e5 x).mpr et]
        simp
      · rw [List.mem_singleton.mp z] at et
        rw [(e6 x).mpr et]
        simp
theorem BQ_of (hC : CoR cn rk V BR) (hcn : cn.length ≤ 1000) (hps : ps.length ≤ 64) (hi : i < rm) (h : CLf ps cn rk i l K P Z M T) (hk : LtOk md G ps cn l) (har : isA l → ∀ p : Nat, ps[p]? = some l.2.1 → l.2.2.2.2.length = ar p) : BQ rm (bOf K P Z T i) i K P Z M T ∧ blOk ar (bOf K P Z T i) := by
  have hK : (bOf K P Z T i).1 = l.1 := h.1
  have h6 := hk.2.1
  have hMK : MK (occB (bOf K P Z T i)) (M i) := MK_iff h.2.2.1 (fun x _ => (b_occ hC hcn h hk x).symm)
  by_cases hA : isA l
  · obtain ⟨g1, g2⟩ := bA_term hcn h hk hA
    have hb : ∀ (j : Nat) (a : Nat ⊕ Nat), (bOf K P Z T i).2.2[j]? = some a → T (6 * i + j) = nI (cdx a) ∧ (∀ x, a = Sum.inl x → x < 12) ∧ (∀ q, a = Sum.inr q → q < 1000) := by
      intro j a hj
      have hjl := (List.getElem?_eq_some_iff.mp hj).1
      have hjt := List.getElem?_eq_getElem (show j < l.2.2.2.2.length by omega)
      generalize l.2.2.2.2[j]'(by omega) = t at hjt
      rcases g2 j t hjt with ⟨x, -, x1, x2, x3⟩ | ⟨c, q, -, x1, x2, x3, -⟩
      · rw [hj] at x2
        obtain rfl := Option.some.inj x2
        exact ⟨x3, fun y e => (by obtain rfl := Sum.inl.inj e; exact x1), fun q e => (by cases e)⟩
      · rw [hj] at x2
        obtain rfl := Option.some.inj x2
        exact ⟨x3, fun y e => (by cases e), fun y e => (by obtain rfl := Sum.inr.inj e; exact x1)⟩
    have hm : ∀ a ∈ (bOf K P Z T i).2.2, ∃ j : Nat, (bOf K P Z T i).2.2[j]? = some a := by
      intro a ha
      obtain ⟨j, hj, e⟩ := List.getElem_of_mem ha
      exact ⟨j, by rw [List.getElem?_eq_getElem hj, e]⟩
    have hpr := bA_pred hps h hA
    refine ⟨⟨hi, rfl, fun _ => ?_, by rw [g1]; exact h.2.1, hMK, fun j a hj => (hb j a hj).1⟩, by rw [hK]; exact kd_of hk, by rw [g1]; exact h6, fun x hx => ?_, fun _ => ⟨fun q hq => ?_, fun p hp => ?_⟩, fun w => absurd (by rw [hK]; exact hA) w⟩
    · rcases hpr with ⟨p, -, r1, r2, -⟩ | ⟨r1, r2, -⟩
      · show P i = pI (pd (P i))
        rw [r2, r1]
        rfl
      · show P i = pI (pd (P i))
        rw [r2, r1]
        rfl
    · obtain ⟨j, hj⟩ := hm _ hx
      exact (hb j _ hj).2.1 x rfl
    · obtain ⟨j, hj⟩ := hm _ hq
      exact (hb j _ hj).2.2 q rfl
    · have hp' : pd (P i) = some p := hp
      rcases hpr with ⟨p', r0, -, r2, -⟩ | ⟨-, r2, -⟩
      · rw [hp'] at r2
        obtain rfl := Option.some.inj r2
        have := (List.getElem?_eq_some_iff.mp r0).1
        exact ⟨by omega, by rw [g1]; exact har hA p r0⟩
      · rw [hp'] at r2
        cases r2
  · obtain ⟨t0, t1, s0, s1, e1, e2, e3, e4, e5, e6, e7, e8, -⟩ := bC_term hC hcn h hk hA
    have hnA : ¬ ((bOf K P Z T i).1 = 0 ∨ (bOf K P Z T i).1 = 1) := by
      rw [hK]
      exact hA
    have hv : ∀ x, Sum.inl x ∈ (bOf K P Z T i).2.2 → x < 12 := by
      intro x hx
      obtain ⟨t, ht, et⟩ := (b_occ hC hcn h hk x).mp hx
      exact ((hk.2.2 t ht).2.1 x et).1
    refine ⟨⟨hi, rfl, fun w => absurd w hnA, ?_, hMK, fun j a hj => ?_⟩, by rw [hK]; exact kd_of hk, by rw [e2]; show 2 ≤ 6; omega, hv, fun w => absurd w hnA, fun _ => ⟨⟨s0, s1, e2⟩, fun q hq => ?_⟩⟩
    · rw [e2, h.2.1, e1]
      rfl
    · rw [e2] at hj
      match j, hj with
      | 0, hj =>
        obtain rfl := Option.some.inj hj
        exact e3
      | 1, hj =>
        obtain rfl := Option.some.inj hj
        exact e4
    · rw [e2] at hq
      rcases List.mem_cons.mp hq with z | z
      · exact e7 q z.symm
      · exact e8 q (List.mem_singleton.mp z).symm
/-- a literal holds by ranks as by constants -/
theorem tr_lit (hC : CoR cn rk V BR) (hcn : cn.length ≤ 1000) (hps : ps.length ≤ 64) (hnd : ps.Nodup) (h : CLf ps cn rk i l K P Z M T) (hk : LtOk md G ps cn l) {X : Nat × List Nat → Prop} (hX : ∀ x, X x → ∀ r ∈ x.2, r < cn.length) {u : Nat → Nat} {v : Nat → Con} (huv : ∀ x, occ l x → u x < cn.length ∧ v x = cnr cn rk (u x)) : hB X u (bOf K P Z T i) ↔ lHo ps (FX cn rk X) v l := by
  have hK : (bOf K P Z T i).1 = l.1 := h.1
  unfold hB lHo
  rw [hK]
  by_cases hA : isA l
  · have hf := bA_fact hC hcn hps hnd h hk hA hX huv
    rw [hf]
    refine or_congr Iff.rfl (or_congr Iff.rfl ?_)
    constructor
    · rintro ⟨n0, n1, -⟩
      exact absurd hA (fun z => z.elim n0 n1)
    · rintro ⟨n0, n1, -⟩
      exact absurd hA (fun z => z.elim n0 n1)
  · have n0 : ¬ l.1 = 0 := fun z => hA (Or.inl z)
    have n1 : ¬ l.1 = 1 := fun z => hA (Or.inr z)
    obtain ⟨t0, t1, s0, s1, e1, e2, -, -, -, -, -, -, e9⟩ := bC_term hC hcn h hk hA
    have hs := e9 u v huv
    have ht : targs v l = [tval v t0.1, tval v t1.1] := by
      unfold targs
      rw [e1]
      rfl
    constructor
    · rintro (z | z | ⟨-, -, s, t, z1, z2⟩)
      · exact absurd z.1 n0
      · exact absurd z.1 n1
      · rw [e2] at z1
        injection z1 with a1 a2
        injection a2 with a3 a4
        subst a1 a3
        exact Or.inr (Or.inr ⟨n0, n1, _, _, ht, (cmpH_sg hs).mp z2⟩)
    · rintro (z | z | ⟨-, -, a, b, z1, z2⟩)
      · exact absurd z.1 n0
      · exact absurd z.1 n1
      · rw [ht] at z1
        injection z1 with a1 a2
        injection a2 with a3 a4
        subst a1 a3
        exact Or.inr (Or.inr ⟨n0, n1, s0, s1, e2, (cmpH_sg hs).mpr z2⟩)
/-- each variable stands in an atom of the body; f: where the body begins -/
def SfL (f : Nat) (ls : List Lt) : Prop := ∀ l ∈ ls, ∀ x, occ l x → ∃ (j : Nat) (l2 : Lt), f ≤ j ∧ ls[j]? = some l2 ∧ l2.1 = 0 ∧ occ l2 x
/-- literals o .. of the arrays -/
def bsOf (K P Z T : Nat → Int32) (o m : Nat) : List BL := (List.range m).map (fun j => bOf K P Z T (o + j))
theorem bs_at {o m j : Nat} (hj : j < m) : (bsOf K P Z T o m)[j]? = some (bOf K P Z T (o + j)) := by
  unfold bsOf
  rw [List.getElem?_map, List.getElem?_range hj]
  rfl
theorem bs_len {o m : Nat} : (bsOf K P Z T o m).length = m := by
  unfold bsOf
  rw [List.length_map, List.length_range]
/-- from ranks to constants -/
theorem tr_to (hC : CoR cn rk V BR) (hcn : cn.length ≤ 1000) {ls : List Lt} {o f : Nat} (hcl : ∀ (j : Nat) (l : Lt), ls[j]? = some l → CLf ps cn rk (o + j) l K P Z M T ∧ LtOk md G ps cn l) (hsf : SfL f ls) {X : Nat × List Nat → Prop} (hX : ∀ x, X x → ∀ r ∈ x.2, r < cn.length) {u : Nat → Nat} (hb : ∀ (j : Nat) (l : Lt), ls[j]? = some l → f ≤ j → l.1 = 0 → ∃ p, X (p, aOf u (bOf K P Z T (o + j)))) : ∀ l ∈ ls, ∀ x, occ l x → u x < cn.length ∧ cnr cn rk (u x) = cnr cn rk (u x) := by
  intro l hl x hx
  obtain ⟨j, l2, j1, j2, j3, j4⟩ := hsf l hl x hx
  obtain ⟨h1, h2⟩ := hcl j l2 j2
  obtain ⟨p, hp⟩ := hb j l2 j2 j1 j3
  refine ⟨hX _ hp (u x) ?_, rfl⟩
  exact List.mem_map.mpr ⟨Sum.inl x, (b_occ hC hcn h1 h2 x).mpr j4, rfl⟩
/-- from constants to ranks -/
theorem tr_from (hC : CoR cn rk V BR) {ls : List Lt} {f : Nat} (hsf : SfL f ls) {X : Nat × List Nat → Prop} (hX : ∀ x, X x → ∀ r ∈ x.2, r < cn.length) {v : Nat → Con} (hb : ∀ (j : Nat) (l : Lt), ls[j]? = some l → f ≤ j → l.1 = 0 → ∃ p, FX cn rk X (p, targs v l)) : ∃ u : Nat → Nat, ∀ l ∈ ls, ∀ x, occ l x → u x < cn.length ∧ v x = cnr cn rk (u x) := by
  have ch : ∀ x, ∃ q, (∃ l ∈ ls, occ l x) → q < cn.length ∧ v x = cnr cn rk q := by
    intro x
    by_cases z : ∃ l ∈ ls, occ l x
    · obtain ⟨l, hl, hx⟩ := z
      obtain ⟨j, l2, j1, j2, j3, j4⟩ := hsf l hl x hx
      obtain ⟨p, y, y1, y2⟩ := hb j l2 j2 j1 j3
      have e2 : targs v l2 = y.2.map (cnr cn rk) := congrArg (fun z : Fct => z.2) y2
      obtain ⟨q, q1, q2⟩ := (bA_back hC (hX y y1) e2).2 x j4
      exact ⟨q, fun _ => ⟨q1, q2⟩⟩
    · exact ⟨0, fun w => absurd w z⟩
  obtain ⟨u, hu⟩ := Classical.axiomOfChoice ch
  exact ⟨u, fun l hl x hx => hu x ⟨l, hl, hx⟩⟩
end CBo
