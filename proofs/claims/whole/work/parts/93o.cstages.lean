/-! pure: stage upon stage, till nothing is new -/
theorem Vn_mem {E : List (Nat × List Nat)} {x : Nat × List Nat} : VisN E E.length x ↔ x ∈ E := by
  constructor
  · rintro ⟨f, -, hf⟩
    exact List.mem_of_getElem? hf
  · intro h
    obtain ⟨i, hi, e⟩ := List.getElem_of_mem h
    have he := List.getElem?_eq_getElem hi
    rw [e] at he
    exact ⟨i, hi, he⟩
/-- more facts in a stratum than there may be -/
def OvS (ps : List Wd) (cs : List (List Lt)) (L : Nat → Nat) (B : Fct → Prop) (s : Nat) : Prop := ∃ (k : Nat) (l : List Fct), l.Nodup ∧ (∀ x ∈ l, SgS ps cs L B s k x) ∧ 20000 < l.length
/-- a fact of stratum s and its stage -/
def SgX (cn : List Con) (rk : Nat → Nat) (ps : List Wd) (cs : List (List Lt)) (L : Nat → Nat) (B : Fct → Prop) (s : Nat) (x : Nat × List Nat) (g : Nat) : Prop := L x.1 = s ∧ SgS ps cs L B s g (phi cn rk x) ∧ ∀ j, j < g → ¬ SgS ps cs L B s j (phi cn rk x)
/-- before stage k; np: how many there were before stage k - 1 -/
def ClI (cn : List Con) (rk : Nat → Nat) (ps : List Wd) (L : Nat → Nat) (K P Z T : Nat → Int32) (cs : List (List Lt)) (B : Fct → Prop) (s nb k np : Nat) (E : List (Nat × List Nat)) (sgE : Nat → Nat) : Prop := (∀ y, FX cn rk (fun x => x ∈ E) y ↔ SgS ps cs L B s (k - 1) y) ∧ (∀ (i : Nat) (x : Nat × List Nat), nb ≤ i → E[i]? = some x → SgX cn rk ps cs L B s x (sgE i)) ∧ (¬ k = 1 → nb ≤ np ∧ ∀ c x, DrC ps L K P Z T cs s E np c x → x ∈ E)
def ClJ (cn : List Con) (rk : Nat → Nat) (ps : List Wd) (L : Nat → Nat) (K P Z T : Nat → Int32) (cs : List (List Lt)) (B : Fct → Prop) (s : Nat) (Es : List (Nat × List Nat)) (sgs : Nat → Nat) (k np : Nat) (E : List (Nat × List Nat)) (sgE : Nat → Nat) (fu : Int32) : Prop := (∃ nw, E = Es ++ nw) ∧ ((fu = 0 ∧ RkE cn E ∧ ClI cn rk ps L K P Z T cs B s Es.length k np E sgE ∧ (∀ i, i < Es.length → sgE i = sgs i) ∧ (¬ k = 1 → k - 2 ≤ np)) ∨ (fu = 1 ∧ E.length = 20000 ∧ OvS ps cs L B s))
section CCm
variable {G : Nat → Int32} {ps : List Wd} {cn : List Con} {cs : List (List Lt)} {rk ar L : Nat → Nat} {tz : Int32} {FF K P Z M T ST V BR : Nat → Int32} {B : Fct → Prop} {s k np nb vb : Nat} {E E0 : List (Nat × List Nat)} {sgE sg0 : Nat → Nat} {OV Q : Prop}
theorem FX_phi {X : Nat × List Nat → Prop} {x : Nat × List Nat} (h : X x) : FX cn rk X (phi cn rk x) := ⟨x, h, rfl⟩
theorem FX_mem (hC : CoR cn rk V BR) (hR : RkE cn E) {x : Nat × List Nat} (hx : ∀ r ∈ x.2, r < cn.length) (h : FX cn rk (fun x => x ∈ E) (phi cn rk x)) : x ∈ E := by
  obtain ⟨x', h1, h2⟩ := h
  rw [phi_inj hC hx (hR x' h1) h2]
  exact h1
theorem Ov_mk (hC : CoR cn rk V BR) {l : List (Nat × List Nat)} (hR : RkE cn l) (hnd : l.Nodup) (hm : ∀ x ∈ l, SgS ps cs L B s k (phi cn rk x)) (hl : 20000 < l.length) : OvS ps cs L B s := by
  refine ⟨k, l.map (phi cn rk), ?_, fun y hy => ?_, by rw [List.length_map]; exact hl⟩
  · refine List.pairwise_map.mpr (hnd.imp_of_mem (fun ha hb w e => w ?_))
    exact phi_inj hC (hR _ ha) (hR _ hb) e
  · obtain ⟨x, h1, rfl⟩ := List.mem_map.mp hy
    exact hm x h1
theorem Ap_nd {E : List (Nat × List Nat)} {x : Nat × List Nat} (h : E.Nodup) (hx : x ∉ E) : (E ++ [x]).Nodup := by
  refine List.nodup_append.mpr ⟨h, List.nodup_cons.mpr ⟨fun w => (by cases w), List.nodup_nil⟩, fun a ha b hb e => hx ?_⟩
  rw [← List.mem_singleton.mp hb, ← e]
  exact ha
/-- what follows at stage k, out of the facts before it -/
theorem Cl_dr (h : PgK G ps cn cs rk ar L tz FF K P Z M T ST V BR) (hk : 1 ≤ k) (hR : RkE cn E0) (hI : ∀ y, FX cn rk (fun x => x ∈ E0) y ↔ SgS ps cs L B s (k - 1) y) (y : Fct) : SgS ps cs L B s k y ↔ SgS ps cs L B s (k - 1) y ∨ ∃ c x, DrC ps L K P Z T cs s E0 E0.length c x ∧ y = phi cn rk x := by
  have e : SgS ps cs L B s (k - 1) = FX cn rk (VisN E0 E0.length) := by
    funext y
    apply propext
    rw [← hI y]
    constructor
    · rintro ⟨x, h1, h2⟩
      exact ⟨x, Vn_mem.mpr h1, h2⟩
    · rintro ⟨x, h1, h2⟩
      exact ⟨x, Vn_mem.mp h1, h2⟩
  rw [← Dr_iff h hR (Nat.le_refl _) y, ← e]
  obtain ⟨k', rfl⟩ : ∃ k', k = k' + 1 := ⟨k - 1, by omega⟩
  exact Iff.rfl
theorem Dr_L {c n : Nat} {x : Nat × List Nat} (h : DrC ps L K P Z T cs s E n c x) : L x.1 = s := by
  obtain ⟨ls, hp, u, -, -, -, h1, -, rfl⟩ := h
  exact h1
theorem Dr_pre {nw : List (Nat × List Nat)} {c n : Nat} {x : Nat × List Nat} (hn : n ≤ E0.length) (h : DrC ps L K P Z T cs s (E0 ++ nw) n c x) : DrC ps L K P Z T cs s E0 n c x := by
  obtain ⟨ls, hp, u, h1, h2, h3, h4, h5, h6⟩ := h
  exact ⟨ls, hp, u, h1, h2, h3, h4, (Bo_pre hn).mp h5, h6⟩
theorem Cl_ov (h : PgK G ps cn cs rk ar L tz FF K P Z M T ST V BR) (hk : 1 ≤ k) (hR : RkE cn E0) (hI : ClI cn rk ps L K P Z T cs B s nb k np E0 sg0) : ∀ nw c x, (∀ x ∈ nw, ∃ c, DrC ps L K P Z T cs s E0 E0.length c x) → (E0 ++ nw).Nodup → (E0 ++ nw).length = 20000 → DrC ps L K P Z T cs s E0 E0.length c x → x ∉ E0 ++ nw → OvS ps cs L B s := by
  intro nw c x h1 h2 h3 h4 h5
  have hd := Cl_dr h hk hR hI.1
  refine Ov_mk (k := k) (l := (E0 ++ nw) ++ [x]) h.2.2.1.1 (fun y hy => ?_) (Ap_nd h2 h5) (fun y hy => ?_) (by rw [List.length_append, h3, List.length_singleton]; omega)
  · rcases List.mem_append.mp hy with hy | hy
    · rcases List.mem_append.mp hy with hy | hy
      · exact hR y hy
      · obtain ⟨c', q⟩ := h1 y hy
        exact Dr_rk h hR q
    · rw [List.mem_singleton.mp hy]
      exact Dr_rk h hR h4
  · rw [hd]
    rcases List.mem_append.mp hy with hy | hy
    · rcases List.mem_append.mp hy with hy | hy
      · exact Or.inl ((hI.1 _).mp (FX_phi hy))
      · obtain ⟨c', q⟩ := h1 y hy
        exact Or.inr ⟨c', y, q, rfl⟩
    · rw [List.mem_singleton.mp hy]
      exact Or.inr ⟨c, x, h4, rfl⟩
theorem Cl_step (h : PgK G ps cn cs rk ar L tz FF K P Z M T ST V BR) (hk : 1 ≤ k) (hR : RkE cn E0) (hnb : nb ≤ E0.length) (hvb : ¬ k = 1 → vb = np) (hI : ClI cn rk ps L K P Z T cs B s nb k np E0 sg0) (hS : SgI ps L K P Z T cs s k E0 vb sg0 OV Q (fun _ _ => True) E sgE 0) (hnd : E.Nodup) : RkE cn E ∧ ClI cn rk ps L K P Z T cs B s nb (k + 1) E0.length E sgE := by
  obtain ⟨⟨nw, n1, n2⟩, s2, s3⟩ := hS
  replace n2 := n2 rfl
  have hd := Cl_dr h hk hR hI.1
  subst n1
  have hall : ∀ c x, DrC ps L K P Z T cs s E0 E0.length c x → x ∈ E0 ++ nw := by
    rcases s3 with ⟨-, -, s3⟩ | ⟨s3, -⟩
    · refine St_all (k := k) (vb := vb) (fun w => ?_) (fun c j => s3 c j trivial) (fun x hx => List.mem_append_left _ hx)
      obtain ⟨q1, q2⟩ := hI.2.2 w
      rw [hvb w]
      exact ⟨q2, fun i y hi hy => (hI.2.1 i y (by omega) hy).1⟩
    · exact absurd s3 (by decide)
  have hR2 : RkE cn (E0 ++ nw) := fun x hx => by
    rcases List.mem_append.mp hx with hx | hx
    · exact hR x hx
    · obtain ⟨c, q⟩ := n2 x hx
      exact Dr_rk h hR q
  refine ⟨hR2, fun y => ?_, fun i x hi hx => ?_, fun _ => ⟨hnb, fun c x hx => hall c x (Dr_pre (Nat.le_refl _) hx)⟩⟩
  · rw [show k + 1 - 1 = k by omega, hd]
    constructor
    · rintro ⟨x, h1, h2⟩
      rcases List.mem_append.mp h1 with h1 | h1
      · exact Or.inl ((hI.1 _).mp ⟨x, h1, h2⟩)
      · obtain ⟨c, q⟩ := n2 x h1
        exact Or.inr ⟨c, x, q, h2⟩
    · rintro (q | ⟨c, x, q, rfl⟩)
      · obtain ⟨x, h1, h2⟩ := (hI.1 _).mpr q
        exact ⟨x, List.mem_append_left _ h1, h2⟩
      · exact FX_phi (hall c x q)
  · have hil := (List.getElem?_eq_some_iff.mp hx).1
    rw [s2 i hil]
    rcases Nat.lt_or_ge i E0.length with z | z
    · rw [if_pos z]
      rw [List.getElem?_append_left z] at hx
      exact hI.2.1 i x hi hx
    · rw [if_neg (by omega)]
      rw [List.getElem?_append_right z] at hx
      have hm := List.mem_of_getElem? hx
      obtain ⟨c, q⟩ := n2 x hm
      refine ⟨Dr_L q, (hd _).mpr (Or.inr ⟨c, x, q, rfl⟩), fun j hj w => ?_⟩
      have w2 := (hI.1 _).mpr (SgS_le (show j ≤ k - 1 by omega) w)
      have w3 := FX_mem h.2.2.1.1 hR (Dr_rk h hR q) w2
      exact (List.nodup_append.mp hnd).2.2 x w3 x hm rfl
theorem Cl_end (h : PgK G ps cn cs rk ar L tz FF K P Z M T ST V BR) (hk : ¬ k = 1) (hk1 : 1 ≤ k) (hR : RkE cn E) (hnp : np = E.length) (hI : ClI cn rk ps L K P Z T cs B s nb k np E sgE) (y : Fct) : (∃ j, SgS ps cs L B s j y) ↔ FX cn rk (fun x => x ∈ E) y := by
  subst hnp
  have hd := Cl_dr h hk1 hR hI.1
  have hst : ∀ x, SgS ps cs L B s (k - 1 + 1) x → SgS ps cs L B s (k - 1) x := by
    intro x hx
    rw [show k - 1 + 1 = k by omega, hd] at hx
    rcases hx with hx | ⟨c, x, q, rfl⟩
    · exact hx
    · exact (hI.1 _).mp (FX_phi ((hI.2.2 hk).2 c x q))
  rw [hI.1]
  constructor
  · rintro ⟨j, hj⟩
    rcases Nat.lt_or_ge (k - 1) j with z | z
    · obtain ⟨d, rfl⟩ : ∃ d, j = k - 1 + d := ⟨j - (k - 1), by omega⟩
      exact SgS_stop hst d y hj
    · exact SgS_le z hj
  · exact fun q => ⟨_, q⟩
/-- after the plain facts -/
theorem Cl_0 (h : PgK G ps cn cs rk ar L tz FF K P Z M T ST V BR) {Es : List (Nat × List Nat)} {sgs : Nat → Nat} {fu : Int32} (hR : RkE cn Es) (hB : ∀ y, B y ↔ FX cn rk (fun x => x ∈ Es) y) (hnd : E.Nodup) (h1 : ∃ nw, E = Es ++ nw ∧ ∀ x ∈ nw, ∃ c, PlF L K P Z T cs s c x) (h2 : ∀ i, i < E.length → sgE i = if i < Es.length then sgs i else 0) (h3 : (fu = 0 ∧ ∀ c x, PlF L K P Z T cs s c x → x ∈ E) ∨ (fu = 1 ∧ E.length = 20000 ∧ ∃ c x, PlF L K P Z T cs s c x ∧ x ∉ E)) : ClJ cn rk ps L K P Z T cs B s Es sgs 1 np E sgE fu := by
  obtain ⟨nw, n1, n2⟩ := h1
  subst n1
  have hR2 : RkE cn (Es ++ nw) := fun x hx => by
    rcases List.mem_append.mp hx with hx | hx
    · exact hR x hx
    · obtain ⟨c, q⟩ := n2 x hx
      exact Pl_rk h q
  have h0 : ∀ y, SgS ps cs L B s 0 y ↔ B y ∨ ∃ c x, PlF L K P Z T cs s c x ∧ y = phi cn rk x := by
    intro y
    rw [← Pl_iff h (X := B) y]
    exact Iff.rfl
  have hin : ∀ x ∈ Es ++ nw, SgS ps cs L B s 0 (phi cn rk x) := fun x hx => by
    rw [h0]
    rcases List.mem_append.mp hx with hx | hx
    · exact Or.inl ((hB _).mpr (FX_phi hx))
    · obtain ⟨c, q⟩ := n2 x hx
      exact Or.inr ⟨c, x, q, rfl⟩
  refine ⟨⟨nw, rfl⟩, ?_⟩
  rcases h3 with ⟨a1, a2⟩ | ⟨a1, a2, c, x, a3, a4⟩
  · refine Or.inl ⟨a1, hR2, ⟨fun y => ?_, fun i x hi hx => ?_, fun w => absurd rfl w⟩, fun i hi => ?_, fun w => absurd rfl w⟩
    · constructor
      · rintro ⟨x, q1, rfl⟩
        exact hin x q1
      · intro q
        rcases (h0 y).mp q with q | ⟨c, x, q8, rfl⟩
        · obtain ⟨x, q1, q2⟩ := (hB y).mp q
          exact ⟨x, List.mem_append_left _ q1, q2⟩
        · exact FX_phi (a2 c x q8)
    · have hil := (List.getElem?_eq_some_iff.mp hx).1
      have hxm := List.mem_of_getElem? hx
      rw [h2 i hil, if_neg (by omega)]
      rw [List.getElem?_append_right hi] at hx
      obtain ⟨c, q⟩ := n2 x (List.mem_of_getElem? hx)
      refine ⟨?_, hin x hxm, fun j hj => absurd hj (by omega)⟩
      obtain ⟨ls, hp, -, -, -, q1, rfl⟩ := q
      exact q1
    · rw [h2 i (by rw [List.length_append]; omega), if_pos hi]
  · refine Or.inr ⟨a1, a2, Ov_mk (k := 0) (l := (Es ++ nw) ++ [x]) h.2.2.1.1 (fun y hy => ?_) (Ap_nd hnd a4) (fun y hy => ?_) (by rw [List.length_append, a2, List.length_singleton]; omega)⟩
    · rcases List.mem_append.mp hy with hy | hy
      · exact hR2 y hy
      · rw [List.mem_singleton.mp hy]
        exact Pl_rk h a3
    · rcases List.mem_append.mp hy with hy | hy
      · exact hin y hy
      · rw [List.mem_singleton.mp hy, h0]
        exact Or.inr ⟨c, x, a3, rfl⟩
end CCm
