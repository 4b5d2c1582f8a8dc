/-! pure: literals by ranks and by constants -/
def dcd (x : Int32) : Nat ⊕ Nat := if x.toNatClampNeg < 16 then Sum.inl x.toNatClampNeg else Sum.inr (x.toNatClampNeg - 16)
def pd (x : Int32) : Option Nat := if x = -1 then none else some x.toNatClampNeg
/-- literal i as the arrays tell it -/
def bOf (K P Z T : Nat → Int32) (i : Nat) : BL := (K i, pd (P i), (List.range (Z i).toNatClampNeg).map (fun j => dcd (T (6 * i + j))))
def cnr (cn : List Con) (rk : Nat → Nat) (q : Nat) : Con := cg cn (rk q)
/-- facts by constants -/
def FX (cn : List Con) (rk : Nat → Nat) (V : Nat × List Nat → Prop) (y : Fct) : Prop := ∃ x, V x ∧ y = (x.1, x.2.map (cnr cn rk))
theorem dcd_v {v : Nat} (h : v < 16) : dcd (nI v) = Sum.inl v := by
  unfold dcd
  rw [nI_clamp (by omega), if_pos h]
theorem dcd_c {q : Nat} (h : q < 5000) : dcd (nI (16 + q)) = Sum.inr q := by
  unfold dcd
  rw [nI_clamp (by omega), if_neg (by omega), Nat.add_sub_cancel_left]
section CTr
variable {G : Nat → Int32} {md i : Nat} {ps : List Wd} {cn : List Con} {rk : Nat → Nat} {l : Lt} {K P Z M T V BR : Nat → Int32}
theorem cnr_inj (hC : CoR cn rk V BR) {q r : Nat} (hq : q < cn.length) (hr : r < cn.length) (e : cnr cn rk q = cnr cn rk r) : q = r := by
  rcases Nat.lt_trichotomy q r with z | z | z
  · have := hC.2.2.1 q r z hr
    have e2 : cg cn (rk q) = cg cn (rk r) := e
    rw [e2, cc_0.mpr rfl] at this
    omega
  · exact z
  · have := hC.2.2.1 r q z hq
    have e2 : cg cn (rk q) = cg cn (rk r) := e
    rw [e2, cc_0.mpr rfl] at this
    omega
theorem cnr_mem (hC : CoR cn rk V BR) {q : Nat} (hq : q < cn.length) : cnr cn rk q ∈ cn := cg_mem (hC.2.1 q hq).1
theorem cnr_ex (hC : CoR cn rk V BR) {c : Con} (h : c ∈ cn) : ∃ q, q < cn.length ∧ cnr cn rk q = c := by
  obtain ⟨i, h1, h2⟩ := cg_of h
  obtain ⟨q, q1, q2⟩ := hC.2.2.2 i h1
  exact ⟨q, q1, by show cg cn (rk q) = c; rw [q2]; exact h2⟩
theorem map_inj (hC : CoR cn rk V BR) : ∀ a b : List Nat, (∀ x ∈ a, x < cn.length) → (∀ x ∈ b, x < cn.length) → a.map (cnr cn rk) = b.map (cnr cn rk) → a = b := by
  intro a
  induction a with
  | nil =>
    intro b _ _ e
    cases b with
    | nil => rfl
    | cons y b => cases e
  | cons x a ih =>
    intro b h1 h2 e
    cases b with
    | nil => cases e
    | cons y b =>
      injection e with e1 e2
      rw [cnr_inj hC (h1 x (by simp)) (h2 y (by simp)) e1, ih b (fun z hz => h1 z (by simp [hz])) (fun z hz => h2 z (by simp [hz])) e2]
/-- the terms of an atom -/
theorem bA_term (hcn : cn.length ≤ 1000) (h : CLf ps cn rk i l K P Z M T) (hk : LtOk md G ps cn l) (hA : isA l) : (bOf K P Z T i).2.2.length = l.2.2.2.2.length ∧ ∀ (j : Nat) (t : Tm), l.2.2.2.2[j]? = some t → (∃ x, t.1 = Sum.inl x ∧ x < 12 ∧ (bOf K P Z T i).2.2[j]? = some (Sum.inl x) ∧ T (6 * i + j) = nI x) ∨ (∃ c q, t.1 = Sum.inr c ∧ q < 1000 ∧ (bOf K P Z T i).2.2[j]? = some (Sum.inr q) ∧ T (6 * i + j) = nI (16 + q) ∧ ((q < cn.length ∧ cnr cn rk q = c) ∨ (c ∉ cn ∧ q = 0))) := by
  have h6 := hk.2.1
  have hz : (Z i).toNatClampNeg = l.2.2.2.2.length := by
    rw [h.2.1]
    exact nI_clamp (by omega)
  have hlen : (bOf K P Z T i).2.2.length = l.2.2.2.2.length := by
    show ((List.range (Z i).toNatClampNeg).map _).length = _
    rw [List.length_map, List.length_range, hz]
  have hget : ∀ j, j < l.2.2.2.2.length → (bOf K P Z T i).2.2[j]? = some (dcd (T (6 * i + j))) := by
    intro j hj
    show ((List.range (Z i).toNatClampNeg).map _)[j]? = _
    rw [List.getElem?_map, List.getElem?_range (by omega)]
    rfl
  refine ⟨hlen, fun j t hj => ?_⟩
  have hjl := (List.getElem?_eq_some_iff.mp hj).1
  have hg := hget j hjl
  have ht := (h.2.2.2.1 hA).2 j t hj
  have hok := hk.2.2 t (List.mem_of_getElem? hj)
  obtain ⟨x, p⟩ := t
  cases x with
  | inl v =>
    have hv := (hok.2.1 v rfl).1
    have e : T (6 * i + j) = nI v := ht
    rw [e, dcd_v (by omega)] at hg
    exact Or.inl ⟨v, rfl, hv, hg, e⟩
  | inr c =>
    rcases ht with ⟨q, q1, q2, q3⟩ | ⟨q1, q3⟩
    · rw [q3, dcd_c (by omega)] at hg
      exact Or.inr ⟨c, q, rfl, by omega, hg, q3, Or.inl ⟨q1, q2⟩⟩
    · rw [q3, show nI 16 = nI (16 + 0) from rfl, dcd_c (by omega)] at hg
      exact Or.inr ⟨c, 0, rfl, by omega, hg, q3, Or.inr ⟨q1, rfl⟩⟩
theorem bA_occ (hcn : cn.length ≤ 1000) (h : CLf ps cn rk i l K P Z M T) (hk : LtOk md G ps cn l) (hA : isA l) (x : Nat) : occB (bOf K P Z T i) x ↔ occ l x := by
  obtain ⟨h1, h2⟩ := bA_term hcn h hk hA
  constructor
  · intro hx
    obtain ⟨j, hj, e⟩ := List.getElem_of_mem hx
    have he := List.getElem?_eq_getElem hj
    rw [e] at he
    have hjt := List.getElem?_eq_getElem (show j < l.2.2.2.2.length by omega)
    generalize l.2.2.2.2[j]'(by omega) = t at hjt
    rcases h2 j t hjt with ⟨y, y1, -, y2, -⟩ | ⟨c, q, -, -, y2, -⟩
    · rw [he] at y2
      obtain rfl := Sum.inl.inj (Option.some.inj y2)
      exact ⟨t, List.mem_of_getElem? hjt, y1⟩
    · rw [he] at y2
      cases y2
  · rintro ⟨t, ht, e⟩
    obtain ⟨j, hj, ej⟩ := List.getElem_of_mem ht
    have hjt := List.getElem?_eq_getElem hj
    rw [ej] at hjt
    rcases h2 j t hjt with ⟨y, y1, -, y2, -⟩ | ⟨c, q, y1, -⟩
    · rw [e] at y1
      obtain rfl := Sum.inl.inj y1
      exact List.mem_of_getElem? y2
    · rw [e] at y1
      cases y1
theorem bA_args (hcn : cn.length ≤ 1000) (h : CLf ps cn rk i l K P Z M T) (hk : LtOk md G ps cn l) (hA : isA l) (hin : cIn cn l) {u : Nat → Nat} {v : Nat → Con} (huv : ∀ x, occ l x → u x < cn.length ∧ v x = cnr cn rk (u x)) : (aOf u (bOf K P Z T i)).map (cnr cn rk) = targs v l ∧ ∀ x ∈ aOf u (bOf K P Z T i), x < cn.length := by
  obtain ⟨h1, h2⟩ := bA_term hcn h hk hA
  have hterm : ∀ (j : Nat) (t : Tm), l.2.2.2.2[j]? = some t → ∃ a, (bOf K P Z T i).2.2[j]? = some a ∧ ev u a < cn.length ∧ cnr cn rk (ev u a) = tval v t.1 := by
    intro j t hj
    rcases h2 j t hj with ⟨x, x1, -, x2, -⟩ | ⟨c, q, x1, -, x2, -, x3⟩
    · have ho : occ l x := ⟨t, List.mem_of_getElem? hj, x1⟩
      obtain ⟨y1, y2⟩ := huv x ho
      refine ⟨_, x2, y1, ?_⟩
      rw [x1]
      exact y2.symm
    · rcases x3 with ⟨z1, z2⟩ | ⟨z1, -⟩
      · refine ⟨_, x2, z1, ?_⟩
        rw [x1]
        exact z2
      · exact absurd (hin t (List.mem_of_getElem? hj) c x1) z1
  refine ⟨?_, fun x hx => ?_⟩
  · unfold aOf
    rw [List.map_map]
    apply List.ext_getElem?
    intro j
    unfold targs
    rw [List.getElem?_map, List.getElem?_map]
    rcases Nat.lt_or_ge j l.2.2.2.2.length with z | z
    · have hjt := List.getElem?_eq_getElem z
      generalize l.2.2.2.2[j] = t at hjt
      obtain ⟨a, a1, a2, a3⟩ := hterm j t hjt
      rw [a1, hjt]
      show some (cnr cn rk (ev u a)) = some (tval v t.1)
      rw [a3]
    · rw [List.getElem?_eq_none z, List.getElem?_eq_none (by omega)]
      rfl
  · obtain ⟨a, ha, rfl⟩ := List.mem_map.mp hx
    obtain ⟨j, hj, ej⟩ := List.getElem_of_mem ha
    have he := List.getElem?_eq_getElem hj
    rw [ej] at he
    have hjt := List.getElem?_eq_getElem (show j < l.2.2.2.2.length by omega)
    generalize l.2.2.2.2[j]'(by omega) = t at hjt
    obtain ⟨a', a1, a2, a3⟩ := hterm j t hjt
    rw [he] at a1
    obtain rfl := Option.some.inj a1
    exact a2
theorem bA_pred (hps : ps.length ≤ 64) (h : CLf ps cn rk i l K P Z M T) (hA : isA l) : (∃ p : Nat, ps[p]? = some l.2.1 ∧ P i = nI p ∧ pd (P i) = some p ∧ cIn cn l) ∨ (P i = -1 ∧ pd (P i) = none ∧ ¬ (l.2.1 ∈ ps ∧ cIn cn l)) := by
  rcases (h.2.2.2.1 hA).1 with ⟨p, p1, p2, p3⟩ | ⟨p1, p2⟩
  · have := (List.getElem?_eq_some_iff.mp p1).1
    refine Or.inl ⟨p, p1, p2, ?_, p3⟩
    unfold pd
    rw [p2, if_neg (nI_ne1 (by omega)), nI_clamp (by omega)]
  · refine Or.inr ⟨p1, ?_, p2⟩
    unfold pd
    rw [if_pos p1]
/-- an atom's arguments are a fact's: then its constants are known -/
theorem bA_back (hC : CoR cn rk V BR) {v : Nat → Con} {r : List Nat} (hr : ∀ x ∈ r, x < cn.length) (e : targs v l = r.map (cnr cn rk)) : cIn cn l ∧ ∀ x, occ l x → ∃ q, q < cn.length ∧ v x = cnr cn rk q := by
  have key : ∀ t ∈ l.2.2.2.2, ∃ q, q < cn.length ∧ tval v t.1 = cnr cn rk q := by
    intro t ht
    have hm : tval v t.1 ∈ targs v l := List.mem_map.mpr ⟨t, ht, rfl⟩
    rw [e] at hm
    obtain ⟨q, q1, q2⟩ := List.mem_map.mp hm
    exact ⟨q, hr q q1, q2.symm⟩
  refine ⟨fun t ht c hc => ?_, fun x hx => ?_⟩
  · obtain ⟨q, q1, q2⟩ := key t ht
    rw [hc] at q2
    have q3 : c = cnr cn rk q := q2
    rw [q3]
    exact cnr_mem hC q1
  · obtain ⟨t, ht, et⟩ := hx
    obtain ⟨q, q1, q2⟩ := key t ht
    rw [et] at q2
    exact ⟨q, q1, q2⟩
/-- an atom is a fact by ranks as it is one by constants -/
theorem bA_fact (hC : CoR cn rk V BR) (hcn : cn.length ≤ 1000) (hps : ps.length ≤ 64) (hnd : ps.Nodup) (h : CLf ps cn rk i l K P Z M T) (hk : LtOk md G ps cn l) (hA : isA l) {X : Nat × List Nat → Prop} (hX : ∀ x, X x → ∀ r ∈ x.2, r < cn.length) {u : Nat → Nat} {v : Nat → Con} (huv : ∀ x, occ l x → u x < cn.length ∧ v x = cnr cn rk (u x)) : (∃ p, (bOf K P Z T i).2.1 = some p ∧ X (p, aOf u (bOf K P Z T i))) ↔ ∃ p : Nat, ps[p]? = some l.2.1 ∧ FX cn rk X (p, targs v l) := by
  have hpr := bA_pred hps h hA
  constructor
  · rintro ⟨p, p1, p2⟩
    have p1' : pd (P i) = some p := p1
    rcases hpr with ⟨p', r1, -, r2, r3⟩ | ⟨-, r2, -⟩
    · rw [p1'] at r2
      obtain rfl := Option.some.inj r2
      refine ⟨p, r1, _, p2, ?_⟩
      rw [(bA_args hcn h hk hA r3 huv).1]
    · rw [p1'] at r2
      cases r2
  · rintro ⟨p, p1, x, x1, x2⟩
    have e1 : p = x.1 := congrArg (fun z : Fct => z.1) x2
    have e2 : targs v l = x.2.map (cnr cn rk) := congrArg (fun z : Fct => z.2) x2
    have hin := (bA_back hC (hX x x1) e2).1
    rcases hpr with ⟨p', r1, -, r2, r3⟩ | ⟨-, -, r2⟩
    · have : p' = p := nodup_inj hnd r1 p1
      subst this
      refine ⟨p', r2, ?_⟩
      obtain ⟨g1, g2⟩ := bA_args hcn h hk hA r3 huv
      have e3 : aOf u (bOf K P Z T i) = x.2 := map_inj hC _ _ g2 (hX x x1) (g1.trans e2)
      rw [e3, e1]
      exact x1
    · exact absurd ⟨List.mem_of_getElem? p1, hin⟩ r2
def sgQ (a b : Nat) (z : Int) : Prop := (a < b ↔ z < 0) ∧ (a = b ↔ z = 0)
theorem cmpH_sg {k : Int32} {a b : Nat} {z : Int} (h : sgQ a b z) : cmpH k ((a : Int) - (b : Int)) ↔ cmpH k z := by
  obtain ⟨h1, h2⟩ := h
  have e0 : ((a : Int) - (b : Int) = 0) ↔ z = 0 := by rw [← h2]; omega
  have e1 : ((a : Int) - (b : Int) < 0) ↔ z < 0 := by rw [← h1]; omega
  have e2 : ((a : Int) - (b : Int) ≤ 0) ↔ z ≤ 0 := by omega
  have e3 : (0 < (a : Int) - (b : Int)) ↔ 0 < z := by omega
  have e4 : (0 ≤ (a : Int) - (b : Int)) ↔ 0 ≤ z := by omega
  unfold cmpH
  rw [e0, e1, e2, e3, e4]
theorem sg_rr (hC : CoR cn rk V BR) {q r : Nat} (hq : q < cn.length) (hr : r < cn.length) : sgQ (2 * q + 1) (2 * r + 1) (cc (cnr cn rk q) (cnr cn rk r)) := by
  unfold sgQ cnr
  rcases Nat.lt_trichotomy q r with z | z | z
  · have := hC.2.2.1 q r z hr
    omega
  · subst z
    rw [cc_0.mpr rfl]
    omega
  · have w := hC.2.2.1 r q z hq
    rw [cc_neg] at w
    omega
theorem sg_rc (hC : CoR cn rk V BR) {q a : Nat} {c : Con} (hq : q < cn.length) (h : cdC cn rk c (nI (16 + a))) (ha : a < 5000) (hcn : cn.length ≤ 1000) : sgQ (2 * q + 1) a (cc (cnr cn rk q) c) := by
  rcases h with ⟨r, r1, r2, r3⟩ | ⟨lo, r1, r2, r3, r4⟩
  · have e := (nI_eq (by omega) (by omega)).mp r3
    obtain rfl : a = 2 * r + 1 := by omega
    rw [← r2]
    exact sg_rr hC hq r1
  · have e := (nI_eq (by omega) (by omega)).mp r4
    obtain rfl : a = 2 * lo := by omega
    unfold sgQ cnr
    rcases Nat.lt_or_ge q lo with z | z
    · have := r2 q z
      omega
    · have := r3 q z hq
      omega
theorem sg_neg {a b : Nat} {x y : Con} (h : sgQ a b (cc x y)) : sgQ b a (cc y x) := by
  unfold sgQ at h ⊢
  rw [cc_neg y x]
  omega
/-- the two sides of a comparison -/
theorem bC_term (hC : CoR cn rk V BR) (hcn : cn.length ≤ 1000) (h : CLf ps cn rk i l K P Z M T) (hk : LtOk md G ps cn l) (hA : ¬ isA l) : ∃ t0 t1 s0 s1, l.2.2.2.2 = [t0, t1] ∧ (bOf K P Z T i).2.2 = [s0, s1] ∧ T (6 * i) = nI (cdx s0) ∧ T (6 * i + 1) = nI (cdx s1) ∧ (∀ x, s0 = Sum.inl x ↔ t0.1 = Sum.inl x) ∧ (∀ x, s1 = Sum.inl x ↔ t1.1 = Sum.inl x) ∧ (∀ q, s0 = Sum.inr q → q < 5000) ∧ (∀ q, s1 = Sum.inr q → q < 5000) ∧ ∀ (u : Nat → Nat) (v : Nat → Con), (∀ x, occ l x → u x < cn.length ∧ v x = cnr cn rk (u x)) → sgQ (oc u s0) (oc u s1) (cc (tval v t0.1) (tval v t1.1)) := by
  have hlen2 : l.2.2.2.2.length = 2 := by
    rcases hk.1 with q | q
    · exact absurd q.1 hA
    · exact q.2.2
  obtain ⟨t0, t1, ht⟩ : ∃ t0 t1, l.2.2.2.2 = [t0, t1] := by
    match hl : l.2.2.2.2, hlen2 with
    | [a, b], _ => exact ⟨a, b, rfl⟩
  have hz : (Z i).toNatClampNeg = 2 := by
    rw [h.2.1, hlen2]
    exact nI_clamp (by omega)
  have hb : (bOf K P Z T i).2.2 = [dcd (T (6 * i)), dcd (T (6 * i + 1))] := by
    show (List.range (Z i).toNatClampNeg).map _ = _
    rw [hz]
    rfl
  have hcm := h.2.2.2.2 hA
  have hm0 : t0 ∈ l.2.2.2.2 := by rw [ht]; simp
  have hm1 : t1 ∈ l.2.2.2.2 := by rw [ht]; simp
  have hg0 : l.2.2.2.2[0]? = some t0 := by rw [ht]; rfl
  have hg1 : l.2.2.2.2[1]? = some t1 := by rw [ht]; rfl
  obtain ⟨x0, p0⟩ := t0
  obtain ⟨x1, p1⟩ := t1
  have vlt : ∀ x p, ((Sum.inl x, p) : Tm) ∈ l.2.2.2.2 → x < 12 := fun x p hm => ((hk.2.2 _ hm).2.1 x rfl).1
  have cdb : ∀ c y, cdC cn rk c y → ∃ a, a < 5000 ∧ y = nI (16 + a) := by
    rintro c y (⟨r, r1, r2, r3⟩ | ⟨lo, r1, r2, r3, r4⟩)
    · exact ⟨2 * r + 1, by omega, r3⟩
    · exact ⟨2 * lo, by omega, r4⟩
  cases x0 with
  | inl x =>
    have hocc : ∃ v, occ l v := ⟨x, _, hm0, rfl⟩
    have e0 : T (6 * i) = nI x := hcm.1 hocc 0 _ hg0
    have hx := vlt x p0 hm0
    cases x1 with
    | inl y =>
      have e1 : T (6 * i + 1) = nI y := hcm.1 hocc 1 _ hg1
      have hy := vlt y p1 hm1
      rw [e0, e1, dcd_v (by omega), dcd_v (by omega)] at hb
      refine ⟨_, _, _, _, ht, hb, e0, e1, fun z => ⟨fun e => congrArg Sum.inl (Sum.inl.inj e), fun e => congrArg Sum.inl (Sum.inl.inj e)⟩, fun z => ⟨fun e => congrArg Sum.inl (Sum.inl.inj e), fun e => congrArg Sum.inl (Sum.inl.inj e)⟩, fun q e => (by cases e), fun q e => (by cases e), fun u v huv => ?_⟩
      obtain ⟨a1, a2⟩ := huv x ⟨_, hm0, rfl⟩
      obtain ⟨b1, b2⟩ := huv y ⟨_, hm1, rfl⟩
      show sgQ (2 * u x + 1) (2 * u y + 1) (cc (v x) (v y))
      rw [a2, b2]
      exact sg_rr hC a1 b1
    | inr d =>
      have e1 : cdC cn rk d (T (6 * i + 1)) := hcm.1 hocc 1 _ hg1
      obtain ⟨a, a1, a2⟩ := cdb d _ e1
      rw [a2] at e1
      rw [e0, a2, dcd_v (by omega), dcd_c a1] at hb
      refine ⟨_, _, _, _, ht, hb, e0, a2, fun z => ⟨fun e => congrArg Sum.inl (Sum.inl.inj e), fun e => congrArg Sum.inl (Sum.inl.inj e)⟩, fun z => ⟨fun e => (by cases e), fun e => (by cases e)⟩, fun q e => (by cases e), fun q e => (by obtain rfl := Sum.inr.inj e; exact a1), fun u v huv => ?_⟩
      obtain ⟨b1, b2⟩ := huv x ⟨_, hm0, rfl⟩
      show sgQ (2 * u x + 1) a (cc (v x) d)
      rw [b2]
      exact sg_rc hC b1 e1 a1 hcn
  | inr c =>
    cases x1 with
    | inl y =>
      have hocc : ∃ v, occ l v := ⟨y, _, hm1, rfl⟩
      have e0 : cdC cn rk c (T (6 * i)) := hcm.1 hocc 0 _ hg0
      have e1 : T (6 * i + 1) = nI y := hcm.1 hocc 1 _ hg1
      have hy := vlt y p1 hm1
      obtain ⟨a, a1, a2⟩ := cdb c _ e0
      rw [a2] at e0
      rw [e1, a2, dcd_v (v := y) (by omega), dcd_c a1] at hb
      refine ⟨_, _, _, _, ht, hb, a2, e1, fun z => ⟨fun e => (by cases e), fun e => (by cases e)⟩, fun z => ⟨fun e => congrArg Sum.inl (Sum.inl.inj e), fun e => congrArg Sum.inl (Sum.inl.inj e)⟩, fun q e => (by obtain rfl := Sum.inr.inj e; exact a1), fun q e => (by cases e), fun u v huv => ?_⟩
      obtain ⟨b1, b2⟩ := huv y ⟨_, hm1, rfl⟩
      show sgQ a (2 * u y + 1) (cc c (v y))
      rw [b2]
      exact sg_neg (sg_rc hC b1 e0 a1 hcn)
    | inr d =>
      obtain ⟨a, b, a1, b1, e0, e1, s1, s2⟩ := hcm.2 c d p0 p1 ht
      rw [e0, e1, dcd_c a1, dcd_c b1] at hb
      refine ⟨_, _, _, _, ht, hb, e0, e1, fun z => ⟨fun e => (by cases e), fun e => (by cases e)⟩, fun z => ⟨fun e => (by cases e), fun e => (by cases e)⟩, fun q e => (by obtain rfl := Sum.inr.inj e; exact a1), fun q e => (by obtain rfl := Sum.inr.inj e; exact b1), fun u v huv => ⟨s1, s2⟩⟩
end CTr
