/-! pure: the model's dependencies -/
theorem lkd_2 {k : Int32} (h : kdOk k) : (2 : Int32) ≤ lkd k ↔ ¬ (k = 0 ∨ k = 1) := by
  rcases h with h | h | h
  · rw [h]; decide
  · rw [h]; decide
  · rcases kd_enum h with c | c | c | c | c | c <;> rw [c] <;> decide
theorem lkd_1 {k : Int32} (h : kdOk k) : lkd k = 1 ↔ k = 1 := by
  rcases h with h | h | h
  · rw [h]; decide
  · rw [h]; decide
  · rcases kd_enum h with c | c | c | c | c | c <;> rw [c] <;> decide
/-- a program as the model holds it -/
def MB (G : Nat → Int32) (ps : List Wd) (mc : List Con) (o set : Nat) (A : A7) (LC Cl : Nat → Int32) (cs : List (List Lt)) : Prop := AR ps mc o set A LC cs ∧ Cl set = nI cs.length ∧ cs.length ≤ 256 ∧ ps.Nodup ∧ ps.length ≤ 64 ∧ (∀ ls ∈ cs, ClOk 0 G ps mc ls)
theorem kd_of {md : Nat} {G : Nat → Int32} {ps : List Wd} {mc : List Con} {l : Lt} (h : LtOk md G ps mc l) : kdOk l.1 := by
  rcases h.1 with q | q
  · rcases q.1 with q | q
    · exact Or.inl q
    · exact Or.inr (Or.inl q)
  · exact Or.inr (Or.inr ⟨q.1, q.2.1⟩)
section Deps
variable {o set : Nat} {G : Nat → Int32} {ps : List Wd} {mc : List Con} {LK LP LT LQ NQ TP LA LC Cl : Nat → Int32} {cs : List (List Lt)}
theorem MB_lit {c j : Nat} {ls : List Lt} {l : Lt} (h : MB G ps mc o set (LK, LP, LT, LQ, NQ, TP, LA) LC Cl cs) (hc : cs[c]? = some ls) (hj : ls[j]? = some l) : (c < 256 ∧ j < ls.length ∧ ls.length ≤ 13 ∧ LC (257 * set + c) = nI ls.length) ∧ LK ((257 * set + c) * 13 + j) = lkd l.1 ∧ kdOk l.1 ∧ ((l.1 = 0 ∨ l.1 = 1) → ∃ i : Nat, i < 64 ∧ ps[i]? = some l.2.1 ∧ LP ((257 * set + c) * 13 + j) = nI i) ∧ LR 0 ps mc o ((257 * set + c) * 13 + j) (13 * c + j) (LK, LP, LT, LQ, NQ, TP, LA) l := by
  obtain ⟨m1, m2, m3, m4, m5, m6⟩ := h
  have hcl := (List.getElem?_eq_some_iff.mp hc).1
  have hjl := (List.getElem?_eq_some_iff.mp hj).1
  obtain ⟨a1, a2, a3, a4⟩ := m1 c ls hc
  obtain ⟨b1, b2⟩ := a4 j l hj
  rw [show sf 0 = 0 from rfl, Nat.add_zero] at b2
  have hk := (m6 ls (List.mem_of_getElem? hc)).2.2.1 l (List.mem_of_getElem? hj)
  refine ⟨⟨by omega, hjl, a2, a3⟩, b2.1, kd_of hk, fun z => ?_, b2⟩
  rcases b2.2.1 z with ⟨i, h1, h2⟩ | ⟨w, -⟩
  · have := (List.getElem?_eq_some_iff.mp h1).1
    exact ⟨i, by omega, h1, h2⟩
  · exact absurd rfl w
/-- edges: from a head to a literal's predicate; 1 for not -/
def EdC (ps : List Wd) (cs : List (List Lt)) (a b k : Nat) : Prop := ∃ (c j : Nat) (ls : List Lt) (h l : Lt), cs[c]? = some ls ∧ ls[0]? = some h ∧ ps[a]? = some h.2.1 ∧ 1 ≤ j ∧ ls[j]? = some l ∧ ps[b]? = some l.2.1 ∧ ((l.1 = 0 ∧ k = 0) ∨ (l.1 = 1 ∧ k = 1))
/-- those of the clauses before c, and before the literal j in c -/
def EdP (ps : List Wd) (cs : List (List Lt)) (C J : Nat) (a b : Nat) : Prop := ∃ (c j : Nat) (ls : List Lt) (h l : Lt), cs[c]? = some ls ∧ ls[0]? = some h ∧ ps[a]? = some h.2.1 ∧ 1 ≤ j ∧ ls[j]? = some l ∧ ps[b]? = some l.2.1 ∧ (l.1 = 0 ∨ l.1 = 1) ∧ (c < C ∨ (c = C ∧ j < J))
def DpR (Q : Nat → Nat → Prop) (D : Nat → Int32) : Prop := ∀ a c, a < 64 → c < 64 → (D (64 * a + c) = 1 ∧ Q a c) ∨ (D (64 * a + c) = 0 ∧ ¬ Q a c)
theorem DpR_iff {Q Q2 : Nat → Nat → Prop} {D : Nat → Int32} (h : ∀ a c, Q a c ↔ Q2 a c) (q : DpR Q D) : DpR Q2 D := by
  intro a c ha hc
  rcases q a c ha hc with ⟨x, y⟩ | ⟨x, y⟩
  · exact Or.inl ⟨x, (h a c).mp y⟩
  · exact Or.inr ⟨x, fun w => y ((h a c).mpr w)⟩
theorem dep_in {post : (Int32 × (Nat → Int32)) → Prop} {J : (Int32 × (Nat → Int32)) → Prop} {c : Nat} {ls : List Lt} (hset : set < 2) (hM : MB G ps mc o set (LK, LP, LT, LQ, NQ, TP, LA) LC Cl cs) (hc : cs[c]? = some ls) (hJ : ∀ D, DpR (EdP ps cs (c + 1) 1) D → J (nI (c + 1), D)) : ∀ m k : Nat, k + m = ls.length → 1 ≤ k → ∀ D, DpR (EdP ps cs c k) D → lw_met_Mo_dependencies_45 post J (nI set) (nI c) LC LK LP (m + 1) (nI k, D) := by
  have hcl := (List.getElem?_eq_some_iff.mp hc).1
  have hM0 := hM
  obtain ⟨m1, m2, m3, m4, m5, m6⟩ := hM0
  obtain ⟨a1, a2, a3, a4⟩ := m1 c ls hc
  intro m
  induction m with
  | zero =>
    intro k hk hk1 D hD y16 h16 y17 h17
    rw [show (257 : Int32) = nI 257 from rfl, pk_mul] at h16
    rw [h16, nI_add] at h17
    subst h17
    refine ⟨vp_in_nI (by omega) (by omega), fun y19 h19 => ?_⟩
    rw [nI_clamp (by omega), a3] at h19
    subst h19
    refine pk_le ls.length k (fun _ => ?_) (fun q => absurd q (by omega))
    intro y34 h34
    rw [nI_1] at h34
    subst h34
    refine hJ D (DpR_iff (fun a b => ?_) hD)
    constructor
    · rintro ⟨c2, j, ls2, h, l, e1, e2, e3, e4, e5, e6, e7, e8⟩
      exact ⟨c2, j, ls2, h, l, e1, e2, e3, e4, e5, e6, e7, by omega⟩
    · rintro ⟨c2, j, ls2, h, l, e1, e2, e3, e4, e5, e6, e7, e8⟩
      refine ⟨c2, j, ls2, h, l, e1, e2, e3, e4, e5, e6, e7, ?_⟩
      by_cases z : c2 = c
      · subst z
        rw [hc] at e1
        obtain rfl := Option.some.inj e1
        have := (List.getElem?_eq_some_iff.mp e5).1
        omega
      · omega
  | succ m ih =>
    intro k hk hk1 D hD y16 h16 y17 h17
    rw [show (257 : Int32) = nI 257 from rfl, pk_mul] at h16
    rw [h16, nI_add] at h17
    subst h17
    refine ⟨vp_in_nI (by omega) (by omega), fun y19 h19 => ?_⟩
    rw [nI_clamp (by omega), a3] at h19
    subst h19
    refine pk_le ls.length k (fun q => absurd q (by omega)) (fun _ => ?_)
    have hkl : k < ls.length := by omega
    have hke := List.getElem?_eq_getElem hkl
    obtain ⟨b1, b2, b3, b4, -⟩ := MB_lit hM hc hke
    have h0l : 0 < ls.length := by omega
    have h0e := List.getElem?_eq_getElem h0l
    obtain ⟨-, -, -, d4, -⟩ := MB_lit hM hc h0e
    have hh : (ls[0]).1 = 0 := (m6 ls (List.mem_of_getElem? hc)).2.2.2 rfl _ h0e
    obtain ⟨ih0, i1, i2, i3⟩ := d4 (Or.inl hh)
    generalize hle : ls[k] = l at hke b2 b3 b4
    refine sp_Mo_literal ?_
    refine ⟨vp_in_nI (by omega) (by omega), fun y23 h23 => ?_⟩
    rw [nI_clamp (by omega), b2] at h23
    refine ⟨fun e => ?_, fun e => ?_⟩
    · rw [h23] at e
      have np := (lkd_2 b3).mp e
      rw [nI_1]
      refine ih (k + 1) (by omega) (by omega) D (DpR_iff (fun a b => ?_) hD)
      constructor
      · rintro ⟨c2, j, ls2, h, l2, e1, e2, e3, e4, e5, e6, e7, e8⟩
        exact ⟨c2, j, ls2, h, l2, e1, e2, e3, e4, e5, e6, e7, by omega⟩
      · rintro ⟨c2, j, ls2, h, l2, e1, e2, e3, e4, e5, e6, e7, e8⟩
        refine ⟨c2, j, ls2, h, l2, e1, e2, e3, e4, e5, e6, e7, ?_⟩
        by_cases z : c2 = c ∧ j = k
        · exfalso
          obtain ⟨rfl, rfl⟩ := z
          rw [hc] at e1
          obtain rfl := Option.some.inj e1
          rw [hke] at e5
          obtain rfl := Option.some.inj e5
          exact np e7
        · omega
    · have hp : l.1 = 0 ∨ l.1 = 1 := Classical.byContradiction (fun w => e (by rw [h23]; exact (lkd_2 b3).mpr w))
      obtain ⟨il, j1, j2, j3⟩ := b4 hp
      refine sp_Mo_literal (k := 0) ?_
      refine ⟨vp_in_nI (by omega) (by omega), fun y26 h26 y27 h27 => ?_⟩
      rw [nI_clamp (by omega), i3] at h26
      rw [h26, show (64 : Int32) = nI 64 from rfl, pk_mul] at h27
      refine sp_Mo_literal ?_
      refine ⟨vp_in_nI (by omega) (by omega), fun y30 h30 y31 h31 => ?_⟩
      rw [nI_clamp (by omega), j3] at h30
      rw [h27, h30, nI_add] at h31
      subst h31
      refine ⟨vp_in_nI (by omega) (by omega), fun g33 h33 => ?_⟩
      rw [nI_clamp (by omega), show vp_nar .boolean (1 : Int32) = 1 from nar_b true] at h33
      rw [nI_1]
      refine ih (k + 1) (by omega) (by omega) g33 ?_
      intro a b ha hb
      rw [h33]
      by_cases z : a = ih0 ∧ b = il
      · obtain ⟨rfl, rfl⟩ := z
        rw [upd_same]
        exact Or.inl ⟨rfl, c, k, ls, _, l, hc, h0e, i2, hk1, hke, j2, hp, by omega⟩
      · rw [upd_ne (by omega)]
        have hiff : EdP ps cs c k a b ↔ EdP ps cs c (k + 1) a b := by
          constructor
          · rintro ⟨c2, j, ls2, h, l2, e1, e2, e3, e4, e5, e6, e7, e8⟩
            exact ⟨c2, j, ls2, h, l2, e1, e2, e3, e4, e5, e6, e7, by omega⟩
          · rintro ⟨c2, j, ls2, h, l2, e1, e2, e3, e4, e5, e6, e7, e8⟩
            refine ⟨c2, j, ls2, h, l2, e1, e2, e3, e4, e5, e6, e7, ?_⟩
            by_cases z2 : c2 = c ∧ j = k
            · exfalso
              obtain ⟨rfl, rfl⟩ := z2
              rw [hc] at e1
              obtain rfl := Option.some.inj e1
              rw [hke] at e5
              obtain rfl := Option.some.inj e5
              rw [h0e] at e2
              obtain rfl := Option.some.inj e2
              exact z ⟨nodup_inj m4 e3 i2, nodup_inj m4 e6 j2⟩
            · omega
        rcases hD a b ha hb with ⟨x, y⟩ | ⟨x, y⟩
        · exact Or.inl ⟨x, hiff.mp y⟩
        · exact Or.inr ⟨x, fun w => y (hiff.mpr w)⟩
/-- the array while the way through b is looked for -/
def WI (R : Nat → Nat → Prop) (b a c : Nat) (D : Nat → Int32) : Prop := ∀ a2 c2, a2 < 64 → c2 < 64 → (D (64 * a2 + c2) = 0 ∨ D (64 * a2 + c2) = 1) ∧ (Pt R b a2 c2 → D (64 * a2 + c2) = 1) ∧ (D (64 * a2 + c2) = 1 → Pt R (b + 1) a2 c2) ∧ ((a2 < a ∨ (a2 = a ∧ c2 < c)) → Pt R (b + 1) a2 c2 → D (64 * a2 + c2) = 1)
theorem war_c {post : (Int32 × (Nat → Int32)) → Prop} {J : (Int32 × (Nat → Int32)) → Prop} {R : Nat → Nat → Prop} {a b : Nat} (ha : a < 64) (hb : b < 64) (hJ : ∀ D, WI R b (a + 1) 0 D → J (nI (a + 1), D)) : ∀ m c : Nat, c + m = 64 → ∀ D, WI R b a c D → lw_met_Mo_dependencies_148 post J (nI a) (nI b) (m + 1) (nI c, D) := by
  intro m
  induction m with
  | zero =>
    intro c hc D hD
    refine pk_le 64 c (fun _ => ?_) (fun q => absurd q (by omega))
    rw [nI_1]
    refine hJ D (fun a2 c2 h2 h3 => ?_)
    obtain ⟨w1, w2, w3, w4⟩ := hD a2 c2 h2 h3
    exact ⟨w1, w2, w3, fun q => w4 (by omega)⟩
  | succ m ih =>
    intro c hc D hD
    refine pk_le 64 c (fun q => absurd q (by omega)) (fun _ => ?_)
    intro y44 h44 y45 h45 y46 h46 y47 h47
    rw [show (64 : Int32) = nI 64 from rfl, pk_mul] at h44 h46
    rw [h44, nI_add] at h45
    rw [h46, nI_add] at h47
    subst h45 h47
    have eab : (64 : Int32) * nI a + nI b = nI (64 * a + b) := by rw [show (64 : Int32) = nI 64 from rfl, pk_mul, nI_add]
    have ebc : (64 : Int32) * nI b + nI c = nI (64 * b + c) := by rw [show (64 : Int32) = nI 64 from rfl, pk_mul, nI_add]
    rw [eab, ebc]
    have i1 : vp_in (nI (64 * a + c)) 4096 := vp_in_nI (by omega) (by omega)
    have i2 : vp_in (nI (64 * a + b)) 4096 := vp_in_nI (by omega) (by omega)
    have i3 : vp_in (nI (64 * b + c)) 4096 := vp_in_nI (by omega) (by omega)
    have k1 : (nI (64 * a + c)).toNatClampNeg = 64 * a + c := nI_clamp (by omega)
    have k2 : (nI (64 * a + b)).toNatClampNeg = 64 * a + b := nI_clamp (by omega)
    have k3 : (nI (64 * b + c)).toNatClampNeg = 64 * b + c := nI_clamp (by omega)
    rw [k1, k2, k3]
    refine ⟨i1, fun y49 h49 => ⟨⟨fun _ => ⟨i2, fun _ => trivial, fun _ => ⟨i3, trivial⟩⟩, fun _ => trivial⟩, fun y50 h50 => ⟨i1, fun g54 h54 => ?_⟩⟩⟩
    rw [nI_1]
    obtain ⟨p1, p2, p3, p4⟩ := hD a c ha (by omega)
    obtain ⟨q1, q2, q3, q4⟩ := hD a b ha hb
    obtain ⟨r1, r2, r3, r4⟩ := hD b c hb (by omega)
    have z01 : ¬ (0 : Int32) = 1 := by decide
    have z10 : ¬ (1 : Int32) = 0 := by decide
    have hv : (y50 = 1 ∧ (D (64 * a + c) = 1 ∨ (D (64 * a + b) = 1 ∧ D (64 * b + c) = 1))) ∨ (y50 = 0 ∧ ¬ D (64 * a + c) = 1 ∧ ¬ (D (64 * a + b) = 1 ∧ D (64 * b + c) = 1)) := by
      rw [h50, h49]
      rcases p1 with p1 | p1
      · rcases q1 with q1 | q1
        · rw [p1, q1, if_pos rfl, if_pos rfl]
          exact Or.inr ⟨rfl, z01, fun w => z01 w.1⟩
        · rcases r1 with r1 | r1
          · rw [p1, q1, r1, if_pos rfl, if_neg z10, if_pos rfl]
            exact Or.inr ⟨rfl, z01, fun w => z01 w.2⟩
          · rw [p1, q1, r1, if_pos rfl, if_neg z10, if_neg z10]
            exact Or.inl ⟨rfl, Or.inr ⟨rfl, rfl⟩⟩
      · rw [p1, if_neg z10]
        exact Or.inl ⟨rfl, Or.inl rfl⟩
    have hn : vp_nar .boolean y50 = y50 := by
      rcases hv with ⟨e, -⟩ | ⟨e, -⟩
      · rw [e]
        exact nar_b true
      · rw [e]
        exact nar_b false
    rw [hn] at h54
    refine ih (c + 1) (by omega) g54 (fun a2 c2 h2 h3 => ?_)
    rw [h54]
    by_cases z : a2 = a ∧ c2 = c
    · obtain ⟨rfl, rfl⟩ := z
      rw [upd_same]
      refine ⟨?_, fun w => ?_, fun w => ?_, fun _ w => ?_⟩
      · rcases hv with ⟨e, -⟩ | ⟨e, -⟩
        · exact Or.inr e
        · exact Or.inl e
      · rcases hv with ⟨e, -⟩ | ⟨-, e, -⟩
        · exact e
        · exact absurd (p2 w) e
      · rcases hv with ⟨-, e | ⟨e1, e2⟩⟩ | ⟨e, -⟩
        · exact p3 e
        · exact Pt_app (q3 e1) (by omega) (r3 e2)
        · rw [e] at w
          exact absurd w z01
      · rcases hv with ⟨e, -⟩ | ⟨-, e1, e2⟩
        · exact e
        · exfalso
          rcases Pt_step.mp w with w | ⟨w1, w2⟩
          · exact e1 (p2 w)
          · exact e2 ⟨q2 w1, r2 w2⟩
    · rw [upd_ne (by omega)]
      obtain ⟨w1, w2, w3, w4⟩ := hD a2 c2 h2 h3
      exact ⟨w1, w2, w3, fun q => w4 (by omega)⟩
theorem war_a {post : (Int32 × (Nat → Int32)) → Prop} {J : (Int32 × (Nat → Int32)) → Prop} {R : Nat → Nat → Prop} {b : Nat} (hb : b < 64) (hJ : ∀ D, DpR (Pt R (b + 1)) D → J (nI (b + 1), D)) : ∀ m a : Nat, a + m = 64 → ∀ D, WI R b a 0 D → lw_met_Mo_dependencies_140 post J (nI b) (m + 1) (nI a, D) := by
  intro m
  induction m with
  | zero =>
    intro a ha D hD
    refine pk_le 64 a (fun _ => ?_) (fun q => absurd q (by omega))
    rw [nI_1]
    refine hJ D (fun a2 c2 h2 h3 => ?_)
    obtain ⟨w1, w2, w3, w4⟩ := hD a2 c2 h2 h3
    rcases w1 with w1 | w1
    · refine Or.inr ⟨w1, fun q => ?_⟩
      have := w4 (by omega) q
      rw [w1] at this
      exact absurd this (by decide)
    · exact Or.inl ⟨w1, w3 w1⟩
  | succ m ih =>
    intro a ha D hD
    refine pk_le 64 a (fun q => absurd q (by omega)) (fun _ => ?_)
    exact ⟨_, war_c (by omega) hb (fun D2 hD2 => ih (a + 1) (by omega) D2 hD2) 64 0 (by omega) D hD⟩
theorem war_b {post : (Int32 × (Nat → Int32)) → Prop} {R : Nat → Nat → Prop} {v : Int32} (h : ∀ D, DpR (Pt R 64) D → post (v, D)) : ∀ m b : Nat, b + m = 64 → ∀ D, DpR (Pt R b) D → lw_met_Mo_dependencies_132 post v (m + 1) (nI b, D) := by
  intro m
  induction m with
  | zero =>
    intro b hb D hD
    refine pk_le 64 b (fun _ => ?_) (fun q => absurd q (by omega))
    obtain rfl : b = 64 := by omega
    exact h D hD
  | succ m ih =>
    intro b hb D hD
    refine pk_le 64 b (fun q => absurd q (by omega)) (fun _ => ?_)
    refine ⟨_, war_a (R := R) (by omega) (fun D2 hD2 => ih (b + 1) (by omega) D2 hD2) 64 0 (by omega) D (fun a2 c2 h2 h3 => ?_)⟩
    rcases hD a2 c2 h2 h3 with ⟨x, y⟩ | ⟨x, y⟩
    · exact ⟨Or.inr x, fun _ => x, fun _ => Pt_mono (by omega) y, fun q => absurd q (by omega)⟩
    · exact ⟨Or.inl x, fun w => absurd w y, fun w => by rw [x] at w; exact absurd w (by decide), fun q => absurd q (by omega)⟩
theorem EdP_all {a b : Nat} : EdP ps cs cs.length 1 a b ↔ Eany (EdC ps cs) a b := by
  constructor
  · rintro ⟨c2, j, ls2, h, l, e1, e2, e3, e4, e5, e6, e7, e8⟩
    rcases e7 with e7 | e7
    · exact ⟨0, c2, j, ls2, h, l, e1, e2, e3, e4, e5, e6, Or.inl ⟨e7, rfl⟩⟩
    · exact ⟨1, c2, j, ls2, h, l, e1, e2, e3, e4, e5, e6, Or.inr ⟨e7, rfl⟩⟩
  · rintro ⟨k, c2, j, ls2, h, l, e1, e2, e3, e4, e5, e6, e7⟩
    have := (List.getElem?_eq_some_iff.mp e1).1
    exact ⟨c2, j, ls2, h, l, e1, e2, e3, e4, e5, e6, by rcases e7 with e7 | e7 <;> simp [e7.1], by omega⟩
theorem dep_out {post : (Int32 × (Nat → Int32)) → Prop} (hset : set < 2) (hM : MB G ps mc o set (LK, LP, LT, LQ, NQ, TP, LA) LC Cl cs) (h : ∀ D, DpR (Pt (Eany (EdC ps cs)) 64) D → post (nI cs.length, D)) : ∀ m c : Nat, c + m = cs.length → ∀ D, DpR (EdP ps cs c 1) D → lw_met_Mo_dependencies_27 post (nI set) Cl LC LK LP (m + 1) (nI c, D) := by
  have hM0 := hM
  obtain ⟨m1, m2, m3, m4, m5, m6⟩ := hM0
  intro m
  induction m with
  | zero =>
    intro c hc D hD
    refine ⟨vp_in_nI hset (by omega), fun y11 h11 => ?_⟩
    rw [nI_clamp (by omega), m2] at h11
    subst h11
    refine pk_le cs.length c (fun _ => ?_) (fun q => absurd q (by omega))
    obtain rfl : c = cs.length := by omega
    refine ⟨_, war_b (R := Eany (EdC ps cs)) h 64 0 (by omega) D (DpR_iff (fun a b => ?_) hD)⟩
    rw [Pt_zero]
    exact EdP_all
  | succ m ih =>
    intro c hc D hD
    refine ⟨vp_in_nI hset (by omega), fun y11 h11 => ?_⟩
    rw [nI_clamp (by omega), m2] at h11
    subst h11
    refine pk_le cs.length c (fun q => absurd q (by omega)) (fun _ => ?_)
    have hcl : c < cs.length := by omega
    have hce := List.getElem?_eq_getElem hcl
    have h1 := (m1 c _ hce).1
    exact ⟨_, dep_in hset hM hce (fun D2 hD2 => ih (c + 1) (by omega) D2 hD2) ((cs[c]).length - 1) 1 (by omega) (by omega) D hD⟩
theorem dep_0 {post : (Int32 × (Nat → Int32)) → Prop} (hset : set < 2) (hM : MB G ps mc o set (LK, LP, LT, LQ, NQ, TP, LA) LC Cl cs) (h : ∀ D, DpR (Pt (Eany (EdC ps cs)) 64) D → post (nI cs.length, D)) : ∀ m k : Nat, k + m = 4096 → ∀ D : Nat → Int32, (∀ j, j < k → D j = 0) → lw_met_Mo_dependencies_2 post (nI set) Cl LC LK LP (m + 1) (nI k, D) := by
  intro m
  induction m with
  | zero =>
    intro k hk D hD
    refine pk_le 4096 k (fun _ => ?_) (fun q => absurd q (by omega))
    refine ⟨_, dep_out hset hM h cs.length 0 (by omega) D (fun a c ha hc => ?_)⟩
    refine Or.inr ⟨hD _ (by omega), ?_⟩
    rintro ⟨c2, j, ls2, h, l, e1, e2, e3, e4, e5, e6, e7, e8⟩
    omega
  | succ m ih =>
    intro k hk D hD
    refine pk_le 4096 k (fun q => absurd q (by omega)) (fun _ => ?_)
    refine ⟨vp_in_nI (by omega) (by omega), fun g6 h6 => ?_⟩
    rw [nI_clamp (by omega), show vp_nar .boolean (0 : Int32) = 0 from nar_b false] at h6
    rw [nI_1]
    refine ih (k + 1) (by omega) g6 (fun j hj => ?_)
    rw [h6]
    by_cases z : j = k
    · rw [z, upd_same]
    · rw [upd_ne z]
      exact hD j (by omega)
theorem sp_Mo_dependencies {post : (Int32 × (Nat → Int32)) → Prop} {D0 : Nat → Int32} (hset : set < 2) (hM : MB G ps mc o set (LK, LP, LT, LQ, NQ, TP, LA) LC Cl cs) (h : ∀ D, DpR (Pt (Eany (EdC ps cs)) 64) D → post (nI cs.length, D)) : wp_met_Mo_dependencies post (nI set) Cl LC LK LP D0 :=
  ⟨_, dep_0 hset hM h 4096 0 (by omega) D0 (fun j hj => absurd hj (by omega))⟩
/-- a not whose predicate depends on its clause's head -/
def Flg (ps : List Wd) (cs : List (List Lt)) (c j : Nat) : Prop := ∃ (ls : List Lt) (h l : Lt) (a b : Nat), cs[c]? = some ls ∧ ls[0]? = some h ∧ ps[a]? = some h.2.1 ∧ 1 ≤ j ∧ ls[j]? = some l ∧ ps[b]? = some l.2.1 ∧ l.1 = 1 ∧ Pt (Eany (EdC ps cs)) 64 b a
/-- the place of the first one's not -/
def Cyc (ps : List Wd) (cs : List (List Lt)) (p : Nat) : Prop := ∃ (c j : Nat) (ls : List Lt) (l : Lt), Flg ps cs c j ∧ (∀ c2 j2, (c2 < c ∨ (c2 = c ∧ j2 < j)) → ¬ Flg ps cs c2 j2) ∧ cs[c]? = some ls ∧ ls[j]? = some l ∧ l.2.2.2.1 = p
theorem str_in {post : Int32 → (Int32 × Int32 × Int32 × (Nat → Int32)) → Prop} {J : Int32 → Prop} {c : Nat} {ls : List Lt} {D : Nat → Int32} (hset : set < 2) (hM : MB G ps mc o set (LK, LP, LT, LQ, NQ, TP, LA) LC Cl cs) (hc : cs[c]? = some ls) (hD : DpR (Pt (Eany (EdC ps cs)) 64) D) (hJ : (∀ c2 j2, c2 < c + 1 → ¬ Flg ps cs c2 j2) → J (nI (c + 1))) (h0 : ∀ p, Cyc ps cs p → p ≤ 65536 → post 0 (12, nI (o + p) - nI o, nI c, D)) : ∀ m k : Nat, k + m = ls.length → 1 ≤ k → (∀ c2 j2, (c2 < c ∨ (c2 = c ∧ j2 < k)) → ¬ Flg ps cs c2 j2) → lw_met_Mo_isStrata_27 post J (nI set) (nI c) LC LK LP D NQ (nI o) (m + 1) (nI k) := by
  have hcl := (List.getElem?_eq_some_iff.mp hc).1
  have hM0 := hM
  obtain ⟨m1, m2, m3, m4, m5, m6⟩ := hM0
  obtain ⟨a1, a2, a3, a4⟩ := m1 c ls hc
  intro m
  induction m with
  | zero =>
    intro k hk hk1 hno y10 h10 y11 h11
    rw [show (257 : Int32) = nI 257 from rfl, pk_mul] at h10
    rw [h10, nI_add] at h11
    subst h11
    refine ⟨vp_in_nI (by omega) (by omega), fun y13 h13 => ?_⟩
    rw [nI_clamp (by omega), a3] at h13
    subst h13
    refine pk_le ls.length k (fun _ => ?_) (fun q => absurd q (by omega))
    intro y36 h36
    rw [nI_1] at h36
    subst h36
    refine hJ (fun c2 j2 hc2 hf => hno c2 j2 ?_ hf)
    obtain ⟨ls2, h, l, a, b, e1, e2, e3, e4, e5, e6⟩ := hf
    by_cases z : c2 = c
    · subst z
      rw [hc] at e1
      obtain rfl := Option.some.inj e1
      have := (List.getElem?_eq_some_iff.mp e5).1
      omega
    · omega
  | succ m ih =>
    intro k hk hk1 hno y10 h10 y11 h11
    rw [show (257 : Int32) = nI 257 from rfl, pk_mul] at h10
    rw [h10, nI_add] at h11
    subst h11
    refine ⟨vp_in_nI (by omega) (by omega), fun y13 h13 => ?_⟩
    rw [nI_clamp (by omega), a3] at h13
    subst h13
    refine pk_le ls.length k (fun q => absurd q (by omega)) (fun _ => ?_)
    have hkl : k < ls.length := by omega
    have hke := List.getElem?_eq_getElem hkl
    obtain ⟨b1, b2, b3, b4, b5⟩ := MB_lit hM hc hke
    have h0l : 0 < ls.length := by omega
    have h0e := List.getElem?_eq_getElem h0l
    obtain ⟨-, -, -, d4, -⟩ := MB_lit hM hc h0e
    have hh : (ls[0]).1 = 0 := (m6 ls (List.mem_of_getElem? hc)).2.2.2 rfl _ h0e
    obtain ⟨ih0, i1, i2, i3⟩ := d4 (Or.inl hh)
    have hok := (m6 ls (List.mem_of_getElem? hc)).2.2.1 _ (List.getElem_mem hkl)
    generalize hle : ls[k] = l at hke b2 b3 b4 b5 hok
    have nxt : ¬ Flg ps cs c k → lw_met_Mo_isStrata_27 post J (nI set) (nI c) LC LK LP D NQ (nI o) (m + 1) (nI k + 1) := by
      intro hf
      rw [nI_1]
      refine ih (k + 1) (by omega) (by omega) (fun c2 j2 hc2 => ?_)
      by_cases z : c2 = c ∧ j2 = k
      · rw [z.1, z.2]
        exact hf
      · exact hno c2 j2 (by omega)
    refine sp_Mo_literal ?_
    refine ⟨vp_in_nI (by omega) (by omega), fun y17 h17 => ?_⟩
    rw [nI_clamp (by omega), b2] at h17
    refine ⟨fun e => ?_, fun e => ?_⟩
    · rw [h17] at e
      have hp := (lkd_1 b3).mp e
      obtain ⟨il, j1, j2, j3⟩ := b4 (Or.inr hp)
      refine sp_Mo_literal ?_
      refine ⟨vp_in_nI (by omega) (by omega), fun y20 h20 y21 h21 => ?_⟩
      rw [nI_clamp (by omega), j3] at h20
      rw [h20, show (64 : Int32) = nI 64 from rfl, pk_mul] at h21
      refine sp_Mo_literal (k := 0) ?_
      refine ⟨vp_in_nI (by omega) (by omega), fun y24 h24 y25 h25 => ?_⟩
      rw [nI_clamp (by omega), i3] at h24
      rw [h21, h24, nI_add] at h25
      subst h25
      refine ⟨vp_in_nI (by omega) (by omega), fun y27 h27 => ?_⟩
      rw [nI_clamp (by omega)] at h27
      rcases hD il ih0 j1 i1 with ⟨x, y⟩ | ⟨x, y⟩
      · rw [x] at h27
        refine ⟨fun z => absurd (h27.symm.trans z) (by decide), fun _ => ?_⟩
        intro y28 h28 y29 h29
        rw [show (13 : Int32) = nI 13 from rfl, pk_mul] at h28
        rw [h28, nI_add] at h29
        subst h29
        refine ⟨vp_in_nI (by omega) (by omega), fun y31 h31 => ?_⟩
        have r5 : NQ (13 * c + k) = nI (o + l.2.2.2.1) := b5.2.2.2.2.1 hp
        rw [nI_clamp (by omega), r5] at h31
        subst h31
        refine sp_Mo_flaw ?_
        refine ⟨Or.inl rfl, h0 l.2.2.2.1 ⟨c, k, ls, l, ⟨ls, _, l, ih0, il, hc, h0e, i2, hk1, hke, j2, hp, y⟩, hno, hc, hke, rfl⟩ ?_⟩
        rcases hok.1 with w | w
        · exact w.2.2.2.2
        · rw [hp] at w
          exact absurd w.1 (by decide)
      · rw [x] at h27
        refine ⟨fun _ => nxt ?_, fun z => absurd h27 z⟩
        rintro ⟨ls2, h, l2, a, b, e1, e2, e3, e4, e5, e6, e7, e8⟩
        rw [hc] at e1
        obtain rfl := Option.some.inj e1
        rw [hke] at e5
        obtain rfl := Option.some.inj e5
        rw [h0e] at e2
        obtain rfl := Option.some.inj e2
        obtain rfl := nodup_inj m4 e3 i2
        obtain rfl := nodup_inj m4 e6 j2
        exact y e8
    · refine nxt ?_
      rintro ⟨ls2, h, l2, a, b, e1, e2, e3, e4, e5, e6, e7, e8⟩
      rw [hc] at e1
      obtain rfl := Option.some.inj e1
      rw [hke] at e5
      obtain rfl := Option.some.inj e5
      exact e (by rw [h17]; exact (lkd_1 b3).mpr e7)
theorem str_out {post : Int32 → (Int32 × Int32 × Int32 × (Nat → Int32)) → Prop} {fc fp : Int32} {D : Nat → Int32} (hset : set < 2) (hM : MB G ps mc o set (LK, LP, LT, LQ, NQ, TP, LA) LC Cl cs) (hD : DpR (Pt (Eany (EdC ps cs)) 64) D) (h1 : (∀ c j, ¬ Flg ps cs c j) → post 1 (fc, fp, nI cs.length, D)) (h0 : ∀ c p, Cyc ps cs p → p ≤ 65536 → post 0 (12, nI (o + p) - nI o, nI c, D)) : ∀ m c : Nat, c + m = cs.length → (∀ c2 j2, c2 < c → ¬ Flg ps cs c2 j2) → lw_met_Mo_isStrata_9 post (nI set) Cl fc fp D LC LK LP NQ (nI o) (m + 1) (nI c) := by
  have hM0 := hM
  obtain ⟨m1, m2, m3, m4, m5, m6⟩ := hM0
  intro m
  induction m with
  | zero =>
    intro c hc hno
    refine ⟨vp_in_nI hset (by omega), fun y7 h7 => ?_⟩
    rw [nI_clamp (by omega), m2] at h7
    subst h7
    refine pk_le cs.length c (fun _ => ?_) (fun q => absurd q (by omega))
    obtain rfl : c = cs.length := by omega
    refine h1 (fun c2 j2 hf => hno c2 j2 ?_ hf)
    obtain ⟨ls2, h, l, a, b, e1, -⟩ := hf
    exact (List.getElem?_eq_some_iff.mp e1).1
  | succ m ih =>
    intro c hc hno
    refine ⟨vp_in_nI hset (by omega), fun y7 h7 => ?_⟩
    rw [nI_clamp (by omega), m2] at h7
    subst h7
    refine pk_le cs.length c (fun q => absurd q (by omega)) (fun _ => ?_)
    have hcl : c < cs.length := by omega
    have hce := List.getElem?_eq_getElem hcl
    have hl1 := (m1 c _ hce).1
    refine ⟨_, str_in hset hM hce hD (fun hn => ih (c + 1) (by omega) hn) (fun p hp hp2 => h0 c p hp hp2) ((cs[c]).length - 1) 1 (by omega) (by omega) (fun c2 j2 hc2 hf => ?_)⟩
    by_cases z : c2 < c
    · exact hno c2 j2 z hf
    · obtain ⟨ls2, h, l, a, b, e1, e2, e3, e4, -⟩ := hf
      omega
theorem sp_Mo_isStrata {post : Int32 → (Int32 × Int32 × Int32 × (Nat → Int32)) → Prop} {fc fp : Int32} {D0 : Nat → Int32} (ho : o ≤ 196608) (hset : set < 2) (hM : MB G ps mc o set (LK, LP, LT, LQ, NQ, TP, LA) LC Cl cs) (h1 : ∀ D, (∀ c j, ¬ Flg ps cs c j) → post 1 (fc, fp, nI cs.length, D)) (h0 : ∀ c p D, Cyc ps cs p → post 0 (12, nI p, nI c, D)) : wp_met_Mo_isStrata post fc fp (nI set) (nI o) Cl LC LK LP NQ D0 := by
  refine sp_Mo_dependencies hset hM (fun D hD => ?_)
  refine ⟨_, str_out hset hM hD (h1 D) (fun c p hp hp2 => ?_) cs.length 0 (by omega) (fun c2 j2 hc2 => absurd hc2 (by omega))⟩
  rw [pk_sub (by omega), show o + p - o = p by omega]
  exact h0 c p D hp
end Deps
