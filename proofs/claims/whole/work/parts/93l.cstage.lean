/-! pure: what a stage of a stratum brings -/
theorem Vn_pre {E0 nw : List (Nat × List Nat)} {n : Nat} (hn : n ≤ E0.length) : VisN (E0 ++ nw) n = VisN E0 n := by
  funext x
  apply propext
  constructor
  · rintro ⟨f, f1, f2⟩
    rw [List.getElem?_append_left (by omega)] at f2
    exact ⟨f, f1, f2⟩
  · rintro ⟨f, f1, f2⟩
    refine ⟨f, f1, ?_⟩
    rw [List.getElem?_append_left (by omega)]
    exact f2
theorem Vr_pre {E0 nw : List (Nat × List Nat)} {m n : Nat} (hn : n ≤ E0.length) : VisR (E0 ++ nw) m n = VisR E0 m n := by
  funext x
  apply propext
  constructor
  · rintro ⟨f, f0, f1, f2⟩
    rw [List.getElem?_append_left (by omega)] at f2
    exact ⟨f, f0, f1, f2⟩
  · rintro ⟨f, f0, f1, f2⟩
    refine ⟨f, f0, f1, ?_⟩
    rw [List.getElem?_append_left (by omega)]
    exact f2
theorem Bo_pre {E0 nw : List (Nat × List Nat)} {vb n j0 : Nat} {bs : List BL} {fh : Bool} {u : Nat → Nat} (hn : n ≤ E0.length) : BoH (E0 ++ nw) vb n bs fh j0 u ↔ BoH E0 vb n bs fh j0 u := by
  unfold BoH
  rw [Vn_pre hn, Vr_pre hn]
theorem Bo_any {E : List (Nat × List Nat)} {vb n j0 : Nat} {bs : List BL} {fh : Bool} {u : Nat → Nat} (h0 : fh = true → ∃ b0, bs[j0]? = some b0 ∧ b0.1 = 0) (h : BoH E vb n bs fh j0 u) : BoH E 0 n bs false 0 u := by
  intro j b hj
  refine Or.inr ⟨fun z => (by cases z.1), ?_⟩
  rcases h j b hj with ⟨r1, r2, p, r3, f, -, r4, r5⟩ | ⟨-, r⟩
  · obtain ⟨b0, e1, e2⟩ := h0 r1
    rw [← r2, hj] at e1
    obtain rfl := Option.some.inj e1
    exact Or.inl ⟨e2, p, r3, f, r4, r5⟩
  · exact r
theorem Ls_pre {E0 nw : List (Nat × List Nat)} {p n : Nat} {v : Int32} (hn : n ≤ E0.length) (h : LsQ E0 p n v) : LsQ (E0 ++ nw) p n v := by
  induction nw generalizing E0 with
  | nil =>
    rw [List.append_nil]
    exact h
  | cons x nw ih =>
    have := ih (E0 := E0 ++ [x]) (by rw [List.length_append]; omega) (LsQ_add hn h)
    rw [List.append_assoc] at this
    exact this
/-- fresh facts, by the two last ones -/
theorem Ls_new {E : List (Nat × List Nat)} {p m n : Nat} {a b : Int32} (hmn : m ≤ n) (hn : n ≤ 20000) (h1 : LsQ E p n a) (h2 : LsQ E p m b) : (a = b → ∀ (i : Nat) (y : Nat × List Nat), m ≤ i → i < n → E[i]? = some y → ¬ y.1 = p) ∧ (¬ a = b → ∃ (j : Nat) (y : Nat × List Nat), m ≤ j ∧ j < n ∧ E[j]? = some y ∧ y.1 = p) := by
  rcases h1 with ⟨a1, a2⟩ | ⟨i, y, i1, i2, i3, i4, i5⟩
  · refine ⟨fun _ i y _ hi hy => a2 i y hi hy, fun w => ?_⟩
    rcases h2 with ⟨b1, -⟩ | ⟨j, y, j1, j2, j3, -⟩
    · exact absurd (a1.trans b1.symm) w
    · exact absurd j3 (a2 j y (by omega) j2)
  · constructor
    · intro e k z hk hkn hz hzp
      rcases h2 with ⟨b1, -⟩ | ⟨j, y2, j1, j2, j3, j4, -⟩
      · rw [i4, b1] at e
        exact nI_ne1 (by omega) e
      · rw [i4, j4] at e
        have := (nI_eq (by omega) (by omega)).mp e
        exact i5 k z (by omega) hkn hz hzp
    · intro w
      rcases Nat.lt_or_ge i m with z | z
      · exfalso
        rcases h2 with ⟨b1, b2⟩ | ⟨j, y2, j1, j2, j3, j4, j5⟩
        · exact b2 i y z i2 i3
        · refine w ?_
          rw [i4, j4]
          rcases Nat.lt_trichotomy i j with q | q | q
          · exact absurd j3 (i5 j y2 q (by omega) j2)
          · rw [q]
          · exact absurd i3 (j5 i y q z i2)
      · exact ⟨i, y, z, i1, i2, i3⟩
/-- plain facts -/
def PlF (L : Nat → Nat) (K P Z T : Nat → Int32) (cs : List (List Lt)) (s c : Nat) (x : Nat × List Nat) : Prop := ∃ (ls : List Lt) (hp : Nat), cs[c]? = some ls ∧ ls.length = 1 ∧ (hdO K P Z T cs c).2.1 = some hp ∧ L hp = s ∧ x = (hp, aOf (fun _ => 0) (hdO K P Z T cs c))
/-- clause c with its body's place j: what it brings is there -/
def PrD (L : Nat → Nat) (K P Z T : Nat → Int32) (cs : List (List Lt)) (s k : Nat) (E0 : List (Nat × List Nat)) (vb : Nat) (E : List (Nat × List Nat)) (c j : Nat) : Prop := ∀ (ls : List Lt) (hp : Nat), cs[c]? = some ls → 1 ≤ j → j < ls.length → (hdO K P Z T cs c).2.1 = some hp → L hp = s → (k = 1 → j = 1) → (¬ k = 1 → K (off cs c + j) = 0 ∧ ∃ p, pd (P (off cs c + j)) = some p ∧ L p = s) → ∀ v, BoH E0 vb E0.length (bdO K P Z T cs c ls.length) (decide (¬ k = 1)) (j - 1) v → (hp, aOf v (hdO K P Z T cs c)) ∈ E
section CSt
variable {G : Nat → Int32} {ps : List Wd} {cn : List Con} {cs : List (List Lt)} {rk ar L : Nat → Nat} {tz : Int32} {FF K P Z M T ST V BR : Nat → Int32}
theorem phi_inj (hC : CoR cn rk V BR) {x y : Nat × List Nat} (hx : ∀ r ∈ x.2, r < cn.length) (hy : ∀ r ∈ y.2, r < cn.length) (e : phi cn rk x = phi cn rk y) : x = y := by
  obtain ⟨x1, x2⟩ := x
  obtain ⟨y1, y2⟩ := y
  have e1 : x1 = y1 := congrArg Prod.fst e
  have e2 : x2.map (cnr cn rk) = y2.map (cnr cn rk) := congrArg Prod.snd e
  have e3 : x2 = y2 := map_inj hC _ _ hx hy e2
  rw [e1, e3]
theorem Dr_rk (h : PgK G ps cn cs rk ar L tz FF K P Z M T ST V BR) {E : List (Nat × List Nat)} (hR : RkE cn E) {s n c : Nat} {x : Nat × List Nat} (hd : DrC ps L K P Z T cs s E n c x) : ∀ r ∈ x.2, r < cn.length := by
  have hX : ∀ x, VisN E n x → ∀ r ∈ x.2, r < cn.length := by
    rintro x ⟨f, -, hf⟩
    exact hR x (List.mem_of_getElem? hf)
  have hC := h.2.2.1.1
  have hcn := h.2.2.1.2
  obtain ⟨ls, hp, u, c2, hl2, e7', c6, hbo, ex⟩ := hd
  obtain ⟨hd, p, e1, e2, e3, e4, e5, e6, e7, e8, e9, e10⟩ := Pg_hd h c2
  obtain ⟨b1, b2, b3⟩ := Pg_bd h c2
  have hsf := h.2.2.2.2.2 ls (List.mem_of_getElem? c2)
  have hbo2 := Bo_pl.mp hbo
  have huv := tr_to hC hcn (ls := ls) (o := off cs c) (f := 1) (md := 0) (G := G) (ps := ps) (M := M) (fun j l hj => by
    obtain ⟨k1, k2, -⟩ := Pg_lit h c2 hj
    exact ⟨k1, k2⟩) hsf hX (u := u) (fun j l hj j1 j0 => by
    obtain ⟨k1, k2, -⟩ := Pg_lit h c2 hj
    obtain ⟨q, -, q2⟩ := hB_pos (hbo2 _ (List.mem_of_getElem? (b2 j l hj j1))) (by
      show K (off cs c + j) = 0
      rw [k1.1]
      exact j0)
    exact ⟨q, q2⟩)
  obtain ⟨g1, g2, -⟩ := Pg_lit h c2 e1
  rw [Nat.add_zero] at g1
  have hin : cIn cn hd := fun t ht c hc => (g2.2.2 t ht).2.2.1 rfl c hc
  rw [ex]
  exact (bA_args hcn g1 g2 (Or.inl e2) hin (huv hd (List.mem_of_getElem? e1))).2
/-- a plain fact has no variables -/
theorem Pl_occ (h : PgK G ps cn cs rk ar L tz FF K P Z M T ST V BR) {c : Nat} {ls : List Lt} (hc : cs[c]? = some ls) (hl : ls.length = 1) {hd : Lt} (hh : ls[0]? = some hd) (x : Nat) : ¬ occ hd x := by
  intro hx
  obtain ⟨j, l2, a1, a2, -⟩ := h.2.2.2.2.2 ls (List.mem_of_getElem? hc) hd (List.mem_of_getElem? hh) x hx
  have := (List.getElem?_eq_some_iff.mp a2).1
  omega
theorem Pl_rk (h : PgK G ps cn cs rk ar L tz FF K P Z M T ST V BR) {s c : Nat} {x : Nat × List Nat} (hd : PlF L K P Z T cs s c x) : ∀ r ∈ x.2, r < cn.length := by
  obtain ⟨ls, hp, c2, hl, e7', c6, ex⟩ := hd
  obtain ⟨hd, p, e1, e2, e3, e4, e5, e6, e7, e8, e9, e10⟩ := Pg_hd h c2
  obtain ⟨g1, g2, -⟩ := Pg_lit h c2 e1
  rw [Nat.add_zero] at g1
  have hin : cIn cn hd := fun t ht c hc => (g2.2.2 t ht).2.2.1 rfl c hc
  rw [ex]
  exact (bA_args h.2.2.1.2 g1 g2 (Or.inl e2) hin (v := fun _ => cnr cn rk 0) (fun x hx => absurd hx (Pl_occ h c2 hl e1 x))).2
theorem Pl_iff (h : PgK G ps cn cs rk ar L tz FF K P Z M T ST V BR) {s : Nat} {X : Fct → Prop} (y : Fct) : Drv ps cs L s false X cs.length y ↔ ∃ c x, PlF L K P Z T cs s c x ∧ y = phi cn rk x := by
  have hcn := h.2.2.1.2
  have hnd := h.1.2.2.2.2.1
  constructor
  · rintro ⟨c, ls, hd, v, c1, c2, c3, c4, c5, c6, c7, c8⟩
    obtain ⟨hd', p, e1, e2, e3, e4, e5, e6, e7, e8, e9, e10⟩ := Pg_hd h c2
    rw [c3] at e1
    obtain rfl := Option.some.inj e1
    have hp : y.1 = p := nodup_inj hnd c5 e4
    obtain ⟨g1, g2, -⟩ := Pg_lit h c2 c3
    rw [Nat.add_zero] at g1
    have hin : cIn cn hd := fun t ht c hc => (g2.2.2 t ht).2.2.1 rfl c hc
    have hl := c4.mpr rfl
    refine ⟨c, (p, aOf (fun _ => 0) (hdO K P Z T cs c)), ⟨ls, p, c2, hl, e7, by rw [← hp]; exact c6, rfl⟩, ?_⟩
    obtain ⟨y1, y2⟩ := y
    show (y1, y2) = (p, (aOf (fun _ => 0) (hdO K P Z T cs c)).map (cnr cn rk))
    rw [show y1 = p from hp, show y2 = targs v hd from c8, ← (bA_args hcn g1 g2 (Or.inl e2) hin (u := fun _ => 0) (fun x hx => absurd hx (Pl_occ h c2 hl c3 x))).1]
    rfl
  · rintro ⟨c, x, ⟨ls, hp, c2, hl, e7', c6, ex⟩, ey⟩
    obtain ⟨hd, p, e1, e2, e3, e4, e5, e6, e7, e8, e9, e10⟩ := Pg_hd h c2
    rw [e7] at e7'
    obtain rfl := Option.some.inj e7'
    have hcl := (List.getElem?_eq_some_iff.mp c2).1
    obtain ⟨g1, g2, -⟩ := Pg_lit h c2 e1
    rw [Nat.add_zero] at g1
    have hin : cIn cn hd := fun t ht c hc => (g2.2.2 t ht).2.2.1 rfl c hc
    refine ⟨c, ls, hd, fun _ => cnr cn rk 0, hcl, c2, e1, ⟨fun _ => rfl, fun _ => hl⟩, ?_, ?_, fun j l hj j1 => ?_, ?_⟩
    · rw [ey, ex]
      exact e4
    · rw [ey, ex]
      exact c6
    · have := (List.getElem?_eq_some_iff.mp hj).1
      omega
    · rw [ey, ex]
      exact (bA_args hcn g1 g2 (Or.inl e2) hin (fun x hx => absurd hx (Pl_occ h c2 hl e1 x))).1
/-- all places worked: the stage is whole -/
theorem St_all {s k vb : Nat} {E0 E : List (Nat × List Nat)} (hsemi : ¬ k = 1 → (∀ c x, DrC ps L K P Z T cs s E0 vb c x → x ∈ E0) ∧ ∀ (i : Nat) (y : Nat × List Nat), vb ≤ i → E0[i]? = some y → L y.1 = s) (hall : ∀ c j, PrD L K P Z T cs s k E0 vb E c j) (hpre : ∀ x ∈ E0, x ∈ E) : ∀ c x, DrC ps L K P Z T cs s E0 E0.length c x → x ∈ E := by
  rintro c x ⟨ls, hp, u, c2, hl2, e7, c6, hbo, rfl⟩
  have hlen : (bdO K P Z T cs c ls.length).length = ls.length - 1 := bs_len
  by_cases hk : k = 1
  · refine hall c 1 ls hp c2 (by omega) (by omega) e7 c6 (fun _ => rfl) (fun w => absurd hk w) u ?_
    rw [show decide (¬ k = 1) = false from decide_eq_false (fun w => w hk)]
    exact Bo_pl.mpr (Bo_pl.mp hbo)
  · obtain ⟨q1, q2⟩ := hsemi hk
    by_cases hx : ∃ (j : Nat) (b : BL), (bdO K P Z T cs c ls.length)[j]? = some b ∧ b.1 = 0 ∧ ∃ p, b.2.1 = some p ∧ VisR E0 vb E0.length (p, aOf u b)
    · obtain ⟨j, b, j1, j2, p, j3, j4⟩ := hx
      have hjl := (List.getElem?_eq_some_iff.mp j1).1
      rw [hlen] at hjl
      have hat := bs_at (K := K) (P := P) (Z := Z) (T := T) (o := off cs c + 1) hjl
      rw [show off cs c + 1 + j = off cs c + (j + 1) by omega] at hat
      have eb : b = bOf K P Z T (off cs c + (j + 1)) := Option.some.inj (j1.symm.trans hat)
      refine hall c (j + 1) ls hp c2 (by omega) (by omega) e7 c6 (fun w => absurd w hk) (fun _ => ⟨?_, p, ?_, ?_⟩) u (fun j' b' hj' => ?_)
      · rw [eb] at j2
        exact j2
      · rw [eb] at j3
        exact j3
      · obtain ⟨f, f0, f1, f2⟩ := j4
        exact q2 f _ f0 f2
      · rw [show decide (¬ k = 1) = true from decide_eq_true hk, show j + 1 - 1 = j by omega]
        by_cases e : j' = j
        · subst e
          rw [j1] at hj'
          obtain rfl := Option.some.inj hj'
          exact Or.inl ⟨rfl, rfl, p, j3, j4⟩
        · exact Or.inr ⟨fun w => e w.2, Bo_pl.mp hbo b' (List.mem_of_getElem? hj')⟩
    · refine hpre _ (q1 c _ ⟨ls, hp, u, c2, hl2, e7, c6, Bo_pl.mpr (fun b hb => ?_), rfl⟩)
      rcases Bo_pl.mp hbo b hb with ⟨r1, p, r2, f, r3, r4⟩ | ⟨r1, r2⟩ | r
      · rcases Nat.lt_or_ge f vb with z | z
        · exact Or.inl ⟨r1, p, r2, f, z, r4⟩
        · obtain ⟨j, hj, e⟩ := List.getElem_of_mem hb
          have he := List.getElem?_eq_getElem hj
          rw [e] at he
          exact absurd ⟨j, b, he, r1, p, r2, f, z, r3, r4⟩ hx
      · refine Or.inr (Or.inl ⟨r1, fun w => r2 ?_⟩)
        obtain ⟨p, p1, f, f1, f2⟩ := w
        exact ⟨p, p1, f, (List.getElem?_eq_some_iff.mp f2).1, f2⟩
      · exact Or.inr (Or.inr r)
/-- is this place to be worked -/
theorem sp_startsWork {post : Int32 → Unit → Prop} {c j s k hp : Nat} {ls : List Lt} {Kn Kb : Nat → Int32} (h : PgK G ps cn cs rk ar L tz FF K P Z M T ST V BR) (hc : cs[c]? = some ls) (hj1 : 1 ≤ j) (hj : j < ls.length) (hhp : (hdO K P Z T cs c).2.1 = some hp) (hs : s ≤ 64) (hk : k ≤ 20001)
    (h0 : ((L hp = s → (k = 1 → j = 1) → (¬ k = 1 → K (off cs c + j) = 0 ∧ ∃ p, pd (P (off cs c + j)) = some p ∧ L p = s) → ¬ k = 1 ∧ ∃ p, p < 64 ∧ pd (P (off cs c + j)) = some p ∧ Kn p = Kb p)) → post 0 ()) (h1 : L hp = s → (k = 1 → j = 1) → (¬ k = 1 → K (off cs c + j) = 0 ∧ ∃ p, p < 64 ∧ pd (P (off cs c + j)) = some p ∧ L p = s ∧ ¬ Kn p = Kb p) → post 1 ()) : wp_met_Jo_startsWork post 3328 3328 (nI s) (nI (off cs c + j)) (nI (off cs c)) (nI k) Kn Kb K P ST := by
  obtain ⟨d1, d2, d3, d4, d5, d6⟩ := CT_cl h.1 hc
  obtain ⟨hd, p, e1, e2, e3, e4, e5, e6, e7, -⟩ := Pg_hd h hc
  obtain rfl := Option.some.inj (e7.symm.trans hhp)
  have hL := h.2.2.2.1.2.1
  have hST := h.2.2.2.1.2.2
  have hle := List.getElem?_eq_getElem hj
  generalize ls[j] = l at hle
  obtain ⟨l1, l2, l3⟩ := CT_lit h.1 hc hle
  have co : (nI (off cs c + j)).toNatClampNeg = off cs c + j := nI_clamp (by omega)
  refine ⟨vp_in_nI (by omega) (by omega), fun y2 h2 => ⟨vp_in_nI (by omega) (by omega), fun y4 h4 => ?_⟩⟩
  rw [co] at h2
  rw [nI_clamp (by omega), e5] at h4
  subst h4
  refine ⟨vp_in_nI e3 (by omega), fun y6 h6 => ?_⟩
  rw [nI_clamp (by omega), hST p e3] at h6
  subst h6
  have hLp := hL p
  refine pk_eq (L p) s (fun q => ?_) (fun q => h0 (fun w => absurd w q))
  refine pk_eq k 1 (fun q1 => ?_) (fun q1 => ?_)
  · intro y13 h13 y14 h14
    subst h13
    subst h14
    rw [show nI (off cs c) + 1 = nI (off cs c + 1) from nI_1 _]
    by_cases ej : j = 1
    · rw [if_pos (by rw [ej])]
      exact h1 q (fun _ => ej) (fun w => absurd q1 w)
    · rw [if_neg (fun w => ej (by have := (nI_eq (by omega) (by omega)).mp w; omega))]
      exact h0 (fun _ w => absurd (w q1) ej)
  · refine ⟨vp_in_nI (by omega) (by omega), fun y8 h8 => ?_⟩
    rw [co] at h8
    subst h8
    refine ⟨fun k0 => ?_, fun k0 => h0 (fun _ _ w => absurd (w q1).1 k0)⟩
    obtain ⟨p2, m1, m2, m3⟩ := l3 (Or.inl (l1.symm.trans k0))
    rw [m3] at h2
    subst h2
    have hpd : pd (P (off cs c + j)) = some p2 := by
      unfold pd
      rw [m3, if_neg (nI_ne1 (by omega)), nI_clamp (by omega)]
    refine ⟨vp_in_nI m1 (by omega), fun y10 h10 => ?_⟩
    rw [nI_clamp (by omega), hST p2 m1] at h10
    subst h10
    have hLp2 := hL p2
    refine pk_eq (L p2) s (fun q2 => ?_) (fun q2 => h0 (fun _ _ w => ?_))
    · refine ⟨vp_in_nI m1 (by omega), fun z2 g2 => ⟨vp_in_nI m1 (by omega), fun z4 g4 z5 g5 y12 h12 => ?_⟩⟩
      rw [nI_clamp (by omega)] at g2 g4
      subst g2
      subst g4
      by_cases e : Kn p2 = Kb p2
      · rw [if_pos e] at g5
        rw [g5, if_pos rfl] at h12
        subst h12
        exact h0 (fun _ _ _ => ⟨q1, p2, m1, hpd, e⟩)
      · rw [if_neg e] at g5
        rw [g5, if_neg (by decide)] at h12
        subst h12
        exact h1 q (fun w => absurd w q1) (fun _ => ⟨k0, p2, m1, hpd, q2, e⟩)
    · obtain ⟨-, p3, w1, w2⟩ := w q1
      rw [hpd] at w1
      obtain rfl := Option.some.inj w1
      exact absurd w2 q2
end CSt
