/-! pure: what a question asks -/
theorem lt_one : ∀ a b : List Nat, (∀ x, x ∈ a ↔ x ∈ b) → a.Pairwise (fun x y => x < y) → b.Pairwise (fun x y => x < y) → a = b := by
  intro a
  induction a with
  | nil =>
    intro b h _ _
    cases b with
    | nil => rfl
    | cons y b => exact absurd ((h y).mpr (List.mem_cons_self ..)) (fun w => (by cases w))
  | cons x a ih =>
    intro b h h1 h2
    cases b with
    | nil => exact absurd ((h x).mp (List.mem_cons_self ..)) (fun w => (by cases w))
    | cons y b =>
      obtain ⟨a1, a2⟩ := List.pairwise_cons.mp h1
      obtain ⟨b1, b2⟩ := List.pairwise_cons.mp h2
      have e : x = y := by
        rcases List.mem_cons.mp ((h x).mp (List.mem_cons_self ..)) with w | w
        · exact w
        · rcases List.mem_cons.mp ((h y).mpr (List.mem_cons_self ..)) with w2 | w2
          · exact w2.symm
          · have := b1 x w
            have := a1 y w2
            omega
      subst e
      rw [ih b (fun z => ⟨fun hz => ?_, fun hz => ?_⟩) a2 b2]
      · rcases List.mem_cons.mp ((h z).mp (List.mem_cons_of_mem _ hz)) with w | w
        · have := a1 z hz
          omega
        · exact w
      · rcases List.mem_cons.mp ((h z).mpr (List.mem_cons_of_mem _ hz)) with w | w
        · have := b1 z hz
          omega
        · exact w
theorem colsF_mem : ∀ (vs : List (Option Wd)) (k x : Nat), x ∈ colsF vs k ↔ ∃ (i : Nat) (w : Wd), vs[i]? = some (some w) ∧ x = k + i := by
  intro vs
  induction vs with
  | nil =>
    intro k x
    constructor
    · intro w
      cases w
    · rintro ⟨i, w, h, -⟩
      rw [List.getElem?_nil] at h
      cases h
  | cons a r ih =>
    intro k x
    have key : x ∈ colsF r (k + 1) ↔ ∃ (i : Nat) (w : Wd), (a :: r)[i + 1]? = some (some w) ∧ x = k + (i + 1) := by
      rw [ih]
      constructor
      · rintro ⟨i, w, h1, h2⟩
        exact ⟨i, w, by rw [List.getElem?_cons_succ]; exact h1, by omega⟩
      · rintro ⟨i, w, h1, h2⟩
        rw [List.getElem?_cons_succ] at h1
        exact ⟨i, w, h1, by omega⟩
    cases a with
    | none =>
      show x ∈ colsF r (k + 1) ↔ _
      rw [key]
      constructor
      · rintro ⟨i, w, h⟩
        exact ⟨i + 1, w, h⟩
      · rintro ⟨i, w, h1, h2⟩
        cases i with
        | zero =>
          rw [List.getElem?_cons_zero] at h1
          cases h1
        | succ i => exact ⟨i, w, h1, h2⟩
    | some y =>
      show x ∈ k :: colsF r (k + 1) ↔ _
      rw [List.mem_cons, key]
      constructor
      · rintro (h | ⟨i, w, h⟩)
        · exact ⟨0, y, by rw [List.getElem?_cons_zero], by omega⟩
        · exact ⟨i + 1, w, h⟩
      · rintro ⟨i, w, h1, h2⟩
        cases i with
        | zero => exact Or.inl (by omega)
        | succ i => exact Or.inr ⟨i, w, h1, h2⟩
theorem colsF_pw : ∀ (vs : List (Option Wd)) (k : Nat), (colsF vs k).Pairwise (fun x y => x < y) := by
  intro vs
  induction vs with
  | nil => exact fun _ => List.Pairwise.nil
  | cons a r ih =>
    intro k
    cases a with
    | none => exact ih (k + 1)
    | some y =>
      refine List.pairwise_cons.mpr ⟨fun x hx => ?_, ih (k + 1)⟩
      obtain ⟨i, w, -, h2⟩ := (colsF_mem r (k + 1) x).mp hx
      omega
theorem cols_mem {vs : List (Option Wd)} {x : Nat} : x ∈ cols vs ↔ (x < vs.length ∧ ¬ vs[x]? = some none) := by
  unfold cols
  rw [colsF_mem]
  constructor
  · rintro ⟨i, w, h1, h2⟩
    obtain rfl : x = i := by omega
    refine ⟨(List.getElem?_eq_some_iff.mp h1).1, fun e => ?_⟩
    rw [h1] at e
    cases e
  · rintro ⟨h1, h2⟩
    have he := List.getElem?_eq_getElem h1
    generalize vs[x] = o at he
    cases o with
    | none => exact absurd he h2
    | some w => exact ⟨x, w, he, by omega⟩
theorem cols_of {vs : List (Option Wd)} {co : List Nat} (h : clF (fun x => vs[x]? = some none) co vs.length) : co = cols vs :=
  lt_one co (cols vs) (fun x => by rw [h.1 x, cols_mem]) h.2 (colsF_pw vs 0)
section CQu
variable {G : Nat → Int32} {ps : List Wd} {cn : List Con} {rk ar : Nat → Nat} {ls : List Lt} {vs : List (Option Wd)} {K P Z M T V BR : Nat → Int32}
theorem lx_rcmp (hC : CoR cn rk V BR) : ∀ a b : List Nat, a.length = b.length → (∀ r ∈ a, r < cn.length) → (∀ r ∈ b, r < cn.length) → lxQ a b → rcmp (a.map (cnr cn rk)) (b.map (cnr cn rk)) < 0 := by
  intro a
  induction a with
  | nil =>
    intro b _ _ _ h
    obtain ⟨k, h1, -⟩ := h
    exact absurd h1 (by rw [List.length_nil]; omega)
  | cons x a ih =>
    intro b hl ha hb h
    cases b with
    | nil => cases hl
    | cons y b =>
      obtain ⟨k, h1, h2, h3⟩ := h
      have hx := ha x (List.mem_cons_self ..)
      have hy := hb y (List.mem_cons_self ..)
      rw [List.map_cons, List.map_cons, rcmp_cons]
      cases k with
      | zero =>
        have h3' : x < y := h3
        have hlt : cc (cnr cn rk x) (cnr cn rk y) < 0 := hC.2.2.1 x y h3' hy
        rw [if_neg (by omega)]
        exact hlt
      | succ k =>
        have e : x = y := h2 0 (by omega)
        subst e
        rw [if_pos (cc_0.mpr rfl)]
        refine ih b (by rw [List.length_cons, List.length_cons] at hl; omega) (fun r hr => ha r (List.mem_cons_of_mem _ hr)) (fun r hr => hb r (List.mem_cons_of_mem _ hr)) ⟨k, ?_, fun j hj => ?_, h3⟩
        · rw [List.length_cons] at h1
          omega
        · exact h2 (j + 1) (by omega)
/-- a question as the class holds it -/
def QuK (G : Nat → Int32) (ps : List Wd) (cn : List Con) (rk ar : Nat → Nat) (ls : List Lt) (vs : List (Option Wd)) (K P Z M T V BR : Nat → Int32) : Prop := (∀ (i : Nat) (l : Lt), ls[i]? = some l → CLf ps cn rk i l K P Z M T ∧ LtOk 1 G ps cn l) ∧ ls.length ≤ 12 ∧ (CoR cn rk V BR ∧ cn.length ≤ 1000) ∧ (ps.Nodup ∧ ps.length ≤ 64) ∧ SfL 0 ls ∧ (∀ l ∈ ls, isA l → ∀ p : Nat, ps[p]? = some l.2.1 → l.2.2.2.2.length = ar p) ∧ (∀ x, x < vs.length → ∃ l ∈ ls, occ l x) ∧ (∀ x, vs[x]? = some none → ∀ (i j : Nat) (l l2 : Lt), ls[i]? = some l → ls[j]? = some l2 → occ l x → occ l2 x → i = j) ∧ ∀ l ∈ ls, ∀ x, occ l x → x < vs.length
theorem Qu_sf (h : ∀ c p, ¬ W11 1 ls ls.length c p) : SfL 0 ls := by
  intro l hl x hx
  obtain ⟨j, hj, e⟩ := List.getElem_of_mem hl
  have he := List.getElem?_eq_getElem hj
  rw [e] at he
  by_cases l0 : l.1 = 0
  · exact ⟨j, l, Nat.zero_le _, he, l0, hx⟩
  · obtain ⟨t, t1, t2⟩ := hx
    by_cases hb : bnd 1 ls x
    · obtain ⟨j2, l2, b1, -, b3, t9, b4, b5⟩ := hb
      exact ⟨j2, l2, Nat.zero_le _, b1, b3, t9, b4, b5⟩
    · exact absurd ⟨rfl, j, l, hj, he, Or.inr l0, t, t1, rfl, x, t2, hb⟩ (h 11 t.2)
theorem Qu_ar (h : ∀ c p, ¬ W10q ps ar ls ls.length c p) : ∀ l ∈ ls, isA l → ∀ p : Nat, ps[p]? = some l.2.1 → l.2.2.2.2.length = ar p := by
  intro l hl hA p hp
  obtain ⟨j, hj, e⟩ := List.getElem_of_mem hl
  have he := List.getElem?_eq_getElem hj
  rw [e] at he
  by_cases w : ar p = l.2.2.2.2.length
  · exact w.symm
  · exact absurd ⟨rfl, j, l, hj, he, hA, rfl, ar p, Or.inl ⟨p, hp, rfl⟩, w⟩ (h 10 l.2.2.1)
/-- its body by ranks -/
def qbO (K P Z T : Nat → Int32) (n : Nat) : List BL := bsOf K P Z T 0 n
theorem Qu_at (j : Nat) (hj : j < ls.length) : (qbO K P Z T ls.length)[j]? = some (bOf K P Z T j) := by
  have := bs_at (K := K) (P := P) (Z := Z) (T := T) (o := 0) hj
  rw [Nat.zero_add] at this
  exact this
theorem Qu_mem {b : BL} (h : b ∈ qbO K P Z T ls.length) : ∃ (j : Nat) (l : Lt), ls[j]? = some l ∧ b = bOf K P Z T j := by
  obtain ⟨j, hj, e⟩ := List.getElem_of_mem h
  have he := List.getElem?_eq_getElem hj
  rw [e] at he
  have hlen : (qbO K P Z T ls.length).length = ls.length := bs_len
  rw [hlen] at hj
  rw [Qu_at j hj] at he
  exact ⟨j, _, List.getElem?_eq_getElem hj, (Option.some.inj he).symm⟩
theorem Qu_bd (h : QuK G ps cn rk ar ls vs K P Z M T V BR) : BdA ar 13 0 (qbO K P Z T ls.length) K P Z M T ∧ (∀ b ∈ qbO K P Z T ls.length, ¬ b.1 = 0 → ∀ x, occB b x → ∃ b2 ∈ qbO K P Z T ls.length, b2.1 = 0 ∧ occB b2 x) ∧ (∀ x, x ∈ cols vs → ∃ b ∈ qbO K P Z T ls.length, occB b x) ∧ (∀ (i j : Nat) (b b2 : BL) (x : Nat), (qbO K P Z T ls.length)[i]? = some b → (qbO K P Z T ls.length)[j]? = some b2 → occB b x → occB b2 x → ¬ i = j → x ∈ cols vs) := by
  obtain ⟨h1, h2, ⟨h3, h4⟩, ⟨h5, h6⟩, h7, h8, h9, h10, h11⟩ := h
  have hlen : (qbO K P Z T ls.length).length = ls.length := bs_len
  have hoc : ∀ (j : Nat) (l : Lt), ls[j]? = some l → ∀ x, occB (bOf K P Z T j) x ↔ occ l x := fun j l hj x => b_occ h3 h4 (h1 j l hj).1 (h1 j l hj).2 x
  have hk : ∀ (j : Nat) (l : Lt), ls[j]? = some l → (bOf K P Z T j).1 = l.1 := fun j l hj => (h1 j l hj).1.1
  have hget : ∀ (j : Nat) (b : BL), (qbO K P Z T ls.length)[j]? = some b → ∃ l, ls[j]? = some l ∧ b = bOf K P Z T j := by
    intro j b hj
    have hjl := (List.getElem?_eq_some_iff.mp hj).1
    rw [hlen] at hjl
    rw [Qu_at j hjl] at hj
    exact ⟨_, List.getElem?_eq_getElem hjl, (Option.some.inj hj).symm⟩
  refine ⟨⟨by omega, fun j b hj => ?_⟩, fun b hb hb0 x hx => ?_, fun x hx => ?_, fun i j b b2 x hi hj o1 o2 hne => ?_⟩
  · obtain ⟨l, e1, rfl⟩ := hget j b hj
    have hjl := (List.getElem?_eq_some_iff.mp e1).1
    rw [Nat.zero_add]
    exact BQ_of (rm := 13) h3 h4 h6 (by omega) (h1 j l e1).1 (h1 j l e1).2 (h8 l (List.mem_of_getElem? e1))
  · obtain ⟨j, l, e1, rfl⟩ := Qu_mem hb
    obtain ⟨j2, l2, -, q1, q2, q3⟩ := h7 l (List.mem_of_getElem? e1) x ((hoc j l e1 x).mp hx)
    refine ⟨_, List.mem_of_getElem? (Qu_at j2 (List.getElem?_eq_some_iff.mp q1).1), (hk j2 l2 q1).trans q2, (hoc j2 l2 q1 x).mpr q3⟩
  · obtain ⟨l, l1, l2⟩ := h9 x (cols_mem.mp hx).1
    obtain ⟨j, hj, e⟩ := List.getElem_of_mem l1
    have he := List.getElem?_eq_getElem hj
    rw [e] at he
    exact ⟨_, List.mem_of_getElem? (Qu_at j hj), (hoc j l he x).mpr l2⟩
  · obtain ⟨l, a1, rfl⟩ := hget i b hi
    obtain ⟨l2, b1, rfl⟩ := hget j b2 hj
    have c1 := (hoc i l a1 x).mp o1
    have c2 := (hoc j l2 b1 x).mp o2
    exact cols_mem.mpr ⟨h11 l (List.mem_of_getElem? a1) x c1, fun e => hne (h10 x e i j l l2 a1 b1 c1 c2)⟩
/-- rows by ranks, and by constants -/
theorem Qu_row (h : QuK G ps cn rk ar ls vs K P Z M T V BR) {E : List (Nat × List Nat)} (hR : RkE cn E) : (∀ u, BoH E 0 E.length (qbO K P Z T ls.length) false 0 u → bHo ps (FX cn rk (fun x => x ∈ E)) (fun z => cnr cn rk (u z)) ls ∧ ∀ x ∈ cols vs, u x < cn.length) ∧ (∀ v, bHo ps (FX cn rk (fun x => x ∈ E)) v ls → ∃ u, BoH E 0 E.length (qbO K P Z T ls.length) false 0 u ∧ ∀ x ∈ cols vs, v x = cnr cn rk (u x)) := by
  obtain ⟨h1, h2, ⟨h3, h4⟩, ⟨h5, h6⟩, h7, h8, h9, h10, h11⟩ := h
  have eX : VisN E E.length = fun x => x ∈ E := funext (fun x => propext Vn_mem)
  have hX : ∀ x, (fun x => x ∈ E) x → ∀ r ∈ x.2, r < cn.length := fun x hx => hR x hx
  constructor
  · intro u hu
    have hb := Bo_pl.mp hu
    rw [eX] at hb
    have huv := tr_to h3 h4 (ls := ls) (o := 0) (f := 0) (md := 1) (G := G) (ps := ps) (M := M) (fun j l hj => by
      rw [Nat.zero_add]
      exact h1 j l hj) h7 hX (u := u) (fun j l hj _ j0 => by
      rw [Nat.zero_add]
      obtain ⟨q, -, q2⟩ := hB_pos (hb _ (List.mem_of_getElem? (Qu_at j (List.getElem?_eq_some_iff.mp hj).1))) ((h1 j l hj).1.1.trans j0)
      exact ⟨q, q2⟩)
    refine ⟨fun l hl => ?_, fun x hx => ?_⟩
    · obtain ⟨j, hj, e⟩ := List.getElem_of_mem hl
      have he := List.getElem?_eq_getElem hj
      rw [e] at he
      obtain ⟨k1, k2⟩ := h1 j l he
      exact (tr_lit h3 h4 h6 h5 k1 k2 hX (huv l hl)).mp (hb _ (List.mem_of_getElem? (Qu_at j hj)))
    · obtain ⟨l, l1, l2⟩ := h9 x (cols_mem.mp hx).1
      exact (huv l l1 x l2).1
  · intro v hv
    obtain ⟨u, hu⟩ := tr_from h3 h7 hX (v := v) (fun j l hj _ j0 => by
      rcases hv l (List.mem_of_getElem? hj) with ⟨-, q, -, q2⟩ | ⟨q, -⟩ | ⟨q, -⟩
      · exact ⟨q, q2⟩
      · rw [j0] at q
        exact absurd q (by decide)
      · exact absurd j0 q)
    refine ⟨u, Bo_pl.mpr (fun b hb => ?_), fun x hx => ?_⟩
    · rw [eX]
      obtain ⟨j, l, e1, rfl⟩ := Qu_mem hb
      obtain ⟨k1, k2⟩ := h1 j l e1
      have hl := List.mem_of_getElem? e1
      exact (tr_lit h3 h4 h6 h5 k1 k2 hX (hu l hl)).mpr (hv l hl)
    · obtain ⟨l, l1, l2⟩ := h9 x (cols_mem.mp hx).1
      exact (hu l l1 x l2).2
theorem Qu_ans (h : QuK G ps cn rk ar ls vs K P Z M T V BR) {E : List (Nat × List Nat)} (hR : RkE cn E) {R2 : List (List Nat)} (hm : ∀ r, r ∈ R2 ↔ ∃ v, BoH E 0 E.length (qbO K P Z T ls.length) false 0 v ∧ r = (cols vs).map v) (hs : R2.Pairwise lxQ) (hl : R2.length ≤ 5000) : AnsR ps (FX cn rk (fun x => x ∈ E)) ls vs (R2.map (fun r => r.map (cnr cn rk))) ∧ ∀ r ∈ R2, ∀ x ∈ r, x < cn.length := by
  obtain ⟨q1, q2⟩ := Qu_row h hR
  have hC := h.2.2.1.1
  have hrk : ∀ r ∈ R2, r.length = (cols vs).length ∧ ∀ x ∈ r, x < cn.length := by
    intro r hr
    obtain ⟨u, u1, rfl⟩ := (hm r).mp hr
    refine ⟨List.length_map .., fun x hx => ?_⟩
    obtain ⟨z, z1, rfl⟩ := List.mem_map.mp hx
    exact (q1 u u1).2 z z1
  refine ⟨⟨fun x => ⟨fun hx => ?_, ?_⟩, ?_, by rw [List.length_map]; exact hl⟩, fun r hr => (hrk r hr).2⟩
  · obtain ⟨r, r1, rfl⟩ := List.mem_map.mp hx
    obtain ⟨u, u1, rfl⟩ := (hm r).mp r1
    exact ⟨fun z => cnr cn rk (u z), (q1 u u1).1, by rw [List.map_map]; rfl⟩
  · rintro ⟨v, v1, rfl⟩
    obtain ⟨u, u1, u2⟩ := q2 v v1
    refine List.mem_map.mpr ⟨(cols vs).map u, (hm _).mpr ⟨u, u1, rfl⟩, ?_⟩
    rw [List.map_map]
    exact List.map_congr_left (fun x hx => (u2 x hx).symm)
  · refine List.pairwise_map.mpr (hs.imp_of_mem (fun ha hb w => ?_))
    exact lx_rcmp hC _ _ ((hrk _ ha).1.trans (hrk _ hb).1.symm) (hrk _ ha).2 (hrk _ hb).2 w
theorem Qu_over (h : QuK G ps cn rk ar ls vs K P Z M T V BR) {E : List (Nat × List Nat)} (hR : RkE cn E) {nv : List (List Nat)} (hnd : nv.Nodup) (hl : 5000 < nv.length) (hm : ∀ r ∈ nv, ∃ v, BoH E 0 E.length (qbO K P Z T ls.length) false 0 v ∧ r = (cols vs).map v) : AnsO ps (FX cn rk (fun x => x ∈ E)) ls vs := by
  obtain ⟨q1, q2⟩ := Qu_row h hR
  have hC := h.2.2.1.1
  have hrk : ∀ r ∈ nv, ∀ x ∈ r, x < cn.length := by
    intro r hr x hx
    obtain ⟨u, u1, rfl⟩ := hm r hr
    obtain ⟨z, z1, rfl⟩ := List.mem_map.mp hx
    exact (q1 u u1).2 z z1
  refine ⟨nv.map (fun r => r.map (cnr cn rk)), ?_, fun x hx => ?_, by rw [List.length_map]; exact hl⟩
  · refine List.pairwise_map.mpr (hnd.imp_of_mem (fun ha hb w e => w ?_))
    exact map_inj hC _ _ (hrk _ ha) (hrk _ hb) e
  · obtain ⟨r, r1, rfl⟩ := List.mem_map.mp hx
    obtain ⟨u, u1, rfl⟩ := hm r r1
    exact ⟨fun z => cnr cn rk (u z), (q1 u u1).1, by rw [List.map_map]; rfl⟩
end CQu
