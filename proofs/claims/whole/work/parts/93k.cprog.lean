/-! pure: a settled program; what a stage brings -/
def PgK (G : Nat → Int32) (ps : List Wd) (cn : List Con) (cs : List (List Lt)) (rk ar L : Nat → Nat) (tz : Int32) (FF K P Z M T ST V BR : Nat → Int32) : Prop := CT G ps cn cs tz FF K P ∧ (∀ (i : Nat) (l : Lt), cs.flatten[i]? = some l → CLf ps cn rk i l K P Z M T) ∧ (CoR cn rk V BR ∧ cn.length ≤ 1000) ∧ (Lst (EdC ps cs) L ∧ (∀ p, L p ≤ 64) ∧ StA L ST) ∧ (∀ ls ∈ cs, ∀ l ∈ ls, isA l → ∀ p : Nat, ps[p]? = some l.2.1 → l.2.2.2.2.length = ar p) ∧ ∀ ls ∈ cs, SfL 1 ls
/-- head and body of clause c -/
def hdO (K P Z T : Nat → Int32) (cs : List (List Lt)) (c : Nat) : BL := bOf K P Z T (off cs c)
def bdO (K P Z T : Nat → Int32) (cs : List (List Lt)) (c m : Nat) : List BL := bsOf K P Z T (off cs c + 1) (m - 1)
section CPg
variable {G : Nat → Int32} {ps : List Wd} {cn : List Con} {cs : List (List Lt)} {rk ar L : Nat → Nat} {tz : Int32} {FF K P Z M T ST V BR : Nat → Int32}
theorem Pg_lit (h : PgK G ps cn cs rk ar L tz FF K P Z M T ST V BR) {c j : Nat} {ls : List Lt} {l : Lt} (hc : cs[c]? = some ls) (hj : ls[j]? = some l) : CLf ps cn rk (off cs c + j) l K P Z M T ∧ LtOk 0 G ps cn l ∧ off cs c + j < 3328 ∧ BQ 3328 (bOf K P Z T (off cs c + j)) (off cs c + j) K P Z M T ∧ blOk ar (bOf K P Z T (off cs c + j)) := by
  obtain ⟨h1, h2, ⟨h3, h4⟩, -, h6, -⟩ := h
  have hf := flat_at hc hj
  obtain ⟨k1, k2⟩ := fl_ok h1 hf
  have hcl := h2 _ l hf
  have hB := BQ_of (rm := 3328) h3 h4 h1.2.2.2.2.2.1 k2 hcl k1 (h6 ls (List.mem_of_getElem? hc) l (List.mem_of_getElem? hj))
  exact ⟨hcl, k1, k2, hB.1, hB.2⟩
theorem Pg_hd (h : PgK G ps cn cs rk ar L tz FF K P Z M T ST V BR) {c : Nat} {ls : List Lt} (hc : cs[c]? = some ls) : ∃ (hd : Lt) (p : Nat), ls[0]? = some hd ∧ hd.1 = 0 ∧ p < 64 ∧ ps[p]? = some hd.2.1 ∧ P (off cs c) = nI p ∧ (hdO K P Z T cs c).1 = 0 ∧ (hdO K P Z T cs c).2.1 = some p ∧ BQ 3328 (hdO K P Z T cs c) (off cs c) K P Z M T ∧ blOk ar (hdO K P Z T cs c) ∧ ∀ x, occB (hdO K P Z T cs c) x ↔ occ hd x := by
  obtain ⟨hd, p, e1, e2, e3, e4, e5⟩ := CT_hd h.1 hc
  obtain ⟨g1, g2, g3, g4, g5⟩ := Pg_lit h hc e1
  rw [Nat.add_zero] at g1 g3 g4 g5
  refine ⟨hd, p, e1, e2, e3, e4, e5, ?_, ?_, g4, g5, fun x => b_occ h.2.2.1.1 h.2.2.1.2 g1 g2 x⟩
  · show K (off cs c) = 0
    rw [g1.1]
    exact e2
  · show pd (P (off cs c)) = some p
    unfold pd
    rw [e5, if_neg (nI_ne1 (by omega)), nI_clamp (by omega)]
theorem Pg_bd (h : PgK G ps cn cs rk ar L tz FF K P Z M T ST V BR) {c : Nat} {ls : List Lt} (hc : cs[c]? = some ls) : BdA ar 3328 (off cs c + 1) (bdO K P Z T cs c ls.length) K P Z M T ∧ (∀ (j : Nat) (l : Lt), ls[j]? = some l → 1 ≤ j → (bdO K P Z T cs c ls.length)[j - 1]? = some (bOf K P Z T (off cs c + j))) ∧ (∀ b ∈ bdO K P Z T cs c ls.length, ∃ (j : Nat) (l : Lt), 1 ≤ j ∧ ls[j]? = some l ∧ b = bOf K P Z T (off cs c + j)) := by
  obtain ⟨d1, d2, d3, d4, d5, d6⟩ := CT_cl h.1 hc
  have hat : ∀ j, j < ls.length - 1 → (bdO K P Z T cs c ls.length)[j]? = some (bOf K P Z T (off cs c + (j + 1))) := by
    intro j hj
    have := bs_at (K := K) (P := P) (Z := Z) (T := T) (o := off cs c + 1) hj
    rw [show off cs c + 1 + j = off cs c + (j + 1) by omega] at this
    exact this
  have hlen : (bdO K P Z T cs c ls.length).length = ls.length - 1 := bs_len
  refine ⟨⟨by rw [hlen]; omega, fun j b hj => ?_⟩, fun j l hj hj1 => ?_, fun b hb => ?_⟩
  · have hjl := (List.getElem?_eq_some_iff.mp hj).1
    rw [hlen] at hjl
    rw [hat j hjl] at hj
    obtain rfl := Option.some.inj hj
    have hle := List.getElem?_eq_getElem (show j + 1 < ls.length by omega)
    generalize ls[j + 1] = l at hle
    obtain ⟨g1, g2, g3, g4, g5⟩ := Pg_lit h hc hle
    rw [show off cs c + 1 + j = off cs c + (j + 1) by omega]
    exact ⟨g4, g5⟩
  · have hjl := (List.getElem?_eq_some_iff.mp hj).1
    rw [hat (j - 1) (by omega), show j - 1 + 1 = j by omega]
  · obtain ⟨j, hj, e⟩ := List.getElem_of_mem hb
    have he := List.getElem?_eq_getElem hj
    rw [e] at he
    rw [hlen] at hj
    rw [hat j hj] at he
    have hle := List.getElem?_eq_getElem (show j + 1 < ls.length by omega)
    exact ⟨j + 1, _, by omega, hle, (Option.some.inj he).symm⟩
theorem Pg_safe (h : PgK G ps cn cs rk ar L tz FF K P Z M T ST V BR) {c : Nat} {ls : List Lt} (hc : cs[c]? = some ls) : (∀ b ∈ bdO K P Z T cs c ls.length, ¬ b.1 = 0 → ∀ x, occB b x → ∃ b2 ∈ bdO K P Z T cs c ls.length, b2.1 = 0 ∧ occB b2 x) ∧ (∀ x, occB (hdO K P Z T cs c) x → ∃ b ∈ bdO K P Z T cs c ls.length, occB b x) := by
  obtain ⟨b1, b2, b3⟩ := Pg_bd h hc
  have hsf := h.2.2.2.2.2 ls (List.mem_of_getElem? hc)
  have key : ∀ (j : Nat) (l : Lt), ls[j]? = some l → ∀ x, occ l x → ∃ b ∈ bdO K P Z T cs c ls.length, b.1 = 0 ∧ occB b x := by
    intro j l hj x hx
    obtain ⟨j2, l2, a1, a2, a3, a4⟩ := hsf l (List.mem_of_getElem? hj) x hx
    obtain ⟨g1, g2, -⟩ := Pg_lit h hc a2
    refine ⟨_, List.mem_of_getElem? (b2 j2 l2 a2 a1), ?_, (b_occ h.2.2.1.1 h.2.2.1.2 g1 g2 x).mpr a4⟩
    show K (off cs c + j2) = 0
    rw [g1.1]
    exact a3
  refine ⟨fun b hb _ x hx => ?_, fun x hx => ?_⟩
  · obtain ⟨j, l, j1, j2, rfl⟩ := b3 b hb
    obtain ⟨g1, g2, -⟩ := Pg_lit h hc j2
    exact key j l j2 x ((b_occ h.2.2.1.1 h.2.2.1.2 g1 g2 x).mp hx)
  · obtain ⟨hd, p, e1, -, -, -, -, -, -, -, -, e9⟩ := Pg_hd h hc
    obtain ⟨b, q1, -, q3⟩ := key 0 hd e1 x ((e9 x).mp hx)
    exact ⟨b, q1, q3⟩
/-- a fact by constants -/
def phi (cn : List Con) (rk : Nat → Nat) (x : Nat × List Nat) : Fct := (x.1, x.2.map (cnr cn rk))
def RkE (cn : List Con) (E : List (Nat × List Nat)) : Prop := ∀ x ∈ E, ∀ r ∈ x.2, r < cn.length
/-- x comes out of clause c by a body that holds for the facts before n -/
def DrC (ps : List Wd) (L : Nat → Nat) (K P Z T : Nat → Int32) (cs : List (List Lt)) (s : Nat) (E : List (Nat × List Nat)) (n : Nat) (c : Nat) (x : Nat × List Nat) : Prop := ∃ (ls : List Lt) (hp : Nat) (u : Nat → Nat), cs[c]? = some ls ∧ 2 ≤ ls.length ∧ (hdO K P Z T cs c).2.1 = some hp ∧ L hp = s ∧ BoH E 0 n (bdO K P Z T cs c ls.length) false 0 u ∧ x = (hp, aOf u (hdO K P Z T cs c))
theorem Bo_pl {E : List (Nat × List Nat)} {vb n : Nat} {bs : List BL} {u : Nat → Nat} : BoH E vb n bs false 0 u ↔ ∀ b ∈ bs, hB (VisN E n) u b := by
  constructor
  · intro h b hb
    obtain ⟨j, hj, e⟩ := List.getElem_of_mem hb
    have he := List.getElem?_eq_getElem hj
    rw [e] at he
    rcases h j b he with ⟨z, -⟩ | ⟨-, z⟩
    · cases z
    · exact z
  · intro h j b hj
    exact Or.inr ⟨fun z => (by cases z.1), h b (List.mem_of_getElem? hj)⟩
theorem hB_pos {X : Nat × List Nat → Prop} {u : Nat → Nat} {b : BL} (h : hB X u b) (h0 : b.1 = 0) : ∃ p, b.2.1 = some p ∧ X (p, aOf u b) := by
  rcases h with ⟨-, q⟩ | ⟨q, -⟩ | ⟨q, -⟩
  · exact q
  · rw [h0] at q
    exact absurd q (by decide)
  · exact absurd h0 q
/-- the class's step and the meaning's -/
theorem Dr_iff (h : PgK G ps cn cs rk ar L tz FF K P Z M T ST V BR) {E : List (Nat × List Nat)} (hR : RkE cn E) {s n : Nat} (hn : n ≤ E.length) (y : Fct) : Drv ps cs L s true (FX cn rk (VisN E n)) cs.length y ↔ ∃ c x, DrC ps L K P Z T cs s E n c x ∧ y = phi cn rk x := by
  have hX : ∀ x, VisN E n x → ∀ r ∈ x.2, r < cn.length := by
    rintro x ⟨f, -, hf⟩
    exact hR x (List.mem_of_getElem? hf)
  have hC := h.2.2.1.1
  have hcn := h.2.2.1.2
  have hps := h.1.2.2.2.2.2.1
  have hnd := h.1.2.2.2.2.1
  constructor
  · rintro ⟨c, ls, hd, v, c1, c2, c3, c4, c5, c6, c7, c8⟩
    obtain ⟨hd', p, e1, e2, e3, e4, e5, e6, e7, e8, e9, e10⟩ := Pg_hd h c2
    rw [c3] at e1
    obtain rfl := Option.some.inj e1
    obtain ⟨b1, b2, b3⟩ := Pg_bd h c2
    have hsf := h.2.2.2.2.2 ls (List.mem_of_getElem? c2)
    have hl2 : 2 ≤ ls.length := by
      have := (CT_cl h.1 c2).2.1
      rcases Nat.lt_or_ge ls.length 2 with z | z
      · have := c4.mp (by omega)
        cases this
      · exact z
    obtain ⟨u, hu⟩ := tr_from hC hsf hX (v := v) (fun j l hj j1 j0 => by
      rcases c7 j l hj j1 with ⟨-, q, -, q2⟩ | ⟨q, -⟩ | ⟨q, -⟩
      · exact ⟨q, q2⟩
      · rw [j0] at q
        exact absurd q (by decide)
      · exact absurd j0 q)
    have hp : y.1 = p := nodup_inj hnd c5 e4
    obtain ⟨g1, g2, -⟩ := Pg_lit h c2 c3
    rw [Nat.add_zero] at g1
    have hin : cIn cn hd := fun t ht c hc => (g2.2.2 t ht).2.2.1 rfl c hc
    refine ⟨c, (p, aOf u (hdO K P Z T cs c)), ⟨ls, p, u, c2, hl2, e7, by rw [← hp]; exact c6, Bo_pl.mpr (fun b hb => ?_), rfl⟩, ?_⟩
    · obtain ⟨j, l, j1, j2, rfl⟩ := b3 b hb
      obtain ⟨k1, k2, -⟩ := Pg_lit h c2 j2
      exact (tr_lit hC hcn hps hnd k1 k2 hX (hu l (List.mem_of_getElem? j2))).mpr (c7 j l j2 j1)
    · obtain ⟨y1, y2⟩ := y
      show (y1, y2) = (p, (aOf u (hdO K P Z T cs c)).map (cnr cn rk))
      rw [show y1 = p from hp, show y2 = targs v hd from c8, ← (bA_args hcn g1 g2 (Or.inl e2) hin (hu hd (List.mem_of_getElem? c3))).1]
      rfl
  · rintro ⟨c, x, ⟨ls, hp, u, c2, hl2, e7', c6, hbo, ex⟩, ey⟩
    obtain ⟨hd, p, e1, e2, e3, e4, e5, e6, e7, e8, e9, e10⟩ := Pg_hd h c2
    rw [e7] at e7'
    obtain rfl := Option.some.inj e7'
    obtain ⟨b1, b2, b3⟩ := Pg_bd h c2
    have hsf := h.2.2.2.2.2 ls (List.mem_of_getElem? c2)
    have hbo2 := Bo_pl.mp hbo
    have hcl := (List.getElem?_eq_some_iff.mp c2).1
    have huv := tr_to hC hcn (ls := ls) (o := off cs c) (f := 1) (md := 0) (G := G) (ps := ps) (M := M) (fun j l hj => by
      obtain ⟨k1, k2, -⟩ := Pg_lit h c2 hj
      exact ⟨k1, k2⟩) hsf hX (u := u) (fun j l hj j1 j0 => by
      obtain ⟨k1, k2, -⟩ := Pg_lit h c2 hj
      obtain ⟨q, -, q2⟩ := hB_pos (hbo2 _ (List.mem_of_getElem? (b2 j l hj j1))) (by
        show K (off cs c + j) = 0
        rw [k1.1]
        exact j0)
      exact ⟨q, q2⟩)
    obtain ⟨g1, g2, -⟩ := Pg_lit h c2 e1
    rw [Nat.add_zero] at g1
    have hin : cIn cn hd := fun t ht c hc => (g2.2.2 t ht).2.2.1 rfl c hc
    refine ⟨c, ls, hd, fun z => cnr cn rk (u z), hcl, c2, e1, ⟨fun z => absurd z (by omega), fun z => (by cases z)⟩, ?_, ?_, fun j l hj j1 => ?_, ?_⟩
    · rw [ey, ex]
      exact e4
    · rw [ey, ex]
      exact c6
    · obtain ⟨k1, k2, -⟩ := Pg_lit h c2 hj
      exact (tr_lit hC hcn hps hnd k1 k2 hX (huv l (List.mem_of_getElem? hj))).mp (hbo2 _ (List.mem_of_getElem? (b2 j l hj j1)))
    · rw [ey, ex]
      show (aOf u (hdO K P Z T cs c)).map (cnr cn rk) = _
      exact (bA_args hcn g1 g2 (Or.inl e2) hin (huv hd (List.mem_of_getElem? e1))).1
end CPg
