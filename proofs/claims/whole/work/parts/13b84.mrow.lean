/-! pure: the model's rows -/
/-- rows as cells -/
def RwR (mc : List Con) (w : Nat) (rs : List (List Con)) (NC : Nat → Int32) : Prop := ∀ (r : Nat) (row : List Con), rs[r]? = some row → row.length = w ∧ ∀ (c : Nat) (y : Con), row[c]? = some y → y ∈ mc ∧ NC (12 * r + c) = nI (ix mc y)
section MRow
variable {post : Int32 → (Int32 × (Nat → Int32)) → Prop} {mc : List Con} {cols : List Nat} {rs : List (List Con)} {NC NCo VA : Nat → Int32} {v : Nat → Con}
/-- the columns' variables and their values -/
def ColR (mc : List Con) (cols : List Nat) (NCo VA : Nat → Int32) (v : Nat → Con) : Prop := cols.length ≤ 12 ∧ ∀ (c x : Nat), cols[c]? = some x → NCo c = nI x ∧ x < 13 ∧ VA x = nI (ix mc (v x)) ∧ v x ∈ mc
theorem row_14 {J : Int32 → Prop} {r : Nat} {row : List Con} (hmc : mc.length ≤ 1100) (hc : ColR mc cols NCo VA v) (hR : RwR mc cols.length rs NC) (hr : rs[r]? = some row) (hr5 : rs.length ≤ 5000) (h1 : row = cols.map v → post 1 (nI rs.length, NC)) (hJ : ¬ row = cols.map v → J (nI (r + 1))) : ∀ m c : Nat, c + m = cols.length → ∀ b : Bool, (b = true → row.take c = (cols.map v).take c) → (b = false → ¬ row = cols.map v) → lw_met_Mo_row_14 post J (nI cols.length) (nI r) NC NCo VA (nI rs.length) (m + 1) (nI c, b01 b) := by
  obtain ⟨c1, c2⟩ := hc
  obtain ⟨r1, r2⟩ := hR r row hr
  have hrl := (List.getElem?_eq_some_iff.mp hr).1
  have e63 : ∀ (c : Nat) (b : Bool), (b = true → row = cols.map v) → (b = false → ¬ row = cols.map v) → jw_met_Mo_row_63 post J (b01 b) (nI r) (nI rs.length) NC () := by
    intro c b g1 g2
    refine b01_if (fun z => ?_) (fun z => h1 (g1 z))
    rw [nI_1]
    exact hJ (g2 z)
  intro m
  induction m with
  | zero =>
    intro c hc0 b hb1 hb2
    refine pk_le cols.length c (fun _ => e63 c b (fun z => ?_) hb2) (fun q => absurd q (by omega))
    have := hb1 z
    rw [List.take_of_length_le (by omega), List.take_of_length_le (by rw [List.length_map]; omega)] at this
    exact this
  | succ m ih =>
    intro c hc0 b hb1 hb2
    refine pk_le cols.length c (fun q => absurd q (by omega)) (fun _ => ?_)
    refine b01_if (fun z => e63 c b (fun w => by rw [z] at w; cases w) hb2) (fun z => ?_)
    intro y8 h8 y9 h9
    rw [show (12 : Int32) = nI 12 from rfl, pk_mul] at h8
    rw [h8, nI_add] at h9
    subst h9
    have hcl : c < cols.length := by omega
    have hcr : c < row.length := by omega
    have hce := List.getElem?_eq_getElem hcl
    have hre := List.getElem?_eq_getElem hcr
    obtain ⟨x1, x2, x3, x4⟩ := c2 c _ hce
    obtain ⟨w1, w2⟩ := r2 c _ hre
    refine ⟨vp_in_nI (by omega) (by omega), fun y11 h11 => ⟨vp_in_nI (by omega) (by omega), fun y13 h13 => ?_⟩⟩
    rw [nI_clamp (by omega), w2] at h11
    rw [nI_clamp (by omega), x1] at h13
    subst h13
    refine ⟨vp_in_nI x2 (by omega), fun y15 h15 y16 h16 => ?_⟩
    rw [nI_clamp (by omega), x3] at h15
    have i1 := ix_lt w1
    have i2 := ix_lt x4
    have heq : (y11 = y15) ↔ row[c] = v cols[c] := by
      rw [h11, h15, nI_eq (by omega) (by omega)]
      exact ⟨fun w => ix_inj w1 x4 w, fun w => by rw [w]⟩
    have tk : row.take (c + 1) = (cols.map v).take (c + 1) ↔ row.take c = (cols.map v).take c ∧ row[c] = v cols[c] := by
      have hcm : c < (cols.map v).length := by rw [List.length_map]; exact hcl
      rw [take_push _ c hcr, take_push _ c hcm, List.getElem_map]
      constructor
      · intro h
        have := List.append_inj h (by rw [List.length_take, List.length_take, List.length_map, r1])
        exact ⟨this.1, by simpa using this.2⟩
      · rintro ⟨q1, q2⟩
        rw [q1, q2]
    rw [nI_1]
    by_cases g : row[c] = v cols[c]
    · rw [if_pos (heq.mpr g)] at h16
      rw [h16]
      exact ih (c + 1) (by omega) true (fun _ => tk.mpr ⟨hb1 z, g⟩) (fun w => by cases w)
    · rw [if_neg (fun w => g (heq.mp w))] at h16
      rw [h16]
      refine ih (c + 1) (by omega) false (fun w => by cases w) (fun _ w => g ?_)
      have : row.take (c + 1) = (cols.map v).take (c + 1) := by rw [w]
      exact (tk.mp this).2
theorem row_89 (hmc : mc.length ≤ 1100) (hc : ColR mc cols NCo VA v) (hR : RwR mc cols.length rs NC) (hr5 : rs.length < 5000) (h2 : ∀ NC2, RwR mc cols.length (rs ++ [cols.map v]) NC2 → post 1 (nI (rs.length + 1), NC2)) : ∀ m c : Nat, c + m = cols.length → ∀ N1 : Nat → Int32, (∀ j, j < 12 * rs.length → N1 j = NC j) → (∀ (i x : Nat), i < c → cols[i]? = some x → N1 (12 * rs.length + i) = nI (ix mc (v x))) → lw_met_Mo_row_89 post (nI cols.length) (nI rs.length) NCo VA (m + 1) (nI c, N1) := by
  obtain ⟨c1, c2⟩ := hc
  intro m
  induction m with
  | zero =>
    intro c hc0 N1 n1 n2
    refine pk_le cols.length c (fun _ => ?_) (fun q => absurd q (by omega))
    intro y29 h29
    rw [nI_1] at h29
    subst h29
    refine h2 N1 (fun r row hr => ?_)
    rcases Nat.lt_or_ge r rs.length with g | g
    · rw [List.getElem?_append_left g] at hr
      obtain ⟨r1, r2⟩ := hR r row hr
      refine ⟨r1, fun c3 y hy => ?_⟩
      have hcl := (List.getElem?_eq_some_iff.mp hy).1
      obtain ⟨w1, w2⟩ := r2 c3 y hy
      exact ⟨w1, (n1 _ (by omega)).trans w2⟩
    · have hi := (List.getElem?_eq_some_iff.mp hr).1
      rw [List.length_append, List.length_singleton] at hi
      obtain rfl : r = rs.length := by omega
      rw [List.getElem?_append_right (Nat.le_refl _), Nat.sub_self] at hr
      obtain rfl : cols.map v = row := by simpa using hr
      refine ⟨List.length_map _, fun c3 y hy => ?_⟩
      rw [List.getElem?_map] at hy
      obtain ⟨x, hx, e⟩ := Option.map_eq_some_iff.mp hy
      have hcl := (List.getElem?_eq_some_iff.mp hx).1
      rw [← e]
      exact ⟨(c2 c3 x hx).2.2.2, n2 c3 x (by omega) hx⟩
  | succ m ih =>
    intro c hc0 N1 n1 n2
    refine pk_le cols.length c (fun q => absurd q (by omega)) (fun _ => ?_)
    intro y21 h21 y22 h22
    rw [show (12 : Int32) = nI 12 from rfl, pk_mul] at h21
    rw [h21, nI_add] at h22
    subst h22
    have hcl : c < cols.length := by omega
    have hce := List.getElem?_eq_getElem hcl
    obtain ⟨x1, x2, x3, x4⟩ := c2 c _ hce
    refine ⟨vp_in_nI (by omega) (by omega), fun y24 h24 => ?_⟩
    rw [nI_clamp (by omega), x1] at h24
    subst h24
    refine ⟨vp_in_nI x2 (by omega), fun y26 h26 => ⟨vp_in_nI (by omega) (by omega), fun g28 h28 => ?_⟩⟩
    rw [nI_clamp (by omega), x3] at h26
    rw [nI_clamp (by omega)] at h28
    rw [nI_1]
    refine ih (c + 1) (by omega) g28 (fun j hj => ?_) (fun i x hi hx => ?_)
    · rw [h28, upd_ne (by omega)]
      exact n1 j hj
    · rw [h28]
      by_cases g : i = c
      · subst g
        rw [hce] at hx
        obtain rfl := Option.some.inj hx
        rw [upd_same, h26]
      · rw [upd_ne (by omega)]
        exact n2 i x (by omega) hx
theorem row_2 (hmc : mc.length ≤ 1100) (hc : ColR mc cols NCo VA v) (hR : RwR mc cols.length rs NC) (hr5 : rs.length ≤ 5000) (h1 : cols.map v ∈ rs → post 1 (nI rs.length, NC)) (h2 : ∀ NC2, ¬ cols.map v ∈ rs → rs.length < 5000 → RwR mc cols.length (rs ++ [cols.map v]) NC2 → post 1 (nI (rs.length + 1), NC2)) (h0 : ¬ cols.map v ∈ rs → rs.length = 5000 → post 0 (nI rs.length, NC)) : ∀ m r : Nat, r + m = rs.length → (∀ (i : Nat) (row : List Con), i < r → rs[i]? = some row → ¬ row = cols.map v) → lw_met_Mo_row_2 post (nI rs.length) NC (nI cols.length) NCo VA (m + 1) (nI r) := by
  intro m
  induction m with
  | zero =>
    intro r hr hno
    refine pk_le rs.length r (fun _ => ?_) (fun q => absurd q (by omega))
    have hn : ¬ cols.map v ∈ rs := by
      intro hm
      obtain ⟨i, hi, e⟩ := List.mem_iff_getElem.mp hm
      exact hno i _ (by omega) (List.getElem?_eq_getElem hi) e
    refine pk_eq rs.length 5000 (fun q => h0 hn q) (fun q => ?_)
    exact ⟨_, row_89 hmc hc hR (by omega) (fun NC2 w => h2 NC2 hn (by omega) w) cols.length 0 (Nat.zero_add _) NC (fun _ _ => rfl) (fun i x hi => absurd hi (by omega))⟩
  | succ m ih =>
    intro r hr hno
    refine pk_le rs.length r (fun q => absurd q (by omega)) (fun _ => ?_)
    have hrl : r < rs.length := by omega
    have hre := List.getElem?_eq_getElem hrl
    refine ⟨_, row_14 (row := rs[r]) hmc hc hR hre hr5 (fun e => h1 (by rw [← e]; exact List.getElem_mem hrl)) (fun e => ?_) cols.length 0 (Nat.zero_add _) true (fun _ => rfl) (fun w => by cases w)⟩
    refine ih (r + 1) (by omega) (fun i row hi hrow => ?_)
    by_cases g : i = r
    · subst g
      rw [hre] at hrow
      rw [← Option.some.inj hrow]
      exact e
    · exact hno i row (by omega) hrow
theorem sp_Mo_row (hmc : mc.length ≤ 1100) (hc : ColR mc cols NCo VA v) (hR : RwR mc cols.length rs NC) (hr5 : rs.length ≤ 5000) (h1 : cols.map v ∈ rs → post 1 (nI rs.length, NC)) (h2 : ∀ NC2, ¬ cols.map v ∈ rs → rs.length < 5000 → RwR mc cols.length (rs ++ [cols.map v]) NC2 → post 1 (nI (rs.length + 1), NC2)) (h0 : ¬ cols.map v ∈ rs → rs.length = 5000 → post 0 (nI rs.length, NC)) : wp_met_Mo_row post (nI rs.length) (nI cols.length) VA NC NCo :=
  ⟨_, row_2 hmc hc hR hr5 h1 h2 h0 rs.length 0 (Nat.zero_add _) (fun i row hi => absurd hi (by omega))⟩
end MRow
section JRow
variable {post : Int32 → (Int32 × Int32 × Int32 × Int32 × Int32 × (Nat → Int32) × (Nat → Int32) × (Nat → Int32) × (Nat → Int32) × (Nat → Int32) × (Nat → Int32) × (Nat → Int32) × (Nat → Int32) × (Nat → Int32) × (Nat → Int32)) → Prop} {mc : List Con} {fs : List Fct} {ps : List Wd} {ls : List Lt} {F CN CV CF PA LC LK LP LT NCo FP FT FS Tb Sg VA BB AT NC AM : Nat → Int32} {live cl : Nat} {pl la : Int32} {cols : List Nat}
/-- rows out of a question's values -/
def RQ (mc : List Con) (ps : List Wd) (ls : List Lt) (fs : List Fct) (cols : List Nat) (rs : List (List Con)) (NC : Nat → Int32) : Prop := RwR mc cols.length rs NC ∧ rs.length ≤ 5000 ∧ rs.Nodup ∧ ∀ r ∈ rs, ∃ v, Bd ps 1 ls fs fs.length v ∧ r = cols.map v
def IRq (mc : List Con) (ps : List Wd) (ls : List Lt) (fs : List Fct) (cols : List Nat) (la : Int32) (FP FT FS Tb : Nat → Int32) (C : (Nat → Con) → Prop) (a : Ac) : Prop := ∃ rs NC, a = (nI fs.length, la, nI rs.length, FP, FT, FS, Tb, NC) ∧ RQ mc ps ls fs cols rs NC ∧ ∀ v, C v → Bd ps 1 ls fs fs.length v → cols.map v ∈ rs
theorem sp_Mo_join_row (hl : live < 2) (hcl : cl < 257) (hn : mc.Nodup) (hmc : mc.length ≤ 1100) (hw : ∀ c ∈ mc, wOk c) (hps : ps.Nodup) (hpl : ps.length ≤ 64) (hC : CLp 1 ps mc live cl LC LK LP LT ls) {qq : Bool} (hM : MCo qq mc (1100 * live) CN CV CF F) (hAr : ∀ l ∈ ls, (l.1 = 0 ∨ l.1 = 1) → ∀ i : Nat, ps[i]? = some l.2.1 → PA (65 * live + i) = nI l.2.2.2.2.length) (hB : BBok BB)
    (hbn : ∀ l ∈ ls, ∀ t ∈ l.2.2.2.2, ∀ v, t.1 = Sum.inl v → bnd 1 ls v) (hF : MFa mc fs FP FT Tb) (hFa : ∀ x ∈ fs, PA (65 * live + x.1) = nI x.2.length) (hcols : cols.length ≤ 12 ∧ ∀ (c x : Nat), cols[c]? = some x → NCo c = nI x ∧ ∃ l ∈ ls, ∃ t ∈ l.2.2.2.2, t.1 = Sum.inl x)
    (h1 : ∀ rs pl aC Sg2 VA2 BB2 AM2 AT2 NC2, RQ mc ps ls fs cols rs NC2 → (∀ v, Bd ps 1 ls fs fs.length v → cols.map v ∈ rs) → BBok BB2 → post 1 (nI fs.length, la, pl, aC, nI rs.length, FP, FT, FS, Tb, Sg2, VA2, BB2, AM2, AT2, NC2))
    (h0 : ∀ rs pl aC nr Sg2 VA2 BB2 AM2 AT2 NC2, RQ mc ps ls fs cols rs NC2 → rs.length = 5000 → (∃ v, Bd ps 1 ls fs fs.length v ∧ ¬ cols.map v ∈ rs) → BBok BB2 → post 0 (nI fs.length, la, pl, aC, nr, FP, FT, FS, Tb, Sg2, VA2, BB2, AM2, AT2, NC2)) :
    wp_met_Mo_join post (nI fs.length) 0 1 (nI live) (nI live) (nI cl) (nI fs.length) la pl 0 (nI cols.length) F PA CN CV CF LC LK LP LT FP FT FS Tb Sg VA BB AM AT NC NCo := by
  have hf20 : fs.length ≤ 20000 := by
    have := hF.1.1
    rw [List.length_map] at this
    exact this
  obtain ⟨c1, c2, c3⟩ := hC
  have hsf : sf 1 = 1 := rfl
  have h12 : ∀ l ∈ ls, ∀ t ∈ l.2.2.2.2, ∀ v, t.1 = Sum.inl v → v < 12 := by
    intro l hl2
    obtain ⟨i, hi, e⟩ := List.mem_iff_getElem.mp hl2
    obtain ⟨-, -, -, -, u5, -⟩ := c3 i l (by rw [List.getElem?_eq_getElem hi, e])
    exact u5
  have z10 : ¬ (1 : Int32) = 0 := by decide
  refine ⟨_, jn_col (md := 1) hl hcl ⟨c1, c2, c3⟩ (fun al V4 hAl => ?_) (max 1 (ls.length + sf 1) - 1) 1 (by omega) (by omega) [] AM (by simp) (fun i x hx => by cases hx) (fun j l hj b1 b2 => absurd b2 (by omega))⟩
  refine sp_Mo_free0 hB (fun B2 hB2 => ?_)
  intro g18 h18
  have hal := hAl.1
  refine ⟨wj fs.length al.length + 1, ?_⟩
  refine jn_walk (md := 1) (ls := ls) (fs0 := fs) (I := IRq mc ps ls fs cols la FP FT FS Tb) hl hcl hn hmc hps hpl ⟨c1, c2, c3⟩ hAr hAl (Nat.le_refl _) (by omega) ⟨fun C a hI => ?_, fun C C2 a hI hCC => ?_⟩ ?_ al.length 0 (Nat.zero_add _) (fun _ => False) (nI fs.length, la, 0, FP, FT, FS, Tb, NC) pl Sg VA B2 g18 (fun _ => none) (fun _ => ([], 0)) 1 ?_ (fun j hj => Or.inl ⟨rfl, hB2 j hj⟩) ⟨fun j e _ he => (by cases he), fun i x hi => absurd hi (by omega)⟩ (by rw [h18]; exact upd_same) ?_ _ (Nat.le_refl _)
  · obtain ⟨rs, NC2, rfl, hq, -⟩ := hI
    exact ⟨fs, hF, hFa, fun f hf => rfl⟩
  · obtain ⟨rs, NC2, rfl, hq, hc⟩ := hI
    refine ⟨rs, NC2, rfl, hq, fun v hv hb => ?_⟩
    rcases hCC v hv with g | g
    · exact hc v g hb
    · exact absurd ((Bd_al hAl).mp hb.1) g
  · intro C a pl2 Sg2 VA2 BB2 AT2 b2 v2 m hI hBv hJ hK n hnn
    obtain ⟨n1, rfl⟩ : ∃ n1, n = n1 + 1 := ⟨n - 1, by omega⟩
    obtain ⟨rs, NC2, rfl, hq, hc⟩ := hI
    have hvars := JA_vars hAl hJ hBv h12 hbn
    have hag : ∀ v, Agr b2 v2 v → ∀ l ∈ ls, targs v l = targs v2 l := fun v hv l hl2 => targs_agr (fun t ht j hj => (hvars l hl2 t ht j hj).2.2 v hv)
    have hself : Agr b2 v2 v2 := fun _ _ _ _ => rfl
    have hcm : ∀ v, Agr b2 v2 v → cols.map v = cols.map v2 := by
      intro v hv
      apply List.map_congr_left
      intro x hx
      obtain ⟨i, hi, e⟩ := List.mem_iff_getElem.mp hx
      obtain ⟨-, l, hl2, t, ht, hj⟩ := hcols.2 i x (by rw [List.getElem?_eq_getElem hi, e])
      exact (hvars l hl2 t ht x hj).2.2 v hv
    have hcr : ColR mc cols NCo VA2 v2 := by
      refine ⟨hcols.1, fun c x hx => ?_⟩
      obtain ⟨g1, l, hl2, t, ht, hj⟩ := hcols.2 c x hx
      obtain ⟨u1, u2, -⟩ := hvars l hl2 t ht x hj
      have := h12 l hl2 t ht x hj
      exact ⟨g1, by omega, u1, u2⟩
    have hpos : ∀ (j : Nat) (l : Lt), ls[j]? = some l → 1 ≤ j + sf 1 → l.1 = 0 → AtS ps fs fs.length v2 l := by
      refine (Bd_al hAl).mpr (fun y hy => ?_)
      obtain ⟨i, hi, e⟩ := List.mem_iff_getElem.mp hy
      exact (hJ.2 i y hi (by rw [List.getElem?_eq_getElem hi, e])).1 v2 hself
    have iffB : (∀ (j : Nat) (l : Lt), ls[j]? = some l → 1 ≤ j + sf 1 → ¬ l.1 = 0 → lHo ps (fun x => x ∈ fs) v2 l) ↔ Bd ps 1 ls fs fs.length v2 := ⟨fun h => ⟨hpos, h⟩, fun h => h.2⟩
    refine ⟨fun z => absurd z (nI_pos (by omega)), fun _ => ?_⟩
    refine ⟨fun _ => ?_, fun z => absurd rfl z⟩
    refine sp_Mo_holds (md := 1) (ls := ls) (fs := fs) (v := v2) hl hcl hn hmc hps hpl ⟨c1, c2, c3⟩ hM hAr hF hFa (fun j l hj _ t ht x hx => ?_) (fun pl3 Sg3 hh => ?_) (fun pl3 Sg3 hh => ?_)
    · obtain ⟨u1, u2, -⟩ := hvars l (List.mem_of_getElem? hj) t ht x hx
      exact ⟨u1, u2, hw _ u2⟩
    · have hB2' := iffB.mp hh
      refine ⟨fun z => absurd z z10, fun _ => ?_⟩
      refine ⟨fun z => absurd z z10, fun _ => ?_⟩
      obtain ⟨q1, q2, q3, q4⟩ := hq
      refine sp_Mo_row (cols := cols) (rs := rs) hmc hcr q1 q2 (fun hin => ?_) (fun NC4 hno hlt hR4 => ?_) (fun hno hfull => ?_)
      · refine ⟨fun z => absurd z z10, fun _ => ?_⟩
        refine hK (_, _, _, _, _, _, _, _) pl3 Sg3 ⟨rs, NC2, rfl, ⟨q1, q2, q3, q4⟩, fun v hv hb => ?_⟩ n1 (by omega)
        rcases hv with hv | hv
        · exact hc v hv hb
        · rw [hcm v hv]
          exact hin
      · refine ⟨fun z => absurd z z10, fun _ => ?_⟩
        have hlen : (rs ++ [cols.map v2]).length = rs.length + 1 := by simp
        refine hK (nI fs.length, la, nI (rs.length + 1), FP, FT, FS, Tb, NC4) pl3 Sg3 ⟨rs ++ [cols.map v2], NC4, by rw [hlen], ⟨hR4, by omega, nodup_push q3 hno, fun r hr => ?_⟩, fun v hv hb => ?_⟩ n1 (by omega)
        · rcases List.mem_append.mp hr with g | g
          · exact q4 r g
          · rw [List.mem_singleton] at g
            exact ⟨v2, hB2', g⟩
        · rcases hv with hv | hv
          · exact List.mem_append_left _ (hc v hv hb)
          · rw [hcm v hv]
            exact List.mem_append_right _ (List.mem_singleton.mpr rfl)
      · refine ⟨fun _ => ?_, fun z => absurd rfl z⟩
        exact h0 rs pl3 _ _ Sg3 VA2 BB2 V4 AT2 NC2 ⟨q1, q2, q3, q4⟩ hfull ⟨v2, hB2', hno⟩ (BBok_of hBv)
    · refine ⟨fun _ => ?_, fun z => absurd rfl z⟩
      refine hK (_, _, _, _, _, _, _, _) pl3 Sg3 ⟨rs, NC2, rfl, hq, fun v hv hb => ?_⟩ n1 (by omega)
      rcases hv with hv | hv
      · exact hc v hv hb
      · exact absurd (iffB.mpr ((Bd_agr (hag v hv)).mp hb)) hh
  · exact ⟨[], NC, rfl, ⟨fun r row hr => (by cases hr), Nat.zero_le _, List.nodup_nil, fun r hr => (by cases hr)⟩, fun v hv => absurd hv (fun w => w)⟩
  · intro a pl2 Sg2 VA2 BB2 AT2 b2 v2 hI hBv _ _ n hnn
    obtain ⟨n1, rfl⟩ : ∃ n1, n = n1 + 1 := ⟨n - 1, by omega⟩
    obtain ⟨rs, NC2, rfl, hq, hc⟩ := hI
    refine ⟨fun _ => ?_, fun z => absurd (by decide) z⟩
    exact h1 rs pl2 _ Sg2 VA2 BB2 V4 AT2 NC2 hq (fun v hb => hc v (Or.inr (fun j e _ he => by cases he)) hb) (BBok_of hBv)
end JRow
