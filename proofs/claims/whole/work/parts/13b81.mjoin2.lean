/-! pure: the model's search, its atoms and what it finds -/
def BBok (BB : Nat → Int32) : Prop := ∀ j, j < 13 → BB j = -1 ∨ ∃ e, e ≤ 13 ∧ BB j = nI e
theorem BBok_of {mc : List Con} {bb : Nat → Option Nat} {va : Nat → Con} {BB VA : Nat → Int32} (h : BvR mc bb va BB VA) : BBok BB := by
  intro j hj
  rcases h j hj with ⟨-, x2⟩ | ⟨e, -, x2, x3, -⟩
  · exact Or.inl x2
  · exact Or.inr ⟨e, x2, x3⟩
theorem sp_Mo_free0 {post : (Nat → Int32) → Prop} {BB : Nat → Int32} (hB : BBok BB) (h : ∀ B2, (∀ j, j < 13 → B2 j = -1) → post B2) : wp_met_Mo_free post 0 BB := by
  refine ⟨_, free_lp (d := 0) (BB := BB) (fun B2 hB2 => h B2 (fun j hj => ?_)) 13 0 (by omega) BB (fun j hj => absurd hj (by omega)) (fun _ _ => rfl)⟩
  rw [hB2 j hj]
  rcases hB j hj with e | ⟨e, he, e2⟩
  · rw [e]
    decide
  · rw [e2, if_neg (fun w => absurd ((nI_ltI (by omega) (by omega)).mp w) (by omega))]
section JCol
variable {post : Int32 → (Int32 × Int32 × Int32 × Int32 × Int32 × (Nat → Int32) × (Nat → Int32) × (Nat → Int32) × (Nat → Int32) × (Nat → Int32) × (Nat → Int32) × (Nat → Int32) × (Nat → Int32) × (Nat → Int32) × (Nat → Int32)) → Prop} {mc : List Con} {ps : List Wd} {ls : List Lt} {F CN CV CF PA LC LK LP LT NCo FP FT FS Tb Sg VA BB AT NC : Nat → Int32} {live cl md : Nat} {qn stg nw fa la pl nr a0 : Int32}
theorem jn_col (hl : live < 2) (hcl : cl < 257) (hC : CLp md ps mc live cl LC LK LP LT ls) (h : ∀ al V4, AlR md ls al V4 → jw_met_Mo_join_72 post AT fa la pl nr FP FT FS Tb Sg VA NC BB (nI al.length) V4 qn stg (nI live) (nI live) (nI cl) PA LP LT nw NCo F CN CV CF LC LK a0 ()) : ∀ m k : Nat, k + m = max 1 (ls.length + sf md) → 1 ≤ k → ∀ (al : List (Nat × Lt)) (V4 : Nat → Int32), al.length + 1 ≤ k → (∀ (i : Nat) (x : Nat × Lt), al[i]? = some x → V4 i = nI x.1 ∧ x.1 < 13 ∧ x.2.1 = 0 ∧ 1 ≤ x.1 ∧ ∃ j : Nat, ls[j]? = some x.2 ∧ j + sf md = x.1) → (∀ (j : Nat) (l : Lt), ls[j]? = some l → 1 ≤ j + sf md → j + sf md < k → l.1 = 0 → ∃ i : Nat, al[i]? = some (j + sf md, l)) → lw_met_Mo_join_8 post (nI live) (nI cl) LC LK (nI live) AT fa la pl nr FP FT FS Tb Sg VA NC BB qn stg PA LP LT nw NCo F CN CV CF a0 (m + 1) (nI k, nI al.length, V4) := by
  obtain ⟨c1, c2, c3⟩ := hC
  have hsf : sf md ≤ 1 := by unfold sf; split <;> omega
  intro m
  induction m with
  | zero =>
    intro k hk hk1 al V4 hal h1 h2 y5 h5 y6 h6
    rw [show (257 : Int32) = nI 257 from rfl, pk_mul] at h5
    rw [h5, nI_add] at h6
    subst h6
    refine ⟨vp_in_nI (by omega) (by omega), fun y8 h8 => ?_⟩
    rw [nI_clamp (by omega), c1] at h8
    subst h8
    refine pk_le (ls.length + sf md) k (fun _ => ?_) (fun q => absurd q (by omega))
    refine h al V4 ⟨by omega, h1, fun j l hj b1 b2 => h2 j l hj b1 ?_ b2⟩
    have := (List.getElem?_eq_some_iff.mp hj).1
    omega
  | succ m ih =>
    intro k hk hk1 al V4 hal h1 h2 y5 h5 y6 h6
    rw [show (257 : Int32) = nI 257 from rfl, pk_mul] at h5
    rw [h5, nI_add] at h6
    subst h6
    refine ⟨vp_in_nI (by omega) (by omega), fun y8 h8 => ?_⟩
    rw [nI_clamp (by omega), c1] at h8
    subst h8
    refine pk_le (ls.length + sf md) k (fun q => absurd q (by omega)) (fun _ => ?_)
    have hjl : k - sf md < ls.length := by omega
    have hjk : k - sf md + sf md = k := by omega
    have hje := List.getElem?_eq_getElem hjl
    obtain ⟨d1, d2, -⟩ := c3 _ _ hje
    rw [hjk] at d2
    refine sp_Mo_literal ?_
    refine ⟨vp_in_nI (by omega) (by omega), fun y12 h12 => ?_⟩
    rw [nI_clamp (by omega), d2] at h12
    refine ⟨fun z => ?_, fun z => ?_⟩
    · have z0 : (ls[k - sf md]).1 = 0 := (lkd_0 d1).mp (h12.symm.trans z)
      refine ⟨vp_in_nI (by omega) (by omega), fun g14 h14 y15 h15 => ?_⟩
      rw [nI_clamp (by omega)] at h14
      rw [nI_1] at h15
      rw [h15, nI_1]
      have hlen : al.length + 1 = (al ++ [(k, ls[k - sf md])]).length := by simp
      rw [hlen]
      refine ih (k + 1) (by omega) (by omega) (al ++ [(k, ls[k - sf md])]) g14 (by rw [← hlen]; omega) (fun i x hx => ?_) (fun j l hj b1 b2 b3 => ?_)
      · rcases Nat.lt_or_ge i al.length with q | q
        · rw [List.getElem?_append_left q] at hx
          rw [h14, upd_ne (by omega)]
          exact h1 i x hx
        · have hi := (List.getElem?_eq_some_iff.mp hx).1
          rw [← hlen] at hi
          obtain rfl : i = al.length := by omega
          rw [List.getElem?_append_right (Nat.le_refl _), Nat.sub_self] at hx
          obtain rfl : (k, ls[k - sf md]) = x := by simpa using hx
          exact ⟨by rw [h14, upd_same], by show k < 13; omega, z0, hk1, _, hje, hjk⟩
      · by_cases q : j + sf md = k
        · obtain rfl : j = k - sf md := by omega
          rw [hje] at hj
          obtain rfl := Option.some.inj hj
          refine ⟨al.length, ?_⟩
          rw [List.getElem?_append_right (Nat.le_refl _), Nat.sub_self, hjk]
          rfl
        · obtain ⟨i, hi⟩ := h2 j l hj b1 (by omega) b3
          refine ⟨i, ?_⟩
          rw [List.getElem?_append_left (List.getElem?_eq_some_iff.mp hi).1]
          exact hi
    · have z0 : ¬ (ls[k - sf md]).1 = 0 := fun w => z (h12.trans ((lkd_0 d1).mpr w))
      rw [nI_1]
      refine ih (k + 1) (by omega) (by omega) al V4 (by omega) h1 (fun j l hj b1 b2 b3 => ?_)
      by_cases q : j + sf md = k
      · obtain rfl : j = k - sf md := by omega
        rw [hje] at hj
        obtain rfl := Option.some.inj hj
        exact absurd b3 z0
      · exact h2 j l hj b1 (by omega) b3
end JCol
/-- a body's values: its atoms are among the first L facts; what else it says is so -/
def Bd (ps : List Wd) (md : Nat) (ls : List Lt) (fs0 : List Fct) (L : Nat) (v : Nat → Con) : Prop := (∀ (j : Nat) (l : Lt), ls[j]? = some l → 1 ≤ j + sf md → l.1 = 0 → AtS ps fs0 L v l) ∧ (∀ (j : Nat) (l : Lt), ls[j]? = some l → 1 ≤ j + sf md → ¬ l.1 = 0 → lHo ps (fun x => x ∈ fs0) v l)
theorem Bd_al {ps : List Wd} {md : Nat} {ls : List Lt} {fs0 : List Fct} {L : Nat} {v : Nat → Con} {al : List (Nat × Lt)} {V4 : Nat → Int32} (hAl : AlR md ls al V4) : (∀ (j : Nat) (l : Lt), ls[j]? = some l → 1 ≤ j + sf md → l.1 = 0 → AtS ps fs0 L v l) ↔ ∀ y ∈ al, AtS ps fs0 L v y.2 := by
  obtain ⟨-, a1, a2⟩ := hAl
  constructor
  · intro h y hy
    obtain ⟨i, hi, e⟩ := List.mem_iff_getElem.mp hy
    obtain ⟨-, -, y0, y1, j, j1, j2⟩ := a1 i y (by rw [List.getElem?_eq_getElem hi, e])
    exact h j y.2 j1 (by omega) y0
  · intro h j l hj h1 h0
    obtain ⟨i, hi⟩ := a2 j l hj h1 h0
    exact h _ (List.mem_of_getElem? hi)
theorem targs_agr {v w : Nat → Con} {l : Lt} (h : ∀ t ∈ l.2.2.2.2, ∀ j, t.1 = Sum.inl j → v j = w j) : targs v l = targs w l := by
  unfold targs
  apply List.map_congr_left
  intro t ht
  cases ht1 : t.1 with
  | inl j => exact h t ht j ht1
  | inr c => rfl
theorem lHo_agr {ps : List Wd} {X : Fct → Prop} {v w : Nat → Con} {l : Lt} (h : targs v l = targs w l) : lHo ps X v l ↔ lHo ps X w l := by
  unfold lHo
  rw [h]
theorem Mt_agr {ps : List Wd} {v w : Nat → Con} {l : Lt} {y : Fct} (h : targs v l = targs w l) : Mt ps v l y ↔ Mt ps w l y := by
  unfold Mt
  rw [h]
theorem AtS_agr {ps : List Wd} {fs0 : List Fct} {L : Nat} {v w : Nat → Con} {l : Lt} (h : targs v l = targs w l) : AtS ps fs0 L v l ↔ AtS ps fs0 L w l := by
  unfold AtS
  constructor
  · rintro ⟨f, y, h1, h2, h3⟩
    exact ⟨f, y, h1, h2, (Mt_agr h).mp h3⟩
  · rintro ⟨f, y, h1, h2, h3⟩
    exact ⟨f, y, h1, h2, (Mt_agr h).mpr h3⟩
theorem Bd_agr {ps : List Wd} {md : Nat} {ls : List Lt} {fs0 : List Fct} {L : Nat} {v w : Nat → Con} (h : ∀ l ∈ ls, targs v l = targs w l) : Bd ps md ls fs0 L v ↔ Bd ps md ls fs0 L w := by
  unfold Bd
  constructor
  · rintro ⟨h1, h2⟩
    exact ⟨fun j l hj a b => (AtS_agr (h l (List.mem_of_getElem? hj))).mp (h1 j l hj a b), fun j l hj a b => (lHo_agr (h l (List.mem_of_getElem? hj))).mp (h2 j l hj a b)⟩
  · rintro ⟨h1, h2⟩
    exact ⟨fun j l hj a b => (AtS_agr (h l (List.mem_of_getElem? hj))).mpr (h1 j l hj a b), fun j l hj a b => (lHo_agr (h l (List.mem_of_getElem? hj))).mpr (h2 j l hj a b)⟩
/-- all variables have values when all atoms stand -/
theorem JA_vars {ps : List Wd} {mc : List Con} {fs0 : List Fct} {L md : Nat} {ls : List Lt} {al : List (Nat × Lt)} {V4 BB VA : Nat → Int32} {bb : Nat → Option Nat} {va : Nat → Con} (hAl : AlR md ls al V4) (hJ : JA ps fs0 L al al.length bb va) (hB : BvR mc bb va BB VA) (h12 : ∀ l ∈ ls, ∀ t ∈ l.2.2.2.2, ∀ v, t.1 = Sum.inl v → v < 12) (hb : ∀ l ∈ ls, ∀ t ∈ l.2.2.2.2, ∀ v, t.1 = Sum.inl v → bnd md ls v) : ∀ l ∈ ls, ∀ t ∈ l.2.2.2.2, ∀ j, t.1 = Sum.inl j → VA j = nI (ix mc (va j)) ∧ va j ∈ mc ∧ ∀ v, Agr bb va v → v j = va j := by
  intro l hl t ht j hj
  have hj12 := h12 l hl t ht j hj
  obtain ⟨j2, l2, g1, g2, g3, t2, g4, g5⟩ := hb l hl t ht j hj
  obtain ⟨i, hi⟩ := hAl.2.2 j2 l2 g1 g2 g3
  have hne := (hJ.2 i _ (List.getElem?_eq_some_iff.mp hi).1 hi).2 t2 g4 j g5
  rcases hB j (by omega) with ⟨x1, -⟩ | ⟨e, x1, x2, x3, x4, x5⟩
  · exact absurd x1 hne
  · exact ⟨x5, x4, fun v hv => hv j e (by omega) x1⟩
section JFact
variable {post : Int32 → (Int32 × Int32 × Int32 × Int32 × Int32 × (Nat → Int32) × (Nat → Int32) × (Nat → Int32) × (Nat → Int32) × (Nat → Int32) × (Nat → Int32) × (Nat → Int32) × (Nat → Int32) × (Nat → Int32) × (Nat → Int32)) → Prop} {mc : List Con} {fs0 : List Fct} {ps : List Wd} {ls : List Lt} {F CN CV CF PA LC LK LP LT NCo FP FT FS Tb Sg VA BB AT NC AM : Nat → Int32} {live cl L hp lb sg : Nat} {nw pl nr : Int32} {hd : Lt}
/-- the facts when the search for one clause has taken some more -/
def FQ (mc : List Con) (ps : List Wd) (ls : List Lt) (fs0 : List Fct) (L live : Nat) (PA FS0 : Nat → Int32) (hp sg : Nat) (hd : Lt) (fs : List Fct) (FP FT FS Tb : Nat → Int32) : Prop := MFa mc fs FP FT Tb ∧ (∀ x ∈ fs, PA (65 * live + x.1) = nI x.2.length) ∧ Pre fs0 fs ∧ fs.Nodup ∧ (∀ f, f < fs0.length → FS f = FS0 f) ∧ (∀ f, fs0.length ≤ f → f < fs.length → FS f = nI sg) ∧ (∀ x ∈ fs, x ∈ fs0 ∨ ∃ v, Bd ps 0 ls fs0 L v ∧ x = (hp, targs v hd))
theorem FQ_neg {fs : List Fct} {FP FT FS Tb FS0 : Nat → Int32} (h : FQ mc ps ls fs0 L live PA FS0 hp sg hd fs FP FT FS Tb) (hN : ∀ l ∈ ls, l.1 = 1 → ¬ ps[hp]? = some l.2.1) {l : Lt} (hl : l ∈ ls) (h0 : ¬ l.1 = 0) {v : Nat → Con} : lHo ps (fun x => x ∈ fs) v l ↔ lHo ps (fun x => x ∈ fs0) v l := by
  obtain ⟨-, -, h3, -, -, -, h7⟩ := h
  have key : l.1 = 1 → ∀ p : Nat, ps[p]? = some l.2.1 → ((p, targs v l) ∈ fs ↔ (p, targs v l) ∈ fs0) := by
    intro h1 p hp2
    constructor
    · intro hm
      rcases h7 _ hm with g | ⟨w, -, g⟩
      · exact g
      · have : p = hp := congrArg Prod.fst g
        rw [this] at hp2
        exact absurd hp2 (hN l hl h1)
    · intro hm
      obtain ⟨i, hi, e⟩ := List.mem_iff_getElem.mp hm
      exact List.mem_of_getElem? (h3 i _ (by rw [List.getElem?_eq_getElem hi, e]))
  unfold lHo
  constructor
  · rintro (⟨g, -⟩ | ⟨g, g2⟩ | g)
    · exact absurd g h0
    · exact Or.inr (Or.inl ⟨g, fun ⟨p, p1, p2⟩ => g2 ⟨p, p1, (key g p p1).mpr p2⟩⟩)
    · exact Or.inr (Or.inr g)
  · rintro (⟨g, -⟩ | ⟨g, g2⟩ | g)
    · exact absurd g h0
    · exact Or.inr (Or.inl ⟨g, fun ⟨p, p1, p2⟩ => g2 ⟨p, p1, (key g p p1).mp p2⟩⟩)
    · exact Or.inr (Or.inr g)
def IFq (mc : List Con) (ps : List Wd) (ls : List Lt) (fs0 : List Fct) (L live : Nat) (PA FS0 NC : Nat → Int32) (hp lb sg : Nat) (nr : Int32) (hd : Lt) (C : (Nat → Con) → Prop) (a : Ac) : Prop := ∃ fs FP FT FS Tb, a = (nI fs.length, nI (if fs.length = fs0.length then lb else max lb sg), nr, FP, FT, FS, Tb, NC) ∧ FQ mc ps ls fs0 L live PA FS0 hp sg hd fs FP FT FS Tb ∧ ∀ v, C v → Bd ps 0 ls fs0 L v → (hp, targs v hd) ∈ fs
theorem Pre_le {α : Type} {a b : List α} (h : Pre a b) : a.length ≤ b.length := pre_len h
theorem Pre_eq {α : Type} {a b : List α} (h : Pre a b) {i : Nat} (hi : i < a.length) : b[i]? = a[i]? := by
  rw [List.getElem?_eq_getElem hi]
  exact h i _ (List.getElem?_eq_getElem hi)
theorem sp_Mo_join_fact (hl : live < 2) (hcl : cl < 257) (hn : mc.Nodup) (hmc : mc.length ≤ 1100) (hw : ∀ c ∈ mc, wOk c) (hps : ps.Nodup) (hpl : ps.length ≤ 64) (hC : CLp 0 ps mc live cl LC LK LP LT ls) {qq : Bool} (hM : MCo qq mc (1100 * live) CN CV CF F) (hAr : ∀ l ∈ ls, (l.1 = 0 ∨ l.1 = 1) → ∀ i : Nat, ps[i]? = some l.2.1 → PA (65 * live + i) = nI l.2.2.2.2.length) (hL : L ≤ fs0.length) (hB : BBok BB)
    (h0e : ls[0]? = some hd) (hh0 : hd.1 = 0) (hhp : ps[hp]? = some hd.2.1) (hbn : ∀ l ∈ ls, ∀ t ∈ l.2.2.2.2, ∀ v, t.1 = Sum.inl v → bnd 0 ls v) (hN : ∀ l ∈ ls, l.1 = 1 → ¬ ps[hp]? = some l.2.1)
    (hF : MFa mc fs0 FP FT Tb) (hFa : ∀ x ∈ fs0, PA (65 * live + x.1) = nI x.2.length) (hnd : fs0.Nodup) (hsg : sg ≤ 30000) (hlb : lb ≤ 30000)
    (h1 : ∀ fs pl aC FP2 FT2 FS2 Tb2 Sg2 VA2 BB2 AM2 AT2, FQ mc ps ls fs0 L live PA FS hp sg hd fs FP2 FT2 FS2 Tb2 → (∀ v, Bd ps 0 ls fs0 L v → (hp, targs v hd) ∈ fs) → BBok BB2 → post 1 (nI fs.length, nI (if fs.length = fs0.length then lb else max lb sg), pl, aC, nr, FP2, FT2, FS2, Tb2, Sg2, VA2, BB2, AM2, AT2, NC))
    (h0 : ∀ fs la pl aC FP2 FT2 FS2 Tb2 Sg2 VA2 BB2 AM2 AT2, FQ mc ps ls fs0 L live PA FS hp sg hd fs FP2 FT2 FS2 Tb2 → fs.length = 20000 → (∃ v, Bd ps 0 ls fs0 L v ∧ ¬ (hp, targs v hd) ∈ fs) → BBok BB2 → post 0 (nI fs.length, la, pl, aC, nr, FP2, FT2, FS2, Tb2, Sg2, VA2, BB2, AM2, AT2, NC)) :
    wp_met_Mo_join post (nI L) (nI sg) 0 (nI live) (nI live) (nI cl) (nI fs0.length) (nI lb) pl nr nw F PA CN CV CF LC LK LP LT FP FT FS Tb Sg VA BB AM AT NC NCo := by
  have hf20 : fs0.length ≤ 20000 := by
    have := hF.1.1
    rw [List.length_map] at this
    exact this
  have hmh : hd ∈ ls := List.mem_of_getElem? h0e
  obtain ⟨c1, c2, c3⟩ := hC
  have hsf : sf 0 = 0 := rfl
  have h12 : ∀ l ∈ ls, ∀ t ∈ l.2.2.2.2, ∀ v, t.1 = Sum.inl v → v < 12 := by
    intro l hl2
    obtain ⟨i, hi, e⟩ := List.mem_iff_getElem.mp hl2
    obtain ⟨-, -, -, -, u5, -⟩ := c3 i l (by rw [List.getElem?_eq_getElem hi, e])
    exact u5
  obtain ⟨hd1, hd2, hd3, hd4, hd5, hd6, hd7, hd8⟩ := c3 0 hd h0e
  have hp64 : hp < 64 := by
    have := (List.getElem?_eq_some_iff.mp hhp).1
    omega
  have hPAh := hAr hd hmh (Or.inl hh0) hp hhp
  have hLPh : LP ((257 * live + cl) * 13 + 0) = nI hp := by
    rcases hd3 (Or.inl hh0) with ⟨i, i1, i2⟩ | ⟨i1, -⟩
    · rw [hsf] at i2
      rw [nodup_inj hps hhp i1]
      exact i2
    · exact absurd hhp (i1 hp)
  refine ⟨_, jn_col (md := 0) hl hcl ⟨c1, c2, c3⟩ (fun al V4 hAl => ?_) (max 1 (ls.length + sf 0) - 1) 1 (by omega) (by omega) [] AM (by simp) (fun i x hx => by cases hx) (fun j l hj b1 b2 => absurd b2 (by omega))⟩
  refine sp_Mo_free0 hB (fun B2 hB2 => ?_)
  intro g18 h18
  have hal := hAl.1
  refine ⟨wj L al.length + 1, ?_⟩
  refine jn_walk (md := 0) (ls := ls) (I := IFq mc ps ls fs0 L live PA FS NC hp lb sg nr hd) hl hcl hn hmc hps hpl ⟨c1, c2, c3⟩ hAr hAl hL (by omega) ⟨fun C a hI => ?_, fun C C2 a hI hCC => ?_⟩ ?_ al.length 0 (Nat.zero_add _) (fun _ => False) (nI fs0.length, nI lb, nr, FP, FT, FS, Tb, NC) pl Sg VA B2 g18 (fun _ => none) (fun _ => ([], 0)) 1 ?_ (fun j hj => Or.inl ⟨rfl, hB2 j hj⟩) ⟨fun j e _ he => (by cases he), fun i x hi => absurd hi (by omega)⟩ (by rw [h18]; exact upd_same) ?_ _ (Nat.le_refl _)
  · obtain ⟨fs, FP2, FT2, FS2, Tb2, rfl, hq, -⟩ := hI
    exact ⟨fs, hq.1, hq.2.1, fun f hf => Pre_eq hq.2.2.1 (by omega)⟩
  · obtain ⟨fs, FP2, FT2, FS2, Tb2, rfl, hq, hc⟩ := hI
    refine ⟨fs, FP2, FT2, FS2, Tb2, rfl, hq, fun v hv hb => ?_⟩
    rcases hCC v hv with g | g
    · exact hc v g hb
    · exact absurd ((Bd_al hAl).mp hb.1) g
  · -- all atoms stand
    intro C a pl2 Sg2 VA2 BB2 AT2 b2 v2 m hI hBv hJ hK n hnn
    obtain ⟨n1, rfl⟩ : ∃ n1, n = n1 + 1 := ⟨n - 1, by omega⟩
    obtain ⟨fs, FP2, FT2, FS2, Tb2, rfl, hq, hc⟩ := hI
    have hvars := JA_vars hAl hJ hBv h12 hbn
    have hag : ∀ v, Agr b2 v2 v → ∀ l ∈ ls, targs v l = targs v2 l := fun v hv l hl2 => targs_agr (fun t ht j hj => (hvars l hl2 t ht j hj).2.2 v hv)
    have hself : Agr b2 v2 v2 := fun _ _ _ _ => rfl
    have hpos : ∀ (j : Nat) (l : Lt), ls[j]? = some l → 1 ≤ j + sf 0 → l.1 = 0 → AtS ps fs0 L v2 l := by
      refine (Bd_al hAl).mpr (fun y hy => ?_)
      obtain ⟨i, hi, e⟩ := List.mem_iff_getElem.mp hy
      exact (hJ.2 i y hi (by rw [List.getElem?_eq_getElem hi, e])).1 v2 hself
    have iffB : (∀ (j : Nat) (l : Lt), ls[j]? = some l → 1 ≤ j + sf 0 → ¬ l.1 = 0 → lHo ps (fun x => x ∈ fs) v2 l) ↔ Bd ps 0 ls fs0 L v2 := by
      constructor
      · intro h
        exact ⟨hpos, fun j l hj a b => (FQ_neg hq hN (List.mem_of_getElem? hj) b).mp (h j l hj a b)⟩
      · intro h j l hj a b
        exact (FQ_neg hq hN (List.mem_of_getElem? hj) b).mpr (h.2 j l hj a b)
    have fl20 : fs.length ≤ 20000 := by
      have := hq.1.1.1
      rw [List.length_map] at this
      exact this
    have hfl0 := Pre_le hq.2.2.1
    have z10 : ¬ (1 : Int32) = 0 := by decide
    refine ⟨fun z => absurd z (nI_pos (by omega)), fun _ => ?_⟩
    refine ⟨fun _ => ?_, fun z => absurd rfl z⟩
    refine sp_Mo_holds (md := 0) (ls := ls) (fs := fs) (v := v2) hl hcl hn hmc hps hpl ⟨c1, c2, c3⟩ hM hAr hq.1 hq.2.1 (fun j l hj _ t ht x hx => ?_) (fun pl3 Sg3 hh => ?_) (fun pl3 Sg3 hh => ?_)
    · obtain ⟨u1, u2, -⟩ := hvars l (List.mem_of_getElem? hj) t ht x hx
      exact ⟨u1, u2, hw _ u2⟩
    · have hB2' := iffB.mp hh
      refine ⟨fun z => absurd z z10, fun _ => ?_⟩
      refine ⟨fun _ => ?_, fun z => absurd rfl z⟩
      refine sp_Mo_fact (mc := mc) (fs := fs) (v := v2) (l := hd) (p := hp) hl hcl hp64 hLPh hn hmc hd6 hPAh hq.1 hq.2.1 hd4 hd5 (fun t ht j hj => ⟨(hvars hd hmh t ht j hj).1, (hvars hd hmh t ht j hj).2.1⟩) (fun pl4 Sg4 hin => ?_) (fun pl4 Sg4 FP4 FT4 Tb4 hno hlt hMF => ?_) (fun pl4 Sg4 hno hfull => ?_)
      · refine ⟨fun z => absurd z z10, fun _ => ?_⟩
        refine hK (_, _, _, _, _, _, _, _) pl4 Sg4 ⟨fs, FP2, FT2, FS2, Tb2, rfl, hq, fun v hv hb => ?_⟩ n1 (by omega)
        rcases hv with hv | hv
        · exact hc v hv hb
        · rw [hag v hv hd hmh]
          exact hin
      · refine ⟨fun z => absurd z z10, fun _ => ?_⟩
        have hlen : (fs ++ [(hp, targs v2 hd)]).length = fs.length + 1 := by simp
        have hla : (if nI sg ≤ nI (if fs.length = fs0.length then lb else max lb sg) then nI (if fs.length = fs0.length then lb else max lb sg) else nI sg) = nI (if (fs ++ [(hp, targs v2 hd)]).length = fs0.length then lb else max lb sg) := by
          rw [hlen, if_neg (show ¬ fs.length + 1 = fs0.length by omega)]
          by_cases g : fs.length = fs0.length
          · rw [if_pos g]
            by_cases g2 : sg ≤ lb
            · rw [if_pos (nI_le g2 (by omega)), Nat.max_eq_left g2]
            · rw [if_neg (fun w => g2 ((nI_leI (by omega) (by omega)).mp w)), Nat.max_eq_right (by omega)]
          · rw [if_neg g, if_pos (nI_le (by omega) (by omega))]
        refine hK (nI (fs.length + 1), (if nI sg ≤ nI (if fs.length = fs0.length then lb else max lb sg) then nI (if fs.length = fs0.length then lb else max lb sg) else nI sg), nr, FP4, FT4, upd FS2 fs.length (nI sg), Tb4, NC) pl4 Sg4 ⟨fs ++ [(hp, targs v2 hd)], FP4, FT4, upd FS2 fs.length (nI sg), Tb4, by rw [hla, hlen], ⟨hMF, fun x hx => ?_, Pre_trans hq.2.2.1 Pre_app, nodup_push hq.2.2.2.1 hno, fun f hf => ?_, fun f hf hf2 => ?_, fun x hx => ?_⟩, fun v hv hb => ?_⟩ n1 (by omega)
        · rcases List.mem_append.mp hx with g | g
          · exact hq.2.1 x g
          · rw [List.mem_singleton] at g
            rw [g, hPAh]
            show _ = nI (targs v2 hd).length
            simp [targs]
        · rw [upd_ne (by omega)]
          exact hq.2.2.2.2.1 f hf
        · by_cases g : f = fs.length
          · rw [g, upd_same]
          · rw [upd_ne g]
            exact hq.2.2.2.2.2.1 f hf (by omega)
        · rcases List.mem_append.mp hx with g | g
          · exact hq.2.2.2.2.2.2 x g
          · rw [List.mem_singleton] at g
            exact Or.inr ⟨v2, hB2', g⟩
        · rcases hv with hv | hv
          · exact List.mem_append_left _ (hc v hv hb)
          · rw [hag v hv hd hmh]
            exact List.mem_append_right _ (List.mem_singleton.mpr rfl)
      · refine ⟨fun _ => ?_, fun z => absurd rfl z⟩
        exact h0 fs _ pl4 _ FP2 FT2 FS2 Tb2 Sg4 VA2 BB2 V4 AT2 hq hfull ⟨v2, hB2', hno⟩ (BBok_of hBv)
    · refine ⟨fun _ => ?_, fun z => absurd rfl z⟩
      refine hK (_, _, _, _, _, _, _, _) pl3 Sg3 ⟨fs, FP2, FT2, FS2, Tb2, rfl, hq, fun v hv hb => ?_⟩ n1 (by omega)
      rcases hv with hv | hv
      · exact hc v hv hb
      · exact absurd (iffB.mpr ((Bd_agr (hag v hv)).mp hb)) hh
  · refine ⟨fs0, FP, FT, FS, Tb, ?_, ⟨hF, hFa, Pre_refl, hnd, fun _ _ => rfl, fun f a b => absurd b (by omega), fun x hx => Or.inl hx⟩, fun v hv => absurd hv (fun w => w)⟩
    rw [if_pos rfl]
  · intro a pl2 Sg2 VA2 BB2 AT2 b2 v2 hI hBv _ _ n hnn
    obtain ⟨n1, rfl⟩ : ∃ n1, n = n1 + 1 := ⟨n - 1, by omega⟩
    obtain ⟨fs, FP2, FT2, FS2, Tb2, rfl, hq, hc⟩ := hI
    refine ⟨fun _ => ?_, fun z => absurd (by decide) z⟩
    exact h1 fs pl2 _ FP2 FT2 FS2 Tb2 Sg2 VA2 BB2 V4 AT2 hq (fun v hb => hc v (Or.inr (fun j e _ he => by cases he)) hb) (BBok_of hBv)
end JFact
