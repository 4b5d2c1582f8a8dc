/-! pure: the class's facts -/
/-- a fact: its predicate and its ranks -/
def fk (x : Nat × List Nat) : Nat := kN (fun j => x.2.getD j 0)
def fOk (x : Nat × List Nat) : Prop := x.1 < 64 ∧ x.2.length ≤ 6 ∧ ∀ r ∈ x.2, r < 1000
theorem fOk_c {x : Nat × List Nat} (h : fOk x) : ∀ j, j < 6 → x.2.getD j 0 < 1024 := by
  intro j _
  rw [List.getD_eq_getElem?_getD]
  cases e : x.2[j]? with
  | none => show 0 < 1024; omega
  | some r =>
    have := h.2.2 r (List.mem_of_getElem? e)
    show r < 1024
    omega
theorem fk_lt {x : Nat × List Nat} (h : fOk x) : fk x < 1152921504606846976 := kN_lt (fOk_c h)
theorem fk_inj {x y : Nat × List Nat} (hx : fOk x) (hy : fOk y) (hl : x.2.length = y.2.length) (e : fk x = fk y) : x.2 = y.2 := by
  apply List.ext_getElem hl
  intro j h1 h2
  have := kN_inj (fOk_c hx) (fOk_c hy) e (j := j) (by have := hx.2.1; omega)
  rw [List.getD_eq_getElem?_getD, List.getD_eq_getElem?_getD, List.getElem?_eq_getElem h1, List.getElem?_eq_getElem h2] at this
  exact this
/-- the last before n of a predicate; the first from m on -/
def LsQ (fs : List (Nat × List Nat)) (p n : Nat) (x : Int32) : Prop := (x = -1 ∧ ∀ (i : Nat) (y : Nat × List Nat), i < n → fs[i]? = some y → ¬ y.1 = p) ∨ (∃ (i : Nat) (y : Nat × List Nat), i < n ∧ fs[i]? = some y ∧ y.1 = p ∧ x = nI i ∧ ∀ (j : Nat) (z : Nat × List Nat), i < j → j < n → fs[j]? = some z → ¬ z.1 = p)
def FiQ (fs : List (Nat × List Nat)) (p m : Nat) (x : Int32) : Prop := (x = -1 ∧ ∀ (i : Nat) (y : Nat × List Nat), m ≤ i → fs[i]? = some y → ¬ y.1 = p) ∨ (∃ (i : Nat) (y : Nat × List Nat), m ≤ i ∧ fs[i]? = some y ∧ y.1 = p ∧ x = nI i ∧ ∀ (j : Nat) (z : Nat × List Nat), m ≤ j → j < i → fs[j]? = some z → ¬ z.1 = p)
def cntP (fs : List (Nat × List Nat)) (p : Nat) : Nat := (fs.filter (fun x => x.1 == p)).length
/-- facts of one arity for each predicate -/
def arOk (ar : Nat → Nat) (fs : List (Nat × List Nat)) : Prop := ∀ x ∈ fs, fOk x ∧ x.2.length = ar x.1
/-- the class's facts: fs with stages sg -/
def FaR (ar : Nat → Nat) (fs : List (Nat × List Nat)) (sg : Nat → Nat) (sz hg : Int32) (K : Nat → Int64) (S A P N T O W : Nat → Int32) : Prop := fs.length ≤ 20000 ∧ sz = nI fs.length ∧ FaH fs.length P K T ∧ (∀ (i : Nat) (x : Nat × List Nat), fs[i]? = some x → P i = nI x.1 ∧ K i = lN (fk x) ∧ S i = nI (sg i) ∧ sg i ≤ 20001) ∧ fs.Nodup ∧ arOk ar fs ∧ (∀ p, p < 64 → A p = nI (cntP fs p)) ∧ (∀ p, p < 64 → FiQ fs p 0 (O p)) ∧ (∀ p, p < 64 → LsQ fs p fs.length (W p)) ∧ (∀ (i : Nat) (x : Nat × List Nat), fs[i]? = some x → FiQ fs x.1 (i + 1) (N i)) ∧ (∃ h : Nat, hg = nI h ∧ h ≤ 20001 ∧ (∀ i, i < fs.length → sg i ≤ h) ∧ (h = 0 ∨ ∃ i, i < fs.length ∧ sg i = h))
theorem cntP_le (fs : List (Nat × List Nat)) (p : Nat) : cntP fs p ≤ fs.length := List.length_filter_le _ _
theorem cntP_add (fs : List (Nat × List Nat)) (x : Nat × List Nat) (p : Nat) : cntP (fs ++ [x]) p = cntP fs p + (if x.1 = p then 1 else 0) := by
  unfold cntP
  rw [List.filter_append, List.length_append]
  congr 1
  by_cases h : x.1 = p
  · rw [if_pos h, List.filter_cons_of_pos (by simp [h])]
    rfl
  · rw [if_neg h, List.filter_cons_of_neg (by simp [h])]
    rfl
section FaS
variable {ar : Nat → Nat} {fs : List (Nat × List Nat)} {sg : Nat → Nat} {sz hg : Int32} {K : Nat → Int64} {S A P N T O W : Nat → Int32}
theorem fs1 {x y : Nat × List Nat} {i : Nat} : (fs ++ [x])[i]? = some y ↔ fs[i]? = some y ∨ (i = fs.length ∧ x = y) := by
  constructor
  · intro h
    rcases Nat.lt_or_ge i fs.length with z | z
    · rw [List.getElem?_append_left z] at h
      exact Or.inl h
    · have := (List.getElem?_eq_some_iff.mp h).1
      rw [List.length_append, List.length_singleton] at this
      obtain rfl : i = fs.length := by omega
      rw [List.getElem?_append_right (Nat.le_refl _), Nat.sub_self] at h
      exact Or.inr ⟨rfl, Option.some.inj h⟩
  · rintro (h | ⟨rfl, rfl⟩)
    · have := (List.getElem?_eq_some_iff.mp h).1
      rw [List.getElem?_append_left this]
      exact h
    · rw [List.getElem?_append_right (Nat.le_refl _), Nat.sub_self]
      rfl
theorem FaR_key (h : FaR ar fs sg sz hg K S A P N T O W) {p : Nat} {r : List Nat} (hx : fOk (p, r)) (hl : r.length = ar p) (f : Nat) : (f < fs.length ∧ P f = nI p ∧ K f = lN (fk (p, r))) ↔ fs[f]? = some (p, r) := by
  obtain ⟨a1, a2, a3, a4, a5, a6, -⟩ := h
  constructor
  · rintro ⟨h1, h2, h3⟩
    have he := List.getElem?_eq_getElem h1
    generalize fs[f] = y at he
    obtain ⟨b1, b2, -, -⟩ := a4 f y he
    obtain ⟨ok, al⟩ := a6 y (List.mem_of_getElem? he)
    rw [b1] at h2
    rw [b2] at h3
    have e1 : y.1 = p := (nI_eq (by have := ok.1; omega) (by have := hx.1; omega)).mp h2
    have e2 : fk y = fk (p, r) := (pk_lEQ (by have := fk_lt ok; omega) (by have := fk_lt hx; omega)).mp h3
    have e3 : y.2 = r := fk_inj ok hx (by rw [al, e1, ← hl]) e2
    rw [he]
    obtain ⟨y1, y2⟩ := y
    rw [show y1 = p from e1, show y2 = r from e3]
  · intro he
    obtain ⟨b1, b2, -, -⟩ := a4 f _ he
    exact ⟨(List.getElem?_eq_some_iff.mp he).1, b1, b2⟩
theorem FaR_uniq (h : FaR ar fs sg sz hg K S A P N T O W) : ∀ f g, f < fs.length → g < fs.length → P f = P g → K f = K g → f = g := by
  intro f g hf hg e1 e2
  have he := List.getElem?_eq_getElem hg
  generalize fs[g] = y at he
  obtain ⟨ok, al⟩ := h.2.2.2.2.2.1 y (List.mem_of_getElem? he)
  obtain ⟨b1, b2, -, -⟩ := h.2.2.2.1 g y he
  have h2 := (FaR_key h (p := y.1) (r := y.2) ok al f).mp ⟨hf, e1.trans b1, e2.trans b2⟩
  exact nodup_inj h.2.2.2.2.1 h2 he
theorem LsQ_add {x : Nat × List Nat} {p n : Nat} {v : Int32} (hn : n ≤ fs.length) (h : LsQ fs p n v) : LsQ (fs ++ [x]) p n v := by
  have up : ∀ (i : Nat) (y : Nat × List Nat), i < n → (fs ++ [x])[i]? = some y → fs[i]? = some y := by
    intro i y hi e
    rcases fs1.mp e with q | q
    · exact q
    · omega
  rcases h with ⟨e, q⟩ | ⟨i, y, q1, q2, q3, q4, q5⟩
  · exact Or.inl ⟨e, fun i y hi e2 => q i y hi (up i y hi e2)⟩
  · exact Or.inr ⟨i, y, q1, fs1.mpr (Or.inl q2), q3, q4, fun j z h1 h2 e2 => q5 j z h1 h2 (up j z h2 e2)⟩
theorem FiQ_add {x : Nat × List Nat} {p m : Nat} {v : Int32} (hm : m ≤ fs.length) (hx : ¬ x.1 = p ∨ ¬ v = -1) (h : FiQ fs p m v) : FiQ (fs ++ [x]) p m v := by
  rcases h with ⟨e, q⟩ | ⟨i, y, q1, q2, q3, q4, q5⟩
  · refine Or.inl ⟨e, fun i y hi e2 => ?_⟩
    rcases fs1.mp e2 with w | ⟨w1, w2⟩
    · exact q i y hi w
    · rw [← w2]
      rcases hx with z | z
      · exact z
      · exact absurd e z
  · refine Or.inr ⟨i, y, q1, fs1.mpr (Or.inl q2), q3, q4, fun j z h1 h2 e2 => ?_⟩
    rcases fs1.mp e2 with w | ⟨w1, w2⟩
    · exact q5 j z h1 h2 w
    · have := (List.getElem?_eq_some_iff.mp q2).1
      omega
theorem FiQ_new {x : Nat × List Nat} {m : Nat} (hm : m ≤ fs.length) (h : ∀ (i : Nat) (y : Nat × List Nat), m ≤ i → fs[i]? = some y → ¬ y.1 = x.1) : FiQ (fs ++ [x]) x.1 m (nI fs.length) := by
  refine Or.inr ⟨fs.length, x, hm, fs1.mpr (Or.inr ⟨rfl, rfl⟩), rfl, rfl, fun j z h1 h2 e2 => ?_⟩
  rcases fs1.mp e2 with w | ⟨w1, w2⟩
  · exact h j z h1 w
  · omega
/-- what add does: nothing, or the fact comes, or there is no room -/
theorem sp_Fa_add {post : (Int32 × Int32 × Int32 × (Nat → Int64) × (Nat → Int32) × (Nat → Int32) × (Nat → Int32) × (Nat → Int32) × (Nat → Int32) × (Nat → Int32) × (Nat → Int32)) → Prop} {p st : Nat} {r : List Nat} {fu : Int32} (h : FaR ar fs sg sz hg K S A P N T O W) (hx : fOk (p, r)) (hl : r.length = ar p) (hst : st ≤ 20001)
    (h0 : (p, r) ∈ fs → post (sz, hg, fu, K, S, A, P, N, T, O, W)) (hf : (p, r) ∉ fs → fs.length = 20000 → post (sz, hg, 1, K, S, A, P, N, T, O, W))
    (h1 : (p, r) ∉ fs → fs.length < 20000 → ∀ hg2 K2 S2 A2 P2 N2 T2 O2 W2, FaR ar (fs ++ [(p, r)]) (fun i => if i = fs.length then st else sg i) (nI (fs.length + 1)) hg2 K2 S2 A2 P2 N2 T2 O2 W2 → post (nI (fs.length + 1), hg2, fu, K2, S2, A2, P2, N2, T2, O2, W2)) : wp_met_Fa_add post (nI p) (lN (fk (p, r))) (nI st) sz hg fu K S A P N T O W := by
  have hk := FaR_key h hx hl
  have hp64 : p < 64 := hx.1
  have h2 := h
  obtain ⟨a1, a2, a3, a4, a5, a6, a7, a8, a9, a10, hh, a11, a12, a13, a14⟩ := h2
  refine sp_Fa_slotOf a3 (fun d hd => ?_)
  have hsl : (hq (nI p) (lN (fk (p, r))) + d) % 32768 < 32768 := Nat.mod_lt _ (by omega)
  refine ⟨vp_in_nI hsl (by omega), fun y3 h3 => ?_⟩
  rw [nI_clamp (by omega)] at h3
  obtain ⟨d1, d2, d3⟩ := hd
  rcases d3 with ⟨f, f1, f2, f3, f4⟩ | ⟨z1, z2⟩
  · have hm : (p, r) ∈ fs := List.mem_of_getElem? ((hk f).mp ⟨f1, f3, f4⟩)
    refine ⟨fun w => ?_, fun _ => h0 hm⟩
    rw [h3, f2] at w
    exact absurd ((nI_eq (b := 0) (by omega) (by omega)).mp w) (by omega)
  · have hno : (p, r) ∉ fs := fun hm => by
      obtain ⟨f, hf2, e⟩ := List.getElem_of_mem hm
      have he := List.getElem?_eq_getElem hf2
      rw [e] at he
      obtain ⟨b1, b2, -, -⟩ := a4 f _ he
      exact z2 f hf2 ⟨b1, b2⟩
    refine ⟨fun _ => ?_, fun w => absurd (h3.trans z1) w⟩
    rw [a2]
    refine pk_eq fs.length 20000 (fun e => ?_) (fun e => ?_)
    · have := hf hno e
      rw [a2] at this
      exact this
    have hlt : fs.length < 20000 := by omega
    have cl : (nI fs.length).toNatClampNeg = fs.length := nI_clamp (by omega)
    have cp : (nI p).toNatClampNeg = p := nI_clamp (by omega)
    have vl : vp_in (nI fs.length) 20000 := vp_in_nI hlt (by omega)
    have vp : vp_in (nI p) 64 := vp_in_nI hp64 (by omega)
    intro y4 h4
    rw [nI_1] at h4
    subst h4
    refine ⟨vp_in_nI hsl (by omega), fun g6 h6 => ⟨vl, fun g8 h8 => ⟨vl, fun g10 h10 => ⟨vl, fun g12 h12 => ⟨vl, fun g14 h14 y15 h15 => ⟨vp, fun y17 h17 => ?_⟩⟩⟩⟩⟩⟩
    rw [nI_clamp (by omega)] at h6
    rw [cl] at h8 h10 h12 h14
    rw [cp] at h17
    have hgm : y15 = nI (max hh st) := by
      rw [h15, a11]
      by_cases w : hh < st
      · rw [if_pos (nI_lt w (by omega)), Nat.max_eq_right (by omega)]
      · have w2 : ¬ nI hh < nI st := fun v => w (by
          have v2 := Int32.lt_iff_toInt_lt.mp v
          rw [nI_toInt (by omega), nI_toInt (by omega)] at v2
          omega)
        rw [if_neg w2, Nat.max_eq_left (by omega)]
    have hFH : FaH (fs.length + 1) g10 g8 g6 := FaH_add a3 hlt ⟨d1, d2, Or.inr ⟨z1, z2⟩⟩ z1 h10 h8 h6
    have fin : ∀ N2 O2, (∀ q, q < 64 → FiQ (fs ++ [(p, r)]) q 0 (O2 q)) → (∀ (i : Nat) (x : Nat × List Nat), (fs ++ [(p, r)])[i]? = some x → FiQ (fs ++ [(p, r)]) x.1 (i + 1) (N2 i)) → jw_met_Fa_add_140 post (nI p) W (nI fs.length) A y15 fu g8 g12 g10 g6 (N2, O2) := by
      intro N2 O2 hO hN
      refine ⟨vp, fun g28 h28 => ⟨vp, fun y30 h30 y31 h31 => ⟨vp, fun g33 h33 y34 h34 => ?_⟩⟩⟩
      rw [cp] at h28 h30 h33
      rw [h30, a7 p hp64, nI_1] at h31
      rw [nI_1] at h34
      subst h34
      refine h1 hno hlt _ _ _ _ _ _ _ _ _ ⟨by rw [List.length_append, List.length_singleton]; omega, by rw [List.length_append, List.length_singleton], by rw [List.length_append, List.length_singleton]; exact hFH, fun i x e => ?_, ?_, fun x hx2 => ?_, fun q hq64 => ?_, hO, fun q hq64 => ?_, hN, ?_⟩
      · rcases fs1.mp e with q | ⟨q1, q2⟩
        · have hil := (List.getElem?_eq_some_iff.mp q).1
          obtain ⟨b1, b2, b3, b4⟩ := a4 i x q
          dsimp only
          rw [h10, h8, h12, upd_ne (by omega), pk_uLn (by omega), upd_ne (by omega), if_neg (by omega)]
          exact ⟨b1, b2, b3, b4⟩
        · subst q1 q2
          dsimp only
          rw [h10, h8, h12, upd_same, pk_uLs, upd_same, if_pos rfl]
          exact ⟨rfl, rfl, rfl, hst⟩
      · rw [List.nodup_append]
        refine ⟨a5, by simp, fun x hx1 y hy => ?_⟩
        rw [List.mem_singleton.mp hy]
        intro e
        rw [e] at hx1
        exact hno hx1
      · rcases List.mem_append.mp hx2 with q | q
        · exact a6 x q
        · rw [List.mem_singleton.mp q]
          exact ⟨hx, hl⟩
      · rw [h33, cntP_add]
        by_cases w : p = q
        · subst w
          rw [upd_same, if_pos rfl, h31]
        · rw [upd_ne (fun z => w z.symm), if_neg w, Nat.add_zero]
          exact a7 q hq64
      · rw [h28, List.length_append, List.length_singleton]
        by_cases w : q = p
        · subst w
          rw [upd_same]
          refine Or.inr ⟨fs.length, (q, r), by omega, fs1.mpr (Or.inr ⟨rfl, rfl⟩), rfl, rfl, fun j z j1 j2 _ => absurd j2 (by omega)⟩
        · rw [upd_ne w]
          rcases a9 q hq64 with ⟨e1, e2⟩ | ⟨i, y, e1, e2, e3, e4, e5⟩
          · refine Or.inl ⟨e1, fun i y hi e => ?_⟩
            rcases fs1.mp e with v | ⟨v1, v2⟩
            · exact e2 i y (List.getElem?_eq_some_iff.mp v).1 v
            · rw [← v2]
              exact fun z => w z.symm
          · refine Or.inr ⟨i, y, by omega, fs1.mpr (Or.inl e2), e3, e4, fun j z j1 j2 e => ?_⟩
            rcases fs1.mp e with v | ⟨v1, v2⟩
            · exact e5 j z j1 (List.getElem?_eq_some_iff.mp v).1 v
            · rw [← v2]
              exact fun z => w z.symm
      · refine ⟨max hh st, hgm, by omega, fun i hi => ?_, ?_⟩
        · rw [List.length_append, List.length_singleton] at hi
          by_cases w : i = fs.length
          · dsimp only
            rw [if_pos w]
            omega
          · dsimp only
            rw [if_neg w]
            have := a13 i (by omega)
            omega
        · by_cases w : hh < st
          · refine Or.inr ⟨fs.length, by rw [List.length_append, List.length_singleton]; omega, ?_⟩
            dsimp only
            rw [if_pos rfl]
            omega
          · rcases a14 with v | ⟨i, v1, v2⟩
            · exact Or.inl (by omega)
            · refine Or.inr ⟨i, by rw [List.length_append, List.length_singleton]; omega, ?_⟩
              dsimp only
              rw [if_neg (by omega)]
              omega
    rw [show y17 = W p from h17]
    rcases a9 p hp64 with ⟨e1, e2⟩ | ⟨i, y, e1, e2, e3, e4, e5⟩
    · refine ⟨fun _ => ⟨vp, fun g24 h24 => ?_⟩, fun w => absurd e1 w⟩
      rw [cp] at h24
      refine fin _ _ (fun q hq64 => ?_) (fun i x e => ?_)
      · rw [h24]
        by_cases w : q = p
        · subst w
          rw [upd_same]
          exact FiQ_new (x := (q, r)) (Nat.zero_le _) (fun i y _ ey => e2 i y (List.getElem?_eq_some_iff.mp ey).1 ey)
        · rw [upd_ne w]
          exact FiQ_add (Nat.zero_le _) (Or.inl (fun z => w z.symm)) (a8 q hq64)
      · rw [h14]
        rcases fs1.mp e with v | ⟨v1, v2⟩
        · have hil := (List.getElem?_eq_some_iff.mp v).1
          rw [upd_ne (by omega)]
          exact FiQ_add (by omega) (Or.inl (fun z => e2 i x hil v z.symm)) (a10 i x v)
        · subst v1
          rw [upd_same]
          refine Or.inl ⟨rfl, fun j y hj ej => ?_⟩
          have := (List.getElem?_eq_some_iff.mp ej).1
          rw [List.length_append, List.length_singleton] at this
          omega
    · refine ⟨fun w => ?_, fun _ => ⟨vp, fun y20 h20 => ?_⟩⟩
      · rw [e4] at w
        exact absurd w (nI_ne1 (by omega))
      · rw [cp, e4] at h20
        subst h20
        refine ⟨vp_in_nI (by omega) (by omega), fun g22 h22 => ?_⟩
        rw [nI_clamp (by omega)] at h22
        refine fin _ _ (fun q hq64 => ?_) (fun j x e => ?_)
        · by_cases w : q = p
          · subst w
            refine FiQ_add (Nat.zero_le _) (Or.inr (fun z => ?_)) (a8 q hq64)
            rcases a8 q hq64 with ⟨-, v⟩ | ⟨i2, y2, v1, v2, v3, v4, -⟩
            · exact v i y (Nat.zero_le _) e2 e3
            · rw [v4] at z
              have := (List.getElem?_eq_some_iff.mp v2).1
              exact absurd z (nI_ne1 (by omega))
          · exact FiQ_add (Nat.zero_le _) (Or.inl (fun z => w z.symm)) (a8 q hq64)
        · rw [h22, h14]
          rcases fs1.mp e with v | ⟨v1, v2⟩
          · have hjl := (List.getElem?_eq_some_iff.mp v).1
            by_cases w : j = i
            · subst w
              rw [e2] at v
              obtain rfl := Option.some.inj v
              rw [upd_same, e3]
              refine FiQ_new (x := (p, r)) (by omega) (fun j2 z2 hj2 ez => ?_)
              exact e5 j2 z2 (by omega) (List.getElem?_eq_some_iff.mp ez).1 ez
            · rw [upd_ne w, upd_ne (by omega)]
              by_cases wp : x.1 = p
              · refine FiQ_add (by omega) (Or.inr (fun z => ?_)) (a10 j x v)
                rcases a10 j x v with ⟨-, u⟩ | ⟨i2, y2, u1, u2, u3, u4, -⟩
                · rcases Nat.lt_or_ge j i with q | q
                  · exact u i y (by omega) e2 (by rw [e3, wp])
                  · exact e5 j x (by omega) hjl v wp
                · rw [u4] at z
                  have := (List.getElem?_eq_some_iff.mp u2).1
                  exact absurd z (nI_ne1 (by omega))
              · exact FiQ_add (by omega) (Or.inl (fun z => wp z.symm)) (a10 j x v)
          · subst v1
            rw [upd_ne (by omega), upd_same]
            refine Or.inl ⟨rfl, fun j2 y2 hj2 ej => ?_⟩
            have := (List.getElem?_eq_some_iff.mp ej).1
            rw [List.length_append, List.length_singleton] at this
            omega
/-- mark -/
theorem sp_Fa_mark {post : (Int32 × (Nat → Int32) × (Nat → Int32)) → Prop} {Kn Kb : Nat → Int32} (h : ∀ Kn2 Kb2, (∀ p, p < 64 → Kn2 p = W p) → (∀ p, p < 64 → Kb2 p = Kn p) → post (sz, Kn2, Kb2)) : wp_met_Fa_mark post sz W Kn Kb := by
  have go : ∀ d v, v + d = 64 → ∀ Kn1 Kb1, (∀ p, p < v → Kn1 p = W p) → (∀ p, v ≤ p → Kn1 p = Kn p) → (∀ p, p < v → Kb1 p = Kn p) → lw_met_Fa_mark_10 post sz W (d + 1) (nI v, Kn1, Kb1) := by
    intro d
    induction d with
    | zero =>
      intro v hv Kn1 Kb1 h1 h2 h3
      exact pk_le 64 v (fun _ => h Kn1 Kb1 (fun p hp => h1 p (by omega)) (fun p hp => h3 p (by omega))) (fun z => absurd z (by omega))
    | succ d ih =>
      intro v hv Kn1 Kb1 h1 h2 h3
      have cv : (nI v).toNatClampNeg = v := nI_clamp (by omega)
      have vv : vp_in (nI v) 64 := vp_in_nI (by omega) (by omega)
      refine pk_le 64 v (fun z => absurd z (by omega)) (fun _ => ⟨vv, fun y6 h6 => ⟨vv, fun g8 h8 => ⟨vv, fun y10 h10 => ⟨vv, fun g12 h12 => ?_⟩⟩⟩⟩)
      rw [cv] at h6 h8 h10 h12
      rw [nI_1]
      refine ih (v + 1) (by omega) g12 g8 (fun p hp => ?_) (fun p hp => ?_) (fun p hp => ?_)
      · rw [h12]
        by_cases w : p = v
        · subst w
          rw [upd_same, h10]
        · rw [upd_ne w]
          exact h1 p (by omega)
      · rw [h12, upd_ne (by omega)]
        exact h2 p (by omega)
      · rw [h8]
        by_cases w : p = v
        · subst w
          rw [upd_same, h6]
          exact h2 p (Nat.le_refl _)
        · rw [upd_ne w]
          exact h3 p (by omega)
  exact ⟨_, go 64 0 (by omega) Kn Kb (fun p hp => absurd hp (by omega)) (fun _ _ => rfl) (fun p hp => absurd hp (by omega))⟩
theorem sp_Fa_clear {post : (Int32 × Int32 × Int32 × Int32 × (Nat → Int32) × (Nat → Int32) × (Nat → Int32) × (Nat → Int32) × (Nat → Int32) × (Nat → Int32)) → Prop} {A0 T0 O0 W0 Kn0 Kb0 : Nat → Int32} (h : ∀ A T O W Kn Kb, FaR ar [] sg 0 0 K S A P N T O W → (∀ p, p < 64 → Kn p = -1) → (∀ p, p < 64 → Kb p = -1) → post (0, 0, 0, 0, A, T, O, W, Kn, Kb)) : wp_met_Fa_clear post A0 T0 O0 W0 Kn0 Kb0 := by
  refine sp_Ar_fill (by omega) (fun T hT => ?_)
  refine sp_Ar_fill (by omega) (fun A hA => ?_)
  refine sp_Ar_fill (by omega) (fun O hO => ?_)
  refine sp_Ar_fill (by omega) (fun W hW => ?_)
  refine sp_Ar_fill (by omega) (fun Kn hKn => ?_)
  refine sp_Ar_fill (by omega) (fun Kb hKb => ?_)
  refine h A T O W Kn Kb ⟨Nat.zero_le _, rfl, ?_, fun i x e => (by cases e), List.nodup_nil, fun x hx => (by cases hx), fun p hp => hA p hp, fun p hp => Or.inl ⟨hO p hp, fun i y _ e => (by cases e)⟩, fun p hp => Or.inl ⟨hW p hp, fun i y _ e => (by cases e)⟩, fun i x e => (by cases e), 0, rfl, by omega, fun i hi => absurd hi (Nat.not_lt_zero _), Or.inl rfl⟩ hKn hKb
  have z : ∀ i, i < 32768 → tn T i = 0 := fun i hi => by
    unfold tn
    rw [hT i hi]
    rfl
  exact ⟨Nat.zero_le _, ⟨fun i hi => Nat.le_of_eq (z i hi), fun i j hi _ _ ne => absurd (z i hi) ne, fun f hf => absurd hf (Nat.not_lt_zero _)⟩, fun i hi => ⟨0, Nat.le_refl _, hT i hi⟩⟩
end FaS
