/-! pure: the model runs -/
/-- each fact's stage; the highest -/
def StOk (ps : List Wd) (cs : List (List Lt)) (st : Nat → Nat) (fs : List Fct) (FS : Nat → Int32) : Prop := ∀ (f : Nat) (x : Fct), fs[f]? = some x → ∃ k, k ≤ 20003 ∧ FS f = nI k ∧ StgR ps cs st x k
def LaOk (ps : List Wd) (cs : List (List Lt)) (st : Nat → Nat) (fs : List Fct) (la : Nat) : Prop := (∀ x ∈ fs, ∀ k, StgR ps cs st x k → k ≤ la) ∧ (la = 0 ∨ ∃ x ∈ fs, StgR ps cs st x la)
theorem LaOk_one {ps : List Wd} {cs : List (List Lt)} {st : Nat → Nat} {fs gs : List Fct} {a b : Nat} (hm : ∀ x, x ∈ fs ↔ x ∈ gs) (h1 : LaOk ps cs st fs a) (h2 : LaOk ps cs st gs b) : a = b := by
  obtain ⟨a1, a2⟩ := h1
  obtain ⟨b1, b2⟩ := h2
  have hab : a ≤ b := by
    rcases a2 with h | ⟨x, h, h3⟩
    · omega
    · exact b1 x ((hm x).mp h) a h3
  have hba : b ≤ a := by
    rcases b2 with h | ⟨x, h, h3⟩
    · omega
    · exact a1 x ((hm x).mpr h) b h3
  omega
section MRun
variable {mc : List Con} {ps : List Wd} {cs : List (List Lt)} {st ar : Nat → Nat} {F CN CV CF PA LC LK LP LT Cl ST NCo NC : Nat → Int32} {live : Nat} {nw nr : Int32}
theorem Pre_same {α : Type} {a b : List α} (h : Pre a b) (hl : b.length = a.length) : b = a := by
  apply List.ext_getElem?
  intro i
  rcases Nat.lt_or_ge i a.length with g | g
  · exact Pre_eq h g
  · rw [List.getElem?_eq_none g, List.getElem?_eq_none (by omega)]
/-- a new stage's facts have their stage -/
theorem St_step {s k lb la : Nat} {fs fs2 : List Fct} {FS FS2 FP FT Tb : Nat → Int32} {X : Fct → Prop} (hX : ∀ x, x ∈ fs ↔ X x) (hk : ∀ x, SgS ps cs st (Low ps cs st s) s k x ↔ X x ∨ Drv ps cs st s (!decide (k = 0)) X cs.length x) (hlow : ∀ j x, j < k → SgS ps cs st (Low ps cs st s) s j x → X x) (hk3 : k ≤ 20003)
    (hI : StI ps cs st mc live PA s fs k cs.length lb FS fs2 la FP FT FS2 Tb) (h1 : StOk ps cs st fs FS) (h2 : LaOk ps cs st fs lb) : (∀ x, x ∈ fs2 ↔ SgS ps cs st (Low ps cs st s) s k x) ∧ StOk ps cs st fs2 FS2 ∧ LaOk ps cs st fs2 la := by
  obtain ⟨s1, s2, s3, s4, s5, s6⟩ := hI
  have eX : (fun y => y ∈ fs) = X := funext (fun y => propext (hX y))
  rw [eX] at s5
  have hle := Pre_le s2
  have hmem : ∀ x, x ∈ fs2 ↔ SgS ps cs st (Low ps cs st s) s k x := fun x => by rw [s5 x, hk x, hX x]
  have newst : ∀ (f : Nat) (x : Fct), fs.length ≤ f → fs2[f]? = some x → StgR ps cs st x k := by
    intro f x hf hx
    have hno : ¬ x ∈ fs := by
      intro hm
      obtain ⟨i, hi, e⟩ := List.mem_iff_getElem.mp hm
      have := nodup_inj s1.2.2 (s2 i x (by rw [List.getElem?_eq_getElem hi, e])) hx
      omega
    have hm2 := List.mem_of_getElem? hx
    have hst : st x.1 = s := by
      rcases (s5 x).mp hm2 with g | ⟨_, _, _, _, -, -, -, -, -, g, -⟩
      · exact absurd g hno
      · exact g
    unfold StgR
    rw [hst]
    exact ⟨(hmem x).mp hm2, fun j hj hh => hno ((hX x).mpr (hlow j x hj hh))⟩
  refine ⟨hmem, fun f x hx => ?_, fun x hx j hj => ?_, ?_⟩
  · rcases Nat.lt_or_ge f fs.length with g | g
    · rw [Pre_eq s2 g] at hx
      obtain ⟨j, j1, j2, j3⟩ := h1 f x hx
      exact ⟨j, j1, (s3 f g).trans j2, j3⟩
    · exact ⟨k, hk3, s4 f g (List.getElem?_eq_some_iff.mp hx).1, newst f x g hx⟩
  · obtain ⟨i, hi, e⟩ := List.mem_iff_getElem.mp hx
    have hxi : fs2[i]? = some x := by rw [List.getElem?_eq_getElem hi, e]
    rcases Nat.lt_or_ge i fs.length with g | g
    · rw [Pre_eq s2 g] at hxi
      have := h2.1 x (List.mem_of_getElem? hxi) j hj
      rw [s6]
      split <;> omega
    · have := StgR_one hj (newst i x g hxi)
      rw [s6, if_neg (by omega)]
      omega
  · rw [s6]
    by_cases g : fs2.length = fs.length
    · rw [if_pos g]
      rcases h2.2 with w | ⟨x, w1, w2⟩
      · exact Or.inl w
      · refine Or.inr ⟨x, ?_, w2⟩
        rw [Pre_same s2 g]
        exact w1
    · rw [if_neg g]
      by_cases g2 : lb ≤ k
      · rw [Nat.max_eq_right g2]
        have hi : fs.length < fs2.length := by omega
        exact Or.inr ⟨fs2[fs.length], List.getElem_mem hi, newst fs.length _ (Nat.le_refl _) (List.getElem?_eq_getElem hi)⟩
      · rw [Nat.max_eq_left (by omega)]
        rcases h2.2 with w | ⟨x, w1, w2⟩
        · omega
        · obtain ⟨i, hi, e⟩ := List.mem_iff_getElem.mp w1
          exact Or.inr ⟨x, List.mem_of_getElem? (s2 i x (by rw [List.getElem?_eq_getElem hi, e])), w2⟩
theorem fol_out {post : Int32 → O16 → Prop} {s : Nat} (hG : PgOk ps cs st ar) (hM : MPg ps cs st ar mc live F CN CV CF PA LC LK LP LT Cl ST) (hs : s ≤ 64)
    (h1 : ∀ fs la cl pl aC FP FT FS Tb Sg VA BB AM AT, MS mc live PA fs FP FT Tb → (∀ x, x ∈ fs ↔ Low ps cs st (s + 1) x) → StOk ps cs st fs FS → LaOk ps cs st fs la → la ≤ 20003 → BBok BB → post 1 (cl, nI fs.length, nI la, pl, aC, nr, FP, FT, FS, Tb, Sg, VA, BB, AM, AT, NC))
    (h0 : ∀ (k : Nat) (l : List Fct) cl fa la pl aC FP FT FS Tb Sg VA BB AM AT, l.Nodup → (∀ x ∈ l, SgS ps cs st (Low ps cs st s) s k x) → 20000 < l.length → BBok BB → post 0 (cl, fa, la, pl, aC, nr, FP, FT, FS, Tb, Sg, VA, BB, AM, AT, NC)) :
    ∀ m k : Nat, k + m = 20003 → ∀ bf fs la cl pl aC FP FT FS Tb Sg VA BB AM AT, MS mc live PA fs FP FT Tb → (∀ x, x ∈ fs ↔ (if k = 0 then Low ps cs st s x else SgS ps cs st (Low ps cs st s) s (k - 1) x)) → StOk ps cs st fs FS → LaOk ps cs st fs la → la ≤ 20003 → BBok BB → (2 ≤ k → ∃ b, bf = nI b ∧ b ≤ fs.length ∧ k ≤ b + 2 ∧ (fs.length = b → ∀ x, SgS ps cs st (Low ps cs st s) s (k - 1) x → SgS ps cs st (Low ps cs st s) s (k - 2) x)) → lw_met_Mo_follow_4 post (nI live) Cl LC LP ST (nI s) (nI live) nw F PA CN CV CF LK LT NCo (m + 1) (bf, nI k, cl, nI fs.length, nI la, pl, aC, nr, FP, FT, FS, Tb, Sg, VA, BB, AM, AT, NC) := by
  intro m
  induction m with
  | zero =>
    intro k hk bf fs la cl pl aC FP FT FS Tb Sg VA BB AM AT hS hm hSt hLa hla hB h2
    exfalso
    obtain ⟨b, -, b2, b3, -⟩ := h2 (by omega)
    have := MS_20 hS
    omega
  | succ m ih =>
    intro k hk bf fs la cl pl aC FP FT FS Tb Sg VA BB AM AT hS hm hSt hLa hla hB h2
    have h20 := MS_20 hS
    have go : (2 ≤ k → ∃ b, b < fs.length ∧ k ≤ b + 2) → jw_met_Mo_follow_17 post (fun x9 => lw_met_Mo_follow_4 post (nI live) Cl LC LP ST (nI s) (nI live) nw F PA CN CV CF LK LT NCo (m + 1) x9) (nI fs.length) (nI la) pl aC nr FP FT FS Tb Sg VA BB AM AT NC (nI live) Cl (nI k) LC LP ST (nI s) (nI live) nw F PA CN CV CF LK LT NCo () := by
      intro hgo
      have hmX : ∀ x, x ∈ fs ↔ (if k = 0 then Low ps cs st s x else SgS ps cs st (Low ps cs st s) s (k - 1) x) := hm
      have hkX : ∀ x, SgS ps cs st (Low ps cs st s) s k x ↔ (if k = 0 then Low ps cs st s x else SgS ps cs st (Low ps cs st s) s (k - 1) x) ∨ Drv ps cs st s (!decide (k = 0)) (fun y => if k = 0 then Low ps cs st s y else SgS ps cs st (Low ps cs st s) s (k - 1) y) cs.length x := by
        intro x
        cases k with
        | zero => exact Iff.rfl
        | succ k => exact Iff.rfl
      have hlw : ∀ j x, j < k → SgS ps cs st (Low ps cs st s) s j x → (if k = 0 then Low ps cs st s x else SgS ps cs st (Low ps cs st s) s (k - 1) x) := by
        intro j x hj hx
        rw [if_neg (by omega)]
        exact SgS_le (by omega) hx
      refine ⟨_, fol_in (fsL := fs) (lb := la) (FS0 := FS) (k := k) hG hM (by omega) (by omega) hs (fun fs2 la2 pl2 aC2 FP2 FT2 FS2 Tb2 Sg2 VA2 BB2 AM2 AT2 hI hB2 => ?_) (fun fs2 c2 fa2 la2 pl2 aC2 FP2 FT2 FS2 Tb2 Sg2 VA2 BB2 AM2 AT2 g1 g2 g3 hB2 => ?_) cs.length 0 (Nat.zero_add _) fs la pl aC FP FT FS Tb Sg VA BB AM AT ⟨hS, Pre_refl, fun _ _ => rfl, fun f a b => absurd b (by omega), fun x => ⟨Or.inl, fun w => w.elim (fun w => w) (fun ⟨c, _, _, _, w, _⟩ => absurd w (by omega))⟩, by rw [if_pos rfl]⟩ hB⟩
      · obtain ⟨t1, t2, t3⟩ := St_step hmX hkX hlw (by omega) hI hSt hLa
        have hla2 : la2 ≤ 20003 := by
          rw [hI.2.2.2.2.2]
          split <;> omega
        refine ih (k + 1) (by omega) (nI fs.length) fs2 la2 _ pl2 aC2 FP2 FT2 FS2 Tb2 Sg2 VA2 BB2 AM2 AT2 hI.1 (fun x => ?_) t2 t3 hla2 hB2 (fun hk2 => ⟨fs.length, rfl, Pre_le hI.2.1, ?_, fun he x hx => ?_⟩)
        · rw [if_neg (by omega)]
          exact t1 x
        · by_cases z : 2 ≤ k
          · obtain ⟨b, b1, b2⟩ := hgo z
            omega
          · omega
        · rw [← Pre_same hI.2.1 he] at hmX
          have := (hmX x).mp ((t1 x).mpr hx)
          rw [if_neg (by omega)] at this
          exact this
      · refine h0 k fs2 c2 fa2 la2 pl2 aC2 FP2 FT2 FS2 Tb2 Sg2 VA2 BB2 AM2 AT2 g2 (fun x hx => (hkX x).mpr ?_) g3 hB2
        rcases g1 x hx with w | w
        · exact Or.inl ((hmX x).mp w)
        · have e : (fun y => y ∈ fs) = (fun y => if k = 0 then Low ps cs st s y else SgS ps cs st (Low ps cs st s) s (k - 1) y) := funext (fun y => propext (hmX y))
          rw [e] at w
          exact Or.inr w
    refine pk_lt k 2 (fun z => go (fun w => absurd w (by omega))) (fun z => ?_)
    obtain ⟨b, b1, b2, b3, b4⟩ := h2 z
    subst b1
    refine pk_le fs.length b (fun g => ?_) (fun g => go (fun _ => ⟨b, g, b3⟩))
    have hstop := b4 (by omega)
    refine h1 fs la cl pl aC FP FT FS Tb Sg VA BB AM AT hS (fun x => ?_) hSt hLa hla hB
    rw [hm x, if_neg (by omega)]
    constructor
    · exact fun w => ⟨_, w⟩
    · rintro ⟨j, w⟩
      obtain ⟨k2, rfl⟩ : ∃ k2, k = k2 + 2 := ⟨k - 2, by omega⟩
      have h3 := SgS_stop (k := k2) hstop j x (SgS_le (by omega) w)
      exact SgS_le (by omega) h3
theorem sp_Mo_follow {post : Int32 → O16 → Prop} {s la : Nat} {fs : List Fct} {cl pl aC : Int32} {FP FT FS Tb Sg VA BB AM AT : Nat → Int32} (hG : PgOk ps cs st ar) (hM : MPg ps cs st ar mc live F CN CV CF PA LC LK LP LT Cl ST) (hs : s ≤ 64) (hS : MS mc live PA fs FP FT Tb) (hm : ∀ x, x ∈ fs ↔ Low ps cs st s x) (hSt : StOk ps cs st fs FS) (hLa : LaOk ps cs st fs la) (hla : la ≤ 20003) (hB : BBok BB)
    (h1 : ∀ fs la cl pl aC FP FT FS Tb Sg VA BB AM AT, MS mc live PA fs FP FT Tb → (∀ x, x ∈ fs ↔ Low ps cs st (s + 1) x) → StOk ps cs st fs FS → LaOk ps cs st fs la → la ≤ 20003 → BBok BB → post 1 (cl, nI fs.length, nI la, pl, aC, nr, FP, FT, FS, Tb, Sg, VA, BB, AM, AT, NC))
    (h0 : ∀ (k : Nat) (l : List Fct) cl fa la pl aC FP FT FS Tb Sg VA BB AM AT, l.Nodup → (∀ x ∈ l, SgS ps cs st (Low ps cs st s) s k x) → 20000 < l.length → BBok BB → post 0 (cl, fa, la, pl, aC, nr, FP, FT, FS, Tb, Sg, VA, BB, AM, AT, NC)) :
    wp_met_Mo_follow post (nI s) (nI live) (nI live) cl (nI fs.length) (nI la) pl aC nr nw F PA CN CV CF Cl LC LK LP LT ST FP FT FS Tb Sg VA BB AM AT NC NCo :=
  ⟨_, fol_out hG hM hs h1 h0 20003 0 (Nat.zero_add _) (-1) fs la cl pl aC FP FT FS Tb Sg VA BB AM AT hS (fun x => by rw [if_pos rfl]; exact hm x) hSt hLa hla hB (fun w => absurd w (by omega))⟩
abbrev O19 : Type := Int32 × Int32 × Int32 × Int32 × Int32 × Int32 × Int32 × Int32 × Int32 × (Nat → Int32) × (Nat → Int32) × (Nat → Int32) × (Nat → Int32) × (Nat → Int32) × (Nat → Int32) × (Nat → Int32) × (Nat → Int32) × (Nat → Int32) × (Nat → Int32)
theorem run_60 {post : Int32 → O19 → Prop} {hi : Nat} (hG : PgOk ps cs st ar) (hM : MPg ps cs st ar mc live F CN CV CF PA LC LK LP LT Cl ST) (hhi : hi ≤ 64)
    (h1 : ∀ fs la cl pl aC FP FT FS Tb Sg VA BB AM AT, MS mc live PA fs FP FT Tb → (∀ x, x ∈ fs ↔ Low ps cs st (hi + 1) x) → StOk ps cs st fs FS → LaOk ps cs st fs la → la ≤ 20003 → BBok BB → post (nI fs.length) (0, nI live, cl, 1, nI fs.length, nI la, pl, aC, nr, FP, FT, FS, Tb, Sg, VA, BB, AM, AT, NC))
    (h0 : ∀ cl la pl aC FP FT FS Tb Sg VA BB AM AT, Ovf ps cs st (hi + 1) → BBok BB → post 0 (1, nI live, cl, 0, 0, la, pl, aC, nr, FP, FT, FS, Tb, Sg, VA, BB, AM, AT, NC)) :
    ∀ m s : Nat, s + m = hi + 1 → ∀ fs la cl pl aC FP FT FS Tb Sg VA BB AM AT, MS mc live PA fs FP FT Tb → (∀ x, x ∈ fs ↔ Low ps cs st s x) → StOk ps cs st fs FS → LaOk ps cs st fs la → la ≤ 20003 → BBok BB → lw_met_Mo_run_60 post (nI hi) (nI live) nw F PA CN CV CF Cl LC LK LP LT ST NCo 0 (m + 1) (nI s, 1, cl, nI fs.length, nI la, pl, aC, nr, FP, FT, FS, Tb, Sg, VA, BB, AM, AT, NC) := by
  have z10 : ¬ (1 : Int32) = 0 := by decide
  intro m
  induction m with
  | zero =>
    intro s hs fs la cl pl aC FP FT FS Tb Sg VA BB AM AT hS hm hSt hLa hla hB
    refine pk_lt hi s (fun _ => ?_) (fun q => absurd q (by omega))
    refine ⟨fun z => absurd z z10, fun _ => ?_⟩
    obtain rfl : s = hi + 1 := by omega
    exact h1 fs la cl pl aC FP FT FS Tb Sg VA BB AM AT hS hm hSt hLa hla hB
  | succ m ih =>
    intro s hs fs la cl pl aC FP FT FS Tb Sg VA BB AM AT hS hm hSt hLa hla hB
    refine pk_lt hi s (fun q => absurd q (by omega)) (fun _ => ?_)
    refine ⟨fun z => absurd z z10, fun _ => ?_⟩
    refine sp_Mo_follow hG hM (by omega) hS hm hSt hLa hla hB (fun fs2 la2 cl2 pl2 aC2 FP2 FT2 FS2 Tb2 Sg2 VA2 BB2 AM2 AT2 a1 a2 a3 a4 a5 a6 => ?_) (fun k l cl2 fa2 la2 pl2 aC2 FP2 FT2 FS2 Tb2 Sg2 VA2 BB2 AM2 AT2 a1 a2 a3 a4 => ?_)
    · rw [nI_1]
      exact ih (s + 1) (by omega) fs2 la2 cl2 pl2 aC2 FP2 FT2 FS2 Tb2 Sg2 VA2 BB2 AM2 AT2 a1 a2 a3 a4 a5 a6
    · have ov : Ovf ps cs st (hi + 1) := ⟨s, k, l, by omega, a1, a2, a3⟩
      have e84 : jw_met_Mo_run_84 post 0 (nI live) cl2 0 la2 pl2 aC2 nr FP2 FT2 FS2 Tb2 Sg2 VA2 BB2 AM2 AT2 NC fa2 () := ⟨fun _ => h0 cl2 la2 pl2 aC2 FP2 FT2 FS2 Tb2 Sg2 VA2 BB2 AM2 AT2 ov a4, fun z => absurd rfl z⟩
      rw [nI_1]
      exact ⟨fun _ => e84, fun _ => ⟨fun _ => e84, fun z => absurd rfl z⟩⟩
theorem MS_nil {FP FT Tb : Nat → Int32} (h : ∀ i, i < 65536 → Tb i = 0) : MS mc live PA [] FP FT Tb := by
  refine ⟨⟨⟨Nat.zero_le _, fun f x hf => (by cases hf), ⟨fun i hi => ?_, fun i j hi hj _ h2 => ?_, fun f hf => absurd hf (by simp)⟩, fun i hi => ⟨0, Nat.le_refl _, h i hi⟩⟩, fun x hx => (by cases hx), fun x hx => by cases hx⟩, fun x hx => (by cases hx), List.nodup_nil⟩
  · unfold tn
    rw [h i hi]
    exact Nat.le_of_eq (by decide : Int32.toNatClampNeg 0 = 0)
  · refine absurd ?_ h2
    unfold tn
    rw [h i hi]
    decide
theorem run_27 {post : Int32 → O19 → Prop} {hi : Nat} {cl pl aC : Int32} {FP FT FS Sg VA BB AM AT : Nat → Int32} (hG : PgOk ps cs st ar) (hM : MPg ps cs st ar mc live F CN CV CF PA LC LK LP LT Cl ST) (hhi : hi ≤ 64) (hB : BBok BB)
    (h1 : ∀ fs la cl pl aC FP FT FS Tb Sg VA BB AM AT, MS mc live PA fs FP FT Tb → (∀ x, x ∈ fs ↔ Low ps cs st (hi + 1) x) → StOk ps cs st fs FS → LaOk ps cs st fs la → la ≤ 20003 → BBok BB → post (nI fs.length) (0, nI live, cl, 1, nI fs.length, nI la, pl, aC, nr, FP, FT, FS, Tb, Sg, VA, BB, AM, AT, NC))
    (h0 : ∀ cl la pl aC FP FT FS Tb Sg VA BB AM AT, Ovf ps cs st (hi + 1) → BBok BB → post 0 (1, nI live, cl, 0, 0, la, pl, aC, nr, FP, FT, FS, Tb, Sg, VA, BB, AM, AT, NC)) :
    ∀ m k : Nat, k + m = 65536 → ∀ Tb : Nat → Int32, (∀ j, j < k → Tb j = 0) → lw_met_Mo_run_27 post cl pl aC nr FP FT FS Sg VA BB AM AT NC (nI hi) (nI live) nw F PA CN CV CF Cl LC LK LP LT ST NCo 0 (m + 1) (nI k, Tb) := by
  intro m
  induction m with
  | zero =>
    intro k hk Tb hT
    refine pk_le 65536 k (fun _ => ?_) (fun q => absurd q (by omega))
    exact ⟨_, run_60 hG hM hhi h1 h0 (hi + 1) 0 (by omega) [] 0 cl pl aC FP FT FS Tb Sg VA BB AM AT (MS_nil (fun i hi => hT i (by omega))) (fun x => ⟨fun w => (by cases w), fun w => absurd w (fun w => w)⟩) (fun f x hx => by cases hx) ⟨fun x hx => (by cases hx), Or.inl rfl⟩ (by omega) hB⟩
  | succ m ih =>
    intro k hk Tb hT
    refine pk_le 65536 k (fun q => absurd q (by omega)) (fun _ => ?_)
    refine ⟨vp_in_nI (by omega) (by omega), fun g6 h6 => ?_⟩
    rw [nI_clamp (by omega)] at h6
    rw [nI_1]
    refine ih (k + 1) (by omega) g6 (fun j hj => ?_)
    rw [h6]
    by_cases z : j = k
    · rw [z, upd_same]
    · rw [upd_ne z]
      exact hT j (by omega)
theorem sp_Mo_run {post : Int32 → O19 → Prop} {hi : Nat} {cl fa la pl aC : Int32} {FP FT FS Tb Sg VA BB AM AT : Nat → Int32} (hG : PgOk ps cs st ar) (hM : MPg ps cs st ar mc live F CN CV CF PA LC LK LP LT Cl ST) (hhi : hi ≤ 64) (hB : BBok BB)
    (h1 : ∀ fs la cl pl aC FP FT FS Tb Sg VA BB AM AT, MS mc live PA fs FP FT Tb → (∀ x, x ∈ fs ↔ Low ps cs st (hi + 1) x) → StOk ps cs st fs FS → LaOk ps cs st fs la → la ≤ 20003 → BBok BB → post (nI fs.length) (0, nI live, cl, 1, nI fs.length, nI la, pl, aC, nr, FP, FT, FS, Tb, Sg, VA, BB, AM, AT, NC))
    (h0 : ∀ cl la pl aC FP FT FS Tb Sg VA BB AM AT, Ovf ps cs st (hi + 1) → BBok BB → post 0 (1, nI live, cl, 0, 0, la, pl, aC, nr, FP, FT, FS, Tb, Sg, VA, BB, AM, AT, NC)) :
    wp_met_Mo_run post (nI live) cl (nI hi) 0 fa la pl aC nr nw F PA CN CV CF Cl LC LK LP LT ST FP FT FS Tb Sg VA BB AM AT NC NCo :=
  ⟨fun _ => ⟨_, run_27 hG hM hhi hB h1 h0 65536 0 (Nat.zero_add _) Tb (fun j hj => absurd hj (by omega))⟩, fun z => absurd rfl z⟩
end MRun
