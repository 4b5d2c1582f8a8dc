/-! pure: an atom is closed, in the class -/
def due (md : Nat) (ps : List Wd) (ar : Nat → Nat) (Lc : List Lt) (w : Wd) (m : Nat) : Prop := if md = 0 then firstAr Lc w = some m else dueQ ps ar Lc w (some m)
def WB (md : Nat) (ps : List Wd) (ar : Nat → Nat) (Lc : List Lt) (l : Lt) (c p : Nat) : Prop := c = 10 ∧ p = l.2.2.1 ∧ ∃ m, due md ps ar Lc l.2.1 m ∧ ¬ m = l.2.2.2.2.length
/-- the sizes of predicates as the class holds them -/
def SzQ (md : Nat) (ps : List Wd) (ar : Nat → Nat) (Lc : List Lt) (PZ : Nat → Int32) (ows : List Wd) (OZ : Nat → Int32) : Prop := (md = 0 → AriR ps 0 PZ Lc) ∧ (md = 0 → ∀ p, ps.length ≤ p → p < 64 → PZ p = -1) ∧ (¬ md = 0 → ∀ p, p < ps.length → PZ p = nI (ar p) ∧ ar p ≤ 6) ∧ (¬ md = 0 → (∀ (i : Nat) (w : Wd), ows[i]? = some w → w ∉ ps ∧ ∃ m, firstAr Lc w = some m ∧ OZ i = nI m) ∧ (∀ l ∈ Lc, isA l → l.2.1 ∉ ps → l.2.1 ∈ ows) ∧ ows.length ≤ Lc.length)
section CClose
variable {md na m i rm nT ot mc ms : Nat} {ps ows : List Wd} {cn : List Con} {rk ar : Nat → Nat} {l : Lt} {Lc : List Lt} {oz ou code place fg inH : Int32} {S L T K P Pl Z M TT F PZ OZ : Nat → Int32} {kT : ClassId} {W : Nat → Nat → Prop}
theorem firstAr_none {w : Wd} (h : ∀ l ∈ Lc, isA l → ¬ l.2.1 = w) : firstAr Lc w = none := by
  revert h
  induction Lc with
  | nil => intro _; rfl
  | cons x r ih =>
    intro h
    rw [firstAr_cons, if_neg (fun q => h x (List.mem_cons_self ..) q.1 q.2)]
    exact ih (fun l hl => h l (List.mem_cons_of_mem _ hl))
theorem firstAr_ex {w : Wd} {m : Nat} (h : firstAr Lc w = some m) : ∃ l ∈ Lc, isA l ∧ l.2.1 = w := by
  revert h
  induction Lc with
  | nil => intro h; cases h
  | cons x r ih =>
    intro h
    rw [firstAr_cons] at h
    by_cases q : (x.1 = 0 ∨ x.1 = 1) ∧ x.2.1 = w
    · exact ⟨x, List.mem_cons_self .., q.1, q.2⟩
    · rw [if_neg q] at h
      obtain ⟨l, h1, h2⟩ := ih h
      exact ⟨l, List.mem_cons_of_mem _ h1, h2⟩
theorem firstAr_up {w : Wd} {m : Nat} {l : Lt} (h : firstAr Lc w = some m) : firstAr (Lc ++ [l]) w = some m := by rw [firstAr_app, h]
theorem firstAr_new {l : Lt} (hA : isA l) (h : firstAr Lc l.2.1 = none) : firstAr (Lc ++ [l]) l.2.1 = some l.2.2.2.2.length := by
  rw [firstAr_app, h]
  show firstAr [l] l.2.1 = _
  rw [firstAr_one, if_pos ⟨hA, rfl⟩]
/-- the sizes behind an atom -/
theorem SzQ_no {l : Lt} (h : SzQ md ps ar Lc PZ ows OZ) (h0 : md = 0 → isA l → ∃ n, firstAr Lc l.2.1 = some n) (h1 : ¬ md = 0 → isA l → l.2.1 ∉ ps → l.2.1 ∈ ows) : SzQ md ps ar (Lc ++ [l]) PZ ows OZ := by
  refine ⟨fun e => AriR_old (h.1 e) (h0 e), h.2.1, h.2.2.1, fun e => ⟨fun j w hj => ?_, fun x hx hA hp => ?_, ?_⟩⟩
  · obtain ⟨q1, m, q2, q3⟩ := (h.2.2.2 e).1 j w hj
    exact ⟨q1, m, firstAr_up q2, q3⟩
  · rcases List.mem_append.mp hx with q | q
    · exact (h.2.2.2 e).2.1 x q hA hp
    · rw [List.mem_singleton.mp q] at hA hp ⊢
      exact h1 e hA hp
  · rw [List.length_append]
    have := (h.2.2.2 e).2.2
    omega
theorem sp_Re_checkSize {post : (Int32 × Int32 × Int32 × Int32 × (Nat → Int32) × (Nat → Int32) × Nat × ClassId × Nat × (Nat → Int32) × (Nat → Int32) × (Nat → Int32) × Nat × Nat) → Prop} {x : Int32} (hmd : md < 4) (hnd : ps.Nodup) (hpl : ps.length ≤ 64) (hA : isA l) (hl6 : l.2.2.2.2.length ≤ 6) (hX : PC md ps l.2.1 x) (hP : P i = x) (hZ : Z i = nI l.2.2.2.2.length) (hS : SzQ md ps ar Lc PZ ows OZ) (hLA : ∀ x ∈ Lc, x.2.2.2.2.length ≤ 6) (hN : NB 12 ows oz ou S L nT T) (hW : WRc W code place) (hna : l.2.2.1 = na) (hm : l.2.1.length = m) (hb : na + m ≤ 20480) (hF : ∀ j, j < na + m → byt (F j)) (hw : sl F na m = l.2.1) (hto : tot ows ≤ na) (hL12 : ¬ md = 0 → Lc.length < 12) (hi : i < rm) (hrm : rm < 100000) (hmc : 1 ≤ mc) (hms : 40960 ≤ ms)
    (h : ∀ code2 place2 ows2 oz2 ou2 S2 L2 ot2 kT2 nT2 T2 OZ2 PZ2 kc ks, WRc (fun c p => W c p ∨ WB md ps ar Lc l c p) code2 place2 → NB 12 ows2 oz2 ou2 S2 L2 nT2 T2 → tot ows2 ≤ na + m → SzQ md ps ar (Lc ++ [l]) PZ2 ows2 OZ2 → (¬ md = 0 → PZ2 = PZ) → cst nT nT2 kc ks → post (code2, place2, oz2, ou2, S2, L2, ot2, kT2, nT2, T2, OZ2, PZ2, kc, ks)) : wp_met_Re_checkSize post mc ms 12 12 nT rm rm ot (nI i) code place (nI na) (nI (na + m)) F oz ou S L T OZ PZ P Z kT := by
  have hin : vp_in (nI i) rm := vp_in_nI hi (by omega)
  have ci : (nI i).toNatClampNeg = i := nI_clamp (by omega)
  have hbb : ∀ j, j < m → byt (F (na + j)) := fun j hj => hF (na + j) (by omega)
  refine ⟨hin, fun y2 h2 => ⟨hin, fun y4 h4 => ?_⟩⟩
  rw [ci, hP] at h2
  rw [ci, hZ] at h4
  subst h2 h4
  -- same: no fault, nothing new
  have quiet : (∀ c p, ¬ WB md ps ar Lc l c p) → WRc (fun c p => W c p ∨ WB md ps ar Lc l c p) code place := fun q => WRc_iff hW (fun c p => ⟨Or.inl, fun z => z.elim id (fun w => absurd w (q c p))⟩)
  have loud : ∀ mm, due md ps ar Lc l.2.1 mm → ¬ mm = l.2.2.2.2.length → ∀ {post2 : (Int32 × Int32) → Prop}, (∀ code2 place2, WRc (fun c p => W c p ∨ WB md ps ar Lc l c p) code2 place2 → post2 (code2, place2)) → wp_met_Re_note post2 10 (nI na) code place := by
    intro mm hd hne post2 hp
    refine sp_Re_note (c := 10) hW (by omega) (by omega) (by omega) (fun code2 place2 hW2 => hp _ _ (WRc_iff hW2 (fun c p => ?_)))
    constructor
    · rintro (q | ⟨q1, q2⟩)
      · exact Or.inl q
      · exact Or.inr ⟨q1, by rw [q2, hna], mm, hd, hne⟩
    · rintro (q | ⟨q1, q2, -⟩)
      · exact Or.inl q
      · exact Or.inr ⟨q1, by rw [q2, hna]⟩
  rcases hX with ⟨p, hp, e⟩ | ⟨hmd0, hno, e⟩
  · subst e
    have hp64 : p < 64 := by have := (List.getElem?_eq_some_iff.mp hp).1; omega
    have hpin : vp_in (nI p) 64 := vp_in_nI hp64 (by omega)
    have cp : (nI p).toNatClampNeg = p := nI_clamp (by omega)
    refine ⟨fun z => absurd z (nI_ne1 (by omega)), fun _ => ⟨hpin, fun y6 h6 => ?_⟩⟩
    rw [cp] at h6
    have old : ∀ mm, mm ≤ 6 → PZ p = nI mm → due md ps ar Lc l.2.1 mm → (∀ m2, due md ps ar Lc l.2.1 m2 → m2 = mm) → SzQ md ps ar (Lc ++ [l]) PZ ows OZ → ((PZ p = -1 → (vp_in (nI p) 64 ∧ (∀ g13 : Nat → Int32, g13 = upd PZ (nI p).toNatClampNeg (nI l.2.2.2.2.length) → (post (code, place, oz, ou, S, L, ot, kT, nT, T, OZ, g13, 0, 0))))) ∧ (¬ (PZ p = -1) → (vp_in (nI p) 64 ∧ (∀ y8 : Int32, y8 = PZ (nI p).toNatClampNeg → (((y8 = nI l.2.2.2.2.length → (post (code, place, oz, ou, S, L, ot, kT, nT, T, OZ, PZ, 0, 0))) ∧ (¬ (y8 = nI l.2.2.2.2.length) → (wp_met_Re_note (fun (u9 : Int32 × Int32) => match u9 with | (o9, o10) => (post (o9, o10, oz, ou, S, L, ot, kT, nT, T, OZ, PZ, 0, 0))) 10 (nI na) code place)))))))) := by
      intro mm h6 he hd hu hS2
      refine ⟨fun z => absurd (he.symm.trans z) (nI_ne1 (by omega)), fun _ => ⟨hpin, fun y8 h8 => ?_⟩⟩
      rw [cp, he] at h8
      subst h8
      by_cases hmm : mm = l.2.2.2.2.length
      · refine ⟨fun _ => ?_, fun z => absurd (by rw [hmm]) z⟩
        refine h _ _ ows _ _ _ _ _ _ _ _ _ _ 0 0 (quiet (fun c p q => ?_)) hN (by omega) hS2 (fun _ => rfl) cst_0
        obtain ⟨-, -, m2, q1, q2⟩ := q
        exact q2 ((hu m2 q1).trans hmm)
      · refine ⟨fun z => absurd ((nI_eq (by omega) (by omega)).mp z) hmm, fun _ => ?_⟩
        exact loud mm hd hmm (fun code2 place2 hW2 => h _ _ ows _ _ _ _ _ _ _ _ _ _ 0 0 hW2 hN (by omega) hS2 (fun _ => rfl) cst_0)
    by_cases hmd0 : md = 0
    · have hA0 := hS.1 hmd0 p l.2.1 hp
      rw [show 65 * 0 + p = p by omega] at hA0
      cases hf : firstAr Lc l.2.1 with
      | none =>
        rw [hf] at hA0
        refine ⟨fun _ => ⟨hpin, fun g13 h13 => ?_⟩, fun z => absurd (h6.trans hA0) z⟩
        rw [cp] at h13
        subst h13
        refine h _ _ ows _ _ _ _ _ _ _ _ _ _ 0 0 (quiet (fun c p q => ?_)) hN (by omega) ?_ (fun z => absurd hmd0 z) cst_0
        · obtain ⟨-, -, m2, q1, -⟩ := q
          unfold due at q1
          rw [if_pos hmd0, hf] at q1
          cases q1
        · refine ⟨fun _ => ?_, fun _ q q1 q2 => ?_, fun z => absurd hmd0 z, fun z => absurd hmd0 z⟩
          · have := AriR_new hnd (hS.1 hmd0) hA hp hf
            rw [show 65 * 0 + p = p by omega] at this
            exact this
          · have := (List.getElem?_eq_some_iff.mp hp).1
            rw [upd_ne (by omega)]
            exact hS.2.1 hmd0 q q1 q2
      | some mm =>
        rw [hf] at hA0
        rw [h6]
        refine old mm (firstAr_le Lc hLA hf) hA0 (by unfold due; rw [if_pos hmd0]; exact hf) (fun m2 q => ?_) (SzQ_no hS (fun _ _ => ⟨mm, hf⟩) (fun z => absurd hmd0 z))
        unfold due at q
        rw [if_pos hmd0, hf] at q
        exact (Option.some.inj q).symm
    · have hpl2 := (List.getElem?_eq_some_iff.mp hp).1
      obtain ⟨z1, z2⟩ := hS.2.2.1 hmd0 p hpl2
      rw [h6]
      refine old (ar p) z2 z1 (by unfold due; rw [if_neg hmd0]; exact Or.inl ⟨p, hp, rfl⟩) (fun m2 q => ?_) (SzQ_no hS (fun z => absurd z hmd0) (fun _ _ q => absurd (List.mem_of_getElem? hp) q))
      unfold due at q
      rw [if_neg hmd0] at q
      rcases q with ⟨p2, q1, q2⟩ | ⟨q1, -⟩
      · rw [nodup_inj hnd hp q1]
        exact Option.some.inj q2
      · exact absurd hp (q1 p)
  · subst e
    refine ⟨fun _ => ?_, fun z => absurd rfl z⟩
    refine ⟨mc, ms, by omega, by omega, ?_⟩
    intro y1 hy1
    rw [pk_sub (by omega), show na + m - na = m by omega] at hy1
    subst hy1
    obtain ⟨o1, o2, o3⟩ := hS.2.2.2 hmd0
    have hnops : ∀ i : Nat, ¬ ps[i]? = some l.2.1 := fun i z => hno (List.mem_of_getElem? z)
    refine sp_Na_find2 hN (by omega) (by omega) (by omega) hbb (fun r hr => ?_)
    rw [hw] at hr
    rcases hr with ⟨j, e, q1, q2⟩ | ⟨e, q⟩
    · subst e
      have hj := (List.getElem?_eq_some_iff.mp q1).1
      have hj12 : j < 12 := by have := hN.1; omega
      obtain ⟨-, mm, f1, f2⟩ := o1 j _ q1
      have hm6 := firstAr_le Lc hLA f1
      refine ⟨fun z => absurd z (nI_ne1 (by omega)), fun _ => ⟨vp_in_nI hj12 (by omega), fun y4 h4 => ?_⟩⟩
      rw [nI_clamp (by omega), f2] at h4
      subst h4
      have hS2 := SzQ_no (l := l) hS (fun z => absurd z hmd0) (fun _ _ _ => List.mem_of_getElem? q1)
      have hd : due md ps ar Lc l.2.1 mm := by unfold due; rw [if_neg hmd0]; exact Or.inr ⟨hnops, f1.symm⟩
      by_cases hmm : mm = l.2.2.2.2.length
      · refine ⟨fun _ => ?_, fun z => absurd (by rw [hmm]) z⟩
        refine h _ _ ows _ _ _ _ _ _ _ _ _ _ 0 0 (quiet (fun c p q => ?_)) hN (by omega) hS2 (fun _ => rfl) cst_0
        obtain ⟨-, -, m2, r1, r2⟩ := q
        unfold due at r1
        rw [if_neg hmd0] at r1
        rcases r1 with ⟨p2, s1, -⟩ | ⟨-, s1⟩
        · exact hnops p2 s1
        · rw [f1] at s1
          exact r2 ((Option.some.inj s1).trans hmm)
      · refine ⟨fun z => absurd ((nI_eq (by omega) (by omega)).mp z) hmm, fun _ => ?_⟩
        exact loud mm hd hmm (fun code2 place2 hW2 => h _ _ ows _ _ _ _ _ _ _ _ _ _ 0 0 hW2 hN (by omega) hS2 (fun _ => rfl) cst_0)
    · subst e
      have hfn : firstAr Lc l.2.1 = none := by
        refine firstAr_none (fun x hx hxA e => ?_)
        have := o2 x hx hxA (by rw [e]; exact hno)
        rw [e] at this
        obtain ⟨j, hj, e2⟩ := List.mem_iff_getElem.mp this
        exact q j (by rw [List.getElem?_eq_getElem hj, e2])
      have hLl := hL12 hmd0
      refine ⟨fun _ => ⟨mc, ms, by omega, by omega, ?_⟩, fun z => absurd rfl z⟩
      refine sp_Na_add2 hN (by omega) (by omega) (by omega) hbb (by omega) hmc hms (fun hl => absurd hl (by omega)) (fun hl sz2 us2 S2 L2 a2 k2 nT2 T2 kc ks hN2 hc => ?_)
      rw [hw] at hN2
      refine ⟨fun z => absurd z (nI_ne1 (by omega)), fun _ => ⟨vp_in_nI hl (by omega), fun g22 h22 => ?_⟩⟩
      rw [nI_clamp (by omega)] at h22
      subst h22
      dsimp only
      rw [Nat.zero_add, Nat.zero_add, Nat.zero_add, Nat.zero_add]
      refine h _ _ _ _ _ _ _ _ _ _ _ _ _ kc ks (quiet (fun c p q => ?_)) hN2 ?_ ?_ (fun _ => rfl) hc
      · obtain ⟨-, -, m2, r1, r2⟩ := q
        unfold due at r1
        rw [if_neg hmd0] at r1
        rcases r1 with ⟨p2, s1, -⟩ | ⟨-, s1⟩
        · exact hnops p2 s1
        · rw [hfn] at s1
          cases s1
      · rw [tot_app, tot_one, hm]
        omega
      · refine ⟨fun z => absurd z hmd0, fun z => absurd z hmd0, hS.2.2.1, fun _ => ⟨fun j w hj => ?_, fun x hx hxA hp => ?_, ?_⟩⟩
        · rcases app1.mp hj with r | ⟨r1, r2⟩
          · obtain ⟨s1, mm, s2, s3⟩ := o1 j w r
            have := (List.getElem?_eq_some_iff.mp r).1
            exact ⟨s1, mm, firstAr_up s2, by rw [upd_ne (by omega)]; exact s3⟩
          · subst r1 r2
            exact ⟨hno, _, firstAr_new hA hfn, upd_same⟩
        · rcases List.mem_append.mp hx with r | r
          · exact List.mem_append_left _ (o2 x r hxA hp)
          · rw [List.mem_singleton.mp r]
            exact List.mem_append_right _ (List.mem_singleton.mpr rfl)
        · rw [List.length_append, List.length_append]
          simp only [List.length_singleton]
          omega
theorem sp_Re_closeAtom {post : (Int32 × Int32 × Int32 × Int32 × Int32 × (Nat → Int32) × (Nat → Int32) × Nat × ClassId × Nat × (Nat → Int32) × (Nat → Int32) × (Nat → Int32) × (Nat → Int32) × Nat × Nat) → Prop} (hmd : md < 4) (hnd : ps.Nodup) (hpl : ps.length ≤ 64) (hA : isA l) (hl6 : l.2.2.2.2.length ≤ 6) (hX : PC md ps l.2.1 (P i)) (hQ : LQ (Ea md cn rk) i l K Z M TT) (hnp : l.1 = 1 → Pl i = nI l.2.2.2.1) (hFg : FgQ md cn fg l) (hS : SzQ md ps ar Lc PZ ows OZ) (hLA : ∀ x ∈ Lc, x.2.2.2.2.length ≤ 6) (hN : NB 12 ows oz ou S L nT T) (hW : WRc W code place) (hna : l.2.2.1 = na) (hm : l.2.1.length = m) (hb : na + m ≤ 20480) (hF : ∀ j, j < na + m → byt (F j)) (hw : sl F na m = l.2.1) (hto : tot ows ≤ na) (hL12 : ¬ md = 0 → Lc.length < 12) (hi : i < rm) (hrm : rm < 100000) (hmc : 1 ≤ mc) (hms : 40960 ≤ ms) (hinH : inH = 0 ∨ inH = 1)
    (h : ∀ code2 place2 ows2 oz2 ou2 S2 L2 ot2 kT2 nT2 T2 OZ2 PZ2 P2 kc ks, WRc (fun c p => W c p ∨ WB md ps ar Lc l c p) code2 place2 → NB 12 ows2 oz2 ou2 S2 L2 nT2 T2 → tot ows2 ≤ na + m → SzQ md ps ar (Lc ++ [l]) PZ2 ows2 OZ2 → (¬ md = 0 → PZ2 = PZ) → CLm md ps cn rk i l K P2 Pl Z M TT → (∀ j, ¬ j = i → P2 j = P j) → cst nT nT2 kc ks → post (code2, place2, (if md = 2 then 11 else if inH = 0 then 10 else 5), oz2, ou2, S2, L2, ot2, kT2, nT2, T2, OZ2, PZ2, P2, kc, ks)) : wp_met_Re_closeAtom post mc ms 12 12 nT rm rm ot code place (nI md) inH fg (nI na) (nI (na + m)) F oz ou S L T OZ PZ (nI (i + 1)) P Z kT := by
  intro r1 hr1
  rw [nI_pred] at hr1
  subst hr1
  refine ⟨mc, ms, by omega, by omega, ?_⟩
  refine sp_Re_checkSize hmd hnd hpl hA hl6 hX rfl hQ.2.1 hS hLA hN hW hna hm hb hF hw hto hL12 hi hrm hmc hms (fun code2 place2 ows2 oz2 ou2 S2 L2 ot2 kT2 nT2 T2 OZ2 PZ2 kc ks q1 q2 q3 q4 q5 q6 => ?_)
  have fin : ∀ P2 : Nat → Int32, CLm md ps cn rk i l K P2 Pl Z M TT → (∀ j, ¬ j = i → P2 j = P j) → jw_met_Re_closeAtom_30 post (nI md) code2 place2 oz2 ou2 S2 L2 ot2 kT2 nT2 T2 OZ2 PZ2 kc ks inH P2 := by
    intro P2 c1 c2
    have := h code2 place2 ows2 oz2 ou2 S2 L2 ot2 kT2 nT2 T2 OZ2 PZ2 P2 kc ks q1 q2 q3 q4 q5 c1 c2 q6
    by_cases h2 : md = 2
    · refine ⟨fun _ => ?_, fun z => absurd (by rw [h2]; rfl) z⟩
      rw [if_pos h2] at this
      rw [Nat.zero_add, Nat.zero_add]
      exact this
    · rw [if_neg h2] at this
      refine ⟨fun z => absurd ((nI_eq (b := 2) (by omega) (by omega)).mp z) h2, fun _ => ?_⟩
      intro y23 h23
      rw [h23, Nat.zero_add, Nat.zero_add]
      exact this
  by_cases hmd0 : md = 0
  · have hf0 : fg = 0 := by
      rcases hFg with ⟨-, e⟩ | ⟨e, -⟩
      · exact e
      · exact absurd hmd0 e
    refine ⟨fun _ => fin P ?_ (fun _ _ => rfl), fun z => absurd hf0 z⟩
    unfold CLm
    rw [if_pos hmd0]
    refine ⟨?_, hnp, fun _ => ?_⟩
    · unfold Ea at hQ
      rw [if_pos hmd0] at hQ
      exact hQ
    · rcases hX with ⟨p, hp, e⟩ | ⟨e, -, -⟩
      · exact ⟨p, hp, e⟩
      · exact absurd hmd0 e
  · unfold Ea at hQ
    rw [if_neg hmd0] at hQ
    rcases hFg with ⟨e, -⟩ | ⟨-, ⟨e, hc⟩ | ⟨e, hc⟩⟩
    · exact absurd e hmd0
    · refine ⟨fun _ => fin P ?_ (fun _ _ => rfl), fun z => absurd e z⟩
      unfold CLm
      rw [if_neg hmd0]
      refine ⟨hQ.1, hQ.2.1, hQ.2.2.1, fun _ => ⟨?_, hQ.2.2.2⟩, fun z => absurd hA z⟩
      rcases hX with ⟨p, hp, e⟩ | ⟨-, e1, e2⟩
      · exact Or.inl ⟨p, hp, e, hc⟩
      · exact Or.inr ⟨e2, fun q => e1 q.1⟩
    · refine ⟨fun z => absurd (e.symm.trans z) (by decide), fun _ => ⟨vp_in_nI hi (by omega), fun g21 h21 => ?_⟩⟩
      rw [nI_clamp (by omega)] at h21
      subst h21
      refine fin _ ?_ (fun j hj => upd_ne hj)
      unfold CLm
      rw [if_neg hmd0]
      exact ⟨hQ.1, hQ.2.1, hQ.2.2.1, fun _ => ⟨Or.inr ⟨upd_same, fun q => hc q.2⟩, hQ.2.2.2⟩, fun z => absurd hA z⟩
end CClose
