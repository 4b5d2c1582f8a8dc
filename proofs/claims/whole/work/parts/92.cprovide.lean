/-! pure: the class's indexes: provided, made room for, searched -/
def IxE (fs : List (Nat × List Nat)) (u : Nat) (PO : Nat → Int64) (sh : Int32) (fx6 : Int64) (fi la fr to : Int32) : Prop := ∃ (p o : Nat) (ro fx : Nat → Nat) (a e lo hi : Nat), (p < 64 ∧ o ≤ 1 ∧ RoOk ro ∧ (∀ c, fx c < 1000)) ∧ (sh = nI (shN p o ro) ∧ fx6 = lN (kN fx) ∧ fi = nI a ∧ la = nI e ∧ fr = nI lo ∧ to = nI hi) ∧ (lo ≤ hi ∧ hi ≤ u ∧ a < fs.length ∧ e < fs.length) ∧ IxQ fs p o ro fx a e lo hi PO
def IxS (fs : List (Nat × List Nat)) (z u nP : Nat) (SHa : Nat → Int32) (FXa : Nat → Int64) (FIa LAa FRa TOa : Nat → Int32) (PO : Nat → Int64) : Prop := (z ≤ 64 ∧ u ≤ nP ∧ 8192 ≤ nP ∧ nP ≤ 960000) ∧ ∀ t, t < z → IxE fs u PO (SHa t) (FXa t) (FIa t) (LAa t) (FRa t) (TOa t)
section CPv
variable {ar : Nat → Nat} {fs : List (Nat × List Nat)} {sg : Nat → Nat} {sz hg : Int32} {FK : Nat → Int64} {S A FP N FT O NW Kn Kb : Nat → Int32} {X0 p o a e u z nP vb vis m : Nat} {ro fx : Nat → Nat} {SF PO FXa : Nat → Int64} {SR : Nat → Nat → Int32} {SO Gp SHa FIa LAa FRa TOa SQ SP SHs SFm STo : Nat → Int32}
theorem IxQ_po {lo hi : Nat} {PO2 : Nat → Int64} (h : IxQ fs p o ro fx a e lo hi PO) (hp : ∀ k, k < hi → PO2 k = PO k) : IxQ fs p o ro fx a e lo hi PO2 := by
  obtain ⟨h1, h2, h3, h4⟩ := h
  refine ⟨fun k k1 k2 => ?_, fun i x g i1 i2 i3 i4 i5 i6 => ?_, fun e1 k k2 k1 k12 k2h => ?_, fun e0 => ?_⟩
  · rw [hp k k2]
    exact h1 k k1 k2
  · obtain ⟨k, k1, k2, k3⟩ := h2 i x g i1 i2 i3 i4 i5 i6
    exact ⟨k, k1, k2, by rw [hp k k2]; exact k3⟩
  · rw [hp k (by omega), hp k2 k2h]
    exact h3 e1 k k2 k1 k12 k2h
  · obtain ⟨src, s1, s2⟩ := h4 e0
    refine ⟨src, fun k k1 k2 => ?_, s2⟩
    rw [hp k k2]
    exact s1 k k1 k2
theorem IxQ_add {lo hi : Nat} {x0 : Nat × List Nat} (h : IxQ fs p o ro fx a e lo hi PO) (he : e < fs.length) : IxQ (fs ++ [x0]) p o ro fx a e lo hi PO := by
  obtain ⟨h1, h2, h3, h4⟩ := h
  refine ⟨fun k k1 k2 => ?_, fun i x g i1 i2 i3 i4 i5 i6 => ?_, h3, fun e0 => ?_⟩
  · obtain ⟨i, x, g, q1, q2, q3, q4⟩ := h1 k k1 k2
    exact ⟨i, x, g, q1, q2, fs1.mpr (Or.inl q3), q4⟩
  · rcases fs1.mp i3 with w | ⟨w, -⟩
    · exact h2 i x g i1 i2 w i4 i5 i6
    · omega
  · obtain ⟨src, s1, s2⟩ := h4 e0
    refine ⟨src, fun k k1 k2 => ?_, s2⟩
    obtain ⟨x, g, q1, q2⟩ := s1 k k1 k2
    exact ⟨x, g, fs1.mpr (Or.inl q1), q2⟩
theorem fitR_cong {ro2 fx2 f : Nat → Nat} (h1 : ∀ c, c < 6 → ro c = ro2 c) (h2 : ∀ c, c < 6 → fx c = fx2 c) (h : fitR ro fx f) : fitR ro2 fx2 f := by
  refine ⟨fun c hc e => ?_, fun c k hc hk e => ?_⟩
  · rw [← h2 c hc]
    exact h.1 c hc (by rw [h1 c hc]; exact e)
  · exact h.2 c k hc hk (by rw [h1 c hc]; exact e)
theorem PaR_cong {ro2 f g : Nat → Nat} (h1 : ∀ c, c < 6 → ro c = ro2 c) (h : PaR ro f g) : PaR ro2 f g := by
  refine ⟨fun c hc e => ?_, fun q hq => h.2 q (fun c hc => by rw [h1 c hc]; exact hq c hc)⟩
  rw [← h1 c hc]
  exact h.1 c hc (by rw [h1 c hc]; exact e)
theorem IxQ_cong {lo hi : Nat} {ro2 fx2 : Nat → Nat} (h1 : ∀ c, c < 6 → ro c = ro2 c) (h2 : ∀ c, c < 6 → fx c = fx2 c) (h : IxQ fs p o ro fx a e lo hi PO) : IxQ fs p o ro2 fx2 a e lo hi PO := by
  obtain ⟨a1, a2, a3, a4⟩ := h
  refine ⟨fun k k1 k2 => ?_, fun i x g i1 i2 i3 i4 i5 i6 => ?_, a3, fun e0 => ?_⟩
  · obtain ⟨i, x, g, q1, q2, q3, q4, q5, q6, q7⟩ := a1 k k1 k2
    exact ⟨i, x, g, q1, q2, q3, q4, fitR_cong h1 h2 q5, PaR_cong h1 q6, q7⟩
  · exact a2 i x g i1 i2 i3 i4 (fitR_cong (fun c hc => (h1 c hc).symm) (fun c hc => (h2 c hc).symm) i5) (PaR_cong (fun c hc => (h1 c hc).symm) i6)
  · obtain ⟨src, s1, s2⟩ := a4 e0
    refine ⟨src, fun k k1 k2 => ?_, s2⟩
    obtain ⟨x, g, q1, q2, q3, q4, q5⟩ := s1 k k1 k2
    exact ⟨x, g, q1, q2, fitR_cong h1 h2 q3, PaR_cong h1 q4, q5⟩
theorem IxS_add {x0 : Nat × List Nat} (h : IxS fs z u nP SHa FXa FIa LAa FRa TOa PO) : IxS (fs ++ [x0]) z u nP SHa FXa FIa LAa FRa TOa PO := by
  refine ⟨h.1, fun t ht => ?_⟩
  obtain ⟨p, o, ro, fx, a, e, lo, hi, h1, h2, ⟨h3, h4, h5, h6⟩, h7⟩ := h.2 t ht
  refine ⟨p, o, ro, fx, a, e, lo, hi, h1, h2, ⟨h3, h4, ?_, ?_⟩, IxQ_add h7 h6⟩
  · rw [List.length_append]
    omega
  · rw [List.length_append]
    omega
theorem sp_firstOf {post : Int32 → Unit → Prop} {fr : Int32} (hF : FaR ar fs sg sz hg FK S A FP N FT O NW) (hp : p < 64) (hKb : LsQ fs p vb (Kb p)) (hvb : vb ≤ fs.length) (hfr : (fr = 0 ∧ m = 0) ∨ (fr = 1 ∧ m = vb)) (h : ∀ x, FiQ fs p m x → post x ()) : wp_met_Fa_firstOf post (nI p) fr N O Kb := by
  have h20 := hF.1
  have cp : (nI p).toNatClampNeg = p := nI_clamp (by omega)
  have vp : vp_in (nI p) 64 := vp_in_nI hp (by omega)
  have hO := hF.2.2.2.2.2.2.2.1 p hp
  refine ⟨⟨fun _ => trivial, fun _ => ⟨vp, trivial⟩⟩, fun y1 h1 => ?_⟩
  rw [cp] at h1 ⊢
  rcases hfr with ⟨e1, e2⟩ | ⟨e1, e2⟩
  · rw [e1, if_pos rfl] at h1
    subst h1 e2
    refine ⟨⟨fun w => absurd w (by decide), fun _ => ⟨vp, trivial⟩⟩, fun y3 h3 => ?_⟩
    rw [if_neg (by decide)] at h3
    subst h3
    exact h _ hO
  · rw [e1, if_neg (by decide)] at h1
    subst e2
    rcases hKb with ⟨k1, k2⟩ | ⟨i, y, k1, k2, k3, k4, k5⟩
    · rw [k1, if_pos rfl] at h1
      subst h1
      refine ⟨⟨fun w => absurd w (by decide), fun _ => ⟨vp, trivial⟩⟩, fun y3 h3 => ?_⟩
      rw [if_neg (by decide)] at h3
      subst h3
      refine h _ ?_
      rcases hO with ⟨q1, q2⟩ | ⟨i, y, q1, q2, q3, q4, q5⟩
      · exact Or.inl ⟨q1, fun i y _ => q2 i y (Nat.zero_le _)⟩
      · refine Or.inr ⟨i, y, ?_, q2, q3, q4, fun j w j1 j2 => q5 j w (Nat.zero_le _) j2⟩
        rcases Nat.lt_or_ge i m with w | w
        · exact absurd q3 (k2 i y w q2)
        · exact w
    · rw [k4, if_neg (nI_ne1 (by omega))] at h1
      subst h1
      refine ⟨⟨fun _ => ⟨vp, by rw [k4]; exact ⟨vp_in_nI (by omega) (by omega), trivial⟩⟩, fun w => absurd rfl w⟩, fun y3 h3 => ?_⟩
      rw [if_pos rfl, k4, nI_clamp (by omega)] at h3
      subst h3
      refine h _ ?_
      have hN := hF.2.2.2.2.2.2.2.2.2.1 i y k2
      rw [k3] at hN
      rcases hN with ⟨q1, q2⟩ | ⟨i2, y2, q1, q2, q3, q4, q5⟩
      · exact Or.inl ⟨q1, fun j w j1 => q2 j w (by omega)⟩
      · refine Or.inr ⟨i2, y2, ?_, q2, q3, q4, fun j w j1 j2 => q5 j w (by omega) j2⟩
        rcases Nat.lt_or_ge i2 m with w | w
        · exact absurd q3 (k5 i2 y2 (by omega) w q2)
        · exact w
theorem sp_Ix_provide {post : (Int32 × Int32 × (Nat → Int32) × (Nat → Int64) × (Nat → Int32) × (Nat → Int32) × (Nat → Int32) × (Nat → Int32) × (Nat → Int64) × (Nat → Int32) × (Nat → Int32)) → Prop} {y0 : Nat × List Nat} {j0 : Nat} (hX : X0 < 12) (hF : FaR ar fs sg sz hg FK S A FP N FT O NW) (hI : IxS fs z u nP SHa FXa FIa LAa FRa TOa PO) (hz : z < 64) (hu : u + cntP fs p ≤ nP) (hp : p < 64) (ho : o ≤ 1) (hRo : RoOk ro) (hfx : ∀ c, fx c < 1000) (hSP : SP X0 = nI p) (hSO : SO X0 = nI o) (hSH : SHs X0 = nI (shN p o ro)) (hSF : SF X0 = lN (kN fx)) (hSR : rN ro (SR X0)) (hKb : LsQ fs p vb (Kb p)) (hKn : LsQ fs p vis (Kn p)) (hvb : vb ≤ fs.length) (hvis : vis ≤ fs.length) (hfr : (SQ X0 = 0 ∧ m = 0) ∨ (SQ X0 = 1 ∧ m = vb)) (hy : fs[j0]? = some y0) (hyp : y0.1 = p) (hj1 : m ≤ j0) (hj2 : j0 < vis) (hG : GpI 11 Gp)
    (h : ∀ a e lo hi z2 u2 SHa2 FXa2 FIa2 LAa2 FRa2 TOa2 PO2 SFm2 STo2, FiQ fs p m (nI a) → LsQ fs p vis (nI e) → (a < fs.length ∧ e < fs.length ∧ a ≤ e) → IxQ fs p o ro fx a e lo hi PO2 → (lo ≤ hi ∧ hi ≤ u2) → IxS fs z2 u2 nP SHa2 FXa2 FIa2 LAa2 FRa2 TOa2 PO2 → z2 ≤ z + 1 → u ≤ u2 → u2 ≤ u + cntP fs p → (∀ k, k < u → PO2 k = PO k) → SFm2 X0 = nI lo → STo2 X0 = nI hi → (∀ Y, ¬ Y = X0 → SFm2 Y = SFm Y ∧ STo2 Y = STo Y) → post (nI z2, nI u2, SHa2, FXa2, FIa2, LAa2, FRa2, TOa2, PO2, SFm2, STo2)) : wp_met_Ix_provide post nP (nI z) (nI u) SHa FXa FIa LAa FRa TOa PO FK N O Kn Kb Gp SQ SP SO SHs SF SFm STo SR X0 := by
  have h20 := hF.1
  have cp : (nI p).toNatClampNeg = p := nI_clamp (by omega)
  have hj0l := (List.getElem?_eq_some_iff.mp hy).1
  obtain ⟨⟨i1, i2, i3, i4⟩, i5⟩ := hI
  refine ⟨hX, fun y1 h1 y2 h2 => ?_⟩
  rw [hSP] at h1
  subst h1 h2
  refine sp_firstOf hF hp hKb hvb hfr (fun x hx => ?_)
  intro y4 h4
  rw [hSP] at h4
  subst h4
  refine ⟨vp_in_nI hp (by omega), fun r5 h5 => ?_⟩
  rw [cp] at h5
  have hx2 := hx
  rcases hx with ⟨q1, q2⟩ | ⟨a, xa, a1, a2, a3, a4, a5⟩
  · exact absurd hyp (q2 j0 y0 hj1 hy)
  have hal := (List.getElem?_eq_some_iff.mp a2).1
  have hKn2 := hKn
  rcases hKn with ⟨q1, q2⟩ | ⟨e, xe, e1, e2, e3, e4, e5⟩
  · exact absurd hyp (q2 j0 y0 hj2 hy)
  have hel := (List.getElem?_eq_some_iff.mp e2).1
  have haj : a ≤ j0 := by
    rcases Nat.lt_or_ge j0 a with w | w
    · exact absurd hyp (a5 j0 y0 hj1 w hy)
    · exact w
  have hje : j0 ≤ e := by
    rcases Nat.lt_or_ge e j0 with w | w
    · exact absurd hyp (e5 j0 y0 w hj2 hy)
    · exact w
  rw [a4] at hx2
  rw [e4] at hKn2
  rw [a4, h5, e4]
  -- an index that is there
  have hit : ∀ t, t < z → SHa t = nI (shN p o ro) → FXa t = lN (kN fx) → FIa t = nI a → LAa t = nI e → jw_met_Ix_provide_194 post (nI t) SFm X0 STo (nI z, nI u, SHa, FXa, FIa, LAa, FRa, TOa, PO) := by
    intro t ht s1 s2 s3 s4
    obtain ⟨p', o', ro', fx', a', e', lo, hi, ⟨b1, b2, b3, b4⟩, ⟨b5, b6, b7, b8, b9, b10⟩, ⟨b11, b12, b13, b14⟩, b15⟩ := i5 t ht
    have l1 : shN p o ro < 2147483648 := by
      have r0 := hRo.1 0 (by omega)
      have r1 := hRo.1 1 (by omega)
      have r2 := hRo.1 2 (by omega)
      have r3 := hRo.1 3 (by omega)
      have r4 := hRo.1 4 (by omega)
      have r5 := hRo.1 5 (by omega)
      unfold shN
      omega
    have l2 : shN p' o' ro' < 2147483648 := by
      have r0 := b3.1 0 (by omega)
      have r1 := b3.1 1 (by omega)
      have r2 := b3.1 2 (by omega)
      have r3 := b3.1 3 (by omega)
      have r4 := b3.1 4 (by omega)
      have r5 := b3.1 5 (by omega)
      unfold shN
      omega
    have es := (nI_eq l2 l1).mp (b5.symm.trans s1)
    obtain ⟨ep, eo, er⟩ := shN_inj b2 ho (fun c hc => by have := b3.1 c hc; omega) (fun c hc => by have := hRo.1 c hc; omega) es
    have k1 := kN_lt (f := fx) (fun c _ => by have := hfx c; omega)
    have k2 := kN_lt (f := fx') (fun c _ => by have := b4 c; omega)
    have ef := (pk_lEQ (by omega) (by omega)).mp (b6.symm.trans s2)
    have ef2 : ∀ c, c < 6 → fx' c = fx c := fun c hc => kN_inj (fun c _ => by have := b4 c; omega) (fun c _ => by have := hfx c; omega) ef hc
    have ea := (nI_eq (by omega) (by omega)).mp (b7.symm.trans s3)
    have ee := (nI_eq (by omega) (by omega)).mp (b8.symm.trans s4)
    subst ep eo ea ee
    have hQ := IxQ_cong er ef2 b15
    refine ⟨vp_in_nI (by omega) (by omega), fun y48 h48 g49 h49 => ⟨vp_in_nI (by omega) (by omega), fun y51 h51 g52 h52 => ?_⟩⟩
    rw [nI_clamp (by omega)] at h48 h51
    refine h _ _ lo hi z u _ _ _ _ _ _ _ _ _ hx2 hKn2 ⟨hal, hel, by omega⟩ hQ ⟨b11, b12⟩ ⟨⟨i1, i2, i3, i4⟩, i5⟩ (by omega) (Nat.le_refl _) (by omega) (fun _ _ => rfl) ?_ ?_ (fun Y hY => ⟨by rw [h49, fup_ne _ _ hY], by rw [h52, fup_ne _ _ hY]⟩)
    · rw [h49, fup_self, h48, b9]
    · rw [h52, fup_self, h51, b10]
  have cz : (nI z).toNatClampNeg = z := nI_clamp (by omega)
  have vz : vp_in (nI z) 64 := vp_in_nI hz (by omega)
  have make : jw_met_Ix_provide_93 post (nI z) (nI z) SHs X0 SHa SF FXa FIa (nI a) LAa (nI e) FRa (nI u) TOa nP PO FK N Gp SO SR SFm STo () := by
    refine ⟨fun _ => ?_, fun w => absurd rfl w⟩
    intro y20 h20'
    refine ⟨vz, fun g22 h22 y23 h23 => ⟨vz, fun g25 h25 => ⟨vz, fun g27 h27 => ⟨vz, fun g29 h29 => ⟨vz, fun g31 h31 => ?_⟩⟩⟩⟩⟩
    rw [cz] at h22 h25 h27 h29 h31
    refine sp_Ix_collect hX hF hRo hfx hSF hSR ho hSO a2 a3 e2 e3 (by omega) (by omega) hu hG (fun hi V v1 v2 v3 v4 => ?_)
    refine ⟨vz, fun g36 h36 y37 h37 => ?_⟩
    rw [cz] at h36
    rw [nI_1] at h37
    subst h37
    refine ⟨vz, fun y48 h48 g49 h49 => ⟨vz, fun y51 h51 g52 h52 => ?_⟩⟩
    rw [cz] at h48 h51
    refine h a e u hi (z + 1) hi _ _ _ _ _ _ _ _ _ hx2 hKn2 ⟨hal, hel, by omega⟩ v3 ⟨v1, Nat.le_refl _⟩ ⟨⟨by omega, by omega, i3, i4⟩, fun t ht => ?_⟩ (Nat.le_refl _) v1 v2 v4 ?_ ?_ (fun Y hY => ⟨by rw [h49, fup_ne _ _ hY], by rw [h52, fup_ne _ _ hY]⟩)
    · by_cases w : t = z
      · subst w
        refine ⟨p, o, ro, fx, a, e, u, hi, ⟨hp, ho, hRo, hfx⟩, ⟨?_, ?_, ?_, ?_, ?_, ?_⟩, ⟨v1, Nat.le_refl _, hal, hel⟩, v3⟩
        · rw [h22, upd_same, h20', hSH]
        · rw [h25, pk_uLs, h23, hSF]
        · rw [h27, upd_same]
        · rw [h29, upd_same]
        · rw [h31, upd_same]
        · rw [h36, upd_same]
      · obtain ⟨p', o', ro', fx', a', e', lo', hi', c1, c2, ⟨c3, c4, c5, c6⟩, c7⟩ := i5 t (by omega)
        rw [h22, h25, h27, h29, h31, h36, upd_ne w, pk_uLn w, upd_ne w, upd_ne w, upd_ne w, upd_ne w]
        exact ⟨p', o', ro', fx', a', e', lo', hi', c1, c2, ⟨c3, by omega, c5, c6⟩, IxQ_po c7 (fun k hk => v4 k (by omega))⟩
    · rw [h49, fup_self, h48, h31, upd_same]
    · rw [h52, fup_self, h51, h36, upd_same]
  have go : ∀ d t, t + d = z → lw_met_Ix_provide_26 post (nI z) SHa SHs X0 FXa SF FIa (nI a) LAa (nI e) FRa (nI u) TOa nP PO FK N Gp SO SR SFm STo (d + 1) (nI t) := by
    intro d
    induction d with
    | zero =>
      intro t ht
      obtain rfl : t = z := by omega
      exact pk_le t t (fun _ => make) (fun w => absurd w (by omega))
    | succ d ih =>
      intro t ht
      have vt : vp_in (nI t) 64 := vp_in_nI (by omega) (by omega)
      have ct : (nI t).toNatClampNeg = t := nI_clamp (by omega)
      have nx : lw_met_Ix_provide_26 post (nI z) SHa SHs X0 FXa SF FIa (nI a) LAa (nI e) FRa (nI u) TOa nP PO FK N Gp SO SR SFm STo (d + 1) (nI t + 1) := by
        rw [nI_1]
        exact ih (t + 1) (by omega)
      refine pk_le z t (fun w => absurd w (by omega)) (fun _ => ⟨vt, fun y10 h10 y11 h11 => ⟨fun s1 => ⟨vt, fun y13 h13 y14 h14 => ⟨fun s2 => ⟨vt, fun y16 h16 => ⟨fun s3 => ⟨vt, fun y18 h18 => ⟨fun s4 => ?_, fun _ => nx⟩⟩, fun _ => nx⟩⟩, fun _ => nx⟩⟩, fun _ => nx⟩⟩)
      rw [ct] at h10 h13 h16 h18
      refine ⟨fun w => ?_, fun _ => hit t (by omega) ?_ ?_ ?_ ?_⟩
      · have := (nI_eq (by omega) (by omega)).mp w
        omega
      · rw [← h10, s1, h11, hSH]
      · rw [← h13, s2, h14, hSF]
      · rw [← h16, s3]
      · rw [← h18, s4]
  exact ⟨_, go z 0 (by omega)⟩
theorem sp_Ix_makeRoom {post : (Int32 × Int32 × Nat × ClassId × Nat × (Nat → Int64) × Nat × Nat) → Prop} {mc ms pl keys : Nat} {kp : ClassId} (hI : IxS fs z u nP SHa FXa FIa LAa FRa TOa PO) (hk : keys ≤ 240000) (hmc : 1 ≤ mc) (hms : 960000 ≤ ms) (h : ∀ z2 u2 pl2 kp2 nP2 PO2 kc ks, IxS fs z2 u2 nP2 SHa FXa FIa LAa FRa TOa PO2 → z2 + 12 ≤ 64 → u2 + keys ≤ nP2 → cst nP nP2 kc ks → post (nI z2, nI u2, pl2, kp2, nP2, PO2, kc, ks)) : wp_met_Ix_makeRoom post mc ms nP pl (nI keys) (nI z) (nI u) PO kp := by
  obtain ⟨⟨i1, i2, i3, i4⟩, i5⟩ := hI
  have clr : jw_met_Ix_makeRoom_26 post (nI keys) nP pl kp PO mc ms () := by
    intro y7 h7
    rw [show (2 : Int32) = nI 2 from rfl, pk_mul] at h7
    subst h7
    refine pk_le (2 * keys) nP (fun q => ?_) (fun q => ?_)
    · exact h 0 0 pl kp nP PO 0 0 ⟨⟨by omega, by omega, i3, i4⟩, fun t ht => absurd ht (by omega)⟩ (by omega) (by omega) cst_0
    · intro y8 h8 y9 h9 y10 h10
      rw [show (2 : Int32) = nI 2 from rfl, pk_mul] at h8 h9
      subst h8 h9
      have e10 : y10 = nI (max (2 * keys) (2 * nP)) := by
        rw [h10]
        by_cases w : 2 * keys < 2 * nP
        · rw [if_pos (nI_lt w (by omega)), Nat.max_eq_right (by omega)]
        · have w2 : ¬ nI (2 * keys) < nI (2 * nP) := fun v => w (by
            have v2 := Int32.lt_iff_toInt_lt.mp v
            rw [nI_toInt (by omega), nI_toInt (by omega)] at v2
            omega)
          rw [if_neg w2, Nat.max_eq_left (by omega)]
      have hm : max (2 * keys) (2 * nP) ≤ 960000 := by omega
      have hm2 : 2 * nP ≤ max (2 * keys) (2 * nP) := by omega
      have hm3 : 2 * keys ≤ max (2 * keys) (2 * nP) := by omega
      generalize max (2 * keys) (2 * nP) = nn at e10 hm hm2 hm3
      subst e10
      have cn : (nI nn).toNatClampNeg = nn := nI_clamp (by omega)
      rw [cn]
      refine ⟨fun w => ?_, ?_, by omega, by omega, fun q55 k55 g11 h11 => ?_⟩
      · have w2 := Int32.lt_iff_toInt_lt.mp w
        rw [nI_toInt (by omega)] at w2
        have : (0 : Int32).toInt = 0 := by decide
        omega
      · show nn * 8 ≤ 536870912
        omega
      · refine h 0 0 q55 k55 nn g11 (0 + 1) (0 + nn) ⟨⟨by omega, by omega, by omega, hm⟩, fun t ht => absurd ht (by omega)⟩ (by omega) (by omega) ⟨by omega, by omega, by omega⟩
  intro y1 h1
  rw [nI_add] at h1
  subst h1
  refine pk_lt nP (u + keys) (fun _ => clr) (fun q => ?_)
  intro y3 h3
  rw [show (12 : Int32) = nI 12 from rfl, nI_add] at h3
  subst h3
  exact pk_le (z + 12) 64 (fun q2 => h z u pl kp nP PO 0 0 ⟨⟨i1, i2, i3, i4⟩, i5⟩ q2 q cst_0) (fun _ => clr)
theorem sp_Ix_seek {post : Int32 → Unit → Prop} {lo hi : Nat} {key : Int64} (hnP : nP ≤ 960000) (hhi : hi ≤ nP) (hlo : lo ≤ hi) (hs : ∀ k k2, lo ≤ k → k < k2 → k2 < hi → PO k < PO k2) (h : ∀ r, lo ≤ r → r ≤ hi → (∀ k, lo ≤ k → k < r → PO k < key) → (∀ k, r ≤ k → k < hi → key ≤ PO k) → post (nI r) ()) : wp_met_Ix_seek post nP (nI lo) (nI hi) key PO := by
  have go : ∀ d b t, t ≤ b + d → b ≤ t → lo ≤ b → t ≤ hi → (∀ k, lo ≤ k → k < b → PO k < key) → (∀ k, t ≤ k → k < hi → key ≤ PO k) → lw_met_Ix_seek_6 post nP PO key (d + 1) (nI t, nI b) := by
    intro d
    induction d with
    | zero =>
      intro b t h1 h2 h3 h4 h5 h6
      exact pk_le t b (fun _ => h b h3 (by omega) h5 (fun k k1 k2 => h6 k (by omega) k2)) (fun q => absurd q (by omega))
    | succ d ih =>
      intro b t h1 h2 h3 h4 h5 h6
      refine pk_le t b (fun _ => h b h3 (by omega) h5 (fun k k1 k2 => h6 k (by omega) k2)) (fun hlt => ?_)
      intro y4 hy4 y5 hy5
      rw [nI_add] at hy4
      rw [hy4, pk_ushrN (by omega) 1 1 (by decide)] at hy5
      obtain ⟨mid, hmid⟩ : ∃ mid, mid = (b + t) / 2 ^ 1 := ⟨_, rfl⟩
      rw [← hmid] at hy5
      subst hy5
      refine ⟨vp_in_nI (by omega) (by omega), fun y7 h7 => ?_⟩
      rw [nI_clamp (by omega)] at h7
      subst h7
      refine ⟨fun w => ?_, fun w => ?_⟩
      · refine ih b mid (by omega) (by omega) h3 (by omega) h5 (fun k k1 k2 => ?_)
        by_cases e : k = mid
        · rw [e]
          exact w
        · have := hs mid k (by omega) (by omega) k2
          rw [Int64.lt_iff_toInt_lt] at this
          rw [Int64.le_iff_toInt_le] at w ⊢
          omega
      · intro y8 h8
        rw [nI_1] at h8
        subst h8
        refine ih (mid + 1) t (by omega) (by omega) (by omega) h4 (fun k k1 k2 => ?_) h6
        rw [Int64.le_iff_toInt_le] at w
        rw [Int64.lt_iff_toInt_lt]
        by_cases e : k = mid
        · rw [e]
          omega
        · have := hs k mid k1 (by omega) (by omega)
          rw [Int64.lt_iff_toInt_lt] at this
          omega
  exact ⟨_, go (hi - lo) lo hi (by omega) hlo (Nat.le_refl _) (Nat.le_refl _) (fun k k1 k2 => absurd k1 (by omega)) (fun k k1 k2 => absurd k1 (by omega))⟩
end CPv
