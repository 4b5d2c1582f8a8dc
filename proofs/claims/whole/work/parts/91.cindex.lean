/-! pure: the class's indexes: what is collected -/
/-- an index: the parts of the facts a..e of predicate p -/
def IxQ (fs : List (Nat × List Nat)) (p o : Nat) (ro fx : Nat → Nat) (a e lo hi : Nat) (PO : Nat → Int64) : Prop := (∀ k, lo ≤ k → k < hi → ∃ i x g, a ≤ i ∧ i ≤ e ∧ fs[i]? = some x ∧ x.1 = p ∧ fitR ro fx (fc x) ∧ PaR ro (fc x) g ∧ PO k = lN (kN g)) ∧ (∀ i x g, a ≤ i → i ≤ e → fs[i]? = some x → x.1 = p → fitR ro fx (fc x) → PaR ro (fc x) g → ∃ k, lo ≤ k ∧ k < hi ∧ PO k = lN (kN g)) ∧ (o = 1 → ∀ k k2, lo ≤ k → k < k2 → k2 < hi → PO k < PO k2) ∧ (o = 0 → ∃ src : Nat → Nat, (∀ k, lo ≤ k → k < hi → ∃ x g, fs[src k]? = some x ∧ x.1 = p ∧ fitR ro fx (fc x) ∧ PaR ro (fc x) g ∧ PO k = lN (kN g)) ∧ ∀ k k2, lo ≤ k → k < k2 → k2 < hi → src k < src k2)
theorem cntP_take {fs : List (Nat × List Nat)} {p i : Nat} {x : Nat × List Nat} (h : fs[i]? = some x) : cntP (fs.take (i + 1)) p = cntP (fs.take i) p + (if x.1 = p then 1 else 0) := by
  rw [List.take_succ, h]
  exact cntP_add _ _ _
theorem cntP_tle {fs : List (Nat × List Nat)} {p : Nat} : ∀ d i, cntP (fs.take i) p ≤ cntP (fs.take (i + d)) p := by
  intro d
  induction d with
  | zero => exact fun i => Nat.le_refl _
  | succ d ih =>
    intro i
    refine Nat.le_trans (ih i) ?_
    rw [← Nat.add_assoc]
    cases h : fs[i + d]? with
    | some x =>
      rw [cntP_take h]
      omega
    | none =>
      rw [List.take_succ, h]
      simp
theorem cntP_all {fs : List (Nat × List Nat)} {p i : Nat} : cntP (fs.take i) p ≤ cntP fs p := by
  rcases Nat.lt_or_ge i fs.length with z | z
  · have := cntP_tle (fs := fs) (p := p) (fs.length - i) i
    rw [show i + (fs.length - i) = fs.length by omega, List.take_length] at this
    exact this
  · rw [List.take_of_length_le z]
    omega
theorem lt64_tr {x y z : Int64} (h1 : x < y) (h2 : y < z) : x < z := by
  rw [Int64.lt_iff_toInt_lt] at *
  omega
theorem nle64 {x y : Int64} (h : ¬ x ≤ y) : y < x := by
  rw [Int64.le_iff_toInt_le] at h
  rw [Int64.lt_iff_toInt_lt]
  omega
section CIx
variable {ar : Nat → Nat} {fs : List (Nat × List Nat)} {sg : Nat → Nat} {sz hg : Int32} {FK : Nat → Int64} {S A FP N FT O NW : Nat → Int32} {X0 p o a e u nP : Nat} {ro fx : Nat → Nat} {SF PO : Nat → Int64} {SR : Nat → Nat → Int32} {SO Gp : Nat → Int32}
/-- while it is collected: the facts before i are done -/
def CoQ (fs : List (Nat × List Nat)) (p : Nat) (ro fx : Nat → Nat) (a u : Nat) (PO : Nat → Int64) (i t hi : Nat) (so : Int32) (V : Nat → Int64) : Prop := u ≤ hi ∧ hi ≤ u + t ∧ t ≤ cntP (fs.take i) p ∧ (∃ src : Nat → Nat, (∀ k, u ≤ k → k < hi → ∃ x g, a ≤ src k ∧ src k < i ∧ fs[src k]? = some x ∧ x.1 = p ∧ fitR ro fx (fc x) ∧ PaR ro (fc x) g ∧ V k = lN (kN g)) ∧ ∀ k k2, u ≤ k → k < k2 → k2 < hi → src k < src k2) ∧ (∀ j x g, a ≤ j → j < i → fs[j]? = some x → x.1 = p → fitR ro fx (fc x) → PaR ro (fc x) g → ∃ k, u ≤ k ∧ k < hi ∧ V k = lN (kN g)) ∧ (so = 0 ∨ (so = 1 ∧ ∀ k k2, u ≤ k → k < k2 → k2 < hi → V k < V k2)) ∧ (∀ k, k < u → V k = PO k)
theorem CoQ_to {i i2 t hi : Nat} {so : Int32} {V : Nat → Int64} (hle : i ≤ i2) (hno : ∀ j x, i ≤ j → j < i2 → fs[j]? = some x → ¬ x.1 = p) (h : CoQ fs p ro fx a u PO i t hi so V) : CoQ fs p ro fx a u PO i2 t hi so V := by
  obtain ⟨h1, h2, h3, ⟨src, s1, s2⟩, h5, h6, h7⟩ := h
  refine ⟨h1, h2, ?_, ⟨src, fun k k1 k2 => ?_, s2⟩, fun j x g j1 j2 j3 j4 => ?_, h6, h7⟩
  · have := cntP_tle (fs := fs) (p := p) (i2 - i) i
    rw [show i + (i2 - i) = i2 by omega] at this
    omega
  · obtain ⟨x, g, g1, g2, g3⟩ := s1 k k1 k2
    exact ⟨x, g, g1, by omega, g3⟩
  · rcases Nat.lt_or_ge j i with z | z
    · exact h5 j x g j1 z j3 j4
    · exact absurd j4 (hno j x z j2 j3)
theorem kN_ne {g : Nat → Nat} (hg : ∀ q, q < 6 → g q < 1000) : ¬ lN (kN g) = (-1 : Int64) := by
  intro z
  have h := kN_lt (f := g) (fun q hq => by have := hg q hq; omega)
  have h2 := congrArg Int64.toInt z
  rw [pk_lT (by omega)] at h2
  have h3 : (-1 : Int64).toInt = -1 := by decide
  omega
theorem fc_lt {x : Nat × List Nat} (h : fOk x) : ∀ j, fc x j < 1000 := by
  intro j
  show x.2.getD j 0 < 1000
  rw [List.getD_eq_getElem?_getD]
  cases e : x.2[j]? with
  | none => show 0 < 1000; omega
  | some r => exact h.2.2 r (List.mem_of_getElem? e)
theorem sp_Ix_collect {post : (Int32 × (Nat → Int64)) → Prop} {xa xe : Nat × List Nat} (hX : X0 < 12) (hF : FaR ar fs sg sz hg FK S A FP N FT O NW) (hRo : RoOk ro) (hfx : ∀ c, fx c < 1000) (hSF : SF X0 = lN (kN fx)) (hSR : rN ro (SR X0)) (ho : o ≤ 1) (hSO : SO X0 = nI o) (ha : fs[a]? = some xa) (hap : xa.1 = p) (he : fs[e]? = some xe) (hep : xe.1 = p) (hae : a ≤ e) (hnP : nP < 1000000) (hu : u + cntP fs p ≤ nP) (hG : GpI 11 Gp)
    (h : ∀ hi V, u ≤ hi → hi ≤ u + cntP fs p → IxQ fs p o ro fx a e u hi V → (∀ k, k < u → V k = PO k) → post (nI hi, V)) : wp_met_Ix_collect post nP (nI a) (nI e) (nI u) PO FK N Gp SO SF SR X0 := by
  have hel := (List.getElem?_eq_some_iff.mp he).1
  have h20 := hF.1
  have hcl := cntP_le fs p
  have fin : ∀ t hi so V, CoQ fs p ro fx a u PO (e + 1) t hi so V → jw_met_Ix_collect_147 post SO X0 (nI hi) V so nP (nI u) Gp () := by
    intro t hi so V hC
    obtain ⟨h1, h2, h3, ⟨src, s1, s2⟩, h5, h6, h7⟩ := hC
    have hct := cntP_all (fs := fs) (p := p) (i := e + 1)
    have c1 : ∀ k, u ≤ k → k < hi → ∃ i x g, a ≤ i ∧ i ≤ e ∧ fs[i]? = some x ∧ x.1 = p ∧ fitR ro fx (fc x) ∧ PaR ro (fc x) g ∧ V k = lN (kN g) := by
      intro k k1 k2
      obtain ⟨x, g, g1, g2, g3⟩ := s1 k k1 k2
      exact ⟨src k, x, g, g1, by omega, g3⟩
    intro y21 h21
    rw [hSO] at h21
    subst h21
    refine pk_eq o 0 (fun e0 => ?_) (fun e0 => ?_)
    · refine h hi V h1 (by omega) ⟨c1, fun i x g i1 i2 => h5 i x g i1 (by omega), fun z => absurd z (by omega), fun _ => ⟨src, fun k k1 k2 => ?_, s2⟩⟩ h7
      obtain ⟨x, g, g1, g2, g3⟩ := s1 k k1 k2
      exact ⟨x, g, g3⟩
    · refine ⟨fun z => ?_, fun z => ?_⟩
      · refine sp_Ix_sort hnP (by omega) h1 hG (fun V2 v1 v2 => ?_)
        refine sp_Ix_dropEquals hnP (by omega) h1 v2 (fun ke V3 w1 w2 w3 w4 w5 => ?_)
        have hmem : ∀ x, (∃ k, u ≤ k ∧ k < ke ∧ V3 k = x) ↔ ∃ k, u ≤ k ∧ k < hi ∧ V k = x := by
          intro x
          rw [w4 x]
          have := PmQ_mem v1 x
          constructor
          · rintro ⟨k, k1, k2, k3⟩
            obtain ⟨i, i1, i2⟩ := this.mp ⟨k, ⟨k1, k2⟩, k3⟩
            exact ⟨i, i1.1, i1.2, i2⟩
          · rintro ⟨k, k1, k2, k3⟩
            obtain ⟨i, i1, i2⟩ := this.mpr ⟨k, ⟨k1, k2⟩, k3⟩
            exact ⟨i, i1.1, i1.2, i2⟩
        refine h ke V3 w1 (by omega) ⟨fun k k1 k2 => ?_, fun i x g i1 i2 i3 i4 i5 i6 => ?_, fun _ => w3, fun z => absurd z e0⟩ (fun k hk => ?_)
        · obtain ⟨k', q1, q2, q3⟩ := (hmem (V3 k)).mp ⟨k, k1, k2, rfl⟩
          obtain ⟨i, x, g, r1, r2, r3, r4, r5, r6, r7⟩ := c1 k' q1 q2
          exact ⟨i, x, g, r1, r2, r3, r4, r5, r6, q3.symm.trans r7⟩
        · exact (hmem _).mpr (h5 i x g i1 (by omega) i3 i4 i5 i6)
        · rw [w5 k hk]
          obtain ⟨σ, τ, -, b2⟩ := v1
          rw [b2 k (fun w => by have := w.1; omega)]
          exact h7 k hk
      · rcases h6 with w | ⟨w1, w2⟩
        · exact absurd w z
        · exact h hi V h1 (by omega) ⟨c1, fun i x g i1 i2 => h5 i x g i1 (by omega), fun _ => w2, fun q => absurd q e0⟩ h7
  have go : ∀ m i, a ≤ i → i ≤ e → e < i + m → ∀ x, fs[i]? = some x → x.1 = p → ∀ t hi so V, CoQ fs p ro fx a u PO i t hi so V → lw_met_Ix_collect_15 post FK nP (nI u) SF SR X0 (nI e) N SO Gp (m + 1) (nI t, nI i, so, nI hi, V) := by
    intro m
    induction m with
    | zero => exact fun i h1 h2 h3 => absurd h3 (by omega)
    | succ m ih =>
      intro i ja jb jc x hx hxp t hi so V hC
      have hil := (List.getElem?_eq_some_iff.mp hx).1
      have hct : cntP (fs.take i) p < cntP fs p := by
        have h1 := cntP_take (p := p) hx
        rw [if_pos hxp] at h1
        have h2 := cntP_all (fs := fs) (p := p) (i := i + 1)
        omega
      have hok := (hF.2.2.2.2.2.1 x (List.mem_of_getElem? hx)).1
      have hkx := (hF.2.2.2.1 i x hx).2.1
      have ht20 : t < 20000 := by
        have := hC.2.2.1
        omega
      refine pk_le 20000 t (fun z => absurd z (by omega)) (fun _ => ?_)
      refine ⟨fun z => absurd z (nI_ne1 (by omega)), fun _ => ⟨vp_in_nI (by omega) (by omega), fun y9 h9 => ?_⟩⟩
      rw [nI_clamp (by omega), hkx] at h9
      have h9' : y9 = lN (kN (fc x)) := h9
      subst h9'
      have next : ∀ hi2 V2 so2, CoQ fs p ro fx a u PO (i + 1) (t + 1) hi2 so2 V2 → jw_met_Ix_collect_122 post (fun x9 => lw_met_Ix_collect_15 post FK nP (nI u) SF SR X0 (nI e) N SO Gp (m + 1) x9) (nI i) (nI e) (nI t) N (nI hi2, V2, so2) := by
        intro hi2 V2 so2 hC2
        refine pk_eq i e (fun ee => ?_) (fun ee => ?_)
        · subst ee
          have := fin (t + 1) hi2 so2 V2 hC2
          rw [nI_1]
          exact pk_le 20000 (t + 1) (fun _ => this) (fun _ => ⟨fun _ => this, fun z => absurd rfl z⟩)
        · refine ⟨vp_in_nI (by omega) (by omega), fun y2 h2 => ?_⟩
          rw [nI_clamp (by omega)] at h2
          have hN := hF.2.2.2.2.2.2.2.2.2.1 i x hx
          rw [← h2, hxp] at hN
          rcases hN with ⟨-, q⟩ | ⟨i2, x2, q1, q2, q3, q4, q5⟩
          · exact absurd hep (q e xe (by omega) he)
          · rw [q4, nI_1]
            have hi2e : i2 ≤ e := by
              rcases Nat.lt_or_ge e i2 with z | z
              · exact absurd hep (q5 e xe (by omega) z he)
              · exact z
            exact ih i2 (by omega) hi2e (by omega) x2 q2 q3 (t + 1) hi2 so2 V2 (CoQ_to (by omega) (fun j y j1 j2 j3 => q5 j y j1 j2 j3) hC2)
      have hct1 := cntP_take (p := p) hx
      rw [if_pos hxp] at hct1
      refine sp_project hX hRo hfx hSF hSR (fc_lt hok) (fun hfit g hg => ?_) (fun hfit => ?_)
      · have hgl := PaR_lt hg (fc_lt hok)
        obtain ⟨h1, h2, h3, ⟨src, s1, s2⟩, h5, h6, h7⟩ := hC
        refine ⟨fun z => absurd z (kN_ne hgl), fun _ => ?_⟩
        refine pk_le nP hi (fun z => absurd z (by omega)) (fun _ => ?_)
        refine ⟨⟨fun _ => trivial, fun _ => ⟨fun _ => trivial, fun z => ?_⟩⟩, fun y12 h12 => ?_⟩
        · have hne : ¬ hi = u := fun w => z (by rw [w])
          rw [show (1 : Int32) = nI 1 from rfl, pk_sub (by omega)]
          exact ⟨vp_in_nI (by omega) (by omega), trivial⟩
        refine ⟨vp_in_nI (by omega) (by omega), fun g15 h15 y16 h16 => ?_⟩
        rw [nI_clamp (by omega)] at h15
        rw [nI_1] at h16
        subst h15 h16
        refine next (hi + 1) _ y12 ⟨by omega, by omega, by omega, ⟨fun k => if k = hi then i else src k, fun k k1 k2 => ?_, fun k k2 k1 k12 k2h => ?_⟩, fun j y g2 j1 j2 j3 j4 j5 j6 => ?_, ?_, fun k hk => ?_⟩
        · by_cases z : k = hi
          · subst z
            dsimp only
            rw [if_pos rfl, pk_uLs]
            exact ⟨x, g, ja, by omega, hx, hxp, hfit, hg, rfl⟩
          · dsimp only
            rw [if_neg z, pk_uLn z]
            obtain ⟨y, g2, q1, q2, q3⟩ := s1 k k1 (by omega)
            exact ⟨y, g2, q1, by omega, q3⟩
        · show (if k = hi then i else src k) < (if k2 = hi then i else src k2)
          rw [if_neg (by omega)]
          by_cases z : k2 = hi
          · rw [if_pos z]
            obtain ⟨y, g2, q1, q2, q3⟩ := s1 k k1 (by omega)
            exact q2
          · rw [if_neg z]
            exact s2 k k2 k1 k12 (by omega)
        · by_cases z : j = i
          · subst z
            rw [hx] at j3
            obtain rfl := Option.some.inj j3
            refine ⟨hi, h1, by omega, ?_⟩
            rw [pk_uLs, kN_cong (fun q hq => PaR_one hg j6 q hq)]
          · obtain ⟨k, q1, q2, q3⟩ := h5 j y g2 j1 (by omega) j3 j4 j5 j6
            exact ⟨k, q1, by omega, by rw [pk_uLn (by omega)]; exact q3⟩
        · rcases h6 with w | ⟨w1, w2⟩
          · rw [w, if_pos rfl] at h12
            exact Or.inl h12
          · rw [w1, if_neg (by decide)] at h12
            by_cases z : hi = u
            · rw [z, if_pos rfl] at h12
              refine Or.inr ⟨h12, fun k k2 k1 k12 k2h => absurd k12 (by omega)⟩
            · rw [if_neg (fun q => z ((nI_eq (by omega) (by omega)).mp q)), show (1 : Int32) = nI 1 from rfl, pk_sub (by omega), nI_clamp (by omega)] at h12
              by_cases z2 : lN (kN g) ≤ V (hi - 1)
              · rw [if_pos z2] at h12
                exact Or.inl h12
              · rw [if_neg z2] at h12
                refine Or.inr ⟨h12, fun k k2 k1 k12 k2h => ?_⟩
                by_cases z3 : k2 = hi
                · subst z3
                  rw [pk_uLs, pk_uLn (by omega)]
                  by_cases z4 : k = k2 - 1
                  · rw [z4]
                    exact nle64 z2
                  · exact lt64_tr (w2 k (k2 - 1) k1 (by omega) (by omega)) (nle64 z2)
                · rw [pk_uLn (by omega), pk_uLn z3]
                  exact w2 k k2 k1 k12 (by omega)
        · rw [pk_uLn (by omega)]
          exact h7 k hk
      · refine ⟨fun _ => ?_, fun z => absurd rfl z⟩
        obtain ⟨h1, h2, h3, ⟨src, s1, s2⟩, h5, h6, h7⟩ := hC
        refine next hi V so ⟨h1, by omega, by omega, ⟨src, fun k k1 k2 => ?_, s2⟩, fun j y g2 j1 j2 j3 j4 j5 j6 => ?_, h6, h7⟩
        · obtain ⟨y, g2, q1, q2, q3⟩ := s1 k k1 k2
          exact ⟨y, g2, q1, by omega, q3⟩
        · by_cases z : j = i
          · subst z
            rw [hx] at j3
            obtain rfl := Option.some.inj j3
            exact absurd j5 hfit
          · exact h5 j y g2 j1 (by omega) j3 j4 j5 j6
  refine ⟨hX, _, go (e + 1) a (Nat.le_refl _) hae (by omega) xa ha hap 0 u 1 PO ⟨Nat.le_refl _, by omega, Nat.zero_le _, ⟨fun _ => 0, fun k k1 k2 => absurd k2 (by omega), fun k k2 k1 k12 k2h => absurd k2h (by omega)⟩, fun j x g j1 j2 => absurd j2 (by omega), Or.inr ⟨rfl, fun k k2 k1 k12 k2h => absurd k2h (by omega)⟩, fun _ _ => rfl⟩⟩
end CIx
