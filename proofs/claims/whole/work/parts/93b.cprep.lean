/-! pure: a body is prepared -/
def sF (kq : Nat → Nat) : Nat → Nat → Nat
  | 0, _ => 0
  | d + 1, i => kq i + sF kq d (i + 1)
theorem sF_cong {kq kq2 : Nat → Nat} : ∀ d i, (∀ s, i ≤ s → s < i + d → kq s = kq2 s) → sF kq d i = sF kq2 d i := by
  intro d
  induction d with
  | zero => exact fun i _ => rfl
  | succ d ih =>
    intro i h
    show kq i + sF kq d (i + 1) = kq2 i + sF kq2 d (i + 1)
    rw [h i (Nat.le_refl _) (by omega), ih (i + 1) (fun s s1 s2 => h s (by omega) (by omega))]
theorem sF_le {kq : Nat → Nat} (hk : ∀ s, kq s ≤ 20000) : ∀ d i, sF kq d i ≤ 20000 * d := by
  intro d
  induction d with
  | zero => exact fun i => Nat.le_refl _
  | succ d ih =>
    intro i
    show kq i + sF kq d (i + 1) ≤ 20000 * (d + 1)
    have := hk i
    have := ih (i + 1)
    omega
/-- the variables that are used behind step s, or told -/
def LvJ (out : Nat → Prop) (bs : List BL) (js : Nat → Nat) (n s : Nat) (x : Nat) : Prop := out x ∨ ∃ s2 b, s < s2 ∧ s2 < n ∧ bs[js s2]? = some b ∧ occB b x
/-- a scan's fields -/
def StP (b : BL) (B Lv : Nat → Prop) (p s0 w : Nat) (ro va fx : Nat → Nat) (o : Nat) (sm sg ss sw sp so sh : Int32) (sf : Int64) (sr sx : Nat → Int32) : Prop := b.2.1 = some p ∧ ShQ b.2.2 B Lv s0 w ro va fx ∧ o ≤ 1 ∧ (o = 1 ↔ OrQ b.2.2 s0 ro) ∧ (∀ c, fx c < 1000) ∧ MK (fun x => occB b x ∧ B x) sm ∧ MK (fun x => (occB b x ∧ Lv x) ∧ ¬ B x) sg ∧ ss = nI s0 ∧ sw = nI w ∧ sp = nI p ∧ so = nI o ∧ sh = nI (shN p o ro) ∧ sf = lN (kN fx) ∧ rN ro sr ∧ (∀ q, q < w → sx q = nI (va q))
/-- its index: of the facts m .. vis -/
def SnI (fs : List (Nat × List Nat)) (m vis p o : Nat) (ro fx : Nat → Nat) (lo hi : Nat) (PO : Nat → Int64) : Prop := ∃ a e, FiQ fs p m (nI a) ∧ LsQ fs p vis (nI e) ∧ (a < fs.length ∧ e < fs.length ∧ a ≤ e) ∧ IxQ fs p o ro fx a e lo hi PO
theorem nn0 {i : Nat} (h : i < 2147483648) : ¬ nI i < 0 := by
  intro w
  have w2 := Int32.lt_iff_toInt_lt.mp w
  rw [nI_toInt h] at w2
  have : (0 : Int32).toInt = 0 := by decide
  omega
section CPr
variable {ar : Nat → Nat} {rm fr n z u nP vb vis mc ms pl : Nat} {bs : List BL} {js : Nat → Nat} {fh : Bool} {out : Nat → Prop} {K P Z M T : Nat → Int32} {fs : List (Nat × List Nat)} {sg : Nat → Nat} {sz hg ou : Int32} {FK : Nat → Int64} {S A FP N FT O NW Kn Kb : Nat → Int32} {PO FXa : Nat → Int64} {SHa FIa LAa FRa TOa Gp : Nat → Int32} {kp : ClassId} {SL SC SQ SB SV SM SG SS SW SP SO SH SFm STo : Nat → Int32} {SF : Nat → Int64} {SR SX : Nat → Nat → Int32}
theorem LvJ_s {s : Nat} {b : BL} (hs : s < n) (h : bs[js s]? = some b) (x : Nat) : (LvJ out bs js n s x ∨ occB b x) ↔ (out x ∨ ∃ s2 b, s ≤ s2 ∧ s2 < n ∧ bs[js s2]? = some b ∧ occB b x) := by
  constructor
  · rintro ((q | ⟨s2, b2, q1, q2, q3, q4⟩) | q)
    · exact Or.inl q
    · exact Or.inr ⟨s2, b2, by omega, q2, q3, q4⟩
    · exact Or.inr ⟨s, b, Nat.le_refl _, hs, h, q⟩
  · rintro (q | ⟨s2, b2, q1, q2, q3, q4⟩)
    · exact Or.inl (Or.inl q)
    · by_cases w : s2 = s
      · subst w
        rw [h] at q3
        obtain rfl := Option.some.inj q3
        exact Or.inr q4
      · exact Or.inl (Or.inr ⟨s2, b2, by omega, q2, q3, q4⟩)
theorem LvJ_p {s : Nat} (x : Nat) : (out x ∨ ∃ s2 b, s + 1 ≤ s2 ∧ s2 < n ∧ bs[js s2]? = some b ∧ occB b x) ↔ LvJ out bs js n s x := by
  constructor
  · rintro (q | ⟨s2, b2, q1, q2, q3⟩)
    · exact Or.inl q
    · exact Or.inr ⟨s2, b2, by omega, q2, q3⟩
  · rintro (q | ⟨s2, b2, q1, q2, q3⟩)
    · exact Or.inl q
    · exact Or.inr ⟨s2, b2, by omega, q2, q3⟩
theorem sp_prepare {post : (Int32 × Int32 × (Nat → Int32) × (Nat → Int64) × (Nat → Int32) × (Nat → Int32) × (Nat → Int32) × (Nat → Int32) × Nat × ClassId × Nat × (Nat → Int64) × (Nat → Int32) × (Nat → Int32) × (Nat → Int32) × (Nat → Int32) × (Nat → Int32) × (Nat → Int32) × (Nat → Int32) × (Nat → Int32) × (Nat → Int64) × (Nat → Int32) × (Nat → Int32) × (Nat → Nat → Int32) × (Nat → Nat → Int32) × Nat × Nat) → Prop} (hrm : rm < 100000) (hfr : fr < 100000) (hn : n = bs.length) (hD : BdA ar rm fr bs K P Z M T) (hS : SafeB bs) (hArr : ArQ fr bs js fh n SL SC SQ SB) (hF : FaR ar fs sg sz hg FK S A FP N FT O NW) (hKn : ∀ p, p < 64 → LsQ fs p vis (Kn p)) (hKb : ∀ p, p < 64 → LsQ fs p vb (Kb p)) (hvb : vb ≤ fs.length) (hvis : vis ≤ fs.length) (hG : GpI 11 Gp) (hmc : 1 ≤ mc) (hms : 960000 ≤ ms)
    (hne : ∀ s b p, s < n → bs[js s]? = some b → b.1 = 0 → b.2.1 = some p → ∃ j y, (if s = 0 ∧ fh = true then vb else 0) ≤ j ∧ j < vis ∧ fs[j]? = some y ∧ y.1 = p)
    (hI : IxS fs z u nP SHa FXa FIa LAa FRa TOa PO) (hou : MK out ou)
    (h : ∀ z2 u2 nP2 pl2 kp2 kc ks SHa2 FXa2 FIa2 LAa2 FRa2 TOa2 PO2 SV2 SM2 SG2 SS2 SW2 SP2 SO2 SH2 SF2 SFm2 STo2 SR2 SX2, IxS fs z2 u2 nP2 SHa2 FXa2 FIa2 LAa2 FRa2 TOa2 PO2 → cst nP nP2 kc ks → (∀ s b, s < n → bs[js s]? = some b → SC s = 1 → ∃ p s0 w ro va fx o lo hi, StP b (BdJ bs js s) (LvJ out bs js n s) p s0 w ro va fx o (SM2 s) (SG2 s) (SS2 s) (SW2 s) (SP2 s) (SO2 s) (SH2 s) (SF2 s) (SR2 s) (SX2 s) ∧ SnI fs (if s = 0 ∧ fh = true then vb else 0) vis p o ro fx lo hi PO2 ∧ SFm2 s = nI lo ∧ STo2 s = nI hi ∧ lo ≤ hi ∧ hi ≤ nP2) → post (nI z2, nI u2, SHa2, FXa2, FIa2, LAa2, FRa2, TOa2, pl2, kp2, nP2, PO2, SV2, SM2, SG2, SS2, SW2, SP2, SO2, SH2, SF2, SFm2, STo2, SR2, SX2, kc, ks)) : wp_met_Jo_prepare post mc ms nP rm rm rm (6 * rm) pl (nI n) ou (nI z) (nI u) SHa FXa FIa LAa FRa TOa PO FK A N O Kn Kb P Z M T kp Gp SL SC SQ SB SV SM SG SS SW SP SO SH SF SFm STo SR SX := by
  have h12 : n ≤ 12 := by rw [hn]; exact hD.1
  have h20 := hF.1
  have hAm := hF.2.2.2.2.2.2.1
  -- second loop
  have two : ∀ (SV2 SM2 SG2 SS2 SW2 SP2 SO2 SH2 : Nat → Int32) (SF2 : Nat → Int64) (SR2 SX2 : Nat → Nat → Int32) (kq : Nat → Nat), (∀ s, kq s ≤ 20000) → (∀ s b, s < n → bs[js s]? = some b → SC s = 1 → ∃ p s0 w ro va fx o, StP b (BdJ bs js s) (LvJ out bs js n s) p s0 w ro va fx o (SM2 s) (SG2 s) (SS2 s) (SW2 s) (SP2 s) (SO2 s) (SH2 s) (SF2 s) (SR2 s) (SX2 s) ∧ kq s = cntP fs p) → ∀ nP2 pl2 kp2 kc ks, cst nP nP2 kc ks → ∀ d i, i + d = n → ∀ z2 u2 SHa2 FXa2 FIa2 LAa2 FRa2 TOa2 PO2 SFm2 STo2, IxS fs z2 u2 nP2 SHa2 FXa2 FIa2 LAa2 FRa2 TOa2 PO2 → z2 + d ≤ 64 → u2 + sF kq d i ≤ nP2 → (∀ s b, s < i → bs[js s]? = some b → SC s = 1 → ∃ p s0 w ro va fx o lo hi, StP b (BdJ bs js s) (LvJ out bs js n s) p s0 w ro va fx o (SM2 s) (SG2 s) (SS2 s) (SW2 s) (SP2 s) (SO2 s) (SH2 s) (SF2 s) (SR2 s) (SX2 s) ∧ SnI fs (if s = 0 ∧ fh = true then vb else 0) vis p o ro fx lo hi PO2 ∧ SFm2 s = nI lo ∧ STo2 s = nI hi ∧ lo ≤ hi ∧ hi ≤ u2) → lw_met_Jo_prepare_97 post (nI n) pl2 kp2 nP2 SV2 SM2 SG2 SS2 SW2 SP2 SO2 SH2 SF2 SR2 SX2 kc ks SC FK N O Kn Kb Gp SQ (d + 1) (nI i, nI z2, nI u2, SHa2, FXa2, FIa2, LAa2, FRa2, TOa2, PO2, SFm2, STo2) := by
    intro SV2 SM2 SG2 SS2 SW2 SP2 SO2 SH2 SF2 SR2 SX2 kq hkq hSt nP2 pl2 kp2 kc ks hcst d
    induction d with
    | zero =>
      intro i hid0 z2 u2 SHa2 FXa2 FIa2 LAa2 FRa2 TOa2 PO2 SFm2 STo2 g1 g2 g3 g4
      obtain rfl : i = n := by omega
      refine pk_le i i (fun _ => ?_) (fun w => absurd w (by omega))
      rw [Nat.zero_add, Nat.zero_add]
      refine h _ _ _ _ _ _ _ _ _ _ _ _ _ _ _ _ _ _ _ _ _ _ _ _ _ _ _ g1 hcst (fun s b s1 s2 s3 => ?_)
      obtain ⟨p, s0, w, ro, va, fx, o, lo, hi, q1, q2, q3, q4, q5, q6⟩ := g4 s b s1 s2 s3
      exact ⟨p, s0, w, ro, va, fx, o, lo, hi, q1, q2, q3, q4, q5, Nat.le_trans q6 g1.1.2.1⟩
    | succ d ih =>
      intro i hid0 z2 u2 SHa2 FXa2 FIa2 LAa2 FRa2 TOa2 PO2 SFm2 STo2 g1 g2 g3 g4
      have hin : i < n := by omega
      have ci : (nI i).toNatClampNeg = i := nI_clamp (by omega)
      have vi : vp_in (nI i) 12 := vp_in_nI (by omega) (by omega)
      have g3' : u2 + (kq i + sF kq d (i + 1)) ≤ nP2 := g3
      obtain ⟨b, b1, b2, b3, b4, b5⟩ := hArr.2.2 i hin
      refine pk_le n i (fun w => absurd w (by omega)) (fun _ => ⟨vi, fun y67 h67 => ?_⟩)
      rw [ci] at h67
      subst h67
      rcases b5 with ⟨c1, c2, c3⟩ | ⟨c1, c2, c3⟩
      · refine ⟨fun w => absurd (c1.symm.trans w) (by decide), fun _ => ⟨vi, ?_⟩⟩
        rw [ci]
        obtain ⟨p, s0, w, ro, va, fx, o, ⟨t1, t2, t3, t4, t5, t6, t7, t8, t9, t10, t11, t12, t13, t14, t15⟩, t16⟩ := hSt i b hin b1 c1
        have hok := (hD.2 (js i) b b1).2
        have hl6 := hok.2.1
        have hp64 := ((hok.2.2.2.1 (Or.inl c2)).2 p t1).1
        obtain ⟨j0, y0, r1, r2, r3, r4⟩ := hne i b p hin b1 c2 t1
        have hfr2 : (SQ i = 0 ∧ (if i = 0 ∧ fh = true then vb else 0) = 0) ∨ (SQ i = 1 ∧ (if i = 0 ∧ fh = true then vb else 0) = vb) := by
          by_cases w2 : i = 0 ∧ fh = true
          · rw [b4, if_pos w2, if_pos w2]
            exact Or.inr ⟨rfl, rfl⟩
          · rw [b4, if_neg w2, if_neg w2]
            exact Or.inl ⟨rfl, rfl⟩
        refine sp_Ix_provide (p := p) (o := o) (ro := ro) (fx := fx) (by omega) hF g1 (by omega) (by omega) hp64 t3 (Sh_Ro hl6 t2) t5 t10 t11 t12 t13 t14 (hKb p hp64) (hKn p hp64) hvb hvis hfr2 r3 r4 r1 r2 hG (fun a e lo hi z3 u3 SHa3 FXa3 FIa3 LAa3 FRa3 TOa3 PO3 SFm3 STo3 v1 v2 v3 v4 v5 v6 v7 v8 v9 v10 v11 v12 v13 => ?_)
        rw [nI_1]
        refine ih (i + 1) (by omega) z3 u3 _ _ _ _ _ _ _ _ _ v6 (by omega) (by omega) (fun s b' s1 s2 s3 => ?_)
        by_cases w2 : s = i
        · subst w2
          rw [b1] at s2
          obtain rfl := Option.some.inj s2
          exact ⟨p, s0, w, ro, va, fx, o, lo, hi, ⟨t1, t2, t3, t4, t5, t6, t7, t8, t9, t10, t11, t12, t13, t14, t15⟩, ⟨a, e, v1, v2, v3, v4⟩, v11, v12, v5.1, v5.2⟩
        · obtain ⟨p', s0', w', ro', va', fx', o', lo', hi', q1, ⟨a', e', q2, q3, q4, q5⟩, q6, q7, q8, q9⟩ := g4 s b' (by omega) s2 s3
          obtain ⟨x1, x2⟩ := v13 s w2
          exact ⟨p', s0', w', ro', va', fx', o', lo', hi', q1, ⟨a', e', q2, q3, q4, IxQ_po q5 (fun k hk => v10 k (by omega))⟩, by rw [x1]; exact q6, by rw [x2]; exact q7, q8, by omega⟩
      · refine ⟨fun _ => ?_, fun w => absurd c1 w⟩
        rw [nI_1]
        refine ih (i + 1) (by omega) z2 u2 _ _ _ _ _ _ _ _ _ g1 (by omega) (by omega) (fun s b' s1 s2 s3 => ?_)
        by_cases w2 : s = i
        · subst w2
          rw [c1] at s3
          exact absurd s3 (by decide)
        · exact g4 s b' (by omega) s2 s3
  -- first loop
  have one : ∀ i, i ≤ n → ∀ (kq : Nat → Nat) (keys : Nat) (lv : Int32) (SV2 SM2 SG2 SS2 SW2 SP2 SO2 SH2 : Nat → Int32) (SF2 : Nat → Int64) (SR2 SX2 : Nat → Nat → Int32), (∀ s, kq s ≤ 20000) → keys = sF kq (n - i) i → MK (fun x => out x ∨ ∃ s2 b, i ≤ s2 ∧ s2 < n ∧ bs[js s2]? = some b ∧ occB b x) lv → (∀ s b, i ≤ s → s < n → bs[js s]? = some b → SC s = 1 → ∃ p s0 w ro va fx o, StP b (BdJ bs js s) (LvJ out bs js n s) p s0 w ro va fx o (SM2 s) (SG2 s) (SS2 s) (SW2 s) (SP2 s) (SO2 s) (SH2 s) (SF2 s) (SR2 s) (SX2 s) ∧ kq s = cntP fs p) → lw_met_Jo_prepare_14 post SL rm M SC A rm rm (6 * rm) P Z T SB mc ms SHa FXa FIa LAa FRa TOa SFm STo nP pl (nI z) (nI u) PO kp (nI n) FK N O Kn Kb Gp SQ (i + 1) (nI i - 1, nI keys, lv, SV2, SM2, SG2, SS2, SW2, SP2, SO2, SH2, SF2, SR2, SX2) := by
    intro i
    induction i with
    | zero =>
      intro hi kq keys lv SV2 SM2 SG2 SS2 SW2 SP2 SO2 SH2 SF2 SR2 SX2 g1 g2 g3 g4
      refine ⟨fun _ => ?_, fun w => absurd (show nI 0 - 1 < 0 by decide) w⟩
      have hkl := sF_le g1 (n - 0) 0
      rw [← g2] at hkl
      refine ⟨mc, ms, by omega, by omega, ?_⟩
      refine sp_Ix_makeRoom hI (by omega) hmc hms (fun z2 u2 pl2 kp2 nP2 PO2 kc ks r1 r2 r3 r4 => ?_)
      exact ⟨_, two SV2 SM2 SG2 SS2 SW2 SP2 SO2 SH2 SF2 SR2 SX2 kq g1 (fun s b s1 => g4 s b (Nat.zero_le _) s1) nP2 pl2 kp2 kc ks r4 n 0 (by omega) z2 u2 _ _ _ _ _ _ _ _ _ r1 (by omega) (by rw [g2] at r3; exact r3) (fun s b s1 => absurd s1 (by omega))⟩
    | succ i ih =>
      intro hi kq keys lv SV2 SM2 SG2 SS2 SW2 SP2 SO2 SH2 SF2 SR2 SX2 g1 g2 g3 g4
      have hin : i < n := by omega
      have ci : (nI i).toNatClampNeg = i := nI_clamp (by omega)
      have vi : vp_in (nI i) 12 := vp_in_nI (by omega) (by omega)
      have hsub : nI i + -1 = nI i - 1 := by rw [Int32.sub_eq_add_neg]
      obtain ⟨b, b1, b2, b3, b4, b5⟩ := hArr.2.2 i hin
      obtain ⟨d1, d2⟩ := hD.2 (js i) b b1
      have hid := d1.1
      rw [nI_pred]
      refine ⟨fun w => absurd w (nn0 (by omega)), fun _ => ⟨vi, fun g20 h20' y21 h21 => ?_⟩⟩
      rw [ci] at h20' h21
      rw [b2] at h21
      subst h21
      refine ⟨vp_in_nI hid (by omega), fun y23 h23 y24 h24 y25 h25 => ?_⟩
      rw [nI_clamp (by omega)] at h23
      rw [ci] at h25
      subst h25
      have hlv : MK (LvJ out bs js n i) lv := MK_iff g3 (fun v _ => LvJ_p v)
      have hlv2 : MK (fun x => out x ∨ ∃ s2 b, i ≤ s2 ∧ s2 < n ∧ bs[js s2]? = some b ∧ occB b x) y24 := by
        rw [h24, h23]
        exact MK_iff (MK_orm hlv d1.2.2.2.2.1) (fun v _ => LvJ_s hin b1 v)
      rcases b5 with ⟨c1, c2, c3⟩ | ⟨c1, c2, c3⟩
      · refine ⟨fun w => absurd (c1.symm.trans w) (by decide), fun _ => ?_⟩
        obtain ⟨p, hp⟩ := hS.2 b (List.mem_of_getElem? b1) c2
        have hp64 := ((d2.2.2.2.1 (Or.inl c2)).2 p hp).1
        have hcp := cntP_le fs p
        have hkl := sF_le g1 (n - (i + 1)) (i + 1)
        rw [← g2] at hkl
        rw [ci]
        refine sp_setShape (p := p) (by omega) hrm d1 d2 c2 hp b2 b3 (by rw [h20', fup_self]; exact hlv) (fun s0 w ro va fx o SM3 SG3 SS3 SW3 SP3 SO3 SH3 SF3 SR3 SX3 t1 t2 t3 t4 t5 t6 t7 t8 t9 t10 t11 t12 t13 t14 t15 => ?_)
        intro y37 h37
        rw [t9] at h37
        subst h37
        refine ⟨vp_in_nI hp64 (by omega), fun y39 h39 y40 h40 => ?_⟩
        rw [nI_clamp (by omega), hAm p hp64] at h39
        rw [h39, nI_add] at h40
        subst h40
        rw [hsub]
        obtain ⟨kq2, hkq2⟩ : ∃ kq2 : Nat → Nat, kq2 = fun s => if s = i then cntP fs p else kq s := ⟨_, rfl⟩
        have k2i : kq2 i = cntP fs p := by rw [hkq2]; exact if_pos rfl
        have k2n : ∀ s, ¬ s = i → kq2 s = kq s := fun s hs => by rw [hkq2]; exact if_neg hs
        refine ih (by omega) kq2 _ y24 g20 SM3 SG3 SS3 SW3 SP3 SO3 SH3 SF3 SR3 SX3 (fun s => ?_) ?_ hlv2 (fun s b' s1 s2 s3 s4 => ?_)
        · by_cases w2 : s = i
          · rw [w2, k2i]
            omega
          · rw [k2n s w2]
            exact g1 s
        · rw [show n - i = (n - (i + 1)) + 1 by omega]
          show keys + cntP fs p = kq2 i + sF kq2 (n - (i + 1)) (i + 1)
          rw [k2i, g2, sF_cong (kq := kq) (kq2 := kq2) (n - (i + 1)) (i + 1) (fun s s1 s2 => (k2n s (by omega)).symm)]
          omega
        · by_cases w2 : s = i
          · subst w2
            rw [b1] at s3
            obtain rfl := Option.some.inj s3
            exact ⟨p, s0, w, ro, va, fx, o, ⟨hp, t1, t2, t3, t4, t5, t6, t7, t8, t9, t10, t11, t12, t13, t14⟩, k2i⟩
          · obtain ⟨p', s0', w', ro', va', fx', o', q1, q2⟩ := g4 s b' (by omega) s2 s3 s4
            obtain ⟨e1, e2, e3, e4, e5, e6, e7, e8, e9, e10⟩ := t15 s w2
            rw [e1, e2, e3, e4, e5, e6, e7, e8, e9, e10, k2n s w2]
            exact ⟨p', s0', w', ro', va', fx', o', q1, q2⟩
      · refine ⟨fun _ => ?_, fun w => absurd c1 w⟩
        rw [hsub]
        obtain ⟨kq2, hkq2⟩ : ∃ kq2 : Nat → Nat, kq2 = fun s => if s = i then 0 else kq s := ⟨_, rfl⟩
        have k2i : kq2 i = 0 := by rw [hkq2]; exact if_pos rfl
        have k2n : ∀ s, ¬ s = i → kq2 s = kq s := fun s hs => by rw [hkq2]; exact if_neg hs
        refine ih (by omega) kq2 keys y24 g20 SM2 SG2 SS2 SW2 SP2 SO2 SH2 SF2 SR2 SX2 (fun s => ?_) ?_ hlv2 (fun s b' s1 s2 s3 s4 => ?_)
        · by_cases w2 : s = i
          · rw [w2, k2i]
            omega
          · rw [k2n s w2]
            exact g1 s
        · rw [show n - i = (n - (i + 1)) + 1 by omega]
          show keys = kq2 i + sF kq2 (n - (i + 1)) (i + 1)
          rw [k2i, g2, sF_cong (kq := kq) (kq2 := kq2) (n - (i + 1)) (i + 1) (fun s s1 s2 => (k2n s (by omega)).symm)]
          omega
        · by_cases w2 : s = i
          · subst w2
            rw [c1] at s4
            exact absurd s4 (by decide)
          · rw [k2n s w2]
            exact g4 s b' (by omega) s2 s3 s4
  intro y1 h1
  subst h1
  refine ⟨_, one n (Nat.le_refl _) (fun _ => 0) 0 ou SV SM SG SS SW SP SO SH SF SR SX (fun _ => Nat.zero_le _) (by rw [Nat.sub_self]; rfl) (MK_iff hou (fun v _ => ⟨fun q => Or.inl q, fun q => ?_⟩)) (fun s b s1 s2 => absurd s2 (by omega))⟩
  rcases q with q | ⟨s2, b, q1, q2, -⟩
  · exact q
  · omega
end CPr
