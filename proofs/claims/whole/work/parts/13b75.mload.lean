/-! pure: the model loads -/
/-- the faults that count when the whole text is right -/
def WA (cs : List (List Lt)) (c p : Nat) : Prop := W10 cs.flatten c p ∨ ∃ ls ∈ cs, W11 0 ls ls.length c p
/-- what comes of a program's text -/
def LdR (T : Nat → Int32) (n : Nat) (r : (Nat × Nat) ⊕ Dt) : Prop := (∃ e, Ends 0 T n (0, 0, 0) (D00 [] []) 0 (.inl e) ∧ r = .inl e) ∨ (∃ D : Dt, Ends 0 T n (0, 0, 0) (D00 [] []) 0 (.inr D) ∧ ((∃ c p, WA D.1 c p ∧ (∀ c2 p2, WA D.1 c2 p2 → p ≤ p2) ∧ r = .inl (c, p)) ∨ ((∀ c p, ¬ WA D.1 c p) ∧ ((∃ p, Cyc D.2.2.2.2.1 D.1 p ∧ r = .inl (12, p)) ∨ ((∀ c j, ¬ Flg D.2.2.2.2.1 D.1 c j) ∧ r = .inr D)))))
/-- a text that is changed in one area alone -/
def TxS (s : Nat) (F2 F : Nat → Int32) : Prop := (∀ j, j < 196608 → byt (F2 j)) ∧ (∀ j, ¬ (65536 * s ≤ j ∧ j < 65536 * s + 65536) → F2 j = F j)
theorem DI_00 {md : Nat} {G : Nat → Int32} {ps : List Wd} {cn : List Con} (h1 : ps.Nodup) (h2 : cn.Nodup) (h3 : ∀ c ∈ cn, wOk c) : DI md G (D00 ps cn) := ⟨fun ls h => (by cases h), fun l h => (by cases h), fun _ l h => (by cases h), Nat.zero_le _, Nat.zero_le _, h1, h2, h3⟩
theorem CM_of {md : Nat} {G : Nat → Int32} {ps : List Wd} {mc : List Con} {o set c : Nat} {A : A7} {LC : Nat → Int32} {ls : List Lt} (ho : o ≤ 196608) (h1 : CR md ps mc o set c A ls) (h2 : LC (257 * set + c) = nI (ls.length + sf md)) (h3 : ls.length + sf md ≤ 13) (h4 : mc.length ≤ 1100) (h5 : ∀ l ∈ ls, ∃ ps2 cn2, LtOk md G ps2 cn2 l) : CM md ps mc o set c A LC ls := by
  refine ⟨h1, h2, h3, h4, fun l hl => ?_, fun l hl t ht => ?_⟩
  · obtain ⟨_, _, h⟩ := h5 l hl
    exact kd_of h
  · obtain ⟨_, _, h⟩ := h5 l hl
    have := (h.2.2 t ht).1
    omega
section Load
variable {post : Int32 → (Int32 × Int32 × Int32 × Int32 × Int32 × Int32 × Int32 × Int32 × Int32 × Int32 × Int32 × Int64 × Int32 × Int32 × Int32 × Int32 × Int32 × Int32 × Int32 × Int32 × Int32 × Int32 × Int32 × (Nat → Int32) × (Nat → Int32) × (Nat → Int32) × (Nat → Int32) × (Nat → Int32) × (Nat → Int32) × (Nat → Int32) × (Nat → Int32) × (Nat → Int32) × (Nat → Int32) × (Nat → Int32) × (Nat → Int32) × (Nat → Int32) × (Nat → Int32) × (Nat → Int32) × (Nat → Int32) × (Nat → Int32) × (Nat → Int32) × (Nat → Int32) × (Nat → Int32) × (Nat → Int32) × (Nat → Int32) × (Nat → Int32)) → Prop}
theorem load_look {o set : Nat} {G : Nat → Int32} {ps : List Wd} {mc : List Con} {cs : List (List Lt)} {LK LP LT LQ NQ TP LA LC Cl PA Dp F PF PL PS CN CV CF Cs VC VF VL ST : Nat → Int32} {fc fp lv stp tk fr to cA vr hg ran fa ro wi : Int32} {am : Int64} (ho : o ≤ 196608) (hset : set < 2) (hmc : mc.length ≤ 1100) (hM : MB G ps mc o set (LK, LP, LT, LQ, NQ, TP, LA) LC Cl cs)
    (hend : ∀ wc wp, WR o (WA cs) wc wp → jw_met_Mo_load_126 post wp wc (nI o) fc fp (nI cs.length) PA (nI set) Cl LC LK LP NQ Dp lv stp tk fr to am cA vr hg ran fa ro wi F PF PL PS CN CV CF Cs LT VC LQ TP LA VF VL ST ()) : ∀ m c : Nat, c + m = cs.length → ∀ wc wp, WR o (fun c2 p2 => W10 cs.flatten c2 p2 ∨ ∃ ls ∈ cs.take c, W11 0 ls ls.length c2 p2) wc wp → lw_met_Mo_load_92 post (nI set) Cl LC LK LT TP LA (nI o) fc fp PA LP NQ Dp lv stp tk fr to am cA vr hg ran fa ro wi F PF PL PS CN CV CF Cs VC LQ VF VL ST (m + 1) (nI c, wc, wp) := by
  have hM0 := hM
  obtain ⟨m1, m2, m3, m4, m5, m6⟩ := hM0
  intro m
  induction m with
  | zero =>
    intro c hc wc wp hW
    refine ⟨vp_in_nI hset (by omega), fun y89 h89 => ?_⟩
    rw [nI_clamp (by omega), m2] at h89
    subst h89
    refine pk_le cs.length c (fun _ => ?_) (fun q => absurd q (by omega))
    obtain rfl : c = cs.length := by omega
    rw [List.take_of_length_le (Nat.le_refl _)] at hW
    exact hend wc wp hW
  | succ m ih =>
    intro c hc wc wp hW
    refine ⟨vp_in_nI hset (by omega), fun y89 h89 => ?_⟩
    rw [nI_clamp (by omega), m2] at h89
    subst h89
    refine pk_le cs.length c (fun q => absurd q (by omega)) (fun _ => ?_)
    have hcl : c < cs.length := by omega
    have hce := List.getElem?_eq_getElem hcl
    have htk := take_push cs c hcl
    obtain ⟨a1, a2, a3, a4⟩ := m1 c _ hce
    have hok := (m6 _ (List.getElem_mem hcl)).2.2.1
    have hCM : CM 0 ps mc o set c (LK, LP, LT, LQ, NQ, TP, LA) LC cs[c] := CM_of (G := G) ho a4 (by rw [a3]; rfl) a2 hmc (fun l hl => ⟨_, _, hok l hl⟩)
    refine sp_Mo_look (md := 0) hset (by omega) hCM hW (fun wc2 wp2 hW2 => ?_)
    intro y94 h94
    rw [nI_1] at h94
    subst h94
    refine ih (c + 1) (by omega) wc2 wp2 (WR_iff (fun c2 p2 => ?_) hW2)
    rw [htk]
    constructor
    · rintro ((w | ⟨ls, w1, w2⟩) | w)
      · exact Or.inl w
      · exact Or.inr ⟨ls, List.mem_append_left _ w1, w2⟩
      · exact Or.inr ⟨cs[c], List.mem_append_right _ (List.mem_singleton.mpr rfl), w⟩
    · rintro (w | ⟨ls, w1, w2⟩)
      · exact Or.inl (Or.inl w)
      · rcases List.mem_append.mp w1 with w1 | w1
        · exact Or.inl (Or.inr ⟨ls, w1, w2⟩)
        · rw [List.mem_singleton] at w1
          rw [w1] at w2
          exact Or.inr w2
theorem sp_Mo_load {live n : Nat} {T F PF PL PA PS CN CV CF Cs Cl LC LK LP LT VC LQ NQ TP LA VF VL Dp ST : Nat → Int32} {am : Int64} {cl vr wc wp hg ran fa ro wi : Int32} (hlive : live < 2) (hn : n ≤ 65536) (hT : ∀ j, j < n → byt (T j)) (hFb : ∀ j, j < 196608 → byt (F j))
    (h0 : ∀ (c q : Nat) base stp tk fr to am cl cA vr wc wp F2 PF2 PL2 PA2 PS2 CN2 CV2 CF2 Cl2 LC2 LK2 LP2 LT2 VC2 LQ2 NQ2 TP2 LA2 VF2 VL2 Dp2, LdR T n (.inl (c, q)) → TxS (1 - live) F2 F → Fr 0 (1 - live) 0 0 (PF2, PL2, PA2, PS2, CN2, CV2, CF2, LC2, LK2, LP2, LT2) (PF, PL, PA, PS, CN, CV, CF, LC, LK, LP, LT) → (∀ j, ¬ j = 1 - live → Cl2 j = Cl j) →
      post (nI q) (0, 0, nI c, nI q, nI live, nI live, base, stp, tk, fr, to, am, cl, 0, cA, vr, wc, wp, hg, ran, fa, ro, wi, F2, PF2, PL2, PA2, PS2, CN2, CV2, CF2, Cs, Cl2, LC2, LK2, LP2, LT2, VC2, LQ2, NQ2, TP2, LA2, VF2, VL2, Dp2, ST))
    (h1 : ∀ (D : Dt) L hi base stp tk fr to am cl cA vr wc wp F2 PF2 PL2 PA2 PS2 CN2 CV2 CF2 Cl2 LC2 LK2 LP2 LT2 VC2 LQ2 NQ2 TP2 LA2 VF2 VL2 Dp2 ST2, LdR T n (.inr D) → DI 0 T D → TxS (1 - live) F2 F → Fr 0 (1 - live) 0 0 (PF2, PL2, PA2, PS2, CN2, CV2, CF2, LC2, LK2, LP2, LT2) (PF, PL, PA, PS, CN, CV, CF, LC, LK, LP, LT) → (∀ j, ¬ j = 1 - live → Cl2 j = Cl j) → PR (1 - live) D.2.2.2.2.1 PF2 PL2 PS2 F2 → MCo (asksOf 0) D.2.2.2.2.2 (1100 * (1 - live)) CN2 CV2 CF2 F2 → Cap 0 D.2.2.2.2.2 → MB T D.2.2.2.2.1 D.2.2.2.2.2 (65536 * (1 - live)) (1 - live) (LK2, LP2, LT2, LQ2, NQ2, TP2, LA2) LC2 Cl2 D.1 → AriR D.2.2.2.2.1 (1 - live) PA2 D.1.flatten → Lst (EdC D.2.2.2.2.1 D.1) L → (∀ p, L p ≤ 64) → StA L ST2 → hi ≤ 64 → LyQ D.2.2.2.2.1 D.1 L hi →
      post (-1) (0, 0, 0, 0, nI (1 - live), nI (1 - live), base, stp, tk, fr, to, am, cl, 0, cA, vr, wc, wp, nI hi, 0, 0, 0, 0, F2, PF2, PL2, PA2, PS2, CN2, CV2, CF2, upd Cs (1 - live) (nI D.2.2.2.2.2.length), Cl2, LC2, LK2, LP2, LT2, VC2, LQ2, NQ2, TP2, LA2, VF2, VL2, Dp2, ST2)) :
    wp_met_Mo_load post (nI n) (nI live) am cl vr wc wp hg ran fa ro wi T F PF PL PA PS CN CV CF Cs Cl LC LK LP LT VC LQ NQ TP LA VF VL Dp ST := by
  intro y1 hy1
  rw [show (1 : Int32) = nI 1 from rfl, pk_sub (by omega)] at hy1
  subst hy1
  obtain ⟨set, hse⟩ : ∃ set, set = 1 - live := ⟨_, rfl⟩
  rw [← hse] at h0 h1 ⊢
  have hset : set < 2 := by omega
  have ks : (nI set).toNatClampNeg = set := nI_clamp (by omega)
  refine ⟨vp_in_nI hset (by omega), fun g3 h3 => ⟨vp_in_nI hset (by omega), fun g5 h5 y6 h6 => ?_⟩⟩
  rw [ks] at h3 h5
  rw [show (65536 : Int32) = nI 65536 from rfl, pk_mul] at h6
  subst h6
  have hAo : Ao (asksOf 0) set (65536 * set) n := Or.inl ⟨rfl, hn⟩
  have hfr0 : ∀ PF2 PL2 PA2 PS2 CN2 CV2 CF2 LC2 LK2 LP2 LT2, Fr 0 set 0 0 (PF2, PL2, PA2, PS2, CN2, CV2, CF2, LC2, LK2, LP2, LT2) (PF, PL, PA, g3, CN, CV, CF, LC, LK, LP, LT) → Fr 0 set 0 0 (PF2, PL2, PA2, PS2, CN2, CV2, CF2, LC2, LK2, LP2, LT2) (PF, PL, PA, PS, CN, CV, CF, LC, LK, LP, LT) := by
    intro PF2 PL2 PA2 PS2 CN2 CV2 CF2 LC2 LK2 LP2 LT2 ⟨f1, f2, f3, f4, f5, f6⟩
    refine ⟨f1, fun j hj => (f2 j hj).trans ?_, f3, f4, f5, f6⟩
    show g3 j = PS j
    rw [h3, upd_ne (fun z => hj ⟨rfl, z⟩)]
  have hCl0 : ∀ v : Int32, ∀ j, ¬ j = set → upd g5 set v j = Cl j := by
    intro v j hj
    rw [upd_ne hj, h5, upd_ne hj]
  have hCl1 : ∀ j, ¬ j = set → g5 j = Cl j := by
    intro j hj
    rw [h5, upd_ne hj]
  have hpk : POk n ((0, 0, 0) : Ct) 0 := ⟨Nat.zero_le _, fun z => absurd z (by decide)⟩
  refine sp_Mo_starts (o := 65536 * set) (by omega) hn hT hFb (fun F2 tk fr to am2 e1 e2 hb hbad => ?_) (fun F2 tk fr to am2 e1 e2 hb hC => ?_)
  · have hce := TK_cong (F := shf F2 (65536 * set)) (G := T) (fun j hj => e1 j hj) (Nat.zero_le n)
    rw [hce] at hbad ⊢
    refine ⟨fun _ => ?_, fun z => absurd rfl z⟩
    refine ⟨fun _ => ?_, fun z => absurd rfl z⟩
    refine ⟨fun _ => ?_, fun z => absurd rfl z⟩
    refine ⟨fun _ => ?_, fun z => absurd rfl z⟩
    exact h0 1 _ _ _ _ _ _ _ _ _ _ _ _ _ _ _ _ _ _ _ _ _ _ _ _ _ _ _ _ _ _ _ _ _ (Or.inl ⟨_, Ends_flt (by rw [step_0, if_pos hbad]), rfl⟩) ⟨hb, fun j hj => e2 j (by omega)⟩ (hfr0 _ _ _ _ _ _ _ _ _ _ _ Fr_refl) hCl1
  have hcong : ∀ r, Ends 0 (shf F2 (65536 * set)) n (0, 0, 0) (D00 [] []) 0 r → Ends 0 T n (0, 0, 0) (D00 [] []) 0 r := fun r hr => (Ends_cong (fun j hj => e1 j hj) hpk).mp hr
  refine ⟨fun z => absurd z (by decide), fun _ => ?_⟩
  have hTxS : TxS set F2 F := ⟨hb, fun j hj => e2 j (by omega)⟩
  refine sp_Mo_readClauses (St := fun r => Ends 0 T n (0, 0, 0) (D00 [] []) 0 r) (by omega) ⟨fun j hj => hb j (by omega), hAo⟩ hset ?_ ?_ (Nat.zero_le _) hC (by rw [h3, upd_same]) hcong
  · intro cs lt vs ps mc tk3 fr3 to3 am3 vr3 PF3 PL3 PA3 PS3 CN3 CV3 CF3 LC3 LK3 LP3 LT3 VC3 LQ3 NQ3 TP3 LA3 VF3 VL3 hcs hM hcap hP hN hA hfr hE
    intro y48 h48
    rw [if_neg (by decide)] at h48
    subst h48
    have hDI : DI 0 T (cs, [], lt, vs, ps, mc) := Ends_inv hn hpk (DI_00 (by simp) (by simp) (fun c hc => by cases hc)) rfl hE
    obtain ⟨d1, d2, d3, d4, d5, d6, d7, d8⟩ := hDI
    have hMB : MB T ps mc (65536 * set) set (LK3, LP3, LT3, LQ3, NQ3, TP3, LA3) LC3 (upd g5 set (nI cs.length)) cs := ⟨hA, upd_same, hcs, d6, hP.2.1, d1⟩
    have hmc : mc.length ≤ 1100 := by
      have := hcap.1 rfl
      omega
    refine ⟨fun z => absurd z (by decide), fun _ => ?_⟩
    refine sp_Mo_arities hset hcs upd_same hA d6 hP.2.1 (fun ls hls l hl hp => ?_) (fun ls hls l hl => ((d1 ls hls).2.2.1 l hl).2.1) hN (fun wc2 wp2 PA4 hW hAr hPAf => ?_)
    · rcases ((d1 ls hls).2.2.1 l hl).1 with w | w
      · have := w.2.2.2.1
        omega
      · exfalso
        rcases hp with hp | hp <;> rw [hp] at w <;> exact absurd w.1 (by decide)
    have hfr4 : Fr 0 set 0 0 (PF3, PL3, PA4, PS3, CN3, CV3, CF3, LC3, LK3, LP3, LT3) (PF, PL, PA, PS, CN, CV, CF, LC, LK, LP, LT) := by
      refine hfr0 _ _ _ _ _ _ _ _ _ _ _ ?_
      obtain ⟨f1, f2, f3, f4, f5, f6⟩ := hfr
      refine ⟨fun j hj => ?_, f2, f3, f4, f5, f6⟩
      obtain ⟨x1, x2, x3⟩ := f1 j hj
      exact ⟨x1, x2, (hPAf j (fun z => hj ⟨rfl, z.1, z.2⟩)).trans x3⟩
    refine ⟨_, load_look (G := T) (by omega) hset hmc hMB (fun wc5 wp5 hW5 => ?_) cs.length 0 (Nat.zero_add _) wc2 wp2 (WR_iff (fun c p => ⟨Or.inl, fun w => ?_⟩) hW)⟩
    · rcases hW5 with ⟨hno, hmax⟩ | ⟨c, p, hw, hlt, hc, hp, hmin⟩
      · refine ⟨fun _ => ?_, fun z => absurd hmax z⟩
        refine ⟨fun z => absurd z (by decide), fun _ => ?_⟩
        refine sp_Mo_isStrata (by omega) hset hMB (fun D6 hnf => ?_) (fun c6 p6 D6 hcyc => ?_)
        · intro y118 h118
          rw [if_neg (by decide)] at h118
          subst h118
          refine ⟨fun z => absurd z (by decide), fun _ => ?_⟩
          refine ⟨vp_in_nI hset (by omega), fun g125 h125 => ?_⟩
          rw [ks] at h125
          subst h125
          refine sp_Mo_layStrata hset hMB hnf (fun L c7 ST7 hi7 hL hL64 hST hhi hLy => ?_)
          exact h1 (cs, [], lt, vs, ps, mc) L hi7 _ _ _ _ _ _ _ _ _ _ _ _ _ _ _ _ _ _ _ _ _ _ _ _ _ _ _ _ _ _ _ _ _ (Or.inr ⟨_, hE, Or.inr ⟨hno, Or.inr ⟨hnf, rfl⟩⟩⟩) ⟨d1, d2, d3, d4, d5, d6, d7, d8⟩ hTxS hfr4 (hCl0 _) hP hM hcap hMB hAr hL hL64 hST hhi hLy
        · intro y118 h118
          rw [if_pos rfl] at h118
          subst h118
          refine ⟨fun _ => ?_, fun z => absurd rfl z⟩
          exact h0 12 p6 _ _ _ _ _ _ _ _ _ _ _ _ _ _ _ _ _ _ _ _ _ _ _ _ _ _ _ _ _ _ _ _ (Or.inr ⟨_, hE, Or.inr ⟨hno, Or.inl ⟨p6, hcyc, rfl⟩⟩⟩) hTxS hfr4 (hCl0 _)
      · have hne : ¬ wp5 = (2147483647 : Int32) := by
          intro z
          rw [hp] at z
          have e := congrArg Int32.toInt z
          rw [nI_toInt (by omega)] at e
          have e2 : (2147483647 : Int32).toInt = 2147483647 := by decide
          rw [e2] at e
          omega
        refine ⟨fun z => absurd z hne, fun _ => ?_⟩
        refine sp_Mo_flaw ?_
        intro y100 h100
        rw [if_pos rfl] at h100
        subst h100
        rw [hp, hc, pk_sub (by omega), show 65536 * set + p - 65536 * set = p by omega]
        refine ⟨fun _ => ?_, fun z => absurd rfl z⟩
        refine ⟨fun _ => ?_, fun z => absurd rfl z⟩
        exact h0 c p _ _ _ _ _ _ _ _ _ _ _ _ _ _ _ _ _ _ _ _ _ _ _ _ _ _ _ _ _ _ _ _ (Or.inr ⟨_, hE, Or.inl ⟨c, p, hw, hmin, rfl⟩⟩) hTxS hfr4 (hCl0 _)
    · rcases w with w | ⟨ls, w, -⟩
      · exact w
      · cases w
  · intro c q tk3 fr3 to3 am3 cl3 cA3 vr3 PF3 PL3 PA3 PS3 CN3 CV3 CF3 LC3 LK3 LP3 LT3 VC3 LQ3 NQ3 TP3 LA3 VF3 VL3 hfr hE
    intro y48 h48
    rw [if_pos rfl] at h48
    subst h48
    refine ⟨fun _ => ?_, fun z => absurd rfl z⟩
    refine ⟨fun _ => ?_, fun z => absurd rfl z⟩
    refine ⟨fun _ => ?_, fun z => absurd rfl z⟩
    exact h0 c q _ _ _ _ _ _ _ _ _ _ _ _ _ _ _ _ _ _ _ _ _ _ _ _ _ _ _ _ _ _ _ _ (Or.inl ⟨_, hE, rfl⟩) hTxS (hfr0 _ _ _ _ _ _ _ _ _ _ _ hfr) hCl1
end Load
