/-! pure: the class's strata -/
section CSt
variable {G : Nat → Int32} {ps : List Wd} {cn : List Con} {cs : List (List Lt)} {tz : Int32} {FF K P : Nat → Int32} {L : Nat → Nat}
theorem CT_bd (hM : CT G ps cn cs tz FF K P) : Ebd (EdC ps cs) := by
  rintro a b k ⟨c2, j, ls2, h, l, e1, e2, e3, e4, e5, e6, e7⟩
  have h1 := (List.getElem?_eq_some_iff.mp e3).1
  have h2 := (List.getElem?_eq_some_iff.mp e6).1
  have h3 := hM.2.2.2.2.2.1
  refine ⟨by omega, by omega, ?_⟩
  rcases e7 with e7 | e7
  · exact Or.inl e7.2
  · exact Or.inr e7.2
theorem CT_lst (hM : CT G ps cn cs tz FF K P) (hn : ∀ c j, ¬ Flg ps cs c j) : ∃ L, Lst (EdC ps cs) L ∧ ∀ p, L p ≤ 64 := by
  obtain ⟨s, h1, h2⟩ := val_ex (CT_bd hM) (fun a b he hp => by
    have he0 := he
    obtain ⟨c2, j, ls2, h, l, e1, e2, e3, e4, e5, e6, e7⟩ := he
    have hl1 : l.1 = 1 := by
      rcases e7 with e7 | e7
      · exact absurd e7.2 (by decide)
      · exact e7.1
    refine hn c2 j ⟨ls2, h, l, a, b, e1, e2, e3, e4, e5, e6, hl1, ?_⟩
    rcases hp with hp | hp
    · subst hp
      exact Pt_one ⟨1, he0⟩
    · exact hp)
  obtain ⟨L, hL⟩ := least_ex ⟨s, h1⟩
  exact ⟨L, hL, fun p => Nat.le_trans (hL.2 s h1 p) (h2 p)⟩
theorem rs_34 {post : Int32 → (Nat → Int32) → Prop} {J : (Int32 × Int32 × (Nat → Int32)) → Prop} {c a0 : Nat} {ls : List Lt} {hd : Lt} {st0 : Nat → Nat} (hM : CT G ps cn cs tz FF K P) (hc : cs[c]? = some ls) (h0e : ls[0]? = some hd) (ha0 : a0 < 64) (hda : ps[a0]? = some hd.2.1) (hL64 : ∀ p, L p ≤ 64) (hVal : Val (EdC ps cs) L)
    (hJ : ∀ more st ST, StA st ST → RdR (EdK ps cs (c + 1) 1) L st0 st more → J (nI (c + 1), more, ST)) : ∀ m k : Nat, k + m = ls.length → 1 ≤ k → ∀ more st ST, StA st ST → RdR (EdK ps cs c k) L st0 st more → lw_met_Pr_raiseStrata_34 post J (nI c) 257 FF 3328 K 3328 P (nI a0) (m + 1) (nI (off cs c + k), more, ST) := by
  obtain ⟨d1, d2, d3, d4, d5, d6⟩ := CT_cl hM hc
  have m4 := hM.2.2.2.2.1
  have k0 : (nI a0).toNatClampNeg = a0 := nI_clamp (by omega)
  have v0 : vp_in (nI a0) 64 := vp_in_nI ha0 (by omega)
  intro m
  induction m with
  | zero =>
    intro k hk hk1 more st ST hS hR y14 h14
    rw [nI_1] at h14
    subst h14
    refine ⟨vp_in_nI (by omega) (by omega), fun y16 h16 => ?_⟩
    rw [nI_clamp (by omega), d5] at h16
    subst h16
    refine pk_le (off cs c + ls.length) (off cs c + k) (fun _ => ?_) (fun q => absurd q (by omega))
    rw [nI_1]
    refine hJ more st ST hS ⟨hR.1, fun a b kk he => ?_, hR.2.2⟩
    obtain ⟨c2, j, ls2, h, l, e1, e2, e3, e4, e5, e6, e7, e8⟩ := he
    refine hR.2.1 a b kk ⟨c2, j, ls2, h, l, e1, e2, e3, e4, e5, e6, e7, ?_⟩
    by_cases z : c2 = c
    · subst z
      rw [hc] at e1
      obtain rfl := Option.some.inj e1
      have := (List.getElem?_eq_some_iff.mp e5).1
      omega
    · omega
  | succ m ih =>
    intro k hk hk1 more st ST hS hR y14 h14
    rw [nI_1] at h14
    subst h14
    refine ⟨vp_in_nI (by omega) (by omega), fun y16 h16 => ?_⟩
    rw [nI_clamp (by omega), d5] at h16
    subst h16
    refine pk_le (off cs c + ls.length) (off cs c + k) (fun q => absurd q (by omega)) (fun _ => ?_)
    have hkl : k < ls.length := by omega
    have hke := List.getElem?_eq_getElem hkl
    obtain ⟨b2, b3, b4⟩ := CT_lit hM hc hke
    generalize ls[k] = l at hke b2 b3 b4
    have hs0 := hS a0 ha0
    have hst : ∀ p, st p ≤ 64 := fun p => by
      have := (hR.1 p).2
      have := hL64 p
      omega
    have hs1 := hst a0
    have go : ∀ due : Nat, due ≤ 65 → due ≤ L a0 → (∀ b kk, EdK ps cs c (k + 1) a0 b kk → ¬ EdK ps cs c k a0 b kk → st0 b + kk ≤ due) → jw_met_Pr_raiseStrata_100 post (fun x9 => lw_met_Pr_raiseStrata_34 post J (nI c) 257 FF 3328 K 3328 P (nI a0) (m + 1) x9) (nI a0) ST (nI (off cs c + k)) more (nI due) := by
      intro due hd1 hd2 hd3
      have hnew : ∀ st2 : Nat → Nat, (∀ p, st p ≤ st2 p) → due ≤ st2 a0 → ∀ a b kk, EdK ps cs c (k + 1) a b kk → st0 b + kk ≤ st2 a := by
        intro st2 hle2 hdu a b kk he
        by_cases z : EdK ps cs c k a b kk
        · have := hR.2.1 a b kk z
          have := hle2 a
          omega
        · have he0 := he
          obtain ⟨c2, j, ls2, h, l2, e1, e2, e3, e4, e5, e6, e7, e8⟩ := he
          have hcj : c2 = c ∧ j = k := by
            apply Classical.byContradiction
            intro w
            exact z ⟨c2, j, ls2, h, l2, e1, e2, e3, e4, e5, e6, e7, by omega⟩
          obtain ⟨rfl, rfl⟩ := hcj
          rw [hc] at e1
          obtain rfl := Option.some.inj e1
          rw [h0e] at e2
          obtain rfl := Option.some.inj e2
          obtain rfl := nodup_inj m4 e3 hda
          have := hd3 b kk he0 z
          omega
      refine ⟨v0, fun y44 h44 => ?_⟩
      rw [k0, hs0] at h44
      subst h44
      refine pk_le due (st a0) (fun q => ?_) (fun q => ?_)
      · rw [nI_1, Nat.add_assoc]
        exact ih (k + 1) (by omega) (by omega) more st ST hS ⟨hR.1, hnew st (fun _ => Nat.le_refl _) q, hR.2.2⟩
      · refine ⟨v0, fun g46 h46 => ?_⟩
        rw [k0] at h46
        rw [nI_1, Nat.add_assoc]
        refine ih (k + 1) (by omega) (by omega) 1 (fun p => if p = a0 then due else st p) g46 (fun p hp => ?_) ⟨fun p => ?_, hnew _ (fun p => ?_) (by simp), Or.inr ⟨rfl, a0, ?_⟩⟩
        · rw [h46]
          by_cases z : p = a0
          · subst z
            rw [upd_same]
            simp
          · rw [upd_ne z]
            simp only [if_neg z]
            exact hS p hp
        · have hp := hR.1 p
          by_cases z : p = a0
          · subst z
            simp only [if_true]
            omega
          · simp only [if_neg z]
            exact hp
        · by_cases z : p = a0
          · subst z
            simp only [if_true]
            omega
          · simp only [if_neg z]
            omega
        · simp only [if_true]
          have := (hR.1 a0).1
          omega
    refine ⟨vp_in_nI (by omega) (by omega), fun y18 h18 => ?_⟩
    rw [nI_clamp (by omega), b2] at h18
    subst h18
    refine ⟨fun e => ?_, fun e => ?_⟩
    · have np := (kd1 b3).mp e
      refine go 0 (by omega) (by omega) (fun b kk he hno => ?_)
      exfalso
      obtain ⟨c2, j, ls2, h, l2, e1, e2, e3, e4, e5, e6, e7, e8⟩ := he
      have hcj : c2 = c ∧ j = k := by
        apply Classical.byContradiction
        intro w
        exact hno ⟨c2, j, ls2, h, l2, e1, e2, e3, e4, e5, e6, e7, by omega⟩
      obtain ⟨rfl, rfl⟩ := hcj
      rw [hc] at e1
      obtain rfl := Option.some.inj e1
      rw [hke] at e5
      obtain rfl := Option.some.inj e5
      rcases e7 with e7 | e7
      · exact np (Or.inl e7.1)
      · exact np (Or.inr e7.1)
    · have hp : l.1 = 0 ∨ l.1 = 1 := Classical.byContradiction (fun w => e ((kd1 b3).mpr w))
      obtain ⟨il, j1, j2, j3⟩ := b4 hp
      obtain ⟨kk, hkk⟩ : ∃ kk : Nat, (l.1 = 0 ∧ kk = 0) ∨ (l.1 = 1 ∧ kk = 1) := by
        rcases hp with z | z
        · exact ⟨0, Or.inl ⟨z, rfl⟩⟩
        · exact ⟨1, Or.inr ⟨z, rfl⟩⟩
      have hlk : (if l.1 = 1 then (1 : Int32) else 0) = nI kk := by
        rcases hkk with ⟨z1, z2⟩ | ⟨z1, z2⟩
        · rw [z1, z2]
          decide
        · rw [z1, z2]
          decide
      have hkk1 : kk ≤ 1 := by rcases hkk with ⟨_, z⟩ | ⟨_, z⟩ <;> omega
      refine ⟨vp_in_nI (by omega) (by omega), fun y21 h21 => ?_⟩
      rw [nI_clamp (by omega), j3] at h21
      subst h21
      refine ⟨vp_in_nI j1 (by omega), fun y23 h23 y24 h24 y25 h25 => ?_⟩
      rw [nI_clamp (by omega), hS il j1] at h23
      rw [hlk] at h24
      rw [h23, h24, nI_add] at h25
      subst h25
      have hE : EdC ps cs a0 il kk := ⟨c, k, ls, hd, l, hc, h0e, hda, hk1, hke, j2, hkk⟩
      have hsl := hst il
      refine go (st il + kk) (by omega) ?_ (fun b k2 he hno => ?_)
      · have := hVal a0 il kk hE
        have := (hR.1 il).2
        omega
      · obtain ⟨c2, j, ls2, h, l2, e1, e2, e3, e4, e5, e6, e7, e8⟩ := he
        have hcj : c2 = c ∧ j = k := by
          apply Classical.byContradiction
          intro w
          exact hno ⟨c2, j, ls2, h, l2, e1, e2, e3, e4, e5, e6, e7, by omega⟩
        obtain ⟨rfl, rfl⟩ := hcj
        rw [hc] at e1
        obtain rfl := Option.some.inj e1
        rw [hke] at e5
        obtain rfl := Option.some.inj e5
        obtain rfl := nodup_inj m4 e6 j2
        have hk2 : k2 = kk := by
          rcases e7 with ⟨z1, z2⟩ | ⟨z1, z2⟩ <;> rcases hkk with ⟨w1, w2⟩ | ⟨w1, w2⟩
          · omega
          · rw [z1] at w1
            exact absurd w1 (by decide)
          · rw [z1] at w1
            exact absurd w1 (by decide)
          · omega
        rw [hk2]
        have := (hR.1 b).1
        omega
theorem rs_4 {post : Int32 → (Nat → Int32) → Prop} {st0 : Nat → Nat} (hM : CT G ps cn cs tz FF K P) (hL64 : ∀ p, L p ≤ 64) (hVal : Val (EdC ps cs) L)
    (h : ∀ more st ST, StA st ST → RdR (EdC ps cs) L st0 st more → post more ST) : ∀ m c : Nat, c + m = cs.length → ∀ more st ST, StA st ST → RdR (EdK ps cs c 1) L st0 st more → lw_met_Pr_raiseStrata_4 post tz 257 FF 3328 P 3328 K (m + 1) (nI c, more, ST) := by
  have htz := hM.1
  have h256 := hM.2.1
  intro m
  induction m with
  | zero =>
    intro c hc more st ST hS hR
    refine pk_le cs.length c (fun _ => ?_) (fun q => absurd q (by omega)) htz
    obtain rfl : c = cs.length := by omega
    refine ⟨?_, h more st ST hS ⟨hR.1, fun a b k he => ?_, hR.2.2⟩⟩
    · rcases hR.2.2 with q | q
      · exact Or.inl q.1
      · exact Or.inr q.1
    · obtain ⟨c2, j, ls2, h, l, e1, e2, e3, e4, e5, e6, e7⟩ := he
      have := (List.getElem?_eq_some_iff.mp e1).1
      exact hR.2.1 a b k ⟨c2, j, ls2, h, l, e1, e2, e3, e4, e5, e6, e7, by omega⟩
  | succ m ih =>
    intro c hc more st ST hS hR
    refine pk_le cs.length c (fun q => absurd q (by omega)) (fun _ => ?_) htz
    have hcl : c < cs.length := by omega
    have hce := List.getElem?_eq_getElem hcl
    generalize cs[c] = ls at hce
    obtain ⟨hd, p, e1, e2, e3, e4, e5⟩ := CT_hd hM hce
    obtain ⟨d1, d2, d3, d4, d5, d6⟩ := CT_cl hM hce
    refine sp_headOf hM hce e5 ?_
    refine ⟨vp_in_nI (by omega) (by omega), fun y8 h8 y9 h9 => ?_⟩
    rw [nI_clamp (by omega), d4] at h8
    rw [h8, nI_1] at h9
    subst h9
    exact ⟨_, rs_34 (st0 := st0) (L := L) hM hce e1 e3 e4 hL64 hVal (fun more2 st2 ST2 hS2 hR2 => ih (c + 1) (by omega) more2 st2 ST2 hS2 hR2) (ls.length - 1) 1 (by omega) (by omega) more st ST hS hR⟩
theorem sp_raiseStrata {post : Int32 → (Nat → Int32) → Prop} {st0 : Nat → Nat} {ST : Nat → Int32} (hM : CT G ps cn cs tz FF K P) (hL64 : ∀ p, L p ≤ 64) (hVal : Val (EdC ps cs) L) (hst : ∀ p, st0 p ≤ L p) (hS : StA st0 ST)
    (h : ∀ more st ST, StA st ST → RdR (EdC ps cs) L st0 st more → post more ST) : wp_met_Pr_raiseStrata post 257 3328 3328 tz FF K P ST := by
  refine ⟨_, rs_4 (st0 := st0) (L := L) hM hL64 hVal h cs.length 0 (by omega) 0 st0 ST hS ⟨fun p => ⟨Nat.le_refl _, hst p⟩, fun a b k he => ?_, Or.inl ⟨rfl, rfl⟩⟩⟩
  obtain ⟨c2, j, ls2, h2, l, e1, e2, e3, e4, e5, e6, e7, e8⟩ := he
  omega
/-- how many strata -/
def ScQ (ps : List Wd) (L : Nat → Nat) (p hi : Nat) : Prop := (∀ q, q < p → L q + 1 ≤ hi) ∧ ((hi = 0 ∧ p = 0) ∨ ∃ q, q < p ∧ hi = L q + 1)
theorem sc_71 {post : (Int32 × (Nat → Int32) × (Nat → Int32) × (Nat → Int32)) → Prop} {ST TT R : Nat → Int32} (hp64 : ps.length ≤ 64) (hL64 : ∀ p, L p ≤ 64) (hS : StA L ST) (h : ∀ hi, ScQ ps L ps.length hi → post (nI hi, TT, ST, R)) : ∀ m p : Nat, p + m = ps.length → ∀ hi, ScQ ps L p hi → lw_met_Pr_settle_71 post (nI ps.length) TT ST R (m + 1) (nI p, nI hi) := by
  intro m
  induction m with
  | zero =>
    intro p hp hi hq
    obtain rfl : p = ps.length := by omega
    exact pk_le ps.length ps.length (fun _ => h hi hq) (fun q => absurd q (by omega))
  | succ m ih =>
    intro p hp hi hq
    refine pk_le ps.length p (fun q => absurd q (by omega)) (fun _ => ?_)
    have hLp := hL64 p
    have hhi : hi ≤ 65 := by
      rcases hq.2 with z | ⟨q, -, z⟩
      · omega
      · have := hL64 q
        omega
    refine ⟨vp_in_nI (by omega) (by omega), fun y23 h23 y24 h24 y25 h25 => ?_⟩
    rw [nI_clamp (by omega), hS p (by omega)] at h23
    rw [h23, nI_1] at h24
    subst h24
    have e25 : y25 = nI (max hi (L p + 1)) := by
      rw [h25]
      by_cases z : hi < L p + 1
      · rw [if_pos (nI_lt z (by omega)), Nat.max_eq_right (by omega)]
      · have z2 : ¬ nI hi < nI (L p + 1) := fun w => z (by
          have w2 := Int32.lt_iff_toInt_lt.mp w
          rw [nI_toInt (by omega), nI_toInt (by omega)] at w2
          omega)
        rw [if_neg z2, Nat.max_eq_left (by omega)]
    rw [e25, nI_1]
    refine ih (p + 1) (by omega) _ ⟨fun q hq2 => ?_, ?_⟩
    · rcases Nat.lt_or_ge q p with z | z
      · have := hq.1 q z
        omega
      · obtain rfl : q = p := by omega
        omega
    · by_cases z : hi < L p + 1
      · exact Or.inr ⟨p, by omega, by omega⟩
      · rcases hq.2 with w | ⟨q, w1, w2⟩
        · omega
        · exact Or.inr ⟨q, by omega, by omega⟩
theorem sl_43 {post : (Int32 × (Nat → Int32) × (Nat → Int32) × (Nat → Int32)) → Prop} {TT R : Nat → Int32} (hM : CT G ps cn cs tz FF K P) (hL64 : ∀ p, L p ≤ 64) (hL : Lst (EdC ps cs) L) (h : ∀ hi ST, StA L ST → ScQ ps L ps.length hi → post (nI hi, TT, ST, R)) : ∀ r q : Nat, q + r = 64 → ∀ (st : Nat → Nat) (ST : Nat → Int32) (i : Nat), StA st ST → (∀ p, st p ≤ L p) → cnt (fun p => st p = L p) 64 i → q ≤ i → lw_met_Pr_settle_43 post 257 3328 3328 tz FF K P (nI ps.length) TT R (r + 2) (nI q, 1, ST) := by
  have hbd := CT_bd hM
  have hp64 := hM.2.2.2.2.2.1
  have hL0 : ∀ p, 64 ≤ p → L p = 0 := by
    intro p hp
    have hv : Val (EdC ps cs) (fun q => if q < 64 then L q else 0) := by
      intro a b k he
      obtain ⟨x, y, -⟩ := hbd a b k he
      have := hL.1 a b k he
      show (if b < 64 then L b else 0) + k ≤ (if a < 64 then L a else 0)
      rw [if_pos x, if_pos y]
      exact this
    have := hL.2 _ hv p
    replace this : L p ≤ (if p < 64 then L p else 0) := this
    rw [if_neg (by omega)] at this
    omega
  have fin : ∀ (st : Nat → Nat) (ST : Nat → Int32), StA st ST → (∀ p, st p ≤ L p) → (∀ a b k, EdC ps cs a b k → st b + k ≤ st a) → jw_met_Pr_settle_64 post (nI ps.length) TT ST R () := by
    intro st ST hS hst hv
    have heq : st = L := by
      funext p
      have h1 := hL.2 st hv p
      have h2 := hst p
      omega
    subst heq
    exact ⟨_, sc_71 hp64 hL64 hS (fun hi hq => h hi ST hS hq) ps.length 0 (by omega) 0 ⟨fun q hq => absurd hq (by omega), Or.inl ⟨rfl, rfl⟩⟩⟩
  intro r
  induction r with
  | zero =>
    intro q hq st ST i hS hst hi hqi
    refine pk_lt 64 q (fun z => absurd z (by omega)) (fun _ => ?_)
    refine ⟨fun z => absurd z (by decide), fun _ => ?_⟩
    have hall := cnt_all 64 i hi (by omega)
    refine sp_raiseStrata hM hL64 hL.1 hst hS (fun more st2 ST2 hS2 hR2 => ?_)
    rw [nI_1]
    rcases hR2.2.2 with ⟨e1, e2⟩ | ⟨e1, p, e2⟩
    · subst e1 e2
      exact pk_lt 64 (q + 1) (fun _ => fin st2 ST2 hS2 hst hR2.2.1) (fun z => absurd z (by omega))
    · exfalso
      have h3 := (hR2.1 p).2
      rcases Nat.lt_or_ge p 64 with w | w
      · have := hall p w
        replace this : st p = L p := this
        omega
      · have := hL0 p w
        omega
  | succ r ih =>
    intro q hq st ST i hS hst hi hqi
    refine pk_lt 64 q (fun z => absurd z (by omega)) (fun _ => ?_)
    refine ⟨fun z => absurd z (by decide), fun _ => ?_⟩
    refine sp_raiseStrata hM hL64 hL.1 hst hS (fun more st2 ST2 hS2 hR2 => ?_)
    rw [nI_1]
    rcases hR2.2.2 with ⟨e1, e2⟩ | ⟨e1, p, e2⟩
    · subst e1 e2
      exact pk_lt 64 (q + 1) (fun z => absurd z (by omega)) (fun _ => ⟨fun _ => fin st2 ST2 hS2 hst hR2.2.1, fun z => absurd rfl z⟩)
    · subst e1
      obtain ⟨j, hj, -⟩ := cnt_ex (P := fun p => st2 p = L p) 64
      rcases round_more hbd hL hst hR2.2.1 hR2.1 hi hj with w | w
      · exact ih (q + 1) (by omega) st2 ST2 j hS2 (fun p => (hR2.1 p).2) hj (by omega)
      · exfalso
        have h3 := (hR2.1 p).2
        have := w p
        omega
theorem sl_31 {post : (Int32 × (Nat → Int32) × (Nat → Int32) × (Nat → Int32)) → Prop} {ST0 TT R : Nat → Int32} (hM : CT G ps cn cs tz FF K P) (hL64 : ∀ p, L p ≤ 64) (hL : Lst (EdC ps cs) L) (h : ∀ hi ST, StA L ST → ScQ ps L ps.length hi → post (nI hi, TT, ST, R)) : jw_met_Pr_settle_31 post ST0 257 3328 3328 tz FF K P (nI ps.length) TT R () := by
  refine sp_Ar_fill (by omega) (fun ST hz => ?_)
  obtain ⟨i, hi, -⟩ := cnt_ex (P := fun p => (fun _ : Nat => 0) p = L p) 64
  exact ⟨_, sl_43 hM hL64 hL h 64 0 (by omega) (fun _ => 0) ST i (fun p hp => hz p hp) (fun p => Nat.zero_le _) hi (by omega)⟩
end CSt
