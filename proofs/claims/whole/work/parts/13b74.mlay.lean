/-! pure: the model's strata -/
section Lay
variable {o set : Nat} {G : Nat → Int32} {ps : List Wd} {mc : List Con} {LK LP LT LQ NQ TP LA LC Cl : Nat → Int32} {cs : List (List Lt)} {L : Nat → Nat}
def EdK (ps : List Wd) (cs : List (List Lt)) (C J : Nat) (a b k : Nat) : Prop := ∃ (c j : Nat) (ls : List Lt) (h l : Lt), cs[c]? = some ls ∧ ls[0]? = some h ∧ ps[a]? = some h.2.1 ∧ 1 ≤ j ∧ ls[j]? = some l ∧ ps[b]? = some l.2.1 ∧ ((l.1 = 0 ∧ k = 0) ∨ (l.1 = 1 ∧ k = 1)) ∧ (c < C ∨ (c = C ∧ j < J))
def StA (st : Nat → Nat) (ST : Nat → Int32) : Prop := ∀ p, p < 64 → ST p = nI (st p)
/-- what a round has done: from st0 to st -/
def RdR (E : Nat → Nat → Nat → Prop) (L st0 st : Nat → Nat) (more : Int32) : Prop := (∀ p, st0 p ≤ st p ∧ st p ≤ L p) ∧ (∀ a b k, E a b k → st0 b + k ≤ st a) ∧ ((more = 0 ∧ st = st0) ∨ (more = 1 ∧ ∃ p, st0 p < st p))
/-- a head of a clause -/
def Hd (ps : List Wd) (cs : List (List Lt)) (C : Nat) (a : Nat) : Prop := ∃ (c : Nat) (ls : List Lt) (h : Lt), cs[c]? = some ls ∧ ls[0]? = some h ∧ ps[a]? = some h.2.1 ∧ c < C
theorem lay_in {post : (Int32 × Int32 × (Nat → Int32)) → Prop} {J : (Int32 × Int32 × Int32 × (Nat → Int32)) → Prop} {c hi a0 : Nat} {ls : List Lt} {hd : Lt} {st0 : Nat → Nat} (hset : set < 2) (hM : MB G ps mc o set (LK, LP, LT, LQ, NQ, TP, LA) LC Cl cs) (hc : cs[c]? = some ls) (h0e : ls[0]? = some hd) (ha0 : a0 < 64) (hda : ps[a0]? = some hd.2.1) (hhi : hi ≤ 64) (hL64 : ∀ p, L p ≤ 64) (hVal : Val (EdC ps cs) L)
    (hJ : ∀ more st ST, StA st ST → RdR (EdK ps cs (c + 1) 1) L st0 st more → J (more, nI (c + 1), nI (max hi (st a0)), ST)) : ∀ m k : Nat, k + m = ls.length → 1 ≤ k → ∀ more st ST, StA st ST → RdR (EdK ps cs c k) L st0 st more → lw_met_Mo_layStrata_68 post J (nI set) (nI c) LC LK LP (nI a0) (nI hi) (m + 1) (nI k, more, ST) := by
  have hcl := (List.getElem?_eq_some_iff.mp hc).1
  have hM0 := hM
  obtain ⟨m1, m2, m3, m4, m5, m6⟩ := hM0
  obtain ⟨a1, a2, a3, a4⟩ := m1 c ls hc
  have k0 : (nI a0).toNatClampNeg = a0 := nI_clamp (by omega)
  have v0 : vp_in (nI a0) 64 := vp_in_nI ha0 (by omega)
  intro m
  induction m with
  | zero =>
    intro k hk hk1 more st ST hS hR y27 h27 y28 h28
    rw [show (257 : Int32) = nI 257 from rfl, pk_mul] at h27
    rw [h27, nI_add] at h28
    subst h28
    refine ⟨vp_in_nI (by omega) (by omega), fun y30 h30 => ?_⟩
    rw [nI_clamp (by omega), a3] at h30
    subst h30
    refine pk_le ls.length k (fun _ => ?_) (fun q => absurd q (by omega))
    have hs0 := hS a0 ha0
    have hs1 : st a0 ≤ 64 := by
      have := (hR.1 a0).2
      have := hL64 a0
      omega
    refine ⟨v0, fun y48 h48 => ⟨⟨fun _ => trivial, fun _ => ⟨v0, trivial⟩⟩, fun y49 h49 y51 h51 => ?_⟩⟩
    rw [k0, hs0] at h48
    rw [k0, hs0, h48] at h49
    rw [nI_1] at h51
    have e49 : y49 = nI (max hi (st a0)) := by
      rw [h49]
      by_cases z : st a0 ≤ hi
      · rw [if_pos (nI_le z (by omega)), show max hi (st a0) = hi by omega]
      · rw [if_neg (fun w => z ((nI_leI (by omega) (by omega)).mp w)), show max hi (st a0) = st a0 by omega]
    rw [e49, h51]
    refine hJ more st ST hS ⟨hR.1, fun a b kk he => ?_, hR.2.2⟩
    obtain ⟨c2, j, ls2, h, l, e1, e2, e3, e4, e5, e6, e7, e8⟩ := he
    refine hR.2.1 a b kk ⟨c2, j, ls2, h, l, e1, e2, e3, e4, e5, e6, e7, ?_⟩
    by_cases z : c2 = c
    · subst z
      rw [hc] at e1
      obtain rfl := Option.some.inj e1
      have := (List.getElem?_eq_some_iff.mp e5).1
      omega
    · omega
  | succ m ih =>
    intro k hk hk1 more st ST hS hR y27 h27 y28 h28
    rw [show (257 : Int32) = nI 257 from rfl, pk_mul] at h27
    rw [h27, nI_add] at h28
    subst h28
    refine ⟨vp_in_nI (by omega) (by omega), fun y30 h30 => ?_⟩
    rw [nI_clamp (by omega), a3] at h30
    subst h30
    refine pk_le ls.length k (fun q => absurd q (by omega)) (fun _ => ?_)
    have hkl : k < ls.length := by omega
    have hke := List.getElem?_eq_getElem hkl
    obtain ⟨b1, b2, b3, b4, b5⟩ := MB_lit hM hc hke
    generalize hle : ls[k] = l at hke b2 b3 b4 b5
    have hs0 := hS a0 ha0
    have hst : ∀ p, st p ≤ 64 := fun p => by
      have := (hR.1 p).2
      have := hL64 p
      omega
    have hs1 := hst a0
    -- what the literal asks
    have go : ∀ due : Nat, due ≤ 65 → due ≤ L a0 → (∀ b kk, EdK ps cs c (k + 1) a0 b kk → ¬ EdK ps cs c k a0 b kk → st0 b + kk ≤ due) → jw_met_Mo_layStrata_130 post (fun x9 => lw_met_Mo_layStrata_68 post J (nI set) (nI c) LC LK LP (nI a0) (nI hi) (m + 1) x9) (nI a0) ST (nI k) more (nI due) := by
      intro due hd1 hd2 hd3
      have hnew : ∀ st2 : Nat → Nat, (∀ p, st p ≤ st2 p) → due ≤ st2 a0 → ∀ a b kk, EdK ps cs c (k + 1) a b kk → st0 b + kk ≤ st2 a := by
        intro st2 hle2 hdu a b kk he
        by_cases z : EdK ps cs c k a b kk
        · have := hR.2.1 a b kk z
          have := hle2 a
          omega
        · have he0 := he
          obtain ⟨c2, j, ls2, h, l2, e1, e2, e3, e4, e5, e6, e7, e8⟩ := he
          have hcj : c2 = c ∧ j = k := by
            apply Classical.byContradiction
            intro w
            exact z ⟨c2, j, ls2, h, l2, e1, e2, e3, e4, e5, e6, e7, by omega⟩
          obtain ⟨rfl, rfl⟩ := hcj
          rw [hc] at e1
          obtain rfl := Option.some.inj e1
          rw [h0e] at e2
          obtain rfl := Option.some.inj e2
          obtain rfl := nodup_inj m4 e3 hda
          have := hd3 b kk he0 z
          omega
      refine ⟨v0, fun y44 h44 => ?_⟩
      rw [k0, hs0] at h44
      subst h44
      refine pk_le due (st a0) (fun q => ?_) (fun q => ?_)
      · rw [nI_1]
        exact ih (k + 1) (by omega) (by omega) more st ST hS ⟨hR.1, hnew st (fun _ => Nat.le_refl _) q, hR.2.2⟩
      · refine ⟨v0, fun g46 h46 => ?_⟩
        rw [k0] at h46
        rw [nI_1]
        refine ih (k + 1) (by omega) (by omega) 1 (fun p => if p = a0 then due else st p) g46 (fun p hp => ?_) ⟨fun p => ?_, hnew _ (fun p => ?_) (by simp), Or.inr ⟨rfl, a0, ?_⟩⟩
        · rw [h46]
          by_cases z : p = a0
          · subst z
            rw [upd_same]
            simp
          · rw [upd_ne z]
            simp only [if_neg z]
            exact hS p hp
        · have hp := hR.1 p
          by_cases z : p = a0
          · subst z
            simp only [if_true]
            omega
          · simp only [if_neg z]
            exact hp
        · by_cases z : p = a0
          · subst z
            simp only [if_true]
            omega
          · simp only [if_neg z]
            omega
        · simp only [if_true]
          have := (hR.1 a0).1
          omega
    refine sp_Mo_literal ?_
    refine ⟨vp_in_nI (by omega) (by omega), fun y34 h34 => ?_⟩
    rw [nI_clamp (by omega), b2] at h34
    refine ⟨fun e => ?_, fun e => ?_⟩
    · rw [h34] at e
      have np := (lkd_2 b3).mp e
      refine go 0 (by omega) (by omega) (fun b kk he hno => ?_)
      exfalso
      obtain ⟨c2, j, ls2, h, l2, e1, e2, e3, e4, e5, e6, e7, e8⟩ := he
      have hcj : c2 = c ∧ j = k := by
        apply Classical.byContradiction
        intro w
        exact hno ⟨c2, j, ls2, h, l2, e1, e2, e3, e4, e5, e6, e7, by omega⟩
      obtain ⟨rfl, rfl⟩ := hcj
      rw [hc] at e1
      obtain rfl := Option.some.inj e1
      rw [hke] at e5
      obtain rfl := Option.some.inj e5
      rcases e7 with e7 | e7
      · exact np (Or.inl e7.1)
      · exact np (Or.inr e7.1)
    · have hp : l.1 = 0 ∨ l.1 = 1 := Classical.byContradiction (fun w => e (by rw [h34]; exact (lkd_2 b3).mpr w))
      obtain ⟨il, j1, j2, j3⟩ := b4 hp
      obtain ⟨kk, hkk⟩ : ∃ kk : Nat, (l.1 = 0 ∧ kk = 0) ∨ (l.1 = 1 ∧ kk = 1) := by
        rcases hp with z | z
        · exact ⟨0, Or.inl ⟨z, rfl⟩⟩
        · exact ⟨1, Or.inr ⟨z, rfl⟩⟩
      have hlk : lkd l.1 = nI kk := by
        rcases hkk with ⟨z1, z2⟩ | ⟨z1, z2⟩
        · rw [z1, z2]
          decide
        · rw [z1, z2]
          decide
      have hkk1 : kk ≤ 1 := by rcases hkk with ⟨_, z⟩ | ⟨_, z⟩ <;> omega
      refine sp_Mo_literal ?_
      refine ⟨vp_in_nI (by omega) (by omega), fun y38 h38 => ?_⟩
      rw [nI_clamp (by omega), j3] at h38
      subst h38
      refine ⟨vp_in_nI j1 (by omega), fun y40 h40 y41 h41 => ?_⟩
      rw [nI_clamp (by omega), hS il j1] at h40
      rw [h40, h34, hlk, nI_add] at h41
      subst h41
      have hE : EdC ps cs a0 il kk := ⟨c, k, ls, hd, l, hc, h0e, hda, hk1, hke, j2, hkk⟩
      have hsl := hst il
      refine go (st il + kk) (by omega) ?_ (fun b k2 he hno => ?_)
      · have := hVal a0 il kk hE
        have := (hR.1 il).2
        omega
      · obtain ⟨c2, j, ls2, h, l2, e1, e2, e3, e4, e5, e6, e7, e8⟩ := he
        have hcj : c2 = c ∧ j = k := by
          apply Classical.byContradiction
          intro w
          exact hno ⟨c2, j, ls2, h, l2, e1, e2, e3, e4, e5, e6, e7, by omega⟩
        obtain ⟨rfl, rfl⟩ := hcj
        rw [hc] at e1
        obtain rfl := Option.some.inj e1
        rw [hke] at e5
        obtain rfl := Option.some.inj e5
        obtain rfl := nodup_inj m4 e6 j2
        have hk2 : k2 = kk := by
          rcases e7 with ⟨z1, z2⟩ | ⟨z1, z2⟩ <;> rcases hkk with ⟨w1, w2⟩ | ⟨w1, w2⟩
          · omega
          · rw [z1] at w1
            exact absurd w1 (by decide)
          · rw [z1] at w1
            exact absurd w1 (by decide)
          · omega
        rw [hk2]
        have := (hR.1 b).1
        omega
theorem lay_mid {post : (Int32 × Int32 × (Nat → Int32)) → Prop} {J : (Int32 × Int32 × Int32 × (Nat → Int32)) → Prop} {st0 : Nat → Nat} (hset : set < 2) (hM : MB G ps mc o set (LK, LP, LT, LQ, NQ, TP, LA) LC Cl cs) (hL64 : ∀ p, L p ≤ 64) (hVal : Val (EdC ps cs) L)
    (hJ : ∀ more st ST hi, StA st ST → RdR (EdC ps cs) L st0 st more → hi ≤ 64 → (∀ a, Hd ps cs cs.length a → st0 a ≤ hi) → (hi = 0 ∨ ∃ a, Hd ps cs cs.length a ∧ hi ≤ L a) → J (more, nI cs.length, nI hi, ST)) : ∀ m c : Nat, c + m = cs.length → ∀ more st ST hi, StA st ST → RdR (EdK ps cs c 1) L st0 st more → hi ≤ 64 → (∀ a, Hd ps cs c a → st0 a ≤ hi) → (hi = 0 ∨ ∃ a, Hd ps cs cs.length a ∧ hi ≤ L a) → lw_met_Mo_layStrata_39 post J (nI set) Cl LP LC LK (m + 1) (more, nI c, nI hi, ST) := by
  have hM0 := hM
  obtain ⟨m1, m2, m3, m4, m5, m6⟩ := hM0
  intro m
  induction m with
  | zero =>
    intro c hc more st ST hi hS hR hhi hH1 hH2
    refine ⟨vp_in_nI hset (by omega), fun y18 h18 => ?_⟩
    rw [nI_clamp (by omega), m2] at h18
    subst h18
    refine pk_le cs.length c (fun _ => ?_) (fun q => absurd q (by omega))
    obtain rfl : c = cs.length := by omega
    refine hJ more st ST hi hS ⟨hR.1, fun a b k he => ?_, hR.2.2⟩ hhi hH1 hH2
    obtain ⟨c2, j, ls2, h, l, e1, e2, e3, e4, e5, e6, e7⟩ := he
    have := (List.getElem?_eq_some_iff.mp e1).1
    exact hR.2.1 a b k ⟨c2, j, ls2, h, l, e1, e2, e3, e4, e5, e6, e7, by omega⟩
  | succ m ih =>
    intro c hc more st ST hi hS hR hhi hH1 hH2
    refine ⟨vp_in_nI hset (by omega), fun y18 h18 => ?_⟩
    rw [nI_clamp (by omega), m2] at h18
    subst h18
    refine pk_le cs.length c (fun q => absurd q (by omega)) (fun _ => ?_)
    have hcl : c < cs.length := by omega
    have hce := List.getElem?_eq_getElem hcl
    have hl1 := (m1 c _ hce).1
    generalize cs[c] = ls at hce hl1
    have h0e := List.getElem?_eq_getElem (show 0 < ls.length by omega)
    obtain ⟨-, -, -, d4, -⟩ := MB_lit hM hce h0e
    have hh : (ls[0]).1 = 0 := (m6 ls (List.mem_of_getElem? hce)).2.2.2 rfl _ h0e
    obtain ⟨a0, i1, i2, i3⟩ := d4 (Or.inl hh)
    unfold jw_met_Mo_layStrata_55
    refine sp_Mo_literal (k := 0) ?_
    refine ⟨vp_in_nI (by omega) (by omega), fun y22 h22 => ?_⟩
    rw [nI_clamp (by omega), i3] at h22
    subst h22
    refine ⟨_, lay_in (st0 := st0) (L := L) hset hM hce h0e i1 i2 hhi hL64 hVal (fun more2 st2 ST2 hS2 hR2 => ?_) (ls.length - 1) 1 (by omega) (by omega) more st ST hS hR⟩
    have hs2 := hR2.1 a0
    have hla := hL64 a0
    refine ih (c + 1) (by omega) more2 st2 ST2 (max hi (st2 a0)) hS2 hR2 (by omega) (fun a ha => ?_) ?_
    · obtain ⟨c2, ls2, h, e1, e2, e3, e4⟩ := ha
      by_cases z : c2 = c
      · subst z
        rw [hce] at e1
        obtain rfl := Option.some.inj e1
        rw [h0e] at e2
        obtain rfl := Option.some.inj e2
        obtain rfl := nodup_inj m4 e3 i2
        omega
      · have := hH1 a ⟨c2, ls2, h, e1, e2, e3, by omega⟩
        omega
    · by_cases z : st2 a0 ≤ hi
      · rw [show max hi (st2 a0) = hi by omega]
        exact hH2
      · rw [show max hi (st2 a0) = st2 a0 by omega]
        exact Or.inr ⟨a0, ⟨c, ls, _, hce, h0e, i2, hcl⟩, hs2.2⟩
theorem EdC_bd (hM : MB G ps mc o set (LK, LP, LT, LQ, NQ, TP, LA) LC Cl cs) : Ebd (EdC ps cs) := by
  obtain ⟨m1, m2, m3, m4, m5, m6⟩ := hM
  rintro a b k ⟨c2, j, ls2, h, l, e1, e2, e3, e4, e5, e6, e7⟩
  have h1 := (List.getElem?_eq_some_iff.mp e3).1
  have h2 := (List.getElem?_eq_some_iff.mp e6).1
  refine ⟨by omega, by omega, ?_⟩
  rcases e7 with e7 | e7
  · exact Or.inl e7.2
  · exact Or.inr e7.2
/-- the strata, and the highest -/
def LyQ (ps : List Wd) (cs : List (List Lt)) (L : Nat → Nat) (hi : Nat) : Prop := (∀ a, Hd ps cs cs.length a → L a ≤ hi) ∧ (hi = 0 ∨ ∃ a, Hd ps cs cs.length a ∧ hi ≤ L a)
theorem lay_lp {post : (Int32 × Int32 × (Nat → Int32)) → Prop} (hset : set < 2) (hM : MB G ps mc o set (LK, LP, LT, LQ, NQ, TP, LA) LC Cl cs) (hL64 : ∀ p, L p ≤ 64) (hL : Lst (EdC ps cs) L)
    (h : ∀ c ST hi, StA L ST → hi ≤ 64 → LyQ ps cs L hi → post (c, nI hi, ST)) : ∀ (r : Nat) (c : Int32) (st : Nat → Nat) (ST : Nat → Int32) (hi i : Nat), StA st ST → (∀ p, st p ≤ L p) → hi ≤ 64 → (hi = 0 ∨ ∃ a, Hd ps cs cs.length a ∧ hi ≤ L a) → cnt (fun p => st p = L p) 64 i → 64 ≤ i + r → lw_met_Mo_layStrata_28 post (nI set) Cl LP LC LK (r + 2) (1, c, nI hi, ST) := by
  have hbd := EdC_bd hM
  have hL0 : ∀ p, 64 ≤ p → L p = 0 := by
    intro p hp
    have hv : Val (EdC ps cs) (fun q => if q < 64 then L q else 0) := by
      intro a b k he
      obtain ⟨x, y, -⟩ := hbd a b k he
      have := hL.1 a b k he
      show (if b < 64 then L b else 0) + k ≤ (if a < 64 then L a else 0)
      rw [if_pos x, if_pos y]
      exact this
    have := hL.2 _ hv p
    replace this : L p ≤ (if p < 64 then L p else 0) := this
    rw [if_neg (by omega)] at this
    omega
  intro r
  induction r with
  | zero =>
    intro c st ST hi i hS hst hhi hH2 hi0 hr
    refine ⟨fun z => absurd z (by decide), fun _ => ?_⟩
    have hall := cnt_all 64 i hi0 (by omega)
    refine ⟨_, lay_mid (st0 := st) (L := L) hset hM hL64 hL.1 (fun more st2 ST2 hi2 hS2 hR2 hh2 g1 g2 => ?_) cs.length 0 (by omega) 0 st ST hi hS ⟨fun p => ⟨Nat.le_refl _, hst p⟩, fun a b k he => ?_, Or.inl ⟨rfl, rfl⟩⟩ hhi (fun a ha => ?_) hH2⟩
    · rcases hR2.2.2 with ⟨e1, e2⟩ | ⟨e1, p, e2⟩
      · subst e1 e2
        refine ⟨fun _ => ?_, fun z => absurd rfl z⟩
        have heq : st2 = L := by
          funext p
          have h1 := hL.2 st2 hR2.2.1 p
          have h2 := hst p
          omega
        subst heq
        exact h _ ST2 hi2 hS2 hh2 ⟨g1, g2⟩
      · exfalso
        have h3 := (hR2.1 p).2
        rcases Nat.lt_or_ge p 64 with q | q
        · have := hall p q
          replace this : st p = L p := this
          omega
        · have := hL0 p q
          omega
    · obtain ⟨c2, j, ls2, h2, l, e1, e2, e3, e4, e5, e6, e7, e8⟩ := he
      omega
    · obtain ⟨c2, ls2, h2, e1, e2, e3, e4⟩ := ha
      omega
  | succ r ih =>
    intro c st ST hi i hS hst hhi hH2 hi0 hr
    refine ⟨fun z => absurd z (by decide), fun _ => ?_⟩
    refine ⟨_, lay_mid (st0 := st) (L := L) hset hM hL64 hL.1 (fun more st2 ST2 hi2 hS2 hR2 hh2 g1 g2 => ?_) cs.length 0 (by omega) 0 st ST hi hS ⟨fun p => ⟨Nat.le_refl _, hst p⟩, fun a b k he => ?_, Or.inl ⟨rfl, rfl⟩⟩ hhi (fun a ha => ?_) hH2⟩
    · rcases hR2.2.2 with ⟨e1, e2⟩ | ⟨e1, p, e2⟩
      · subst e1 e2
        refine ⟨fun _ => ?_, fun z => absurd rfl z⟩
        have heq : st2 = L := by
          funext p
          have h1 := hL.2 st2 hR2.2.1 p
          have h2 := hst p
          omega
        subst heq
        exact h _ ST2 hi2 hS2 hh2 ⟨g1, g2⟩
      · subst e1
        obtain ⟨j, hj, -⟩ := cnt_ex (P := fun p => st2 p = L p) 64
        rcases round_more hbd hL hst hR2.2.1 hR2.1 hi0 hj with q | q
        · exact ih _ st2 ST2 hi2 j hS2 (fun p => (hR2.1 p).2) hh2 g2 hj (by omega)
        · exfalso
          have h3 := (hR2.1 p).2
          have := q p
          omega
    · obtain ⟨c2, j, ls2, h2, l, e1, e2, e3, e4, e5, e6, e7, e8⟩ := he
      omega
    · obtain ⟨c2, ls2, h2, e1, e2, e3, e4⟩ := ha
      omega
theorem lay_0 {post : (Int32 × Int32 × (Nat → Int32)) → Prop} {cl : Int32} (hset : set < 2) (hM : MB G ps mc o set (LK, LP, LT, LQ, NQ, TP, LA) LC Cl cs) (hL64 : ∀ p, L p ≤ 64) (hL : Lst (EdC ps cs) L)
    (h : ∀ c ST hi, StA L ST → hi ≤ 64 → LyQ ps cs L hi → post (c, nI hi, ST)) : ∀ m k : Nat, k + m = 64 → ∀ ST : Nat → Int32, (∀ j, j < k → ST j = 0) → lw_met_Mo_layStrata_2 post cl (nI set) Cl LP LC LK (m + 1) (nI k, ST) := by
  intro m
  induction m with
  | zero =>
    intro k hk ST hS
    refine pk_le 64 k (fun _ => ?_) (fun q => absurd q (by omega))
    obtain ⟨i, hi, -⟩ := cnt_ex (P := fun p => (fun _ : Nat => 0) p = L p) 64
    exact ⟨_, lay_lp hset hM hL64 hL h 64 cl (fun _ => 0) ST 0 i (fun p hp => hS p (by omega)) (fun p => Nat.zero_le _) (by omega) (Or.inl rfl) hi (by omega)⟩
  | succ m ih =>
    intro k hk ST hS
    refine pk_le 64 k (fun q => absurd q (by omega)) (fun _ => ?_)
    refine ⟨vp_in_nI (by omega) (by omega), fun g6 h6 => ?_⟩
    rw [nI_clamp (by omega)] at h6
    rw [nI_1]
    refine ih (k + 1) (by omega) g6 (fun j hj => ?_)
    rw [h6]
    by_cases z : j = k
    · rw [z, upd_same]
    · rw [upd_ne z]
      exact hS j (by omega)
theorem lst_of (hM : MB G ps mc o set (LK, LP, LT, LQ, NQ, TP, LA) LC Cl cs) (hn : ∀ c j, ¬ Flg ps cs c j) : ∃ L, Lst (EdC ps cs) L ∧ ∀ p, L p ≤ 64 := by
  obtain ⟨s, h1, h2⟩ := val_ex (EdC_bd hM) (fun a b he hp => by
    have he0 := he
    obtain ⟨c2, j, ls2, h, l, e1, e2, e3, e4, e5, e6, e7⟩ := he
    have hl1 : l.1 = 1 := by
      rcases e7 with e7 | e7
      · exact absurd e7.2 (by decide)
      · exact e7.1
    refine hn c2 j ⟨ls2, h, l, a, b, e1, e2, e3, e4, e5, e6, hl1, ?_⟩
    rcases hp with hp | hp
    · subst hp
      exact Pt_one ⟨1, he0⟩
    · exact hp)
  obtain ⟨L, hL⟩ := least_ex ⟨s, h1⟩
  exact ⟨L, hL, fun p => Nat.le_trans (hL.2 s h1 p) (h2 p)⟩
theorem sp_Mo_layStrata {post : (Int32 × Int32 × (Nat → Int32)) → Prop} {cl : Int32} {ST0 : Nat → Int32} (hset : set < 2) (hM : MB G ps mc o set (LK, LP, LT, LQ, NQ, TP, LA) LC Cl cs) (hn : ∀ c j, ¬ Flg ps cs c j)
    (h : ∀ L c ST hi, Lst (EdC ps cs) L → (∀ p, L p ≤ 64) → StA L ST → hi ≤ 64 → LyQ ps cs L hi → post (c, nI hi, ST)) : wp_met_Mo_layStrata post (nI set) cl Cl LC LK LP ST0 := by
  obtain ⟨L, hL, hL64⟩ := lst_of hM hn
  exact ⟨_, lay_0 hset hM hL64 hL (fun c ST hi => h L c ST hi hL hL64) 64 0 (by omega) ST0 (fun j hj => absurd hj (by omega))⟩
end Lay
