/-! pure: what the machine keeps -/
theorem TK_S (F : Nat → Int32) (n k : Nat) : ((TK F n k).1 = 2 → tkS (F (TK F n k).2.1) = true) ∧ ((TK F n k).1 = 3 → tkS (F (TK F n k).2.1) = false) := by
  unfold TK
  generalize tkSk F (n - k) k false = a
  by_cases q : a < n
  · rw [if_pos q]
    by_cases g1 : (tkW (F a) && !tkD (F a)) = true
    · rw [if_pos g1]
      show (tkK F a _ = 2 → tkS (F a) = true) ∧ (tkK F a _ = 3 → tkS (F a) = false)
      unfold tkK
      by_cases s : tkS (F a) = true
      · refine ⟨fun _ => s, fun z => ?_⟩
        rw [if_pos s] at z
        split at z <;> exact absurd z (by decide)
      · refine ⟨fun z => ?_, fun _ => by simpa using s⟩
        rw [if_neg s] at z
        exact absurd z (by decide)
    · rw [if_neg g1]
      by_cases g2 : (tkD (F a) || decide (F a = 45)) = true
      · rw [if_pos g2]
        by_cases z1 : decide ((tv F (n - ds F a) (ds F a) 0).2 ≤ ds F a) = true
        · rw [if_pos z1]
          exact ⟨fun z => absurd z (by simp), fun z => absurd z (by simp)⟩
        · rw [if_neg z1]
          by_cases z2 : (if decide (F a = 45) = true then 2147483648 else 2147483647) < (tv F (n - ds F a) (ds F a) 0).1
          · rw [if_pos z2]
            exact ⟨fun z => absurd z (by simp), fun z => absurd z (by simp)⟩
          · rw [if_neg z2]
            exact ⟨fun z => absurd z (by simp), fun z => absurd z (by simp)⟩
      · rw [if_neg g2]
        show ((sgk F n a).1 = 2 → _) ∧ ((sgk F n a).1 = 3 → _)
        rcases sgk_cases F n a with c | ⟨-, c⟩ | ⟨-, c⟩
        · rw [c]
          exact ⟨fun z => absurd z (by decide), fun z => absurd z (by decide)⟩
        · rcases c with c | c | c | c | c | c | c <;> rw [c] <;> exact ⟨fun z => absurd z (by decide), fun z => absurd z (by decide)⟩
        · rcases c with c | c | c | c <;> rw [c] <;> exact ⟨fun z => absurd z (by decide), fun z => absurd z (by decide)⟩
  · rw [if_neg q]
    exact ⟨fun z => absurd z (by simp), fun z => absurd z (by simp)⟩
theorem TK_sign (F : Nat → Int32) (n k : Nat) : (TK F n k).1 ≤ 16 := by
  rcases TK_kinds F n k with c | c | c | c | c | c | c | c | c | c | c | c | c | c | c | c | c <;> rw [c] <;> decide
theorem tkE_word (F : Nat → Int32) : ∀ d k j, k ≤ j → j < tkE F d k → tkW (F j) = true := by
  intro d
  induction d with
  | zero =>
    intro k j h1 h2
    unfold tkE at h2
    omega
  | succ d ih =>
    intro k j h1 h2
    unfold tkE at h2
    by_cases w : tkW (F k) = true
    · rw [if_pos w] at h2
      by_cases e : j = k
      · rw [e]
        exact w
      · exact ih (k + 1) j (by omega) h2
    · rw [if_neg w] at h2
      omega
theorem TK_word (F : Nat → Int32) (n k : Nat) (h : (TK F n k).1 = 2) : ∀ x ∈ sl F (TK F n k).2.1 ((TK F n k).2.2.1 - (TK F n k).2.1), tkW x = true := by
  revert h
  unfold TK
  generalize tkSk F (n - k) k false = a
  by_cases q : a < n
  · rw [if_pos q]
    by_cases g1 : (tkW (F a) && !tkD (F a)) = true
    · rw [if_pos g1]
      intro _ x hx
      obtain ⟨j, hj, e⟩ := sl_mem _ _ hx
      rw [e]
      exact tkE_word F (n - a) a (a + j) (by omega) (by show a + j < tkE F (n - a) a; replace hj : j < tkE F (n - a) a - a := hj; omega)
    · rw [if_neg g1]
      by_cases g2 : (tkD (F a) || decide (F a = 45)) = true
      · rw [if_pos g2]
        intro h
        exfalso
        revert h
        show (if decide ((tv F (n - ds F a) (ds F a) 0).2 ≤ ds F a) = true then (1 : Int32) else if (if decide (F a = 45) = true then 2147483648 else 2147483647) < (tv F (n - ds F a) (ds F a) 0).1 then 1 else 4) = 2 → False
        by_cases z1 : decide ((tv F (n - ds F a) (ds F a) 0).2 ≤ ds F a) = true
        · rw [if_pos z1]
          decide
        · rw [if_neg z1]
          by_cases z2 : (if decide (F a = 45) = true then 2147483648 else 2147483647) < (tv F (n - ds F a) (ds F a) 0).1
          · rw [if_pos z2]
            decide
          · rw [if_neg z2]
            decide
      · rw [if_neg g2]
        intro h
        exfalso
        replace h : (sgk F n a).1 = 2 := h
        rcases sgk_cases F n a with c | ⟨-, c⟩ | ⟨-, c⟩
        · rw [c] at h
          exact absurd h (by decide)
        · rcases c with c | c | c | c | c | c | c <;> rw [c] at h <;> exact absurd h (by decide)
        · rcases c with c | c | c | c <;> rw [c] at h <;> exact absurd h (by decide)
  · rw [if_neg q]
    intro h
    exact absurd h (by show ¬ (0 : Int32) = 2; decide)
/-- a constant as a text can have it -/
def wOk (c : Con) : Prop := (∀ x ∈ c.1, tkW x = true) ∧ (c.1 = [] ∨ c.2 = 0) ∧ -2147483648 ≤ c.2 ∧ c.2 < 2147483648
theorem wOk_name {w : Wd} (h : ∀ x ∈ w, tkW x = true) : wOk (w, 0) := ⟨h, Or.inr rfl, by show (-2147483648 : Int) ≤ 0; omega, by show (0 : Int) < 2147483648; omega⟩
theorem TK_wOk (F : Nat → Int32) (n k : Nat) (h : isT (TK F n k).1 = true) (h3 : ¬ (TK F n k).1 = 3) : wOk (if (TK F n k).1 = 4 then ([], (TK F n k).2.2.2) else (sl F (TK F n k).2.1 ((TK F n k).2.2.1 - (TK F n k).2.1), 0)) := by
  by_cases z : (TK F n k).1 = 4
  · rw [if_pos z]
    have := TK_num z
    exact ⟨fun x hx => (by cases hx), Or.inl rfl, this.1, this.2⟩
  · rw [if_neg z]
    rcases isT_or h with c | c | c
    · exact wOk_name (TK_word F n k c)
    · exact absurd c h3
    · exact absurd c z
def TmOk (md : Nat) (G : Nat → Int32) (cn : List Con) (t : Tm) : Prop := t.2 ≤ 65536 ∧ (∀ v, t.1 = .inl v → v < 12 ∧ tkS (G t.2) = false) ∧ (md = 0 → ∀ c, t.1 = .inr c → c ∈ cn) ∧ (∀ c, t.1 = .inr c → wOk c)
/-- an atom's name -/
def NmOk (md : Nat) (G : Nat → Int32) (ps : List Wd) (lt : Lt) : Prop := (lt.1 = 0 ∨ lt.1 = 1) ∧ tkS (G lt.2.2.1) = true ∧ (md = 0 → lt.2.1 ∈ ps) ∧ lt.2.2.1 ≤ 65536 ∧ lt.2.2.2.1 ≤ 65536
def LtOk (md : Nat) (G : Nat → Int32) (ps : List Wd) (cn : List Con) (lt : Lt) : Prop := (NmOk md G ps lt ∨ ((11 : Int32) ≤ lt.1 ∧ lt.1 ≤ 16 ∧ lt.2.2.2.2.length = 2)) ∧ lt.2.2.2.2.length ≤ 6 ∧ ∀ t ∈ lt.2.2.2.2, TmOk md G cn t
def ClOk (md : Nat) (G : Nat → Int32) (ps : List Wd) (cn : List Con) (ls : List Lt) : Prop := 1 ≤ ls.length ∧ ls.length ≤ 13 ∧ (∀ l ∈ ls, LtOk md G ps cn l) ∧ (md = 0 → ∀ l, ls[0]? = some l → l.1 = 0)
def lim (md : Nat) : Nat := 12 + (if md = 0 then 1 else 0)
theorem lim_le (md : Nat) : lim md ≤ 13 := by unfold lim; split <;> omega
/-- an open atom; an open comparison -/
def oA (md : Nat) (G : Nat → Int32) (D : Dt) : Prop := NmOk md G D.2.2.2.2.1 D.2.2.1 ∧ (md = 0 → D.2.1 = [] → D.2.2.1.1 = 0) ∧ D.2.2.1.2.2.2.2.length ≤ 6 ∧ (∀ t ∈ D.2.2.1.2.2.2.2, TmOk md G D.2.2.2.2.2 t) ∧ D.2.1.length < lim md
def oB (md : Nat) (G : Nat → Int32) (D : Dt) : Prop := ((11 : Int32) ≤ D.2.2.1.1 ∧ D.2.2.1.1 ≤ 16) ∧ D.2.2.1.2.2.2.2.length = 1 ∧ (∀ t ∈ D.2.2.1.2.2.2.2, TmOk md G D.2.2.2.2.2 t) ∧ (md = 0 → ¬ D.2.1 = []) ∧ D.2.1.length < lim md
def OI (md : Nat) (G : Nat → Int32) (c : Ct) (D : Dt) : Prop := if c.1 = 0 then D.2.1 = [] else if c.1 = 1 then ((D.2.2.1.1 = 0 ∨ D.2.2.1.1 = 1) ∧ (md = 0 → ¬ D.2.1 = []) ∧ D.2.1.length < lim md ∧ D.2.2.1.2.2.2.1 ≤ 65536) else if c.1 = 2 then oA md G D else if c.1 = 3 then oA md G D else if c.1 = 4 then oA md G D else if c.1 = 5 then ¬ D.2.1 = [] else if c.1 = 6 then (md = 0 → ¬ D.2.1 = []) else if c.1 = 7 then (tkS (G c.2.1) = true ∧ (md = 0 → ¬ D.2.1 = []) ∧ D.2.1.length < lim md ∧ ∀ x ∈ sl G c.2.1 (c.2.2 - c.2.1), tkW x = true) else if c.1 = 8 then oB md G D else if c.1 = 9 then oB md G D else if c.1 = 10 then ¬ D.2.1 = [] else True
def DI (md : Nat) (G : Nat → Int32) (D : Dt) : Prop := (∀ ls ∈ D.1, ClOk md G D.2.2.2.2.1 D.2.2.2.2.2 ls) ∧ (∀ l ∈ D.2.1, LtOk md G D.2.2.2.2.1 D.2.2.2.2.2 l) ∧ (md = 0 → ∀ l, D.2.1[0]? = some l → l.1 = 0) ∧ D.2.1.length ≤ lim md ∧ D.2.2.2.1.length ≤ 12 ∧ D.2.2.2.2.1.Nodup ∧ D.2.2.2.2.2.Nodup ∧ ∀ c ∈ D.2.2.2.2.2, wOk c
section Inv
variable {md n k : Nat} {F : Nat → Int32}
theorem TmOk_mono {cn cn2 : List Con} {t : Tm} (h : ∀ c ∈ cn, c ∈ cn2) (q : TmOk md F cn t) : TmOk md F cn2 t := ⟨q.1, q.2.1, fun z c hc => h c (q.2.2.1 z c hc), q.2.2.2⟩
theorem NmOk_mono {ps ps2 : List Wd} {lt : Lt} (h : ∀ c ∈ ps, c ∈ ps2) (q : NmOk md F ps lt) : NmOk md F ps2 lt := ⟨q.1, q.2.1, fun z => h _ (q.2.2.1 z), q.2.2.2⟩
theorem LtOk_mono {ps ps2 : List Wd} {cn cn2 : List Con} {lt : Lt} (hp : ∀ c ∈ ps, c ∈ ps2) (h : ∀ c ∈ cn, c ∈ cn2) (q : LtOk md F ps cn lt) : LtOk md F ps2 cn2 lt := by
  obtain ⟨q1, q2, q3⟩ := q
  refine ⟨?_, q2, fun t ht => TmOk_mono h (q3 t ht)⟩
  rcases q1 with q1 | q1
  · exact Or.inl (NmOk_mono hp q1)
  · exact Or.inr q1
theorem ClOk_mono {ps ps2 : List Wd} {cn cn2 : List Con} {ls : List Lt} (hp : ∀ c ∈ ps, c ∈ ps2) (h : ∀ c ∈ cn, c ∈ cn2) (q : ClOk md F ps cn ls) : ClOk md F ps2 cn2 ls := ⟨q.1, q.2.1, fun l hl => LtOk_mono hp h (q.2.2.1 l hl), q.2.2.2⟩
theorem DI_mono {D : Dt} {o2 : Lt} {vs2 : List (Option Wd)} {ps2 : List Wd} {cn2 : List Con} (hD : DI md F D) (hp : ∀ c ∈ D.2.2.2.2.1, c ∈ ps2) (h : ∀ c ∈ D.2.2.2.2.2, c ∈ cn2) (h1 : vs2.length ≤ 12) (h2 : ps2.Nodup) (h3 : cn2.Nodup) (h4 : ∀ c ∈ cn2, wOk c) : DI md F (D.1, D.2.1, o2, vs2, ps2, cn2) := by
  obtain ⟨d1, d2, d3, d4, d5, d6, d7, d8⟩ := hD
  exact ⟨fun ls hl => ClOk_mono hp h (d1 ls hl), fun l hl => LtOk_mono hp h (d2 l hl), d3, d4, h1, h2, h3, h4⟩
theorem nodup_push {α : Type} {l : List α} {x : α} (h : l.Nodup) (hx : x ∉ l) : (l ++ [x]).Nodup := by
  rw [List.nodup_append]
  refine ⟨h, by simp, fun a ha b hb e => ?_⟩
  rw [List.mem_singleton] at hb
  rw [e, hb] at ha
  exact hx ha
theorem mVar_inv {vs vs2 : List (Option Wd)} {w : Wd} {j : Nat} (hv : vs.length ≤ 12) (h : mVar vs w = some (j, vs2)) : j < 12 ∧ vs2.length ≤ 12 ∧ j < vs2.length ∧ Pre vs vs2 := by
  unfold mVar at h
  split at h
  · rename_i j2 hj
    simp only [Option.some.injEq, Prod.mk.injEq] at h
    obtain ⟨rfl, rfl⟩ := h
    by_cases z : w = [95]
    · rw [if_pos z] at hj
      cases hj
    · rw [if_neg z] at hj
      obtain ⟨q, -⟩ := List.findIdx?_eq_some_iff_getElem.mp hj
      exact ⟨by omega, hv, q, Pre_refl⟩
  · split at h
    · cases h
    · rename_i q
      simp only [Option.some.injEq, Prod.mk.injEq] at h
      obtain ⟨rfl, rfl⟩ := h
      exact ⟨by omega, by simp; omega, by simp, Pre_app⟩
theorem mTerm_inv {D D2 : Dt} {kd : Int32} {a b : Nat} {v : Int} (hd : DI md F D) (ha : a ≤ 65536) (hs : kd = 3 → tkS (F a) = false) (hw : ¬ kd = 3 → wOk (if kd = 4 then ([], v) else (sl F a (b - a), 0))) (h : mTerm md F D kd a b v = some D2) : ∃ t vs2 cn2, D2 = (D.1, D.2.1, pushT D.2.2.1 (t, a), vs2, D.2.2.2.2.1, cn2) ∧ TmOk md F cn2 (t, a) ∧ (∀ c ∈ D.2.2.2.2.2, c ∈ cn2) ∧ vs2.length ≤ 12 ∧ cn2.Nodup ∧ ∀ c ∈ cn2, wOk c := by
  obtain ⟨d1, d2, d3, d4, d5, d6, d7, d8⟩ := hd
  unfold mTerm at h
  by_cases z : kd = 3
  · rw [if_pos z] at h
    split at h
    · rename_i j vs2 hv
      simp only [Option.some.injEq] at h
      obtain ⟨q1, q2, -, -⟩ := mVar_inv d5 hv
      refine ⟨.inl j, vs2, D.2.2.2.2.2, h.symm, ⟨ha, fun v hv => ?_, fun _ c hc => (by cases hc), fun c hc => by cases hc⟩, fun _ hc => hc, q2, d7, d8⟩
      cases hv
      exact ⟨q1, hs z⟩
    · cases h
  · rw [if_neg z] at h
    have hw := hw z
    generalize (if kd = 4 then (([], v) : Con) else (sl F a (b - a), 0)) = cx at h hw
    split at h
    · rename_i cn2 hc
      simp only [Option.some.injEq] at h
      have hk : (∀ c ∈ D.2.2.2.2.2, c ∈ cn2) ∧ cn2.Nodup ∧ (md = 0 → cx ∈ cn2) ∧ ∀ c ∈ cn2, wOk c := by
        unfold mCon at hc
        split at hc
        · split at hc
          · rename_i hm
            obtain rfl := Option.some.inj hc
            exact ⟨fun _ q => q, d7, fun _ => hm, d8⟩
          · split at hc
            · cases hc
            · rename_i hm _
              obtain rfl := Option.some.inj hc
              exact ⟨fun _ q => List.mem_append_left _ q, nodup_push d7 hm, fun _ => by simp, fun c q => by
                rcases List.mem_append.mp q with q | q
                · exact d8 c q
                · rw [List.mem_singleton] at q
                  rw [q]
                  exact hw⟩
        · rename_i hm
          obtain rfl := Option.some.inj hc
          exact ⟨fun _ q => q, d7, fun w => absurd w hm, d8⟩
      refine ⟨_, _, cn2, h.symm, ⟨ha, fun v hv => (by cases hv), fun w c hc => ?_, fun c hc => ?_⟩, hk.1, d5, hk.2.1, hk.2.2.2⟩
      · cases hc
        exact hk.2.2.1 w
      · cases hc
        exact hw
    · cases h
theorem name_inv {D D2 : Dt} {kind : Int32} {np a b k3 k2 : Nat} {c2 : Ct} (hd : DI md F D) (ha : a ≤ 65536) (hnp : np ≤ 65536) (hs : tkS (F a) = true) (hkd : kind = 0 ∨ kind = 1) (hh : md = 0 → D.2.1 = [] → kind = 0) (hl : D.2.1.length < lim md) (h : mName md F D kind np a b k3 = .inr (some (c2, D2, k2))) : DI md F D2 ∧ OI md F c2 D2 := by
  unfold mName at h
  split at h
  · rename_i ps2 hp
    simp only [Sum.inr.injEq, Option.some.injEq, Prod.mk.injEq] at h
    obtain ⟨h1, h2, -⟩ := h
    have hd0 := hd
    obtain ⟨d1, d2, d3, d4, d5, d6, d7, d8⟩ := hd0
    have hk : (∀ c ∈ D.2.2.2.2.1, c ∈ ps2) ∧ ps2.Nodup ∧ (md = 0 → sl F a (b - a) ∈ ps2) := by
      unfold mPred at hp
      split at hp
      · split at hp
        · rename_i hm
          obtain rfl := Option.some.inj hp
          exact ⟨fun _ q => q, d6, fun _ => hm⟩
        · split at hp
          · cases hp
          · rename_i hm _
            obtain rfl := Option.some.inj hp
            exact ⟨fun _ q => List.mem_append_left _ q, nodup_push d6 hm, fun _ => by simp⟩
      · rename_i hm
        obtain rfl := Option.some.inj hp
        exact ⟨fun _ q => q, d6, fun w => absurd w hm⟩
    subst h2
    refine ⟨DI_mono hd hk.1 (fun _ q => q) d5 hk.2.1 d7 d8, ?_⟩
    subst h1
    by_cases z : md = 3
    · rw [if_pos z]
      trivial
    · rw [if_neg z]
      exact ⟨⟨hkd, hs, hk.2.2, ha, hnp⟩, hh, by show 0 ≤ 6; omega, fun t ht => (by cases ht), hl⟩
  · cases h
theorem push_inv {D : Dt} {o : Lt} (hd : DI md F D) (hl : LtOk md F D.2.2.2.2.1 D.2.2.2.2.2 o) (hh : md = 0 → D.2.1 = [] → o.1 = 0) (hn : D.2.1.length < lim md) : DI md F (D.1, D.2.1 ++ [o], D.2.2) := by
  obtain ⟨d1, d2, d3, d4, d5, d6, d7, d8⟩ := hd
  refine ⟨d1, fun l h => ?_, fun z l h => ?_, ?_, d5, d6, d7, d8⟩
  · rcases List.mem_append.mp h with h | h
    · exact d2 l h
    · rw [List.mem_singleton] at h
      rw [h]
      exact hl
  · replace h : (D.2.1 ++ [o])[0]? = some l := h
    cases hc : D.2.1 with
    | nil =>
      rw [hc] at h
      obtain rfl : o = l := by simpa using h
      exact hh z hc
    | cons x xs =>
      rw [hc] at h
      exact d3 z l (by rw [hc]; simpa using h)
  · show (D.2.1 ++ [o]).length ≤ lim md
    rw [List.length_append, List.length_singleton]
    omega
theorem shut_inv {D D2 : Dt} {k3 k2 : Nat} {c2 : Ct} (hd : DI md F D) (ho : oA md F D) (h : mShut md D k3 = .inr (some (c2, D2, k2))) : DI md F D2 ∧ OI md F c2 D2 := by
  unfold mShut at h
  simp only [Sum.inr.injEq, Option.some.injEq, Prod.mk.injEq] at h
  obtain ⟨h1, h2, -⟩ := h
  obtain ⟨o1, o2, o3, o4, o5⟩ := ho
  subst h2
  refine ⟨push_inv hd ⟨Or.inl o1, o3, o4⟩ o2 o5, ?_⟩
  subst h1
  have hne : ¬ D.2.1 ++ [D.2.2.1] = [] := by simp
  by_cases z : md = 2
  · rw [if_pos z]
    trivial
  · rw [if_neg z]
    split
    · exact hne
    · exact hne
theorem dot_inv {D D2 : Dt} {k3 k2 : Nat} {c2 : Ct} (hd : DI md F D) (ho : ¬ D.2.1 = []) (h : mDot D k3 = .inr (some (c2, D2, k2))) : DI md F D2 ∧ OI md F c2 D2 := by
  unfold mDot at h
  simp only [Sum.inr.injEq, Option.some.injEq, Prod.mk.injEq] at h
  obtain ⟨h1, h2, -⟩ := h
  obtain ⟨d1, d2, d3, d4, d5, d6, d7, d8⟩ := hd
  have := lim_le md
  subst h1 h2
  refine ⟨⟨fun ls hl => ?_, fun l hl => (by cases hl), fun _ l hl => (by cases hl), Nat.zero_le _, d5, d6, d7, d8⟩, rfl⟩
  rcases List.mem_append.mp hl with hl | hl
  · exact d1 ls hl
  · rw [List.mem_singleton] at hl
    rw [hl]
    refine ⟨?_, by omega, d2, d3⟩
    cases hc : D.2.1 with
    | nil => exact absurd hc ho
    | cons x xs => simp
theorem mStep_inv {c c2 : Ct} {D D2 : Dt} {k2 : Nat} (hn : n ≤ 65536) (hp : POk n c k) (hd : DI md F D) (ho : OI md F c D) (h : mStep md F n c D k = .inr (some (c2, D2, k2))) : DI md F D2 ∧ OI md F c2 D2 := by
  obtain ⟨s2, s3⟩ := TK_S F n k
  have s16 := TK_sign F n k
  have hpos := TK_pos F n k hp.1
  have hta : (TK F n k).2.1 ≤ 65536 := by omega
  have hd0 := hd
  obtain ⟨d1, d2, d3, d4, d5, d6, d7, d8⟩ := hd0
  unfold mStep at h
  simp only at h
  by_cases e2 : c.1 = 2
  · have ho2 : oA md F D := by
      unfold OI at ho
      rw [e2] at ho
      exact ho
    rw [if_pos e2] at h
    split at h
    · simp only [Sum.inr.injEq, Option.some.injEq, Prod.mk.injEq] at h
      obtain ⟨h1, h2, -⟩ := h
      subst h1 h2
      exact ⟨hd, ho2⟩
    · exact shut_inv hd ho2 h
  rw [if_neg e2] at h
  by_cases e7 : c.1 = 7
  · obtain ⟨o1, o2, o3, o4⟩ : tkS (F c.2.1) = true ∧ (md = 0 → ¬ D.2.1 = []) ∧ D.2.1.length < lim md ∧ ∀ x ∈ sl F c.2.1 (c.2.2 - c.2.1), tkW x = true := by
      unfold OI at ho
      rw [e7] at ho
      exact ho
    have hca : c.2.1 ≤ 65536 := by
      have := hp.2 e7
      have := hp.1
      omega
    rw [if_pos e7] at h
    split at h
    · split at h
      · rename_i D3 hm
        simp only [Sum.inr.injEq, Option.some.injEq, Prod.mk.injEq] at h
        obtain ⟨h1, h2, -⟩ := h
        obtain ⟨t, vs2, cn2, hD3, q1, q2, q3, q4, q5⟩ := mTerm_inv (kd := 2) (a := c.2.1) (b := c.2.2) (v := 0) (DI_mono hd (fun _ q => q) (fun _ q => q) d5 d6 d7 d8) hca (fun z => absurd z (by decide)) (fun _ => by rw [if_neg (by decide)]; exact wOk_name o4) hm
        subst h1 h2
        rw [hD3]
        refine ⟨DI_mono hd (fun _ q => q) q2 q3 d6 q4 q5, ⟨⟨(show (11 : Int32) ≤ 11 by decide), (show (11 : Int32) ≤ 16 by decide)⟩, rfl, fun t2 ht => ?_, o2, o3⟩⟩
        obtain rfl : t2 = (t, c.2.1) := by simpa [pushT] using ht
        exact q1
      · cases h
    · exact name_inv hd hca (by omega) o1 (Or.inl rfl) (fun _ _ => rfl) o3 h
  rw [if_neg e7] at h
  by_cases kb : (TK F n k).1 = 1
  · rw [if_pos kb] at h
    cases h
  rw [if_neg kb] at h
  by_cases e0 : c.1 = 0
  · have ho2 : D.2.1 = [] := by
      unfold OI at ho
      rw [e0] at ho
      exact ho
    rw [if_pos e0] at h
    split at h
    · cases h
    · split at h
      · cases h
      · rename_i k2e
        split at h
        · cases h
        · refine name_inv (D := (D.1, [], D.2.2.1, [], D.2.2.2.2)) ⟨d1, fun l hl => (by cases hl), fun _ l hl => (by cases hl), Nat.zero_le _, Nat.zero_le _, d6, d7, d8⟩ hta (by omega) (s2 (by simpa using k2e)) (Or.inl rfl) (fun _ _ => rfl) ?_ h
          show 0 < lim md
          unfold lim
          omega
  rw [if_neg e0] at h
  by_cases e1 : c.1 = 1
  · obtain ⟨o1, o2, o3, o4⟩ : (D.2.2.1.1 = 0 ∨ D.2.2.1.1 = 1) ∧ (md = 0 → ¬ D.2.1 = []) ∧ D.2.1.length < lim md ∧ D.2.2.1.2.2.2.1 ≤ 65536 := by
      unfold OI at ho
      rw [e1] at ho
      exact ho
    rw [if_pos e1] at h
    split at h
    · cases h
    · rename_i k2e
      exact name_inv hd hta o4 (s2 (by simpa using k2e)) o1 (fun z w => absurd w (o2 z)) o3 h
  rw [if_neg e1] at h
  by_cases e3 : c.1 = 3
  · have ho2 : oA md F D := by
      unfold OI at ho
      rw [e3] at ho
      exact ho
    obtain ⟨o1, o2, o3, o4, o5⟩ := ho2
    rw [if_pos e3] at h
    split at h
    · cases h
    · rename_i hnt
      have hit : isT (TK F n k).1 = true := (Classical.not_not.mp hnt).1
      split at h
      · cases h
      · rename_i hl6
        split at h
        · rename_i D3 hm
          simp only [Sum.inr.injEq, Option.some.injEq, Prod.mk.injEq] at h
          obtain ⟨h1, h2, -⟩ := h
          obtain ⟨t, vs2, cn2, hD3, q1, q2, q3, q4, q5⟩ := mTerm_inv hd hta s3 (fun z => TK_wOk F n k hit z) hm
          subst h1 h2
          rw [hD3]
          refine ⟨DI_mono hd (fun _ q => q) q2 q3 d6 q4 q5, ⟨o1, o2, ?_, fun t2 ht => ?_, o5⟩⟩
          · show (D.2.2.1.2.2.2.2 ++ [(t, (TK F n k).2.1)]).length ≤ 6
            rw [List.length_append, List.length_singleton]
            omega
          · rcases List.mem_append.mp ht with ht | ht
            · exact TmOk_mono q2 (o4 t2 ht)
            · rw [List.mem_singleton] at ht
              rw [ht]
              exact q1
        · cases h
  rw [if_neg e3] at h
  by_cases e4 : c.1 = 4
  · have ho2 : oA md F D := by
      unfold OI at ho
      rw [e4] at ho
      exact ho
    rw [if_pos e4] at h
    split at h
    · simp only [Sum.inr.injEq, Option.some.injEq, Prod.mk.injEq] at h
      obtain ⟨h1, h2, -⟩ := h
      subst h1 h2
      exact ⟨hd, ho2⟩
    · split at h
      · exact shut_inv hd ho2 h
      · cases h
  rw [if_neg e4] at h
  by_cases e5 : c.1 = 5
  · have ho2 : ¬ D.2.1 = [] := by
      unfold OI at ho
      rw [e5] at ho
      exact ho
    rw [if_pos e5] at h
    split at h
    · exact dot_inv hd ho2 h
    · split at h
      · simp only [Sum.inr.injEq, Option.some.injEq, Prod.mk.injEq] at h
        obtain ⟨h1, h2, -⟩ := h
        subst h1 h2
        exact ⟨hd, fun _ => ho2⟩
      · cases h
  rw [if_neg e5] at h
  by_cases e6 : c.1 = 6
  · have ho2 : md = 0 → ¬ D.2.1 = [] := by
      unfold OI at ho
      rw [e6] at ho
      exact ho
    rw [if_pos e6] at h
    by_cases hnt : ¬ (isT (TK F n k).1 = true ∨ (TK F n k).1 = 5)
    · rw [if_pos hnt] at h
      cases h
    · rw [if_neg hnt] at h
      by_cases hl : D.2.1.length = 12 + (if md = 0 then 1 else 0)
      · rw [if_pos hl] at h
        cases h
      · rw [if_neg hl] at h
        have hl2 : D.2.1.length < lim md := by
          have : ¬ D.2.1.length = lim md := hl
          omega
        split at h
        · rename_i k2e
          simp only [Sum.inr.injEq, Option.some.injEq, Prod.mk.injEq] at h
          obtain ⟨h1, h2, -⟩ := h
          subst h1 h2
          exact ⟨hd, s2 k2e, ho2, hl2, TK_word F n k k2e⟩
        · split at h
          · simp only [Sum.inr.injEq, Option.some.injEq, Prod.mk.injEq] at h
            obtain ⟨h1, h2, -⟩ := h
            subst h1 h2
            exact ⟨DI_mono hd (fun _ q => q) (fun _ q => q) d5 d6 d7 d8, Or.inr rfl, ho2, hl2, hta⟩
          · rename_i k5
            have hit : isT (TK F n k).1 = true := (Classical.not_not.mp hnt).resolve_right k5
            split at h
            · rename_i D3 hm
              simp only [Sum.inr.injEq, Option.some.injEq, Prod.mk.injEq] at h
              obtain ⟨h1, h2, -⟩ := h
              obtain ⟨t, vs2, cn2, hD3, q1, q2, q3, q4, q5⟩ := mTerm_inv (DI_mono hd (fun _ q => q) (fun _ q => q) d5 d6 d7 d8) hta s3 (fun z => TK_wOk F n k hit z) hm
              subst h1 h2
              rw [hD3]
              refine ⟨DI_mono hd (fun _ q => q) q2 q3 d6 q4 q5, ⟨⟨(show (11 : Int32) ≤ 11 by decide), (show (11 : Int32) ≤ 16 by decide)⟩, rfl, fun t2 ht => ?_, ho2, hl2⟩⟩
              obtain rfl : t2 = (t, (TK F n k).2.1) := by simpa [pushT] using ht
              exact q1
            · cases h
  rw [if_neg e6] at h
  by_cases e8 : c.1 = 8
  · have ho2 : oB md F D := by
      unfold OI at ho
      rw [e8] at ho
      exact ho
    obtain ⟨o1, o2, o3, o4, o5⟩ := ho2
    rw [if_pos e8] at h
    split at h
    · rename_i k11
      simp only [Sum.inr.injEq, Option.some.injEq, Prod.mk.injEq] at h
      obtain ⟨h1, h2, -⟩ := h
      subst h1 h2
      exact ⟨DI_mono hd (fun _ q => q) (fun _ q => q) d5 d6 d7 d8, ⟨k11, s16⟩, o2, o3, o4, o5⟩
    · cases h
  rw [if_neg e8] at h
  by_cases e9 : c.1 = 9
  · have ho2 : oB md F D := by
      unfold OI at ho
      rw [e9] at ho
      exact ho
    obtain ⟨o1, o2, o3, o4, o5⟩ := ho2
    rw [if_pos e9] at h
    split at h
    · cases h
    · rename_i hnt
      have hit : isT (TK F n k).1 = true := Classical.not_not.mp hnt
      split at h
      · rename_i D3 hm
        simp only [Sum.inr.injEq, Option.some.injEq, Prod.mk.injEq] at h
        obtain ⟨h1, h2, -⟩ := h
        obtain ⟨t, vs2, cn2, hD3, q1, q2, q3, q4, q5⟩ := mTerm_inv hd hta s3 (fun z => TK_wOk F n k hit z) hm
        subst h1 h2
        rw [hD3]
        have hlen : (D.2.2.1.2.2.2.2 ++ [(t, (TK F n k).2.1)]).length = 2 := by
          rw [List.length_append, List.length_singleton, o2]
        refine ⟨push_inv (D := (D.1, D.2.1, pushT D.2.2.1 (t, (TK F n k).2.1), vs2, D.2.2.2.2.1, cn2)) (DI_mono hd (fun _ q => q) q2 q3 d6 q4 q5) ⟨Or.inr ⟨o1.1, o1.2, hlen⟩, ?_, fun t2 ht => ?_⟩ (fun z w => absurd w (o4 z)) o5, ?_⟩
        · show (D.2.2.1.2.2.2.2 ++ [(t, (TK F n k).2.1)]).length ≤ 6
          omega
        · rcases List.mem_append.mp ht with ht | ht
          · exact TmOk_mono q2 (o3 t2 ht)
          · rw [List.mem_singleton] at ht
            rw [ht]
            exact q1
        · show ¬ D.2.1 ++ [_] = []
          simp
      · cases h
  rw [if_neg e9] at h
  by_cases e10 : c.1 = 10
  · have ho2 : ¬ D.2.1 = [] := by
      unfold OI at ho
      rw [e10] at ho
      exact ho
    rw [if_pos e10] at h
    split at h
    · simp only [Sum.inr.injEq, Option.some.injEq, Prod.mk.injEq] at h
      obtain ⟨h1, h2, -⟩ := h
      subst h1 h2
      exact ⟨hd, fun _ => ho2⟩
    · split at h
      · exact dot_inv hd ho2 h
      · split at h
        · cases h
        · cases h
  rw [if_neg e10] at h
  split at h
  · cases h
  · cases h
theorem mRun_inv (hn : n ≤ 65536) : ∀ (f : Nat) (c : Ct) (D : Dt) (k : Nat) (D2 : Dt), POk n c k → DI md F D → OI md F c D → mRun md F n f c D k = some (.inr D2) → DI md F D2 := by
  intro f
  induction f with
  | zero =>
    intro c D k D2 hp hd ho h
    unfold mRun at h
    cases h
  | succ f ih =>
    intro c D k D2 hp hd ho h
    unfold mRun at h
    cases hs : mStep md F n c D k with
    | inl e =>
      rw [hs] at h
      cases h
    | inr x =>
      rw [hs] at h
      cases x with
      | none =>
        simp only [Option.some.injEq, Sum.inr.injEq] at h
        rw [← h]
        exact hd
      | some y =>
        obtain ⟨c2, D3, k2⟩ := y
        obtain ⟨h1, h2⟩ := mStep_inv hn hp hd ho hs
        exact ih c2 D3 k2 D2 (mStep_pok hp hs) h1 h2 h
theorem Ends_inv {c : Ct} {D D2 : Dt} (hn : n ≤ 65536) (hp : POk n c k) (hd : DI md F D) (ho : OI md F c D) (h : Ends md F n c D k (.inr D2)) : DI md F D2 := by
  obtain ⟨f, hf⟩ := h
  exact mRun_inv hn f c D k D2 hp hd ho hf
end Inv
