/-! pure: what follows, stratum by stratum and stage by stage -/
def bodyH (ps : List Wd) (X : Fct → Prop) (v : Nat → Con) (ls : List Lt) : Prop := ∀ (j : Nat) (l : Lt), ls[j]? = some l → 1 ≤ j → lHo ps X v l
/-- heads of stratum s, out of the clauses before C that have a body (b) or none -/
def Drv (ps : List Wd) (cs : List (List Lt)) (st : Nat → Nat) (s : Nat) (b : Bool) (X : Fct → Prop) (C : Nat) (x : Fct) : Prop := ∃ (c : Nat) (ls : List Lt) (hd : Lt) (v : Nat → Con), c < C ∧ cs[c]? = some ls ∧ ls[0]? = some hd ∧ (ls.length = 1 ↔ b = false) ∧ ps[x.1]? = some hd.2.1 ∧ st x.1 = s ∧ bodyH ps X v ls ∧ x.2 = targs v hd
/-- the facts at stage k of stratum s; B: those of the lower ones -/
def SgS (ps : List Wd) (cs : List (List Lt)) (st : Nat → Nat) (B : Fct → Prop) (s : Nat) : Nat → Fct → Prop
  | 0 => fun x => B x ∨ Drv ps cs st s false B cs.length x
  | k + 1 => fun x => SgS ps cs st B s k x ∨ Drv ps cs st s true (SgS ps cs st B s k) cs.length x
/-- the facts of the strata below s -/
def Low (ps : List Wd) (cs : List (List Lt)) (st : Nat → Nat) : Nat → Fct → Prop
  | 0 => fun _ => False
  | s + 1 => fun x => ∃ k, SgS ps cs st (Low ps cs st s) s k x
/-- stage k of a fact -/
def StgR (ps : List Wd) (cs : List (List Lt)) (st : Nat → Nat) (x : Fct) (k : Nat) : Prop := SgS ps cs st (Low ps cs st (st x.1)) (st x.1) k x ∧ ∀ j, j < k → ¬ SgS ps cs st (Low ps cs st (st x.1)) (st x.1) j x
/-- more than 20000 facts -/
def Ovf (ps : List Wd) (cs : List (List Lt)) (st : Nat → Nat) (S : Nat) : Prop := ∃ (s k : Nat) (l : List Fct), s < S ∧ l.Nodup ∧ (∀ x ∈ l, SgS ps cs st (Low ps cs st s) s k x) ∧ 20000 < l.length
section Follow
variable {ps : List Wd} {cs : List (List Lt)} {st : Nat → Nat} {B : Fct → Prop} {s : Nat}
theorem SgS_up {k : Nat} {x : Fct} : ∀ j, SgS ps cs st B s k x → SgS ps cs st B s (k + j) x := by
  intro j
  induction j with
  | zero => exact fun h => h
  | succ j ih => exact fun h => Or.inl (ih h)
theorem SgS_le {k j : Nat} {x : Fct} (hk : k ≤ j) (h : SgS ps cs st B s k x) : SgS ps cs st B s j x := by
  obtain ⟨d, rfl⟩ : ∃ d, j = k + d := ⟨j - k, by omega⟩
  exact SgS_up d h
theorem SgS_B {k : Nat} {x : Fct} (h : B x) : SgS ps cs st B s k x := SgS_le (Nat.zero_le k) (Or.inl h)
theorem SgS_stop {k : Nat} (h : ∀ x, SgS ps cs st B s (k + 1) x → SgS ps cs st B s k x) : ∀ j x, SgS ps cs st B s (k + j) x → SgS ps cs st B s k x := by
  intro j
  induction j with
  | zero => exact fun x q => q
  | succ j ih =>
    intro x q
    have e : SgS ps cs st B s (k + j) = SgS ps cs st B s k := funext (fun y => propext ⟨ih y, SgS_up j⟩)
    rcases q with q | q
    · exact ih x q
    · replace q : Drv ps cs st s true (SgS ps cs st B s (k + j)) cs.length x := q
      rw [e] at q
      exact h x (Or.inr q)
theorem SgS_st {k : Nat} {x : Fct} (hB : ∀ y, B y → st y.1 < s) : SgS ps cs st B s k x → (B x ∧ st x.1 < s) ∨ st x.1 = s := by
  induction k with
  | zero =>
    rintro (h | ⟨_, _, _, _, -, -, -, -, -, h, -⟩)
    · exact Or.inl ⟨h, hB x h⟩
    · exact Or.inr h
  | succ k ih =>
    rintro (h | ⟨_, _, _, _, -, -, -, -, -, h, -⟩)
    · exact ih h
    · exact Or.inr h
theorem Low_st : ∀ (s : Nat) (x : Fct), Low ps cs st s x → st x.1 < s := by
  intro s
  induction s with
  | zero => exact fun x h => absurd h (fun w => w)
  | succ s ih =>
    rintro x ⟨k, h⟩
    rcases SgS_st ih h with h | h <;> omega
theorem Low_up {s : Nat} {x : Fct} (h : Low ps cs st s x) : Low ps cs st (s + 1) x := ⟨0, Or.inl h⟩
theorem Low_le {s t : Nat} {x : Fct} (hs : s ≤ t) (h : Low ps cs st s x) : Low ps cs st t x := by
  obtain ⟨d, rfl⟩ : ∃ d, t = s + d := ⟨t - s, by omega⟩
  clear hs
  induction d with
  | zero => exact h
  | succ d ih => exact Low_up ih
theorem Low_lt {s t : Nat} {x : Fct} (hs : st x.1 < s) (h : Low ps cs st t x) : Low ps cs st s x := by
  induction t with
  | zero => exact absurd h (fun w => w)
  | succ t ih =>
    by_cases g : t < s
    · exact Low_le g h
    · obtain ⟨k, h⟩ := h
      rcases SgS_st (Low_st t) h with h | h
      · exact ih h.1
      · omega
theorem StgR_one {x : Fct} {k j : Nat} (h1 : StgR ps cs st x k) (h2 : StgR ps cs st x j) : k = j := by
  rcases Nat.lt_trichotomy k j with g | g | g
  · exact absurd h1.1 (h2.2 k g)
  · exact g
  · exact absurd h2.1 (h1.2 j g)
/-- no more than 20000, if a list has them all -/
theorem no_ovf {S : Nat} {fs : List Fct} (h : ∀ x, Low ps cs st S x → x ∈ fs) (hl : fs.length ≤ 20000) : ¬ Ovf ps cs st S := by
  rintro ⟨s, k, l, hs, hn, hm, hlen⟩
  have hsub : l ⊆ fs := fun x hx => h x (Low_le (show s + 1 ≤ S by omega) ⟨k, hm x hx⟩)
  have := List.Nodup.length_le_of_subset hn hsub
  omega
end Follow
/-- a program that was read: its predicates, clauses, strata, sizes -/
def PgOk (ps : List Wd) (cs : List (List Lt)) (st ar : Nat → Nat) : Prop := ps.Nodup ∧ ps.length ≤ 64 ∧ cs.length ≤ 256 ∧ (∀ p, st p ≤ 64) ∧ ∀ (c : Nat) (ls : List Lt), cs[c]? = some ls → ls.length ≤ 13 ∧ (∀ l ∈ ls, l.2.2.2.2.length ≤ 6 ∧ kdOk l.1 ∧ (¬ (l.1 = 0 ∨ l.1 = 1) → l.2.2.2.2.length = 2)) ∧ (∀ l ∈ ls, ∀ t ∈ l.2.2.2.2, ∀ v, t.1 = Sum.inl v → v < 12 ∧ bnd 0 ls v) ∧ ∃ (hd : Lt) (hp : Nat), ls[0]? = some hd ∧ hd.1 = 0 ∧ ps[hp]? = some hd.2.1 ∧ ∀ l ∈ ls, (l.1 = 0 ∨ l.1 = 1) → ∃ p : Nat, ps[p]? = some l.2.1 ∧ l.2.2.2.2.length = ar p ∧ st p ≤ st hp ∧ (l.1 = 1 → st p < st hp)
/-- facts beside the program's sizes -/
theorem Drv_ar {ps : List Wd} {cs : List (List Lt)} {st ar : Nat → Nat} {s C : Nat} {b : Bool} {X : Fct → Prop} {x : Fct} (h : PgOk ps cs st ar) (hx : Drv ps cs st s b X C x) : x.1 < 64 ∧ x.2.length = ar x.1 ∧ x.2.length ≤ 6 := by
  obtain ⟨c, ls, hd, v, -, hc, h0, -, hp, -, -, e⟩ := hx
  obtain ⟨h1, h2, h3, h4, h5⟩ := h
  obtain ⟨-, q2, -, hd2, hp2, q4, q5, -, q6⟩ := h5 c ls hc
  rw [h0] at q4
  obtain rfl := Option.some.inj q4
  have hm := List.mem_of_getElem? h0
  obtain ⟨p, p1, p2, -⟩ := q6 hd hm (Or.inl q5)
  have hl := (List.getElem?_eq_some_iff.mp hp).1
  have e2 : x.2.length = hd.2.2.2.2.length := by rw [e]; simp [targs]
  have := (q2 hd hm).1
  rw [nodup_inj h1 p1 hp] at p2
  exact ⟨by omega, by omega, by omega⟩
theorem bnd_one {l : Lt} {v : Nat} (h : bnd 0 [l] v) : False := by
  obtain ⟨j, l2, h1, h2, -⟩ := h
  have := (List.getElem?_eq_some_iff.mp h1).1
  have e : sf 0 = 0 := rfl
  rw [List.length_singleton] at this
  omega
section MFollow
variable {mc : List Con} {ps : List Wd} {cs : List (List Lt)} {st ar : Nat → Nat} {F CN CV CF PA LC LK LP LT Cl ST NCo NC : Nat → Int32} {live : Nat} {nw nr : Int32}
/-- a program as the model holds it, ready for a run -/
def MPg (ps : List Wd) (cs : List (List Lt)) (st ar : Nat → Nat) (mc : List Con) (live : Nat) (F CN CV CF PA LC LK LP LT Cl ST : Nat → Int32) : Prop := live < 2 ∧ mc.Nodup ∧ mc.length ≤ 1100 ∧ (∀ c ∈ mc, wOk c) ∧ MCo false mc (1100 * live) CN CV CF F ∧ Cl live = nI cs.length ∧ (∀ p, p < 64 → ST p = nI (st p)) ∧ (∀ p, p < ps.length → PA (65 * live + p) = nI (ar p)) ∧ ∀ (c : Nat) (ls : List Lt), cs[c]? = some ls → CLp 0 ps mc live c LC LK LP LT ls
/-- the facts as the model holds them -/
def MS (mc : List Con) (live : Nat) (PA : Nat → Int32) (fs : List Fct) (FP FT Tb : Nat → Int32) : Prop := MFa mc fs FP FT Tb ∧ (∀ x ∈ fs, PA (65 * live + x.1) = nI x.2.length) ∧ fs.Nodup
theorem MS_20 {fs : List Fct} {FP FT Tb : Nat → Int32} (h : MS mc live PA fs FP FT Tb) : fs.length ≤ 20000 := by
  have := h.1.1.1
  rw [List.length_map] at this
  exact this
theorem Bd_body {fs fsL : List Fct} {ls : List Lt} {s : Nat} {v : Nat → Con} (hP : Pre fsL fs) (hx : ∀ x ∈ fs, x ∈ fsL ∨ st x.1 = s) (hN : ∀ l ∈ ls, l.1 = 1 → ∀ p : Nat, ps[p]? = some l.2.1 → st p < s) : Bd ps 0 ls fs fsL.length v ↔ bodyH ps (fun x => x ∈ fsL) v ls := by
  have pos : ∀ l : Lt, l.1 = 0 → (AtS ps fs fsL.length v l ↔ lHo ps (fun x => x ∈ fsL) v l) := by
    intro l h0
    constructor
    · rintro ⟨f, y, h1, h2, h3, h4⟩
      rw [Pre_eq hP h1] at h2
      refine Or.inl ⟨h0, y.1, h3, ?_⟩
      rw [h4]
      exact List.mem_of_getElem? h2
    · rintro (⟨-, p, h1, h2⟩ | ⟨h1, -⟩ | ⟨h1, -⟩)
      · obtain ⟨i, hi, e⟩ := List.mem_iff_getElem.mp h2
        exact ⟨i, _, hi, hP i _ (by rw [List.getElem?_eq_getElem hi, e]), h1, rfl⟩
      · rw [h0] at h1
        exact absurd h1 (by decide)
      · exact absurd h0 h1
  have neg : ∀ l ∈ ls, ¬ l.1 = 0 → (lHo ps (fun x => x ∈ fs) v l ↔ lHo ps (fun x => x ∈ fsL) v l) := by
    intro l hl h0
    have key : l.1 = 1 → ∀ p : Nat, ps[p]? = some l.2.1 → ((p, targs v l) ∈ fs ↔ (p, targs v l) ∈ fsL) := by
      intro h1 p hp2
      constructor
      · intro hm
        rcases hx _ hm with g | g
        · exact g
        · have := hN l hl h1 p hp2
          replace g : st p = s := g
          omega
      · intro hm
        obtain ⟨i, hi, e⟩ := List.mem_iff_getElem.mp hm
        exact List.mem_of_getElem? (hP i _ (by rw [List.getElem?_eq_getElem hi, e]))
    unfold lHo
    constructor
    · rintro (⟨g, -⟩ | ⟨g, g2⟩ | g)
      · exact absurd g h0
      · exact Or.inr (Or.inl ⟨g, fun ⟨p, p1, p2⟩ => g2 ⟨p, p1, (key g p p1).mpr p2⟩⟩)
      · exact Or.inr (Or.inr g)
    · rintro (⟨g, -⟩ | ⟨g, g2⟩ | g)
      · exact absurd g h0
      · exact Or.inr (Or.inl ⟨g, fun ⟨p, p1, p2⟩ => g2 ⟨p, p1, (key g p p1).mp p2⟩⟩)
      · exact Or.inr (Or.inr g)
  unfold Bd bodyH
  have e0 : sf 0 = 0 := rfl
  rw [e0]
  constructor
  · rintro ⟨h1, h2⟩ j l hj hj1
    by_cases h0 : l.1 = 0
    · exact (pos l h0).mp (h1 j l hj hj1 h0)
    · exact (neg l (List.mem_of_getElem? hj) h0).mp (h2 j l hj hj1 h0)
  · intro h
    exact ⟨fun j l hj hj1 h0 => (pos l h0).mpr (h j l hj hj1), fun j l hj hj1 h0 => (neg l (List.mem_of_getElem? hj) h0).mpr (h j l hj hj1)⟩
abbrev O16 : Type := Int32 × Int32 × Int32 × Int32 × Int32 × Int32 × (Nat → Int32) × (Nat → Int32) × (Nat → Int32) × (Nat → Int32) × (Nat → Int32) × (Nat → Int32) × (Nat → Int32) × (Nat → Int32) × (Nat → Int32) × (Nat → Int32)
abbrev O18 : Type := Int32 × Int32 × Int32 × Int32 × Int32 × Int32 × Int32 × Int32 × (Nat → Int32) × (Nat → Int32) × (Nat → Int32) × (Nat → Int32) × (Nat → Int32) × (Nat → Int32) × (Nat → Int32) × (Nat → Int32) × (Nat → Int32) × (Nat → Int32)
/-- facts in a stage k, from the list fsL on, when the clauses before C were used -/
def StI (ps : List Wd) (cs : List (List Lt)) (st : Nat → Nat) (mc : List Con) (live : Nat) (PA : Nat → Int32) (s : Nat) (fsL : List Fct) (k C lb : Nat) (FS0 : Nat → Int32) (fs : List Fct) (la : Nat) (FP FT FS Tb : Nat → Int32) : Prop := MS mc live PA fs FP FT Tb ∧ Pre fsL fs ∧ (∀ f, f < fsL.length → FS f = FS0 f) ∧ (∀ f, fsL.length ≤ f → f < fs.length → FS f = nI k) ∧ (∀ x, x ∈ fs ↔ x ∈ fsL ∨ Drv ps cs st s (!decide (k = 0)) (fun y => y ∈ fsL) C x) ∧ la = (if fs.length = fsL.length then lb else max lb k)
theorem Drv_succ {s C : Nat} {b : Bool} {X : Fct → Prop} {x : Fct} {ls : List Lt} (hc : cs[C]? = some ls) : Drv ps cs st s b X (C + 1) x ↔ Drv ps cs st s b X C x ∨ ∃ hd v, ls[0]? = some hd ∧ (ls.length = 1 ↔ b = false) ∧ ps[x.1]? = some hd.2.1 ∧ st x.1 = s ∧ bodyH ps X v ls ∧ x.2 = targs v hd := by
  constructor
  · rintro ⟨c, ls2, hd, v, h1, h2, h3⟩
    by_cases g : c = C
    · subst g
      rw [hc] at h2
      obtain rfl := Option.some.inj h2
      exact Or.inr ⟨hd, v, h3⟩
    · exact Or.inl ⟨c, ls2, hd, v, by omega, h2, h3⟩
  · rintro (⟨c, ls2, hd, v, h1, h2, h3⟩ | ⟨hd, v, h3⟩)
    · exact ⟨c, ls2, hd, v, by omega, h2, h3⟩
    · exact ⟨C, ls, hd, v, by omega, hc, h3⟩
theorem fol_in {post : Int32 → O16 → Prop} {J : O18 → Prop} {s k lb : Nat} {fsL : List Fct} {FS0 : Nat → Int32} (hG : PgOk ps cs st ar) (hM : MPg ps cs st ar mc live F CN CV CF PA LC LK LP LT Cl ST) (hk : k ≤ 20005) (hlb : lb ≤ 30000) (hs : s ≤ 64)
    (hJ : ∀ fs la pl aC FP FT FS Tb Sg VA BB AM AT, StI ps cs st mc live PA s fsL k cs.length lb FS0 fs la FP FT FS Tb → BBok BB → J (nI fsL.length, nI (k + 1), nI cs.length, nI fs.length, nI la, pl, aC, nr, FP, FT, FS, Tb, Sg, VA, BB, AM, AT, NC))
    (hF : ∀ (fs : List Fct) c fa la pl aC FP FT FS Tb Sg VA BB AM AT, (∀ x ∈ fs, x ∈ fsL ∨ Drv ps cs st s (!decide (k = 0)) (fun y => y ∈ fsL) cs.length x) → fs.Nodup → 20000 < fs.length → BBok BB → post 0 (c, fa, la, pl, aC, nr, FP, FT, FS, Tb, Sg, VA, BB, AM, AT, NC)) :
    ∀ m c : Nat, c + m = cs.length → ∀ fs la pl aC FP FT FS Tb Sg VA BB AM AT, StI ps cs st mc live PA s fsL k c lb FS0 fs la FP FT FS Tb → BBok BB → lw_met_Mo_follow_33 post J (nI live) Cl (nI fsL.length) (nI k) LC LP ST (nI s) (nI live) nw F PA CN CV CF LK LT NCo (m + 1) (nI c, nI fs.length, nI la, pl, aC, nr, FP, FT, FS, Tb, Sg, VA, BB, AM, AT, NC) := by
  obtain ⟨g1, g2, g3, g4, g5⟩ := hG
  obtain ⟨m1, m2, m3, m4, m5, m6, m7, m8, m9⟩ := hM
  intro m
  induction m with
  | zero =>
    intro c hc fs la pl aC FP FT FS Tb Sg VA BB AM AT hS hB
    refine ⟨vp_in_nI m1 (by omega), fun y39 h39 => ?_⟩
    rw [nI_clamp (by omega), m6] at h39
    subst h39
    refine pk_le cs.length c (fun _ => ?_) (fun q => absurd q (by omega))
    obtain rfl : c = cs.length := by omega
    rw [nI_1]
    exact hJ fs la pl aC FP FT FS Tb Sg VA BB AM AT hS hB
  | succ m ih =>
    intro c hc fs la pl aC FP FT FS Tb Sg VA BB AM AT hS hB
    have hcl : c < cs.length := by omega
    have hce := List.getElem?_eq_getElem hcl
    generalize cs[c] = ls at hce
    obtain ⟨q1, q2, q3, hd, hp, q4, q5, q6, q7⟩ := g5 c ls hce
    have hC := m9 c ls hce
    obtain ⟨s1, s2, s3, s4, s5, s6⟩ := hS
    have h20 := MS_20 s1
    have hle := Pre_le s2
    have hmh := List.mem_of_getElem? q4
    have hhp := (List.getElem?_eq_some_iff.mp q6).1
    have hl0 := (List.getElem?_eq_some_iff.mp q4).1
    have hLPh : LP ((257 * live + c) * 13 + 0) = nI hp := by
      obtain ⟨-, -, d3, -⟩ := hC.2.2 0 hd q4
      rcases d3 (Or.inl q5) with ⟨i, i1, i2⟩ | ⟨i1, -⟩
      · rw [nodup_inj g1 q6 i1]
        exact i2
      · exact absurd q6 (i1 hp)
    have hsp := g4 hp
    refine ⟨vp_in_nI m1 (by omega), fun y39 h39 => ?_⟩
    rw [nI_clamp (by omega), m6] at h39
    subst h39
    refine pk_le cs.length c (fun q => absurd q (by omega)) (fun _ => ?_)
    intro y40 h40 y41 h41
    rw [show (257 : Int32) = nI 257 from rfl, pk_mul] at h40
    rw [h40, nI_add] at h41
    subst h41
    refine ⟨vp_in_nI (by omega) (by omega), fun y43 h43 y44 h44 => ?_⟩
    rw [nI_clamp (by omega), hC.1] at h43
    rw [h43] at h44
    refine sp_Mo_literal (k := 0) ?_
    refine ⟨vp_in_nI (by omega) (by omega), fun y47 h47 => ?_⟩
    rw [nI_clamp (by omega), hLPh] at h47
    subst h47
    refine ⟨vp_in_nI (by omega) (by omega), fun y49 h49 => ?_⟩
    rw [nI_clamp (by omega), m7 hp (by omega)] at h49
    subst h49
    have e0 : sf 0 = 0 := rfl
    -- a clause that is not for this stage
    have skip : (∀ x : Fct, ¬ ∃ (hd : Lt) (v : Nat → Con), ls[0]? = some hd ∧ (ls.length = 1 ↔ (!decide (k = 0)) = false) ∧ ps[x.1]? = some hd.2.1 ∧ st x.1 = s ∧ bodyH ps (fun y => y ∈ fsL) v ls ∧ x.2 = targs v hd) → lw_met_Mo_follow_33 post J (nI live) Cl (nI fsL.length) (nI k) LC LP ST (nI s) (nI live) nw F PA CN CV CF LK LT NCo (m + 1) (nI (c + 1), nI fs.length, nI la, pl, aC, nr, FP, FT, FS, Tb, Sg, VA, BB, AM, AT, NC) := by
      intro hno
      refine ih (c + 1) (by omega) fs la pl aC FP FT FS Tb Sg VA BB AM AT ⟨s1, s2, s3, s4, fun x => ?_, s6⟩ hB
      rw [s5 x, Drv_succ hce]
      exact ⟨fun h => h.elim Or.inl (fun h => Or.inr (Or.inl h)), fun h => h.elim Or.inl (fun h => h.elim Or.inr (fun h => absurd h (hno x)))⟩
    refine pk_eq (st hp) s (fun hst => ?_) (fun hst => ?_)
    · intro y51 h51
      have l1 : (nI (ls.length + sf 0) = (1 : Int32)) ↔ ls.length = 1 := by
        rw [e0, show (1 : Int32) = nI 1 from rfl, nI_eq (by omega) (by omega)]
        omega
      have k0 : (nI k = (0 : Int32)) ↔ k = 0 := by
        rw [show (0 : Int32) = nI 0 from rfl, nI_eq (by omega) (by omega)]
      have hiff : (y44 = y51) ↔ (ls.length = 1 ↔ (!decide (k = 0)) = false) := by
        rw [h44, h51]
        by_cases z1 : ls.length = 1
        · rw [if_pos (l1.mpr z1)]
          by_cases z2 : k = 0
          · rw [if_pos (k0.mpr z2)]
            simp [z1, z2]
          · rw [if_neg (fun w => z2 (k0.mp w))]
            simp [z1, z2]
        · rw [if_neg (fun w => z1 (l1.mp w))]
          by_cases z2 : k = 0
          · rw [if_pos (k0.mpr z2)]
            simp [z1, z2]
          · rw [if_neg (fun w => z2 (k0.mp w))]
            simp [z1, z2]
      refine ⟨fun hy => ?_, fun hy => ?_⟩
      · have hfit := hiff.mp hy
        have hNeg : ∀ l ∈ ls, l.1 = 1 → ∀ p : Nat, ps[p]? = some l.2.1 → st p < s := by
          intro l hl h1 p hp2
          obtain ⟨p3, p4, -, -, p5⟩ := q7 l hl (Or.inr h1)
          rw [nodup_inj g1 hp2 p4]
          have := p5 h1
          omega
        have hAr : ∀ l ∈ ls, (l.1 = 0 ∨ l.1 = 1) → ∀ i : Nat, ps[i]? = some l.2.1 → PA (65 * live + i) = nI l.2.2.2.2.length := by
          intro l hl h1 i hi
          obtain ⟨p3, p4, p5, -⟩ := q7 l hl h1
          rw [p5, nodup_inj g1 p4 hi]
          exact m8 i (List.getElem?_eq_some_iff.mp hi).1
        have hxs : ∀ x ∈ fs, x ∈ fsL ∨ st x.1 = s := by
          intro x hx
          rcases (s5 x).mp hx with g | ⟨_, _, _, _, -, -, -, -, -, g, -⟩
          · exact Or.inl g
          · exact Or.inr g
        have hbb : ∀ v, Bd ps 0 ls fs fsL.length v ↔ bodyH ps (fun x => x ∈ fsL) v ls := fun v => Bd_body s2 hxs hNeg
        have one : ∀ x : Fct, (∃ (hd : Lt) (v : Nat → Con), ls[0]? = some hd ∧ (ls.length = 1 ↔ (!decide (k = 0)) = false) ∧ ps[x.1]? = some hd.2.1 ∧ st x.1 = s ∧ bodyH ps (fun y => y ∈ fsL) v ls ∧ x.2 = targs v hd) ↔ ∃ v, Bd ps 0 ls fs fsL.length v ∧ x = (hp, targs v hd) := by
          intro x
          constructor
          · rintro ⟨hd2, v, w1, w2, w3, w4, w5, w6⟩
            rw [q4] at w1
            obtain rfl := Option.some.inj w1
            exact ⟨v, (hbb v).mpr w5, Prod.ext (nodup_inj g1 w3 q6) w6⟩
          · rintro ⟨v, w1, rfl⟩
            exact ⟨hd, v, q4, hfit, q6, hst, (hbb v).mp w1, rfl⟩
        refine sp_Mo_join_fact (fs0 := fs) (ls := ls) (hd := hd) (hp := hp) (L := fsL.length) (lb := la) (sg := k) m1 (by omega) m2 m3 m4 g1 g2 hC m5 hAr hle hB q4 q5 q6 (fun l hl t ht v hv => (q3 l hl t ht v hv).2) (fun l hl h1 w => ?_) s1.1 s1.2.1 s1.2.2 (by omega) ?_ (fun fs2 pl2 aC2 FP2 FT2 FS2 Tb2 Sg2 VA2 BB2 AM2 AT2 hq hcomp hB2 => ?_) (fun fs2 la2 pl2 aC2 FP2 FT2 FS2 Tb2 Sg2 VA2 BB2 AM2 AT2 hq hfull hex hB2 => ?_)
        · have := hNeg l hl h1 hp w
          omega
        · rw [s6]
          split <;> omega
        · refine ⟨fun z => absurd z (by decide), fun _ => ?_⟩
          intro y83 h83
          rw [nI_1] at h83
          subst h83
          obtain ⟨f1, f2, f3, f4, f5, f6, f7⟩ := hq
          have hle2 := Pre_le f3
          refine ih (c + 1) (by omega) fs2 _ pl2 aC2 FP2 FT2 FS2 Tb2 Sg2 VA2 BB2 AM2 AT2 ⟨⟨f1, f2, f4⟩, Pre_trans s2 f3, fun f hf => ?_, fun f hf hf2 => ?_, fun x => ?_, ?_⟩ hB2
          · rw [f5 f (by omega)]
            exact s3 f hf
          · by_cases z : f < fs.length
            · rw [f5 f z]
              exact s4 f hf z
            · exact f6 f (by omega) hf2
          · rw [Drv_succ hce, one x]
            constructor
            · intro hx
              rcases f7 x hx with w | w
              · exact ((s5 x).mp w).elim Or.inl (fun w => Or.inr (Or.inl w))
              · exact Or.inr (Or.inr w)
            · rintro (w | w | ⟨v, w1, w2⟩)
              · obtain ⟨i, hi, e⟩ := List.mem_iff_getElem.mp ((s5 x).mpr (Or.inl w))
                exact List.mem_of_getElem? (f3 i _ (by rw [List.getElem?_eq_getElem hi, e]))
              · obtain ⟨i, hi, e⟩ := List.mem_iff_getElem.mp ((s5 x).mpr (Or.inr w))
                exact List.mem_of_getElem? (f3 i _ (by rw [List.getElem?_eq_getElem hi, e]))
              · rw [w2]
                exact hcomp v w1
          · rw [s6]
            by_cases z1 : fs2.length = fs.length
            · rw [if_pos z1, z1]
            · rw [if_neg z1, if_neg (show ¬ fs2.length = fsL.length by omega)]
              split <;> omega
        · refine ⟨fun _ => ?_, fun z => absurd rfl z⟩
          obtain ⟨v, w1, w2⟩ := hex
          obtain ⟨f1, f2, f3, f4, f5, f6, f7⟩ := hq
          have dr : ∀ x : Fct, (∃ v, Bd ps 0 ls fs fsL.length v ∧ x = (hp, targs v hd)) → Drv ps cs st s (!decide (k = 0)) (fun y => y ∈ fsL) cs.length x := by
            intro x hx
            obtain ⟨hd2, v2, w⟩ := (one x).mpr hx
            exact ⟨c, ls, hd2, v2, hcl, hce, w⟩
          refine hF (fs2 ++ [(hp, targs v hd)]) _ _ la2 pl2 aC2 FP2 FT2 FS2 Tb2 Sg2 VA2 BB2 AM2 AT2 (fun x hx => ?_) (nodup_push f4 w2) (by rw [List.length_append, List.length_singleton]; omega) hB2
          rcases List.mem_append.mp hx with w | w
          · rcases f7 x w with w | w
            · rcases (s5 x).mp w with w | ⟨c2, ls2, hd2, v2, u1, u2⟩
              · exact Or.inl w
              · exact Or.inr ⟨c2, ls2, hd2, v2, by omega, u2⟩
            · exact Or.inr (dr x w)
          · rw [List.mem_singleton] at w
            exact Or.inr (dr x ⟨v, w1, w⟩)
      · intro y83 h83
        rw [nI_1] at h83
        subst h83
        refine skip (fun x ⟨hd2, v, w1, w2, w3⟩ => hy (hiff.mpr w2))
    · intro y83 h83
      rw [nI_1] at h83
      subst h83
      refine skip (fun x ⟨hd2, v, w1, w2, w3, w4, w5⟩ => hst ?_)
      rw [q4] at w1
      obtain rfl := Option.some.inj w1
      rw [← nodup_inj g1 w3 q6]
      exact w4
end MFollow
