/-! pure: a variable more, in the class -/
theorem app1 {α : Type} {a : List α} {x y : α} {j : Nat} : (a ++ [x])[j]? = some y ↔ (a[j]? = some y ∨ (j = a.length ∧ x = y)) := by
  rcases Nat.lt_trichotomy j a.length with q | q | q
  · rw [List.getElem?_append_left q]
    exact ⟨Or.inl, fun h => h.elim id (fun z => absurd z.1 (by omega))⟩
  · subst q
    rw [List.getElem?_append_right (Nat.le_refl _), Nat.sub_self]
    constructor
    · intro h
      exact Or.inr ⟨rfl, by simpa using h⟩
    · rintro (h | ⟨-, h⟩)
      · rw [List.getElem?_eq_none (Nat.le_refl _)] at h
        cases h
      · rw [h]
        rfl
  · rw [List.getElem?_append_right (by omega), List.getElem?_eq_none (by simp; omega), List.getElem?_eq_none (by omega)]
    exact ⟨fun h => (by cases h), fun h => h.elim (fun z => (by cases z)) (fun z => absurd z.1 (by omega))⟩
/-- place p: there variable v must be bound elsewhere -/
def Nd (md : Nat) (ls : List Lt) (v p : Nat) : Prop := ∃ (j : Nat) (l : Lt), ls[j]? = some l ∧ (j + sf md = 0 ∨ ¬ l.1 = 0) ∧ ∃ t ∈ l.2.2.2.2, t.2 = p ∧ t.1 = Sum.inl v
def NdQ (md : Nat) (ls : List Lt) (k v : Nat) (x : Int32) : Prop := (x = -1 ∧ ∀ p, ¬ Nd md ls v p) ∨ (∃ p, x = nI p ∧ p ≤ k ∧ Nd md ls v p ∧ ∀ p2, Nd md ls v p2 → p ≤ p2)
def gdw (o : Option Wd) : Wd := o.getD [95]
/-- the variables of a clause as the class holds them -/
def VQ (md k : Nat) (vs : List (Option Wd)) (ls : List Lt) (vz vu an po : Int32) (S L : Nat → Int32) (nT : Nat) (T ND : Nat → Int32) : Prop := NB 12 (vs.map gdw) vz vu S L nT T ∧ MK (fun j => vs[j]? = some none) an ∧ MK (bnd md ls) po ∧ (∀ v, v < vs.length → NdQ md ls k v (ND v)) ∧ (∀ l ∈ ls, ∀ v, occ l v → v < vs.length)
section CVar
variable {md k : Nat} {vs : List (Option Wd)} {ls : List Lt} {l : Lt} {vz vu an po : Int32} {S L T ND : Nat → Int32} {nT : Nat}
theorem NdQ_up {v k2 : Nat} {x : Int32} (h : NdQ md ls k v x) (hk : k ≤ k2) : NdQ md ls k2 v x := by
  rcases h with h | ⟨p, h1, h2, h3⟩
  · exact Or.inl h
  · exact Or.inr ⟨p, h1, by omega, h3⟩
theorem VQ_up {k2 : Nat} (h : VQ md k vs ls vz vu an po S L nT T ND) (hk : k ≤ k2) : VQ md k2 vs ls vz vu an po S L nT T ND := ⟨h.1, h.2.1, h.2.2.1, fun v hv => NdQ_up (h.2.2.2.1 v hv) hk, h.2.2.2.2⟩
theorem Nd_push {t : Tm} {v p : Nat} : Nd md (ls ++ [pushT l t]) v p ↔ (Nd md (ls ++ [l]) v p ∨ ((ls.length + sf md = 0 ∨ ¬ l.1 = 0) ∧ t.2 = p ∧ t.1 = Sum.inl v)) := by
  unfold Nd
  constructor
  · rintro ⟨j, x, hx, hn, u, hu, e1, e2⟩
    rcases app1.mp hx with q | ⟨q1, q2⟩
    · exact Or.inl ⟨j, x, app1.mpr (Or.inl q), hn, u, hu, e1, e2⟩
    · subst q1 q2
      rcases List.mem_append.mp hu with r | r
      · exact Or.inl ⟨_, l, app1.mpr (Or.inr ⟨rfl, rfl⟩), hn, u, r, e1, e2⟩
      · rw [List.mem_singleton.mp r] at e1 e2
        exact Or.inr ⟨hn, e1, e2⟩
  · rintro (⟨j, x, hx, hn, u, hu, e1, e2⟩ | ⟨hn, e1, e2⟩)
    · rcases app1.mp hx with q | ⟨q1, q2⟩
      · exact ⟨j, x, app1.mpr (Or.inl q), hn, u, hu, e1, e2⟩
      · subst q1 q2
        exact ⟨_, pushT l t, app1.mpr (Or.inr ⟨rfl, rfl⟩), hn, u, List.mem_append_left _ hu, e1, e2⟩
    · exact ⟨_, pushT l t, app1.mpr (Or.inr ⟨rfl, rfl⟩), hn, t, List.mem_append_right _ (List.mem_singleton.mpr rfl), e1, e2⟩
theorem bnd_push {t : Tm} {v : Nat} : bnd md (ls ++ [pushT l t]) v ↔ (bnd md (ls ++ [l]) v ∨ (1 ≤ ls.length + sf md ∧ l.1 = 0 ∧ t.1 = Sum.inl v)) := by
  unfold bnd
  constructor
  · rintro ⟨j, x, hx, h1, h2, u, hu, e2⟩
    rcases app1.mp hx with q | ⟨q1, q2⟩
    · exact Or.inl ⟨j, x, app1.mpr (Or.inl q), h1, h2, u, hu, e2⟩
    · subst q1 q2
      rcases List.mem_append.mp hu with r | r
      · exact Or.inl ⟨_, l, app1.mpr (Or.inr ⟨rfl, rfl⟩), h1, h2, u, r, e2⟩
      · rw [List.mem_singleton.mp r] at e2
        exact Or.inr ⟨h1, h2, e2⟩
  · rintro (⟨j, x, hx, h1, h2, u, hu, e2⟩ | ⟨h1, h2, e2⟩)
    · rcases app1.mp hx with q | ⟨q1, q2⟩
      · exact ⟨j, x, app1.mpr (Or.inl q), h1, h2, u, hu, e2⟩
      · subst q1 q2
        exact ⟨_, pushT l t, app1.mpr (Or.inr ⟨rfl, rfl⟩), h1, h2, u, List.mem_append_left _ hu, e2⟩
    · exact ⟨_, pushT l t, app1.mpr (Or.inr ⟨rfl, rfl⟩), h1, h2, t, List.mem_append_right _ (List.mem_singleton.mpr rfl), e2⟩
/-- a literal without terms changes nothing -/
theorem Nd_open {l : Lt} (h : l.2.2.2.2 = []) {v p : Nat} : Nd md (ls ++ [l]) v p ↔ Nd md ls v p := by
  unfold Nd
  constructor
  · rintro ⟨j, x, hx, hn, u, hu, e⟩
    rcases app1.mp hx with q | ⟨q1, q2⟩
    · exact ⟨j, x, q, hn, u, hu, e⟩
    · subst q2
      rw [h] at hu
      cases hu
  · rintro ⟨j, x, hx, hn, u, hu, e⟩
    exact ⟨j, x, app1.mpr (Or.inl hx), hn, u, hu, e⟩
theorem bnd_open {l : Lt} (h : l.2.2.2.2 = []) {v : Nat} : bnd md (ls ++ [l]) v ↔ bnd md ls v := by
  unfold bnd
  constructor
  · rintro ⟨j, x, hx, h1, h2, u, hu, e⟩
    rcases app1.mp hx with q | ⟨q1, q2⟩
    · exact ⟨j, x, q, h1, h2, u, hu, e⟩
    · subst q2
      rw [h] at hu
      cases hu
  · rintro ⟨j, x, hx, hn, u, hu, e⟩
    exact ⟨j, x, app1.mpr (Or.inl hx), hn, u, hu, e⟩
theorem VQ_open {l : Lt} (h : VQ md k vs ls vz vu an po S L nT T ND) (hl : l.2.2.2.2 = []) : VQ md k vs (ls ++ [l]) vz vu an po S L nT T ND := by
  obtain ⟨h1, h2, h3, h4, h5⟩ := h
  refine ⟨h1, h2, MK_iff h3 (fun v _ => (bnd_open hl).symm), fun v hv => ?_, fun x hx v hv => ?_⟩
  · rcases h4 v hv with ⟨e, q⟩ | ⟨p, e, q1, q2, q3⟩
    · exact Or.inl ⟨e, fun p z => q p ((Nd_open hl).mp z)⟩
    · exact Or.inr ⟨p, e, q1, (Nd_open hl).mpr q2, fun p2 z => q3 p2 ((Nd_open hl).mp z)⟩
  · rcases List.mem_append.mp hx with q | q
    · exact h5 x q v hv
    · rw [List.mem_singleton.mp q] at hv
      obtain ⟨t, ht, -⟩ := hv
      rw [hl] at ht
      cases ht
/-- a constant more changes nothing -/
theorem VQ_con {c : Con} {a : Nat} (h : VQ md k vs (ls ++ [l]) vz vu an po S L nT T ND) : VQ md k vs (ls ++ [pushT l (Sum.inr c, a)]) vz vu an po S L nT T ND := by
  obtain ⟨h1, h2, h3, h4, h5⟩ := h
  have n1 : ∀ v, ¬ ((Sum.inr c : Nat ⊕ Con) = Sum.inl v) := fun v z => by cases z
  have nd : ∀ v p, Nd md (ls ++ [pushT l (Sum.inr c, a)]) v p ↔ Nd md (ls ++ [l]) v p := fun v p => Nd_push.trans ⟨fun q => q.elim id (fun z => absurd z.2.2 (n1 v)), Or.inl⟩
  refine ⟨h1, h2, MK_iff h3 (fun v _ => (bnd_push.trans ⟨fun q => q.elim id (fun z => absurd z.2.2 (n1 v)), Or.inl⟩).symm), fun v hv => ?_, fun x hx v hv => ?_⟩
  · rcases h4 v hv with ⟨e, q⟩ | ⟨p, e, q1, q2, q3⟩
    · exact Or.inl ⟨e, fun p z => q p ((nd v p).mp z)⟩
    · exact Or.inr ⟨p, e, q1, (nd v p).mpr q2, fun p2 z => q3 p2 ((nd v p2).mp z)⟩
  · rcases List.mem_append.mp hx with q | q
    · exact h5 x (List.mem_append_left _ q) v hv
    · rw [List.mem_singleton.mp q] at hv
      rcases occ_push.mp hv with r | r
      · exact h5 l (List.mem_append_right _ (List.mem_singleton.mpr rfl)) v r
      · exact absurd r (n1 v)
/-- changed at literal i alone -/
def FrL (i : Nat) (Z2 Z M2 M T2 T : Nat → Int32) : Prop := (∀ j, ¬ j = i → Z2 j = Z j ∧ M2 j = M j) ∧ (∀ j, ¬ (6 * i ≤ j ∧ j < 6 * i + 6) → T2 j = T j)
end CVar
section CVar2
variable {post : (Int32 × Int32 × Int32 × Int32 × Int32 × Int32 × Int32 × (Nat → Int32) × (Nat → Int32) × Nat × ClassId × Nat × (Nat → Int32) × (Nat → Int32) × (Nat → Int32) × (Nat → Int32) × (Nat → Int32) × Nat × Nat) → Prop} {md a m i rm nT vt mc ms : Nat} {vs : List (Option Wd)} {ls : List Lt} {l : Lt} {vz vu an po code place st inH : Int32} {S L T ND K Z M TT F : Nat → Int32} {kT : ClassId} {E : Con → Int32 → Prop}
theorem av_157 {j c s : Nat} (hV : VQ md a vs (ls ++ [l]) vz vu an po S L nT T ND) (hj : j < vs.length) (ha : a ≤ 65536) (hH : (inH = 0 ∧ 1 ≤ ls.length + sf md) ∨ (inH = 1 ∧ ls.length + sf md = 0)) (hi : i < rm) (hrm : rm < 100000) (hL : LQ E i l K Z M TT) (h5 : l.2.2.2.2.length < 6)
    (h : ∀ po2 ND2 Z2 M2 TT2, VQ md a vs (ls ++ [pushT l (Sum.inl j, a)]) vz vu an po2 S L nT T ND2 → LQ E i (pushT l (Sum.inl j, a)) K Z2 M2 TT2 → FrL i Z2 Z M2 M TT2 TT → post (code, place, an, st, po2, vz, vu, S, L, vt, kT, nT, T, ND2, Z2, M2, TT2, c, s)) : jw_met_Re_addVariable_157 post inH rm K po (nI (i + 1)) (nI a) code place st rm rm (6 * rm) Z M TT (an, vz, vu, S, L, vt, kT, nT, T, ND, c, s, nI j) := by
  obtain ⟨v1, v2, v3, v4, v5⟩ := hV
  have hvl : vs.length ≤ 12 := by have := v1.1; simpa using this
  have fin : ∀ po2 ND2, VQ md a vs (ls ++ [pushT l (Sum.inl j, a)]) vz vu an po2 S L nT T ND2 → jw_met_Re_addVariable_223 post code place an st vz vu S L vt kT nT T c s rm rm (6 * rm) (nI j) (nI (i + 1)) Z M TT (po2, ND2) := by
    intro po2 ND2 hV2
    refine sp_Cl_addV hi hrm hL.2.1 h5 (by omega) ?_
    refine h po2 ND2 _ _ _ hV2 (LQ_var hL rfl (by omega)) ⟨fun q hq => ⟨upd_ne hq, upd_ne hq⟩, fun q hq => upd_ne (by omega)⟩
  have occ2 : ∀ x ∈ ls ++ [pushT l (Sum.inl j, a)], ∀ v, occ x v → v < vs.length := by
    intro x hx v hv
    rcases List.mem_append.mp hx with q | q
    · exact v5 x (List.mem_append_left _ q) v hv
    · rw [List.mem_singleton.mp q] at hv
      rcases occ_push.mp hv with r | r
      · exact v5 l (List.mem_append_right _ (List.mem_singleton.mpr rfl)) v r
      · obtain rfl := Sum.inl.inj r
        exact hj
  have hin : vp_in (nI j) 12 := vp_in_nI (by omega) (by omega)
  have need : (ls.length + sf md = 0 ∨ ¬ l.1 = 0) → jw_met_Re_addVariable_198 post (nI j) ND (nI a) po code place an st vz vu S L vt kT nT T c s rm rm (6 * rm) (nI (i + 1)) Z M TT () := by
    intro hn
    have hno : ¬ (1 ≤ ls.length + sf md ∧ l.1 = 0) := fun q => hn.elim (fun z => by omega) (fun z => z q.2)
    have mk : MK (bnd md (ls ++ [pushT l (Sum.inl j, a)])) po := MK_iff v3 (fun v _ => (bnd_push.trans ⟨fun q => q.elim id (fun z => absurd ⟨z.1, z.2.1⟩ hno), Or.inl⟩).symm)
    refine ⟨hin, fun y50 h50 => ?_⟩
    rw [nI_clamp (by omega)] at h50
    rcases v4 j hj with ⟨e, q⟩ | ⟨p, e, q1, q2, q3⟩
    · refine ⟨fun _ => ⟨hin, fun g52 h52 => ?_⟩, fun z => absurd (h50.trans e) z⟩
      rw [nI_clamp (by omega)] at h52
      refine fin po g52 ⟨v1, v2, mk, fun v hv => ?_, occ2⟩
      by_cases hvj : v = j
      · subst hvj
        refine Or.inr ⟨a, by rw [h52, upd_same], Nat.le_refl _, Nd_push.mpr (Or.inr ⟨hn, rfl, rfl⟩), fun p2 z => ?_⟩
        rcases Nd_push.mp z with z | ⟨-, z, -⟩
        · exact absurd z (q p2)
        · have z2 : a = p2 := z
          omega
      · rw [h52, upd_ne hvj]
        rcases v4 v hv with ⟨e2, r⟩ | ⟨p, e2, r1, r2, r3⟩
        · refine Or.inl ⟨e2, fun p z => ?_⟩
          rcases Nd_push.mp z with z | ⟨-, -, z⟩
          · exact r p z
          · exact hvj (Sum.inl.inj z).symm
        · refine Or.inr ⟨p, e2, r1, Nd_push.mpr (Or.inl r2), fun p2 z => ?_⟩
          rcases Nd_push.mp z with z | ⟨-, -, z⟩
          · exact r3 p2 z
          · exact absurd (Sum.inl.inj z).symm hvj
    · refine ⟨fun z => absurd (h50.symm.trans z) (by rw [e]; exact nI_ne1 (by omega)), fun _ => ?_⟩
      refine fin po ND ⟨v1, v2, mk, fun v hv => ?_, occ2⟩
      rcases v4 v hv with ⟨e2, r⟩ | ⟨p', e2, r1, r2, r3⟩
      · refine Or.inl ⟨e2, fun p' z => ?_⟩
        rcases Nd_push.mp z with z | ⟨-, -, z⟩
        · exact r p' z
        · have hvj : j = v := Sum.inl.inj z
          subst hvj
          rw [e2] at e
          exact nI_ne1 (x := p) (by omega) e.symm
      · refine Or.inr ⟨p', e2, r1, Nd_push.mpr (Or.inl r2), fun p2 z => ?_⟩
        rcases Nd_push.mp z with z | ⟨-, z, -⟩
        · exact r3 p2 z
        · have z2 : a = p2 := z
          omega
  rcases hH with ⟨e, h1⟩ | ⟨e, h1⟩
  · subst e
    refine ⟨fun _ => ?_, fun z => absurd rfl z⟩
    intro r44 h44
    rw [nI_pred] at h44
    subst h44
    refine ⟨vp_in_nI hi (by omega), fun y46 h46 => ?_⟩
    rw [nI_clamp (by omega), hL.1] at h46
    subst h46
    refine ⟨fun h0 => ?_, fun h0 => need (Or.inr h0)⟩
    intro y47 h47 y48 h48
    subst h47 h48
    have hno : ¬ (ls.length + sf md = 0 ∨ ¬ l.1 = 0) := fun q => q.elim (fun z => by omega) (fun z => z h0)
    refine fin _ ND ⟨v1, v2, MK_iff (MK_or v3 (v := j) (by omega)) (fun v _ => ?_), fun v hv => ?_, occ2⟩
    · refine Iff.trans ?_ bnd_push.symm
      constructor
      · rintro (q | q)
        · exact Or.inl q
        · exact Or.inr ⟨h1, h0, by rw [q]⟩
      · rintro (q | ⟨-, -, q⟩)
        · exact Or.inl q
        · exact Or.inr (Sum.inl.inj q)
    · have nd : ∀ p, Nd md (ls ++ [pushT l (Sum.inl j, a)]) v p ↔ Nd md (ls ++ [l]) v p := fun p => Nd_push.trans ⟨fun q => q.elim id (fun z => absurd z.1 hno), Or.inl⟩
      rcases v4 v hv with ⟨e2, r⟩ | ⟨p, e2, r1, r2, r3⟩
      · exact Or.inl ⟨e2, fun p z => r p ((nd p).mp z)⟩
      · exact Or.inr ⟨p, e2, r1, (nd p).mpr r2, fun p2 z => r3 p2 ((nd p2).mp z)⟩
  · subst e
    exact ⟨fun z => absurd z (by decide), fun _ => need (Or.inl h1)⟩
theorem sp_Re_addVariable {k : Nat} (hV : VQ md k vs (ls ++ [l]) vz vu an po S L nT T ND) (hka : k ≤ a) (hm : 0 < m) (ham : a + m ≤ 20480) (hF : ∀ j, j < a + m → byt (F j)) (htv : tot (vs.map gdw) ≤ a) (hH : (inH = 0 ∧ 1 ≤ ls.length + sf md) ∨ (inH = 1 ∧ ls.length + sf md = 0)) (hi : i < rm) (hrm : rm < 100000) (hL : LQ E i l K Z M TT) (h5 : l.2.2.2.2.length < 6) (hmc : 1 ≤ mc) (hms : 40960 ≤ ms)
    (h0 : mVar vs (sl F a m) = none → post (3, nI a, an, 12, po, vz, vu, S, L, vt, kT, nT, T, ND, Z, M, TT, 0, 0))
    (h1 : ∀ j vs2, mVar vs (sl F a m) = some (j, vs2) → ∀ an2 po2 vz2 vu2 S2 L2 vt2 kT2 nT2 T2 ND2 Z2 M2 TT2 kc ks, VQ md a vs2 (ls ++ [pushT l (Sum.inl j, a)]) vz2 vu2 an2 po2 S2 L2 nT2 T2 ND2 → tot (vs2.map gdw) ≤ a + m → LQ E i (pushT l (Sum.inl j, a)) K Z2 M2 TT2 → FrL i Z2 Z M2 M TT2 TT → cst nT nT2 kc ks → post (code, place, an2, st, po2, vz2, vu2, S2, L2, vt2, kT2, nT2, T2, ND2, Z2, M2, TT2, kc, ks)) : wp_met_Re_addVariable post mc ms 12 12 nT rm rm rm (6 * rm) vt st code place an inH po vz vu S L T (nI a) (nI (a + m)) F ND (nI (i + 1)) K Z M TT kT := by
  have hV0 := VQ_up hV hka
  obtain ⟨v1, v2, v3, v4, v5⟩ := hV0
  have hvl : vs.length ≤ 12 := by have := v1.1; simpa using this
  have hml : (vs.map gdw).length = vs.length := by simp
  have hbb : ∀ j, j < m → byt (F (a + j)) := fun j hj => hF (a + j) (by omega)
  intro y1 hy1
  rw [pk_sub (by omega), show a + m - a = m by omega] at hy1
  subst hy1
  refine ⟨⟨fun _ => ⟨vp_in_nI (by omega) (by omega), trivial⟩, fun _ => trivial⟩, fun y2 hy2 => ?_⟩
  have e1 : (1 : Int32) = nI 1 := rfl
  have hnl : (sl F a m = [95] ∧ y2 = 1) ∨ (¬ sl F a m = [95] ∧ y2 = 0) := by
    by_cases hm1 : m = 1
    · subst hm1
      rw [if_pos (show nI 1 = 1 from rfl), nI_clamp (by omega)] at hy2
      have es : sl F a 1 = [F a] := rfl
      rw [es]
      by_cases h95 : F a = 95
      · rw [if_pos h95] at hy2
        exact Or.inl ⟨by rw [h95], hy2⟩
      · rw [if_neg h95] at hy2
        exact Or.inr ⟨fun z => h95 (by simpa using z), hy2⟩
    · rw [if_neg (fun z => hm1 ?_)] at hy2
      · refine Or.inr ⟨fun z => hm1 ?_, hy2⟩
        have := congrArg List.length z
        rw [sl_len] at this
        simpa using this
      · have := congrArg Int32.toInt z
        rw [e1, nI_toInt (by omega), nI_toInt (by omega)] at this
        omega
  have new : (sl F a m = [95] ∨ ∀ i : Nat, ¬ vs[i]? = some (some (sl F a m))) → jw_met_Re_addVariable_77 post mc ms an po ND Z M TT (nI a) y2 12 12 nT vt (nI m) vz vu S L T F kT inH rm K (nI (i + 1)) code place st rm rm (6 * rm) (-1) := by
    intro hnew
    have hmv := mVar_new hnew
    refine ⟨fun _ => ⟨mc, ms, by omega, by omega, ?_⟩, fun z => absurd rfl z⟩
    refine sp_Na_add2 v1 (by omega) (by omega) (by omega) hbb (by omega) hmc hms (fun hl => ?_) (fun hl sz2 us2 S2 L2 a2 k2 nT2 T2 kc ks hN hc => ?_)
    · rw [hml] at hl
      rw [if_pos hl] at hmv
      refine ⟨fun _ => ?_, fun z => absurd rfl z⟩
      exact h0 hmv
    · rw [hml] at hl ⊢
      rw [if_neg (by omega)] at hmv
      have hin : vp_in (nI vs.length) 12 := vp_in_nI (by omega) (by omega)
      refine ⟨fun z => absurd z (nI_ne1 (by omega)), fun _ => ⟨hin, fun g22 h22 y23 h23 y24 h24 => ?_⟩⟩
      rw [nI_clamp (by omega)] at h22
      have eg : gdw (if sl F a m = [95] then none else some (sl F a m)) = sl F a m := by
        by_cases hw : sl F a m = [95]
        · rw [if_pos hw, hw]
          rfl
        · rw [if_neg hw]
          rfl
      have emap : (vs ++ [if sl F a m = [95] then none else some (sl F a m)]).map gdw = vs.map gdw ++ [sl F a m] := by
        rw [List.map_append, List.map_singleton, eg]
      have lw : (sl F a m).length = m := sl_len F m a
      rw [Nat.zero_add, Nat.zero_add]
      refine av_157 (vs := vs ++ [if sl F a m = [95] then none else some (sl F a m)]) (E := E) ⟨by rw [emap]; exact hN, ?_, v3, fun v hv => ?_, fun x hx v hv => ?_⟩ (by simp) (by omega) hH hi hrm hL h5 (fun po2 ND2 Z2 M2 TT2 q1 q2 q3 => h1 _ _ hmv _ _ _ _ _ _ _ _ _ _ _ _ _ _ _ _ q1 ?_ q2 q3 hc)
      · rcases hnl with ⟨w1, w2⟩ | ⟨w1, w2⟩
        · rw [w2, if_neg (by decide)] at h23
          rw [h24, h23]
          refine MK_iff (MK_or v2 (v := vs.length) (by omega)) (fun j _ => ?_)
          rw [if_pos w1, app1]
          constructor
          · rintro (q | q)
            · exact Or.inl q
            · exact Or.inr ⟨q.symm, rfl⟩
          · rintro (q | ⟨q, -⟩)
            · exact Or.inl q
            · exact Or.inr q.symm
        · rw [w2, if_pos rfl] at h23
          obtain ⟨mm, m1, m2, m3⟩ := v2
          refine ⟨mm, m1, ?_, fun j hj => ?_⟩
          · rw [h24, h23, m2]
            show nI mm ||| nI 0 = _
            rw [nI_or, Nat.or_zero]
          · rw [m3 j hj, if_neg w1]
            refine Iff.trans ?_ app1.symm
            exact ⟨Or.inl, fun q => q.elim id (fun z => absurd z.2 (by simp))⟩
      · rcases Nat.lt_or_ge v vs.length with q | q
        · rw [h22, upd_ne (by omega)]
          exact v4 v q
        · rw [List.length_append] at hv
          simp only [List.length_singleton] at hv
          obtain rfl : v = vs.length := by omega
          refine Or.inl ⟨by rw [h22, upd_same], fun p z => ?_⟩
          obtain ⟨j, x, hx, -, t, ht, -, e⟩ := z
          have := v5 x (List.mem_of_getElem? hx) vs.length ⟨t, ht, e⟩
          omega
      · have := v5 x hx v hv
        rw [List.length_append]
        omega
      · rw [emap, tot_app, tot_one, lw]
        omega
  rcases hnl with ⟨w1, w2⟩ | ⟨w1, w2⟩
  · subst w2
    exact ⟨fun z => absurd z (by decide), fun _ => new (Or.inl w1)⟩
  · subst w2
    refine ⟨fun _ => ?_, fun z => absurd rfl z⟩
    refine sp_Na_find2 v1 (by omega) (by omega) (by omega) hbb (fun r hr => ?_)
    have hgd : ∀ j : Nat, (vs.map gdw)[j]? = some (sl F a m) ↔ vs[j]? = some (some (sl F a m)) := by
      intro j
      rw [List.getElem?_map]
      constructor
      · intro q
        cases hv : vs[j]? with
        | none => rw [hv] at q; cases q
        | some o =>
          rw [hv] at q
          have q2 : gdw o = sl F a m := by simpa using q
          cases o with
          | none => exact absurd q2.symm w1
          | some w =>
            have : w = sl F a m := q2
            rw [this]
      · intro q
        rw [q]
        rfl
    rcases hr with ⟨j, e, q1, q2⟩ | ⟨e, q⟩
    · subst e
      have hj := (List.getElem?_eq_some_iff.mp ((hgd j).mp q1)).1
      refine ⟨fun z => absurd z (nI_ne1 (by omega)), fun _ => ?_⟩
      refine av_157 (E := E) ⟨v1, v2, v3, v4, v5⟩ hj (by omega) hH hi hrm hL h5 (fun po2 ND2 Z2 M2 TT2 r1 r2 r3 => h1 j vs (mVar_hit w1 ((hgd j).mp q1) (fun i hi z => q2 i hi ((hgd i).mpr z))) _ _ _ _ _ _ _ _ _ _ _ _ _ _ _ _ r1 (by omega) r2 r3 cst_0)
    · subst e
      exact new (Or.inr (fun i z => q i ((hgd i).mpr z)))
end CVar2
