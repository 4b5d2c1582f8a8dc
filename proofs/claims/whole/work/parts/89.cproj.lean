/-! pure: what an index keeps of a fact; the key that is sought; the values that are given -/
section CPj
variable {as : List (Nat ⊕ Nat)} {B Lv : Nat → Prop} {s w X0 : Nat} {ro va fx : Nat → Nat} {SF : Nat → Int64} {SS SW : Nat → Int32} {SR SX : Nat → Nat → Int32} {r : List Nat} {W : Nat → Int32} {v : Nat → Nat}
theorem ShQ_pos (h : ShQ as B Lv s w ro va fx) {c : Nat} (hc : ro c < 6) : ∃ x, as[c]? = some (Sum.inl x) ∧ fst1 as c ∧ va (ro c) = x ∧ ro c < w := by
  obtain ⟨a1, a2, a3, a4, a5, a6, a7, a8, a9⟩ := h
  rcases Nat.lt_or_ge c as.length with z | z
  · have he := List.getElem?_eq_getElem z
    generalize as[c] = a at he
    cases a with
    | inr q =>
      have := (a6 c q he).1
      omega
    | inl x =>
      obtain ⟨k, k1, k2, k3⟩ := first_ex c he
      rcases Nat.lt_or_ge k c with w2 | w2
      · have := a5 c k x he k2 w2 k3
        omega
      · obtain rfl : k = c := by omega
        by_cases hb : B x
        · obtain ⟨l1, l2⟩ := a2 k x he k3 hb
          exact ⟨x, he, k3, l2, by omega⟩
        · by_cases hl2 : Lv x
          · obtain ⟨l0, l1, l2⟩ := a3 k x he k3 hb hl2
            exact ⟨x, he, k3, l2, l1⟩
          · have := a4 k x he k3 hb hl2
            omega
  · have := (a7 c z).1
    omega
theorem fst_one {x : Nat ⊕ Nat} {c d : Nat} (h1 : as[c]? = some x) (h2 : as[d]? = some x) (f1 : fst1 as c) (f2 : fst1 as d) : c = d := by
  rcases Nat.lt_trichotomy c d with z | z | z
  · exact absurd h2 (f2 c x z h1)
  · exact z
  · exact absurd h1 (f1 d x z h2)
theorem va_inj (h : ShQ as B Lv s w ro va fx) {p q : Nat} (hp : p < w) (hq : q < w) (e : va p = va q) : p = q := by
  obtain ⟨c, x, c1, c2, c3, c4⟩ := h.2.2.2.2.2.2.2.1 p hp
  obtain ⟨d, y, d1, d2, d3, d4⟩ := h.2.2.2.2.2.2.2.1 q hq
  have exy : x = y := by rw [← c4, ← d4, e]
  subst exy
  have := fst_one c1 d1 c2 d2
  rw [← c3, ← d3, this]
/-- the part of a fact: the values of the positions -/
def prt (w : Nat) (va : Nat → Nat) (v : Nat → Nat) : Nat → Nat := fun q => if q < w then v (va q) else 0
/-- by roles alone: what fits, and the part that is kept -/
def RoOk (ro : Nat → Nat) : Prop := (∀ c, c < 6 → ro c ≤ 13) ∧ (∀ c d, c < 6 → d < 6 → ro c = ro d → ro c < 6 → c = d)
def fitR (ro fx f : Nat → Nat) : Prop := (∀ c, c < 6 → ro c = 13 → f c = fx c) ∧ (∀ c k, c < 6 → k < 6 → ro c = 7 + k → f c = f k)
def PaR (ro f g : Nat → Nat) : Prop := (∀ c, c < 6 → ro c < 6 → g (ro c) = f c) ∧ (∀ q, (∀ c, c < 6 → ¬ ro c = q) → g q = 0)
theorem PaR_ex {f : Nat → Nat} (hR : RoOk ro) : ∃ g, PaR ro f g := by
  have ch : ∀ q, ∃ y, (∀ c, c < 6 → ro c < 6 → ro c = q → y = f c) ∧ ((∀ c, c < 6 → ¬ ro c = q) → y = 0) := by
    intro q
    by_cases z : ∃ c, c < 6 ∧ ro c = q
    · obtain ⟨c, c1, c2⟩ := z
      refine ⟨f c, fun d d1 d2 d3 => ?_, fun h => absurd c2 (h c c1)⟩
      rw [hR.2 c d c1 d1 (by rw [c2, d3]) (by rw [c2, ← d3]; exact d2)]
    · exact ⟨0, fun c c1 _ c3 => absurd ⟨c, c1, c3⟩ z, fun _ => rfl⟩
  obtain ⟨g, hg⟩ := Classical.axiomOfChoice ch
  exact ⟨g, fun c c1 c2 => (hg (ro c)).1 c c1 c2 rfl, fun q hq => (hg q).2 hq⟩
theorem PaR_lt {f g : Nat → Nat} (h : PaR ro f g) (hf : ∀ j, f j < 1000) (q : Nat) (hq : q < 6) : g q < 1000 := by
  by_cases z : ∃ c, c < 6 ∧ ro c = q
  · obtain ⟨c, c1, c2⟩ := z
    rw [← c2, h.1 c c1 (by omega)]
    exact hf c
  · rw [h.2 q (fun c c1 c2 => z ⟨c, c1, c2⟩)]
    omega
theorem PaR_one {f g g2 : Nat → Nat} (h : PaR ro f g) (h2 : PaR ro f g2) (q : Nat) (hq : q < 6) : g q = g2 q := by
  by_cases z : ∃ c, c < 6 ∧ ro c = q
  · obtain ⟨c, c1, c2⟩ := z
    rw [← c2, h.1 c c1 (by omega), h2.1 c c1 (by omega)]
  · rw [h.2 q (fun c c1 c2 => z ⟨c, c1, c2⟩), h2.2 q (fun c c1 c2 => z ⟨c, c1, c2⟩)]
theorem sp_project {post : Int64 → Unit → Prop} {f : Nat → Nat} (hX : X0 < 12) (hRo : RoOk ro) (hfx : ∀ c, fx c < 1000) (hF : SF X0 = lN (kN fx)) (hR : rN ro (SR X0)) (hfl : ∀ j, f j < 1000)
    (h1 : fitR ro fx f → ∀ g, PaR ro f g → post (lN (kN g)) ()) (h0 : ¬ fitR ro fx f → post (-1) ()) : wp_met_St_project post (lN (kN f)) SF SR X0 := by
  obtain ⟨h13, hinj⟩ := hRo
  have hf6 : ∀ j, j < 6 → f j < 1024 := fun j _ => by have := hfl j; omega
  have go : ∀ m c, c + m = 6 → ∀ pg : Nat → Nat, (∀ c2, c2 < c → ro c2 < 6 → pg (ro c2) = f c2) → (∀ q, (∀ c2, c2 < c → ¬ ro c2 = q) → pg q = 0) → (∀ c2, c2 < c → ro c2 = 13 → f c2 = fx c2) → (∀ c2 k, c2 < c → k < 6 → ro c2 = 7 + k → f c2 = f k) → lw_met_St_project_5 post SR X0 SF (lN (kN f)) (m + 1) (nI c, lN (kN pg)) := by
    intro m
    induction m with
    | zero =>
      intro c hc pg g1 g2 g3 g4
      obtain rfl : c = 6 := by omega
      exact pk_le 6 6 (fun _ => h1 ⟨g3, g4⟩ pg ⟨g1, g2⟩) (fun z => absurd z (by omega))
    | succ m ih =>
      intro c hc pg g1 g2 g3 g4
      refine pk_le 6 c (fun z => absurd z (by omega)) (fun _ => ?_)
      have hkf := kN_lt hf6
      refine sp_rankIn (by omega) (by omega) ?_
      rw [col_kN hf6 (by omega)]
      refine ⟨vp_in_nI (by omega) (by omega), fun y6 h6 => ?_⟩
      rw [nI_clamp (by omega), hR c (by omega)] at h6
      subst h6
      have hrc := h13 c (by omega)
      have next : ¬ ro c < 6 → (ro c = 13 → f c = fx c) → (∀ k, k < 6 → ro c = 7 + k → f c = f k) → lw_met_St_project_5 post SR X0 SF (lN (kN f)) (m + 1) (nI c + 1, lN (kN pg)) := by
        intro n6 n1 n2
        rw [nI_1]
        refine ih (c + 1) (by omega) pg (fun c2 hc2 hr2 => ?_) (fun q hq => g2 q (fun c2 hc2 => hq c2 (by omega))) (fun c2 hc2 e => ?_) (fun c2 k hc2 e1 e2 => ?_)
        · by_cases z : c2 = c
          · subst z
            exact absurd hr2 n6
          · exact g1 c2 (by omega) hr2
        · by_cases z : c2 = c
          · subst z
            exact n1 e
          · exact g3 c2 (by omega) e
        · by_cases z : c2 = c
          · subst z
            exact n2 k e1 e2
          · exact g4 c2 k (by omega) e1 e2
      refine pk_le 6 (ro c) (fun h6 => ?_) (fun h6 => ?_)
      · have jw : (ro c = 13 → f c = fx c) → jw_met_St_project_76 post (fun x9 => lw_met_St_project_5 post SR X0 SF (lN (kN f)) (m + 1) x9) (nI (ro c)) (nI c) (lN (kN pg)) (nI (f c)) (lN (kN f)) () := by
          intro n1
          refine pk_lt (ro c) 7 (fun z => next (by omega) n1 (fun k e1 e2 => absurd e2 (by omega))) (fun z => ?_)
          refine pk_le 13 (ro c) (fun z2 => next (by omega) n1 (fun k e1 e2 => absurd e2 (by omega))) (fun z2 => ?_)
          intro y10 h10
          rw [show (7 : Int32) = nI 7 from rfl, pk_sub (by omega)] at h10
          subst h10
          refine sp_rankIn (by omega) (by omega) ?_
          rw [col_kN hf6 (by omega)]
          have l1 := hfl c
          have l2 := hfl (ro c - 7)
          refine pk_eq (f c) (f (ro c - 7)) (fun e => ?_) (fun e => ?_)
          · refine next (by omega) n1 (fun k e1 e2 => ?_)
            rw [e, show ro c - 7 = k by omega]
          · exact h0 (fun hfit => e (hfit.2 c (ro c - 7) (by omega) (by omega) (by omega)))
        refine pk_eq (ro c) 13 (fun e13 => ?_) (fun e13 => jw (fun z => absurd z e13))
        intro y8 h8
        rw [hF] at h8
        subst h8
        have hx6 : ∀ j, j < 6 → fx j < 1024 := fun j _ => by have := hfx j; omega
        have hkx := kN_lt hx6
        refine sp_rankIn (by omega) (by omega) ?_
        rw [col_kN hx6 (by omega)]
        have l1 := hfl c
        have l2 := hfx c
        refine pk_eq (f c) (fx c) (fun e => jw (fun _ => e)) (fun e => ?_)
        exact h0 (fun hfit => e (hfit.1 c (by omega) e13))
      · intro y12 h12
        rw [nI_l9 (by have := hfl c; omega)] at h12
        subst h12
        refine sp_shiftOf h6 (fun y14 h14 y15 h15 => ?_)
        have hz : pg (ro c) = 0 := g2 (ro c) (fun c2 hc2 e => by
          have := hinj c2 c (by omega) (by omega) e (by omega)
          omega)
        have hpg : ∀ q, q < 6 → pg q < 1024 := by
          intro q hq
          by_cases z : ∃ c2, c2 < c ∧ ro c2 = q
          · obtain ⟨c2, z1, z2⟩ := z
            rw [← z2, g1 c2 z1 (by omega)]
            have := hfl c2
            omega
          · rw [g2 q (fun c2 hc2 e => z ⟨c2, hc2, e⟩)]
            omega
        rw [lN_shl _ (by omega)] at h14
        rw [h14, kN_or hpg (by have := hfl c; omega) h6 hz] at h15
        rw [h15, nI_1]
        refine ih (c + 1) (by omega) _ (fun c2 hc2 hr2 => ?_) (fun q hq => ?_) (fun c2 hc2 e => ?_) (fun c2 k hc2 e1 e2 => ?_)
        · by_cases z : c2 = c
          · subst z
            exact if_pos rfl
          · have hne : ¬ ro c2 = ro c := fun e => z (hinj c2 c (by omega) (by omega) e hr2)
            show put1 pg (ro c) (f c) (ro c2) = f c2
            unfold put1
            rw [if_neg hne]
            exact g1 c2 (by omega) hr2
        · unfold put1
          rw [if_neg (fun e => hq c (by omega) e.symm)]
          exact g2 q (fun c2 hc2 => hq c2 (by omega))
        · by_cases z : c2 = c
          · subst z
            omega
          · exact g3 c2 (by omega) e
        · by_cases z : c2 = c
          · subst z
            omega
          · exact g4 c2 k (by omega) e1 e2
  have e0 := kN_0
  have := go 6 0 (by omega) (fun _ => 0) (fun c2 hc2 => absurd hc2 (by omega)) (fun q _ => rfl) (fun c2 hc2 => absurd hc2 (by omega)) (fun c2 k hc2 => absurd hc2 (by omega))
  rw [e0] at this
  exact ⟨hX, _, this⟩
/-- roles of a literal: what fits is what is an instance, and the part holds the values -/
theorem Sh_Ro (hl6 : as.length ≤ 6) (h : ShQ as B Lv s w ro va fx) : RoOk ro := by
  refine ⟨fun c _ => ShQ_16 hl6 h c, fun c d _ _ e hc => ?_⟩
  obtain ⟨x, p1, p2, p3, p4⟩ := ShQ_pos h hc
  obtain ⟨y, q1, q2, q3, q4⟩ := ShQ_pos h (c := d) (by rw [← e]; exact hc)
  rw [← e, p3] at q3
  subst q3
  exact fst_one p1 q1 p2 q2
def fc (x : Nat × List Nat) : Nat → Nat := fun j => x.2.getD j 0
theorem Sh_fit (hl6 : as.length ≤ 6) (h : ShQ as B Lv s w ro va fx) (v : Nat → Nat) (p : Nat) : fitR ro fx (fc (p, as.map (ev v))) ∧ PaR ro (fc (p, as.map (ev v))) (prt w va v) := by
  have hS := h
  obtain ⟨a1, a2, a3, a4, a5, a6, a7, a8, a9⟩ := h
  have hf : ∀ (c : Nat) (a : Nat ⊕ Nat), as[c]? = some a → fc (p, as.map (ev v)) c = ev v a := by
    intro c a e
    show (as.map (ev v)).getD c 0 = _
    rw [List.getD_eq_getElem?_getD, List.getElem?_map, e]
    rfl
  have kind : ∀ c, c < as.length → (∃ q, as[c]? = some (Sum.inr q) ∧ ro c = 13) ∨ (∃ x k, as[c]? = some (Sum.inl x) ∧ as[k]? = some (Sum.inl x) ∧ k < c ∧ fst1 as k ∧ ro c = 7 + k) ∨ (∃ x, as[c]? = some (Sum.inl x) ∧ fst1 as c ∧ ro c ≤ 6) := by
    intro c hc
    have he := List.getElem?_eq_getElem hc
    generalize as[c] = a at he
    cases a with
    | inr q => exact Or.inl ⟨q, he, (a6 c q he).1⟩
    | inl x =>
      obtain ⟨k, k1, k2, k3⟩ := first_ex c he
      rcases Nat.lt_or_ge k c with w3 | w3
      · exact Or.inr (Or.inl ⟨x, k, he, k2, w3, k3, a5 c k x he k2 w3 k3⟩)
      · obtain rfl : k = c := by omega
        refine Or.inr (Or.inr ⟨x, he, k3, ?_⟩)
        by_cases hb : B x
        · have := (a2 k x he k3 hb).1
          omega
        · by_cases hl2 : Lv x
          · have := (a3 k x he k3 hb hl2).2.1
            omega
          · have := a4 k x he k3 hb hl2
            omega
  refine ⟨⟨fun c hc e => ?_, fun c k hc hk e => ?_⟩, ⟨fun c hc e => ?_, fun q hq => ?_⟩⟩
  · rcases Nat.lt_or_ge c as.length with z | z
    · rcases kind c z with ⟨q, q1, q2⟩ | ⟨x, k, k1, k2, k3, k4, k5⟩ | ⟨x, x1, x2, x3⟩
      · rw [hf c _ q1, (a6 c q q1).2]
        rfl
      · omega
      · omega
    · have := (a7 c z).1
      omega
  · rcases Nat.lt_or_ge c as.length with z | z
    · rcases kind c z with ⟨q, q1, q2⟩ | ⟨x, k', k1, k2, k3, k4, k5⟩ | ⟨x, x1, x2, x3⟩
      · omega
      · have : k = k' := by omega
        rw [this, hf c _ k1, hf k' _ k2]
      · omega
    · have := (a7 c z).1
      omega
  · obtain ⟨x, p1, p2, p3, p4⟩ := ShQ_pos hS e
    rw [hf c _ p1]
    show (if ro c < w then v (va (ro c)) else 0) = v x
    rw [if_pos p4, p3]
  · show (if q < w then v (va q) else 0) = 0
    by_cases z : q < w
    · obtain ⟨c, x, c1, c2, c3, c4⟩ := a8 q z
      have := (List.getElem?_eq_some_iff.mp c1).1
      exact absurd c3 (hq c (by omega))
    · rw [if_neg z]
theorem Sh_inst (hl6 : as.length ≤ 6) (h : ShQ as B Lv s w ro va fx) {x : Nat × List Nat} (hrl : x.2.length = as.length) (hfit : fitR ro fx (fc x)) : ∃ v, x.2 = as.map (ev v) := by
  obtain ⟨a1, a2, a3, a4, a5, a6, a7, a8, a9⟩ := h
  have hfe : ∀ (c y : Nat), x.2[c]? = some y → fc x c = y := by
    intro c y e
    show x.2.getD c 0 = y
    rw [List.getD_eq_getElem?_getD, e]
    rfl
  have ch : ∀ z : Nat, ∃ y : Nat, ∀ c : Nat, as[c]? = some (Sum.inl z) → fc x c = y := by
    intro z
    by_cases q : ∃ c : Nat, as[c]? = some (Sum.inl z)
    · obtain ⟨c, e⟩ := q
      obtain ⟨k, k1, k2, k3⟩ := first_ex c e
      refine ⟨fc x k, fun c3 e3 => ?_⟩
      have hl3 := (List.getElem?_eq_some_iff.mp e3).1
      rcases Nat.lt_trichotomy k c3 with w2 | w2 | w2
      · exact hfit.2 c3 k (by omega) (by omega) (a5 c3 k z e3 k2 w2 k3)
      · rw [w2]
      · exact absurd k2 (k3 c3 _ w2 e3)
    · exact ⟨0, fun c e => absurd ⟨c, e⟩ q⟩
  obtain ⟨v, hv⟩ := Classical.axiomOfChoice ch
  refine ⟨v, ?_⟩
  apply List.ext_getElem?
  intro c
  rw [List.getElem?_map]
  rcases Nat.lt_or_ge c as.length with z | z
  · have he := List.getElem?_eq_getElem z
    have hre := List.getElem?_eq_getElem (show c < x.2.length by omega)
    generalize as[c] = a at he
    generalize x.2[c] = y at hre
    rw [he, hre]
    have ey := hfe c y hre
    cases a with
    | inl t =>
      show some y = some (v t)
      rw [← hv t c he, ey]
    | inr q =>
      obtain ⟨r1, r2⟩ := a6 c q he
      show some y = some q
      rw [← ey, hfit.1 c (by omega) r1, r2]
  · rw [List.getElem?_eq_none z, List.getElem?_eq_none (by omega)]
    rfl
theorem sp_soughtKey {post : Int64 → Unit → Prop} (hX : X0 < 12) (hs6 : s ≤ 6) (hS : SS X0 = nI s) (hv : ∀ q, q < s → SX X0 q = nI (va q) ∧ va q < 12) (hW : ∀ q, q < s → W (va q) = nI (v (va q)) ∧ v (va q) < 1000) (h : post (lN (kN (prt s va v))) ()) : wp_met_St_soughtKey post 12 W SS SX X0 := by
  have go : ∀ m q, q + m = s → lw_met_St_soughtKey_5 post SS X0 SX 12 W (m + 1) (nI q, lN (kN (prt q va v))) := by
    intro m
    induction m with
    | zero =>
      intro q hq y4 h4
      rw [hS] at h4
      subst h4
      obtain rfl : q = s := by omega
      exact pk_le q q (fun _ => h) (fun z => absurd z (by omega))
    | succ m ih =>
      intro q hq y4 h4
      rw [hS] at h4
      subst h4
      refine pk_le s q (fun z => absurd z (by omega)) (fun _ => ?_)
      obtain ⟨v1, v2⟩ := hv q (by omega)
      obtain ⟨w1, w2⟩ := hW q (by omega)
      refine ⟨vp_in_nI (by omega) (by omega), fun y6 h6 => ?_⟩
      rw [nI_clamp (by omega), v1] at h6
      subst h6
      refine ⟨vp_in_nI v2 (by omega), fun y8 h8 y9 h9 => ?_⟩
      rw [nI_clamp (by omega), w1] at h8
      rw [h8, nI_l9 (by omega)] at h9
      subst h9
      refine sp_shiftOf (by omega) (fun y11 h11 y12 h12 => ?_)
      have hp : ∀ i, i < 6 → prt q va v i < 1024 := by
        intro i _
        unfold prt
        by_cases z : i < q
        · rw [if_pos z]
          have := (hW i (by omega)).2
          omega
        · rw [if_neg z]
          omega
      rw [lN_shl _ (by omega)] at h11
      rw [h11, kN_or hp (by omega) (by omega) (if_neg (by omega))] at h12
      have e : kN (put1 (prt q va v) q (v (va q))) = kN (prt (q + 1) va v) := kN_cong (fun i _ => by
        unfold put1 prt
        by_cases z : i = q
        · subst z
          rw [if_pos rfl, if_pos (by omega)]
        · rw [if_neg z]
          by_cases z2 : i < q
          · rw [if_pos z2, if_pos (by omega)]
          · rw [if_neg z2, if_neg (by omega)])
      rw [e] at h12
      rw [h12, nI_1]
      exact ih (q + 1) (by omega)
  have e0 : kN (prt 0 va v) = 0 := (kN_cong (g := fun _ => 0) (fun x _ => if_neg (by omega))).trans kN_0
  have := go s 0 (by omega)
  rw [e0] at this
  exact ⟨hX, _, this⟩
theorem sp_give {post : (Nat → Int32) → Prop} {k : Nat} (hX : X0 < 12) (hw6 : w ≤ 6) (hsw : s ≤ w) (hS : SS X0 = nI s) (hWd : SW X0 = nI w) (hv : ∀ q, q < w → SX X0 q = nI (va q) ∧ va q < 12) (hi : ∀ p q, p < w → q < w → va p = va q → p = q) (hk : k < 2 ^ 63) (h : ∀ W2, (∀ q, s ≤ q → q < w → W2 (va q) = nI (col k q)) → (∀ x, (∀ q, s ≤ q → q < w → ¬ va q = x) → W2 x = W x) → post W2) : wp_met_St_give post 12 (lN k) W SS SW SX X0 := by
  refine ⟨hX, fun y1 h1 => ?_⟩
  rw [hS] at h1
  subst h1
  have go : ∀ m q, q + m = w → s ≤ q → ∀ W2, (∀ p, s ≤ p → p < q → W2 (va p) = nI (col k p)) → (∀ x, (∀ p, s ≤ p → p < q → ¬ va p = x) → W2 x = W x) → lw_met_St_give_6 post SW X0 SX 12 (lN k) (m + 1) (nI q, W2) := by
    intro m
    induction m with
    | zero =>
      intro q hq hsq W2 g1 g2 y5 h5
      rw [hWd] at h5
      subst h5
      obtain rfl : q = w := by omega
      exact pk_le q q (fun _ => h W2 g1 g2) (fun z => absurd z (by omega))
    | succ m ih =>
      intro q hq hsq W2 g1 g2 y5 h5
      rw [hWd] at h5
      subst h5
      refine pk_le w q (fun z => absurd z (by omega)) (fun _ => ?_)
      obtain ⟨v1, v2⟩ := hv q (by omega)
      refine ⟨vp_in_nI (by omega) (by omega), fun y7 h7 => ?_⟩
      rw [nI_clamp (by omega), v1] at h7
      subst h7
      refine sp_rankIn hk (by omega) ?_
      refine ⟨vp_in_nI v2 (by omega), fun g10 h10 => ?_⟩
      rw [nI_clamp (by omega)] at h10
      subst h10
      rw [nI_1]
      refine ih (q + 1) (by omega) (by omega) _ (fun p p1 p2 => ?_) (fun x hx => ?_)
      · by_cases z : p = q
        · subst z
          exact upd_same
        · rw [upd_ne (fun e => z (hi p q (by omega) (by omega) e))]
          exact g1 p p1 (by omega)
      · rw [upd_ne (fun e => hx q hsq (by omega) e.symm)]
        exact g2 x (fun p p1 p2 => hx p p1 (by omega))
  exact ⟨_, go (w - s) s (by omega) (Nat.le_refl _) W (fun p p1 p2 => absurd p1 (by omega)) (fun x _ => rfl)⟩
end CPj
