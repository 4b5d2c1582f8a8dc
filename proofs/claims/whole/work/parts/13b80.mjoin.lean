/-! pure: the model's search through the facts -/
theorem nI_dn (d : Nat) : nI (d + 1) + (-1) = nI d := by
  rw [← nI_1]
  have e : (1 : Int32) + (-1) = 0 := by decide
  rw [Int32.add_assoc, e, Int32.add_zero]
/-- what later depths have bound is set aside -/
def Smd (d : Nat) (bb : Nat → Option Nat) (va : Nat → Con) (b2 : Nat → Option Nat) (v2 : Nat → Con) : Prop := ∀ j, j < 13 → cutB d b2 j = bb j ∧ ∀ e, bb j = some e → v2 j = va j
theorem cut_some {d : Nat} {bb : Nat → Option Nat} {j e : Nat} (h : bb j = some e) (he : e < d) : cutB d bb j = some e := by
  unfold cutB
  rw [h]
  show (if e < d then some e else none) = _
  rw [if_pos he]
theorem cut_none {d : Nat} {bb : Nat → Option Nat} {j : Nat} (h : bb j = none) : cutB d bb j = none := by
  unfold cutB
  rw [h]
theorem cut_ge {d : Nat} {bb : Nat → Option Nat} {j e : Nat} (h : bb j = some e) (he : d ≤ e) : cutB d bb j = none := by
  unfold cutB
  rw [h]
  show (if e < d then some e else none) = _
  rw [if_neg (by omega)]
theorem Smd_refl {d : Nat} {bb : Nat → Option Nat} {va : Nat → Con} (h : ∀ j e, j < 13 → bb j = some e → e < d) : Smd d bb va bb va := by
  intro j hj
  refine ⟨?_, fun _ _ => rfl⟩
  cases hb : bb j with
  | none => exact cut_none hb
  | some e => exact cut_some hb (h j e hj hb)
theorem Smd_ext {d : Nat} {bb b2 : Nat → Option Nat} {va v2 : Nat → Con} (h : ∀ j e, j < 13 → bb j = some e → e < d) (hE : Ext d bb va b2 v2) : Smd d bb va b2 v2 := by
  intro j hj
  obtain ⟨h1, h2⟩ := hE j hj
  cases hb : bb j with
  | none =>
    refine ⟨?_, fun e he => by cases he⟩
    rcases h2 hb with g | g
    · exact cut_none g
    · exact cut_ge g (Nat.le_refl _)
  | some e =>
    obtain ⟨g1, g2⟩ := h1 e hb
    exact ⟨cut_some g1 (h j e hj hb), fun _ _ => g2⟩
theorem Smd_BvR {mc : List Con} {d : Nat} {bb b2 : Nat → Option Nat} {va v2 : Nat → Con} {BB VA : Nat → Int32} (h : Smd d bb va b2 v2) (hB : BvR mc (cutB d b2) v2 BB VA) : BvR mc bb va BB VA := by
  intro j hj
  obtain ⟨h1, h2⟩ := h j hj
  rcases hB j hj with ⟨x1, x2⟩ | ⟨e, x1, x2, x3, x4, x5⟩
  · rw [h1] at x1
    exact Or.inl ⟨x1, x2⟩
  · rw [h1] at x1
    rw [h2 e x1] at x4 x5
    exact Or.inr ⟨e, x1, x2, x3, x4, x5⟩
theorem Smd_up {d : Nat} {bb b2 b3 : Nat → Option Nat} {va v2 v3 : Nat → Con} (h1 : Smd d bb va b2 v2) (h2 : Smd (d + 1) b2 v2 b3 v3) (hd : ∀ j e, j < 13 → bb j = some e → e < d) : Smd d bb va b3 v3 := by
  intro j hj
  obtain ⟨a1, a2⟩ := h1 j hj
  obtain ⟨c1, c2⟩ := h2 j hj
  have key : cutB d b3 j = cutB d b2 j := by
    cases hb : b3 j with
    | none =>
      rw [cut_none hb] at c1 ⊢
      exact (cut_none c1.symm).symm
    | some e =>
      by_cases g : e < d + 1
      · rw [cut_some hb g] at c1
        by_cases g2 : e < d
        · rw [cut_some hb g2, cut_some c1.symm g2]
        · rw [cut_ge hb (by omega), cut_ge c1.symm (by omega)]
      · rw [cut_ge hb (by omega)] at c1
        rw [cut_ge hb (by omega), cut_none c1.symm]
  refine ⟨key.trans a1, fun e he => ?_⟩
  have h3 : b2 j = some e := by
    cases hb : b2 j with
    | none =>
      rw [cut_none hb, he] at a1
      cases a1
    | some e2 =>
      by_cases g : e2 < d
      · rw [cut_some hb g, he] at a1
        exact a1
      · rw [cut_ge hb (by omega), he] at a1
        cases a1
  rw [c2 e h3]
  exact a2 e he
/-- facts, highest stage, rows; the facts' arrays; the rows' cells -/
abbrev Ac : Type := Int32 × Int32 × Int32 × (Nat → Int32) × (Nat → Int32) × (Nat → Int32) × (Nat → Int32) × (Nat → Int32)
abbrev S14 : Type := Int32 × Int32 × Int32 × Int32 × Int32 × (Nat → Int32) × (Nat → Int32) × (Nat → Int32) × (Nat → Int32) × (Nat → Int32) × (Nat → Int32) × (Nat → Int32) × (Nat → Int32) × (Nat → Int32)
abbrev jst (d : Int32) (a : Ac) (pl : Int32) (Sg VA BB AT : Nat → Int32) : S14 := (d, a.1, a.2.1, pl, a.2.2.1, a.2.2.2.1, a.2.2.2.2.1, a.2.2.2.2.2.1, a.2.2.2.2.2.2.1, Sg, VA, BB, AT, a.2.2.2.2.2.2.2)
/-- rounds for so many atoms -/
def wj (L : Nat) : Nat → Nat
  | 0 => 1
  | r + 1 => L * (1 + wj L r) + 1
/-- an atom of the body is among the first facts -/
def AtS (ps : List Wd) (fs0 : List Fct) (L : Nat) (v : Nat → Con) (l : Lt) : Prop := ∃ (f : Nat) (y : Fct), f < L ∧ fs0[f]? = some y ∧ Mt ps v l y
section JWalk
variable {post : Int32 → (Int32 × Int32 × Int32 × Int32 × Int32 × (Nat → Int32) × (Nat → Int32) × (Nat → Int32) × (Nat → Int32) × (Nat → Int32) × (Nat → Int32) × (Nat → Int32) × (Nat → Int32) × (Nat → Int32) × (Nat → Int32)) → Prop} {mc : List Con} {fs0 : List Fct} {ps : List Wd} {ls : List Lt} {al : List (Nat × Lt)} {F CN CV CF PA LC LK LP LT V4 NCo : Nat → Int32} {live cl md L : Nat} {qn stg nw : Int32} {I : ((Nat → Con) → Prop) → Ac → Prop}
/-- the atoms of a body, as the search has them -/
def AlR (md : Nat) (ls : List Lt) (al : List (Nat × Lt)) (V4 : Nat → Int32) : Prop := al.length ≤ 12 ∧ (∀ (i : Nat) (x : Nat × Lt), al[i]? = some x → V4 i = nI x.1 ∧ x.1 < 13 ∧ x.2.1 = 0 ∧ 1 ≤ x.1 ∧ ∃ j : Nat, ls[j]? = some x.2 ∧ j + sf md = x.1) ∧ (∀ (j : Nat) (l : Lt), ls[j]? = some l → 1 ≤ j + sf md → l.1 = 0 → ∃ i : Nat, al[i]? = some (j + sf md, l))
abbrev lwj (post : Int32 → (Int32 × Int32 × Int32 × Int32 × Int32 × (Nat → Int32) × (Nat → Int32) × (Nat → Int32) × (Nat → Int32) × (Nat → Int32) × (Nat → Int32) × (Nat → Int32) × (Nat → Int32) × (Nat → Int32) × (Nat → Int32)) → Prop) (D : Nat) (V4 : Nat → Int32) (qn stg : Int32) (live cl : Nat) (PA LP LT : Nat → Int32) (nw : Int32) (NCo F CN CV CF LC LK : Nat → Int32) (L n : Nat) (x : S14) : Prop := lw_met_Mo_join_87 post (nI D) V4 qn stg (nI live) (nI live) (nI cl) PA LP LT nw NCo F CN CV CF LC LK (nI L) n x
/-- what the search keeps -/
def JI (mc : List Con) (fs0 : List Fct) (L live : Nat) (PA : Nat → Int32) (P : (Nat → Con) → Prop) (I : ((Nat → Con) → Prop) → Ac → Prop) : Prop := (∀ C a, I C a → ∃ fs : List Fct, MFa mc fs a.2.2.2.1 a.2.2.2.2.1 a.2.2.2.2.2.2.1 ∧ (∀ x ∈ fs, PA (65 * live + x.1) = nI x.2.length) ∧ ∀ f, f < L → fs[f]? = fs0[f]?) ∧ (∀ C C2 a, I C a → (∀ v, C2 v → C v ∨ ¬ P v) → I C2 a)
/-- the search goes one depth back -/
def JB (mc : List Con) (I : ((Nat → Con) → Prop) → Ac → Prop) (lw : Nat → S14 → Prop) (d m : Nat) (C : (Nat → Con) → Prop) (bb : Nat → Option Nat) (va : Nat → Con) (AT : Nat → Int32) : Prop := ∀ a pl Sg VA BB AT2 b2 v2, I (fun v => C v ∨ Agr bb va v) a → BvR mc b2 v2 BB VA → Smd d bb va b2 v2 → (∀ e, e < d → AT2 e = AT e) → ∀ n, m ≤ n → lw n (jst (nI d + (-1)) a pl Sg VA BB AT2)
/-- the atoms before depth d stand -/
def JA (ps : List Wd) (fs0 : List Fct) (L : Nat) (al : List (Nat × Lt)) (d : Nat) (bb : Nat → Option Nat) (va : Nat → Con) : Prop := (∀ j e, j < 13 → bb j = some e → e < d) ∧ ∀ (i : Nat) (x : Nat × Lt), i < d → al[i]? = some x → (∀ v, Agr bb va v → AtS ps fs0 L v x.2) ∧ ∀ t ∈ x.2.2.2.2.2, ∀ j, t.1 = Sum.inl j → ¬ bb j = none
theorem jn_depth {r d : Nat} {x : Nat × Lt} {w : Nat} {C0 : (Nat → Con) → Prop} {bb : Nat → Option Nat} {va : Nat → Con} {AT0 : Nat → Int32} {m : Nat} (hl : live < 2) (hcl : cl < 257) (hn : mc.Nodup) (hmc : mc.length ≤ 1100) (hps : ps.Nodup) (hpl : ps.length ≤ 64) (hC : CLp md ps mc live cl LC LK LP LT ls) (hAr : ∀ l ∈ ls, (l.1 = 0 ∨ l.1 = 1) → ∀ i : Nat, ps[i]? = some l.2.1 → PA (65 * live + i) = nI l.2.2.2.2.length) (hAl : AlR md ls al V4) (hL : L ≤ fs0.length) (hL2 : L ≤ 20000)
    (hI : JI mc fs0 L live PA (fun v => ∀ y ∈ al, AtS ps fs0 L v y.2) I) (hd : al[d]? = some x) (hJA : JA ps fs0 L al d bb va)
    (hih : ∀ C a pl Sg VA BB AT b2 v2 m, I C a → BvR mc b2 v2 BB VA → JA ps fs0 L al (d + 1) b2 v2 → AT (d + 1) = -1 → JB mc I (lwj post al.length V4 qn stg live cl PA LP LT nw NCo F CN CV CF LC LK L) (d + 1) m C b2 v2 AT → ∀ n, w + m ≤ n → lwj post al.length V4 qn stg live cl PA LP LT nw NCo F CN CV CF LC LK L n (jst (nI (d + 1)) a pl Sg VA BB AT))
    (hK : JB mc I (lwj post al.length V4 qn stg live cl PA LP LT nw NCo F CN CV CF LC LK L) d m C0 bb va AT0) :
    ∀ q f : Nat, f + q = L → ∀ C a pl Sg VA BB AT b2 v2, I C a → (∀ v, C0 v → C v) → (∀ v, Agr bb va v → (∃ (f2 : Nat) (y : Fct), f2 < f ∧ fs0[f2]? = some y ∧ Mt ps v x.2 y) → C v) → BvR mc b2 v2 BB VA → Smd d bb va b2 v2 → AT d + 1 = nI f → (∀ e, e < d → AT e = AT0 e) → ∀ n, q * (1 + w) + 1 + m ≤ n → lwj post al.length V4 qn stg live cl PA LP LT nw NCo F CN CV CF LC LK L n (jst (nI d) a pl Sg VA BB AT) := by
  obtain ⟨hI1, hI2⟩ := hI
  obtain ⟨hA12, hA1, -⟩ := hAl
  obtain ⟨e4, x13, x0, x1, jx, jx1, jx2⟩ := hA1 d x hd
  have hdl := (List.getElem?_eq_some_iff.mp hd).1
  obtain ⟨hJd, hJ2⟩ := hJA
  obtain ⟨l1, l2, l3, l4, l5, l6, l7, l8⟩ := hC.2.2 jx x.2 jx1
  have hxm : x.2 ∈ ls := List.mem_of_getElem? jx1
  rw [jx2] at l2 l3 l4
  intro q
  induction q using Nat.strongRecOn with
  | ind q ihq =>
  intro f hf C a pl Sg VA BB AT b2 v2 hIa hC0 hCv hB hS hAT hATe n hnn
  obtain ⟨n1, rfl⟩ : ∃ n1, n = n1 + 1 := ⟨n - 1, by omega⟩
  refine ⟨fun z => absurd z (nI_pos (by omega)), fun _ => ?_⟩
  refine pk_eq d al.length (fun z => absurd z (by omega)) (fun _ => ?_)
  refine sp_Mo_free (d := d) (by omega) hB (fun B2 hB2 => ?_)
  refine ⟨vp_in_nI (by omega) (by omega), fun y37 h37 y38 h38 => ?_⟩
  rw [nI_clamp (by omega)] at h37
  rw [h37, hAT] at h38
  subst h38
  have hB3 := Smd_BvR hS hB2
  -- the first fact from f on that fits
  have find : ∀ q2 f2 : Nat, f2 + q2 = L → q2 ≤ q → ∀ VA BB, (∀ v, Agr bb va v → (∃ (f3 : Nat) (y : Fct), f3 < f2 ∧ fs0[f3]? = some y ∧ Mt ps v x.2 y) → C v) → BvR mc bb va BB VA → lw_met_Mo_join_155 post (fun x9 => lw_met_Mo_join_87 post (nI al.length) V4 qn stg (nI live) (nI live) (nI cl) PA LP LT nw NCo F CN CV CF LC LK (nI L) n1 x9) (nI L) (nI d) V4 (nI live) (nI live) (nI cl) PA LP LT a.2.2.2.1 a.2.2.2.2.1 AT a.1 a.2.1 pl a.2.2.1 a.2.2.2.2.2.1 a.2.2.2.2.2.2.1 Sg a.2.2.2.2.2.2.2 (q2 + 1) (nI f2, VA, BB) := by
    intro q2
    induction q2 with
    | zero =>
      intro f2 hf2 _ VA2 BB2 hCv2 hB4
      refine pk_le L f2 (fun _ => ?_) (fun z => absurd z (by omega))
      refine ⟨vp_in_nI (by omega) (by omega), fun g54 h54 => ?_⟩
      rw [nI_clamp (by omega)] at h54
      refine pk_lt f2 L (fun z => absurd z (by omega)) (fun _ => ?_)
      refine hK a pl Sg VA2 BB2 g54 bb va (hI2 C _ a hIa (fun v hv => ?_)) hB4 (Smd_refl hJd) (fun e he => ?_) n1 (by omega)
      · rcases hv with hv | hv
        · exact Or.inl (hC0 v hv)
        · by_cases g : AtS ps fs0 L v x.2
          · obtain ⟨f3, y, g1, g2, g3⟩ := g
            exact Or.inl (hCv2 v hv ⟨f3, y, by omega, g2, g3⟩)
          · exact Or.inr (fun w => g (w x (List.mem_of_getElem? hd)))
      · rw [h54, upd_ne (by omega)]
        exact hATe e he
    | succ q2 ih2 =>
      intro f2 hf2 hq2 VA2 BB2 hCv2 hB4
      refine pk_le L f2 (fun z => absurd z (by omega)) (fun _ => ?_)
      refine ⟨vp_in_nI (by omega) (by omega), fun y45 h45 => ?_⟩
      rw [nI_clamp (by omega), e4] at h45
      subst h45
      obtain ⟨fs, hF, hFa, hfs⟩ := hI1 C a hIa
      have hlt : f2 < fs0.length := by omega
      obtain ⟨y, hy⟩ : ∃ y, fs0[f2]? = some y := ⟨_, List.getElem?_eq_getElem hlt⟩
      have hfy : fs[f2]? = some y := by rw [hfs f2 (by omega)]; exact hy
      refine sp_Mo_isFact (l := x.2) (bb := bb) (va := va) hl hcl x13 (by omega) hn hmc hF hfy hps hpl (fun g => ?_) (l3 (Or.inl x0)) l4 l5 hB4 (fun b3 v3 VA3 BB3 g1 g2 g3 g4 => ?_) (fun b3 v3 VA3 BB3 g1 g2 g3 => ?_)
      · have h6 := hAr x.2 hxm (Or.inl x0) y.1 g
        have h7 := hFa y (List.mem_of_getElem? hfy)
        have h8 := (hF.2.2 y (List.mem_of_getElem? hfy)).2
        rw [h6] at h7
        exact ⟨h6, ((nI_eq (by omega) (by omega)).mp h7).symm⟩
      · refine ⟨fun z => absurd z (by decide), fun _ => ?_⟩
        refine ⟨vp_in_nI (by omega) (by omega), fun g54 h54 => ?_⟩
        rw [nI_clamp (by omega)] at h54
        refine pk_lt f2 L (fun _ => ?_) (fun z => absurd z (by omega))
        rw [nI_1]
        refine ⟨vp_in_nI (by omega) (by omega), fun g56 h56 => ?_⟩
        rw [nI_clamp (by omega)] at h56
        have hJ3 : JA ps fs0 L al (d + 1) b3 v3 := by
          refine ⟨fun j e hj he => ?_, fun i x2 hi hx2 => ?_⟩
          · cases hb : bb j with
            | none =>
              rcases (g2 j hj).2 hb with w1 | w1
              · rw [w1] at he
                cases he
              · rw [w1] at he
                obtain rfl := Option.some.inj he
                omega
            | some e2 =>
              have w1 := ((g2 j hj).1 e2 hb).1
              rw [w1] at he
              obtain rfl := Option.some.inj he
              have := hJd j e2 hj hb
              omega
          · by_cases z : i = d
            · subst z
              rw [hd] at hx2
              obtain rfl := Option.some.inj hx2
              exact ⟨fun v hv => ⟨f2, y, by omega, hy, ((g3 v).mp hv).2⟩, g4⟩
            · obtain ⟨w1, w2⟩ := hJ2 i x2 (by omega) hx2
              refine ⟨fun v hv => w1 v ((g3 v).mp hv).1, fun t ht j hj => ?_⟩
              have hjx : j < 13 := by
                obtain ⟨-, -, -, -, j3, j4, -⟩ := hA1 i x2 hx2
                obtain ⟨-, -, -, -, u5, -⟩ := hC.2.2 j3 x2.2 j4
                have := u5 t ht j hj
                omega
              cases hb : bb j with
              | none => exact absurd hb (w2 t ht j hj)
              | some e2 =>
                rw [((g2 j hjx).1 e2 hb).1]
                simp
        refine hih C a pl Sg VA3 BB3 g56 b3 v3 (q2 * (1 + w) + 1 + m) hIa g1 hJ3 (by rw [h56, upd_same]) ?_ n1 ?_
        · intro a5 pl5 Sg5 VA5 BB5 AT5 b5 v5 k1 k2 k3 k4 n5 hn5
          rw [nI_dn]
          refine ihq q2 (by omega) (f2 + 1) (by omega) _ a5 pl5 Sg5 VA5 BB5 AT5 b5 v5 k1 (fun v hv => Or.inl (hC0 v hv)) (fun v hv ⟨f3, y3, u1, u2, u3⟩ => ?_) k2 (Smd_up (Smd_ext hJd g2) k3 hJd) ?_ (fun e he => ?_) n5 hn5
          · by_cases z : f3 = f2
            · rw [z, hy] at u2
              obtain rfl := Option.some.inj u2
              exact Or.inr ((g3 v).mpr ⟨hv, u3⟩)
            · exact Or.inl (hCv2 v hv ⟨f3, y3, by omega, u2, u3⟩)
          · rw [k4 d (by omega), h56, upd_ne (by omega), h54, upd_same, nI_1]
          · rw [k4 e (by omega), h56, upd_ne (by omega), h54, upd_ne (by omega)]
            exact hATe e he
        · have : (q2 + 1) * (1 + w) ≤ q * (1 + w) := Nat.mul_le_mul_right _ hq2
          rw [Nat.succ_mul] at this
          omega
      · refine ⟨fun _ => ?_, fun z => absurd rfl z⟩
        refine sp_Mo_free (d := d) (by omega) g1 (fun B5 hB5 => ?_)
        rw [nI_1]
        refine ih2 (f2 + 1) (by omega) (by omega) VA3 B5 (fun v hv ⟨f3, y3, u1, u2, u3⟩ => ?_) (Smd_BvR (Smd_ext hJd g2) hB5)
        by_cases z : f3 = f2
        · rw [z, hy] at u2
          obtain rfl := Option.some.inj u2
          exact absurd u3 (g3 v hv)
        · exact hCv2 v hv ⟨f3, y3, by omega, u2, u3⟩
  exact ⟨q + 1, find q f hf (Nat.le_refl _) VA B2 hCv hB3⟩
theorem jn_walk (hl : live < 2) (hcl : cl < 257) (hn : mc.Nodup) (hmc : mc.length ≤ 1100) (hps : ps.Nodup) (hpl : ps.length ≤ 64) (hC : CLp md ps mc live cl LC LK LP LT ls) (hAr : ∀ l ∈ ls, (l.1 = 0 ∨ l.1 = 1) → ∀ i : Nat, ps[i]? = some l.2.1 → PA (65 * live + i) = nI l.2.2.2.2.length) (hAl : AlR md ls al V4) (hL : L ≤ fs0.length) (hL2 : L ≤ 20000)
    (hI : JI mc fs0 L live PA (fun v => ∀ y ∈ al, AtS ps fs0 L v y.2) I)
    (hEm : ∀ C a pl Sg VA BB AT b2 v2 m, I C a → BvR mc b2 v2 BB VA → JA ps fs0 L al al.length b2 v2 → (∀ a2 pl2 Sg2, I (fun v => C v ∨ Agr b2 v2 v) a2 → ∀ n, m ≤ n → lwj post al.length V4 qn stg live cl PA LP LT nw NCo F CN CV CF LC LK L n (jst (nI al.length + (-1)) a2 pl2 Sg2 VA BB AT)) → ∀ n, 1 + m ≤ n → lwj post al.length V4 qn stg live cl PA LP LT nw NCo F CN CV CF LC LK L n (jst (nI al.length) a pl Sg VA BB AT)) :
    ∀ r d : Nat, d + r = al.length → ∀ C a pl Sg VA BB AT b2 v2 m, I C a → BvR mc b2 v2 BB VA → JA ps fs0 L al d b2 v2 → AT d = -1 → JB mc I (lwj post al.length V4 qn stg live cl PA LP LT nw NCo F CN CV CF LC LK L) d m C b2 v2 AT → ∀ n, wj L r + m ≤ n → lwj post al.length V4 qn stg live cl PA LP LT nw NCo F CN CV CF LC LK L n (jst (nI d) a pl Sg VA BB AT) := by
  intro r
  induction r with
  | zero =>
    intro d hd C a pl Sg VA BB AT b2 v2 m hIa hB hJ hAT hK n hnn
    obtain rfl : d = al.length := by omega
    exact hEm C a pl Sg VA BB AT b2 v2 m hIa hB hJ (fun a2 pl2 Sg2 k1 n5 hn5 => hK a2 pl2 Sg2 VA BB AT b2 v2 k1 hB (Smd_refl hJ.1) (fun _ _ => rfl) n5 hn5) n hnn
  | succ r ih =>
    intro d hd C a pl Sg VA BB AT b2 v2 m hIa hB hJ hAT hK n hnn
    have hdl : d < al.length := by omega
    refine jn_depth (r := r) (d := d) (x := al[d]) (w := wj L r) (C0 := C) (bb := b2) (va := v2) (AT0 := AT) (m := m) hl hcl hn hmc hps hpl hC hAr hAl hL hL2 hI (List.getElem?_eq_getElem hdl) hJ (fun C5 a5 pl5 Sg5 VA5 BB5 AT5 b5 v5 m5 k1 k2 k3 k4 k5 => ih (d + 1) (by omega) C5 a5 pl5 Sg5 VA5 BB5 AT5 b5 v5 m5 k1 k2 k3 k4 k5) hK L 0 (Nat.zero_add _) C a pl Sg VA BB AT b2 v2 hIa (fun _ h => h) (fun v _ ⟨f2, y, u1, _⟩ => absurd u1 (by omega)) hB (Smd_refl hJ.1) ?_ (fun _ _ => rfl) n (by unfold wj at hnn; omega)
    rw [hAT]
    decide
end JWalk
