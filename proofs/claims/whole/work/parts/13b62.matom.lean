/-! pure: the model's literals, and an atom -/
/-- what a step's answer comes to -/
def Gos (md : Nat) (G : Nat → Int32) (n : Nat) (x : Rs) (D : Dt) (r : (Nat × Nat) ⊕ Dt) : Prop := match x with
  | .inl e => r = .inl e
  | .inr none => r = .inr D
  | .inr (some (c2, D2, k2)) => Ends md G n c2 D2 k2 r
theorem Ends_of {md : Nat} {G : Nat → Int32} {n k : Nat} {c : Ct} {D : Dt} {x : Rs} {r : (Nat × Nat) ⊕ Dt} (h : mStep md G n c D k = x) (h2 : Gos md G n x D r) : Ends md G n c D k r := by
  cases x with
  | inl e =>
    obtain rfl : r = .inl e := h2
    exact Ends_flt h
  | inr y =>
    cases y with
    | none =>
      obtain rfl : r = .inr D := h2
      exact Ends_end h
    | some z =>
      obtain ⟨c2, D2, k2⟩ := z
      exact Ends_go h h2
/-- arrays of literals: kind, predicate, terms; place, place of not, places of terms, number of terms -/
abbrev A7 : Type := (Nat → Int32) × (Nat → Int32) × (Nat → Int32) × (Nat → Int32) × (Nat → Int32) × (Nat → Int32) × (Nat → Int32)
def lkd (k : Int32) : Int32 := if k = 0 then 0 else if k = 1 then 1 else mkd k
/-- a literal as the model holds it -/
def LR (md : Nat) (ps : List Wd) (mc : List Con) (o L l2 : Nat) (A : A7) (lt : Lt) : Prop :=
  A.1 L = lkd lt.1 ∧ (lt.1 = 0 ∨ lt.1 = 1 → PC md ps lt.2.1 (A.2.1 L)) ∧ (¬ (lt.1 = 0 ∨ lt.1 = 1) → A.2.1 L = -1) ∧ A.2.2.2.1 l2 = nI (o + lt.2.2.1) ∧ (lt.1 = 1 → A.2.2.2.2.1 l2 = nI (o + lt.2.2.2.1)) ∧ A.2.2.2.2.2.2 l2 = nI lt.2.2.2.2.length ∧ TR mc o L l2 A.2.2.1 A.2.2.2.2.2.1 lt.2.2.2.2
/-- arrays that differ at most at one literal -/
def Off (L l2 : Nat) (A B : A7) : Prop := (∀ j, ¬ j = L → A.1 j = B.1 j) ∧ (∀ j, ¬ j = L → A.2.1 j = B.2.1 j) ∧ At6 A.2.2.1 B.2.2.1 (6 * L) ∧ (∀ j, ¬ j = l2 → A.2.2.2.1 j = B.2.2.2.1 j) ∧ (∀ j, ¬ j = l2 → A.2.2.2.2.1 j = B.2.2.2.2.1 j) ∧ At6 A.2.2.2.2.2.1 B.2.2.2.2.2.1 (6 * l2) ∧ (∀ j, ¬ j = l2 → A.2.2.2.2.2.2 j = B.2.2.2.2.2.2 j)
def Pre {α : Type} (a b : List α) : Prop := ∀ (id : Nat) (c : α), a[id]? = some c → b[id]? = some c
theorem Pre_refl {α : Type} {a : List α} : Pre a a := fun _ _ h => h
theorem Pre_trans {α : Type} {a b c : List α} (h1 : Pre a b) (h2 : Pre b c) : Pre a c := fun i x h => h2 i x (h1 i x h)
theorem Pre_app {α : Type} {a b : List α} : Pre a (a ++ b) := by
  intro id c h
  have := (List.getElem?_eq_some_iff.mp h).1
  rw [List.getElem?_append_left this]
  exact h
theorem PC_ext {md : Nat} {ps ps2 : List Wd} {w : Wd} {x : Int32} (h : Pre ps ps2) (hm : ¬ md = 0 → ps2 = ps) (q : PC md ps w x) : PC md ps2 w x := by
  rcases q with ⟨i, h1, h2⟩ | ⟨h1, h2, h3⟩
  · exact Or.inl ⟨i, h i w h1, h2⟩
  · exact Or.inr ⟨h1, by rw [hm h1]; exact h2, h3⟩
theorem TR_off {mc mc2 : List Con} {o L l2 : Nat} {LT TP LT2 TP2 : Nat → Int32} {ts : List Tm} (hm : Pre mc mc2) (hl : ts.length ≤ 6) (e1 : ∀ j, j < 6 → LT2 (6 * L + j) = LT (6 * L + j)) (e2 : ∀ j, j < 6 → TP2 (6 * l2 + j) = TP (6 * l2 + j)) (h : TR mc o L l2 LT TP ts) : TR mc2 o L l2 LT2 TP2 ts := by
  intro j t hj
  have hjl := (List.getElem?_eq_some_iff.mp hj).1
  obtain ⟨h1, h2⟩ := h j t hj
  rw [e1 j (by omega), e2 j (by omega)]
  exact ⟨TC_ext hm h1, h2⟩
/-- a literal stays as another one is written -/
theorem LR_off {md : Nat} {ps ps2 : List Wd} {mc mc2 : List Con} {o L l2 L9 m9 : Nat} {A B : A7} {lt : Lt} (hp : Pre ps ps2) (hpm : ¬ md = 0 → ps2 = ps) (hm : Pre mc mc2) (hl : lt.2.2.2.2.length ≤ 6) (h1 : ¬ L = L9) (h2 : ¬ l2 = m9) (hO : Off L9 m9 B A) (h : LR md ps mc o L l2 A lt) : LR md ps2 mc2 o L l2 B lt := by
  obtain ⟨o1, o2, o3, o4, o5, o6, o7⟩ := hO
  obtain ⟨r1, r2, r3, r4, r5, r6, r7⟩ := h
  refine ⟨by rw [o1 L h1]; exact r1, fun z => ?_, fun z => ?_, by rw [o4 l2 h2]; exact r4, fun z => by rw [o5 l2 h2]; exact r5 z, by rw [o7 l2 h2]; exact r6, TR_off hm hl (fun j hj => o3 _ (by omega)) (fun j hj => o6 _ (by omega)) r7⟩
  · rw [o2 L h1]
    exact PC_ext hp hpm (r2 z)
  · rw [o2 L h1]
    exact r3 z
/-- predFrom, predLength, predArity, preds; conNumber, conValue, conFrom; litCount, litKind, litPred, litTerms -/
abbrev G11 : Type := (Nat → Int32) × (Nat → Int32) × (Nat → Int32) × (Nat → Int32) × (Nat → Int32) × (Nat → Int32) × (Nat → Int32) × (Nat → Int32) × (Nat → Int32) × (Nat → Int32) × (Nat → Int32)
/-- what a reading may not touch -/
def Fr (md set c0 lo : Nat) (X Y : G11) : Prop :=
  (∀ j, ¬ (md = 0 ∧ 65 * set ≤ j ∧ j < 65 * set + 65) → X.1 j = Y.1 j ∧ X.2.1 j = Y.2.1 j ∧ X.2.2.1 j = Y.2.2.1 j) ∧ (∀ j, ¬ (md = 0 ∧ j = set) → X.2.2.2.1 j = Y.2.2.2.1 j) ∧ Fc set lo X.2.2.2.2.1 X.2.2.2.2.2.1 X.2.2.2.2.2.2.1 Y.2.2.2.2.1 Y.2.2.2.2.2.1 Y.2.2.2.2.2.2.1 ∧ (∀ j, ¬ (257 * set + c0 ≤ j ∧ j < 257 * set + 257) → X.2.2.2.2.2.2.2.1 j = Y.2.2.2.2.2.2.2.1 j) ∧ (∀ j, ¬ ((257 * set + c0) * 13 ≤ j ∧ j < (257 * set + 257) * 13) → X.2.2.2.2.2.2.2.2.1 j = Y.2.2.2.2.2.2.2.2.1 j ∧ X.2.2.2.2.2.2.2.2.2.1 j = Y.2.2.2.2.2.2.2.2.2.1 j) ∧ (∀ j, ¬ ((257 * set + c0) * 13 * 6 ≤ j ∧ j < (257 * set + 257) * 13 * 6) → X.2.2.2.2.2.2.2.2.2.2 j = Y.2.2.2.2.2.2.2.2.2.2 j)
theorem Fr_refl {md set c0 lo : Nat} {X : G11} : Fr md set c0 lo X X := ⟨fun _ _ => ⟨rfl, rfl, rfl⟩, fun _ _ => rfl, Fc_refl, fun _ _ => rfl, fun _ _ => ⟨rfl, rfl⟩, fun _ _ => rfl⟩
theorem Fr_trans {md set c0 lo : Nat} {X Y Z : G11} (h1 : Fr md set c0 lo Y Z) (h2 : Fr md set c0 lo X Y) : Fr md set c0 lo X Z := by
  obtain ⟨a1, a2, a3, a4, a5, a6⟩ := h1
  obtain ⟨b1, b2, b3, b4, b5, b6⟩ := h2
  refine ⟨fun j hj => ?_, fun j hj => (b2 j hj).trans (a2 j hj), Fc_trans a3 b3 (Nat.le_refl _), fun j hj => (b4 j hj).trans (a4 j hj), fun j hj => ⟨(b5 j hj).1.trans (a5 j hj).1, (b5 j hj).2.trans (a5 j hj).2⟩, fun j hj => (b6 j hj).trans (a6 j hj)⟩
  obtain ⟨x1, x2, x3⟩ := a1 j hj
  obtain ⟨y1, y2, y3⟩ := b1 j hj
  exact ⟨y1.trans x1, y2.trans x2, y3.trans x3⟩
/-- the predicates that the model holds -/
def PR (set : Nat) (ps : List Wd) (PF PL PS F : Nat → Int32) : Prop := MPr ps (65 * set) PF PL F ∧ ps.length ≤ 64 ∧ PS set = nI ps.length
def PN (md set : Nat) (ps : List Wd) (PA : Nat → Int32) : Prop := md = 0 → ∀ i, i < ps.length → PA (65 * set + i) = -1
abbrev U21 : Type := Int32 × Int32 × Int32 × Int64 × Int32 × Int32 × (Nat → Int32) × (Nat → Int32) × (Nat → Int32) × (Nat → Int32) × (Nat → Int32) × (Nat → Int32) × (Nat → Int32) × (Nat → Int32) × (Nat → Int32) × (Nat → Int32) × (Nat → Int32) × (Nat → Int32) × (Nat → Int32) × (Nat → Int32) × (Nat → Int32)
def g21 (LC : Nat → Int32) (u : U21) : G11 := (u.2.2.2.2.2.2.1, u.2.2.2.2.2.2.2.1, u.2.2.2.2.2.2.2.2.1, u.2.2.2.2.2.2.2.2.2.1, u.2.2.2.2.2.2.2.2.2.2.1, u.2.2.2.2.2.2.2.2.2.2.2.1, u.2.2.2.2.2.2.2.2.2.2.2.2.1, LC, u.2.2.2.2.2.2.2.2.2.2.2.2.2.1, u.2.2.2.2.2.2.2.2.2.2.2.2.2.2.1, u.2.2.2.2.2.2.2.2.2.2.2.2.2.2.2.1)
/-- the state of the machine behind an atom -/
def cAt (md : Nat) (D : Dt) : Nat := if md = 2 then 11 else if md = 0 ∧ D.2.1 = [] then 5 else 10
section MAtom
variable {post : Int32 → (Int32 × Int32 × U21) → Prop} {n o set cl k md c0 lo a b np : Nat} {fc fp kind : Int32} {F LC PF PL PA PS CN CV CF LK LP LT LQ NQ TP LA VF VL : Nat → Int32} {D : Dt} {mc : List Con} {ps : List Wd} {vs : List (Option Wd)} {St : ((Nat × Nat) ⊕ Dt) → Prop}
/-- what the model leaves behind an atom -/
def AtQ (post : Int32 → (Int32 × Int32 × U21) → Prop) (md n o set cl k c0 lo : Nat) (kind fc fp : Int32) (F LC PF PL PA PS CN CV CF LK LP LT LQ NQ TP LA : Nat → Int32) (D : Dt) (ps : List Wd) (mc : List Con) (St : ((Nat × Nat) ⊕ Dt) → Prop) : Prop :=
  ∀ lt mc2 vs2 ps2 p tk fr to am PF2 PL2 PA2 PS2 CN2 CV2 CF2 LK2 LP2 LT2 LQ2 TP2 LA2 VF2 VL2, lt.1 = kind → lt.2.2.2.2.length ≤ 6 → p ≤ n → Cur (shf F o) n o p tk fr to am → MG md set F mc2 vs2 CN2 CV2 CF2 VF2 VL2 → PR set ps2 PF2 PL2 PS2 F → PN md set ps2 PA2 → LR md ps2 mc2 o ((257 * set + cl) * 13 + k) (13 * cl + k) (LK2, LP2, LT2, LQ2, NQ, TP2, LA2) lt → Off ((257 * set + cl) * 13 + k) (13 * cl + k) (LK2, LP2, LT2, LQ2, NQ, TP2, LA2) (LK, LP, LT, LQ, NQ, TP, LA) → Pre ps ps2 → (¬ md = 0 → ps2 = ps) → Pre mc mc2 → mc2.length ≤ mc.length + 6 → Fr md set c0 lo (PF2, PL2, PA2, PS2, CN2, CV2, CF2, LC, LK2, LP2, LT2) (PF, PL, PA, PS, CN, CV, CF, LC, LK, LP, LT) →
    (∀ r, Ends md (shf F o) n (cAt md D, 0, 0) (D.1, D.2.1 ++ [lt], lt, vs2, ps2, if md = 0 then mc2 else D.2.2.2.2.2) p r → St r) →
    post 1 (fc, fp, tk, fr, to, am, nI mc2.length, nI vs2.length, PF2, PL2, PA2, PS2, CN2, CV2, CF2, LK2, LP2, LT2, LQ2, TP2, LA2, VF2, VL2)
theorem sp_Mo_atom {am : Int64} (hs : o + n ≤ 196608) (hB : TxOk md set o n F) (hset : set < 2) (hcl : cl < 257) (hc0 : c0 ≤ cl) (hlo : lo ≤ mc.length) (hk : k < 13) (hmd : md = 0 ∨ md = 1) (hmc : mc.length + 6 < 1100) (hab : a < b) (hb : b ≤ n) (hG : MG md set F mc vs CN CV CF VF VL) (hP : PR set ps PF PL PS F) (hN : PN md set ps PA) (hD : D.2.2.2.1 = vs) (hDp : D.2.2.2.2.1 = ps) (hD2 : md = 0 → D.2.2.2.2.2 = mc) (hkd : kind = 0 ∨ kind = 1) (hnp : kind = 1 → NQ (13 * cl + k) = nI (o + np))
    (hE : ∀ r, Gos md (shf F o) n (mName md (shf F o) D kind np a b b) D r → St r) (hQ : AtQ post md n o set cl k c0 lo kind fc fp F LC PF PL PA PS CN CV CF LK LP LT LQ NQ TP LA D ps mc St)
    (hF : ∀ (c q : Nat) (u : U21), Fr md set c0 lo (g21 LC u) (PF, PL, PA, PS, CN, CV, CF, LC, LK, LP, LT) → St (.inl (c, q)) → post 0 (nI c, nI q, u)) :
    wp_met_Mo_atom post (nI k) kind fc fp (nI set) (nI o) (nI (o + n)) 1 (nI (o + a)) (nI (o + b)) am (nI cl) (b01 (asksOf md)) (nI mc.length) (nI vs.length) F PF PL PA PS CN CV CF LK LP LT LQ TP LA VF VL := by
  obtain ⟨m, rfl⟩ : ∃ m, b = a + m := ⟨b - a, by omega⟩
  have hm : a + m - a = m := by omega
  obtain ⟨p1, p2, p3⟩ := hP
  have hL : (257 * set + c0) * 13 ≤ (257 * set + cl) * 13 + k ∧ (257 * set + cl) * 13 + k < (257 * set + 257) * 13 := by omega
  generalize hLe : (257 * set + cl) * 13 + k = L at hL
  refine ⟨fun _ => ?_, fun z => absurd rfl z⟩
  rw [show o + (a + m) = o + a + m by omega]
  refine sp_Mo_name (md := md) hs hB.2 hset hcl hk hb p1 p2 p3 (fun hn => ?_) (fun ps2 PF2 PL2 PA2 PS2 code hmp hpc hM2 hl2 hs2 hof hf2 hpa => ?_)
  · refine ⟨fun _ => hF 3 _ _ Fr_refl (hE _ ?_), fun z => absurd rfl z⟩
    unfold Gos mName
    rw [hDp, hm, hn]
  refine ⟨fun z => absurd z (by decide), fun _ => ?_⟩
  have hpre : Pre ps ps2 ∧ (¬ md = 0 → ps2 = ps) := by
    rcases hpa with ⟨e, -, -⟩ | ⟨e0, e, -⟩
    · exact ⟨by rw [e]; exact Pre_refl, fun _ => e⟩
    · exact ⟨by rw [e]; exact Pre_app, fun z => absurd e0 z⟩
  have hps : ps2.length ≤ ps.length + 1 := by
    rcases hpa with ⟨e, -⟩ | ⟨-, e, -⟩ <;> rw [e] <;> simp
  have hN2 : PN md set ps2 PA2 := by
    intro z i hi
    rcases hpa with ⟨e, e2, -⟩ | ⟨-, e, e2⟩
    · rw [e2]
      exact hN z i (by rw [e] at hi; exact hi)
    · rw [e2]
      by_cases q : i = ps.length
      · rw [q, upd_same]
      · rw [upd_ne (by omega)]
        rw [e] at hi
        simp at hi
        exact hN z i (by omega)
  have hfr : ∀ CN2 CV2 CF2 LT2, Fc set mc.length CN2 CV2 CF2 CN CV CF → At6 LT2 LT (6 * L) → Fr md set c0 lo (PF2, PL2, PA2, PS2, CN2, CV2, CF2, LC, upd LK L kind, upd LP L code, LT2) (PF, PL, PA, PS, CN, CV, CF, LC, LK, LP, LT) := by
    intro CN2 CV2 CF2 LT2 q1 q2
    refine ⟨fun j hj => ?_, fun j hj => ?_, Fc_trans Fc_refl q1 hlo, fun _ _ => rfl, fun j hj => ⟨by show upd LK L kind j = LK j; rw [upd_ne (by omega)], by show upd LP L code j = LP j; rw [upd_ne (by omega)]⟩, fun j hj => q2 j (by omega)⟩
    · rcases hpa with ⟨e, e2, e3, e4⟩ | ⟨e0, e, e2⟩
      · exact ⟨by show PF2 j = PF j; rw [e3], by show PL2 j = PL j; rw [e4], by show PA2 j = PA j; rw [e2]⟩
      · have z : ¬ j = 65 * set + ps.length := fun z => hj ⟨e0, by omega, by rw [e] at hl2; simp at hl2; omega⟩
        exact ⟨(hf2 j z).1, (hf2 j z).2, by show PA2 j = PA j; rw [e2, upd_ne z]⟩
    · by_cases z : j = set
      · by_cases z0 : md = 0
        · exact absurd ⟨z0, z⟩ hj
        · subst z
          show PS2 j = PS j
          rw [hs2, hpre.2 z0, p3]
      · exact hof j z
  have hpos := TK_pos (shf F o) n (a + m) hb
  obtain ⟨D1, hD1⟩ : ∃ D1 : Dt, D1 = (D.1, D.2.1, (kind, sl (shf F o) a m, a, np, []), D.2.2.2.1, ps2, D.2.2.2.2.2) := ⟨_, rfl⟩
  have hgo : ∀ r, Ends md (shf F o) n (2, 0, 0) D1 (a + m) r → St r := by
    intro r hr
    refine hE r ?_
    unfold Gos mName
    rw [hDp, hm, hmp, if_neg (by omega)]
    rw [hD1] at hr
    exact hr
  have st2 : mStep md (shf F o) n (2, 0, 0) D1 (a + m) = if (TK (shf F o) n (a + m)).1 = 6 then .inr (some ((3, 0, 0), D1, (TK (shf F o) n (a + m)).2.2.1)) else mShut md D1 (a + m) := by
    unfold mStep
    rfl
  rw [show o + a + m = o + (a + m) by omega]
  rw [hLe]
  refine sp_Mo_nextR hs hB.1 hb (fun hbad tk2 fr2 to2 am2 => ?_) (fun tk2 fr2 to2 am2 hC => ?_)
  · refine ⟨fun _ => hF 1 _ _ (hfr CN CV CF LT Fc_refl (fun _ _ => rfl)) (hgo _ ?_), fun z => absurd rfl z⟩
    have n6 : ¬ (TK (shf F o) n (a + m)).1 = 6 := by rw [hbad]; decide
    refine Ends_go (k2 := a + m) (c2 := (if md = 2 then 11 else if md = 0 ∧ D1.2.1 = [] then 5 else 10, 0, 0)) (D2 := (D1.1, D1.2.1 ++ [D1.2.2.1], D1.2.2.1, D1.2.2.2.1, D1.2.2.2.2.1, D1.2.2.2.2.2)) (by rw [st2, if_neg n6]; rfl) (Ends_flt (step_bad ?_ ?_ hbad))
    · repeat' split
      all_goals decide
    · repeat' split
      all_goals decide
  refine ⟨fun z => absurd z (by decide), fun _ => ?_⟩
  have hD1v : D1.2.2.2.1 = vs := by rw [hD1]; exact hD
  refine sp_Mo_terms (D := D1) (md := md) hs hB hset hcl hk (by omega) hmc hb hC hG hD1v (fun z => by rw [hD1]; exact hD2 z) (by rw [hD1]) ?_ ?_
  · intro ts mc2 vs2 p tk3 fr3 to3 am3 CN2 CV2 CF2 LT2 TP2 VF2 VL2 hp hC2 hG2 hT at1 at2 hfc hts hml hex hE2 y35 h35
    rw [if_neg (by decide)] at h35
    subst h35
    rw [hLe] at hT at1
    refine hQ (kind, sl (shf F o) a m, a, np, ts) mc2 vs2 ps2 p tk3 fr3 to3 am3 PF2 PL2 PA2 PS2 CN2 CV2 CF2 (upd LK L kind) (upd LP L code) LT2 (upd LQ (13 * cl + k) (nI (o + a))) TP2 (upd LA (13 * cl + k) (nI ts.length)) VF2 VL2 rfl hts hp hC2 hG2 ⟨hM2, hl2, hs2⟩ hN2 ?_ ?_ hpre.1 hpre.2 hex (by omega) (hfr CN2 CV2 CF2 LT2 hfc at1) ?_
    · rw [hLe]
      refine ⟨?_, fun _ => ?_, fun z => absurd hkd z, ?_, fun z => hnp z, ?_, hT⟩
      · show upd LK L kind L = lkd kind
        rw [upd_same]
        rcases hkd with z | z <;> rw [z] <;> decide
      · show PC md ps2 (sl (shf F o) a m) (upd LP L code L)
        rw [upd_same]
        exact hpc
      · show upd LQ (13 * cl + k) (nI (o + a)) (13 * cl + k) = nI (o + a)
        rw [upd_same]
      · show upd LA (13 * cl + k) (nI ts.length) (13 * cl + k) = nI ts.length
        rw [upd_same]
    · rw [hLe]
      exact ⟨fun j hj => upd_ne hj, fun j hj => upd_ne hj, at1, fun j hj => upd_ne hj, fun _ _ => rfl, at2, fun j hj => upd_ne hj⟩
    · intro r hr
      refine hgo r (hE2 r ?_)
      rw [hD1]
      exact hr
  · intro c q u hu hend y35 h35
    rw [if_pos rfl] at h35
    subst h35
    obtain ⟨u1, u2, u3, u4, u5, u6, u7, u8, u9, u10, u11, u12, u13, u14⟩ := u
    rw [hLe] at hu
    exact hF c q _ (hfr _ _ _ _ hu.1 hu.2) (hgo _ hend)
end MAtom
