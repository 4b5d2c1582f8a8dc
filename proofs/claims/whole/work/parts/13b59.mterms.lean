/-! pure: the model's list of terms, as the machine takes it -/
/-- the terms of a literal as the model holds them -/
def TR (mc : List Con) (o L l2 : Nat) (LT TP : Nat → Int32) (ts : List Tm) : Prop := ∀ (j : Nat) (t : Tm), ts[j]? = some t → TC mc t.1 (LT (6 * L + j)) ∧ TP (6 * l2 + j) = nI (o + t.2)
def MG (md set : Nat) (F : Nat → Int32) (mc : List Con) (vs : List (Option Wd)) (CN CV CF VF VL : Nat → Int32) : Prop := MCo (asksOf md) mc (1100 * set) CN CV CF F ∧ MV vs VF VL F ∧ vs.length ≤ 12 ∧ Cap md mc
/-- arrays that differ at most in six places from x on -/
def At6 (A B : Nat → Int32) (x : Nat) : Prop := ∀ j, ¬ (x ≤ j ∧ j < x + 6) → A j = B j
theorem TC_ext {mc mc2 : List Con} {t : Nat ⊕ Con} {x : Int32} (h : ∀ (id : Nat) (c : Con), mc[id]? = some c → mc2[id]? = some c) (q : TC mc t x) : TC mc2 t x := by
  cases t with
  | inl j => exact q
  | inr c =>
    obtain ⟨id, h1, h2⟩ := q
    exact ⟨id, h id c h1, h2⟩
theorem TR_add {mc mc2 : List Con} {o L l2 : Nat} {LT TP : Nat → Int32} {ts : List Tm} {t : Tm} {x : Int32} (h : TR mc o L l2 LT TP ts) (he : ∀ (id : Nat) (c : Con), mc[id]? = some c → mc2[id]? = some c) (ht : TC mc2 t.1 x) : TR mc2 o L l2 (upd LT (6 * L + ts.length) x) (upd TP (6 * l2 + ts.length) (nI (o + t.2))) (ts ++ [t]) := by
  intro j t2 hj
  rcases Nat.lt_or_ge j ts.length with g | g
  · rw [List.getElem?_append_left g] at hj
    obtain ⟨h1, h2⟩ := h j t2 hj
    rw [upd_ne (by omega), upd_ne (by omega)]
    exact ⟨TC_ext he h1, h2⟩
  · have h2 := (List.getElem?_eq_some_iff.mp hj).1
    rw [List.length_append, List.length_singleton] at h2
    obtain rfl : j = ts.length := by omega
    rw [List.getElem?_append_right (Nat.le_refl _), Nat.sub_self] at hj
    obtain rfl : t = t2 := by simpa using hj
    rw [upd_same, upd_same]
    exact ⟨ht, rfl⟩
theorem At6_add {A B : Nat → Int32} {x i : Nat} {v : Int32} (h : At6 A B x) (hi : i < 6) : At6 (upd A (x + i) v) B x := by
  intro j hj
  rw [upd_ne (by omega)]
  exact h j hj
/-- the open literal with these terms -/
def withT (l : Lt) (ts : List Tm) : Lt := (l.1, l.2.1, l.2.2.1, l.2.2.2.1, ts)
/-- the machine's data with an open literal, variables and constants put in -/
def putD (md : Nat) (D : Dt) (ts : List Tm) (vs : List (Option Wd)) (mc : List Con) : Dt := (D.1, D.2.1, withT D.2.2.1 ts, vs, D.2.2.2.2.1, if md = 0 then mc else D.2.2.2.2.2)
abbrev U14 : Type := Int32 × Int32 × Int32 × Int64 × Int32 × Int32 × (Nat → Int32) × (Nat → Int32) × (Nat → Int32) × (Nat → Int32) × (Nat → Int32) × (Nat → Int32) × (Nat → Int32) × (Nat → Int32)
/-- at a fault the other constants and terms stay as they were -/
def FrU (set lo L : Nat) (CN CV CF LT : Nat → Int32) (u : U14) : Prop := Fc set lo u.2.2.2.2.2.2.1 u.2.2.2.2.2.2.2.1 u.2.2.2.2.2.2.2.2.1 CN CV CF ∧ At6 u.2.2.2.2.2.2.2.2.2.1 LT (6 * L)
section MTerms
variable {post : Int32 → (Int32 × Int32 × Int32 × Int32 × Int32 × Int64 × Int32 × Int32 × (Nat → Int32) × (Nat → Int32) × (Nat → Int32) × (Nat → Int32) × (Nat → Int32) × (Nat → Int32) × (Nat → Int32) × (Nat → Int32)) → Prop} {n o set cl k md : Nat} {fc fp : Int32} {F LA CN0 CV0 CF0 LT0 TP0 : Nat → Int32} {D : Dt} {mc0 : List Con} {St : ((Nat × Nat) ⊕ Dt) → Prop}
/-- what the model leaves behind the terms of an atom -/
def TsQ (post : Int32 → (Int32 × Int32 × Int32 × Int32 × Int32 × Int64 × Int32 × Int32 × (Nat → Int32) × (Nat → Int32) × (Nat → Int32) × (Nat → Int32) × (Nat → Int32) × (Nat → Int32) × (Nat → Int32) × (Nat → Int32)) → Prop) (md n o set cl k : Nat) (fc fp : Int32) (F LA CN0 CV0 CF0 LT0 TP0 : Nat → Int32) (D : Dt) (mc0 : List Con) (St : ((Nat × Nat) ⊕ Dt) → Prop) : Prop :=
  ∀ ts mc vs p tk fr to am CN CV CF LT TP VF VL, p ≤ n → Cur (shf F o) n o p tk fr to am → MG md set F mc vs CN CV CF VF VL → TR mc o ((257 * set + cl) * 13 + k) (13 * cl + k) LT TP ts → At6 LT LT0 (6 * ((257 * set + cl) * 13 + k)) → At6 TP TP0 (6 * (13 * cl + k)) → Fc set mc0.length CN CV CF CN0 CV0 CF0 → ts.length ≤ 6 → mc.length ≤ mc0.length + ts.length → (∀ (id : Nat) (c : Con), mc0[id]? = some c → mc[id]? = some c) →
    (∀ r, Ends md (shf F o) n (if md = 2 then 11 else if md = 0 ∧ D.2.1 = [] then 5 else 10, 0, 0) (D.1, D.2.1 ++ [withT D.2.2.1 ts], withT D.2.2.1 ts, vs, D.2.2.2.2.1, if md = 0 then mc else D.2.2.2.2.2) p r → St r) →
    post 1 (fc, fp, tk, fr, to, am, nI mc.length, nI vs.length, CN, CV, CF, LT, TP, upd LA (13 * cl + k) (nI ts.length), VF, VL)
theorem terms_108 {mc : List Con} {vs : List (Option Wd)} {ts : List Tm} {tk fr to : Int32} {am : Int64} {CN CV CF LT TP VF VL : Nat → Int32} {p : Nat} (hcl : cl < 257) (hk : k < 13) (hQ : TsQ post md n o set cl k fc fp F LA CN0 CV0 CF0 LT0 TP0 D mc0 St) (hp : p ≤ n) (hC : Cur (shf F o) n o p tk fr to am) (hG : MG md set F mc vs CN CV CF VF VL) (hT : TR mc o ((257 * set + cl) * 13 + k) (13 * cl + k) LT TP ts) (a1 : At6 LT LT0 (6 * ((257 * set + cl) * 13 + k))) (a2 : At6 TP TP0 (6 * (13 * cl + k))) (hfc : Fc set mc0.length CN CV CF CN0 CV0 CF0) (hts : ts.length ≤ 6) (hmc : mc.length ≤ mc0.length + ts.length) (hex : ∀ (id : Nat) (c : Con), mc0[id]? = some c → mc[id]? = some c)
    (hE : ∀ r, Ends md (shf F o) n (if md = 2 then 11 else if md = 0 ∧ D.2.1 = [] then 5 else 10, 0, 0) (D.1, D.2.1 ++ [withT D.2.2.1 ts], withT D.2.2.1 ts, vs, D.2.2.2.2.1, if md = 0 then mc else D.2.2.2.2.2) p r → St r) :
    jw_met_Mo_terms_108 post (nI cl) (nI k) LA (fc, fp, tk, fr, to, am, nI mc.length, nI vs.length, CN, CV, CF, LT, TP, VF, VL, nI ts.length) := by
  intro y81 h81 y82 h82
  rw [show (13 : Int32) = nI 13 from rfl, pk_mul] at h81
  rw [h81, nI_add] at h82
  subst h82
  refine ⟨vp_in_nI (by omega) (by omega), fun g84 h84 => ?_⟩
  rw [nI_clamp (by omega)] at h84
  rw [h84]
  exact hQ ts mc vs p tk fr to am CN CV CF LT TP VF VL hp hC hG hT a1 a2 hfc hts hmc hex hE
theorem step_TE {G : Nat → Int32} {D1 : Dt} {q : Nat} : mStep md G n (4, 0, 0) D1 q = if (TK G n q).1 = 1 then .inl (1, (TK G n q).2.1) else if (TK G n q).1 = 8 then .inr (some ((3, 0, 0), D1, (TK G n q).2.2.1)) else if (TK G n q).1 = 7 then mShut md D1 (TK G n q).2.2.1 else .inl (2, (TK G n q).2.1) := by
  unfold mStep
  rfl
theorem step_T {G : Nat → Int32} {D1 : Dt} {q : Nat} : mStep md G n (3, 0, 0) D1 q = if (TK G n q).1 = 1 then .inl (1, (TK G n q).2.1) else if ¬ (isT (TK G n q).1 = true ∧ ¬ ((TK G n q).1 = 3 ∧ md = 2)) then .inl (2, (TK G n q).2.1) else if D1.2.2.1.2.2.2.2.length = 6 then .inl (3, (TK G n q).2.1) else (match mTerm md G D1 (TK G n q).1 (TK G n q).2.1 (TK G n q).2.2.1 (TK G n q).2.2.2 with
      | some D2 => .inr (some ((4, 0, 0), D2, (TK G n q).2.2.1))
      | none => .inl (3, (TK G n q).2.1)) := by
  unfold mStep
  rfl
end MTerms
