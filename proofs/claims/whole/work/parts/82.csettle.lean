/-! pure: the class's program is settled: codes by rank -/
/-- a constant's code by rank, in an atom or in a comparison -/
def cdR (cn : List Con) (rk : Nat → Nat) (at1 : Int32) (c : Con) (x : Int32) : Prop := ∃ q : Nat, q < cn.length ∧ cg cn (rk q) = c ∧ x = nI (16 + (if at1 = 0 then 2 * q + 1 else q))
section CSe
variable {cn : List Con} {rk : Nat → Nat} {V BR R : Nat → Int32}
theorem pred_lt {n i : Nat} (hn : n < 1000000) (hi : i < 1000000) : nI n - 1 < nI i ↔ n ≤ i := by
  cases n with
  | zero =>
    constructor
    · intro _
      omega
    · intro _
      rw [Int32.lt_iff_toInt_lt, nI_toInt (by omega)]
      have : (nI 0 - 1).toInt = -1 := by decide
      omega
  | succ m =>
    rw [nI_pred, Int32.lt_iff_toInt_lt, nI_toInt (by omega), nI_toInt (by omega)]
    omega
theorem tm_21 {post : (Nat → Int32) → Prop} {i : Nat} {l : Lt} {Z T : Nat → Int32} {at1 : Int32} (hC : CoR cn rk V BR) (hcn : cn.length ≤ 1000) (hR : ∀ q, q < cn.length → R (rk q) = nI q) (hi : i < 3328) (hZ : Z i = nI l.2.2.2.2.length) (h6 : l.2.2.2.2.length ≤ 6) (hT : ∀ (j : Nat) (t : Tm), l.2.2.2.2[j]? = some t → TQ (cdP cn) t.1 (T (6 * i + j))) (hv : ∀ t ∈ l.2.2.2.2, ∀ v, t.1 = Sum.inl v → v < 12)
    (h : ∀ T2, (∀ (j : Nat) (t : Tm), l.2.2.2.2[j]? = some t → TQ (cdR cn rk at1) t.1 (T2 (6 * i + j))) → (∀ x, ¬ (6 * i ≤ x ∧ x < 6 * i + 6) → T2 x = T x) → post T2) : ∀ m j : Nat, j + m = l.2.2.2.2.length → ∀ T2, (∀ (j2 : Nat) (t : Tm), j2 < j → l.2.2.2.2[j2]? = some t → TQ (cdR cn rk at1) t.1 (T2 (6 * i + j2))) → (∀ x, ¬ (6 * i ≤ x ∧ x < 6 * i + j) → T2 x = T x) → lw_met_Pr_settleTerms_21 post (nI i) 3328 Z at1 1000 R 19968 (m + 1) (nI j, T2) := by
  intro m
  induction m with
  | zero =>
    intro j hj T2 h1 h2
    refine ⟨vp_in_nI hi (by omega), fun y8 h8 => ?_⟩
    rw [nI_clamp (by omega), hZ] at h8
    subst h8
    refine pk_le l.2.2.2.2.length j (fun _ => ?_) (fun q => absurd q (by omega))
    refine h T2 (fun j2 t hj2 => h1 j2 t ?_ hj2) (fun x hx => h2 x (by omega))
    have := (List.getElem?_eq_some_iff.mp hj2).1
    omega
  | succ m ih =>
    intro j hj T2 h1 h2
    refine ⟨vp_in_nI hi (by omega), fun y8 h8 => ?_⟩
    rw [nI_clamp (by omega), hZ] at h8
    subst h8
    refine pk_le l.2.2.2.2.length j (fun q => absurd q (by omega)) (fun _ => ?_)
    have hjl : j < l.2.2.2.2.length := by omega
    have hje := List.getElem?_eq_getElem hjl
    generalize l.2.2.2.2[j] = t at hje
    have ht := hT j t hje
    have hsame : T2 (6 * i + j) = T (6 * i + j) := h2 _ (by omega)
    intro y1 hy1 y2 hy2
    have ey : y2 = nI (6 * i + j) := by
      rw [hy2, hy1, show (6 : Int32) = nI 6 from rfl, pk_mul, nI_add, Nat.mul_comm]
    subst ey
    refine ⟨vp_in_nI (by omega) (by omega), fun y4 h4 => ?_⟩
    rw [nI_clamp (by omega), hsame] at h4
    have next : ∀ T3, TQ (cdR cn rk at1) t.1 (T3 (6 * i + j)) → (∀ x, ¬ x = 6 * i + j → T3 x = T2 x) → lw_met_Pr_settleTerms_21 post (nI i) 3328 Z at1 1000 R 19968 (m + 1) (nI j + 1, T3) := by
      intro T3 q1 q2
      rw [nI_1]
      refine ih (j + 1) (by omega) T3 (fun j2 t2 hj2 e2 => ?_) (fun x hx => ?_)
      · rcases Nat.lt_or_ge j2 j with z | z
        · rw [q2 _ (by omega)]
          exact h1 j2 t2 z e2
        · obtain rfl : j2 = j := by omega
          rw [hje] at e2
          obtain rfl := Option.some.inj e2
          exact q1
      · rw [q2 x (by omega)]
        exact h2 x (by omega)
    obtain ⟨x, p⟩ := t
    cases x with
    | inl v =>
      have hv12 := hv _ (List.mem_of_getElem? hje) v rfl
      have ev : T (6 * i + j) = nI v := ht
      rw [ev] at h4
      subst h4
      refine pk_lt v 16 (fun _ => ?_) (fun q => absurd q (by omega))
      refine next T2 ?_ (fun _ _ => rfl)
      show T2 (6 * i + j) = nI v
      rw [hsame]
      exact ev
    | inr c =>
      obtain ⟨id, e1, e2⟩ : ∃ id : Nat, cn[id]? = some c ∧ T (6 * i + j) = nI (16 + id) := ht
      have hid := (List.getElem?_eq_some_iff.mp e1).1
      obtain ⟨q, hq, eq⟩ := hC.2.2.2 id hid
      have ecg : cg cn (rk q) = c := by
        rw [eq]
        have := cg_at hid
        rw [e1] at this
        exact (Option.some.inj this).symm
      rw [e2] at h4
      subst h4
      refine pk_lt (16 + id) 16 (fun q => absurd q (by omega)) (fun _ => ?_)
      intro y10 h10
      rw [show (16 : Int32) = nI 16 from rfl, pk_sub (by omega), Nat.add_sub_cancel_left] at h10
      subst h10
      refine ⟨vp_in_nI (by omega) (by omega), fun y11 h11 => ?_⟩
      have e11 := hR q hq
      rw [eq] at e11
      rw [nI_clamp (by omega), e11] at h11
      subst h11
      have put : ∀ y14 : Int32, y14 = nI (if at1 = 0 then 2 * q + 1 else q) → jw_met_Pr_settleTerms_80 post (fun x9 => lw_met_Pr_settleTerms_21 post (nI i) 3328 Z at1 1000 R 19968 (m + 1) x9) (nI j) 19968 (nI i) T2 y14 := by
        intro y14 h14 y15 h15 w1 hw1 w2 hw2
        have ew : w2 = nI (6 * i + j) := by
          rw [hw2, hw1, show (6 : Int32) = nI 6 from rfl, pk_mul, nI_add, Nat.mul_comm]
        subst ew
        refine ⟨vp_in_nI (by omega) (by omega), fun g4 hg4 => ?_⟩
        rw [nI_clamp (by omega)] at hg4
        subst hg4
        refine next _ ⟨q, hq, ecg, ?_⟩ (fun x hx => upd_ne hx)
        rw [upd_same, h15, h14, show (16 : Int32) = nI 16 from rfl, nI_add]
      refine ⟨fun z => ?_, fun z => ?_⟩
      · intro z1 hz1 z2 hz2
        refine put z2 ?_
        rw [if_pos z, hz2, hz1, show (2 : Int32) = nI 2 from rfl, pk_mul, nI_1]
      · refine put _ ?_
        rw [if_neg z]
end CSe
section CSs
variable {G : Nat → Int32} {ps : List Wd} {cn : List Con} {cs : List (List Lt)} {tz tl : Int32} {FF K P Pl Z M TT V BR ST0 R0 : Nat → Int32} {rk : Nat → Nat}
/-- a literal with its codes by rank -/
def LR1 (cn : List Con) (rk : Nat → Nat) (i : Nat) (l : Lt) (T : Nat → Int32) : Prop := ∀ (j : Nat) (t : Tm), l.2.2.2.2[j]? = some t → TQ (cdR cn rk (if l.1 = 0 ∨ l.1 = 1 then 1 else 0)) t.1 (T (6 * i + j))
theorem CLf_of {i : Nat} {l : Lt} {T : Nat → Int32} (hC : CoR cn rk V BR) (hcn : cn.length ≤ 1000) (h0 : CL0 ps cn i l K P Pl Z M TT) (hk : LtOk 0 G ps cn l) (hT : LR1 cn rk i l T) : CLf ps cn rk i l K P Z M T := by
  obtain ⟨h1, h2, h3⟩ := h0
  refine ⟨h1.1, h1.2.1, h1.2.2.1, fun hA => ⟨?_, fun j t hj => ?_⟩, fun hA => ⟨fun _ j t hj => ?_, fun c d p q e => ?_⟩⟩
  · obtain ⟨p, e1, e2⟩ := h3 hA
    exact Or.inl ⟨p, e1, e2, fun t ht c hc => (hk.2.2 t ht).2.2.1 rfl c hc⟩
  · have := hT j t hj
    rw [if_pos (show l.1 = 0 ∨ l.1 = 1 from hA)] at this
    refine TQ_mono (fun c x q => ?_) this
    obtain ⟨r, r1, r2, r3⟩ := q
    rw [if_neg (by decide)] at r3
    exact Or.inl ⟨r, r1, r2, r3⟩
  · have := hT j t hj
    rw [if_neg (show ¬ (l.1 = 0 ∨ l.1 = 1) from hA)] at this
    refine TQ_mono (fun c x q => ?_) this
    obtain ⟨r, r1, r2, r3⟩ := q
    rw [if_pos rfl] at r3
    exact Or.inl ⟨r, r1, r2, r3⟩
  · have t0 := hT 0 (Sum.inr c, p) (by rw [e]; rfl)
    have t1 := hT 1 (Sum.inr d, q) (by rw [e]; rfl)
    rw [if_neg (show ¬ (l.1 = 0 ∨ l.1 = 1) from hA)] at t0 t1
    obtain ⟨r, r1, r2, r3⟩ := t0
    obtain ⟨s, s1, s2, s3⟩ := t1
    rw [if_pos rfl] at r3 s3
    refine ⟨2 * r + 1, 2 * s + 1, by omega, by omega, r3, s3, ?_, ?_⟩
    · rw [← r2, ← s2]
      rcases Nat.lt_trichotomy r s with z | z | z
      · have := hC.2.2.1 r s z s1
        omega
      · subst z
        rw [cc_0.mpr rfl]
        omega
      · have w := hC.2.2.1 s r z r1
        rw [cc_neg] at w
        omega
    · rw [← r2, ← s2]
      rcases Nat.lt_trichotomy r s with z | z | z
      · have := hC.2.2.1 r s z s1
        omega
      · subst z
        rw [cc_0.mpr rfl]
        omega
      · have w := hC.2.2.1 s r z r1
        rw [cc_neg] at w
        omega
theorem fl_ok (hM : CT G ps cn cs tz FF K P) {i : Nat} {l : Lt} (h : cs.flatten[i]? = some l) : LtOk 0 G ps cn l ∧ i < 3328 := by
  have hm := List.mem_of_getElem? h
  obtain ⟨ls, h1, h2⟩ := List.mem_flatten.mp hm
  have hfl := flat_le cs (fun x hx => (hM.2.2.2.2.2.2 x hx).2.1)
  have hil := (List.getElem?_eq_some_iff.mp h).1
  have := hM.2.1
  exact ⟨(hM.2.2.2.2.2.2 ls h1).2.2.1 l h2, by omega⟩
theorem se_9 {post : (Int32 × (Nat → Int32) × (Nat → Int32) × (Nat → Int32)) → Prop} {R : Nat → Int32} {L : Nat → Nat} (hM : CT G ps cn cs tz FF K P) (htl : tl = nI cs.flatten.length) (hcl : ∀ (i : Nat) (l : Lt), cs.flatten[i]? = some l → CL0 ps cn i l K P Pl Z M TT) (hC : CoR cn rk V BR) (hcn : cn.length ≤ 1000) (hR : ∀ q, q < cn.length → R (rk q) = nI q) (hL64 : ∀ p, L p ≤ 64) (hL : Lst (EdC ps cs) L)
    (h : ∀ hi ST T2, StA L ST → ScQ ps L ps.length hi → (∀ (i : Nat) (l : Lt), cs.flatten[i]? = some l → CLf ps cn rk i l K P Z M T2) → post (nI hi, T2, ST, R)) : ∀ m i : Nat, i + m = cs.flatten.length → ∀ T2, (∀ (i2 : Nat) (l : Lt), i2 < i → cs.flatten[i2]? = some l → LR1 cn rk i2 l T2) → (∀ x, 6 * i ≤ x → T2 x = TT x) → lw_met_Pr_settle_9 post 3328 3328 19968 1000 K Z R tl ST0 257 3328 tz FF P (nI ps.length) (m + 1) (nI i, T2) := by
  have hfl := flat_le cs (fun x hx => (hM.2.2.2.2.2.2 x hx).2.1)
  have h256 := hM.2.1
  intro m
  induction m with
  | zero =>
    intro i hi T2 h1 h2 r6 h6
    rw [htl] at h6
    subst h6
    refine ⟨fun _ => ?_, fun z => absurd ((pred_lt (by omega) (by omega)).mpr (by omega)) z⟩
    refine sl_31 hM hL64 hL (fun hi2 ST a1 a2 => h hi2 ST T2 a1 a2 (fun i2 l e => ?_))
    have hil := (List.getElem?_eq_some_iff.mp e).1
    exact CLf_of hC hcn (hcl i2 l e) (fl_ok hM e).1 (h1 i2 l (by omega) e)
  | succ m ih =>
    intro i hi T2 h1 h2 r6 h6
    rw [htl] at h6
    subst h6
    refine ⟨fun z => absurd ((pred_lt (by omega) (by omega)).mp z) (by omega), fun _ => ?_⟩
    have hil : i < cs.flatten.length := by omega
    have hie := List.getElem?_eq_getElem hil
    generalize cs.flatten[i] = l at hie
    obtain ⟨k1, k2⟩ := fl_ok hM hie
    have c0 := hcl i l hie
    refine ⟨vp_in_nI (by omega) (by omega), fun y2 hy2 y3 hy3 => ?_⟩
    rw [nI_clamp (by omega), c0.1.1] at hy2
    subst hy2
    have e3 : y3 = if l.1 = 0 ∨ l.1 = 1 then 1 else 0 := by
      rw [hy3]
      by_cases hA : l.1 = 0 ∨ l.1 = 1
      · rw [if_pos hA, if_neg (fun w => (kd1 (kd_of k1)).mp w hA)]
      · rw [if_neg hA, if_pos ((kd1 (kd_of k1)).mpr hA)]
    refine ⟨_, tm_21 (l := l) (T := T2) (at1 := y3) (V := V) (BR := BR) hC hcn hR k2 c0.1.2.1 k1.2.1 (fun j t hj => ?_) (fun t ht v hv => ((k1.2.2 t ht).2.1 v hv).1) (fun T3 g1 g2 => ?_) l.2.2.2.2.length 0 (by omega) T2 (fun j2 t hj2 => absurd hj2 (by omega)) (fun x _ => rfl)⟩
    · rw [h2 _ (by omega)]
      exact c0.1.2.2.2 j t hj
    · rw [nI_1]
      refine ih (i + 1) (by omega) T3 (fun i2 l2 hi2 e2 j t hj => ?_) (fun x hx => ?_)
      · rcases Nat.lt_or_ge i2 i with z | z
        · have hj6 := (List.getElem?_eq_some_iff.mp hj).1
          have h66 := (fl_ok hM e2).1.2.1
          rw [g2 _ (by omega)]
          exact h1 i2 l2 z e2 j t hj
        · obtain rfl : i2 = i := by omega
          rw [hie] at e2
          obtain rfl := Option.some.inj e2
          have := g1 j t hj
          rw [e3] at this
          exact this
      · rw [g2 x (by omega)]
        exact h2 x (by omega)
theorem sp_settle {post : (Int32 × (Nat → Int32) × (Nat → Int32) × (Nat → Int32)) → Prop} (hM : CT G ps cn cs tz FF K P) (htl : tl = nI cs.flatten.length) (hcl : ∀ (i : Nat) (l : Lt), cs.flatten[i]? = some l → CL0 ps cn i l K P Pl Z M TT) (hC : CoR cn rk V BR) (hcn : cn.length ≤ 1000) (hn : ∀ c j, ¬ Flg ps cs c j)
    (h : ∀ L hi ST T2 R, Lst (EdC ps cs) L → (∀ p, L p ≤ 64) → StA L ST → ScQ ps L ps.length hi → (∀ (i : Nat) (l : Lt), cs.flatten[i]? = some l → CLf ps cn rk i l K P Z M T2) → post (nI hi, T2, ST, R)) : wp_met_Pr_settle post 257 3328 3328 3328 19968 1000 1000 tz tl FF K P Z TT (nI ps.length) ST0 (nI cn.length) BR R0 := by
  obtain ⟨L, hL, hL64⟩ := CT_lst hM hn
  refine sp_Co_setRanks hC hcn (by omega) (fun R2 q1 q2 => ?_)
  exact ⟨_, se_9 hM htl hcl hC hcn q1 hL64 hL (fun hi ST T2 a1 a2 a3 => h L hi ST T2 R2 hL hL64 a1 a2 a3) cs.flatten.length 0 (by omega) TT (fun i2 l hi2 => absurd hi2 (by omega)) (fun x _ => rfl)⟩
end CSs
