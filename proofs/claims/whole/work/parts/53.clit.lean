/-! pure: literals as the class holds them -/
/-- a term's code -/
def TQ (E : Con → Int32 → Prop) (t : Nat ⊕ Con) (x : Int32) : Prop := match t with
  | .inl v => x = nI v
  | .inr c => E c x
/-- kind, size, mask and terms of literal i -/
def LQ (E : Con → Int32 → Prop) (i : Nat) (l : Lt) (K Z M T : Nat → Int32) : Prop := K i = l.1 ∧ Z i = nI l.2.2.2.2.length ∧ MK (occ l) (M i) ∧ ∀ (j : Nat) (t : Tm), l.2.2.2.2[j]? = some t → TQ E t.1 (T (6 * i + j))
/-- codes: a program's constant while it is read; an atom's; a comparison's -/
def cdP (cn : List Con) (c : Con) (x : Int32) : Prop := ∃ i : Nat, cn[i]? = some c ∧ x = nI (16 + i)
def cdA (cn : List Con) (rk : Nat → Nat) (c : Con) (x : Int32) : Prop := (∃ q, q < cn.length ∧ cg cn (rk q) = c ∧ x = nI (16 + q)) ∨ (c ∉ cn ∧ x = nI 16)
def cdC (cn : List Con) (rk : Nat → Nat) (c : Con) (x : Int32) : Prop := (∃ q, q < cn.length ∧ cg cn (rk q) = c ∧ x = nI (16 + (2 * q + 1))) ∨ (∃ lo, lo ≤ cn.length ∧ (∀ q, q < lo → cc (cg cn (rk q)) c < 0) ∧ (∀ q, lo ≤ q → q < cn.length → 0 < cc (cg cn (rk q)) c) ∧ x = nI (16 + 2 * lo))
section CLit
variable {E : Con → Int32 → Prop} {i : Nat} {l : Lt} {K P Pl Z M T K2 P2 Pl2 Z2 M2 T2 : Nat → Int32}
theorem TQ_mono {E2 : Con → Int32 → Prop} {t : Nat ⊕ Con} {x : Int32} (h : ∀ c x, E c x → E2 c x) (q : TQ E t x) : TQ E2 t x := by
  cases t with
  | inl v => exact q
  | inr c => exact h c x q
theorem LQ_mono {E2 : Con → Int32 → Prop} (h : ∀ c x, E c x → E2 c x) (q : LQ E i l K Z M T) : LQ E2 i l K Z M T := ⟨q.1, q.2.1, q.2.2.1, fun j t hj => TQ_mono h (q.2.2.2 j t hj)⟩
theorem LQ_cong (h : LQ E i l K Z M T) (h6 : l.2.2.2.2.length ≤ 6) (e1 : K2 i = K i) (e2 : Z2 i = Z i) (e3 : M2 i = M i) (e4 : ∀ j, j < 6 → T2 (6 * i + j) = T (6 * i + j)) : LQ E i l K2 Z2 M2 T2 := by
  refine ⟨by rw [e1]; exact h.1, by rw [e2]; exact h.2.1, by rw [e3]; exact h.2.2.1, fun j t hj => ?_⟩
  have := (List.getElem?_eq_some_iff.mp hj).1
  rw [e4 j (by omega)]
  exact h.2.2.2 j t hj
theorem LQ_open {w : Wd} {a np : Nat} {kd : Int32} : LQ E i (kd, w, a, np, []) (upd K i kd) (upd Z i 0) (upd M i 0) T := by
  refine ⟨upd_same, ?_, ?_, fun j t hj => (by cases hj)⟩
  · rw [upd_same]
    rfl
  · rw [upd_same]
    refine MK_0 (fun v z => ?_)
    obtain ⟨t, ht, -⟩ := z
    cases ht
theorem occ_push {t : Tm} {v : Nat} : occ (pushT l t) v ↔ (occ l v ∨ t.1 = Sum.inl v) := by
  unfold occ pushT
  constructor
  · rintro ⟨u, hu, e⟩
    rcases List.mem_append.mp hu with q | q
    · exact Or.inl ⟨u, q, e⟩
    · rw [List.mem_singleton.mp q] at e
      exact Or.inr e
  · rintro (⟨u, hu, e⟩ | e)
    · exact ⟨u, List.mem_append_left _ hu, e⟩
    · exact ⟨t, List.mem_append_right _ (List.mem_singleton.mpr rfl), e⟩
theorem LQ_var {v a m : Nat} (h : LQ E i l K Z M T) (hm : l.2.2.2.2.length = m) (hv : v < 16) : LQ E i (pushT l (Sum.inl v, a)) K (upd Z i (nI (m + 1))) (upd M i (M i ||| ((1 : Int32) <<< (nI v &&& 31)))) (upd T (6 * i + m) (nI v)) := by
  refine ⟨h.1, ?_, ?_, fun j t hj => ?_⟩
  · rw [upd_same]
    show _ = nI (l.2.2.2.2 ++ [((Sum.inl v, a) : Tm)]).length
    rw [List.length_append, hm]
    rfl
  · rw [upd_same]
    refine MK_iff (MK_or h.2.2.1 hv) (fun w _ => ?_)
    rw [occ_push]
    constructor
    · rintro (q | q)
      · exact Or.inl q
      · exact Or.inr (by rw [q])
    · rintro (q | q)
      · exact Or.inl q
      · exact Or.inr (Sum.inl.inj q)
  · have hj2 : (l.2.2.2.2 ++ [((Sum.inl v, a) : Tm)])[j]? = some t := hj
    rcases Nat.lt_or_ge j m with q | q
    · rw [List.getElem?_append_left (by omega)] at hj2
      rw [upd_ne (by omega)]
      exact h.2.2.2 j t hj2
    · have := (List.getElem?_eq_some_iff.mp hj2).1
      rw [List.length_append] at this
      simp only [List.length_singleton] at this
      obtain rfl : j = m := by omega
      rw [List.getElem?_append_right (by omega), hm, Nat.sub_self] at hj2
      obtain rfl : ((Sum.inl v, a) : Tm) = t := by simpa using hj2
      rw [upd_same]
      rfl
theorem LQ_con {c : Con} {a m : Nat} {x : Int32} (h : LQ E i l K Z M T) (hm : l.2.2.2.2.length = m) (hx : E c x) : LQ E i (pushT l (Sum.inr c, a)) K (upd Z i (nI (m + 1))) M (upd T (6 * i + m) x) := by
  refine ⟨h.1, ?_, ?_, fun j t hj => ?_⟩
  · rw [upd_same]
    show _ = nI (l.2.2.2.2 ++ [((Sum.inr c, a) : Tm)]).length
    rw [List.length_append, hm]
    rfl
  · refine MK_iff h.2.2.1 (fun w _ => ?_)
    rw [occ_push]
    exact ⟨Or.inl, fun q => q.elim id (fun z => by cases z)⟩
  · have hj2 : (l.2.2.2.2 ++ [((Sum.inr c, a) : Tm)])[j]? = some t := hj
    rcases Nat.lt_or_ge j m with q | q
    · rw [List.getElem?_append_left (by omega)] at hj2
      rw [upd_ne (by omega)]
      exact h.2.2.2 j t hj2
    · have := (List.getElem?_eq_some_iff.mp hj2).1
      rw [List.length_append] at this
      simp only [List.length_singleton] at this
      obtain rfl : j = m := by omega
      rw [List.getElem?_append_right (by omega), hm, Nat.sub_self] at hj2
      obtain rfl : ((Sum.inr c, a) : Tm) = t := by simpa using hj2
      rw [upd_same]
      exact hx
/-- all constants are the program's -/
def cIn (cn : List Con) (l : Lt) : Prop := ∀ t ∈ l.2.2.2.2, ∀ c, t.1 = Sum.inr c → c ∈ cn
/-- a comparison's codes -/
def CmF (cn : List Con) (rk : Nat → Nat) (i : Nat) (l : Lt) (T : Nat → Int32) : Prop := ((∃ v, occ l v) → ∀ (j : Nat) (t : Tm), l.2.2.2.2[j]? = some t → TQ (cdC cn rk) t.1 (T (6 * i + j))) ∧ (∀ c d p q, l.2.2.2.2 = [(Sum.inr c, p), (Sum.inr d, q)] → ∃ a b : Nat, a < 5000 ∧ b < 5000 ∧ T (6 * i) = nI (16 + a) ∧ T (6 * i + 1) = nI (16 + b) ∧ (a < b ↔ cc c d < 0) ∧ (a = b ↔ cc c d = 0))
/-- a program's literal while it is read -/
def CL0 (ps : List Wd) (cn : List Con) (i : Nat) (l : Lt) (K P Pl Z M T : Nat → Int32) : Prop := LQ (cdP cn) i l K Z M T ∧ (l.1 = 1 → Pl i = nI l.2.2.2.1) ∧ (isA l → ∃ p : Nat, ps[p]? = some l.2.1 ∧ P i = nI p)
/-- a literal that can be solved -/
def CLf (ps : List Wd) (cn : List Con) (rk : Nat → Nat) (i : Nat) (l : Lt) (K P Z M T : Nat → Int32) : Prop := K i = l.1 ∧ Z i = nI l.2.2.2.2.length ∧ MK (occ l) (M i) ∧ (isA l → ((∃ p : Nat, ps[p]? = some l.2.1 ∧ P i = nI p ∧ cIn cn l) ∨ (P i = -1 ∧ ¬ (l.2.1 ∈ ps ∧ cIn cn l))) ∧ ∀ (j : Nat) (t : Tm), l.2.2.2.2[j]? = some t → TQ (cdA cn rk) t.1 (T (6 * i + j))) ∧ (¬ isA l → CmF cn rk i l T)
def CLm (md : Nat) (ps : List Wd) (cn : List Con) (rk : Nat → Nat) (i : Nat) (l : Lt) (K P Pl Z M T : Nat → Int32) : Prop := if md = 0 then CL0 ps cn i l K P Pl Z M T else CLf ps cn rk i l K P Z M T
theorem CmF_cong {cn : List Con} {rk : Nat → Nat} (h : CmF cn rk i l T) (h6 : l.2.2.2.2.length ≤ 6) (e4 : ∀ j, j < 6 → T2 (6 * i + j) = T (6 * i + j)) : CmF cn rk i l T2 := by
  refine ⟨fun hv j t hj => ?_, fun c d p q e => ?_⟩
  · have := (List.getElem?_eq_some_iff.mp hj).1
    rw [e4 j (by omega)]
    exact h.1 hv j t hj
  · obtain ⟨a, b, h1, h2, h3, h4, h5, h6⟩ := h.2 c d p q e
    refine ⟨a, b, h1, h2, ?_, ?_, h5, h6⟩
    · have := e4 0 (by omega)
      rw [Nat.add_zero] at this
      rw [this]
      exact h3
    · rw [e4 1 (by omega)]
      exact h4
theorem CLm_cong {md : Nat} {ps : List Wd} {cn : List Con} {rk : Nat → Nat} (h : CLm md ps cn rk i l K P Pl Z M T) (h6 : l.2.2.2.2.length ≤ 6) (e1 : K2 i = K i) (e5 : P2 i = P i) (e6 : Pl2 i = Pl i) (e2 : Z2 i = Z i) (e3 : M2 i = M i) (e4 : ∀ j, j < 6 → T2 (6 * i + j) = T (6 * i + j)) : CLm md ps cn rk i l K2 P2 Pl2 Z2 M2 T2 := by
  unfold CLm at h ⊢
  by_cases hmd : md = 0
  · rw [if_pos hmd] at h ⊢
    exact ⟨LQ_cong h.1 h6 e1 e2 e3 e4, by rw [e6]; exact h.2.1, by rw [e5]; exact h.2.2⟩
  · rw [if_neg hmd] at h ⊢
    obtain ⟨h1, h2, h3, h4, h5⟩ := h
    refine ⟨by rw [e1]; exact h1, by rw [e2]; exact h2, by rw [e3]; exact h3, fun hA => ⟨by rw [e5]; exact (h4 hA).1, fun j t hj => ?_⟩, fun hA => CmF_cong (h5 hA) h6 e4⟩
    have := (List.getElem?_eq_some_iff.mp hj).1
    rw [e4 j (by omega)]
    exact (h4 hA).2 j t hj
theorem cdP_app {cn : List Con} {d c : Con} {x : Int32} (h : cdP cn c x) : cdP (cn ++ [d]) c x := by
  obtain ⟨i, hi, e⟩ := h
  refine ⟨i, ?_, e⟩
  rw [List.getElem?_append_left (List.getElem?_eq_some_iff.mp hi).1]
  exact hi
end CLit
