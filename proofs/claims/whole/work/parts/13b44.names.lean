/-! pure: words and tables of words -/
def sl (F : Nat → Int32) : Nat → Nat → List Int32
  | _, 0 => []
  | a, l + 1 => F a :: sl F (a + 1) l
theorem sl_len (F : Nat → Int32) : ∀ l a, (sl F a l).length = l := by
  intro l
  induction l with
  | zero => intro a; rfl
  | succ l ih => intro a; simp [sl, ih]
theorem sl_eq {F G : Nat → Int32} : ∀ (l a b : Nat), (∀ j, j < l → F (a + j) = G (b + j)) → sl F a l = sl G b l := by
  intro l
  induction l with
  | zero => intro a b h; rfl
  | succ l ih =>
    intro a b h
    have h0 := h 0 (by omega)
    simp only [Nat.add_zero] at h0
    unfold sl
    rw [h0, ih (a + 1) (b + 1) (fun j hj => by have := h (j + 1) (by omega); rw [show a + 1 + j = a + (j + 1) by omega, show b + 1 + j = b + (j + 1) by omega]; exact this)]
theorem sl_at {F G : Nat → Int32} : ∀ (l a b : Nat), sl F a l = sl G b l → ∀ j, j < l → F (a + j) = G (b + j) := by
  intro l
  induction l with
  | zero => intro a b h j hj; exact absurd hj (by omega)
  | succ l ih =>
    intro a b h j hj
    unfold sl at h
    obtain ⟨h1, h2⟩ := List.cons.inj h
    cases j with
    | zero => exact h1
    | succ j =>
      have := ih (a + 1) (b + 1) h2 j (by omega)
      rw [show a + (j + 1) = a + 1 + j by omega, show b + (j + 1) = b + 1 + j by omega]
      exact this
theorem sl_mem {F : Nat → Int32} : ∀ (l a : Nat) {x : Int32}, x ∈ sl F a l → ∃ j, j < l ∧ x = F (a + j) := by
  intro l
  induction l with
  | zero => intro a x h; exact absurd h (by simp [sl])
  | succ l ih =>
    intro a x h
    unfold sl at h
    rcases List.mem_cons.mp h with h | h
    · exact ⟨0, by omega, h⟩
    · obtain ⟨j, h1, h2⟩ := ih (a + 1) h
      exact ⟨j + 1, by omega, by rw [h2, show a + 1 + j = a + (j + 1) by omega]⟩
theorem sl_in {F : Nat → Int32} : ∀ (l a : Nat) {j : Nat}, j < l → F (a + j) ∈ sl F a l := by
  intro l
  induction l with
  | zero => intro a j hj; exact absurd hj (by omega)
  | succ l ih =>
    intro a j hj
    unfold sl
    cases j with
    | zero => exact List.mem_cons_self
    | succ j =>
      refine List.mem_cons_of_mem _ ?_
      have := ih (a + 1) (j := j) (by omega)
      rw [show a + (j + 1) = a + 1 + j by omega]
      exact this
theorem sp_isSame_lp {post : Int32 → Unit → Prop} {F : Nat → Int32} {a b l : Nat} (ha : a + l ≤ 196608) (hb : b + l ≤ 196608) (h : post (b01 (decide (sl F a l = sl F b l))) ()) : ∀ d k : Nat, k + d = l → (∀ j, j < k → F (a + j) = F (b + j)) → lw_met_Mo_isSame_3 post (nI l) (nI a) F (nI b) (d + 1) (nI k) := by
  intro d
  induction d with
  | zero =>
    intro k hk he
    refine pk_le l k (fun _ => ?_) (fun q => absurd q (by omega))
    have e : sl F a l = sl F b l := sl_eq l a b (fun j hj => he j (by omega))
    rw [decide_eq_true e] at h
    exact h
  | succ d ih =>
    intro k hk he
    refine pk_le l k (fun q => absurd q (by omega)) (fun _ => ?_)
    intro y3 h3
    rw [nI_add] at h3
    subst h3
    refine ⟨vp_in_nI (by omega) (by omega), fun y5 h5 y6 h6 => ?_⟩
    rw [nI_add] at h6
    subst h6
    rw [nI_clamp (by omega)] at h5
    refine ⟨vp_in_nI (by omega) (by omega), fun y8 h8 => ?_⟩
    rw [nI_clamp (by omega)] at h8
    subst h5 h8
    refine ⟨fun q => ?_, fun q => ?_⟩
    · rw [nI_1]
      refine ih (k + 1) (by omega) (fun j hj => ?_)
      rcases Nat.lt_or_ge j k with h1 | h1
      · exact he j h1
      · obtain rfl : j = k := by omega
        exact q
    · have e : ¬ sl F a l = sl F b l := fun z => q (sl_at l a b z k (by omega))
      rw [decide_eq_false e] at h
      exact h
theorem sp_Mo_isSame {post : Int32 → Unit → Prop} {F : Nat → Int32} {a b l : Nat} (ha : a + l ≤ 196608) (hb : b + l ≤ 196608) (h : post (b01 (decide (sl F a l = sl F b l))) ()) : wp_met_Mo_isSame post (nI a) (nI b) (nI l) F :=
  ⟨l + 1, sp_isSame_lp ha hb h l 0 (by omega) (fun j hj => absurd hj (by omega))⟩
/-- which of two words comes first: byte by byte, a beginning before what goes on -/
def cw : List Int32 → List Int32 → Int
  | [], [] => 0
  | [], _ :: _ => -1
  | _ :: _, [] => 1
  | x :: xs, y :: ys => if x = y then cw xs ys else if x < y then -1 else 1
theorem cw_0 : ∀ {x y : List Int32}, cw x y = 0 ↔ x = y
  | [], [] => by simp [cw]
  | [], _ :: _ => by simp [cw]
  | _ :: _, [] => by simp [cw]
  | x :: xs, y :: ys => by
    unfold cw
    by_cases h : x = y
    · rw [if_pos h, cw_0, h]
      simp
    · rw [if_neg h]
      constructor
      · intro q
        split at q <;> exact absurd q (by decide)
      · intro q
        exact absurd (List.cons.inj q).1 h
theorem sg_sub {x y r : Int32} (hx : byt x) (hy : byt y) (hr : r = x - y) : (r = 0 ↔ x = y) ∧ (¬ r = 0 → r.toInt.sign = if x < y then -1 else 1) := by
  obtain ⟨a1, a2⟩ := hx
  obtain ⟨b1, b2⟩ := hy
  have e := i_sub hr (by omega) (by omega)
  have z : (0 : Int32).toInt = 0 := by decide
  have e0 : r = 0 ↔ x = y := by
    rw [← Int32.toInt_inj, ← Int32.toInt_inj (x := x), z, e]
    omega
  refine ⟨e0, fun q => ?_⟩
  have ne : ¬ x.toInt = y.toInt := fun z9 => q (e0.mpr (Int32.toInt_inj.mp z9))
  by_cases l : x < y
  · have l' := Int32.lt_iff_toInt_lt.mp l
    rw [if_pos l, e]
    exact Int.sign_eq_neg_one_of_neg (by omega)
  · have l' : ¬ x.toInt < y.toInt := fun z9 => l (Int32.lt_iff_toInt_lt.mpr z9)
    rw [if_neg l, e]
    exact Int.sign_eq_one_of_pos (by omega)
section Cmp
variable {post : Int32 → Unit → Prop} {ns nl nt nb i a l b m : Nat} {fs fl ft fb : Nat → Int32}
theorem sp_cmp_lp (hi : i < nl) (hi2 : i < ns) (hnl : nl < 2147483648) (hns : ns < 2147483648) (hnt : nt < 1000000) (hnb : nb < 1000000) (hs : fs i = nI a) (hl : fl i = nI l) (h1 : a + l ≤ nt) (h2 : b + m ≤ nb) (b1 : ∀ j, j < l → byt (ft (a + j))) (b2 : ∀ j, j < m → byt (fb (b + j)))
    (h : ∀ r : Int32, r.toInt.sign = cw (sl ft a l) (sl fb b m) → post r ()) : ∀ d k : Nat, k + d = min l m → cw (sl ft a l) (sl fb b m) = cw (sl ft (a + k) (l - k)) (sl fb (b + k) (m - k)) → lw_met_Na_compare_27 post (nI (min l m)) (nI i) ns fs nt ft (nI b) nb fb nl fl (nI m) (d + 1) (nI k) := by
  have ci : (nI i).toNatClampNeg = i := nI_clamp (by omega)
  intro d
  induction d with
  | zero =>
    intro k hk he
    refine pk_le (min l m) k (fun _ => ?_) (fun q => absurd q (by omega))
    refine ⟨vp_in_nI hi (by omega), fun y18 h18 y19 h19 => ?_⟩
    rw [ci, hl] at h18
    subst h18
    have e : y19.toInt = (l : Int) - m := by rw [h19]; exact pk_sub_toInt (by omega) (by omega)
    refine h y19 ?_
    rw [he, e]
    rcases Nat.lt_trichotomy l m with q | q | q
    · have e1 : l - k = 0 := by omega
      obtain ⟨t, e2⟩ : ∃ t, m - k = t + 1 := ⟨m - k - 1, by omega⟩
      rw [e1, e2]
      exact Int.sign_eq_neg_one_of_neg (by omega)
    · have e1 : l - k = 0 := by omega
      have e2 : m - k = 0 := by omega
      rw [e1, e2, q]
      simp [sl, cw]
    · have e1 : m - k = 0 := by omega
      obtain ⟨t, e2⟩ : ∃ t, l - k = t + 1 := ⟨l - k - 1, by omega⟩
      rw [e1, e2]
      exact Int.sign_eq_one_of_pos (by omega)
  | succ d ih =>
    intro k hk he
    refine pk_le (min l m) k (fun q => absurd q (by omega)) (fun _ => ?_)
    refine ⟨vp_in_nI hi2 (by omega), fun y9 h9 y10 h10 => ?_⟩
    rw [ci, hs] at h9
    subst h9
    rw [nI_add] at h10
    subst h10
    refine ⟨vp_in_nI (by omega) (by omega), fun y12 h12 y13 h13 => ?_⟩
    rw [nI_clamp (by omega)] at h12
    rw [nI_add] at h13
    subst h13
    refine ⟨vp_in_nI (by omega) (by omega), fun y15 h15 y16 h16 => ?_⟩
    rw [nI_clamp (by omega)] at h15
    subst h12 h15
    have sg := sg_sub (b1 k (by omega)) (b2 k (by omega)) h16
    have e1 : l - k = (l - (k + 1)) + 1 := by omega
    have e2 : m - k = (m - (k + 1)) + 1 := by omega
    have e3 : cw (sl ft (a + k) (l - k)) (sl fb (b + k) (m - k)) = if ft (a + k) = fb (b + k) then cw (sl ft (a + (k + 1)) (l - (k + 1))) (sl fb (b + (k + 1)) (m - (k + 1))) else if ft (a + k) < fb (b + k) then -1 else 1 := by
      rw [e1, e2]
      rfl
    refine ⟨fun q => ?_, fun q => ?_⟩
    · rw [nI_1]
      refine ih (k + 1) (by omega) ?_
      rw [he, e3, if_pos (sg.1.mp q)]
    · refine h y16 ?_
      rw [he, e3, if_neg (fun z => q (sg.1.mpr z))]
      exact sg.2 q
theorem sp_Na_compare (hi : i < nl) (hi2 : i < ns) (hnl : nl < 2147483648) (hns : ns < 2147483648) (hnt : nt < 1000000) (hnb : nb < 1000000) (hs : fs i = nI a) (hl : fl i = nI l) (h1 : a + l ≤ nt) (h2 : b + m ≤ nb) (b1 : ∀ j, j < l → byt (ft (a + j))) (b2 : ∀ j, j < m → byt (fb (b + j)))
    (h : ∀ r : Int32, r.toInt.sign = cw (sl ft a l) (sl fb b m) → post r ()) : wp_met_Na_compare post ns nl nt nb (nI i) (nI b) (nI m) fs fl ft fb := by
  have ci : (nI i).toNatClampNeg = i := nI_clamp (by omega)
  refine ⟨vp_in_nI hi (by omega), fun y2 h2' => ?_⟩
  rw [ci, hl] at h2'
  subst h2'
  refine ⟨⟨fun _ => trivial, fun _ => ⟨vp_in_nI hi (by omega), trivial⟩⟩, fun y3 h3 => ?_⟩
  rw [ci, hl] at h3
  have e3 : y3 = nI (min l m) := by
    rw [h3]
    by_cases q : m ≤ l
    · rw [if_pos ((nI_leI (by omega) (by omega)).mpr q), Nat.min_eq_right q]
    · rw [if_neg (fun z => q ((nI_leI (by omega) (by omega)).mp z)), Nat.min_eq_left (by omega)]
  subst e3
  exact ⟨min l m + 1, sp_cmp_lp hi hi2 hnl hns hnt hnb hs hl h1 h2 b1 b2 h (min l m) 0 (by omega) rfl⟩
end Cmp
/-- a table of words as the class holds it -/
def NaR (ws : List (List Int32)) (u : Nat) (S L T : Nat → Int32) : Prop := ∀ i w, ws[i]? = some w → (∀ x ∈ w, byt x) ∧ ∃ a, S i = nI a ∧ L i = nI w.length ∧ a + w.length ≤ u ∧ sl T a w.length = w
/-- the first place of a thing in a list -/
def fw {α : Type} (w : α) (ws : List α) (r : Int32) : Prop := (∃ i : Nat, r = nI i ∧ ws[i]? = some w ∧ ∀ j : Nat, j < i → ¬ ws[j]? = some w) ∨ (r = -1 ∧ ∀ j : Nat, ¬ ws[j]? = some w)
section Find
variable {post : Int32 → Unit → Prop} {ws : List (List Int32)} {u ns nl nt nb b m : Nat} {fs fl ft fb : Nat → Int32}
theorem sp_find_lp (hN : NaR ws u fs fl ft) (hnl : nl < 2147483648) (hns : ns < 2147483648) (hnt : nt < 1000000) (hnb : nb < 1000000) (hu : u ≤ nt) (hw1 : ws.length ≤ nl) (hw2 : ws.length ≤ ns) (h2 : b + m ≤ nb) (b2 : ∀ j, j < m → byt (fb (b + j))) (h : ∀ r, fw (sl fb b m) ws r → post r ()) : ∀ d k : Nat, k + d = ws.length → (∀ j, j < k → ¬ ws[j]? = some (sl fb b m)) → lw_met_Na_find_3 post (nI ws.length) nl fl (nI m) ns nt nb (nI b) fs ft fb (d + 1) (nI k) := by
  intro d
  induction d with
  | zero =>
    intro k hk hno
    refine pk_le ws.length k (fun _ => ?_) (fun q => absurd q (by omega))
    refine h _ (Or.inr ⟨rfl, fun j hj => ?_⟩)
    have := (List.getElem?_eq_some_iff.mp hj).1
    exact hno j (by omega) hj
  | succ d ih =>
    intro k hk hno
    have hkl : k < ws.length := by omega
    have ck : (nI k).toNatClampNeg = k := nI_clamp (by omega)
    have hwk : ws[k]? = some ws[k] := List.getElem?_eq_getElem hkl
    obtain ⟨hbw, a, e1, e2, e3, e4⟩ := hN k _ hwk
    refine pk_le ws.length k (fun q => absurd q (by omega)) (fun _ => ⟨vp_in_nI (by omega) (by omega), fun y4 h4 => ?_⟩)
    rw [ck, e2] at h4
    subst h4
    have go : ¬ ws[k] = sl fb b m → lw_met_Na_find_3 post (nI ws.length) nl fl (nI m) ns nt nb (nI b) fs ft fb (d + 1) (nI k + 1) := by
      intro q
      rw [nI_1]
      refine ih (k + 1) (by omega) (fun j hj => ?_)
      rcases Nat.lt_or_ge j k with h9 | h9
      · exact hno j h9
      · obtain rfl : j = k := by omega
        rw [hwk]
        exact fun z => q (Option.some.inj z)
    have hlen : ws[k] = sl fb b m → (ws[k]).length = m := fun z => by rw [z, sl_len]
    refine ⟨fun q => ?_, fun q => go (fun z => q (by rw [hlen z]))⟩
    have hw31 : (ws[k]).length < 1000000 := by omega
    have q' : (ws[k]).length = m := by
      have := congrArg Int32.toInt q
      rw [nI_toInt (by omega), nI_toInt (by omega)] at this
      omega
    refine sp_Na_compare (a := a) (l := (ws[k]).length) (by omega) (by omega) hnl hns hnt hnb e1 e2 (by omega) h2 (fun j hj => ?_) b2 (fun r hr => ?_)
    · have h8 : ft (a + j) ∈ ws[k] := by
        rw [← e4]
        exact sl_in _ _ hj
      exact hbw _ h8
    · rw [e4] at hr
      refine ⟨fun q0 => ?_, fun q0 => go (fun z => q0 ?_)⟩
      · have z0 : (0 : Int32).toInt = 0 := by decide
        rw [q0, z0] at hr
        have e : ws[k] = sl fb b m := cw_0.mp hr.symm
        refine h _ (Or.inl ⟨k, rfl, by rw [hwk, e], hno⟩)
      · rw [cw_0.mpr z] at hr
        have : r.toInt = 0 := Int.sign_eq_zero_iff_zero.mp hr
        exact Int32.toInt_inj.mp (by rw [this]; decide)
theorem sp_Na_find (hN : NaR ws u fs fl ft) (hnl : nl < 2147483648) (hns : ns < 2147483648) (hnt : nt < 1000000) (hnb : nb < 1000000) (hu : u ≤ nt) (hw1 : ws.length ≤ nl) (hw2 : ws.length ≤ ns) (h2 : b + m ≤ nb) (b2 : ∀ j, j < m → byt (fb (b + j))) (h : ∀ r, fw (sl fb b m) ws r → post r ()) : wp_met_Na_find post ns nl nt nb (nI b) (nI m) (nI ws.length) fs fl ft fb :=
  ⟨ws.length + 1, sp_find_lp hN hnl hns hnt hnb hu hw1 hw2 h2 b2 h ws.length 0 (by omega) (fun j hj => absurd hj (by omega))⟩
end Find
