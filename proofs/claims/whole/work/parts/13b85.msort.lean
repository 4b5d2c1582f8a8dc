/-! pure: rows in order; the model sorts -/
def rcmp : List Con → List Con → Int
  | x :: xs, y :: ys => if cc x y = 0 then rcmp xs ys else cc x y
  | _, _ => 0
theorem rcmp_cons (x y : Con) (xs ys : List Con) : rcmp (x :: xs) (y :: ys) = if cc x y = 0 then rcmp xs ys else cc x y := by
  rw [rcmp]
theorem rcmp_neg : ∀ x y : List Con, rcmp x y = -rcmp y x
  | [], [] => rfl
  | [], _ :: _ => rfl
  | _ :: _, [] => rfl
  | a :: as, b :: bs => by
    have h := cc_neg a b
    unfold rcmp
    by_cases z : cc a b = 0
    · rw [if_pos z, if_pos (show cc b a = 0 by omega)]
      exact rcmp_neg as bs
    · rw [if_neg z, if_neg (show ¬ cc b a = 0 by omega)]
      exact h
theorem rcmp_0 : ∀ x y : List Con, x.length = y.length → (rcmp x y = 0 ↔ x = y)
  | [], [], _ => by simp [rcmp]
  | [], _ :: _, h => by simp at h
  | _ :: _, [], h => by simp at h
  | a :: as, b :: bs, h => by
    have ih := rcmp_0 as bs (by simpa using h)
    unfold rcmp
    by_cases z : cc a b = 0
    · rw [if_pos z, ih, cc_0.mp z]
      simp
    · rw [if_neg z]
      constructor
      · exact fun w => absurd w z
      · intro w
        injection w with w1 w2
        exact absurd (cc_0.mpr w1) z
theorem rcmp_trans : ∀ x y z : List Con, x.length = y.length → y.length = z.length → rcmp x y < 0 → rcmp y z < 0 → rcmp x z < 0
  | [], y, z, h1, h2, h3, h4 => by
    cases y with
    | nil => simp [rcmp] at h3
    | cons b bs => simp at h1
  | a :: as, [], z, h1, h2, h3, h4 => by simp at h1
  | a :: as, b :: bs, [], h1, h2, h3, h4 => by simp at h2
  | a :: as, b :: bs, c :: cs, h1, h2, h3, h4 => by
    have ih := rcmp_trans as bs cs (by simpa using h1) (by simpa using h2)
    unfold rcmp at h3 h4 ⊢
    by_cases z1 : cc a b = 0
    · rw [if_pos z1] at h3
      obtain rfl := cc_0.mp z1
      by_cases z2 : cc a c = 0
      · rw [if_pos z2] at h4 ⊢
        exact ih h3 h4
      · rw [if_neg z2] at h4 ⊢
        exact h4
    · rw [if_neg z1] at h3
      by_cases z2 : cc b c = 0
      · obtain rfl := cc_0.mp z2
        rw [if_neg z1]
        exact h3
      · rw [if_neg z2] at h4
        have := cc_trans h3 h4
        rw [if_neg (by omega)]
        exact this
/-- the rows in order -/
def SrtR (w : Nat) (rs qs : List (List Con)) : Prop := qs.length = rs.length ∧ (∀ x, x ∈ qs ↔ x ∈ rs) ∧ (∀ x ∈ qs, x.length = w) ∧ qs.Pairwise (fun a b => rcmp a b < 0)
theorem srt_one {w : Nat} : ∀ (a b : List (List Con)), (∀ x, x ∈ a ↔ x ∈ b) → (∀ x ∈ a, x.length = w) → (∀ x ∈ b, x.length = w) → a.Pairwise (fun a b => rcmp a b < 0) → b.Pairwise (fun a b => rcmp a b < 0) → a = b := by
  intro a
  induction a with
  | nil =>
    intro b hm _ _ _ _
    cases b with
    | nil => rfl
    | cons y ys => exact absurd ((hm y).mpr (List.mem_cons_self ..)) (by simp)
  | cons x xs ih =>
    intro b hm ha hb pa pb
    cases b with
    | nil => exact absurd ((hm x).mp (List.mem_cons_self ..)) (by simp)
    | cons y ys =>
      rw [List.pairwise_cons] at pa pb
      obtain ⟨pa1, pa2⟩ := pa
      obtain ⟨pb1, pb2⟩ := pb
      have irr : ∀ z : List Con, ¬ rcmp z z < 0 := fun z h => by
        have := rcmp_neg z z
        omega
      have exy : x = y := by
        rcases List.mem_cons.mp ((hm x).mp (List.mem_cons_self ..)) with e | e
        · exact e
        · rcases List.mem_cons.mp ((hm y).mpr (List.mem_cons_self ..)) with e2 | e2
          · exact e2.symm
          · have h1 := pb1 x e
            have h2 := pa1 y e2
            have := rcmp_neg x y
            omega
      subst exy
      rw [ih ys (fun z => ?_) (fun z hz => ha z (List.mem_cons_of_mem _ hz)) (fun z hz => hb z (List.mem_cons_of_mem _ hz)) pa2 pb2]
      constructor
      · intro hz
        rcases List.mem_cons.mp ((hm z).mp (List.mem_cons_of_mem _ hz)) with e | e
        · rw [e] at hz
          exact absurd (pa1 x hz) (irr x)
        · exact e
      · intro hz
        rcases List.mem_cons.mp ((hm z).mpr (List.mem_cons_of_mem _ hz)) with e | e
        · rw [e] at hz
          exact absurd (pb1 x hz) (irr x)
        · exact e
theorem SrtR_one {w : Nat} {rs qs ts us : List (List Con)} (hm : ∀ x, x ∈ rs ↔ x ∈ ts) (h1 : SrtR w rs qs) (h2 : SrtR w ts us) : qs = us :=
  srt_one qs us (fun x => (h1.2.1 x).trans ((hm x).trans (h2.2.1 x).symm)) h1.2.2.1 h2.2.2.1 h1.2.2.2 h2.2.2.2
/-- a row among the cells -/
def CAt (mc : List Con) (w : Nat) (RC : Nat → Int32) (k : Nat) (row : List Con) : Prop := row.length = w ∧ ∀ (c : Nat) (y : Con), row[c]? = some y → y ∈ mc ∧ RC (12 * k + c) = nI (ix mc y)
section MSort
variable {mc : List Con} {F CN CV CF RC NC : Nat → Int32} {live w : Nat}
theorem beh_lp {post : Int32 → Unit → Prop} {i j : Nat} {x y : List Con} (hl : live < 2) (hmc : mc.length ≤ 1100) (hw : ∀ c ∈ mc, wOk c) {qq : Bool} (hM : MCo qq mc (1100 * live) CN CV CF F) (hw12 : w ≤ 12) (hi : i ≤ 5000) (hj : j ≤ 5000) (hx : CAt mc w RC i x) (hy : CAt mc w NC j y) (h : post (b01 (decide (0 < rcmp x y))) ()) : ∀ m c : Nat, c + m = w → rcmp (x.drop c) (y.drop c) = rcmp x y → lw_met_Mo_isBehind_2 post (nI w) (nI i) RC (nI j) NC (nI live) F CN CV CF (m + 1) (nI c) := by
  obtain ⟨x1, x2⟩ := hx
  obtain ⟨y1, y2⟩ := hy
  intro m
  induction m with
  | zero =>
    intro c hc hr
    refine pk_le w c (fun _ => ?_) (fun q => absurd q (by omega))
    rw [List.drop_of_length_le (by omega), List.drop_of_length_le (by omega)] at hr
    have e : rcmp x y = 0 := by rw [← hr]; rfl
    rw [e] at h
    exact h
  | succ m ih =>
    intro c hc hr
    refine pk_le w c (fun q => absurd q (by omega)) (fun _ => ?_)
    intro y3 h3 y4 h4
    rw [show (12 : Int32) = nI 12 from rfl, pk_mul] at h3
    rw [h3, nI_add] at h4
    subst h4
    refine ⟨vp_in_nI (by omega) (by omega), fun y6 h6 y7 h7 y8 h8 => ?_⟩
    rw [show (12 : Int32) = nI 12 from rfl, pk_mul] at h7
    rw [h7, nI_add] at h8
    subst h8
    refine ⟨vp_in_nI (by omega) (by omega), fun y10 h10 => ?_⟩
    have hcx : c < x.length := by omega
    have hcy : c < y.length := by omega
    obtain ⟨a1, a2⟩ := x2 c _ (List.getElem?_eq_getElem hcx)
    obtain ⟨b1, b2⟩ := y2 c _ (List.getElem?_eq_getElem hcy)
    rw [nI_clamp (by omega), a2] at h6
    rw [nI_clamp (by omega), b2] at h10
    subst h6 h10
    have hd1 : x.drop c = x[c] :: x.drop (c + 1) := List.drop_eq_getElem_cons hcx
    have hd2 : y.drop c = y[c] :: y.drop (c + 1) := List.drop_eq_getElem_cons hcy
    rw [hd1, hd2, rcmp_cons] at hr
    refine sp_Mo_order hl hM hmc (ix_get mc a1) (ix_get mc b1) (hw _ a1) (hw _ b1) (fun r hrs => ?_)
    have z0 : (0 : Int32).toInt = 0 := by decide
    refine ⟨fun z => ?_, fun z => ?_⟩
    · have e : cc x[c] y[c] = 0 := by
        rw [← hrs, z, z0]
        rfl
      rw [if_pos e] at hr
      rw [nI_1]
      exact ih (c + 1) (by omega) hr
    · have hne : ¬ r.toInt = 0 := fun q => z (Int32.toInt_inj.mp (by rw [q, z0]))
      have e : ¬ cc x[c] y[c] = 0 := by
        rw [← hrs, Int.sign_eq_zero_iff_zero]
        exact hne
      rw [if_neg e] at hr
      intro y12 h12
      have e2 : y12 = b01 (decide (0 < rcmp x y)) := by
        rw [h12, ← hr, ← hrs]
        by_cases g : r ≤ 0
        · have g2 := Int32.le_iff_toInt_le.mp g
          rw [z0] at g2
          rw [if_pos g, Int.sign_eq_neg_one_of_neg (show r.toInt < 0 by omega)]
          rfl
        · have g2 : ¬ r.toInt ≤ 0 := fun q => g (Int32.le_iff_toInt_le.mpr (by rw [z0]; exact q))
          rw [if_neg g, Int.sign_eq_one_of_pos (show 0 < r.toInt by omega)]
          rfl
      rw [e2]
      exact h
theorem sp_Mo_isBehind {post : Int32 → Unit → Prop} {i j : Nat} {x y : List Con} (hl : live < 2) (hmc : mc.length ≤ 1100) (hw : ∀ c ∈ mc, wOk c) {qq : Bool} (hM : MCo qq mc (1100 * live) CN CV CF F) (hw12 : w ≤ 12) (hi : i ≤ 5000) (hj : j ≤ 5000) (hx : CAt mc w RC i x) (hy : CAt mc w NC j y) (h : post (b01 (decide (0 < rcmp x y))) ()) : wp_met_Mo_isBehind post (nI i) (nI j) (nI live) (nI w) F CN CV CF RC NC :=
  ⟨_, beh_lp hl hmc hw hM hw12 hi hj hx hy h w 0 (Nat.zero_add _) rfl⟩
theorem sort_45 {post : (Int32 × Int32 × (Nat → Int32)) → Prop} {J : (Int32 × (Nat → Int32)) → Prop} {k : Nat} (hw12 : w ≤ 12) (hk : k + 1 ≤ 5000) (hJ : ∀ R2 : Nat → Int32, (∀ c, c < w → R2 (12 * (k + 1) + c) = RC (12 * k + c)) → (∀ j, ¬ (12 * (k + 1) ≤ j ∧ j < 12 * (k + 1) + w) → R2 j = RC j) → J (nI k, R2)) : ∀ m c : Nat, c + m = w → ∀ R1 : Nat → Int32, (∀ i, i < c → R1 (12 * (k + 1) + i) = RC (12 * k + i)) → (∀ j, ¬ (12 * (k + 1) ≤ j ∧ j < 12 * (k + 1) + c) → R1 j = RC j) → lw_met_Mo_sort_45 post J (nI w) (nI (k + 1)) (m + 1) (nI c, R1) := by
  intro m
  induction m with
  | zero =>
    intro c hc R1 h1 h2
    refine pk_le w c (fun _ => ?_) (fun q => absurd q (by omega))
    obtain rfl : c = w := by omega
    rw [nI_dn]
    exact hJ R1 h1 h2
  | succ m ih =>
    intro c hc R1 h1 h2
    refine pk_le w c (fun q => absurd q (by omega)) (fun _ => ?_)
    intro y13 h13 y14 h14 y15 h15 y16 h16 y17 h17
    rw [show (12 : Int32) = nI 12 from rfl, pk_mul] at h13
    rw [h13, nI_add] at h14
    rw [show (1 : Int32) = nI 1 from rfl, pk_sub (by omega), Nat.add_sub_cancel] at h15
    rw [h15, show (12 : Int32) = nI 12 from rfl, pk_mul] at h16
    rw [h16, nI_add] at h17
    subst h14 h17
    refine ⟨vp_in_nI (by omega) (by omega), fun y19 h19 => ⟨vp_in_nI (by omega) (by omega), fun g21 h21 => ?_⟩⟩
    rw [nI_clamp (by omega), h2 _ (by omega)] at h19
    rw [nI_clamp (by omega)] at h21
    rw [nI_1]
    refine ih (c + 1) (by omega) g21 (fun i hi => ?_) (fun j hj => ?_)
    · rw [h21]
      by_cases g : i = c
      · rw [g, upd_same, h19]
      · rw [upd_ne (by omega)]
        exact h1 i (by omega)
    · rw [h21, upd_ne (by omega)]
      exact h2 j (by omega)
theorem sort_91 {post : (Int32 × Int32 × (Nat → Int32)) → Prop} {J : (Int32 × (Nat → Int32)) → Prop} {k r : Nat} (hw12 : w ≤ 12) (hk : k ≤ 5000) (hr : r ≤ 5000) (hJ : ∀ R2 : Nat → Int32, (∀ c, c < w → R2 (12 * k + c) = NC (12 * r + c)) → (∀ j, ¬ (12 * k ≤ j ∧ j < 12 * k + w) → R2 j = RC j) → J (nI (r + 1), R2)) : ∀ m c : Nat, c + m = w → ∀ R1 : Nat → Int32, (∀ i, i < c → R1 (12 * k + i) = NC (12 * r + i)) → (∀ j, ¬ (12 * k ≤ j ∧ j < 12 * k + c) → R1 j = RC j) → lw_met_Mo_sort_91 post J (nI w) (nI r) (nI k) NC (m + 1) (nI c, R1) := by
  intro m
  induction m with
  | zero =>
    intro c hc R1 h1 h2
    refine pk_le w c (fun _ => ?_) (fun q => absurd q (by omega))
    obtain rfl : c = w := by omega
    rw [nI_1]
    exact hJ R1 h1 h2
  | succ m ih =>
    intro c hc R1 h1 h2
    refine pk_le w c (fun q => absurd q (by omega)) (fun _ => ?_)
    intro y25 h25 y26 h26 y27 h27 y28 h28
    rw [show (12 : Int32) = nI 12 from rfl, pk_mul] at h25 h27
    rw [h25, nI_add] at h26
    rw [h27, nI_add] at h28
    subst h26 h28
    refine ⟨vp_in_nI (by omega) (by omega), fun y30 h30 => ⟨vp_in_nI (by omega) (by omega), fun g32 h32 => ?_⟩⟩
    rw [nI_clamp (by omega)] at h30 h32
    rw [nI_1]
    refine ih (c + 1) (by omega) g32 (fun i hi => ?_) (fun j hj => ?_)
    · rw [h32]
      by_cases g : i = c
      · rw [g, upd_same, h30]
      · rw [upd_ne (by omega)]
        exact h1 i (by omega)
    · rw [h32, upd_ne (by omega)]
      exact h2 j (by omega)
/-- a row is put into its place -/
theorem ins_pw {qs : List (List Con)} {x : List Con} {k : Nat} (hk : k ≤ qs.length) (hp : qs.Pairwise (fun a b => rcmp a b < 0)) (hl : ∀ y ∈ qs, y.length = x.length) (h1 : ∀ y ∈ qs.drop k, 0 < rcmp y x) (h2 : ∀ y, qs[k - 1]? = some y → 0 < k → rcmp y x < 0) : (qs.take k ++ x :: qs.drop k).Pairwise (fun a b => rcmp a b < 0) := by
  have hp0 := hp
  rw [← List.take_append_drop k qs, List.pairwise_append] at hp
  obtain ⟨p1, p2, p3⟩ := hp
  rw [List.pairwise_append, List.pairwise_cons]
  have hlt : ∀ a ∈ qs.take k, rcmp a x < 0 := by
    intro a ha
    obtain ⟨i, hi, e⟩ := List.mem_iff_getElem.mp ha
    rw [List.length_take] at hi
    rw [List.getElem_take] at e
    have hk1 : k - 1 < qs.length := by omega
    have hlast := h2 _ (List.getElem?_eq_getElem hk1) (by omega)
    by_cases g : i = k - 1
    · subst g
      rw [← e]
      exact hlast
    · have := List.pairwise_iff_getElem.mp hp0 i (k - 1) (by omega) hk1 (by omega)
      rw [e] at this
      have hm : a ∈ qs := List.mem_of_mem_take ha
      exact rcmp_trans a _ x (by rw [hl a hm, hl _ (List.getElem_mem hk1)]) (hl _ (List.getElem_mem hk1)) this hlast
  refine ⟨p1, ⟨fun y hy => ?_, p2⟩, fun a ha b hb => ?_⟩
  · have := h1 y hy
    have := rcmp_neg x y
    omega
  · rcases List.mem_cons.mp hb with e | e
    · rw [e]
      exact hlt a ha
    · exact p3 a ha b e
theorem sort_28 {post : (Int32 × Int32 × (Nat → Int32)) → Prop} {J : (Int32 × (Nat → Int32)) → Prop} {qs : List (List Con)} {x : List Con} (hl : live < 2) (hmc : mc.length ≤ 1100) (hw : ∀ c ∈ mc, wOk c) {qq : Bool} (hM : MCo qq mc (1100 * live) CN CV CF F) (hw12 : w ≤ 12) (hq5 : qs.length < 5000) (hx : CAt mc w NC qs.length x) (hp : qs.Pairwise (fun a b => rcmp a b < 0)) (hql : ∀ y ∈ qs, y.length = w) (hxn : ¬ x ∈ qs)
    (hJ : ∀ (k : Nat) (R2 : Nat → Int32), k ≤ qs.length → (qs.take k ++ x :: qs.drop k).Pairwise (fun a b => rcmp a b < 0) → (∀ (i : Nat) (row : List Con), (qs.take k ++ x :: qs.drop k)[i]? = some row → CAt mc w R2 i row) → J (nI (qs.length + 1), R2)) : ∀ k : Nat, k ≤ qs.length → ∀ RC : Nat → Int32, (∀ (i : Nat) (row : List Con), i < k → qs[i]? = some row → CAt mc w RC i row) → (∀ (i : Nat) (row : List Con), k ≤ i → qs[i]? = some row → CAt mc w RC (i + 1) row) → (∀ y ∈ qs.drop k, 0 < rcmp y x) → lw_met_Mo_sort_28 post J (nI qs.length) (nI live) (nI w) F CN CV CF NC (k + 1) (nI k, RC) := by
  have put : ∀ (k : Nat) (RC : Nat → Int32), k ≤ qs.length → (∀ (i : Nat) (row : List Con), i < k → qs[i]? = some row → CAt mc w RC i row) → (∀ (i : Nat) (row : List Con), k ≤ i → qs[i]? = some row → CAt mc w RC (i + 1) row) → (∀ y ∈ qs.drop k, 0 < rcmp y x) → (∀ y, qs[k - 1]? = some y → 0 < k → rcmp y x < 0) → jw_met_Mo_sort_89 post J RC (nI w) (nI qs.length) (nI k) NC () := by
    intro k RC hk a1 a2 a3 a4
    refine ⟨_, sort_91 (RC := RC) (k := k) (r := qs.length) hw12 (by omega) (by omega) (fun R2 e1 e2 => ?_) w 0 (Nat.zero_add _) RC (fun i hi => absurd hi (by omega)) (fun _ _ => rfl)⟩
    refine hJ k R2 hk (ins_pw hk hp (fun y hy => by rw [hql y hy, hx.1]) a3 a4) (fun i row hi => ?_)
    have hlt : (qs.take k).length = k := by rw [List.length_take]; omega
    have keep : ∀ (i2 : Nat) (row : List Con), ¬ i2 = k → CAt mc w RC i2 row → CAt mc w R2 i2 row := by
      intro i2 row hne ⟨b1, b2⟩
      refine ⟨b1, fun c y hy => ?_⟩
      have := (List.getElem?_eq_some_iff.mp hy).1
      obtain ⟨b3, b4⟩ := b2 c y hy
      exact ⟨b3, (e2 _ (by omega)).trans b4⟩
    rcases Nat.lt_trichotomy i k with g | g | g
    · rw [List.getElem?_append_left (by omega), List.getElem?_take_of_lt g] at hi
      exact keep i row (by omega) (a1 i row g hi)
    · subst g
      rw [List.getElem?_append_right (by omega), hlt, Nat.sub_self] at hi
      obtain rfl : x = row := by simpa using hi
      obtain ⟨b1, b2⟩ := hx
      refine ⟨b1, fun c y hy => ?_⟩
      have := (List.getElem?_eq_some_iff.mp hy).1
      obtain ⟨b3, b4⟩ := b2 c y hy
      exact ⟨b3, (e1 c (by omega)).trans b4⟩
    · rw [List.getElem?_append_right (by omega), hlt] at hi
      obtain ⟨d, hd⟩ : ∃ d, i - k = d + 1 := ⟨i - k - 1, by omega⟩
      rw [hd, List.getElem?_cons_succ, List.getElem?_drop] at hi
      have := a2 (k + d) row (by omega) hi
      rw [show k + d + 1 = i by omega] at this
      exact keep i row (by omega) this
  intro k
  induction k with
  | zero =>
    intro hk RC a1 a2 a3
    refine pk_le 0 0 (fun _ => put 0 RC hk a1 a2 a3 (fun y _ h => absurd h (by omega))) (fun q => absurd q (by omega))
  | succ k ih =>
    intro hk RC a1 a2 a3
    refine pk_le (k + 1) 0 (fun q => absurd q (by omega)) (fun _ => ?_)
    intro y8 h8
    rw [show (1 : Int32) = nI 1 from rfl, pk_sub (by omega), Nat.add_sub_cancel] at h8
    subst h8
    have hkl : k < qs.length := by omega
    have hke := List.getElem?_eq_getElem hkl
    have hrow := a1 k _ (by omega) hke
    refine sp_Mo_isBehind hl hmc hw hM hw12 (by omega) (by omega) hrow hx ?_
    refine b01_if (fun z => ?_) (fun z => ?_)
    · refine put (k + 1) RC hk a1 a2 a3 (fun y hy _ => ?_)
      rw [Nat.add_sub_cancel, hke] at hy
      obtain rfl := Option.some.inj hy
      have z2 : ¬ 0 < rcmp qs[k] x := of_decide_eq_false z
      have hne : ¬ rcmp qs[k] x = 0 := by
        rw [rcmp_0 _ _ (by rw [hrow.1, hx.1])]
        intro e
        exact hxn (by rw [← e]; exact List.getElem_mem hkl)
      omega
    · have z2 : 0 < rcmp qs[k] x := of_decide_eq_true z
      refine ⟨_, sort_45 (RC := RC) (k := k) hw12 (by omega) (fun R2 e1 e2 => ?_) w 0 (Nat.zero_add _) RC (fun i hi => absurd hi (by omega)) (fun _ _ => rfl)⟩
      have keep : ∀ (i2 : Nat) (row : List Con), ¬ i2 = k + 1 → CAt mc w RC i2 row → CAt mc w R2 i2 row := by
        intro i2 row hne ⟨b1, b2⟩
        refine ⟨b1, fun c y hy => ?_⟩
        have := (List.getElem?_eq_some_iff.mp hy).1
        obtain ⟨b3, b4⟩ := b2 c y hy
        exact ⟨b3, (e2 _ (by omega)).trans b4⟩
      refine ih (by omega) R2 (fun i row hi hr => keep i row (by omega) (a1 i row (by omega) hr)) (fun i row hi hr => ?_) (fun y hy => ?_)
      · by_cases g : i = k
        · subst g
          rw [hke] at hr
          obtain rfl := Option.some.inj hr
          obtain ⟨b1, b2⟩ := hrow
          refine ⟨b1, fun c y hy => ?_⟩
          have := (List.getElem?_eq_some_iff.mp hy).1
          obtain ⟨b3, b4⟩ := b2 c y hy
          exact ⟨b3, (e1 c (by omega)).trans b4⟩
        · exact keep (i + 1) row (by omega) (a2 i row (by omega) hr)
      · rw [List.drop_eq_getElem_cons hkl] at hy
        rcases List.mem_cons.mp hy with e | e
        · rw [e]
          exact z2
        · exact a3 y e
theorem sort_18 {post : (Int32 × Int32 × (Nat → Int32)) → Prop} {rs : List (List Con)} (hl : live < 2) (hmc : mc.length ≤ 1100) (hw : ∀ c ∈ mc, wOk c) {qq : Bool} (hM : MCo qq mc (1100 * live) CN CV CF F) (hw12 : w ≤ 12) (hr5 : rs.length ≤ 5000) (hR : RwR mc w rs NC) (hnd : rs.Nodup) (h : ∀ qs R2, SrtR w rs qs → RwR mc w qs R2 → post (nI rs.length, nI w, R2)) : ∀ m r : Nat, r + m = rs.length → ∀ (qs : List (List Con)) (RC : Nat → Int32), SrtR w (rs.take r) qs → RwR mc w qs RC → lw_met_Mo_sort_18 post (nI rs.length) (nI w) (nI live) F CN CV CF NC (m + 1) (nI r, RC) := by
  intro m
  induction m with
  | zero =>
    intro r hr qs RC hS hq
    refine pk_le rs.length r (fun _ => ?_) (fun q => absurd q (by omega))
    rw [List.take_of_length_le (by omega)] at hS
    exact h qs RC hS hq
  | succ m ih =>
    intro r hr qs RC hS hq
    refine pk_le rs.length r (fun q => absurd q (by omega)) (fun _ => ?_)
    have hrl : r < rs.length := by omega
    have hre := List.getElem?_eq_getElem hrl
    obtain ⟨s1, s2, s3, s4⟩ := hS
    have hqr : qs.length = r := by rw [s1, List.length_take]; omega
    have hxn : ¬ rs[r] ∈ qs := by
      intro hm
      obtain ⟨i, hi, e⟩ := List.mem_iff_getElem.mp ((s2 _).mp hm)
      rw [List.length_take] at hi
      rw [List.getElem_take] at e
      have := nodup_inj hnd (show rs[i]? = some rs[r] by rw [List.getElem?_eq_getElem (by omega), e]) hre
      omega
    have hx : CAt mc w NC qs.length rs[r] := by
      rw [hqr]
      exact hR r _ hre
    have key := sort_28 (post := post) (J := fun x9 => lw_met_Mo_sort_18 post (nI rs.length) (nI w) (nI live) F CN CV CF NC (m + 1) x9) hl hmc hw hM hw12 (by omega) hx s4 s3 hxn (fun k R2 hk hp hc => ?_) qs.length (Nat.le_refl _) RC (fun i row _ hi => hq i row hi) (fun i row hi hrow => absurd (List.getElem?_eq_some_iff.mp hrow).1 (by omega)) (fun y hy => by rw [List.drop_of_length_le (Nat.le_refl _)] at hy; cases hy)
    · rw [hqr] at key
      exact ⟨_, key⟩
    · rw [hqr]
      refine ih (r + 1) (by omega) (qs.take k ++ rs[r] :: qs.drop k) R2 ⟨?_, fun y => ?_, fun y hy => ?_, hp⟩ (fun i row hi => hc i row hi)
      · rw [List.length_append, List.length_cons, List.length_take, List.length_drop, List.length_take]
        omega
      · rw [take_push _ r hrl, List.mem_append, List.mem_cons, List.mem_append, List.mem_singleton, ← s2 y]
        have := List.mem_append (a := y) (s := qs.take k) (t := qs.drop k)
        rw [List.take_append_drop] at this
        rw [this]
        constructor
        · rintro (g | g | g)
          · exact Or.inl (Or.inl g)
          · exact Or.inr g
          · exact Or.inl (Or.inr g)
        · rintro ((g | g) | g)
          · exact Or.inl g
          · exact Or.inr (Or.inr g)
          · exact Or.inr (Or.inl g)
      · rcases List.mem_append.mp hy with g | g
        · exact s3 y (List.mem_of_mem_take g)
        · rcases List.mem_cons.mp g with g | g
          · rw [g]
            exact hx.1
          · exact s3 y (List.mem_of_mem_drop g)
theorem sp_Mo_sort {post : (Int32 × Int32 × (Nat → Int32)) → Prop} {rs : List (List Con)} (hl : live < 2) (hmc : mc.length ≤ 1100) (hw : ∀ c ∈ mc, wOk c) {qq : Bool} (hM : MCo qq mc (1100 * live) CN CV CF F) (hw12 : w ≤ 12) (hr5 : rs.length ≤ 5000) (hR : RwR mc w rs NC) (hnd : rs.Nodup) (h : ∀ qs R2, SrtR w rs qs → RwR mc w qs R2 → post (nI rs.length, nI w, R2)) : wp_met_Mo_sort post (nI live) (nI rs.length) (nI w) F CN CV CF RC NC :=
  ⟨_, sort_18 hl hmc hw hM hw12 hr5 hR hnd h rs.length 0 (Nat.zero_add _) [] RC ⟨rfl, fun x => by simp, fun x hx => (by cases hx), List.Pairwise.nil⟩ (fun r row hr => by cases hr)⟩
end MSort
