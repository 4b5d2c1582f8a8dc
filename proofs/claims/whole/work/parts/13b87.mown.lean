/-! pure: the model's sizes in a question -/
theorem u_inj {x y : Int32} (hx : byt x) (hy : byt y) (h : (x &&& 255) = (y &&& 255)) : x = y := by
  have e := congrArg Int32.toInt h
  rw [u_toInt hx, u_toInt hy] at e
  apply Int32.toInt_inj.mp
  obtain ⟨x1, x2⟩ := hx
  obtain ⟨y1, y2⟩ := hy
  split at e <;> split at e <;> omega
section OwnA
variable {F : Nat → Int32} {o n : Nat}
/-- a name's bytes where the model looks at them -/
theorem at_word {post : Int32 → Unit → Prop} {a k : Nat} {w : Wd} (hs : o + n ≤ 196608) (hB : ∀ j, j < o + n → byt (F j)) (hw : WdAt (shf F o) n a w) (hk : k ≤ w.length) (h : ∀ r : Int32, tkW r = decide (k < w.length) → (∀ x, w[k]? = some x → r = (x &&& 255) ∧ byt x) → post r ()) : wp_met_Mo_at post (nI (o + a) + nI k) (nI (o + n)) F := by
  obtain ⟨w1, w2, w3, w4, w5⟩ := hw
  rw [nI_add]
  have t0 : tkW 0 = false := by decide
  refine sp_Mo_at hs (by omega) (fun hlt => h _ ?_ (fun x hx => ?_)) (fun hge => h _ ?_ (fun x hx => ?_))
  · rw [u_W (hB _ hlt)]
    by_cases g : k < w.length
    · rw [decide_eq_true g]
      have := w4 (w[k]) (List.getElem_mem g)
      have e := sl_idx (F := shf F o) w.length a k (w[k]) (by rw [w3, List.getElem?_eq_getElem g])
      rw [← e] at this
      unfold shf at this
      rw [← Nat.add_assoc] at this
      exact this
    · rw [decide_eq_false g]
      have hk2 : k = w.length := by omega
      have := w5 (by omega)
      unfold shf at this
      rw [← Nat.add_assoc, ← hk2] at this
      exact this
  · have e := sl_idx (F := shf F o) w.length a k x (by rw [w3]; exact hx)
    unfold shf at e
    rw [← Nat.add_assoc] at e
    rw [← e]
    exact ⟨rfl, hB _ hlt⟩
  · rw [t0]
    exact (decide_eq_false (by omega)).symm
  · have := (List.getElem?_eq_some_iff.mp hx).1
    omega
theorem isn_58 {post : Int32 → Unit → Prop} {a b k : Nat} {w u : Wd} (hs : o + n ≤ 196608) (hB : ∀ j, j < o + n → byt (F j)) (hw : WdAt (shf F o) n a w) (hu : WdAt (shf F o) n b u) (hk : k ≤ w.length) (hk2 : k ≤ u.length) (h : post (b01 (decide (k = w.length ∧ k = u.length))) ()) : jw_met_Mo_isName_58 post (nI (o + a)) (nI k) (nI (o + b)) (nI (o + n)) F () := by
  intro y13 h13
  rw [h13]
  refine at_word hs hB hw hk (fun r hr _ => ?_)
  refine sp_Mo_isWord ?_
  rw [hr]
  refine b01_if (fun z => ?_) (fun z => ?_)
  · have z1 : ¬ k < w.length := of_decide_eq_false z
    intro y16 h16
    rw [h16]
    refine at_word hs hB hu hk2 (fun r2 hr2 _ => ?_)
    refine sp_Mo_isWord ?_
    intro y19 h19
    rw [h19, b01_not, hr2]
    have e : (!decide (k < u.length)) = decide (k = w.length ∧ k = u.length) := by
      by_cases g : k < u.length
      · rw [decide_eq_true g, decide_eq_false (by omega)]
        rfl
      · rw [decide_eq_false g, decide_eq_true (by omega)]
        rfl
    rw [e]
    exact h
  · have z1 : k < w.length := of_decide_eq_true z
    rw [decide_eq_false (by omega)] at h
    exact h
theorem isn_lp {post : Int32 → Unit → Prop} {a b : Nat} {w u : Wd} (hs : o + n ≤ 196608) (hB : ∀ j, j < o + n → byt (F j)) (hw : WdAt (shf F o) n a w) (hu : WdAt (shf F o) n b u) (h : post (b01 (decide (w = u))) ()) : ∀ m k : Nat, k + m = w.length → k ≤ u.length → (∀ i, i < k → w[i]? = u[i]?) → lw_met_Mo_isName_2 post (nI (o + a)) (nI (o + n)) (nI (o + b)) F (m + 1) (nI k) := by
  have hw0 := hw
  have hu0 := hu
  obtain ⟨w1, w2, w3, w4, w5⟩ := hw0
  obtain ⟨u1, u2, u3, u4, u5⟩ := hu0
  have fin : ∀ k : Nat, k ≤ w.length → k ≤ u.length → (∀ i, i < k → w[i]? = u[i]?) → (k < w.length → k < u.length → ¬ w[k]? = u[k]?) → jw_met_Mo_isName_58 post (nI (o + a)) (nI k) (nI (o + b)) (nI (o + n)) F () := by
    intro k g1 g2 g3 g4
    refine isn_58 hs hB hw hu g1 g2 ?_
    have e : decide (k = w.length ∧ k = u.length) = decide (w = u) := by
      by_cases z : w = u
      · subst z
        have : ¬ k < w.length := fun q => g4 q q rfl
        rw [decide_eq_true (by omega), decide_eq_true rfl]
      · rw [decide_eq_false z, decide_eq_false]
        rintro ⟨q1, q2⟩
        refine z (List.ext_getElem? (fun i => ?_))
        rcases Nat.lt_or_ge i k with q | q
        · exact g3 i q
        · rw [List.getElem?_eq_none (by omega), List.getElem?_eq_none (by omega)]
    rw [e]
    exact h
  intro m
  induction m with
  | zero =>
    intro k hk hku hi y3 h3
    rw [nI_add] at h3
    subst h3
    have end58 := fin k (by omega) hku hi (fun q => absurd q (by omega))
    refine pk_le (o + n) (o + a + k) (fun _ => end58) (fun _ => ?_)
    intro y5 h5
    rw [nI_add] at h5
    subst h5
    refine pk_le (o + n) (o + b + k) (fun _ => end58) (fun _ => ?_)
    intro y6 h6
    rw [h6]
    refine at_word hs hB hw (by omega) (fun r hr _ => ?_)
    refine sp_Mo_isWord ?_
    rw [hr]
    exact b01_if (fun _ => end58) (fun z => absurd (of_decide_eq_true z) (by omega))
  | succ m ih =>
    intro k hk hku hi y3 h3
    rw [nI_add] at h3
    subst h3
    refine pk_le (o + n) (o + a + k) (fun q => absurd q (by omega)) (fun _ => ?_)
    intro y5 h5
    rw [nI_add] at h5
    subst h5
    refine pk_le (o + n) (o + b + k) (fun q => fin k (by omega) hku hi (fun _ q2 => absurd q (by omega))) (fun _ => ?_)
    intro y6 h6
    rw [h6]
    have hkw : k < w.length := by omega
    refine at_word hs hB hw (by omega) (fun r hr _ => ?_)
    refine sp_Mo_isWord ?_
    rw [hr]
    refine b01_if (fun z => absurd hkw (of_decide_eq_false z)) (fun _ => ?_)
    intro y9 h9
    rw [h9]
    refine at_word hs hB hw (by omega) (fun r2 hr2 hx2 => ?_)
    intro y11 h11
    rw [h11]
    refine at_word hs hB hu hku (fun r3 hr3 hx3 => ?_)
    obtain ⟨e2, b2⟩ := hx2 _ (List.getElem?_eq_getElem hkw)
    refine ⟨fun z => ?_, fun z => ?_⟩
    · have hku2 : k < u.length := by
        rw [z, hr3] at hr2
        by_cases g : k < u.length
        · exact g
        · rw [decide_eq_false g, decide_eq_true hkw] at hr2
          cases hr2
      obtain ⟨e3, b3⟩ := hx3 _ (List.getElem?_eq_getElem hku2)
      have exy := u_inj b2 b3 (by rw [← e2, ← e3, z])
      rw [nI_1]
      refine ih (k + 1) (by omega) (by omega) (fun i hi2 => ?_)
      by_cases g : i = k
      · subst g
        rw [List.getElem?_eq_getElem hkw, List.getElem?_eq_getElem hku2, exy]
      · exact hi i (by omega)
    · refine fin k (by omega) hku hi (fun q1 q2 w9 => z ?_)
      obtain ⟨e3, b3⟩ := hx3 _ (List.getElem?_eq_getElem q2)
      rw [List.getElem?_eq_getElem hkw, List.getElem?_eq_getElem q2] at w9
      rw [e2, e3, Option.some.inj w9]
theorem sp_Mo_isName {post : Int32 → Unit → Prop} {a b : Nat} {w u : Wd} (hs : o + n ≤ 196608) (hB : ∀ j, j < o + n → byt (F j)) (hw : WdAt (shf F o) n a w) (hu : WdAt (shf F o) n b u) (h : post (b01 (decide (w = u))) ()) : wp_met_Mo_isName post (nI (o + a)) (nI (o + b)) (nI (o + n)) F :=
  ⟨_, isn_lp hs hB hw hu h w.length 0 (Nat.zero_add _) (Nat.zero_le _) (fun i hi => absurd hi (by omega))⟩
end OwnA
theorem firstAr_cons (l : Lt) (r : List Lt) (w : Wd) : firstAr (l :: r) w = if (l.1 = 0 ∨ l.1 = 1) ∧ l.2.1 = w then some l.2.2.2.2.length else firstAr r w := rfl
/-- the size that a literal must have; none: any -/
def dueQ (ps : List Wd) (ar : Nat → Nat) (L : List Lt) (w : Wd) (d : Option Nat) : Prop := (∃ i : Nat, ps[i]? = some w ∧ d = some (ar i)) ∨ ((∀ i : Nat, ¬ ps[i]? = some w) ∧ d = firstAr L w)
/-- places of atoms of another size, in a question -/
def W10q (ps : List Wd) (ar : Nat → Nat) (ls : List Lt) (K : Nat) (c p : Nat) : Prop := c = 10 ∧ ∃ (k : Nat) (l : Lt), k < K ∧ ls[k]? = some l ∧ isA l ∧ l.2.2.1 = p ∧ ∃ m, dueQ ps ar (ls.take k) l.2.1 (some m) ∧ ¬ m = l.2.2.2.2.length
section OwnB
variable {ps : List Wd} {mc : List Con} {ar : Nat → Nat} {F LC LK LP LT LQ NQ TP LA PA : Nat → Int32} {o n live : Nat} {ls : List Lt}
theorem own_71 {post : (Int32 × Int32) → Prop} {J : (Int32 × Int32 × Int32) → Prop} {k : Nat} {l : Lt} {wc wp : Int32} (hs : o + n ≤ 196608) (hB : ∀ j, j < o + n → byt (F j)) (hl : live < 2) (hpl : ps.length ≤ 64) (hCR : CR 1 ps mc o live 256 (LK, LP, LT, LQ, NQ, TP, LA) ls) (hls : ls.length ≤ 12) (hkd : ∀ l ∈ ls, kdOk l.1) (hnm : ∀ l ∈ ls, isA l → WdAt (shf F o) n l.2.2.1 l.2.1) (hk : ls[k]? = some l) (hA : isA l)
    (h : ∀ d : Option Nat, dueQ ps ar (ls.take k) l.2.1 d → jw_met_Mo_ownArities_151 post J (arc d) (nI (k + 1)) wc wp (nI (13 * 256 + (k + 1))) LA LQ ()) : ∀ j : Nat, j ≤ k → ∀ d : Option Nat, dueQ ps ar ((ls.take k).drop j) l.2.1 d → lw_met_Mo_ownArities_71 post J (nI 256) LP LK (nI (13 * 256 + (k + 1))) LQ LA (nI (o + n)) F (nI live) (nI (k + 1)) wc wp (j + 1) (nI j, arc d) := by
  have hkl := (List.getElem?_eq_some_iff.mp hk).1
  have s1 : sf 1 = 1 := rfl
  obtain ⟨hl6, r1, r2, r3, r4, r5, r6, r7⟩ := hCR k l hk
  rw [s1] at r1 r2 r3 r4 r6
  dsimp only at r1 r2 r3 r4 r6
  intro j
  induction j with
  | zero =>
    intro _ d hd
    refine pk_le 0 0 (fun _ => h d ?_) (fun q => absurd q (by omega))
    rw [List.drop_zero] at hd
    exact hd
  | succ j ih =>
    intro hj d hd
    refine pk_le (j + 1) 0 (fun q => absurd q (by omega)) (fun _ => ?_)
    intro y23 h23 y24 h24
    rw [show (13 : Int32) = nI 13 from rfl, pk_mul] at h23
    rw [h23, nI_add] at h24
    subst h24
    have hjl : j < ls.length := by omega
    have hje := List.getElem?_eq_getElem hjl
    have hjt : j < (ls.take k).length := by rw [List.length_take]; omega
    have hdr : (ls.take k).drop j = ls[j] :: (ls.take k).drop (j + 1) := by
      rw [List.drop_eq_getElem_cons hjt, List.getElem_take]
    generalize hlj : ls[j] = lj at hje hdr
    have hmj : lj ∈ ls := List.mem_of_getElem? hje
    obtain ⟨jl6, q1, q2, q3, q4, q5, q6, q7⟩ := hCR j lj hje
    rw [s1] at q1 q2 q3 q4 q6
    dsimp only at q1 q2 q3 q4 q6
    refine sp_Mo_literal (k := k + 1) (set := live) (cl := 256) ?_
    refine ⟨vp_in_nI (by omega) (by omega), fun y27 h27 => ?_⟩
    rw [nI_clamp (by omega)] at h27
    -- the step down
    have go : ∀ d2 : Option Nat, dueQ ps ar ((ls.take k).drop j) l.2.1 d2 → lw_met_Mo_ownArities_71 post J (nI 256) LP LK (nI (13 * 256 + (k + 1))) LQ LA (nI (o + n)) F (nI live) (nI (k + 1)) wc wp (j + 1) (nI (j + 1) + (-1), arc d2) := by
      intro d2 hd2
      rw [nI_dn]
      exact ih (by omega) d2 hd2
    have same : ¬ (isA lj ∧ lj.2.1 = l.2.1 ∧ ∀ i : Nat, ¬ ps[i]? = some l.2.1) → dueQ ps ar ((ls.take k).drop j) l.2.1 d := by
      intro hno
      rcases hd with w | ⟨w1, w2⟩
      · exact Or.inl w
      · refine Or.inr ⟨w1, ?_⟩
        rw [w2, hdr, firstAr_cons, if_neg (fun q => hno ⟨q.1, q.2, w1⟩)]
    rcases r2 hA with ⟨i, i1, i2⟩ | ⟨-, i1, i2⟩
    · have hi := (List.getElem?_eq_some_iff.mp i1).1
      have hne : ¬ y27 = (-1 : Int32) := by
        rw [h27, i2]
        exact nI_ne1 (by omega)
      exact ⟨fun z => absurd z hne, fun _ => go d (same (fun q => q.2.2 i i1))⟩
    · rw [i2] at h27
      have hno : ∀ i : Nat, ¬ ps[i]? = some l.2.1 := fun i hi => i1 (List.mem_of_getElem? hi)
      refine ⟨fun _ => ?_, fun z => absurd h27 z⟩
      refine sp_Mo_literal (k := j + 1) (set := live) (cl := 256) ?_
      refine ⟨vp_in_nI (by omega) (by omega), fun y30 h30 => ?_⟩
      rw [nI_clamp (by omega), q1] at h30
      refine ⟨fun z => ?_, fun z => ?_⟩
      · rw [h30] at z
        exact go d (same (fun q => (lkd_2 (hkd lj hmj)).mp z q.1))
      · have hAj : isA lj := Classical.byContradiction (fun q => z (by rw [h30]; exact (lkd_2 (hkd lj hmj)).mpr q))
        refine ⟨vp_in_nI (by omega) (by omega), fun y32 h32 => ⟨vp_in_nI (by omega) (by omega), fun y34 h34 => ?_⟩⟩
        rw [nI_clamp (by omega), r4] at h32
        rw [nI_clamp (by omega), q4] at h34
        subst h32 h34
        refine sp_Mo_isName hs hB (hnm l (List.mem_of_getElem? hk) hA) (hnm lj hmj hAj) ?_
        refine b01_if (fun z2 => go d (same (fun q => of_decide_eq_false z2 q.2.1.symm))) (fun z2 => ?_)
        have ee : l.2.1 = lj.2.1 := of_decide_eq_true z2
        refine ⟨vp_in_nI (by omega) (by omega), fun y37 h37 => ?_⟩
        rw [nI_clamp (by omega), q6] at h37
        subst h37
        refine go (some lj.2.2.2.2.length) (Or.inr ⟨hno, ?_⟩)
        rw [hdr, firstAr_cons, if_pos ⟨hAj, ee.symm⟩]
theorem dueQ_one {L : List Lt} {w : Wd} {d e : Option Nat} (hps : ps.Nodup) (h1 : dueQ ps ar L w d) (h2 : dueQ ps ar L w e) : d = e := by
  rcases h1 with ⟨i, i1, i2⟩ | ⟨i1, i2⟩
  · rcases h2 with ⟨j, j1, j2⟩ | ⟨j1, -⟩
    · rw [i2, j2, nodup_inj hps i1 j1]
    · exact absurd i1 (j1 i)
  · rcases h2 with ⟨j, j1, -⟩ | ⟨-, j2⟩
    · exact absurd j1 (i1 j)
    · rw [i2, j2]
theorem W10q_succ {k : Nat} {l : Lt} {c p : Nat} (hk : ls[k]? = some l) : W10q ps ar ls (k + 1) c p ↔ W10q ps ar ls k c p ∨ (c = 10 ∧ isA l ∧ l.2.2.1 = p ∧ ∃ m, dueQ ps ar (ls.take k) l.2.1 (some m) ∧ ¬ m = l.2.2.2.2.length) := by
  constructor
  · rintro ⟨hc, k2, l2, h1, h2, h3⟩
    by_cases g : k2 = k
    · subst g
      rw [hk] at h2
      obtain rfl := Option.some.inj h2
      exact Or.inr ⟨hc, h3⟩
    · exact Or.inl ⟨hc, k2, l2, by omega, h2, h3⟩
  · rintro (⟨hc, k2, l2, h1, h2, h3⟩ | ⟨hc, h3⟩)
    · exact ⟨hc, k2, l2, by omega, h2, h3⟩
    · exact ⟨hc, k, l, by omega, hk, h3⟩
theorem own_2 {post : (Int32 × Int32) → Prop} {W : Nat → Nat → Prop} (hs : o + n ≤ 196608) (hB : ∀ j, j < o + n → byt (F j)) (hl : live < 2) (hps : ps.Nodup) (hpl : ps.length ≤ 64) (hCR : CR 1 ps mc o live 256 (LK, LP, LT, LQ, NQ, TP, LA) ls) (hLC : LC (257 * live + 256) = nI (ls.length + 1)) (hls : ls.length ≤ 12) (hkd : ∀ l ∈ ls, kdOk l.1) (hnm : ∀ l ∈ ls, isA l → WdAt (shf F o) n l.2.2.1 l.2.1) (har : ∀ i, i < ps.length → PA (65 * live + i) = nI (ar i)) (har6 : ∀ i, ar i ≤ 6)
    (h : ∀ wc wp, WR o (fun c p => W c p ∨ W10q ps ar ls ls.length c p) wc wp → post (wc, wp)) : ∀ m k : Nat, k + m = ls.length → ∀ wc wp, WR o (fun c p => W c p ∨ W10q ps ar ls k c p) wc wp → lw_met_Mo_ownArities_2 post (nI live) (nI 256) LC LK LP (nI live) PA LQ LA (nI (o + n)) F (m + 1) (nI (k + 1), wc, wp) := by
  have s1 : sf 1 = 1 := rfl
  intro m
  induction m with
  | zero =>
    intro k hk wc wp hW y5 h5 y6 h6
    rw [show (257 : Int32) = nI 257 from rfl, pk_mul] at h5
    rw [h5, nI_add] at h6
    subst h6
    refine ⟨vp_in_nI (by omega) (by omega), fun y8 h8 => ?_⟩
    rw [nI_clamp (by omega), hLC] at h8
    subst h8
    refine pk_le (ls.length + 1) (k + 1) (fun _ => ?_) (fun q => absurd q (by omega))
    obtain rfl : k = ls.length := by omega
    exact h wc wp hW
  | succ m ih =>
    intro k hk wc wp hW y5 h5 y6 h6
    rw [show (257 : Int32) = nI 257 from rfl, pk_mul] at h5
    rw [h5, nI_add] at h6
    subst h6
    refine ⟨vp_in_nI (by omega) (by omega), fun y8 h8 => ?_⟩
    rw [nI_clamp (by omega), hLC] at h8
    subst h8
    refine pk_le (ls.length + 1) (k + 1) (fun q => absurd q (by omega)) (fun _ => ?_)
    intro y9 h9 y10 h10
    rw [show (13 : Int32) = nI 13 from rfl, pk_mul] at h9
    rw [h9, nI_add] at h10
    subst h10
    have hkl : k < ls.length := by omega
    have hke := List.getElem?_eq_getElem hkl
    generalize ls[k] = l at hke
    have hml : l ∈ ls := List.mem_of_getElem? hke
    obtain ⟨l6, r1, r2, r3, r4, r5, r6, r7⟩ := hCR k l hke
    rw [s1] at r1 r2 r3 r4 r6
    dsimp only at r1 r2 r3 r4 r6
    have le1 : lkd l.1 ≤ 1 ↔ isA l := by
      unfold isA
      rcases hkd l hml with h | h | h
      · rw [h]; decide
      · rw [h]; decide
      · rcases kd_enum h with c | c | c | c | c | c <;> rw [c] <;> decide
    have nxt : (∀ c p, ¬ (c = 10 ∧ isA l ∧ l.2.2.1 = p ∧ ∃ m, dueQ ps ar (ls.take k) l.2.1 (some m) ∧ ¬ m = l.2.2.2.2.length)) → lw_met_Mo_ownArities_2 post (nI live) (nI 256) LC LK LP (nI live) PA LQ LA (nI (o + n)) F (m + 1) (nI (k + 1) + 1, wc, wp) := by
      intro hno
      rw [nI_1]
      refine ih (k + 1) (by omega) wc wp (WR_iff (fun c p => ?_) hW)
      rw [W10q_succ hke]
      exact ⟨fun w => w.elim Or.inl (fun w => Or.inr (Or.inl w)), fun w => w.elim Or.inl (fun w => w.elim Or.inr (fun w => absurd w (hno c p)))⟩
    refine sp_Mo_literal (k := k + 1) (set := live) (cl := 256) ?_
    refine ⟨vp_in_nI (by omega) (by omega), fun y13 h13 => ?_⟩
    rw [nI_clamp (by omega), r1] at h13
    refine ⟨fun z => ?_, fun z => nxt (fun c p q => z (by rw [h13]; exact le1.mpr q.2.1))⟩
    have hA : isA l := le1.mp (by rw [← h13]; exact z)
    refine sp_Mo_literal (k := k + 1) (set := live) (cl := 256) ?_
    refine ⟨vp_in_nI (by omega) (by omega), fun y16 h16 => ?_⟩
    rw [nI_clamp (by omega)] at h16
    have cont : ∀ d0 : Option Nat, dueQ ps ar ((ls.take k).drop k) l.2.1 d0 → ∀ y18 : Int32, y18 = nI (k + 1) - 1 → ∃ n9 : Nat, lw_met_Mo_ownArities_71 post (fun x9 => lw_met_Mo_ownArities_2 post (nI live) (nI 256) LC LK LP (nI live) PA LQ LA (nI (o + n)) F (m + 1) x9) (nI 256) LP LK (nI (13 * 256 + (k + 1))) LQ LA (nI (o + n)) F (nI live) (nI (k + 1)) wc wp n9 (y18, arc d0) := by
      intro d0 hd0 y18 h18
      rw [show (1 : Int32) = nI 1 from rfl, pk_sub (by omega), Nat.add_sub_cancel] at h18
      subst h18
      refine ⟨_, own_71 (ar := ar) hs hB hl hpl hCR hls hkd hnm hke hA (fun d hd => ?_) k (Nat.le_refl _) d0 hd0⟩
      cases d with
      | none =>
        refine ⟨fun _ => nxt (fun c p ⟨_, _, _, m2, q1, _⟩ => ?_), fun z => absurd rfl z⟩
        exact absurd (dueQ_one hps hd q1) (by simp)
      | some m2 =>
        have hm6 : m2 ≤ 6 := by
          rcases hd with ⟨i, -, e⟩ | ⟨-, e⟩
          · have := har6 i
            have e := Option.some.inj e
            omega
          · refine firstAr_le (ls.take k) (fun l2 hl2 => ?_) e.symm
            obtain ⟨i, hi, e2⟩ := List.mem_iff_getElem.mp (List.mem_of_mem_take hl2)
            exact (hCR i l2 (by rw [List.getElem?_eq_getElem hi, e2])).1
        refine ⟨fun z => absurd z (nI_ne1 (by omega)), fun _ => ?_⟩
        refine ⟨vp_in_nI (by omega) (by omega), fun y39 h39 => ?_⟩
        rw [nI_clamp (by omega), r6] at h39
        subst h39
        refine pk_eq m2 l.2.2.2.2.length (fun q => nxt (fun c p ⟨_, _, _, m3, q1, q2⟩ => q2 ?_)) (fun q => ?_)
        · rw [← Option.some.inj (dueQ_one hps hd q1)]
          exact q
        · refine ⟨vp_in_nI (by omega) (by omega), fun y41 h41 => ?_⟩
          rw [nI_clamp (by omega), r4] at h41
          subst h41
          have hpl2 := (hnm l hml hA).2.1
          refine sp_Mo_wrong (c := 10) (W2 := fun c p => W c p ∨ W10q ps ar ls (k + 1) c p) (by omega) hW (fun c2 p2 => ?_) (fun wc2 wp2 hW2 => ?_)
          · show W c2 p2 ∨ W10q ps ar ls (k + 1) c2 p2 ↔ (W c2 p2 ∨ W10q ps ar ls k c2 p2) ∨ (c2 = 10 ∧ p2 = l.2.2.1)
            rw [W10q_succ hke]
            constructor
            · rintro (w | w | ⟨w1, w2, w3, w4⟩)
              · exact Or.inl (Or.inl w)
              · exact Or.inl (Or.inr w)
              · exact Or.inr ⟨w1, w3.symm⟩
            · rintro ((w | w) | ⟨w1, w2⟩)
              · exact Or.inl w
              · exact Or.inr (Or.inl w)
              · exact Or.inr (Or.inr ⟨w1, hA, w2.symm, m2, hd, q⟩)
          · show lw_met_Mo_ownArities_2 post (nI live) (nI 256) LC LK LP (nI live) PA LQ LA (nI (o + n)) F (m + 1) (nI (k + 1) + 1, wc2, wp2)
            rw [nI_1]
            exact ih (k + 1) (by omega) wc2 wp2 hW2
    have hdk : (ls.take k).drop k = [] := List.drop_of_length_le (by rw [List.length_take]; omega)
    rcases r2 hA with ⟨i, i1, i2⟩ | ⟨-, i1, i2⟩
    · have hi := (List.getElem?_eq_some_iff.mp i1).1
      rw [i2] at h16
      subst h16
      refine sp_Mo_arity hl (by omega) (har i hi) ?_
      exact cont (some (ar i)) (Or.inl ⟨i, i1, rfl⟩)
    · rw [i2] at h16
      subst h16
      refine sp_Mo_arity1 ?_
      exact cont none (Or.inr ⟨fun i hi => i1 (List.mem_of_getElem? hi), by rw [hdk]; rfl⟩)
theorem sp_Mo_ownArities {post : (Int32 × Int32) → Prop} {W : Nat → Nat → Prop} {wc wp : Int32} (hs : o + n ≤ 196608) (hB : ∀ j, j < o + n → byt (F j)) (hl : live < 2) (hps : ps.Nodup) (hpl : ps.length ≤ 64) (hCR : CR 1 ps mc o live 256 (LK, LP, LT, LQ, NQ, TP, LA) ls) (hLC : LC (257 * live + 256) = nI (ls.length + 1)) (hls : ls.length ≤ 12) (hkd : ∀ l ∈ ls, kdOk l.1) (hnm : ∀ l ∈ ls, isA l → WdAt (shf F o) n l.2.2.1 l.2.1) (har : ∀ i, i < ps.length → PA (65 * live + i) = nI (ar i)) (har6 : ∀ i, ar i ≤ 6) (hW : WR o W wc wp)
    (h : ∀ wc wp, WR o (fun c p => W c p ∨ W10q ps ar ls ls.length c p) wc wp → post (wc, wp)) : wp_met_Mo_ownArities post (nI live) (nI live) (nI (o + n)) (nI 256) wc wp F PA LC LK LP LQ LA :=
  ⟨_, own_2 hs hB hl hps hpl hCR hLC hls hkd hnm har har6 h ls.length 0 (Nat.zero_add _) wc wp (WR_iff (fun c p => ⟨Or.inl, fun w => w.elim (fun w => w) (fun ⟨_, _, _, w, _⟩ => absurd w (by omega))⟩) hW)⟩
end OwnB
