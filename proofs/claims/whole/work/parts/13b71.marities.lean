/-! pure: the model's sizes of predicates -/
/-- the size at the first place -/
def firstAr : List Lt → Wd → Option Nat
  | [], _ => none
  | l :: r, w => if (l.1 = 0 ∨ l.1 = 1) ∧ l.2.1 = w then some l.2.2.2.2.length else firstAr r w
theorem firstAr_app (w : Wd) (M : List Lt) : ∀ L : List Lt, firstAr (L ++ M) w = match firstAr L w with
    | some n => some n
    | none => firstAr M w := by
  intro L
  induction L with
  | nil => rfl
  | cons l r ih =>
    have e1 : firstAr ((l :: r) ++ M) w = if (l.1 = 0 ∨ l.1 = 1) ∧ l.2.1 = w then some l.2.2.2.2.length else firstAr (r ++ M) w := rfl
    have e2 : firstAr (l :: r) w = if (l.1 = 0 ∨ l.1 = 1) ∧ l.2.1 = w then some l.2.2.2.2.length else firstAr r w := rfl
    rw [e1, e2]
    by_cases q : (l.1 = 0 ∨ l.1 = 1) ∧ l.2.1 = w
    · rw [if_pos q, if_pos q]
    · rw [if_neg q, if_neg q, ih]
theorem firstAr_one (l : Lt) (w : Wd) : firstAr [l] w = if (l.1 = 0 ∨ l.1 = 1) ∧ l.2.1 = w then some l.2.2.2.2.length else none := rfl
theorem firstAr_mem {l : Lt} (hp : l.1 = 0 ∨ l.1 = 1) : ∀ L : List Lt, l ∈ L → ∃ n, firstAr L l.2.1 = some n := by
  intro L
  induction L with
  | nil => intro h; cases h
  | cons x r ih =>
    intro h
    unfold firstAr
    by_cases q : (x.1 = 0 ∨ x.1 = 1) ∧ x.2.1 = l.2.1
    · exact ⟨_, by rw [if_pos q]⟩
    · rw [if_neg q]
      rcases List.mem_cons.mp h with h | h
      · rw [← h] at q
        exact absurd ⟨hp, rfl⟩ q
      · exact ih h
theorem firstAr_le {w : Wd} {n : Nat} : ∀ L : List Lt, (∀ l ∈ L, l.2.2.2.2.length ≤ 6) → firstAr L w = some n → n ≤ 6 := by
  intro L
  induction L with
  | nil => intro _ h; cases h
  | cons x r ih =>
    intro h6 h
    unfold firstAr at h
    by_cases q : (x.1 = 0 ∨ x.1 = 1) ∧ x.2.1 = w
    · rw [if_pos q] at h
      obtain rfl := Option.some.inj h
      exact h6 x (List.mem_cons_self ..)
    · rw [if_neg q] at h
      exact ih (fun l hl => h6 l (List.mem_cons_of_mem _ hl)) h
/-- places of atoms whose size is another than the first -/
def W10 (L : List Lt) (c p : Nat) : Prop := c = 10 ∧ ∃ l ∈ L, (l.1 = 0 ∨ l.1 = 1) ∧ l.2.2.1 = p ∧ ¬ firstAr L l.2.1 = some l.2.2.2.2.length
theorem W10_push {L : List Lt} {l : Lt} {c p : Nat} : W10 (L ++ [l]) c p ↔ W10 L c p ∨ (c = 10 ∧ (l.1 = 0 ∨ l.1 = 1) ∧ l.2.2.1 = p ∧ ∃ n, firstAr L l.2.1 = some n ∧ ¬ n = l.2.2.2.2.length) := by
  constructor
  · rintro ⟨hc, x, hx, h1, h2, h3⟩
    rcases List.mem_append.mp hx with g | g
    · obtain ⟨n, hn⟩ := firstAr_mem h1 L g
      rw [firstAr_app, hn] at h3
      exact Or.inl ⟨hc, x, g, h1, h2, by rw [hn]; exact h3⟩
    · rw [List.mem_singleton] at g
      subst g
      rw [firstAr_app] at h3
      cases hn : firstAr L x.2.1 with
      | none =>
        rw [hn] at h3
        exfalso
        exact h3 (by show firstAr [x] x.2.1 = _; rw [firstAr_one, if_pos ⟨h1, rfl⟩])
      | some n =>
        rw [hn] at h3
        exact Or.inr ⟨hc, h1, h2, n, rfl, fun e => h3 (by rw [e])⟩
  · rintro (⟨hc, x, hx, h1, h2, h3⟩ | ⟨hc, h1, h2, n, hn, h3⟩)
    · refine ⟨hc, x, List.mem_append_left _ hx, h1, h2, ?_⟩
      obtain ⟨n, hn⟩ := firstAr_mem h1 L hx
      rw [firstAr_app, hn]
      rw [hn] at h3
      exact h3
    · refine ⟨hc, l, by simp, h1, h2, ?_⟩
      rw [firstAr_app, hn]
      exact fun e => h3 (Option.some.inj e)
def arc : Option Nat → Int32
  | none => -1
  | some n => nI n
/-- the sizes that the model holds -/
def AriR (ps : List Wd) (set : Nat) (PA : Nat → Int32) (L : List Lt) : Prop := ∀ (i : Nat) (w : Wd), ps[i]? = some w → PA (65 * set + i) = arc (firstAr L w)
theorem nodup_inj {α : Type} {l : List α} {i j : Nat} {x : α} (h : l.Nodup) (hi : l[i]? = some x) (hj : l[j]? = some x) : i = j := by
  obtain ⟨a1, a2⟩ := List.getElem?_eq_some_iff.mp hi
  obtain ⟨b1, b2⟩ := List.getElem?_eq_some_iff.mp hj
  exact (List.getElem_inj h).mp (a2.trans b2.symm)
theorem AriR_new {ps : List Wd} {set i : Nat} {PA : Nat → Int32} {L : List Lt} {l : Lt} (hnd : ps.Nodup) (h : AriR ps set PA L) (hp : l.1 = 0 ∨ l.1 = 1) (hi : ps[i]? = some l.2.1) (hn : firstAr L l.2.1 = none) : AriR ps set (upd PA (65 * set + i) (nI l.2.2.2.2.length)) (L ++ [l]) := by
  intro j w hj
  rw [firstAr_app, firstAr_one]
  by_cases z : j = i
  · subst z
    rw [hi] at hj
    obtain rfl := Option.some.inj hj
    rw [upd_same, hn]
    show _ = arc (if _ then _ else _)
    rw [if_pos ⟨hp, rfl⟩]
    rfl
  · rw [upd_ne (by omega), h j w hj]
    cases hw : firstAr L w with
    | some n => rfl
    | none =>
      show _ = arc (if _ then _ else _)
      rw [if_neg (fun q => z ?_)]
      rw [q.2] at hi
      exact nodup_inj hnd hj hi
theorem AriR_old {ps : List Wd} {set : Nat} {PA : Nat → Int32} {L : List Lt} {l : Lt} (h : AriR ps set PA L) (hp : (l.1 = 0 ∨ l.1 = 1) → ∃ n, firstAr L l.2.1 = some n) : AriR ps set PA (L ++ [l]) := by
  intro j w hj
  rw [h j w hj, firstAr_app, firstAr_one]
  cases hw : firstAr L w with
  | some n => rfl
  | none =>
    show _ = arc (if _ then _ else _)
    rw [if_neg (fun q => ?_)]
    obtain ⟨n, hn⟩ := hp q.1
    rw [q.2, hw] at hn
    cases hn
theorem take_push {α : Type} : ∀ (l : List α) (k : Nat) (h : k < l.length), l.take (k + 1) = l.take k ++ [l[k]] := by
  intro l
  induction l with
  | nil => intro k h; exact absurd h (by simp)
  | cons x xs ih =>
    intro k h
    cases k with
    | zero => rfl
    | succ k =>
      show x :: xs.take (k + 1) = x :: xs.take k ++ [xs[k]'(by simpa using h)]
      rw [ih k (by simpa using h)]
      rfl
section Arit
variable {o set : Nat} {ps : List Wd} {mc : List Con} {LK LP LT LQ NQ TP LA LC PA0 : Nat → Int32}
theorem sp_ar_in {post : (Int32 × Int32 × Int32 × (Nat → Int32)) → Prop} {J : (Int32 × Int32 × Int32 × (Nat → Int32)) → Prop} {c : Nat} {pre ls : List Lt} (hset : set < 2) (hc : c < 257) (hls : ls.length ≤ 13) (hLC : LC (257 * set + c) = nI ls.length) (hCR : CR 0 ps mc o set c (LK, LP, LT, LQ, NQ, TP, LA) ls) (hnd : ps.Nodup) (hps : ps.length ≤ 64) (hpl : ∀ l ∈ ls, (l.1 = 0 ∨ l.1 = 1) → o + l.2.2.1 < 2147483647) (h6 : ∀ l ∈ pre ++ ls, l.2.2.2.2.length ≤ 6)
    (hJ : ∀ wc wp PA2, WR o (W10 (pre ++ ls)) wc wp → AriR ps set PA2 (pre ++ ls) → (∀ j, ¬ (65 * set ≤ j ∧ j < 65 * set + 65) → PA2 j = PA0 j) → J (nI (c + 1), wc, wp, PA2)) : ∀ m k : Nat, k + m = ls.length → ∀ wc wp PA, WR o (W10 (pre ++ ls.take k)) wc wp → AriR ps set PA (pre ++ ls.take k) → (∀ j, ¬ (65 * set ≤ j ∧ j < 65 * set + 65) → PA j = PA0 j) → lw_met_Mo_arities_23 post J (nI set) (nI c) LC LP LA LQ (m + 1) (nI k, wc, wp, PA) := by
  intro m
  induction m with
  | zero =>
    intro k hk wc wp PA hW hA hfr y13 h13 y14 h14
    rw [show (257 : Int32) = nI 257 from rfl, pk_mul] at h13
    rw [h13, nI_add] at h14
    subst h14
    refine ⟨vp_in_nI (by omega) (by omega), fun y16 h16 => ?_⟩
    rw [nI_clamp (by omega), hLC] at h16
    subst h16
    refine pk_le ls.length k (fun _ => ?_) (fun q => absurd q (by omega))
    intro y44 h44
    rw [nI_1] at h44
    subst h44
    rw [List.take_of_length_le (by omega)] at hW hA
    exact hJ wc wp PA hW hA hfr
  | succ m ih =>
    intro k hk wc wp PA hW hA hfr y13 h13 y14 h14
    rw [show (257 : Int32) = nI 257 from rfl, pk_mul] at h13
    rw [h13, nI_add] at h14
    subst h14
    refine ⟨vp_in_nI (by omega) (by omega), fun y16 h16 => ?_⟩
    rw [nI_clamp (by omega), hLC] at h16
    subst h16
    refine pk_le ls.length k (fun q => absurd q (by omega)) (fun _ => ?_)
    have hkl : k < ls.length := by omega
    have hke := List.getElem?_eq_getElem hkl
    have hml : ls[k] ∈ ls := List.getElem_mem hkl
    have htk : pre ++ ls.take (k + 1) = (pre ++ ls.take k) ++ [ls[k]] := by rw [take_push ls k hkl, List.append_assoc]
    obtain ⟨hl6, hR⟩ := hCR k _ hke
    generalize hle : ls[k] = l at hke hml htk hl6 hR
    rw [show sf 0 = 0 from rfl, Nat.add_zero] at hR
    obtain ⟨r1, r2, r3, r4, r5, r6, r7⟩ := hR
    replace r2 : l.1 = 0 ∨ l.1 = 1 → PC 0 ps l.2.1 (LP ((257 * set + c) * 13 + k)) := r2
    replace r3 : ¬ (l.1 = 0 ∨ l.1 = 1) → LP ((257 * set + c) * 13 + k) = -1 := r3
    replace r4 : LQ (13 * c + k) = nI (o + l.2.2.1) := r4
    replace r6 : LA (13 * c + k) = nI l.2.2.2.2.length := r6
    have h6p : ∀ x ∈ pre ++ ls.take k, x.2.2.2.2.length ≤ 6 := by
      intro x hx
      rcases List.mem_append.mp hx with g | g
      · exact h6 x (List.mem_append_left _ g)
      · exact h6 x (List.mem_append_right _ (List.mem_of_mem_take g))
    refine sp_Mo_literal ?_
    refine ⟨vp_in_nI (by omega) (by omega), fun y20 h20 => ?_⟩
    rw [nI_clamp (by omega)] at h20
    by_cases hp : l.1 = 0 ∨ l.1 = 1
    · rcases r2 hp with ⟨i, hi, he⟩ | ⟨w, -⟩
      · rw [he] at h20
        have hil := (List.getElem?_eq_some_iff.mp hi).1
        have m1 : (-1 : Int32).toInt = -1 := by decide
        have nm1 : ∀ x : Nat, x < 2147483648 → ¬ nI x = (-1 : Int32) := by
          intro x hx e
          have := congrArg Int32.toInt e
          rw [nI_toInt (by omega), m1] at this
          omega
        refine ⟨fun e => absurd (h20.symm.trans e) (nm1 i (by omega)), fun _ => ?_⟩
        intro y21 h21 y22 h22
        rw [show (13 : Int32) = nI 13 from rfl, pk_mul] at h21
        rw [h21, nI_add] at h22
        subst h22
        refine ⟨vp_in_nI (by omega) (by omega), fun y24 h24 y25 h25 y26 h26 => ?_⟩
        rw [nI_clamp (by omega), r6] at h24
        rw [show (65 : Int32) = nI 65 from rfl, pk_mul] at h25
        rw [h25, h20, nI_add] at h26
        subst h26
        refine ⟨vp_in_nI (by omega) (by omega), fun y28 h28 => ?_⟩
        rw [nI_clamp (by omega), hA i _ hi] at h28
        cases hf : firstAr (pre ++ ls.take k) l.2.1 with
        | none =>
          rw [hf] at h28
          replace h28 : y28 = -1 := h28
          refine ⟨fun _ => ?_, fun e => absurd h28 e⟩
          intro y40 h40 y41 h41
          rw [show (65 : Int32) = nI 65 from rfl, pk_mul] at h40
          rw [h40, h20, nI_add] at h41
          subst h41
          refine ⟨vp_in_nI (by omega) (by omega), fun g43 h43 => ?_⟩
          rw [nI_clamp (by omega), h24] at h43
          subst h43
          rw [nI_1]
          refine ih (k + 1) (by omega) wc wp _ (WR_iff (fun c2 p2 => ?_) hW) ?_ (fun j hj => ?_)
          · rw [htk, W10_push]
            constructor
            · exact Or.inl
            · rintro (w | ⟨-, -, -, n, w, -⟩)
              · exact w
              · rw [hf] at w
                cases w
          · rw [htk]
            exact AriR_new hnd hA hp hi hf
          · rw [upd_ne (by omega)]
            exact hfr j hj
        | some n =>
          rw [hf] at h28
          replace h28 : y28 = nI n := h28
          have hn6 := firstAr_le _ h6p hf
          have hA2 : AriR ps set PA (pre ++ ls.take (k + 1)) := by
            rw [htk]
            exact AriR_old hA (fun _ => ⟨n, hf⟩)
          refine ⟨fun e => absurd (h28.symm.trans e) (nm1 n (by omega)), fun _ => ?_⟩
          intro y29 h29 y30 h30
          rw [show (65 : Int32) = nI 65 from rfl, pk_mul] at h29
          rw [h29, h20, nI_add] at h30
          subst h30
          refine ⟨vp_in_nI (by omega) (by omega), fun y32 h32 => ?_⟩
          rw [nI_clamp (by omega), hA i _ hi, hf] at h32
          replace h32 : y32 = nI n := h32
          rw [h32, h24]
          refine pk_eq n l.2.2.2.2.length (fun q => ?_) (fun q => ?_)
          · rw [nI_1]
            refine ih (k + 1) (by omega) wc wp PA (WR_iff (fun c2 p2 => ?_) hW) hA2 hfr
            rw [htk, W10_push]
            constructor
            · exact Or.inl
            · rintro (w | ⟨-, -, -, n2, w, w2⟩)
              · exact w
              · rw [hf] at w
                obtain rfl := Option.some.inj w
                exact absurd q w2
          · intro y33 h33 y34 h34
            rw [show (13 : Int32) = nI 13 from rfl, pk_mul] at h33
            rw [h33, nI_add] at h34
            subst h34
            refine ⟨vp_in_nI (by omega) (by omega), fun y36 h36 => ?_⟩
            rw [nI_clamp (by omega), r4] at h36
            subst h36
            refine sp_Mo_wrong (c := 10) (W2 := W10 (pre ++ ls.take (k + 1))) (hpl l hml hp) hW (fun c2 p2 => ?_) (fun wc2 wp2 hW2 => ?_)
            · rw [htk, W10_push]
              constructor
              · rintro (w | ⟨w, -, w2, -⟩)
                · exact Or.inl w
                · exact Or.inr ⟨w, w2.symm⟩
              · rintro (w | ⟨w, w2⟩)
                · exact Or.inl w
                · exact Or.inr ⟨w, hp, w2.symm, n, hf, q⟩
            · rw [nI_1]
              exact ih (k + 1) (by omega) wc2 wp2 PA hW2 hA2 hfr
      · exact absurd rfl w
    · rw [r3 hp] at h20
      refine ⟨fun _ => ?_, fun e => absurd h20 e⟩
      rw [nI_1]
      refine ih (k + 1) (by omega) wc wp PA (WR_iff (fun c2 p2 => ?_) hW) ?_ hfr
      · rw [htk, W10_push]
        constructor
        · exact Or.inl
        · rintro (w | ⟨-, w, -⟩)
          · exact w
          · exact absurd w hp
      · rw [htk]
        exact AriR_old hA (fun w => absurd w hp)
theorem sp_ar_lp {post : (Int32 × Int32 × Int32 × (Nat → Int32)) → Prop} {cs : List (List Lt)} {Cl : Nat → Int32} (hset : set < 2) (hcs : cs.length ≤ 256) (hCl : Cl set = nI cs.length) (hAR : AR ps mc o set (LK, LP, LT, LQ, NQ, TP, LA) LC cs) (hnd : ps.Nodup) (hps : ps.length ≤ 64) (hpl : ∀ ls ∈ cs, ∀ l ∈ ls, (l.1 = 0 ∨ l.1 = 1) → o + l.2.2.1 < 2147483647) (h6 : ∀ ls ∈ cs, ∀ l ∈ ls, l.2.2.2.2.length ≤ 6)
    (h : ∀ wc wp PA2, WR o (W10 cs.flatten) wc wp → AriR ps set PA2 cs.flatten → (∀ j, ¬ (65 * set ≤ j ∧ j < 65 * set + 65) → PA2 j = PA0 j) → post (nI cs.length, wc, wp, PA2)) : ∀ m c : Nat, c + m = cs.length → ∀ wc wp PA, WR o (W10 (cs.take c).flatten) wc wp → AriR ps set PA (cs.take c).flatten → (∀ j, ¬ (65 * set ≤ j ∧ j < 65 * set + 65) → PA j = PA0 j) → lw_met_Mo_arities_5 post (nI set) Cl LC LP LA LQ (m + 1) (nI c, wc, wp, PA) := by
  intro m
  induction m with
  | zero =>
    intro c hc wc wp PA hW hA hfr
    refine ⟨vp_in_nI hset (by omega), fun y7 h7 => ?_⟩
    rw [nI_clamp (by omega), hCl] at h7
    subst h7
    refine pk_le cs.length c (fun _ => ?_) (fun q => absurd q (by omega))
    rw [List.take_of_length_le (by omega)] at hW hA
    obtain rfl : c = cs.length := by omega
    exact h wc wp PA hW hA hfr
  | succ m ih =>
    intro c hc wc wp PA hW hA hfr
    refine ⟨vp_in_nI hset (by omega), fun y7 h7 => ?_⟩
    rw [nI_clamp (by omega), hCl] at h7
    subst h7
    refine pk_le cs.length c (fun q => absurd q (by omega)) (fun _ => ?_)
    have hcl : c < cs.length := by omega
    have hce := List.getElem?_eq_getElem hcl
    have hmc : cs[c] ∈ cs := List.getElem_mem hcl
    obtain ⟨a1, a2, a3, a4⟩ := hAR c _ hce
    have htk : (cs.take (c + 1)).flatten = (cs.take c).flatten ++ cs[c] := by
      rw [take_push cs c hcl, List.flatten_append]
      simp
    refine ⟨_, sp_ar_in (PA0 := PA0) (pre := (cs.take c).flatten) hset (by omega) a2 a3 a4 hnd hps (hpl _ hmc) (fun l hl => ?_) (fun wc2 wp2 PA2 hW2 hA2 hfr2 => ?_) _ 0 (Nat.zero_add _) wc wp PA (by simpa using hW) (by simpa using hA) hfr⟩
    · rcases List.mem_append.mp hl with g | g
      · obtain ⟨ls, g1, g2⟩ := List.mem_flatten.mp g
        exact h6 ls (List.mem_of_mem_take g1) l g2
      · exact h6 _ hmc l g
    · exact ih (c + 1) (by omega) wc2 wp2 PA2 (by rw [htk]; exact hW2) (by rw [htk]; exact hA2) hfr2
theorem sp_Mo_arities {post : (Int32 × Int32 × Int32 × (Nat → Int32)) → Prop} {cs : List (List Lt)} {Cl : Nat → Int32} {wc : Int32} (hset : set < 2) (hcs : cs.length ≤ 256) (hCl : Cl set = nI cs.length) (hAR : AR ps mc o set (LK, LP, LT, LQ, NQ, TP, LA) LC cs) (hnd : ps.Nodup) (hps : ps.length ≤ 64) (hpl : ∀ ls ∈ cs, ∀ l ∈ ls, (l.1 = 0 ∨ l.1 = 1) → o + l.2.2.1 < 2147483647) (h6 : ∀ ls ∈ cs, ∀ l ∈ ls, l.2.2.2.2.length ≤ 6) (hN : PN 0 set ps PA0)
    (h : ∀ wc wp PA2, WR o (W10 cs.flatten) wc wp → AriR ps set PA2 cs.flatten → (∀ j, ¬ (65 * set ≤ j ∧ j < 65 * set + 65) → PA2 j = PA0 j) → post (nI cs.length, wc, wp, PA2)) : wp_met_Mo_arities post (nI set) wc 2147483647 PA0 Cl LC LP LQ LA := by
  refine ⟨_, sp_ar_lp (PA0 := PA0) hset hcs hCl hAR hnd hps hpl h6 h cs.length 0 (Nat.zero_add _) wc 2147483647 PA0 (Or.inl ⟨fun c p w => ?_, rfl⟩) (fun i w hi => ?_) (fun _ _ => rfl)⟩
  · obtain ⟨-, l, hl, -⟩ := w
    cases hl
  · exact hN rfl i (List.getElem?_eq_some_iff.mp hi).1
end Arit
