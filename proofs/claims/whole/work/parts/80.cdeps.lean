/-! pure: the class's dependencies -/
/-- rows of bits -/
def BtQ (Q : Nat → Nat → Prop) (RB : Nat → Int64) : Prop := ∀ a c, a < 64 → c < 64 → (b64 (RB a) c = true ↔ Q a c)
theorem BtQ_iff {Q Q2 : Nat → Nat → Prop} {RB : Nat → Int64} (h : ∀ a c, Q a c ↔ Q2 a c) (q : BtQ Q RB) : BtQ Q2 RB := fun a c ha hc => (q a c ha hc).trans (h a c)
section CDp
variable {G : Nat → Int32} {ps : List Wd} {cn : List Con} {cs : List (List Lt)} {tz : Int32} {FF K P : Nat → Int32}
/-- the literal j of clause c more -/
theorem EdP_s {c j a0 : Nat} {ls : List Lt} {hd l : Lt} (hnd : ps.Nodup) (hc : cs[c]? = some ls) (h0 : ls[0]? = some hd) (ha0 : ps[a0]? = some hd.2.1) (hj1 : 1 ≤ j) (hj : ls[j]? = some l) (a b : Nat) : EdP ps cs c (j + 1) a b ↔ (EdP ps cs c j a b ∨ (isA l ∧ a = a0 ∧ ps[b]? = some l.2.1)) := by
  constructor
  · rintro ⟨c2, j2, ls2, h, l2, e1, e2, e3, e4, e5, e6, e7, e8⟩
    by_cases z : c2 = c ∧ j2 = j
    · obtain ⟨rfl, rfl⟩ := z
      rw [hc] at e1
      obtain rfl := Option.some.inj e1
      rw [h0] at e2
      obtain rfl := Option.some.inj e2
      rw [hj] at e5
      obtain rfl := Option.some.inj e5
      exact Or.inr ⟨e7, nodup_inj hnd e3 ha0, e6⟩
    · exact Or.inl ⟨c2, j2, ls2, h, l2, e1, e2, e3, e4, e5, e6, e7, by omega⟩
  · rintro (⟨c2, j2, ls2, h, l2, e1, e2, e3, e4, e5, e6, e7, e8⟩ | ⟨e1, e2, e3⟩)
    · exact ⟨c2, j2, ls2, h, l2, e1, e2, e3, e4, e5, e6, e7, by omega⟩
    · subst e2
      exact ⟨c, j, ls, hd, l, hc, h0, ha0, hj1, hj, e3, e1, by omega⟩
theorem EdP_n {c : Nat} {ls : List Lt} (hc : cs[c]? = some ls) (a b : Nat) : EdP ps cs c ls.length a b ↔ EdP ps cs (c + 1) 1 a b := by
  constructor
  · rintro ⟨c2, j2, ls2, h, l2, e1, e2, e3, e4, e5, e6, e7, e8⟩
    exact ⟨c2, j2, ls2, h, l2, e1, e2, e3, e4, e5, e6, e7, by omega⟩
  · rintro ⟨c2, j2, ls2, h, l2, e1, e2, e3, e4, e5, e6, e7, e8⟩
    refine ⟨c2, j2, ls2, h, l2, e1, e2, e3, e4, e5, e6, e7, ?_⟩
    by_cases z : c2 = c
    · subst z
      rw [hc] at e1
      obtain rfl := Option.some.inj e1
      have := (List.getElem?_eq_some_iff.mp e5).1
      omega
    · omega
/-- the rows where through and from stand -/
def WB6 (R : Nat → Nat → Prop) (b a : Nat) (RB : Nat → Int64) : Prop := ∀ a2 c, a2 < 64 → c < 64 → (b64 (RB a2) c = true ↔ (if a2 < a then Pt R (b + 1) a2 c else Pt R b a2 c))
theorem fr_124 {post : (Nat → Int64) → Prop} {J : (Int32 × (Nat → Int64)) → Prop} {R : Nat → Nat → Prop} {b : Nat} (hb : b < 64) (hJ : ∀ RB, BtQ (Pt R (b + 1)) RB → J (nI (b + 1), RB)) : ∀ m a : Nat, a + m = 64 → ∀ RB, WB6 R b a RB → lw_met_Pr_findReached_124 post J (nI b) (m + 1) (nI a, RB) := by
  have rowb : ∀ c, Pt R (b + 1) b c ↔ Pt R b b c := by
    intro c
    rw [Pt_step]
    constructor
    · rintro (z | z)
      · exact z
      · exact z.2
    · exact Or.inl
  intro m
  induction m with
  | zero =>
    intro a ha RB hW
    refine pk_le 64 a (fun _ => ?_) (fun q => absurd q (by omega))
    rw [nI_1]
    refine hJ RB (fun a2 c h1 h2 => ?_)
    have := hW a2 c h1 h2
    rw [if_pos (by omega)] at this
    exact this
  | succ m ih =>
    intro a ha RB hW
    refine pk_le 64 a (fun q => absurd q (by omega)) (fun _ => ?_)
    have hrb : ∀ c, c < 64 → (b64 (RB b) c = true ↔ Pt R b b c) := by
      intro c hc
      have := hW b c hb hc
      by_cases z : b < a
      · rw [if_pos z, rowb] at this
        exact this
      · rw [if_neg z] at this
        exact this
    have hra : ∀ c, c < 64 → (b64 (RB a) c = true ↔ Pt R b a c) := by
      intro c hc
      have := hW a c (by omega) hc
      rw [if_neg (by omega)] at this
      exact this
    refine ⟨vp_in_nI (by omega) (by omega), fun y39 h39 y40 h40 y41 h41 => ?_⟩
    rw [nI_clamp (by omega)] at h39
    subst h39
    subst h40
    have t41 : y41 = 0 ↔ b64 (RB a) b = false := by
      rw [h41]
      exact b64_shr hb
    refine ⟨fun z => ?_, fun z => ?_⟩
    · rw [nI_1]
      have hno : ¬ Pt R b a b := by
        intro w
        have h1 := (hra b hb).mpr w
        rw [t41.mp z] at h1
        cases h1
      refine ih (a + 1) (by omega) RB (fun a2 c h1 h2 => ?_)
      rw [hW a2 c h1 h2]
      by_cases e : a2 = a
      · subst e
        rw [if_neg (by omega), if_pos (by omega), Pt_step]
        constructor
        · exact Or.inl
        · rintro (q | q)
          · exact q
          · exact absurd q.1 hno
      · by_cases e2 : a2 < a
        · rw [if_pos e2, if_pos (by omega)]
        · rw [if_neg e2, if_neg (by omega)]
    · have hyes : Pt R b a b := by
        refine (hra b hb).mp ?_
        cases hq : b64 (RB a) b with
        | true => rfl
        | false => exact absurd (t41.mpr hq) z
      refine ⟨vp_in_nI (by omega) (by omega), fun y43 h43 => ⟨vp_in_nI (by omega) (by omega), fun y45 h45 y46 h46 => ⟨vp_in_nI (by omega) (by omega), fun g48 h48 => ?_⟩⟩⟩
      rw [nI_clamp (by omega)] at h43 h45 h48
      subst h43 h45 h46 h48
      rw [nI_1]
      refine ih (a + 1) (by omega) _ (fun a2 c h1 h2 => ?_)
      by_cases e : a2 = a
      · subst e
        rw [pk_uLs, if_pos (by omega), b64_or, Bool.or_eq_true, hra c h2, hrb c h2, Pt_step]
        constructor
        · rintro (q | q)
          · exact Or.inl q
          · exact Or.inr ⟨hyes, q⟩
        · rintro (q | q)
          · exact Or.inl q
          · exact Or.inr q.2
      · rw [pk_uLn e, hW a2 c h1 h2]
        by_cases e2 : a2 < a
        · rw [if_pos e2, if_pos (by omega)]
        · rw [if_neg e2, if_neg (by omega)]
theorem fr_116 {post : (Nat → Int64) → Prop} {R : Nat → Nat → Prop} (h : ∀ RB, BtQ (Pt R 64) RB → post RB) : ∀ m b : Nat, b + m = 64 → ∀ RB, BtQ (Pt R b) RB → lw_met_Pr_findReached_116 post (m + 1) (nI b, RB) := by
  intro m
  induction m with
  | zero =>
    intro b hb RB hW
    obtain rfl : b = 64 := by omega
    exact pk_le 64 64 (fun _ => h RB hW) (fun q => absurd q (by omega))
  | succ m ih =>
    intro b hb RB hW
    refine pk_le 64 b (fun q => absurd q (by omega)) (fun _ => ?_)
    refine ⟨_, fr_124 (R := R) (b := b) (by omega) (fun RB2 h2 => ih (b + 1) (by omega) RB2 h2) 64 0 (by omega) RB (fun a2 c h1 h2 => ?_)⟩
    rw [if_neg (by omega)]
    exact hW a2 c h1 h2
theorem fr_54 {post : (Nat → Int64) → Prop} {J : (Int32 × (Nat → Int64)) → Prop} {c a0 : Nat} {ls : List Lt} {hd : Lt} (hM : CT G ps cn cs tz FF K P) (hc : cs[c]? = some ls) (h0 : ls[0]? = some hd) (ha0 : a0 < 64) (hda : ps[a0]? = some hd.2.1)
    (hJ : ∀ RB, BtQ (fun a b => a = b ∨ EdP ps cs (c + 1) 1 a b) RB → J (nI (c + 1), RB)) : ∀ m j : Nat, j + m = ls.length → 1 ≤ j → ∀ RB, BtQ (fun a b => a = b ∨ EdP ps cs c j a b) RB → lw_met_Pr_findReached_54 post J (nI c) 257 FF 3328 K (nI a0) 3328 P (m + 1) (nI (off cs c + j), RB) := by
  obtain ⟨d1, d2, d3, d4, d5, d6⟩ := CT_cl hM hc
  have hnd := hM.2.2.2.2.1
  intro m
  induction m with
  | zero =>
    intro j hj hj1 RB hB y19 h19
    rw [nI_1] at h19
    subst h19
    refine ⟨vp_in_nI (by omega) (by omega), fun y21 h21 => ?_⟩
    rw [nI_clamp (by omega), d5] at h21
    subst h21
    refine pk_le (off cs c + ls.length) (off cs c + j) (fun _ => ?_) (fun q => absurd q (by omega))
    rw [nI_1]
    obtain rfl : j = ls.length := by omega
    exact hJ RB (BtQ_iff (fun a b => or_congr Iff.rfl (EdP_n hc a b)) hB)
  | succ m ih =>
    intro j hj hj1 RB hB y19 h19
    rw [nI_1] at h19
    subst h19
    refine ⟨vp_in_nI (by omega) (by omega), fun y21 h21 => ?_⟩
    rw [nI_clamp (by omega), d5] at h21
    subst h21
    refine pk_le (off cs c + ls.length) (off cs c + j) (fun q => absurd q (by omega)) (fun _ => ?_)
    have hjl : j < ls.length := by omega
    have hje := List.getElem?_eq_getElem hjl
    obtain ⟨b1, b2, b3⟩ := CT_lit hM hc hje
    generalize ls[j] = l at hje b1 b2 b3
    have hEs := EdP_s hnd hc h0 hda hj1 hje
    refine ⟨vp_in_nI (by omega) (by omega), fun y23 h23 => ?_⟩
    rw [nI_clamp (by omega), b1] at h23
    subst h23
    refine ⟨fun z => ?_, fun z => ?_⟩
    · have hnA := (kd1 b2).mp z
      rw [nI_1, Nat.add_assoc]
      refine ih (j + 1) (by omega) (by omega) RB (BtQ_iff (fun a b => ?_) hB)
      rw [hEs a b]
      constructor
      · rintro (q | q)
        · exact Or.inl q
        · exact Or.inr (Or.inl q)
      · rintro (q | q | q)
        · exact Or.inl q
        · exact Or.inr q
        · exact absurd q.1 hnA
    · have hA : isA l := Classical.byContradiction (fun w => z ((kd1 b2).mpr w))
      obtain ⟨p, p1, p2, p3⟩ := b3 hA
      refine ⟨vp_in_nI (by omega) (by omega), fun y25 h25 => ⟨vp_in_nI (by omega) (by omega), fun y27 h27 y28 h28 y29 h29 => ⟨vp_in_nI (by omega) (by omega), fun g31 h31 => ?_⟩⟩⟩
      rw [nI_clamp (by omega)] at h25 h27 h31
      rw [p3] at h27
      subst h27
      subst h28 h25 h29 h31
      rw [nI_1, Nat.add_assoc]
      refine ih (j + 1) (by omega) (by omega) _ (fun a b ha hb => ?_)
      have hb2 : ps[b]? = some l.2.1 ↔ p = b := ⟨fun w => nodup_inj hnd p2 w, fun w => w ▸ p2⟩
      have hBb : b64 (RB a) b = true ↔ (a = b ∨ EdP ps cs c j a b) := hB a b ha hb
      show _ ↔ (a = b ∨ EdP ps cs c (j + 1) a b)
      rw [hEs a b]
      by_cases e : a = a0
      · subst e
        rw [pk_uLs, b64_or, Bool.or_eq_true, hBb, b64_shl p1 hb]
        constructor
        · rintro ((q | q) | q)
          · exact Or.inl q
          · exact Or.inr (Or.inl q)
          · exact Or.inr (Or.inr ⟨hA, rfl, hb2.mpr q⟩)
        · rintro (q | q | q)
          · exact Or.inl (Or.inl q)
          · exact Or.inl (Or.inr q)
          · exact Or.inr (hb2.mp q.2.2)
      · rw [pk_uLn e, hBb]
        constructor
        · rintro (q | q)
          · exact Or.inl q
          · exact Or.inr (Or.inl q)
        · rintro (q | q | q)
          · exact Or.inl q
          · exact Or.inr q
          · exact absurd q.2.1 e
theorem fr_25 {post : (Nat → Int64) → Prop} (hM : CT G ps cn cs tz FF K P) (h : ∀ RB, BtQ (fun a b => a = b ∨ Pt (Eany (EdC ps cs)) 64 a b) RB → post RB) : ∀ m c : Nat, c + m = cs.length → ∀ RB, BtQ (fun a b => a = b ∨ EdP ps cs c 1 a b) RB → lw_met_Pr_findReached_25 post tz 257 FF 3328 P 3328 K (m + 1) (nI c, RB) := by
  have htz := hM.1
  have h256 := hM.2.1
  intro m
  induction m with
  | zero =>
    intro c hc RB hB
    refine pk_le cs.length c (fun _ => ?_) (fun q => absurd q (by omega)) htz
    obtain rfl : c = cs.length := by omega
    refine ⟨_, fr_116 (R := fun x y => x = y ∨ Eany (EdC ps cs) x y) (fun RB2 h2 => h RB2 (BtQ_iff (fun a b => Pt_refl_iff) h2)) 64 0 (by omega) RB (BtQ_iff (fun a b => ?_) hB)⟩
    rw [Pt_zero, EdP_all]
  | succ m ih =>
    intro c hc RB hB
    refine pk_le cs.length c (fun q => absurd q (by omega)) (fun _ => ?_) htz
    have hcl : c < cs.length := by omega
    have hce := List.getElem?_eq_getElem hcl
    generalize cs[c] = ls at hce
    obtain ⟨hd, p, e1, e2, e3, e4, e5⟩ := CT_hd hM hce
    obtain ⟨d1, d2, d3, d4, d5, d6⟩ := CT_cl hM hce
    refine sp_headOf hM hce e5 ?_
    refine ⟨vp_in_nI (by omega) (by omega), fun y14 h14 y15 h15 => ?_⟩
    rw [nI_clamp (by omega), d4] at h14
    rw [h14, nI_1] at h15
    subst h15
    exact ⟨_, fr_54 hM hce e1 e3 e4 (fun RB2 h2 => ih (c + 1) (by omega) RB2 h2) (ls.length - 1) 1 (by omega) (by omega) RB hB⟩
theorem fr_2 {post : (Nat → Int64) → Prop} (hM : CT G ps cn cs tz FF K P) (h : ∀ RB, BtQ (fun a b => a = b ∨ Pt (Eany (EdC ps cs)) 64 a b) RB → post RB) : ∀ m v : Nat, v + m = 64 → ∀ RB, (∀ a c, a < v → c < 64 → (b64 (RB a) c = true ↔ a = c)) → lw_met_Pr_findReached_2 post tz 257 FF 3328 P 3328 K (m + 1) (nI v, RB) := by
  intro m
  induction m with
  | zero =>
    intro v hv RB hB
    refine pk_le 64 v (fun _ => ?_) (fun q => absurd q (by omega))
    refine ⟨_, fr_25 hM h cs.length 0 (by omega) RB (fun a c ha hc => ?_)⟩
    rw [hB a c (by omega) hc]
    constructor
    · exact Or.inl
    · rintro (q | ⟨c2, j2, ls2, h, l2, e1, e2, e3, e4, e5, e6, e7, e8⟩)
      · exact q
      · omega
  | succ m ih =>
    intro v hv RB hB
    refine pk_le 64 v (fun q => absurd q (by omega)) (fun _ => ?_)
    intro y5 h5
    refine ⟨vp_in_nI (by omega) (by omega), fun g7 h7 => ?_⟩
    rw [nI_clamp (by omega)] at h7
    subst h5 h7
    rw [nI_1]
    refine ih (v + 1) (by omega) _ (fun a c ha hc => ?_)
    by_cases e : a = v
    · subst e
      rw [pk_uLs]
      exact b64_shl (by omega) hc
    · rw [pk_uLn e]
      exact hB a c (by omega) hc
theorem sp_findReached {post : (Nat → Int64) → Prop} {RB : Nat → Int64} (hM : CT G ps cn cs tz FF K P) (h : ∀ RB, BtQ (fun a b => a = b ∨ Pt (Eany (EdC ps cs)) 64 a b) RB → post RB) : wp_met_Pr_findReached post 257 3328 3328 tz FF K P RB :=
  ⟨_, fr_2 hM h 64 0 (by omega) RB (fun a c ha => absurd ha (by omega))⟩
variable {Pl : Nat → Int32} {RB : Nat → Int64}
theorem pc_35 {post : Int32 → (Nat → Int64) → Prop} {J : Int32 → Prop} {c a0 : Nat} {ls : List Lt} {hd : Lt} (hM : CT G ps cn cs tz FF K P) (hPl : ∀ (i : Nat) (l : Lt), cs.flatten[i]? = some l → l.1 = 1 → Pl i = nI l.2.2.2.1) (hB : BtQ (fun a b => a = b ∨ Pt (Eany (EdC ps cs)) 64 a b) RB) (hc : cs[c]? = some ls) (h0 : ls[0]? = some hd) (ha0 : a0 < 64) (hda : ps[a0]? = some hd.2.1)
    (hJ : (∀ c2 j2, c2 < c + 1 → ¬ Flg ps cs c2 j2) → J (nI (c + 1))) (hF : ∀ p, Cyc ps cs p → p ≤ 65536 → post (nI p) RB) : ∀ m j : Nat, j + m = ls.length → 1 ≤ j → (∀ c2 j2, (c2 < c ∨ (c2 = c ∧ j2 < j)) → ¬ Flg ps cs c2 j2) → lw_met_Pr_placeOfCycle_35 post J (nI c) 257 FF 3328 K 3328 P RB (nI a0) 3328 Pl (m + 1) (nI (off cs c + j)) := by
  obtain ⟨d1, d2, d3, d4, d5, d6⟩ := CT_cl hM hc
  have hnd := hM.2.2.2.2.1
  have hok := (hM.2.2.2.2.2.2 ls (List.mem_of_getElem? hc)).2.2.1
  intro m
  induction m with
  | zero =>
    intro j hj hj1 hno y11 h11
    rw [nI_1] at h11
    subst h11
    refine ⟨vp_in_nI (by omega) (by omega), fun y13 h13 => ?_⟩
    rw [nI_clamp (by omega), d5] at h13
    subst h13
    refine pk_le (off cs c + ls.length) (off cs c + j) (fun _ => ?_) (fun q => absurd q (by omega))
    rw [nI_1]
    refine hJ (fun c2 j2 h2 hf => ?_)
    have hf0 := hf
    obtain ⟨ls2, h3, l, a, b, e1, e2, e3, e4, e5, -⟩ := hf
    refine hno c2 j2 ?_ hf0
    by_cases z : c2 = c
    · subst z
      rw [hc] at e1
      obtain rfl := Option.some.inj e1
      have := (List.getElem?_eq_some_iff.mp e5).1
      omega
    · omega
  | succ m ih =>
    intro j hj hj1 hno y11 h11
    rw [nI_1] at h11
    subst h11
    refine ⟨vp_in_nI (by omega) (by omega), fun y13 h13 => ?_⟩
    rw [nI_clamp (by omega), d5] at h13
    subst h13
    refine pk_le (off cs c + ls.length) (off cs c + j) (fun q => absurd q (by omega)) (fun _ => ?_)
    have hjl : j < ls.length := by omega
    have hje := List.getElem?_eq_getElem hjl
    obtain ⟨b1, b2, b3⟩ := CT_lit hM hc hje
    generalize ls[j] = l at hje b1 b2 b3
    have go : ¬ Flg ps cs c j → lw_met_Pr_placeOfCycle_35 post J (nI c) 257 FF 3328 K 3328 P RB (nI a0) 3328 Pl (m + 1) (nI (off cs c + j) + 1) := by
      intro hf
      rw [nI_1, Nat.add_assoc]
      refine ih (j + 1) (by omega) (by omega) (fun c2 j2 h2 => ?_)
      by_cases z : c2 = c ∧ j2 = j
      · rw [z.1, z.2]
        exact hf
      · exact hno c2 j2 (by omega)
    have hfl : Flg ps cs c j → l.1 = 1 := by
      rintro ⟨ls2, h3, l2, a, b, e1, e2, e3, e4, e5, e6, e7, e8⟩
      rw [hc] at e1
      obtain rfl := Option.some.inj e1
      rw [hje] at e5
      obtain rfl := Option.some.inj e5
      exact e7
    refine ⟨vp_in_nI (by omega) (by omega), fun y15 h15 => ?_⟩
    rw [nI_clamp (by omega), b1] at h15
    subst h15
    refine ⟨fun k1 => ?_, fun k1 => go (fun z => k1 (hfl z))⟩
    obtain ⟨p, p1, p2, p3⟩ := b3 (Or.inr k1)
    have hE : EdC ps cs a0 p 1 := ⟨c, j, ls, hd, l, hc, h0, hda, hj1, hje, p2, Or.inr ⟨k1, rfl⟩⟩
    refine ⟨vp_in_nI (by omega) (by omega), fun y17 h17 => ?_⟩
    rw [nI_clamp (by omega), p3] at h17
    subst h17
    refine ⟨vp_in_nI (by omega) (by omega), fun y19 h19 y20 h20 y21 h21 => ?_⟩
    rw [nI_clamp (by omega)] at h19
    subst h19 h20
    have t21 : y21 = 0 ↔ b64 (RB p) a0 = false := by
      rw [h21]
      exact b64_shr ha0
    have hbit : b64 (RB p) a0 = true ↔ Pt (Eany (EdC ps cs)) 64 p a0 := by
      rw [hB p a0 p1 ha0]
      constructor
      · rintro (q | q)
        · subst q
          exact Pt_one ⟨1, hE⟩
        · exact q
      · exact Or.inr
    refine ⟨fun z => go (fun hf => ?_), fun z => ?_⟩
    · obtain ⟨ls2, h3, l2, a, b, e1, e2, e3, e4, e5, e6, e7, e8⟩ := hf
      rw [hc] at e1
      obtain rfl := Option.some.inj e1
      rw [h0] at e2
      obtain rfl := Option.some.inj e2
      rw [hje] at e5
      obtain rfl := Option.some.inj e5
      obtain rfl := nodup_inj hnd e3 hda
      obtain rfl := nodup_inj hnd e6 p2
      have := hbit.mpr e8
      rw [t21.mp z] at this
      cases this
    · have hyes : Pt (Eany (EdC ps cs)) 64 p a0 := by
        refine hbit.mp ?_
        cases hq : b64 (RB p) a0 with
        | true => rfl
        | false => exact absurd (t21.mpr hq) z
      have hflg : Flg ps cs c j := ⟨ls, hd, l, a0, p, hc, h0, hda, hj1, hje, p2, k1, hyes⟩
      refine ⟨vp_in_nI (by omega) (by omega), fun y23 h23 => ?_⟩
      rw [nI_clamp (by omega), hPl _ l (flat_at hc hje) k1] at h23
      subst h23
      refine hF _ ⟨c, j, ls, l, hflg, hno, hc, hje, rfl⟩ ?_
      rcases (hok l (List.mem_of_getElem? hje)).1 with q | q
      · exact q.2.2.2.2
      · rw [k1] at q
        exact absurd q.1 (by decide)
theorem pc_6 {post : Int32 → (Nat → Int64) → Prop} (hM : CT G ps cn cs tz FF K P) (hPl : ∀ (i : Nat) (l : Lt), cs.flatten[i]? = some l → l.1 = 1 → Pl i = nI l.2.2.2.1) (hB : BtQ (fun a b => a = b ∨ Pt (Eany (EdC ps cs)) 64 a b) RB) (hN : (∀ c j, ¬ Flg ps cs c j) → post (-1) RB) (hF : ∀ p, Cyc ps cs p → p ≤ 65536 → post (nI p) RB) : ∀ m c : Nat, c + m = cs.length → (∀ c2 j2, c2 < c → ¬ Flg ps cs c2 j2) → lw_met_Pr_placeOfCycle_6 post tz RB 257 FF 3328 P 3328 K 3328 Pl (m + 1) (nI c) := by
  have htz := hM.1
  have h256 := hM.2.1
  intro m
  induction m with
  | zero =>
    intro c hc hno
    refine pk_le cs.length c (fun _ => ?_) (fun q => absurd q (by omega)) htz
    refine hN (fun c2 j2 hf => hno c2 j2 ?_ hf)
    obtain ⟨ls2, h3, l, a, b, e1, -⟩ := hf
    have := (List.getElem?_eq_some_iff.mp e1).1
    omega
  | succ m ih =>
    intro c hc hno
    refine pk_le cs.length c (fun q => absurd q (by omega)) (fun _ => ?_) htz
    have hcl : c < cs.length := by omega
    have hce := List.getElem?_eq_getElem hcl
    generalize cs[c] = ls at hce
    obtain ⟨hd, p, e1, e2, e3, e4, e5⟩ := CT_hd hM hce
    obtain ⟨d1, d2, d3, d4, d5, d6⟩ := CT_cl hM hce
    refine sp_headOf hM hce e5 ?_
    refine ⟨vp_in_nI (by omega) (by omega), fun y7 h7 y8 h8 => ?_⟩
    rw [nI_clamp (by omega), d4] at h7
    rw [h7, nI_1] at h8
    subst h8
    refine ⟨_, pc_35 hM hPl hB hce e1 e3 e4 (fun h2 => ih (c + 1) (by omega) h2) hF (ls.length - 1) 1 (by omega) (by omega) (fun c2 j2 h2 => ?_)⟩
    by_cases z : c2 < c
    · exact hno c2 j2 z
    · rintro ⟨ls2, h3, l, a, b, f1, f2, f3, f4, -⟩
      omega
theorem sp_placeOfCycle {post : Int32 → (Nat → Int64) → Prop} {RB0 : Nat → Int64} (hM : CT G ps cn cs tz FF K P) (hPl : ∀ (i : Nat) (l : Lt), cs.flatten[i]? = some l → l.1 = 1 → Pl i = nI l.2.2.2.1) (hN : (∀ c j, ¬ Flg ps cs c j) → ∀ RB, post (-1) RB) (hF : ∀ p, Cyc ps cs p → p ≤ 65536 → ∀ RB, post (nI p) RB) : wp_met_Pr_placeOfCycle post 257 3328 3328 3328 tz FF K P Pl RB0 := by
  refine sp_findReached hM (fun RB hB => ?_)
  exact ⟨_, pc_6 hM hPl hB (fun h => hN h RB) (fun p h1 h2 => hF p h1 h2 RB) cs.length 0 (by omega) (fun c2 j2 h2 => absurd h2 (by omega))⟩
theorem sp_checkCycle {post : (Int32 × Int32 × Int32 × (Nat → Int64)) → Prop} {code place st : Int32} {RB0 : Nat → Int64} (h0 : ¬ code = 0 → post (code, place, st, RB0)) (hM : code = 0 → CT G ps cn cs tz FF K P ∧ ∀ (i : Nat) (l : Lt), cs.flatten[i]? = some l → l.1 = 1 → Pl i = nI l.2.2.2.1)
    (h1 : code = 0 → (∀ c j, ¬ Flg ps cs c j) → ∀ RB, post (code, place, st, RB)) (h2 : code = 0 → ∀ p, Cyc ps cs p → p ≤ 65536 → ∀ RB, post (12, nI p, 12, RB)) : wp_met_Re_checkCycle post 257 3328 3328 3328 code place st tz FF K P Pl RB0 := by
  refine ⟨fun z => ?_, fun z => ?_⟩
  · obtain ⟨m1, m2⟩ := hM z
    refine sp_placeOfCycle m1 m2 (fun hn RB => ?_) (fun p hp hp2 RB => ?_)
    · exact ⟨fun _ => h1 z hn RB, fun w => absurd rfl w⟩
    · exact ⟨fun w => absurd w (nI_ne1 (by omega)), fun _ => h2 z p hp hp2 RB⟩
  · exact ⟨fun _ => h0 z, fun w => absurd rfl w⟩
end CDp
