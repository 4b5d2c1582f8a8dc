/-! pure: a program that was read without a fault -/
def arF (ps : List Wd) (cs : List (List Lt)) (p : Nat) : Nat := match ps[p]? with
  | some w => (firstAr cs.flatten w).getD 0
  | none => 0
theorem lt_atom {md : Nat} {G : Nat → Int32} {ps : List Wd} {cn : List Con} {l : Lt} (h : LtOk md G ps cn l) (ha : l.1 = 0 ∨ l.1 = 1) : NmOk md G ps l := by
  rcases h.1 with w | w
  · exact w
  · exfalso
    rcases ha with e | e <;> rw [e] at w <;> exact absurd w.1 (by decide)
theorem lt_two {md : Nat} {G : Nat → Int32} {ps : List Wd} {cn : List Con} {l : Lt} (h : LtOk md G ps cn l) (ha : ¬ (l.1 = 0 ∨ l.1 = 1)) : l.2.2.2.2.length = 2 := by
  rcases h.1 with w | w
  · exact absurd w.1 ha
  · exact w.2.2
section PgOf
variable {T : Nat → Int32} {D : Dt} {L : Nat → Nat}
theorem ar_of (hW : ∀ c p, ¬ WA D.1 c p) {ls : List Lt} {l : Lt} (hls : ls ∈ D.1) (hl : l ∈ ls) (ha : l.1 = 0 ∨ l.1 = 1) : firstAr D.1.flatten l.2.1 = some l.2.2.2.2.length := by
  apply Classical.byContradiction
  intro h
  exact hW 10 l.2.2.1 (Or.inl ⟨rfl, l, List.mem_flatten.mpr ⟨ls, hls, hl⟩, ha, rfl, h⟩)
theorem arF_of (hW : ∀ c p, ¬ WA D.1 c p) {ls : List Lt} {l : Lt} {p : Nat} (hls : ls ∈ D.1) (hl : l ∈ ls) (ha : l.1 = 0 ∨ l.1 = 1) (hp : D.2.2.2.2.1[p]? = some l.2.1) : l.2.2.2.2.length = arF D.2.2.2.2.1 D.1 p := by
  unfold arF
  rw [hp]
  show _ = (firstAr D.1.flatten l.2.1).getD 0
  rw [ar_of hW hls hl ha]
  rfl
theorem arF_6 (hd : DI 0 T D) (p : Nat) : arF D.2.2.2.2.1 D.1 p ≤ 6 := by
  unfold arF
  split
  · rename_i w hw
    cases h : firstAr D.1.flatten w with
    | none => exact Nat.zero_le _
    | some m =>
      refine firstAr_le D.1.flatten (fun l hl => ?_) h
      obtain ⟨ls, h1, h2⟩ := List.mem_flatten.mp hl
      exact ((hd.1 ls h1).2.2.1 l h2).2.1
  · exact Nat.zero_le _
theorem Pg_of (hd : DI 0 T D) (hps : D.2.2.2.2.1.length ≤ 64) (hcs : D.1.length ≤ 256) (hW : ∀ c p, ¬ WA D.1 c p) (hL : Lst (EdC D.2.2.2.2.1 D.1) L) (hL64 : ∀ p, L p ≤ 64) : PgOk D.2.2.2.2.1 D.1 L (arF D.2.2.2.2.1 D.1) := by
  refine ⟨hd.2.2.2.2.2.1, hps, hcs, hL64, fun c ls hc => ?_⟩
  have hm := List.mem_of_getElem? hc
  obtain ⟨k1, k2, k3, k4⟩ := hd.1 ls hm
  obtain ⟨hdl, h0e⟩ : ∃ h, ls[0]? = some h := ⟨_, List.getElem?_eq_getElem (show 0 < ls.length by omega)⟩
  have hm0 := List.mem_of_getElem? h0e
  have h00 := k4 rfl hdl h0e
  have hin := (lt_atom (k3 hdl hm0) (Or.inl h00)).2.2.1 rfl
  obtain ⟨hp, hpl, hpe⟩ := List.mem_iff_getElem.mp hin
  have hpe2 : D.2.2.2.2.1[hp]? = some hdl.2.1 := by rw [List.getElem?_eq_getElem hpl, hpe]
  refine ⟨k2, fun l hl => ⟨(k3 l hl).2.1, kd_of (k3 l hl), lt_two (k3 l hl)⟩, fun l hl t ht v hv => ?_, hdl, hp, h0e, h00, hpe2, fun l hl ha => ?_⟩
  · refine ⟨(((k3 l hl).2.2 t ht).2.1 v hv).1, ?_⟩
    obtain ⟨j, hj, e⟩ := List.mem_iff_getElem.mp hl
    have hje : ls[j]? = some l := by rw [List.getElem?_eq_getElem hj, e]
    apply Classical.byContradiction
    intro hb
    by_cases z : j + sf 0 = 0 ∨ ¬ l.1 = 0
    · exact hW 11 t.2 (Or.inr ⟨ls, hm, rfl, j, l, hj, hje, z, t, ht, rfl, v, hv, hb⟩)
    · have z1 : ¬ j + sf 0 = 0 := fun w => z (Or.inl w)
      have z2 : l.1 = 0 := Classical.byContradiction (fun w => z (Or.inr w))
      exact hb ⟨j, l, hje, by omega, z2, t, ht, hv⟩
  · have hin2 := (lt_atom (k3 l hl) ha).2.2.1 rfl
    obtain ⟨p, hpl2, hpe3⟩ := List.mem_iff_getElem.mp hin2
    have hpe4 : D.2.2.2.2.1[p]? = some l.2.1 := by rw [List.getElem?_eq_getElem hpl2, hpe3]
    refine ⟨p, hpe4, arF_of hW hm hl ha hpe4, ?_⟩
    obtain ⟨j, hj, e⟩ := List.mem_iff_getElem.mp hl
    have hje : ls[j]? = some l := by rw [List.getElem?_eq_getElem hj, e]
    by_cases z : j = 0
    · subst z
      rw [h0e] at hje
      obtain rfl := Option.some.inj hje
      rw [nodup_inj hd.2.2.2.2.2.1 hpe4 hpe2]
      exact ⟨Nat.le_refl _, fun w => by rw [h00] at w; exact absurd w (by decide)⟩
    · rcases ha with a | a
      · have := hL.1 hp p 0 ⟨c, j, ls, hdl, l, hc, h0e, hpe2, by omega, hje, hpe4, Or.inl ⟨a, rfl⟩⟩
        exact ⟨by omega, fun w => by rw [a] at w; exact absurd w (by decide)⟩
      · have := hL.1 hp p 1 ⟨c, j, ls, hdl, l, hc, h0e, hpe2, by omega, hje, hpe4, Or.inr ⟨a, rfl⟩⟩
        exact ⟨by omega, fun _ => by omega⟩
/-- each predicate has its size -/
theorem ar_all {n : Nat} (hNA : NA 0 n T D) (h21 : D.2.1 = []) (hW : ∀ c p, ¬ WA D.1 c p) {p : Nat} {w : Wd} (hp : D.2.2.2.2.1[p]? = some w) : firstAr D.1.flatten w = some (arF D.2.2.2.2.1 D.1 p) := by
  rcases hNA.2 rfl w (List.mem_of_getElem? hp) with ⟨ls, h1, l, h2, h3, h4⟩ | ⟨l, h2, -⟩
  · rw [← h4] at hp ⊢
    rw [ar_of hW h1 h2 h3, arF_of hW h1 h2 h3 hp]
  · rw [h21] at h2
    cases h2
theorem CLp_of {md : Nat} {G : Nat → Int32} {ps ps2 : List Wd} {mc cn2 : List Con} {o live c : Nat} {LK LP LT LQ NQ TP LA LC : Nat → Int32} {ls : List Lt} (hls : ls.length + sf md ≤ 13) (hLC : LC (257 * live + c) = nI (ls.length + sf md)) (hCR : CR md ps mc o live c (LK, LP, LT, LQ, NQ, TP, LA) ls) (hok : ∀ l ∈ ls, LtOk md G ps2 cn2 l) : CLp md ps mc live c LC LK LP LT ls := by
  refine ⟨hLC, hls, fun j l hj => ?_⟩
  have hl := hok l (List.mem_of_getElem? hj)
  obtain ⟨r0, r1, r2, r3, r4, r5, r6, r7⟩ := hCR j l hj
  refine ⟨kd_of hl, r1, fun ha => ?_, fun i t ht => (r7 i t ht).1, fun t ht v hv => ((hl.2.2 t ht).2.1 v hv).1, r0, fun t ht c hc => (hl.2.2 t ht).2.2.2 c hc, lt_two hl⟩
  rcases r2 ha with ⟨i, i1, i2⟩ | ⟨-, i1, i2⟩
  · exact Or.inl ⟨i, i1, i2⟩
  · exact Or.inr ⟨fun i hi => i1 (List.mem_of_getElem? hi), i2⟩
theorem MPg_of {n set : Nat} {F CN CV CF PA LC LK LP LT LQ NQ TP LA Cl ST : Nat → Int32} (hset : set < 2) (hd : DI 0 T D) (hNA : NA 0 n T D) (h21 : D.2.1 = []) (hW : ∀ c p, ¬ WA D.1 c p) (hM : MCo (asksOf 0) D.2.2.2.2.2 (1100 * set) CN CV CF F) (hcap : Cap 0 D.2.2.2.2.2) (hMB : MB T D.2.2.2.2.1 D.2.2.2.2.2 (65536 * set) set (LK, LP, LT, LQ, NQ, TP, LA) LC Cl D.1) (hAr : AriR D.2.2.2.2.1 set PA D.1.flatten) (hST : StA L ST) : MPg D.2.2.2.2.1 D.1 L (arF D.2.2.2.2.1 D.1) D.2.2.2.2.2 set F CN CV CF PA LC LK LP LT Cl ST := by
  obtain ⟨m1, m2, m3, m4, m5, m6⟩ := hMB
  have h1000 := hcap.1 rfl
  refine ⟨hset, hcap.2, by omega, hd.2.2.2.2.2.2.2, hM, m2, hST, fun p hp => ?_, fun c ls hc => ?_⟩
  · have e := List.getElem?_eq_getElem hp
    rw [hAr p _ e, ar_all hNA h21 hW e]
    rfl
  · obtain ⟨a1, a2, a3, a4⟩ := m1 c ls hc
    exact CLp_of (md := 0) a2 a3 a4 (m6 ls (List.mem_of_getElem? hc)).2.2.1
end PgOf
/-- the strata are one more than the highest -/
theorem LyQ_one {ps : List Wd} {cs : List (List Lt)} {L : Nat → Nat} {a b : Nat} (h1 : LyQ ps cs L a) (h2 : LyQ ps cs L b) : a = b := by
  obtain ⟨a1, a2⟩ := h1
  obtain ⟨b1, b2⟩ := h2
  have x1 : a ≤ b := by
    rcases a2 with g | ⟨p, g1, g2⟩
    · omega
    · have := b1 p g1
      omega
  have x2 : b ≤ a := by
    rcases b2 with g | ⟨p, g1, g2⟩
    · omega
    · have := a1 p g1
      omega
  omega
