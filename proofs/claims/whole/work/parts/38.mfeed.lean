/-! pure: letters and counts of the model, twenty bytes put on the tape by both -/
section MLetters
variable {live w : Nat} {cn : List Con} {qs : List (List Con)} {F CN CV CF RC : Nat → Int32}
/-- is there such a letter? -/
def inL (qs : List (List Con)) (w : Nat) (r c i : Int32) : Prop := inR qs w r c ∧ ¬ (cellC qs r c).1 = [] ∧ ¬ i < 0 ∧ i.toNatClampNeg < (cellC qs r c).1.length
theorem sp_Mo_letter {post : Int32 → Int32 → Prop} {r c i : Int32} (hq5 : qs.length ≤ 5000) (hw : w ≤ 12) (hR : RwR cn w qs RC) (hcn : cn.length ≤ 1000) (hl : live < 2) (hM : MCo false cn (1100 * live) CN CV CF F) (hwl : ∀ y ∈ cn, y.1.length ≤ 65536)
    (h1 : inL qs w r c i → post (((cellC qs r c).1.getD i.toNatClampNeg 0) &&& 255) 0) (h0 : ¬ inL qs w r c i → post 0 1) : wp_met_Mo_letter post r c i (nI live) (nI qs.length) (nI w) F CN CV CF RC := by
  have bad : ¬ inL qs w r c i → ∀ (r2 : Int32) (y3 : Int32), y3 = 1 → (((y3 ≤ 0 → (vp_in r2 2200 ∧ (vp_in ((CF r2.toNatClampNeg) + i) 196608 ∧ (True)))) ∧ (¬ (y3 ≤ 0) → (True)))) ∧ (∀ y6 : Int32, y6 = (if y3 ≤ 0 then ((F ((CF r2.toNatClampNeg) + i).toNatClampNeg) &&& 255) else 0) → (post y6 y3)) := by
    intro hno r2 y3 h3
    subst h3
    refine ⟨⟨fun z => absurd z (by decide), fun _ => trivial⟩, fun y6 h6 => ?_⟩
    rw [if_neg (by decide)] at h6
    rw [h6]
    exact h0 hno
  refine sp_Mo_cell hq5 hw hR hcn hl (fun hin y hy hyc => ?_) (fun hno => ?_)
  · have hix := ix_lt hyc
    have hcl : nI (1100 * live + ix cn y) = nI (1100 * live + ix cn y) := rfl
    have hin2 : vp_in (nI (1100 * live + ix cn y)) 2200 := vp_in_nI (by omega) (by omega)
    have hCC : cellC qs r c = y := hy
    refine ⟨⟨fun z => absurd z (by decide), fun _ => ⟨hin2, fun _ => ⟨fun _ => trivial, fun _ => ⟨hin2, trivial⟩⟩, fun _ => trivial⟩⟩, fun y3 h3 => ?_⟩
    rw [if_neg (by decide), nI_clamp (by omega)] at h3
    rcases hM _ y (ix_get cn hyc) with ⟨m1, m2, m3⟩ | ⟨m1, -, m3, m4, a, m5, m6, m7⟩
    · rw [m2, if_neg (by decide)] at h3
      exact bad (fun q => q.2.1 (by rw [hCC]; exact m1)) _ _ h3
    · rw [m3, if_pos rfl, m4] at h3
      by_cases i0 : i < 0
      · rw [if_pos i0] at h3
        exact bad (fun q => q.2.2.1 i0) _ _ h3
      rw [if_neg i0] at h3
      obtain ⟨k, k1, k2, k3⟩ := nn_nI i0
      have hyl := hwl y hyc
      by_cases i1 : i < nI y.1.length
      · rw [if_pos i1] at h3
        subst h3
        have hk : k < y.1.length := by
          rw [k2] at i1
          exact (nI_ltI (by omega) (by omega)).mp i1
        have e1 : CF (1100 * live + ix cn y) + i = nI (a + k) := by rw [m5, k2, nI_add]
        rw [nI_clamp (by omega), e1]
        refine ⟨⟨fun _ => ⟨hin2, vp_in_nI (by omega) (by omega), trivial⟩, fun z => absurd (by decide) z⟩, fun y6 h6 => ?_⟩
        rw [if_pos (by decide), nI_clamp (by omega)] at h6
        rw [h6]
        have := h1 ⟨hin, by rw [hCC]; exact m1, i0, by rw [hCC, k3]; exact hk⟩
        rw [hCC, k3] at this
        have e2 : y.1.getD k 0 = F (a + k) := by
          have hg : (sl F a y.1.length)[k]? = some (y.1[k]) := by rw [m7]; exact List.getElem?_eq_getElem hk
          rw [sl_idx _ _ _ _ hg, List.getD_eq_getElem?_getD, List.getElem?_eq_getElem hk]
          rfl
        rw [e2] at this
        exact this
      · rw [if_neg i1] at h3
        refine bad (fun q => i1 ?_) _ _ h3
        have q4 := q.2.2.2
        rw [hCC, k3] at q4
        rw [k2]
        exact nI_lt q4 (by omega)
  · refine ⟨⟨fun _ => trivial, fun z => absurd (by decide) z⟩, fun y3 h3 => ?_⟩
    rw [if_pos (by decide)] at h3
    exact bad (fun q => hno q.1) _ _ h3
/-- what is counted -/
def ctA (nc np nk hi ran fa rows la k : Int32) : Int32 := if k = 0 then nc else if k = 1 then np else if k = 2 then nk else if k = 3 then (if np = 0 then 0 else hi + 1) else if k = 4 then (if ran = 0 then -1 else fa) else if k = 5 then rows else (if ran = 0 then -1 else la)
theorem sp_Mo_count {post : Int32 → Int32 → Prop} {k hi ran fa la rows : Int32} {PA Cs Cl : Nat → Int32} (hl : live < 2)
    (h1 : ¬ k < 0 → k ≤ 6 → post (ctA (Cl live) (PA live) (Cs live) hi ran fa rows la k) 0) (h0 : (k < 0 ∨ ¬ k ≤ 6) → post 0 1) : wp_met_Mo_count post k (nI live) hi ran fa la rows PA Cs Cl := by
  intro y1 hy1
  by_cases k0 : k < 0
  · rw [if_pos k0] at hy1
    subst hy1
    exact ⟨fun z => absurd z (by decide), fun _ => h0 (Or.inl k0)⟩
  rw [if_neg k0] at hy1
  by_cases k6 : k ≤ 6
  · rw [if_pos k6] at hy1
    subst hy1
    refine ⟨fun _ => ⟨?_, fun y2 h2 => ?_⟩, fun z => absurd (by decide) z⟩
    · have hv : vp_in (nI live) 2 := vp_in_nI hl (by omega)
      exact ⟨fun _ => ⟨hv, trivial⟩, fun _ => ⟨fun _ => ⟨hv, trivial⟩, fun _ => ⟨fun _ => ⟨hv, trivial⟩, fun _ => ⟨fun _ => ⟨hv, trivial⟩, fun _ => trivial⟩⟩⟩⟩
    · rw [nI_clamp (by omega)] at h2
      rw [h2]
      exact h1 k0 k6
  · rw [if_neg k6] at hy1
    subst hy1
    exact ⟨fun z => absurd z (by decide), fun _ => h0 (Or.inr k6)⟩
end MLetters
section Feed
variable {a0 a1 a2 a3 a4 : Int32} {len : Nat} {T : Nat → Int32}
/-- byte v of twenty -/
def fdB (a0 a1 a2 a3 a4 v : Int32) : Int32 := vp_nar .byte (((if (4 : Int32) ≤ v then (if (8 : Int32) ≤ v then (if (12 : Int32) ≤ v then (if (16 : Int32) ≤ v then a4 else a3) else a2) else a1) else a0) >>> ((24 - 8 * (v - v / 4 * 4)) &&& 31)).toInt8.toInt32)
/-- the tape with k of twenty bytes -/
def fdT (a0 a1 a2 a3 a4 : Int32) (len : Nat) (T : Nat → Int32) (k : Nat) : Nat → Int32 := fun j => if len ≤ j ∧ j < len + k then fdB a0 a1 a2 a3 a4 (nI (j - len)) else T j
theorem fdT_0 : fdT a0 a1 a2 a3 a4 len T 0 = T := by
  funext j
  unfold fdT
  rw [if_neg (by omega)]
theorem fdT_s (k : Nat) : fdT a0 a1 a2 a3 a4 len T (k + 1) = upd (fdT a0 a1 a2 a3 a4 len T k) (len + k) (fdB a0 a1 a2 a3 a4 (nI k)) := by
  funext j
  by_cases hj : j = len + k
  · subst hj
    rw [upd_same]
    unfold fdT
    rw [if_pos (by omega), show len + k - len = k by omega]
  · rw [upd_ne hj]
    unfold fdT
    by_cases h : len ≤ j ∧ j < len + k
    · rw [if_pos h, if_pos (by omega)]
    · rw [if_neg h, if_neg (by omega)]
theorem byt_nar (x : Int32) : byt (vp_nar .byte x) := by
  rw [vp_nar_byte]
  unfold byt
  rw [Int8.toInt_toInt32]
  have h1 := Int8.le_toInt x.toInt8
  have h2 := Int8.toInt_lt x.toInt8
  omega
theorem fdT_byt {n k : Nat} (h : ∀ j, j < n → byt (T j)) : ∀ j, j < n → byt (fdT a0 a1 a2 a3 a4 len T k j) := by
  intro j hj
  unfold fdT
  split
  · exact byt_nar _
  · exact h j hj
theorem mfd_lp {post : Int32 → (Int32 × Int32 × (Nat → Int32)) → Prop} (h20 : len + 20 ≤ 65536) (h : post (nI (len + 20)) (0, nI (len + 20), fdT a0 a1 a2 a3 a4 len T 20)) : ∀ d k : Nat, k + d = 20 → lw_met_Mo_feed_33 post 0 a4 a3 a2 a1 a0 (d + 1) (nI k, nI (len + k), fdT a0 a1 a2 a3 a4 len T k) := by
  intro d
  induction d with
  | zero =>
    intro k hk
    have : k = 20 := by omega
    subst this
    exact ⟨fun _ => h, fun z => absurd (by decide) z⟩
  | succ d ih =>
    intro k hk
    refine ⟨fun z => ?_, fun _ => ?_⟩
    · have e20 : (20 : Int32) = nI 20 := rfl
      rw [e20] at z
      have := (nI_leI (by omega) (by omega)).mp z
      omega
    · intro y7 h7 y8 h8 y9 h9 y10 h10 y11 h11 y12 h12
      refine ⟨vp_in_nI (by omega) (by omega), fun g14 hg y15 h15 => ?_⟩
      have e1 : nI (len + k) + 1 = nI (len + (k + 1)) := by
        show nI (len + k) + nI 1 = _
        rw [nI_add]
        rfl
      have e2 : nI k + 1 = nI (k + 1) := by
        show nI k + nI 1 = _
        rw [nI_add]
      rw [h15, e1, e2, hg, nI_clamp (by omega)]
      have e3 : vp_nar .byte y12 = fdB a0 a1 a2 a3 a4 (nI k) := by
        rw [h12, h11, h10, h9, h8, h7]
        rfl
      rw [e3, ← fdT_s]
      exact ih (k + 1) (by omega)
theorem sp_Mo_feed {post : Int32 → (Int32 × Int32 × (Nat → Int32)) → Prop} (hl : len ≤ 65536) (h1 : len + 20 ≤ 65536 → post (nI (len + 20)) (0, nI (len + 20), fdT a0 a1 a2 a3 a4 len T 20)) (h0 : 65536 < len + 20 → post 0 (1, nI len, T)) : wp_met_Mo_feed post a0 a1 a2 a3 a4 (nI len) T := by
  intro y1 hy1 y2 hy2
  have e1 : nI len + 20 = nI (len + 20) := by
    show nI len + nI 20 = _
    rw [nI_add]
  rw [e1] at hy1
  subst hy1
  have e6 : (65536 : Int32) = nI 65536 := rfl
  rw [e6] at hy2
  by_cases hb : len + 20 ≤ 65536
  · rw [if_pos (nI_le hb (by omega))] at hy2
    subst hy2
    refine ⟨fun _ => ⟨21, ?_⟩, fun z => absurd (by decide) z⟩
    have := mfd_lp (T := T) hb (h1 hb) 20 0 rfl
    rw [fdT_0] at this
    exact this
  · rw [if_neg (fun q => hb ((nI_leI (by omega) (by omega)).mp q))] at hy2
    subst hy2
    exact ⟨fun z => absurd z (by decide), fun _ => h0 (by omega)⟩
/-- byte at a shift -/
def pB (a s : Int32) : Int32 := vp_nar .byte (a >>> (s &&& 31)).toInt8.toInt32
theorem sp_SB_putBytes {post : (Int32 × (Nat → Int32)) → Prop} {a : Int32} (h4 : len + 4 ≤ 65536) (h : post (nI (len + 4), upd (upd (upd (upd T len (pB a 24)) (len + 1) (pB a 16)) (len + 2) (pB a 8)) (len + 3) (pB a 0))) : wp_met_SB_putBytes post a (nI len) T := by
  have e1 : ∀ k : Nat, nI (len + k) + 1 = nI (len + (k + 1)) := by
    intro k
    show nI (len + k) + nI 1 = _
    rw [nI_add]
    rfl
  have go : ∀ (v w : Int32) (k m : Nat) (T2 : Nat → Int32), k + 1 ≤ 4 → ¬ v < 0 → v + (-8) = w → lw_met_SB_putBytes_3 post a m (w, nI (len + (k + 1)), upd T2 (len + k) (pB a v)) → lw_met_SB_putBytes_3 post a (m + 1) (v, nI (len + k), T2) := by
    intro v w k m T2 hk hv hw hh
    refine ⟨fun z => absurd z hv, fun _ => ?_⟩
    intro y5 h5 y6 h6
    refine ⟨vp_in_nI (by omega) (by omega), fun g8 h8 y9 h9 => ?_⟩
    rw [h9, h8, h6, h5, e1, nI_clamp (by omega), hw]
    exact hh
  refine ⟨5, ?_⟩
  refine go 24 16 0 4 T (by omega) (by decide) (by decide) ?_
  refine go 16 8 1 3 _ (by omega) (by decide) (by decide) ?_
  refine go 8 0 2 2 _ (by omega) (by decide) (by decide) ?_
  refine go 0 (-8) 3 1 _ (by omega) (by decide) (by decide) ?_
  exact ⟨fun _ => h, fun z => absurd (by decide) z⟩
theorem sp_SB_feed {post : Int32 → (Int32 × (Nat → Int32)) → Prop} (h20 : len + 20 ≤ 65536) (h : post (nI (len + 20)) (nI (len + 20), fdT a0 a1 a2 a3 a4 len T 20)) : wp_met_SB_feed post a0 a1 a2 a3 a4 (nI len) T := by
  intro y1 hy1
  have e1 : nI len + 20 = nI (len + 20) := by
    show nI len + nI 20 = _
    rw [nI_add]
  rw [e1] at hy1
  subst hy1
  have e6 : (65536 : Int32) = nI 65536 := rfl
  refine ⟨fun _ => ?_, fun z => absurd (by rw [e6]; exact nI_le h20 (by omega)) z⟩
  have b : ∀ k : Nat, k < 20 → fdB a0 a1 a2 a3 a4 (nI k) = pB ([a0, a1, a2, a3, a4].getD (k / 4) 0) (nI (24 - 8 * (k % 4))) := by
    intro k hk
    have : k = 0 ∨ k = 1 ∨ k = 2 ∨ k = 3 ∨ k = 4 ∨ k = 5 ∨ k = 6 ∨ k = 7 ∨ k = 8 ∨ k = 9 ∨ k = 10 ∨ k = 11 ∨ k = 12 ∨ k = 13 ∨ k = 14 ∨ k = 15 ∨ k = 16 ∨ k = 17 ∨ k = 18 ∨ k = 19 := by omega
    rcases this with r | r | r | r | r | r | r | r | r | r | r | r | r | r | r | r | r | r | r | r <;> subst r <;> rfl
  have st : ∀ k : Nat, fdT a0 a1 a2 a3 a4 len T (k + 4) = upd (upd (upd (upd (fdT a0 a1 a2 a3 a4 len T k) (len + k) (fdB a0 a1 a2 a3 a4 (nI k))) (len + k + 1) (fdB a0 a1 a2 a3 a4 (nI (k + 1)))) (len + k + 2) (fdB a0 a1 a2 a3 a4 (nI (k + 2)))) (len + k + 3) (fdB a0 a1 a2 a3 a4 (nI (k + 3))) := by
    intro k
    rw [fdT_s (k + 3), fdT_s (k + 2), fdT_s (k + 1), fdT_s k]
    rfl
  have s0 := st 0
  rw [fdT_0, b 0 (by omega), b 1 (by omega), b 2 (by omega), b 3 (by omega)] at s0
  refine sp_SB_putBytes (by omega) ?_
  have s1 := st 4
  rw [s0, b 4 (by omega), b 5 (by omega), b 6 (by omega), b 7 (by omega)] at s1
  refine sp_SB_putBytes (len := len + 4) (by omega) ?_
  have s2 := st 8
  rw [s1, b 8 (by omega), b 9 (by omega), b 10 (by omega), b 11 (by omega)] at s2
  refine sp_SB_putBytes (len := len + 8) (by omega) ?_
  have s3 := st 12
  rw [s2, b 12 (by omega), b 13 (by omega), b 14 (by omega), b 15 (by omega)] at s3
  refine sp_SB_putBytes (len := len + 12) (by omega) ?_
  have s4 := st 16
  rw [s3, b 16 (by omega), b 17 (by omega), b 18 (by omega), b 19 (by omega)] at s4
  refine sp_SB_putBytes (len := len + 16) (by omega) ?_
  rw [s4] at h
  exact h
theorem sp_Mo_end {post : (Int32 × Int32) → Prop} {a : Int32} (h1 : ¬ a < 0 → a ≤ nI len → post (0, a)) (h0 : (a < 0 ∨ ¬ a ≤ nI len) → post (1, nI len)) : wp_met_Mo_end post a (nI len) := by
  intro y1 hy1 y2 hy2
  by_cases k0 : a < 0
  · rw [if_pos k0] at hy1
    subst hy1
    rw [if_neg (by decide)] at hy2
    rw [hy2]
    exact h0 (Or.inl k0)
  rw [if_neg k0] at hy1
  by_cases k6 : a ≤ nI len
  · rw [if_pos k6] at hy1
    subst hy1
    rw [if_pos rfl] at hy2
    rw [hy2]
    exact h1 k0 k6
  · rw [if_neg k6] at hy1
    subst hy1
    rw [if_neg (by decide)] at hy2
    rw [hy2]
    exact h0 (Or.inr k6)
theorem sp_SB_end {post : Int32 → Prop} {a : Int32} (h0 : ¬ a < 0) (h1 : a ≤ nI len) (h : post a) : wp_met_SB_end post a (nI len) := ⟨fun z => absurd z h0, fun _ => ⟨fun _ => h, fun z => absurd h1 z⟩⟩
end Feed
