/-! pure: the class's hash table -/
/-- the class's facts: n of them, their predicates and keys, and the table -/
def FaT (n : Nat) (P : Nat → Int32) (K : Nat → Int64) (T : Nat → Int32) (hs : Nat → Nat) : Prop := n ≤ 20000 ∧ HT 32768 n (tn T) hs ∧ (∀ i, i < 32768 → ∃ k, k ≤ n ∧ T i = nI k)
section Slot
variable {post : Int32 → Unit → Prop} {n : Nat} {P T : Nat → Int32} {K : Nat → Int64} {hs : Nat → Nat} {p : Int32} {key : Int64}
/-- where slotOf stops: at the fact, or at a free place if there is none -/
def SlQ (n : Nat) (P : Nat → Int32) (K : Nat → Int64) (T : Nat → Int32) (q : Nat) (p : Int32) (key : Int64) (d : Nat) : Prop := d < 32768 ∧ (∀ e, e < d → ¬ tn T ((q + e) % 32768) = 0) ∧ ((∃ f, f < n ∧ T ((q + d) % 32768) = nI (f + 1) ∧ P f = p ∧ K f = key) ∨ (T ((q + d) % 32768) = 0 ∧ ∀ f, f < n → ¬ (P f = p ∧ K f = key)))
theorem sp_slot_lp {q : Nat} (hF : FaT n P K T hs) (hq : q < 32768) (hh : ∀ f, f < n → P f = p → K f = key → hs f = q) (h : ∀ d, SlQ n P K T q p key d → post (nI ((q + d) % 32768)) ()) : ∀ m d : Nat, d + m = 32768 → (∀ e, e < d → ¬ tn T ((q + e) % 32768) = 0 ∧ ¬ (P (tn T ((q + e) % 32768) - 1) = p ∧ K (tn T ((q + e) % 32768) - 1) = key)) → lw_met_Fa_slotOf_40 post T K key P p (m + 1) (nI d, nI ((q + d) % 32768)) := by
  obtain ⟨hn, hH, hT⟩ := hF
  intro m
  induction m with
  | zero =>
    intro d hd he
    exfalso
    obtain ⟨d0, g1, g2⟩ := HT_stop hH (by omega) hq
    exact (he d0 (by omega)).1 g2
  | succ m ih =>
    intro d hd he
    have hsl : (q + d) % 32768 < 32768 := Nat.mod_lt _ (by omega)
    have cs : (nI ((q + d) % 32768)).toNatClampNeg = (q + d) % 32768 := nI_clamp (by omega)
    obtain ⟨k, hk, ek⟩ := hT _ hsl
    have etn : tn T ((q + d) % 32768) = k := by
      unfold tn
      rw [ek]
      exact nI_clamp (by omega)
    have go : ¬ k = 0 → ¬ (P (k - 1) = p ∧ K (k - 1) = key) → ∀ y : Int32, y = nI ((q + d) % 32768) + 1 → ∀ z : Int32, z = y &&& (32767 : Int32) → lw_met_Fa_slotOf_40 post T K key P p (m + 1) (nI d + 1, z) := by
      intro h0 hnm y hy z hz
      rw [hy, nI_1, pk_andN (by omega) 15 (by decide)] at hz
      rw [hz, nI_1, show (2 ^ 15 : Nat) = 32768 from rfl, mod_next]
      refine ih (d + 1) (by omega) (fun e he2 => ?_)
      rcases Nat.lt_or_ge e d with g | g
      · exact he e g
      · obtain rfl : e = d := by omega
        rw [etn]
        exact ⟨h0, hnm⟩
    refine pk_le 32768 d (fun z => absurd z (by omega)) (fun _ => ⟨vp_in_nI hsl (by omega), fun y16 h16 y17 h17 => ?_⟩)
    rw [cs, ek] at h16
    subst h16
    cases k with
    | zero =>
      have e17 : y17 < 0 := by rw [h17]; decide
      refine ⟨fun _ => ?_, fun z => absurd e17 z⟩
      refine h d ⟨by omega, fun e he2 => (he e he2).1, Or.inr ⟨by rw [ek]; rfl, ?_⟩⟩
      exact HT_none (M := fun f => P f = p ∧ K f = key) hH (fun f hf hm => hh f hf hm.1 hm.2) he (by rw [etn])
    | succ f =>
      rw [nI_pred] at h17
      subst h17
      have cf : (nI f).toNatClampNeg = f := nI_clamp (by omega)
      have hin : vp_in (nI f) 20000 := vp_in_nI (by omega) (by omega)
      have hl : ∀ e, e < d → ¬ tn T ((q + e) % 32768) = 0 := fun e he2 => (he e he2).1
      refine ⟨fun z => absurd z (nI_pos (by omega)), fun _ => ⟨hin, fun y19 h19 => ?_⟩⟩
      rw [cf] at h19
      subst h19
      refine ⟨fun r1 => ⟨hin, fun y23 h23 => ?_⟩, fun r1 => go (by omega) (fun z => r1 z.2)⟩
      rw [cf] at h23
      subst h23
      refine ⟨fun r2 => ?_, fun r2 => go (by omega) (fun z => r2 z.1)⟩
      exact h d ⟨by omega, hl, Or.inl ⟨f, by omega, ek, r2, r1⟩⟩
end Slot
theorem u_l (x : UInt64) : x.toInt64 = lN x.toNat := by
  apply Int64.toBitVec_inj.mp
  show x.toBitVec = BitVec.ofNat 64 x.toBitVec.toNat
  apply BitVec.eq_of_toNat_eq
  rw [BitVec.toNat_ofNat, Nat.mod_eq_of_lt x.toBitVec.isLt]
theorem u_49 (w : UInt64) : (w >>> ((49 : Int32).toInt64.toUInt64 &&& Int64.toUInt64 63)).toInt64.toInt32 = nI (w.toNat / 2 ^ 49) := by
  have e : (49 : Int32).toInt64.toUInt64 &&& Int64.toUInt64 63 = 49 := by decide
  rw [e, u_l, lN_i, UInt64.toNat_shiftRight]
  congr 1
  show w.toNat >>> (49 % 64) = _
  rw [Nat.shiftRight_eq_div_pow]
/-- where the class first looks for a fact -/
def h9 (p : Int32) (key : Int64) : Int64 := ((key ^^^ (key.toUInt64 >>> ((29 : Int32).toInt64.toUInt64 &&& Int64.toUInt64 63)).toInt64) * (-7046029254386353131 : Int64) + p.toInt64 * (89068084525962488 : Int64) ^^^ (((key ^^^ (key.toUInt64 >>> ((29 : Int32).toInt64.toUInt64 &&& Int64.toUInt64 63)).toInt64) * (-7046029254386353131 : Int64) + p.toInt64 * (89068084525962488 : Int64)).toUInt64 >>> ((31 : Int32).toInt64.toUInt64 &&& Int64.toUInt64 63)).toInt64) * (-7046029254386353131 : Int64)
def hq (p : Int32) (key : Int64) : Nat := (h9 p key).toUInt64.toNat / 2 ^ 49
theorem hq_lt (p : Int32) (key : Int64) : hq p key < 32768 := by
  unfold hq
  have := (h9 p key).toUInt64.toNat_lt
  omega
section Slot2
variable {n : Nat} {P T : Nat → Int32} {K : Nat → Int64} {p : Int32} {key : Int64}
def FaH (n : Nat) (P : Nat → Int32) (K : Nat → Int64) (T : Nat → Int32) : Prop := FaT n P K T (fun f => hq (P f) (K f))
theorem sp_Fa_slotOf {post : Int32 → Unit → Prop} (hF : FaH n P K T) (h : ∀ d, SlQ n P K T (hq p key) p key d → post (nI ((hq p key + d) % 32768)) ()) : wp_met_Fa_slotOf post p key K P T := by
  intro y1 e1 y2 e2 y3 e3 y4 e4 y5 e5 y6 e6 y7 e7 y8 e8 y9 e9 y10 e10 y11 e11
  have e : y9 = h9 p key := by
    subst e1 e2 e3 e4 e5 e6 e7 e8
    exact e9
  have ey : y11 = nI ((hq p key + 0) % 32768) := by
    rw [e11, e10, u_49, e, Nat.add_zero, Nat.mod_eq_of_lt (hq_lt p key)]
    rfl
  rw [ey]
  exact ⟨32768 + 1, sp_slot_lp hF (hq_lt p key) (fun f hf z1 z2 => by show hq (P f) (K f) = _; rw [z1, z2]) h 32768 0 (by omega) (fun e he => absurd he (by omega))⟩
/-- the fact's number, or -1 -/
def FdQ (n : Nat) (P : Nat → Int32) (K : Nat → Int64) (p : Int32) (key : Int64) (r : Int32) : Prop := (∃ f, f < n ∧ r = nI f ∧ P f = p ∧ K f = key) ∨ (r = -1 ∧ ∀ f, f < n → ¬ (P f = p ∧ K f = key))
theorem sp_slot_read {d : Nat} (hF : FaH n P K T) (hd : SlQ n P K T (hq p key) p key d) {y3 y4 : Int32} (h3 : y3 = T ((nI ((hq p key + d) % 32768)).toNatClampNeg)) (h4 : y4 = y3 - 1) : FdQ n P K p key y4 := by
  have hsl : (hq p key + d) % 32768 < 32768 := Nat.mod_lt _ (by omega)
  rw [nI_clamp (by omega)] at h3
  rcases hd.2.2 with ⟨f, g1, g2, g3, g4⟩ | ⟨g1, g2⟩
  · rw [g2] at h3
    rw [h3, nI_pred] at h4
    exact Or.inl ⟨f, g1, h4, g3, g4⟩
  · rw [g1] at h3
    refine Or.inr ⟨?_, g2⟩
    rw [h4, h3]
    decide
theorem sp_Fa_find {post : Int32 → Unit → Prop} (hF : FaH n P K T) (h : ∀ r, FdQ n P K p key r → post r ()) : wp_met_Fa_find post p key K P T := by
  refine sp_Fa_slotOf hF (fun d hd => ?_)
  have hsl : (hq p key + d) % 32768 < 32768 := Nat.mod_lt _ (by omega)
  exact ⟨vp_in_nI hsl (by omega), fun y3 h3 y4 h4 => h y4 (sp_slot_read hF hd h3 h4)⟩
theorem sp_Fa_isVisible {post : Int32 → Unit → Prop} {v : Nat} (hF : FaH n P K T) (hv : v ≤ 20000) (h : ∀ b : Bool, (b = true ↔ ∃ f, f < n ∧ f < v ∧ P f = p ∧ K f = key) → post (b01 b) ()) (hu : ∀ f g, f < n → g < n → P f = P g → K f = K g → f = g) : wp_met_Fa_isVisible post p key (nI v) K P T := by
  refine sp_Fa_slotOf hF (fun d hd => ?_)
  have hsl : (hq p key + d) % 32768 < 32768 := Nat.mod_lt _ (by omega)
  refine ⟨vp_in_nI hsl (by omega), fun y3 h3 y4 h4 y5 h5 => ?_⟩
  have hn : n ≤ 20000 := hF.1
  rcases sp_slot_read hF hd h3 h4 with ⟨f, g1, g2, g3, g4⟩ | ⟨g1, g2⟩
  · subst g2
    have n1 : ¬ nI f = (-1 : Int32) := fun z => by
      have := congrArg Int32.toInt z
      rw [nI_toInt (by omega)] at this
      have m1 : (-1 : Int32).toInt = -1 := by decide
      rw [m1] at this
      omega
    rw [if_neg n1] at h5
    by_cases q : f < v
    · rw [if_neg (nI_ge q (by omega))] at h5
      have e : y5 = b01 true := h5
      rw [e]
      exact h true ⟨fun _ => ⟨f, g1, q, g3, g4⟩, fun _ => rfl⟩
    · rw [if_pos (nI_le (by omega) (by omega))] at h5
      have e : y5 = b01 false := h5
      rw [e]
      refine h false ⟨fun z => absurd z (by decide), fun ⟨f2, a1, a2, a3, a4⟩ => ?_⟩
      have := hu f f2 g1 a1 (by rw [g3, a3]) (by rw [g4, a4])
      omega
  · rw [if_pos g1] at h5
    have e : y5 = b01 false := h5
    rw [e]
    exact h false ⟨fun z => absurd z (by decide), fun ⟨f2, a1, a2, a3, a4⟩ => absurd ⟨a3, a4⟩ (g2 f2 a1)⟩
/-- one fact more in the table -/
theorem FaH_add {P2 T2 : Nat → Int32} {K2 : Nat → Int64} {d : Nat} (hF : FaH n P K T) (hn : n < 20000) (hd : SlQ n P K T (hq p key) p key d) (hz : T ((hq p key + d) % 32768) = 0) (hP : P2 = upd P n p) (hK : K2 = vp_updL K n key) (hT : T2 = upd T ((hq p key + d) % 32768) (nI (n + 1))) : FaH (n + 1) P2 K2 T2 := by
  have hsl : (hq p key + d) % 32768 < 32768 := Nat.mod_lt _ (by omega)
  have hP0 : P2 n = p := by rw [hP, upd_same]
  have hP1 : ∀ f, f < n → P2 f = P f := fun f hf => by rw [hP, upd_ne (by omega)]
  have hK0 : K2 n = key := by rw [hK]; simp [vp_updL]
  have hK1 : ∀ f, f < n → K2 f = K f := fun f hf => by rw [hK]; simp [vp_updL, show ¬ f = n by omega]
  obtain ⟨f1, f2, f3⟩ := hF
  refine ⟨by omega, ?_, fun i hi => ?_⟩
  · refine HT_add f2 (hq_lt p key) hd.1 hd.2.1 ?_ ?_ (fun i hi hne => ?_) ?_ (fun f hf => ?_)
    · unfold tn
      rw [hz]
      decide
    · unfold tn
      rw [hT, upd_same]
      exact nI_clamp (by omega)
    · unfold tn
      rw [hT, upd_ne hne]
    · show hq (P2 n) (K2 n) = _
      rw [hP0, hK0]
    · show hq (P2 f) (K2 f) = hq (P f) (K f)
      rw [hP1 f hf, hK1 f hf]
  · by_cases g : i = (hq p key + d) % 32768
    · exact ⟨n + 1, by omega, by rw [g, hT, upd_same]⟩
    · obtain ⟨k, h1, h2⟩ := f3 i hi
      exact ⟨k, by omega, by rw [hT, upd_ne g]; exact h2⟩
end Slot2
