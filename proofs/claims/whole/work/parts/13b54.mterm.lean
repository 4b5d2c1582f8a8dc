/-! pure: the model takes a term -/
def mcA (asks : Bool) (mc : List Con) (c : Con) : Option (List Con) := if c ∈ mc then some mc else if asks = false ∧ mc.length = 1000 then none else some (mc ++ [c])
/-- a term as the model holds it -/
def TC (mc : List Con) (t : Nat ⊕ Con) (x : Int32) : Prop := match t with
  | .inl j => x.toInt = -1 - (j : Int)
  | .inr c => ∃ id : Nat, mc[id]? = some c ∧ x = nI id
/-- the model's variables of a clause -/
def MV (vs : List (Option Wd)) (VF VL F : Nat → Int32) : Prop := ∀ (j : Nat) (x : Option Wd), vs[j]? = some x → match x with
  | none => VL j = 0
  | some w => ¬ w = [] ∧ VL j = nI w.length ∧ ∃ a, VF j = nI a ∧ a + w.length ≤ 196608 ∧ sl F a w.length = w
theorem nar_b (b : Bool) : vp_nar .boolean (b01 b) = b01 b := by cases b <;> decide
/-- what a term's road leaves behind the fault's code and place; its arrays of constants and terms -/
abbrev U13 : Type := Int32 × Int32 × Int32 × Int64 × Int32 × Int32 × (Nat → Int32) × (Nat → Int32) × (Nat → Int32) × (Nat → Int32) × (Nat → Int32) × (Nat → Int32) × (Nat → Int32)
def Sm (u : U13) (CN CV CF LT : Nat → Int32) : Prop := u.2.2.2.2.2.2.1 = CN ∧ u.2.2.2.2.2.2.2.1 = CV ∧ u.2.2.2.2.2.2.2.2.1 = CF ∧ u.2.2.2.2.2.2.2.2.2.1 = LT
/-- constants below lo, and those of the other set, stay -/
def Fc (set lo : Nat) (CN CV CF CN0 CV0 CF0 : Nat → Int32) : Prop := ∀ j, ¬ (1100 * set + lo ≤ j ∧ j < 1100 * set + 1100) → CN j = CN0 j ∧ CV j = CV0 j ∧ CF j = CF0 j
theorem Fc_refl {set lo : Nat} {CN CV CF : Nat → Int32} : Fc set lo CN CV CF CN CV CF := fun _ _ => ⟨rfl, rfl, rfl⟩
theorem Fc_trans {set lo lo2 : Nat} {CN CV CF CN1 CV1 CF1 CN0 CV0 CF0 : Nat → Int32} (h1 : Fc set lo CN1 CV1 CF1 CN0 CV0 CF0) (h2 : Fc set lo2 CN CV CF CN1 CV1 CF1) (hl : lo ≤ lo2) : Fc set lo CN CV CF CN0 CV0 CF0 := by
  intro j hj
  obtain ⟨a1, a2, a3⟩ := h1 j hj
  obtain ⟨b1, b2, b3⟩ := h2 j (fun z => hj (by omega))
  exact ⟨b1.trans a1, b2.trans a2, b3.trans a3⟩
section MTerm
variable {post : Int32 → (Int32 × Int32 × Int32 × Int32 × Int32 × Int64 × Int32 × Int32 × (Nat → Int32) × (Nat → Int32) × (Nat → Int32) × (Nat → Int32) × (Nat → Int32) × (Nat → Int32) × (Nat → Int32)) → Prop} {mc : List Con} {vs : List (Option Wd)} {s set cl k i a b : Nat} {fc fp base tk : Int32} {am : Int64} {F CN CV CF LT TP VF VL : Nat → Int32} {asks : Bool}
/-- what stands behind a term that was taken -/
def TmQ (post : Int32 → (Int32 × Int32 × Int32 × Int32 × Int32 × Int64 × Int32 × Int32 × (Nat → Int32) × (Nat → Int32) × (Nat → Int32) × (Nat → Int32) × (Nat → Int32) × (Nat → Int32) × (Nat → Int32)) → Prop) (F : Nat → Int32) (s set cl k i a b : Nat) (fc fp base : Int32) (LT TP : Nat → Int32) (code : Int32) (nc nv : Nat) (CN CV CF VF VL : Nat → Int32) : Prop := MN (fun r u => post r (u.1, u.2.1, u.2.2.1, u.2.2.2.1, u.2.2.2.2.1, u.2.2.2.2.2, nI nc, nI nv, CN, CV, CF, upd LT (6 * ((257 * set + cl) * 13 + k) + i) code, upd TP (6 * (13 * cl + k) + i) (nI a), VF, VL)) F s b fc fp base
theorem mterm_end {code : Int32} {nc nv : Nat} (hs : s ≤ 196608) (hB : ∀ j, j < s → byt (F j)) (hset : set < 2) (hcl : cl < 257) (hk : k < 13) (hi : i < 6) (hb : b ≤ s) (h : TmQ post F s set cl k i a b fc fp base LT TP code nc nv CN CV CF VF VL) : jw_met_Mo_term_323 post (nI i) LT (nI cl) (nI k) TP (nI a) fc fp base (nI s) (nI b) am F (nI set) (nI nc, nI nv, CN, CV, CF, VF, VL, code) := by
  have hL : (257 * set + cl) * 13 + k < 6682 := by omega
  unfold jw_met_Mo_term_323
  refine sp_Mo_literal ?_
  intro y59 h59 y60 h60
  rw [show (6 : Int32) = nI 6 from rfl, pk_mul] at h59
  rw [h59, nI_add] at h60
  subst h60
  refine ⟨vp_in_nI (by omega) (by omega), fun g62 h62 y63 h63 y64 h64 y65 h65 y66 h66 => ?_⟩
  rw [nI_clamp (by omega)] at h62
  rw [show (13 : Int32) = nI 13 from rfl, pk_mul] at h63
  rw [h63, nI_add] at h64
  rw [h64, show (6 : Int32) = nI 6 from rfl, pk_mul] at h65
  rw [h65, nI_add] at h66
  subst h66
  refine ⟨vp_in_nI (by omega) (by omega), fun g68 h68 => ?_⟩
  rw [nI_clamp (by omega)] at h68
  subst h62 h68
  refine sp_Mo_next hs hB hb (fun kd a2 b2 vl ht => ?_)
  obtain ⟨t1, t2⟩ := h kd a2 b2 vl ht
  exact ⟨fun z tk2 fr2 to2 am2 => ⟨Or.inl rfl, t1 z tk2 fr2 to2 am2⟩, fun z am2 hv => ⟨Or.inr rfl, t2 z am2 hv⟩⟩
theorem MCo_add {o : Nat} {c : Con} {CN2 CV2 CF2 : Nat → Int32} (hM : MCo asks mc o CN CV CF F) (e1 : ∀ j, j < o + mc.length → CN2 j = CN j) (e2 : ∀ j, j < o + mc.length → CV2 j = CV j) (e3 : ∀ j, j < o + mc.length → CF2 j = CF j) (hc : (c.1 = [] ∧ CN2 (o + mc.length) = 1 ∧ (CV2 (o + mc.length)).toInt = c.2) ∨ (¬ c.1 = [] ∧ c.2 = 0 ∧ CN2 (o + mc.length) = 0 ∧ CV2 (o + mc.length) = nI c.1.length ∧ ∃ a, CF2 (o + mc.length) = nI a ∧ (a + c.1.length ≤ 196608 ∧ Ar asks (o / 1100) a c.1.length) ∧ sl F a c.1.length = c.1)) : MCo asks (mc ++ [c]) o CN2 CV2 CF2 F := by
  intro i c2 hi
  rcases Nat.lt_or_ge i mc.length with g | g
  · rw [List.getElem?_append_left g] at hi
    have := hM i c2 hi
    rw [e1 _ (by omega), e2 _ (by omega), e3 _ (by omega)]
    exact this
  · have h2 := (List.getElem?_eq_some_iff.mp hi).1
    rw [List.length_append, List.length_singleton] at h2
    obtain rfl : i = mc.length := by omega
    rw [List.getElem?_append_right (Nat.le_refl _), Nat.sub_self] at hi
    obtain rfl : c = c2 := by simpa using hi
    exact hc
theorem sp_Mo_term_con {c : Con} (hs : s ≤ 196608) (hB : ∀ j, j < s → byt (F j)) (hset : set < 2) (hcl : cl < 257) (hk : k < 13) (hi : i < 6) (hab : a < b) (hb : b ≤ s) (hAr : Ar asks set a (b - a)) (hM : MCo asks mc (1100 * set) CN CV CF F) (hmc : mc.length < 1100) (hvs : vs.length ≤ 12) (htk : ¬ tk = 2) (hc : (tk = 3 ∧ c = ([], am.toInt) ∧ -2147483648 ≤ am.toInt ∧ am.toInt < 2147483648) ∨ (¬ tk = 3 ∧ c = (sl F a (b - a), 0)))
    (h0 : mcA asks mc c = none → ∀ u : U13, Sm u CN CV CF LT → post 0 (3, nI a - base, u))
    (h1 : ∀ mc2 code CN2 CV2 CF2, mcA asks mc c = some mc2 → TC mc2 (.inr c) code → MCo asks mc2 (1100 * set) CN2 CV2 CF2 F → Fc set mc.length CN2 CV2 CF2 CN CV CF → TmQ post F s set cl k i a b fc fp base LT TP code mc2.length vs.length CN2 CV2 CF2 VF VL) : wp_met_Mo_term post (nI k) (nI i) fc fp (nI set) base (nI s) tk (nI a) (nI b) am (nI cl) (b01 asks) (nI mc.length) (nI vs.length) F CN CV CF LT TP VF VL := by
  obtain ⟨m, rfl⟩ : ∃ m, b = a + m := ⟨b - a, by omega⟩
  have hm : a + m - a = m := by omega
  rw [hm] at hc hAr
  refine ⟨fun z => absurd z htk, fun _ => ?_⟩
  have hc' : (tk = 3 ∧ c = ([], am.toInt)) ∨ (¬ tk = 3 ∧ c = (sl F a m, 0) ∧ 0 < m) := by
    rcases hc with z | z
    · exact Or.inl ⟨z.1, z.2.1⟩
    · exact Or.inr ⟨z.1, z.2, by omega⟩
  refine sp_Mo_constant hM hset (by omega) (by omega) hc' (fun r hr => ?_)
  rcases hr with ⟨id, e, h2, -⟩ | ⟨e, hno⟩
  · have hid := (List.getElem?_eq_some_iff.mp h2).1
    have hin : c ∈ mc := List.mem_of_getElem? h2
    refine ⟨fun z => ?_, fun _ => ?_⟩
    · exfalso
      rw [e] at z
      have := congrArg Int32.toInt z
      rw [nI_toInt (by omega)] at this
      have m1 : (-1 : Int32).toInt = -1 := by decide
      rw [m1] at this
      omega
    · exact mterm_end hs hB hset hcl hk hi hb (h1 mc r CN CV CF (by unfold mcA; rw [if_pos hin]) ⟨id, h2, e⟩ hM Fc_refl)
  · have hni : c ∉ mc := fun z => by
      obtain ⟨id, hid, he⟩ := List.mem_iff_getElem.mp z
      exact hno id (by rw [List.getElem?_eq_getElem hid, he])
    have add : ¬ (asks = false ∧ mc.length = 1000) → jw_met_Mo_term_233 post (nI set) (nI mc.length) tk CN am (nI (a + m)) (nI a) CV CF (nI vs.length) VF VL (nI i) LT (nI cl) (nI k) TP fc fp base (nI s) F () := by
      intro hlim
      intro y8 h8 y9 h9 y10 h10
      rw [show (1100 : Int32) = nI 1100 from rfl, pk_mul] at h8
      rw [h8, nI_add] at h9
      subst h9
      have c9 : (nI (1100 * set + mc.length)).toNatClampNeg = 1100 * set + mc.length := nI_clamp (by omega)
      have hin : vp_in (nI (1100 * set + mc.length)) 2200 := vp_in_nI (by omega) (by omega)
      refine ⟨hin, fun g12 h12 y13 h13 => ⟨hin, fun g15 h15 => ⟨hin, fun g17 h17 y18 h18 => ?_⟩⟩⟩
      rw [c9] at h12 h15 h17
      rw [b01_dec] at h10
      rw [h10, nar_b] at h12
      rw [nI_1] at h18
      subst h18
      have hl2 : (mc ++ [c]).length = mc.length + 1 := by simp
      have hq := h1 (mc ++ [c]) (nI mc.length) g12 g15 g17 (by unfold mcA; rw [if_neg hni, if_neg hlim]) ⟨mc.length, by rw [List.getElem?_append_right (Nat.le_refl _), Nat.sub_self]; rfl, rfl⟩ ?_ (fun j hj => ⟨by rw [h12, upd_ne (by omega)], by rw [h15, upd_ne (by omega)], by rw [h17, upd_ne (by omega)]⟩)
      · rw [hl2] at hq
        exact mterm_end hs hB hset hcl hk hi hb hq
      · refine MCo_add hM (fun j hj => by rw [h12, upd_ne (by omega)]) (fun j hj => by rw [h15, upd_ne (by omega)]) (fun j hj => by rw [h17, upd_ne (by omega)]) ?_
        rw [h12, h15, h17, upd_same, upd_same, upd_same]
        rcases hc with ⟨z1, z2, z3, z4⟩ | ⟨z1, z2⟩
        · refine Or.inl ⟨by rw [z2], by rw [decide_eq_true z1]; rfl, ?_⟩
          rw [h13, if_pos z1, Int64.toInt_toInt32, i_bm, z2]
          show _ = am.toInt
          omega
        · refine Or.inr ⟨?_, by rw [z2], by rw [decide_eq_false z1]; rfl, ?_, a, rfl, ?_, ?_⟩
          · rw [z2]
            intro q
            have := congrArg List.length q
            rw [sl_len] at this
            simp at this
            omega
          · rw [h13, if_neg z1, pk_sub (by omega), z2, hm]
            show _ = nI (sl F a (m)).length
            rw [sl_len]
          · rw [z2]
            show a + (sl F a (m)).length ≤ 196608 ∧ Ar asks (1100 * set / 1100) a (sl F a (m)).length
            rw [sl_len, Nat.mul_div_cancel_left _ (by omega)]
            exact ⟨by omega, hAr⟩
          · rw [z2]
            show sl F a (sl F a (m)).length = sl F a (m)
            rw [sl_len]
    refine ⟨fun _ => ?_, fun z => absurd e z⟩
    refine b01_if (fun hq => ⟨fun hl => ?_, fun hl => add (fun z => hl (by rw [z.2]; rfl))⟩) (fun hq => add (fun z => by rw [hq] at z; exact absurd z.1 (by decide)))
    have hl2 : mc.length = 1000 := by
      have := congrArg Int32.toInt hl
      rw [nI_toInt (by omega)] at this
      have m1 : (1000 : Int32).toInt = 1000 := by decide
      rw [m1] at this
      omega
    refine sp_Mo_flaw ?_
    exact ⟨Or.inl rfl, h0 (by unfold mcA; rw [if_neg hni, if_pos ⟨hq, hl2⟩]) _ ⟨rfl, rfl, rfl, rfl⟩⟩
end MTerm
