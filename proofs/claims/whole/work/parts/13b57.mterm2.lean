/-! pure: the model takes a term, as the machine does -/
def asksOf (md : Nat) : Bool := !decide (md = 0)
theorem mcA_0 {mc : List Con} {c : Con} : mcA (asksOf 0) mc c = mCon 0 mc c := by
  unfold mcA mCon asksOf
  by_cases h : c ∈ mc
  · simp [h]
  · by_cases h2 : mc.length = 1000
    · simp [h, h2]
    · simp [h, h2]
theorem mcA_1 {mc : List Con} {c : Con} {md : Nat} (h : ¬ md = 0) : ∃ mc2, mcA (asksOf md) mc c = some mc2 := by
  unfold mcA asksOf
  by_cases h1 : c ∈ mc
  · exact ⟨mc, by simp [h1]⟩
  · exact ⟨mc ++ [c], by simp [h1, h]⟩
/-- the bytes of a text, and where it stands -/
def TxOk (md set o n : Nat) (F : Nat → Int32) : Prop := (∀ j, j < o + n → byt (F j)) ∧ Ao (asksOf md) set o n
def Cap (md : Nat) (mc : List Con) : Prop := (md = 0 → mc.length ≤ 1000) ∧ mc.Nodup
theorem mcA_ext {asks : Bool} {mc mc2 : List Con} {c : Con} (h : mcA asks mc c = some mc2) : (∀ (id : Nat) (x : Con), mc[id]? = some x → mc2[id]? = some x) ∧ mc2.length ≤ mc.length + 1 ∧ (asks = false → mc.length ≤ 1000 → mc2.length ≤ 1000) ∧ (mc.Nodup → mc2.Nodup) := by
  unfold mcA at h
  by_cases h1 : c ∈ mc
  · rw [if_pos h1] at h
    obtain rfl := Option.some.inj h
    exact ⟨fun _ _ q => q, by omega, fun _ q => q, fun q => q⟩
  · rw [if_neg h1] at h
    by_cases h2 : asks = false ∧ mc.length = 1000
    · rw [if_pos h2] at h
      cases h
    · rw [if_neg h2] at h
      obtain rfl := Option.some.inj h
      refine ⟨fun id x q => ?_, by simp, fun q1 q2 => ?_, fun q => ?_⟩
      · have := (List.getElem?_eq_some_iff.mp q).1
        rw [List.getElem?_append_left this]
        exact q
      · have : ¬ mc.length = 1000 := fun z => h2 ⟨q1, z⟩
        simp
        omega
      · rw [List.nodup_append]
        refine ⟨q, by simp, fun a ha b hb e => ?_⟩
        rw [List.mem_singleton] at hb
        rw [e, hb] at ha
        exact h1 ha
section MTerm2
variable {post : Int32 → (Int32 × Int32 × Int32 × Int32 × Int32 × Int64 × Int32 × Int32 × (Nat → Int32) × (Nat → Int32) × (Nat → Int32) × (Nat → Int32) × (Nat → Int32) × (Nat → Int32) × (Nat → Int32)) → Prop} {mc : List Con} {vs : List (Option Wd)} {n o set cl k i a b md : Nat} {fc fp kd : Int32} {v : Int} {am : Int64} {F CN CV CF LT TP VF VL : Nat → Int32} {D : Dt}
theorem sp_Mo_term (hs : o + n ≤ 196608) (hB : TxOk md set o n F) (hset : set < 2) (hcl : cl < 257) (hk : k < 13) (hi : i < 6) (hab : a < b) (hb : b ≤ n) (hM : MCo (asksOf md) mc (1100 * set) CN CV CF F) (hmc : mc.length < 1100) (hV : MV vs VF VL F) (hvs : vs.length ≤ 12) (hD : D.2.2.2.1 = vs) (hD2 : md = 0 → D.2.2.2.2.2 = mc)
    (hkd : kd = 2 ∨ kd = 3 ∨ kd = 4) (hv : kd = 4 → am.toInt = v ∧ -2147483648 ≤ v ∧ v < 2147483648)
    (h0 : mTerm md (shf F o) D kd a b v = none → ∀ u : U13, Sm u CN CV CF LT → post 0 (3, nI a, u))
    (h1 : ∀ t mc2 vs2 code CN2 CV2 CF2 VF2 VL2, mTerm md (shf F o) D kd a b v = some (D.1, D.2.1, pushT D.2.2.1 (t, a), vs2, D.2.2.2.2.1, if md = 0 then mc2 else D.2.2.2.2.2) → TC mc2 t code → (∀ (id : Nat) (x : Con), mc[id]? = some x → mc2[id]? = some x) → mc2.length ≤ mc.length + 1 → (Cap md mc → Cap md mc2) → MCo (asksOf md) mc2 (1100 * set) CN2 CV2 CF2 F → Fc set mc.length CN2 CV2 CF2 CN CV CF → MV vs2 VF2 VL2 F → vs2.length ≤ 12 → TmQ post F (o + n) set cl k i (o + a) (o + b) fc fp (nI o) LT TP code mc2.length vs2.length CN2 CV2 CF2 VF2 VL2) : wp_met_Mo_term post (nI k) (nI i) fc fp (nI set) (nI o) (nI (o + n)) (mkd kd) (nI (o + a)) (nI (o + b)) am (nI cl) (b01 (asksOf md)) (nI mc.length) (nI vs.length) F CN CV CF LT TP VF VL := by
  have hpl : nI (o + a) - nI o = nI a := by rw [pk_sub (by omega), show o + a - o = a by omega]
  obtain ⟨m, rfl⟩ : ∃ m, b = a + m := ⟨b - a, by omega⟩
  have hm : a + m - a = m := by omega
  by_cases h3 : kd = 3
  · subst h3
    have e2 : mkd 3 = 2 := by decide
    rw [e2, show o + (a + m) = o + a + m by omega]
    refine sp_Mo_term_var hs hB.1 hset hcl hk hi (by omega) (by omega) hV hvs (fun hn u hu => ?_) (fun j2 vs2 code VF2 VL2 hj hc hV2 hv2 => ?_)
    · rw [hpl]
      refine h0 ?_ u hu
      unfold mTerm
      rw [if_pos rfl, hD, hm, ← sl_sh, hn]
    · rw [show o + a + m = o + (a + m) by omega]
      refine h1 (.inl j2) mc vs2 code CN CV CF VF2 VL2 ?_ hc (fun _ _ q => q) (by omega) (fun q => q) hM Fc_refl hV2 hv2
      unfold mTerm
      rw [if_pos rfl, hD, hm, ← sl_sh, hj]
      by_cases z : md = 0
      · rw [if_pos z, hD2 z]
      · rw [if_neg z]
  · have n2 : ¬ mkd kd = 2 := by rcases hkd with z | z | z <;> rw [z] <;> first | decide | exact absurd z h3
    obtain ⟨c, hc⟩ : ∃ c : Con, c = (if kd = 4 then ([], v) else (sl (shf F o) a (a + m - a), 0)) := ⟨_, rfl⟩
    have hc2 : (mkd kd = 3 ∧ c = ([], am.toInt) ∧ -2147483648 ≤ am.toInt ∧ am.toInt < 2147483648) ∨ (¬ mkd kd = 3 ∧ c = (sl F (o + a) (o + (a + m) - (o + a)), 0)) := by
      rcases hkd with z | z | z
      · refine Or.inr ⟨by rw [z]; decide, ?_⟩
        rw [hc, if_neg (by rw [z]; decide), hm, show o + (a + m) - (o + a) = m by omega, sl_sh]
      · exact absurd z h3
      · obtain ⟨g1, g2, g3⟩ := hv z
        refine Or.inl ⟨by rw [z]; decide, ?_, by omega, by omega⟩
        rw [hc, if_pos z, g1]
    refine sp_Mo_term_con (asks := asksOf md) hs hB.1 hset hcl hk hi (by omega) (by omega) (Ar_of hB.2 (by omega)) hM hmc hvs n2 hc2 (fun hn u hu => ?_) (fun mc2 code CN2 CV2 CF2 hq hT hM2 hfc => ?_)
    · rw [hpl]
      refine h0 ?_ u hu
      have z : md = 0 := by
        rcases Classical.em (md = 0) with q | q
        · exact q
        · obtain ⟨mc2, e⟩ := mcA_1 (mc := mc) (c := c) q
          rw [hn] at e
          cases e
      subst z
      unfold mTerm
      rw [if_neg h3, hD2 rfl, ← hc]
      rw [mcA_0] at hn
      rw [hn]
    · obtain ⟨x1, x2, x3, x4⟩ := mcA_ext hq
      refine h1 (.inr c) mc2 vs code CN2 CV2 CF2 VF VL ?_ hT x1 x2 (fun q => ⟨fun z => x3 (by rw [z]; decide) (q.1 z), x4 q.2⟩) hM2 hfc hV hvs
      unfold mTerm
      rw [if_neg h3, ← hc]
      by_cases z : md = 0
      · subst z
        rw [mcA_0] at hq
        rw [hD2 rfl, hq, if_pos rfl, hD]
      · have e : mCon md D.2.2.2.2.2 c = some D.2.2.2.2.2 := by unfold mCon; rw [if_neg z]
        rw [e, if_neg z, hD]
end MTerm2
