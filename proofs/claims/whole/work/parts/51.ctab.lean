/-! pure: the class's tables and masks -/
def tot : List Wd → Nat
  | [] => 0
  | w :: r => w.length + tot r
theorem tot_app : ∀ a b : List Wd, tot (a ++ b) = tot a + tot b
  | [], b => by
    show tot b = 0 + tot b
    omega
  | w :: r, b => by
    show w.length + tot (r ++ b) = w.length + tot r + tot b
    rw [tot_app r b]
    omega
theorem tot_one (w : Wd) : tot [w] = w.length := rfl
/-- a table of names -/
def NB (lim : Nat) (ws : List Wd) (sz us : Int32) (S L : Nat → Int32) (nT : Nat) (T : Nat → Int32) : Prop := ws.length ≤ lim ∧ sz = nI ws.length ∧ us = nI (tot ws) ∧ NaR ws (tot ws) S L T ∧ tot ws ≤ nT ∧ 256 ≤ nT ∧ nT ≤ 40960 ∧ ∀ i, i < nT → byt (T i)
theorem NB_clear {lim nT : Nat} {ws : List Wd} {sz us : Int32} {S L T : Nat → Int32} (h : NB lim ws sz us S L nT T) : NB lim [] 0 0 S L nT T := ⟨Nat.zero_le _, rfl, rfl, fun i w hi => (by cases hi), Nat.zero_le _, h.2.2.2.2.2.1, h.2.2.2.2.2.2.1, h.2.2.2.2.2.2.2⟩
section CTab
variable {lim nT nb b m mc ms ad : Nat} {ws : List Wd} {sz us vl : Int32} {S L T V BR fb : Nat → Int32} {kT : ClassId} {cs : List Con}
theorem sp_Na_find2 {post : Int32 → Unit → Prop} (hN : NB lim ws sz us S L nT T) (hlim : lim < 1000000) (hnb : nb < 1000000) (hb : b + m ≤ nb) (hbb : ∀ j, j < m → byt (fb (b + j))) (h : ∀ r, fw (sl fb b m) ws r → post r ()) : wp_met_Na_find post lim lim nT nb (nI b) (nI m) sz S L T fb := by
  obtain ⟨h1, h2, h3, h4, h5, h6, h7, h8⟩ := hN
  subst h2
  exact sp_Na_find h4 (by omega) (by omega) (by omega) hnb h5 h1 h1 hb hbb h
theorem sp_Na_add2 {post : Int32 → (Int32 × Int32 × (Nat → Int32) × (Nat → Int32) × Nat × ClassId × Nat × (Nat → Int32) × Nat × Nat) → Prop} (hN : NB lim ws sz us S L nT T) (hlim : lim < 1000000) (hnb : nb < 1000000) (hb : b + m ≤ nb) (hbb : ∀ j, j < m → byt (fb (b + j))) (hB : tot ws + m ≤ 20480) (hmc : 1 ≤ mc) (hms : 40960 ≤ ms)
    (h0 : ws.length = lim → post (-1) (sz, us, S, L, ad, kT, nT, T, 0, 0))
    (h1 : ws.length < lim → ∀ sz2 us2 S2 L2 a2 k2 nT2 T2 kc ks, NB lim (ws ++ [sl fb b m]) sz2 us2 S2 L2 nT2 T2 → cst nT nT2 kc ks → post (nI ws.length) (sz2, us2, S2, L2, a2, k2, nT2, T2, kc, ks)) : wp_met_Na_add post mc ms lim lim nT nb ad (nI b) (nI m) sz us S L T fb kT := by
  obtain ⟨g1, g2, g3, g4, g5, g6, g7, g8⟩ := hN
  subst g2 g3
  have lw : (sl fb b m).length = m := sl_len fb m b
  have et : tot (ws ++ [sl fb b m]) = tot ws + m := by rw [tot_app, tot_one, lw]
  refine sp_Na_add g4 hlim (by omega) g6 hnb g5 (by omega) g8 hb hbb ?_ g1 h0 (fun hl S2 L2 T2 a2 k2 nT2 kc ks hA hc => ?_)
  · rcases Nat.lt_or_ge nT (tot ws + m) with q | q
    · exact Or.inr ⟨hmc, by omega⟩
    · exact Or.inl q
  · obtain ⟨a1, a2', a3, a4⟩ := hA
    rw [lw] at a1 a2' a4
    refine h1 hl _ _ S2 L2 a2 k2 nT2 T2 kc ks ⟨by rw [List.length_append]; simp only [List.length_singleton]; omega, by rw [List.length_append]; rfl, by rw [et], by rw [et]; exact a1, by rw [et]; exact a2', ?_, ?_, a3⟩ hc
    · rcases a4 with e | ⟨e1, e2⟩ <;> omega
    · rcases a4 with e | ⟨e1, e2⟩ <;> omega
/-- a table of constants -/
def CB (lim : Nat) (cs : List Con) (sz us : Int32) (S L : Nat → Int32) (nT : Nat) (T V BR : Nat → Int32) : Prop := NB lim (cs.map (·.1)) sz us S L nT T ∧ ∃ rk, CoR cs rk V BR
theorem CB_clear (h : CB lim cs sz us S L nT T V BR) : CB lim [] 0 0 S L nT T V BR := ⟨NB_clear h.1, fun q => q, fun i hi => absurd hi (by simp), fun i hi => absurd hi (by simp), fun q r _ hr => absurd hr (by simp), fun i hi => absurd hi (by simp)⟩
theorem cg_mem {i : Nat} (h : i < cs.length) : cg cs i ∈ cs := by
  unfold cg
  rw [List.getD_eq_getElem?_getD, List.getElem?_eq_getElem h]
  exact List.getElem_mem h
theorem cg_of {c : Con} (h : c ∈ cs) : ∃ i, i < cs.length ∧ cg cs i = c := by
  obtain ⟨i, hi, e⟩ := List.mem_iff_getElem.mp h
  exact ⟨i, hi, by unfold cg; rw [List.getD_eq_getElem?_getD, List.getElem?_eq_getElem hi, e]; rfl⟩
theorem cg_some {i : Nat} {c : Con} (h : i < cs.length) (e : cg cs i = c) : cs[i]? = some c := by
  unfold cg at e
  rw [List.getD_eq_getElem?_getD, List.getElem?_eq_getElem h] at e
  rw [List.getElem?_eq_getElem h]
  exact congrArg some e
theorem sp_Co_intern2 {post : Int32 → (Int32 × Int32 × (Nat → Int32) × (Nat → Int32) × Nat × ClassId × Nat × (Nat → Int32) × (Nat → Int32) × (Nat → Int32) × Nat × Nat) → Prop} (hN : CB lim cs sz us S L nT T V BR) (hlim : lim < 1000000) (hnb : nb < 1000000) (hb : b + m ≤ nb) (hbb : ∀ j, j < m → byt (fb (b + j))) (hB : tot (cs.map (·.1)) + m ≤ 20480) (hmc : 1 ≤ mc) (hms : 40960 ≤ ms)
    (h1 : ∀ i : Nat, cs[i]? = some (sl fb b m, vl.toInt) → post (nI i) (sz, us, S, L, ad, kT, nT, T, V, BR, 0, 0))
    (h2 : (sl fb b m, vl.toInt) ∉ cs → cs.length = lim → post (-1) (sz, us, S, L, ad, kT, nT, T, V, BR, 0, 0))
    (h3 : (sl fb b m, vl.toInt) ∉ cs → cs.length < lim → ∀ sz2 us2 S2 L2 a2 k2 nT2 T2 V2 BR2 kc ks, CB lim (cs ++ [(sl fb b m, vl.toInt)]) sz2 us2 S2 L2 nT2 T2 V2 BR2 → cst nT nT2 kc ks → post (nI cs.length) (sz2, us2, S2, L2, a2, k2, nT2, T2, V2, BR2, kc, ks)) : wp_met_Co_intern post mc ms lim lim nT lim lim nb ad (nI b) (nI m) vl sz us S L T V BR fb kT := by
  obtain ⟨⟨g1, g2, g3, g4, g5, g6, g7, g8⟩, rk, hC⟩ := hN
  have hmap : (cs.map (·.1)).length = cs.length := by simp
  rw [hmap] at g1 g2
  subst g2 g3
  have lw : (sl fb b m).length = m := sl_len fb m b
  have et : tot ((cs ++ [(sl fb b m, vl.toInt)]).map (·.1)) = tot (cs.map (·.1)) + m := by
    rw [List.map_append, tot_app]
    show _ + tot [sl fb b m] = _
    rw [tot_one, lw]
  have nin : (∀ i, i < cs.length → ¬ cg cs i = (sl fb b m, vl.toInt)) → (sl fb b m, vl.toInt) ∉ cs := by
    intro q z
    obtain ⟨i, hi, e⟩ := cg_of z
    exact q i hi e
  refine sp_Co_intern g4 hC hlim (by omega) g6 hnb g5 (by omega) g8 g1 hb hbb ?_ (fun i hi e => h1 i (cg_some hi e)) (fun q1 q2 => h2 (nin q1) q2) (fun q1 q2 S2 L2 T2 a2 k2 nT2 V2 BR2 rk2 kc ks hA hc hC2 => ?_)
  · rcases Nat.lt_or_ge nT (tot (cs.map (·.1)) + m) with q | q
    · exact Or.inr ⟨hmc, by omega⟩
    · exact Or.inl q
  · obtain ⟨a1, a2', a3, a4⟩ := hA
    rw [lw] at a1 a2' a4
    refine h3 (nin q1) q2 _ _ S2 L2 a2 k2 nT2 T2 V2 BR2 kc ks ⟨⟨by simp; omega, by simp, by rw [et], ?_, by rw [et]; exact a2', ?_, ?_, a3⟩, rk2, hC2⟩ hc
    · rw [et, List.map_append]
      exact a1
    · rcases a4 with e | ⟨e1, e2⟩ <;> omega
    · rcases a4 with e | ⟨e1, e2⟩ <;> omega
theorem sp_Co_search2 {post : Int32 → Unit → Prop} (hN : CB lim cs sz us S L nT T V BR) (hlim : lim < 1000000) (hnb : nb < 1000000) (hb : b + m ≤ nb) (hbb : ∀ j, j < m → byt (fb (b + j))) (h : ∀ rk, CoR cs rk V BR → ∀ r, SR (sl fb b m, vl.toInt) cs rk r → post r ()) : wp_met_Co_search post lim lim nT lim lim nb (nI b) (nI m) vl sz S L T V BR fb := by
  obtain ⟨⟨g1, g2, g3, g4, g5, g6, g7, g8⟩, rk, hC⟩ := hN
  have hmap : (cs.map (·.1)).length = cs.length := by simp
  rw [hmap] at g1 g2
  subst g2 g3
  exact sp_Co_search g4 hC hlim (by omega) hnb g5 g1 hb hbb (h rk hC)
end CTab
/-! masks -/
theorem nI_or (a b : Nat) : nI a ||| nI b = nI (a ||| b) := by
  apply Int32.toBitVec_inj.mp
  show BitVec.ofNat 32 a ||| BitVec.ofNat 32 b = BitVec.ofNat 32 (a ||| b)
  exact (BitVec.ofNat_or).symm
theorem nI_and (a b : Nat) : nI a &&& nI b = nI (a &&& b) := by
  apply Int32.toBitVec_inj.mp
  show BitVec.ofNat 32 a &&& BitVec.ofNat 32 b = BitVec.ofNat 32 (a &&& b)
  exact (BitVec.ofNat_and).symm
theorem nI_shl {v : Nat} (h : v < 16) : (1 : Int32) <<< (nI v &&& 31) = nI (2 ^ v) := by
  have : v = 0 ∨ v = 1 ∨ v = 2 ∨ v = 3 ∨ v = 4 ∨ v = 5 ∨ v = 6 ∨ v = 7 ∨ v = 8 ∨ v = 9 ∨ v = 10 ∨ v = 11 ∨ v = 12 ∨ v = 13 ∨ v = 14 ∨ v = 15 := by omega
  rcases this with r | r | r | r | r | r | r | r | r | r | r | r | r | r | r | r <;> subst r <;> rfl
theorem nI_shr {m v : Nat} (hm : m < 2147483648) (hv : v < 16) : nI m >>> (nI v &&& 31) = nI (m >>> v) := by
  apply Int32.toInt_inj.mp
  have e : nI v &&& 31 = nI v := by
    have : v = 0 ∨ v = 1 ∨ v = 2 ∨ v = 3 ∨ v = 4 ∨ v = 5 ∨ v = 6 ∨ v = 7 ∨ v = 8 ∨ v = 9 ∨ v = 10 ∨ v = 11 ∨ v = 12 ∨ v = 13 ∨ v = 14 ∨ v = 15 := by omega
    rcases this with r | r | r | r | r | r | r | r | r | r | r | r | r | r | r | r <;> subst r <;> rfl
  have h1 : (nI m).toInt = m := nI_toInt hm
  have h2 : m >>> v ≤ m := Nat.shiftRight_le _ _
  rw [e, nI_toInt (by omega)]
  have hs : (nI m >>> nI v).toBitVec = (nI m).toBitVec.sshiftRight v := by
    have : v = 0 ∨ v = 1 ∨ v = 2 ∨ v = 3 ∨ v = 4 ∨ v = 5 ∨ v = 6 ∨ v = 7 ∨ v = 8 ∨ v = 9 ∨ v = 10 ∨ v = 11 ∨ v = 12 ∨ v = 13 ∨ v = 14 ∨ v = 15 := by omega
    rcases this with r | r | r | r | r | r | r | r | r | r | r | r | r | r | r | r <;> subst r <;> rfl
  show (nI m >>> nI v).toBitVec.toInt = _
  rw [hs, BitVec.toInt_sshiftRight]
  show (nI m).toInt >>> v = _
  rw [h1]
  rfl
/-- the bits of a mask -/
def bt (m v : Nat) : Bool := m.testBit v
theorem nI_bit {m v : Nat} (hm : m < 65536) (hv : v < 16) : (nI m >>> (nI v &&& 31)) &&& 1 = b01 (m.testBit v) := by
  rw [nI_shr (by omega) hv]
  show nI (m >>> v) &&& nI 1 = _
  rw [nI_and, Nat.testBit]
  have e : m >>> v &&& 1 = 1 &&& m >>> v := Nat.and_comm _ _
  rw [e, Nat.one_and_eq_mod_two]
  rcases Nat.mod_two_eq_zero_or_one (m >>> v) with q | q <;> rw [q] <;> rfl
theorem or_lt {a b : Nat} (ha : a < 65536) (hb : b < 65536) : a ||| b < 65536 := by
  have := Nat.or_lt_two_pow (n := 16) (x := a) (y := b) (by omega) (by omega)
  omega
theorem pow_lt16 {v : Nat} (h : v < 16) : 2 ^ v < 65536 := by
  have := Nat.pow_lt_pow_right (a := 2) (by omega) h
  omega
theorem or_bit {m v w : Nat} : (m ||| 2 ^ v).testBit w = (m.testBit w || decide (v = w)) := by
  rw [Nat.testBit_or, Nat.testBit_two_pow]
/-- a mask of these numbers -/
def MK (P : Nat → Prop) (x : Int32) : Prop := ∃ m : Nat, m < 65536 ∧ x = nI m ∧ ∀ v, v < 16 → (m.testBit v = true ↔ P v)
theorem MK_0 {P : Nat → Prop} (h : ∀ v, ¬ P v) : MK P 0 := ⟨0, by omega, rfl, fun v _ => by rw [Nat.zero_testBit]; exact ⟨fun z => absurd z (by decide), fun z => absurd z (h v)⟩⟩
theorem MK_or {P : Nat → Prop} {x : Int32} {v : Nat} (h : MK P x) (hv : v < 16) : MK (fun w => P w ∨ v = w) (x ||| ((1 : Int32) <<< (nI v &&& 31))) := by
  obtain ⟨m, h1, h2, h3⟩ := h
  refine ⟨m ||| 2 ^ v, or_lt h1 (pow_lt16 hv), by rw [h2, nI_shl hv, nI_or], fun w hw => ?_⟩
  rw [or_bit, Bool.or_eq_true, decide_eq_true_iff, h3 w hw]
theorem MK_bit {P : Nat → Prop} {x : Int32} {v : Nat} (h : MK P x) (hv : v < 16) : ((x >>> (nI v &&& 31)) &&& 1 = 0 ∧ ¬ P v) ∨ ((x >>> (nI v &&& 31)) &&& 1 = 1 ∧ P v) := by
  obtain ⟨m, h1, h2, h3⟩ := h
  rw [h2, nI_bit h1 hv]
  cases hb : m.testBit v with
  | false => exact Or.inl ⟨rfl, fun z => by have := (h3 v hv).mpr z; rw [hb] at this; exact absurd this (by decide)⟩
  | true => exact Or.inr ⟨rfl, (h3 v hv).mp hb⟩
theorem MK_iff {P Q : Nat → Prop} {x : Int32} (h : MK P x) (e : ∀ v, v < 16 → (P v ↔ Q v)) : MK Q x := by
  obtain ⟨m, h1, h2, h3⟩ := h
  exact ⟨m, h1, h2, fun v hv => (h3 v hv).trans (e v hv)⟩
theorem MK_z {P : Nat → Prop} {x : Int32} (h : MK P x) : x = 0 ↔ ∀ v, v < 16 → ¬ P v := by
  obtain ⟨m, h1, h2, h3⟩ := h
  constructor
  · intro e v hv hp
    have := congrArg Int32.toInt e
    rw [h2, nI_toInt (by omega)] at this
    have z0 : (0 : Int32).toInt = 0 := by decide
    rw [z0] at this
    have hm : m = 0 := by omega
    have hb := (h3 v hv).mpr hp
    rw [hm, Nat.zero_testBit] at hb
    exact absurd hb (by decide)
  · intro h
    have hm : m = 0 := by
      apply Nat.eq_of_testBit_eq
      intro i
      rw [Nat.zero_testBit]
      rcases Nat.lt_or_ge i 16 with q | q
      · cases hb : m.testBit i with
        | false => rfl
        | true => exact absurd ((h3 i q).mp hb) (h i q)
      · apply Nat.testBit_lt_two_pow
        have : 2 ^ 16 ≤ 2 ^ i := Nat.pow_le_pow_right (by omega) q
        omega
    rw [h2, hm]
    rfl
