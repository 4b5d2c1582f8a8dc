/-! pure: the program that the model holds, and what leaves it as it is -/
def MPo (D : Dt) (L : Nat → Nat) (live : Nat) (F PF PL PA PS CN CV CF Cs Cl LC LK LP LT ST : Nat → Int32) : Prop := PR live D.2.2.2.2.1 PF PL PS F ∧ MPg D.2.2.2.2.1 D.1 L (arF D.2.2.2.2.1 D.1) D.2.2.2.2.2 live F CN CV CF PA LC LK LP LT Cl ST ∧ Cs live = nI D.2.2.2.2.2.length ∧ D.2.2.2.2.2.length ≤ 1000 ∧ D.1.length ≤ 256
section Mpo
variable {D : Dt} {L : Nat → Nat} {live : Nat} {F PF PL PA PS CN CV CF Cs Cl LC LK LP LT ST F2 PF2 PL2 PA2 PS2 CN2 CV2 CF2 Cs2 Cl2 LC2 LK2 LP2 LT2 ST2 : Nat → Int32}
theorem MPo_same (h : MPo D L live F PF PL PA PS CN CV CF Cs Cl LC LK LP LT ST) (eF : ∀ j, 65536 * live ≤ j → j < 65536 * live + 65536 → F2 j = F j) (eP : ∀ i, i < 65 → PF2 (65 * live + i) = PF (65 * live + i) ∧ PL2 (65 * live + i) = PL (65 * live + i) ∧ PA2 (65 * live + i) = PA (65 * live + i)) (eS : PS2 live = PS live) (eC : ∀ i, i < D.2.2.2.2.2.length → CN2 (1100 * live + i) = CN (1100 * live + i) ∧ CV2 (1100 * live + i) = CV (1100 * live + i) ∧ CF2 (1100 * live + i) = CF (1100 * live + i)) (eK : Cs2 live = Cs live) (eL : Cl2 live = Cl live) (e1 : ∀ c, c < 256 → LC2 (257 * live + c) = LC (257 * live + c)) (e2 : ∀ c j, c < 256 → j < 13 → LK2 ((257 * live + c) * 13 + j) = LK ((257 * live + c) * 13 + j) ∧ LP2 ((257 * live + c) * 13 + j) = LP ((257 * live + c) * 13 + j)) (e3 : ∀ c j i, c < 256 → j < 13 → i < 6 → LT2 (6 * ((257 * live + c) * 13 + j) + i) = LT (6 * ((257 * live + c) * 13 + j) + i)) (e4 : ∀ p, p < 64 → ST2 p = ST p) : MPo D L live F2 PF2 PL2 PA2 PS2 CN2 CV2 CF2 Cs2 Cl2 LC2 LK2 LP2 LT2 ST2 := by
  obtain ⟨⟨r1, r2, r3⟩, ⟨m1, m2, m3, m4, m5, m6, m7, m8, m9⟩, h3, h4, h5⟩ := h
  have txt : ∀ a m, Ar false live a m → sl F2 a m = sl F a m := by
    intro a m hA
    refine sl_eq m a a (fun j hj => ?_)
    rcases hA with w | w
    · exact eF _ (by omega) (by omega)
    · exact absurd w.1 (by decide)
  refine ⟨⟨fun i w hw => ?_, r2, eS.trans r3⟩, ⟨m1, m2, m3, m4, fun i c hc => ?_, eL.trans m6, fun p hp => (e4 p hp).trans (m7 p hp), fun p hp => ?_, fun c ls hc => ?_⟩, eK.trans h3, h4, h5⟩
  · have hi := (List.getElem?_eq_some_iff.mp hw).1
    obtain ⟨a, b1, b2, b3, b4⟩ := r1 i w hw
    obtain ⟨x1, x2, -⟩ := eP i (by omega)
    refine ⟨a, x1.trans b1, x2.trans b2, b3, ?_⟩
    have b5 := b3.2
    rw [Nat.mul_div_cancel_left _ (by omega)] at b5
    rw [txt a _ b5]
    exact b4
  · have hi := (List.getElem?_eq_some_iff.mp hc).1
    obtain ⟨x1, x2, x3⟩ := eC i hi
    rcases m5 i c hc with ⟨c1, c2, c3⟩ | ⟨c1, c2, c3, c4, a, c5, c6, c7⟩
    · exact Or.inl ⟨c1, x1.trans c2, by rw [x2]; exact c3⟩
    · refine Or.inr ⟨c1, c2, x1.trans c3, x2.trans c4, a, x3.trans c5, c6, ?_⟩
      have c8 := c6.2
      rw [Nat.mul_div_cancel_left _ (by omega)] at c8
      rw [txt a _ c8]
      exact c7
  · exact ((eP p (by omega)).2.2).trans (m8 p hp)
  · have hcl := (List.getElem?_eq_some_iff.mp hc).1
    obtain ⟨l1, l2, l3⟩ := m9 c ls hc
    refine ⟨(e1 c (by omega)).trans l1, l2, fun j l hj => ?_⟩
    have hjl := (List.getElem?_eq_some_iff.mp hj).1
    have s0 : sf 0 = 0 := rfl
    rw [s0] at l2
    obtain ⟨k1, k2, k3, k4, k5, k6, k7, k8⟩ := l3 j l hj
    rw [s0] at k2 k3 k4 ⊢
    obtain ⟨y1, y2⟩ := e2 c (j + 0) (by omega) (by omega)
    refine ⟨k1, y1.trans k2, fun ha => by rw [y2]; exact k3 ha, fun i t ht => ?_, k5, k6, k7, k8⟩
    have hi := (List.getElem?_eq_some_iff.mp ht).1
    rw [e3 c (j + 0) i (by omega) (by omega) (by omega)]
    exact k4 i t ht
/-- a question leaves it as it is -/
theorem MPo_q (h : MPo D L live F PF PL PA PS CN CV CF Cs Cl LC LK LP LT ST) (eF : ∀ j, j < 131072 → F2 j = F j) (hf : Fr 1 live 256 D.2.2.2.2.2.length (PF2, PL2, PA2, PS2, CN2, CV2, CF2, LC2, LK2, LP2, LT2) (PF, PL, PA, PS, CN, CV, CF, LC, LK, LP, LT)) : MPo D L live F2 PF2 PL2 PA2 PS2 CN2 CV2 CF2 Cs Cl LC2 LK2 LP2 LT2 ST := by
  obtain ⟨f1, f2, f3, f4, f5, f6⟩ := hf
  have hl : live < 2 := h.2.1.1
  have h4 := h.2.2.2.1
  have n10 : ¬ (1 : Nat) = 0 := by decide
  refine MPo_same h (fun j _ hj => eF j (by omega)) (fun i _ => f1 _ (fun w => n10 w.1)) (f2 _ (fun w => n10 w.1)) (fun i hi => f3 _ (by omega)) rfl rfl (fun c hc => f4 _ (by omega)) (fun c j hc hj => f5 _ (by omega)) (fun c j i hc hj hi => f6 _ (by omega)) (fun _ _ => rfl)
/-- a load that fails leaves it as it is -/
theorem MPo_l (h : MPo D L live F PF PL PA PS CN CV CF Cs Cl LC LK LP LT ST) (hT : TxS (1 - live) F2 F) (hf : Fr 0 (1 - live) 0 0 (PF2, PL2, PA2, PS2, CN2, CV2, CF2, LC2, LK2, LP2, LT2) (PF, PL, PA, PS, CN, CV, CF, LC, LK, LP, LT)) (hC : ∀ j, ¬ j = 1 - live → Cl2 j = Cl j) : MPo D L live F2 PF2 PL2 PA2 PS2 CN2 CV2 CF2 Cs Cl2 LC2 LK2 LP2 LT2 ST := by
  obtain ⟨f1, f2, f3, f4, f5, f6⟩ := hf
  have hl : live < 2 := h.2.1.1
  have h4 := h.2.2.2.1
  refine MPo_same h (fun j h1 h2 => hT.2 j (by omega)) (fun i hi => f1 _ (by omega)) (f2 _ (by omega)) (fun i hi => f3 _ (by omega)) rfl (hC _ (by omega)) (fun c hc => f4 _ (by omega)) (fun c j hc hj => f5 _ (by omega)) (fun c j i hc hj hi => f6 _ (by omega)) (fun _ _ => rfl)
end Mpo
/-- constants more: the old ones keep their numbers -/
theorem ix_pre {a b : List Con} {c : Con} (h : Pre a b) (hn : b.Nodup) (hc : c ∈ a) : ix b c = ix a c := (ix_of hn (h _ _ (ix_get a hc))).symm
theorem enc_pre {a b : List Con} {x : Fct} (h : Pre a b) (hn : b.Nodup) (hx : ∀ c ∈ x.2, c ∈ a) : enc b x = enc a x := by
  unfold enc
  rw [show x.2.map (fun c => nI (ix b c)) = x.2.map (fun c => nI (ix a c)) from List.map_congr_left (fun c hc => by rw [ix_pre h hn (hx c hc)])]
theorem MFa_pre {a b : List Con} {fs : List Fct} {FP FT Tb : Nat → Int32} (h : Pre a b) (hn : b.Nodup) (hF : MFa a fs FP FT Tb) : MFa b fs FP FT Tb := by
  obtain ⟨h1, h2, h3⟩ := hF
  refine ⟨?_, fun x hx c hc => ?_, h3⟩
  · rw [show fs.map (enc b) = fs.map (enc a) from List.map_congr_left (fun x hx => enc_pre h hn (h2 x hx))]
    exact h1
  · obtain ⟨i, hi, e⟩ := List.mem_iff_getElem.mp (h2 x hx c hc)
    exact List.mem_of_getElem? (h i c (by rw [List.getElem?_eq_getElem hi, e]))
/-- the columns of a question -/
def colsF : List (Option Wd) → Nat → List Nat
  | [], _ => []
  | none :: r, k => colsF r (k + 1)
  | some _ :: r, k => k :: colsF r (k + 1)
def cols (vs : List (Option Wd)) : List Nat := colsF vs 0
theorem colsF_app : ∀ (a b : List (Option Wd)) (k : Nat), colsF (a ++ b) k = colsF a k ++ colsF b (k + a.length)
  | [], b, k => rfl
  | none :: r, b, k => by
    show colsF (r ++ b) (k + 1) = colsF r (k + 1) ++ _
    rw [colsF_app r b (k + 1), List.length_cons, show k + 1 + r.length = k + (r.length + 1) by omega]
  | some w :: r, b, k => by
    show k :: colsF (r ++ b) (k + 1) = (k :: colsF r (k + 1)) ++ _
    rw [colsF_app r b (k + 1), List.length_cons, show k + 1 + r.length = k + (r.length + 1) by omega]
    rfl
theorem colsF_len : ∀ (a : List (Option Wd)) (k : Nat), (colsF a k).length ≤ a.length
  | [], k => Nat.le_refl _
  | none :: r, k => by
    have := colsF_len r (k + 1)
    show (colsF r (k + 1)).length ≤ r.length + 1
    omega
  | some w :: r, k => by
    have := colsF_len r (k + 1)
    show (colsF r (k + 1)).length + 1 ≤ r.length + 1
    omega
theorem colsF_lt : ∀ (a : List (Option Wd)) (k x : Nat), x ∈ colsF a k → k ≤ x ∧ x < k + a.length
  | [], k, x, h => by cases h
  | none :: r, k, x, h => by
    have := colsF_lt r (k + 1) x h
    rw [List.length_cons]
    omega
  | some w :: r, k, x, h => by
    rw [List.length_cons]
    rcases List.mem_cons.mp h with e | e
    · omega
    · have := colsF_lt r (k + 1) x e
      omega
/-- a question's body is so -/
theorem Bd_q {ps : List Wd} {ls : List Lt} {fs : List Fct} {v : Nat → Con} : Bd ps 1 ls fs fs.length v ↔ bHo ps (fun x => x ∈ fs) v ls := by
  have s1 : sf 1 = 1 := rfl
  have pos : ∀ l : Lt, l.1 = 0 → (AtS ps fs fs.length v l ↔ lHo ps (fun x => x ∈ fs) v l) := by
    intro l h0
    constructor
    · rintro ⟨f, y, h1, h2, h3, h4⟩
      refine Or.inl ⟨h0, y.1, h3, ?_⟩
      rw [h4]
      exact List.mem_of_getElem? h2
    · rintro (⟨-, p, h1, h2⟩ | ⟨h1, -⟩ | ⟨h1, -⟩)
      · obtain ⟨i, hi, e⟩ := List.mem_iff_getElem.mp h2
        exact ⟨i, _, hi, by rw [List.getElem?_eq_getElem hi, e], h1, rfl⟩
      · rw [h0] at h1
        exact absurd h1 (by decide)
      · exact absurd h0 h1
  unfold Bd bHo
  rw [s1]
  constructor
  · rintro ⟨h1, h2⟩ l hl
    obtain ⟨j, hj, e⟩ := List.mem_iff_getElem.mp hl
    have hje : ls[j]? = some l := by rw [List.getElem?_eq_getElem hj, e]
    by_cases h0 : l.1 = 0
    · exact (pos l h0).mp (h1 j l hje (by omega) h0)
    · exact h2 j l hje (by omega) h0
  · intro h
    exact ⟨fun j l hj _ h0 => (pos l h0).mpr (h l (List.mem_of_getElem? hj)), fun j l hj _ h0 => h l (List.mem_of_getElem? hj)⟩
/-- the answer's rows: all, in order -/
def AnsR (ps : List Wd) (X : Fct → Prop) (ls : List Lt) (vs : List (Option Wd)) (qs : List (List Con)) : Prop := (∀ x, x ∈ qs ↔ ∃ v, bHo ps X v ls ∧ x = (cols vs).map v) ∧ qs.Pairwise (fun a b => rcmp a b < 0) ∧ qs.length ≤ 5000
def AnsO (ps : List Wd) (X : Fct → Prop) (ls : List Lt) (vs : List (Option Wd)) : Prop := ∃ l : List (List Con), l.Nodup ∧ (∀ x ∈ l, ∃ v, bHo ps X v ls ∧ x = (cols vs).map v) ∧ 5000 < l.length
theorem AnsR_one {ps : List Wd} {X : Fct → Prop} {ls : List Lt} {vs : List (Option Wd)} {a b : List (List Con)} (h1 : AnsR ps X ls vs a) (h2 : AnsR ps X ls vs b) : a = b := by
  refine srt_one (w := (cols vs).length) a b (fun x => (h1.1 x).trans (h2.1 x).symm) (fun x hx => ?_) (fun x hx => ?_) h1.2.1 h2.2.1
  · obtain ⟨v, -, e⟩ := (h1.1 x).mp hx
    rw [e, List.length_map]
  · obtain ⟨v, -, e⟩ := (h2.1 x).mp hx
    rw [e, List.length_map]
theorem AnsO_no {ps : List Wd} {X : Fct → Prop} {ls : List Lt} {vs : List (Option Wd)} {a : List (List Con)} (h1 : AnsR ps X ls vs a) : ¬ AnsO ps X ls vs := by
  rintro ⟨l, hn, hm, hlen⟩
  have := List.Nodup.length_le_of_subset hn (fun x hx => (h1.1 x).mpr (hm x hx))
  have := h1.2.2
  omega
/-- what comes of a question's text -/
def QWA (ps : List Wd) (ar : Nat → Nat) (ls : List Lt) (c p : Nat) : Prop := W10q ps ar ls ls.length c p ∨ W11 1 ls ls.length c p
def AsR (ps : List Wd) (cn : List Con) (ar : Nat → Nat) (T : Nat → Int32) (n : Nat) (r : (Nat × Nat) ⊕ (List Lt × List (Option Wd))) : Prop := (∃ e, Ends 1 T n (6, 0, 0) (D00 ps cn) 0 (.inl e) ∧ r = .inl e) ∨ (∃ D : Dt, Ends 1 T n (6, 0, 0) (D00 ps cn) 0 (.inr D) ∧ ((∃ c p, QWA ps ar D.2.1 c p ∧ (∀ c2 p2, QWA ps ar D.2.1 c2 p2 → p ≤ p2) ∧ r = .inl (c, p)) ∨ ((∀ c p, ¬ QWA ps ar D.2.1 c p) ∧ r = .inr (D.2.1, D.2.2.2.1))))
