/-! pure: bits of a long; a program's clauses as the class holds them -/
def b64 (x : Int64) (v : Nat) : Bool := x.toBitVec.getLsbD v
theorem b64_or (x y : Int64) (v : Nat) : b64 (x ||| y) v = (b64 x v || b64 y v) := by
  unfold b64
  rw [Int64.toBitVec_or, BitVec.getLsbD_or]
theorem b64_and1 (y : Int64) : (y &&& 1 = 0) ↔ b64 y 0 = false := by
  have e : (y &&& 1).toBitVec = y.toBitVec &&& 1#64 := rfl
  constructor
  · intro h
    have h2 : y.toBitVec &&& 1#64 = 0#64 := by
      rw [← e, h]
      rfl
    have h3 : (y.toBitVec &&& 1#64).getLsbD 0 = false := by
      rw [h2]
      rfl
    rw [BitVec.getLsbD_and] at h3
    have h4 : (1#64 : BitVec 64).getLsbD 0 = true := rfl
    rw [h4, Bool.and_true] at h3
    exact h3
  · intro h
    apply Int64.toBitVec_inj.mp
    rw [e]
    apply BitVec.eq_of_getLsbD_eq
    intro i hi
    rw [BitVec.getLsbD_and]
    rcases Nat.eq_zero_or_pos i with z | z
    · subst z
      have h' : y.toBitVec.getLsbD 0 = false := h
      rw [h', Bool.false_and]
      rfl
    · have h4 : (1#64 : BitVec 64).getLsbD i = false := by
        rw [BitVec.getLsbD_one]
        simp
        omega
      rw [h4, Bool.and_false]
      exact (BitVec.getLsbD_zero).symm
theorem sh64 : ∀ v : Nat, v < 64 → (((nI v).toInt64 &&& 63).toBitVec.smod 64).toNat = v := by decide
theorem b64_shr {x : Int64} {v : Nat} (hv : v < 64) : ((x >>> ((nI v).toInt64 &&& 63)) &&& 1 = 0) ↔ b64 x v = false := by
  rw [b64_and1]
  unfold b64
  have e : (x >>> ((nI v).toInt64 &&& 63)).toBitVec = x.toBitVec.sshiftRight (((nI v).toInt64 &&& 63).toBitVec.smod 64).toNat := rfl
  rw [e, sh64 v hv, BitVec.getLsbD_sshiftRight, if_pos (by omega), Nat.add_zero]
  simp
theorem b64_shl {v w : Nat} (hv : v < 64) (hw : w < 64) : b64 ((1 : Int64) <<< ((nI v).toInt64 &&& 63)) w = true ↔ v = w := by
  unfold b64
  have e : ((1 : Int64) <<< ((nI v).toInt64 &&& 63)).toBitVec = 1#64 <<< (((nI v).toInt64 &&& 63).toBitVec.smod 64).toNat := rfl
  rw [e, sh64 v hv, BitVec.getLsbD_shiftLeft, BitVec.getLsbD_one]
  simp only [Bool.and_eq_true, decide_eq_true_iff, Bool.not_eq_true', decide_eq_false_iff_not]
  omega
/-- where a clause begins -/
def off (cs : List (List Lt)) (c : Nat) : Nat := (cs.take c).flatten.length
/-- clauses with their kinds and predicates -/
def CT (G : Nat → Int32) (ps : List Wd) (cn : List Con) (cs : List (List Lt)) (tz : Int32) (FF K P : Nat → Int32) : Prop := tz = nI cs.length ∧ cs.length ≤ 256 ∧ FFQ cs FF ∧ (∀ (i : Nat) (l : Lt), cs.flatten[i]? = some l → K i = l.1 ∧ (isA l → ∃ p : Nat, ps[p]? = some l.2.1 ∧ P i = nI p)) ∧ ps.Nodup ∧ ps.length ≤ 64 ∧ (∀ ls ∈ cs, ClOk 0 G ps cn ls)
theorem flat_split {cs : List (List Lt)} {c : Nat} {ls : List Lt} (h : cs[c]? = some ls) : cs.flatten = (cs.take c).flatten ++ (ls ++ (cs.drop (c + 1)).flatten) := by
  obtain ⟨hc, e⟩ := List.getElem?_eq_some_iff.mp h
  have h2 : cs = cs.take c ++ (ls :: cs.drop (c + 1)) := by
    have h3 := List.take_append_drop c cs
    rw [List.drop_eq_getElem_cons hc, e] at h3
    exact h3.symm
  have h4 := congrArg List.flatten h2
  rw [List.flatten_append, List.flatten_cons] at h4
  exact h4
theorem flat_at {cs : List (List Lt)} {c j : Nat} {ls : List Lt} {l : Lt} (h : cs[c]? = some ls) (hj : ls[j]? = some l) : cs.flatten[off cs c + j]? = some l := by
  have hl := (List.getElem?_eq_some_iff.mp hj).1
  rw [flat_split h]
  unfold off
  rw [List.getElem?_append_right (by omega), Nat.add_sub_cancel_left, List.getElem?_append_left hl]
  exact hj
theorem off_s {cs : List (List Lt)} {c : Nat} {ls : List Lt} (h : cs[c]? = some ls) : off cs (c + 1) = off cs c + ls.length ∧ off cs c + ls.length ≤ cs.flatten.length := by
  have h1 : off cs (c + 1) = off cs c + ls.length := by
    unfold off
    rw [List.take_succ, h]
    simp
  refine ⟨h1, ?_⟩
  rw [flat_split h, List.length_append, List.length_append]
  unfold off
  omega
section CTs
variable {G : Nat → Int32} {ps : List Wd} {cn : List Con} {cs : List (List Lt)} {tz : Int32} {FF K P : Nat → Int32}
theorem CT_cl {c : Nat} {ls : List Lt} (h : CT G ps cn cs tz FF K P) (hc : cs[c]? = some ls) : c < 256 ∧ 1 ≤ ls.length ∧ ls.length ≤ 13 ∧ FF c = nI (off cs c) ∧ FF (c + 1) = nI (off cs c + ls.length) ∧ off cs c + ls.length ≤ 3328 := by
  obtain ⟨h1, h2, h3, h4, h5, h6, h7⟩ := h
  have hcl := (List.getElem?_eq_some_iff.mp hc).1
  have hk := h7 ls (List.mem_of_getElem? hc)
  obtain ⟨o1, o2⟩ := off_s hc
  have hfl := flat_le cs (fun x hx => (h7 x hx).2.1)
  refine ⟨by omega, hk.1, hk.2.1, h3 c (by omega), ?_, by omega⟩
  rw [h3 (c + 1) (by omega)]
  show nI (off cs (c + 1)) = _
  rw [o1]
theorem CT_lit {c j : Nat} {ls : List Lt} {l : Lt} (h : CT G ps cn cs tz FF K P) (hc : cs[c]? = some ls) (hj : ls[j]? = some l) : K (off cs c + j) = l.1 ∧ kdOk l.1 ∧ (isA l → ∃ p : Nat, p < 64 ∧ ps[p]? = some l.2.1 ∧ P (off cs c + j) = nI p) := by
  obtain ⟨h1, h2, h3, h4, h5, h6, h7⟩ := h
  have hk := (h7 ls (List.mem_of_getElem? hc)).2.2.1 l (List.mem_of_getElem? hj)
  obtain ⟨a1, a2⟩ := h4 _ l (flat_at hc hj)
  refine ⟨a1, kd_of hk, fun z => ?_⟩
  obtain ⟨p, e1, e2⟩ := a2 z
  have := (List.getElem?_eq_some_iff.mp e1).1
  exact ⟨p, by omega, e1, e2⟩
theorem CT_hd {c : Nat} {ls : List Lt} (h : CT G ps cn cs tz FF K P) (hc : cs[c]? = some ls) : ∃ (hd : Lt) (p : Nat), ls[0]? = some hd ∧ hd.1 = 0 ∧ p < 64 ∧ ps[p]? = some hd.2.1 ∧ P (off cs c) = nI p := by
  have hl := (CT_cl h hc).2.1
  have h0e := List.getElem?_eq_getElem (show 0 < ls.length by omega)
  have hh : (ls[0]).1 = 0 := (h.2.2.2.2.2.2 ls (List.mem_of_getElem? hc)).2.2.2 rfl _ h0e
  obtain ⟨p, e1, e2, e3⟩ := (CT_lit h hc h0e).2.2 (Or.inl hh)
  exact ⟨_, p, h0e, hh, e1, e2, e3⟩
theorem sp_headOf {post : Int32 → Unit → Prop} {c p : Nat} {ls : List Lt} (h : CT G ps cn cs tz FF K P) (hc : cs[c]? = some ls) (hp : P (off cs c) = nI p) (hpo : post (nI p) ()) : wp_met_Pr_headOf post 257 3328 (nI c) FF P := by
  obtain ⟨d1, d2, d3, d4, d5, d6⟩ := CT_cl h hc
  refine ⟨vp_in_nI (by omega) (by omega), fun y2 h2 => ?_⟩
  rw [nI_clamp (by omega), d4] at h2
  subst h2
  refine ⟨vp_in_nI (by omega) (by omega), fun y4 h4 => ?_⟩
  rw [nI_clamp (by omega), hp] at h4
  subst h4
  exact hpo
theorem kd1 {k : Int32} (h : kdOk k) : (1 : Int32) < k ↔ ¬ (k = 0 ∨ k = 1) := by
  rcases h with h | h | h
  · rw [h]; decide
  · rw [h]; decide
  · rcases kd_enum h with c | c | c | c | c | c <;> rw [c] <;> decide
end CTs
