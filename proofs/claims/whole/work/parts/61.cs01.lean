/-! pure: the class's reader: a predicate is read, a clause begins -/
/-- the token as the class takes it -/
def TkC (F : Nat → Int32) (n k : Nat) (vl : Int32) : Prop := ((TK F n k).1 = 4 → vl.toInt = (TK F n k).2.2.2) ∧ ((TK F n k).1 = 2 → vl = 0)
theorem TkC_of {F : Nat → Int32} {n k a b : Nat} {kd vl : Int32} (h : TokR F n k kd a b vl) : kd = (TK F n k).1 ∧ a = (TK F n k).2.1 ∧ b = (TK F n k).2.2.1 ∧ TkC F n k vl := by
  obtain ⟨h1, h2, h3, h4⟩ := TK_of h
  refine ⟨h1, h2, h3, fun z => h4 (h1.trans z), fun z => ?_⟩
  rw [← h1] at z
  obtain ⟨-, q⟩ := h
  split at q
  · split at q
    · exact q.2.2
    · split at q
      · obtain ⟨-, q1, -⟩ := q
        rw [z] at q1
        by_cases g : decide (b ≤ ds F a) = true
        · rw [if_pos g] at q1
          exact absurd q1 (by decide)
        · rw [if_neg g] at q1
          generalize (if decide (F a = 45) = true then 2147483648 else 2147483647) = L9 at q1
          by_cases g2 : L9 < (tv F (n - ds F a) (ds F a) 0).1
          · rw [if_pos g2] at q1
            exact absurd q1 (by decide)
          · rw [if_neg g2] at q1
            exact absurd q1 (by decide)
      · exact q.2.2
  · exact q.2.2
section S01
variable {md n k mc ms ptx : Nat} {F : Nat → Int32} {ar rk : Nat → Nat} {q0 : List Wd × List Con} {c : Ct} {D : Dt} {kP : ClassId} {code place an st bz ih fg ns ne po vz vu : Int32} {vS vL : Nat → Int32} {vN : Nat} {vT ND : Nat → Int32} {oz ou : Int32} {oS oL : Nat → Int32} {oN : Nat} {oT OZ : Nat → Int32} {sz su : Int32} {sS sL : Nat → Int32} {sN : Nat} {sT sV sB : Nat → Int32} {pz pu : Int32} {pS pL : Nat → Int32} {pN : Nat} {pT PZ : Nat → Int32} {cz cu : Int32} {cS cL : Nat → Int32} {cN : Nat} {cT cV cB : Nat → Int32} {tz tl : Int32} {FF K P Pl Z M TT : Nat → Int32}
theorem RdQ_atm (h : MI md n F c D k) : (md = 0 → ∀ x ∈ D.1.flatten ++ D.2.1, isA x → x.2.1 ∈ D.2.2.2.2.1) ∧ (∀ x ∈ D.1.flatten ++ D.2.1, x.2.2.2.2.length ≤ 6) := by
  have hl : ∀ x ∈ D.1.flatten ++ D.2.1, LtOk md F D.2.2.2.2.1 D.2.2.2.2.2 x := by
    intro x hx
    rcases List.mem_append.mp hx with q | q
    · obtain ⟨ls, h1, h2⟩ := List.mem_flatten.mp q
      exact (h.2.1.1 ls h1).2.2.1 x h2
    · exact h.2.1.2.1 x q
  refine ⟨fun h0 x hx hA => ?_, fun x hx => (hl x hx).2.1⟩
  rcases (hl x hx).1 with q | ⟨q1, q2, -⟩
  · exact q.2.2.1 h0
  · rcases hA with e | e <;> rw [e] at q1 <;> exact absurd q1 (by decide)
theorem sf_md (md : Nat) : sf md = if md = 0 then 0 else 1 := rfl
theorem st_1 {post : (Int32 × Int32 × Int32 × Int32 × Int32 × Int32 × Int32 × Int32 × (Nat → Int32) × (Nat → Int32) × Nat × ClassId × Nat × (Nat → Int32) × (Nat → Int32) × Nat × Nat) → Prop} (hmd : md < 4) (hn : n ≤ 20480) (hF : ∀ j, j < n → byt (F j)) (hmc : 1 ≤ mc) (hms : 40960 ≤ ms) (hk1 : ¬ (TK F n k).1 = 1) (h : RdQ md n F ar rk q0 (1, 0, 0) D k code place an st bz ih fg ns ne po vz vu vS vL vN vT ND oz ou oS oL oN oT OZ sz su sS sL sN sT sV sB pz pu pS pL pN pT PZ cz cu cS cL cN cT cV cB tz tl FF K P Pl Z M TT)
    (h0 : ∀ e, mStep md F n (1, 0, 0) D k = .inl e → ∀ fg2 ns2 ne2 P2, post (nI e.1, nI e.2, 12, fg2, ns2, ne2, pz, pu, pS, pL, ptx, kP, pN, pT, P2, 0, 0))
    (h1 : ∀ c2 D2, mStep md F n (1, 0, 0) D k = .inr (some (c2, D2, (TK F n k).2.2.1)) → ∀ st2 fg2 ns2 ne2 pz2 pu2 pS2 pL2 ptx2 kP2 pN2 pT2 P2 kc ks, RdQ md n F ar rk q0 c2 D2 (TK F n k).2.2.1 code place an st2 bz ih fg2 ns2 ne2 po vz vu vS vL vN vT ND oz ou oS oL oN oT OZ sz su sS sL sN sT sV sB pz2 pu2 pS2 pL2 pN2 pT2 PZ cz cu cS cL cN cT cV cB tz tl FF K P2 Pl Z M TT → cst pN pN2 kc ks → post (code, place, st2, fg2, ns2, ne2, pz2, pu2, pS2, pL2, ptx2, kP2, pN2, pT2, P2, kc, ks)) : wp_met_Re_readPredicate post mc ms 64 64 pN (rmo md) ptx code place (nI md) fg ns ne (TK F n k).1 (nI (TK F n k).2.1) (nI (TK F n k).2.2.1) F pz pu pS pL pT tl P kP := by
  obtain ⟨hM, hq, hst, ⟨gv, gv2⟩, ⟨ows, o1, o2, o3⟩, ⟨sd, s1, s2⟩, ⟨p1, p2⟩, ⟨c1, c2⟩, ⟨t1, t2, t3, t4⟩, ⟨-, -, gl, -⟩, ⟨b1, b2⟩, gw⟩ := h
  have p2 : md = 0 → tot D.2.2.2.2.1 ≤ k := p2
  have c2 : md = 0 → tot (D.2.2.2.2.2.map (·.1)) ≤ k := c2
  obtain ⟨hV, htv⟩ := gv (by decide)
  have hpk : k ≤ n := hM.1.1
  have hpos := TK_pos F n k hpk
  have hoi := hM.2.2.1
  obtain ⟨a1, a6⟩ := RdQ_atm hM
  obtain ⟨l1, l2, l3, l4⟩ := gl rfl
  have hol : (D.2.2.1.1 = 0 ∨ D.2.2.1.1 = 1) ∧ (md = 0 → ¬ D.2.1 = []) ∧ D.2.1.length < lim md ∧ D.2.2.1.2.2.2.1 ≤ 65536 := hoi
  have hroom := Lc_room hM (by decide) hol.2.2.1
  have htl : tl = nI ((Lc D).length + 1) := t2 (by decide)
  have hrm : rmo md < 100000 := by
    unfold rmo
    split <;> omega
  by_cases k2 : (TK F n k).1 = 2
  · refine ⟨fun _ => ?_, fun z => absurd k2 z⟩
    refine ⟨mc, ms, by omega, by omega, ?_⟩
    have hlt : (TK F n k).2.1 < (TK F n k).2.2.1 := by
      rcases hpos.2.2.2 with z | z
      · rw [k2] at z
        exact absurd z (by decide)
      · exact z
    obtain ⟨m, hm⟩ : ∃ m, (TK F n k).2.2.1 = (TK F n k).2.1 + m := ⟨(TK F n k).2.2.1 - (TK F n k).2.1, by omega⟩
    have em : (TK F n k).2.2.1 - (TK F n k).2.1 = m := by omega
    have eS : mStep md F n (1, 0, 0) D k = mName md F D D.2.2.1.1 D.2.2.1.2.2.2.1 (TK F n k).2.1 (TK F n k).2.2.1 (TK F n k).2.2.1 := by
      rw [step_1, if_neg hk1, if_neg (fun z => z k2)]
    have hlw : (sl F (TK F n k).2.1 m).length = m := sl_len _ _ _
    rw [htl, hm]
    refine sp_Re_namePredicate (i := (Lc D).length) hmd p1 (by omega) (fun j hj => hF j (by omega)) (fun z => by have := p2 z; omega) hroom hrm hmc hms (fun e => ?_) (fun ps2 e pz2 pu2 pS2 pL2 ptx2 kP2 pN2 pT2 x kc ks q1 q2 q3 q4 => ?_)
    · refine h0 (3, (TK F n k).2.1) ?_ _ _ _ _
      rw [eS]
      unfold mName
      rw [em, e]
    · have eS2 : mStep md F n (1, 0, 0) D k = .inr (some ((if md = 3 then 11 else 2, 0, 0), (D.1, D.2.1, (D.2.2.1.1, sl F (TK F n k).2.1 m, (TK F n k).2.1, D.2.2.1.2.2.2.1, []), D.2.2.2.1, ps2, D.2.2.2.2.2), (TK F n k).2.2.1)) := by
        rw [eS]
        unfold mName
        rw [em, e]
      have hMI := MI_step (by omega) hM eS2
      dsimp only
      rw [Nat.zero_add, Nat.zero_add]
      have hR := nm_RQ (q0 := q0) (l0 := D.2.2.1) (k := k) (x := x) (bz := bz) (ih := ih) (tl := tl) hmd hMI (fun z => by
          rcases mPred_pre e with e9 | ⟨e9, -, -⟩
          · rw [e9]
            exact hq z
          · exact absurd e9 z) e q1.1 a1 a6 hV (by omega) (by omega) o1 (by have z : tot ows ≤ k := o2.1; omega) (by rw [hlw]; omega) o3 s1 q1 (fun z => by have := q2 z; omega) c1 (fun z => by have := c2 z; omega) t1 htl t3 t4 l1 l2 l3 l4 q3 ⟨fun z1 z2 => ?_, fun z1 z2 => b2 (by decide) (by decide)⟩ gw
      · rw [hlw] at hR
        exact h1 _ _ eS2 _ _ _ _ _ _ _ _ _ _ _ _ _ kc ks hR q4
      · obtain ⟨b, e1, e2⟩ := b1 z1 (by decide)
        refine ⟨b, e1, ?_⟩
        have n3 : ¬ md = 3 := by omega
        have eo : opb ((if md = 3 then 11 else 2, 0, 0) : Ct) = opb ((1, 0, 0) : Ct) := by
          rw [show (if md = 3 then 11 else 2 : Nat) = 2 from if_neg n3]
          rfl
        rw [eo]
        exact e2
  · refine ⟨fun z => absurd z k2, fun _ => ?_⟩
    exact h0 (2, (TK F n k).2.1) (by rw [step_1, if_neg hk1, if_pos k2]) _ _ _ _
end S01
