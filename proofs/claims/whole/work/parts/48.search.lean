/-! pure: the class's constants, looked for by their order -/
theorem x_not (x : Int32) : (x ^^^ (-1 : Int32)).toInt = -1 - x.toInt := by
  have e : (x ^^^ (-1 : Int32)).toBitVec = ~~~ x.toBitVec := by
    rw [Int32.toBitVec_xor, show (-1 : Int32).toBitVec = BitVec.allOnes 32 from by decide, BitVec.xor_allOnes]
  have h1 : (x ^^^ (-1 : Int32)).toInt = ((x ^^^ (-1 : Int32)).toBitVec).toInt := rfl
  have h2 : x.toInt = x.toBitVec.toInt := rfl
  have hn : x.toBitVec.toNat < 4294967296 := x.toBitVec.isLt
  rw [h1, e, h2, BitVec.toInt_eq_toNat_cond, BitVec.toInt_eq_toNat_cond, BitVec.toNat_not]
  split <;> split <;> omega
def cg (cs : List Con) (i : Nat) : Con := cs.getD i ([], 0)
theorem cg_at {cs : List Con} {i : Nat} (h : i < cs.length) : cs[i]? = some (cg cs i) := by
  unfold cg
  rw [List.getD_eq_getElem?_getD, List.getElem?_eq_getElem h]
  rfl
/-- ranks: rk q is the number of the constant of rank q -/
def CoR (cs : List Con) (rk : Nat → Nat) (V BR : Nat → Int32) : Prop := (∀ i, i < cs.length → (V i).toInt = (cg cs i).2) ∧ (∀ q, q < cs.length → rk q < cs.length ∧ BR q = nI (rk q)) ∧ (∀ q r, q < r → r < cs.length → cc (cg cs (rk q)) (cg cs (rk r)) < 0) ∧ (∀ i, i < cs.length → ∃ q, q < cs.length ∧ rk q = i)
def SR (c : Con) (cs : List Con) (rk : Nat → Nat) (r : Int32) : Prop := (∃ q, r = nI q ∧ q < cs.length ∧ cg cs (rk q) = c) ∨ (∃ lo : Nat, r.toInt = -1 - lo ∧ lo ≤ cs.length ∧ (∀ q, q < lo → cc (cg cs (rk q)) c < 0) ∧ (∀ q, lo ≤ q → q < cs.length → 0 < cc (cg cs (rk q)) c))
theorem sp_In_compare {post : Int32 → Unit → Prop} {x y : Int32} (h : ∀ r : Int32, r.toInt = (x.toInt - y.toInt).sign → post r ()) : wp_met_In_compare post x y := by
  intro r hr
  refine h r ?_
  rw [hr]
  by_cases q : y ≤ x
  · have q' := Int32.le_iff_toInt_le.mp q
    rw [if_pos q]
    by_cases e : x = y
    · rw [if_pos e, e, Int.sub_self]
      decide
    · have e' : ¬ x.toInt = y.toInt := fun z => e (Int32.toInt_inj.mp z)
      rw [if_neg e, Int.sign_eq_one_of_pos (by omega)]
      decide
  · have q' : ¬ y.toInt ≤ x.toInt := fun z => q (Int32.le_iff_toInt_le.mpr z)
    rw [if_neg q, Int.sign_eq_neg_one_of_neg (by omega)]
    decide
section Srch
variable {post : Int32 → Unit → Prop} {cs : List Con} {rk : Nat → Nat} {u lim nT nb b m : Nat} {S L T V BR fb : Nat → Int32} {vl : Int32}
theorem sp_search_lp (hN : NaR (cs.map (·.1)) u S L T) (hC : CoR cs rk V BR) (hlim : lim < 1000000) (hnT : nT < 1000000) (hnb : nb < 1000000) (hu : u ≤ nT) (hcs : cs.length ≤ lim) (hb : b + m ≤ nb) (hbb : ∀ j, j < m → byt (fb (b + j))) (h : ∀ r, SR (sl fb b m, vl.toInt) cs rk r → post r ()) : ∀ d lo hi : Nat, hi ≤ lo + d → lo ≤ hi → hi ≤ cs.length → (∀ q, q < lo → cc (cg cs (rk q)) (sl fb b m, vl.toInt) < 0) → (∀ q, hi ≤ q → q < cs.length → 0 < cc (cg cs (rk q)) (sl fb b m, vl.toInt)) → lw_met_Co_search_12 post lim BR lim V vl lim lim nT nb (nI b) (nI m) S L T fb (d + 1) (nI hi, nI lo) := by
  intro d
  induction d with
  | zero =>
    intro lo hi h1 h2 h3 h4 h5
    refine pk_le hi lo (fun _ => ?_) (fun q => absurd q (by omega))
    intro y hy
    refine h y (Or.inr ⟨lo, ?_, by omega, h4, fun q hq => h5 q (by omega)⟩)
    rw [hy, x_not, nI_toInt (by omega)]
  | succ d ih =>
    intro lo hi h1 h2 h3 h4 h5
    refine pk_le hi lo (fun _ => ?_) (fun hlt => ?_)
    · intro y hy
      refine h y (Or.inr ⟨lo, ?_, by omega, h4, fun q hq => h5 q (by omega)⟩)
      rw [hy, x_not, nI_toInt (by omega)]
    intro y5 hy5 y6 hy6
    rw [nI_add] at hy5
    rw [hy5, pk_ushrN (by omega) 1 1 (by decide)] at hy6
    obtain ⟨mid, hmid⟩ : ∃ mid, mid = (lo + hi) / 2 ^ 1 := ⟨_, rfl⟩
    rw [← hmid] at hy6
    subst hy6
    have m1 : lo ≤ mid := by omega
    have m2 : mid < hi := by omega
    have cm : (nI mid).toNatClampNeg = mid := nI_clamp (by omega)
    have hin : vp_in (nI mid) lim := vp_in_nI (by omega) (by omega)
    obtain ⟨r1, r2⟩ := hC.2.1 mid (by omega)
    refine ⟨hin, fun y8 hy8 => ?_⟩
    rw [cm, r2] at hy8
    subst hy8
    have hw : (cs.map (·.1))[rk mid]? = some (cg cs (rk mid)).1 := by rw [List.getElem?_map, cg_at r1]; rfl
    obtain ⟨hbw, a, e1, e2, e3, e4⟩ := hN _ _ hw
    have last : ∀ v : Int32, v.toInt.sign = cc (cg cs (rk mid)) (sl fb b m, vl.toInt) → jw_met_Co_search_71 post (fun x9 => lw_met_Co_search_12 post lim BR lim V vl lim lim nT nb (nI b) (nI m) S L T fb (d + 1) x9) (nI mid) (nI lo) (nI hi) v := by
      intro v hv
      have z0 : (0 : Int32).toInt = 0 := by decide
      refine ⟨fun q => ?_, fun q => ⟨fun p => ?_, fun p => ?_⟩⟩
      · rw [q, z0] at hv
        exact h _ (Or.inl ⟨mid, rfl, by omega, cc_0.mp hv.symm⟩)
      · have p' := Int32.le_iff_toInt_le.mp p
        have q' : ¬ v.toInt = 0 := fun z => q (Int32.toInt_inj.mp (by rw [z, z0]))
        rw [z0] at p'
        have pos : 0 < cc (cg cs (rk mid)) (sl fb b m, vl.toInt) := by
          rw [← hv, Int.sign_eq_one_of_pos (by omega)]
          decide
        refine ih lo mid (by omega) m1 (by omega) h4 (fun q2 hq2 hq3 => ?_)
        rcases Nat.lt_or_ge mid q2 with g | g
        · have t1 := hC.2.2.1 mid q2 g hq3
          have t2 : cc (sl fb b m, vl.toInt) (cg cs (rk mid)) < 0 := by rw [cc_neg]; omega
          have t3 := cc_trans t2 t1
          rw [cc_neg]
          omega
        · obtain rfl : q2 = mid := by omega
          exact pos
      · have p' : ¬ (0 : Int32).toInt ≤ v.toInt := fun z => p (Int32.le_iff_toInt_le.mpr z)
        rw [z0] at p'
        have neg : cc (cg cs (rk mid)) (sl fb b m, vl.toInt) < 0 := by
          rw [← hv, Int.sign_eq_neg_one_of_neg (by omega)]
          decide
        intro y17 hy17
        rw [nI_1] at hy17
        rw [hy17]
        refine ih (mid + 1) hi (by omega) (by omega) h3 (fun q2 hq2 => ?_) h5
        rcases Nat.lt_or_ge q2 mid with g | g
        · exact cc_trans (hC.2.2.1 q2 mid g (by omega)) neg
        · obtain rfl : q2 = mid := by omega
          exact neg
    have hw1 : (cg cs (rk mid)).1.length < 1000000 := by omega
    refine sp_Na_compare (a := a) (l := (cg cs (rk mid)).1.length) (by omega) (by omega) (by omega) (by omega) hnT hnb e1 e2 (by omega) hb (fun j hj => hbw _ (by rw [← e4]; exact sl_in _ _ hj)) hbb (fun r hr => ?_)
    rw [e4] at hr
    refine ⟨fun q => ⟨hin, fun y12 hy12 => ?_⟩, fun q => last r ?_⟩
    · rw [cm, r2] at hy12
      subst hy12
      have cr : (nI (rk mid)).toNatClampNeg = rk mid := nI_clamp (by omega)
      refine ⟨vp_in_nI (by omega) (by omega), fun y14 hy14 => ?_⟩
      rw [cr] at hy14
      subst hy14
      refine sp_In_compare (fun r15 hr15 => last r15 ?_)
      have z0 : (0 : Int32).toInt = 0 := by decide
      rw [q, z0] at hr
      have hr0 : cw (cg cs (rk mid)).1 (sl fb b m) = 0 := hr.symm
      unfold cc
      rw [if_pos hr0, hr15, hC.1 _ r1]
      exact Int.sign_sign
    · have q' : ¬ cw (cg cs (rk mid)).1 (sl fb b m) = 0 := fun z => by
        rw [z] at hr
        have : r.toInt = 0 := Int.sign_eq_zero_iff_zero.mp hr
        exact q (Int32.toInt_inj.mp (by rw [this]; decide))
      unfold cc
      rw [if_neg q', hr]
theorem sp_Co_search (hN : NaR (cs.map (·.1)) u S L T) (hC : CoR cs rk V BR) (hlim : lim < 1000000) (hnT : nT < 1000000) (hnb : nb < 1000000) (hu : u ≤ nT) (hcs : cs.length ≤ lim) (hb : b + m ≤ nb) (hbb : ∀ j, j < m → byt (fb (b + j))) (h : ∀ r, SR (sl fb b m, vl.toInt) cs rk r → post r ()) : wp_met_Co_search post lim lim nT lim lim nb (nI b) (nI m) vl (nI cs.length) S L T V BR fb :=
  ⟨cs.length + 1, sp_search_lp hN hC hlim hnT hnb hu hcs hb hbb h cs.length 0 cs.length (by omega) (by omega) (by omega) (fun q hq => absurd hq (by omega)) (fun q h1 h2 => absurd h2 (by omega))⟩
end Srch
