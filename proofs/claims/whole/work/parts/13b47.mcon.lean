/-! pure: constants of the model -/
/-- the model's table of constants -/
def MCo (q : Bool) (cs : List Con) (o : Nat) (CN CV CF F : Nat → Int32) : Prop := ∀ i c, cs[i]? = some c → (c.1 = [] ∧ CN (o + i) = 1 ∧ (CV (o + i)).toInt = c.2) ∨ (¬ c.1 = [] ∧ c.2 = 0 ∧ CN (o + i) = 0 ∧ CV (o + i) = nI c.1.length ∧ ∃ a, CF (o + i) = nI a ∧ (a + c.1.length ≤ 196608 ∧ Ar q (o / 1100) a c.1.length) ∧ sl F a c.1.length = c.1)
section MCon
variable {post : Int32 → Unit → Prop} {q : Bool} {cs : List Con} {set a m : Nat} {F CN CV CF : Nat → Int32} {tk : Int32} {am : Int64} {c : Con}
theorem sp_Mo_con_lp (hM : MCo q cs (1100 * set) CN CV CF F) (hset : set < 2) (hcs : cs.length ≤ 1100) (ha : a + m ≤ 196608) (hc : (tk = 3 ∧ c = ([], am.toInt)) ∨ (¬ tk = 3 ∧ c = (sl F a m, 0) ∧ 0 < m)) (h : ∀ r, fw c cs r → post r ()) : ∀ d k : Nat, k + d = cs.length → (∀ j, j < k → ¬ cs[j]? = some c) → lw_met_Mo_constant_2 post (nI cs.length) (nI set) tk CN CV am (nI (a + m)) (nI a) CF F (d + 1) (nI k) := by
  intro d
  induction d with
  | zero =>
    intro k hk hno
    refine pk_le cs.length k (fun _ => ?_) (fun q => absurd q (by omega))
    refine h _ (Or.inr ⟨rfl, fun j hj => ?_⟩)
    have := (List.getElem?_eq_some_iff.mp hj).1
    exact hno j (by omega) hj
  | succ d ih =>
    intro k hk hno
    have hkl : k < cs.length := by omega
    have hwk : cs[k]? = some cs[k] := List.getElem?_eq_getElem hkl
    have hm := hM k _ hwk
    generalize cs[k] = ck at hwk hm
    have go : ¬ ck = c → lw_met_Mo_constant_2 post (nI cs.length) (nI set) tk CN CV am (nI (a + m)) (nI a) CF F (d + 1) (nI k + 1) := by
      intro q
      rw [nI_1]
      refine ih (k + 1) (by omega) (fun j hj => ?_)
      rcases Nat.lt_or_ge j k with h9 | h9
      · exact hno j h9
      · obtain rfl : j = k := by omega
        rw [hwk]
        exact fun z => q (Option.some.inj z)
    have yes : ck = c → post (nI k) () := fun q => h _ (Or.inl ⟨k, rfl, by rw [hwk, q], hno⟩)
    have j116 : ∀ b : Bool, (b = true ↔ ck = c) → jw_met_Mo_constant_116 post (fun x9 => lw_met_Mo_constant_2 post (nI cs.length) (nI set) tk CN CV am (nI (a + m)) (nI a) CF F (d + 1) x9) (nI k) (b01 b) := by
      intro b hb
      refine b01_if (fun z => go (fun q => by rw [hb.mpr q] at z; exact absurd z (by decide))) (fun z => yes (hb.mp z))
    have c115 : ¬ ck = c → jw_met_Mo_constant_115 post (fun x9 => lw_met_Mo_constant_2 post (nI cs.length) (nI set) tk CN CV am (nI (a + m)) (nI a) CF F (d + 1) x9) (nI k) () := fun q => j116 false ⟨fun z => absurd z (by decide), fun z => absurd z q⟩
    refine pk_le cs.length k (fun q => absurd q (by omega)) (fun _ => ?_)
    intro y3 h3 y4 h4
    rw [show (1100 : Int32) = nI 1100 from rfl, pk_mul] at h3
    rw [h3, nI_add] at h4
    subst h4
    have c4 : (nI (1100 * set + k)).toNatClampNeg = 1100 * set + k := nI_clamp (by omega)
    have hin : vp_in (nI (1100 * set + k)) 2200 := vp_in_nI (by omega) (by omega)
    refine ⟨fun q3 => ⟨hin, fun y18 h18 => ⟨⟨fun _ => trivial, fun _ => ⟨hin, trivial⟩⟩, fun y19 h19 => ?_⟩⟩, fun q3 => ⟨hin, fun y7 h7 => ?_⟩⟩
    · obtain ⟨-, hc2⟩ : tk = 3 ∧ c = ([], am.toInt) := by
        rcases hc with z | z
        · exact z
        · exact absurd q3 z.1
      rw [c4] at h18 h19
      rcases hm with ⟨m1, m2, m3⟩ | ⟨m1, m2, m3, -⟩
      · have n0 : ¬ y18 = 0 := by rw [h18, m2]; decide
        rw [if_neg n0, b01_dec] at h19
        rw [h19]
        refine j116 _ ?_
        rw [decide_eq_true_iff, ← Int64.toInt_inj, Int32.toInt_toInt64, m3, hc2]
        constructor
        · intro z
          exact Prod.ext m1 z
        · intro z
          rw [z]
      · have n0 : y18 = 0 := by rw [h18, m3]
        rw [if_pos n0] at h19
        rw [h19]
        refine j116 false ⟨fun z => absurd z (by decide), fun z => ?_⟩
        rw [z, hc2] at m1
        exact absurd rfl m1
    · obtain ⟨-, hc2, hm0⟩ : ¬ tk = 3 ∧ c = (sl F a m, 0) ∧ 0 < m := by
        rcases hc with z | z
        · exact absurd z.1 q3
        · exact z
      rw [c4] at h7
      rcases hm with ⟨m1, m2, m3⟩ | ⟨m1, m2, m3, m4, a2, m5, ⟨m6, -⟩, m7⟩
      · have n0 : ¬ y7 = 0 := by rw [h7, m2]; decide
        refine ⟨fun z => absurd z n0, fun _ => c115 (fun z => ?_)⟩
        rw [z, hc2] at m1
        have := congrArg List.length m1
        rw [sl_len] at this
        simp at this
        omega
      · have n0 : y7 = 0 := by rw [h7, m3]
        refine ⟨fun _ => ⟨hin, fun y10 h10 y11 h11 => ?_⟩, fun z => absurd n0 z⟩
        rw [c4, m4] at h10
        rw [pk_sub (by omega), show a + m - a = m by omega] at h11
        subst h10 h11
        have hlen : ck = c → ck.1.length = m := fun z => by rw [z, hc2]; exact sl_len F m a
        refine ⟨fun q => ⟨hin, fun y13 h13 y14 h14 => ?_⟩, fun q => c115 (fun z => q (by rw [hlen z]))⟩
        have q' : ck.1.length = m := by
          have := congrArg Int32.toInt q
          rw [nI_toInt (by omega), nI_toInt (by omega)] at this
          omega
        rw [c4, m5] at h13
        rw [pk_sub (by omega), show a + m - a = m by omega] at h14
        subst h13 h14
        rw [q'] at m6 m7
        refine sp_Mo_isSame m6 ha ?_
        intro y16 h16
        rw [b01_id] at h16
        rw [h16]
        refine j116 _ ?_
        rw [decide_eq_true_iff, m7, hc2]
        constructor
        · intro z
          exact Prod.ext z m2
        · intro z
          rw [z]
theorem sp_Mo_constant (hM : MCo q cs (1100 * set) CN CV CF F) (hset : set < 2) (hcs : cs.length ≤ 1100) (ha : a + m ≤ 196608) (hc : (tk = 3 ∧ c = ([], am.toInt)) ∨ (¬ tk = 3 ∧ c = (sl F a m, 0) ∧ 0 < m)) (h : ∀ r, fw c cs r → post r ()) : wp_met_Mo_constant post (nI cs.length) (nI set) tk (nI a) (nI (a + m)) am F CN CV CF :=
  ⟨cs.length + 1, sp_Mo_con_lp hM hset hcs ha hc h cs.length 0 (by omega) (fun j hj => absurd hj (by omega))⟩
end MCon
theorem sp_Mo_literal {post : Int32 → Unit → Prop} {k set cl : Nat} (h : post (nI ((257 * set + cl) * 13 + k)) ()) : wp_met_Mo_literal post (nI k) (nI set) (nI cl) := by
  intro y1 h1 y2 h2 y3 h3 y4 h4
  rw [show (257 : Int32) = nI 257 from rfl, pk_mul] at h1
  rw [h1, nI_add] at h2
  rw [h2, show (13 : Int32) = nI 13 from rfl, pk_mul] at h3
  rw [h3, nI_add] at h4
  rw [h4]
  exact h
