/-! pure: tokens, the model's side -/
def byt (x : Int32) : Prop := -128 ≤ x.toInt ∧ x.toInt < 128
theorem u_toInt {x : Int32} (h : byt x) : (x &&& 255).toInt = if x.toInt < 0 then x.toInt + 256 else x.toInt := by
  have e := pk_and x (m := 255) 8 (by decide)
  have hn : x.toBitVec.toNat < 4294967296 := x.toBitVec.isLt
  have hi : x.toInt = if 2 * x.toBitVec.toNat < 2 ^ 32 then (x.toBitVec.toNat : Int) else (x.toBitVec.toNat : Int) - (2 ^ 32 : Nat) := BitVec.toInt_eq_toNat_cond x.toBitVec
  rw [e, nI_toInt (by omega)]
  obtain ⟨h1, h2⟩ := h
  split at hi
  · rw [if_neg (by omega)]
    omega
  · rw [if_pos (by omega)]
    omega
theorem u_eq {x c : Int32} (h : byt x) (h0 : 0 ≤ c.toInt) (h1 : c.toInt < 128) : (x &&& 255) = c ↔ x = c := by
  have e := u_toInt h
  constructor
  · intro q
    apply Int32.toInt_inj.mp
    rw [q] at e
    obtain ⟨b1, b2⟩ := h
    split at e <;> omega
  · intro q
    apply Int32.toInt_inj.mp
    rw [e, q]
    rw [if_neg (by omega)]
theorem u_rg {x lo hi : Int32} (h : byt x) (h0 : 0 ≤ lo.toInt) (h1 : hi.toInt < 128) : (decide (lo ≤ (x &&& 255)) && decide ((x &&& 255) ≤ hi)) = (decide (lo ≤ x) && decide (x ≤ hi)) := by
  have e := u_toInt h
  by_cases q : x.toInt < 0
  · rw [if_pos q] at e
    have a1 : ¬ (x &&& 255) ≤ hi := fun z => by
      have := Int32.le_iff_toInt_le.mp z
      obtain ⟨b1, b2⟩ := h
      omega
    have a2 : ¬ lo ≤ x := fun z => by
      have := Int32.le_iff_toInt_le.mp z
      omega
    simp [a1, a2]
  · rw [if_neg q] at e
    have e2 : (x &&& 255) = x := Int32.toInt_inj.mp e
    rw [e2]
theorem u_D {x : Int32} (h : byt x) : tkD (x &&& 255) = tkD x := u_rg h (by decide) (by decide)
theorem u_S {x : Int32} (h : byt x) : tkS (x &&& 255) = tkS x := u_rg h (by decide) (by decide)
theorem u_dec {x c : Int32} (h : byt x) (h0 : 0 ≤ c.toInt) (h1 : c.toInt < 128) : decide ((x &&& 255) = c) = decide (x = c) := by
  by_cases q : x = c
  · have := (u_eq h h0 h1).mpr q
    simp [q, this]
    rw [q] at this
    exact this
  · have : ¬ (x &&& 255) = c := fun z => q ((u_eq h h0 h1).mp z)
    simp [q, this]
theorem u_B {x : Int32} (h : byt x) : tkB (x &&& 255) = tkB x := by
  unfold tkB
  rw [u_dec h (by decide) (by decide), u_dec h (by decide) (by decide), u_dec h (by decide) (by decide), u_dec h (by decide) (by decide)]
theorem u_W {x : Int32} (h : byt x) : tkW (x &&& 255) = tkW x := by
  unfold tkW
  rw [u_S h, u_D h, u_rg h (by decide) (by decide), u_dec h (by decide) (by decide)]
theorem sp_Mo_at {post : Int32 → Unit → Prop} {F : Nat → Int32} {s k : Nat} (hs : s ≤ 196608) (hk : k < 2147483648) (h1 : k < s → post (F k &&& 255) ()) (h2 : s ≤ k → post 0 ()) : wp_met_Mo_at post (nI k) (nI s) F := by
  have hcl : (nI k).toNatClampNeg = k := nI_clamp (by omega)
  refine ⟨pk_le s k (fun _ => trivial) (fun q => ⟨vp_in_nI (by omega) (by omega), trivial⟩), fun y hy => ?_⟩
  rw [hcl] at hy
  by_cases q : k < s
  · have q' : ¬ nI s ≤ nI k := fun z => absurd ((nI_leI (by omega) (by omega)).mp z) (by omega)
    rw [if_neg q'] at hy
    subst hy
    exact h1 q
  · have q' : nI s ≤ nI k := (nI_leI (by omega) (by omega)).mpr (by omega)
    rw [if_pos q'] at hy
    subst hy
    exact h2 (by omega)
theorem sp_Mo_flaw {post : Int32 → (Int32 × Int32) → Prop} {w p b : Int32} (h : post 0 (w, p - b)) : wp_met_Mo_flaw post w p b := by
  intro y hy
  subst hy
  exact h
section MNext
variable {post : Int32 → (Int32 × Int32 × Int32 × Int32 × Int32 × Int64) → Prop} {F : Nat → Int32} {s : Nat} {fc fp base : Int32} {am : Int64}
theorem sp_mrem {J : (Int32 × Int32) → Prop} (hs : s ≤ 196608) (hB : ∀ j, j < s → byt (F j)) : ∀ (d k : Nat), k + d = s → (∀ d2 k2, k2 + d2 = s → d2 ≤ d → tkSk F d2 k2 false = tkSk F d k true → J (1, nI k2)) → lw_met_Mo_next_65 post J (nI s) 1 F (d + 1) (nI k) := by
  intro d
  induction d with
  | zero =>
    intro k hk h
    refine pk_le s k (fun _ => ?_) (fun q => absurd q (by omega))
    exact h 0 k hk (Nat.le_refl _) rfl
  | succ d ih =>
    intro k hk h
    refine pk_le s k (fun q => absurd q (by omega)) (fun _ => ?_)
    refine sp_Mo_at hs (by omega) (fun hks => ?_) (fun q => absurd q (by omega))
    have hb := hB k hks
    refine ⟨fun q => ?_, fun q => ?_⟩
    · have q' : F k = 10 := (u_eq hb (by decide) (by decide)).mp q
      refine h (d + 1) k hk (Nat.le_refl _) ?_
      have e1 : tkB (F k) = true := by simp [tkB, q']
      conv => lhs; unfold tkSk
      conv => rhs; unfold tkSk
      rw [if_pos e1, q']
      rfl
    · have q' : ¬ F k = 10 := fun z => q ((u_eq hb (by decide) (by decide)).mpr z)
      intro y hy
      rw [hy, nI_1]
      refine ih (k + 1) (by omega) (fun d2 k2 h1 h2 h3 => h d2 k2 h1 (by omega) ?_)
      rw [h3]
      simp [tkSk, q']
theorem sp_mskip (hs : s ≤ 196608) (hB : ∀ j, j < s → byt (F j)) : ∀ (d k : Nat), k + d = s → jw_met_Mo_next_107 post (nI (tkSk F d k false)) (nI s) F fc fp am base () → ∀ m, d + 2 ≤ m → lw_met_Mo_next_10 post (nI s) F fc fp am base m (1, nI k) := by
  intro d
  induction d using Nat.strongRecOn with
  | ind d ih =>
    intro k hk h m hm
    obtain ⟨m1, rfl⟩ : ∃ m1, m = m1 + 1 := ⟨m - 1, by omega⟩
    refine ⟨fun q => absurd q (by decide), fun _ => ?_⟩
    refine pk_le s k (fun q => ?_) (fun q => ?_)
    · have e : d = 0 := by omega
      subst e
      exact h
    obtain ⟨d1, rfl⟩ : ∃ d1, d = d1 + 1 := ⟨d - 1, by omega⟩
    refine sp_Mo_at hs (by omega) (fun hks => ?_) (fun q => absurd q (by omega))
    have hb := hB k hks
    refine sp_Mo_isBlank ?_
    rw [u_B hb]
    refine b01_if (fun hbl => ?_) (fun hbl => ?_)
    · refine sp_Mo_at hs (by omega) (fun hks => ?_) (fun q => absurd q (by omega))
      refine ⟨fun q => ?_, fun q => ?_⟩
      · have q' : F k = 37 := (u_eq hb (by decide) (by decide)).mp q
        have q10 : ¬ F k = 10 := by rw [q']; decide
        have e : tkSk F (d1 + 1) k false = tkSk F d1 (k + 1) true := by
          conv => lhs; unfold tkSk
          rw [if_neg (by rw [hbl]; decide), if_pos q']
        rw [e] at h
        refine ⟨d1 + 1 + 1, pk_le s k (fun q => absurd q (by omega)) (fun _ => ?_)⟩
        refine sp_Mo_at hs (by omega) (fun hks => ?_) (fun q => absurd q (by omega))
        refine ⟨fun q => absurd ((u_eq hb (by decide) (by decide)).mp q) q10, fun _ => ?_⟩
        intro y hy
        rw [hy, nI_1]
        refine sp_mrem hs hB d1 (k + 1) (by omega) (fun d2 k2 h1 h2 h3 => ?_)
        rw [← h3] at h
        exact ih d2 (by omega) k2 h1 h m1 (by omega)
      · have q' : ¬ F k = 37 := fun z => q ((u_eq hb (by decide) (by decide)).mpr z)
        have e : tkSk F (d1 + 1) k false = k := by simp [tkSk, hbl, q']
        rw [e] at h
        obtain ⟨m2, rfl⟩ : ∃ m2, m1 = m2 + 1 := ⟨m1 - 1, by omega⟩
        exact ⟨fun _ => h, fun q => absurd rfl q⟩
    · have e : tkSk F (d1 + 1) k false = tkSk F d1 (k + 1) false := by simp [tkSk, hbl]
      rw [e] at h
      intro y hy
      rw [hy, nI_1]
      exact ih d1 (by omega) (k + 1) (by omega) h m1 (by omega)
def mkd (kd : Int32) : Int32 := if kd = 0 then 0 else kd - 1
theorem m258 {a e : Nat} (hb : byt (F a)) (h : post 1 (fc, fp, mkd (tkK F a e), nI a, nI e, am)) : jw_met_Mo_next_258 post fc fp (nI a) (nI e) am (F a &&& 255) (b01 (isnot F a e)) := by
  refine b01_if (fun q => ?_) (fun q => ?_)
  · refine sp_Mo_isSmall ?_
    rw [u_S hb]
    intro y hy
    have e1 : y = mkd (tkK F a e) := by
      rw [hy]
      unfold tkK
      rw [q]
      cases tkS (F a) <;> decide
    rw [e1]
    exact h
  · have q2 : F a = 110 := by
      simp only [isnot, Bool.and_eq_true, decide_eq_true_eq] at q
      exact q.1.1.2
    have e1 : mkd (tkK F a e) = 4 := by
      have e2 : tkS (F a) = true := by rw [q2]; decide
      unfold tkK
      rw [q, e2]
      decide
    rw [e1] at h
    exact h
theorem m204 {a e : Nat} (hs : s ≤ 196608) (hB : ∀ j, j < s → byt (F j)) (ha : a < s) (hae : a ≤ e) (hes : e ≤ s) (h : post 1 (fc, fp, mkd (tkK F a e), nI a, nI e, am)) : jw_met_Mo_next_204 post (nI e) (nI a) (F a &&& 255) (nI s) F fc fp am () := by
  have hb := hB a ha
  have no : isnot F a e = false → jw_met_Mo_next_257 post fc fp (nI a) (nI e) am (F a &&& 255) () := by
    intro q
    have h2 := m258 (post := post) (fc := fc) (fp := fp) (am := am) (e := e) hb h
    rw [q] at h2
    exact h2
  intro y hy
  rw [pk_sub hae] at hy
  subst hy
  have h3 : (nI (e - a) = (3 : Int32)) ↔ e = a + 3 := by
    rw [show (3 : Int32) = nI 3 from rfl, nI_eq (by omega) (by omega)]
    omega
  refine ⟨fun q => ?_, fun q => no (by have z9 : ¬ e = a + 3 := fun z => q (h3.mpr z); simp [isnot, z9])⟩
  have q3 := h3.mp q
  refine ⟨fun q4 => ?_, fun q4 => no (by have z9 : ¬ F a = 110 := fun z => q4 ((u_eq hb (by decide) (by decide)).mpr z); simp [isnot, z9])⟩
  have q4' : F a = 110 := (u_eq hb (by decide) (by decide)).mp q4
  intro y1 hy1
  rw [hy1, nI_1]
  refine sp_Mo_at hs (by omega) (fun hk1 => ?_) (fun z => absurd z (by omega))
  have hb1 := hB _ hk1
  refine ⟨fun q5 => ?_, fun q5 => no (by have z9 : ¬ F (a + 1) = 111 := fun z => q5 ((u_eq hb1 (by decide) (by decide)).mpr z); simp [isnot, z9])⟩
  have q5' : F (a + 1) = 111 := (u_eq hb1 (by decide) (by decide)).mp q5
  intro y2 hy2
  rw [hy2, show nI a + (2 : Int32) = nI (a + 2) from nI_add a 2]
  refine sp_Mo_at hs (by omega) (fun hk2 => ?_) (fun z => absurd z (by omega))
  have hb2 := hB _ hk2
  intro y3 hy3
  have e3 : y3 = b01 (isnot F a e) := by
    rw [hy3, b01_dec, u_dec hb2 (by decide) (by decide)]
    simp [isnot, q3, q4', q5']
  rw [e3]
  exact m258 hb h
theorem m166 {a : Nat} (hs : s ≤ 196608) (hB : ∀ j, j < s → byt (F j)) (ha : a < s) : ∀ (d k : Nat), a ≤ k → k + d = s → post 1 (fc, fp, mkd (tkK F a (tkE F d k)), nI a, nI (tkE F d k), am) → lw_met_Mo_next_166 post (nI s) F (nI a) (F a &&& 255) fc fp am (d + 1) (nI k) := by
  intro d
  induction d with
  | zero =>
    intro k hak hk h
    exact pk_le s k (fun _ => m204 hs hB ha hak (by omega) h) (fun q => absurd q (by omega))
  | succ d ih =>
    intro k hak hk h
    refine pk_le s k (fun q => absurd q (by omega)) (fun _ => ?_)
    refine sp_Mo_at hs (by omega) (fun hks => ?_) (fun q => absurd q (by omega))
    have hb := hB k hks
    refine sp_Mo_isWord ?_
    rw [u_W hb]
    refine b01_if (fun hw => ?_) (fun hw => ?_)
    · have e : tkE F (d + 1) k = k := by simp [tkE, hw]
      rw [e] at h
      exact m204 hs hB ha hak (by omega) h
    · have e : tkE F (d + 1) k = tkE F d (k + 1) := by simp [tkE, hw]
      rw [e] at h
      intro z hz
      rw [hz, nI_1]
      exact ih (k + 1) (by omega) (by omega) h
end MNext
section MFig
variable {post : Int32 → (Int32 × Int32 × Int32 × Int32 × Int64) → Prop} {F : Nat → Int32} {s : Nat} {fc fp base fr : Int32} {mi : Bool}
def rgN (mi : Bool) (t : Nat) : Prop := t ≤ (if mi = true then 2147483648 else 2147483647)
def AM (t : Nat) (v : Int64) : Prop := (t ≤ 3000000000 ∧ v.toInt = t) ∨ (3000000000 < t ∧ 3000000000 < v.toInt ∧ v.toInt < 40000000000)
theorem mfig_flaw {v7 : Int32} {w : Int64} (h : post 0 (1, fr - base, 3, v7, w)) : jw_met_Mo_figure_153 post v7 w fr base () := by
  unfold jw_met_Mo_figure_153
  refine sp_Mo_flaw ?_
  intro y hy
  rw [hy]
  exact h
theorem mfig_end {t : Nat} {v : Int64} {v7 : Int32} (hA : AM t v) (h1 : rgN mi t → ∀ am : Int64, am.toInt = (if mi = true then -(t : Int) else t) → post 1 (fc, fp, 3, v7, am)) (h2 : ¬ rgN mi t → ∀ am : Int64, post 0 (1, fr - base, 3, v7, am)) : jw_met_Mo_figure_106 post (b01 mi) v fc fp v7 fr base () := by
  have c1 : ((-2147483648) : Int64).toInt = -2147483648 := by decide
  have c2 : (2147483647 : Int64).toInt = 2147483647 := by decide
  have hv0 : 0 ≤ v.toInt ∧ v.toInt < 40000000000 := by rcases hA with h | h <;> omega
  intro w hw
  have hw2 : w.toInt = if mi = true then -v.toInt else v.toInt := by
    rw [hw]
    cases mi
    · simp [b01]
    · have := l_neg (a := v) (by omega) (by omega)
      simp [b01, this]
  refine ⟨fun q => ?_, fun q => ⟨fun r => ?_, fun r => ?_⟩⟩
  · have q' := Int64.lt_iff_toInt_lt.mp q
    rw [c1, hw2] at q'
    refine mfig_flaw (h2 ?_ w)
    cases mi
    · simp only [Bool.false_eq_true, if_false] at q'
      omega
    · simp only [if_true] at q'
      show ¬ t ≤ 2147483648
      rcases hA with h | h <;> omega
  · have q' : ¬ w.toInt < -2147483648 := fun z => q (Int64.lt_iff_toInt_lt.mpr (by rw [c1]; exact z))
    have r' := Int64.le_iff_toInt_le.mp r
    rw [c2] at r'
    rw [hw2] at q' r'
    cases mi
    · simp only [Bool.false_eq_true, if_false] at q' r' hw2
      refine h1 (show t ≤ 2147483647 by rcases hA with h | h <;> omega) w ?_
      simp only [Bool.false_eq_true, if_false]
      rcases hA with h | h <;> omega
    · simp only [if_true] at q' r' hw2
      refine h1 (show t ≤ 2147483648 by rcases hA with h | h <;> omega) w ?_
      simp only [if_true]
      rcases hA with h | h <;> omega
  · have r' : ¬ w.toInt ≤ 2147483647 := fun z => r (Int64.le_iff_toInt_le.mpr (by rw [c2]; exact z))
    rw [hw2] at r'
    refine mfig_flaw (h2 ?_ w)
    cases mi
    · simp only [Bool.false_eq_true, if_false] at r'
      show ¬ t ≤ 2147483647
      rcases hA with h | h <;> omega
    · simp only [if_true] at r'
      omega
theorem mfig (hs : s ≤ 196608) (hB : ∀ j, j < s → byt (F j)) : ∀ (d k t : Nat) (v : Int64), k + d = s → AM t v → (rgN mi (tv F d k t).1 → ∀ am : Int64, am.toInt = (if mi = true then -((tv F d k t).1 : Int) else (tv F d k t).1) → post 1 (fc, fp, 3, nI (tv F d k t).2, am)) → (¬ rgN mi (tv F d k t).1 → ∀ am : Int64, post 0 (1, fr - base, 3, nI (tv F d k t).2, am)) → lw_met_Mo_figure_24 post (nI s) F (b01 mi) fc fp fr base (d + 1) (nI k, v) := by
  intro d
  induction d with
  | zero =>
    intro k t v hk hA h1 h2
    exact pk_le s k (fun _ => mfig_end hA h1 h2) (fun q => absurd q (by omega))
  | succ d ih =>
    intro k t v hk hA h1 h2
    refine pk_le s k (fun q => absurd q (by omega)) (fun _ => ?_)
    refine sp_Mo_at hs (by omega) (fun hks => ?_) (fun q => absurd q (by omega))
    have hb := hB k hks
    refine sp_Mo_isDigit ?_
    rw [u_D hb]
    refine b01_if (fun hd => ?_) (fun hd => ?_)
    · have e : tv F (d + 1) k t = (t, k) := by simp [tv, hd]
      rw [e] at h1 h2
      exact mfig_end hA h1 h2
    · have e : tv F (d + 1) k t = tv F d (k + 1) (10 * t + dv (F k)) := by simp [tv, hd]
      rw [e] at h1 h2
      have hr := tkD_rng hd
      have hdv : ((dv (F k) : Nat) : Int) = (F k).toInt - 48 := by unfold dv; omega
      have c3 : (3000000000 : Int64).toInt = 3000000000 := by decide
      have c10 : (10 : Int64).toInt = 10 := by decide
      have c48 : (48 : Int64).toInt = 48 := by decide
      refine ⟨fun q => ?_, fun q => ?_⟩
      · have q' := Int64.le_iff_toInt_le.mp q
        rw [c3] at q'
        intro y13 h13
        refine sp_Mo_at hs (by omega) (fun hks => ?_) (fun q => absurd q (by omega))
        intro y15 h15 y16 h16 y17 h17 z hz
        have hu := u_toInt hb
        rw [if_neg (by omega)] at hu
        have e15 : y15.toInt = (F k).toInt := by rw [h15, Int32.toInt_toInt64, hu]
        have e13 : y13.toInt = 10 * v.toInt := by
          rw [h13, Int64.toInt_mul, l_bm, c10]
          rcases hA with h | h <;> omega
        have e16 := l_add h16 (by rcases hA with h | h <;> omega) (by rcases hA with h | h <;> omega)
        have e17 := l_sub h17 (by rcases hA with h | h <;> omega) (by rcases hA with h | h <;> omega)
        rw [hz, nI_1]
        refine ih (k + 1) (10 * t + dv (F k)) y17 (by omega) ?_ h1 h2
        unfold AM
        rcases hA with h | h <;> omega
      · have q' : ¬ v.toInt ≤ 3000000000 := fun z => q (Int64.le_iff_toInt_le.mpr (by rw [c3]; exact z))
        intro z hz
        rw [hz, nI_1]
        refine ih (k + 1) (10 * t + dv (F k)) v (by omega) ?_ h1 h2
        unfold AM
        rcases hA with h | h <;> omega
theorem sp_Mo_figure {a : Nat} (hs : s ≤ 196608) (hB : ∀ j, j < s → byt (F j)) (ha : a < s) (hm : mi = decide (F a = 45)) (hd : mi = false → tkD (F a) = true)
    (h1 : rgN mi (tv F (s - ds F a) (ds F a) 0).1 → ∀ am : Int64, am.toInt = (if mi = true then -((tv F (s - ds F a) (ds F a) 0).1 : Int) else (tv F (s - ds F a) (ds F a) 0).1) → post 1 (fc, fp, 3, nI (tv F (s - ds F a) (ds F a) 0).2, am))
    (h2 : ¬ rgN mi (tv F (s - ds F a) (ds F a) 0).1 → ∀ am : Int64, post 0 (1, nI a - base, 3, nI (tv F (s - ds F a) (ds F a) 0).2, am)) : wp_met_Mo_figure post (b01 mi) fc fp base (nI s) (nI a) (nI (a + 1)) F := by
  have hb := hB a ha
  refine b01_if (fun q => ?_) (fun q => ?_)
  · have q' : ¬ F a = 45 := by rw [q] at hm; simpa using hm.symm
    have hdg := hd q
    have e : ds F a = a := by simp [ds, q']
    rw [e] at h1 h2
    obtain ⟨d, hdd⟩ : ∃ d, s - a = d + 1 := ⟨s - a - 1, by omega⟩
    have e2 : tv F (s - a) a 0 = tv F d (a + 1) (dv (F a)) := by rw [hdd]; simp [tv, hdg]
    rw [e2] at h1 h2
    refine sp_Mo_at hs (by omega) (fun _ => ?_) (fun z => absurd z (by omega))
    intro y3 h3 y4 h4
    have hr := tkD_rng hdg
    have hu := u_toInt hb
    rw [if_neg (by omega)] at hu
    have c48 : (48 : Int32).toInt = 48 := by decide
    have e3 := i_sub h3 (by omega) (by omega)
    have e4 : y4.toInt = (F a).toInt - 48 := by rw [h4, Int32.toInt_toInt64, e3, hu, c48]
    rw [q] at h1 h2 ⊢
    exact ⟨d + 1, mfig hs hB d (a + 1) (dv (F a)) y4 (by omega) (Or.inl ⟨by unfold dv; omega, by rw [e4]; unfold dv; omega⟩) h1 h2⟩
  · have q' : F a = 45 := by rw [q] at hm; simpa using hm.symm
    have e : ds F a = a + 1 := by simp [ds, q']
    rw [e] at h1 h2
    rw [q] at h1 h2 ⊢
    exact ⟨s - (a + 1) + 1, mfig hs hB (s - (a + 1)) (a + 1) 0 0 (by omega) (Or.inl ⟨by omega, by decide⟩) h1 h2⟩
end MFig
