/-! pure: the model's next -/
section MNext2
variable {post : Int32 → (Int32 × Int32 × Int32 × Int32 × Int32 × Int64) → Prop} {F : Nat → Int32} {s : Nat} {fc fp base : Int32} {am : Int64}
/-- what the model makes of a sign's kind -/
def sgm (kd : Int32) : Int32 := if kd = 1 then 16 else mkd kd
theorem sgk_cases (F : Nat → Int32) (n k : Nat) : (sgk F n k).1 = 1 ∨ ((sgk F n k).2 = k + 1 ∧ ((sgk F n k).1 = 6 ∨ (sgk F n k).1 = 7 ∨ (sgk F n k).1 = 8 ∨ (sgk F n k).1 = 9 ∨ (sgk F n k).1 = 11 ∨ (sgk F n k).1 = 13 ∨ (sgk F n k).1 = 15)) ∨ ((sgk F n k).2 = k + 2 ∧ ((sgk F n k).1 = 10 ∨ (sgk F n k).1 = 12 ∨ (sgk F n k).1 = 14 ∨ (sgk F n k).1 = 16)) := by
  unfold sgk
  repeat' split
  all_goals simp
theorem m528 {a : Nat} (ha : a < s) (hs : s ≤ 196608) (h0 : (sgk F s a).1 = 1 → ∀ tk fr to am2, post 0 (1, nI a - base, tk, fr, to, am2)) (h1 : ¬ (sgk F s a).1 = 1 → post 1 (fc, fp, mkd (sgk F s a).1, nI a, nI (sgk F s a).2, am)) : jw_met_Mo_next_528 post (nI (a + 1)) (nI a) am base fc fp (sgm (sgk F s a).1) := by
  intro y hy z hz
  rcases sgk_cases F s a with g | ⟨g2, g⟩ | ⟨g2, g⟩
  · rw [g] at hy ⊢
    refine ⟨fun _ => ?_, fun q => absurd (by decide) q⟩
    refine sp_Mo_flaw ?_
    intro y6 h6
    rw [h6]
    exact h0 g _ _ _ _
  · have e0 : y = 0 := by
      rw [hy]
      rcases g with g | g | g | g | g | g | g <;> rw [g] <;> decide
    have n1 : ¬ (sgk F s a).1 = 1 := by rcases g with g | g | g | g | g | g | g <;> rw [g] <;> decide
    have n16 : ¬ sgm (sgk F s a).1 = 16 := by rcases g with g | g | g | g | g | g | g <;> rw [g] <;> decide
    have es : sgm (sgk F s a).1 = mkd (sgk F s a).1 := by unfold sgm; rw [if_neg n1]
    have ez : z = nI (sgk F s a).2 := by rw [hz, e0, g2]; exact nI_add (a + 1) 0
    refine ⟨fun q => absurd q n16, fun _ => ?_⟩
    rw [es, ez]
    exact h1 n1
  · have e0 : y = 1 := by
      rw [hy]
      rcases g with g | g | g | g <;> rw [g] <;> decide
    have n1 : ¬ (sgk F s a).1 = 1 := by rcases g with g | g | g | g <;> rw [g] <;> decide
    have n16 : ¬ sgm (sgk F s a).1 = 16 := by rcases g with g | g | g | g <;> rw [g] <;> decide
    have es : sgm (sgk F s a).1 = mkd (sgk F s a).1 := by unfold sgm; rw [if_neg n1]
    have ez : z = nI (sgk F s a).2 := by rw [hz, e0, g2]; exact nI_1 (a + 1)
    refine ⟨fun q => absurd q n16, fun _ => ?_⟩
    rw [es, ez]
    exact h1 n1
theorem m460 {a : Nat} {r : Int32} (hr : ∀ c : Int32, 0 ≤ c.toInt → c.toInt < 128 → (r = c ↔ F a = c)) (hn : ¬ F a = 40 ∧ ¬ F a = 41 ∧ ¬ F a = 44 ∧ ¬ F a = 46 ∧ ¬ (F a = 58 ∧ tkc F s (a + 1) 45 = true)) (h : jw_met_Mo_next_528 post (nI (a + 1)) (nI a) am base fc fp (sgm (sgk F s a).1)) :
    ∀ y : Int32, y = (if r = (61 : Int32) then (10 : Int32) else (if r = (33 : Int32) then (if b01 (tkc F s (a + 1) 61) = 0 then (if r = (60 : Int32) then (if b01 (tkc F s (a + 1) 61) = 0 then (12 : Int32) else (13 : Int32)) else (if r = (62 : Int32) then (if b01 (tkc F s (a + 1) 61) = 0 then (14 : Int32) else (15 : Int32)) else (16 : Int32))) else (11 : Int32)) else (if r = (60 : Int32) then (if b01 (tkc F s (a + 1) 61) = 0 then (12 : Int32) else (13 : Int32)) else (if r = (62 : Int32) then (if b01 (tkc F s (a + 1) 61) = 0 then (14 : Int32) else (15 : Int32)) else (16 : Int32))))) → jw_met_Mo_next_528 post (nI (a + 1)) (nI a) am base fc fp y := by
  obtain ⟨n40, n41, n44, n46, n58⟩ := hn
  intro y hy
  have e : y = sgm (sgk F s a).1 := by
    rw [hy]
    by_cases q61 : F a = 61
    · have r1 : r = 61 := (hr 61 (by decide) (by decide)).mpr q61
      have e1 : (sgk F s a).1 = 11 := by
        unfold sgk
        rw [if_neg (by rw [q61]; decide), if_neg (by rw [q61]; decide), if_neg (by rw [q61]; decide), if_neg (by rw [q61]; decide), if_neg (by rw [q61]; decide), if_neg (by rw [q61]; decide), if_neg (by rw [q61]; decide), if_pos q61]
      rw [e1, if_pos r1]
      decide
    have r61 : ¬ r = 61 := fun z => q61 ((hr 61 (by decide) (by decide)).mp z)
    rw [if_neg r61]
    by_cases q33 : F a = 33
    · have r1 : r = 33 := (hr 33 (by decide) (by decide)).mpr q33
      rw [if_pos r1, r1]
      have e1 : (sgk F s a).1 = (if tkc F s (a + 1) 61 = true then 12 else 1) := by
        unfold sgk
        rw [if_pos q33]
        cases tkc F s (a + 1) 61 <;> rfl
      rw [e1]
      cases tkc F s (a + 1) 61 <;> decide
    have r33 : ¬ r = 33 := fun z => q33 ((hr 33 (by decide) (by decide)).mp z)
    rw [if_neg r33]
    by_cases q60 : F a = 60
    · have r1 : r = 60 := (hr 60 (by decide) (by decide)).mpr q60
      rw [if_pos r1]
      have e1 : (sgk F s a).1 = (if tkc F s (a + 1) 61 = true then 14 else 13) := by
        unfold sgk
        rw [if_neg q33, if_neg n40, if_neg n41, if_neg n44, if_neg n46, if_neg (by rw [q60]; decide), if_pos q60]
        cases tkc F s (a + 1) 61 <;> rfl
      rw [e1]
      cases tkc F s (a + 1) 61 <;> decide
    have r60 : ¬ r = 60 := fun z => q60 ((hr 60 (by decide) (by decide)).mp z)
    rw [if_neg r60]
    by_cases q62 : F a = 62
    · have r1 : r = 62 := (hr 62 (by decide) (by decide)).mpr q62
      rw [if_pos r1]
      have e1 : (sgk F s a).1 = (if tkc F s (a + 1) 61 = true then 16 else 15) := by
        unfold sgk
        rw [if_neg q33, if_neg n40, if_neg n41, if_neg n44, if_neg n46, if_neg (by rw [q62]; decide), if_neg q60, if_neg q61, if_pos q62]
        cases tkc F s (a + 1) 61 <;> rfl
      rw [e1]
      cases tkc F s (a + 1) 61 <;> decide
    have r62 : ¬ r = 62 := fun z => q62 ((hr 62 (by decide) (by decide)).mp z)
    rw [if_neg r62]
    have e1 : (sgk F s a).1 = 1 := by
      unfold sgk
      rw [if_neg q33, if_neg n40, if_neg n41, if_neg n44, if_neg n46]
      by_cases q58 : F a = 58
      · have : tkc F s (a + 1) 45 = false := by
          cases hc : tkc F s (a + 1) 45 with
          | false => rfl
          | true => exact absurd ⟨q58, hc⟩ n58
        rw [if_pos q58, this]
        rfl
      · rw [if_neg q58, if_neg q60, if_neg q61, if_neg q62]
    rw [e1]
    decide
  rw [e]
  exact h
theorem m398 {a : Nat} {r : Int32} (hr : ∀ c : Int32, 0 ≤ c.toInt → c.toInt < 128 → (r = c ↔ F a = c)) (h : jw_met_Mo_next_528 post (nI (a + 1)) (nI a) am base fc fp (sgm (sgk F s a).1)) : jw_met_Mo_next_398 post r (b01 (tkc F s (a + 1) 61)) (nI (a + 1)) (nI a) am base fc fp (b01 (tkc F s (a + 1) 45)) := by
  refine ⟨fun q => ?_, fun q40 => ?_⟩
  · have q' : F a = 40 := (hr 40 (by decide) (by decide)).mp q
    have e1 : (sgk F s a).1 = 6 := by
      unfold sgk
      rw [if_neg (by rw [q']; decide), if_pos q']
    have e2 : sgm (sgk F s a).1 = 5 := by rw [e1]; decide
    rw [e2] at h
    exact h
  have n40 : ¬ F a = 40 := fun z => q40 ((hr 40 (by decide) (by decide)).mpr z)
  refine ⟨fun q => ?_, fun q41 => ?_⟩
  · have q' : F a = 41 := (hr 41 (by decide) (by decide)).mp q
    have e1 : (sgk F s a).1 = 7 := by
      unfold sgk
      rw [if_neg (by rw [q']; decide), if_neg (by rw [q']; decide), if_pos q']
    have e2 : sgm (sgk F s a).1 = 6 := by rw [e1]; decide
    rw [e2] at h
    exact h
  have n41 : ¬ F a = 41 := fun z => q41 ((hr 41 (by decide) (by decide)).mpr z)
  refine ⟨fun q => ?_, fun q44 => ?_⟩
  · have q' : F a = 44 := (hr 44 (by decide) (by decide)).mp q
    have e1 : (sgk F s a).1 = 8 := by
      unfold sgk
      rw [if_neg (by rw [q']; decide), if_neg (by rw [q']; decide), if_neg (by rw [q']; decide), if_pos q']
    have e2 : sgm (sgk F s a).1 = 7 := by rw [e1]; decide
    rw [e2] at h
    exact h
  have n44 : ¬ F a = 44 := fun z => q44 ((hr 44 (by decide) (by decide)).mpr z)
  refine ⟨fun q => ?_, fun q46 => ?_⟩
  · have q' : F a = 46 := (hr 46 (by decide) (by decide)).mp q
    have e1 : (sgk F s a).1 = 9 := by
      unfold sgk
      rw [if_neg (by rw [q']; decide), if_neg (by rw [q']; decide), if_neg (by rw [q']; decide), if_neg (by rw [q']; decide), if_pos q']
    have e2 : sgm (sgk F s a).1 = 8 := by rw [e1]; decide
    rw [e2] at h
    exact h
  have n46 : ¬ F a = 46 := fun z => q46 ((hr 46 (by decide) (by decide)).mpr z)
  refine ⟨fun q => ?_, fun q58 => ?_⟩
  · have q' : F a = 58 := (hr 58 (by decide) (by decide)).mp q
    cases hc : tkc F s (a + 1) 45
    · have h3 := m460 (r := r) (s := s) hr ⟨n40, n41, n44, n46, fun z => by rw [hc] at z; exact absurd z.2 (by decide)⟩ h
      intro y hy
      exact h3 y hy
    · have e1 : (sgk F s a).1 = 10 := by
        unfold sgk
        rw [if_neg (by rw [q']; decide), if_neg n40, if_neg n41, if_neg n44, if_neg n46, if_pos q', hc]
        rfl
      have e2 : sgm (sgk F s a).1 = 9 := by rw [e1]; decide
      rw [e2] at h
      intro y hy
      rw [hy]
      exact h
  · have n58 : ¬ F a = 58 := fun z => q58 ((hr 58 (by decide) (by decide)).mpr z)
    intro y hy
    exact m460 (r := r) (s := s) hr ⟨n40, n41, n44, n46, fun z => n58 z.1⟩ h y hy
theorem m368 {a : Nat} {r : Int32} (hs : s ≤ 196608) (hB : ∀ j, j < s → byt (F j)) (ha : a < s) (hr : ∀ c : Int32, 0 ≤ c.toInt → c.toInt < 128 → (r = c ↔ F a = c)) (h : jw_met_Mo_next_528 post (nI (a + 1)) (nI a) am base fc fp (sgm (sgk F s a).1)) : jw_met_Mo_next_368 post (nI s) (nI (a + 1)) F r (nI a) am base fc fp (b01 (tkc F s (a + 1) 61)) := by
  have h3 := m398 (s := s) (r := r) hr h
  refine pk_le s (a + 1) (fun q => ?_) (fun q => ?_)
  · have e : tkc F s (a + 1) 45 = false := by simp [tkc, Nat.not_lt.mpr q]
    rw [e] at h3
    exact h3
  · refine sp_Mo_at hs (by omega) (fun hk => ?_) (fun z => absurd z (by omega))
    intro y hy
    have e : y = b01 (tkc F s (a + 1) 45) := by
      rw [hy, b01_dec, u_dec (hB _ hk) (by decide) (by decide)]
      simp [tkc, hk]
    rw [e]
    exact h3
theorem m339 {a : Nat} {r : Int32} (hs : s ≤ 196608) (hB : ∀ j, j < s → byt (F j)) (ha : a < s) (hr : ∀ c : Int32, 0 ≤ c.toInt → c.toInt < 128 → (r = c ↔ F a = c)) (h : jw_met_Mo_next_528 post (nI (a + 1)) (nI a) am base fc fp (sgm (sgk F s a).1)) : jw_met_Mo_next_339 post (nI s) (nI (a + 1)) F r (nI a) am base fc fp () := by
  have h3 := m368 (s := s) (r := r) hs hB ha hr h
  refine pk_le s (a + 1) (fun q => ?_) (fun q => ?_)
  · have e : tkc F s (a + 1) 61 = false := by simp [tkc, Nat.not_lt.mpr q]
    rw [e] at h3
    exact h3
  · refine sp_Mo_at hs (by omega) (fun hk => ?_) (fun z => absurd z (by omega))
    intro y hy
    have e : y = b01 (tkc F s (a + 1) 61) := by
      rw [hy, b01_dec, u_dec (hB _ hk) (by decide) (by decide)]
      simp [tkc, hk]
    rw [e]
    exact h3
def MN (post : Int32 → (Int32 × Int32 × Int32 × Int32 × Int32 × Int64) → Prop) (F : Nat → Int32) (s k : Nat) (fc fp base : Int32) : Prop := ∀ kd a b vl, TokR F s k kd a b vl → (kd = 1 → ∀ tk fr to am2, post 0 (1, nI a - base, tk, fr, to, am2)) ∧ (¬ kd = 1 → ∀ am2 : Int64, (kd = 4 → am2.toInt = vl.toInt) → post 1 (fc, fp, mkd kd, nI a, nI b, am2))
theorem tkK_cases (F : Nat → Int32) (a b : Nat) : tkK F a b = 2 ∨ tkK F a b = 3 ∨ tkK F a b = 5 := by
  unfold tkK
  repeat' split
  all_goals simp
theorem sp_Mo_next {k : Nat} (hs : s ≤ 196608) (hB : ∀ j, j < s → byt (F j)) (hk : k ≤ s) (h : MN post F s k fc fp base) : wp_met_Mo_next post fc fp base (nI s) (nI k) am F := by
  refine ⟨s - k + 2, sp_mskip hs hB (s - k) k (by omega) ?_ _ (Nat.le_refl _)⟩
  generalize ha : tkSk F (s - k) k false = a
  have hle := tkSk_le F (s - k) k false
  rw [ha] at hle
  refine pk_lt a s (fun q => ?_) (fun q => ?_)
  · refine sp_Mo_at hs (by omega) (fun _ => ?_) (fun z => absurd z (by omega))
    have hb := hB a q
    have hr : ∀ c : Int32, 0 ≤ c.toInt → c.toInt < 128 → ((F a &&& 255) = c ↔ F a = c) := fun c h1 h2 => u_eq hb h1 h2
    intro y14 h14
    rw [nI_1] at h14
    subst h14
    -- a number
    have num : (tkW (F a) && !tkD (F a)) = false → (tkD (F a) = true ∨ (F a = 45 ∧ a + 1 < s ∧ tkD (F (a + 1)) = true)) → jw_met_Mo_next_323 post (F a &&& 255) (nI a) fc fp base (nI s) (nI (a + 1)) F () := by
      intro g1 g2
      intro y hy
      have g3 : (tkD (F a) || decide (F a = 45)) = true := by rcases g2 with g | g <;> simp [g]
      have g4 : ¬ (tv F (s - ds F a) (ds F a) 0).2 ≤ ds F a := by
        have step : ∀ c : Nat, c < s → tkD (F c) = true → ¬ (tv F (s - c) c 0).2 ≤ c := by
          intro c hc hdc
          have tvle : ∀ d k t, k ≤ (tv F d k t).2 := by
            intro d
            induction d with
            | zero => intro k t; exact Nat.le_refl _
            | succ d ih =>
              intro k t
              unfold tv
              split
              · have := ih (k + 1) (10 * t + dv (F k))
                omega
              · exact Nat.le_refl _
          obtain ⟨d, hd⟩ : ∃ d, s - c = d + 1 := ⟨s - c - 1, by omega⟩
          rw [hd]
          have e : tv F (d + 1) c 0 = tv F d (c + 1) (10 * 0 + dv (F c)) := by simp [tv, hdc]
          rw [e]
          have := tvle d (c + 1) (10 * 0 + dv (F c))
          omega
        rcases g2 with g | ⟨g, g5, g6⟩
        · have n45 : ¬ F a = 45 := fun z => by rw [z] at g; exact absurd g (by decide)
          have e : ds F a = a := by simp [ds, n45]
          rw [e]
          exact step a q g
        · have e : ds F a = a + 1 := by simp [ds, g]
          rw [e]
          exact step (a + 1) g5 g6
      have e : y = b01 (decide (F a = 45)) := by rw [hy, b01_dec, u_dec hb (by decide) (by decide)]
      rw [e]
      have tok : ∀ kd vl, NumR (decide (F a = 45)) false (tv F (s - ds F a) (ds F a) 0).1 kd vl → TokR F s k kd a (tv F (s - ds F a) (ds F a) 0).2 vl := by
        intro kd vl hn
        refine ⟨ha.symm, ?_⟩
        rw [if_pos q, if_neg (by rw [g1]; decide), if_pos g3]
        refine ⟨rfl, ?_⟩
        rw [show decide ((tv F (s - ds F a) (ds F a) 0).2 ≤ ds F a) = false from decide_eq_false g4]
        exact hn
      refine sp_Mo_figure hs hB q rfl (fun g => ?_) (fun hrg am2 hv => ?_) (fun hrg am2 => ?_)
      · rcases g2 with g5 | ⟨g5, -⟩
        · exact g5
        · simp [g5] at g
      · have hin : -2147483648 ≤ am2.toInt ∧ am2.toInt < 2147483648 := by
          unfold rgN at hrg
          rw [hv]
          by_cases z : F a = 45
          · simp only [z, decide_true, if_true] at hrg ⊢
            omega
          · simp only [z, decide_false, Bool.false_eq_true, if_false] at hrg ⊢
            omega
        have hvl : (am2.toInt32).toInt = am2.toInt := by rw [Int64.toInt_toInt32, i_bm]; omega
        have t1 := h 4 a _ am2.toInt32 (tok 4 am2.toInt32 ⟨by
          unfold rgN at hrg
          by_cases z : F a = 45
          · simp only [z, decide_true, if_true, Bool.false_eq_true, if_false] at hrg ⊢
            rw [if_neg (by omega)]
          · simp only [z, decide_false, Bool.false_eq_true, if_false] at hrg ⊢
            rw [if_neg (by omega)], fun _ => by rw [hvl, hv]⟩)
        exact ⟨Or.inr rfl, t1.2 (by decide) am2 (fun _ => hvl.symm)⟩
      · have t1 := h 1 a _ 0 (tok 1 0 ⟨by
          unfold rgN at hrg
          by_cases z : F a = 45
          · simp only [z, decide_true, if_true, Bool.false_eq_true, if_false] at hrg ⊢
            rw [if_pos (by omega)]
          · simp only [z, decide_false, Bool.false_eq_true, if_false] at hrg ⊢
            rw [if_pos (by omega)], fun z => absurd z (by decide)⟩)
        exact ⟨Or.inl rfl, t1.1 rfl _ _ _ _⟩
    -- a sign
    have sgn : (tkW (F a) && !tkD (F a)) = false → tkD (F a) = false → ¬ (F a = 45 ∧ a + 1 < s ∧ tkD (F (a + 1)) = true) → jw_met_Mo_next_339 post (nI s) (nI (a + 1)) F (F a &&& 255) (nI a) am base fc fp () := by
      intro g1 g2 g3
      refine m339 hs hB q hr ?_
      by_cases z45 : F a = 45
      · have e1 : (sgk F s a).1 = 1 := by
          unfold sgk
          rw [if_neg (by rw [z45]; decide), if_neg (by rw [z45]; decide), if_neg (by rw [z45]; decide), if_neg (by rw [z45]; decide), if_neg (by rw [z45]; decide), if_neg (by rw [z45]; decide), if_neg (by rw [z45]; decide), if_neg (by rw [z45]; decide), if_neg (by rw [z45]; decide)]
        have e : ds F a = a + 1 := by simp [ds, z45]
        have e2 : tv F (s - (a + 1)) (a + 1) 0 = (0, a + 1) := by
          cases hd : s - (a + 1) with
          | zero => rfl
          | succ d =>
            have : tkD (F (a + 1)) = false := by
              cases hq : tkD (F (a + 1)) with
              | false => rfl
              | true => exact absurd ⟨z45, by omega, hq⟩ g3
            simp [tv, this]
        have t1 := h 1 a (a + 1) 0 ⟨ha.symm, by
          rw [if_pos q, if_neg (by rw [g1]; decide), if_pos (by simp [z45]), e, e2]
          exact ⟨rfl, by simp, fun z => absurd z (by decide)⟩⟩
        exact m528 q hs (fun _ => t1.1 rfl) (fun z => absurd e1 z)
      · have tok : TokR F s k (sgk F s a).1 a (sgk F s a).2 0 := by
          refine ⟨ha.symm, ?_⟩
          rw [if_pos q, if_neg (by rw [g1]; decide), if_neg (by simp [g2, z45])]
          exact ⟨rfl, rfl, rfl⟩
        have t1 := h _ a _ 0 tok
        exact m528 q hs t1.1 (fun z => t1.2 z am (fun z4 => by
          exfalso
          rcases sgk_cases F s a with g | ⟨-, g⟩ | ⟨-, g⟩
          · rw [g] at z4
            exact absurd z4 (by decide)
          · rcases g with g | g | g | g | g | g | g <;> rw [g] at z4 <;> exact absurd z4 (by decide)
          · rcases g with g | g | g | g <;> rw [g] at z4 <;> exact absurd z4 (by decide)))
    have rest : (tkW (F a) && !tkD (F a)) = false → jw_met_Mo_next_285 post (F a &&& 255) (nI s) (nI (a + 1)) F (nI a) fc fp base am () := by
      intro g1
      unfold jw_met_Mo_next_285
      refine sp_Mo_isDigit ?_
      rw [u_D hb]
      refine b01_if (fun g2 => ?_) (fun g2 => num g1 (Or.inl g2))
      refine ⟨fun g3 => ?_, fun g3 => sgn g1 g2 (fun z => g3 ((hr 45 (by decide) (by decide)).mpr z.1))⟩
      have g3' := (hr 45 (by decide) (by decide)).mp g3
      refine pk_le s (a + 1) (fun z => sgn g1 g2 (fun z2 => absurd z2.2.1 (by omega))) (fun z => ?_)
      refine sp_Mo_at hs (by omega) (fun hk => ?_) (fun z => absurd z (by omega))
      refine sp_Mo_isDigit ?_
      rw [u_D (hB _ hk)]
      exact b01_if (fun g4 => sgn g1 g2 (fun z2 => by rw [g4] at z2; exact absurd z2.2.2 (by decide))) (fun g4 => num g1 (Or.inr ⟨g3', hk, g4⟩))
    refine sp_Mo_isWord ?_
    rw [u_W hb]
    refine b01_if (fun g1 => rest (by simp [g1])) (fun g1 => ?_)
    refine sp_Mo_isDigit ?_
    rw [u_D hb]
    refine b01_if (fun g2 => ?_) (fun g2 => rest (by simp [g2]))
    refine ⟨s - (a + 1) + 1, m166 hs hB q (s - (a + 1)) (a + 1) (by omega) (by omega) ?_⟩
    have e : tkE F (s - a) a = tkE F (s - (a + 1)) (a + 1) := by
      obtain ⟨d, hd⟩ : ∃ d, s - a = d + 1 := ⟨s - a - 1, by omega⟩
      rw [hd, show s - (a + 1) = d by omega]
      simp [tkE, g1]
    have tok : TokR F s k (tkK F a (tkE F (s - a) a)) a (tkE F (s - a) a) 0 := by
      refine ⟨ha.symm, ?_⟩
      rw [if_pos q, if_pos (by simp [g1, g2])]
      exact ⟨rfl, rfl, rfl⟩
    rw [e] at tok
    have hc := tkK_cases F a (tkE F (s - (a + 1)) (a + 1))
    exact (h _ a _ 0 tok).2 (by rcases hc with z | z | z <;> rw [z] <;> decide) am (fun z4 => by rcases hc with z | z | z <;> rw [z] at z4 <;> exact absurd z4 (by decide))
  · have t1 := h 0 a a 0 ⟨ha.symm, by rw [if_neg (by omega)]; exact ⟨rfl, rfl, rfl⟩⟩
    exact t1.2 (by decide) am (fun z => absurd z (by decide))
end MNext2
