/-! pure: a body's order -/
theorem nR_all {ro : Nat → Nat} : ∀ n, (∀ i, i < n → ro i < 6) → nR ro n = n := by
  intro n
  induction n with
  | zero => exact fun _ => rfl
  | succ n ih =>
    intro h
    show nR ro n + (if ro n < 6 then 1 else 0) = n + 1
    rw [ih (fun i hi => h i (by omega)), if_pos (h n (by omega))]
theorem MK_one {j : Nat} (hj : j < 16) : MK (fun w => j = w) ((1 : Int32) <<< (nI j &&& 31)) := by
  refine ⟨2 ^ j, pow_lt16 hj, nI_shl hj, fun v _ => ?_⟩
  rw [Nat.testBit_two_pow, decide_eq_true_iff]
theorem MK_full {n : Nat} (hn : n ≤ 12) : MK (fun w => w < n) ((1 : Int32) <<< (nI n &&& 31) - 1) := by
  have hp := pow_lt16 (v := n) (by omega)
  have h1 : 1 ≤ 2 ^ n := Nat.one_le_two_pow
  refine ⟨2 ^ n - 1, by omega, ?_, fun v _ => ?_⟩
  · rw [nI_shl (by omega), show (1 : Int32) = nI 1 from rfl, pk_sub h1]
  · rw [Nat.testBit_two_pow_sub_one, decide_eq_true_iff]
section CAr
variable {ar : Nat → Nat} {rm fr : Nat} {bs : List BL} {K P Z M T A : Nat → Int32} {fs : List (Nat × List Nat)}
/-- a body as the class holds it, from literal fr on -/
def BdA (ar : Nat → Nat) (rm fr : Nat) (bs : List BL) (K P Z M T : Nat → Int32) : Prop := bs.length ≤ 12 ∧ ∀ (j : Nat) (b : BL), bs[j]? = some b → BQ rm b (fr + j) K P Z M T ∧ blOk ar b
/-- each variable of what is no atom stands in an atom; no atom lacks its predicate -/
def SafeB (bs : List BL) : Prop := (∀ b ∈ bs, ¬ b.1 = 0 → ∀ x, occB b x → ∃ b2 ∈ bs, b2.1 = 0 ∧ occB b2 x) ∧ ∀ b ∈ bs, b.1 = 0 → ∃ p, b.2.1 = some p
def cov (b : BL) (B : Nat → Prop) : Prop := ∀ x, occB b x → B x
theorem mk_cov {b : BL} {B : Nat → Prop} {x y : Int32} (hok : blOk ar b) (h1 : MK (occB b) x) (h2 : MK B y) : x &&& (y ^^^ -1) = 0 ↔ cov b B := by
  rw [MK_z (MK_andn h1 h2)]
  constructor
  · intro h w hw
    apply Classical.byContradiction
    intro z
    exact h w (by have := hok.2.2.1 w hw; omega) ⟨hw, z⟩
  · rintro h w _ ⟨w1, w2⟩
    exact w2 (h w w1)
theorem sp_costOf {post : Int32 → Unit → Prop} {b : BL} {i p : Nat} {B : Nat → Prop} {bo : Int32} (hrm : rm < 100000) (hQ : BQ rm b i K P Z M T) (hok : blOk ar b) (hB : MK B bo) (hp : b.1 = 0 → b.2.1 = some p) (hA : ∀ q, q < 64 → A q = nI (cntP fs q)) (h20 : fs.length ≤ 20000) (h : ∀ c, c ≤ 536870912 → (c < 536870912 ↔ (cov b B ∨ b.1 = 0)) → post (nI c) ()) : wp_met_Jo_costOf post rm rm rm rm (6 * rm) (nI i) bo A K P Z M T := by
  have hi := hQ.1
  have ci : (nI i).toNatClampNeg = i := nI_clamp (by omega)
  have vi : vp_in (nI i) rm := vp_in_nI hi (by omega)
  refine ⟨vi, fun y2 h2 y3 h3 y4 h4 => ?_⟩
  rw [ci] at h2
  subst h2 h3 h4
  have hc := mk_cov hok hQ.2.2.2.2.1 hB
  refine ⟨fun z => h 0 (by omega) ⟨fun _ => Or.inl (hc.mp z), fun _ => by omega⟩, fun z => ⟨vi, fun y6 h6 => ?_⟩⟩
  rw [ci, hQ.2.1] at h6
  subst h6
  refine ⟨fun k0 => ?_, fun k0 => h 536870912 (Nat.le_refl _) ⟨fun w => absurd w (by omega), fun w => ?_⟩⟩
  · have hA1 : b.1 = 0 ∨ b.1 = 1 := Or.inl k0
    have hpp := hp k0
    obtain ⟨p1, p2⟩ := (hok.2.2.2.1 hA1).2 p hpp
    have hcp := cntP_le fs p
    have h6 := hok.2.1
    have fin : ∀ nw, nw ≤ 6 → jw_met_Jo_costOf_106 post (nI i) rm P A (nI nw) () := by
      intro nw hnw
      refine ⟨vi, fun y18 h18 => ?_⟩
      rw [ci, hQ.2.2.1 hA1, hpp] at h18
      have h18' : y18 = nI p := h18
      subst h18'
      refine ⟨vp_in_nI p1 (by omega), fun y20 h20' y21 h21 y22 h22 y23 h23 y24 h24 y25 h25 => ?_⟩
      rw [nI_clamp (by omega), hA p p1] at h20'
      rw [h20', pk_shlN _ 12 (by decide) (by omega)] at h21
      rw [show (2 : Int32) = nI 2 from rfl, pk_mul] at h22
      rw [h21, h22, nI_shr (by omega) (by omega)] at h23
      have hle : (cntP fs p * 2 ^ 12) >>> (2 * nw) ≤ cntP fs p * 2 ^ 12 := Nat.shiftRight_le _ _
      generalize (cntP fs p * 2 ^ 12) >>> (2 * nw) = q at h23 hle
      rw [h23, show (1 : Int32) = nI 1 from rfl, nI_add] at h24
      subst h24
      by_cases w : nw = 0
      · rw [w, if_pos (show nI 0 = 0 from rfl), show (268435456 : Int32) = nI 268435456 from rfl, nI_add] at h25
        subst h25
        exact h _ (by omega) ⟨fun _ => Or.inr k0, fun _ => by omega⟩
      · rw [if_neg (show ¬ nI nw = 0 from fun v => w ((nI_eq (b := 0) (by omega) (by omega)).mp v))] at h25
        subst h25
        exact h _ (by omega) ⟨fun _ => Or.inr k0, fun _ => by omega⟩
    have go : ∀ m j nw, j + m = b.2.2.length → nw ≤ j → lw_met_Jo_costOf_38 post (nI i) rm Z bo (6 * rm) T rm P A (m + 1) (nI j, nI nw) := by
      intro m
      induction m with
      | zero =>
        intro j nw hj hn
        refine ⟨vi, fun y11 h11 => ?_⟩
        rw [ci, hQ.2.2.2.1] at h11
        subst h11
        exact pk_le b.2.2.length j (fun _ => fin nw (by omega)) (fun w => absurd w (by omega))
      | succ m ih =>
        intro j nw hj hn
        refine ⟨vi, fun y11 h11 => ?_⟩
        rw [ci, hQ.2.2.2.1] at h11
        subst h11
        refine pk_le b.2.2.length j (fun w => absurd w (by omega)) (fun _ => ?_)
        have hje := List.getElem?_eq_getElem (show j < b.2.2.length by omega)
        refine sp_term hrm hQ hok hje (fun y14 h14 y15 h15 y16 h16 => ?_)
        have e15 : ∃ k, k ≤ 1 ∧ y15 = nI k := by
          rw [h15]
          by_cases w : y14 = 0
          · rw [if_pos w]
            exact ⟨0, by omega, rfl⟩
          · rw [if_neg w]
            exact ⟨1, by omega, rfl⟩
        obtain ⟨k, k1, k2⟩ := e15
        rw [k2, nI_add] at h16
        rw [h16, nI_1]
        exact ih (j + 1) (nw + k) (by omega) (by omega)
    exact ⟨_, go b.2.2.length 0 0 (by omega) (by omega)⟩
  · rcases w with w | w
    · exact absurd (hc.mpr w) z
    · exact absurd w k0
theorem sp_nextLiteral {post : Int32 → Unit → Prop} {B Lf : Nat → Prop} {bo lf : Int32} (hrm : rm < 100000) (hD : BdA ar rm fr bs K P Z M T) (hS : SafeB bs) (hB : MK B bo) (hL : MK Lf lf) (hLn : ∀ i, Lf i → i < bs.length) (hA : ∀ q, q < 64 → A q = nI (cntP fs q)) (h20 : fs.length ≤ 20000) (hex : ∃ i b, Lf i ∧ bs[i]? = some b ∧ (cov b B ∨ b.1 = 0))
    (h : ∀ i b, Lf i → bs[i]? = some b → (cov b B ∨ b.1 = 0) → post (nI (fr + i)) ()) : wp_met_Jo_nextLiteral post rm rm rm rm (6 * rm) (nI fr) lf bo A K P Z M T := by
  have h12 := hD.1
  have go : ∀ m v, v + m = 12 → ∀ (le : Nat) (best : Int32), le ≤ 536870912 → ((le = 536870912 ∧ ∀ i b, i < v → Lf i → bs[i]? = some b → ¬ (cov b B ∨ b.1 = 0)) ∨ (∃ i b, Lf i ∧ bs[i]? = some b ∧ (cov b B ∨ b.1 = 0) ∧ best = nI (fr + i))) → lw_met_Jo_nextLiteral_10 post lf (nI fr) rm rm rm rm (6 * rm) bo A K P Z M T (m + 1) (nI v, nI le, best) := by
    intro m
    induction m with
    | zero =>
      intro v hv le best hle hq
      refine pk_le 12 v (fun _ => ?_) (fun w => absurd w (by omega))
      rcases hq with ⟨-, q⟩ | ⟨i, b, q1, q2, q3, q4⟩
      · obtain ⟨i, b, r1, r2, r3⟩ := hex
        exact absurd r3 (q i b (by have := hLn i r1; omega) r1 r2)
      · rw [q4]
        exact h i b q1 q2 q3
    | succ m ih =>
      intro v hv le best hle hq
      refine pk_le 12 v (fun w => absurd w (by omega)) (fun _ => ?_)
      intro y5 h5 y6 h6
      subst h5
      rcases MK_bit hL (show v < 16 by omega) with ⟨z1, z2⟩ | ⟨z1, z2⟩
      · refine ⟨fun _ => ?_, fun w => absurd (h6.trans z1) w⟩
        rw [nI_1]
        refine ih (v + 1) (by omega) le best hle ?_
        rcases hq with ⟨q1, q2⟩ | q
        · refine Or.inl ⟨q1, fun i b hi hl e => ?_⟩
          by_cases w : i = v
          · subst w
            exact absurd hl z2
          · exact q2 i b (by omega) hl e
        · exact Or.inr q
      · refine ⟨fun w => absurd ((h6.trans z1).symm.trans w) (by decide), fun _ => ?_⟩
        have hvl := hLn v z2
        have hve := List.getElem?_eq_getElem hvl
        generalize bs[v] = b at hve
        obtain ⟨d1, d2⟩ := hD.2 v b hve
        intro y7 h7
        rw [nI_add] at h7
        subst h7
        obtain ⟨p, hp⟩ : ∃ p, b.1 = 0 → b.2.1 = some p := by
          by_cases w : b.1 = 0
          · obtain ⟨p, hp⟩ := hS.2 b (List.mem_of_getElem? hve) w
            exact ⟨p, fun _ => hp⟩
          · exact ⟨0, fun z => absurd z w⟩
        refine sp_costOf hrm d1 d2 hB hp hA h20 (fun c c1 c2 => ?_)
        refine pk_le le c (fun w => ?_) (fun w => ?_)
        · rw [nI_1]
          refine ih (v + 1) (by omega) le best hle ?_
          rcases hq with ⟨q1, q2⟩ | q
          · refine Or.inl ⟨q1, fun i b2 hi hl e => ?_⟩
            by_cases w2 : i = v
            · subst w2
              rw [hve] at e
              obtain rfl := Option.some.inj e
              intro good
              have := c2.mpr good
              omega
            · exact q2 i b2 (by omega) hl e
          · exact Or.inr q
        · intro y9 h9
          rw [nI_add] at h9
          rw [nI_1]
          exact ih (v + 1) (by omega) c y9 c1 (Or.inr ⟨v, b, z2, hve, c2.mp (by omega), h9⟩)
  exact ⟨_, go 12 0 (by omega) 536870912 (nI fr) (Nat.le_refl _) (Or.inl ⟨rfl, fun i b hi => absurd hi (by omega)⟩)⟩
/-- the variables bound before step t -/
def BdJ (bs : List BL) (js : Nat → Nat) (t : Nat) (x : Nat) : Prop := ∃ s b, s < t ∧ bs[js s]? = some b ∧ occB b x
/-- step s of the order js; fh: the first takes fresh facts -/
def StO (fr : Nat) (bs : List BL) (js : Nat → Nat) (fh : Bool) (s : Nat) (sl sc sq sb : Int32) : Prop := ∃ b, bs[js s]? = some b ∧ sl = nI (fr + js s) ∧ MK (BdJ bs js s) sb ∧ sq = (if s = 0 ∧ fh = true then 1 else 0) ∧ ((sc = 1 ∧ b.1 = 0 ∧ ((s = 0 ∧ fh = true) ∨ ¬ cov b (BdJ bs js s))) ∨ (sc = 0 ∧ cov b (BdJ bs js s) ∧ ¬ (s = 0 ∧ fh = true)))
/-- t literals have their steps -/
def ArQ (fr : Nat) (bs : List BL) (js : Nat → Nat) (fh : Bool) (t : Nat) (SL SC SQ SB : Nat → Int32) : Prop := (∀ s, s < t → js s < bs.length) ∧ (∀ s s2, s < t → s2 < t → js s = js s2 → s = s2) ∧ ∀ s, s < t → StO fr bs js fh s (SL s) (SC s) (SQ s) (SB s)
theorem BdJ_s {js : Nat → Nat} {t : Nat} {b : BL} (h : bs[js t]? = some b) (x : Nat) : BdJ bs js (t + 1) x ↔ (BdJ bs js t x ∨ occB b x) := by
  constructor
  · rintro ⟨s, b2, s1, s2, s3⟩
    by_cases w : s = t
    · subst w
      rw [h] at s2
      obtain rfl := Option.some.inj s2
      exact Or.inr s3
    · exact Or.inl ⟨s, b2, by omega, s2, s3⟩
  · rintro (⟨s, b2, s1, s2, s3⟩ | s3)
    · exact ⟨s, b2, by omega, s2, s3⟩
    · exact ⟨t, b, by omega, h, s3⟩
theorem BdJ_cong {js js2 : Nat → Nat} {t : Nat} (h : ∀ s, s < t → js s = js2 s) (x : Nat) : BdJ bs js t x ↔ BdJ bs js2 t x := by
  constructor
  · rintro ⟨s, b, s1, s2, s3⟩
    exact ⟨s, b, s1, by rw [← h s s1]; exact s2, s3⟩
  · rintro ⟨s, b, s1, s2, s3⟩
    exact ⟨s, b, s1, by rw [h s s1]; exact s2, s3⟩
theorem StO_cong {js js2 : Nat → Nat} {fh : Bool} {s : Nat} {sl sc sq sb : Int32} (h : ∀ s2, s2 ≤ s → js s2 = js2 s2) (q : StO fr bs js fh s sl sc sq sb) : StO fr bs js2 fh s sl sc sq sb := by
  obtain ⟨b, b1, b2, b3, b4, b5⟩ := q
  have hb := fun x => BdJ_cong (bs := bs) (t := s) (fun s2 hs2 => h s2 (by omega)) x
  have hcv : cov b (BdJ bs js s) ↔ cov b (BdJ bs js2 s) := ⟨fun w x hx => (hb x).mp (w x hx), fun w x hx => (hb x).mpr (w x hx)⟩
  refine ⟨b, by rw [← h s (Nat.le_refl _)]; exact b1, by rw [← h s (Nat.le_refl _)]; exact b2, MK_iff b3 (fun v _ => hb v), b4, ?_⟩
  rw [← hcv]
  exact b5
theorem sp_arrange {post : (Int32 × (Nat → Int32) × (Nat → Int32) × (Nat → Int32) × (Nat → Int32)) → Prop} {fh : Bool} {j0 : Nat} {b0 : BL} {fa : Int32} {SL0 SC0 SQ0 SB0 : Nat → Int32} (hrm : rm < 100000) (hfr : fr < 100000) (hD : BdA ar rm fr bs K P Z M T) (hS : SafeB bs) (hA : ∀ q, q < 64 → A q = nI (cntP fs q)) (h20 : fs.length ≤ 20000) (hfa : (fh = false ∧ fa = -1) ∨ (fh = true ∧ fa = nI (fr + j0) ∧ bs[j0]? = some b0 ∧ b0.1 = 0))
    (h : ∀ js SL SC SQ SB, ArQ fr bs js fh bs.length SL SC SQ SB → (∀ i, i < bs.length → ∃ s, s < bs.length ∧ js s = i) → (fh = true → 0 < bs.length → js 0 = j0) → post (nI bs.length, SL, SC, SQ, SB)) : wp_met_Jo_arrange post rm rm rm rm (6 * rm) (nI fr) (nI (fr + bs.length)) fa A K P Z M T SL0 SC0 SQ0 SB0 := by
  have h12 := hD.1
  intro y1 h1 y2 h2 y3 h3
  rw [pk_sub (by omega), Nat.add_sub_cancel_left] at h1
  subst h1 h2
  have hm0 : MK (fun w => w < bs.length) y3 := by
    rw [h3]
    exact MK_full h12
  have go : ∀ m t, t + m = bs.length → ∀ js (ro : Nat → Nat) (bo lf : Int32) SL SC SQ SB, ArQ fr bs js fh t SL SC SQ SB → (∀ i, ro i < 6 ↔ ∃ s, s < t ∧ js s = i) → t = nR ro bs.length → MK (BdJ bs js t) bo → MK (fun i => i < bs.length ∧ ¬ ro i < 6) lf → (fh = true → 0 < t → js 0 = j0) → lw_met_Jo_arrange_17 post fa rm rm rm rm (6 * rm) (nI fr) A K P Z M T (m + 1) (bo, lf, nI t, SL, SC, SQ, SB) := by
    intro m
    induction m with
    | zero =>
      intro t ht js ro bo lf SL SC SQ SB a1 a2 a3 a4 a5 a6
      obtain rfl : t = bs.length := by omega
      have hall : ∀ i, i < bs.length → ro i < 6 := by
        intro i hi
        apply Classical.byContradiction
        intro w
        have := nR_lt (ro := ro) (j := i) bs.length hi w
        omega
      have hz : lf = 0 := (MK_z a5).mpr (fun v _ q => q.2 (hall v q.1))
      refine ⟨fun _ => h js SL SC SQ SB a1 (fun i hi => (a2 i).mp (hall i hi)) a6, fun w => absurd hz w⟩
    | succ m ih =>
      intro t ht js ro bo lf SL SC SQ SB a1 a2 a3 a4 a5 a6
      have hun : ∃ i, i < bs.length ∧ ¬ ro i < 6 := by
        apply Classical.byContradiction
        intro w
        have := nR_all (ro := ro) bs.length (fun i hi => Classical.byContradiction (fun q => w ⟨i, hi, q⟩))
        omega
      obtain ⟨iu, iu1, iu2⟩ := hun
      have hnz : ¬ lf = 0 := fun w => (MK_z a5).mp w iu (by omega) ⟨iu1, iu2⟩
      refine ⟨fun w => absurd w hnz, fun _ => ?_⟩
      refine pk_le 12 t (fun w => absurd w (by omega)) (fun _ => ?_)
      intro y12 h12'
      -- literal j is taken
      have take : ∀ j b, j < bs.length → ¬ ro j < 6 → bs[j]? = some b → (y12 = (if t = 0 ∧ fh = true then (1 : Int32) else 0)) → (fh = true → t = 0 → j = j0) → ((t = 0 ∧ fh = true ∧ b.1 = 0) ∨ (¬ (t = 0 ∧ fh = true) ∧ (cov b (BdJ bs js t) ∨ b.1 = 0))) → jw_met_Jo_arrange_71 post (fun x9 => lw_met_Jo_arrange_17 post fa rm rm rm rm (6 * rm) (nI fr) A K P Z M T (m + 1) x9) (nI t) rm M SL SQ y12 SB bo rm K SC (nI fr) lf (nI (fr + j)) := by
        intro j b hj hrj hje hy hj0 hgood
        obtain ⟨d1, d2⟩ := hD.2 j b hje
        have hi := d1.1
        have ci : (nI (fr + j)).toNatClampNeg = fr + j := nI_clamp (by omega)
        have ct : (nI t).toNatClampNeg = t := nI_clamp (by omega)
        refine ⟨vp_in_nI (by omega) (by omega), vp_in_nI hi (by omega), fun y19 h19 g20 h20' g21 h21 g22 h22 => ⟨vp_in_nI hi (by omega), fun y24 h24 => ?_⟩⟩
        rw [ci] at h19
        rw [ct] at h20' h21 h22
        rw [ci, d1.2.1] at h24
        subst h24
        obtain ⟨js2, hjs2⟩ : ∃ js2 : Nat → Nat, js2 = fun s => if s = t then j else js s := ⟨_, rfl⟩
        have j2t : js2 t = j := by rw [hjs2]; exact if_pos rfl
        have j2n : ∀ s, ¬ s = t → js2 s = js s := fun s hs => by rw [hjs2]; exact if_neg hs
        have hbj := fun x => BdJ_cong (bs := bs) (js := js) (js2 := js2) (t := t) (fun s hs => (j2n s (by omega)).symm) x
        have last : ∀ v31 : Int32, ((v31 = 1 ∧ b.1 = 0 ∧ ((t = 0 ∧ fh = true) ∨ ¬ cov b (BdJ bs js t))) ∨ (v31 = 0 ∧ cov b (BdJ bs js t) ∧ ¬ (t = 0 ∧ fh = true))) → jw_met_Jo_arrange_152 post (fun x9 => lw_met_Jo_arrange_17 post fa rm rm rm rm (6 * rm) (nI fr) A K P Z M T (m + 1) x9) SC (nI t) bo y19 (nI (fr + j)) (nI fr) lf g20 g21 g22 v31 := by
          intro v31 hv
          refine ⟨?_, fun g33 h33 y34 h34 y35 h35 y36 h36 y37 h37 y38 h38 y39 h39 => ?_⟩
          · rcases hv with q | q
            · exact Or.inr q.1
            · exact Or.inl q.1
          rw [ct] at h33
          rw [pk_sub (by omega), Nat.add_sub_cancel_left] at h35
          rw [nI_1] at h39
          subst h35 h36 h37 h39
          obtain ⟨ro2, hro2⟩ : ∃ ro2 : Nat → Nat, ro2 = fun i => if i = j then 0 else ro i := ⟨_, rfl⟩
          have r2j : ro2 j = 0 := by rw [hro2]; exact if_pos rfl
          have r2n : ∀ i, ¬ i = j → ro2 i = ro i := fun i hi => by rw [hro2]; exact if_neg hi
          refine ih (t + 1) (by omega) js2 ro2 y34 y38 g20 g33 g21 g22 ⟨fun s hs => ?_, fun s s2 hs hs2 e => ?_, fun s hs => ?_⟩ (fun i => ?_) ?_ ?_ ?_ (fun f1 f2 => ?_)
          · by_cases w : s = t
            · rw [w, j2t]
              exact hj
            · rw [j2n s w]
              exact a1.1 s (by omega)
          · have nt : ∀ s3, s3 < t → ¬ js s3 = j := fun s3 hs3 e3 => hrj ((a2 j).mpr ⟨s3, hs3, e3⟩)
            by_cases w : s = t
            · by_cases w2 : s2 = t
              · omega
              · rw [w, j2t, j2n s2 w2] at e
                exact absurd e.symm (nt s2 (by omega))
            · by_cases w2 : s2 = t
              · rw [w2, j2t, j2n s w] at e
                exact absurd e (nt s (by omega))
              · rw [j2n s w, j2n s2 w2] at e
                exact a1.2.1 s s2 (by omega) (by omega) e
          · by_cases w : s = t
            · subst w
              refine ⟨b, by rw [j2t]; exact hje, by rw [h20', fup_self, j2t], ?_, by rw [h21, fup_self, hy], ?_⟩
              · rw [h22, fup_self]
                exact MK_iff a4 (fun v _ => hbj v)
              · have hcv : cov b (BdJ bs js s) ↔ cov b (BdJ bs js2 s) := ⟨fun w x hx => (hbj x).mp (w x hx), fun w x hx => (hbj x).mpr (w x hx)⟩
                rw [h33, fup_self, ← hcv]
                exact hv
            · rw [h20', h33, h21, h22, fup_ne _ _ w, fup_ne _ _ w, fup_ne _ _ w, fup_ne _ _ w]
              exact StO_cong (fun s2 hs2 => (j2n s2 (by omega)).symm) (a1.2.2 s (by omega))
          · by_cases w : i = j
            · rw [w, r2j]
              exact ⟨fun _ => ⟨t, by omega, j2t⟩, fun _ => by omega⟩
            · rw [r2n i w, a2 i]
              constructor
              · rintro ⟨s, s1, s2⟩
                exact ⟨s, by omega, by rw [j2n s (by omega)]; exact s2⟩
              · rintro ⟨s, s1, s2⟩
                by_cases w2 : s = t
                · rw [w2, j2t] at s2
                  exact absurd s2.symm w
                · exact ⟨s, by omega, by rw [← j2n s w2]; exact s2⟩
          · rw [a3]
            exact (nR_up (j := j) bs.length hj hrj (by rw [r2j]; omega) r2n).symm
          · rw [h34, h19]
            refine MK_iff (MK_orm a4 d1.2.2.2.2.1) (fun v _ => ?_)
            rw [BdJ_s (b := b) (by rw [j2t]; exact hje) v, ← hbj v]
          · rw [h38]
            refine MK_iff (MK_andn a5 (MK_one (j := j) (by omega))) (fun v _ => ?_)
            constructor
            · rintro ⟨⟨q1, q2⟩, q3⟩
              refine ⟨q1, ?_⟩
              rw [r2n v (fun e => q3 e.symm)]
              exact q2
            · rintro ⟨q1, q2⟩
              have hne : ¬ v = j := fun e => q2 (by rw [e, r2j]; omega)
              rw [r2n v hne] at q2
              exact ⟨⟨q1, q2⟩, fun e => hne e.symm⟩
          · by_cases w : t = 0
            · subst w
              rw [j2t]
              exact hj0 f1 rfl
            · rw [j2n 0 (fun e => w e.symm)]
              exact a6 f1 (by omega)
        refine ⟨fun k0 => ?_, fun k0 => ?_⟩
        · refine ⟨fun z => ?_, fun z => ?_⟩
          · have nf : ¬ (t = 0 ∧ fh = true) := fun w => by
              rw [hy, if_pos w] at z
              exact absurd z (by decide)
            intro y28 h28 y29 h29 y30 h30
            subst h28
            rw [h19] at h29
            have hc := mk_cov d2 d1.2.2.2.2.1 a4
            refine last y30 ?_
            by_cases w : cov b (BdJ bs js t)
            · rw [h29, if_pos (hc.mpr w)] at h30
              exact Or.inr ⟨h30, w, nf⟩
            · rw [h29, if_neg (fun q => w (hc.mp q))] at h30
              exact Or.inl ⟨h30, k0, Or.inr w⟩
          · have yf : t = 0 ∧ fh = true := Classical.byContradiction (fun w => z (by rw [hy, if_neg w]))
            exact last 1 (Or.inl ⟨rfl, k0, Or.inl yf⟩)
        · rcases hgood with ⟨g1, g2, g3⟩ | ⟨g1, g2⟩
          · exact absurd g3 k0
          · rcases g2 with g2 | g2
            · exact last 0 (Or.inr ⟨rfl, g2, g1⟩)
            · exact absurd g2 k0
      by_cases hfirst : t = 0 ∧ fh = true
      · obtain ⟨t0, f1⟩ := hfirst
        rcases hfa with ⟨q, -⟩ | ⟨q1, q2, q3, q4⟩
        · rw [f1] at q
          cases q
        · have hne : ¬ fa = -1 := by
            rw [q2]
            exact nI_ne1 (by have := (List.getElem?_eq_some_iff.mp q3).1; omega)
          have e12 : y12 = 1 := by rw [h12', t0, if_pos (show nI 0 = 0 from rfl), if_neg hne]
          refine ⟨fun w => absurd (e12.symm.trans w) (by decide), fun _ => ?_⟩
          have hk := take j0 b0 (List.getElem?_eq_some_iff.mp q3).1 (by
            rw [a2]
            rintro ⟨s, s1, -⟩
            omega) q3 (by rw [e12, if_pos ⟨t0, f1⟩]) (fun _ _ => rfl) (Or.inl ⟨t0, f1, q4⟩)
          rw [← q2] at hk
          exact hk
      · have e12 : y12 = 0 := by
          rw [h12']
          by_cases w : t = 0
          · rw [w, if_pos (show nI 0 = 0 from rfl)]
            rcases hfa with ⟨q, q2⟩ | ⟨q, -⟩
            · rw [q2, if_pos rfl]
            · exact absurd ⟨w, q⟩ hfirst
          · rw [if_neg (show ¬ nI t = 0 from fun q => w ((nI_eq (b := 0) (by omega) (by omega)).mp q))]
        refine ⟨fun _ => ?_, fun w => absurd e12 w⟩
        refine sp_nextLiteral (B := BdJ bs js t) hrm hD hS a4 a5 (fun i q => q.1) hA h20 ?_ (fun i b q1 q2 q3 => ?_)
        · have hue := List.getElem?_eq_getElem iu1
          generalize bs[iu] = bu at hue
          by_cases w : bu.1 = 0
          · exact ⟨iu, bu, ⟨iu1, iu2⟩, hue, Or.inr w⟩
          · by_cases w2 : cov bu (BdJ bs js t)
            · exact ⟨iu, bu, ⟨iu1, iu2⟩, hue, Or.inl w2⟩
            · have w3 : ∃ x, occB bu x ∧ ¬ BdJ bs js t x := by
                apply Classical.byContradiction
                intro q
                exact w2 (fun x hx => Classical.byContradiction (fun r => q ⟨x, hx, r⟩))
              obtain ⟨x, x1, x2⟩ := w3
              obtain ⟨b2, m1, m2, m3⟩ := hS.1 bu (List.mem_of_getElem? hue) w x x1
              obtain ⟨i2, l2, e2⟩ := List.getElem_of_mem m1
              have he2 := List.getElem?_eq_getElem l2
              rw [e2] at he2
              refine ⟨i2, b2, ⟨l2, fun q => ?_⟩, he2, Or.inr m2⟩
              obtain ⟨s, s1, s2⟩ := (a2 i2).mp q
              exact x2 ⟨s, b2, s1, by rw [s2]; exact he2, m3⟩
        · refine take i b q1.1 q1.2 q2 (by rw [e12, if_neg hfirst]) (fun f1 f2 => absurd ⟨f2, f1⟩ hfirst) (Or.inr ⟨hfirst, q3⟩)
  refine ⟨_, go bs.length 0 (by omega) (fun _ => 0) (fun _ => 6) 0 y3 SL0 SC0 SQ0 SB0 ⟨fun s hs => absurd hs (by omega), fun s s2 hs => absurd hs (by omega), fun s hs => absurd hs (by omega)⟩ (fun i => ⟨fun q => absurd q (by omega), fun ⟨s, s1, _⟩ => absurd s1 (by omega)⟩) ?_ (MK_0 (fun v q => ?_)) (MK_iff hm0 (fun v _ => ⟨fun q => ⟨q, by omega⟩, fun q => q.1⟩)) (fun _ q => absurd q (by omega))⟩
  · have : ∀ n, nR (fun _ => 6) n = 0 := by
      intro n
      induction n with
      | zero => rfl
      | succ n ih =>
        show nR (fun _ => 6) n + (if (6 : Nat) < 6 then 1 else 0) = 0
        rw [ih, if_neg (by omega)]
    exact (this _).symm
  · obtain ⟨s, b, s1, -⟩ := q
    omega
end CAr
