/-! pure: the class's rows -/
/-- rows of ranks, wd columns in two longs -/
def RwC (wd : Nat) (rs : List (List Nat)) (rz : Int32) (RL RR : Nat → Int64) : Prop := rs.length ≤ 5000 ∧ rz = nI rs.length ∧ ∀ (i : Nat) (r : List Nat), rs[i]? = some r → r.length = wd ∧ (∀ x ∈ r, x < 1000) ∧ RL i = lN (kN (fun j => r.getD j 0)) ∧ RR i = lN (kN (fun j => r.getD (6 + j) 0))
/-- the columns' variables -/
def CoV (cs : List Nat) (VC : Nat → Int32) : Prop := cs.length ≤ 12 ∧ (∀ x ∈ cs, x < 12) ∧ ∀ (q x : Nat), cs[q]? = some x → VC q = nI x
theorem getD_lt {r : List Nat} (h : ∀ x ∈ r, x < 1000) (j : Nat) : r.getD j 0 < 1000 := by
  rw [List.getD_eq_getElem?_getD]
  cases e : r[j]? with
  | none => show 0 < 1000; omega
  | some y => exact h y (List.mem_of_getElem? e)
section CRo
variable {cs : List Nat} {VC W : Nat → Int32} {v : Nat → Nat} {wd : Nat} {rs : List (List Nat)} {rz : Int32} {RL RR : Nat → Int64}
theorem map_lt (hW : ∀ x ∈ cs, W x = nI (v x) ∧ v x < 1000) : ∀ x ∈ cs.map v, x < 1000 := by
  intro x hx
  obtain ⟨y, hy, rfl⟩ := List.mem_map.mp hx
  exact (hW y hy).2
theorem sp_Ro_keyOf {post : Int64 → Unit → Prop} {fr : Nat} (hc : CoV cs VC) (hW : ∀ x ∈ cs, W x = nI (v x) ∧ v x < 1000) (hfr : fr = 0 ∨ fr = 6) (h : post (lN (kN (fun j => (cs.map v).getD (fr + j) 0))) ()) : wp_met_Ro_keyOf post 12 (nI fr) (nI cs.length) VC W := by
  obtain ⟨c1, c2, c3⟩ := hc
  have hm := map_lt hW
  obtain ⟨f, hf⟩ : ∃ f : Nat → Nat, f = fun j => (cs.map v).getD (fr + j) 0 := ⟨_, rfl⟩
  have hfl : ∀ j, f j < 1000 := fun j => by rw [hf]; exact getD_lt hm _
  have hlen : (cs.map v).length = cs.length := List.length_map ..
  have hz : ∀ j, cs.length ≤ fr + j → f j = 0 := fun j hj => by
    rw [hf]
    show (cs.map v).getD (fr + j) 0 = 0
    rw [List.getD_eq_getElem?_getD, List.getElem?_eq_none (by omega)]
    rfl
  rw [← hf] at h
  have fin : ∀ i, i ≤ 6 → (i = 6 ∨ cs.length ≤ fr + i) → post (lN (kN (upto f i))) () := by
    intro i hi hd
    have e : kN (upto f i) = kN f := kN_cong (fun j hj => by
      show (if j < i then f j else 0) = f j
      by_cases z : j < i
      · rw [if_pos z]
      · rw [if_neg z]
        rcases hd with q | q
        · omega
        · exact (hz j (by omega)).symm)
    rw [e]
    exact h
  have go : ∀ m i, i + m = 6 → lw_met_Ro_keyOf_5 post (nI cs.length) (nI fr) VC 12 W (m + 1) (nI (fr + i), lN (kN (upto f i))) := by
    intro m
    induction m with
    | zero =>
      intro i hi
      refine pk_le cs.length (fr + i) (fun _ => fin i (by omega) (Or.inl (by omega))) (fun _ => ?_)
      intro y4 h4
      rw [show (6 : Int32) = nI 6 from rfl, nI_add] at h4
      subst h4
      exact pk_le (fr + 6) (fr + i) (fun _ => fin i (by omega) (Or.inl (by omega))) (fun z => absurd z (by omega))
    | succ m ih =>
      intro i hi
      refine pk_le cs.length (fr + i) (fun z => fin i (by omega) (Or.inr z)) (fun hlt => ?_)
      intro y4 h4
      rw [show (6 : Int32) = nI 6 from rfl, nI_add] at h4
      subst h4
      refine pk_le (fr + 6) (fr + i) (fun z => absurd z (by omega)) (fun _ => ?_)
      have hie := List.getElem?_eq_getElem hlt
      generalize cs[fr + i] = x at hie
      have hx := List.mem_of_getElem? hie
      obtain ⟨w1, w2⟩ := hW x hx
      have hx12 := c2 x hx
      refine ⟨vp_in_nI (by omega) (by omega), fun y6 h6 => ?_⟩
      rw [nI_clamp (by omega), c3 _ x hie] at h6
      subst h6
      refine ⟨vp_in_nI hx12 (by omega), fun y8 h8 y9 h9 y10 h10 y11 h11 y12 h12 y13 h13 y14 h14 => ?_⟩
      rw [nI_clamp (by omega), w1] at h8
      rw [h8, nI_l9 (by omega)] at h9
      rw [pk_sub (by omega), Nat.add_sub_cancel_left] at h10
      rw [h10, show (10 : Int32) = nI 10 from rfl, pk_mul] at h11
      rw [h11, show (50 : Int32) = nI 50 from rfl, pk_sub (by omega)] at h12
      rw [h9, h12, lN_shl _ (by omega)] at h13
      have hfi : f i = v x := by
        rw [hf]
        show (cs.map v).getD (fr + i) 0 = v x
        rw [List.getD_eq_getElem?_getD, List.getElem?_map, hie]
        rfl
      have hu9 : ∀ j, j < 6 → upto f i j < 1024 := by
        intro j _
        show (if j < i then f j else 0) < 1024
        by_cases z : j < i
        · rw [if_pos z]
          have := hfl j
          omega
        · rw [if_neg z]
          omega
      have h09 : upto f i i = 0 := if_neg (by omega)
      rw [h13, kN_or hu9 (by omega) (by omega) h09] at h14
      have e : kN (put1 (upto f i) i (v x)) = kN (upto f (i + 1)) := kN_cong (fun j _ => by
        show (if j = i then v x else (if j < i then f j else 0)) = (if j < i + 1 then f j else 0)
        by_cases z : j = i
        · subst z
          rw [if_pos rfl, if_pos (by omega), hfi]
        · rw [if_neg z]
          by_cases z2 : j < i
          · rw [if_pos z2, if_pos (by omega)]
          · rw [if_neg z2, if_neg (by omega)])
      rw [e] at h14
      rw [h14, nI_1]
      exact ih (i + 1) (by omega)
  have e0 : kN (upto f 0) = 0 := (kN_cong (g := fun _ => 0) (fun x _ => if_neg (by omega))).trans kN_0
  have := go 6 0 (by omega)
  rw [e0] at this
  exact ⟨_, this⟩
theorem sp_Ro_add {post : (Int32 × Int32 × (Nat → Int64) × (Nat → Int64)) → Prop} {fu : Int32} (hc : CoV cs VC) (hW : ∀ x ∈ cs, W x = nI (v x) ∧ v x < 1000) (hR : RwC cs.length rs rz RL RR) (h5 : rs.length = 5000 → post (rz, 1, RL, RR)) (h1 : rs.length < 5000 → ∀ RL2 RR2, RwC cs.length (rs ++ [cs.map v]) (nI (rs.length + 1)) RL2 RR2 → post (nI (rs.length + 1), fu, RL2, RR2)) : wp_met_Ro_add post 12 rz (nI cs.length) fu RL RR VC W := by
  obtain ⟨r1, r2, r3⟩ := hR
  rw [r2]
  refine pk_eq rs.length 5000 (fun e => by rw [← r2]; exact h5 e) (fun e => ?_)
  have vz : vp_in (nI rs.length) 5000 := vp_in_nI (by omega) (by omega)
  have cz : (nI rs.length).toNatClampNeg = rs.length := nI_clamp (by omega)
  refine sp_Ro_keyOf (fr := 0) hc hW (Or.inl rfl) ⟨vz, fun g3 hg3 => ?_⟩
  refine sp_Ro_keyOf (fr := 6) hc hW (Or.inr rfl) ⟨vz, fun g6 hg6 y7 h7 => ?_⟩
  rw [cz] at hg3 hg6
  rw [nI_1] at h7
  subst h7
  refine h1 (by omega) g3 g6 ⟨by rw [List.length_append, List.length_singleton]; omega, by rw [List.length_append, List.length_singleton], fun i r e => ?_⟩
  rcases Nat.lt_or_ge i rs.length with z | z
  · rw [List.getElem?_append_left z] at e
    rw [hg3, hg6, pk_uLn (by omega), pk_uLn (by omega)]
    exact r3 i r e
  · have := (List.getElem?_eq_some_iff.mp e).1
    rw [List.length_append, List.length_singleton] at this
    obtain rfl : i = rs.length := by omega
    rw [List.getElem?_append_right (Nat.le_refl _), Nat.sub_self] at e
    obtain rfl := Option.some.inj e
    refine ⟨List.length_map .., map_lt hW, ?_, ?_⟩
    · rw [hg3, pk_uLs]
      simp only [Nat.zero_add]
    · rw [hg6, pk_uLs]
theorem sp_usedVariables {post : Int32 → Unit → Prop} (hc : CoV cs VC) (h : ∀ m, MK (fun x => x ∈ cs) m → post m ()) : wp_met_Ro_usedVariables post (nI cs.length) VC := by
  obtain ⟨c1, c2, c3⟩ := hc
  have go : ∀ m q, q + m = cs.length → ∀ ma, MK (fun x => x ∈ cs.take q) ma → lw_met_Ro_usedVariables_4 post (nI cs.length) VC (m + 1) (nI q, ma) := by
    intro m
    induction m with
    | zero =>
      intro q hq ma hm
      obtain rfl : q = cs.length := by omega
      rw [List.take_length] at hm
      exact pk_le cs.length cs.length (fun _ => h ma hm) (fun z => absurd z (by omega))
    | succ m ih =>
      intro q hq ma hm
      refine pk_le cs.length q (fun z => absurd z (by omega)) (fun hlt => ?_)
      have hqe := List.getElem?_eq_getElem hlt
      generalize cs[q] = x at hqe
      have hx12 := c2 x (List.mem_of_getElem? hqe)
      refine ⟨vp_in_nI (by omega) (by omega), fun y5 h5 y6 h6 y7 h7 => ?_⟩
      rw [nI_clamp (by omega), c3 q x hqe] at h5
      subst h5 h6 h7
      rw [nI_1]
      refine ih (q + 1) (by omega) _ (MK_iff (MK_or hm (show x < 16 by omega)) (fun w _ => ?_))
      rw [List.take_succ, hqe]
      simp
      constructor
      · rintro (z | z)
        · exact Or.inl z
        · exact Or.inr z.symm
      · rintro (z | z)
        · exact Or.inl z
        · exact Or.inr z.symm
  exact ⟨_, go cs.length 0 (by omega) 0 (MK_0 (fun x hx => by simp at hx))⟩
/-- columns: the variables that are not anonymous -/
def clF (An : Nat → Prop) (cs : List Nat) (q : Nat) : Prop := (∀ x, x ∈ cs ↔ (x < q ∧ ¬ An x)) ∧ cs.Pairwise (fun a b => a < b)
theorem sp_Ro_open {post : (Int32 × Int32 × Int32 × (Nat → Int32)) → Prop} {nv : Nat} {An : Nat → Prop} {an : Int32} (hnv : nv ≤ 12) (hA : MK An an) (h : ∀ cs VC2, clF An cs nv → CoV cs VC2 → post (0, nI cs.length, 0, VC2)) : wp_met_Ro_open post (nI nv) an VC := by
  have len : ∀ (cs : List Nat) (q : Nat), clF An cs q → cs.length ≤ q := by
    intro cs q hq
    have hnd : ∀ (l : List Nat) (lo hi : Nat), l.Pairwise (fun a b => a < b) → (∀ x ∈ l, lo ≤ x ∧ x < hi) → l.length + lo ≤ hi ∨ l = [] := by
      intro l
      induction l with
      | nil => exact fun lo hi _ _ => Or.inr rfl
      | cons a l ih =>
        intro lo hi h1 h2
        obtain ⟨p1, p2⟩ := List.pairwise_cons.mp h1
        have ha := h2 a (by simp)
        rcases ih (a + 1) hi p2 (fun x hx => ⟨p1 x hx, (h2 x (by simp [hx])).2⟩) with z | z
        · left
          rw [List.length_cons]
          omega
        · left
          rw [z]
          simp
          omega
    rcases hnd cs 0 q hq.2 (fun x hx => ⟨Nat.zero_le _, ((hq.1 x).mp hx).1⟩) with z | z
    · omega
    · rw [z]
      simp
  have go : ∀ m q, q + m = nv → ∀ cs VC2, clF An cs q → CoV cs VC2 → lw_met_Ro_open_17 post (nI nv) an (m + 1) (nI q, nI cs.length, VC2) := by
    intro m
    induction m with
    | zero =>
      intro q hq cs VC2 h1 h2
      obtain rfl : q = nv := by omega
      exact pk_le q q (fun _ => h cs VC2 h1 h2) (fun z => absurd z (by omega))
    | succ m ih =>
      intro q hq cs VC2 h1 h2
      have hl := len cs q h1
      refine pk_le nv q (fun z => absurd z (by omega)) (fun _ => ?_)
      intro y5 h5 y6 h6
      subst h5
      rcases MK_bit hA (show q < 16 by omega) with ⟨z1, z2⟩ | ⟨z1, z2⟩
      · refine ⟨fun _ => ?_, fun z => absurd (h6.trans z1) z⟩
        refine ⟨vp_in_nI (by omega) (by omega), fun g8 h8 y9 h9 => ?_⟩
        rw [nI_clamp (by omega)] at h8
        rw [nI_1] at h9
        subst h9
        rw [nI_1]
        have := ih (q + 1) (by omega) (cs ++ [q]) g8 ⟨fun x => ?_, ?_⟩ ⟨?_, fun x hx => ?_, fun i x e => ?_⟩
        · rw [List.length_append, List.length_singleton] at this
          exact this
        · rw [List.mem_append, h1.1 x, List.mem_singleton]
          constructor
          · rintro (⟨w1, w2⟩ | w)
            · exact ⟨by omega, w2⟩
            · subst w
              exact ⟨by omega, z2⟩
          · rintro ⟨w1, w2⟩
            by_cases w : x = q
            · exact Or.inr w
            · exact Or.inl ⟨by omega, w2⟩
        · rw [List.pairwise_append]
          refine ⟨h1.2, List.pairwise_singleton _ _, fun a ha c hc => ?_⟩
          rw [List.mem_singleton.mp hc]
          exact ((h1.1 a).mp ha).1
        · rw [List.length_append, List.length_singleton]
          omega
        · rcases List.mem_append.mp hx with w | w
          · exact h2.2.1 x w
          · rw [List.mem_singleton.mp w]
            omega
        · rw [h8]
          rcases Nat.lt_or_ge i cs.length with w | w
          · rw [List.getElem?_append_left w] at e
            rw [upd_ne (by omega)]
            exact h2.2.2 i x e
          · have hlt := (List.getElem?_eq_some_iff.mp e).1
            rw [List.length_append, List.length_singleton] at hlt
            obtain rfl : i = cs.length := by omega
            rw [List.getElem?_append_right (Nat.le_refl _), Nat.sub_self] at e
            obtain rfl := Option.some.inj e
            exact upd_same
      · refine ⟨fun z => absurd ((h6.trans z1).symm.trans z) (by decide), fun _ => ?_⟩
        rw [nI_1]
        refine ih (q + 1) (by omega) cs VC2 ⟨fun x => ?_, h1.2⟩ h2
        rw [h1.1 x]
        constructor
        · rintro ⟨w1, w2⟩
          exact ⟨by omega, w2⟩
        · rintro ⟨w1, w2⟩
          refine ⟨?_, w2⟩
          by_cases w : x = q
          · subst w
            exact absurd z2 w2
          · omega
  exact ⟨_, go nv 0 (by omega) [] VC ⟨fun x => by simp, List.Pairwise.nil⟩ ⟨by simp, fun x hx => (by cases hx), fun q x e => (by cases e)⟩⟩
end CRo
