/-! pure: the class tells a cell of the last answer -/
theorem inR_iff {qs : List (List Con)} {w : Nat} {a b : Int32} (hq : qs.length ≤ 5000) (hw : w ≤ 12) : inR qs w a b ↔ ∃ i j, a = nI i ∧ i < qs.length ∧ b = nI j ∧ j < w := by
  constructor
  · rintro ⟨h1, h2, h3, h4⟩
    obtain ⟨i, i1, i2, i3⟩ := nn_nI h1
    obtain ⟨j, j1, j2, j3⟩ := nn_nI h3
    rw [i3] at h2
    rw [j3] at h4
    exact ⟨i, j, i2, h2, j2, h4⟩
  · rintro ⟨i, j, rfl, h2, rfl, h4⟩
    refine ⟨nI_n0 (by omega), ?_, nI_n0 (by omega), ?_⟩
    · rw [nI_clamp (by omega)]
      exact h2
    · rw [nI_clamp (by omega)]
      exact h4
theorem tkW_and {x : Int32} (h : tkW x = true) : x &&& 255 = x := by
  obtain ⟨a, -, ha, rfl⟩ := tkW_nI h
  have q : ∀ k : Fin 128, nI k.1 &&& 255 = nI k.1 := by decide
  exact q ⟨a, ha⟩
theorem sl_get {F : Nat → Int32} : ∀ (l a j : Nat), j < l → (sl F a l)[j]? = some (F (a + j)) := by
  intro l
  induction l with
  | zero =>
    intro a j h
    omega
  | succ l ih =>
    intro a j h
    cases j with
    | zero => rfl
    | succ j =>
      have := ih (a + 1) j (by omega)
      rw [show a + 1 + j = a + (j + 1) by omega] at this
      exact this
theorem NB_len {cn : List Con} {rk : Nat → Nat} {V BR S Ln Tx : Nat → Int32} {nT : Nat} {cz cu : Int32} {q : Nat} (hN : NB 1000 (cn.map (·.1)) cz cu S Ln nT Tx) (hC : CoR cn rk V BR) (hq : q < cn.length) : (cnr cn rk q).1.length ≤ 40960 := by
  have h1 := hN.2.2.2.2.2.2.1
  have h2 := hN.2.2.2.2.1
  have he : (cn.map (·.1))[rk q]? = some (cnr cn rk q).1 := by
    rw [List.getElem?_map, cg_at (hC.2.1 q hq).1]
    rfl
  obtain ⟨-, a, -, -, a3, -⟩ := hN.2.2.2.1 _ _ he
  omega
section CCe
variable {cn : List Con} {rk : Nat → Nat} {w N us : Nat} {rs : List (List Nat)} {RL RR : Nat → Int64} {V BR S Ln Tx : Nat → Int32} {nT : Nat} {cz cu : Int32} {a b i : Int32}
/-- the rows of the last answer -/
def RoI (cn : List Con) (w N : Nat) (rs : List (List Nat)) (RL RR : Nat → Int64) : Prop := RwC w rs (nI N) RL RR ∧ rs.length = N ∧ w ≤ 12 ∧ ∀ r ∈ rs, ∀ x ∈ r, x < cn.length
theorem RoI_5 (h : RoI cn w N rs RL RR) : (rs.map (fun r => r.map (cnr cn rk))).length = N ∧ N ≤ 5000 := by
  rw [List.length_map]
  exact ⟨h.2.1, by rw [← h.2.1]; exact h.1.1⟩
theorem cl_cell (h : RoI cn w N rs RL RR) {k j : Nat} (hk : k < N) (hj : j < w) : ∃ r, rs[k]? = some r ∧ r.getD j 0 < cn.length ∧ cellC (rs.map (fun r => r.map (cnr cn rk))) (nI k) (nI j) = cnr cn rk (r.getD j 0) := by
  obtain ⟨h1, h2, h3, h4⟩ := h
  have h5 := h1.1
  have hk2 : k < rs.length := by omega
  have e := List.getElem?_eq_getElem hk2
  obtain ⟨l1, -⟩ := h1.2.2 k _ e
  have hj2 : j < rs[k].length := by omega
  have ej := List.getElem?_eq_getElem hj2
  have eg : rs[k].getD j 0 = rs[k][j] := by
    rw [List.getD_eq_getElem?_getD, ej]
    rfl
  refine ⟨_, e, ?_, ?_⟩
  · rw [eg]
    exact h4 _ (List.getElem_mem hk2) _ (List.getElem_mem hj2)
  · unfold cellC
    have e7 : (rs.map (fun r => r.map (cnr cn rk))).getD k [] = rs[k].map (cnr cn rk) := by
      rw [List.getD_eq_getElem?_getD, List.getElem?_map, e]
      rfl
    rw [nI_clamp (by omega), nI_clamp (by omega), e7, eg, List.getD_eq_getElem?_getD, List.getElem?_map, ej]
    rfl
theorem sp_Co_byteAt {post : Int32 → Unit → Prop} {q j : Nat} (hN : NB 1000 (cn.map (·.1)) cz cu S Ln nT Tx) (hC : CoR cn rk V BR) (hq : q < cn.length) (hj : j < (cnr cn rk q).1.length) (h : post ((cnr cn rk q).1.getD j 0) ()) : wp_met_Co_byteAt post 1000 nT 1000 (nI q) (nI j) S Tx BR := by
  have hl : cn.length ≤ 1000 := by
    have := hN.1
    rw [List.length_map] at this
    exact this
  obtain ⟨c1, c2, -⟩ := hC
  obtain ⟨r1, r2⟩ := c2 q hq
  have hn40 := hN.2.2.2.2.2.2.1
  have htot := hN.2.2.2.2.1
  refine ⟨vp_in_nI (by omega) (by omega), fun y2 h2 => ?_⟩
  rw [nI_clamp (by omega), r2] at h2
  subst h2
  have he : (cn.map (·.1))[rk q]? = some (cnr cn rk q).1 := by
    rw [List.getElem?_map, cg_at r1]
    rfl
  obtain ⟨-, a, a1, a2, a3, a4⟩ := hN.2.2.2.1 _ _ he
  refine ⟨vp_in_nI (by omega) (by omega), fun y3 h3 y4 h4 => ?_⟩
  rw [nI_clamp (by omega), a1] at h3
  subst h3
  rw [nI_add] at h4
  subst h4
  refine ⟨vp_in_nI (by omega) (by omega), fun y5 h5 => ?_⟩
  rw [nI_clamp (by omega)] at h5
  have hg : (cnr cn rk q).1.getD j 0 = Tx (a + j) := by
    have e9 : (sl Tx a (cnr cn rk q).1.length).getD j 0 = Tx (a + j) := by
      rw [List.getD_eq_getElem?_getD, sl_get _ _ _ hj]
      rfl
    rw [a4] at e9
    exact e9
  rw [h5, ← hg]
  exact h
theorem cl_isNumber {post : Int32 → Unit → Prop} (hC : CBr 1000 cn rk cz cu S Ln nT Tx V BR) (h : RoI cn w N rs RL RR) (hin : inR (rs.map (fun r => r.map (cnr cn rk))) w a b) (hp : post (b01 (decide ((cellC (rs.map (fun r => r.map (cnr cn rk))) a b).1 = []))) ()) : wp_met_SB_isNumber post 1000 1000 a b Ln BR (nI N) (nI w) RL RR := by
  obtain ⟨e1, e2⟩ := RoI_5 (rk := rk) h
  have hl : cn.length ≤ 1000 := by
    have := hC.1.1
    rw [List.length_map] at this
    exact this
  refine sp_Ro_has e2 h.2.2.1 (fun k j ha hk hb hj => ?_) (fun z => absurd ((inR_iff (by omega) h.2.2.1).mp hin) (by rw [e1]; exact z))
  subst ha hb
  obtain ⟨r, r1, r2, r3⟩ := cl_cell (rk := rk) h hk hj
  rw [r3] at hp
  refine ⟨fun z => absurd z (by decide), fun _ => ?_⟩
  refine sp_Ro_rankAt h.1 h.2.2.1 r1 hj ?_
  refine sp_Co_lengthAt hC.1.2.2.2.1 hC.2 hl r2 ?_
  intro y hy
  have hlen := NB_len hC.1 hC.2 r2
  by_cases q : (cnr cn rk (r.getD j 0)).1 = []
  · rw [decide_eq_true q] at hp
    rw [q, if_pos (show nI ([] : Wd).length = 0 from rfl)] at hy
    subst hy
    exact hp
  · rw [decide_eq_false q] at hp
    have q2 : ¬ nI (cnr cn rk (r.getD j 0)).1.length = 0 := fun z => q (List.length_eq_zero_iff.mp ((nI_eq (b := 0) (by omega) (by omega)).mp z))
    rw [if_neg q2] at hy
    subst hy
    exact hp
theorem cl_number {post : Int32 → Unit → Prop} (hC : CBr 1000 cn rk cz cu S Ln nT Tx V BR) (h : RoI cn w N rs RL RR) (hin : inR (rs.map (fun r => r.map (cnr cn rk))) w a b) (hp : ∀ x : Int32, (((cellC (rs.map (fun r => r.map (cnr cn rk))) a b).1 = [] ∧ x.toInt = (cellC (rs.map (fun r => r.map (cnr cn rk))) a b).2) ∨ (¬ (cellC (rs.map (fun r => r.map (cnr cn rk))) a b).1 = [] ∧ x = nI (cellC (rs.map (fun r => r.map (cnr cn rk))) a b).1.length)) → post x ()) : wp_met_SB_number post 1000 1000 1000 a b Ln V BR (nI N) (nI w) RL RR := by
  obtain ⟨e1, e2⟩ := RoI_5 (rk := rk) h
  have hl : cn.length ≤ 1000 := by
    have := hC.1.1
    rw [List.length_map] at this
    exact this
  refine sp_Ro_has e2 h.2.2.1 (fun k j ha hk hb hj => ?_) (fun z => absurd ((inR_iff (by omega) h.2.2.1).mp hin) (by rw [e1]; exact z))
  subst ha hb
  obtain ⟨r, r1, r2, r3⟩ := cl_cell (rk := rk) h hk hj
  rw [r3] at hp
  refine ⟨fun z => absurd z (by decide), fun _ => ?_⟩
  refine sp_Ro_rankAt h.1 h.2.2.1 r1 hj ?_
  refine sp_Co_lengthAt hC.1.2.2.2.1 hC.2 hl r2 ?_
  have hlen := NB_len hC.1 hC.2 r2
  by_cases q : (cnr cn rk (r.getD j 0)).1 = []
  · rw [q]
    refine ⟨fun _ => ?_, fun z => absurd (show nI ([] : Wd).length = 0 from rfl) z⟩
    exact sp_Co_valueAt hC.2 hl r2 (fun x hx => hp x (Or.inl ⟨q, hx⟩))
  · have q2 : ¬ nI (cnr cn rk (r.getD j 0)).1.length = 0 := fun z => q (List.length_eq_zero_iff.mp ((nI_eq (b := 0) (by omega) (by omega)).mp z))
    exact ⟨fun z => absurd z q2, fun _ => hp _ (Or.inr ⟨q, rfl⟩)⟩
theorem cl_letter {post : Int32 → Unit → Prop} (hC : CBr 1000 cn rk cz cu S Ln nT Tx V BR) (h : RoI cn w N rs RL RR) (hin : inL (rs.map (fun r => r.map (cnr cn rk))) w a b i) (hp : post ((cellC (rs.map (fun r => r.map (cnr cn rk))) a b).1.getD i.toNatClampNeg 0) ()) : wp_met_SB_letter post 1000 1000 nT 1000 a b i S Ln Tx BR (nI N) (nI w) RL RR := by
  obtain ⟨e1, e2⟩ := RoI_5 (rk := rk) h
  have hl : cn.length ≤ 1000 := by
    have := hC.1.1
    rw [List.length_map] at this
    exact this
  obtain ⟨hin, n1, n2, n3⟩ := hin
  refine sp_Ro_has e2 h.2.2.1 (fun k j ha hk hb hj => ?_) (fun z => absurd ((inR_iff (by omega) h.2.2.1).mp hin) (by rw [e1]; exact z))
  subst ha hb
  obtain ⟨r, r1, r2, r3⟩ := cl_cell (rk := rk) h hk hj
  rw [r3] at hp n1 n3
  have hlen := NB_len hC.1 hC.2 r2
  obtain ⟨m, m1, m2, m3⟩ := nn_nI n2
  subst m2
  rw [m3] at hp n3
  refine ⟨fun z => absurd z (by decide), fun _ => ?_⟩
  refine sp_Ro_rankAt h.1 h.2.2.1 r1 hj ?_
  refine ⟨fun z => absurd z n2, fun _ => ?_⟩
  refine sp_Co_lengthAt hC.1.2.2.2.1 hC.2 hl r2 ?_
  refine pk_lt m (cnr cn rk (r.getD j 0)).1.length (fun _ => ?_) (fun z => absurd n3 (by omega))
  exact sp_Co_byteAt hC.1 hC.2 r2 n3 hp
theorem cl_isNumberT {post : Unit → Prop} (h : RoI cn w N rs RL RR) (hin : ¬ inR (rs.map (fun r => r.map (cnr cn rk))) w a b) (hp : post ()) : wp_thr_SB_isNumber post a b (nI N) (nI w) := by
  obtain ⟨e1, e2⟩ := RoI_5 (rk := rk) h
  exact sp_Ro_has e2 h.2.2.1 (fun k j ha hk hb hj => absurd ((inR_iff (by omega) h.2.2.1).mpr ⟨k, j, ha, by omega, hb, hj⟩) hin) (fun _ => ⟨rfl, hp⟩)
theorem cl_numberT {post : Unit → Prop} (h : RoI cn w N rs RL RR) (hin : ¬ inR (rs.map (fun r => r.map (cnr cn rk))) w a b) (hp : post ()) : wp_thr_SB_number post a b (nI N) (nI w) := by
  obtain ⟨e1, e2⟩ := RoI_5 (rk := rk) h
  exact sp_Ro_has e2 h.2.2.1 (fun k j ha hk hb hj => absurd ((inR_iff (by omega) h.2.2.1).mpr ⟨k, j, ha, by omega, hb, hj⟩) hin) (fun _ => ⟨rfl, hp⟩)
theorem cl_letterT {post : Unit → Prop} (hC : CBr 1000 cn rk cz cu S Ln nT Tx V BR) (h : RoI cn w N rs RL RR) (hin : ¬ inL (rs.map (fun r => r.map (cnr cn rk))) w a b i) (hp : post ()) : wp_thr_SB_letter post 1000 1000 a b i Ln BR (nI N) (nI w) RL RR := by
  obtain ⟨e1, e2⟩ := RoI_5 (rk := rk) h
  have hl : cn.length ≤ 1000 := by
    have := hC.1.1
    rw [List.length_map] at this
    exact this
  refine sp_Ro_has e2 h.2.2.1 (fun k j ha hk hb hj => ?_) (fun _ => ⟨fun _ => hp, fun z => absurd rfl z⟩)
  have hR := (inR_iff (qs := rs.map (fun r => r.map (cnr cn rk))) (by omega) h.2.2.1).mpr ⟨k, j, ha, by rw [e1]; exact hk, hb, hj⟩
  subst ha hb
  obtain ⟨r, r1, r2, r3⟩ := cl_cell (rk := rk) h hk hj
  have hlen := NB_len hC.1 hC.2 r2
  refine ⟨fun z => absurd z (by decide), fun _ => ?_⟩
  refine sp_Ro_rankAt h.1 h.2.2.1 r1 hj ?_
  refine ⟨fun _ => hp, fun n2 => ?_⟩
  refine sp_Co_lengthAt hC.1.2.2.2.1 hC.2 hl r2 ?_
  obtain ⟨m, m1, m2, m3⟩ := nn_nI n2
  subst m2
  refine ⟨fun z => hin ⟨hR, ?_, n2, ?_⟩, hp⟩
  · rw [r3]
    intro q
    rw [q] at z
    exact n2 z
  · rw [r3, m3]
    have q : (nI m < nI (cnr cn rk (r.getD j 0)).1.length → m < (cnr cn rk (r.getD j 0)).1.length) ∧ (¬ nI m < nI (cnr cn rk (r.getD j 0)).1.length → True) := pk_lt m _ (fun w => w) (fun _ => trivial)
    exact q.1 z
end CCe
