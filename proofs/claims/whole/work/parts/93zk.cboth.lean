/-! pure: both sides, as the law holds them -/
theorem Lst_0 : Lst (EdC [] []) (fun _ => 0) := by
  refine ⟨fun a b k h => ?_, fun s _ p => Nat.zero_le _⟩
  obtain ⟨c, j, ls, hh, l, h1, -⟩ := h
  rw [List.getElem?_nil] at h1
  cases h1
theorem CoR_0 {rk : Nat → Nat} {V BR : Nat → Int32} : CoR [] rk V BR := ⟨fun i h => absurd h (Nat.not_lt_zero _), fun i h => absurd h (Nat.not_lt_zero _), fun q r _ h => absurd h (Nat.not_lt_zero _), fun i h => absurd h (Nat.not_lt_zero _)⟩
theorem NB_0 {lim N : Nat} {S L T : Nat → Int32} (h1 : 256 ≤ N) (h2 : N ≤ 40960) (hT : ∀ i, i < N → byt (T i)) : NB lim [] 0 0 S L N T := by
  refine ⟨Nat.zero_le _, rfl, rfl, fun i w h => ?_, Nat.zero_le _, h1, h2, hT⟩
  rw [List.getElem?_nil] at h
  cases h
theorem DI_nil {F : Nat → Int32} : DI 0 F (D00 [] []) := DI_q0 List.nodup_nil List.nodup_nil (fun c h => by cases h)
theorem WA_nil {c p : Nat} : ¬ WA [] c p := by
  rintro (⟨-, l, h, -⟩ | ⟨ls, h, -⟩)
  · cases h
  · cases h
theorem SpI_0 {pS pL cS cL cV cB : Nat → Int32} : SpI (fun _ => 0) pS pL 256 (fun _ => 0) cS cL 256 (fun _ => 0) cV cB := ⟨rfl, ⟨[], 0, 0, NB_0 (by decide) (by decide) (fun _ _ => byt_0)⟩, ⟨[], fun _ => 0, 0, 0, NB_0 (by decide) (by decide) (fun _ _ => byt_0), CoR_0⟩⟩
theorem RdI_0 {vS vL oS oL sS sL sV sB : Nat → Int32} : RdI vS vL 256 (fun _ => 0) oS oL 256 (fun _ => 0) 0 0 sS sL 256 (fun _ => 0) sV sB := ⟨⟨[], 0, 0, NB_0 (by decide) (by decide) (fun _ _ => byt_0)⟩, ⟨[], 0, 0, NB_0 (by decide) (by decide) (fun _ _ => byt_0)⟩, ⟨[], NB_0 (by decide) (by decide) (fun _ _ => byt_0), fun _ => 0, CoR_0⟩⟩
theorem PgI_0 {K P Z M T pS pL PZ cS cL cV cB : Nat → Int32} : PgI (D00 [] []) (fun _ => 0) (fun _ => 0) 0 0 0 (fun _ => 0) K P Z M T 0 0 pS pL 256 (fun _ => 0) PZ (fun _ => 0) 0 0 cS cL 256 (fun _ => 0) cV cB := by
  have hnil : ∀ (i : Nat) (l : Lt), ([] : List (List Lt)).flatten[i]? = some l → False := fun i l h => by
    rw [List.flatten_nil, List.getElem?_nil] at h
    cases h
  refine ⟨⟨fun _ => 0, ⟨rfl, Nat.zero_le _, fun c hc => ?_, fun i l h => absurd h (hnil i l), List.nodup_nil, Nat.zero_le _, fun ls h => (by cases h)⟩, fun i l h => absurd h (hnil i l), ⟨CoR_0, Nat.zero_le _⟩, ⟨Lst_0, fun _ => Nat.zero_le _, fun p _ => rfl⟩, fun ls h => (by cases h), fun ls h => (by cases h)⟩, NB_0 (by decide) (by decide) (fun _ _ => byt_0), ⟨NB_0 (by decide) (by decide) (fun _ _ => byt_0), CoR_0⟩, fun p hp => absurd hp (Nat.not_lt_zero _), fun p => arF_6 (T := fun _ => 0) DI_nil p, ⟨List.nodup_nil, fun c h => (by cases h)⟩, rfl, rfl, ⟨fun q h => absurd h (Nat.not_lt_zero _), Or.inl ⟨rfl, rfl⟩⟩⟩
  rw [show (D00 [] []).1 = ([] : List (List Lt)) from rfl, List.take_nil]
  rfl
theorem PgOk_0 : PgOk [] [] (fun _ => 0) (arF [] []) := Pg_of (T := fun _ => 0) (D := D00 [] []) (L := fun _ => 0) DI_nil (Nat.zero_le _) (Nat.zero_le _) (fun _ _ => WA_nil) Lst_0 (fun _ => Nat.zero_le _)
theorem MPo_0 {F PF PL PA CN CV CF LC LK LP LT : Nat → Int32} : MPo (D00 [] []) (fun _ => 0) 0 F PF PL PA (fun _ => 0) CN CV CF (fun _ => 0) (fun _ => 0) LC LK LP LT (fun _ => 0) := by
  refine ⟨⟨fun i w h => ?_, Nat.zero_le _, rfl⟩, ⟨by decide, List.nodup_nil, Nat.zero_le _, fun c h => (by cases h), fun i c h => ?_, rfl, fun p _ => rfl, fun p hp => absurd hp (Nat.not_lt_zero _), fun c ls h => ?_⟩, rfl, Nat.zero_le _, Nat.zero_le _⟩
  · rw [show (D00 [] []).2.2.2.2.1 = ([] : List Wd) from rfl, List.getElem?_nil] at h
    cases h
  · rw [show (D00 [] []).2.2.2.2.2 = ([] : List Con) from rfl, List.getElem?_nil] at h
    cases h
  · rw [show (D00 [] []).1 = ([] : List (List Lt)) from rfl, List.getElem?_nil] at h
    cases h
theorem LyQ_0 : LyQ [] [] (fun _ => 0) 0 := ⟨fun a _ => Nat.le_refl _, Or.inl rfl⟩
/-- a program that the model has loaded -/
theorem MPo_new {T : Nat → Int32} {n set : Nat} {D : Dt} {L : Nat → Nat} {F PF PL PA PS CN CV CF Cs Cl LC LK LP LT LQ NQ TP LA ST : Nat → Int32} (hset : set < 2) (hd : DI 0 T D) (hNA : NA 0 n T D) (h21 : D.2.1 = []) (hW : ∀ c p, ¬ WA D.1 c p) (hPR : PR set D.2.2.2.2.1 PF PL PS F) (hM : MCo (asksOf 0) D.2.2.2.2.2 (1100 * set) CN CV CF F) (hcap : Cap 0 D.2.2.2.2.2) (hMB : MB T D.2.2.2.2.1 D.2.2.2.2.2 (65536 * set) set (LK, LP, LT, LQ, NQ, TP, LA) LC Cl D.1) (hAr : AriR D.2.2.2.2.1 set PA D.1.flatten) (hST : StA L ST) : MPo D L set F PF PL PA PS CN CV CF (upd Cs set (nI D.2.2.2.2.2.length)) Cl LC LK LP LT ST := ⟨hPR, MPg_of hset hd hNA h21 hW hM hcap hMB hAr hST, upd_same, hcap.1 rfl, hMB.2.2.1⟩
section CBo
variable {ps : List Wd} {cn : List Con} {cs : List (List Lt)} {rk ar L : Nat → Nat} {S hi : Nat} {E : List (Nat × List Nat)} {sgE : Nat → Nat} {fs : List Fct} {V BR : Nat → Int32}
/-- the facts of both sides are the same -/
theorem Bo_X (hR : RnQ cn rk ps cs L S E.length E sgE) (hS : ScQ ps L ps.length S) (hly : LyQ ps cs L hi) (hf : ∀ x, x ∈ fs ↔ Low ps cs L (hi + 1) x) : FX cn rk (fun x => x ∈ E) = (fun x => x ∈ fs) := by
  funext y
  refine propext ?_
  rw [hf y]
  exact (hR.2.2.1 y).trans (Low_same (Ab_sc hS) (Ab_ly hly) y)
theorem Bo_len (hC : CoR cn rk V BR) (hX : FX cn rk (fun x => x ∈ E) = (fun x => x ∈ fs)) (hRk : RkE cn E) (hE : E.Nodup) (hf : fs.Nodup) : E.length = fs.length := by
  have hm : ∀ y, y ∈ E.map (phi cn rk) ↔ y ∈ fs := fun y => by
    have e := congrFun hX y
    rw [List.mem_map]
    constructor
    · rintro ⟨x, h1, h2⟩
      exact e.mp ⟨x, h1, h2.symm⟩
    · intro h
      obtain ⟨x, h1, h2⟩ := e.mpr h
      exact ⟨x, h1, h2.symm⟩
  have hn : (E.map (phi cn rk)).Nodup := by
    rw [List.Nodup, List.pairwise_map]
    exact hE.imp_of_mem (fun {a b} ha hb hab e => hab (phi_inj hC (hRk a ha) (hRk b hb) e))
  have a := hn.length_le_of_subset (fun y hy => (hm y).mp hy)
  have b := hf.length_le_of_subset (fun y hy => (hm y).mpr hy)
  rw [List.length_map] at a b
  omega
theorem Bo_la {sz hg : Int32} {FK : Nat → Int64} {FS FA FP FN FT FO FW : Nat → Int32} {la : Nat} (hR : RnQ cn rk ps cs L S E.length E sgE) (hF : FaR ar E sgE sz hg FK FS FA FP FN FT FO FW) (hX : FX cn rk (fun x => x ∈ E) = (fun x => x ∈ fs)) (hla : LaOk ps cs L fs la) : hg = nI la := by
  obtain ⟨h, e1, -, e2, e3⟩ := hF.2.2.2.2.2.2.2.2.2.2
  have hm : ∀ y, y ∈ E.map (phi cn rk) ↔ y ∈ fs := fun y => by
    have e := congrFun hX y
    rw [List.mem_map]
    constructor
    · rintro ⟨x, h1, h2⟩
      exact e.mp ⟨x, h1, h2.symm⟩
    · intro h
      obtain ⟨x, h1, h2⟩ := e.mpr h
      exact ⟨x, h1, h2.symm⟩
  have hl : LaOk ps cs L (E.map (phi cn rk)) h := by
    refine ⟨fun x hx k hk => ?_, ?_⟩
    · obtain ⟨y, y1, y2⟩ := List.mem_map.mp hx
      obtain ⟨i, i1⟩ := List.getElem?_of_mem y1
      have := hR.2.2.2 i y i1
      rw [y2] at this
      rw [StgR_one hk this]
      exact e2 i (List.getElem?_eq_some_iff.mp i1).1
    · rcases e3 with z | ⟨i, i1, i2⟩
      · exact Or.inl z
      · refine Or.inr ⟨phi cn rk E[i], List.mem_map.mpr ⟨_, List.getElem_mem i1, rfl⟩, ?_⟩
        have := hR.2.2.2 i _ (List.getElem?_eq_getElem i1)
        rw [i2] at this
        exact this
  rw [e1, LaOk_one hm hl hla]
/-- a predicate that heads no clause is of stratum 0 -/
theorem Bo_hd (hL : Lst (EdC ps cs) L) {p : Nat} (h : ¬ Hd ps cs cs.length p) : L p = 0 := by
  have hv : Val (EdC ps cs) (fun q => if q = p then 0 else L q) := by
    intro a b k he
    have h1 := hL.1 a b k he
    have ha : ¬ a = p := by
      rintro rfl
      obtain ⟨c, j, ls, hh, l, e1, e2, e3, -⟩ := he
      exact h ⟨c, ls, hh, e1, e2, e3, (List.getElem?_eq_some_iff.mp e1).1⟩
    show (if b = p then 0 else L b) + k ≤ (if a = p then 0 else L a)
    rw [if_neg ha]
    split
    · omega
    · exact h1
  have := hL.2 _ hv p
  rw [if_pos rfl] at this
  omega
/-- strataCount is one more than the highest stratum -/
theorem Bo_sc (hL : Lst (EdC ps cs) L) (hS : ScQ ps L ps.length S) (hly : LyQ ps cs L hi) : S = if ps.length = 0 then 0 else hi + 1 := by
  obtain ⟨s1, s2⟩ := hS
  obtain ⟨l1, l2⟩ := hly
  rcases s2 with ⟨z1, z2⟩ | ⟨q, q1, q2⟩
  · rw [if_pos z2]
    exact z1
  · rw [if_neg (by omega)]
    have h1 : L q ≤ hi := by
      by_cases z : Hd ps cs cs.length q
      · exact l1 q z
      · rw [Bo_hd hL z]
        exact Nat.zero_le _
    have h2 : hi ≤ L q := by
      rcases l2 with z | ⟨a, a1, a2⟩
      · omega
      · obtain ⟨c, ls, hh, -, -, a3, -⟩ := a1
        have := s1 a (List.getElem?_eq_some_iff.mp a3).1
        omega
    omega
end CBo
