/-! pure: the model's table of facts -/
def mhs (h : Int32) : List Int32 → Int32
  | [] => h
  | x :: xs => mhs ((h ^^^ x) * (40503 : Int32) + (h.toUInt32 >>> ((11 : Int32).toUInt32 &&& Int32.toUInt32 31)).toInt32) xs
def mh (p : Int32) (ts : List Int32) : Nat := (mhs (p * 31 + 7) ts).toBitVec.toNat % 65536
theorem mh_lt (p : Int32) (ts : List Int32) : mh p ts < 65536 := Nat.mod_lt _ (by omega)
/-- the model's facts -/
def MoT (fs : List (Int32 × List Int32)) (FP FT Tb : Nat → Int32) : Prop := fs.length ≤ 20000 ∧ (∀ f x, fs[f]? = some x → FP f = x.1 ∧ x.2.length ≤ 6 ∧ sl FT (6 * f) x.2.length = x.2) ∧ HT 65536 fs.length (tn Tb) (fun f => mh (fs.getD f (0, [])).1 (fs.getD f (0, [])).2) ∧ (∀ i, i < 65536 → ∃ k, k ≤ fs.length ∧ Tb i = nI k)
theorem gd_at {α : Type} {l : List α} {i : Nat} {x d : α} (h : l[i]? = some x) : l.getD i d = x := by rw [List.getD_eq_getElem?_getD, h]; rfl
section MFind
variable {post : Int32 → Int32 → Prop} {fs : List (Int32 × List Int32)} {FP FT Tb Sg : Nat → Int32} {p : Int32} {n : Nat}
/-- found, or the free place where it would stand -/
def MfQ (fs : List (Int32 × List Int32)) (Tb : Nat → Int32) (p : Int32) (ts : List Int32) (r pl : Int32) : Prop := (∃ f, fs[f]? = some (p, ts) ∧ r = nI f) ∨ (r = -1 ∧ (p, ts) ∉ fs ∧ ∃ d, d < 65536 ∧ pl = nI ((mh p ts + d) % 65536) ∧ Tb ((mh p ts + d) % 65536) = 0 ∧ ∀ e, e < d → ¬ tn Tb ((mh p ts + e) % 65536) = 0)
theorem sp_mf_cmp {J : Int32 → Prop} {f : Nat} {pl : Int32} (hf : f < 20001) (hn : n ≤ 6) (hy : sl FT (6 * f) n = sl Sg 0 n → post (nI f) pl) (hno : ¬ sl FT (6 * f) n = sl Sg 0 n → ∀ y : Int32, y = pl + 1 → ∀ z : Int32, z = y &&& (65535 : Int32) → J z) : ∀ m i : Nat, i + m = n → ∀ b : Bool, (b = true → ∀ j, j < i → FT (6 * f + j) = Sg j) → (b = false → ¬ sl FT (6 * f) n = sl Sg 0 n) → lw_met_Mo_find_97 post J (nI n) (nI f) FT Sg pl (m + 1) (nI i, b01 b) := by
  have j144 : ∀ b : Bool, (b = true → sl FT (6 * f) n = sl Sg 0 n) → (b = false → ¬ sl FT (6 * f) n = sl Sg 0 n) → jw_met_Mo_find_144 post J (b01 b) pl (nI f) () := by
    intro b h1 h2
    exact b01_if (fun z => hno (h2 z)) (fun z => hy (h1 z))
  have fin : ∀ i : Nat, n ≤ i → ∀ b : Bool, (b = true → ∀ j, j < i → FT (6 * f + j) = Sg j) → (b = false → ¬ sl FT (6 * f) n = sl Sg 0 n) → jw_met_Mo_find_144 post J (b01 b) pl (nI f) () := by
    intro i hi b h1 h2
    exact j144 b (fun z => sl_eq n (6 * f) 0 (fun j hj => by rw [Nat.zero_add]; exact h1 z j (by omega))) h2
  intro m
  induction m with
  | zero =>
    intro i hi b h1 h2
    exact pk_le n i (fun _ => fin i (by omega) b h1 h2) (fun q => absurd q (by omega))
  | succ m ih =>
    intro i hi b h1 h2
    refine pk_le n i (fun q => absurd q (by omega)) (fun _ => ?_)
    refine b01_if (fun z => ?_) (fun z => ?_)
    · subst z
      exact j144 false (fun z => absurd z (by decide)) h2
    · subst z
      intro y28 h28 y29 h29
      rw [show (6 : Int32) = nI 6 from rfl, pk_mul] at h28
      rw [h28, nI_add] at h29
      subst h29
      refine ⟨vp_in_nI (by omega) (by omega), fun y31 h31 => ⟨vp_in_nI (by omega) (by omega), fun y33 h33 y34 h34 => ?_⟩⟩
      rw [nI_clamp (by omega)] at h31 h33
      rw [h31, h33, b01_dec] at h34
      rw [h34, nI_1]
      refine ih (i + 1) (by omega) _ (fun z j hj => ?_) (fun z z2 => ?_)
      · rcases Nat.lt_or_ge j i with g | g
        · exact h1 rfl j g
        · obtain rfl : j = i := by omega
          exact of_decide_eq_true z
      · have := sl_at n (6 * f) 0 z2 i (by omega)
        rw [Nat.zero_add] at this
        exact of_decide_eq_false z this
theorem sp_mf_lp (hM : MoT fs FP FT Tb) (hn : n ≤ 6) (hp : ∀ x, x ∈ fs → x.1 = p → x.2.length = n) (h : ∀ r pl, MfQ fs Tb p (sl Sg 0 n) r pl → post r pl) : ∀ m d : Nat, d + m = 65536 → (∀ e, e < d → ¬ tn Tb ((mh p (sl Sg 0 n) + e) % 65536) = 0 ∧ ¬ (fs.getD (tn Tb ((mh p (sl Sg 0 n) + e) % 65536) - 1) (0, []) = (p, sl Sg 0 n))) → lw_met_Mo_find_51 post Tb FP p (nI n) FT Sg (m + 1) (nI ((mh p (sl Sg 0 n) + d) % 65536)) := by
  obtain ⟨hl, hR, hH, hT⟩ := hM
  obtain ⟨q, hqe⟩ : ∃ q, q = mh p (sl Sg 0 n) := ⟨_, rfl⟩
  have hq : q < 65536 := by rw [hqe]; exact mh_lt _ _
  rw [← hqe]
  intro m
  induction m with
  | zero =>
    intro d hd he
    exfalso
    obtain ⟨d0, g1, g2⟩ := HT_stop hH (by omega) hq
    exact (he d0 (by omega)).1 g2
  | succ m ih =>
    intro d hd he
    have hsl : (q + d) % 65536 < 65536 := Nat.mod_lt _ (by omega)
    have cs : (nI ((q + d) % 65536)).toNatClampNeg = (q + d) % 65536 := nI_clamp (by omega)
    obtain ⟨k, hk, ek⟩ := hT _ hsl
    have etn : tn Tb ((q + d) % 65536) = k := by
      unfold tn
      rw [ek]
      exact nI_clamp (by omega)
    have hin : vp_in (nI ((q + d) % 65536)) 65536 := vp_in_nI hsl (by omega)
    refine ⟨hin, fun y17 h17 => ?_⟩
    rw [cs, ek] at h17
    subst h17
    cases k with
    | zero =>
      refine ⟨fun _ => ?_, fun z => absurd (by decide) z⟩
      refine h _ _ (Or.inr ⟨rfl, fun z => ?_, d, by omega, by rw [← hqe], by rw [← hqe, ek]; rfl, fun e he2 => by rw [← hqe]; exact (he e he2).1⟩)
      obtain ⟨f, hf, ef⟩ := List.mem_iff_getElem.mp z
      have := HT_none (M := fun f => fs.getD f (0, []) = (p, sl Sg 0 n)) hH (fun f hf hm => by show mh _ _ = q; rw [hm, hqe]) he (by rw [etn]) f hf
      exact this (gd_at (by rw [List.getElem?_eq_getElem hf, ef]))
    | succ f =>
      have hf : f < fs.length := by omega
      have hfx : fs[f]? = some fs[f] := List.getElem?_eq_getElem hf
      obtain ⟨r1, r2, r3⟩ := hR f _ hfx
      have egd : fs.getD f (0, []) = fs[f] := gd_at hfx
      have hmem : fs[f] ∈ fs := List.getElem_mem hf
      generalize fs[f] = x at hfx r1 r2 r3 egd hmem
      refine ⟨fun z => absurd z (nI_nle (by omega) (by omega)), fun _ => ⟨hin, fun y19 h19 y20 h20 => ?_⟩⟩
      rw [cs, ek] at h19
      rw [h19, nI_pred] at h20
      subst h20
      refine ⟨vp_in_nI (by omega) (by omega), fun y22 h22 y23 h23 => ?_⟩
      rw [nI_clamp (by omega), r1] at h22
      rw [h22, b01_dec] at h23
      rw [h23]
      have go : ¬ x = (p, sl Sg 0 n) → ∀ y : Int32, y = nI ((q + d) % 65536) + 1 → ∀ z : Int32, z = y &&& (65535 : Int32) → lw_met_Mo_find_51 post Tb FP p (nI n) FT Sg (m + 1) z := by
        intro hnm y hy z hz
        rw [hy, nI_1, pk_andN (by omega) 16 (by decide)] at hz
        rw [hz, show (2 ^ 16 : Nat) = 65536 from rfl, mod_next]
        refine ih (d + 1) (by omega) (fun e he2 => ?_)
        rcases Nat.lt_or_ge e d with g | g
        · exact he e g
        · obtain rfl : e = d := by omega
          rw [etn]
          refine ⟨by omega, ?_⟩
          rw [show f + 1 - 1 = f by omega, egd]
          exact hnm
      by_cases hpx : x.1 = p
      · have hlen := hp x hmem hpx
        rw [hlen] at r3
        refine ⟨n + 1, sp_mf_cmp (by omega) hn (fun z => ?_) (fun z => go (fun z2 => z ?_)) n 0 (by omega) _ (fun _ j hj => absurd hj (by omega)) (fun z => absurd hpx (of_decide_eq_false z))⟩
        · refine h _ _ (Or.inl ⟨f, ?_, rfl⟩)
          rw [hfx, ← hpx, ← z, r3]
        · rw [r3, z2]
      · have e0 : decide (x.1 = p) = false := decide_eq_false hpx
        rw [e0]
        obtain ⟨n0, hn0⟩ : ∃ n0, n0 = n := ⟨n, rfl⟩
        have j : ∀ i : Nat, ∃ k, lw_met_Mo_find_97 post (fun x9 => lw_met_Mo_find_51 post Tb FP p (nI n) FT Sg (m + 1) x9) (nI n) (nI f) FT Sg (nI ((q + d) % 65536)) k (nI 0, b01 false) := by
          intro i
          refine ⟨1, ?_⟩
          have j144 : jw_met_Mo_find_144 post (fun x9 => lw_met_Mo_find_51 post Tb FP p (nI n) FT Sg (m + 1) x9) (b01 false) (nI ((q + d) % 65536)) (nI f) () := ⟨fun _ => go (fun z2 => hpx (by rw [z2])), fun z => absurd rfl z⟩
          exact ⟨fun _ => j144, fun _ => ⟨fun _ => j144, fun z => absurd rfl z⟩⟩
        exact j 0
theorem sp_mf_hash (hM : MoT fs FP FT Tb) (hn : n ≤ 6) (hp : ∀ x, x ∈ fs → x.1 = p → x.2.length = n) (h : ∀ r pl, MfQ fs Tb p (sl Sg 0 n) r pl → post r pl) : ∀ m i : Nat, i + m = n → ∀ v : Int32, mhs v (sl Sg i m) = mhs (p * 31 + 7) (sl Sg 0 n) → lw_met_Mo_find_11 post (nI n) Sg Tb FP p FT (m + 1) (nI i, v) := by
  intro m
  induction m with
  | zero =>
    intro i hi v hv
    refine pk_le n i (fun _ => ?_) (fun q => absurd q (by omega))
    intro y13 h13
    have e : y13 = nI ((mh p (sl Sg 0 n) + 0) % 65536) := by
      have hv2 : v = mhs (p * 31 + 7) (sl Sg 0 n) := hv
      rw [h13, pk_and v 16 (by decide), hv2, Nat.add_zero, Nat.mod_eq_of_lt (mh_lt _ _)]
      rfl
    rw [e]
    exact ⟨65536 + 1, sp_mf_lp hM hn hp h 65536 0 (by omega) (fun e he => absurd he (by omega))⟩
  | succ m ih =>
    intro i hi v hv
    refine pk_le n i (fun q => absurd q (by omega)) (fun _ => ⟨vp_in_nI (by omega) (by omega), fun y8 h8 y9 h9 y10 h10 y11 h11 y12 h12 => ?_⟩)
    rw [nI_clamp (by omega)] at h8
    rw [nI_1]
    refine ih (i + 1) (by omega) y12 ?_
    rw [← hv, h12, h10, h9, h8, h11]
    rfl
theorem sp_Mo_find (hM : MoT fs FP FT Tb) (hn : n ≤ 6) (hp : ∀ x, x ∈ fs → x.1 = p → x.2.length = n) (h : ∀ r pl, MfQ fs Tb p (sl Sg 0 n) r pl → post r pl) : wp_met_Mo_find post p (nI n) FP FT Tb Sg := by
  intro y1 h1 y2 h2
  rw [h2, h1]
  exact ⟨n + 1, sp_mf_hash hM hn hp h n 0 (by omega) _ rfl⟩
end MFind
