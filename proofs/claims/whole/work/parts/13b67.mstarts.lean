/-! pure: the model begins a text -/
theorem nar_byt {x : Int32} (h : byt x) : vp_nar .byte x = x := by
  have e : x.toInt8.toInt32 = x := by
    apply Int32.toInt_inj.mp
    rw [Int8.toInt_toInt32, Int32.toInt_toInt8]
    have h1 := h.1
    have h2 := h.2
    rw [Int.bmod_def]
    omega
  have q := pk_vb x
  rw [e] at q
  exact q
section MStarts
variable {post : Int32 → (Int32 × Int32 × Int32 × Int32 × Int32 × Int32 × Int32 × Int64 × (Nat → Int32)) → Prop} {n o : Nat} {F T : Nat → Int32} {am : Int64}
theorem starts_lp (ho : o + n ≤ 196608) (hn : n ≤ 65536) (hT : ∀ j, j < n → byt (T j)) (h : ∀ F2, (∀ j, j < n → F2 (o + j) = T j) → (∀ j, ¬ (o ≤ j ∧ j < o + n) → F2 j = F j) → jw_met_Mo_starts_44 post (nI o) (nI (o + n)) F2 am ()) : ∀ (m k : Nat) (F1 : Nat → Int32), k + m = n → (∀ j, j < k → F1 (o + j) = T j) → (∀ j, ¬ (o ≤ j ∧ j < o + n) → F1 j = F j) → lw_met_Mo_starts_19 post (nI n) (nI o) T (nI (o + n)) am (m + 1) (nI k, F1) := by
  intro m
  induction m with
  | zero =>
    intro k F1 hk h1 h2
    refine pk_le n k (fun _ => h F1 (fun j hj => h1 j (by omega)) h2) (fun q => absurd q (by omega))
  | succ m ih =>
    intro k F1 hk h1 h2
    refine pk_le n k (fun q => absurd q (by omega)) (fun _ => ?_)
    intro y6 h6
    rw [nI_add] at h6
    subst h6
    refine ⟨vp_in_nI (by omega) (by omega), fun y8 h8 => ⟨vp_in_nI (by omega) (by omega), fun g10 h10 => ?_⟩⟩
    rw [nI_clamp (by omega)] at h8 h10
    rw [h8, nar_byt (hT k (by omega))] at h10
    rw [nI_1]
    refine ih (k + 1) g10 (by omega) (fun j hj => ?_) (fun j hj => ?_)
    · rw [h10]
      by_cases z : j = k
      · rw [z, upd_same]
      · rw [upd_ne (by omega)]
        exact h1 j (by omega)
    · rw [h10, upd_ne (by omega)]
      exact h2 j hj
theorem sp_Mo_starts (ho : o + n ≤ 196608) (hn : n ≤ 65536) (hT : ∀ j, j < n → byt (T j)) (hFb : ∀ j, j < 196608 → byt (F j))
    (h0 : ∀ F2 tk fr to am, (∀ j, j < n → F2 (o + j) = T j) → (∀ j, ¬ (o ≤ j ∧ j < o + n) → F2 j = F j) → (∀ j, j < 196608 → byt (F2 j)) → (TK (shf F2 o) n 0).1 = 1 → post 0 (1, nI (TK (shf F2 o) n 0).2.1, nI o, nI (o + n), tk, fr, to, am, F2))
    (h1 : ∀ F2 tk fr to am, (∀ j, j < n → F2 (o + j) = T j) → (∀ j, ¬ (o ≤ j ∧ j < o + n) → F2 j = F j) → (∀ j, j < 196608 → byt (F2 j)) → Cur (shf F2 o) n o 0 tk fr to am → post 1 (0, 0, nI o, nI (o + n), tk, fr, to, am, F2)) :
    wp_met_Mo_starts post (nI o) (nI n) am T F := by
  intro y1 hy
  rw [nI_add] at hy
  subst hy
  refine ⟨n + 1, starts_lp ho hn hT (fun F2 e1 e2 => ?_) n 0 F (by omega) (fun j hj => absurd hj (by omega)) (fun _ _ => rfl)⟩
  have hb : ∀ j, j < 196608 → byt (F2 j) := by
    intro j hj
    by_cases z : o ≤ j ∧ j < o + n
    · have := e1 (j - o) (by omega)
      rw [show o + (j - o) = j by omega] at this
      rw [this]
      exact hT _ (by omega)
    · rw [e2 j z]
      exact hFb j hj
  refine sp_Mo_nextR (k := 0) ho (fun j hj => hb j (by omega)) (Nat.zero_le _) (fun hbad tk fr to am => ⟨Or.inl rfl, h0 F2 tk fr to am e1 e2 hb hbad⟩) (fun tk fr to am hC => ⟨Or.inr rfl, h1 F2 tk fr to am e1 e2 hb hC⟩)
end MStarts
