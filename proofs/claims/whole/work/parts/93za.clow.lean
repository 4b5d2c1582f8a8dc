/-! pure: how many strata are looked at does not matter -/
section CLw
variable {ps : List Wd} {cs : List (List Lt)} {L : Nat → Nat} {B : Fct → Prop} {s : Nat}
theorem Drv_hd {b : Bool} {X : Fct → Prop} {x : Fct} (h : Drv ps cs L s b X cs.length x) : Hd ps cs cs.length x.1 := by
  obtain ⟨c, ls, hd, v, h1, h2, h3, -, h5, -⟩ := h
  exact ⟨c, ls, hd, h2, h3, h5, h1⟩
theorem SgS_hd (hB : ∀ y, B y → Hd ps cs cs.length y.1) : ∀ (k : Nat) (x : Fct), SgS ps cs L B s k x → Hd ps cs cs.length x.1 := by
  intro k
  induction k with
  | zero =>
    rintro x (h | h)
    · exact hB x h
    · exact Drv_hd h
  | succ k ih =>
    rintro x (h | h)
    · exact ih x h
    · exact Drv_hd h
theorem Low_hd : ∀ (s : Nat) (x : Fct), Low ps cs L s x → Hd ps cs cs.length x.1 := by
  intro s
  induction s with
  | zero => exact fun x h => absurd h (fun w => w)
  | succ s ih =>
    rintro x ⟨k, h⟩
    exact SgS_hd ih k x h
/-- S is above the strata of all heads -/
def AbQ (ps : List Wd) (cs : List (List Lt)) (L : Nat → Nat) (S : Nat) : Prop := ∀ a, Hd ps cs cs.length a → L a < S
theorem Low_ab {S1 S2 : Nat} (h2 : AbQ ps cs L S2) (x : Fct) (h : Low ps cs L S1 x) : Low ps cs L S2 x := Low_lt (h2 _ (Low_hd S1 x h)) h
theorem Low_same {S1 S2 : Nat} (h1 : AbQ ps cs L S1) (h2 : AbQ ps cs L S2) (x : Fct) : Low ps cs L S1 x ↔ Low ps cs L S2 x := ⟨Low_ab h2 x, Low_ab h1 x⟩
theorem SgS_fin : ∀ l : List Fct, (∀ x ∈ l, ∃ k, SgS ps cs L B s k x) → ∃ k, ∀ x ∈ l, SgS ps cs L B s k x := by
  intro l
  induction l with
  | nil => exact fun _ => ⟨0, fun x hx => (by cases hx)⟩
  | cons y l ih =>
    intro h
    obtain ⟨k, hk⟩ := ih (fun x hx => h x (List.mem_cons_of_mem _ hx))
    obtain ⟨j, hj⟩ := h y (List.mem_cons_self ..)
    refine ⟨k + j, fun x hx => ?_⟩
    rcases List.mem_cons.mp hx with rfl | hx
    · exact SgS_le (by omega) hj
    · exact SgS_le (by omega) (hk x hx)
theorem Ovf_ab {S1 S2 : Nat} (h2 : AbQ ps cs L S2) (h : Ovf ps cs L S1) : Ovf ps cs L S2 := by
  obtain ⟨s, k, l, q1, q2, q3, q4⟩ := h
  rcases Nat.lt_or_ge s S2 with z | z
  · exact ⟨s, k, l, z, q2, q3, q4⟩
  · have hl : ∀ x ∈ l, Low ps cs L S2 x := fun x hx => Low_ab (S1 := s + 1) h2 x ⟨k, q3 x hx⟩
    cases S2 with
    | zero =>
      cases l with
      | nil => exact absurd q4 (by rw [List.length_nil]; omega)
      | cons y l => exact absurd (hl y (List.mem_cons_self ..)) (fun w => w)
    | succ S =>
      obtain ⟨k2, hk2⟩ := SgS_fin l hl
      exact ⟨S, k2, l, by omega, q2, hk2, q4⟩
theorem Ovf_same {S1 S2 : Nat} (h1 : AbQ ps cs L S1) (h2 : AbQ ps cs L S2) : Ovf ps cs L S1 ↔ Ovf ps cs L S2 := ⟨Ovf_ab h2, Ovf_ab h1⟩
theorem Ab_ly {hi : Nat} (h : LyQ ps cs L hi) : AbQ ps cs L (hi + 1) := fun a ha => by
  have := h.1 a ha
  omega
theorem Ab_sc {hi : Nat} (h : ScQ ps L ps.length hi) : AbQ ps cs L hi := fun a ha => by
  obtain ⟨c, ls, hd, -, -, h3, -⟩ := ha
  have := h.1 a (List.getElem?_eq_some_iff.mp h3).1
  omega
/-- not both -/
theorem Ovf_no {S : Nat} {fs : List Fct} (h : ∀ x, x ∈ fs ↔ Low ps cs L S x) (hl : fs.length ≤ 20000) : ¬ Ovf ps cs L S := by
  rintro ⟨s, k, l, q1, q2, q3, q4⟩
  have hsub : ∀ x ∈ l, x ∈ fs := fun x hx => (h x).mpr (Low_le (show s + 1 ≤ S by omega) ⟨k, q3 x hx⟩)
  have := List.Nodup.length_le_of_subset q2 hsub
  omega
end CLw
