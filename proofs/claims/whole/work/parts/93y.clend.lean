/-! pure: a program is read -/
section CLe
variable {n k : Nat} {F : Nat → Int32} {ar rk : Nat → Nat} {q0 : List Wd × List Con} {c : Ct} {D : Dt} {code place an st bz ih fg ns ne po vz vu : Int32} {vS vL : Nat → Int32} {vN : Nat} {vT ND : Nat → Int32} {oz ou : Int32} {oS oL : Nat → Int32} {oN : Nat} {oT OZ : Nat → Int32} {sz su : Int32} {sS sL : Nat → Int32} {sN : Nat} {sT sV sB : Nat → Int32} {pz pu : Int32} {pS pL : Nat → Int32} {pN : Nat} {pT PZ : Nat → Int32} {cz cu : Int32} {cS cL : Nat → Int32} {cN : Nat} {cT cV cB : Nat → Int32} {tz tl : Int32} {FF K P Pl Z M TT : Nat → Int32} {code2 place2 tz2 : Int32} {FF2 : Nat → Int32}
/-- a program as it is read, before it is settled -/
def LdK (F : Nat → Int32) (D : Dt) (rk : Nat → Nat) (tz tl : Int32) (FF K P Pl Z M TT cV cB PZ : Nat → Int32) : Prop := (∀ c p, ¬ WA D.1 c p) ∧ CT F D.2.2.2.2.1 D.2.2.2.2.2 D.1 tz FF K P ∧ (∀ (i : Nat) (l : Lt), D.1.flatten[i]? = some l → CL0 D.2.2.2.2.1 D.2.2.2.2.2 i l K P Pl Z M TT) ∧ tl = nI D.1.flatten.length ∧ (CoR D.2.2.2.2.2 rk cV cB ∧ D.2.2.2.2.2.length ≤ 1000) ∧ (∀ ls ∈ D.1, SfL 1 ls) ∧ (∀ ls ∈ D.1, ∀ l ∈ ls, isA l → ∀ p : Nat, D.2.2.2.2.1[p]? = some l.2.1 → l.2.2.2.2.length = arF D.2.2.2.2.1 D.1 p) ∧ ∀ p, p < D.2.2.2.2.1.length → PZ p = nI (arF D.2.2.2.2.1 D.1 p)
theorem Ld_sf {ls : List Lt} (h0 : ∀ l, ls[0]? = some l → l.1 = 0) (h : ∀ c p, ¬ W11 0 ls ls.length c p) : SfL 1 ls := by
  intro l hl x hx
  obtain ⟨j, hj, e⟩ := List.getElem_of_mem hl
  have he := List.getElem?_eq_getElem hj
  rw [e] at he
  by_cases l0 : l.1 = 0 ∧ 1 ≤ j
  · exact ⟨j, l, l0.2, he, l0.1, hx⟩
  · obtain ⟨t, t1, t2⟩ := hx
    by_cases hb : bnd 0 ls x
    · obtain ⟨j2, l2, b1, b2, b3, t9, b4, b5⟩ := hb
      exact ⟨j2, l2, b2, b1, b3, t9, b4, b5⟩
    · refine absurd ⟨rfl, j, l, hj, he, ?_, t, t1, rfl, x, t2, hb⟩ (h 11 t.2)
      rcases Nat.lt_or_ge j 1 with z | z
      · left
        show j + 0 = 0
        omega
      · exact Or.inr (fun w => l0 ⟨w, z⟩)
theorem Ld_end (hEn : Ends 0 F n (0, 0, 0) (D00 [] []) 0 (.inr D)) (hQ : RdQ 0 n F ar rk q0 c D k code place an st bz ih fg ns ne po vz vu vS vL vN vT ND oz ou oS oL oN oT OZ sz su sS sL sN sT sV sB pz pu pS pL pN pT PZ cz cu cS cL cN cT cV cB tz tl FF K P Pl Z M TT) (hFi : FinQ 0 ar c D code place tz FF code2 place2 tz2 FF2) : (code2 = 0 ∧ LdK F D rk tz2 tl FF2 K P Pl Z M TT cV cB PZ) ∨ (∃ e : Nat × Nat, LdR F n (.inl e) ∧ 1 ≤ e.1 ∧ e.1 ≤ 20 ∧ e.2 ≤ 65536 ∧ code2 = nI e.1 ∧ place2 = nI e.2) := by
  obtain ⟨⟨-, hDI, hOI, hNI, hMS, hM1⟩, -, -, hV, hO, -, hP, hC, hT, -, -, hW⟩ := hQ
  have hc0 : c.1 = 0 ∧ code2 = code ∧ place2 = place ∧ tz2 = tz ∧ FF2 = FF := by
    rcases hFi with ⟨hc | hc, h⟩ | ⟨-, h, -⟩
    · exact ⟨hc, h⟩
    · rcases hMS.2.2.2.2.2 hc with w | w <;> exact absurd w (by decide)
    · exact absurd h (by decide)
  obtain ⟨hc, rfl, rfl, rfl, rfl⟩ := hc0
  have h21 : D.2.1 = [] := by
    unfold OI at hOI
    rw [if_pos hc] at hOI
    exact hOI
  have hLc : Lc D = D.1.flatten := by
    unfold Lc
    rw [h21, List.append_nil]
  have hNA : NA 0 n F D := hNI.2.1 (by unfold opn; omega)
  have hWQ : ∀ c p, WN 0 ar D c p ↔ WA D.1 c p := by
    intro c p
    unfold WN WA
    rw [if_pos rfl, hLc]
    exact Or.comm
  rcases hW with ⟨w1, w2⟩ | ⟨c9, p9, w1, w2, w3, w4, w5, w6, w7⟩
  · have hno : ∀ c p, ¬ WA D.1 c p := fun c p w => w2 c p ((hWQ c p).mpr w)
    have hcl : ∀ (i : Nat) (l : Lt), D.1.flatten[i]? = some l → CL0 D.2.2.2.2.1 D.2.2.2.2.2 i l K P Pl Z M TT := by
      intro i l hi
      have := hT.2.2.2 i l (by rw [hLc]; exact hi)
      unfold CLm at this
      rw [if_pos rfl] at this
      exact this
    refine Or.inl ⟨w1, hno, ⟨hT.1, hM1.2.1, hT.2.2.1, fun i l hi => ⟨(hcl i l hi).1.1, (hcl i l hi).2.2⟩, hDI.2.2.2.2.2.1, hP.1.1, hDI.1⟩, hcl, ?_, ⟨hC.1.2, ?_⟩, fun ls hls => ?_, fun ls hls l hl hA p hp => ?_, fun p hp => ?_⟩
    · have := hT.2.1 (by omega)
      rw [hLc] at this
      rw [this]
      unfold opc
      rw [if_neg (by omega)]
      rfl
    · have := hC.1.1.1
      rw [List.length_map] at this
      exact this
    · exact Ld_sf ((hDI.1 ls hls).2.2.2 rfl) (fun c p w => hno c p (Or.inr ⟨ls, hls, w⟩))
    · exact arF_of hno hls hl hA hp
    · obtain ⟨ows, -, -, hSz⟩ := hO
      have e := List.getElem?_eq_getElem hp
      have h1 := hSz.1 rfl p _ e
      rw [hLc, ar_all hNA h21 hno e] at h1
      rw [show 65 * 0 + p = p by omega] at h1
      exact h1
  · exact Or.inr ⟨(c9, p9), Or.inr ⟨D, hEn, Or.inl ⟨c9, p9, (hWQ c9 p9).mp w1, fun c2 p2 w => w7 c2 p2 ((hWQ c2 p2).mpr w), rfl⟩⟩, w2, w3, w4, w5, w6⟩
/-- settled -/
theorem PgK_of {L : Nat → Nat} {T2 ST : Nat → Int32} (h : LdK F D rk tz tl FF K P Pl Z M TT cV cB PZ) (hL : Lst (EdC D.2.2.2.2.1 D.1) L) (hL64 : ∀ p, L p ≤ 64) (hST : StA L ST) (hcl : ∀ (i : Nat) (l : Lt), D.1.flatten[i]? = some l → CLf D.2.2.2.2.1 D.2.2.2.2.2 rk i l K P Z M T2) : PgK F D.2.2.2.2.1 D.2.2.2.2.2 D.1 rk (arF D.2.2.2.2.1 D.1) L tz FF K P Z M T2 ST cV cB := ⟨h.2.1, hcl, h.2.2.2.2.1, ⟨hL, hL64, hST⟩, h.2.2.2.2.2.2.1, h.2.2.2.2.2.1⟩
end CLe
