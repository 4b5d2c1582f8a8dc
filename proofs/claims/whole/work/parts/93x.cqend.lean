/-! pure: a question is read -/
section CQe
variable {n k : Nat} {F : Nat → Int32} {ar rk : Nat → Nat} {ps : List Wd} {cn : List Con} {c : Ct} {D : Dt} {code place an st bz ih fg ns ne po vz vu : Int32} {vS vL : Nat → Int32} {vN : Nat} {vT ND : Nat → Int32} {oz ou : Int32} {oS oL : Nat → Int32} {oN : Nat} {oT OZ : Nat → Int32} {sz su : Int32} {sS sL : Nat → Int32} {sN : Nat} {sT sV sB : Nat → Int32} {pz pu : Int32} {pS pL : Nat → Int32} {pN : Nat} {pT PZ : Nat → Int32} {cz cu : Int32} {cS cL : Nat → Int32} {cN : Nat} {cT cV cB : Nat → Int32} {tz tl : Int32} {FF K P Pl Z M TT : Nat → Int32} {code2 place2 tz2 : Int32} {FF2 : Nat → Int32}
theorem Qu_end (hEn : Ends 1 F n (6, 0, 0) (D00 ps cn) 0 (.inr D)) (hQ : RdQ 1 n F ar rk (ps, cn) c D k code place an st bz ih fg ns ne po vz vu vS vL vN vT ND oz ou oS oL oN oT OZ sz su sS sL sN sT sV sB pz pu pS pL pN pT PZ cz cu cS cL cN cT cV cB tz tl FF K P Pl Z M TT) (hFi : FinQ 1 ar c D code place tz FF code2 place2 tz2 FF2) : (code2 = 0 ∧ AsR ps cn ar F n (.inr (D.2.1, D.2.2.2.1)) ∧ QuK F ps cn rk ar D.2.1 D.2.2.2.1 K P Z M TT cV cB ∧ FF2 1 = nI D.2.1.length ∧ vz = nI D.2.2.2.1.length ∧ MK (fun j => D.2.2.2.1[j]? = some none) an ∧ D.2.2.2.1.length ≤ 12) ∨ (∃ e : Nat × Nat, AsR ps cn ar F n (.inl e) ∧ 1 ≤ e.1 ∧ e.1 ≤ 20 ∧ e.2 ≤ 65536 ∧ code2 = nI e.1 ∧ place2 = nI e.2) := by
  obtain ⟨⟨-, hDI, -, -, hMS, hM1⟩, hq, -, hV, -, -, hP, hC, hT, -⟩ := hQ
  have hq2 := hq (by decide)
  have e1 : D.2.2.2.2.1 = ps := congrArg Prod.fst hq2
  have e2 : D.2.2.2.2.2 = cn := congrArg Prod.snd hq2
  have hD1 : D.1 = [] := hM1.1 (by decide)
  have hLc : Lc D = D.2.1 := by
    unfold Lc
    rw [hD1]
    rfl
  rcases hFi with ⟨hc, -⟩ | ⟨hc, -, hW, -, hF2⟩
  · exfalso
    rcases hc with hc | hc
    · exact absurd (hMS.2.2.1 (Or.inl hc)) (by decide)
    · rcases hMS.2.2.2.2.2 hc with w | w <;> exact absurd w (by decide)
  have hWQ : ∀ c p, (WN 1 ar D c p ∨ W11 1 D.2.1 D.2.1.length c p) ↔ QWA ps ar D.2.1 c p := by
    intro c p
    unfold WN QWA
    rw [if_neg (by decide), e1]
  rcases hW with ⟨w1, w2⟩ | ⟨c9, p9, w1, w2, w3, w4, w5, w6, w7⟩
  · have hno : ∀ c p, ¬ QWA ps ar D.2.1 c p := fun c p w => w2 c p ((hWQ c p).mpr w)
    obtain ⟨v1, v2, v3, v4, v5⟩ := (hV.1 (by omega)).1
    have hls : lsO c D = D.2.1 := by
      unfold lsO
      rw [if_neg (by omega)]
    rw [hls] at v5
    have hV0 : VU (6, 0, 0) (D00 ps cn) := by
      refine ⟨fun x hx => ?_, fun x hx => ?_⟩
      · have hx' : ([] : List (Option Wd))[x]? = some none := hx
        rw [List.getElem?_nil] at hx'
        cases hx'
      · rcases hx with ⟨l, l1, -⟩ | ⟨w, -⟩
        · cases l1
        · unfold opo at w
          exact absurd w (by decide)
    have hVI : VI (6, 0, 0) (D00 ps cn) := fun j hj => absurd (show j < 0 from hj) (by omega)
    refine Or.inl ⟨w1, Or.inr ⟨D, hEn, Or.inr ⟨hno, rfl⟩⟩, ⟨fun i l hi => ⟨?_, ?_⟩, ?_, ⟨?_, ?_⟩, ⟨?_, ?_⟩, Qu_sf (fun c p w => hno c p (Or.inr w)), Qu_ar (fun c p w => hno c p (Or.inl w)), Ends_vi (by decide) (by decide) (by decide) hVI hEn, Ends_vu (by decide) (by decide) (by decide) hV0 hEn, v5⟩, ?_, ?_, v2, hDI.2.2.2.2.1⟩
    · have := hT.2.2.2 i l (by rw [hLc]; exact hi)
      unfold CLm at this
      rw [if_neg (by decide), e1, e2] at this
      exact this
    · have := hDI.2.1 l (List.mem_of_getElem? hi)
      rw [e1, e2] at this
      exact this
    · exact hDI.2.2.2.1
    · have := hC.1.2
      rw [e2] at this
      exact this
    · have := hC.1.1.1
      rw [List.length_map, e2] at this
      exact this
    · have := hDI.2.2.2.2.2.1
      rw [e1] at this
      exact this
    · have := hP.1.1
      rw [e1] at this
      exact this
    · rw [hF2, hD1, hLc]
      show upd FF 1 (nI D.2.1.length) 1 = nI D.2.1.length
      exact pk_us
    · have := v1.2.1
      rw [List.length_map] at this
      exact this
  · refine Or.inr ⟨(c9, p9), Or.inr ⟨D, hEn, Or.inl ⟨c9, p9, (hWQ c9 p9).mp w1, fun c2 p2 w => w7 c2 p2 ((hWQ c2 p2).mpr w), rfl⟩⟩, w2, w3, w4, w5, w6⟩
end CQe
