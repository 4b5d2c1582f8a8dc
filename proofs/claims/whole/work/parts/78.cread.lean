/-! pure: the class's reader, whole -/
theorem sp_Ar_fill {post : (Nat → Int32) → Prop} {na : Nat} {x : Int32} {fa : Nat → Int32} (hna : na < 1000000) (h : ∀ g, (∀ j, j < na → g j = x) → post g) : wp_met_Ar_fill post na x fa := by
  have go : ∀ d i, i + d = na → ∀ g, (∀ j, j < i → g j = x) → lw_met_Ar_fill_5 post na x (d + 1) (nI i, g) := by
    intro d
    induction d with
    | zero =>
      intro i hi g hg
      exact pk_le na i (fun _ => h g (fun j hj => hg j (by omega))) (fun z => absurd z (by omega))
    | succ d ih =>
      intro i hi g hg
      refine pk_le na i (fun z => absurd z (by omega)) (fun _ => ?_)
      refine ⟨vp_in_nI (by omega) (by omega), fun g5 h5 => ?_⟩
      rw [nI_clamp (by omega)] at h5
      subst h5
      rw [nI_1]
      refine ih (i + 1) (by omega) _ (fun j hj => ?_)
      rcases Nat.lt_or_ge j i with z | z
      · rw [upd_ne (by omega)]
        exact hg j z
      · obtain rfl : j = i := by omega
        exact upd_same
  exact ⟨_, go na 0 (by omega) fa (fun j hj => absurd hj (by omega))⟩
theorem CBr_clear {lim nT : Nat} {cs : List Con} {rk : Nat → Nat} {sz us : Int32} {S L T V BR : Nat → Int32} (h : CBr lim cs rk sz us S L nT T V BR) : CBr lim [] rk 0 0 S L nT T V BR := ⟨NB_clear h.1, fun i hi => absurd hi (by simp), fun i hi => absurd hi (by simp), fun q r _ hr => absurd hr (by simp), fun i hi => absurd hi (by simp)⟩
theorem WN_00 {md : Nat} {ar : Nat → Nat} {ps : List Wd} {cn : List Con} {c p : Nat} (h : md = 0 → ps = ps) : ¬ WN md ar (D00 ps cn) c p := by
  intro z
  unfold WN at z
  by_cases m0 : md = 0
  · rw [if_pos m0] at z
    rcases z with ⟨ls, hl, -⟩ | ⟨-, l, hl, -⟩
    · cases hl
    · cases hl
  · rw [if_neg m0] at z
    obtain ⟨-, k, l, hk, -⟩ := z
    exact absurd hk (Nat.not_lt_zero _)
theorem MI_00l {n : Nat} {F : Nat → Int32} : MI 0 n F (0, 0, 0) (D00 [] []) 0 := by
  refine ⟨⟨Nat.zero_le _, fun z => absurd z (show ¬ (0 : Nat) = 7 by decide)⟩, DI_00 List.nodup_nil List.nodup_nil (fun c hc => (by cases hc)), rfl, NI_na (by decide) (by decide) (by decide) (by decide) ⟨fun l hl => (by cases hl), fun _ w hw => (by cases hw)⟩, ⟨Or.inl rfl, by decide, fun _ => rfl, fun z => absurd z (by decide), fun z => absurd z (by decide), fun z => absurd z (show ¬ (0 : Nat) = 11 by decide)⟩, ⟨fun _ => rfl, Nat.zero_le _, fun _ => by decide⟩⟩
theorem MI_00q {md n : Nat} {F : Nat → Int32} {ps : List Wd} {cn : List Con} (hmd : md = 1 ∨ md = 2 ∨ md = 3) (h1 : ps.Nodup) (h2 : cn.Nodup) (h3 : ∀ c ∈ cn, wOk c) : MI md n F (if md = 1 then 6 else 1, 0, 0) (D00 ps cn) 0 := by
  have m0 : ¬ md = 0 := by omega
  have hna : NA md n F (D00 ps cn) := ⟨fun l hl => (by cases hl), fun z => absurd z m0⟩
  by_cases m1 : md = 1
  · rw [if_pos m1]
    refine ⟨⟨Nat.zero_le _, fun z => absurd z (show ¬ (6 : Nat) = 7 by decide)⟩, DI_00 h1 h2 h3, fun z => absurd z m0, NI_na (by decide) (by decide) (by decide) (by decide) hna, ⟨Or.inl rfl, by decide, fun z => ?_, fun z => ?_, fun z => ?_, fun z => absurd z (show ¬ (6 : Nat) = 11 by decide)⟩, ⟨fun _ => rfl, Nat.zero_le _, fun _ => (show 0 < 256 by decide)⟩⟩
    · exact absurd z (show ¬ ((6 : Nat) = 0 ∨ (6 : Nat) = 5) by decide)
    · omega
    · omega
  · rw [if_neg m1]
    refine ⟨⟨Nat.zero_le _, fun z => absurd z (show ¬ (1 : Nat) = 7 by decide)⟩, DI_00 h1 h2 h3, ⟨Or.inl rfl, fun z => absurd z m0, ?_, Nat.zero_le _⟩, NI_na (by decide) (by decide) (by decide) (by decide) hna, ⟨Or.inl rfl, by decide, fun z => ?_, fun z => Or.inl rfl, fun z => Or.inl rfl, fun z => absurd z (show ¬ (1 : Nat) = 11 by decide)⟩, ⟨fun _ => rfl, Nat.zero_le _, fun _ => (show 0 < 256 by decide)⟩⟩
    · show 0 < lim md
      unfold lim
      omega
    · exact absurd z (show ¬ ((1 : Nat) = 0 ∨ (1 : Nat) = 5) by decide)
section ReRQ
variable {md n mc ms : Nat} {F : Nat → Int32} {ar rk0 : Nat → Nat} {ps : List Wd} {cn : List Con} {op ol : Int32} {place fg ns ne : Int32} {vS vL : Nat → Int32} {vN : Nat} {vT ND oS oL : Nat → Int32} {oN : Nat} {oT OZ : Nat → Int32} {sz su : Int32} {sS sL : Nat → Int32} {sN : Nat} {sT sV sB : Nat → Int32} {pz pu : Int32} {pS pL : Nat → Int32} {pN : Nat} {pT PZ : Nat → Int32} {cz cu : Int32} {cS cL : Nat → Int32} {cN : Nat} {cT cV cB FF K P Pl Z M TT : Nat → Int32} {vtx : Nat} {kV : ClassId} {otx : Nat} {kO : ClassId} {stx : Nat} {kS : ClassId} {sR : Nat → Int32} {ptx : Nat} {kP : ClassId} {ctx : Nat} {kC : ClassId} {kd sa vl : Int32}
theorem sp_Re_read_Q {post : (Int32 × Int32 × Int32 × Int32 × Int32 × Int32 × Int32 × Int32 × Int32 × Int32 × Int32 × Int32 × Int32 × (Nat → Int32) × (Nat → Int32) × Nat × ClassId × Nat × (Nat → Int32) × Int32 × Int32 × Int32 × Int32 × Int32 × (Nat → Int32) × Int32 × Int32 × (Nat → Int32) × (Nat → Int32) × Nat × ClassId × Nat × (Nat → Int32) × (Nat → Int32) × Int32 × Int32 × (Nat → Int32) × (Nat → Int32) × Nat × ClassId × Nat × (Nat → Int32) × (Nat → Int32) × (Nat → Int32) × (Nat → Int32) × Int32 × Int32 × Int32 × Int32 × (Nat → Int32) × (Nat → Int32) × Nat × ClassId × Nat × (Nat → Int32) × (Nat → Int32) × Int32 × Int32 × (Nat → Int32) × (Nat → Int32) × Nat × ClassId × Nat × (Nat → Int32) × (Nat → Int32) × (Nat → Int32) × Int32 × Int32 × (Nat → Int32) × (Nat → Int32) × (Nat → Int32) × (Nat → Int32) × (Nat → Int32) × (Nat → Int32) × (Nat → Int32) × Nat × Nat) → Prop} (hmd : md = 1 ∨ md = 2 ∨ md = 3) (hn : n ≤ 20480) (hF : ∀ j, j < n → byt (F j)) (hmc : 2000 ≤ mc) (hms : 700000 ≤ ms) (hV : ∃ ws a b, NB 12 ws a b vS vL vN vT) (hO : ∃ ws a b, NB 12 ws a b oS oL oN oT) (hS : ∃ sd, CB 2 sd sz su sS sL sN sT sV sB) (hP : NB 64 ps pz pu pS pL pN pT) (hPZ : ∀ p, p < ps.length → PZ p = nI (ar p) ∧ ar p ≤ 6) (hC : CBr 1000 cn rk0 cz cu cS cL cN cT cV cB) (hnp : ps.Nodup) (hnc : cn.Nodup) (hwc : ∀ c ∈ cn, wOk c) (hFF : FF 0 = 0)
    (hI : ∀ {e : Nat × Nat} {rk : Nat → Nat} {an5 bz5 ih5 fg5 ns5 ne5 po5 vz5 vu5 : Int32} {vS5 vL5 : Nat → Int32} {vN5 : Nat} {vT5 ND5 : Nat → Int32} {oz5 ou5 : Int32} {oS5 oL5 : Nat → Int32} {oN5 : Nat} {oT5 OZ5 : Nat → Int32} {sz5 su5 : Int32} {sS5 sL5 : Nat → Int32} {sN5 : Nat} {sT5 sV5 sB5 : Nat → Int32} {pz5 pu5 : Int32} {pS5 pL5 : Nat → Int32} {pN5 : Nat} {pT5 PZ5 : Nat → Int32} {cz5 cu5 : Int32} {cS5 cL5 : Nat → Int32} {cN5 : Nat} {cT5 cV5 cB5 : Nat → Int32} {tz5 tl5 : Int32} {FF5 K5 P5 Pl5 Z5 M5 TT5 : Nat → Int32} {vtx5 : Nat} {kV5 : ClassId} {otx5 : Nat} {kO5 : ClassId} {stx5 : Nat} {kS5 : ClassId} {sR5 : Nat → Int32} {ptx5 : Nat} {kP5 : ClassId} {ctx5 : Nat} {kC5 : ClassId} {kc5 ks5 : Nat} {kd5 sa5 vl5 sb5 : Int32}, Ends md F n (if md = 1 then 6 else 1, 0, 0) (D00 ps cn) 0 (.inl e) → (¬ md = 0 → rk = rk0) → RF md ar rk (ps, cn) vz5 vu5 vS5 vL5 vN5 vT5 oz5 ou5 oS5 oL5 oN5 oT5 sz5 su5 sS5 sL5 sN5 sT5 sV5 sB5 pz5 pu5 pS5 pL5 pN5 pT5 PZ5 cz5 cu5 cS5 cL5 cN5 cT5 cV5 cB5 → FF5 0 = 0 → cst (vN + oN + sN + pN + cN) (vN5 + oN5 + sN5 + pN5 + cN5) kc5 ks5 → post (nI e.1, nI e.2, an5, nI md, 12, bz5, ih5, fg5, ns5, ne5, po5, vz5, vu5, vS5, vL5, vtx5, kV5, vN5, vT5, kd5, sa5, sb5, vl5, nI n, ND5, oz5, ou5, oS5, oL5, otx5, kO5, oN5, oT5, OZ5, sz5, su5, sS5, sL5, stx5, kS5, sN5, sT5, sV5, sB5, sR5, op, ol, pz5, pu5, pS5, pL5, ptx5, kP5, pN5, pT5, PZ5, cz5, cu5, cS5, cL5, ctx5, kC5, cN5, cT5, cV5, cB5, tz5, tl5, FF5, K5, P5, Pl5, Z5, M5, TT5, kc5, ks5))
    (hE : ∀ {c : Ct} {D : Dt} {k : Nat} {rk : Nat → Nat} {code5 place5 an5 st5 bz5 ih5 fg5 ns5 ne5 po5 vz5 vu5 : Int32} {vS5 vL5 : Nat → Int32} {vN5 : Nat} {vT5 ND5 : Nat → Int32} {oz5 ou5 : Int32} {oS5 oL5 : Nat → Int32} {oN5 : Nat} {oT5 OZ5 : Nat → Int32} {sz5 su5 : Int32} {sS5 sL5 : Nat → Int32} {sN5 : Nat} {sT5 sV5 sB5 : Nat → Int32} {pz5 pu5 : Int32} {pS5 pL5 : Nat → Int32} {pN5 : Nat} {pT5 PZ5 : Nat → Int32} {cz5 cu5 : Int32} {cS5 cL5 : Nat → Int32} {cN5 : Nat} {cT5 cV5 cB5 : Nat → Int32} {tz5 tl5 : Int32} {FF5 K5 P5 Pl5 Z5 M5 TT5 : Nat → Int32} {vtx5 : Nat} {kV5 : ClassId} {otx5 : Nat} {kO5 : ClassId} {stx5 : Nat} {kS5 : ClassId} {sR5 : Nat → Int32} {ptx5 : Nat} {kP5 : ClassId} {ctx5 : Nat} {kC5 : ClassId} {kc5 ks5 : Nat} {kd5 sa5 vl5 sb5 code2 place2 tz2 : Int32} {FF2 : Nat → Int32}, Ends md F n (if md = 1 then 6 else 1, 0, 0) (D00 ps cn) 0 (.inr D) → (¬ md = 0 → rk = rk0) → RdQ md n F ar rk (ps, cn) c D k code5 place5 an5 st5 bz5 ih5 fg5 ns5 ne5 po5 vz5 vu5 vS5 vL5 vN5 vT5 ND5 oz5 ou5 oS5 oL5 oN5 oT5 OZ5 sz5 su5 sS5 sL5 sN5 sT5 sV5 sB5 pz5 pu5 pS5 pL5 pN5 pT5 PZ5 cz5 cu5 cS5 cL5 cN5 cT5 cV5 cB5 tz5 tl5 FF5 K5 P5 Pl5 Z5 M5 TT5 → FinQ md ar c D code5 place5 tz5 FF5 code2 place2 tz2 FF2 → cst (vN + oN + sN + pN + cN) (vN5 + oN5 + sN5 + pN5 + cN5) kc5 ks5 → post (code2, place2, an5, nI md, 12, bz5, ih5, fg5, ns5, ne5, po5, vz5, vu5, vS5, vL5, vtx5, kV5, vN5, vT5, kd5, sa5, sb5, vl5, nI n, ND5, oz5, ou5, oS5, oL5, otx5, kO5, oN5, oT5, OZ5, sz5, su5, sS5, sL5, stx5, kS5, sN5, sT5, sV5, sB5, sR5, op, ol, pz5, pu5, pS5, pL5, ptx5, kP5, pN5, pT5, PZ5, cz5, cu5, cS5, cL5, ctx5, kC5, cN5, cT5, cV5, cB5, tz2, tl5, FF2, K5, P5, Pl5, Z5, M5, TT5, kc5, ks5)) : wp_met_Re_read post mc ms 12 12 vN 12 12 oN 2 2 sN 2 2 2 64 64 pN 1000 1000 cN 1000 1000 2 (rmo md) (rmo md) (rmo md) (rmo md) (rmo md) (6 * rmo md) vtx otx stx ptx ctx (nI md) (nI n) place fg ns ne vS vL vT kd sa vl ND oS oL oT OZ sz su sS sL sT sV sB sR op ol pz pu pS pL pT PZ cz cu cS cL cT cV cB F FF K P Pl Z M TT kV kO kS kP kC := by
  obtain ⟨ws, va, vb, hV⟩ := hV
  obtain ⟨os, oa, ob, hO⟩ := hO
  obtain ⟨sd, hS⟩ := hS
  have hmd4 : md < 4 := by omega
  have hm0 : ¬ md = 0 := by omega
  have sf1 : sf md = 1 := if_neg hm0
  have hle : vN + oN + sN + pN + cN ≤ 204800 := by
    have a1 := hV.2.2.2.2.2.2.1
    have a2 := hO.2.2.2.2.2.2.1
    have a3 := hS.1.2.2.2.2.2.2.1
    have a4 := hP.2.2.2.2.2.2.1
    have a5 := hC.1.2.2.2.2.2.2.1
    omega
  have hrm : rmo md = 13 := if_neg hm0
  have hMI : MI md n F (if md = 1 then 6 else 1, 0, 0) (D00 ps cn) 0 := MI_00q hmd hnp hnc hwc
  have hWN : WRc (WN md ar (D00 ps cn)) 0 place := Or.inl ⟨rfl, fun c p => WN_00 (fun z => absurd z hm0)⟩
  have hSz : SzQ md ps ar [] PZ [] OZ := ⟨fun z => absurd z hm0, fun z => absurd z hm0, fun _ => hPZ, fun _ => ⟨fun i w hi => (by cases hi), fun l hl => (by cases hl), Nat.le_refl _⟩⟩
  have hFQ : FFQ [] FF := fun c hc => by
    obtain rfl : c = 0 := Nat.le_zero.mp hc
    exact hFF
  by_cases m1 : md = 1
  · have es : (if md = 1 then 6 else 1 : Nat) = 6 := if_pos m1
    rw [es] at hMI hI hE
    subst m1
    refine ⟨fun z => absurd z (by decide), fun _ => ⟨fun _ => ⟨n + 2, ?_⟩, fun z => absurd rfl z⟩⟩
    refine rd_lp_Q (T0 := vN + oN + sN + pN + cN) (rk0 := rk0) (c0 := (6, 0, 0)) (D0 := D00 ps cn) hmd4 hm0 hn hF hmc hms hle hI hE (n + 2) (i := 0) (c := (6, 0, 0)) (D := D00 ps cn) (k := 0) (rk := rk0) ?_ (Nat.le_refl _) (by omega) (fun _ q => q) (fun _ => rfl) cst_0
    refine ⟨hMI, fun _ => rfl, rfl, ⟨fun _ => ⟨VQ_nil hV, Nat.le_refl _⟩, ⟨_, NB_clear hV⟩⟩, ⟨[], NB_clear hO, ⟨Nat.le_refl _, fun z => ?_⟩, hSz⟩, ⟨sd, hS, fun z => ?_⟩, ⟨hP, fun z => absurd z hm0⟩, ⟨hC, fun z => absurd z hm0⟩, ⟨rfl, fun _ => rfl, hFQ, fun i l hi => (by cases hi)⟩, ⟨fun z => ?_, fun z => ?_, fun z => ?_, fun z => ?_, fun z => absurd z (by simp)⟩, ⟨fun _ _ => ⟨0, rfl, rfl⟩, fun _ _ => Or.inl ⟨rfl, Nat.le_refl _⟩⟩, hWN⟩
    · exact absurd z (show ¬ ((6 : Nat) = 2 ∨ (6 : Nat) = 3 ∨ (6 : Nat) = 4) by decide)
    · exact absurd z (show ¬ ((6 : Nat) = 8 ∨ (6 : Nat) = 9) by decide)
    · exact absurd z (show ¬ ((6 : Nat) = 2 ∨ (6 : Nat) = 3 ∨ (6 : Nat) = 4) by decide)
    · exact absurd z (show ¬ ((6 : Nat) = 8 ∨ (6 : Nat) = 9) by decide)
    · exact absurd z (show ¬ (6 : Nat) = 1 by decide)
    · exact absurd z (show ¬ (6 : Nat) = 7 by decide)
  · have es : (if md = 1 then 6 else 1 : Nat) = 1 := if_neg m1
    rw [es] at hMI hI hE
    refine pk_eq md 0 (fun z => absurd z hm0) (fun _ => ?_) rfl rfl (by omega) (by omega)
    refine pk_eq md 1 (fun z => absurd z m1) (fun _ => ?_) rfl rfl (by omega) (by omega)
    refine sp_Cl_open (i := 0) (by omega) (by omega) ?_
    refine ⟨n + 2, ?_⟩
    refine rd_lp_Q (T0 := vN + oN + sN + pN + cN) (rk0 := rk0) (c0 := (1, 0, 0)) (D0 := D00 ps cn) hmd4 hm0 hn hF hmc hms hle hI hE (n + 2) (i := 0) (c := (1, 0, 0)) (D := D00 ps cn) (k := 0) (rk := rk0) ?_ (Nat.le_refl _) (by omega) (fun _ q => q) (fun _ => rfl) cst_0
    refine ⟨hMI, fun _ => rfl, rfl, ⟨fun _ => ⟨VQ_nil hV, Nat.le_refl _⟩, ⟨_, NB_clear hV⟩⟩, ⟨[], NB_clear hO, ⟨Nat.le_refl _, fun z => ?_⟩, hSz⟩, ⟨sd, hS, fun z => ?_⟩, ⟨hP, fun z => absurd z hm0⟩, ⟨hC, fun z => absurd z hm0⟩, ⟨rfl, fun _ => rfl, hFQ, fun i l hi => (by cases hi)⟩, ⟨fun z => ?_, fun z => ?_, fun _ => ⟨upd_same, upd_same, upd_same, fun z => absurd z (show ¬ (0 : Int32) = 1 by decide)⟩, fun z => ?_, fun z => absurd z (by simp)⟩, ⟨fun z1 _ => absurd z1 (by omega), fun _ _ => Or.inl ⟨rfl, by rw [sf1]; exact Nat.le_add_left _ _⟩⟩, hWN⟩
    · exact absurd z (show ¬ ((1 : Nat) = 2 ∨ (1 : Nat) = 3 ∨ (1 : Nat) = 4) by decide)
    · exact absurd z (show ¬ ((1 : Nat) = 8 ∨ (1 : Nat) = 9) by decide)
    · exact absurd z (show ¬ ((1 : Nat) = 2 ∨ (1 : Nat) = 3 ∨ (1 : Nat) = 4) by decide)
    · exact absurd z (show ¬ ((1 : Nat) = 8 ∨ (1 : Nat) = 9) by decide)
    · exact absurd z (show ¬ (1 : Nat) = 7 by decide)
end ReRQ
section ReRL
variable {n mc ms : Nat} {F : Nat → Int32} {ar rk0 : Nat → Nat} {q0 : List Wd × List Con} {place fg ns ne : Int32} {vS vL : Nat → Int32} {vN : Nat} {vT ND oS oL : Nat → Int32} {oN : Nat} {oT OZ : Nat → Int32} {sz su : Int32} {sS sL : Nat → Int32} {sN : Nat} {sT sV sB pS pL : Nat → Int32} {pN : Nat} {pT PZ cS cL : Nat → Int32} {cN : Nat} {cT cV cB FF K P Pl Z M TT : Nat → Int32} {vtx : Nat} {kV : ClassId} {otx : Nat} {kO : ClassId} {stx : Nat} {kS : ClassId} {sR : Nat → Int32} {ptx : Nat} {kP : ClassId} {ctx : Nat} {kC : ClassId} {kd sa vl : Int32}
theorem sp_Re_read_L {post : (Int32 × Int32 × Int32 × Int32 × Int32 × Int32 × Int32 × Int32 × Int32 × Int32 × Int32 × Int32 × Int32 × (Nat → Int32) × (Nat → Int32) × Nat × ClassId × Nat × (Nat → Int32) × Int32 × Int32 × Int32 × Int32 × Int32 × (Nat → Int32) × Int32 × Int32 × (Nat → Int32) × (Nat → Int32) × Nat × ClassId × Nat × (Nat → Int32) × (Nat → Int32) × Int32 × Int32 × (Nat → Int32) × (Nat → Int32) × Nat × ClassId × Nat × (Nat → Int32) × (Nat → Int32) × (Nat → Int32) × (Nat → Int32) × Int32 × Int32 × (Nat → Int32) × (Nat → Int32) × (Nat → Int32) × (Nat → Int32) × (Nat → Int32) × (Nat → Int32) × (Nat → Int32) × Int32 × Int32 × (Nat → Int32) × (Nat → Int32) × Nat × ClassId × Nat × (Nat → Int32) × (Nat → Int32) × Int32 × Int32 × (Nat → Int32) × (Nat → Int32) × Nat × ClassId × Nat × (Nat → Int32) × (Nat → Int32) × (Nat → Int32) × Nat × Nat) → Prop} (hn : n ≤ 20480) (hF : ∀ j, j < n → byt (F j)) (hmc : 2000 ≤ mc) (hms : 700000 ≤ ms) (hV : ∃ ws a b, NB 12 ws a b vS vL vN vT) (hO : ∃ ws a b, NB 12 ws a b oS oL oN oT) (hS : ∃ sd, CB 2 sd sz su sS sL sN sT sV sB) (hP : ∃ ps a b, NB 64 ps a b pS pL pN pT) (hC : ∃ cn rk a b, CBr 1000 cn rk a b cS cL cN cT cV cB) (hFF : FF 0 = 0)
    (hI : ∀ {e : Nat × Nat} {rk : Nat → Nat} {an5 bz5 ih5 fg5 ns5 ne5 po5 vz5 vu5 : Int32} {vS5 vL5 : Nat → Int32} {vN5 : Nat} {vT5 ND5 : Nat → Int32} {oz5 ou5 : Int32} {oS5 oL5 : Nat → Int32} {oN5 : Nat} {oT5 OZ5 : Nat → Int32} {sz5 su5 : Int32} {sS5 sL5 : Nat → Int32} {sN5 : Nat} {sT5 sV5 sB5 : Nat → Int32} {pz5 pu5 : Int32} {pS5 pL5 : Nat → Int32} {pN5 : Nat} {pT5 PZ5 : Nat → Int32} {cz5 cu5 : Int32} {cS5 cL5 : Nat → Int32} {cN5 : Nat} {cT5 cV5 cB5 : Nat → Int32} {tz5 tl5 : Int32} {FF5 K5 P5 Pl5 Z5 M5 TT5 : Nat → Int32} {vtx5 : Nat} {kV5 : ClassId} {otx5 : Nat} {kO5 : ClassId} {stx5 : Nat} {kS5 : ClassId} {sR5 : Nat → Int32} {ptx5 : Nat} {kP5 : ClassId} {ctx5 : Nat} {kC5 : ClassId} {kc5 ks5 : Nat} {kd5 sa5 vl5 sb5 : Int32}, Ends 0 F n (0, 0, 0) (D00 [] []) 0 (.inl e) → (¬ 0 = 0 → rk = rk0) → RF 0 ar rk q0 vz5 vu5 vS5 vL5 vN5 vT5 oz5 ou5 oS5 oL5 oN5 oT5 sz5 su5 sS5 sL5 sN5 sT5 sV5 sB5 pz5 pu5 pS5 pL5 pN5 pT5 PZ5 cz5 cu5 cS5 cL5 cN5 cT5 cV5 cB5 → FF5 0 = 0 → cst (vN + oN + sN + pN + cN) (vN5 + oN5 + sN5 + pN5 + cN5) kc5 ks5 → post (nI e.1, nI e.2, an5, 0, 12, bz5, ih5, fg5, ns5, ne5, po5, vz5, vu5, vS5, vL5, vtx5, kV5, vN5, vT5, kd5, sa5, sb5, vl5, nI n, ND5, oz5, ou5, oS5, oL5, otx5, kO5, oN5, oT5, OZ5, sz5, su5, sS5, sL5, stx5, kS5, sN5, sT5, sV5, sB5, sR5, tz5, tl5, FF5, K5, P5, Pl5, Z5, M5, TT5, pz5, pu5, pS5, pL5, ptx5, kP5, pN5, pT5, PZ5, cz5, cu5, cS5, cL5, ctx5, kC5, cN5, cT5, cV5, cB5, kc5, ks5))
    (hE : ∀ {c : Ct} {D : Dt} {k : Nat} {rk : Nat → Nat} {code5 place5 an5 st5 bz5 ih5 fg5 ns5 ne5 po5 vz5 vu5 : Int32} {vS5 vL5 : Nat → Int32} {vN5 : Nat} {vT5 ND5 : Nat → Int32} {oz5 ou5 : Int32} {oS5 oL5 : Nat → Int32} {oN5 : Nat} {oT5 OZ5 : Nat → Int32} {sz5 su5 : Int32} {sS5 sL5 : Nat → Int32} {sN5 : Nat} {sT5 sV5 sB5 : Nat → Int32} {pz5 pu5 : Int32} {pS5 pL5 : Nat → Int32} {pN5 : Nat} {pT5 PZ5 : Nat → Int32} {cz5 cu5 : Int32} {cS5 cL5 : Nat → Int32} {cN5 : Nat} {cT5 cV5 cB5 : Nat → Int32} {tz5 tl5 : Int32} {FF5 K5 P5 Pl5 Z5 M5 TT5 : Nat → Int32} {vtx5 : Nat} {kV5 : ClassId} {otx5 : Nat} {kO5 : ClassId} {stx5 : Nat} {kS5 : ClassId} {sR5 : Nat → Int32} {ptx5 : Nat} {kP5 : ClassId} {ctx5 : Nat} {kC5 : ClassId} {kc5 ks5 : Nat} {kd5 sa5 vl5 sb5 code2 place2 tz2 : Int32} {FF2 : Nat → Int32}, Ends 0 F n (0, 0, 0) (D00 [] []) 0 (.inr D) → (¬ 0 = 0 → rk = rk0) → RdQ 0 n F ar rk q0 c D k code5 place5 an5 st5 bz5 ih5 fg5 ns5 ne5 po5 vz5 vu5 vS5 vL5 vN5 vT5 ND5 oz5 ou5 oS5 oL5 oN5 oT5 OZ5 sz5 su5 sS5 sL5 sN5 sT5 sV5 sB5 pz5 pu5 pS5 pL5 pN5 pT5 PZ5 cz5 cu5 cS5 cL5 cN5 cT5 cV5 cB5 tz5 tl5 FF5 K5 P5 Pl5 Z5 M5 TT5 → FinQ 0 ar c D code5 place5 tz5 FF5 code2 place2 tz2 FF2 → cst (vN + oN + sN + pN + cN) (vN5 + oN5 + sN5 + pN5 + cN5) kc5 ks5 → post (code2, place2, an5, 0, 12, bz5, ih5, fg5, ns5, ne5, po5, vz5, vu5, vS5, vL5, vtx5, kV5, vN5, vT5, kd5, sa5, sb5, vl5, nI n, ND5, oz5, ou5, oS5, oL5, otx5, kO5, oN5, oT5, OZ5, sz5, su5, sS5, sL5, stx5, kS5, sN5, sT5, sV5, sB5, sR5, tz2, tl5, FF2, K5, P5, Pl5, Z5, M5, TT5, pz5, pu5, pS5, pL5, ptx5, kP5, pN5, pT5, PZ5, cz5, cu5, cS5, cL5, ctx5, kC5, cN5, cT5, cV5, cB5, kc5, ks5)) : wp_met_Re_read_L post mc ms 12 12 vN 12 12 oN 2 2 sN 2 2 2 257 (rmo 0) (rmo 0) (rmo 0) (rmo 0) (rmo 0) (6 * rmo 0) 64 64 pN 1000 1000 cN 1000 1000 vtx otx stx ptx ctx (nI n) place fg ns ne vS vL vT kd sa vl ND oS oL oT OZ sz su sS sL sT sV sB sR FF K P Pl Z M TT pS pL pT PZ cS cL cT cV cB F kV kO kS kP kC := by
  obtain ⟨ws, va, vb, hV⟩ := hV
  obtain ⟨os, oa, ob, hO⟩ := hO
  obtain ⟨sd, hS⟩ := hS
  obtain ⟨ps, pa, pb, hP⟩ := hP
  obtain ⟨cn, rk, ca, cb, hC⟩ := hC
  have hle : vN + oN + sN + pN + cN ≤ 204800 := by
    have a1 := hV.2.2.2.2.2.2.1
    have a2 := hO.2.2.2.2.2.2.1
    have a3 := hS.1.2.2.2.2.2.2.1
    have a4 := hP.2.2.2.2.2.2.1
    have a5 := hC.1.2.2.2.2.2.2.1
    omega
  have hWN : WRc (WN 0 ar (D00 [] [])) 0 place := Or.inl ⟨rfl, fun c p => WN_00 (fun _ => rfl)⟩
  have hFQ : FFQ [] FF := fun c hc => by
    obtain rfl : c = 0 := Nat.le_zero.mp hc
    exact hFF
  refine sp_Ar_fill (by omega) (fun PZ2 hz => ?_)
  refine ⟨n + 2, ?_⟩
  have hSz : SzQ 0 [] ar [] PZ2 [] OZ := ⟨fun _ i w hi => (by cases hi), fun _ p _ hp => hz p hp, fun z => absurd rfl z, fun z => absurd rfl z⟩
  refine rd_lp_L (T0 := vN + oN + sN + pN + cN) (rk0 := rk0) (c0 := (0, 0, 0)) (D0 := D00 [] []) (by omega) rfl hn hF hmc hms hle hI hE (n + 2) (i := 0) (c := (0, 0, 0)) (D := D00 [] []) (k := 0) (rk := rk) ?_ (Nat.le_refl _) (by omega) (fun _ q => q) (fun z => absurd rfl z) cst_0
  refine ⟨MI_00l, fun z => absurd rfl z, rfl, ⟨fun z => absurd rfl z, ⟨_, NB_clear hV⟩⟩, ⟨[], NB_clear hO, ⟨Nat.le_refl _, fun z => ?_⟩, hSz⟩, ⟨sd, hS, fun z => ?_⟩, ⟨NB_clear hP, fun _ => Nat.le_refl _⟩, ⟨CBr_clear hC, fun _ => Nat.le_refl _⟩, ⟨rfl, fun _ => rfl, hFQ, fun i l hi => (by cases hi)⟩, ⟨fun z => ?_, fun z => ?_, fun z => ?_, fun z => ?_, fun z => absurd z (by simp)⟩, ⟨fun _ z => absurd rfl z, fun z _ => absurd rfl z⟩, hWN⟩
  · exact absurd z (show ¬ ((0 : Nat) = 2 ∨ (0 : Nat) = 3 ∨ (0 : Nat) = 4) by decide)
  · exact absurd z (show ¬ ((0 : Nat) = 8 ∨ (0 : Nat) = 9) by decide)
  · exact absurd z (show ¬ ((0 : Nat) = 2 ∨ (0 : Nat) = 3 ∨ (0 : Nat) = 4) by decide)
  · exact absurd z (show ¬ ((0 : Nat) = 8 ∨ (0 : Nat) = 9) by decide)
  · exact absurd z (show ¬ (0 : Nat) = 1 by decide)
  · exact absurd z (show ¬ (0 : Nat) = 7 by decide)
end ReRL
