theorem z0_eq {x : Int32} (h1 : ¬ x < 0) (h2 : x ≤ 0) : x = 0 := by
  have a := Int32.lt_iff_toInt_lt (x := x) (y := 0)
  have b := Int32.le_iff_toInt_le (x := x) (y := 0)
  rw [Int32.toInt_zero] at a b
  apply Int32.toInt_inj.mp
  rw [Int32.toInt_zero]
  have c := b.mp h2
  have d : ¬ x.toInt < 0 := fun h => h1 (a.mpr h)
  omega
theorem dc_SB_count_131 : decode cd_SB_count 131 = .ok (.new 76, 3) := by decide +kernel
theorem dc_SB_count_134 : decode cd_SB_count 134 = .ok (.dup, 1) := by decide +kernel
theorem dc_SB_count_135 : decode cd_SB_count 135 = .ok (.invokespecial 78, 3) := by decide +kernel
theorem dc_SB_count_138 : decode cd_SB_count 138 = .ok (.athrow, 1) := by decide +kernel
theorem dc_SB_ask_0 : decode cd_SB_ask 0 = .ok (.aload_n 0, 1) := by decide +kernel
theorem dc_SB_ask_1 : decode cd_SB_ask 1 = .ok (.getfield 105, 3) := by decide +kernel
theorem dc_SB_ask_4 : decode cd_SB_ask 4 = .ok (.ifCond .ne 11, 3) := by decide +kernel
theorem dc_SB_ask_7 : decode cd_SB_ask 7 = .ok (.new 131, 3) := by decide +kernel
theorem dc_SB_ask_10 : decode cd_SB_ask 10 = .ok (.dup, 1) := by decide +kernel
theorem dc_SB_ask_11 : decode cd_SB_ask 11 = .ok (.invokespecial 133, 3) := by decide +kernel
theorem dc_SB_ask_14 : decode cd_SB_ask 14 = .ok (.athrow, 1) := by decide +kernel
theorem dc_SB_stage_0 : decode cd_SB_stage 0 = .ok (.aload_n 0, 1) := by decide +kernel
theorem dc_SB_stage_1 : decode cd_SB_stage 1 = .ok (.getfield 105, 3) := by decide +kernel
theorem dc_SB_stage_4 : decode cd_SB_stage 4 = .ok (.ifCond .ne 11, 3) := by decide +kernel
theorem dc_SB_stage_7 : decode cd_SB_stage 7 = .ok (.new 131, 3) := by decide +kernel
theorem dc_SB_stage_10 : decode cd_SB_stage 10 = .ok (.dup, 1) := by decide +kernel
theorem dc_SB_stage_11 : decode cd_SB_stage 11 = .ok (.invokespecial 133, 3) := by decide +kernel
theorem dc_SB_stage_14 : decode cd_SB_stage 14 = .ok (.athrow, 1) := by decide +kernel
theorem dc_SB_end_0 : decode cd_SB_end 0 = .ok (.iload_n 1, 1) := by decide +kernel
theorem dc_SB_end_1 : decode cd_SB_end 1 = .ok (.ifCond .lt 11, 3) := by decide +kernel
theorem dc_SB_end_4 : decode cd_SB_end 4 = .ok (.iload_n 1, 1) := by decide +kernel
theorem dc_SB_end_5 : decode cd_SB_end 5 = .ok (.aload_n 0, 1) := by decide +kernel
theorem dc_SB_end_6 : decode cd_SB_end 6 = .ok (.getfield 66, 3) := by decide +kernel
theorem dc_SB_end_9 : decode cd_SB_end 9 = .ok (.if_icmp .le 11, 3) := by decide +kernel
theorem dc_SB_end_12 : decode cd_SB_end 12 = .ok (.new 76, 3) := by decide +kernel
theorem dc_SB_end_15 : decode cd_SB_end 15 = .ok (.dup, 1) := by decide +kernel
theorem dc_SB_end_16 : decode cd_SB_end 16 = .ok (.invokespecial 78, 3) := by decide +kernel
theorem dc_SB_end_19 : decode cd_SB_end 19 = .ok (.athrow, 1) := by decide +kernel
theorem dc_SB_end_20 : decode cd_SB_end 20 = .ok (.aload_n 0, 1) := by decide +kernel
theorem dc_SB_end_21 : decode cd_SB_end 21 = .ok (.iload_n 1, 1) := by decide +kernel
theorem dc_SB_end_22 : decode cd_SB_end 22 = .ok (.putfield 66, 3) := by decide +kernel
theorem dc_SB_end_25 : decode cd_SB_end 25 = .ok (.return_, 1) := by decide +kernel
theorem dc_SB_isNumber_0 : decode cd_SB_isNumber 0 = .ok (.aload_n 0, 1) := by decide +kernel
theorem dc_SB_isNumber_1 : decode cd_SB_isNumber 1 = .ok (.getfield 59, 3) := by decide +kernel
theorem dc_SB_isNumber_4 : decode cd_SB_isNumber 4 = .ok (.iload_n 1, 1) := by decide +kernel
theorem dc_SB_isNumber_5 : decode cd_SB_isNumber 5 = .ok (.iload_n 2, 1) := by decide +kernel
theorem dc_SB_isNumber_6 : decode cd_SB_isNumber 6 = .ok (.invokevirtual 159, 3) := by decide +kernel
theorem dc_SB_isNumber_9 : decode cd_SB_isNumber 9 = .ok (.ifCond .ne 11, 3) := by decide +kernel
theorem dc_SB_isNumber_12 : decode cd_SB_isNumber 12 = .ok (.new 163, 3) := by decide +kernel
theorem dc_SB_isNumber_15 : decode cd_SB_isNumber 15 = .ok (.dup, 1) := by decide +kernel
theorem dc_SB_isNumber_16 : decode cd_SB_isNumber 16 = .ok (.invokespecial 165, 3) := by decide +kernel
theorem dc_SB_isNumber_19 : decode cd_SB_isNumber 19 = .ok (.athrow, 1) := by decide +kernel
theorem dc_Ro_has_0 : decode cd_Ro_has 0 = .ok (.iload_n 1, 1) := by decide +kernel
theorem dc_Ro_has_1 : decode cd_Ro_has 1 = .ok (.ifCond .lt 27, 3) := by decide +kernel
theorem dc_Ro_has_4 : decode cd_Ro_has 4 = .ok (.iload_n 1, 1) := by decide +kernel
theorem dc_Ro_has_5 : decode cd_Ro_has 5 = .ok (.aload_n 0, 1) := by decide +kernel
theorem dc_Ro_has_6 : decode cd_Ro_has 6 = .ok (.getfield 22, 3) := by decide +kernel
theorem dc_Ro_has_9 : decode cd_Ro_has 9 = .ok (.if_icmp .ge 19, 3) := by decide +kernel
theorem dc_Ro_has_28 : decode cd_Ro_has 28 = .ok (.iconst 0, 1) := by decide +kernel
theorem dc_Ro_has_29 : decode cd_Ro_has 29 = .ok (.ireturn, 1) := by decide +kernel
theorem dc_SB_number_0 : decode cd_SB_number 0 = .ok (.aload_n 0, 1) := by decide +kernel
theorem dc_SB_number_1 : decode cd_SB_number 1 = .ok (.getfield 59, 3) := by decide +kernel
theorem dc_SB_number_4 : decode cd_SB_number 4 = .ok (.iload_n 1, 1) := by decide +kernel
theorem dc_SB_number_5 : decode cd_SB_number 5 = .ok (.iload_n 2, 1) := by decide +kernel
theorem dc_SB_number_6 : decode cd_SB_number 6 = .ok (.invokevirtual 159, 3) := by decide +kernel
theorem dc_SB_number_9 : decode cd_SB_number 9 = .ok (.ifCond .ne 11, 3) := by decide +kernel
theorem dc_SB_number_12 : decode cd_SB_number 12 = .ok (.new 163, 3) := by decide +kernel
theorem dc_SB_number_15 : decode cd_SB_number 15 = .ok (.dup, 1) := by decide +kernel
theorem dc_SB_number_16 : decode cd_SB_number 16 = .ok (.invokespecial 165, 3) := by decide +kernel
theorem dc_SB_number_19 : decode cd_SB_number 19 = .ok (.athrow, 1) := by decide +kernel
theorem dc_SB_letter_0 : decode cd_SB_letter 0 = .ok (.aload_n 0, 1) := by decide +kernel
theorem dc_SB_letter_1 : decode cd_SB_letter 1 = .ok (.getfield 59, 3) := by decide +kernel
theorem dc_SB_letter_4 : decode cd_SB_letter 4 = .ok (.iload_n 1, 1) := by decide +kernel
theorem dc_SB_letter_5 : decode cd_SB_letter 5 = .ok (.iload_n 2, 1) := by decide +kernel
theorem dc_SB_letter_6 : decode cd_SB_letter 6 = .ok (.invokevirtual 159, 3) := by decide +kernel
theorem dc_SB_letter_9 : decode cd_SB_letter 9 = .ok (.ifCond .ne 11, 3) := by decide +kernel
theorem dc_SB_letter_12 : decode cd_SB_letter 12 = .ok (.new 163, 3) := by decide +kernel
theorem dc_SB_letter_15 : decode cd_SB_letter 15 = .ok (.dup, 1) := by decide +kernel
theorem dc_SB_letter_16 : decode cd_SB_letter 16 = .ok (.invokespecial 165, 3) := by decide +kernel
theorem dc_SB_letter_19 : decode cd_SB_letter 19 = .ok (.athrow, 1) := by decide +kernel
set_option maxRecDepth 100000 in
theorem xo_SB_78 : ∀ w ∈ ex_ow "StrataBase" 78 "java/lang/IllegalArgumentException" ["java/lang/RuntimeException", "java/lang/Exception"], w ∈ tblG := by
  have h : (ex_ow "StrataBase" 78 "java/lang/IllegalArgumentException" ["java/lang/RuntimeException", "java/lang/Exception"]).all (fun w => decide (w ∈ lw_tbl) && goodWord w) = true := by decide +kernel
  intro w hw
  have h1 := List.all_eq_true.mp h w hw
  simp only [Bool.and_eq_true, decide_eq_true_eq] at h1
  exact List.mem_filter.mpr ⟨h1.1, h1.2⟩
set_option maxRecDepth 100000 in
theorem xo_SB_133 : ∀ w ∈ ex_ow "StrataBase" 133 "java/lang/IllegalStateException" ["java/lang/RuntimeException", "java/lang/Exception"], w ∈ tblG := by
  have h : (ex_ow "StrataBase" 133 "java/lang/IllegalStateException" ["java/lang/RuntimeException", "java/lang/Exception"]).all (fun w => decide (w ∈ lw_tbl) && goodWord w) = true := by decide +kernel
  intro w hw
  have h1 := List.all_eq_true.mp h w hw
  simp only [Bool.and_eq_true, decide_eq_true_eq] at h1
  exact List.mem_filter.mpr ⟨h1.1, h1.2⟩
set_option maxRecDepth 100000 in
theorem xo_SB_165 : ∀ w ∈ ex_ow "StrataBase" 165 "java/lang/IndexOutOfBoundsException" ["java/lang/RuntimeException", "java/lang/Exception"], w ∈ tblG := by
  have h : (ex_ow "StrataBase" 165 "java/lang/IndexOutOfBoundsException" ["java/lang/RuntimeException", "java/lang/Exception"]).all (fun w => decide (w ∈ lw_tbl) && goodWord w) = true := by decide +kernel
  intro w hw
  have h1 := List.all_eq_true.mp h w hw
  simp only [Bool.and_eq_true, decide_eq_true_eq] at h1
  exact List.mem_filter.mpr ⟨h1.1, h1.2⟩
set_option maxHeartbeats 4000000 in
set_option maxRecDepth 100000 in
theorem c_SB_ask_x (l : Launch) (hl9 : l.stackTraces = false) (dC : Nat → ClassId) (dI : Nat → Nat → Nat) (h0 : Nat) (q7 : Nat) (q13 : Nat) (q24 : Nat) (q35 : Nat) (q47 : Nat) (q58 : Nat) (q69 : Nat) (q84 : Nat) (q95 : Nat) (sz : Nat) : ex_Met l my_SB_ask (Cond.code my_SB_ask cd_SB_ask 2 (some (.int)) :: tblG) ({ frames := 6, cells := 1, slots := 6, locals := 81 }) (va_Pc [.ref h0] (fun U => U.heap.size = sz ∧ va_P (dC, dI) vwCl [(h0, .inr (0, [.ref q7, .int 0, .int 0, .ref q13, .ref q24, .ref q35, .ref q47, .ref q58, .ref q69, .ref q84, .ref q95, .int 0, .int 0]))] U.heap ∧ va_K (dC, dI) vwCl [] U ∧ va_D (fun _ => True) [(h0, .inr (0, [.ref q7, .int 0, .int 0, .ref q13, .ref q24, .ref q35, .ref q47, .ref q58, .ref q69, .ref q84, .ref q95, .int 0, .int 0]))] ∧ ex_Z "java/lang/IllegalStateException" U)) "java/lang/IllegalStateException" (va_A [(h0, .inr (0, [.ref q7, .int 0, .int 0, .ref q13, .ref q24, .ref q35, .ref q47, .ref q58, .ref q69, .ref q84, .ref q95, .int 0, .int 0]))] sz) 1 6 := by
  refine ex_ofW (cc := cd_SB_ask) (maxL := 2) (ret := (some (.int))) (by decide) rfl ?_
  intro p e s m args below meth c s₁ B hml hEx hv
  obtain ⟨rfl, hsz, hP, hK, hD0, hEz⟩ := hv
  have hx := B.exec
  have hb := B.bytes
  have hr := B.returns
  have hT : ∀ w ∈ tblG, w.before _ s = true := fun w h => atoms_spec (ws := (Cond.code my_SB_ask cd_SB_ask 2 (some (.int)) :: tblG)) B.pre w (List.mem_cons_of_mem _ h)
  have hown : s.vm.findClass "StrataBase" = some m.cls := findClass_of_methodNamed B.named
  have hlocks := B.notSynchronized
  have hP0 := hP
  subst hsz
  have hD := hD0.self (sz := s.heap.size)
  generalize hAe : va_A [(h0, .inr (0, [.ref q7, .int 0, .int 0, .ref q13, .ref q24, .ref q35, .ref q47, .ref q58, .ref q69, .ref q84, .ref q95, .int 0, .int 0]))] s.heap.size = A at hD ⊢
  have hA : ∀ q : Nat, s.heap.size ≤ q → A q := fun q h => by rw [← hAe]; exact Or.inr h
  have hS : va_S A s.heap s.heap [] := va_S.rf
  have hl := lv_entry ([.ref h0]) (n := 2) (Nat.le_of_ble_eq_true rfl)
  rw [lg_entry_eq]
  generalize (lg_sl ([.ref h0]) ++ List.replicate (2 - (lg_sl ([.ref h0])).length) Slot.unset).toArray = ls at hl ⊢
  have hl : lv_has ls 2 [(0, .ref h0)] := hl
  refine lv_aload_n hx hb dc_SB_ask_0 rfl (lv_at hl 0 rfl) ?_
  refine va_get (D := (dC, dI)) (ci := 0) (v := .int 0) (C := "StrataBase") (T := tb_SB) (N := 13) hx hb hT in_SB hown hK hP 0 rfl rfl 11 (by decide) (hT _ wd_528) (fun _ h9 => h9) rfl dc_SB_ask_1 ?_
  refine lv_if_ne (tgt := 15) hx hb dc_SB_ask_4 (by decide) (fun h9 => absurd (by decide) h9) (fun _ => ?_)
  exact ex_throw (own := "StrataBase") (cls := "java/lang/IllegalStateException") (names := ["java/lang/RuntimeException", "java/lang/Exception"]) hx hb hl9 hown (by decide +kernel) (by decide +kernel) (hT _ wd_1236) (hT _ wd_23) (fun w h => hT w (xo_SB_133 w h)) hEz (ex_locs hP0 (fun q h => by rw [← hAe] at h; exact h) hS) (by rw [hml]; exact hl.1) dc_SB_ask_7 dc_SB_ask_10 dc_SB_ask_11 dc_SB_ask_14 hEx (Nat.le_of_ble_eq_true rfl) (Nat.le_of_ble_eq_true rfl) (Nat.le_of_ble_eq_true rfl) (Nat.le_of_ble_eq_true rfl) hlocks hS (Nat.le_of_ble_eq_true rfl) (Nat.le_of_ble_eq_true rfl)

set_option maxHeartbeats 4000000 in
set_option maxRecDepth 100000 in
theorem c_SB_stage_x (l : Launch) (hl9 : l.stackTraces = false) (dC : Nat → ClassId) (dI : Nat → Nat → Nat) (h0 : Nat) (q7 : Nat) (q13 : Nat) (q24 : Nat) (q35 : Nat) (q47 : Nat) (q58 : Nat) (q69 : Nat) (q84 : Nat) (q95 : Nat) (sz : Nat) : ex_Met l my_SB_stage (Cond.code my_SB_stage cd_SB_stage 3 (some (.int)) :: tblG) ({ frames := 6, cells := 1, slots := 6, locals := 81 }) (va_Pc [.ref h0] (fun U => U.heap.size = sz ∧ va_P (dC, dI) vwCl [(h0, .inr (0, [.ref q7, .int 0, .int 0, .ref q13, .ref q24, .ref q35, .ref q47, .ref q58, .ref q69, .ref q84, .ref q95, .int 0, .int 0]))] U.heap ∧ va_K (dC, dI) vwCl [] U ∧ va_D (fun _ => True) [(h0, .inr (0, [.ref q7, .int 0, .int 0, .ref q13, .ref q24, .ref q35, .ref q47, .ref q58, .ref q69, .ref q84, .ref q95, .int 0, .int 0]))] ∧ ex_Z "java/lang/IllegalStateException" U)) "java/lang/IllegalStateException" (va_A [(h0, .inr (0, [.ref q7, .int 0, .int 0, .ref q13, .ref q24, .ref q35, .ref q47, .ref q58, .ref q69, .ref q84, .ref q95, .int 0, .int 0]))] sz) 1 6 := by
  refine ex_ofW (cc := cd_SB_stage) (maxL := 3) (ret := (some (.int))) (by decide) rfl ?_
  intro p e s m args below meth c s₁ B hml hEx hv
  obtain ⟨rfl, hsz, hP, hK, hD0, hEz⟩ := hv
  have hx := B.exec
  have hb := B.bytes
  have hr := B.returns
  have hT : ∀ w ∈ tblG, w.before _ s = true := fun w h => atoms_spec (ws := (Cond.code my_SB_stage cd_SB_stage 3 (some (.int)) :: tblG)) B.pre w (List.mem_cons_of_mem _ h)
  have hown : s.vm.findClass "StrataBase" = some m.cls := findClass_of_methodNamed B.named
  have hlocks := B.notSynchronized
  have hP0 := hP
  subst hsz
  have hD := hD0.self (sz := s.heap.size)
  generalize hAe : va_A [(h0, .inr (0, [.ref q7, .int 0, .int 0, .ref q13, .ref q24, .ref q35, .ref q47, .ref q58, .ref q69, .ref q84, .ref q95, .int 0, .int 0]))] s.heap.size = A at hD ⊢
  have hA : ∀ q : Nat, s.heap.size ≤ q → A q := fun q h => by rw [← hAe]; exact Or.inr h
  have hS : va_S A s.heap s.heap [] := va_S.rf
  have hl := lv_entry ([.ref h0]) (n := 3) (Nat.le_of_ble_eq_true rfl)
  rw [lg_entry_eq]
  generalize (lg_sl ([.ref h0]) ++ List.replicate (3 - (lg_sl ([.ref h0])).length) Slot.unset).toArray = ls at hl ⊢
  have hl : lv_has ls 3 [(0, .ref h0)] := hl
  refine lv_aload_n hx hb dc_SB_stage_0 rfl (lv_at hl 0 rfl) ?_
  refine va_get (D := (dC, dI)) (ci := 0) (v := .int 0) (C := "StrataBase") (T := tb_SB) (N := 13) hx hb hT in_SB hown hK hP 0 rfl rfl 11 (by decide) (hT _ wd_528) (fun _ h9 => h9) rfl dc_SB_stage_1 ?_
  refine lv_if_ne (tgt := 15) hx hb dc_SB_stage_4 (by decide) (fun h9 => absurd (by decide) h9) (fun _ => ?_)
  exact ex_throw (own := "StrataBase") (cls := "java/lang/IllegalStateException") (names := ["java/lang/RuntimeException", "java/lang/Exception"]) hx hb hl9 hown (by decide +kernel) (by decide +kernel) (hT _ wd_1236) (hT _ wd_23) (fun w h => hT w (xo_SB_133 w h)) hEz (ex_locs hP0 (fun q h => by rw [← hAe] at h; exact h) hS) (by rw [hml]; exact hl.1) dc_SB_stage_7 dc_SB_stage_10 dc_SB_stage_11 dc_SB_stage_14 hEx (Nat.le_of_ble_eq_true rfl) (Nat.le_of_ble_eq_true rfl) (Nat.le_of_ble_eq_true rfl) (Nat.le_of_ble_eq_true rfl) hlocks hS (Nat.le_of_ble_eq_true rfl) (Nat.le_of_ble_eq_true rfl)

set_option maxHeartbeats 4000000 in
set_option maxRecDepth 100000 in
theorem c_SB_end_0 (l : Launch) (dC : Nat → ClassId) (dI : Nat → Nat → Nat) (h0 : Nat) (q7 : Nat) (q13 : Nat) (q24 : Nat) (q35 : Nat) (q47 : Nat) (q58 : Nat) (q69 : Nat) (q84 : Nat) (q95 : Nat) (sz : Nat) : Met l my_SB_end (Cond.code my_SB_end cd_SB_end 2 none :: tblG) ({ frames := 0, cells := 0, slots := 0, locals := 0 }) (va_Pc [.ref h0, .int 0] (fun U => U.heap.size = sz ∧ va_P (dC, dI) vwCl [(h0, .inr (0, [.ref q7, .int 0, .int 0, .ref q13, .ref q24, .ref q35, .ref q47, .ref q58, .ref q69, .ref q84, .ref q95, .int 0, .int 0]))] U.heap ∧ va_K (dC, dI) vwCl [] U ∧ va_D (fun _ => True) [(h0, .inr (0, [.ref q7, .int 0, .int 0, .ref q13, .ref q24, .ref q35, .ref q47, .ref q58, .ref q69, .ref q84, .ref q95, .int 0, .int 0]))])) (va_Qv (fun _ : Unit => True) (fun (_ : Unit) (t : State) => va_P (dC, dI) vwCl [(h0, .inr (0, [.ref q7, .int 0, .int 0, .ref q13, .ref q24, .ref q35, .ref q47, .ref q58, .ref q69, .ref q84, .ref q95, .int 0, .int 0]))] t.heap ∧ va_K (dC, dI) vwCl [] t ∧ va_D (va_A [(h0, .inr (0, [.ref q7, .int 0, .int 0, .ref q13, .ref q24, .ref q35, .ref q47, .ref q58, .ref q69, .ref q84, .ref q95, .int 0, .int 0]))] sz) [(h0, .inr (0, [.ref q7, .int 0, .int 0, .ref q13, .ref q24, .ref q35, .ref q47, .ref q58, .ref q69, .ref q84, .ref q95, .int 0, .int 0]))]) (va_A [(h0, .inr (0, [.ref q7, .int 0, .int 0, .ref q13, .ref q24, .ref q35, .ref q47, .ref q58, .ref q69, .ref q84, .ref q95, .int 0, .int 0]))] sz)) 0 0 (va_A [(h0, .inr (0, [.ref q7, .int 0, .int 0, .ref q13, .ref q24, .ref q35, .ref q47, .ref q58, .ref q69, .ref q84, .ref q95, .int 0, .int 0]))] sz) := by
  refine Met.ofW (cc := cd_SB_end) (maxL := 2) (ret := none) (by decide) rfl ?_
  intro p e s m args below meth c s₁ B hml hv
  obtain ⟨rfl, hsz, hP, hK, hD0⟩ := hv
  have hx := B.exec
  have hb := B.bytes
  have hr := B.returns
  have hT : ∀ w ∈ tblG, w.before _ s = true := fun w h => atoms_spec (ws := (Cond.code my_SB_end cd_SB_end 2 none :: tblG)) B.pre w (List.mem_cons_of_mem _ h)
  have hown : s.vm.findClass "StrataBase" = some m.cls := findClass_of_methodNamed B.named
  have hlocks := B.notSynchronized
  subst hsz
  have hD := hD0.self (sz := s.heap.size)
  generalize hAe : va_A [(h0, .inr (0, [.ref q7, .int 0, .int 0, .ref q13, .ref q24, .ref q35, .ref q47, .ref q58, .ref q69, .ref q84, .ref q95, .int 0, .int 0]))] s.heap.size = A at hD ⊢
  have hA : ∀ q : Nat, s.heap.size ≤ q → A q := fun q h => by rw [← hAe]; exact Or.inr h
  have hS : va_S A s.heap s.heap [] := va_S.rf
  have hl := lv_entry ([.ref h0, .int 0]) (n := 2) (Nat.le_of_ble_eq_true rfl)
  rw [lg_entry_eq]
  generalize (lg_sl ([.ref h0, .int 0]) ++ List.replicate (2 - (lg_sl ([.ref h0, .int 0])).length) Slot.unset).toArray = ls at hl ⊢
  have hl : lv_has ls 2 [(0, .ref h0), (1, .int 0)] := hl
  refine lv_iload_n hx hb dc_SB_end_0 rfl (lv_at hl 1 rfl) ?_
  refine lv_if_lt (tgt := 12) hx hb dc_SB_end_1 (by decide) (fun h9 => absurd h9 (by decide)) (fun _ => ?_)
  refine lv_iload_n hx hb dc_SB_end_4 rfl (lv_at hl 1 rfl) ?_
  refine lv_aload_n hx hb dc_SB_end_5 rfl (lv_at hl 0 rfl) ?_
  refine va_get (D := (dC, dI)) (ci := 0) (v := .int 0) (C := "StrataBase") (T := tb_SB) (N := 13) hx hb hT in_SB hown hK hP 0 rfl rfl 1 (by decide) (hT _ wd_518) (fun _ h9 => h9) rfl dc_SB_end_6 ?_
  refine lv_icmp_le (tgt := 20) hx hb dc_SB_end_9 (by decide) (fun _ => ?_) (fun h9 => absurd (by decide) h9)
  refine lv_aload_n hx hb dc_SB_end_20 rfl (lv_at hl 0 rfl) ?_
  refine lv_iload_n hx hb dc_SB_end_21 rfl (lv_at hl 1 rfl) ?_
  refine va_put (D := (dC, dI)) (ci := 0) (v := .int 0) (ty := .int) (C := "StrataBase") (T := tb_SB) (N := 13) hx hb hT in_SB ty_SB tk_SB nm_SB hown hK hP hD hS 0 rfl rfl 1 (by decide) (hT _ wd_518) (fun _ h9 => h9) rfl (by decide +kernel) rfl rfl (Nat.le_of_ble_eq_true rfl) dc_SB_end_22 (fun H locs hP hD hS => ?_)
  have hP : va_P (dC, dI) vwCl [(h0, .inr (0, [.ref q7, .int 0, .int 0, .ref q13, .ref q24, .ref q35, .ref q47, .ref q58, .ref q69, .ref q84, .ref q95, .int 0, .int 0]))] H := hP
  have hD : va_D A [(h0, .inr (0, [.ref q7, .int 0, .int 0, .ref q13, .ref q24, .ref q35, .ref q47, .ref q58, .ref q69, .ref q84, .ref q95, .int 0, .int 0]))] := hD
  have hP9 := hP.sub (ws' := [(h0, .inr (0, [.ref q7, .int 0, .int 0, .ref q13, .ref q24, .ref q35, .ref q47, .ref q58, .ref q69, .ref q84, .ref q95, .int 0, .int 0]))]) [0] rfl
  have hD9 := hD.sub (ws' := [(h0, .inr (0, [.ref q7, .int 0, .int 0, .ref q13, .ref q24, .ref q35, .ref q47, .ref q58, .ref q69, .ref q84, .ref q95, .int 0, .int 0]))]) [0] (by decide) rfl
  have hK9 := hK.sub (tys' := []) [] rfl
  refine W.widen (k := 0) (n := 0) (Nat.le_of_ble_eq_true rfl) (Nat.le_of_ble_eq_true rfl) ?_
  exact W.vret hx hb hr (fun t ht hW => ⟨⟨(), rfl, trivial, by rw [ht]; exact hP9, va_K.moved hW.alike hK9, hD9⟩, hS.F ht⟩) hS.2.2 dc_SB_end_25

set_option maxHeartbeats 4000000 in
set_option maxRecDepth 100000 in
theorem c_SB_end_x (l : Launch) (hl9 : l.stackTraces = false) (dC : Nat → ClassId) (dI : Nat → Nat → Nat) (h0 : Nat) (q7 : Nat) (q13 : Nat) (q24 : Nat) (q35 : Nat) (q47 : Nat) (q58 : Nat) (q69 : Nat) (q84 : Nat) (q95 : Nat) (p0 : Int32) (sz : Nat) (hn : ¬ p0 = 0) : ex_Met l my_SB_end (Cond.code my_SB_end cd_SB_end 2 none :: tblG) ({ frames := 6, cells := 1, slots := 6, locals := 81 }) (va_Pc [.ref h0, .int p0] (fun U => U.heap.size = sz ∧ va_P (dC, dI) vwCl [(h0, .inr (0, [.ref q7, .int 0, .int 0, .ref q13, .ref q24, .ref q35, .ref q47, .ref q58, .ref q69, .ref q84, .ref q95, .int 0, .int 0]))] U.heap ∧ va_K (dC, dI) vwCl [] U ∧ va_D (fun _ => True) [(h0, .inr (0, [.ref q7, .int 0, .int 0, .ref q13, .ref q24, .ref q35, .ref q47, .ref q58, .ref q69, .ref q84, .ref q95, .int 0, .int 0]))] ∧ ex_Z "java/lang/IllegalArgumentException" U)) "java/lang/IllegalArgumentException" (va_A [(h0, .inr (0, [.ref q7, .int 0, .int 0, .ref q13, .ref q24, .ref q35, .ref q47, .ref q58, .ref q69, .ref q84, .ref q95, .int 0, .int 0]))] sz) 1 6 := by
  refine ex_ofW (cc := cd_SB_end) (maxL := 2) (ret := none) (by decide) rfl ?_
  intro p e s m args below meth c s₁ B hml hEx hv
  obtain ⟨rfl, hsz, hP, hK, hD0, hEz⟩ := hv
  have hx := B.exec
  have hb := B.bytes
  have hr := B.returns
  have hT : ∀ w ∈ tblG, w.before _ s = true := fun w h => atoms_spec (ws := (Cond.code my_SB_end cd_SB_end 2 none :: tblG)) B.pre w (List.mem_cons_of_mem _ h)
  have hown : s.vm.findClass "StrataBase" = some m.cls := findClass_of_methodNamed B.named
  have hlocks := B.notSynchronized
  have hP0 := hP
  subst hsz
  have hD := hD0.self (sz := s.heap.size)
  generalize hAe : va_A [(h0, .inr (0, [.ref q7, .int 0, .int 0, .ref q13, .ref q24, .ref q35, .ref q47, .ref q58, .ref q69, .ref q84, .ref q95, .int 0, .int 0]))] s.heap.size = A at hD ⊢
  have hA : ∀ q : Nat, s.heap.size ≤ q → A q := fun q h => by rw [← hAe]; exact Or.inr h
  have hS : va_S A s.heap s.heap [] := va_S.rf
  have hl := lv_entry ([.ref h0, .int p0]) (n := 2) (Nat.le_of_ble_eq_true rfl)
  rw [lg_entry_eq]
  generalize (lg_sl ([.ref h0, .int p0]) ++ List.replicate (2 - (lg_sl ([.ref h0, .int p0])).length) Slot.unset).toArray = ls at hl ⊢
  have hl : lv_has ls 2 [(0, .ref h0), (1, .int p0)] := hl
  refine lv_iload_n hx hb dc_SB_end_0 rfl (lv_at hl 1 rfl) ?_
  refine lv_if_lt (tgt := 12) hx hb dc_SB_end_1 (by decide) (fun h1 => ?_) (fun h1 => ?_)
  · exact ex_throw (own := "StrataBase") (cls := "java/lang/IllegalArgumentException") (names := ["java/lang/RuntimeException", "java/lang/Exception"]) hx hb hl9 hown (by decide +kernel) (by decide +kernel) (hT _ wd_998) (hT _ wd_18) (fun w h => hT w (xo_SB_78 w h)) hEz (ex_locs hP0 (fun q h => by rw [← hAe] at h; exact h) hS) (by rw [hml]; exact hl.1) dc_SB_end_12 dc_SB_end_15 dc_SB_end_16 dc_SB_end_19 hEx (Nat.le_of_ble_eq_true rfl) (Nat.le_of_ble_eq_true rfl) (Nat.le_of_ble_eq_true rfl) (Nat.le_of_ble_eq_true rfl) hlocks hS (Nat.le_of_ble_eq_true rfl) (Nat.le_of_ble_eq_true rfl)
  · refine lv_iload_n hx hb dc_SB_end_4 rfl (lv_at hl 1 rfl) ?_
    refine lv_aload_n hx hb dc_SB_end_5 rfl (lv_at hl 0 rfl) ?_
    refine va_get (D := (dC, dI)) (ci := 0) (v := .int 0) (C := "StrataBase") (T := tb_SB) (N := 13) hx hb hT in_SB hown hK hP 0 rfl rfl 1 (by decide) (hT _ wd_518) (fun _ h9 => h9) rfl dc_SB_end_6 ?_
    refine lv_icmp_le (tgt := 20) hx hb dc_SB_end_9 (by decide) (fun h9 => absurd h9 (fun h => hn (z0_eq h1 h))) (fun _ => ?_)
    exact ex_throw (own := "StrataBase") (cls := "java/lang/IllegalArgumentException") (names := ["java/lang/RuntimeException", "java/lang/Exception"]) hx hb hl9 hown (by decide +kernel) (by decide +kernel) (hT _ wd_998) (hT _ wd_18) (fun w h => hT w (xo_SB_78 w h)) hEz (ex_locs hP0 (fun q h => by rw [← hAe] at h; exact h) hS) (by rw [hml]; exact hl.1) dc_SB_end_12 dc_SB_end_15 dc_SB_end_16 dc_SB_end_19 hEx (Nat.le_of_ble_eq_true rfl) (Nat.le_of_ble_eq_true rfl) (Nat.le_of_ble_eq_true rfl) (Nat.le_of_ble_eq_true rfl) hlocks hS (Nat.le_of_ble_eq_true rfl) (Nat.le_of_ble_eq_true rfl)

set_option maxHeartbeats 4000000 in
set_option maxRecDepth 100000 in
theorem c_Ro_has_1 (l : Launch) (dC : Nat → ClassId) (dI : Nat → Nat → Nat) (a1 : Nat) (a2 : Nat) (a3 : Nat) (a4 : Nat) (x1 : Int32) (x2 : Int32) (sz : Nat) : Met l my_Ro_has (Cond.code my_Ro_has cd_Ro_has 3 (some (.boolean)) :: tblG) ({ frames := 0, cells := 0, slots := 0, locals := 0 }) (va_Pc [.ref a1, .int x1, .int x2] (fun U => U.heap.size = sz ∧ va_P (dC, dI) vwCl [(a1, .inr (9, [.int 0, .int 0, .int 0, .ref a2, .ref a3, .ref a4]))] U.heap ∧ va_K (dC, dI) vwCl [] U ∧ va_D (fun _ => True) [(a1, .inr (9, [.int 0, .int 0, .int 0, .ref a2, .ref a3, .ref a4]))])) (va_Qi (fun (r : Int32) (_ : Unit) => r = 0) (fun (_ : Unit) (t : State) => va_P (dC, dI) vwCl [(a1, .inr (9, [.int 0, .int 0, .int 0, .ref a2, .ref a3, .ref a4]))] t.heap ∧ va_K (dC, dI) vwCl [] t ∧ va_D (va_A [(a1, .inr (9, [.int 0, .int 0, .int 0, .ref a2, .ref a3, .ref a4]))] sz) [(a1, .inr (9, [.int 0, .int 0, .int 0, .ref a2, .ref a3, .ref a4]))]) (va_A [(a1, .inr (9, [.int 0, .int 0, .int 0, .ref a2, .ref a3, .ref a4]))] sz)) 0 0 (va_A [(a1, .inr (9, [.int 0, .int 0, .int 0, .ref a2, .ref a3, .ref a4]))] sz) := by
  refine Met.ofW (cc := cd_Ro_has) (maxL := 3) (ret := (some (.boolean))) (by decide) rfl ?_
  intro p e s m args below meth c s₁ B hml hv
  obtain ⟨rfl, hsz, hP, hK, hD0⟩ := hv
  have hx := B.exec
  have hb := B.bytes
  have hr := B.returns
  have hT : ∀ w ∈ tblG, w.before _ s = true := fun w h => atoms_spec (ws := (Cond.code my_Ro_has cd_Ro_has 3 (some (.boolean)) :: tblG)) B.pre w (List.mem_cons_of_mem _ h)
  have hown : s.vm.findClass "StrataBase$Rows" = some m.cls := findClass_of_methodNamed B.named
  have hlocks := B.notSynchronized
  subst hsz
  have hD := hD0.self (sz := s.heap.size)
  generalize hAe : va_A [(a1, .inr (9, [.int 0, .int 0, .int 0, .ref a2, .ref a3, .ref a4]))] s.heap.size = A at hD ⊢
  have hA : ∀ q : Nat, s.heap.size ≤ q → A q := fun q h => by rw [← hAe]; exact Or.inr h
  have hS : va_S A s.heap s.heap [] := va_S.rf
  have hl := lv_entry ([.ref a1, .int x1, .int x2]) (n := 3) (Nat.le_of_ble_eq_true rfl)
  rw [lg_entry_eq]
  generalize (lg_sl ([.ref a1, .int x1, .int x2]) ++ List.replicate (3 - (lg_sl ([.ref a1, .int x1, .int x2])).length) Slot.unset).toArray = ls at hl ⊢
  have hl : lv_has ls 3 [(0, .ref a1), (1, .int x1), (2, .int x2)] := hl
  refine lv_iload_n hx hb dc_Ro_has_0 rfl (lv_at hl 1 rfl) ?_
  refine lv_if_lt (tgt := 28) hx hb dc_Ro_has_1 (by decide) (fun h1 => ?_) (fun h1 => ?_)
  · refine lv_iconst (v := 0) hx hb dc_Ro_has_28 (by decide) ?_
    have hP9 := hP.sub (ws' := [(a1, .inr (9, [.int 0, .int 0, .int 0, .ref a2, .ref a3, .ref a4]))]) [0] rfl
    have hD9 := hD.sub (ws' := [(a1, .inr (9, [.int 0, .int 0, .int 0, .ref a2, .ref a3, .ref a4]))]) [0] (by decide) rfl
    have hK9 := hK.sub (tys' := []) [] rfl
    refine W.widen (k := 0) (n := 0) (Nat.le_of_ble_eq_true rfl) (Nat.le_of_ble_eq_true rfl) ?_
    exact W.zret (v := 0) hx hb hr rfl (fun t ht hW => ⟨⟨0, (), rfl, rfl, by rw [ht]; exact hP9, va_K.moved hW.alike hK9, hD9⟩, hS.F ht⟩) hS.2.2 dc_Ro_has_29
  · refine lv_iload_n hx hb dc_Ro_has_4 rfl (lv_at hl 1 rfl) ?_
    refine lv_aload_n hx hb dc_Ro_has_5 rfl (lv_at hl 0 rfl) ?_
    refine va_get (D := (dC, dI)) (ci := 9) (v := .int 0) (C := "StrataBase$Rows") (T := tb_Ro) (N := 6) hx hb hT in_Ro hown hK hP 0 rfl rfl 0 (by decide) (hT _ wd_494) (fun _ h9 => h9) rfl dc_Ro_has_6 ?_
    refine lv_icmp_ge (tgt := 28) hx hb dc_Ro_has_9 (by decide) (fun _ => ?_) (fun h9 => absurd (Int32.not_lt.mp h1) h9)
    refine lv_iconst (v := 0) hx hb dc_Ro_has_28 (by decide) ?_
    have hP9 := hP.sub (ws' := [(a1, .inr (9, [.int 0, .int 0, .int 0, .ref a2, .ref a3, .ref a4]))]) [0] rfl
    have hD9 := hD.sub (ws' := [(a1, .inr (9, [.int 0, .int 0, .int 0, .ref a2, .ref a3, .ref a4]))]) [0] (by decide) rfl
    have hK9 := hK.sub (tys' := []) [] rfl
    refine W.widen (k := 0) (n := 0) (Nat.le_of_ble_eq_true rfl) (Nat.le_of_ble_eq_true rfl) ?_
    exact W.zret (v := 0) hx hb hr rfl (fun t ht hW => ⟨⟨0, (), rfl, rfl, by rw [ht]; exact hP9, va_K.moved hW.alike hK9, hD9⟩, hS.F ht⟩) hS.2.2 dc_Ro_has_29

set_option maxHeartbeats 4000000 in
set_option maxRecDepth 100000 in
theorem c_SB_isNumber_x (l : Launch) (hl9 : l.stackTraces = false) (dC : Nat → ClassId) (dI : Nat → Nat → Nat) (h0 : Nat) (q7 : Nat) (q13 : Nat) (q24 : Nat) (q35 : Nat) (q47 : Nat) (q58 : Nat) (q69 : Nat) (q84 : Nat) (q95 : Nat) (u110 : Nat) (u111 : Nat) (u112 : Nat) (p0 : Int32) (p1 : Int32) (sz : Nat) : ex_Met l my_SB_isNumber (Cond.code my_SB_isNumber cd_SB_isNumber 3 (some (.boolean)) :: tblG) ({ frames := 6, cells := 1, slots := 6, locals := 81 }) (va_Pc [.ref h0, .int p0, .int p1] (fun U => U.heap.size = sz ∧ va_P (dC, dI) vwCl [(h0, .inr (0, [.ref q7, .int 0, .int 0, .ref q13, .ref q24, .ref q35, .ref q47, .ref q58, .ref q69, .ref q84, .ref q95, .int 0, .int 0])), (q84, .inr (9, [.int 0, .int 0, .int 0, .ref u110, .ref u111, .ref u112]))] U.heap ∧ va_K (dC, dI) vwCl [] U ∧ va_D (fun _ => True) [(h0, .inr (0, [.ref q7, .int 0, .int 0, .ref q13, .ref q24, .ref q35, .ref q47, .ref q58, .ref q69, .ref q84, .ref q95, .int 0, .int 0])), (q84, .inr (9, [.int 0, .int 0, .int 0, .ref u110, .ref u111, .ref u112]))] ∧ ex_Z "java/lang/IndexOutOfBoundsException" U)) "java/lang/IndexOutOfBoundsException" (va_A [(h0, .inr (0, [.ref q7, .int 0, .int 0, .ref q13, .ref q24, .ref q35, .ref q47, .ref q58, .ref q69, .ref q84, .ref q95, .int 0, .int 0])), (q84, .inr (9, [.int 0, .int 0, .int 0, .ref u110, .ref u111, .ref u112]))] sz) 1 6 := by
  refine ex_ofW (cc := cd_SB_isNumber) (maxL := 3) (ret := (some (.boolean))) (by decide) rfl ?_
  intro p e s m args below meth c s₁ B hml hEx hv
  obtain ⟨rfl, hsz, hP, hK, hD0, hEz⟩ := hv
  have hx := B.exec
  have hb := B.bytes
  have hr := B.returns
  have hT : ∀ w ∈ tblG, w.before _ s = true := fun w h => atoms_spec (ws := (Cond.code my_SB_isNumber cd_SB_isNumber 3 (some (.boolean)) :: tblG)) B.pre w (List.mem_cons_of_mem _ h)
  have hown : s.vm.findClass "StrataBase" = some m.cls := findClass_of_methodNamed B.named
  have hlocks := B.notSynchronized
  have hP0 := hP
  subst hsz
  have hD := hD0.self (sz := s.heap.size)
  generalize hAe : va_A [(h0, .inr (0, [.ref q7, .int 0, .int 0, .ref q13, .ref q24, .ref q35, .ref q47, .ref q58, .ref q69, .ref q84, .ref q95, .int 0, .int 0])), (q84, .inr (9, [.int 0, .int 0, .int 0, .ref u110, .ref u111, .ref u112]))] s.heap.size = A at hD ⊢
  have hA : ∀ q : Nat, s.heap.size ≤ q → A q := fun q h => by rw [← hAe]; exact Or.inr h
  have hS : va_S A s.heap s.heap [] := va_S.rf
  have hl := lv_entry ([.ref h0, .int p0, .int p1]) (n := 3) (Nat.le_of_ble_eq_true rfl)
  rw [lg_entry_eq]
  generalize (lg_sl ([.ref h0, .int p0, .int p1]) ++ List.replicate (3 - (lg_sl ([.ref h0, .int p0, .int p1])).length) Slot.unset).toArray = ls at hl ⊢
  have hl : lv_has ls 3 [(0, .ref h0), (1, .int p0), (2, .int p1)] := hl
  refine lv_aload_n hx hb dc_SB_isNumber_0 rfl (lv_at hl 0 rfl) ?_
  refine va_get (D := (dC, dI)) (ci := 0) (v := .ref q84) (C := "StrataBase") (T := tb_SB) (N := 13) hx hb hT in_SB hown hK hP 0 rfl rfl 9 (by decide) (hT _ wd_526) (fun _ h9 => h9) rfl dc_SB_isNumber_1 ?_
  refine lv_iload_n hx hb dc_SB_isNumber_4 rfl (lv_at hl 1 rfl) ?_
  refine lv_iload_n hx hb dc_SB_isNumber_5 rfl (lv_at hl 2 rfl) ?_
  have hPc := hP.sub (ws' := [(q84, .inr (9, [.int 0, .int 0, .int 0, .ref u110, .ref u111, .ref u112]))]) [1] rfl
  have hDc := hD.sub (ws' := [(q84, .inr (9, [.int 0, .int 0, .int 0, .ref u110, .ref u111, .ref u112]))]) [1] (by decide) rfl
  have hKc := hK.sub (tys' := []) [] rfl
  have hFc := va_free (wc := [(q84, .inr (9, [.int 0, .int 0, .int 0, .ref u110, .ref u111, .ref u112]))]) hD hS hA [1] rfl
  refine va_calli (va_runV (As := [.int p0, .int p1]) (rest := []) ⟨hx, hb, hml, hown, hT⟩ (c_Ro_has_1 l dC dI q84 u110 u111 u112 p0 p1 s.heap.size) (cwV 2 hT (gd_V wd_1281 wd_1282 wd_1283 wd_12 wd_1284) rfl rfl rfl (by decide +kernel) ⟨Nat.le_of_ble_eq_true rfl, Nat.le_of_ble_eq_true rfl⟩) ⟨fun a U g mk q => by obtain ⟨q0, q1, qP, qK, qD⟩ := q; exact ⟨q0, q1, qP, va_K.moved (u := U) (U := U.calling g mk a) (Vm.Alike.refl U.vm) qK, qD⟩, va_recv hK hP (q0 := 1) (ci := 9) rfl rfl, fun U hU hW => ⟨rfl, by rw [hU], by rw [hU]; exact hPc, va_K.moved hW.alike hKc, hDc.weaken (fun _ _ _ _ => trivial)⟩⟩ rfl rfl hl.1 rfl (lv_room (Nat.le_of_ble_eq_true rfl)) dc_SB_isNumber_6 ⟨(Nat.le_of_ble_eq_true rfl), (Nat.le_of_ble_eq_true rfl)⟩) hS (fun q _ h => hFc q h) hFc (fun r1 _ t H1 locs ht hvm hr9 hB hz1 hk1 hS => ?_)
  obtain ⟨hP1, hK1, hD1⟩ := hB
  rw [ht] at hP1
  have hK1 := va_K.moved hvm.symm hK1
  obtain ⟨hP, hD⟩ := va_join (wr := [(h0, .inr (0, [.ref q7, .int 0, .int 0, .ref q13, .ref q24, .ref q35, .ref q47, .ref q58, .ref q69, .ref q84, .ref q95, .int 0, .int 0]))]) (w1 := [(q84, .inr (9, [.int 0, .int 0, .int 0, .ref u110, .ref u111, .ref u112]))]) hP hD [1] [0] rfl rfl (by decide) (by decide) hk1 hFc hP1 hD1
  have hK := (hK.sub (tys' := []) [] rfl).app hK1
  generalize H1 = H at hP hS ⊢
  have hP : va_P (dC, dI) vwCl [(h0, .inr (0, [.ref q7, .int 0, .int 0, .ref q13, .ref q24, .ref q35, .ref q47, .ref q58, .ref q69, .ref q84, .ref q95, .int 0, .int 0])), (q84, .inr (9, [.int 0, .int 0, .int 0, .ref u110, .ref u111, .ref u112]))] H := hP
  have hD : va_D A [(h0, .inr (0, [.ref q7, .int 0, .int 0, .ref q13, .ref q24, .ref q35, .ref q47, .ref q58, .ref q69, .ref q84, .ref q95, .int 0, .int 0])), (q84, .inr (9, [.int 0, .int 0, .int 0, .ref u110, .ref u111, .ref u112]))] := hD
  have hK : va_K (dC, dI) vwCl [] s := hK
  have hr9 : r1 = 0 := hr9
  subst hr9
  refine lv_if_ne (tgt := 20) hx hb dc_SB_isNumber_9 (by decide) (fun h9 => absurd (by decide) h9) (fun _ => ?_)
  exact ex_throw (own := "StrataBase") (cls := "java/lang/IndexOutOfBoundsException") (names := ["java/lang/RuntimeException", "java/lang/Exception"]) hx hb hl9 hown (by decide +kernel) (by decide +kernel) (hT _ wd_1285) (hT _ wd_24) (fun w h => hT w (xo_SB_165 w h)) hEz (ex_locs hP0 (fun q h => by rw [← hAe] at h; exact h) hS) (by rw [hml]; exact hl.1) dc_SB_isNumber_12 dc_SB_isNumber_15 dc_SB_isNumber_16 dc_SB_isNumber_19 hEx (Nat.le_of_ble_eq_true rfl) (Nat.le_of_ble_eq_true rfl) (Nat.le_of_ble_eq_true rfl) (Nat.le_of_ble_eq_true rfl) hlocks hS (Nat.le_of_ble_eq_true rfl) (Nat.le_of_ble_eq_true rfl)

set_option maxHeartbeats 4000000 in
set_option maxRecDepth 100000 in
theorem c_SB_number_x (l : Launch) (hl9 : l.stackTraces = false) (dC : Nat → ClassId) (dI : Nat → Nat → Nat) (h0 : Nat) (q7 : Nat) (q13 : Nat) (q24 : Nat) (q35 : Nat) (q47 : Nat) (q58 : Nat) (q69 : Nat) (q84 : Nat) (q95 : Nat) (u110 : Nat) (u111 : Nat) (u112 : Nat) (p0 : Int32) (p1 : Int32) (sz : Nat) : ex_Met l my_SB_number (Cond.code my_SB_number cd_SB_number 5 (some (.int)) :: tblG) ({ frames := 6, cells := 1, slots := 6, locals := 81 }) (va_Pc [.ref h0, .int p0, .int p1] (fun U => U.heap.size = sz ∧ va_P (dC, dI) vwCl [(h0, .inr (0, [.ref q7, .int 0, .int 0, .ref q13, .ref q24, .ref q35, .ref q47, .ref q58, .ref q69, .ref q84, .ref q95, .int 0, .int 0])), (q84, .inr (9, [.int 0, .int 0, .int 0, .ref u110, .ref u111, .ref u112]))] U.heap ∧ va_K (dC, dI) vwCl [] U ∧ va_D (fun _ => True) [(h0, .inr (0, [.ref q7, .int 0, .int 0, .ref q13, .ref q24, .ref q35, .ref q47, .ref q58, .ref q69, .ref q84, .ref q95, .int 0, .int 0])), (q84, .inr (9, [.int 0, .int 0, .int 0, .ref u110, .ref u111, .ref u112]))] ∧ ex_Z "java/lang/IndexOutOfBoundsException" U)) "java/lang/IndexOutOfBoundsException" (va_A [(h0, .inr (0, [.ref q7, .int 0, .int 0, .ref q13, .ref q24, .ref q35, .ref q47, .ref q58, .ref q69, .ref q84, .ref q95, .int 0, .int 0])), (q84, .inr (9, [.int 0, .int 0, .int 0, .ref u110, .ref u111, .ref u112]))] sz) 1 6 := by
  refine ex_ofW (cc := cd_SB_number) (maxL := 5) (ret := (some (.int))) (by decide) rfl ?_
  intro p e s m args below meth c s₁ B hml hEx hv
  obtain ⟨rfl, hsz, hP, hK, hD0, hEz⟩ := hv
  have hx := B.exec
  have hb := B.bytes
  have hr := B.returns
  have hT : ∀ w ∈ tblG, w.before _ s = true := fun w h => atoms_spec (ws := (Cond.code my_SB_number cd_SB_number 5 (some (.int)) :: tblG)) B.pre w (List.mem_cons_of_mem _ h)
  have hown : s.vm.findClass "StrataBase" = some m.cls := findClass_of_methodNamed B.named
  have hlocks := B.notSynchronized
  have hP0 := hP
  subst hsz
  have hD := hD0.self (sz := s.heap.size)
  generalize hAe : va_A [(h0, .inr (0, [.ref q7, .int 0, .int 0, .ref q13, .ref q24, .ref q35, .ref q47, .ref q58, .ref q69, .ref q84, .ref q95, .int 0, .int 0])), (q84, .inr (9, [.int 0, .int 0, .int 0, .ref u110, .ref u111, .ref u112]))] s.heap.size = A at hD ⊢
  have hA : ∀ q : Nat, s.heap.size ≤ q → A q := fun q h => by rw [← hAe]; exact Or.inr h
  have hS : va_S A s.heap s.heap [] := va_S.rf
  have hl := lv_entry ([.ref h0, .int p0, .int p1]) (n := 5) (Nat.le_of_ble_eq_true rfl)
  rw [lg_entry_eq]
  generalize (lg_sl ([.ref h0, .int p0, .int p1]) ++ List.replicate (5 - (lg_sl ([.ref h0, .int p0, .int p1])).length) Slot.unset).toArray = ls at hl ⊢
  have hl : lv_has ls 5 [(0, .ref h0), (1, .int p0), (2, .int p1)] := hl
  refine lv_aload_n hx hb dc_SB_number_0 rfl (lv_at hl 0 rfl) ?_
  refine va_get (D := (dC, dI)) (ci := 0) (v := .ref q84) (C := "StrataBase") (T := tb_SB) (N := 13) hx hb hT in_SB hown hK hP 0 rfl rfl 9 (by decide) (hT _ wd_526) (fun _ h9 => h9) rfl dc_SB_number_1 ?_
  refine lv_iload_n hx hb dc_SB_number_4 rfl (lv_at hl 1 rfl) ?_
  refine lv_iload_n hx hb dc_SB_number_5 rfl (lv_at hl 2 rfl) ?_
  have hPc := hP.sub (ws' := [(q84, .inr (9, [.int 0, .int 0, .int 0, .ref u110, .ref u111, .ref u112]))]) [1] rfl
  have hDc := hD.sub (ws' := [(q84, .inr (9, [.int 0, .int 0, .int 0, .ref u110, .ref u111, .ref u112]))]) [1] (by decide) rfl
  have hKc := hK.sub (tys' := []) [] rfl
  have hFc := va_free (wc := [(q84, .inr (9, [.int 0, .int 0, .int 0, .ref u110, .ref u111, .ref u112]))]) hD hS hA [1] rfl
  refine va_calli (va_runV (As := [.int p0, .int p1]) (rest := []) ⟨hx, hb, hml, hown, hT⟩ (c_Ro_has_1 l dC dI q84 u110 u111 u112 p0 p1 s.heap.size) (cwV 2 hT (gd_V wd_1281 wd_1282 wd_1283 wd_12 wd_1284) rfl rfl rfl (by decide +kernel) ⟨Nat.le_of_ble_eq_true rfl, Nat.le_of_ble_eq_true rfl⟩) ⟨fun a U g mk q => by obtain ⟨q0, q1, qP, qK, qD⟩ := q; exact ⟨q0, q1, qP, va_K.moved (u := U) (U := U.calling g mk a) (Vm.Alike.refl U.vm) qK, qD⟩, va_recv hK hP (q0 := 1) (ci := 9) rfl rfl, fun U hU hW => ⟨rfl, by rw [hU], by rw [hU]; exact hPc, va_K.moved hW.alike hKc, hDc.weaken (fun _ _ _ _ => trivial)⟩⟩ rfl rfl hl.1 rfl (lv_room (Nat.le_of_ble_eq_true rfl)) dc_SB_number_6 ⟨(Nat.le_of_ble_eq_true rfl), (Nat.le_of_ble_eq_true rfl)⟩) hS (fun q _ h => hFc q h) hFc (fun r1 _ t H1 locs ht hvm hr9 hB hz1 hk1 hS => ?_)
  obtain ⟨hP1, hK1, hD1⟩ := hB
  rw [ht] at hP1
  have hK1 := va_K.moved hvm.symm hK1
  obtain ⟨hP, hD⟩ := va_join (wr := [(h0, .inr (0, [.ref q7, .int 0, .int 0, .ref q13, .ref q24, .ref q35, .ref q47, .ref q58, .ref q69, .ref q84, .ref q95, .int 0, .int 0]))]) (w1 := [(q84, .inr (9, [.int 0, .int 0, .int 0, .ref u110, .ref u111, .ref u112]))]) hP hD [1] [0] rfl rfl (by decide) (by decide) hk1 hFc hP1 hD1
  have hK := (hK.sub (tys' := []) [] rfl).app hK1
  generalize H1 = H at hP hS ⊢
  have hP : va_P (dC, dI) vwCl [(h0, .inr (0, [.ref q7, .int 0, .int 0, .ref q13, .ref q24, .ref q35, .ref q47, .ref q58, .ref q69, .ref q84, .ref q95, .int 0, .int 0])), (q84, .inr (9, [.int 0, .int 0, .int 0, .ref u110, .ref u111, .ref u112]))] H := hP
  have hD : va_D A [(h0, .inr (0, [.ref q7, .int 0, .int 0, .ref q13, .ref q24, .ref q35, .ref q47, .ref q58, .ref q69, .ref q84, .ref q95, .int 0, .int 0])), (q84, .inr (9, [.int 0, .int 0, .int 0, .ref u110, .ref u111, .ref u112]))] := hD
  have hK : va_K (dC, dI) vwCl [] s := hK
  have hr9 : r1 = 0 := hr9
  subst hr9
  refine lv_if_ne (tgt := 20) hx hb dc_SB_number_9 (by decide) (fun h9 => absurd (by decide) h9) (fun _ => ?_)
  exact ex_throw (own := "StrataBase") (cls := "java/lang/IndexOutOfBoundsException") (names := ["java/lang/RuntimeException", "java/lang/Exception"]) hx hb hl9 hown (by decide +kernel) (by decide +kernel) (hT _ wd_1285) (hT _ wd_24) (fun w h => hT w (xo_SB_165 w h)) hEz (ex_locs hP0 (fun q h => by rw [← hAe] at h; exact h) hS) (by rw [hml]; exact hl.1) dc_SB_number_12 dc_SB_number_15 dc_SB_number_16 dc_SB_number_19 hEx (Nat.le_of_ble_eq_true rfl) (Nat.le_of_ble_eq_true rfl) (Nat.le_of_ble_eq_true rfl) (Nat.le_of_ble_eq_true rfl) hlocks hS (Nat.le_of_ble_eq_true rfl) (Nat.le_of_ble_eq_true rfl)

set_option maxHeartbeats 4000000 in
set_option maxRecDepth 100000 in
theorem c_SB_letter_x (l : Launch) (hl9 : l.stackTraces = false) (dC : Nat → ClassId) (dI : Nat → Nat → Nat) (h0 : Nat) (q7 : Nat) (q13 : Nat) (q24 : Nat) (q35 : Nat) (q47 : Nat) (q58 : Nat) (q69 : Nat) (q84 : Nat) (q95 : Nat) (u110 : Nat) (u111 : Nat) (u112 : Nat) (p0 : Int32) (p1 : Int32) (p2 : Int32) (sz : Nat) : ex_Met l my_SB_letter (Cond.code my_SB_letter cd_SB_letter 5 (some (.int)) :: tblG) ({ frames := 6, cells := 1, slots := 6, locals := 81 }) (va_Pc [.ref h0, .int p0, .int p1, .int p2] (fun U => U.heap.size = sz ∧ va_P (dC, dI) vwCl [(h0, .inr (0, [.ref q7, .int 0, .int 0, .ref q13, .ref q24, .ref q35, .ref q47, .ref q58, .ref q69, .ref q84, .ref q95, .int 0, .int 0])), (q84, .inr (9, [.int 0, .int 0, .int 0, .ref u110, .ref u111, .ref u112]))] U.heap ∧ va_K (dC, dI) vwCl [] U ∧ va_D (fun _ => True) [(h0, .inr (0, [.ref q7, .int 0, .int 0, .ref q13, .ref q24, .ref q35, .ref q47, .ref q58, .ref q69, .ref q84, .ref q95, .int 0, .int 0])), (q84, .inr (9, [.int 0, .int 0, .int 0, .ref u110, .ref u111, .ref u112]))] ∧ ex_Z "java/lang/IndexOutOfBoundsException" U)) "java/lang/IndexOutOfBoundsException" (va_A [(h0, .inr (0, [.ref q7, .int 0, .int 0, .ref q13, .ref q24, .ref q35, .ref q47, .ref q58, .ref q69, .ref q84, .ref q95, .int 0, .int 0])), (q84, .inr (9, [.int 0, .int 0, .int 0, .ref u110, .ref u111, .ref u112]))] sz) 1 6 := by
  refine ex_ofW (cc := cd_SB_letter) (maxL := 5) (ret := (some (.int))) (by decide) rfl ?_
  intro p e s m args below meth c s₁ B hml hEx hv
  obtain ⟨rfl, hsz, hP, hK, hD0, hEz⟩ := hv
  have hx := B.exec
  have hb := B.bytes
  have hr := B.returns
  have hT : ∀ w ∈ tblG, w.before _ s = true := fun w h => atoms_spec (ws := (Cond.code my_SB_letter cd_SB_letter 5 (some (.int)) :: tblG)) B.pre w (List.mem_cons_of_mem _ h)
  have hown : s.vm.findClass "StrataBase" = some m.cls := findClass_of_methodNamed B.named
  have hlocks := B.notSynchronized
  have hP0 := hP
  subst hsz
  have hD := hD0.self (sz := s.heap.size)
  generalize hAe : va_A [(h0, .inr (0, [.ref q7, .int 0, .int 0, .ref q13, .ref q24, .ref q35, .ref q47, .ref q58, .ref q69, .ref q84, .ref q95, .int 0, .int 0])), (q84, .inr (9, [.int 0, .int 0, .int 0, .ref u110, .ref u111, .ref u112]))] s.heap.size = A at hD ⊢
  have hA : ∀ q : Nat, s.heap.size ≤ q → A q := fun q h => by rw [← hAe]; exact Or.inr h
  have hS : va_S A s.heap s.heap [] := va_S.rf
  have hl := lv_entry ([.ref h0, .int p0, .int p1, .int p2]) (n := 5) (Nat.le_of_ble_eq_true rfl)
  rw [lg_entry_eq]
  generalize (lg_sl ([.ref h0, .int p0, .int p1, .int p2]) ++ List.replicate (5 - (lg_sl ([.ref h0, .int p0, .int p1, .int p2])).length) Slot.unset).toArray = ls at hl ⊢
  have hl : lv_has ls 5 [(0, .ref h0), (1, .int p0), (2, .int p1), (3, .int p2)] := hl
  refine lv_aload_n hx hb dc_SB_letter_0 rfl (lv_at hl 0 rfl) ?_
  refine va_get (D := (dC, dI)) (ci := 0) (v := .ref q84) (C := "StrataBase") (T := tb_SB) (N := 13) hx hb hT in_SB hown hK hP 0 rfl rfl 9 (by decide) (hT _ wd_526) (fun _ h9 => h9) rfl dc_SB_letter_1 ?_
  refine lv_iload_n hx hb dc_SB_letter_4 rfl (lv_at hl 1 rfl) ?_
  refine lv_iload_n hx hb dc_SB_letter_5 rfl (lv_at hl 2 rfl) ?_
  have hPc := hP.sub (ws' := [(q84, .inr (9, [.int 0, .int 0, .int 0, .ref u110, .ref u111, .ref u112]))]) [1] rfl
  have hDc := hD.sub (ws' := [(q84, .inr (9, [.int 0, .int 0, .int 0, .ref u110, .ref u111, .ref u112]))]) [1] (by decide) rfl
  have hKc := hK.sub (tys' := []) [] rfl
  have hFc := va_free (wc := [(q84, .inr (9, [.int 0, .int 0, .int 0, .ref u110, .ref u111, .ref u112]))]) hD hS hA [1] rfl
  refine va_calli (va_runV (As := [.int p0, .int p1]) (rest := []) ⟨hx, hb, hml, hown, hT⟩ (c_Ro_has_1 l dC dI q84 u110 u111 u112 p0 p1 s.heap.size) (cwV 2 hT (gd_V wd_1281 wd_1282 wd_1283 wd_12 wd_1284) rfl rfl rfl (by decide +kernel) ⟨Nat.le_of_ble_eq_true rfl, Nat.le_of_ble_eq_true rfl⟩) ⟨fun a U g mk q => by obtain ⟨q0, q1, qP, qK, qD⟩ := q; exact ⟨q0, q1, qP, va_K.moved (u := U) (U := U.calling g mk a) (Vm.Alike.refl U.vm) qK, qD⟩, va_recv hK hP (q0 := 1) (ci := 9) rfl rfl, fun U hU hW => ⟨rfl, by rw [hU], by rw [hU]; exact hPc, va_K.moved hW.alike hKc, hDc.weaken (fun _ _ _ _ => trivial)⟩⟩ rfl rfl hl.1 rfl (lv_room (Nat.le_of_ble_eq_true rfl)) dc_SB_letter_6 ⟨(Nat.le_of_ble_eq_true rfl), (Nat.le_of_ble_eq_true rfl)⟩) hS (fun q _ h => hFc q h) hFc (fun r1 _ t H1 locs ht hvm hr9 hB hz1 hk1 hS => ?_)
  obtain ⟨hP1, hK1, hD1⟩ := hB
  rw [ht] at hP1
  have hK1 := va_K.moved hvm.symm hK1
  obtain ⟨hP, hD⟩ := va_join (wr := [(h0, .inr (0, [.ref q7, .int 0, .int 0, .ref q13, .ref q24, .ref q35, .ref q47, .ref q58, .ref q69, .ref q84, .ref q95, .int 0, .int 0]))]) (w1 := [(q84, .inr (9, [.int 0, .int 0, .int 0, .ref u110, .ref u111, .ref u112]))]) hP hD [1] [0] rfl rfl (by decide) (by decide) hk1 hFc hP1 hD1
  have hK := (hK.sub (tys' := []) [] rfl).app hK1
  generalize H1 = H at hP hS ⊢
  have hP : va_P (dC, dI) vwCl [(h0, .inr (0, [.ref q7, .int 0, .int 0, .ref q13, .ref q24, .ref q35, .ref q47, .ref q58, .ref q69, .ref q84, .ref q95, .int 0, .int 0])), (q84, .inr (9, [.int 0, .int 0, .int 0, .ref u110, .ref u111, .ref u112]))] H := hP
  have hD : va_D A [(h0, .inr (0, [.ref q7, .int 0, .int 0, .ref q13, .ref q24, .ref q35, .ref q47, .ref q58, .ref q69, .ref q84, .ref q95, .int 0, .int 0])), (q84, .inr (9, [.int 0, .int 0, .int 0, .ref u110, .ref u111, .ref u112]))] := hD
  have hK : va_K (dC, dI) vwCl [] s := hK
  have hr9 : r1 = 0 := hr9
  subst hr9
  refine lv_if_ne (tgt := 20) hx hb dc_SB_letter_9 (by decide) (fun h9 => absurd (by decide) h9) (fun _ => ?_)
  exact ex_throw (own := "StrataBase") (cls := "java/lang/IndexOutOfBoundsException") (names := ["java/lang/RuntimeException", "java/lang/Exception"]) hx hb hl9 hown (by decide +kernel) (by decide +kernel) (hT _ wd_1285) (hT _ wd_24) (fun w h => hT w (xo_SB_165 w h)) hEz (ex_locs hP0 (fun q h => by rw [← hAe] at h; exact h) hS) (by rw [hml]; exact hl.1) dc_SB_letter_12 dc_SB_letter_15 dc_SB_letter_16 dc_SB_letter_19 hEx (Nat.le_of_ble_eq_true rfl) (Nat.le_of_ble_eq_true rfl) (Nat.le_of_ble_eq_true rfl) (Nat.le_of_ble_eq_true rfl) hlocks hS (Nat.le_of_ble_eq_true rfl) (Nat.le_of_ble_eq_true rfl)

set_option maxHeartbeats 4000000 in
set_option maxRecDepth 100000 in
theorem c_SB_count_x (l : Launch) (hl9 : l.stackTraces = false) (dC : Nat → ClassId) (dI : Nat → Nat → Nat) (h0 : Nat) (p0 : Int32) (sz : Nat) (hn : p0.toInt < 0 ∨ 6 < p0.toInt) : ex_Met l my_SB_count (Cond.code my_SB_count cd_SB_count 2 (some (.int)) :: tblG) ({ frames := 6, cells := 1, slots := 6, locals := 81 }) (va_Pc [.ref h0, .int p0] (fun U => U.heap.size = sz ∧ va_P (dC, dI) vwCl [] U.heap ∧ va_K (dC, dI) vwCl [] U ∧ va_D (fun _ => True) [] ∧ ex_Z "java/lang/IllegalArgumentException" U)) "java/lang/IllegalArgumentException" (va_A [] sz) 1 6 := by
  refine ex_ofW (cc := cd_SB_count) (maxL := 2) (ret := (some (.int))) (by decide) rfl ?_
  intro p e s m args below meth c s₁ B hml hEx hv
  obtain ⟨rfl, hsz, hP, hK, hD0, hEz⟩ := hv
  have hx := B.exec
  have hb := B.bytes
  have hr := B.returns
  have hT : ∀ w ∈ tblG, w.before _ s = true := fun w h => atoms_spec (ws := (Cond.code my_SB_count cd_SB_count 2 (some (.int)) :: tblG)) B.pre w (List.mem_cons_of_mem _ h)
  have hown : s.vm.findClass "StrataBase" = some m.cls := findClass_of_methodNamed B.named
  have hlocks := B.notSynchronized
  have hP0 := hP
  subst hsz
  have hD := hD0.self (sz := s.heap.size)
  generalize hAe : va_A [] s.heap.size = A at hD ⊢
  have hA : ∀ q : Nat, s.heap.size ≤ q → A q := fun q h => by rw [← hAe]; exact Or.inr h
  have hS : va_S A s.heap s.heap [] := va_S.rf
  have hl := lv_entry ([.ref h0, .int p0]) (n := 2) (Nat.le_of_ble_eq_true rfl)
  rw [lg_entry_eq]
  generalize (lg_sl ([.ref h0, .int p0]) ++ List.replicate (2 - (lg_sl ([.ref h0, .int p0])).length) Slot.unset).toArray = ls at hl ⊢
  have hl : lv_has ls 2 [(0, .ref h0), (1, .int p0)] := hl
  refine lv_iload_n hx hb dc_SB_count_0 rfl (lv_at hl 1 rfl) ?_
  refine lv_tableOut (tgt := 131) hx hb dc_SB_count_1 hn (by decide) ?_
  exact ex_throw (own := "StrataBase") (cls := "java/lang/IllegalArgumentException") (names := ["java/lang/RuntimeException", "java/lang/Exception"]) hx hb hl9 hown (by decide +kernel) (by decide +kernel) (hT _ wd_998) (hT _ wd_18) (fun w h => hT w (xo_SB_78 w h)) hEz (ex_locs hP0 (fun q h => by rw [← hAe] at h; exact h) hS) (by rw [hml]; exact hl.1) dc_SB_count_131 dc_SB_count_134 dc_SB_count_135 dc_SB_count_138 hEx (Nat.le_of_ble_eq_true rfl) (Nat.le_of_ble_eq_true rfl) (Nat.le_of_ble_eq_true rfl) (Nat.le_of_ble_eq_true rfl) hlocks hS (Nat.le_of_ble_eq_true rfl) (Nat.le_of_ble_eq_true rfl)
