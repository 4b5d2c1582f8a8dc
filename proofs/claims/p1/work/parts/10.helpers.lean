theorem dc_Lw_feed_0 : decode cd_Lw_feed 0 = .ok (.aload 6, 2) := by decide +kernel
theorem dc_Lw_feed_2 : decode cd_Lw_feed 2 = .ok (.iconst 0, 1) := by decide +kernel
theorem dc_Lw_feed_3 : decode cd_Lw_feed 3 = .ok (.aload_n 0, 1) := by decide +kernel
theorem dc_Lw_feed_4 : decode cd_Lw_feed 4 = .ok (.iload_n 1, 1) := by decide +kernel
theorem dc_Lw_feed_5 : decode cd_Lw_feed 5 = .ok (.iload_n 2, 1) := by decide +kernel
theorem dc_Lw_feed_6 : decode cd_Lw_feed 6 = .ok (.iload_n 3, 1) := by decide +kernel
theorem dc_Lw_feed_7 : decode cd_Lw_feed 7 = .ok (.iload 4, 2) := by decide +kernel
theorem dc_Lw_feed_9 : decode cd_Lw_feed 9 = .ok (.iload 5, 2) := by decide +kernel
theorem dc_Lw_feed_11 : decode cd_Lw_feed 11 = .ok (.invokevirtual 7, 3) := by decide +kernel
theorem dc_Lw_feed_14 : decode cd_Lw_feed 14 = .ok (.i2l, 1) := by decide +kernel
theorem dc_Lw_feed_15 : decode cd_Lw_feed 15 = .ok (.lastore, 1) := by decide +kernel
theorem dc_Lw_feed_16 : decode cd_Lw_feed 16 = .ok (.goto 7, 3) := by decide +kernel
theorem dc_Lw_feed_23 : decode cd_Lw_feed 23 = .ok (.iconst 0, 1) := by decide +kernel
theorem dc_Lw_feed_24 : decode cd_Lw_feed 24 = .ok (.ireturn, 1) := by decide +kernel
theorem dc_Lw_end_0 : decode cd_Lw_end 0 = .ok (.aload_n 0, 1) := by decide +kernel
theorem dc_Lw_end_1 : decode cd_Lw_end 1 = .ok (.iload_n 1, 1) := by decide +kernel
theorem dc_Lw_end_2 : decode cd_Lw_end 2 = .ok (.invokevirtual 15, 3) := by decide +kernel
theorem dc_Lw_end_5 : decode cd_Lw_end 5 = .ok (.goto 6, 3) := by decide +kernel
theorem dc_Lw_end_8 : decode cd_Lw_end 8 = .ok (.astore_n 2, 1) := by decide +kernel
theorem dc_Lw_end_9 : decode cd_Lw_end 9 = .ok (.iconst 1, 1) := by decide +kernel
theorem dc_Lw_end_10 : decode cd_Lw_end 10 = .ok (.ireturn, 1) := by decide +kernel
theorem dc_Lw_end_11 : decode cd_Lw_end 11 = .ok (.iconst 0, 1) := by decide +kernel
theorem dc_Lw_end_12 : decode cd_Lw_end 12 = .ok (.ireturn, 1) := by decide +kernel
theorem dc_Lw_run_0 : decode cd_Lw_run 0 = .ok (.aload_n 1, 1) := by decide +kernel
theorem dc_Lw_run_1 : decode cd_Lw_run 1 = .ok (.iconst 0, 1) := by decide +kernel
theorem dc_Lw_run_2 : decode cd_Lw_run 2 = .ok (.aload_n 0, 1) := by decide +kernel
theorem dc_Lw_run_3 : decode cd_Lw_run 3 = .ok (.invokevirtual 21, 3) := by decide +kernel
theorem dc_Lw_run_6 : decode cd_Lw_run 6 = .ok (.i2l, 1) := by decide +kernel
theorem dc_Lw_run_7 : decode cd_Lw_run 7 = .ok (.lastore, 1) := by decide +kernel
theorem dc_Lw_run_8 : decode cd_Lw_run 8 = .ok (.goto 6, 3) := by decide +kernel
theorem dc_Lw_run_14 : decode cd_Lw_run 14 = .ok (.iconst 0, 1) := by decide +kernel
theorem dc_Lw_run_15 : decode cd_Lw_run 15 = .ok (.ireturn, 1) := by decide +kernel
theorem dc_Lw_ask_0 : decode cd_Lw_ask 0 = .ok (.aload_n 1, 1) := by decide +kernel
theorem dc_Lw_ask_1 : decode cd_Lw_ask 1 = .ok (.iconst 0, 1) := by decide +kernel
theorem dc_Lw_ask_2 : decode cd_Lw_ask 2 = .ok (.aload_n 0, 1) := by decide +kernel
theorem dc_Lw_ask_3 : decode cd_Lw_ask 3 = .ok (.invokevirtual 25, 3) := by decide +kernel
theorem dc_Lw_ask_11 : decode cd_Lw_ask 11 = .ok (.astore_n 2, 1) := by decide +kernel
theorem dc_Lw_ask_12 : decode cd_Lw_ask 12 = .ok (.iconst 1, 1) := by decide +kernel
theorem dc_Lw_ask_13 : decode cd_Lw_ask 13 = .ok (.ireturn, 1) := by decide +kernel
theorem dc_Lw_isNumber_0 : decode cd_Lw_isNumber 0 = .ok (.aload_n 3, 1) := by decide +kernel
theorem dc_Lw_isNumber_1 : decode cd_Lw_isNumber 1 = .ok (.iconst 0, 1) := by decide +kernel
theorem dc_Lw_isNumber_2 : decode cd_Lw_isNumber 2 = .ok (.aload_n 0, 1) := by decide +kernel
theorem dc_Lw_isNumber_3 : decode cd_Lw_isNumber 3 = .ok (.iload_n 1, 1) := by decide +kernel
theorem dc_Lw_isNumber_4 : decode cd_Lw_isNumber 4 = .ok (.iload_n 2, 1) := by decide +kernel
theorem dc_Lw_isNumber_5 : decode cd_Lw_isNumber 5 = .ok (.invokevirtual 30, 3) := by decide +kernel
theorem dc_Lw_isNumber_20 : decode cd_Lw_isNumber 20 = .ok (.astore 4, 2) := by decide +kernel
theorem dc_Lw_isNumber_22 : decode cd_Lw_isNumber 22 = .ok (.iconst 1, 1) := by decide +kernel
theorem dc_Lw_isNumber_23 : decode cd_Lw_isNumber 23 = .ok (.ireturn, 1) := by decide +kernel
theorem dc_Lw_number_0 : decode cd_Lw_number 0 = .ok (.aload_n 3, 1) := by decide +kernel
theorem dc_Lw_number_1 : decode cd_Lw_number 1 = .ok (.iconst 0, 1) := by decide +kernel
theorem dc_Lw_number_2 : decode cd_Lw_number 2 = .ok (.aload_n 0, 1) := by decide +kernel
theorem dc_Lw_number_3 : decode cd_Lw_number 3 = .ok (.iload_n 1, 1) := by decide +kernel
theorem dc_Lw_number_4 : decode cd_Lw_number 4 = .ok (.iload_n 2, 1) := by decide +kernel
theorem dc_Lw_number_5 : decode cd_Lw_number 5 = .ok (.invokevirtual 36, 3) := by decide +kernel
theorem dc_Lw_number_13 : decode cd_Lw_number 13 = .ok (.astore 4, 2) := by decide +kernel
theorem dc_Lw_number_15 : decode cd_Lw_number 15 = .ok (.iconst 1, 1) := by decide +kernel
theorem dc_Lw_number_16 : decode cd_Lw_number 16 = .ok (.ireturn, 1) := by decide +kernel
theorem dc_Lw_letter_0 : decode cd_Lw_letter 0 = .ok (.aload 4, 2) := by decide +kernel
theorem dc_Lw_letter_2 : decode cd_Lw_letter 2 = .ok (.iconst 0, 1) := by decide +kernel
theorem dc_Lw_letter_3 : decode cd_Lw_letter 3 = .ok (.aload_n 0, 1) := by decide +kernel
theorem dc_Lw_letter_4 : decode cd_Lw_letter 4 = .ok (.iload_n 1, 1) := by decide +kernel
theorem dc_Lw_letter_5 : decode cd_Lw_letter 5 = .ok (.iload_n 2, 1) := by decide +kernel
theorem dc_Lw_letter_6 : decode cd_Lw_letter 6 = .ok (.iload_n 3, 1) := by decide +kernel
theorem dc_Lw_letter_7 : decode cd_Lw_letter 7 = .ok (.invokevirtual 40, 3) := by decide +kernel
theorem dc_Lw_letter_15 : decode cd_Lw_letter 15 = .ok (.astore 5, 2) := by decide +kernel
theorem dc_Lw_letter_17 : decode cd_Lw_letter 17 = .ok (.iconst 1, 1) := by decide +kernel
theorem dc_Lw_letter_18 : decode cd_Lw_letter 18 = .ok (.ireturn, 1) := by decide +kernel
theorem dc_Lw_stage_0 : decode cd_Lw_stage 0 = .ok (.aload_n 1, 1) := by decide +kernel
theorem dc_Lw_stage_1 : decode cd_Lw_stage 1 = .ok (.iconst 0, 1) := by decide +kernel
theorem dc_Lw_stage_2 : decode cd_Lw_stage 2 = .ok (.aload_n 0, 1) := by decide +kernel
theorem dc_Lw_stage_3 : decode cd_Lw_stage 3 = .ok (.invokevirtual 44, 3) := by decide +kernel
theorem dc_Lw_stage_11 : decode cd_Lw_stage 11 = .ok (.astore_n 2, 1) := by decide +kernel
theorem dc_Lw_stage_12 : decode cd_Lw_stage 12 = .ok (.iconst 1, 1) := by decide +kernel
theorem dc_Lw_stage_13 : decode cd_Lw_stage 13 = .ok (.ireturn, 1) := by decide +kernel
theorem dc_Lw_count_0 : decode cd_Lw_count 0 = .ok (.aload_n 2, 1) := by decide +kernel
theorem dc_Lw_count_1 : decode cd_Lw_count 1 = .ok (.iconst 0, 1) := by decide +kernel
theorem dc_Lw_count_2 : decode cd_Lw_count 2 = .ok (.aload_n 0, 1) := by decide +kernel
theorem dc_Lw_count_3 : decode cd_Lw_count 3 = .ok (.iload_n 1, 1) := by decide +kernel
theorem dc_Lw_count_4 : decode cd_Lw_count 4 = .ok (.invokevirtual 47, 3) := by decide +kernel
theorem dc_Lw_count_7 : decode cd_Lw_count 7 = .ok (.i2l, 1) := by decide +kernel
theorem dc_Lw_count_8 : decode cd_Lw_count 8 = .ok (.lastore, 1) := by decide +kernel
theorem dc_Lw_count_9 : decode cd_Lw_count 9 = .ok (.goto 6, 3) := by decide +kernel
theorem dc_Lw_count_12 : decode cd_Lw_count 12 = .ok (.astore_n 3, 1) := by decide +kernel
theorem dc_Lw_count_13 : decode cd_Lw_count 13 = .ok (.iconst 1, 1) := by decide +kernel
theorem dc_Lw_count_14 : decode cd_Lw_count 14 = .ok (.ireturn, 1) := by decide +kernel
theorem dc_Lw_count_15 : decode cd_Lw_count 15 = .ok (.iconst 0, 1) := by decide +kernel
theorem dc_Lw_count_16 : decode cd_Lw_count 16 = .ok (.ireturn, 1) := by decide +kernel
set_option maxHeartbeats 4000000 in
set_option maxRecDepth 100000 in
theorem c_Lw_feed (l : Launch) (dC : Nat → ClassId) (dI : Nat → Nat → Nat) (h0 : Nat) (q7 : Nat) (q13 : Nat) (q24 : Nat) (q35 : Nat) (q47 : Nat) (q58 : Nat) (q69 : Nat) (q84 : Nat) (q95 : Nat) (ho : Nat) (p0 : Int32) (p1 : Int32) (p2 : Int32) (p3 : Int32) (p4 : Int32) (k7 : ClassId) (ko : ClassId) (sz : Nat) : Met l my_Lw_feed (Cond.codeWith my_Lw_feed cd_Lw_feed 8 (some (.int)) [(0, 16, 19, 13)] :: tblG) ({ frames := 2, cells := 0, slots := 0, locals := 47 }) (va_Pc [.ref h0, .int p0, .int p1, .int p2, .int p3, .int p4, .ref ho] (fun U => U.heap.size = sz ∧ va_P (dC, dI) vwCl [(h0, .inr (0, [.ref q7, .int 0, .int 0, .ref q13, .ref q24, .ref q35, .ref q47, .ref q58, .ref q69, .ref q84, .ref q95, .int 0, .int 0])), (q7, .inl (k7, 65536, .inl (fun _ => 0))), (ho, .inl (ko, 1, .inr (.inl (fun _ => 0))))] U.heap ∧ va_K (dC, dI) vwCl [(k7, .byte), (ko, .long)] U ∧ va_D (fun _ => True) [(h0, .inr (0, [.ref q7, .int 0, .int 0, .ref q13, .ref q24, .ref q35, .ref q47, .ref q58, .ref q69, .ref q84, .ref q95, .int 0, .int 0])), (q7, .inl (k7, 65536, .inl (fun _ => 0))), (ho, .inl (ko, 1, .inr (.inl (fun _ => 0))))])) (va_Qi (fun (r : Int32) (_ : Unit) => r = 0) (fun (_ : Unit) (t : State) => va_P (dC, dI) vwCl [(ho, .inl (ko, 1, .inr (.inl (vp_updL (fun _ => 0) (0 : Int32).toNatClampNeg (20 : Int64)))))] t.heap ∧ va_K (dC, dI) vwCl [(ko, .long)] t ∧ va_D (va_A [(h0, .inr (0, [.ref q7, .int 0, .int 0, .ref q13, .ref q24, .ref q35, .ref q47, .ref q58, .ref q69, .ref q84, .ref q95, .int 0, .int 0])), (q7, .inl (k7, 65536, .inl (fun _ => 0))), (ho, .inl (ko, 1, .inr (.inl (fun _ => 0))))] sz) [(ho, .inl (ko, 1, .inr (.inl (vp_updL (fun _ => 0) (0 : Int32).toNatClampNeg (20 : Int64)))))]) (va_A [(h0, .inr (0, [.ref q7, .int 0, .int 0, .ref q13, .ref q24, .ref q35, .ref q47, .ref q58, .ref q69, .ref q84, .ref q95, .int 0, .int 0])), (q7, .inl (k7, 65536, .inl (fun _ => 0))), (ho, .inl (ko, 1, .inr (.inl (fun _ => 0))))] sz)) 0 0 (va_A [(h0, .inr (0, [.ref q7, .int 0, .int 0, .ref q13, .ref q24, .ref q35, .ref q47, .ref q58, .ref q69, .ref q84, .ref q95, .int 0, .int 0])), (q7, .inl (k7, 65536, .inl (fun _ => 0))), (ho, .inl (ko, 1, .inr (.inl (fun _ => 0))))] sz) := by
  refine va_MetW (cc := cd_Lw_feed) (maxL := 8) (ret := (some (.int))) (by decide) rfl ?_
  intro p e s m args below meth c s₁ B hml hv
  obtain ⟨rfl, hsz, hP, hK, hD0⟩ := hv
  have hx := B.exec
  have hb := B.bytes
  have hr := B.returns
  have hT : ∀ w ∈ tblG, w.before _ s = true := fun w h => atoms_spec (ws := (Cond.codeWith my_Lw_feed cd_Lw_feed 8 (some (.int)) [(0, 16, 19, 13)] :: tblG)) B.pre w (List.mem_cons_of_mem _ h)
  have hown : s.vm.findClass "StrataBaseLaw" = some m.cls := findClass_of_methodNamed B.named
  have hlocks := B.notSynchronized
  have hTab : c.exceptionTable.toList = [⟨0, 16, 19, 13⟩] := ex_table B (atoms_spec (ws := (Cond.codeWith my_Lw_feed cd_Lw_feed 8 (some (.int)) [(0, 16, 19, 13)] :: tblG)) B.pre _ List.mem_cons_self)
  subst hsz
  have hD := hD0.self (sz := s.heap.size)
  generalize hAe : va_A [(h0, .inr (0, [.ref q7, .int 0, .int 0, .ref q13, .ref q24, .ref q35, .ref q47, .ref q58, .ref q69, .ref q84, .ref q95, .int 0, .int 0])), (q7, .inl (k7, 65536, .inl (fun _ => 0))), (ho, .inl (ko, 1, .inr (.inl (fun _ => 0))))] s.heap.size = A at hD ⊢
  have hA : ∀ q : Nat, s.heap.size ≤ q → A q := fun q h => by rw [← hAe]; exact Or.inr h
  have hS : va_S A s.heap s.heap [] := va_S.rf
  have hl := lv_entry ([.ref h0, .int p0, .int p1, .int p2, .int p3, .int p4, .ref ho]) (n := 8) (Nat.le_of_ble_eq_true rfl)
  rw [lg_entry_eq]
  generalize (lg_sl ([.ref h0, .int p0, .int p1, .int p2, .int p3, .int p4, .ref ho]) ++ List.replicate (8 - (lg_sl ([.ref h0, .int p0, .int p1, .int p2, .int p3, .int p4, .ref ho])).length) Slot.unset).toArray = ls at hl ⊢
  have hl : lv_has ls 8 [(0, .ref h0), (1, .int p0), (2, .int p1), (3, .int p2), (4, .int p3), (5, .int p4), (6, .ref ho)] := hl
  refine lv_aload hx hb dc_Lw_feed_0 (lv_at hl 6 rfl) ?_
  refine lv_iconst (v := 0) hx hb dc_Lw_feed_2 (by decide) ?_
  refine lv_aload_n hx hb dc_Lw_feed_3 rfl (lv_at hl 0 rfl) ?_
  refine lv_iload_n hx hb dc_Lw_feed_4 rfl (lv_at hl 1 rfl) ?_
  refine lv_iload_n hx hb dc_Lw_feed_5 rfl (lv_at hl 2 rfl) ?_
  refine lv_iload_n hx hb dc_Lw_feed_6 rfl (lv_at hl 3 rfl) ?_
  refine lv_iload hx hb dc_Lw_feed_7 (lv_at hl 4 rfl) ?_
  refine lv_iload hx hb dc_Lw_feed_9 (lv_at hl 5 rfl) ?_
  have hPc := hP.sub (ws' := [(h0, .inr (0, [.ref q7, .int 0, .int 0, .ref q13, .ref q24, .ref q35, .ref q47, .ref q58, .ref q69, .ref q84, .ref q95, .int 0, .int 0])), (q7, .inl (k7, 65536, .inl (fun _ => 0)))]) [0, 1] rfl
  have hDc := hD.sub (ws' := [(h0, .inr (0, [.ref q7, .int 0, .int 0, .ref q13, .ref q24, .ref q35, .ref q47, .ref q58, .ref q69, .ref q84, .ref q95, .int 0, .int 0])), (q7, .inl (k7, 65536, .inl (fun _ => 0)))]) [0, 1] (by decide) rfl
  have hKc := hK.sub (tys' := [(k7, .byte)]) [0] rfl
  have hFc := va_free (wc := [(h0, .inr (0, [.ref q7, .int 0, .int 0, .ref q13, .ref q24, .ref q35, .ref q47, .ref q58, .ref q69, .ref q84, .ref q95, .int 0, .int 0])), (q7, .inl (k7, 65536, .inl (fun _ => 0)))]) hD hS hA [0, 1] rfl
  refine va_calli (va_runV (As := [.int p0, .int p1, .int p2, .int p3, .int p4]) (rest := [.int 0, .ref ho]) ⟨hx, hb, hml, hown, hT⟩ (c_SB_feed l dC dI h0 q7 q13 q24 q35 q47 q58 q69 q84 q95 p0 p1 p2 p3 p4 k7 s.heap.size) (cwV 5 hT (gd_V wd_918 wd_919 wd_920 wd_1 wd_921) rfl rfl rfl (by decide +kernel) ⟨Nat.le_of_ble_eq_true rfl, Nat.le_of_ble_eq_true rfl⟩) ⟨fun a U g mk q => by obtain ⟨q0, q1, qP, qK, qD⟩ := q; exact ⟨q0, q1, qP, va_K.moved (u := U) (U := U.calling g mk a) (Vm.Alike.refl U.vm) qK, qD⟩, va_recv hK hP (q0 := 0) (ci := 0) rfl rfl, fun U hU hW => ⟨rfl, by rw [hU], by rw [hU]; exact hPc, va_K.moved hW.alike hKc, hDc.weaken (fun _ _ _ _ => trivial)⟩⟩ rfl rfl hl.1 rfl (lv_room (Nat.le_of_ble_eq_true rfl)) dc_Lw_feed_11 ⟨(Nat.le_of_ble_eq_true rfl), (Nat.le_of_ble_eq_true rfl)⟩) hS (fun q _ h => hFc q h) hFc (fun r1 _ t H1 locs ht hvm hr9 hB hz1 hk1 hS => ?_)
  obtain ⟨u2, hP1, hK1, hD1⟩ := hB
  rw [ht] at hP1
  have hK1 := va_K.moved hvm.symm hK1
  obtain ⟨hP, hD⟩ := va_join (wr := [(ho, .inl (ko, 1, .inr (.inl (fun _ => 0))))]) (w1 := [(h0, .inr (0, [.ref q7, .int 20, .int 0, .ref q13, .ref q24, .ref q35, .ref q47, .ref q58, .ref q69, .ref q84, .ref q95, .int 0, .int 0])), (q7, .inl (k7, 65536, .inl u2))]) hP hD [0, 1] [2] rfl rfl (by decide) (by decide) hk1 hFc hP1 hD1
  have hK := (hK.sub (tys' := [(ko, .long)]) [1] rfl).app hK1
  generalize H1 = H at hP hS ⊢
  have hP : va_P (dC, dI) vwCl [(ho, .inl (ko, 1, .inr (.inl (fun _ => 0)))), (h0, .inr (0, [.ref q7, .int 20, .int 0, .ref q13, .ref q24, .ref q35, .ref q47, .ref q58, .ref q69, .ref q84, .ref q95, .int 0, .int 0])), (q7, .inl (k7, 65536, .inl u2))] H := hP
  have hD : va_D A [(ho, .inl (ko, 1, .inr (.inl (fun _ => 0)))), (h0, .inr (0, [.ref q7, .int 20, .int 0, .ref q13, .ref q24, .ref q35, .ref q47, .ref q58, .ref q69, .ref q84, .ref q95, .int 0, .int 0])), (q7, .inl (k7, 65536, .inl u2))] := hD
  have hK : va_K (dC, dI) vwCl [(ko, .long), (k7, .byte)] s := hK
  have hr9 : r1 = 20 := hr9
  subst hr9
  refine lv_i2l (v := 20) hx hb dc_Lw_feed_14 (by decide) ?_
  refine va_last hx hb hK hP hD hS 0 0 rfl rfl (show vp_in (0 : Int32) 1 from vp_in_nI (n := 0) (Nat.lt_of_lt_of_le (by decide : 0 < 1) (Nat.le_of_ble_eq_true rfl)) (Nat.lt_of_le_of_lt (Nat.le_of_ble_eq_true rfl) (by decide : 1 < 2 ^ 31))) dc_Lw_feed_15 (fun H locs hP hD hS => ?_)
  have hP : va_P (dC, dI) vwCl [(ho, .inl (ko, 1, .inr (.inl (vp_updL (fun _ => 0) (0 : Int32).toNatClampNeg (20 : Int64))))), (h0, .inr (0, [.ref q7, .int 20, .int 0, .ref q13, .ref q24, .ref q35, .ref q47, .ref q58, .ref q69, .ref q84, .ref q95, .int 0, .int 0])), (q7, .inl (k7, 65536, .inl u2))] H := hP
  have hD : va_D A [(ho, .inl (ko, 1, .inr (.inl (vp_updL (fun _ => 0) (0 : Int32).toNatClampNeg (20 : Int64))))), (h0, .inr (0, [.ref q7, .int 20, .int 0, .ref q13, .ref q24, .ref q35, .ref q47, .ref q58, .ref q69, .ref q84, .ref q95, .int 0, .int 0])), (q7, .inl (k7, 65536, .inl u2))] := hD
  refine lv_goto (tgt := 23) hx hb dc_Lw_feed_16 (by decide) ?_
  refine lv_iconst (v := 0) hx hb dc_Lw_feed_23 (by decide) ?_
  have hP9 := hP.sub (ws' := [(ho, .inl (ko, 1, .inr (.inl (vp_updL (fun _ => 0) (0 : Int32).toNatClampNeg (20 : Int64)))))]) [0] rfl
  have hD9 := hD.sub (ws' := [(ho, .inl (ko, 1, .inr (.inl (vp_updL (fun _ => 0) (0 : Int32).toNatClampNeg (20 : Int64)))))]) [0] (by decide) rfl
  have hK9 := hK.sub (tys' := [(ko, .long)]) [0] rfl
  refine W.widen (k := 0) (n := 0) (Nat.le_of_ble_eq_true rfl) (Nat.le_of_ble_eq_true rfl) ?_
  exact W.iret (v := 0) hx hb hr (fun t ht hW => ⟨⟨0, (), rfl, rfl, by rw [ht]; exact hP9, va_K.moved hW.alike hK9, hD9⟩, hS.F ht⟩) hS.2.2 dc_Lw_feed_24

set_option maxHeartbeats 4000000 in
set_option maxRecDepth 100000 in
theorem c_Lw_end_0 (l : Launch) (dC : Nat → ClassId) (dI : Nat → Nat → Nat) (h0 : Nat) (q7 : Nat) (q13 : Nat) (q24 : Nat) (q35 : Nat) (q47 : Nat) (q58 : Nat) (q69 : Nat) (q84 : Nat) (q95 : Nat) (sz : Nat) : Met l my_Lw_end (Cond.codeWith my_Lw_end cd_Lw_end 3 (some (.int)) [(0, 5, 8, 19)] :: tblG) ({ frames := 1, cells := 0, slots := 0, locals := 21 }) (va_Pc [.ref h0, .int 0] (fun U => U.heap.size = sz ∧ va_P (dC, dI) vwCl [(h0, .inr (0, [.ref q7, .int 0, .int 0, .ref q13, .ref q24, .ref q35, .ref q47, .ref q58, .ref q69, .ref q84, .ref q95, .int 0, .int 0]))] U.heap ∧ va_K (dC, dI) vwCl [] U ∧ va_D (fun _ => True) [(h0, .inr (0, [.ref q7, .int 0, .int 0, .ref q13, .ref q24, .ref q35, .ref q47, .ref q58, .ref q69, .ref q84, .ref q95, .int 0, .int 0]))])) (va_Qi (fun (r : Int32) (_ : Unit) => r = 0) (fun (_ : Unit) (t : State) => va_P (dC, dI) vwCl [] t.heap ∧ va_K (dC, dI) vwCl [] t ∧ va_D (va_A [(h0, .inr (0, [.ref q7, .int 0, .int 0, .ref q13, .ref q24, .ref q35, .ref q47, .ref q58, .ref q69, .ref q84, .ref q95, .int 0, .int 0]))] sz) []) (va_A [(h0, .inr (0, [.ref q7, .int 0, .int 0, .ref q13, .ref q24, .ref q35, .ref q47, .ref q58, .ref q69, .ref q84, .ref q95, .int 0, .int 0]))] sz)) 0 0 (va_A [(h0, .inr (0, [.ref q7, .int 0, .int 0, .ref q13, .ref q24, .ref q35, .ref q47, .ref q58, .ref q69, .ref q84, .ref q95, .int 0, .int 0]))] sz) := by
  refine va_MetW (cc := cd_Lw_end) (maxL := 3) (ret := (some (.int))) (by decide) rfl ?_
  intro p e s m args below meth c s₁ B hml hv
  obtain ⟨rfl, hsz, hP, hK, hD0⟩ := hv
  have hx := B.exec
  have hb := B.bytes
  have hr := B.returns
  have hT : ∀ w ∈ tblG, w.before _ s = true := fun w h => atoms_spec (ws := (Cond.codeWith my_Lw_end cd_Lw_end 3 (some (.int)) [(0, 5, 8, 19)] :: tblG)) B.pre w (List.mem_cons_of_mem _ h)
  have hown : s.vm.findClass "StrataBaseLaw" = some m.cls := findClass_of_methodNamed B.named
  have hlocks := B.notSynchronized
  have hTab : c.exceptionTable.toList = [⟨0, 5, 8, 19⟩] := ex_table B (atoms_spec (ws := (Cond.codeWith my_Lw_end cd_Lw_end 3 (some (.int)) [(0, 5, 8, 19)] :: tblG)) B.pre _ List.mem_cons_self)
  subst hsz
  have hD := hD0.self (sz := s.heap.size)
  generalize hAe : va_A [(h0, .inr (0, [.ref q7, .int 0, .int 0, .ref q13, .ref q24, .ref q35, .ref q47, .ref q58, .ref q69, .ref q84, .ref q95, .int 0, .int 0]))] s.heap.size = A at hD ⊢
  have hA : ∀ q : Nat, s.heap.size ≤ q → A q := fun q h => by rw [← hAe]; exact Or.inr h
  have hS : va_S A s.heap s.heap [] := va_S.rf
  have hl := lv_entry ([.ref h0, .int 0]) (n := 3) (Nat.le_of_ble_eq_true rfl)
  rw [lg_entry_eq]
  generalize (lg_sl ([.ref h0, .int 0]) ++ List.replicate (3 - (lg_sl ([.ref h0, .int 0])).length) Slot.unset).toArray = ls at hl ⊢
  have hl : lv_has ls 3 [(0, .ref h0), (1, .int 0)] := hl
  refine lv_aload_n hx hb dc_Lw_end_0 rfl (lv_at hl 0 rfl) ?_
  refine lv_iload_n hx hb dc_Lw_end_1 rfl (lv_at hl 1 rfl) ?_
  have hPc := hP.sub (ws' := [(h0, .inr (0, [.ref q7, .int 0, .int 0, .ref q13, .ref q24, .ref q35, .ref q47, .ref q58, .ref q69, .ref q84, .ref q95, .int 0, .int 0]))]) [0] rfl
  have hDc := hD.sub (ws' := [(h0, .inr (0, [.ref q7, .int 0, .int 0, .ref q13, .ref q24, .ref q35, .ref q47, .ref q58, .ref q69, .ref q84, .ref q95, .int 0, .int 0]))]) [0] (by decide) rfl
  have hKc := hK.sub (tys' := []) [] rfl
  have hFc := va_free (wc := [(h0, .inr (0, [.ref q7, .int 0, .int 0, .ref q13, .ref q24, .ref q35, .ref q47, .ref q58, .ref q69, .ref q84, .ref q95, .int 0, .int 0]))]) hD hS hA [0] rfl
  refine va_callv (va_runV (As := [.int 0]) (rest := []) ⟨hx, hb, hml, hown, hT⟩ (c_SB_end_0 l dC dI h0 q7 q13 q24 q35 q47 q58 q69 q84 q95 s.heap.size) (cwV 1 hT (gd_V wd_994 wd_995 wd_996 wd_1 wd_997) rfl rfl rfl (by decide +kernel) ⟨Nat.le_of_ble_eq_true rfl, Nat.le_of_ble_eq_true rfl⟩) ⟨fun a U g mk q => by obtain ⟨q0, q1, qP, qK, qD⟩ := q; exact ⟨q0, q1, qP, va_K.moved (u := U) (U := U.calling g mk a) (Vm.Alike.refl U.vm) qK, qD⟩, va_recv hK hP (q0 := 0) (ci := 0) rfl rfl, fun U hU hW => ⟨rfl, by rw [hU], by rw [hU]; exact hPc, va_K.moved hW.alike hKc, hDc.weaken (fun _ _ _ _ => trivial)⟩⟩ rfl rfl hl.1 rfl (lv_room (Nat.le_of_ble_eq_true rfl)) dc_Lw_end_2 ⟨(Nat.le_of_ble_eq_true rfl), (Nat.le_of_ble_eq_true rfl)⟩) hS (fun q _ h => hFc q h) hFc (fun _ t H1 locs ht hvm hr9 hB hz1 hk1 hS => ?_)
  obtain ⟨hP1, hK1, hD1⟩ := hB
  rw [ht] at hP1
  have hK1 := va_K.moved hvm.symm hK1
  obtain ⟨hP, hD⟩ := va_join (wr := []) (w1 := [(h0, .inr (0, [.ref q7, .int 0, .int 0, .ref q13, .ref q24, .ref q35, .ref q47, .ref q58, .ref q69, .ref q84, .ref q95, .int 0, .int 0]))]) hP hD [0] [] rfl rfl (by decide) (by decide) hk1 hFc hP1 hD1
  have hK := (hK.sub (tys' := []) [] rfl).app hK1
  generalize H1 = H at hP hS ⊢
  have hP : va_P (dC, dI) vwCl [(h0, .inr (0, [.ref q7, .int 0, .int 0, .ref q13, .ref q24, .ref q35, .ref q47, .ref q58, .ref q69, .ref q84, .ref q95, .int 0, .int 0]))] H := hP
  have hD : va_D A [(h0, .inr (0, [.ref q7, .int 0, .int 0, .ref q13, .ref q24, .ref q35, .ref q47, .ref q58, .ref q69, .ref q84, .ref q95, .int 0, .int 0]))] := hD
  have hK : va_K (dC, dI) vwCl [] s := hK
  refine lv_goto (tgt := 11) hx hb dc_Lw_end_5 (by decide) ?_
  refine lv_iconst (v := 0) hx hb dc_Lw_end_11 (by decide) ?_
  have hP9 := hP.sub (ws' := []) [] rfl
  have hD9 := hD.sub (ws' := []) [] (by decide) rfl
  have hK9 := hK.sub (tys' := []) [] rfl
  refine W.widen (k := 0) (n := 0) (Nat.le_of_ble_eq_true rfl) (Nat.le_of_ble_eq_true rfl) ?_
  exact W.iret (v := 0) hx hb hr (fun t ht hW => ⟨⟨0, (), rfl, rfl, by rw [ht]; exact hP9, va_K.moved hW.alike hK9, hD9⟩, hS.F ht⟩) hS.2.2 dc_Lw_end_12

set_option maxHeartbeats 4000000 in
set_option maxRecDepth 100000 in
theorem c_Lw_end_x (l : Launch) (hl9 : l.stackTraces = false) (dC : Nat → ClassId) (dI : Nat → Nat → Nat) (h0 : Nat) (q7 : Nat) (q13 : Nat) (q24 : Nat) (q35 : Nat) (q47 : Nat) (q58 : Nat) (q69 : Nat) (q84 : Nat) (q95 : Nat) (p0 : Int32) (sz : Nat) (hn : ¬ p0 = 0) : Met l my_Lw_end (Cond.codeWith my_Lw_end cd_Lw_end 3 (some (.int)) [(0, 5, 8, 19)] :: tblG) ({ frames := 7, cells := 1, slots := 6, locals := 102 }) (va_Pc [.ref h0, .int p0] (fun U => U.heap.size = sz ∧ va_P (dC, dI) vwCl [(h0, .inr (0, [.ref q7, .int 0, .int 0, .ref q13, .ref q24, .ref q35, .ref q47, .ref q58, .ref q69, .ref q84, .ref q95, .int 0, .int 0]))] U.heap ∧ va_K (dC, dI) vwCl [] U ∧ va_D (fun _ => True) [(h0, .inr (0, [.ref q7, .int 0, .int 0, .ref q13, .ref q24, .ref q35, .ref q47, .ref q58, .ref q69, .ref q84, .ref q95, .int 0, .int 0]))] ∧ ex_Z "java/lang/IllegalArgumentException" U)) (va_Qi (fun (r : Int32) (_ : Unit) => r = 1) (fun (_ : Unit) (t : State) => va_P (dC, dI) vwCl [] t.heap ∧ va_K (dC, dI) vwCl [] t ∧ va_D (va_A [(h0, .inr (0, [.ref q7, .int 0, .int 0, .ref q13, .ref q24, .ref q35, .ref q47, .ref q58, .ref q69, .ref q84, .ref q95, .int 0, .int 0]))] sz) []) (va_A [(h0, .inr (0, [.ref q7, .int 0, .int 0, .ref q13, .ref q24, .ref q35, .ref q47, .ref q58, .ref q69, .ref q84, .ref q95, .int 0, .int 0]))] sz)) 1 6 (va_A [(h0, .inr (0, [.ref q7, .int 0, .int 0, .ref q13, .ref q24, .ref q35, .ref q47, .ref q58, .ref q69, .ref q84, .ref q95, .int 0, .int 0]))] sz) := by
  refine va_MetW (cc := cd_Lw_end) (maxL := 3) (ret := (some (.int))) (by decide) rfl ?_
  intro p e s m args below meth c s₁ B hml hv
  obtain ⟨rfl, hsz, hP, hK, hD0, hEz⟩ := hv
  have hx := B.exec
  have hb := B.bytes
  have hr := B.returns
  have hT : ∀ w ∈ tblG, w.before _ s = true := fun w h => atoms_spec (ws := (Cond.codeWith my_Lw_end cd_Lw_end 3 (some (.int)) [(0, 5, 8, 19)] :: tblG)) B.pre w (List.mem_cons_of_mem _ h)
  have hown : s.vm.findClass "StrataBaseLaw" = some m.cls := findClass_of_methodNamed B.named
  have hlocks := B.notSynchronized
  have hTab : c.exceptionTable.toList = [⟨0, 5, 8, 19⟩] := ex_table B (atoms_spec (ws := (Cond.codeWith my_Lw_end cd_Lw_end 3 (some (.int)) [(0, 5, 8, 19)] :: tblG)) B.pre _ List.mem_cons_self)
  subst hsz
  have hD := hD0.self (sz := s.heap.size)
  generalize hAe : va_A [(h0, .inr (0, [.ref q7, .int 0, .int 0, .ref q13, .ref q24, .ref q35, .ref q47, .ref q58, .ref q69, .ref q84, .ref q95, .int 0, .int 0]))] s.heap.size = A at hD ⊢
  have hA : ∀ q : Nat, s.heap.size ≤ q → A q := fun q h => by rw [← hAe]; exact Or.inr h
  have hS : va_S A s.heap s.heap [] := va_S.rf
  have hl := lv_entry ([.ref h0, .int p0]) (n := 3) (Nat.le_of_ble_eq_true rfl)
  rw [lg_entry_eq]
  generalize (lg_sl ([.ref h0, .int p0]) ++ List.replicate (3 - (lg_sl ([.ref h0, .int p0])).length) Slot.unset).toArray = ls at hl ⊢
  have hl : lv_has ls 3 [(0, .ref h0), (1, .int p0)] := hl
  refine lv_aload_n hx hb dc_Lw_end_0 rfl (lv_at hl 0 rfl) ?_
  refine lv_iload_n hx hb dc_Lw_end_1 rfl (lv_at hl 1 rfl) ?_
  have hPc := hP.sub (ws' := [(h0, .inr (0, [.ref q7, .int 0, .int 0, .ref q13, .ref q24, .ref q35, .ref q47, .ref q58, .ref q69, .ref q84, .ref q95, .int 0, .int 0]))]) [0] rfl
  have hDc := hD.sub (ws' := [(h0, .inr (0, [.ref q7, .int 0, .int 0, .ref q13, .ref q24, .ref q35, .ref q47, .ref q58, .ref q69, .ref q84, .ref q95, .int 0, .int 0]))]) [0] (by decide) rfl
  have hKc := hK.sub (tys' := []) [] rfl
  have hFc := va_free (wc := [(h0, .inr (0, [.ref q7, .int 0, .int 0, .ref q13, .ref q24, .ref q35, .ref q47, .ref q58, .ref q69, .ref q84, .ref q95, .int 0, .int 0]))]) hD hS hA [0] rfl
  refine ex_runV (As := [.int p0]) (rest := []) ⟨hx, hb, hml, hown, hT⟩ (c_SB_end_x l hl9 dC dI h0 q7 q13 q24 q35 q47 q58 q69 q84 q95 p0 s.heap.size hn) (cwV 1 hT (gd_V wd_994 wd_995 wd_996 wd_1 wd_997) rfl rfl rfl (by decide +kernel) ⟨Nat.le_of_ble_eq_true rfl, Nat.le_of_ble_eq_true rfl⟩) ⟨fun a U g mk q => by obtain ⟨q0, q1, qP, qK, qD, qE0⟩ := q; exact ⟨q0, q1, qP, va_K.moved (u := U) (U := U.calling g mk a) (Vm.Alike.refl U.vm) qK, qD, ex_Z_move (Vm.Alike.refl _) (fun _ _ => rfl) qE0⟩, va_recv hK hP (q0 := 0) (ci := 0) rfl rfl, fun U hU hW => ⟨rfl, by rw [hU], by rw [hU]; exact hPc, va_K.moved hW.alike hKc, hDc.weaken (fun _ _ _ _ => trivial), ex_Z_move hW.alike (fun a _ => by rw [hU]) hEz⟩⟩ rfl hl.1 rfl (lv_room (Nat.le_of_ble_eq_true rfl)) dc_Lw_end_2 ⟨(Nat.le_of_ble_eq_true rfl), (Nat.le_of_ble_eq_true rfl)⟩ (fun q9 ce9 H1 locs1 hce hcv hcc hz1 hk1 hL1 => ?_)
  have hS : va_S A s.heap H1 locs1 := ⟨Nat.le_trans hS.1 hz1, fun q h1 h2 => (hk1 q (Nat.lt_of_lt_of_le h1 hS.1) (fun z => h2 (hFc q z))).trans (hS.2.1 q h1 h2), fun z hz => (hL1 z hz).elim (hS.2.2 z) (fun h => hFc _ h)⟩
  refine ex_catch (own := "StrataBaseLaw") (name := "java/lang/IllegalArgumentException") hown ⟨0, 5, 8, 19⟩ [] hTab (by decide) (by decide) (hT _ wd_993) (ex_Z_words hEz _ (List.mem_cons_self)) hce hcv hcc ?_
  generalize H1 = H at hS ⊢
  generalize locs1 = locs at hS ⊢
  have hP : va_P (dC, dI) vwCl [] H := fun k q h => nomatch h
  have hD : va_D A [] := ⟨(fun i j p q h => nomatch h), (fun k q h => nomatch h)⟩
  have hK : va_K (dC, dI) vwCl [] s := hK.sub [] rfl
  refine W.widen (k := 1) (n := 6) (Nat.le_of_ble_eq_true rfl) (Nat.le_of_ble_eq_true rfl) ?_
  refine lv_astore_n (lv' := [(2, .ref q9), (0, .ref h0), (1, .int p0)]) hx hb dc_Lw_end_8 rfl hl (by decide) rfl (fun ls hl => ?_)
  refine lv_iconst (v := 1) hx hb dc_Lw_end_9 (by decide) ?_
  have hP9 := hP.sub (ws' := []) [] rfl
  have hD9 := hD.sub (ws' := []) [] (by decide) rfl
  have hK9 := hK.sub (tys' := []) [] rfl
  refine W.widen (k := 1) (n := 6) (Nat.le_of_ble_eq_true rfl) (Nat.le_of_ble_eq_true rfl) ?_
  exact W.iret (v := 1) hx hb hr (fun t ht hW => ⟨⟨1, (), rfl, rfl, by rw [ht]; exact hP9, va_K.moved hW.alike hK9, hD9⟩, hS.F ht⟩) hS.2.2 dc_Lw_end_10

set_option maxHeartbeats 4000000 in
set_option maxRecDepth 100000 in
theorem c_Lw_run (l : Launch) (dC : Nat → ClassId) (dI : Nat → Nat → Nat) (h0 : Nat) (q7 : Nat) (q13 : Nat) (q24 : Nat) (q35 : Nat) (q47 : Nat) (q58 : Nat) (q69 : Nat) (q84 : Nat) (q95 : Nat) (u2 : Nat) (u3 : Nat) (u4 : Nat) (u5 : Nat) (u6 : Nat) (u8 : Nat) (u94 : Nat) (u95 : Nat) (u83 : Nat) (u96 : Nat) (u97 : Nat) (u82 : Nat) (u84 : Nat) (u85 : Nat) (u86 : Nat) (u87 : Nat) (u100 : Nat) (u99 : Nat) (u101 : Nat) (u102 : Nat) (u103 : Nat) (u104 : Nat) (u105 : Nat) (u106 : Nat) (u107 : Nat) (u108 : Nat) (ho : Nat) (k88 : ClassId) (k89 : ClassId) (k90 : ClassId) (k91 : ClassId) (k92 : ClassId) (k93 : ClassId) (ko : ClassId) (sz : Nat) : Met l my_Lw_run (Cond.codeWith my_Lw_run cd_Lw_run 3 (some (.int)) [(0, 8, 11, 13)] :: tblG) ({ frames := 3, cells := 0, slots := 0, locals := 64 }) (va_Pc [.ref h0, .ref ho] (fun U => U.heap.size = sz ∧ va_P (dC, dI) vwCl [(h0, .inr (0, [.ref q7, .int 0, .int 0, .ref q13, .ref q24, .ref q35, .ref q47, .ref q58, .ref q69, .ref q84, .ref q95, .int 0, .int 0])), (q13, .inr (7, [.ref u2, .ref u3, .ref u4, .ref u5, .ref u6, .int 0, .ref u8])), (q58, .inr (3, [.int 0, .int 0, .int 0, .ref u94, .ref u95, .ref u83, .ref u96, .ref u97, .ref u82, .ref u84, .ref u85, .ref u86, .ref u87, .int 0])), (u82, .inl (k88, 32768, .inl (fun _ => 0))), (u83, .inl (k89, 64, .inl (fun _ => 0))), (u84, .inl (k90, 64, .inl (fun _ => 0))), (u85, .inl (k91, 64, .inl (fun _ => 0))), (u86, .inl (k92, 64, .inl (fun _ => 0))), (u87, .inl (k93, 64, .inl (fun _ => 0))), (q69, .inr (5, [.ref u100, .ref q58, .ref u99, .ref u101, .int 0, .null, .int 0, .null, .int 0, .int 0, .int 0])), (u99, .inr (4, [.int 0, .ref u102, .ref u103, .ref u104, .ref u105, .ref u106, .ref u107, .ref u108, .int 0])), (ho, .inl (ko, 1, .inr (.inl (fun _ => 0))))] U.heap ∧ va_K (dC, dI) vwCl [(k88, .int), (k89, .int), (k90, .int), (k91, .int), (k92, .int), (k93, .int), (ko, .long)] U ∧ va_D (fun _ => True) [(h0, .inr (0, [.ref q7, .int 0, .int 0, .ref q13, .ref q24, .ref q35, .ref q47, .ref q58, .ref q69, .ref q84, .ref q95, .int 0, .int 0])), (q13, .inr (7, [.ref u2, .ref u3, .ref u4, .ref u5, .ref u6, .int 0, .ref u8])), (q58, .inr (3, [.int 0, .int 0, .int 0, .ref u94, .ref u95, .ref u83, .ref u96, .ref u97, .ref u82, .ref u84, .ref u85, .ref u86, .ref u87, .int 0])), (u82, .inl (k88, 32768, .inl (fun _ => 0))), (u83, .inl (k89, 64, .inl (fun _ => 0))), (u84, .inl (k90, 64, .inl (fun _ => 0))), (u85, .inl (k91, 64, .inl (fun _ => 0))), (u86, .inl (k92, 64, .inl (fun _ => 0))), (u87, .inl (k93, 64, .inl (fun _ => 0))), (q69, .inr (5, [.ref u100, .ref q58, .ref u99, .ref u101, .int 0, .null, .int 0, .null, .int 0, .int 0, .int 0])), (u99, .inr (4, [.int 0, .ref u102, .ref u103, .ref u104, .ref u105, .ref u106, .ref u107, .ref u108, .int 0])), (ho, .inl (ko, 1, .inr (.inl (fun _ => 0))))])) (va_Qi (fun (r : Int32) (_ : Unit) => r = 0) (fun (_ : Unit) (t : State) => va_P (dC, dI) vwCl [(ho, .inl (ko, 1, .inr (.inl (fun _ => 0))))] t.heap ∧ va_K (dC, dI) vwCl [(ko, .long)] t ∧ va_D (va_A [(h0, .inr (0, [.ref q7, .int 0, .int 0, .ref q13, .ref q24, .ref q35, .ref q47, .ref q58, .ref q69, .ref q84, .ref q95, .int 0, .int 0])), (q13, .inr (7, [.ref u2, .ref u3, .ref u4, .ref u5, .ref u6, .int 0, .ref u8])), (q58, .inr (3, [.int 0, .int 0, .int 0, .ref u94, .ref u95, .ref u83, .ref u96, .ref u97, .ref u82, .ref u84, .ref u85, .ref u86, .ref u87, .int 0])), (u82, .inl (k88, 32768, .inl (fun _ => 0))), (u83, .inl (k89, 64, .inl (fun _ => 0))), (u84, .inl (k90, 64, .inl (fun _ => 0))), (u85, .inl (k91, 64, .inl (fun _ => 0))), (u86, .inl (k92, 64, .inl (fun _ => 0))), (u87, .inl (k93, 64, .inl (fun _ => 0))), (q69, .inr (5, [.ref u100, .ref q58, .ref u99, .ref u101, .int 0, .null, .int 0, .null, .int 0, .int 0, .int 0])), (u99, .inr (4, [.int 0, .ref u102, .ref u103, .ref u104, .ref u105, .ref u106, .ref u107, .ref u108, .int 0])), (ho, .inl (ko, 1, .inr (.inl (fun _ => 0))))] sz) [(ho, .inl (ko, 1, .inr (.inl (fun _ => 0))))]) (va_A [(h0, .inr (0, [.ref q7, .int 0, .int 0, .ref q13, .ref q24, .ref q35, .ref q47, .ref q58, .ref q69, .ref q84, .ref q95, .int 0, .int 0])), (q13, .inr (7, [.ref u2, .ref u3, .ref u4, .ref u5, .ref u6, .int 0, .ref u8])), (q58, .inr (3, [.int 0, .int 0, .int 0, .ref u94, .ref u95, .ref u83, .ref u96, .ref u97, .ref u82, .ref u84, .ref u85, .ref u86, .ref u87, .int 0])), (u82, .inl (k88, 32768, .inl (fun _ => 0))), (u83, .inl (k89, 64, .inl (fun _ => 0))), (u84, .inl (k90, 64, .inl (fun _ => 0))), (u85, .inl (k91, 64, .inl (fun _ => 0))), (u86, .inl (k92, 64, .inl (fun _ => 0))), (u87, .inl (k93, 64, .inl (fun _ => 0))), (q69, .inr (5, [.ref u100, .ref q58, .ref u99, .ref u101, .int 0, .null, .int 0, .null, .int 0, .int 0, .int 0])), (u99, .inr (4, [.int 0, .ref u102, .ref u103, .ref u104, .ref u105, .ref u106, .ref u107, .ref u108, .int 0])), (ho, .inl (ko, 1, .inr (.inl (fun _ => 0))))] sz)) 0 0 (va_A [(h0, .inr (0, [.ref q7, .int 0, .int 0, .ref q13, .ref q24, .ref q35, .ref q47, .ref q58, .ref q69, .ref q84, .ref q95, .int 0, .int 0])), (q13, .inr (7, [.ref u2, .ref u3, .ref u4, .ref u5, .ref u6, .int 0, .ref u8])), (q58, .inr (3, [.int 0, .int 0, .int 0, .ref u94, .ref u95, .ref u83, .ref u96, .ref u97, .ref u82, .ref u84, .ref u85, .ref u86, .ref u87, .int 0])), (u82, .inl (k88, 32768, .inl (fun _ => 0))), (u83, .inl (k89, 64, .inl (fun _ => 0))), (u84, .inl (k90, 64, .inl (fun _ => 0))), (u85, .inl (k91, 64, .inl (fun _ => 0))), (u86, .inl (k92, 64, .inl (fun _ => 0))), (u87, .inl (k93, 64, .inl (fun _ => 0))), (q69, .inr (5, [.ref u100, .ref q58, .ref u99, .ref u101, .int 0, .null, .int 0, .null, .int 0, .int 0, .int 0])), (u99, .inr (4, [.int 0, .ref u102, .ref u103, .ref u104, .ref u105, .ref u106, .ref u107, .ref u108, .int 0])), (ho, .inl (ko, 1, .inr (.inl (fun _ => 0))))] sz) := by
  refine va_MetW (cc := cd_Lw_run) (maxL := 3) (ret := (some (.int))) (by decide) rfl ?_
  intro p e s m args below meth c s₁ B hml hv
  obtain ⟨rfl, hsz, hP, hK, hD0⟩ := hv
  have hx := B.exec
  have hb := B.bytes
  have hr := B.returns
  have hT : ∀ w ∈ tblG, w.before _ s = true := fun w h => atoms_spec (ws := (Cond.codeWith my_Lw_run cd_Lw_run 3 (some (.int)) [(0, 8, 11, 13)] :: tblG)) B.pre w (List.mem_cons_of_mem _ h)
  have hown : s.vm.findClass "StrataBaseLaw" = some m.cls := findClass_of_methodNamed B.named
  have hlocks := B.notSynchronized
  have hTab : c.exceptionTable.toList = [⟨0, 8, 11, 13⟩] := ex_table B (atoms_spec (ws := (Cond.codeWith my_Lw_run cd_Lw_run 3 (some (.int)) [(0, 8, 11, 13)] :: tblG)) B.pre _ List.mem_cons_self)
  subst hsz
  have hD := hD0.self (sz := s.heap.size)
  generalize hAe : va_A [(h0, .inr (0, [.ref q7, .int 0, .int 0, .ref q13, .ref q24, .ref q35, .ref q47, .ref q58, .ref q69, .ref q84, .ref q95, .int 0, .int 0])), (q13, .inr (7, [.ref u2, .ref u3, .ref u4, .ref u5, .ref u6, .int 0, .ref u8])), (q58, .inr (3, [.int 0, .int 0, .int 0, .ref u94, .ref u95, .ref u83, .ref u96, .ref u97, .ref u82, .ref u84, .ref u85, .ref u86, .ref u87, .int 0])), (u82, .inl (k88, 32768, .inl (fun _ => 0))), (u83, .inl (k89, 64, .inl (fun _ => 0))), (u84, .inl (k90, 64, .inl (fun _ => 0))), (u85, .inl (k91, 64, .inl (fun _ => 0))), (u86, .inl (k92, 64, .inl (fun _ => 0))), (u87, .inl (k93, 64, .inl (fun _ => 0))), (q69, .inr (5, [.ref u100, .ref q58, .ref u99, .ref u101, .int 0, .null, .int 0, .null, .int 0, .int 0, .int 0])), (u99, .inr (4, [.int 0, .ref u102, .ref u103, .ref u104, .ref u105, .ref u106, .ref u107, .ref u108, .int 0])), (ho, .inl (ko, 1, .inr (.inl (fun _ => 0))))] s.heap.size = A at hD ⊢
  have hA : ∀ q : Nat, s.heap.size ≤ q → A q := fun q h => by rw [← hAe]; exact Or.inr h
  have hS : va_S A s.heap s.heap [] := va_S.rf
  have hl := lv_entry ([.ref h0, .ref ho]) (n := 3) (Nat.le_of_ble_eq_true rfl)
  rw [lg_entry_eq]
  generalize (lg_sl ([.ref h0, .ref ho]) ++ List.replicate (3 - (lg_sl ([.ref h0, .ref ho])).length) Slot.unset).toArray = ls at hl ⊢
  have hl : lv_has ls 3 [(0, .ref h0), (1, .ref ho)] := hl
  refine lv_aload_n hx hb dc_Lw_run_0 rfl (lv_at hl 1 rfl) ?_
  refine lv_iconst (v := 0) hx hb dc_Lw_run_1 (by decide) ?_
  refine lv_aload_n hx hb dc_Lw_run_2 rfl (lv_at hl 0 rfl) ?_
  have hPc := hP.sub (ws' := [(h0, .inr (0, [.ref q7, .int 0, .int 0, .ref q13, .ref q24, .ref q35, .ref q47, .ref q58, .ref q69, .ref q84, .ref q95, .int 0, .int 0])), (q13, .inr (7, [.ref u2, .ref u3, .ref u4, .ref u5, .ref u6, .int 0, .ref u8])), (q58, .inr (3, [.int 0, .int 0, .int 0, .ref u94, .ref u95, .ref u83, .ref u96, .ref u97, .ref u82, .ref u84, .ref u85, .ref u86, .ref u87, .int 0])), (u82, .inl (k88, 32768, .inl (fun _ => 0))), (u83, .inl (k89, 64, .inl (fun _ => 0))), (u84, .inl (k90, 64, .inl (fun _ => 0))), (u85, .inl (k91, 64, .inl (fun _ => 0))), (u86, .inl (k92, 64, .inl (fun _ => 0))), (u87, .inl (k93, 64, .inl (fun _ => 0))), (q69, .inr (5, [.ref u100, .ref q58, .ref u99, .ref u101, .int 0, .null, .int 0, .null, .int 0, .int 0, .int 0])), (u99, .inr (4, [.int 0, .ref u102, .ref u103, .ref u104, .ref u105, .ref u106, .ref u107, .ref u108, .int 0]))]) [0, 1, 2, 3, 4, 5, 6, 7, 8, 9, 10] rfl
  have hDc := hD.sub (ws' := [(h0, .inr (0, [.ref q7, .int 0, .int 0, .ref q13, .ref q24, .ref q35, .ref q47, .ref q58, .ref q69, .ref q84, .ref q95, .int 0, .int 0])), (q13, .inr (7, [.ref u2, .ref u3, .ref u4, .ref u5, .ref u6, .int 0, .ref u8])), (q58, .inr (3, [.int 0, .int 0, .int 0, .ref u94, .ref u95, .ref u83, .ref u96, .ref u97, .ref u82, .ref u84, .ref u85, .ref u86, .ref u87, .int 0])), (u82, .inl (k88, 32768, .inl (fun _ => 0))), (u83, .inl (k89, 64, .inl (fun _ => 0))), (u84, .inl (k90, 64, .inl (fun _ => 0))), (u85, .inl (k91, 64, .inl (fun _ => 0))), (u86, .inl (k92, 64, .inl (fun _ => 0))), (u87, .inl (k93, 64, .inl (fun _ => 0))), (q69, .inr (5, [.ref u100, .ref q58, .ref u99, .ref u101, .int 0, .null, .int 0, .null, .int 0, .int 0, .int 0])), (u99, .inr (4, [.int 0, .ref u102, .ref u103, .ref u104, .ref u105, .ref u106, .ref u107, .ref u108, .int 0]))]) [0, 1, 2, 3, 4, 5, 6, 7, 8, 9, 10] (by decide) rfl
  have hKc := hK.sub (tys' := [(k88, .int), (k89, .int), (k90, .int), (k91, .int), (k92, .int), (k93, .int)]) [0, 1, 2, 3, 4, 5] rfl
  have hFc := va_free (wc := [(h0, .inr (0, [.ref q7, .int 0, .int 0, .ref q13, .ref q24, .ref q35, .ref q47, .ref q58, .ref q69, .ref q84, .ref q95, .int 0, .int 0])), (q13, .inr (7, [.ref u2, .ref u3, .ref u4, .ref u5, .ref u6, .int 0, .ref u8])), (q58, .inr (3, [.int 0, .int 0, .int 0, .ref u94, .ref u95, .ref u83, .ref u96, .ref u97, .ref u82, .ref u84, .ref u85, .ref u86, .ref u87, .int 0])), (u82, .inl (k88, 32768, .inl (fun _ => 0))), (u83, .inl (k89, 64, .inl (fun _ => 0))), (u84, .inl (k90, 64, .inl (fun _ => 0))), (u85, .inl (k91, 64, .inl (fun _ => 0))), (u86, .inl (k92, 64, .inl (fun _ => 0))), (u87, .inl (k93, 64, .inl (fun _ => 0))), (q69, .inr (5, [.ref u100, .ref q58, .ref u99, .ref u101, .int 0, .null, .int 0, .null, .int 0, .int 0, .int 0])), (u99, .inr (4, [.int 0, .ref u102, .ref u103, .ref u104, .ref u105, .ref u106, .ref u107, .ref u108, .int 0]))]) hD hS hA [0, 1, 2, 3, 4, 5, 6, 7, 8, 9, 10] rfl
  refine va_calli (va_runV (As := []) (rest := [.int 0, .ref ho]) ⟨hx, hb, hml, hown, hT⟩ (c_SB_run l dC dI h0 q7 q13 q24 q35 q47 q58 q69 q84 q95 u2 u3 u4 u5 u6 u8 u94 u95 u83 u96 u97 u82 u84 u85 u86 u87 u100 u99 u101 u102 u103 u104 u105 u106 u107 u108 k88 k89 k90 k91 k92 k93 s.heap.size) (cwV 0 hT (gd_V wd_1016 wd_1017 wd_1018 wd_1 wd_1019) rfl rfl rfl (by decide +kernel) ⟨Nat.le_of_ble_eq_true rfl, Nat.le_of_ble_eq_true rfl⟩) ⟨fun a U g mk q => by obtain ⟨q0, q1, qP, qK, qD⟩ := q; exact ⟨q0, q1, qP, va_K.moved (u := U) (U := U.calling g mk a) (Vm.Alike.refl U.vm) qK, qD⟩, va_recv hK hP (q0 := 0) (ci := 0) rfl rfl, fun U hU hW => ⟨rfl, by rw [hU], by rw [hU]; exact hPc, va_K.moved hW.alike hKc, hDc.weaken (fun _ _ _ _ => trivial)⟩⟩ rfl rfl hl.1 rfl (lv_room (Nat.le_of_ble_eq_true rfl)) dc_Lw_run_3 ⟨(Nat.le_of_ble_eq_true rfl), (Nat.le_of_ble_eq_true rfl)⟩) hS (fun q _ h => hFc q h) hFc (fun r1 _ t H1 locs ht hvm hr9 hB hz1 hk1 hS => ?_)
  obtain ⟨u7, u9, u10, u11, hP1, hK1, hD1⟩ := hB
  rw [ht] at hP1
  have hK1 := va_K.moved hvm.symm hK1
  obtain ⟨hP, hD⟩ := va_join (wr := [(ho, .inl (ko, 1, .inr (.inl (fun _ => 0))))]) (w1 := [(h0, .inr (0, [.ref q7, .int 0, .int 0, .ref q13, .ref q24, .ref q35, .ref q47, .ref q58, .ref q69, .ref q84, .ref q95, .int 1, .int 0])), (q13, .inr (7, [.ref u2, .ref u3, .ref u4, .ref u5, .ref u6, .int 0, .ref u8])), (q58, .inr (3, [.int 0, .int 0, .int 0, .ref u94, .ref u95, .ref u83, .ref u96, .ref u97, .ref u82, .ref u84, .ref u85, .ref u86, .ref u87, .int 0])), (u82, .inl (k88, 32768, .inl (fun _ => 0))), (u83, .inl (k89, 64, .inl (fun _ => 0))), (u84, .inl (k90, 64, .inl u7)), (u85, .inl (k91, 64, .inl u9)), (u86, .inl (k92, 64, .inl u10)), (u87, .inl (k93, 64, .inl u11)), (q69, .inr (5, [.ref u100, .ref q58, .ref u99, .ref u101, .int 0, .null, .int 0, .null, .int 0, .int 0, .int 0])), (u99, .inr (4, [.int 0, .ref u102, .ref u103, .ref u104, .ref u105, .ref u106, .ref u107, .ref u108, .int 0]))]) hP hD [0, 1, 2, 3, 4, 5, 6, 7, 8, 9, 10] [11] rfl rfl (by decide) (by decide) hk1 hFc hP1 hD1
  have hK := (hK.sub (tys' := [(ko, .long)]) [6] rfl).app hK1
  generalize H1 = H at hP hS ⊢
  have hP : va_P (dC, dI) vwCl [(ho, .inl (ko, 1, .inr (.inl (fun _ => 0)))), (h0, .inr (0, [.ref q7, .int 0, .int 0, .ref q13, .ref q24, .ref q35, .ref q47, .ref q58, .ref q69, .ref q84, .ref q95, .int 1, .int 0])), (q13, .inr (7, [.ref u2, .ref u3, .ref u4, .ref u5, .ref u6, .int 0, .ref u8])), (q58, .inr (3, [.int 0, .int 0, .int 0, .ref u94, .ref u95, .ref u83, .ref u96, .ref u97, .ref u82, .ref u84, .ref u85, .ref u86, .ref u87, .int 0])), (u82, .inl (k88, 32768, .inl (fun _ => 0))), (u83, .inl (k89, 64, .inl (fun _ => 0))), (u84, .inl (k90, 64, .inl u7)), (u85, .inl (k91, 64, .inl u9)), (u86, .inl (k92, 64, .inl u10)), (u87, .inl (k93, 64, .inl u11)), (q69, .inr (5, [.ref u100, .ref q58, .ref u99, .ref u101, .int 0, .null, .int 0, .null, .int 0, .int 0, .int 0])), (u99, .inr (4, [.int 0, .ref u102, .ref u103, .ref u104, .ref u105, .ref u106, .ref u107, .ref u108, .int 0]))] H := hP
  have hD : va_D A [(ho, .inl (ko, 1, .inr (.inl (fun _ => 0)))), (h0, .inr (0, [.ref q7, .int 0, .int 0, .ref q13, .ref q24, .ref q35, .ref q47, .ref q58, .ref q69, .ref q84, .ref q95, .int 1, .int 0])), (q13, .inr (7, [.ref u2, .ref u3, .ref u4, .ref u5, .ref u6, .int 0, .ref u8])), (q58, .inr (3, [.int 0, .int 0, .int 0, .ref u94, .ref u95, .ref u83, .ref u96, .ref u97, .ref u82, .ref u84, .ref u85, .ref u86, .ref u87, .int 0])), (u82, .inl (k88, 32768, .inl (fun _ => 0))), (u83, .inl (k89, 64, .inl (fun _ => 0))), (u84, .inl (k90, 64, .inl u7)), (u85, .inl (k91, 64, .inl u9)), (u86, .inl (k92, 64, .inl u10)), (u87, .inl (k93, 64, .inl u11)), (q69, .inr (5, [.ref u100, .ref q58, .ref u99, .ref u101, .int 0, .null, .int 0, .null, .int 0, .int 0, .int 0])), (u99, .inr (4, [.int 0, .ref u102, .ref u103, .ref u104, .ref u105, .ref u106, .ref u107, .ref u108, .int 0]))] := hD
  have hK : va_K (dC, dI) vwCl [(ko, .long), (k88, .int), (k89, .int), (k90, .int), (k91, .int), (k92, .int), (k93, .int)] s := hK
  have hr9 : r1 = 0 := hr9
  subst hr9
  refine lv_i2l (v := 0) hx hb dc_Lw_run_6 (by decide) ?_
  refine va_last hx hb hK hP hD hS 0 0 rfl rfl (show vp_in (0 : Int32) 1 from vp_in_nI (n := 0) (Nat.lt_of_lt_of_le (by decide : 0 < 1) (Nat.le_of_ble_eq_true rfl)) (Nat.lt_of_le_of_lt (Nat.le_of_ble_eq_true rfl) (by decide : 1 < 2 ^ 31))) dc_Lw_run_7 (fun H locs hP hD hS => ?_)
  rw [show vp_updL (fun _ => 0) (0 : Int32).toNatClampNeg (0 : Int64) = (fun _ => 0) from uz_l _ _] at hP hD
  have hP : va_P (dC, dI) vwCl [(ho, .inl (ko, 1, .inr (.inl (fun _ => 0)))), (h0, .inr (0, [.ref q7, .int 0, .int 0, .ref q13, .ref q24, .ref q35, .ref q47, .ref q58, .ref q69, .ref q84, .ref q95, .int 1, .int 0])), (q13, .inr (7, [.ref u2, .ref u3, .ref u4, .ref u5, .ref u6, .int 0, .ref u8])), (q58, .inr (3, [.int 0, .int 0, .int 0, .ref u94, .ref u95, .ref u83, .ref u96, .ref u97, .ref u82, .ref u84, .ref u85, .ref u86, .ref u87, .int 0])), (u82, .inl (k88, 32768, .inl (fun _ => 0))), (u83, .inl (k89, 64, .inl (fun _ => 0))), (u84, .inl (k90, 64, .inl u7)), (u85, .inl (k91, 64, .inl u9)), (u86, .inl (k92, 64, .inl u10)), (u87, .inl (k93, 64, .inl u11)), (q69, .inr (5, [.ref u100, .ref q58, .ref u99, .ref u101, .int 0, .null, .int 0, .null, .int 0, .int 0, .int 0])), (u99, .inr (4, [.int 0, .ref u102, .ref u103, .ref u104, .ref u105, .ref u106, .ref u107, .ref u108, .int 0]))] H := hP
  have hD : va_D A [(ho, .inl (ko, 1, .inr (.inl (fun _ => 0)))), (h0, .inr (0, [.ref q7, .int 0, .int 0, .ref q13, .ref q24, .ref q35, .ref q47, .ref q58, .ref q69, .ref q84, .ref q95, .int 1, .int 0])), (q13, .inr (7, [.ref u2, .ref u3, .ref u4, .ref u5, .ref u6, .int 0, .ref u8])), (q58, .inr (3, [.int 0, .int 0, .int 0, .ref u94, .ref u95, .ref u83, .ref u96, .ref u97, .ref u82, .ref u84, .ref u85, .ref u86, .ref u87, .int 0])), (u82, .inl (k88, 32768, .inl (fun _ => 0))), (u83, .inl (k89, 64, .inl (fun _ => 0))), (u84, .inl (k90, 64, .inl u7)), (u85, .inl (k91, 64, .inl u9)), (u86, .inl (k92, 64, .inl u10)), (u87, .inl (k93, 64, .inl u11)), (q69, .inr (5, [.ref u100, .ref q58, .ref u99, .ref u101, .int 0, .null, .int 0, .null, .int 0, .int 0, .int 0])), (u99, .inr (4, [.int 0, .ref u102, .ref u103, .ref u104, .ref u105, .ref u106, .ref u107, .ref u108, .int 0]))] := hD
  refine lv_goto (tgt := 14) hx hb dc_Lw_run_8 (by decide) ?_
  refine lv_iconst (v := 0) hx hb dc_Lw_run_14 (by decide) ?_
  have hP9 := hP.sub (ws' := [(ho, .inl (ko, 1, .inr (.inl (fun _ => 0))))]) [0] rfl
  have hD9 := hD.sub (ws' := [(ho, .inl (ko, 1, .inr (.inl (fun _ => 0))))]) [0] (by decide) rfl
  have hK9 := hK.sub (tys' := [(ko, .long)]) [0] rfl
  refine W.widen (k := 0) (n := 0) (Nat.le_of_ble_eq_true rfl) (Nat.le_of_ble_eq_true rfl) ?_
  exact W.iret (v := 0) hx hb hr (fun t ht hW => ⟨⟨0, (), rfl, rfl, by rw [ht]; exact hP9, va_K.moved hW.alike hK9, hD9⟩, hS.F ht⟩) hS.2.2 dc_Lw_run_15

set_option maxHeartbeats 4000000 in
set_option maxRecDepth 100000 in
theorem c_Lw_ask_x (l : Launch) (hl9 : l.stackTraces = false) (dC : Nat → ClassId) (dI : Nat → Nat → Nat) (h0 : Nat) (q7 : Nat) (q13 : Nat) (q24 : Nat) (q35 : Nat) (q47 : Nat) (q58 : Nat) (q69 : Nat) (q84 : Nat) (q95 : Nat) (ho : Nat) (sz : Nat) : Met l my_Lw_ask (Cond.codeWith my_Lw_ask cd_Lw_ask 3 (some (.int)) [(0, 8, 11, 28), (0, 8, 14, 13)] :: tblG) ({ frames := 7, cells := 1, slots := 6, locals := 102 }) (va_Pc [.ref h0, .ref ho] (fun U => U.heap.size = sz ∧ va_P (dC, dI) vwCl [(h0, .inr (0, [.ref q7, .int 0, .int 0, .ref q13, .ref q24, .ref q35, .ref q47, .ref q58, .ref q69, .ref q84, .ref q95, .int 0, .int 0]))] U.heap ∧ va_K (dC, dI) vwCl [] U ∧ va_D (fun _ => True) [(h0, .inr (0, [.ref q7, .int 0, .int 0, .ref q13, .ref q24, .ref q35, .ref q47, .ref q58, .ref q69, .ref q84, .ref q95, .int 0, .int 0]))] ∧ ex_Z "java/lang/IllegalStateException" U)) (va_Qi (fun (r : Int32) (_ : Unit) => r = 1) (fun (_ : Unit) (t : State) => va_P (dC, dI) vwCl [] t.heap ∧ va_K (dC, dI) vwCl [] t ∧ va_D (va_A [(h0, .inr (0, [.ref q7, .int 0, .int 0, .ref q13, .ref q24, .ref q35, .ref q47, .ref q58, .ref q69, .ref q84, .ref q95, .int 0, .int 0]))] sz) []) (va_A [(h0, .inr (0, [.ref q7, .int 0, .int 0, .ref q13, .ref q24, .ref q35, .ref q47, .ref q58, .ref q69, .ref q84, .ref q95, .int 0, .int 0]))] sz)) 1 6 (va_A [(h0, .inr (0, [.ref q7, .int 0, .int 0, .ref q13, .ref q24, .ref q35, .ref q47, .ref q58, .ref q69, .ref q84, .ref q95, .int 0, .int 0]))] sz) := by
  refine va_MetW (cc := cd_Lw_ask) (maxL := 3) (ret := (some (.int))) (by decide) rfl ?_
  intro p e s m args below meth c s₁ B hml hv
  obtain ⟨rfl, hsz, hP, hK, hD0, hEz⟩ := hv
  have hx := B.exec
  have hb := B.bytes
  have hr := B.returns
  have hT : ∀ w ∈ tblG, w.before _ s = true := fun w h => atoms_spec (ws := (Cond.codeWith my_Lw_ask cd_Lw_ask 3 (some (.int)) [(0, 8, 11, 28), (0, 8, 14, 13)] :: tblG)) B.pre w (List.mem_cons_of_mem _ h)
  have hown : s.vm.findClass "StrataBaseLaw" = some m.cls := findClass_of_methodNamed B.named
  have hlocks := B.notSynchronized
  have hTab : c.exceptionTable.toList = [⟨0, 8, 11, 28⟩, ⟨0, 8, 14, 13⟩] := ex_table B (atoms_spec (ws := (Cond.codeWith my_Lw_ask cd_Lw_ask 3 (some (.int)) [(0, 8, 11, 28), (0, 8, 14, 13)] :: tblG)) B.pre _ List.mem_cons_self)
  subst hsz
  have hD := hD0.self (sz := s.heap.size)
  generalize hAe : va_A [(h0, .inr (0, [.ref q7, .int 0, .int 0, .ref q13, .ref q24, .ref q35, .ref q47, .ref q58, .ref q69, .ref q84, .ref q95, .int 0, .int 0]))] s.heap.size = A at hD ⊢
  have hA : ∀ q : Nat, s.heap.size ≤ q → A q := fun q h => by rw [← hAe]; exact Or.inr h
  have hS : va_S A s.heap s.heap [] := va_S.rf
  have hl := lv_entry ([.ref h0, .ref ho]) (n := 3) (Nat.le_of_ble_eq_true rfl)
  rw [lg_entry_eq]
  generalize (lg_sl ([.ref h0, .ref ho]) ++ List.replicate (3 - (lg_sl ([.ref h0, .ref ho])).length) Slot.unset).toArray = ls at hl ⊢
  have hl : lv_has ls 3 [(0, .ref h0), (1, .ref ho)] := hl
  refine lv_aload_n hx hb dc_Lw_ask_0 rfl (lv_at hl 1 rfl) ?_
  refine lv_iconst (v := 0) hx hb dc_Lw_ask_1 (by decide) ?_
  refine lv_aload_n hx hb dc_Lw_ask_2 rfl (lv_at hl 0 rfl) ?_
  have hPc := hP.sub (ws' := [(h0, .inr (0, [.ref q7, .int 0, .int 0, .ref q13, .ref q24, .ref q35, .ref q47, .ref q58, .ref q69, .ref q84, .ref q95, .int 0, .int 0]))]) [0] rfl
  have hDc := hD.sub (ws' := [(h0, .inr (0, [.ref q7, .int 0, .int 0, .ref q13, .ref q24, .ref q35, .ref q47, .ref q58, .ref q69, .ref q84, .ref q95, .int 0, .int 0]))]) [0] (by decide) rfl
  have hKc := hK.sub (tys' := []) [] rfl
  have hFc := va_free (wc := [(h0, .inr (0, [.ref q7, .int 0, .int 0, .ref q13, .ref q24, .ref q35, .ref q47, .ref q58, .ref q69, .ref q84, .ref q95, .int 0, .int 0]))]) hD hS hA [0] rfl
  refine ex_runV (As := []) (rest := [.int 0, .ref ho]) ⟨hx, hb, hml, hown, hT⟩ (c_SB_ask_x l hl9 dC dI h0 q7 q13 q24 q35 q47 q58 q69 q84 q95 s.heap.size) (cwV 0 hT (gd_V wd_1232 wd_1233 wd_1234 wd_1 wd_1235) rfl rfl rfl (by decide +kernel) ⟨Nat.le_of_ble_eq_true rfl, Nat.le_of_ble_eq_true rfl⟩) ⟨fun a U g mk q => by obtain ⟨q0, q1, qP, qK, qD, qE0⟩ := q; exact ⟨q0, q1, qP, va_K.moved (u := U) (U := U.calling g mk a) (Vm.Alike.refl U.vm) qK, qD, ex_Z_move (Vm.Alike.refl _) (fun _ _ => rfl) qE0⟩, va_recv hK hP (q0 := 0) (ci := 0) rfl rfl, fun U hU hW => ⟨rfl, by rw [hU], by rw [hU]; exact hPc, va_K.moved hW.alike hKc, hDc.weaken (fun _ _ _ _ => trivial), ex_Z_move hW.alike (fun a _ => by rw [hU]) hEz⟩⟩ rfl hl.1 rfl (lv_room (Nat.le_of_ble_eq_true rfl)) dc_Lw_ask_3 ⟨(Nat.le_of_ble_eq_true rfl), (Nat.le_of_ble_eq_true rfl)⟩ (fun q9 ce9 H1 locs1 hce hcv hcc hz1 hk1 hL1 => ?_)
  have hS : va_S A s.heap H1 locs1 := ⟨Nat.le_trans hS.1 hz1, fun q h1 h2 => (hk1 q (Nat.lt_of_lt_of_le h1 hS.1) (fun z => h2 (hFc q z))).trans (hS.2.1 q h1 h2), fun z hz => (hL1 z hz).elim (hS.2.2 z) (fun h => hFc _ h)⟩
  refine ex_catch (own := "StrataBaseLaw") (name := "java/lang/IllegalStateException") hown ⟨0, 8, 11, 28⟩ [⟨0, 8, 14, 13⟩] hTab (by decide) (by decide) (hT _ wd_1231) (ex_Z_words hEz _ (List.mem_cons_self)) hce hcv hcc ?_
  generalize H1 = H at hS ⊢
  generalize locs1 = locs at hS ⊢
  have hP : va_P (dC, dI) vwCl [] H := fun k q h => nomatch h
  have hD : va_D A [] := ⟨(fun i j p q h => nomatch h), (fun k q h => nomatch h)⟩
  have hK : va_K (dC, dI) vwCl [] s := hK.sub [] rfl
  refine W.widen (k := 1) (n := 6) (Nat.le_of_ble_eq_true rfl) (Nat.le_of_ble_eq_true rfl) ?_
  refine lv_astore_n (lv' := [(2, .ref q9), (0, .ref h0), (1, .ref ho)]) hx hb dc_Lw_ask_11 rfl hl (by decide) rfl (fun ls hl => ?_)
  refine lv_iconst (v := 1) hx hb dc_Lw_ask_12 (by decide) ?_
  have hP9 := hP.sub (ws' := []) [] rfl
  have hD9 := hD.sub (ws' := []) [] (by decide) rfl
  have hK9 := hK.sub (tys' := []) [] rfl
  refine W.widen (k := 1) (n := 6) (Nat.le_of_ble_eq_true rfl) (Nat.le_of_ble_eq_true rfl) ?_
  exact W.iret (v := 1) hx hb hr (fun t ht hW => ⟨⟨1, (), rfl, rfl, by rw [ht]; exact hP9, va_K.moved hW.alike hK9, hD9⟩, hS.F ht⟩) hS.2.2 dc_Lw_ask_13

set_option maxHeartbeats 4000000 in
set_option maxRecDepth 100000 in
theorem c_Lw_isNumber_x (l : Launch) (hl9 : l.stackTraces = false) (dC : Nat → ClassId) (dI : Nat → Nat → Nat) (h0 : Nat) (q7 : Nat) (q13 : Nat) (q24 : Nat) (q35 : Nat) (q47 : Nat) (q58 : Nat) (q69 : Nat) (q84 : Nat) (q95 : Nat) (u110 : Nat) (u111 : Nat) (u112 : Nat) (ho : Nat) (p0 : Int32) (p1 : Int32) (sz : Nat) : Met l my_Lw_isNumber (Cond.codeWith my_Lw_isNumber cd_Lw_isNumber 5 (some (.int)) [(0, 17, 20, 34)] :: tblG) ({ frames := 7, cells := 1, slots := 6, locals := 103 }) (va_Pc [.ref h0, .int p0, .int p1, .ref ho] (fun U => U.heap.size = sz ∧ va_P (dC, dI) vwCl [(h0, .inr (0, [.ref q7, .int 0, .int 0, .ref q13, .ref q24, .ref q35, .ref q47, .ref q58, .ref q69, .ref q84, .ref q95, .int 0, .int 0])), (q84, .inr (9, [.int 0, .int 0, .int 0, .ref u110, .ref u111, .ref u112]))] U.heap ∧ va_K (dC, dI) vwCl [] U ∧ va_D (fun _ => True) [(h0, .inr (0, [.ref q7, .int 0, .int 0, .ref q13, .ref q24, .ref q35, .ref q47, .ref q58, .ref q69, .ref q84, .ref q95, .int 0, .int 0])), (q84, .inr (9, [.int 0, .int 0, .int 0, .ref u110, .ref u111, .ref u112]))] ∧ ex_Z "java/lang/IndexOutOfBoundsException" U)) (va_Qi (fun (r : Int32) (_ : Unit) => r = 1) (fun (_ : Unit) (t : State) => va_P (dC, dI) vwCl [] t.heap ∧ va_K (dC, dI) vwCl [] t ∧ va_D (va_A [(h0, .inr (0, [.ref q7, .int 0, .int 0, .ref q13, .ref q24, .ref q35, .ref q47, .ref q58, .ref q69, .ref q84, .ref q95, .int 0, .int 0])), (q84, .inr (9, [.int 0, .int 0, .int 0, .ref u110, .ref u111, .ref u112]))] sz) []) (va_A [(h0, .inr (0, [.ref q7, .int 0, .int 0, .ref q13, .ref q24, .ref q35, .ref q47, .ref q58, .ref q69, .ref q84, .ref q95, .int 0, .int 0])), (q84, .inr (9, [.int 0, .int 0, .int 0, .ref u110, .ref u111, .ref u112]))] sz)) 1 6 (va_A [(h0, .inr (0, [.ref q7, .int 0, .int 0, .ref q13, .ref q24, .ref q35, .ref q47, .ref q58, .ref q69, .ref q84, .ref q95, .int 0, .int 0])), (q84, .inr (9, [.int 0, .int 0, .int 0, .ref u110, .ref u111, .ref u112]))] sz) := by
  refine va_MetW (cc := cd_Lw_isNumber) (maxL := 5) (ret := (some (.int))) (by decide) rfl ?_
  intro p e s m args below meth c s₁ B hml hv
  obtain ⟨rfl, hsz, hP, hK, hD0, hEz⟩ := hv
  have hx := B.exec
  have hb := B.bytes
  have hr := B.returns
  have hT : ∀ w ∈ tblG, w.before _ s = true := fun w h => atoms_spec (ws := (Cond.codeWith my_Lw_isNumber cd_Lw_isNumber 5 (some (.int)) [(0, 17, 20, 34)] :: tblG)) B.pre w (List.mem_cons_of_mem _ h)
  have hown : s.vm.findClass "StrataBaseLaw" = some m.cls := findClass_of_methodNamed B.named
  have hlocks := B.notSynchronized
  have hTab : c.exceptionTable.toList = [⟨0, 17, 20, 34⟩] := ex_table B (atoms_spec (ws := (Cond.codeWith my_Lw_isNumber cd_Lw_isNumber 5 (some (.int)) [(0, 17, 20, 34)] :: tblG)) B.pre _ List.mem_cons_self)
  subst hsz
  have hD := hD0.self (sz := s.heap.size)
  generalize hAe : va_A [(h0, .inr (0, [.ref q7, .int 0, .int 0, .ref q13, .ref q24, .ref q35, .ref q47, .ref q58, .ref q69, .ref q84, .ref q95, .int 0, .int 0])), (q84, .inr (9, [.int 0, .int 0, .int 0, .ref u110, .ref u111, .ref u112]))] s.heap.size = A at hD ⊢
  have hA : ∀ q : Nat, s.heap.size ≤ q → A q := fun q h => by rw [← hAe]; exact Or.inr h
  have hS : va_S A s.heap s.heap [] := va_S.rf
  have hl := lv_entry ([.ref h0, .int p0, .int p1, .ref ho]) (n := 5) (Nat.le_of_ble_eq_true rfl)
  rw [lg_entry_eq]
  generalize (lg_sl ([.ref h0, .int p0, .int p1, .ref ho]) ++ List.replicate (5 - (lg_sl ([.ref h0, .int p0, .int p1, .ref ho])).length) Slot.unset).toArray = ls at hl ⊢
  have hl : lv_has ls 5 [(0, .ref h0), (1, .int p0), (2, .int p1), (3, .ref ho)] := hl
  refine lv_aload_n hx hb dc_Lw_isNumber_0 rfl (lv_at hl 3 rfl) ?_
  refine lv_iconst (v := 0) hx hb dc_Lw_isNumber_1 (by decide) ?_
  refine lv_aload_n hx hb dc_Lw_isNumber_2 rfl (lv_at hl 0 rfl) ?_
  refine lv_iload_n hx hb dc_Lw_isNumber_3 rfl (lv_at hl 1 rfl) ?_
  refine lv_iload_n hx hb dc_Lw_isNumber_4 rfl (lv_at hl 2 rfl) ?_
  have hPc := hP.sub (ws' := [(h0, .inr (0, [.ref q7, .int 0, .int 0, .ref q13, .ref q24, .ref q35, .ref q47, .ref q58, .ref q69, .ref q84, .ref q95, .int 0, .int 0])), (q84, .inr (9, [.int 0, .int 0, .int 0, .ref u110, .ref u111, .ref u112]))]) [0, 1] rfl
  have hDc := hD.sub (ws' := [(h0, .inr (0, [.ref q7, .int 0, .int 0, .ref q13, .ref q24, .ref q35, .ref q47, .ref q58, .ref q69, .ref q84, .ref q95, .int 0, .int 0])), (q84, .inr (9, [.int 0, .int 0, .int 0, .ref u110, .ref u111, .ref u112]))]) [0, 1] (by decide) rfl
  have hKc := hK.sub (tys' := []) [] rfl
  have hFc := va_free (wc := [(h0, .inr (0, [.ref q7, .int 0, .int 0, .ref q13, .ref q24, .ref q35, .ref q47, .ref q58, .ref q69, .ref q84, .ref q95, .int 0, .int 0])), (q84, .inr (9, [.int 0, .int 0, .int 0, .ref u110, .ref u111, .ref u112]))]) hD hS hA [0, 1] rfl
  refine ex_runV (As := [.int p0, .int p1]) (rest := [.int 0, .ref ho]) ⟨hx, hb, hml, hown, hT⟩ (c_SB_isNumber_x l hl9 dC dI h0 q7 q13 q24 q35 q47 q58 q69 q84 q95 u110 u111 u112 p0 p1 s.heap.size) (cwV 2 hT (gd_V wd_1277 wd_1278 wd_1279 wd_1 wd_1280) rfl rfl rfl (by decide +kernel) ⟨Nat.le_of_ble_eq_true rfl, Nat.le_of_ble_eq_true rfl⟩) ⟨fun a U g mk q => by obtain ⟨q0, q1, qP, qK, qD, qE0⟩ := q; exact ⟨q0, q1, qP, va_K.moved (u := U) (U := U.calling g mk a) (Vm.Alike.refl U.vm) qK, qD, ex_Z_move (Vm.Alike.refl _) (fun _ _ => rfl) qE0⟩, va_recv hK hP (q0 := 0) (ci := 0) rfl rfl, fun U hU hW => ⟨rfl, by rw [hU], by rw [hU]; exact hPc, va_K.moved hW.alike hKc, hDc.weaken (fun _ _ _ _ => trivial), ex_Z_move hW.alike (fun a _ => by rw [hU]) hEz⟩⟩ rfl hl.1 rfl (lv_room (Nat.le_of_ble_eq_true rfl)) dc_Lw_isNumber_5 ⟨(Nat.le_of_ble_eq_true rfl), (Nat.le_of_ble_eq_true rfl)⟩ (fun q9 ce9 H1 locs1 hce hcv hcc hz1 hk1 hL1 => ?_)
  have hS : va_S A s.heap H1 locs1 := ⟨Nat.le_trans hS.1 hz1, fun q h1 h2 => (hk1 q (Nat.lt_of_lt_of_le h1 hS.1) (fun z => h2 (hFc q z))).trans (hS.2.1 q h1 h2), fun z hz => (hL1 z hz).elim (hS.2.2 z) (fun h => hFc _ h)⟩
  refine ex_catch (own := "StrataBaseLaw") (name := "java/lang/IndexOutOfBoundsException") hown ⟨0, 17, 20, 34⟩ [] hTab (by decide) (by decide) (hT _ wd_1276) (ex_Z_words hEz _ (List.mem_cons_self)) hce hcv hcc ?_
  generalize H1 = H at hS ⊢
  generalize locs1 = locs at hS ⊢
  have hP : va_P (dC, dI) vwCl [] H := fun k q h => nomatch h
  have hD : va_D A [] := ⟨(fun i j p q h => nomatch h), (fun k q h => nomatch h)⟩
  have hK : va_K (dC, dI) vwCl [] s := hK.sub [] rfl
  refine W.widen (k := 1) (n := 6) (Nat.le_of_ble_eq_true rfl) (Nat.le_of_ble_eq_true rfl) ?_
  refine lv_astore (lv' := [(4, .ref q9), (0, .ref h0), (1, .int p0), (2, .int p1), (3, .ref ho)]) hx hb dc_Lw_isNumber_20 hl (by decide) rfl (fun ls hl => ?_)
  refine lv_iconst (v := 1) hx hb dc_Lw_isNumber_22 (by decide) ?_
  have hP9 := hP.sub (ws' := []) [] rfl
  have hD9 := hD.sub (ws' := []) [] (by decide) rfl
  have hK9 := hK.sub (tys' := []) [] rfl
  refine W.widen (k := 1) (n := 6) (Nat.le_of_ble_eq_true rfl) (Nat.le_of_ble_eq_true rfl) ?_
  exact W.iret (v := 1) hx hb hr (fun t ht hW => ⟨⟨1, (), rfl, rfl, by rw [ht]; exact hP9, va_K.moved hW.alike hK9, hD9⟩, hS.F ht⟩) hS.2.2 dc_Lw_isNumber_23

set_option maxHeartbeats 4000000 in
set_option maxRecDepth 100000 in
theorem c_Lw_number_x (l : Launch) (hl9 : l.stackTraces = false) (dC : Nat → ClassId) (dI : Nat → Nat → Nat) (h0 : Nat) (q7 : Nat) (q13 : Nat) (q24 : Nat) (q35 : Nat) (q47 : Nat) (q58 : Nat) (q69 : Nat) (q84 : Nat) (q95 : Nat) (u110 : Nat) (u111 : Nat) (u112 : Nat) (ho : Nat) (p0 : Int32) (p1 : Int32) (sz : Nat) : Met l my_Lw_number (Cond.codeWith my_Lw_number cd_Lw_number 5 (some (.int)) [(0, 10, 13, 34)] :: tblG) ({ frames := 7, cells := 1, slots := 6, locals := 105 }) (va_Pc [.ref h0, .int p0, .int p1, .ref ho] (fun U => U.heap.size = sz ∧ va_P (dC, dI) vwCl [(h0, .inr (0, [.ref q7, .int 0, .int 0, .ref q13, .ref q24, .ref q35, .ref q47, .ref q58, .ref q69, .ref q84, .ref q95, .int 0, .int 0])), (q84, .inr (9, [.int 0, .int 0, .int 0, .ref u110, .ref u111, .ref u112]))] U.heap ∧ va_K (dC, dI) vwCl [] U ∧ va_D (fun _ => True) [(h0, .inr (0, [.ref q7, .int 0, .int 0, .ref q13, .ref q24, .ref q35, .ref q47, .ref q58, .ref q69, .ref q84, .ref q95, .int 0, .int 0])), (q84, .inr (9, [.int 0, .int 0, .int 0, .ref u110, .ref u111, .ref u112]))] ∧ ex_Z "java/lang/IndexOutOfBoundsException" U)) (va_Qi (fun (r : Int32) (_ : Unit) => r = 1) (fun (_ : Unit) (t : State) => va_P (dC, dI) vwCl [] t.heap ∧ va_K (dC, dI) vwCl [] t ∧ va_D (va_A [(h0, .inr (0, [.ref q7, .int 0, .int 0, .ref q13, .ref q24, .ref q35, .ref q47, .ref q58, .ref q69, .ref q84, .ref q95, .int 0, .int 0])), (q84, .inr (9, [.int 0, .int 0, .int 0, .ref u110, .ref u111, .ref u112]))] sz) []) (va_A [(h0, .inr (0, [.ref q7, .int 0, .int 0, .ref q13, .ref q24, .ref q35, .ref q47, .ref q58, .ref q69, .ref q84, .ref q95, .int 0, .int 0])), (q84, .inr (9, [.int 0, .int 0, .int 0, .ref u110, .ref u111, .ref u112]))] sz)) 1 6 (va_A [(h0, .inr (0, [.ref q7, .int 0, .int 0, .ref q13, .ref q24, .ref q35, .ref q47, .ref q58, .ref q69, .ref q84, .ref q95, .int 0, .int 0])), (q84, .inr (9, [.int 0, .int 0, .int 0, .ref u110, .ref u111, .ref u112]))] sz) := by
  refine va_MetW (cc := cd_Lw_number) (maxL := 5) (ret := (some (.int))) (by decide) rfl ?_
  intro p e s m args below meth c s₁ B hml hv
  obtain ⟨rfl, hsz, hP, hK, hD0, hEz⟩ := hv
  have hx := B.exec
  have hb := B.bytes
  have hr := B.returns
  have hT : ∀ w ∈ tblG, w.before _ s = true := fun w h => atoms_spec (ws := (Cond.codeWith my_Lw_number cd_Lw_number 5 (some (.int)) [(0, 10, 13, 34)] :: tblG)) B.pre w (List.mem_cons_of_mem _ h)
  have hown : s.vm.findClass "StrataBaseLaw" = some m.cls := findClass_of_methodNamed B.named
  have hlocks := B.notSynchronized
  have hTab : c.exceptionTable.toList = [⟨0, 10, 13, 34⟩] := ex_table B (atoms_spec (ws := (Cond.codeWith my_Lw_number cd_Lw_number 5 (some (.int)) [(0, 10, 13, 34)] :: tblG)) B.pre _ List.mem_cons_self)
  subst hsz
  have hD := hD0.self (sz := s.heap.size)
  generalize hAe : va_A [(h0, .inr (0, [.ref q7, .int 0, .int 0, .ref q13, .ref q24, .ref q35, .ref q47, .ref q58, .ref q69, .ref q84, .ref q95, .int 0, .int 0])), (q84, .inr (9, [.int 0, .int 0, .int 0, .ref u110, .ref u111, .ref u112]))] s.heap.size = A at hD ⊢
  have hA : ∀ q : Nat, s.heap.size ≤ q → A q := fun q h => by rw [← hAe]; exact Or.inr h
  have hS : va_S A s.heap s.heap [] := va_S.rf
  have hl := lv_entry ([.ref h0, .int p0, .int p1, .ref ho]) (n := 5) (Nat.le_of_ble_eq_true rfl)
  rw [lg_entry_eq]
  generalize (lg_sl ([.ref h0, .int p0, .int p1, .ref ho]) ++ List.replicate (5 - (lg_sl ([.ref h0, .int p0, .int p1, .ref ho])).length) Slot.unset).toArray = ls at hl ⊢
  have hl : lv_has ls 5 [(0, .ref h0), (1, .int p0), (2, .int p1), (3, .ref ho)] := hl
  refine lv_aload_n hx hb dc_Lw_number_0 rfl (lv_at hl 3 rfl) ?_
  refine lv_iconst (v := 0) hx hb dc_Lw_number_1 (by decide) ?_
  refine lv_aload_n hx hb dc_Lw_number_2 rfl (lv_at hl 0 rfl) ?_
  refine lv_iload_n hx hb dc_Lw_number_3 rfl (lv_at hl 1 rfl) ?_
  refine lv_iload_n hx hb dc_Lw_number_4 rfl (lv_at hl 2 rfl) ?_
  have hPc := hP.sub (ws' := [(h0, .inr (0, [.ref q7, .int 0, .int 0, .ref q13, .ref q24, .ref q35, .ref q47, .ref q58, .ref q69, .ref q84, .ref q95, .int 0, .int 0])), (q84, .inr (9, [.int 0, .int 0, .int 0, .ref u110, .ref u111, .ref u112]))]) [0, 1] rfl
  have hDc := hD.sub (ws' := [(h0, .inr (0, [.ref q7, .int 0, .int 0, .ref q13, .ref q24, .ref q35, .ref q47, .ref q58, .ref q69, .ref q84, .ref q95, .int 0, .int 0])), (q84, .inr (9, [.int 0, .int 0, .int 0, .ref u110, .ref u111, .ref u112]))]) [0, 1] (by decide) rfl
  have hKc := hK.sub (tys' := []) [] rfl
  have hFc := va_free (wc := [(h0, .inr (0, [.ref q7, .int 0, .int 0, .ref q13, .ref q24, .ref q35, .ref q47, .ref q58, .ref q69, .ref q84, .ref q95, .int 0, .int 0])), (q84, .inr (9, [.int 0, .int 0, .int 0, .ref u110, .ref u111, .ref u112]))]) hD hS hA [0, 1] rfl
  refine ex_runV (As := [.int p0, .int p1]) (rest := [.int 0, .ref ho]) ⟨hx, hb, hml, hown, hT⟩ (c_SB_number_x l hl9 dC dI h0 q7 q13 q24 q35 q47 q58 q69 q84 q95 u110 u111 u112 p0 p1 s.heap.size) (cwV 2 hT (gd_V wd_1316 wd_1317 wd_1318 wd_1 wd_1319) rfl rfl rfl (by decide +kernel) ⟨Nat.le_of_ble_eq_true rfl, Nat.le_of_ble_eq_true rfl⟩) ⟨fun a U g mk q => by obtain ⟨q0, q1, qP, qK, qD, qE0⟩ := q; exact ⟨q0, q1, qP, va_K.moved (u := U) (U := U.calling g mk a) (Vm.Alike.refl U.vm) qK, qD, ex_Z_move (Vm.Alike.refl _) (fun _ _ => rfl) qE0⟩, va_recv hK hP (q0 := 0) (ci := 0) rfl rfl, fun U hU hW => ⟨rfl, by rw [hU], by rw [hU]; exact hPc, va_K.moved hW.alike hKc, hDc.weaken (fun _ _ _ _ => trivial), ex_Z_move hW.alike (fun a _ => by rw [hU]) hEz⟩⟩ rfl hl.1 rfl (lv_room (Nat.le_of_ble_eq_true rfl)) dc_Lw_number_5 ⟨(Nat.le_of_ble_eq_true rfl), (Nat.le_of_ble_eq_true rfl)⟩ (fun q9 ce9 H1 locs1 hce hcv hcc hz1 hk1 hL1 => ?_)
  have hS : va_S A s.heap H1 locs1 := ⟨Nat.le_trans hS.1 hz1, fun q h1 h2 => (hk1 q (Nat.lt_of_lt_of_le h1 hS.1) (fun z => h2 (hFc q z))).trans (hS.2.1 q h1 h2), fun z hz => (hL1 z hz).elim (hS.2.2 z) (fun h => hFc _ h)⟩
  refine ex_catch (own := "StrataBaseLaw") (name := "java/lang/IndexOutOfBoundsException") hown ⟨0, 10, 13, 34⟩ [] hTab (by decide) (by decide) (hT _ wd_1276) (ex_Z_words hEz _ (List.mem_cons_self)) hce hcv hcc ?_
  generalize H1 = H at hS ⊢
  generalize locs1 = locs at hS ⊢
  have hP : va_P (dC, dI) vwCl [] H := fun k q h => nomatch h
  have hD : va_D A [] := ⟨(fun i j p q h => nomatch h), (fun k q h => nomatch h)⟩
  have hK : va_K (dC, dI) vwCl [] s := hK.sub [] rfl
  refine W.widen (k := 1) (n := 6) (Nat.le_of_ble_eq_true rfl) (Nat.le_of_ble_eq_true rfl) ?_
  refine lv_astore (lv' := [(4, .ref q9), (0, .ref h0), (1, .int p0), (2, .int p1), (3, .ref ho)]) hx hb dc_Lw_number_13 hl (by decide) rfl (fun ls hl => ?_)
  refine lv_iconst (v := 1) hx hb dc_Lw_number_15 (by decide) ?_
  have hP9 := hP.sub (ws' := []) [] rfl
  have hD9 := hD.sub (ws' := []) [] (by decide) rfl
  have hK9 := hK.sub (tys' := []) [] rfl
  refine W.widen (k := 1) (n := 6) (Nat.le_of_ble_eq_true rfl) (Nat.le_of_ble_eq_true rfl) ?_
  exact W.iret (v := 1) hx hb hr (fun t ht hW => ⟨⟨1, (), rfl, rfl, by rw [ht]; exact hP9, va_K.moved hW.alike hK9, hD9⟩, hS.F ht⟩) hS.2.2 dc_Lw_number_16

set_option maxHeartbeats 4000000 in
set_option maxRecDepth 100000 in
theorem c_Lw_letter_x (l : Launch) (hl9 : l.stackTraces = false) (dC : Nat → ClassId) (dI : Nat → Nat → Nat) (h0 : Nat) (q7 : Nat) (q13 : Nat) (q24 : Nat) (q35 : Nat) (q47 : Nat) (q58 : Nat) (q69 : Nat) (q84 : Nat) (q95 : Nat) (u110 : Nat) (u111 : Nat) (u112 : Nat) (ho : Nat) (p0 : Int32) (p1 : Int32) (p2 : Int32) (sz : Nat) : Met l my_Lw_letter (Cond.codeWith my_Lw_letter cd_Lw_letter 6 (some (.int)) [(0, 12, 15, 34)] :: tblG) ({ frames := 7, cells := 1, slots := 6, locals := 105 }) (va_Pc [.ref h0, .int p0, .int p1, .int p2, .ref ho] (fun U => U.heap.size = sz ∧ va_P (dC, dI) vwCl [(h0, .inr (0, [.ref q7, .int 0, .int 0, .ref q13, .ref q24, .ref q35, .ref q47, .ref q58, .ref q69, .ref q84, .ref q95, .int 0, .int 0])), (q84, .inr (9, [.int 0, .int 0, .int 0, .ref u110, .ref u111, .ref u112]))] U.heap ∧ va_K (dC, dI) vwCl [] U ∧ va_D (fun _ => True) [(h0, .inr (0, [.ref q7, .int 0, .int 0, .ref q13, .ref q24, .ref q35, .ref q47, .ref q58, .ref q69, .ref q84, .ref q95, .int 0, .int 0])), (q84, .inr (9, [.int 0, .int 0, .int 0, .ref u110, .ref u111, .ref u112]))] ∧ ex_Z "java/lang/IndexOutOfBoundsException" U)) (va_Qi (fun (r : Int32) (_ : Unit) => r = 1) (fun (_ : Unit) (t : State) => va_P (dC, dI) vwCl [] t.heap ∧ va_K (dC, dI) vwCl [] t ∧ va_D (va_A [(h0, .inr (0, [.ref q7, .int 0, .int 0, .ref q13, .ref q24, .ref q35, .ref q47, .ref q58, .ref q69, .ref q84, .ref q95, .int 0, .int 0])), (q84, .inr (9, [.int 0, .int 0, .int 0, .ref u110, .ref u111, .ref u112]))] sz) []) (va_A [(h0, .inr (0, [.ref q7, .int 0, .int 0, .ref q13, .ref q24, .ref q35, .ref q47, .ref q58, .ref q69, .ref q84, .ref q95, .int 0, .int 0])), (q84, .inr (9, [.int 0, .int 0, .int 0, .ref u110, .ref u111, .ref u112]))] sz)) 1 6 (va_A [(h0, .inr (0, [.ref q7, .int 0, .int 0, .ref q13, .ref q24, .ref q35, .ref q47, .ref q58, .ref q69, .ref q84, .ref q95, .int 0, .int 0])), (q84, .inr (9, [.int 0, .int 0, .int 0, .ref u110, .ref u111, .ref u112]))] sz) := by
  refine va_MetW (cc := cd_Lw_letter) (maxL := 6) (ret := (some (.int))) (by decide) rfl ?_
  intro p e s m args below meth c s₁ B hml hv
  obtain ⟨rfl, hsz, hP, hK, hD0, hEz⟩ := hv
  have hx := B.exec
  have hb := B.bytes
  have hr := B.returns
  have hT : ∀ w ∈ tblG, w.before _ s = true := fun w h => atoms_spec (ws := (Cond.codeWith my_Lw_letter cd_Lw_letter 6 (some (.int)) [(0, 12, 15, 34)] :: tblG)) B.pre w (List.mem_cons_of_mem _ h)
  have hown : s.vm.findClass "StrataBaseLaw" = some m.cls := findClass_of_methodNamed B.named
  have hlocks := B.notSynchronized
  have hTab : c.exceptionTable.toList = [⟨0, 12, 15, 34⟩] := ex_table B (atoms_spec (ws := (Cond.codeWith my_Lw_letter cd_Lw_letter 6 (some (.int)) [(0, 12, 15, 34)] :: tblG)) B.pre _ List.mem_cons_self)
  subst hsz
  have hD := hD0.self (sz := s.heap.size)
  generalize hAe : va_A [(h0, .inr (0, [.ref q7, .int 0, .int 0, .ref q13, .ref q24, .ref q35, .ref q47, .ref q58, .ref q69, .ref q84, .ref q95, .int 0, .int 0])), (q84, .inr (9, [.int 0, .int 0, .int 0, .ref u110, .ref u111, .ref u112]))] s.heap.size = A at hD ⊢
  have hA : ∀ q : Nat, s.heap.size ≤ q → A q := fun q h => by rw [← hAe]; exact Or.inr h
  have hS : va_S A s.heap s.heap [] := va_S.rf
  have hl := lv_entry ([.ref h0, .int p0, .int p1, .int p2, .ref ho]) (n := 6) (Nat.le_of_ble_eq_true rfl)
  rw [lg_entry_eq]
  generalize (lg_sl ([.ref h0, .int p0, .int p1, .int p2, .ref ho]) ++ List.replicate (6 - (lg_sl ([.ref h0, .int p0, .int p1, .int p2, .ref ho])).length) Slot.unset).toArray = ls at hl ⊢
  have hl : lv_has ls 6 [(0, .ref h0), (1, .int p0), (2, .int p1), (3, .int p2), (4, .ref ho)] := hl
  refine lv_aload hx hb dc_Lw_letter_0 (lv_at hl 4 rfl) ?_
  refine lv_iconst (v := 0) hx hb dc_Lw_letter_2 (by decide) ?_
  refine lv_aload_n hx hb dc_Lw_letter_3 rfl (lv_at hl 0 rfl) ?_
  refine lv_iload_n hx hb dc_Lw_letter_4 rfl (lv_at hl 1 rfl) ?_
  refine lv_iload_n hx hb dc_Lw_letter_5 rfl (lv_at hl 2 rfl) ?_
  refine lv_iload_n hx hb dc_Lw_letter_6 rfl (lv_at hl 3 rfl) ?_
  have hPc := hP.sub (ws' := [(h0, .inr (0, [.ref q7, .int 0, .int 0, .ref q13, .ref q24, .ref q35, .ref q47, .ref q58, .ref q69, .ref q84, .ref q95, .int 0, .int 0])), (q84, .inr (9, [.int 0, .int 0, .int 0, .ref u110, .ref u111, .ref u112]))]) [0, 1] rfl
  have hDc := hD.sub (ws' := [(h0, .inr (0, [.ref q7, .int 0, .int 0, .ref q13, .ref q24, .ref q35, .ref q47, .ref q58, .ref q69, .ref q84, .ref q95, .int 0, .int 0])), (q84, .inr (9, [.int 0, .int 0, .int 0, .ref u110, .ref u111, .ref u112]))]) [0, 1] (by decide) rfl
  have hKc := hK.sub (tys' := []) [] rfl
  have hFc := va_free (wc := [(h0, .inr (0, [.ref q7, .int 0, .int 0, .ref q13, .ref q24, .ref q35, .ref q47, .ref q58, .ref q69, .ref q84, .ref q95, .int 0, .int 0])), (q84, .inr (9, [.int 0, .int 0, .int 0, .ref u110, .ref u111, .ref u112]))]) hD hS hA [0, 1] rfl
  refine ex_runV (As := [.int p0, .int p1, .int p2]) (rest := [.int 0, .ref ho]) ⟨hx, hb, hml, hown, hT⟩ (c_SB_letter_x l hl9 dC dI h0 q7 q13 q24 q35 q47 q58 q69 q84 q95 u110 u111 u112 p0 p1 p2 s.heap.size) (cwV 3 hT (gd_V wd_1327 wd_1328 wd_1329 wd_1 wd_1330) rfl rfl rfl (by decide +kernel) ⟨Nat.le_of_ble_eq_true rfl, Nat.le_of_ble_eq_true rfl⟩) ⟨fun a U g mk q => by obtain ⟨q0, q1, qP, qK, qD, qE0⟩ := q; exact ⟨q0, q1, qP, va_K.moved (u := U) (U := U.calling g mk a) (Vm.Alike.refl U.vm) qK, qD, ex_Z_move (Vm.Alike.refl _) (fun _ _ => rfl) qE0⟩, va_recv hK hP (q0 := 0) (ci := 0) rfl rfl, fun U hU hW => ⟨rfl, by rw [hU], by rw [hU]; exact hPc, va_K.moved hW.alike hKc, hDc.weaken (fun _ _ _ _ => trivial), ex_Z_move hW.alike (fun a _ => by rw [hU]) hEz⟩⟩ rfl hl.1 rfl (lv_room (Nat.le_of_ble_eq_true rfl)) dc_Lw_letter_7 ⟨(Nat.le_of_ble_eq_true rfl), (Nat.le_of_ble_eq_true rfl)⟩ (fun q9 ce9 H1 locs1 hce hcv hcc hz1 hk1 hL1 => ?_)
  have hS : va_S A s.heap H1 locs1 := ⟨Nat.le_trans hS.1 hz1, fun q h1 h2 => (hk1 q (Nat.lt_of_lt_of_le h1 hS.1) (fun z => h2 (hFc q z))).trans (hS.2.1 q h1 h2), fun z hz => (hL1 z hz).elim (hS.2.2 z) (fun h => hFc _ h)⟩
  refine ex_catch (own := "StrataBaseLaw") (name := "java/lang/IndexOutOfBoundsException") hown ⟨0, 12, 15, 34⟩ [] hTab (by decide) (by decide) (hT _ wd_1276) (ex_Z_words hEz _ (List.mem_cons_self)) hce hcv hcc ?_
  generalize H1 = H at hS ⊢
  generalize locs1 = locs at hS ⊢
  have hP : va_P (dC, dI) vwCl [] H := fun k q h => nomatch h
  have hD : va_D A [] := ⟨(fun i j p q h => nomatch h), (fun k q h => nomatch h)⟩
  have hK : va_K (dC, dI) vwCl [] s := hK.sub [] rfl
  refine W.widen (k := 1) (n := 6) (Nat.le_of_ble_eq_true rfl) (Nat.le_of_ble_eq_true rfl) ?_
  refine lv_astore (lv' := [(5, .ref q9), (0, .ref h0), (1, .int p0), (2, .int p1), (3, .int p2), (4, .ref ho)]) hx hb dc_Lw_letter_15 hl (by decide) rfl (fun ls hl => ?_)
  refine lv_iconst (v := 1) hx hb dc_Lw_letter_17 (by decide) ?_
  have hP9 := hP.sub (ws' := []) [] rfl
  have hD9 := hD.sub (ws' := []) [] (by decide) rfl
  have hK9 := hK.sub (tys' := []) [] rfl
  refine W.widen (k := 1) (n := 6) (Nat.le_of_ble_eq_true rfl) (Nat.le_of_ble_eq_true rfl) ?_
  exact W.iret (v := 1) hx hb hr (fun t ht hW => ⟨⟨1, (), rfl, rfl, by rw [ht]; exact hP9, va_K.moved hW.alike hK9, hD9⟩, hS.F ht⟩) hS.2.2 dc_Lw_letter_18

set_option maxHeartbeats 4000000 in
set_option maxRecDepth 100000 in
theorem c_Lw_stage_x (l : Launch) (hl9 : l.stackTraces = false) (dC : Nat → ClassId) (dI : Nat → Nat → Nat) (h0 : Nat) (q7 : Nat) (q13 : Nat) (q24 : Nat) (q35 : Nat) (q47 : Nat) (q58 : Nat) (q69 : Nat) (q84 : Nat) (q95 : Nat) (ho : Nat) (sz : Nat) : Met l my_Lw_stage (Cond.codeWith my_Lw_stage cd_Lw_stage 3 (some (.int)) [(0, 8, 11, 28)] :: tblG) ({ frames := 7, cells := 1, slots := 6, locals := 103 }) (va_Pc [.ref h0, .ref ho] (fun U => U.heap.size = sz ∧ va_P (dC, dI) vwCl [(h0, .inr (0, [.ref q7, .int 0, .int 0, .ref q13, .ref q24, .ref q35, .ref q47, .ref q58, .ref q69, .ref q84, .ref q95, .int 0, .int 0]))] U.heap ∧ va_K (dC, dI) vwCl [] U ∧ va_D (fun _ => True) [(h0, .inr (0, [.ref q7, .int 0, .int 0, .ref q13, .ref q24, .ref q35, .ref q47, .ref q58, .ref q69, .ref q84, .ref q95, .int 0, .int 0]))] ∧ ex_Z "java/lang/IllegalStateException" U)) (va_Qi (fun (r : Int32) (_ : Unit) => r = 1) (fun (_ : Unit) (t : State) => va_P (dC, dI) vwCl [] t.heap ∧ va_K (dC, dI) vwCl [] t ∧ va_D (va_A [(h0, .inr (0, [.ref q7, .int 0, .int 0, .ref q13, .ref q24, .ref q35, .ref q47, .ref q58, .ref q69, .ref q84, .ref q95, .int 0, .int 0]))] sz) []) (va_A [(h0, .inr (0, [.ref q7, .int 0, .int 0, .ref q13, .ref q24, .ref q35, .ref q47, .ref q58, .ref q69, .ref q84, .ref q95, .int 0, .int 0]))] sz)) 1 6 (va_A [(h0, .inr (0, [.ref q7, .int 0, .int 0, .ref q13, .ref q24, .ref q35, .ref q47, .ref q58, .ref q69, .ref q84, .ref q95, .int 0, .int 0]))] sz) := by
  refine va_MetW (cc := cd_Lw_stage) (maxL := 3) (ret := (some (.int))) (by decide) rfl ?_
  intro p e s m args below meth c s₁ B hml hv
  obtain ⟨rfl, hsz, hP, hK, hD0, hEz⟩ := hv
  have hx := B.exec
  have hb := B.bytes
  have hr := B.returns
  have hT : ∀ w ∈ tblG, w.before _ s = true := fun w h => atoms_spec (ws := (Cond.codeWith my_Lw_stage cd_Lw_stage 3 (some (.int)) [(0, 8, 11, 28)] :: tblG)) B.pre w (List.mem_cons_of_mem _ h)
  have hown : s.vm.findClass "StrataBaseLaw" = some m.cls := findClass_of_methodNamed B.named
  have hlocks := B.notSynchronized
  have hTab : c.exceptionTable.toList = [⟨0, 8, 11, 28⟩] := ex_table B (atoms_spec (ws := (Cond.codeWith my_Lw_stage cd_Lw_stage 3 (some (.int)) [(0, 8, 11, 28)] :: tblG)) B.pre _ List.mem_cons_self)
  subst hsz
  have hD := hD0.self (sz := s.heap.size)
  generalize hAe : va_A [(h0, .inr (0, [.ref q7, .int 0, .int 0, .ref q13, .ref q24, .ref q35, .ref q47, .ref q58, .ref q69, .ref q84, .ref q95, .int 0, .int 0]))] s.heap.size = A at hD ⊢
  have hA : ∀ q : Nat, s.heap.size ≤ q → A q := fun q h => by rw [← hAe]; exact Or.inr h
  have hS : va_S A s.heap s.heap [] := va_S.rf
  have hl := lv_entry ([.ref h0, .ref ho]) (n := 3) (Nat.le_of_ble_eq_true rfl)
  rw [lg_entry_eq]
  generalize (lg_sl ([.ref h0, .ref ho]) ++ List.replicate (3 - (lg_sl ([.ref h0, .ref ho])).length) Slot.unset).toArray = ls at hl ⊢
  have hl : lv_has ls 3 [(0, .ref h0), (1, .ref ho)] := hl
  refine lv_aload_n hx hb dc_Lw_stage_0 rfl (lv_at hl 1 rfl) ?_
  refine lv_iconst (v := 0) hx hb dc_Lw_stage_1 (by decide) ?_
  refine lv_aload_n hx hb dc_Lw_stage_2 rfl (lv_at hl 0 rfl) ?_
  have hPc := hP.sub (ws' := [(h0, .inr (0, [.ref q7, .int 0, .int 0, .ref q13, .ref q24, .ref q35, .ref q47, .ref q58, .ref q69, .ref q84, .ref q95, .int 0, .int 0]))]) [0] rfl
  have hDc := hD.sub (ws' := [(h0, .inr (0, [.ref q7, .int 0, .int 0, .ref q13, .ref q24, .ref q35, .ref q47, .ref q58, .ref q69, .ref q84, .ref q95, .int 0, .int 0]))]) [0] (by decide) rfl
  have hKc := hK.sub (tys' := []) [] rfl
  have hFc := va_free (wc := [(h0, .inr (0, [.ref q7, .int 0, .int 0, .ref q13, .ref q24, .ref q35, .ref q47, .ref q58, .ref q69, .ref q84, .ref q95, .int 0, .int 0]))]) hD hS hA [0] rfl
  refine ex_runV (As := []) (rest := [.int 0, .ref ho]) ⟨hx, hb, hml, hown, hT⟩ (c_SB_stage_x l hl9 dC dI h0 q7 q13 q24 q35 q47 q58 q69 q84 q95 s.heap.size) (cwV 0 hT (gd_V wd_1342 wd_1343 wd_1344 wd_1 wd_1345) rfl rfl rfl (by decide +kernel) ⟨Nat.le_of_ble_eq_true rfl, Nat.le_of_ble_eq_true rfl⟩) ⟨fun a U g mk q => by obtain ⟨q0, q1, qP, qK, qD, qE0⟩ := q; exact ⟨q0, q1, qP, va_K.moved (u := U) (U := U.calling g mk a) (Vm.Alike.refl U.vm) qK, qD, ex_Z_move (Vm.Alike.refl _) (fun _ _ => rfl) qE0⟩, va_recv hK hP (q0 := 0) (ci := 0) rfl rfl, fun U hU hW => ⟨rfl, by rw [hU], by rw [hU]; exact hPc, va_K.moved hW.alike hKc, hDc.weaken (fun _ _ _ _ => trivial), ex_Z_move hW.alike (fun a _ => by rw [hU]) hEz⟩⟩ rfl hl.1 rfl (lv_room (Nat.le_of_ble_eq_true rfl)) dc_Lw_stage_3 ⟨(Nat.le_of_ble_eq_true rfl), (Nat.le_of_ble_eq_true rfl)⟩ (fun q9 ce9 H1 locs1 hce hcv hcc hz1 hk1 hL1 => ?_)
  have hS : va_S A s.heap H1 locs1 := ⟨Nat.le_trans hS.1 hz1, fun q h1 h2 => (hk1 q (Nat.lt_of_lt_of_le h1 hS.1) (fun z => h2 (hFc q z))).trans (hS.2.1 q h1 h2), fun z hz => (hL1 z hz).elim (hS.2.2 z) (fun h => hFc _ h)⟩
  refine ex_catch (own := "StrataBaseLaw") (name := "java/lang/IllegalStateException") hown ⟨0, 8, 11, 28⟩ [] hTab (by decide) (by decide) (hT _ wd_1231) (ex_Z_words hEz _ (List.mem_cons_self)) hce hcv hcc ?_
  generalize H1 = H at hS ⊢
  generalize locs1 = locs at hS ⊢
  have hP : va_P (dC, dI) vwCl [] H := fun k q h => nomatch h
  have hD : va_D A [] := ⟨(fun i j p q h => nomatch h), (fun k q h => nomatch h)⟩
  have hK : va_K (dC, dI) vwCl [] s := hK.sub [] rfl
  refine W.widen (k := 1) (n := 6) (Nat.le_of_ble_eq_true rfl) (Nat.le_of_ble_eq_true rfl) ?_
  refine lv_astore_n (lv' := [(2, .ref q9), (0, .ref h0), (1, .ref ho)]) hx hb dc_Lw_stage_11 rfl hl (by decide) rfl (fun ls hl => ?_)
  refine lv_iconst (v := 1) hx hb dc_Lw_stage_12 (by decide) ?_
  have hP9 := hP.sub (ws' := []) [] rfl
  have hD9 := hD.sub (ws' := []) [] (by decide) rfl
  have hK9 := hK.sub (tys' := []) [] rfl
  refine W.widen (k := 1) (n := 6) (Nat.le_of_ble_eq_true rfl) (Nat.le_of_ble_eq_true rfl) ?_
  exact W.iret (v := 1) hx hb hr (fun t ht hW => ⟨⟨1, (), rfl, rfl, by rw [ht]; exact hP9, va_K.moved hW.alike hK9, hD9⟩, hS.F ht⟩) hS.2.2 dc_Lw_stage_13

set_option maxHeartbeats 4000000 in
set_option maxRecDepth 100000 in
theorem c_Lw_count_0 (l : Launch) (dC : Nat → ClassId) (dI : Nat → Nat → Nat) (h0 : Nat) (q7 : Nat) (q13 : Nat) (q24 : Nat) (q35 : Nat) (q47 : Nat) (q58 : Nat) (q69 : Nat) (q84 : Nat) (q95 : Nat) (u2 : Nat) (u3 : Nat) (u4 : Nat) (u5 : Nat) (u6 : Nat) (u8 : Nat) (u12 : Nat) (u13 : Nat) (u14 : Nat) (u15 : Nat) (u16 : Nat) (u17 : Nat) (u18 : Nat) (ho : Nat) (ko : ClassId) (sz : Nat) : Met l my_Lw_count (Cond.codeWith my_Lw_count cd_Lw_count 4 (some (.int)) [(0, 9, 12, 19)] :: tblG) ({ frames := 1, cells := 0, slots := 0, locals := 21 }) (va_Pc [.ref h0, .int 0, .ref ho] (fun U => U.heap.size = sz ∧ va_P (dC, dI) vwCl [(h0, .inr (0, [.ref q7, .int 0, .int 0, .ref q13, .ref q24, .ref q35, .ref q47, .ref q58, .ref q69, .ref q84, .ref q95, .int 0, .int 0])), (q13, .inr (7, [.ref u2, .ref u3, .ref u4, .ref u5, .ref u6, .int 0, .ref u8])), (u2, .inr (1, [.int 0, .ref u12, .ref u13, .ref u14, .ref u15, .ref u16, .ref u17, .ref u18, .int 0])), (ho, .inl (ko, 1, .inr (.inl (fun _ => 0))))] U.heap ∧ va_K (dC, dI) vwCl [(ko, .long)] U ∧ va_D (fun _ => True) [(h0, .inr (0, [.ref q7, .int 0, .int 0, .ref q13, .ref q24, .ref q35, .ref q47, .ref q58, .ref q69, .ref q84, .ref q95, .int 0, .int 0])), (q13, .inr (7, [.ref u2, .ref u3, .ref u4, .ref u5, .ref u6, .int 0, .ref u8])), (u2, .inr (1, [.int 0, .ref u12, .ref u13, .ref u14, .ref u15, .ref u16, .ref u17, .ref u18, .int 0])), (ho, .inl (ko, 1, .inr (.inl (fun _ => 0))))])) (va_Qi (fun (r : Int32) (_ : Unit) => r = 0) (fun (_ : Unit) (t : State) => va_P (dC, dI) vwCl [(ho, .inl (ko, 1, .inr (.inl (fun _ => 0))))] t.heap ∧ va_K (dC, dI) vwCl [(ko, .long)] t ∧ va_D (va_A [(h0, .inr (0, [.ref q7, .int 0, .int 0, .ref q13, .ref q24, .ref q35, .ref q47, .ref q58, .ref q69, .ref q84, .ref q95, .int 0, .int 0])), (q13, .inr (7, [.ref u2, .ref u3, .ref u4, .ref u5, .ref u6, .int 0, .ref u8])), (u2, .inr (1, [.int 0, .ref u12, .ref u13, .ref u14, .ref u15, .ref u16, .ref u17, .ref u18, .int 0])), (ho, .inl (ko, 1, .inr (.inl (fun _ => 0))))] sz) [(ho, .inl (ko, 1, .inr (.inl (fun _ => 0))))]) (va_A [(h0, .inr (0, [.ref q7, .int 0, .int 0, .ref q13, .ref q24, .ref q35, .ref q47, .ref q58, .ref q69, .ref q84, .ref q95, .int 0, .int 0])), (q13, .inr (7, [.ref u2, .ref u3, .ref u4, .ref u5, .ref u6, .int 0, .ref u8])), (u2, .inr (1, [.int 0, .ref u12, .ref u13, .ref u14, .ref u15, .ref u16, .ref u17, .ref u18, .int 0])), (ho, .inl (ko, 1, .inr (.inl (fun _ => 0))))] sz)) 0 0 (va_A [(h0, .inr (0, [.ref q7, .int 0, .int 0, .ref q13, .ref q24, .ref q35, .ref q47, .ref q58, .ref q69, .ref q84, .ref q95, .int 0, .int 0])), (q13, .inr (7, [.ref u2, .ref u3, .ref u4, .ref u5, .ref u6, .int 0, .ref u8])), (u2, .inr (1, [.int 0, .ref u12, .ref u13, .ref u14, .ref u15, .ref u16, .ref u17, .ref u18, .int 0])), (ho, .inl (ko, 1, .inr (.inl (fun _ => 0))))] sz) := by
  refine va_MetW (cc := cd_Lw_count) (maxL := 4) (ret := (some (.int))) (by decide) rfl ?_
  intro p e s m args below meth c s₁ B hml hv
  obtain ⟨rfl, hsz, hP, hK, hD0⟩ := hv
  have hx := B.exec
  have hb := B.bytes
  have hr := B.returns
  have hT : ∀ w ∈ tblG, w.before _ s = true := fun w h => atoms_spec (ws := (Cond.codeWith my_Lw_count cd_Lw_count 4 (some (.int)) [(0, 9, 12, 19)] :: tblG)) B.pre w (List.mem_cons_of_mem _ h)
  have hown : s.vm.findClass "StrataBaseLaw" = some m.cls := findClass_of_methodNamed B.named
  have hlocks := B.notSynchronized
  have hTab : c.exceptionTable.toList = [⟨0, 9, 12, 19⟩] := ex_table B (atoms_spec (ws := (Cond.codeWith my_Lw_count cd_Lw_count 4 (some (.int)) [(0, 9, 12, 19)] :: tblG)) B.pre _ List.mem_cons_self)
  subst hsz
  have hD := hD0.self (sz := s.heap.size)
  generalize hAe : va_A [(h0, .inr (0, [.ref q7, .int 0, .int 0, .ref q13, .ref q24, .ref q35, .ref q47, .ref q58, .ref q69, .ref q84, .ref q95, .int 0, .int 0])), (q13, .inr (7, [.ref u2, .ref u3, .ref u4, .ref u5, .ref u6, .int 0, .ref u8])), (u2, .inr (1, [.int 0, .ref u12, .ref u13, .ref u14, .ref u15, .ref u16, .ref u17, .ref u18, .int 0])), (ho, .inl (ko, 1, .inr (.inl (fun _ => 0))))] s.heap.size = A at hD ⊢
  have hA : ∀ q : Nat, s.heap.size ≤ q → A q := fun q h => by rw [← hAe]; exact Or.inr h
  have hS : va_S A s.heap s.heap [] := va_S.rf
  have hl := lv_entry ([.ref h0, .int 0, .ref ho]) (n := 4) (Nat.le_of_ble_eq_true rfl)
  rw [lg_entry_eq]
  generalize (lg_sl ([.ref h0, .int 0, .ref ho]) ++ List.replicate (4 - (lg_sl ([.ref h0, .int 0, .ref ho])).length) Slot.unset).toArray = ls at hl ⊢
  have hl : lv_has ls 4 [(0, .ref h0), (1, .int 0), (2, .ref ho)] := hl
  refine lv_aload_n hx hb dc_Lw_count_0 rfl (lv_at hl 2 rfl) ?_
  refine lv_iconst (v := 0) hx hb dc_Lw_count_1 (by decide) ?_
  refine lv_aload_n hx hb dc_Lw_count_2 rfl (lv_at hl 0 rfl) ?_
  refine lv_iload_n hx hb dc_Lw_count_3 rfl (lv_at hl 1 rfl) ?_
  have hPc := hP.sub (ws' := [(h0, .inr (0, [.ref q7, .int 0, .int 0, .ref q13, .ref q24, .ref q35, .ref q47, .ref q58, .ref q69, .ref q84, .ref q95, .int 0, .int 0])), (q13, .inr (7, [.ref u2, .ref u3, .ref u4, .ref u5, .ref u6, .int 0, .ref u8])), (u2, .inr (1, [.int 0, .ref u12, .ref u13, .ref u14, .ref u15, .ref u16, .ref u17, .ref u18, .int 0]))]) [0, 1, 2] rfl
  have hDc := hD.sub (ws' := [(h0, .inr (0, [.ref q7, .int 0, .int 0, .ref q13, .ref q24, .ref q35, .ref q47, .ref q58, .ref q69, .ref q84, .ref q95, .int 0, .int 0])), (q13, .inr (7, [.ref u2, .ref u3, .ref u4, .ref u5, .ref u6, .int 0, .ref u8])), (u2, .inr (1, [.int 0, .ref u12, .ref u13, .ref u14, .ref u15, .ref u16, .ref u17, .ref u18, .int 0]))]) [0, 1, 2] (by decide) rfl
  have hKc := hK.sub (tys' := []) [] rfl
  have hFc := va_free (wc := [(h0, .inr (0, [.ref q7, .int 0, .int 0, .ref q13, .ref q24, .ref q35, .ref q47, .ref q58, .ref q69, .ref q84, .ref q95, .int 0, .int 0])), (q13, .inr (7, [.ref u2, .ref u3, .ref u4, .ref u5, .ref u6, .int 0, .ref u8])), (u2, .inr (1, [.int 0, .ref u12, .ref u13, .ref u14, .ref u15, .ref u16, .ref u17, .ref u18, .int 0]))]) hD hS hA [0, 1, 2] rfl
  refine va_calli (va_runV (As := [.int 0]) (rest := [.int 0, .ref ho]) ⟨hx, hb, hml, hown, hT⟩ (c_SB_count_0 l dC dI h0 q7 q13 q24 q35 q47 q58 q69 q84 q95 u2 u3 u4 u5 u6 u8 u12 u13 u14 u15 u16 u17 u18 s.heap.size) (cwV 1 hT (gd_V wd_1354 wd_1355 wd_1356 wd_1 wd_1357) rfl rfl rfl (by decide +kernel) ⟨Nat.le_of_ble_eq_true rfl, Nat.le_of_ble_eq_true rfl⟩) ⟨fun a U g mk q => by obtain ⟨q0, q1, qP, qK, qD⟩ := q; exact ⟨q0, q1, qP, va_K.moved (u := U) (U := U.calling g mk a) (Vm.Alike.refl U.vm) qK, qD⟩, va_recv hK hP (q0 := 0) (ci := 0) rfl rfl, fun U hU hW => ⟨rfl, by rw [hU], by rw [hU]; exact hPc, va_K.moved hW.alike hKc, hDc.weaken (fun _ _ _ _ => trivial)⟩⟩ rfl rfl hl.1 rfl (lv_room (Nat.le_of_ble_eq_true rfl)) dc_Lw_count_4 ⟨(Nat.le_of_ble_eq_true rfl), (Nat.le_of_ble_eq_true rfl)⟩) hS (fun q _ h => hFc q h) hFc (fun r1 _ t H1 locs ht hvm hr9 hB hz1 hk1 hS => ?_)
  obtain ⟨hP1, hK1, hD1⟩ := hB
  rw [ht] at hP1
  have hK1 := va_K.moved hvm.symm hK1
  obtain ⟨hP, hD⟩ := va_join (wr := [(ho, .inl (ko, 1, .inr (.inl (fun _ => 0))))]) (w1 := [(h0, .inr (0, [.ref q7, .int 0, .int 0, .ref q13, .ref q24, .ref q35, .ref q47, .ref q58, .ref q69, .ref q84, .ref q95, .int 0, .int 0])), (q13, .inr (7, [.ref u2, .ref u3, .ref u4, .ref u5, .ref u6, .int 0, .ref u8])), (u2, .inr (1, [.int 0, .ref u12, .ref u13, .ref u14, .ref u15, .ref u16, .ref u17, .ref u18, .int 0]))]) hP hD [0, 1, 2] [3] rfl rfl (by decide) (by decide) hk1 hFc hP1 hD1
  have hK := (hK.sub (tys' := [(ko, .long)]) [0] rfl).app hK1
  generalize H1 = H at hP hS ⊢
  have hP : va_P (dC, dI) vwCl [(ho, .inl (ko, 1, .inr (.inl (fun _ => 0)))), (h0, .inr (0, [.ref q7, .int 0, .int 0, .ref q13, .ref q24, .ref q35, .ref q47, .ref q58, .ref q69, .ref q84, .ref q95, .int 0, .int 0])), (q13, .inr (7, [.ref u2, .ref u3, .ref u4, .ref u5, .ref u6, .int 0, .ref u8])), (u2, .inr (1, [.int 0, .ref u12, .ref u13, .ref u14, .ref u15, .ref u16, .ref u17, .ref u18, .int 0]))] H := hP
  have hD : va_D A [(ho, .inl (ko, 1, .inr (.inl (fun _ => 0)))), (h0, .inr (0, [.ref q7, .int 0, .int 0, .ref q13, .ref q24, .ref q35, .ref q47, .ref q58, .ref q69, .ref q84, .ref q95, .int 0, .int 0])), (q13, .inr (7, [.ref u2, .ref u3, .ref u4, .ref u5, .ref u6, .int 0, .ref u8])), (u2, .inr (1, [.int 0, .ref u12, .ref u13, .ref u14, .ref u15, .ref u16, .ref u17, .ref u18, .int 0]))] := hD
  have hK : va_K (dC, dI) vwCl [(ko, .long)] s := hK
  have hr9 : r1 = 0 := hr9
  subst hr9
  refine lv_i2l (v := 0) hx hb dc_Lw_count_7 (by decide) ?_
  refine va_last hx hb hK hP hD hS 0 0 rfl rfl (show vp_in (0 : Int32) 1 from vp_in_nI (n := 0) (Nat.lt_of_lt_of_le (by decide : 0 < 1) (Nat.le_of_ble_eq_true rfl)) (Nat.lt_of_le_of_lt (Nat.le_of_ble_eq_true rfl) (by decide : 1 < 2 ^ 31))) dc_Lw_count_8 (fun H locs hP hD hS => ?_)
  rw [show vp_updL (fun _ => 0) (0 : Int32).toNatClampNeg (0 : Int64) = (fun _ => 0) from uz_l _ _] at hP hD
  have hP : va_P (dC, dI) vwCl [(ho, .inl (ko, 1, .inr (.inl (fun _ => 0)))), (h0, .inr (0, [.ref q7, .int 0, .int 0, .ref q13, .ref q24, .ref q35, .ref q47, .ref q58, .ref q69, .ref q84, .ref q95, .int 0, .int 0])), (q13, .inr (7, [.ref u2, .ref u3, .ref u4, .ref u5, .ref u6, .int 0, .ref u8])), (u2, .inr (1, [.int 0, .ref u12, .ref u13, .ref u14, .ref u15, .ref u16, .ref u17, .ref u18, .int 0]))] H := hP
  have hD : va_D A [(ho, .inl (ko, 1, .inr (.inl (fun _ => 0)))), (h0, .inr (0, [.ref q7, .int 0, .int 0, .ref q13, .ref q24, .ref q35, .ref q47, .ref q58, .ref q69, .ref q84, .ref q95, .int 0, .int 0])), (q13, .inr (7, [.ref u2, .ref u3, .ref u4, .ref u5, .ref u6, .int 0, .ref u8])), (u2, .inr (1, [.int 0, .ref u12, .ref u13, .ref u14, .ref u15, .ref u16, .ref u17, .ref u18, .int 0]))] := hD
  refine lv_goto (tgt := 15) hx hb dc_Lw_count_9 (by decide) ?_
  refine lv_iconst (v := 0) hx hb dc_Lw_count_15 (by decide) ?_
  have hP9 := hP.sub (ws' := [(ho, .inl (ko, 1, .inr (.inl (fun _ => 0))))]) [0] rfl
  have hD9 := hD.sub (ws' := [(ho, .inl (ko, 1, .inr (.inl (fun _ => 0))))]) [0] (by decide) rfl
  have hK9 := hK.sub (tys' := [(ko, .long)]) [0] rfl
  refine W.widen (k := 0) (n := 0) (Nat.le_of_ble_eq_true rfl) (Nat.le_of_ble_eq_true rfl) ?_
  exact W.iret (v := 0) hx hb hr (fun t ht hW => ⟨⟨0, (), rfl, rfl, by rw [ht]; exact hP9, va_K.moved hW.alike hK9, hD9⟩, hS.F ht⟩) hS.2.2 dc_Lw_count_16

set_option maxHeartbeats 4000000 in
set_option maxRecDepth 100000 in
theorem c_Lw_count_1 (l : Launch) (dC : Nat → ClassId) (dI : Nat → Nat → Nat) (h0 : Nat) (q7 : Nat) (q13 : Nat) (q24 : Nat) (q35 : Nat) (q47 : Nat) (q58 : Nat) (q69 : Nat) (q84 : Nat) (q95 : Nat) (u2 : Nat) (u3 : Nat) (u4 : Nat) (u5 : Nat) (u6 : Nat) (u8 : Nat) (u19 : Nat) (u20 : Nat) (u21 : Nat) (ho : Nat) (ko : ClassId) (sz : Nat) : Met l my_Lw_count (Cond.codeWith my_Lw_count cd_Lw_count 4 (some (.int)) [(0, 9, 12, 19)] :: tblG) ({ frames := 1, cells := 0, slots := 0, locals := 21 }) (va_Pc [.ref h0, .int 1, .ref ho] (fun U => U.heap.size = sz ∧ va_P (dC, dI) vwCl [(h0, .inr (0, [.ref q7, .int 0, .int 0, .ref q13, .ref q24, .ref q35, .ref q47, .ref q58, .ref q69, .ref q84, .ref q95, .int 0, .int 0])), (q13, .inr (7, [.ref u2, .ref u3, .ref u4, .ref u5, .ref u6, .int 0, .ref u8])), (u3, .inr (6, [.int 0, .ref u19, .ref u20, .ref u21, .int 0])), (ho, .inl (ko, 1, .inr (.inl (fun _ => 0))))] U.heap ∧ va_K (dC, dI) vwCl [(ko, .long)] U ∧ va_D (fun _ => True) [(h0, .inr (0, [.ref q7, .int 0, .int 0, .ref q13, .ref q24, .ref q35, .ref q47, .ref q58, .ref q69, .ref q84, .ref q95, .int 0, .int 0])), (q13, .inr (7, [.ref u2, .ref u3, .ref u4, .ref u5, .ref u6, .int 0, .ref u8])), (u3, .inr (6, [.int 0, .ref u19, .ref u20, .ref u21, .int 0])), (ho, .inl (ko, 1, .inr (.inl (fun _ => 0))))])) (va_Qi (fun (r : Int32) (_ : Unit) => r = 0) (fun (_ : Unit) (t : State) => va_P (dC, dI) vwCl [(ho, .inl (ko, 1, .inr (.inl (fun _ => 0))))] t.heap ∧ va_K (dC, dI) vwCl [(ko, .long)] t ∧ va_D (va_A [(h0, .inr (0, [.ref q7, .int 0, .int 0, .ref q13, .ref q24, .ref q35, .ref q47, .ref q58, .ref q69, .ref q84, .ref q95, .int 0, .int 0])), (q13, .inr (7, [.ref u2, .ref u3, .ref u4, .ref u5, .ref u6, .int 0, .ref u8])), (u3, .inr (6, [.int 0, .ref u19, .ref u20, .ref u21, .int 0])), (ho, .inl (ko, 1, .inr (.inl (fun _ => 0))))] sz) [(ho, .inl (ko, 1, .inr (.inl (fun _ => 0))))]) (va_A [(h0, .inr (0, [.ref q7, .int 0, .int 0, .ref q13, .ref q24, .ref q35, .ref q47, .ref q58, .ref q69, .ref q84, .ref q95, .int 0, .int 0])), (q13, .inr (7, [.ref u2, .ref u3, .ref u4, .ref u5, .ref u6, .int 0, .ref u8])), (u3, .inr (6, [.int 0, .ref u19, .ref u20, .ref u21, .int 0])), (ho, .inl (ko, 1, .inr (.inl (fun _ => 0))))] sz)) 0 0 (va_A [(h0, .inr (0, [.ref q7, .int 0, .int 0, .ref q13, .ref q24, .ref q35, .ref q47, .ref q58, .ref q69, .ref q84, .ref q95, .int 0, .int 0])), (q13, .inr (7, [.ref u2, .ref u3, .ref u4, .ref u5, .ref u6, .int 0, .ref u8])), (u3, .inr (6, [.int 0, .ref u19, .ref u20, .ref u21, .int 0])), (ho, .inl (ko, 1, .inr (.inl (fun _ => 0))))] sz) := by
  refine va_MetW (cc := cd_Lw_count) (maxL := 4) (ret := (some (.int))) (by decide) rfl ?_
  intro p e s m args below meth c s₁ B hml hv
  obtain ⟨rfl, hsz, hP, hK, hD0⟩ := hv
  have hx := B.exec
  have hb := B.bytes
  have hr := B.returns
  have hT : ∀ w ∈ tblG, w.before _ s = true := fun w h => atoms_spec (ws := (Cond.codeWith my_Lw_count cd_Lw_count 4 (some (.int)) [(0, 9, 12, 19)] :: tblG)) B.pre w (List.mem_cons_of_mem _ h)
  have hown : s.vm.findClass "StrataBaseLaw" = some m.cls := findClass_of_methodNamed B.named
  have hlocks := B.notSynchronized
  have hTab : c.exceptionTable.toList = [⟨0, 9, 12, 19⟩] := ex_table B (atoms_spec (ws := (Cond.codeWith my_Lw_count cd_Lw_count 4 (some (.int)) [(0, 9, 12, 19)] :: tblG)) B.pre _ List.mem_cons_self)
  subst hsz
  have hD := hD0.self (sz := s.heap.size)
  generalize hAe : va_A [(h0, .inr (0, [.ref q7, .int 0, .int 0, .ref q13, .ref q24, .ref q35, .ref q47, .ref q58, .ref q69, .ref q84, .ref q95, .int 0, .int 0])), (q13, .inr (7, [.ref u2, .ref u3, .ref u4, .ref u5, .ref u6, .int 0, .ref u8])), (u3, .inr (6, [.int 0, .ref u19, .ref u20, .ref u21, .int 0])), (ho, .inl (ko, 1, .inr (.inl (fun _ => 0))))] s.heap.size = A at hD ⊢
  have hA : ∀ q : Nat, s.heap.size ≤ q → A q := fun q h => by rw [← hAe]; exact Or.inr h
  have hS : va_S A s.heap s.heap [] := va_S.rf
  have hl := lv_entry ([.ref h0, .int 1, .ref ho]) (n := 4) (Nat.le_of_ble_eq_true rfl)
  rw [lg_entry_eq]
  generalize (lg_sl ([.ref h0, .int 1, .ref ho]) ++ List.replicate (4 - (lg_sl ([.ref h0, .int 1, .ref ho])).length) Slot.unset).toArray = ls at hl ⊢
  have hl : lv_has ls 4 [(0, .ref h0), (1, .int 1), (2, .ref ho)] := hl
  refine lv_aload_n hx hb dc_Lw_count_0 rfl (lv_at hl 2 rfl) ?_
  refine lv_iconst (v := 0) hx hb dc_Lw_count_1 (by decide) ?_
  refine lv_aload_n hx hb dc_Lw_count_2 rfl (lv_at hl 0 rfl) ?_
  refine lv_iload_n hx hb dc_Lw_count_3 rfl (lv_at hl 1 rfl) ?_
  have hPc := hP.sub (ws' := [(h0, .inr (0, [.ref q7, .int 0, .int 0, .ref q13, .ref q24, .ref q35, .ref q47, .ref q58, .ref q69, .ref q84, .ref q95, .int 0, .int 0])), (q13, .inr (7, [.ref u2, .ref u3, .ref u4, .ref u5, .ref u6, .int 0, .ref u8])), (u3, .inr (6, [.int 0, .ref u19, .ref u20, .ref u21, .int 0]))]) [0, 1, 2] rfl
  have hDc := hD.sub (ws' := [(h0, .inr (0, [.ref q7, .int 0, .int 0, .ref q13, .ref q24, .ref q35, .ref q47, .ref q58, .ref q69, .ref q84, .ref q95, .int 0, .int 0])), (q13, .inr (7, [.ref u2, .ref u3, .ref u4, .ref u5, .ref u6, .int 0, .ref u8])), (u3, .inr (6, [.int 0, .ref u19, .ref u20, .ref u21, .int 0]))]) [0, 1, 2] (by decide) rfl
  have hKc := hK.sub (tys' := []) [] rfl
  have hFc := va_free (wc := [(h0, .inr (0, [.ref q7, .int 0, .int 0, .ref q13, .ref q24, .ref q35, .ref q47, .ref q58, .ref q69, .ref q84, .ref q95, .int 0, .int 0])), (q13, .inr (7, [.ref u2, .ref u3, .ref u4, .ref u5, .ref u6, .int 0, .ref u8])), (u3, .inr (6, [.int 0, .ref u19, .ref u20, .ref u21, .int 0]))]) hD hS hA [0, 1, 2] rfl
  refine va_calli (va_runV (As := [.int 1]) (rest := [.int 0, .ref ho]) ⟨hx, hb, hml, hown, hT⟩ (c_SB_count_1 l dC dI h0 q7 q13 q24 q35 q47 q58 q69 q84 q95 u2 u3 u4 u5 u6 u8 u19 u20 u21 s.heap.size) (cwV 1 hT (gd_V wd_1354 wd_1355 wd_1356 wd_1 wd_1357) rfl rfl rfl (by decide +kernel) ⟨Nat.le_of_ble_eq_true rfl, Nat.le_of_ble_eq_true rfl⟩) ⟨fun a U g mk q => by obtain ⟨q0, q1, qP, qK, qD⟩ := q; exact ⟨q0, q1, qP, va_K.moved (u := U) (U := U.calling g mk a) (Vm.Alike.refl U.vm) qK, qD⟩, va_recv hK hP (q0 := 0) (ci := 0) rfl rfl, fun U hU hW => ⟨rfl, by rw [hU], by rw [hU]; exact hPc, va_K.moved hW.alike hKc, hDc.weaken (fun _ _ _ _ => trivial)⟩⟩ rfl rfl hl.1 rfl (lv_room (Nat.le_of_ble_eq_true rfl)) dc_Lw_count_4 ⟨(Nat.le_of_ble_eq_true rfl), (Nat.le_of_ble_eq_true rfl)⟩) hS (fun q _ h => hFc q h) hFc (fun r1 _ t H1 locs ht hvm hr9 hB hz1 hk1 hS => ?_)
  obtain ⟨hP1, hK1, hD1⟩ := hB
  rw [ht] at hP1
  have hK1 := va_K.moved hvm.symm hK1
  obtain ⟨hP, hD⟩ := va_join (wr := [(ho, .inl (ko, 1, .inr (.inl (fun _ => 0))))]) (w1 := [(h0, .inr (0, [.ref q7, .int 0, .int 0, .ref q13, .ref q24, .ref q35, .ref q47, .ref q58, .ref q69, .ref q84, .ref q95, .int 0, .int 0])), (q13, .inr (7, [.ref u2, .ref u3, .ref u4, .ref u5, .ref u6, .int 0, .ref u8])), (u3, .inr (6, [.int 0, .ref u19, .ref u20, .ref u21, .int 0]))]) hP hD [0, 1, 2] [3] rfl rfl (by decide) (by decide) hk1 hFc hP1 hD1
  have hK := (hK.sub (tys' := [(ko, .long)]) [0] rfl).app hK1
  generalize H1 = H at hP hS ⊢
  have hP : va_P (dC, dI) vwCl [(ho, .inl (ko, 1, .inr (.inl (fun _ => 0)))), (h0, .inr (0, [.ref q7, .int 0, .int 0, .ref q13, .ref q24, .ref q35, .ref q47, .ref q58, .ref q69, .ref q84, .ref q95, .int 0, .int 0])), (q13, .inr (7, [.ref u2, .ref u3, .ref u4, .ref u5, .ref u6, .int 0, .ref u8])), (u3, .inr (6, [.int 0, .ref u19, .ref u20, .ref u21, .int 0]))] H := hP
  have hD : va_D A [(ho, .inl (ko, 1, .inr (.inl (fun _ => 0)))), (h0, .inr (0, [.ref q7, .int 0, .int 0, .ref q13, .ref q24, .ref q35, .ref q47, .ref q58, .ref q69, .ref q84, .ref q95, .int 0, .int 0])), (q13, .inr (7, [.ref u2, .ref u3, .ref u4, .ref u5, .ref u6, .int 0, .ref u8])), (u3, .inr (6, [.int 0, .ref u19, .ref u20, .ref u21, .int 0]))] := hD
  have hK : va_K (dC, dI) vwCl [(ko, .long)] s := hK
  have hr9 : r1 = 0 := hr9
  subst hr9
  refine lv_i2l (v := 0) hx hb dc_Lw_count_7 (by decide) ?_
  refine va_last hx hb hK hP hD hS 0 0 rfl rfl (show vp_in (0 : Int32) 1 from vp_in_nI (n := 0) (Nat.lt_of_lt_of_le (by decide : 0 < 1) (Nat.le_of_ble_eq_true rfl)) (Nat.lt_of_le_of_lt (Nat.le_of_ble_eq_true rfl) (by decide : 1 < 2 ^ 31))) dc_Lw_count_8 (fun H locs hP hD hS => ?_)
  rw [show vp_updL (fun _ => 0) (0 : Int32).toNatClampNeg (0 : Int64) = (fun _ => 0) from uz_l _ _] at hP hD
  have hP : va_P (dC, dI) vwCl [(ho, .inl (ko, 1, .inr (.inl (fun _ => 0)))), (h0, .inr (0, [.ref q7, .int 0, .int 0, .ref q13, .ref q24, .ref q35, .ref q47, .ref q58, .ref q69, .ref q84, .ref q95, .int 0, .int 0])), (q13, .inr (7, [.ref u2, .ref u3, .ref u4, .ref u5, .ref u6, .int 0, .ref u8])), (u3, .inr (6, [.int 0, .ref u19, .ref u20, .ref u21, .int 0]))] H := hP
  have hD : va_D A [(ho, .inl (ko, 1, .inr (.inl (fun _ => 0)))), (h0, .inr (0, [.ref q7, .int 0, .int 0, .ref q13, .ref q24, .ref q35, .ref q47, .ref q58, .ref q69, .ref q84, .ref q95, .int 0, .int 0])), (q13, .inr (7, [.ref u2, .ref u3, .ref u4, .ref u5, .ref u6, .int 0, .ref u8])), (u3, .inr (6, [.int 0, .ref u19, .ref u20, .ref u21, .int 0]))] := hD
  refine lv_goto (tgt := 15) hx hb dc_Lw_count_9 (by decide) ?_
  refine lv_iconst (v := 0) hx hb dc_Lw_count_15 (by decide) ?_
  have hP9 := hP.sub (ws' := [(ho, .inl (ko, 1, .inr (.inl (fun _ => 0))))]) [0] rfl
  have hD9 := hD.sub (ws' := [(ho, .inl (ko, 1, .inr (.inl (fun _ => 0))))]) [0] (by decide) rfl
  have hK9 := hK.sub (tys' := [(ko, .long)]) [0] rfl
  refine W.widen (k := 0) (n := 0) (Nat.le_of_ble_eq_true rfl) (Nat.le_of_ble_eq_true rfl) ?_
  exact W.iret (v := 0) hx hb hr (fun t ht hW => ⟨⟨0, (), rfl, rfl, by rw [ht]; exact hP9, va_K.moved hW.alike hK9, hD9⟩, hS.F ht⟩) hS.2.2 dc_Lw_count_16

set_option maxHeartbeats 4000000 in
set_option maxRecDepth 100000 in
theorem c_Lw_count_2 (l : Launch) (dC : Nat → ClassId) (dI : Nat → Nat → Nat) (h0 : Nat) (q7 : Nat) (q13 : Nat) (q24 : Nat) (q35 : Nat) (q47 : Nat) (q58 : Nat) (q69 : Nat) (q84 : Nat) (q95 : Nat) (u2 : Nat) (u3 : Nat) (u4 : Nat) (u5 : Nat) (u6 : Nat) (u8 : Nat) (u7 : Nat) (u22 : Nat) (u23 : Nat) (u24 : Nat) (u25 : Nat) (u26 : Nat) (u27 : Nat) (ho : Nat) (ko : ClassId) (sz : Nat) : Met l my_Lw_count (Cond.codeWith my_Lw_count cd_Lw_count 4 (some (.int)) [(0, 9, 12, 19)] :: tblG) ({ frames := 2, cells := 0, slots := 0, locals := 41 }) (va_Pc [.ref h0, .int 2, .ref ho] (fun U => U.heap.size = sz ∧ va_P (dC, dI) vwCl [(h0, .inr (0, [.ref q7, .int 0, .int 0, .ref q13, .ref q24, .ref q35, .ref q47, .ref q58, .ref q69, .ref q84, .ref q95, .int 0, .int 0])), (q13, .inr (7, [.ref u2, .ref u3, .ref u4, .ref u5, .ref u6, .int 0, .ref u8])), (u6, .inr (2, [.ref u7, .ref u22, .ref u23, .ref u24])), (u7, .inr (6, [.int 0, .ref u25, .ref u26, .ref u27, .int 0])), (ho, .inl (ko, 1, .inr (.inl (fun _ => 0))))] U.heap ∧ va_K (dC, dI) vwCl [(ko, .long)] U ∧ va_D (fun _ => True) [(h0, .inr (0, [.ref q7, .int 0, .int 0, .ref q13, .ref q24, .ref q35, .ref q47, .ref q58, .ref q69, .ref q84, .ref q95, .int 0, .int 0])), (q13, .inr (7, [.ref u2, .ref u3, .ref u4, .ref u5, .ref u6, .int 0, .ref u8])), (u6, .inr (2, [.ref u7, .ref u22, .ref u23, .ref u24])), (u7, .inr (6, [.int 0, .ref u25, .ref u26, .ref u27, .int 0])), (ho, .inl (ko, 1, .inr (.inl (fun _ => 0))))])) (va_Qi (fun (r : Int32) (_ : Unit) => r = 0) (fun (_ : Unit) (t : State) => va_P (dC, dI) vwCl [(ho, .inl (ko, 1, .inr (.inl (fun _ => 0))))] t.heap ∧ va_K (dC, dI) vwCl [(ko, .long)] t ∧ va_D (va_A [(h0, .inr (0, [.ref q7, .int 0, .int 0, .ref q13, .ref q24, .ref q35, .ref q47, .ref q58, .ref q69, .ref q84, .ref q95, .int 0, .int 0])), (q13, .inr (7, [.ref u2, .ref u3, .ref u4, .ref u5, .ref u6, .int 0, .ref u8])), (u6, .inr (2, [.ref u7, .ref u22, .ref u23, .ref u24])), (u7, .inr (6, [.int 0, .ref u25, .ref u26, .ref u27, .int 0])), (ho, .inl (ko, 1, .inr (.inl (fun _ => 0))))] sz) [(ho, .inl (ko, 1, .inr (.inl (fun _ => 0))))]) (va_A [(h0, .inr (0, [.ref q7, .int 0, .int 0, .ref q13, .ref q24, .ref q35, .ref q47, .ref q58, .ref q69, .ref q84, .ref q95, .int 0, .int 0])), (q13, .inr (7, [.ref u2, .ref u3, .ref u4, .ref u5, .ref u6, .int 0, .ref u8])), (u6, .inr (2, [.ref u7, .ref u22, .ref u23, .ref u24])), (u7, .inr (6, [.int 0, .ref u25, .ref u26, .ref u27, .int 0])), (ho, .inl (ko, 1, .inr (.inl (fun _ => 0))))] sz)) 0 0 (va_A [(h0, .inr (0, [.ref q7, .int 0, .int 0, .ref q13, .ref q24, .ref q35, .ref q47, .ref q58, .ref q69, .ref q84, .ref q95, .int 0, .int 0])), (q13, .inr (7, [.ref u2, .ref u3, .ref u4, .ref u5, .ref u6, .int 0, .ref u8])), (u6, .inr (2, [.ref u7, .ref u22, .ref u23, .ref u24])), (u7, .inr (6, [.int 0, .ref u25, .ref u26, .ref u27, .int 0])), (ho, .inl (ko, 1, .inr (.inl (fun _ => 0))))] sz) := by
  refine va_MetW (cc := cd_Lw_count) (maxL := 4) (ret := (some (.int))) (by decide) rfl ?_
  intro p e s m args below meth c s₁ B hml hv
  obtain ⟨rfl, hsz, hP, hK, hD0⟩ := hv
  have hx := B.exec
  have hb := B.bytes
  have hr := B.returns
  have hT : ∀ w ∈ tblG, w.before _ s = true := fun w h => atoms_spec (ws := (Cond.codeWith my_Lw_count cd_Lw_count 4 (some (.int)) [(0, 9, 12, 19)] :: tblG)) B.pre w (List.mem_cons_of_mem _ h)
  have hown : s.vm.findClass "StrataBaseLaw" = some m.cls := findClass_of_methodNamed B.named
  have hlocks := B.notSynchronized
  have hTab : c.exceptionTable.toList = [⟨0, 9, 12, 19⟩] := ex_table B (atoms_spec (ws := (Cond.codeWith my_Lw_count cd_Lw_count 4 (some (.int)) [(0, 9, 12, 19)] :: tblG)) B.pre _ List.mem_cons_self)
  subst hsz
  have hD := hD0.self (sz := s.heap.size)
  generalize hAe : va_A [(h0, .inr (0, [.ref q7, .int 0, .int 0, .ref q13, .ref q24, .ref q35, .ref q47, .ref q58, .ref q69, .ref q84, .ref q95, .int 0, .int 0])), (q13, .inr (7, [.ref u2, .ref u3, .ref u4, .ref u5, .ref u6, .int 0, .ref u8])), (u6, .inr (2, [.ref u7, .ref u22, .ref u23, .ref u24])), (u7, .inr (6, [.int 0, .ref u25, .ref u26, .ref u27, .int 0])), (ho, .inl (ko, 1, .inr (.inl (fun _ => 0))))] s.heap.size = A at hD ⊢
  have hA : ∀ q : Nat, s.heap.size ≤ q → A q := fun q h => by rw [← hAe]; exact Or.inr h
  have hS : va_S A s.heap s.heap [] := va_S.rf
  have hl := lv_entry ([.ref h0, .int 2, .ref ho]) (n := 4) (Nat.le_of_ble_eq_true rfl)
  rw [lg_entry_eq]
  generalize (lg_sl ([.ref h0, .int 2, .ref ho]) ++ List.replicate (4 - (lg_sl ([.ref h0, .int 2, .ref ho])).length) Slot.unset).toArray = ls at hl ⊢
  have hl : lv_has ls 4 [(0, .ref h0), (1, .int 2), (2, .ref ho)] := hl
  refine lv_aload_n hx hb dc_Lw_count_0 rfl (lv_at hl 2 rfl) ?_
  refine lv_iconst (v := 0) hx hb dc_Lw_count_1 (by decide) ?_
  refine lv_aload_n hx hb dc_Lw_count_2 rfl (lv_at hl 0 rfl) ?_
  refine lv_iload_n hx hb dc_Lw_count_3 rfl (lv_at hl 1 rfl) ?_
  have hPc := hP.sub (ws' := [(h0, .inr (0, [.ref q7, .int 0, .int 0, .ref q13, .ref q24, .ref q35, .ref q47, .ref q58, .ref q69, .ref q84, .ref q95, .int 0, .int 0])), (q13, .inr (7, [.ref u2, .ref u3, .ref u4, .ref u5, .ref u6, .int 0, .ref u8])), (u6, .inr (2, [.ref u7, .ref u22, .ref u23, .ref u24])), (u7, .inr (6, [.int 0, .ref u25, .ref u26, .ref u27, .int 0]))]) [0, 1, 2, 3] rfl
  have hDc := hD.sub (ws' := [(h0, .inr (0, [.ref q7, .int 0, .int 0, .ref q13, .ref q24, .ref q35, .ref q47, .ref q58, .ref q69, .ref q84, .ref q95, .int 0, .int 0])), (q13, .inr (7, [.ref u2, .ref u3, .ref u4, .ref u5, .ref u6, .int 0, .ref u8])), (u6, .inr (2, [.ref u7, .ref u22, .ref u23, .ref u24])), (u7, .inr (6, [.int 0, .ref u25, .ref u26, .ref u27, .int 0]))]) [0, 1, 2, 3] (by decide) rfl
  have hKc := hK.sub (tys' := []) [] rfl
  have hFc := va_free (wc := [(h0, .inr (0, [.ref q7, .int 0, .int 0, .ref q13, .ref q24, .ref q35, .ref q47, .ref q58, .ref q69, .ref q84, .ref q95, .int 0, .int 0])), (q13, .inr (7, [.ref u2, .ref u3, .ref u4, .ref u5, .ref u6, .int 0, .ref u8])), (u6, .inr (2, [.ref u7, .ref u22, .ref u23, .ref u24])), (u7, .inr (6, [.int 0, .ref u25, .ref u26, .ref u27, .int 0]))]) hD hS hA [0, 1, 2, 3] rfl
  refine va_calli (va_runV (As := [.int 2]) (rest := [.int 0, .ref ho]) ⟨hx, hb, hml, hown, hT⟩ (c_SB_count_2 l dC dI h0 q7 q13 q24 q35 q47 q58 q69 q84 q95 u2 u3 u4 u5 u6 u8 u7 u22 u23 u24 u25 u26 u27 s.heap.size) (cwV 1 hT (gd_V wd_1354 wd_1355 wd_1356 wd_1 wd_1357) rfl rfl rfl (by decide +kernel) ⟨Nat.le_of_ble_eq_true rfl, Nat.le_of_ble_eq_true rfl⟩) ⟨fun a U g mk q => by obtain ⟨q0, q1, qP, qK, qD⟩ := q; exact ⟨q0, q1, qP, va_K.moved (u := U) (U := U.calling g mk a) (Vm.Alike.refl U.vm) qK, qD⟩, va_recv hK hP (q0 := 0) (ci := 0) rfl rfl, fun U hU hW => ⟨rfl, by rw [hU], by rw [hU]; exact hPc, va_K.moved hW.alike hKc, hDc.weaken (fun _ _ _ _ => trivial)⟩⟩ rfl rfl hl.1 rfl (lv_room (Nat.le_of_ble_eq_true rfl)) dc_Lw_count_4 ⟨(Nat.le_of_ble_eq_true rfl), (Nat.le_of_ble_eq_true rfl)⟩) hS (fun q _ h => hFc q h) hFc (fun r1 _ t H1 locs ht hvm hr9 hB hz1 hk1 hS => ?_)
  obtain ⟨hP1, hK1, hD1⟩ := hB
  rw [ht] at hP1
  have hK1 := va_K.moved hvm.symm hK1
  obtain ⟨hP, hD⟩ := va_join (wr := [(ho, .inl (ko, 1, .inr (.inl (fun _ => 0))))]) (w1 := [(h0, .inr (0, [.ref q7, .int 0, .int 0, .ref q13, .ref q24, .ref q35, .ref q47, .ref q58, .ref q69, .ref q84, .ref q95, .int 0, .int 0])), (q13, .inr (7, [.ref u2, .ref u3, .ref u4, .ref u5, .ref u6, .int 0, .ref u8])), (u6, .inr (2, [.ref u7, .ref u22, .ref u23, .ref u24])), (u7, .inr (6, [.int 0, .ref u25, .ref u26, .ref u27, .int 0]))]) hP hD [0, 1, 2, 3] [4] rfl rfl (by decide) (by decide) hk1 hFc hP1 hD1
  have hK := (hK.sub (tys' := [(ko, .long)]) [0] rfl).app hK1
  generalize H1 = H at hP hS ⊢
  have hP : va_P (dC, dI) vwCl [(ho, .inl (ko, 1, .inr (.inl (fun _ => 0)))), (h0, .inr (0, [.ref q7, .int 0, .int 0, .ref q13, .ref q24, .ref q35, .ref q47, .ref q58, .ref q69, .ref q84, .ref q95, .int 0, .int 0])), (q13, .inr (7, [.ref u2, .ref u3, .ref u4, .ref u5, .ref u6, .int 0, .ref u8])), (u6, .inr (2, [.ref u7, .ref u22, .ref u23, .ref u24])), (u7, .inr (6, [.int 0, .ref u25, .ref u26, .ref u27, .int 0]))] H := hP
  have hD : va_D A [(ho, .inl (ko, 1, .inr (.inl (fun _ => 0)))), (h0, .inr (0, [.ref q7, .int 0, .int 0, .ref q13, .ref q24, .ref q35, .ref q47, .ref q58, .ref q69, .ref q84, .ref q95, .int 0, .int 0])), (q13, .inr (7, [.ref u2, .ref u3, .ref u4, .ref u5, .ref u6, .int 0, .ref u8])), (u6, .inr (2, [.ref u7, .ref u22, .ref u23, .ref u24])), (u7, .inr (6, [.int 0, .ref u25, .ref u26, .ref u27, .int 0]))] := hD
  have hK : va_K (dC, dI) vwCl [(ko, .long)] s := hK
  have hr9 : r1 = 0 := hr9
  subst hr9
  refine lv_i2l (v := 0) hx hb dc_Lw_count_7 (by decide) ?_
  refine va_last hx hb hK hP hD hS 0 0 rfl rfl (show vp_in (0 : Int32) 1 from vp_in_nI (n := 0) (Nat.lt_of_lt_of_le (by decide : 0 < 1) (Nat.le_of_ble_eq_true rfl)) (Nat.lt_of_le_of_lt (Nat.le_of_ble_eq_true rfl) (by decide : 1 < 2 ^ 31))) dc_Lw_count_8 (fun H locs hP hD hS => ?_)
  rw [show vp_updL (fun _ => 0) (0 : Int32).toNatClampNeg (0 : Int64) = (fun _ => 0) from uz_l _ _] at hP hD
  have hP : va_P (dC, dI) vwCl [(ho, .inl (ko, 1, .inr (.inl (fun _ => 0)))), (h0, .inr (0, [.ref q7, .int 0, .int 0, .ref q13, .ref q24, .ref q35, .ref q47, .ref q58, .ref q69, .ref q84, .ref q95, .int 0, .int 0])), (q13, .inr (7, [.ref u2, .ref u3, .ref u4, .ref u5, .ref u6, .int 0, .ref u8])), (u6, .inr (2, [.ref u7, .ref u22, .ref u23, .ref u24])), (u7, .inr (6, [.int 0, .ref u25, .ref u26, .ref u27, .int 0]))] H := hP
  have hD : va_D A [(ho, .inl (ko, 1, .inr (.inl (fun _ => 0)))), (h0, .inr (0, [.ref q7, .int 0, .int 0, .ref q13, .ref q24, .ref q35, .ref q47, .ref q58, .ref q69, .ref q84, .ref q95, .int 0, .int 0])), (q13, .inr (7, [.ref u2, .ref u3, .ref u4, .ref u5, .ref u6, .int 0, .ref u8])), (u6, .inr (2, [.ref u7, .ref u22, .ref u23, .ref u24])), (u7, .inr (6, [.int 0, .ref u25, .ref u26, .ref u27, .int 0]))] := hD
  refine lv_goto (tgt := 15) hx hb dc_Lw_count_9 (by decide) ?_
  refine lv_iconst (v := 0) hx hb dc_Lw_count_15 (by decide) ?_
  have hP9 := hP.sub (ws' := [(ho, .inl (ko, 1, .inr (.inl (fun _ => 0))))]) [0] rfl
  have hD9 := hD.sub (ws' := [(ho, .inl (ko, 1, .inr (.inl (fun _ => 0))))]) [0] (by decide) rfl
  have hK9 := hK.sub (tys' := [(ko, .long)]) [0] rfl
  refine W.widen (k := 0) (n := 0) (Nat.le_of_ble_eq_true rfl) (Nat.le_of_ble_eq_true rfl) ?_
  exact W.iret (v := 0) hx hb hr (fun t ht hW => ⟨⟨0, (), rfl, rfl, by rw [ht]; exact hP9, va_K.moved hW.alike hK9, hD9⟩, hS.F ht⟩) hS.2.2 dc_Lw_count_16

set_option maxHeartbeats 4000000 in
set_option maxRecDepth 100000 in
theorem c_Lw_count_3 (l : Launch) (dC : Nat → ClassId) (dI : Nat → Nat → Nat) (h0 : Nat) (q7 : Nat) (q13 : Nat) (q24 : Nat) (q35 : Nat) (q47 : Nat) (q58 : Nat) (q69 : Nat) (q84 : Nat) (q95 : Nat) (u2 : Nat) (u3 : Nat) (u4 : Nat) (u5 : Nat) (u6 : Nat) (u8 : Nat) (ho : Nat) (ko : ClassId) (sz : Nat) : Met l my_Lw_count (Cond.codeWith my_Lw_count cd_Lw_count 4 (some (.int)) [(0, 9, 12, 19)] :: tblG) ({ frames := 1, cells := 0, slots := 0, locals := 21 }) (va_Pc [.ref h0, .int 3, .ref ho] (fun U => U.heap.size = sz ∧ va_P (dC, dI) vwCl [(h0, .inr (0, [.ref q7, .int 0, .int 0, .ref q13, .ref q24, .ref q35, .ref q47, .ref q58, .ref q69, .ref q84, .ref q95, .int 0, .int 0])), (q13, .inr (7, [.ref u2, .ref u3, .ref u4, .ref u5, .ref u6, .int 0, .ref u8])), (ho, .inl (ko, 1, .inr (.inl (fun _ => 0))))] U.heap ∧ va_K (dC, dI) vwCl [(ko, .long)] U ∧ va_D (fun _ => True) [(h0, .inr (0, [.ref q7, .int 0, .int 0, .ref q13, .ref q24, .ref q35, .ref q47, .ref q58, .ref q69, .ref q84, .ref q95, .int 0, .int 0])), (q13, .inr (7, [.ref u2, .ref u3, .ref u4, .ref u5, .ref u6, .int 0, .ref u8])), (ho, .inl (ko, 1, .inr (.inl (fun _ => 0))))])) (va_Qi (fun (r : Int32) (_ : Unit) => r = 0) (fun (_ : Unit) (t : State) => va_P (dC, dI) vwCl [(ho, .inl (ko, 1, .inr (.inl (fun _ => 0))))] t.heap ∧ va_K (dC, dI) vwCl [(ko, .long)] t ∧ va_D (va_A [(h0, .inr (0, [.ref q7, .int 0, .int 0, .ref q13, .ref q24, .ref q35, .ref q47, .ref q58, .ref q69, .ref q84, .ref q95, .int 0, .int 0])), (q13, .inr (7, [.ref u2, .ref u3, .ref u4, .ref u5, .ref u6, .int 0, .ref u8])), (ho, .inl (ko, 1, .inr (.inl (fun _ => 0))))] sz) [(ho, .inl (ko, 1, .inr (.inl (fun _ => 0))))]) (va_A [(h0, .inr (0, [.ref q7, .int 0, .int 0, .ref q13, .ref q24, .ref q35, .ref q47, .ref q58, .ref q69, .ref q84, .ref q95, .int 0, .int 0])), (q13, .inr (7, [.ref u2, .ref u3, .ref u4, .ref u5, .ref u6, .int 0, .ref u8])), (ho, .inl (ko, 1, .inr (.inl (fun _ => 0))))] sz)) 0 0 (va_A [(h0, .inr (0, [.ref q7, .int 0, .int 0, .ref q13, .ref q24, .ref q35, .ref q47, .ref q58, .ref q69, .ref q84, .ref q95, .int 0, .int 0])), (q13, .inr (7, [.ref u2, .ref u3, .ref u4, .ref u5, .ref u6, .int 0, .ref u8])), (ho, .inl (ko, 1, .inr (.inl (fun _ => 0))))] sz) := by
  refine va_MetW (cc := cd_Lw_count) (maxL := 4) (ret := (some (.int))) (by decide) rfl ?_
  intro p e s m args below meth c s₁ B hml hv
  obtain ⟨rfl, hsz, hP, hK, hD0⟩ := hv
  have hx := B.exec
  have hb := B.bytes
  have hr := B.returns
  have hT : ∀ w ∈ tblG, w.before _ s = true := fun w h => atoms_spec (ws := (Cond.codeWith my_Lw_count cd_Lw_count 4 (some (.int)) [(0, 9, 12, 19)] :: tblG)) B.pre w (List.mem_cons_of_mem _ h)
  have hown : s.vm.findClass "StrataBaseLaw" = some m.cls := findClass_of_methodNamed B.named
  have hlocks := B.notSynchronized
  have hTab : c.exceptionTable.toList = [⟨0, 9, 12, 19⟩] := ex_table B (atoms_spec (ws := (Cond.codeWith my_Lw_count cd_Lw_count 4 (some (.int)) [(0, 9, 12, 19)] :: tblG)) B.pre _ List.mem_cons_self)
  subst hsz
  have hD := hD0.self (sz := s.heap.size)
  generalize hAe : va_A [(h0, .inr (0, [.ref q7, .int 0, .int 0, .ref q13, .ref q24, .ref q35, .ref q47, .ref q58, .ref q69, .ref q84, .ref q95, .int 0, .int 0])), (q13, .inr (7, [.ref u2, .ref u3, .ref u4, .ref u5, .ref u6, .int 0, .ref u8])), (ho, .inl (ko, 1, .inr (.inl (fun _ => 0))))] s.heap.size = A at hD ⊢
  have hA : ∀ q : Nat, s.heap.size ≤ q → A q := fun q h => by rw [← hAe]; exact Or.inr h
  have hS : va_S A s.heap s.heap [] := va_S.rf
  have hl := lv_entry ([.ref h0, .int 3, .ref ho]) (n := 4) (Nat.le_of_ble_eq_true rfl)
  rw [lg_entry_eq]
  generalize (lg_sl ([.ref h0, .int 3, .ref ho]) ++ List.replicate (4 - (lg_sl ([.ref h0, .int 3, .ref ho])).length) Slot.unset).toArray = ls at hl ⊢
  have hl : lv_has ls 4 [(0, .ref h0), (1, .int 3), (2, .ref ho)] := hl
  refine lv_aload_n hx hb dc_Lw_count_0 rfl (lv_at hl 2 rfl) ?_
  refine lv_iconst (v := 0) hx hb dc_Lw_count_1 (by decide) ?_
  refine lv_aload_n hx hb dc_Lw_count_2 rfl (lv_at hl 0 rfl) ?_
  refine lv_iload_n hx hb dc_Lw_count_3 rfl (lv_at hl 1 rfl) ?_
  have hPc := hP.sub (ws' := [(h0, .inr (0, [.ref q7, .int 0, .int 0, .ref q13, .ref q24, .ref q35, .ref q47, .ref q58, .ref q69, .ref q84, .ref q95, .int 0, .int 0])), (q13, .inr (7, [.ref u2, .ref u3, .ref u4, .ref u5, .ref u6, .int 0, .ref u8]))]) [0, 1] rfl
  have hDc := hD.sub (ws' := [(h0, .inr (0, [.ref q7, .int 0, .int 0, .ref q13, .ref q24, .ref q35, .ref q47, .ref q58, .ref q69, .ref q84, .ref q95, .int 0, .int 0])), (q13, .inr (7, [.ref u2, .ref u3, .ref u4, .ref u5, .ref u6, .int 0, .ref u8]))]) [0, 1] (by decide) rfl
  have hKc := hK.sub (tys' := []) [] rfl
  have hFc := va_free (wc := [(h0, .inr (0, [.ref q7, .int 0, .int 0, .ref q13, .ref q24, .ref q35, .ref q47, .ref q58, .ref q69, .ref q84, .ref q95, .int 0, .int 0])), (q13, .inr (7, [.ref u2, .ref u3, .ref u4, .ref u5, .ref u6, .int 0, .ref u8]))]) hD hS hA [0, 1] rfl
  refine va_calli (va_runV (As := [.int 3]) (rest := [.int 0, .ref ho]) ⟨hx, hb, hml, hown, hT⟩ (c_SB_count_3 l dC dI h0 q7 q13 q24 q35 q47 q58 q69 q84 q95 u2 u3 u4 u5 u6 u8 s.heap.size) (cwV 1 hT (gd_V wd_1354 wd_1355 wd_1356 wd_1 wd_1357) rfl rfl rfl (by decide +kernel) ⟨Nat.le_of_ble_eq_true rfl, Nat.le_of_ble_eq_true rfl⟩) ⟨fun a U g mk q => by obtain ⟨q0, q1, qP, qK, qD⟩ := q; exact ⟨q0, q1, qP, va_K.moved (u := U) (U := U.calling g mk a) (Vm.Alike.refl U.vm) qK, qD⟩, va_recv hK hP (q0 := 0) (ci := 0) rfl rfl, fun U hU hW => ⟨rfl, by rw [hU], by rw [hU]; exact hPc, va_K.moved hW.alike hKc, hDc.weaken (fun _ _ _ _ => trivial)⟩⟩ rfl rfl hl.1 rfl (lv_room (Nat.le_of_ble_eq_true rfl)) dc_Lw_count_4 ⟨(Nat.le_of_ble_eq_true rfl), (Nat.le_of_ble_eq_true rfl)⟩) hS (fun q _ h => hFc q h) hFc (fun r1 _ t H1 locs ht hvm hr9 hB hz1 hk1 hS => ?_)
  obtain ⟨hP1, hK1, hD1⟩ := hB
  rw [ht] at hP1
  have hK1 := va_K.moved hvm.symm hK1
  obtain ⟨hP, hD⟩ := va_join (wr := [(ho, .inl (ko, 1, .inr (.inl (fun _ => 0))))]) (w1 := [(h0, .inr (0, [.ref q7, .int 0, .int 0, .ref q13, .ref q24, .ref q35, .ref q47, .ref q58, .ref q69, .ref q84, .ref q95, .int 0, .int 0])), (q13, .inr (7, [.ref u2, .ref u3, .ref u4, .ref u5, .ref u6, .int 0, .ref u8]))]) hP hD [0, 1] [2] rfl rfl (by decide) (by decide) hk1 hFc hP1 hD1
  have hK := (hK.sub (tys' := [(ko, .long)]) [0] rfl).app hK1
  generalize H1 = H at hP hS ⊢
  have hP : va_P (dC, dI) vwCl [(ho, .inl (ko, 1, .inr (.inl (fun _ => 0)))), (h0, .inr (0, [.ref q7, .int 0, .int 0, .ref q13, .ref q24, .ref q35, .ref q47, .ref q58, .ref q69, .ref q84, .ref q95, .int 0, .int 0])), (q13, .inr (7, [.ref u2, .ref u3, .ref u4, .ref u5, .ref u6, .int 0, .ref u8]))] H := hP
  have hD : va_D A [(ho, .inl (ko, 1, .inr (.inl (fun _ => 0)))), (h0, .inr (0, [.ref q7, .int 0, .int 0, .ref q13, .ref q24, .ref q35, .ref q47, .ref q58, .ref q69, .ref q84, .ref q95, .int 0, .int 0])), (q13, .inr (7, [.ref u2, .ref u3, .ref u4, .ref u5, .ref u6, .int 0, .ref u8]))] := hD
  have hK : va_K (dC, dI) vwCl [(ko, .long)] s := hK
  have hr9 : r1 = 0 := hr9
  subst hr9
  refine lv_i2l (v := 0) hx hb dc_Lw_count_7 (by decide) ?_
  refine va_last hx hb hK hP hD hS 0 0 rfl rfl (show vp_in (0 : Int32) 1 from vp_in_nI (n := 0) (Nat.lt_of_lt_of_le (by decide : 0 < 1) (Nat.le_of_ble_eq_true rfl)) (Nat.lt_of_le_of_lt (Nat.le_of_ble_eq_true rfl) (by decide : 1 < 2 ^ 31))) dc_Lw_count_8 (fun H locs hP hD hS => ?_)
  rw [show vp_updL (fun _ => 0) (0 : Int32).toNatClampNeg (0 : Int64) = (fun _ => 0) from uz_l _ _] at hP hD
  have hP : va_P (dC, dI) vwCl [(ho, .inl (ko, 1, .inr (.inl (fun _ => 0)))), (h0, .inr (0, [.ref q7, .int 0, .int 0, .ref q13, .ref q24, .ref q35, .ref q47, .ref q58, .ref q69, .ref q84, .ref q95, .int 0, .int 0])), (q13, .inr (7, [.ref u2, .ref u3, .ref u4, .ref u5, .ref u6, .int 0, .ref u8]))] H := hP
  have hD : va_D A [(ho, .inl (ko, 1, .inr (.inl (fun _ => 0)))), (h0, .inr (0, [.ref q7, .int 0, .int 0, .ref q13, .ref q24, .ref q35, .ref q47, .ref q58, .ref q69, .ref q84, .ref q95, .int 0, .int 0])), (q13, .inr (7, [.ref u2, .ref u3, .ref u4, .ref u5, .ref u6, .int 0, .ref u8]))] := hD
  refine lv_goto (tgt := 15) hx hb dc_Lw_count_9 (by decide) ?_
  refine lv_iconst (v := 0) hx hb dc_Lw_count_15 (by decide) ?_
  have hP9 := hP.sub (ws' := [(ho, .inl (ko, 1, .inr (.inl (fun _ => 0))))]) [0] rfl
  have hD9 := hD.sub (ws' := [(ho, .inl (ko, 1, .inr (.inl (fun _ => 0))))]) [0] (by decide) rfl
  have hK9 := hK.sub (tys' := [(ko, .long)]) [0] rfl
  refine W.widen (k := 0) (n := 0) (Nat.le_of_ble_eq_true rfl) (Nat.le_of_ble_eq_true rfl) ?_
  exact W.iret (v := 0) hx hb hr (fun t ht hW => ⟨⟨0, (), rfl, rfl, by rw [ht]; exact hP9, va_K.moved hW.alike hK9, hD9⟩, hS.F ht⟩) hS.2.2 dc_Lw_count_16

set_option maxHeartbeats 4000000 in
set_option maxRecDepth 100000 in
theorem c_Lw_count_4 (l : Launch) (dC : Nat → ClassId) (dI : Nat → Nat → Nat) (h0 : Nat) (q7 : Nat) (q13 : Nat) (q24 : Nat) (q35 : Nat) (q47 : Nat) (q58 : Nat) (q69 : Nat) (q84 : Nat) (q95 : Nat) (ho : Nat) (ko : ClassId) (sz : Nat) : Met l my_Lw_count (Cond.codeWith my_Lw_count cd_Lw_count 4 (some (.int)) [(0, 9, 12, 19)] :: tblG) ({ frames := 1, cells := 0, slots := 0, locals := 21 }) (va_Pc [.ref h0, .int 4, .ref ho] (fun U => U.heap.size = sz ∧ va_P (dC, dI) vwCl [(h0, .inr (0, [.ref q7, .int 0, .int 0, .ref q13, .ref q24, .ref q35, .ref q47, .ref q58, .ref q69, .ref q84, .ref q95, .int 0, .int 0])), (ho, .inl (ko, 1, .inr (.inl (fun _ => 0))))] U.heap ∧ va_K (dC, dI) vwCl [(ko, .long)] U ∧ va_D (fun _ => True) [(h0, .inr (0, [.ref q7, .int 0, .int 0, .ref q13, .ref q24, .ref q35, .ref q47, .ref q58, .ref q69, .ref q84, .ref q95, .int 0, .int 0])), (ho, .inl (ko, 1, .inr (.inl (fun _ => 0))))])) (va_Qi (fun (r : Int32) (_ : Unit) => r = 0) (fun (_ : Unit) (t : State) => va_P (dC, dI) vwCl [(ho, .inl (ko, 1, .inr (.inl (vp_updL (fun _ => 0) (0 : Int32).toNatClampNeg ((-1) : Int64)))))] t.heap ∧ va_K (dC, dI) vwCl [(ko, .long)] t ∧ va_D (va_A [(h0, .inr (0, [.ref q7, .int 0, .int 0, .ref q13, .ref q24, .ref q35, .ref q47, .ref q58, .ref q69, .ref q84, .ref q95, .int 0, .int 0])), (ho, .inl (ko, 1, .inr (.inl (fun _ => 0))))] sz) [(ho, .inl (ko, 1, .inr (.inl (vp_updL (fun _ => 0) (0 : Int32).toNatClampNeg ((-1) : Int64)))))]) (va_A [(h0, .inr (0, [.ref q7, .int 0, .int 0, .ref q13, .ref q24, .ref q35, .ref q47, .ref q58, .ref q69, .ref q84, .ref q95, .int 0, .int 0])), (ho, .inl (ko, 1, .inr (.inl (fun _ => 0))))] sz)) 0 0 (va_A [(h0, .inr (0, [.ref q7, .int 0, .int 0, .ref q13, .ref q24, .ref q35, .ref q47, .ref q58, .ref q69, .ref q84, .ref q95, .int 0, .int 0])), (ho, .inl (ko, 1, .inr (.inl (fun _ => 0))))] sz) := by
  refine va_MetW (cc := cd_Lw_count) (maxL := 4) (ret := (some (.int))) (by decide) rfl ?_
  intro p e s m args below meth c s₁ B hml hv
  obtain ⟨rfl, hsz, hP, hK, hD0⟩ := hv
  have hx := B.exec
  have hb := B.bytes
  have hr := B.returns
  have hT : ∀ w ∈ tblG, w.before _ s = true := fun w h => atoms_spec (ws := (Cond.codeWith my_Lw_count cd_Lw_count 4 (some (.int)) [(0, 9, 12, 19)] :: tblG)) B.pre w (List.mem_cons_of_mem _ h)
  have hown : s.vm.findClass "StrataBaseLaw" = some m.cls := findClass_of_methodNamed B.named
  have hlocks := B.notSynchronized
  have hTab : c.exceptionTable.toList = [⟨0, 9, 12, 19⟩] := ex_table B (atoms_spec (ws := (Cond.codeWith my_Lw_count cd_Lw_count 4 (some (.int)) [(0, 9, 12, 19)] :: tblG)) B.pre _ List.mem_cons_self)
  subst hsz
  have hD := hD0.self (sz := s.heap.size)
  generalize hAe : va_A [(h0, .inr (0, [.ref q7, .int 0, .int 0, .ref q13, .ref q24, .ref q35, .ref q47, .ref q58, .ref q69, .ref q84, .ref q95, .int 0, .int 0])), (ho, .inl (ko, 1, .inr (.inl (fun _ => 0))))] s.heap.size = A at hD ⊢
  have hA : ∀ q : Nat, s.heap.size ≤ q → A q := fun q h => by rw [← hAe]; exact Or.inr h
  have hS : va_S A s.heap s.heap [] := va_S.rf
  have hl := lv_entry ([.ref h0, .int 4, .ref ho]) (n := 4) (Nat.le_of_ble_eq_true rfl)
  rw [lg_entry_eq]
  generalize (lg_sl ([.ref h0, .int 4, .ref ho]) ++ List.replicate (4 - (lg_sl ([.ref h0, .int 4, .ref ho])).length) Slot.unset).toArray = ls at hl ⊢
  have hl : lv_has ls 4 [(0, .ref h0), (1, .int 4), (2, .ref ho)] := hl
  refine lv_aload_n hx hb dc_Lw_count_0 rfl (lv_at hl 2 rfl) ?_
  refine lv_iconst (v := 0) hx hb dc_Lw_count_1 (by decide) ?_
  refine lv_aload_n hx hb dc_Lw_count_2 rfl (lv_at hl 0 rfl) ?_
  refine lv_iload_n hx hb dc_Lw_count_3 rfl (lv_at hl 1 rfl) ?_
  have hPc := hP.sub (ws' := [(h0, .inr (0, [.ref q7, .int 0, .int 0, .ref q13, .ref q24, .ref q35, .ref q47, .ref q58, .ref q69, .ref q84, .ref q95, .int 0, .int 0]))]) [0] rfl
  have hDc := hD.sub (ws' := [(h0, .inr (0, [.ref q7, .int 0, .int 0, .ref q13, .ref q24, .ref q35, .ref q47, .ref q58, .ref q69, .ref q84, .ref q95, .int 0, .int 0]))]) [0] (by decide) rfl
  have hKc := hK.sub (tys' := []) [] rfl
  have hFc := va_free (wc := [(h0, .inr (0, [.ref q7, .int 0, .int 0, .ref q13, .ref q24, .ref q35, .ref q47, .ref q58, .ref q69, .ref q84, .ref q95, .int 0, .int 0]))]) hD hS hA [0] rfl
  refine va_calli (va_runV (As := [.int 4]) (rest := [.int 0, .ref ho]) ⟨hx, hb, hml, hown, hT⟩ (c_SB_count_4 l dC dI h0 q7 q13 q24 q35 q47 q58 q69 q84 q95 s.heap.size) (cwV 1 hT (gd_V wd_1354 wd_1355 wd_1356 wd_1 wd_1357) rfl rfl rfl (by decide +kernel) ⟨Nat.le_of_ble_eq_true rfl, Nat.le_of_ble_eq_true rfl⟩) ⟨fun a U g mk q => by obtain ⟨q0, q1, qP, qK, qD⟩ := q; exact ⟨q0, q1, qP, va_K.moved (u := U) (U := U.calling g mk a) (Vm.Alike.refl U.vm) qK, qD⟩, va_recv hK hP (q0 := 0) (ci := 0) rfl rfl, fun U hU hW => ⟨rfl, by rw [hU], by rw [hU]; exact hPc, va_K.moved hW.alike hKc, hDc.weaken (fun _ _ _ _ => trivial)⟩⟩ rfl rfl hl.1 rfl (lv_room (Nat.le_of_ble_eq_true rfl)) dc_Lw_count_4 ⟨(Nat.le_of_ble_eq_true rfl), (Nat.le_of_ble_eq_true rfl)⟩) hS (fun q _ h => hFc q h) hFc (fun r1 _ t H1 locs ht hvm hr9 hB hz1 hk1 hS => ?_)
  obtain ⟨hP1, hK1, hD1⟩ := hB
  rw [ht] at hP1
  have hK1 := va_K.moved hvm.symm hK1
  obtain ⟨hP, hD⟩ := va_join (wr := [(ho, .inl (ko, 1, .inr (.inl (fun _ => 0))))]) (w1 := [(h0, .inr (0, [.ref q7, .int 0, .int 0, .ref q13, .ref q24, .ref q35, .ref q47, .ref q58, .ref q69, .ref q84, .ref q95, .int 0, .int 0]))]) hP hD [0] [1] rfl rfl (by decide) (by decide) hk1 hFc hP1 hD1
  have hK := (hK.sub (tys' := [(ko, .long)]) [0] rfl).app hK1
  generalize H1 = H at hP hS ⊢
  have hP : va_P (dC, dI) vwCl [(ho, .inl (ko, 1, .inr (.inl (fun _ => 0)))), (h0, .inr (0, [.ref q7, .int 0, .int 0, .ref q13, .ref q24, .ref q35, .ref q47, .ref q58, .ref q69, .ref q84, .ref q95, .int 0, .int 0]))] H := hP
  have hD : va_D A [(ho, .inl (ko, 1, .inr (.inl (fun _ => 0)))), (h0, .inr (0, [.ref q7, .int 0, .int 0, .ref q13, .ref q24, .ref q35, .ref q47, .ref q58, .ref q69, .ref q84, .ref q95, .int 0, .int 0]))] := hD
  have hK : va_K (dC, dI) vwCl [(ko, .long)] s := hK
  have hr9 : r1 = (-1) := hr9
  subst hr9
  refine lv_i2l (v := (-1)) hx hb dc_Lw_count_7 (by decide) ?_
  refine va_last hx hb hK hP hD hS 0 0 rfl rfl (show vp_in (0 : Int32) 1 from vp_in_nI (n := 0) (Nat.lt_of_lt_of_le (by decide : 0 < 1) (Nat.le_of_ble_eq_true rfl)) (Nat.lt_of_le_of_lt (Nat.le_of_ble_eq_true rfl) (by decide : 1 < 2 ^ 31))) dc_Lw_count_8 (fun H locs hP hD hS => ?_)
  have hP : va_P (dC, dI) vwCl [(ho, .inl (ko, 1, .inr (.inl (vp_updL (fun _ => 0) (0 : Int32).toNatClampNeg ((-1) : Int64))))), (h0, .inr (0, [.ref q7, .int 0, .int 0, .ref q13, .ref q24, .ref q35, .ref q47, .ref q58, .ref q69, .ref q84, .ref q95, .int 0, .int 0]))] H := hP
  have hD : va_D A [(ho, .inl (ko, 1, .inr (.inl (vp_updL (fun _ => 0) (0 : Int32).toNatClampNeg ((-1) : Int64))))), (h0, .inr (0, [.ref q7, .int 0, .int 0, .ref q13, .ref q24, .ref q35, .ref q47, .ref q58, .ref q69, .ref q84, .ref q95, .int 0, .int 0]))] := hD
  refine lv_goto (tgt := 15) hx hb dc_Lw_count_9 (by decide) ?_
  refine lv_iconst (v := 0) hx hb dc_Lw_count_15 (by decide) ?_
  have hP9 := hP.sub (ws' := [(ho, .inl (ko, 1, .inr (.inl (vp_updL (fun _ => 0) (0 : Int32).toNatClampNeg ((-1) : Int64)))))]) [0] rfl
  have hD9 := hD.sub (ws' := [(ho, .inl (ko, 1, .inr (.inl (vp_updL (fun _ => 0) (0 : Int32).toNatClampNeg ((-1) : Int64)))))]) [0] (by decide) rfl
  have hK9 := hK.sub (tys' := [(ko, .long)]) [0] rfl
  refine W.widen (k := 0) (n := 0) (Nat.le_of_ble_eq_true rfl) (Nat.le_of_ble_eq_true rfl) ?_
  exact W.iret (v := 0) hx hb hr (fun t ht hW => ⟨⟨0, (), rfl, rfl, by rw [ht]; exact hP9, va_K.moved hW.alike hK9, hD9⟩, hS.F ht⟩) hS.2.2 dc_Lw_count_16

set_option maxHeartbeats 4000000 in
set_option maxRecDepth 100000 in
theorem c_Lw_count_5 (l : Launch) (dC : Nat → ClassId) (dI : Nat → Nat → Nat) (h0 : Nat) (q7 : Nat) (q13 : Nat) (q24 : Nat) (q35 : Nat) (q47 : Nat) (q58 : Nat) (q69 : Nat) (q84 : Nat) (q95 : Nat) (u110 : Nat) (u111 : Nat) (u112 : Nat) (ho : Nat) (ko : ClassId) (sz : Nat) : Met l my_Lw_count (Cond.codeWith my_Lw_count cd_Lw_count 4 (some (.int)) [(0, 9, 12, 19)] :: tblG) ({ frames := 1, cells := 0, slots := 0, locals := 21 }) (va_Pc [.ref h0, .int 5, .ref ho] (fun U => U.heap.size = sz ∧ va_P (dC, dI) vwCl [(h0, .inr (0, [.ref q7, .int 0, .int 0, .ref q13, .ref q24, .ref q35, .ref q47, .ref q58, .ref q69, .ref q84, .ref q95, .int 0, .int 0])), (q84, .inr (9, [.int 0, .int 0, .int 0, .ref u110, .ref u111, .ref u112])), (ho, .inl (ko, 1, .inr (.inl (fun _ => 0))))] U.heap ∧ va_K (dC, dI) vwCl [(ko, .long)] U ∧ va_D (fun _ => True) [(h0, .inr (0, [.ref q7, .int 0, .int 0, .ref q13, .ref q24, .ref q35, .ref q47, .ref q58, .ref q69, .ref q84, .ref q95, .int 0, .int 0])), (q84, .inr (9, [.int 0, .int 0, .int 0, .ref u110, .ref u111, .ref u112])), (ho, .inl (ko, 1, .inr (.inl (fun _ => 0))))])) (va_Qi (fun (r : Int32) (_ : Unit) => r = 0) (fun (_ : Unit) (t : State) => va_P (dC, dI) vwCl [(ho, .inl (ko, 1, .inr (.inl (fun _ => 0))))] t.heap ∧ va_K (dC, dI) vwCl [(ko, .long)] t ∧ va_D (va_A [(h0, .inr (0, [.ref q7, .int 0, .int 0, .ref q13, .ref q24, .ref q35, .ref q47, .ref q58, .ref q69, .ref q84, .ref q95, .int 0, .int 0])), (q84, .inr (9, [.int 0, .int 0, .int 0, .ref u110, .ref u111, .ref u112])), (ho, .inl (ko, 1, .inr (.inl (fun _ => 0))))] sz) [(ho, .inl (ko, 1, .inr (.inl (fun _ => 0))))]) (va_A [(h0, .inr (0, [.ref q7, .int 0, .int 0, .ref q13, .ref q24, .ref q35, .ref q47, .ref q58, .ref q69, .ref q84, .ref q95, .int 0, .int 0])), (q84, .inr (9, [.int 0, .int 0, .int 0, .ref u110, .ref u111, .ref u112])), (ho, .inl (ko, 1, .inr (.inl (fun _ => 0))))] sz)) 0 0 (va_A [(h0, .inr (0, [.ref q7, .int 0, .int 0, .ref q13, .ref q24, .ref q35, .ref q47, .ref q58, .ref q69, .ref q84, .ref q95, .int 0, .int 0])), (q84, .inr (9, [.int 0, .int 0, .int 0, .ref u110, .ref u111, .ref u112])), (ho, .inl (ko, 1, .inr (.inl (fun _ => 0))))] sz) := by
  refine va_MetW (cc := cd_Lw_count) (maxL := 4) (ret := (some (.int))) (by decide) rfl ?_
  intro p e s m args below meth c s₁ B hml hv
  obtain ⟨rfl, hsz, hP, hK, hD0⟩ := hv
  have hx := B.exec
  have hb := B.bytes
  have hr := B.returns
  have hT : ∀ w ∈ tblG, w.before _ s = true := fun w h => atoms_spec (ws := (Cond.codeWith my_Lw_count cd_Lw_count 4 (some (.int)) [(0, 9, 12, 19)] :: tblG)) B.pre w (List.mem_cons_of_mem _ h)
  have hown : s.vm.findClass "StrataBaseLaw" = some m.cls := findClass_of_methodNamed B.named
  have hlocks := B.notSynchronized
  have hTab : c.exceptionTable.toList = [⟨0, 9, 12, 19⟩] := ex_table B (atoms_spec (ws := (Cond.codeWith my_Lw_count cd_Lw_count 4 (some (.int)) [(0, 9, 12, 19)] :: tblG)) B.pre _ List.mem_cons_self)
  subst hsz
  have hD := hD0.self (sz := s.heap.size)
  generalize hAe : va_A [(h0, .inr (0, [.ref q7, .int 0, .int 0, .ref q13, .ref q24, .ref q35, .ref q47, .ref q58, .ref q69, .ref q84, .ref q95, .int 0, .int 0])), (q84, .inr (9, [.int 0, .int 0, .int 0, .ref u110, .ref u111, .ref u112])), (ho, .inl (ko, 1, .inr (.inl (fun _ => 0))))] s.heap.size = A at hD ⊢
  have hA : ∀ q : Nat, s.heap.size ≤ q → A q := fun q h => by rw [← hAe]; exact Or.inr h
  have hS : va_S A s.heap s.heap [] := va_S.rf
  have hl := lv_entry ([.ref h0, .int 5, .ref ho]) (n := 4) (Nat.le_of_ble_eq_true rfl)
  rw [lg_entry_eq]
  generalize (lg_sl ([.ref h0, .int 5, .ref ho]) ++ List.replicate (4 - (lg_sl ([.ref h0, .int 5, .ref ho])).length) Slot.unset).toArray = ls at hl ⊢
  have hl : lv_has ls 4 [(0, .ref h0), (1, .int 5), (2, .ref ho)] := hl
  refine lv_aload_n hx hb dc_Lw_count_0 rfl (lv_at hl 2 rfl) ?_
  refine lv_iconst (v := 0) hx hb dc_Lw_count_1 (by decide) ?_
  refine lv_aload_n hx hb dc_Lw_count_2 rfl (lv_at hl 0 rfl) ?_
  refine lv_iload_n hx hb dc_Lw_count_3 rfl (lv_at hl 1 rfl) ?_
  have hPc := hP.sub (ws' := [(h0, .inr (0, [.ref q7, .int 0, .int 0, .ref q13, .ref q24, .ref q35, .ref q47, .ref q58, .ref q69, .ref q84, .ref q95, .int 0, .int 0])), (q84, .inr (9, [.int 0, .int 0, .int 0, .ref u110, .ref u111, .ref u112]))]) [0, 1] rfl
  have hDc := hD.sub (ws' := [(h0, .inr (0, [.ref q7, .int 0, .int 0, .ref q13, .ref q24, .ref q35, .ref q47, .ref q58, .ref q69, .ref q84, .ref q95, .int 0, .int 0])), (q84, .inr (9, [.int 0, .int 0, .int 0, .ref u110, .ref u111, .ref u112]))]) [0, 1] (by decide) rfl
  have hKc := hK.sub (tys' := []) [] rfl
  have hFc := va_free (wc := [(h0, .inr (0, [.ref q7, .int 0, .int 0, .ref q13, .ref q24, .ref q35, .ref q47, .ref q58, .ref q69, .ref q84, .ref q95, .int 0, .int 0])), (q84, .inr (9, [.int 0, .int 0, .int 0, .ref u110, .ref u111, .ref u112]))]) hD hS hA [0, 1] rfl
  refine va_calli (va_runV (As := [.int 5]) (rest := [.int 0, .ref ho]) ⟨hx, hb, hml, hown, hT⟩ (c_SB_count_5 l dC dI h0 q7 q13 q24 q35 q47 q58 q69 q84 q95 u110 u111 u112 s.heap.size) (cwV 1 hT (gd_V wd_1354 wd_1355 wd_1356 wd_1 wd_1357) rfl rfl rfl (by decide +kernel) ⟨Nat.le_of_ble_eq_true rfl, Nat.le_of_ble_eq_true rfl⟩) ⟨fun a U g mk q => by obtain ⟨q0, q1, qP, qK, qD⟩ := q; exact ⟨q0, q1, qP, va_K.moved (u := U) (U := U.calling g mk a) (Vm.Alike.refl U.vm) qK, qD⟩, va_recv hK hP (q0 := 0) (ci := 0) rfl rfl, fun U hU hW => ⟨rfl, by rw [hU], by rw [hU]; exact hPc, va_K.moved hW.alike hKc, hDc.weaken (fun _ _ _ _ => trivial)⟩⟩ rfl rfl hl.1 rfl (lv_room (Nat.le_of_ble_eq_true rfl)) dc_Lw_count_4 ⟨(Nat.le_of_ble_eq_true rfl), (Nat.le_of_ble_eq_true rfl)⟩) hS (fun q _ h => hFc q h) hFc (fun r1 _ t H1 locs ht hvm hr9 hB hz1 hk1 hS => ?_)
  obtain ⟨hP1, hK1, hD1⟩ := hB
  rw [ht] at hP1
  have hK1 := va_K.moved hvm.symm hK1
  obtain ⟨hP, hD⟩ := va_join (wr := [(ho, .inl (ko, 1, .inr (.inl (fun _ => 0))))]) (w1 := [(h0, .inr (0, [.ref q7, .int 0, .int 0, .ref q13, .ref q24, .ref q35, .ref q47, .ref q58, .ref q69, .ref q84, .ref q95, .int 0, .int 0])), (q84, .inr (9, [.int 0, .int 0, .int 0, .ref u110, .ref u111, .ref u112]))]) hP hD [0, 1] [2] rfl rfl (by decide) (by decide) hk1 hFc hP1 hD1
  have hK := (hK.sub (tys' := [(ko, .long)]) [0] rfl).app hK1
  generalize H1 = H at hP hS ⊢
  have hP : va_P (dC, dI) vwCl [(ho, .inl (ko, 1, .inr (.inl (fun _ => 0)))), (h0, .inr (0, [.ref q7, .int 0, .int 0, .ref q13, .ref q24, .ref q35, .ref q47, .ref q58, .ref q69, .ref q84, .ref q95, .int 0, .int 0])), (q84, .inr (9, [.int 0, .int 0, .int 0, .ref u110, .ref u111, .ref u112]))] H := hP
  have hD : va_D A [(ho, .inl (ko, 1, .inr (.inl (fun _ => 0)))), (h0, .inr (0, [.ref q7, .int 0, .int 0, .ref q13, .ref q24, .ref q35, .ref q47, .ref q58, .ref q69, .ref q84, .ref q95, .int 0, .int 0])), (q84, .inr (9, [.int 0, .int 0, .int 0, .ref u110, .ref u111, .ref u112]))] := hD
  have hK : va_K (dC, dI) vwCl [(ko, .long)] s := hK
  have hr9 : r1 = 0 := hr9
  subst hr9
  refine lv_i2l (v := 0) hx hb dc_Lw_count_7 (by decide) ?_
  refine va_last hx hb hK hP hD hS 0 0 rfl rfl (show vp_in (0 : Int32) 1 from vp_in_nI (n := 0) (Nat.lt_of_lt_of_le (by decide : 0 < 1) (Nat.le_of_ble_eq_true rfl)) (Nat.lt_of_le_of_lt (Nat.le_of_ble_eq_true rfl) (by decide : 1 < 2 ^ 31))) dc_Lw_count_8 (fun H locs hP hD hS => ?_)
  rw [show vp_updL (fun _ => 0) (0 : Int32).toNatClampNeg (0 : Int64) = (fun _ => 0) from uz_l _ _] at hP hD
  have hP : va_P (dC, dI) vwCl [(ho, .inl (ko, 1, .inr (.inl (fun _ => 0)))), (h0, .inr (0, [.ref q7, .int 0, .int 0, .ref q13, .ref q24, .ref q35, .ref q47, .ref q58, .ref q69, .ref q84, .ref q95, .int 0, .int 0])), (q84, .inr (9, [.int 0, .int 0, .int 0, .ref u110, .ref u111, .ref u112]))] H := hP
  have hD : va_D A [(ho, .inl (ko, 1, .inr (.inl (fun _ => 0)))), (h0, .inr (0, [.ref q7, .int 0, .int 0, .ref q13, .ref q24, .ref q35, .ref q47, .ref q58, .ref q69, .ref q84, .ref q95, .int 0, .int 0])), (q84, .inr (9, [.int 0, .int 0, .int 0, .ref u110, .ref u111, .ref u112]))] := hD
  refine lv_goto (tgt := 15) hx hb dc_Lw_count_9 (by decide) ?_
  refine lv_iconst (v := 0) hx hb dc_Lw_count_15 (by decide) ?_
  have hP9 := hP.sub (ws' := [(ho, .inl (ko, 1, .inr (.inl (fun _ => 0))))]) [0] rfl
  have hD9 := hD.sub (ws' := [(ho, .inl (ko, 1, .inr (.inl (fun _ => 0))))]) [0] (by decide) rfl
  have hK9 := hK.sub (tys' := [(ko, .long)]) [0] rfl
  refine W.widen (k := 0) (n := 0) (Nat.le_of_ble_eq_true rfl) (Nat.le_of_ble_eq_true rfl) ?_
  exact W.iret (v := 0) hx hb hr (fun t ht hW => ⟨⟨0, (), rfl, rfl, by rw [ht]; exact hP9, va_K.moved hW.alike hK9, hD9⟩, hS.F ht⟩) hS.2.2 dc_Lw_count_16

set_option maxHeartbeats 4000000 in
set_option maxRecDepth 100000 in
theorem c_Lw_count_6 (l : Launch) (dC : Nat → ClassId) (dI : Nat → Nat → Nat) (h0 : Nat) (q7 : Nat) (q13 : Nat) (q24 : Nat) (q35 : Nat) (q47 : Nat) (q58 : Nat) (q69 : Nat) (q84 : Nat) (q95 : Nat) (ho : Nat) (ko : ClassId) (sz : Nat) : Met l my_Lw_count (Cond.codeWith my_Lw_count cd_Lw_count 4 (some (.int)) [(0, 9, 12, 19)] :: tblG) ({ frames := 1, cells := 0, slots := 0, locals := 21 }) (va_Pc [.ref h0, .int 6, .ref ho] (fun U => U.heap.size = sz ∧ va_P (dC, dI) vwCl [(h0, .inr (0, [.ref q7, .int 0, .int 0, .ref q13, .ref q24, .ref q35, .ref q47, .ref q58, .ref q69, .ref q84, .ref q95, .int 0, .int 0])), (ho, .inl (ko, 1, .inr (.inl (fun _ => 0))))] U.heap ∧ va_K (dC, dI) vwCl [(ko, .long)] U ∧ va_D (fun _ => True) [(h0, .inr (0, [.ref q7, .int 0, .int 0, .ref q13, .ref q24, .ref q35, .ref q47, .ref q58, .ref q69, .ref q84, .ref q95, .int 0, .int 0])), (ho, .inl (ko, 1, .inr (.inl (fun _ => 0))))])) (va_Qi (fun (r : Int32) (_ : Unit) => r = 0) (fun (_ : Unit) (t : State) => va_P (dC, dI) vwCl [(ho, .inl (ko, 1, .inr (.inl (vp_updL (fun _ => 0) (0 : Int32).toNatClampNeg ((-1) : Int64)))))] t.heap ∧ va_K (dC, dI) vwCl [(ko, .long)] t ∧ va_D (va_A [(h0, .inr (0, [.ref q7, .int 0, .int 0, .ref q13, .ref q24, .ref q35, .ref q47, .ref q58, .ref q69, .ref q84, .ref q95, .int 0, .int 0])), (ho, .inl (ko, 1, .inr (.inl (fun _ => 0))))] sz) [(ho, .inl (ko, 1, .inr (.inl (vp_updL (fun _ => 0) (0 : Int32).toNatClampNeg ((-1) : Int64)))))]) (va_A [(h0, .inr (0, [.ref q7, .int 0, .int 0, .ref q13, .ref q24, .ref q35, .ref q47, .ref q58, .ref q69, .ref q84, .ref q95, .int 0, .int 0])), (ho, .inl (ko, 1, .inr (.inl (fun _ => 0))))] sz)) 0 0 (va_A [(h0, .inr (0, [.ref q7, .int 0, .int 0, .ref q13, .ref q24, .ref q35, .ref q47, .ref q58, .ref q69, .ref q84, .ref q95, .int 0, .int 0])), (ho, .inl (ko, 1, .inr (.inl (fun _ => 0))))] sz) := by
  refine va_MetW (cc := cd_Lw_count) (maxL := 4) (ret := (some (.int))) (by decide) rfl ?_
  intro p e s m args below meth c s₁ B hml hv
  obtain ⟨rfl, hsz, hP, hK, hD0⟩ := hv
  have hx := B.exec
  have hb := B.bytes
  have hr := B.returns
  have hT : ∀ w ∈ tblG, w.before _ s = true := fun w h => atoms_spec (ws := (Cond.codeWith my_Lw_count cd_Lw_count 4 (some (.int)) [(0, 9, 12, 19)] :: tblG)) B.pre w (List.mem_cons_of_mem _ h)
  have hown : s.vm.findClass "StrataBaseLaw" = some m.cls := findClass_of_methodNamed B.named
  have hlocks := B.notSynchronized
  have hTab : c.exceptionTable.toList = [⟨0, 9, 12, 19⟩] := ex_table B (atoms_spec (ws := (Cond.codeWith my_Lw_count cd_Lw_count 4 (some (.int)) [(0, 9, 12, 19)] :: tblG)) B.pre _ List.mem_cons_self)
  subst hsz
  have hD := hD0.self (sz := s.heap.size)
  generalize hAe : va_A [(h0, .inr (0, [.ref q7, .int 0, .int 0, .ref q13, .ref q24, .ref q35, .ref q47, .ref q58, .ref q69, .ref q84, .ref q95, .int 0, .int 0])), (ho, .inl (ko, 1, .inr (.inl (fun _ => 0))))] s.heap.size = A at hD ⊢
  have hA : ∀ q : Nat, s.heap.size ≤ q → A q := fun q h => by rw [← hAe]; exact Or.inr h
  have hS : va_S A s.heap s.heap [] := va_S.rf
  have hl := lv_entry ([.ref h0, .int 6, .ref ho]) (n := 4) (Nat.le_of_ble_eq_true rfl)
  rw [lg_entry_eq]
  generalize (lg_sl ([.ref h0, .int 6, .ref ho]) ++ List.replicate (4 - (lg_sl ([.ref h0, .int 6, .ref ho])).length) Slot.unset).toArray = ls at hl ⊢
  have hl : lv_has ls 4 [(0, .ref h0), (1, .int 6), (2, .ref ho)] := hl
  refine lv_aload_n hx hb dc_Lw_count_0 rfl (lv_at hl 2 rfl) ?_
  refine lv_iconst (v := 0) hx hb dc_Lw_count_1 (by decide) ?_
  refine lv_aload_n hx hb dc_Lw_count_2 rfl (lv_at hl 0 rfl) ?_
  refine lv_iload_n hx hb dc_Lw_count_3 rfl (lv_at hl 1 rfl) ?_
  have hPc := hP.sub (ws' := [(h0, .inr (0, [.ref q7, .int 0, .int 0, .ref q13, .ref q24, .ref q35, .ref q47, .ref q58, .ref q69, .ref q84, .ref q95, .int 0, .int 0]))]) [0] rfl
  have hDc := hD.sub (ws' := [(h0, .inr (0, [.ref q7, .int 0, .int 0, .ref q13, .ref q24, .ref q35, .ref q47, .ref q58, .ref q69, .ref q84, .ref q95, .int 0, .int 0]))]) [0] (by decide) rfl
  have hKc := hK.sub (tys' := []) [] rfl
  have hFc := va_free (wc := [(h0, .inr (0, [.ref q7, .int 0, .int 0, .ref q13, .ref q24, .ref q35, .ref q47, .ref q58, .ref q69, .ref q84, .ref q95, .int 0, .int 0]))]) hD hS hA [0] rfl
  refine va_calli (va_runV (As := [.int 6]) (rest := [.int 0, .ref ho]) ⟨hx, hb, hml, hown, hT⟩ (c_SB_count_6 l dC dI h0 q7 q13 q24 q35 q47 q58 q69 q84 q95 s.heap.size) (cwV 1 hT (gd_V wd_1354 wd_1355 wd_1356 wd_1 wd_1357) rfl rfl rfl (by decide +kernel) ⟨Nat.le_of_ble_eq_true rfl, Nat.le_of_ble_eq_true rfl⟩) ⟨fun a U g mk q => by obtain ⟨q0, q1, qP, qK, qD⟩ := q; exact ⟨q0, q1, qP, va_K.moved (u := U) (U := U.calling g mk a) (Vm.Alike.refl U.vm) qK, qD⟩, va_recv hK hP (q0 := 0) (ci := 0) rfl rfl, fun U hU hW => ⟨rfl, by rw [hU], by rw [hU]; exact hPc, va_K.moved hW.alike hKc, hDc.weaken (fun _ _ _ _ => trivial)⟩⟩ rfl rfl hl.1 rfl (lv_room (Nat.le_of_ble_eq_true rfl)) dc_Lw_count_4 ⟨(Nat.le_of_ble_eq_true rfl), (Nat.le_of_ble_eq_true rfl)⟩) hS (fun q _ h => hFc q h) hFc (fun r1 _ t H1 locs ht hvm hr9 hB hz1 hk1 hS => ?_)
  obtain ⟨hP1, hK1, hD1⟩ := hB
  rw [ht] at hP1
  have hK1 := va_K.moved hvm.symm hK1
  obtain ⟨hP, hD⟩ := va_join (wr := [(ho, .inl (ko, 1, .inr (.inl (fun _ => 0))))]) (w1 := [(h0, .inr (0, [.ref q7, .int 0, .int 0, .ref q13, .ref q24, .ref q35, .ref q47, .ref q58, .ref q69, .ref q84, .ref q95, .int 0, .int 0]))]) hP hD [0] [1] rfl rfl (by decide) (by decide) hk1 hFc hP1 hD1
  have hK := (hK.sub (tys' := [(ko, .long)]) [0] rfl).app hK1
  generalize H1 = H at hP hS ⊢
  have hP : va_P (dC, dI) vwCl [(ho, .inl (ko, 1, .inr (.inl (fun _ => 0)))), (h0, .inr (0, [.ref q7, .int 0, .int 0, .ref q13, .ref q24, .ref q35, .ref q47, .ref q58, .ref q69, .ref q84, .ref q95, .int 0, .int 0]))] H := hP
  have hD : va_D A [(ho, .inl (ko, 1, .inr (.inl (fun _ => 0)))), (h0, .inr (0, [.ref q7, .int 0, .int 0, .ref q13, .ref q24, .ref q35, .ref q47, .ref q58, .ref q69, .ref q84, .ref q95, .int 0, .int 0]))] := hD
  have hK : va_K (dC, dI) vwCl [(ko, .long)] s := hK
  have hr9 : r1 = (-1) := hr9
  subst hr9
  refine lv_i2l (v := (-1)) hx hb dc_Lw_count_7 (by decide) ?_
  refine va_last hx hb hK hP hD hS 0 0 rfl rfl (show vp_in (0 : Int32) 1 from vp_in_nI (n := 0) (Nat.lt_of_lt_of_le (by decide : 0 < 1) (Nat.le_of_ble_eq_true rfl)) (Nat.lt_of_le_of_lt (Nat.le_of_ble_eq_true rfl) (by decide : 1 < 2 ^ 31))) dc_Lw_count_8 (fun H locs hP hD hS => ?_)
  have hP : va_P (dC, dI) vwCl [(ho, .inl (ko, 1, .inr (.inl (vp_updL (fun _ => 0) (0 : Int32).toNatClampNeg ((-1) : Int64))))), (h0, .inr (0, [.ref q7, .int 0, .int 0, .ref q13, .ref q24, .ref q35, .ref q47, .ref q58, .ref q69, .ref q84, .ref q95, .int 0, .int 0]))] H := hP
  have hD : va_D A [(ho, .inl (ko, 1, .inr (.inl (vp_updL (fun _ => 0) (0 : Int32).toNatClampNeg ((-1) : Int64))))), (h0, .inr (0, [.ref q7, .int 0, .int 0, .ref q13, .ref q24, .ref q35, .ref q47, .ref q58, .ref q69, .ref q84, .ref q95, .int 0, .int 0]))] := hD
  refine lv_goto (tgt := 15) hx hb dc_Lw_count_9 (by decide) ?_
  refine lv_iconst (v := 0) hx hb dc_Lw_count_15 (by decide) ?_
  have hP9 := hP.sub (ws' := [(ho, .inl (ko, 1, .inr (.inl (vp_updL (fun _ => 0) (0 : Int32).toNatClampNeg ((-1) : Int64)))))]) [0] rfl
  have hD9 := hD.sub (ws' := [(ho, .inl (ko, 1, .inr (.inl (vp_updL (fun _ => 0) (0 : Int32).toNatClampNeg ((-1) : Int64)))))]) [0] (by decide) rfl
  have hK9 := hK.sub (tys' := [(ko, .long)]) [0] rfl
  refine W.widen (k := 0) (n := 0) (Nat.le_of_ble_eq_true rfl) (Nat.le_of_ble_eq_true rfl) ?_
  exact W.iret (v := 0) hx hb hr (fun t ht hW => ⟨⟨0, (), rfl, rfl, by rw [ht]; exact hP9, va_K.moved hW.alike hK9, hD9⟩, hS.F ht⟩) hS.2.2 dc_Lw_count_16

set_option maxHeartbeats 4000000 in
set_option maxRecDepth 100000 in
theorem c_Lw_count_x (l : Launch) (hl9 : l.stackTraces = false) (dC : Nat → ClassId) (dI : Nat → Nat → Nat) (h0 : Nat) (q7 : Nat) (q13 : Nat) (q24 : Nat) (q35 : Nat) (q47 : Nat) (q58 : Nat) (q69 : Nat) (q84 : Nat) (q95 : Nat) (ho : Nat) (p0 : Int32) (sz : Nat) (hn : p0.toInt < 0 ∨ 6 < p0.toInt) : Met l my_Lw_count (Cond.codeWith my_Lw_count cd_Lw_count 4 (some (.int)) [(0, 9, 12, 19)] :: tblG) ({ frames := 7, cells := 1, slots := 6, locals := 102 }) (va_Pc [.ref h0, .int p0, .ref ho] (fun U => U.heap.size = sz ∧ va_P (dC, dI) vwCl [(h0, .inr (0, [.ref q7, .int 0, .int 0, .ref q13, .ref q24, .ref q35, .ref q47, .ref q58, .ref q69, .ref q84, .ref q95, .int 0, .int 0]))] U.heap ∧ va_K (dC, dI) vwCl [] U ∧ va_D (fun _ => True) [(h0, .inr (0, [.ref q7, .int 0, .int 0, .ref q13, .ref q24, .ref q35, .ref q47, .ref q58, .ref q69, .ref q84, .ref q95, .int 0, .int 0]))] ∧ ex_Z "java/lang/IllegalArgumentException" U)) (va_Qi (fun (r : Int32) (_ : Unit) => r = 1) (fun (_ : Unit) (t : State) => va_P (dC, dI) vwCl [] t.heap ∧ va_K (dC, dI) vwCl [] t ∧ va_D (va_A [(h0, .inr (0, [.ref q7, .int 0, .int 0, .ref q13, .ref q24, .ref q35, .ref q47, .ref q58, .ref q69, .ref q84, .ref q95, .int 0, .int 0]))] sz) []) (va_A [(h0, .inr (0, [.ref q7, .int 0, .int 0, .ref q13, .ref q24, .ref q35, .ref q47, .ref q58, .ref q69, .ref q84, .ref q95, .int 0, .int 0]))] sz)) 1 6 (va_A [(h0, .inr (0, [.ref q7, .int 0, .int 0, .ref q13, .ref q24, .ref q35, .ref q47, .ref q58, .ref q69, .ref q84, .ref q95, .int 0, .int 0]))] sz) := by
  refine va_MetW (cc := cd_Lw_count) (maxL := 4) (ret := (some (.int))) (by decide) rfl ?_
  intro p e s m args below meth c s₁ B hml hv
  obtain ⟨rfl, hsz, hP, hK, hD0, hEz⟩ := hv
  have hx := B.exec
  have hb := B.bytes
  have hr := B.returns
  have hT : ∀ w ∈ tblG, w.before _ s = true := fun w h => atoms_spec (ws := (Cond.codeWith my_Lw_count cd_Lw_count 4 (some (.int)) [(0, 9, 12, 19)] :: tblG)) B.pre w (List.mem_cons_of_mem _ h)
  have hown : s.vm.findClass "StrataBaseLaw" = some m.cls := findClass_of_methodNamed B.named
  have hlocks := B.notSynchronized
  have hTab : c.exceptionTable.toList = [⟨0, 9, 12, 19⟩] := ex_table B (atoms_spec (ws := (Cond.codeWith my_Lw_count cd_Lw_count 4 (some (.int)) [(0, 9, 12, 19)] :: tblG)) B.pre _ List.mem_cons_self)
  subst hsz
  have hD := hD0.self (sz := s.heap.size)
  generalize hAe : va_A [(h0, .inr (0, [.ref q7, .int 0, .int 0, .ref q13, .ref q24, .ref q35, .ref q47, .ref q58, .ref q69, .ref q84, .ref q95, .int 0, .int 0]))] s.heap.size = A at hD ⊢
  have hA : ∀ q : Nat, s.heap.size ≤ q → A q := fun q h => by rw [← hAe]; exact Or.inr h
  have hS : va_S A s.heap s.heap [] := va_S.rf
  have hl := lv_entry ([.ref h0, .int p0, .ref ho]) (n := 4) (Nat.le_of_ble_eq_true rfl)
  rw [lg_entry_eq]
  generalize (lg_sl ([.ref h0, .int p0, .ref ho]) ++ List.replicate (4 - (lg_sl ([.ref h0, .int p0, .ref ho])).length) Slot.unset).toArray = ls at hl ⊢
  have hl : lv_has ls 4 [(0, .ref h0), (1, .int p0), (2, .ref ho)] := hl
  refine lv_aload_n hx hb dc_Lw_count_0 rfl (lv_at hl 2 rfl) ?_
  refine lv_iconst (v := 0) hx hb dc_Lw_count_1 (by decide) ?_
  refine lv_aload_n hx hb dc_Lw_count_2 rfl (lv_at hl 0 rfl) ?_
  refine lv_iload_n hx hb dc_Lw_count_3 rfl (lv_at hl 1 rfl) ?_
  have hPc := hP.sub (ws' := []) [] rfl
  have hDc := hD.sub (ws' := []) [] (by decide) rfl
  have hKc := hK.sub (tys' := []) [] rfl
  have hFc := va_free (wc := []) hD hS hA [] rfl
  refine ex_runV (As := [.int p0]) (rest := [.int 0, .ref ho]) ⟨hx, hb, hml, hown, hT⟩ (c_SB_count_x l hl9 dC dI h0 p0 s.heap.size hn) (cwV 1 hT (gd_V wd_1354 wd_1355 wd_1356 wd_1 wd_1357) rfl rfl rfl (by decide +kernel) ⟨Nat.le_of_ble_eq_true rfl, Nat.le_of_ble_eq_true rfl⟩) ⟨fun a U g mk q => by obtain ⟨q0, q1, qP, qK, qD, qE0⟩ := q; exact ⟨q0, q1, qP, va_K.moved (u := U) (U := U.calling g mk a) (Vm.Alike.refl U.vm) qK, qD, ex_Z_move (Vm.Alike.refl _) (fun _ _ => rfl) qE0⟩, va_recv hK hP (q0 := 0) (ci := 0) rfl rfl, fun U hU hW => ⟨rfl, by rw [hU], by rw [hU]; exact hPc, va_K.moved hW.alike hKc, hDc.weaken (fun _ _ _ _ => trivial), ex_Z_move hW.alike (fun a _ => by rw [hU]) hEz⟩⟩ rfl hl.1 rfl (lv_room (Nat.le_of_ble_eq_true rfl)) dc_Lw_count_4 ⟨(Nat.le_of_ble_eq_true rfl), (Nat.le_of_ble_eq_true rfl)⟩ (fun q9 ce9 H1 locs1 hce hcv hcc hz1 hk1 hL1 => ?_)
  have hS : va_S A s.heap H1 locs1 := ⟨Nat.le_trans hS.1 hz1, fun q h1 h2 => (hk1 q (Nat.lt_of_lt_of_le h1 hS.1) (fun z => h2 (hFc q z))).trans (hS.2.1 q h1 h2), fun z hz => (hL1 z hz).elim (hS.2.2 z) (fun h => hFc _ h)⟩
  refine ex_catch (own := "StrataBaseLaw") (name := "java/lang/IllegalArgumentException") hown ⟨0, 9, 12, 19⟩ [] hTab (by decide) (by decide) (hT _ wd_993) (ex_Z_words hEz _ (List.mem_cons_self)) hce hcv hcc ?_
  generalize H1 = H at hS ⊢
  generalize locs1 = locs at hS ⊢
  have hP : va_P (dC, dI) vwCl [] H := fun k q h => nomatch h
  have hD : va_D A [] := ⟨(fun i j p q h => nomatch h), (fun k q h => nomatch h)⟩
  have hK : va_K (dC, dI) vwCl [] s := hK.sub [] rfl
  refine W.widen (k := 1) (n := 6) (Nat.le_of_ble_eq_true rfl) (Nat.le_of_ble_eq_true rfl) ?_
  refine lv_astore_n (lv' := [(3, .ref q9), (0, .ref h0), (1, .int p0), (2, .ref ho)]) hx hb dc_Lw_count_12 rfl hl (by decide) rfl (fun ls hl => ?_)
  refine lv_iconst (v := 1) hx hb dc_Lw_count_13 (by decide) ?_
  have hP9 := hP.sub (ws' := []) [] rfl
  have hD9 := hD.sub (ws' := []) [] (by decide) rfl
  have hK9 := hK.sub (tys' := []) [] rfl
  refine W.widen (k := 1) (n := 6) (Nat.le_of_ble_eq_true rfl) (Nat.le_of_ble_eq_true rfl) ?_
  exact W.iret (v := 1) hx hb hr (fun t ht hW => ⟨⟨1, (), rfl, rfl, by rw [ht]; exact hP9, va_K.moved hW.alike hK9, hD9⟩, hS.F ht⟩) hS.2.2 dc_Lw_count_14
