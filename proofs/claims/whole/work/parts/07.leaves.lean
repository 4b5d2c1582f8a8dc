theorem dc_To_isDigit_0 : decode cd_To_isDigit 0 = .ok (.iload_n 0, 1) := by decide +kernel
theorem dc_To_isDigit_1 : decode cd_To_isDigit 1 = .ok (.bipush 48, 2) := by decide +kernel
theorem dc_To_isDigit_3 : decode cd_To_isDigit 3 = .ok (.if_icmp .lt 13, 3) := by decide +kernel
theorem dc_To_isDigit_6 : decode cd_To_isDigit 6 = .ok (.iload_n 0, 1) := by decide +kernel
theorem dc_To_isDigit_7 : decode cd_To_isDigit 7 = .ok (.bipush 57, 2) := by decide +kernel
theorem dc_To_isDigit_9 : decode cd_To_isDigit 9 = .ok (.if_icmp .gt 7, 3) := by decide +kernel
theorem dc_To_isDigit_12 : decode cd_To_isDigit 12 = .ok (.iconst 1, 1) := by decide +kernel
theorem dc_To_isDigit_13 : decode cd_To_isDigit 13 = .ok (.goto 4, 3) := by decide +kernel
theorem dc_To_isDigit_16 : decode cd_To_isDigit 16 = .ok (.iconst 0, 1) := by decide +kernel
theorem dc_To_isDigit_17 : decode cd_To_isDigit 17 = .ok (.ireturn, 1) := by decide +kernel
theorem dc_To_isSmall_0 : decode cd_To_isSmall 0 = .ok (.iload_n 0, 1) := by decide +kernel
theorem dc_To_isSmall_1 : decode cd_To_isSmall 1 = .ok (.bipush 97, 2) := by decide +kernel
theorem dc_To_isSmall_3 : decode cd_To_isSmall 3 = .ok (.if_icmp .lt 13, 3) := by decide +kernel
theorem dc_To_isSmall_6 : decode cd_To_isSmall 6 = .ok (.iload_n 0, 1) := by decide +kernel
theorem dc_To_isSmall_7 : decode cd_To_isSmall 7 = .ok (.bipush 122, 2) := by decide +kernel
theorem dc_To_isSmall_9 : decode cd_To_isSmall 9 = .ok (.if_icmp .gt 7, 3) := by decide +kernel
theorem dc_To_isSmall_12 : decode cd_To_isSmall 12 = .ok (.iconst 1, 1) := by decide +kernel
theorem dc_To_isSmall_13 : decode cd_To_isSmall 13 = .ok (.goto 4, 3) := by decide +kernel
theorem dc_To_isSmall_16 : decode cd_To_isSmall 16 = .ok (.iconst 0, 1) := by decide +kernel
theorem dc_To_isSmall_17 : decode cd_To_isSmall 17 = .ok (.ireturn, 1) := by decide +kernel
theorem dc_To_isBlank_0 : decode cd_To_isBlank 0 = .ok (.iload_n 0, 1) := by decide +kernel
theorem dc_To_isBlank_1 : decode cd_To_isBlank 1 = .ok (.bipush 9, 2) := by decide +kernel
theorem dc_To_isBlank_3 : decode cd_To_isBlank 3 = .ok (.if_icmp .eq 21, 3) := by decide +kernel
theorem dc_To_isBlank_6 : decode cd_To_isBlank 6 = .ok (.iload_n 0, 1) := by decide +kernel
theorem dc_To_isBlank_7 : decode cd_To_isBlank 7 = .ok (.bipush 10, 2) := by decide +kernel
theorem dc_To_isBlank_9 : decode cd_To_isBlank 9 = .ok (.if_icmp .eq 15, 3) := by decide +kernel
theorem dc_To_isBlank_12 : decode cd_To_isBlank 12 = .ok (.iload_n 0, 1) := by decide +kernel
theorem dc_To_isBlank_13 : decode cd_To_isBlank 13 = .ok (.bipush 13, 2) := by decide +kernel
theorem dc_To_isBlank_15 : decode cd_To_isBlank 15 = .ok (.if_icmp .eq 9, 3) := by decide +kernel
theorem dc_To_isBlank_18 : decode cd_To_isBlank 18 = .ok (.iload_n 0, 1) := by decide +kernel
theorem dc_To_isBlank_19 : decode cd_To_isBlank 19 = .ok (.bipush 32, 2) := by decide +kernel
theorem dc_To_isBlank_21 : decode cd_To_isBlank 21 = .ok (.if_icmp .ne 7, 3) := by decide +kernel
theorem dc_To_isBlank_24 : decode cd_To_isBlank 24 = .ok (.iconst 1, 1) := by decide +kernel
theorem dc_To_isBlank_25 : decode cd_To_isBlank 25 = .ok (.goto 4, 3) := by decide +kernel
theorem dc_To_isBlank_28 : decode cd_To_isBlank 28 = .ok (.iconst 0, 1) := by decide +kernel
theorem dc_To_isBlank_29 : decode cd_To_isBlank 29 = .ok (.ireturn, 1) := by decide +kernel
theorem dc_Mo_isDigit_0 : decode cd_Mo_isDigit 0 = .ok (.iload_n 0, 1) := by decide +kernel
theorem dc_Mo_isDigit_1 : decode cd_Mo_isDigit 1 = .ok (.bipush 48, 2) := by decide +kernel
theorem dc_Mo_isDigit_3 : decode cd_Mo_isDigit 3 = .ok (.if_icmp .lt 13, 3) := by decide +kernel
theorem dc_Mo_isDigit_6 : decode cd_Mo_isDigit 6 = .ok (.iload_n 0, 1) := by decide +kernel
theorem dc_Mo_isDigit_7 : decode cd_Mo_isDigit 7 = .ok (.bipush 57, 2) := by decide +kernel
theorem dc_Mo_isDigit_9 : decode cd_Mo_isDigit 9 = .ok (.if_icmp .gt 7, 3) := by decide +kernel
theorem dc_Mo_isDigit_12 : decode cd_Mo_isDigit 12 = .ok (.iconst 1, 1) := by decide +kernel
theorem dc_Mo_isDigit_13 : decode cd_Mo_isDigit 13 = .ok (.goto 4, 3) := by decide +kernel
theorem dc_Mo_isDigit_16 : decode cd_Mo_isDigit 16 = .ok (.iconst 0, 1) := by decide +kernel
theorem dc_Mo_isDigit_17 : decode cd_Mo_isDigit 17 = .ok (.ireturn, 1) := by decide +kernel
theorem dc_Mo_isSmall_0 : decode cd_Mo_isSmall 0 = .ok (.iload_n 0, 1) := by decide +kernel
theorem dc_Mo_isSmall_1 : decode cd_Mo_isSmall 1 = .ok (.bipush 97, 2) := by decide +kernel
theorem dc_Mo_isSmall_3 : decode cd_Mo_isSmall 3 = .ok (.if_icmp .lt 13, 3) := by decide +kernel
theorem dc_Mo_isSmall_6 : decode cd_Mo_isSmall 6 = .ok (.iload_n 0, 1) := by decide +kernel
theorem dc_Mo_isSmall_7 : decode cd_Mo_isSmall 7 = .ok (.bipush 122, 2) := by decide +kernel
theorem dc_Mo_isSmall_9 : decode cd_Mo_isSmall 9 = .ok (.if_icmp .gt 7, 3) := by decide +kernel
theorem dc_Mo_isSmall_12 : decode cd_Mo_isSmall 12 = .ok (.iconst 1, 1) := by decide +kernel
theorem dc_Mo_isSmall_13 : decode cd_Mo_isSmall 13 = .ok (.goto 4, 3) := by decide +kernel
theorem dc_Mo_isSmall_16 : decode cd_Mo_isSmall 16 = .ok (.iconst 0, 1) := by decide +kernel
theorem dc_Mo_isSmall_17 : decode cd_Mo_isSmall 17 = .ok (.ireturn, 1) := by decide +kernel
theorem dc_Mo_isBlank_0 : decode cd_Mo_isBlank 0 = .ok (.iload_n 0, 1) := by decide +kernel
theorem dc_Mo_isBlank_1 : decode cd_Mo_isBlank 1 = .ok (.bipush 9, 2) := by decide +kernel
theorem dc_Mo_isBlank_3 : decode cd_Mo_isBlank 3 = .ok (.if_icmp .eq 21, 3) := by decide +kernel
theorem dc_Mo_isBlank_6 : decode cd_Mo_isBlank 6 = .ok (.iload_n 0, 1) := by decide +kernel
theorem dc_Mo_isBlank_7 : decode cd_Mo_isBlank 7 = .ok (.bipush 10, 2) := by decide +kernel
theorem dc_Mo_isBlank_9 : decode cd_Mo_isBlank 9 = .ok (.if_icmp .eq 15, 3) := by decide +kernel
theorem dc_Mo_isBlank_12 : decode cd_Mo_isBlank 12 = .ok (.iload_n 0, 1) := by decide +kernel
theorem dc_Mo_isBlank_13 : decode cd_Mo_isBlank 13 = .ok (.bipush 13, 2) := by decide +kernel
theorem dc_Mo_isBlank_15 : decode cd_Mo_isBlank 15 = .ok (.if_icmp .eq 9, 3) := by decide +kernel
theorem dc_Mo_isBlank_18 : decode cd_Mo_isBlank 18 = .ok (.iload_n 0, 1) := by decide +kernel
theorem dc_Mo_isBlank_19 : decode cd_Mo_isBlank 19 = .ok (.bipush 32, 2) := by decide +kernel
theorem dc_Mo_isBlank_21 : decode cd_Mo_isBlank 21 = .ok (.if_icmp .ne 7, 3) := by decide +kernel
theorem dc_Mo_isBlank_24 : decode cd_Mo_isBlank 24 = .ok (.iconst 1, 1) := by decide +kernel
theorem dc_Mo_isBlank_25 : decode cd_Mo_isBlank 25 = .ok (.goto 4, 3) := by decide +kernel
theorem dc_Mo_isBlank_28 : decode cd_Mo_isBlank 28 = .ok (.iconst 0, 1) := by decide +kernel
theorem dc_Mo_isBlank_29 : decode cd_Mo_isBlank 29 = .ok (.ireturn, 1) := by decide +kernel
theorem dc_Na_clear_0 : decode cd_Na_clear 0 = .ok (.aload_n 0, 1) := by decide +kernel
theorem dc_Na_clear_1 : decode cd_Na_clear 1 = .ok (.iconst 0, 1) := by decide +kernel
theorem dc_Na_clear_2 : decode cd_Na_clear 2 = .ok (.putfield 22, 3) := by decide +kernel
theorem dc_Na_clear_5 : decode cd_Na_clear 5 = .ok (.aload_n 0, 1) := by decide +kernel
theorem dc_Na_clear_6 : decode cd_Na_clear 6 = .ok (.iconst 0, 1) := by decide +kernel
theorem dc_Na_clear_7 : decode cd_Na_clear 7 = .ok (.putfield 26, 3) := by decide +kernel
theorem dc_Na_clear_10 : decode cd_Na_clear 10 = .ok (.return_, 1) := by decide +kernel
theorem dc_Cl_clear_0 : decode cd_Cl_clear 0 = .ok (.aload_n 0, 1) := by decide +kernel
theorem dc_Cl_clear_1 : decode cd_Cl_clear 1 = .ok (.iconst 0, 1) := by decide +kernel
theorem dc_Cl_clear_2 : decode cd_Cl_clear 2 = .ok (.putfield 33, 3) := by decide +kernel
theorem dc_Cl_clear_5 : decode cd_Cl_clear 5 = .ok (.aload_n 0, 1) := by decide +kernel
theorem dc_Cl_clear_6 : decode cd_Cl_clear 6 = .ok (.iconst 0, 1) := by decide +kernel
theorem dc_Cl_clear_7 : decode cd_Cl_clear 7 = .ok (.putfield 37, 3) := by decide +kernel
theorem dc_Cl_clear_10 : decode cd_Cl_clear 10 = .ok (.return_, 1) := by decide +kernel
theorem dc_Cl_newest_0 : decode cd_Cl_newest 0 = .ok (.aload_n 0, 1) := by decide +kernel
theorem dc_Cl_newest_1 : decode cd_Cl_newest 1 = .ok (.getfield 37, 3) := by decide +kernel
theorem dc_Cl_newest_4 : decode cd_Cl_newest 4 = .ok (.iconst 1, 1) := by decide +kernel
theorem dc_Cl_newest_5 : decode cd_Cl_newest 5 = .ok (.isub, 1) := by decide +kernel
theorem dc_Cl_newest_6 : decode cd_Cl_newest 6 = .ok (.ireturn, 1) := by decide +kernel
theorem dc_Fa_shiftOf_0 : decode cd_Fa_shiftOf 0 = .ok (.bipush 50, 2) := by decide +kernel
theorem dc_Fa_shiftOf_2 : decode cd_Fa_shiftOf 2 = .ok (.bipush 10, 2) := by decide +kernel
theorem dc_Fa_shiftOf_4 : decode cd_Fa_shiftOf 4 = .ok (.iload_n 0, 1) := by decide +kernel
theorem dc_Fa_shiftOf_5 : decode cd_Fa_shiftOf 5 = .ok (.imul, 1) := by decide +kernel
theorem dc_Fa_shiftOf_6 : decode cd_Fa_shiftOf 6 = .ok (.isub, 1) := by decide +kernel
theorem dc_Fa_shiftOf_7 : decode cd_Fa_shiftOf 7 = .ok (.ireturn, 1) := by decide +kernel
theorem dc_Na_lengthOf_0 : decode cd_Na_lengthOf 0 = .ok (.aload_n 0, 1) := by decide +kernel
theorem dc_Na_lengthOf_1 : decode cd_Na_lengthOf 1 = .ok (.getfield 15, 3) := by decide +kernel
theorem dc_Na_lengthOf_4 : decode cd_Na_lengthOf 4 = .ok (.iload_n 1, 1) := by decide +kernel
theorem dc_Na_lengthOf_5 : decode cd_Na_lengthOf 5 = .ok (.iaload, 1) := by decide +kernel
theorem dc_Na_lengthOf_6 : decode cd_Na_lengthOf 6 = .ok (.ireturn, 1) := by decide +kernel
def wp_met_To_isDigit (post : Int32 → Unit → Prop) (x : Int32) : Prop := ((x < (48 : Int32) → (post (0 : Int32) ())) ∧ (¬ x < (48 : Int32) → ((((57 : Int32) < x → (post (0 : Int32) ())) ∧ (¬ (57 : Int32) < x → (post (1 : Int32) ()))))))
set_option maxHeartbeats 4000000 in
set_option maxRecDepth 100000 in
theorem met_To_isDigit (l : Launch) (dC : Nat → ClassId) (dI : Nat → Nat → Nat) (x : Int32) (sz : Nat) {post : Int32 → Unit → Prop} (hw : wp_met_To_isDigit post x) : Met l my_To_isDigit (Cond.code my_To_isDigit cd_To_isDigit 1 (some (.boolean)) :: tblG) ({ frames := 0, cells := 0, slots := 0, locals := 0 }) (va_Pc [.int x] (fun U => U.heap.size = sz ∧ va_P (dC, dI) vwCl [] U.heap ∧ va_K (dC, dI) vwCl [] U ∧ va_D (fun _ => True) [])) (va_Qi post (fun (u : Unit) (t : State) => va_P (dC, dI) vwCl [] t.heap ∧ va_K (dC, dI) vwCl [] t ∧ va_D (va_A [] sz) []) (va_A [] sz)) 0 0 (va_A [] sz) := by
  refine Met.ofW (cc := cd_To_isDigit) (maxL := 1) (ret := (some (.boolean))) (by decide) rfl ?_
  intro p e s m args below meth c s₁ B hml hv
  obtain ⟨rfl, hsz, hP, hK, hD0⟩ := hv
  have hx := B.exec
  have hb := B.bytes
  have hr := B.returns
  have hT : ∀ w ∈ tblG, w.before _ s = true := fun w h => atoms_spec (ws := (Cond.code my_To_isDigit cd_To_isDigit 1 (some (.boolean)) :: tblG)) B.pre w (List.mem_cons_of_mem _ h)
  have hown : s.vm.findClass "StrataBase$Tokens" = some m.cls := findClass_of_methodNamed B.named
  have hlocks := B.notSynchronized
  subst hsz
  have hD := hD0.self (sz := s.heap.size)
  generalize hAe : va_A [] s.heap.size = A at hD ⊢
  have hA : ∀ q : Nat, s.heap.size ≤ q → A q := fun q h => by rw [← hAe]; exact Or.inr h
  have hS : va_S A s.heap s.heap [] := va_S.rf
  have hl := lv_entry ([.int x]) (n := 1) (Nat.le_of_ble_eq_true rfl)
  rw [lg_entry_eq]
  generalize (lg_sl ([.int x]) ++ List.replicate (1 - (lg_sl ([.int x])).length) Slot.unset).toArray = ls at hl ⊢
  have hl : lv_has ls 1 [(0, .int x)] := hl
  unfold wp_met_To_isDigit at hw
  refine lv_iload_n hx hb dc_To_isDigit_0 rfl (lv_at hl 0 rfl) ?_
  refine lv_bipush (v := 48) hx hb dc_To_isDigit_1 (by decide) ?_
  refine lv_icmp_lt (tgt := 16) hx hb dc_To_isDigit_3 (by decide) (fun h3 => ?_) (fun h3 => ?_)
  · have hw := hw.1 h3
    refine lv_iconst (v := 0) hx hb dc_To_isDigit_16 (by decide) ?_
    refine W.widen (k := 0) (n := 0) (Nat.le_of_ble_eq_true rfl) (Nat.le_of_ble_eq_true rfl) ?_
    exact W.zret (v := 0) hx hb hr (by decide) (fun t ht hW => ⟨⟨0, (), rfl, hw, by rw [ht]; exact hP, va_K.moved hW.alike hK, hD⟩, hS.F ht⟩) hS.2.2 dc_To_isDigit_17
  · have hw := hw.2 h3
    refine lv_iload_n hx hb dc_To_isDigit_6 rfl (lv_at hl 0 rfl) ?_
    refine lv_bipush (v := 57) hx hb dc_To_isDigit_7 (by decide) ?_
    refine lv_icmp_gt (tgt := 16) hx hb dc_To_isDigit_9 (by decide) (fun h9 => ?_) (fun h9 => ?_)
    · have hw := hw.1 h9
      refine lv_iconst (v := 0) hx hb dc_To_isDigit_16 (by decide) ?_
      refine W.widen (k := 0) (n := 0) (Nat.le_of_ble_eq_true rfl) (Nat.le_of_ble_eq_true rfl) ?_
      exact W.zret (v := 0) hx hb hr (by decide) (fun t ht hW => ⟨⟨0, (), rfl, hw, by rw [ht]; exact hP, va_K.moved hW.alike hK, hD⟩, hS.F ht⟩) hS.2.2 dc_To_isDigit_17
    · have hw := hw.2 h9
      refine lv_iconst (v := 1) hx hb dc_To_isDigit_12 (by decide) ?_
      refine lv_goto (tgt := 17) hx hb dc_To_isDigit_13 (by decide) ?_
      refine W.widen (k := 0) (n := 0) (Nat.le_of_ble_eq_true rfl) (Nat.le_of_ble_eq_true rfl) ?_
      exact W.zret (v := 1) hx hb hr (by decide) (fun t ht hW => ⟨⟨1, (), rfl, hw, by rw [ht]; exact hP, va_K.moved hW.alike hK, hD⟩, hS.F ht⟩) hS.2.2 dc_To_isDigit_17

def wp_met_To_isSmall (post : Int32 → Unit → Prop) (x : Int32) : Prop := ((x < (97 : Int32) → (post (0 : Int32) ())) ∧ (¬ x < (97 : Int32) → ((((122 : Int32) < x → (post (0 : Int32) ())) ∧ (¬ (122 : Int32) < x → (post (1 : Int32) ()))))))
set_option maxHeartbeats 4000000 in
set_option maxRecDepth 100000 in
theorem met_To_isSmall (l : Launch) (dC : Nat → ClassId) (dI : Nat → Nat → Nat) (x : Int32) (sz : Nat) {post : Int32 → Unit → Prop} (hw : wp_met_To_isSmall post x) : Met l my_To_isSmall (Cond.code my_To_isSmall cd_To_isSmall 1 (some (.boolean)) :: tblG) ({ frames := 0, cells := 0, slots := 0, locals := 0 }) (va_Pc [.int x] (fun U => U.heap.size = sz ∧ va_P (dC, dI) vwCl [] U.heap ∧ va_K (dC, dI) vwCl [] U ∧ va_D (fun _ => True) [])) (va_Qi post (fun (u : Unit) (t : State) => va_P (dC, dI) vwCl [] t.heap ∧ va_K (dC, dI) vwCl [] t ∧ va_D (va_A [] sz) []) (va_A [] sz)) 0 0 (va_A [] sz) := by
  refine Met.ofW (cc := cd_To_isSmall) (maxL := 1) (ret := (some (.boolean))) (by decide) rfl ?_
  intro p e s m args below meth c s₁ B hml hv
  obtain ⟨rfl, hsz, hP, hK, hD0⟩ := hv
  have hx := B.exec
  have hb := B.bytes
  have hr := B.returns
  have hT : ∀ w ∈ tblG, w.before _ s = true := fun w h => atoms_spec (ws := (Cond.code my_To_isSmall cd_To_isSmall 1 (some (.boolean)) :: tblG)) B.pre w (List.mem_cons_of_mem _ h)
  have hown : s.vm.findClass "StrataBase$Tokens" = some m.cls := findClass_of_methodNamed B.named
  have hlocks := B.notSynchronized
  subst hsz
  have hD := hD0.self (sz := s.heap.size)
  generalize hAe : va_A [] s.heap.size = A at hD ⊢
  have hA : ∀ q : Nat, s.heap.size ≤ q → A q := fun q h => by rw [← hAe]; exact Or.inr h
  have hS : va_S A s.heap s.heap [] := va_S.rf
  have hl := lv_entry ([.int x]) (n := 1) (Nat.le_of_ble_eq_true rfl)
  rw [lg_entry_eq]
  generalize (lg_sl ([.int x]) ++ List.replicate (1 - (lg_sl ([.int x])).length) Slot.unset).toArray = ls at hl ⊢
  have hl : lv_has ls 1 [(0, .int x)] := hl
  unfold wp_met_To_isSmall at hw
  refine lv_iload_n hx hb dc_To_isSmall_0 rfl (lv_at hl 0 rfl) ?_
  refine lv_bipush (v := 97) hx hb dc_To_isSmall_1 (by decide) ?_
  refine lv_icmp_lt (tgt := 16) hx hb dc_To_isSmall_3 (by decide) (fun h3 => ?_) (fun h3 => ?_)
  · have hw := hw.1 h3
    refine lv_iconst (v := 0) hx hb dc_To_isSmall_16 (by decide) ?_
    refine W.widen (k := 0) (n := 0) (Nat.le_of_ble_eq_true rfl) (Nat.le_of_ble_eq_true rfl) ?_
    exact W.zret (v := 0) hx hb hr (by decide) (fun t ht hW => ⟨⟨0, (), rfl, hw, by rw [ht]; exact hP, va_K.moved hW.alike hK, hD⟩, hS.F ht⟩) hS.2.2 dc_To_isSmall_17
  · have hw := hw.2 h3
    refine lv_iload_n hx hb dc_To_isSmall_6 rfl (lv_at hl 0 rfl) ?_
    refine lv_bipush (v := 122) hx hb dc_To_isSmall_7 (by decide) ?_
    refine lv_icmp_gt (tgt := 16) hx hb dc_To_isSmall_9 (by decide) (fun h9 => ?_) (fun h9 => ?_)
    · have hw := hw.1 h9
      refine lv_iconst (v := 0) hx hb dc_To_isSmall_16 (by decide) ?_
      refine W.widen (k := 0) (n := 0) (Nat.le_of_ble_eq_true rfl) (Nat.le_of_ble_eq_true rfl) ?_
      exact W.zret (v := 0) hx hb hr (by decide) (fun t ht hW => ⟨⟨0, (), rfl, hw, by rw [ht]; exact hP, va_K.moved hW.alike hK, hD⟩, hS.F ht⟩) hS.2.2 dc_To_isSmall_17
    · have hw := hw.2 h9
      refine lv_iconst (v := 1) hx hb dc_To_isSmall_12 (by decide) ?_
      refine lv_goto (tgt := 17) hx hb dc_To_isSmall_13 (by decide) ?_
      refine W.widen (k := 0) (n := 0) (Nat.le_of_ble_eq_true rfl) (Nat.le_of_ble_eq_true rfl) ?_
      exact W.zret (v := 1) hx hb hr (by decide) (fun t ht hW => ⟨⟨1, (), rfl, hw, by rw [ht]; exact hP, va_K.moved hW.alike hK, hD⟩, hS.F ht⟩) hS.2.2 dc_To_isSmall_17

def wp_met_To_isBlank (post : Int32 → Unit → Prop) (x : Int32) : Prop := ((x = (9 : Int32) → (post (1 : Int32) ())) ∧ (¬ x = (9 : Int32) → (((x = (10 : Int32) → (post (1 : Int32) ())) ∧ (¬ x = (10 : Int32) → (((x = (13 : Int32) → (post (1 : Int32) ())) ∧ (¬ x = (13 : Int32) → (((x = (32 : Int32) → (post (1 : Int32) ())) ∧ (¬ x = (32 : Int32) → (post (0 : Int32) ()))))))))))))
set_option maxHeartbeats 4000000 in
set_option maxRecDepth 100000 in
theorem met_To_isBlank (l : Launch) (dC : Nat → ClassId) (dI : Nat → Nat → Nat) (x : Int32) (sz : Nat) {post : Int32 → Unit → Prop} (hw : wp_met_To_isBlank post x) : Met l my_To_isBlank (Cond.code my_To_isBlank cd_To_isBlank 1 (some (.boolean)) :: tblG) ({ frames := 0, cells := 0, slots := 0, locals := 0 }) (va_Pc [.int x] (fun U => U.heap.size = sz ∧ va_P (dC, dI) vwCl [] U.heap ∧ va_K (dC, dI) vwCl [] U ∧ va_D (fun _ => True) [])) (va_Qi post (fun (u : Unit) (t : State) => va_P (dC, dI) vwCl [] t.heap ∧ va_K (dC, dI) vwCl [] t ∧ va_D (va_A [] sz) []) (va_A [] sz)) 0 0 (va_A [] sz) := by
  refine Met.ofW (cc := cd_To_isBlank) (maxL := 1) (ret := (some (.boolean))) (by decide) rfl ?_
  intro p e s m args below meth c s₁ B hml hv
  obtain ⟨rfl, hsz, hP, hK, hD0⟩ := hv
  have hx := B.exec
  have hb := B.bytes
  have hr := B.returns
  have hT : ∀ w ∈ tblG, w.before _ s = true := fun w h => atoms_spec (ws := (Cond.code my_To_isBlank cd_To_isBlank 1 (some (.boolean)) :: tblG)) B.pre w (List.mem_cons_of_mem _ h)
  have hown : s.vm.findClass "StrataBase$Tokens" = some m.cls := findClass_of_methodNamed B.named
  have hlocks := B.notSynchronized
  subst hsz
  have hD := hD0.self (sz := s.heap.size)
  generalize hAe : va_A [] s.heap.size = A at hD ⊢
  have hA : ∀ q : Nat, s.heap.size ≤ q → A q := fun q h => by rw [← hAe]; exact Or.inr h
  have hS : va_S A s.heap s.heap [] := va_S.rf
  have hl := lv_entry ([.int x]) (n := 1) (Nat.le_of_ble_eq_true rfl)
  rw [lg_entry_eq]
  generalize (lg_sl ([.int x]) ++ List.replicate (1 - (lg_sl ([.int x])).length) Slot.unset).toArray = ls at hl ⊢
  have hl : lv_has ls 1 [(0, .int x)] := hl
  unfold wp_met_To_isBlank at hw
  refine lv_iload_n hx hb dc_To_isBlank_0 rfl (lv_at hl 0 rfl) ?_
  refine lv_bipush (v := 9) hx hb dc_To_isBlank_1 (by decide) ?_
  refine lv_icmp_eq (tgt := 24) hx hb dc_To_isBlank_3 (by decide) (fun h3 => ?_) (fun h3 => ?_)
  · have hw := hw.1 h3
    refine lv_iconst (v := 1) hx hb dc_To_isBlank_24 (by decide) ?_
    refine lv_goto (tgt := 29) hx hb dc_To_isBlank_25 (by decide) ?_
    refine W.widen (k := 0) (n := 0) (Nat.le_of_ble_eq_true rfl) (Nat.le_of_ble_eq_true rfl) ?_
    exact W.zret (v := 1) hx hb hr (by decide) (fun t ht hW => ⟨⟨1, (), rfl, hw, by rw [ht]; exact hP, va_K.moved hW.alike hK, hD⟩, hS.F ht⟩) hS.2.2 dc_To_isBlank_29
  · have hw := hw.2 h3
    refine lv_iload_n hx hb dc_To_isBlank_6 rfl (lv_at hl 0 rfl) ?_
    refine lv_bipush (v := 10) hx hb dc_To_isBlank_7 (by decide) ?_
    refine lv_icmp_eq (tgt := 24) hx hb dc_To_isBlank_9 (by decide) (fun h9 => ?_) (fun h9 => ?_)
    · have hw := hw.1 h9
      refine lv_iconst (v := 1) hx hb dc_To_isBlank_24 (by decide) ?_
      refine lv_goto (tgt := 29) hx hb dc_To_isBlank_25 (by decide) ?_
      refine W.widen (k := 0) (n := 0) (Nat.le_of_ble_eq_true rfl) (Nat.le_of_ble_eq_true rfl) ?_
      exact W.zret (v := 1) hx hb hr (by decide) (fun t ht hW => ⟨⟨1, (), rfl, hw, by rw [ht]; exact hP, va_K.moved hW.alike hK, hD⟩, hS.F ht⟩) hS.2.2 dc_To_isBlank_29
    · have hw := hw.2 h9
      refine lv_iload_n hx hb dc_To_isBlank_12 rfl (lv_at hl 0 rfl) ?_
      refine lv_bipush (v := 13) hx hb dc_To_isBlank_13 (by decide) ?_
      refine lv_icmp_eq (tgt := 24) hx hb dc_To_isBlank_15 (by decide) (fun h15 => ?_) (fun h15 => ?_)
      · have hw := hw.1 h15
        refine lv_iconst (v := 1) hx hb dc_To_isBlank_24 (by decide) ?_
        refine lv_goto (tgt := 29) hx hb dc_To_isBlank_25 (by decide) ?_
        refine W.widen (k := 0) (n := 0) (Nat.le_of_ble_eq_true rfl) (Nat.le_of_ble_eq_true rfl) ?_
        exact W.zret (v := 1) hx hb hr (by decide) (fun t ht hW => ⟨⟨1, (), rfl, hw, by rw [ht]; exact hP, va_K.moved hW.alike hK, hD⟩, hS.F ht⟩) hS.2.2 dc_To_isBlank_29
      · have hw := hw.2 h15
        refine lv_iload_n hx hb dc_To_isBlank_18 rfl (lv_at hl 0 rfl) ?_
        refine lv_bipush (v := 32) hx hb dc_To_isBlank_19 (by decide) ?_
        refine lv_icmp_ne (tgt := 28) hx hb dc_To_isBlank_21 (by decide) (fun h21 => ?_) (fun h21 => ?_)
        · have hw := hw.2 h21
          refine lv_iconst (v := 0) hx hb dc_To_isBlank_28 (by decide) ?_
          refine W.widen (k := 0) (n := 0) (Nat.le_of_ble_eq_true rfl) (Nat.le_of_ble_eq_true rfl) ?_
          exact W.zret (v := 0) hx hb hr (by decide) (fun t ht hW => ⟨⟨0, (), rfl, hw, by rw [ht]; exact hP, va_K.moved hW.alike hK, hD⟩, hS.F ht⟩) hS.2.2 dc_To_isBlank_29
        · have hw := hw.1 h21
          refine lv_iconst (v := 1) hx hb dc_To_isBlank_24 (by decide) ?_
          refine lv_goto (tgt := 29) hx hb dc_To_isBlank_25 (by decide) ?_
          refine W.widen (k := 0) (n := 0) (Nat.le_of_ble_eq_true rfl) (Nat.le_of_ble_eq_true rfl) ?_
          exact W.zret (v := 1) hx hb hr (by decide) (fun t ht hW => ⟨⟨1, (), rfl, hw, by rw [ht]; exact hP, va_K.moved hW.alike hK, hD⟩, hS.F ht⟩) hS.2.2 dc_To_isBlank_29

def wp_met_Mo_isDigit (post : Int32 → Unit → Prop) (x : Int32) : Prop := ((x < (48 : Int32) → (post (0 : Int32) ())) ∧ (¬ x < (48 : Int32) → ((((57 : Int32) < x → (post (0 : Int32) ())) ∧ (¬ (57 : Int32) < x → (post (1 : Int32) ()))))))
set_option maxHeartbeats 4000000 in
set_option maxRecDepth 100000 in
theorem met_Mo_isDigit (l : Launch) (dC : Nat → ClassId) (dI : Nat → Nat → Nat) (x : Int32) (sz : Nat) {post : Int32 → Unit → Prop} (hw : wp_met_Mo_isDigit post x) : Met l my_Mo_isDigit (Cond.code my_Mo_isDigit cd_Mo_isDigit 1 (some (.boolean)) :: tblG) ({ frames := 0, cells := 0, slots := 0, locals := 0 }) (va_Pc [.int x] (fun U => U.heap.size = sz ∧ va_P (dC, dI) vwCl [] U.heap ∧ va_K (dC, dI) vwCl [] U ∧ va_D (fun _ => True) [])) (va_Qi post (fun (u : Unit) (t : State) => va_P (dC, dI) vwCl [] t.heap ∧ va_K (dC, dI) vwCl [] t ∧ va_D (va_A [] sz) []) (va_A [] sz)) 0 0 (va_A [] sz) := by
  refine Met.ofW (cc := cd_Mo_isDigit) (maxL := 1) (ret := (some (.boolean))) (by decide) rfl ?_
  intro p e s m args below meth c s₁ B hml hv
  obtain ⟨rfl, hsz, hP, hK, hD0⟩ := hv
  have hx := B.exec
  have hb := B.bytes
  have hr := B.returns
  have hT : ∀ w ∈ tblG, w.before _ s = true := fun w h => atoms_spec (ws := (Cond.code my_Mo_isDigit cd_Mo_isDigit 1 (some (.boolean)) :: tblG)) B.pre w (List.mem_cons_of_mem _ h)
  have hown : s.vm.findClass "StrataBaseModel" = some m.cls := findClass_of_methodNamed B.named
  have hlocks := B.notSynchronized
  subst hsz
  have hD := hD0.self (sz := s.heap.size)
  generalize hAe : va_A [] s.heap.size = A at hD ⊢
  have hA : ∀ q : Nat, s.heap.size ≤ q → A q := fun q h => by rw [← hAe]; exact Or.inr h
  have hS : va_S A s.heap s.heap [] := va_S.rf
  have hl := lv_entry ([.int x]) (n := 1) (Nat.le_of_ble_eq_true rfl)
  rw [lg_entry_eq]
  generalize (lg_sl ([.int x]) ++ List.replicate (1 - (lg_sl ([.int x])).length) Slot.unset).toArray = ls at hl ⊢
  have hl : lv_has ls 1 [(0, .int x)] := hl
  unfold wp_met_Mo_isDigit at hw
  refine lv_iload_n hx hb dc_Mo_isDigit_0 rfl (lv_at hl 0 rfl) ?_
  refine lv_bipush (v := 48) hx hb dc_Mo_isDigit_1 (by decide) ?_
  refine lv_icmp_lt (tgt := 16) hx hb dc_Mo_isDigit_3 (by decide) (fun h3 => ?_) (fun h3 => ?_)
  · have hw := hw.1 h3
    refine lv_iconst (v := 0) hx hb dc_Mo_isDigit_16 (by decide) ?_
    refine W.widen (k := 0) (n := 0) (Nat.le_of_ble_eq_true rfl) (Nat.le_of_ble_eq_true rfl) ?_
    exact W.zret (v := 0) hx hb hr (by decide) (fun t ht hW => ⟨⟨0, (), rfl, hw, by rw [ht]; exact hP, va_K.moved hW.alike hK, hD⟩, hS.F ht⟩) hS.2.2 dc_Mo_isDigit_17
  · have hw := hw.2 h3
    refine lv_iload_n hx hb dc_Mo_isDigit_6 rfl (lv_at hl 0 rfl) ?_
    refine lv_bipush (v := 57) hx hb dc_Mo_isDigit_7 (by decide) ?_
    refine lv_icmp_gt (tgt := 16) hx hb dc_Mo_isDigit_9 (by decide) (fun h9 => ?_) (fun h9 => ?_)
    · have hw := hw.1 h9
      refine lv_iconst (v := 0) hx hb dc_Mo_isDigit_16 (by decide) ?_
      refine W.widen (k := 0) (n := 0) (Nat.le_of_ble_eq_true rfl) (Nat.le_of_ble_eq_true rfl) ?_
      exact W.zret (v := 0) hx hb hr (by decide) (fun t ht hW => ⟨⟨0, (), rfl, hw, by rw [ht]; exact hP, va_K.moved hW.alike hK, hD⟩, hS.F ht⟩) hS.2.2 dc_Mo_isDigit_17
    · have hw := hw.2 h9
      refine lv_iconst (v := 1) hx hb dc_Mo_isDigit_12 (by decide) ?_
      refine lv_goto (tgt := 17) hx hb dc_Mo_isDigit_13 (by decide) ?_
      refine W.widen (k := 0) (n := 0) (Nat.le_of_ble_eq_true rfl) (Nat.le_of_ble_eq_true rfl) ?_
      exact W.zret (v := 1) hx hb hr (by decide) (fun t ht hW => ⟨⟨1, (), rfl, hw, by rw [ht]; exact hP, va_K.moved hW.alike hK, hD⟩, hS.F ht⟩) hS.2.2 dc_Mo_isDigit_17

def wp_met_Mo_isSmall (post : Int32 → Unit → Prop) (x : Int32) : Prop := ((x < (97 : Int32) → (post (0 : Int32) ())) ∧ (¬ x < (97 : Int32) → ((((122 : Int32) < x → (post (0 : Int32) ())) ∧ (¬ (122 : Int32) < x → (post (1 : Int32) ()))))))
set_option maxHeartbeats 4000000 in
set_option maxRecDepth 100000 in
theorem met_Mo_isSmall (l : Launch) (dC : Nat → ClassId) (dI : Nat → Nat → Nat) (x : Int32) (sz : Nat) {post : Int32 → Unit → Prop} (hw : wp_met_Mo_isSmall post x) : Met l my_Mo_isSmall (Cond.code my_Mo_isSmall cd_Mo_isSmall 1 (some (.boolean)) :: tblG) ({ frames := 0, cells := 0, slots := 0, locals := 0 }) (va_Pc [.int x] (fun U => U.heap.size = sz ∧ va_P (dC, dI) vwCl [] U.heap ∧ va_K (dC, dI) vwCl [] U ∧ va_D (fun _ => True) [])) (va_Qi post (fun (u : Unit) (t : State) => va_P (dC, dI) vwCl [] t.heap ∧ va_K (dC, dI) vwCl [] t ∧ va_D (va_A [] sz) []) (va_A [] sz)) 0 0 (va_A [] sz) := by
  refine Met.ofW (cc := cd_Mo_isSmall) (maxL := 1) (ret := (some (.boolean))) (by decide) rfl ?_
  intro p e s m args below meth c s₁ B hml hv
  obtain ⟨rfl, hsz, hP, hK, hD0⟩ := hv
  have hx := B.exec
  have hb := B.bytes
  have hr := B.returns
  have hT : ∀ w ∈ tblG, w.before _ s = true := fun w h => atoms_spec (ws := (Cond.code my_Mo_isSmall cd_Mo_isSmall 1 (some (.boolean)) :: tblG)) B.pre w (List.mem_cons_of_mem _ h)
  have hown : s.vm.findClass "StrataBaseModel" = some m.cls := findClass_of_methodNamed B.named
  have hlocks := B.notSynchronized
  subst hsz
  have hD := hD0.self (sz := s.heap.size)
  generalize hAe : va_A [] s.heap.size = A at hD ⊢
  have hA : ∀ q : Nat, s.heap.size ≤ q → A q := fun q h => by rw [← hAe]; exact Or.inr h
  have hS : va_S A s.heap s.heap [] := va_S.rf
  have hl := lv_entry ([.int x]) (n := 1) (Nat.le_of_ble_eq_true rfl)
  rw [lg_entry_eq]
  generalize (lg_sl ([.int x]) ++ List.replicate (1 - (lg_sl ([.int x])).length) Slot.unset).toArray = ls at hl ⊢
  have hl : lv_has ls 1 [(0, .int x)] := hl
  unfold wp_met_Mo_isSmall at hw
  refine lv_iload_n hx hb dc_Mo_isSmall_0 rfl (lv_at hl 0 rfl) ?_
  refine lv_bipush (v := 97) hx hb dc_Mo_isSmall_1 (by decide) ?_
  refine lv_icmp_lt (tgt := 16) hx hb dc_Mo_isSmall_3 (by decide) (fun h3 => ?_) (fun h3 => ?_)
  · have hw := hw.1 h3
    refine lv_iconst (v := 0) hx hb dc_Mo_isSmall_16 (by decide) ?_
    refine W.widen (k := 0) (n := 0) (Nat.le_of_ble_eq_true rfl) (Nat.le_of_ble_eq_true rfl) ?_
    exact W.zret (v := 0) hx hb hr (by decide) (fun t ht hW => ⟨⟨0, (), rfl, hw, by rw [ht]; exact hP, va_K.moved hW.alike hK, hD⟩, hS.F ht⟩) hS.2.2 dc_Mo_isSmall_17
  · have hw := hw.2 h3
    refine lv_iload_n hx hb dc_Mo_isSmall_6 rfl (lv_at hl 0 rfl) ?_
    refine lv_bipush (v := 122) hx hb dc_Mo_isSmall_7 (by decide) ?_
    refine lv_icmp_gt (tgt := 16) hx hb dc_Mo_isSmall_9 (by decide) (fun h9 => ?_) (fun h9 => ?_)
    · have hw := hw.1 h9
      refine lv_iconst (v := 0) hx hb dc_Mo_isSmall_16 (by decide) ?_
      refine W.widen (k := 0) (n := 0) (Nat.le_of_ble_eq_true rfl) (Nat.le_of_ble_eq_true rfl) ?_
      exact W.zret (v := 0) hx hb hr (by decide) (fun t ht hW => ⟨⟨0, (), rfl, hw, by rw [ht]; exact hP, va_K.moved hW.alike hK, hD⟩, hS.F ht⟩) hS.2.2 dc_Mo_isSmall_17
    · have hw := hw.2 h9
      refine lv_iconst (v := 1) hx hb dc_Mo_isSmall_12 (by decide) ?_
      refine lv_goto (tgt := 17) hx hb dc_Mo_isSmall_13 (by decide) ?_
      refine W.widen (k := 0) (n := 0) (Nat.le_of_ble_eq_true rfl) (Nat.le_of_ble_eq_true rfl) ?_
      exact W.zret (v := 1) hx hb hr (by decide) (fun t ht hW => ⟨⟨1, (), rfl, hw, by rw [ht]; exact hP, va_K.moved hW.alike hK, hD⟩, hS.F ht⟩) hS.2.2 dc_Mo_isSmall_17

def wp_met_Mo_isBlank (post : Int32 → Unit → Prop) (x : Int32) : Prop := ((x = (9 : Int32) → (post (1 : Int32) ())) ∧ (¬ x = (9 : Int32) → (((x = (10 : Int32) → (post (1 : Int32) ())) ∧ (¬ x = (10 : Int32) → (((x = (13 : Int32) → (post (1 : Int32) ())) ∧ (¬ x = (13 : Int32) → (((x = (32 : Int32) → (post (1 : Int32) ())) ∧ (¬ x = (32 : Int32) → (post (0 : Int32) ()))))))))))))
set_option maxHeartbeats 4000000 in
set_option maxRecDepth 100000 in
theorem met_Mo_isBlank (l : Launch) (dC : Nat → ClassId) (dI : Nat → Nat → Nat) (x : Int32) (sz : Nat) {post : Int32 → Unit → Prop} (hw : wp_met_Mo_isBlank post x) : Met l my_Mo_isBlank (Cond.code my_Mo_isBlank cd_Mo_isBlank 1 (some (.boolean)) :: tblG) ({ frames := 0, cells := 0, slots := 0, locals := 0 }) (va_Pc [.int x] (fun U => U.heap.size = sz ∧ va_P (dC, dI) vwCl [] U.heap ∧ va_K (dC, dI) vwCl [] U ∧ va_D (fun _ => True) [])) (va_Qi post (fun (u : Unit) (t : State) => va_P (dC, dI) vwCl [] t.heap ∧ va_K (dC, dI) vwCl [] t ∧ va_D (va_A [] sz) []) (va_A [] sz)) 0 0 (va_A [] sz) := by
  refine Met.ofW (cc := cd_Mo_isBlank) (maxL := 1) (ret := (some (.boolean))) (by decide) rfl ?_
  intro p e s m args below meth c s₁ B hml hv
  obtain ⟨rfl, hsz, hP, hK, hD0⟩ := hv
  have hx := B.exec
  have hb := B.bytes
  have hr := B.returns
  have hT : ∀ w ∈ tblG, w.before _ s = true := fun w h => atoms_spec (ws := (Cond.code my_Mo_isBlank cd_Mo_isBlank 1 (some (.boolean)) :: tblG)) B.pre w (List.mem_cons_of_mem _ h)
  have hown : s.vm.findClass "StrataBaseModel" = some m.cls := findClass_of_methodNamed B.named
  have hlocks := B.notSynchronized
  subst hsz
  have hD := hD0.self (sz := s.heap.size)
  generalize hAe : va_A [] s.heap.size = A at hD ⊢
  have hA : ∀ q : Nat, s.heap.size ≤ q → A q := fun q h => by rw [← hAe]; exact Or.inr h
  have hS : va_S A s.heap s.heap [] := va_S.rf
  have hl := lv_entry ([.int x]) (n := 1) (Nat.le_of_ble_eq_true rfl)
  rw [lg_entry_eq]
  generalize (lg_sl ([.int x]) ++ List.replicate (1 - (lg_sl ([.int x])).length) Slot.unset).toArray = ls at hl ⊢
  have hl : lv_has ls 1 [(0, .int x)] := hl
  unfold wp_met_Mo_isBlank at hw
  refine lv_iload_n hx hb dc_Mo_isBlank_0 rfl (lv_at hl 0 rfl) ?_
  refine lv_bipush (v := 9) hx hb dc_Mo_isBlank_1 (by decide) ?_
  refine lv_icmp_eq (tgt := 24) hx hb dc_Mo_isBlank_3 (by decide) (fun h3 => ?_) (fun h3 => ?_)
  · have hw := hw.1 h3
    refine lv_iconst (v := 1) hx hb dc_Mo_isBlank_24 (by decide) ?_
    refine lv_goto (tgt := 29) hx hb dc_Mo_isBlank_25 (by decide) ?_
    refine W.widen (k := 0) (n := 0) (Nat.le_of_ble_eq_true rfl) (Nat.le_of_ble_eq_true rfl) ?_
    exact W.zret (v := 1) hx hb hr (by decide) (fun t ht hW => ⟨⟨1, (), rfl, hw, by rw [ht]; exact hP, va_K.moved hW.alike hK, hD⟩, hS.F ht⟩) hS.2.2 dc_Mo_isBlank_29
  · have hw := hw.2 h3
    refine lv_iload_n hx hb dc_Mo_isBlank_6 rfl (lv_at hl 0 rfl) ?_
    refine lv_bipush (v := 10) hx hb dc_Mo_isBlank_7 (by decide) ?_
    refine lv_icmp_eq (tgt := 24) hx hb dc_Mo_isBlank_9 (by decide) (fun h9 => ?_) (fun h9 => ?_)
    · have hw := hw.1 h9
      refine lv_iconst (v := 1) hx hb dc_Mo_isBlank_24 (by decide) ?_
      refine lv_goto (tgt := 29) hx hb dc_Mo_isBlank_25 (by decide) ?_
      refine W.widen (k := 0) (n := 0) (Nat.le_of_ble_eq_true rfl) (Nat.le_of_ble_eq_true rfl) ?_
      exact W.zret (v := 1) hx hb hr (by decide) (fun t ht hW => ⟨⟨1, (), rfl, hw, by rw [ht]; exact hP, va_K.moved hW.alike hK, hD⟩, hS.F ht⟩) hS.2.2 dc_Mo_isBlank_29
    · have hw := hw.2 h9
      refine lv_iload_n hx hb dc_Mo_isBlank_12 rfl (lv_at hl 0 rfl) ?_
      refine lv_bipush (v := 13) hx hb dc_Mo_isBlank_13 (by decide) ?_
      refine lv_icmp_eq (tgt := 24) hx hb dc_Mo_isBlank_15 (by decide) (fun h15 => ?_) (fun h15 => ?_)
      · have hw := hw.1 h15
        refine lv_iconst (v := 1) hx hb dc_Mo_isBlank_24 (by decide) ?_
        refine lv_goto (tgt := 29) hx hb dc_Mo_isBlank_25 (by decide) ?_
        refine W.widen (k := 0) (n := 0) (Nat.le_of_ble_eq_true rfl) (Nat.le_of_ble_eq_true rfl) ?_
        exact W.zret (v := 1) hx hb hr (by decide) (fun t ht hW => ⟨⟨1, (), rfl, hw, by rw [ht]; exact hP, va_K.moved hW.alike hK, hD⟩, hS.F ht⟩) hS.2.2 dc_Mo_isBlank_29
      · have hw := hw.2 h15
        refine lv_iload_n hx hb dc_Mo_isBlank_18 rfl (lv_at hl 0 rfl) ?_
        refine lv_bipush (v := 32) hx hb dc_Mo_isBlank_19 (by decide) ?_
        refine lv_icmp_ne (tgt := 28) hx hb dc_Mo_isBlank_21 (by decide) (fun h21 => ?_) (fun h21 => ?_)
        · have hw := hw.2 h21
          refine lv_iconst (v := 0) hx hb dc_Mo_isBlank_28 (by decide) ?_
          refine W.widen (k := 0) (n := 0) (Nat.le_of_ble_eq_true rfl) (Nat.le_of_ble_eq_true rfl) ?_
          exact W.zret (v := 0) hx hb hr (by decide) (fun t ht hW => ⟨⟨0, (), rfl, hw, by rw [ht]; exact hP, va_K.moved hW.alike hK, hD⟩, hS.F ht⟩) hS.2.2 dc_Mo_isBlank_29
        · have hw := hw.1 h21
          refine lv_iconst (v := 1) hx hb dc_Mo_isBlank_24 (by decide) ?_
          refine lv_goto (tgt := 29) hx hb dc_Mo_isBlank_25 (by decide) ?_
          refine W.widen (k := 0) (n := 0) (Nat.le_of_ble_eq_true rfl) (Nat.le_of_ble_eq_true rfl) ?_
          exact W.zret (v := 1) hx hb hr (by decide) (fun t ht hW => ⟨⟨1, (), rfl, hw, by rw [ht]; exact hP, va_K.moved hW.alike hK, hD⟩, hS.F ht⟩) hS.2.2 dc_Mo_isBlank_29

def wp_met_Na_clear (post : (Int32 × Int32) → Prop) (size_ : Int32) (used_ : Int32) : Prop := post ((0 : Int32), (0 : Int32))
set_option maxHeartbeats 4000000 in
set_option maxRecDepth 100000 in
theorem met_Na_clear (l : Launch) (dC : Nat → ClassId) (dI : Nat → Nat → Nat) (h0 : Nat) (starts_ : Nat) (lengths_ : Nat) (text_ : Nat) (size_ : Int32) (used_ : Int32) (sz : Nat) {post : (Int32 × Int32) → Prop} (hw : wp_met_Na_clear post size_ used_) : Met l my_Na_clear (Cond.code my_Na_clear cd_Na_clear 1 none :: tblG) ({ frames := 0, cells := 0, slots := 0, locals := 0 }) (va_Pc [.ref h0] (fun U => U.heap.size = sz ∧ va_P (dC, dI) vwCl [(h0, .inr (6, [.int size_, .ref starts_, .ref lengths_, .ref text_, .int used_]))] U.heap ∧ va_K (dC, dI) vwCl [] U ∧ va_D (fun _ => True) [(h0, .inr (6, [.int size_, .ref starts_, .ref lengths_, .ref text_, .int used_]))])) (va_Qv post (fun (u : Int32 × Int32) (t : State) => match u with | (o0, o1) => va_P (dC, dI) vwCl [(h0, .inr (6, [.int o0, .ref starts_, .ref lengths_, .ref text_, .int o1]))] t.heap ∧ va_K (dC, dI) vwCl [] t ∧ va_D (va_A [(h0, .inr (6, [.int size_, .ref starts_, .ref lengths_, .ref text_, .int used_]))] sz) [(h0, .inr (6, [.int o0, .ref starts_, .ref lengths_, .ref text_, .int o1]))]) (va_A [(h0, .inr (6, [.int size_, .ref starts_, .ref lengths_, .ref text_, .int used_]))] sz)) 0 0 (va_A [(h0, .inr (6, [.int size_, .ref starts_, .ref lengths_, .ref text_, .int used_]))] sz) := by
  refine Met.ofW (cc := cd_Na_clear) (maxL := 1) (ret := none) (by decide) rfl ?_
  intro p e s m args below meth c s₁ B hml hv
  obtain ⟨rfl, hsz, hP, hK, hD0⟩ := hv
  have hx := B.exec
  have hb := B.bytes
  have hr := B.returns
  have hT : ∀ w ∈ tblG, w.before _ s = true := fun w h => atoms_spec (ws := (Cond.code my_Na_clear cd_Na_clear 1 none :: tblG)) B.pre w (List.mem_cons_of_mem _ h)
  have hown : s.vm.findClass "StrataBase$Names" = some m.cls := findClass_of_methodNamed B.named
  have hlocks := B.notSynchronized
  subst hsz
  have hD := hD0.self (sz := s.heap.size)
  generalize hAe : va_A [(h0, .inr (6, [.int size_, .ref starts_, .ref lengths_, .ref text_, .int used_]))] s.heap.size = A at hD ⊢
  have hA : ∀ q : Nat, s.heap.size ≤ q → A q := fun q h => by rw [← hAe]; exact Or.inr h
  have hS : va_S A s.heap s.heap [] := va_S.rf
  have hl := lv_entry ([.ref h0]) (n := 1) (Nat.le_of_ble_eq_true rfl)
  rw [lg_entry_eq]
  generalize (lg_sl ([.ref h0]) ++ List.replicate (1 - (lg_sl ([.ref h0])).length) Slot.unset).toArray = ls at hl ⊢
  have hl : lv_has ls 1 [(0, .ref h0)] := hl
  unfold wp_met_Na_clear at hw
  refine lv_aload_n hx hb dc_Na_clear_0 rfl (lv_at hl 0 rfl) ?_
  refine lv_iconst (v := 0) hx hb dc_Na_clear_1 (by decide) ?_
  refine va_put (D := (dC, dI)) (ci := 6) (v := .int 0) (ty := .int) (C := "StrataBase$Names") (T := tb_Na) (N := 5) hx hb hT in_Na ty_Na tk_Na nm_Na hown hK hP hD hS 0 rfl rfl 0 (by decide) (hT _ wd_104) (fun _ h9 => h9) rfl (by decide +kernel) rfl rfl (Nat.le_of_ble_eq_true rfl) dc_Na_clear_2 (fun H locs hP hD hS => ?_)
  have hP : va_P (dC, dI) vwCl [(h0, .inr (6, [.int 0, .ref starts_, .ref lengths_, .ref text_, .int used_]))] H := hP
  have hD : va_D A [(h0, .inr (6, [.int 0, .ref starts_, .ref lengths_, .ref text_, .int used_]))] := hD
  refine lv_aload_n hx hb dc_Na_clear_5 rfl (lv_at hl 0 rfl) ?_
  refine lv_iconst (v := 0) hx hb dc_Na_clear_6 (by decide) ?_
  refine va_put (D := (dC, dI)) (ci := 6) (v := .int 0) (ty := .int) (C := "StrataBase$Names") (T := tb_Na) (N := 5) hx hb hT in_Na ty_Na tk_Na nm_Na hown hK hP hD hS 0 rfl rfl 4 (by decide) (hT _ wd_112) (fun _ h9 => h9) rfl (by decide +kernel) rfl rfl (Nat.le_of_ble_eq_true rfl) dc_Na_clear_7 (fun H locs hP hD hS => ?_)
  have hP : va_P (dC, dI) vwCl [(h0, .inr (6, [.int 0, .ref starts_, .ref lengths_, .ref text_, .int 0]))] H := hP
  have hD : va_D A [(h0, .inr (6, [.int 0, .ref starts_, .ref lengths_, .ref text_, .int 0]))] := hD
  refine W.widen (k := 0) (n := 0) (Nat.le_of_ble_eq_true rfl) (Nat.le_of_ble_eq_true rfl) ?_
  exact W.vret hx hb hr (fun t ht hW => ⟨⟨((0 : Int32), (0 : Int32)), rfl, hw, by rw [ht]; exact hP, va_K.moved hW.alike hK, hD⟩, hS.F ht⟩) hS.2.2 dc_Na_clear_10

def wp_met_Cl_clear (post : (Int32 × Int32) → Prop) (size_ : Int32) (literals_ : Int32) : Prop := post ((0 : Int32), (0 : Int32))
set_option maxHeartbeats 4000000 in
set_option maxRecDepth 100000 in
theorem met_Cl_clear (l : Launch) (dC : Nat → ClassId) (dI : Nat → Nat → Nat) (h0 : Nat) (first_ : Nat) (kinds_ : Nat) (predicates_ : Nat) (places_ : Nat) (sizes_ : Nat) (masks_ : Nat) (terms_ : Nat) (size_ : Int32) (literals_ : Int32) (sz : Nat) {post : (Int32 × Int32) → Prop} (hw : wp_met_Cl_clear post size_ literals_) : Met l my_Cl_clear (Cond.code my_Cl_clear cd_Cl_clear 1 none :: tblG) ({ frames := 0, cells := 0, slots := 0, locals := 0 }) (va_Pc [.ref h0] (fun U => U.heap.size = sz ∧ va_P (dC, dI) vwCl [(h0, .inr (1, [.int size_, .ref first_, .ref kinds_, .ref predicates_, .ref places_, .ref sizes_, .ref masks_, .ref terms_, .int literals_]))] U.heap ∧ va_K (dC, dI) vwCl [] U ∧ va_D (fun _ => True) [(h0, .inr (1, [.int size_, .ref first_, .ref kinds_, .ref predicates_, .ref places_, .ref sizes_, .ref masks_, .ref terms_, .int literals_]))])) (va_Qv post (fun (u : Int32 × Int32) (t : State) => match u with | (o0, o1) => va_P (dC, dI) vwCl [(h0, .inr (1, [.int o0, .ref first_, .ref kinds_, .ref predicates_, .ref places_, .ref sizes_, .ref masks_, .ref terms_, .int o1]))] t.heap ∧ va_K (dC, dI) vwCl [] t ∧ va_D (va_A [(h0, .inr (1, [.int size_, .ref first_, .ref kinds_, .ref predicates_, .ref places_, .ref sizes_, .ref masks_, .ref terms_, .int literals_]))] sz) [(h0, .inr (1, [.int o0, .ref first_, .ref kinds_, .ref predicates_, .ref places_, .ref sizes_, .ref masks_, .ref terms_, .int o1]))]) (va_A [(h0, .inr (1, [.int size_, .ref first_, .ref kinds_, .ref predicates_, .ref places_, .ref sizes_, .ref masks_, .ref terms_, .int literals_]))] sz)) 0 0 (va_A [(h0, .inr (1, [.int size_, .ref first_, .ref kinds_, .ref predicates_, .ref places_, .ref sizes_, .ref masks_, .ref terms_, .int literals_]))] sz) := by
  refine Met.ofW (cc := cd_Cl_clear) (maxL := 1) (ret := none) (by decide) rfl ?_
  intro p e s m args below meth c s₁ B hml hv
  obtain ⟨rfl, hsz, hP, hK, hD0⟩ := hv
  have hx := B.exec
  have hb := B.bytes
  have hr := B.returns
  have hT : ∀ w ∈ tblG, w.before _ s = true := fun w h => atoms_spec (ws := (Cond.code my_Cl_clear cd_Cl_clear 1 none :: tblG)) B.pre w (List.mem_cons_of_mem _ h)
  have hown : s.vm.findClass "StrataBase$Clauses" = some m.cls := findClass_of_methodNamed B.named
  have hlocks := B.notSynchronized
  subst hsz
  have hD := hD0.self (sz := s.heap.size)
  generalize hAe : va_A [(h0, .inr (1, [.int size_, .ref first_, .ref kinds_, .ref predicates_, .ref places_, .ref sizes_, .ref masks_, .ref terms_, .int literals_]))] s.heap.size = A at hD ⊢
  have hA : ∀ q : Nat, s.heap.size ≤ q → A q := fun q h => by rw [← hAe]; exact Or.inr h
  have hS : va_S A s.heap s.heap [] := va_S.rf
  have hl := lv_entry ([.ref h0]) (n := 1) (Nat.le_of_ble_eq_true rfl)
  rw [lg_entry_eq]
  generalize (lg_sl ([.ref h0]) ++ List.replicate (1 - (lg_sl ([.ref h0])).length) Slot.unset).toArray = ls at hl ⊢
  have hl : lv_has ls 1 [(0, .ref h0)] := hl
  unfold wp_met_Cl_clear at hw
  refine lv_aload_n hx hb dc_Cl_clear_0 rfl (lv_at hl 0 rfl) ?_
  refine lv_iconst (v := 0) hx hb dc_Cl_clear_1 (by decide) ?_
  refine va_put (D := (dC, dI)) (ci := 1) (v := .int 0) (ty := .int) (C := "StrataBase$Clauses") (T := tb_Cl) (N := 9) hx hb hT in_Cl ty_Cl tk_Cl nm_Cl hown hK hP hD hS 0 rfl rfl 0 (by decide) (hT _ wd_46) (fun _ h9 => h9) rfl (by decide +kernel) rfl rfl (Nat.le_of_ble_eq_true rfl) dc_Cl_clear_2 (fun H locs hP hD hS => ?_)
  have hP : va_P (dC, dI) vwCl [(h0, .inr (1, [.int 0, .ref first_, .ref kinds_, .ref predicates_, .ref places_, .ref sizes_, .ref masks_, .ref terms_, .int literals_]))] H := hP
  have hD : va_D A [(h0, .inr (1, [.int 0, .ref first_, .ref kinds_, .ref predicates_, .ref places_, .ref sizes_, .ref masks_, .ref terms_, .int literals_]))] := hD
  refine lv_aload_n hx hb dc_Cl_clear_5 rfl (lv_at hl 0 rfl) ?_
  refine lv_iconst (v := 0) hx hb dc_Cl_clear_6 (by decide) ?_
  refine va_put (D := (dC, dI)) (ci := 1) (v := .int 0) (ty := .int) (C := "StrataBase$Clauses") (T := tb_Cl) (N := 9) hx hb hT in_Cl ty_Cl tk_Cl nm_Cl hown hK hP hD hS 0 rfl rfl 8 (by decide) (hT _ wd_76) (fun _ h9 => h9) rfl (by decide +kernel) rfl rfl (Nat.le_of_ble_eq_true rfl) dc_Cl_clear_7 (fun H locs hP hD hS => ?_)
  have hP : va_P (dC, dI) vwCl [(h0, .inr (1, [.int 0, .ref first_, .ref kinds_, .ref predicates_, .ref places_, .ref sizes_, .ref masks_, .ref terms_, .int 0]))] H := hP
  have hD : va_D A [(h0, .inr (1, [.int 0, .ref first_, .ref kinds_, .ref predicates_, .ref places_, .ref sizes_, .ref masks_, .ref terms_, .int 0]))] := hD
  refine W.widen (k := 0) (n := 0) (Nat.le_of_ble_eq_true rfl) (Nat.le_of_ble_eq_true rfl) ?_
  exact W.vret hx hb hr (fun t ht hW => ⟨⟨((0 : Int32), (0 : Int32)), rfl, hw, by rw [ht]; exact hP, va_K.moved hW.alike hK, hD⟩, hS.F ht⟩) hS.2.2 dc_Cl_clear_10

def wp_met_Cl_newest (post : Int32 → Unit → Prop) (size_ : Int32) (literals_ : Int32) : Prop := ∀ y1 : Int32, y1 = literals_ - (1 : Int32) → (post y1 ())
set_option maxHeartbeats 4000000 in
set_option maxRecDepth 100000 in
theorem met_Cl_newest (l : Launch) (dC : Nat → ClassId) (dI : Nat → Nat → Nat) (h0 : Nat) (first_ : Nat) (kinds_ : Nat) (predicates_ : Nat) (places_ : Nat) (sizes_ : Nat) (masks_ : Nat) (terms_ : Nat) (size_ : Int32) (literals_ : Int32) (sz : Nat) {post : Int32 → Unit → Prop} (hw : wp_met_Cl_newest post size_ literals_) : Met l my_Cl_newest (Cond.code my_Cl_newest cd_Cl_newest 1 (some (.int)) :: tblG) ({ frames := 0, cells := 0, slots := 0, locals := 0 }) (va_Pc [.ref h0] (fun U => U.heap.size = sz ∧ va_P (dC, dI) vwCl [(h0, .inr (1, [.int size_, .ref first_, .ref kinds_, .ref predicates_, .ref places_, .ref sizes_, .ref masks_, .ref terms_, .int literals_]))] U.heap ∧ va_K (dC, dI) vwCl [] U ∧ va_D (fun _ => True) [(h0, .inr (1, [.int size_, .ref first_, .ref kinds_, .ref predicates_, .ref places_, .ref sizes_, .ref masks_, .ref terms_, .int literals_]))])) (va_Qi post (fun (u : Unit) (t : State) => va_P (dC, dI) vwCl [(h0, .inr (1, [.int size_, .ref first_, .ref kinds_, .ref predicates_, .ref places_, .ref sizes_, .ref masks_, .ref terms_, .int literals_]))] t.heap ∧ va_K (dC, dI) vwCl [] t ∧ va_D (va_A [(h0, .inr (1, [.int size_, .ref first_, .ref kinds_, .ref predicates_, .ref places_, .ref sizes_, .ref masks_, .ref terms_, .int literals_]))] sz) [(h0, .inr (1, [.int size_, .ref first_, .ref kinds_, .ref predicates_, .ref places_, .ref sizes_, .ref masks_, .ref terms_, .int literals_]))]) (va_A [(h0, .inr (1, [.int size_, .ref first_, .ref kinds_, .ref predicates_, .ref places_, .ref sizes_, .ref masks_, .ref terms_, .int literals_]))] sz)) 0 0 (va_A [(h0, .inr (1, [.int size_, .ref first_, .ref kinds_, .ref predicates_, .ref places_, .ref sizes_, .ref masks_, .ref terms_, .int literals_]))] sz) := by
  refine Met.ofW (cc := cd_Cl_newest) (maxL := 1) (ret := (some (.int))) (by decide) rfl ?_
  intro p e s m args below meth c s₁ B hml hv
  obtain ⟨rfl, hsz, hP, hK, hD0⟩ := hv
  have hx := B.exec
  have hb := B.bytes
  have hr := B.returns
  have hT : ∀ w ∈ tblG, w.before _ s = true := fun w h => atoms_spec (ws := (Cond.code my_Cl_newest cd_Cl_newest 1 (some (.int)) :: tblG)) B.pre w (List.mem_cons_of_mem _ h)
  have hown : s.vm.findClass "StrataBase$Clauses" = some m.cls := findClass_of_methodNamed B.named
  have hlocks := B.notSynchronized
  subst hsz
  have hD := hD0.self (sz := s.heap.size)
  generalize hAe : va_A [(h0, .inr (1, [.int size_, .ref first_, .ref kinds_, .ref predicates_, .ref places_, .ref sizes_, .ref masks_, .ref terms_, .int literals_]))] s.heap.size = A at hD ⊢
  have hA : ∀ q : Nat, s.heap.size ≤ q → A q := fun q h => by rw [← hAe]; exact Or.inr h
  have hS : va_S A s.heap s.heap [] := va_S.rf
  have hl := lv_entry ([.ref h0]) (n := 1) (Nat.le_of_ble_eq_true rfl)
  rw [lg_entry_eq]
  generalize (lg_sl ([.ref h0]) ++ List.replicate (1 - (lg_sl ([.ref h0])).length) Slot.unset).toArray = ls at hl ⊢
  have hl : lv_has ls 1 [(0, .ref h0)] := hl
  unfold wp_met_Cl_newest at hw
  refine lv_aload_n hx hb dc_Cl_newest_0 rfl (lv_at hl 0 rfl) ?_
  refine va_get (D := (dC, dI)) (ci := 1) (v := .int literals_) (C := "StrataBase$Clauses") (T := tb_Cl) (N := 9) hx hb hT in_Cl hown hK hP 0 rfl rfl 8 (by decide) (hT _ wd_76) (fun _ h9 => h9) rfl dc_Cl_newest_1 ?_
  refine lv_iconst (v := 1) hx hb dc_Cl_newest_4 (by decide) ?_
  refine lv_isub hx hb dc_Cl_newest_5 ?_
  refine lv_topi (fun y1 ey1 => ?_)
  have hw := hw y1 ey1
  refine W.widen (k := 0) (n := 0) (Nat.le_of_ble_eq_true rfl) (Nat.le_of_ble_eq_true rfl) ?_
  exact W.iret (v := y1) hx hb hr (fun t ht hW => ⟨⟨y1, (), rfl, hw, by rw [ht]; exact hP, va_K.moved hW.alike hK, hD⟩, hS.F ht⟩) hS.2.2 dc_Cl_newest_6

def wp_met_Fa_shiftOf (post : Int32 → Unit → Prop) (x : Int32) : Prop := ∀ y1 : Int32, y1 = (10 : Int32) * x → (∀ y2 : Int32, y2 = (50 : Int32) - y1 → (post y2 ()))
set_option maxHeartbeats 4000000 in
set_option maxRecDepth 100000 in
theorem met_Fa_shiftOf (l : Launch) (dC : Nat → ClassId) (dI : Nat → Nat → Nat) (x : Int32) (sz : Nat) {post : Int32 → Unit → Prop} (hw : wp_met_Fa_shiftOf post x) : Met l my_Fa_shiftOf (Cond.code my_Fa_shiftOf cd_Fa_shiftOf 1 (some (.int)) :: tblG) ({ frames := 0, cells := 0, slots := 0, locals := 0 }) (va_Pc [.int x] (fun U => U.heap.size = sz ∧ va_P (dC, dI) vwCl [] U.heap ∧ va_K (dC, dI) vwCl [] U ∧ va_D (fun _ => True) [])) (va_Qi post (fun (u : Unit) (t : State) => va_P (dC, dI) vwCl [] t.heap ∧ va_K (dC, dI) vwCl [] t ∧ va_D (va_A [] sz) []) (va_A [] sz)) 0 0 (va_A [] sz) := by
  refine Met.ofW (cc := cd_Fa_shiftOf) (maxL := 1) (ret := (some (.int))) (by decide) rfl ?_
  intro p e s m args below meth c s₁ B hml hv
  obtain ⟨rfl, hsz, hP, hK, hD0⟩ := hv
  have hx := B.exec
  have hb := B.bytes
  have hr := B.returns
  have hT : ∀ w ∈ tblG, w.before _ s = true := fun w h => atoms_spec (ws := (Cond.code my_Fa_shiftOf cd_Fa_shiftOf 1 (some (.int)) :: tblG)) B.pre w (List.mem_cons_of_mem _ h)
  have hown : s.vm.findClass "StrataBase$Facts" = some m.cls := findClass_of_methodNamed B.named
  have hlocks := B.notSynchronized
  subst hsz
  have hD := hD0.self (sz := s.heap.size)
  generalize hAe : va_A [] s.heap.size = A at hD ⊢
  have hA : ∀ q : Nat, s.heap.size ≤ q → A q := fun q h => by rw [← hAe]; exact Or.inr h
  have hS : va_S A s.heap s.heap [] := va_S.rf
  have hl := lv_entry ([.int x]) (n := 1) (Nat.le_of_ble_eq_true rfl)
  rw [lg_entry_eq]
  generalize (lg_sl ([.int x]) ++ List.replicate (1 - (lg_sl ([.int x])).length) Slot.unset).toArray = ls at hl ⊢
  have hl : lv_has ls 1 [(0, .int x)] := hl
  unfold wp_met_Fa_shiftOf at hw
  refine lv_bipush (v := 50) hx hb dc_Fa_shiftOf_0 (by decide) ?_
  refine lv_bipush (v := 10) hx hb dc_Fa_shiftOf_2 (by decide) ?_
  refine lv_iload_n hx hb dc_Fa_shiftOf_4 rfl (lv_at hl 0 rfl) ?_
  refine lv_imul hx hb dc_Fa_shiftOf_5 ?_
  refine lv_topi (fun y1 ey1 => ?_)
  have hw := hw y1 ey1
  refine lv_isub hx hb dc_Fa_shiftOf_6 ?_
  refine lv_topi (fun y2 ey2 => ?_)
  have hw := hw y2 ey2
  refine W.widen (k := 0) (n := 0) (Nat.le_of_ble_eq_true rfl) (Nat.le_of_ble_eq_true rfl) ?_
  exact W.iret (v := y2) hx hb hr (fun t ht hW => ⟨⟨y2, (), rfl, hw, by rw [ht]; exact hP, va_K.moved hW.alike hK, hD⟩, hS.F ht⟩) hS.2.2 dc_Fa_shiftOf_7

def wp_met_Na_lengthOf (post : Int32 → Unit → Prop) (nl : Nat) (x : Int32) (size_ : Int32) (used_ : Int32) (fl : Nat → Int32) : Prop := vp_in x nl ∧ (∀ y2 : Int32, y2 = fl x.toNatClampNeg → (post y2 ()))
set_option maxHeartbeats 4000000 in
set_option maxRecDepth 100000 in
theorem met_Na_lengthOf (l : Launch) (dC : Nat → ClassId) (dI : Nat → Nat → Nat) (nl : Nat) (h0 : Nat) (starts_ : Nat) (lengths_ : Nat) (text_ : Nat) (x : Int32) (size_ : Int32) (used_ : Int32) (fl : Nat → Int32) (k1 : ClassId) (sz : Nat) {post : Int32 → Unit → Prop} (hw : wp_met_Na_lengthOf post nl x size_ used_ fl) : Met l my_Na_lengthOf (Cond.code my_Na_lengthOf cd_Na_lengthOf 2 (some (.int)) :: tblG) ({ frames := 0, cells := 0, slots := 0, locals := 0 }) (va_Pc [.ref h0, .int x] (fun U => U.heap.size = sz ∧ va_P (dC, dI) vwCl [(h0, .inr (6, [.int size_, .ref starts_, .ref lengths_, .ref text_, .int used_])), (lengths_, .inl (k1, nl, .inl fl))] U.heap ∧ va_K (dC, dI) vwCl [(k1, .int)] U ∧ va_D (fun _ => True) [(h0, .inr (6, [.int size_, .ref starts_, .ref lengths_, .ref text_, .int used_])), (lengths_, .inl (k1, nl, .inl fl))])) (va_Qi post (fun (u : Unit) (t : State) => va_P (dC, dI) vwCl [(h0, .inr (6, [.int size_, .ref starts_, .ref lengths_, .ref text_, .int used_])), (lengths_, .inl (k1, nl, .inl fl))] t.heap ∧ va_K (dC, dI) vwCl [(k1, .int)] t ∧ va_D (va_A [(h0, .inr (6, [.int size_, .ref starts_, .ref lengths_, .ref text_, .int used_])), (lengths_, .inl (k1, nl, .inl fl))] sz) [(h0, .inr (6, [.int size_, .ref starts_, .ref lengths_, .ref text_, .int used_])), (lengths_, .inl (k1, nl, .inl fl))]) (va_A [(h0, .inr (6, [.int size_, .ref starts_, .ref lengths_, .ref text_, .int used_])), (lengths_, .inl (k1, nl, .inl fl))] sz)) 0 0 (va_A [(h0, .inr (6, [.int size_, .ref starts_, .ref lengths_, .ref text_, .int used_])), (lengths_, .inl (k1, nl, .inl fl))] sz) := by
  refine Met.ofW (cc := cd_Na_lengthOf) (maxL := 2) (ret := (some (.int))) (by decide) rfl ?_
  intro p e s m args below meth c s₁ B hml hv
  obtain ⟨rfl, hsz, hP, hK, hD0⟩ := hv
  have hx := B.exec
  have hb := B.bytes
  have hr := B.returns
  have hT : ∀ w ∈ tblG, w.before _ s = true := fun w h => atoms_spec (ws := (Cond.code my_Na_lengthOf cd_Na_lengthOf 2 (some (.int)) :: tblG)) B.pre w (List.mem_cons_of_mem _ h)
  have hown : s.vm.findClass "StrataBase$Names" = some m.cls := findClass_of_methodNamed B.named
  have hlocks := B.notSynchronized
  subst hsz
  have hD := hD0.self (sz := s.heap.size)
  generalize hAe : va_A [(h0, .inr (6, [.int size_, .ref starts_, .ref lengths_, .ref text_, .int used_])), (lengths_, .inl (k1, nl, .inl fl))] s.heap.size = A at hD ⊢
  have hA : ∀ q : Nat, s.heap.size ≤ q → A q := fun q h => by rw [← hAe]; exact Or.inr h
  have hS : va_S A s.heap s.heap [] := va_S.rf
  have hl := lv_entry ([.ref h0, .int x]) (n := 2) (Nat.le_of_ble_eq_true rfl)
  rw [lg_entry_eq]
  generalize (lg_sl ([.ref h0, .int x]) ++ List.replicate (2 - (lg_sl ([.ref h0, .int x])).length) Slot.unset).toArray = ls at hl ⊢
  have hl : lv_has ls 2 [(0, .ref h0), (1, .int x)] := hl
  unfold wp_met_Na_lengthOf at hw
  refine lv_aload_n hx hb dc_Na_lengthOf_0 rfl (lv_at hl 0 rfl) ?_
  refine va_get (D := (dC, dI)) (ci := 6) (v := .ref lengths_) (C := "StrataBase$Names") (T := tb_Na) (N := 5) hx hb hT in_Na hown hK hP 0 rfl rfl 2 (by decide) (hT _ wd_110) (fun _ h9 => h9) rfl dc_Na_lengthOf_1 ?_
  refine lv_iload_n hx hb dc_Na_lengthOf_4 rfl (lv_at hl 1 rfl) ?_
  obtain ⟨hv1, hw⟩ := hw
  refine va_iald hx hb hK hP 1 0 rfl rfl hv1 dc_Na_lengthOf_5 ?_
  refine lv_topi (fun y2 ey2 => ?_)
  have hw := hw y2 ey2
  refine W.widen (k := 0) (n := 0) (Nat.le_of_ble_eq_true rfl) (Nat.le_of_ble_eq_true rfl) ?_
  exact W.iret (v := y2) hx hb hr (fun t ht hW => ⟨⟨y2, (), rfl, hw, by rw [ht]; exact hP, va_K.moved hW.alike hK, hD⟩, hS.F ht⟩) hS.2.2 dc_Na_lengthOf_6
