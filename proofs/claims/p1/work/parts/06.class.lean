theorem uz_i (k : Nat) (x : Int32) : upd (fun _ => x) k x = (fun _ => x) := by
  funext j; unfold upd; split <;> rfl
theorem uz_l (k : Nat) (x : Int64) : vp_updL (fun _ => x) k x = (fun _ => x) := by
  funext j; unfold vp_updL; split <;> rfl
theorem uz_z (k : Nat) (x : Int32) : upd (fun _ => 0) k (vp_nar .boolean 0) = (fun _ => 0) := by
  funext j; unfold upd; split <;> rfl
theorem uz_b (k : Nat) (x : Int32) : upd (fun _ => 0) k (vp_nar .byte 0) = (fun _ => 0) := by
  funext j; unfold upd; split <;> rfl
theorem ex_locs {D : va_G} {cl : List vw_C} {ws : va_W} {A : Nat → Prop} {locs : List Loc} {H : Heap} {s : State} (hP0 : va_P D cl ws s.heap) (hA : ∀ q, A q → va_A ws s.heap.size q) (hS : va_S A s.heap H locs) : ∀ x ∈ locs, ∀ cell, s.heap[x.base]? = some cell → cell.vm.isStatics = false := by
  intro x hx cell hc
  rcases hA _ (hS.2.2 x hx) with ⟨k, e, hk⟩ | h
  · have h1 := hP0 k _ hk
    cases e with
    | inl a =>
      have h2 : s.heap[x.base]? = some (vp_cell a.1 a.2) := h1
      rw [h2] at hc
      obtain rfl := Option.some.inj hc
      have h3 : (vp_cell a.1 a.2).vm = .none := by unfold vp_cell; split <;> rfl
      rw [h3]; rfl
    | inr o =>
      obtain ⟨r, -, cell', h3, -, h4, -⟩ := h1
      have h5 : s.heap[x.base]? = some cell' := h3
      rw [h5] at hc
      obtain rfl := Option.some.inj hc
      rw [h4]; rfl
  · have h1 := (Array.getElem?_eq_some_iff.mp hc).1
    omega
theorem dc_SB_fault_0 : decode cd_SB_fault 0 = .ok (.aload_n 0, 1) := by decide +kernel
theorem dc_SB_fault_1 : decode cd_SB_fault 1 = .ok (.getfield 92, 3) := by decide +kernel
theorem dc_SB_fault_4 : decode cd_SB_fault 4 = .ok (.ireturn, 1) := by decide +kernel
theorem dc_SB_columns_0 : decode cd_SB_columns 0 = .ok (.aload_n 0, 1) := by decide +kernel
theorem dc_SB_columns_1 : decode cd_SB_columns 1 = .ok (.getfield 59, 3) := by decide +kernel
theorem dc_SB_columns_4 : decode cd_SB_columns 4 = .ok (.getfield 156, 3) := by decide +kernel
theorem dc_SB_columns_7 : decode cd_SB_columns 7 = .ok (.ireturn, 1) := by decide +kernel
theorem dc_SB_load_0 : decode cd_SB_load 0 = .ok (.aload_n 0, 1) := by decide +kernel
theorem dc_SB_load_1 : decode cd_SB_load 1 = .ok (.getfield 36, 3) := by decide +kernel
theorem dc_SB_load_4 : decode cd_SB_load 4 = .ok (.iconst 0, 1) := by decide +kernel
theorem dc_SB_load_5 : decode cd_SB_load 5 = .ok (.aload_n 0, 1) := by decide +kernel
theorem dc_SB_load_6 : decode cd_SB_load 6 = .ok (.getfield 10, 3) := by decide +kernel
theorem dc_SB_load_9 : decode cd_SB_load 9 = .ok (.aload_n 0, 1) := by decide +kernel
theorem dc_SB_load_10 : decode cd_SB_load 10 = .ok (.getfield 66, 3) := by decide +kernel
theorem dc_SB_load_13 : decode cd_SB_load 13 = .ok (.aload_n 0, 1) := by decide +kernel
theorem dc_SB_load_14 : decode cd_SB_load 14 = .ok (.getfield 21, 3) := by decide +kernel
theorem dc_SB_load_17 : decode cd_SB_load 17 = .ok (.aload_n 0, 1) := by decide +kernel
theorem dc_SB_load_18 : decode cd_SB_load 18 = .ok (.getfield 21, 3) := by decide +kernel
theorem dc_SB_load_21 : decode cd_SB_load 21 = .ok (.getfield 79, 3) := by decide +kernel
theorem dc_SB_load_24 : decode cd_SB_load 24 = .ok (.invokevirtual 82, 3) := by decide +kernel
theorem dc_SB_load_27 : decode cd_SB_load 27 = .ok (.aload_n 0, 1) := by decide +kernel
theorem dc_SB_load_28 : decode cd_SB_load 28 = .ok (.getfield 36, 3) := by decide +kernel
theorem dc_SB_load_31 : decode cd_SB_load 31 = .ok (.invokevirtual 86, 3) := by decide +kernel
theorem dc_SB_load_34 : decode cd_SB_load 34 = .ok (.aload_n 0, 1) := by decide +kernel
theorem dc_SB_load_35 : decode cd_SB_load 35 = .ok (.invokevirtual 89, 3) := by decide +kernel
theorem dc_SB_load_38 : decode cd_SB_load 38 = .ok (.aload_n 0, 1) := by decide +kernel
theorem dc_SB_load_39 : decode cd_SB_load 39 = .ok (.getfield 92, 3) := by decide +kernel
theorem dc_SB_load_42 : decode cd_SB_load 42 = .ok (.ifCond .eq 11, 3) := by decide +kernel
theorem dc_SB_load_53 : decode cd_SB_load 53 = .ok (.aload_n 0, 1) := by decide +kernel
theorem dc_SB_load_54 : decode cd_SB_load 54 = .ok (.getfield 17, 3) := by decide +kernel
theorem dc_SB_load_57 : decode cd_SB_load 57 = .ok (.astore_n 1, 1) := by decide +kernel
theorem dc_SB_load_58 : decode cd_SB_load 58 = .ok (.aload_n 0, 1) := by decide +kernel
theorem dc_SB_load_59 : decode cd_SB_load 59 = .ok (.aload_n 0, 1) := by decide +kernel
theorem dc_SB_load_60 : decode cd_SB_load 60 = .ok (.getfield 21, 3) := by decide +kernel
theorem dc_SB_load_63 : decode cd_SB_load 63 = .ok (.putfield 17, 3) := by decide +kernel
theorem dc_SB_load_66 : decode cd_SB_load 66 = .ok (.aload_n 0, 1) := by decide +kernel
theorem dc_SB_load_67 : decode cd_SB_load 67 = .ok (.aload_n 1, 1) := by decide +kernel
theorem dc_SB_load_68 : decode cd_SB_load 68 = .ok (.putfield 21, 3) := by decide +kernel
theorem dc_SB_load_71 : decode cd_SB_load 71 = .ok (.aload_n 0, 1) := by decide +kernel
theorem dc_SB_load_72 : decode cd_SB_load 72 = .ok (.getfield 17, 3) := by decide +kernel
theorem dc_SB_load_75 : decode cd_SB_load 75 = .ok (.invokevirtual 98, 3) := by decide +kernel
theorem dc_SB_load_78 : decode cd_SB_load 78 = .ok (.aload_n 0, 1) := by decide +kernel
theorem dc_SB_load_79 : decode cd_SB_load 79 = .ok (.getfield 59, 3) := by decide +kernel
theorem dc_SB_load_82 : decode cd_SB_load 82 = .ok (.iconst 0, 1) := by decide +kernel
theorem dc_SB_load_83 : decode cd_SB_load 83 = .ok (.iconst 0, 1) := by decide +kernel
theorem dc_SB_load_84 : decode cd_SB_load 84 = .ok (.invokevirtual 101, 3) := by decide +kernel
theorem dc_SB_load_87 : decode cd_SB_load 87 = .ok (.aload_n 0, 1) := by decide +kernel
theorem dc_SB_load_88 : decode cd_SB_load 88 = .ok (.iconst 0, 1) := by decide +kernel
theorem dc_SB_load_89 : decode cd_SB_load 89 = .ok (.putfield 105, 3) := by decide +kernel
theorem dc_SB_load_92 : decode cd_SB_load 92 = .ok (.aload_n 0, 1) := by decide +kernel
theorem dc_SB_load_93 : decode cd_SB_load 93 = .ok (.iconst 0, 1) := by decide +kernel
theorem dc_SB_load_94 : decode cd_SB_load 94 = .ok (.putfield 109, 3) := by decide +kernel
theorem dc_SB_load_97 : decode cd_SB_load 97 = .ok (.iconst (-1), 1) := by decide +kernel
theorem dc_SB_load_98 : decode cd_SB_load 98 = .ok (.ireturn, 1) := by decide +kernel
theorem dc_Re_read_0 : decode cd_Re_read 0 = .ok (.aload_n 0, 1) := by decide +kernel
theorem dc_Re_read_1 : decode cd_Re_read 1 = .ok (.iload_n 1, 1) := by decide +kernel
theorem dc_Re_read_2 : decode cd_Re_read 2 = .ok (.putfield 46, 3) := by decide +kernel
theorem dc_Re_read_5 : decode cd_Re_read 5 = .ok (.aload_n 0, 1) := by decide +kernel
theorem dc_Re_read_6 : decode cd_Re_read 6 = .ok (.aload 4, 2) := by decide +kernel
theorem dc_Re_read_8 : decode cd_Re_read 8 = .ok (.putfield 50, 3) := by decide +kernel
theorem dc_Re_read_11 : decode cd_Re_read 11 = .ok (.aload_n 0, 1) := by decide +kernel
theorem dc_Re_read_12 : decode cd_Re_read 12 = .ok (.aload 5, 2) := by decide +kernel
theorem dc_Re_read_14 : decode cd_Re_read 14 = .ok (.putfield 54, 3) := by decide +kernel
theorem dc_Re_read_17 : decode cd_Re_read 17 = .ok (.aload_n 0, 1) := by decide +kernel
theorem dc_Re_read_18 : decode cd_Re_read 18 = .ok (.getfield 25, 3) := by decide +kernel
theorem dc_Re_read_21 : decode cd_Re_read 21 = .ok (.aload_n 2, 1) := by decide +kernel
theorem dc_Re_read_22 : decode cd_Re_read 22 = .ok (.iload_n 3, 1) := by decide +kernel
theorem dc_Re_read_23 : decode cd_Re_read 23 = .ok (.invokevirtual 58, 3) := by decide +kernel
theorem dc_Re_read_26 : decode cd_Re_read 26 = .ok (.aload_n 0, 1) := by decide +kernel
theorem dc_Re_read_27 : decode cd_Re_read 27 = .ok (.invokevirtual 62, 3) := by decide +kernel
theorem dc_Re_read_30 : decode cd_Re_read 30 = .ok (.iconst 0, 1) := by decide +kernel
theorem dc_Re_read_31 : decode cd_Re_read 31 = .ok (.istore 6, 2) := by decide +kernel
theorem dc_Re_read_33 : decode cd_Re_read 33 = .ok (.iload 6, 2) := by decide +kernel
theorem dc_Re_read_35 : decode cd_Re_read 35 = .ok (.iload_n 3, 1) := by decide +kernel
theorem dc_Re_read_36 : decode cd_Re_read 36 = .ok (.if_icmp .gt 172, 3) := by decide +kernel
theorem dc_Re_read_39 : decode cd_Re_read 39 = .ok (.aload_n 0, 1) := by decide +kernel
theorem dc_Re_read_40 : decode cd_Re_read 40 = .ok (.getfield 65, 3) := by decide +kernel
theorem dc_Re_read_43 : decode cd_Re_read 43 = .ok (.bipush 12, 2) := by decide +kernel
theorem dc_Re_read_45 : decode cd_Re_read 45 = .ok (.if_icmp .eq 163, 3) := by decide +kernel
theorem dc_Re_read_48 : decode cd_Re_read 48 = .ok (.aload_n 0, 1) := by decide +kernel
theorem dc_Re_read_49 : decode cd_Re_read 49 = .ok (.getfield 25, 3) := by decide +kernel
theorem dc_Re_read_52 : decode cd_Re_read 52 = .ok (.invokevirtual 68, 3) := by decide +kernel
theorem dc_Re_read_55 : decode cd_Re_read 55 = .ok (.aload_n 0, 1) := by decide +kernel
theorem dc_Re_read_56 : decode cd_Re_read 56 = .ok (.invokevirtual 71, 3) := by decide +kernel
theorem dc_Re_read_59 : decode cd_Re_read 59 = .ok (.aload_n 0, 1) := by decide +kernel
theorem dc_Re_read_60 : decode cd_Re_read 60 = .ok (.getfield 65, 3) := by decide +kernel
theorem dc_Re_read_63 : decode cd_Re_read 63 = .ok (.tableswitch 139 0 11 #[61, 68, 75, 83, 90, 97, 104, 139, 111, 118, 125, 132], 61) := by decide +kernel
theorem dc_Re_read_124 : decode cd_Re_read 124 = .ok (.aload_n 0, 1) := by decide +kernel
theorem dc_Re_read_125 : decode cd_Re_read 125 = .ok (.invokevirtual 74, 3) := by decide +kernel
theorem dc_Re_read_128 : decode cd_Re_read 128 = .ok (.goto 74, 3) := by decide +kernel
theorem dc_Re_read_131 : decode cd_Re_read 131 = .ok (.aload_n 0, 1) := by decide +kernel
theorem dc_Re_read_132 : decode cd_Re_read 132 = .ok (.invokevirtual 77, 3) := by decide +kernel
theorem dc_Re_read_135 : decode cd_Re_read 135 = .ok (.goto 67, 3) := by decide +kernel
theorem dc_Re_read_202 : decode cd_Re_read 202 = .ok (.iinc 6 1, 3) := by decide +kernel
theorem dc_Re_read_205 : decode cd_Re_read 205 = .ok (.goto (-172), 3) := by decide +kernel
theorem dc_Re_read_208 : decode cd_Re_read 208 = .ok (.return_, 1) := by decide +kernel
theorem dc_To_open_0 : decode cd_To_open 0 = .ok (.aload_n 0, 1) := by decide +kernel
theorem dc_To_open_1 : decode cd_To_open 1 = .ok (.aload_n 1, 1) := by decide +kernel
theorem dc_To_open_2 : decode cd_To_open 2 = .ok (.putfield 7, 3) := by decide +kernel
theorem dc_To_open_5 : decode cd_To_open 5 = .ok (.aload_n 0, 1) := by decide +kernel
theorem dc_To_open_6 : decode cd_To_open 6 = .ok (.iload_n 2, 1) := by decide +kernel
theorem dc_To_open_7 : decode cd_To_open 7 = .ok (.putfield 13, 3) := by decide +kernel
theorem dc_To_open_10 : decode cd_To_open 10 = .ok (.aload_n 0, 1) := by decide +kernel
theorem dc_To_open_11 : decode cd_To_open 11 = .ok (.iconst 0, 1) := by decide +kernel
theorem dc_To_open_12 : decode cd_To_open 12 = .ok (.putfield 17, 3) := by decide +kernel
theorem dc_To_open_15 : decode cd_To_open 15 = .ok (.return_, 1) := by decide +kernel
theorem dc_Re_begin_0 : decode cd_Re_begin 0 = .ok (.aload_n 0, 1) := by decide +kernel
theorem dc_Re_begin_1 : decode cd_Re_begin 1 = .ok (.iconst 0, 1) := by decide +kernel
theorem dc_Re_begin_2 : decode cd_Re_begin 2 = .ok (.putfield 104, 3) := by decide +kernel
theorem dc_Re_begin_5 : decode cd_Re_begin 5 = .ok (.aload_n 0, 1) := by decide +kernel
theorem dc_Re_begin_6 : decode cd_Re_begin 6 = .ok (.getfield 54, 3) := by decide +kernel
theorem dc_Re_begin_9 : decode cd_Re_begin 9 = .ok (.invokevirtual 107, 3) := by decide +kernel
theorem dc_Re_begin_12 : decode cd_Re_begin 12 = .ok (.aload_n 0, 1) := by decide +kernel
theorem dc_Re_begin_13 : decode cd_Re_begin 13 = .ok (.getfield 33, 3) := by decide +kernel
theorem dc_Re_begin_16 : decode cd_Re_begin 16 = .ok (.invokevirtual 110, 3) := by decide +kernel
theorem dc_Re_begin_19 : decode cd_Re_begin 19 = .ok (.aload_n 0, 1) := by decide +kernel
theorem dc_Re_begin_20 : decode cd_Re_begin 20 = .ok (.invokevirtual 111, 3) := by decide +kernel
theorem dc_Re_begin_23 : decode cd_Re_begin 23 = .ok (.aload_n 0, 1) := by decide +kernel
theorem dc_Re_begin_24 : decode cd_Re_begin 24 = .ok (.getfield 46, 3) := by decide +kernel
theorem dc_Re_begin_27 : decode cd_Re_begin 27 = .ok (.ifCond .ne 18, 3) := by decide +kernel
theorem dc_Re_begin_30 : decode cd_Re_begin 30 = .ok (.aload_n 0, 1) := by decide +kernel
theorem dc_Re_begin_31 : decode cd_Re_begin 31 = .ok (.getfield 50, 3) := by decide +kernel
theorem dc_Re_begin_34 : decode cd_Re_begin 34 = .ok (.invokevirtual 114, 3) := by decide +kernel
theorem dc_Re_begin_37 : decode cd_Re_begin 37 = .ok (.aload_n 0, 1) := by decide +kernel
theorem dc_Re_begin_38 : decode cd_Re_begin 38 = .ok (.iconst 0, 1) := by decide +kernel
theorem dc_Re_begin_39 : decode cd_Re_begin 39 = .ok (.putfield 65, 3) := by decide +kernel
theorem dc_Re_begin_42 : decode cd_Re_begin 42 = .ok (.goto 34, 3) := by decide +kernel
theorem dc_Re_begin_45 : decode cd_Re_begin 45 = .ok (.aload_n 0, 1) := by decide +kernel
theorem dc_Re_begin_46 : decode cd_Re_begin 46 = .ok (.getfield 46, 3) := by decide +kernel
theorem dc_Re_begin_49 : decode cd_Re_begin 49 = .ok (.iconst 1, 1) := by decide +kernel
theorem dc_Re_begin_50 : decode cd_Re_begin 50 = .ok (.if_icmp .ne 12, 3) := by decide +kernel
theorem dc_Re_begin_62 : decode cd_Re_begin 62 = .ok (.aload_n 0, 1) := by decide +kernel
theorem dc_Re_begin_63 : decode cd_Re_begin 63 = .ok (.getfield 54, 3) := by decide +kernel
theorem dc_Re_begin_66 : decode cd_Re_begin 66 = .ok (.iconst 0, 1) := by decide +kernel
theorem dc_Re_begin_67 : decode cd_Re_begin 67 = .ok (.iconst 0, 1) := by decide +kernel
theorem dc_Re_begin_68 : decode cd_Re_begin 68 = .ok (.invokevirtual 117, 3) := by decide +kernel
theorem dc_Re_begin_71 : decode cd_Re_begin 71 = .ok (.aload_n 0, 1) := by decide +kernel
theorem dc_Re_begin_72 : decode cd_Re_begin 72 = .ok (.iconst 1, 1) := by decide +kernel
theorem dc_Re_begin_73 : decode cd_Re_begin 73 = .ok (.putfield 65, 3) := by decide +kernel
theorem dc_Re_begin_76 : decode cd_Re_begin 76 = .ok (.return_, 1) := by decide +kernel
theorem dc_Cl_clear_0 : decode cd_Cl_clear 0 = .ok (.aload_n 0, 1) := by decide +kernel
theorem dc_Cl_clear_1 : decode cd_Cl_clear 1 = .ok (.iconst 0, 1) := by decide +kernel
theorem dc_Cl_clear_2 : decode cd_Cl_clear 2 = .ok (.putfield 33, 3) := by decide +kernel
theorem dc_Cl_clear_5 : decode cd_Cl_clear 5 = .ok (.aload_n 0, 1) := by decide +kernel
theorem dc_Cl_clear_6 : decode cd_Cl_clear 6 = .ok (.iconst 0, 1) := by decide +kernel
theorem dc_Cl_clear_7 : decode cd_Cl_clear 7 = .ok (.putfield 37, 3) := by decide +kernel
theorem dc_Cl_clear_10 : decode cd_Cl_clear 10 = .ok (.return_, 1) := by decide +kernel
theorem dc_Na_clear_0 : decode cd_Na_clear 0 = .ok (.aload_n 0, 1) := by decide +kernel
theorem dc_Na_clear_1 : decode cd_Na_clear 1 = .ok (.iconst 0, 1) := by decide +kernel
theorem dc_Na_clear_2 : decode cd_Na_clear 2 = .ok (.putfield 22, 3) := by decide +kernel
theorem dc_Na_clear_5 : decode cd_Na_clear 5 = .ok (.aload_n 0, 1) := by decide +kernel
theorem dc_Na_clear_6 : decode cd_Na_clear 6 = .ok (.iconst 0, 1) := by decide +kernel
theorem dc_Na_clear_7 : decode cd_Na_clear 7 = .ok (.putfield 26, 3) := by decide +kernel
theorem dc_Na_clear_10 : decode cd_Na_clear 10 = .ok (.return_, 1) := by decide +kernel
theorem dc_Re_beginBody_0 : decode cd_Re_beginBody 0 = .ok (.aload_n 0, 1) := by decide +kernel
theorem dc_Re_beginBody_1 : decode cd_Re_beginBody 1 = .ok (.getfield 16, 3) := by decide +kernel
theorem dc_Re_beginBody_4 : decode cd_Re_beginBody 4 = .ok (.invokevirtual 110, 3) := by decide +kernel
theorem dc_Re_beginBody_7 : decode cd_Re_beginBody 7 = .ok (.aload_n 0, 1) := by decide +kernel
theorem dc_Re_beginBody_8 : decode cd_Re_beginBody 8 = .ok (.iconst 0, 1) := by decide +kernel
theorem dc_Re_beginBody_9 : decode cd_Re_beginBody 9 = .ok (.putfield 142, 3) := by decide +kernel
theorem dc_Re_beginBody_12 : decode cd_Re_beginBody 12 = .ok (.aload_n 0, 1) := by decide +kernel
theorem dc_Re_beginBody_13 : decode cd_Re_beginBody 13 = .ok (.iconst 0, 1) := by decide +kernel
theorem dc_Re_beginBody_14 : decode cd_Re_beginBody 14 = .ok (.putfield 145, 3) := by decide +kernel
theorem dc_Re_beginBody_17 : decode cd_Re_beginBody 17 = .ok (.aload_n 0, 1) := by decide +kernel
theorem dc_Re_beginBody_18 : decode cd_Re_beginBody 18 = .ok (.iconst 0, 1) := by decide +kernel
theorem dc_Re_beginBody_19 : decode cd_Re_beginBody 19 = .ok (.putfield 148, 3) := by decide +kernel
theorem dc_Re_beginBody_22 : decode cd_Re_beginBody 22 = .ok (.aload_n 0, 1) := by decide +kernel
theorem dc_Re_beginBody_23 : decode cd_Re_beginBody 23 = .ok (.iconst 0, 1) := by decide +kernel
theorem dc_Re_beginBody_24 : decode cd_Re_beginBody 24 = .ok (.putfield 151, 3) := by decide +kernel
theorem dc_Re_beginBody_27 : decode cd_Re_beginBody 27 = .ok (.return_, 1) := by decide +kernel
theorem dc_Pr_clear_0 : decode cd_Pr_clear 0 = .ok (.aload_n 0, 1) := by decide +kernel
theorem dc_Pr_clear_1 : decode cd_Pr_clear 1 = .ok (.getfield 16, 3) := by decide +kernel
theorem dc_Pr_clear_4 : decode cd_Pr_clear 4 = .ok (.invokevirtual 45, 3) := by decide +kernel
theorem dc_Pr_clear_7 : decode cd_Pr_clear 7 = .ok (.aload_n 0, 1) := by decide +kernel
theorem dc_Pr_clear_8 : decode cd_Pr_clear 8 = .ok (.getfield 23, 3) := by decide +kernel
theorem dc_Pr_clear_11 : decode cd_Pr_clear 11 = .ok (.invokevirtual 48, 3) := by decide +kernel
theorem dc_Pr_clear_14 : decode cd_Pr_clear 14 = .ok (.aload_n 0, 1) := by decide +kernel
theorem dc_Pr_clear_15 : decode cd_Pr_clear 15 = .ok (.getfield 37, 3) := by decide +kernel
theorem dc_Pr_clear_18 : decode cd_Pr_clear 18 = .ok (.invokevirtual 49, 3) := by decide +kernel
theorem dc_Pr_clear_21 : decode cd_Pr_clear 21 = .ok (.aload_n 0, 1) := by decide +kernel
theorem dc_Pr_clear_22 : decode cd_Pr_clear 22 = .ok (.getfield 27, 3) := by decide +kernel
theorem dc_Pr_clear_25 : decode cd_Pr_clear 25 = .ok (.iconst (-1), 1) := by decide +kernel
theorem dc_Pr_clear_26 : decode cd_Pr_clear 26 = .ok (.invokestatic 50, 3) := by decide +kernel
theorem dc_Pr_clear_29 : decode cd_Pr_clear 29 = .ok (.return_, 1) := by decide +kernel
theorem dc_Co_clear_0 : decode cd_Co_clear 0 = .ok (.aload_n 0, 1) := by decide +kernel
theorem dc_Co_clear_1 : decode cd_Co_clear 1 = .ok (.getfield 14, 3) := by decide +kernel
theorem dc_Co_clear_4 : decode cd_Co_clear 4 = .ok (.invokevirtual 30, 3) := by decide +kernel
theorem dc_Co_clear_7 : decode cd_Co_clear 7 = .ok (.return_, 1) := by decide +kernel
theorem dc_Ar_fill_0 : decode cd_Ar_fill 0 = .ok (.iconst 0, 1) := by decide +kernel
theorem dc_Ar_fill_1 : decode cd_Ar_fill 1 = .ok (.istore_n 2, 1) := by decide +kernel
theorem dc_Ar_fill_2 : decode cd_Ar_fill 2 = .ok (.aload_n 0, 1) := by decide +kernel
theorem dc_Ar_fill_3 : decode cd_Ar_fill 3 = .ok (.arraylength, 1) := by decide +kernel
theorem dc_Ar_fill_4 : decode cd_Ar_fill 4 = .ok (.istore_n 3, 1) := by decide +kernel
theorem dc_Ar_fill_5 : decode cd_Ar_fill 5 = .ok (.iload_n 2, 1) := by decide +kernel
theorem dc_Ar_fill_6 : decode cd_Ar_fill 6 = .ok (.iload_n 3, 1) := by decide +kernel
theorem dc_Ar_fill_7 : decode cd_Ar_fill 7 = .ok (.if_icmp .ge 13, 3) := by decide +kernel
theorem dc_Ar_fill_10 : decode cd_Ar_fill 10 = .ok (.aload_n 0, 1) := by decide +kernel
theorem dc_Ar_fill_11 : decode cd_Ar_fill 11 = .ok (.iload_n 2, 1) := by decide +kernel
theorem dc_Ar_fill_12 : decode cd_Ar_fill 12 = .ok (.iload_n 1, 1) := by decide +kernel
theorem dc_Ar_fill_13 : decode cd_Ar_fill 13 = .ok (.iastore, 1) := by decide +kernel
theorem dc_Ar_fill_14 : decode cd_Ar_fill 14 = .ok (.iinc 2 1, 3) := by decide +kernel
theorem dc_Ar_fill_17 : decode cd_Ar_fill 17 = .ok (.goto (-12), 3) := by decide +kernel
theorem dc_Ar_fill_20 : decode cd_Ar_fill 20 = .ok (.return_, 1) := by decide +kernel
theorem dc_To_next_0 : decode cd_To_next 0 = .ok (.aload_n 0, 1) := by decide +kernel
theorem dc_To_next_1 : decode cd_To_next 1 = .ok (.invokevirtual 20, 3) := by decide +kernel
theorem dc_To_next_4 : decode cd_To_next 4 = .ok (.aload_n 0, 1) := by decide +kernel
theorem dc_To_next_5 : decode cd_To_next 5 = .ok (.aload_n 0, 1) := by decide +kernel
theorem dc_To_next_6 : decode cd_To_next 6 = .ok (.getfield 17, 3) := by decide +kernel
theorem dc_To_next_9 : decode cd_To_next 9 = .ok (.putfield 23, 3) := by decide +kernel
theorem dc_To_next_12 : decode cd_To_next 12 = .ok (.aload_n 0, 1) := by decide +kernel
theorem dc_To_next_13 : decode cd_To_next 13 = .ok (.iconst 0, 1) := by decide +kernel
theorem dc_To_next_14 : decode cd_To_next 14 = .ok (.putfield 26, 3) := by decide +kernel
theorem dc_To_next_17 : decode cd_To_next 17 = .ok (.aload_n 0, 1) := by decide +kernel
theorem dc_To_next_18 : decode cd_To_next 18 = .ok (.getfield 17, 3) := by decide +kernel
theorem dc_To_next_21 : decode cd_To_next 21 = .ok (.aload_n 0, 1) := by decide +kernel
theorem dc_To_next_22 : decode cd_To_next 22 = .ok (.getfield 13, 3) := by decide +kernel
theorem dc_To_next_25 : decode cd_To_next 25 = .ok (.if_icmp .lt 11, 3) := by decide +kernel
theorem dc_To_next_28 : decode cd_To_next 28 = .ok (.aload_n 0, 1) := by decide +kernel
theorem dc_To_next_29 : decode cd_To_next 29 = .ok (.iconst 0, 1) := by decide +kernel
theorem dc_To_next_30 : decode cd_To_next 30 = .ok (.putfield 29, 3) := by decide +kernel
theorem dc_To_next_33 : decode cd_To_next 33 = .ok (.goto 80, 3) := by decide +kernel
theorem dc_To_next_113 : decode cd_To_next 113 = .ok (.return_, 1) := by decide +kernel
theorem dc_To_skipBlanks_0 : decode cd_To_skipBlanks 0 = .ok (.iconst 0, 1) := by decide +kernel
theorem dc_To_skipBlanks_1 : decode cd_To_skipBlanks 1 = .ok (.istore_n 1, 1) := by decide +kernel
theorem dc_To_skipBlanks_2 : decode cd_To_skipBlanks 2 = .ok (.aload_n 0, 1) := by decide +kernel
theorem dc_To_skipBlanks_3 : decode cd_To_skipBlanks 3 = .ok (.getfield 17, 3) := by decide +kernel
theorem dc_To_skipBlanks_6 : decode cd_To_skipBlanks 6 = .ok (.aload_n 0, 1) := by decide +kernel
theorem dc_To_skipBlanks_7 : decode cd_To_skipBlanks 7 = .ok (.getfield 13, 3) := by decide +kernel
theorem dc_To_skipBlanks_10 : decode cd_To_skipBlanks 10 = .ok (.if_icmp .ge 95, 3) := by decide +kernel
theorem dc_To_skipBlanks_105 : decode cd_To_skipBlanks 105 = .ok (.return_, 1) := by decide +kernel
theorem dc_Re_settleBefore_0 : decode cd_Re_settleBefore 0 = .ok (.aload_n 0, 1) := by decide +kernel
theorem dc_Re_settleBefore_1 : decode cd_Re_settleBefore 1 = .ok (.getfield 65, 3) := by decide +kernel
theorem dc_Re_settleBefore_4 : decode cd_Re_settleBefore 4 = .ok (.bipush 7, 2) := by decide +kernel
theorem dc_Re_settleBefore_6 : decode cd_Re_settleBefore 6 = .ok (.if_icmp .ne 7, 3) := by decide +kernel
theorem dc_Re_settleBefore_13 : decode cd_Re_settleBefore 13 = .ok (.aload_n 0, 1) := by decide +kernel
theorem dc_Re_settleBefore_14 : decode cd_Re_settleBefore 14 = .ok (.getfield 65, 3) := by decide +kernel
theorem dc_Re_settleBefore_17 : decode cd_Re_settleBefore 17 = .ok (.iconst 2, 1) := by decide +kernel
theorem dc_Re_settleBefore_18 : decode cd_Re_settleBefore 18 = .ok (.if_icmp .ne 19, 3) := by decide +kernel
theorem dc_Re_settleBefore_37 : decode cd_Re_settleBefore 37 = .ok (.aload_n 0, 1) := by decide +kernel
theorem dc_Re_settleBefore_38 : decode cd_Re_settleBefore 38 = .ok (.getfield 65, 3) := by decide +kernel
theorem dc_Re_settleBefore_41 : decode cd_Re_settleBefore 41 = .ok (.bipush 12, 2) := by decide +kernel
theorem dc_Re_settleBefore_43 : decode cd_Re_settleBefore 43 = .ok (.if_icmp .eq 26, 3) := by decide +kernel
theorem dc_Re_settleBefore_46 : decode cd_Re_settleBefore 46 = .ok (.aload_n 0, 1) := by decide +kernel
theorem dc_Re_settleBefore_47 : decode cd_Re_settleBefore 47 = .ok (.getfield 25, 3) := by decide +kernel
theorem dc_Re_settleBefore_50 : decode cd_Re_settleBefore 50 = .ok (.getfield 123, 3) := by decide +kernel
theorem dc_Re_settleBefore_53 : decode cd_Re_settleBefore 53 = .ok (.iconst 1, 1) := by decide +kernel
theorem dc_Re_settleBefore_54 : decode cd_Re_settleBefore 54 = .ok (.if_icmp .ne 15, 3) := by decide +kernel
theorem dc_Re_settleBefore_69 : decode cd_Re_settleBefore 69 = .ok (.return_, 1) := by decide +kernel
theorem dc_Re_beginClause_0 : decode cd_Re_beginClause 0 = .ok (.aload_n 0, 1) := by decide +kernel
theorem dc_Re_beginClause_1 : decode cd_Re_beginClause 1 = .ok (.getfield 25, 3) := by decide +kernel
theorem dc_Re_beginClause_4 : decode cd_Re_beginClause 4 = .ok (.getfield 123, 3) := by decide +kernel
theorem dc_Re_beginClause_7 : decode cd_Re_beginClause 7 = .ok (.ifCond .ne 12, 3) := by decide +kernel
theorem dc_Re_beginClause_10 : decode cd_Re_beginClause 10 = .ok (.aload_n 0, 1) := by decide +kernel
theorem dc_Re_beginClause_11 : decode cd_Re_beginClause 11 = .ok (.bipush 12, 2) := by decide +kernel
theorem dc_Re_beginClause_13 : decode cd_Re_beginClause 13 = .ok (.putfield 65, 3) := by decide +kernel
theorem dc_Re_beginClause_16 : decode cd_Re_beginClause 16 = .ok (.goto 77, 3) := by decide +kernel
theorem dc_Re_beginClause_93 : decode cd_Re_beginClause 93 = .ok (.return_, 1) := by decide +kernel
theorem dc_Re_checkCycle_0 : decode cd_Re_checkCycle 0 = .ok (.aload_n 0, 1) := by decide +kernel
theorem dc_Re_checkCycle_1 : decode cd_Re_checkCycle 1 = .ok (.getfield 104, 3) := by decide +kernel
theorem dc_Re_checkCycle_4 : decode cd_Re_checkCycle 4 = .ok (.ifCond .ne 13, 3) := by decide +kernel
theorem dc_Re_checkCycle_7 : decode cd_Re_checkCycle 7 = .ok (.aload_n 0, 1) := by decide +kernel
theorem dc_Re_checkCycle_8 : decode cd_Re_checkCycle 8 = .ok (.getfield 50, 3) := by decide +kernel
theorem dc_Re_checkCycle_11 : decode cd_Re_checkCycle 11 = .ok (.invokevirtual 135, 3) := by decide +kernel
theorem dc_Re_checkCycle_14 : decode cd_Re_checkCycle 14 = .ok (.goto 4, 3) := by decide +kernel
theorem dc_Re_checkCycle_18 : decode cd_Re_checkCycle 18 = .ok (.istore_n 1, 1) := by decide +kernel
theorem dc_Re_checkCycle_19 : decode cd_Re_checkCycle 19 = .ok (.iload_n 1, 1) := by decide +kernel
theorem dc_Re_checkCycle_20 : decode cd_Re_checkCycle 20 = .ok (.iconst (-1), 1) := by decide +kernel
theorem dc_Re_checkCycle_21 : decode cd_Re_checkCycle 21 = .ok (.if_icmp .eq 10, 3) := by decide +kernel
theorem dc_Re_checkCycle_31 : decode cd_Re_checkCycle 31 = .ok (.return_, 1) := by decide +kernel
theorem dc_Pr_placeOfCycle_0 : decode cd_Pr_placeOfCycle 0 = .ok (.aload_n 0, 1) := by decide +kernel
theorem dc_Pr_placeOfCycle_1 : decode cd_Pr_placeOfCycle 1 = .ok (.invokevirtual 61, 3) := by decide +kernel
theorem dc_Pr_placeOfCycle_4 : decode cd_Pr_placeOfCycle 4 = .ok (.iconst 0, 1) := by decide +kernel
theorem dc_Pr_placeOfCycle_5 : decode cd_Pr_placeOfCycle 5 = .ok (.istore_n 1, 1) := by decide +kernel
theorem dc_Pr_placeOfCycle_6 : decode cd_Pr_placeOfCycle 6 = .ok (.iload_n 1, 1) := by decide +kernel
theorem dc_Pr_placeOfCycle_7 : decode cd_Pr_placeOfCycle 7 = .ok (.aload_n 0, 1) := by decide +kernel
theorem dc_Pr_placeOfCycle_8 : decode cd_Pr_placeOfCycle 8 = .ok (.getfield 16, 3) := by decide +kernel
theorem dc_Pr_placeOfCycle_11 : decode cd_Pr_placeOfCycle 11 = .ok (.getfield 64, 3) := by decide +kernel
theorem dc_Pr_placeOfCycle_14 : decode cd_Pr_placeOfCycle 14 = .ok (.if_icmp .ge 94, 3) := by decide +kernel
theorem dc_Pr_placeOfCycle_108 : decode cd_Pr_placeOfCycle 108 = .ok (.iconst (-1), 1) := by decide +kernel
theorem dc_Pr_placeOfCycle_109 : decode cd_Pr_placeOfCycle 109 = .ok (.ireturn, 1) := by decide +kernel
theorem dc_Pr_findReached_0 : decode cd_Pr_findReached 0 = .ok (.iconst 0, 1) := by decide +kernel
theorem dc_Pr_findReached_1 : decode cd_Pr_findReached 1 = .ok (.istore_n 1, 1) := by decide +kernel
theorem dc_Pr_findReached_2 : decode cd_Pr_findReached 2 = .ok (.iload_n 1, 1) := by decide +kernel
theorem dc_Pr_findReached_3 : decode cd_Pr_findReached 3 = .ok (.bipush 64, 2) := by decide +kernel
theorem dc_Pr_findReached_5 : decode cd_Pr_findReached 5 = .ok (.if_icmp .ge 18, 3) := by decide +kernel
theorem dc_Pr_findReached_8 : decode cd_Pr_findReached 8 = .ok (.aload_n 0, 1) := by decide +kernel
theorem dc_Pr_findReached_9 : decode cd_Pr_findReached 9 = .ok (.getfield 41, 3) := by decide +kernel
theorem dc_Pr_findReached_12 : decode cd_Pr_findReached 12 = .ok (.iload_n 1, 1) := by decide +kernel
theorem dc_Pr_findReached_13 : decode cd_Pr_findReached 13 = .ok (.lconst 1, 1) := by decide +kernel
theorem dc_Pr_findReached_14 : decode cd_Pr_findReached 14 = .ok (.iload_n 1, 1) := by decide +kernel
theorem dc_Pr_findReached_15 : decode cd_Pr_findReached 15 = .ok (.lshl, 1) := by decide +kernel
theorem dc_Pr_findReached_16 : decode cd_Pr_findReached 16 = .ok (.lastore, 1) := by decide +kernel
theorem dc_Pr_findReached_17 : decode cd_Pr_findReached 17 = .ok (.iinc 1 1, 3) := by decide +kernel
theorem dc_Pr_findReached_20 : decode cd_Pr_findReached 20 = .ok (.goto (-18), 3) := by decide +kernel
theorem dc_Pr_findReached_23 : decode cd_Pr_findReached 23 = .ok (.iconst 0, 1) := by decide +kernel
theorem dc_Pr_findReached_24 : decode cd_Pr_findReached 24 = .ok (.istore_n 1, 1) := by decide +kernel
theorem dc_Pr_findReached_25 : decode cd_Pr_findReached 25 = .ok (.iload_n 1, 1) := by decide +kernel
theorem dc_Pr_findReached_26 : decode cd_Pr_findReached 26 = .ok (.aload_n 0, 1) := by decide +kernel
theorem dc_Pr_findReached_27 : decode cd_Pr_findReached 27 = .ok (.getfield 16, 3) := by decide +kernel
theorem dc_Pr_findReached_30 : decode cd_Pr_findReached 30 = .ok (.getfield 64, 3) := by decide +kernel
theorem dc_Pr_findReached_33 : decode cd_Pr_findReached 33 = .ok (.if_icmp .ge 81, 3) := by decide +kernel
theorem dc_Pr_findReached_114 : decode cd_Pr_findReached 114 = .ok (.iconst 0, 1) := by decide +kernel
theorem dc_Pr_findReached_115 : decode cd_Pr_findReached 115 = .ok (.istore_n 1, 1) := by decide +kernel
theorem dc_Pr_findReached_116 : decode cd_Pr_findReached 116 = .ok (.iload_n 1, 1) := by decide +kernel
theorem dc_Pr_findReached_117 : decode cd_Pr_findReached 117 = .ok (.bipush 64, 2) := by decide +kernel
theorem dc_Pr_findReached_119 : decode cd_Pr_findReached 119 = .ok (.if_icmp .ge 53, 3) := by decide +kernel
theorem dc_Pr_findReached_122 : decode cd_Pr_findReached 122 = .ok (.iconst 0, 1) := by decide +kernel
theorem dc_Pr_findReached_123 : decode cd_Pr_findReached 123 = .ok (.istore_n 2, 1) := by decide +kernel
theorem dc_Pr_findReached_124 : decode cd_Pr_findReached 124 = .ok (.iload_n 2, 1) := by decide +kernel
theorem dc_Pr_findReached_125 : decode cd_Pr_findReached 125 = .ok (.bipush 64, 2) := by decide +kernel
theorem dc_Pr_findReached_127 : decode cd_Pr_findReached 127 = .ok (.if_icmp .ge 39, 3) := by decide +kernel
theorem dc_Pr_findReached_130 : decode cd_Pr_findReached 130 = .ok (.aload_n 0, 1) := by decide +kernel
theorem dc_Pr_findReached_131 : decode cd_Pr_findReached 131 = .ok (.getfield 41, 3) := by decide +kernel
theorem dc_Pr_findReached_134 : decode cd_Pr_findReached 134 = .ok (.iload_n 2, 1) := by decide +kernel
theorem dc_Pr_findReached_135 : decode cd_Pr_findReached 135 = .ok (.laload, 1) := by decide +kernel
theorem dc_Pr_findReached_136 : decode cd_Pr_findReached 136 = .ok (.iload_n 1, 1) := by decide +kernel
theorem dc_Pr_findReached_137 : decode cd_Pr_findReached 137 = .ok (.lshr, 1) := by decide +kernel
theorem dc_Pr_findReached_138 : decode cd_Pr_findReached 138 = .ok (.lconst 1, 1) := by decide +kernel
theorem dc_Pr_findReached_139 : decode cd_Pr_findReached 139 = .ok (.land, 1) := by decide +kernel
theorem dc_Pr_findReached_140 : decode cd_Pr_findReached 140 = .ok (.lconst 0, 1) := by decide +kernel
theorem dc_Pr_findReached_141 : decode cd_Pr_findReached 141 = .ok (.lcmp, 1) := by decide +kernel
theorem dc_Pr_findReached_142 : decode cd_Pr_findReached 142 = .ok (.ifCond .eq 18, 3) := by decide +kernel
theorem dc_Pr_findReached_145 : decode cd_Pr_findReached 145 = .ok (.aload_n 0, 1) := by decide +kernel
theorem dc_Pr_findReached_146 : decode cd_Pr_findReached 146 = .ok (.getfield 41, 3) := by decide +kernel
theorem dc_Pr_findReached_149 : decode cd_Pr_findReached 149 = .ok (.iload_n 2, 1) := by decide +kernel
theorem dc_Pr_findReached_150 : decode cd_Pr_findReached 150 = .ok (.dup2, 1) := by decide +kernel
theorem dc_Pr_findReached_151 : decode cd_Pr_findReached 151 = .ok (.laload, 1) := by decide +kernel
theorem dc_Pr_findReached_152 : decode cd_Pr_findReached 152 = .ok (.aload_n 0, 1) := by decide +kernel
theorem dc_Pr_findReached_153 : decode cd_Pr_findReached 153 = .ok (.getfield 41, 3) := by decide +kernel
theorem dc_Pr_findReached_156 : decode cd_Pr_findReached 156 = .ok (.iload_n 1, 1) := by decide +kernel
theorem dc_Pr_findReached_157 : decode cd_Pr_findReached 157 = .ok (.laload, 1) := by decide +kernel
theorem dc_Pr_findReached_158 : decode cd_Pr_findReached 158 = .ok (.lor, 1) := by decide +kernel
theorem dc_Pr_findReached_159 : decode cd_Pr_findReached 159 = .ok (.lastore, 1) := by decide +kernel
theorem dc_Pr_findReached_160 : decode cd_Pr_findReached 160 = .ok (.iinc 2 1, 3) := by decide +kernel
theorem dc_Pr_findReached_163 : decode cd_Pr_findReached 163 = .ok (.goto (-39), 3) := by decide +kernel
theorem dc_Pr_findReached_166 : decode cd_Pr_findReached 166 = .ok (.iinc 1 1, 3) := by decide +kernel
theorem dc_Pr_findReached_169 : decode cd_Pr_findReached 169 = .ok (.goto (-53), 3) := by decide +kernel
theorem dc_Pr_findReached_172 : decode cd_Pr_findReached 172 = .ok (.return_, 1) := by decide +kernel
theorem dc_SB_forgetTape_0 : decode cd_SB_forgetTape 0 = .ok (.aload_n 0, 1) := by decide +kernel
theorem dc_SB_forgetTape_1 : decode cd_SB_forgetTape 1 = .ok (.aload_n 0, 1) := by decide +kernel
theorem dc_SB_forgetTape_2 : decode cd_SB_forgetTape 2 = .ok (.getfield 36, 3) := by decide +kernel
theorem dc_SB_forgetTape_5 : decode cd_SB_forgetTape 5 = .ok (.getfield 134, 3) := by decide +kernel
theorem dc_SB_forgetTape_8 : decode cd_SB_forgetTape 8 = .ok (.putfield 92, 3) := by decide +kernel
theorem dc_SB_forgetTape_11 : decode cd_SB_forgetTape 11 = .ok (.aload_n 0, 1) := by decide +kernel
theorem dc_SB_forgetTape_12 : decode cd_SB_forgetTape 12 = .ok (.iconst 0, 1) := by decide +kernel
theorem dc_SB_forgetTape_13 : decode cd_SB_forgetTape 13 = .ok (.putfield 66, 3) := by decide +kernel
theorem dc_SB_forgetTape_16 : decode cd_SB_forgetTape 16 = .ok (.return_, 1) := by decide +kernel
theorem dc_Pr_settle_0 : decode cd_Pr_settle 0 = .ok (.aload_n 0, 1) := by decide +kernel
theorem dc_Pr_settle_1 : decode cd_Pr_settle 1 = .ok (.getfield 37, 3) := by decide +kernel
theorem dc_Pr_settle_4 : decode cd_Pr_settle 4 = .ok (.invokevirtual 78, 3) := by decide +kernel
theorem dc_Pr_settle_7 : decode cd_Pr_settle 7 = .ok (.iconst 0, 1) := by decide +kernel
theorem dc_Pr_settle_8 : decode cd_Pr_settle 8 = .ok (.istore_n 1, 1) := by decide +kernel
theorem dc_Pr_settle_9 : decode cd_Pr_settle 9 = .ok (.iload_n 1, 1) := by decide +kernel
theorem dc_Pr_settle_10 : decode cd_Pr_settle 10 = .ok (.aload_n 0, 1) := by decide +kernel
theorem dc_Pr_settle_11 : decode cd_Pr_settle 11 = .ok (.getfield 16, 3) := by decide +kernel
theorem dc_Pr_settle_14 : decode cd_Pr_settle 14 = .ok (.invokevirtual 81, 3) := by decide +kernel
theorem dc_Pr_settle_17 : decode cd_Pr_settle 17 = .ok (.if_icmp .gt 14, 3) := by decide +kernel
theorem dc_Pr_settle_31 : decode cd_Pr_settle 31 = .ok (.aload_n 0, 1) := by decide +kernel
theorem dc_Pr_settle_32 : decode cd_Pr_settle 32 = .ok (.getfield 31, 3) := by decide +kernel
theorem dc_Pr_settle_35 : decode cd_Pr_settle 35 = .ok (.iconst 0, 1) := by decide +kernel
theorem dc_Pr_settle_36 : decode cd_Pr_settle 36 = .ok (.invokestatic 50, 3) := by decide +kernel
theorem dc_Pr_settle_39 : decode cd_Pr_settle 39 = .ok (.iconst 1, 1) := by decide +kernel
theorem dc_Pr_settle_40 : decode cd_Pr_settle 40 = .ok (.istore_n 1, 1) := by decide +kernel
theorem dc_Pr_settle_41 : decode cd_Pr_settle 41 = .ok (.iconst 0, 1) := by decide +kernel
theorem dc_Pr_settle_42 : decode cd_Pr_settle 42 = .ok (.istore_n 2, 1) := by decide +kernel
theorem dc_Pr_settle_43 : decode cd_Pr_settle 43 = .ok (.iload_n 2, 1) := by decide +kernel
theorem dc_Pr_settle_44 : decode cd_Pr_settle 44 = .ok (.bipush 64, 2) := by decide +kernel
theorem dc_Pr_settle_46 : decode cd_Pr_settle 46 = .ok (.if_icmp .gt 18, 3) := by decide +kernel
theorem dc_Pr_settle_49 : decode cd_Pr_settle 49 = .ok (.iload_n 1, 1) := by decide +kernel
theorem dc_Pr_settle_50 : decode cd_Pr_settle 50 = .ok (.ifCond .eq 14, 3) := by decide +kernel
theorem dc_Pr_settle_53 : decode cd_Pr_settle 53 = .ok (.aload_n 0, 1) := by decide +kernel
theorem dc_Pr_settle_54 : decode cd_Pr_settle 54 = .ok (.invokevirtual 88, 3) := by decide +kernel
theorem dc_Pr_settle_57 : decode cd_Pr_settle 57 = .ok (.istore_n 1, 1) := by decide +kernel
theorem dc_Pr_settle_58 : decode cd_Pr_settle 58 = .ok (.iinc 2 1, 3) := by decide +kernel
theorem dc_Pr_settle_61 : decode cd_Pr_settle 61 = .ok (.goto (-18), 3) := by decide +kernel
theorem dc_Pr_settle_64 : decode cd_Pr_settle 64 = .ok (.aload_n 0, 1) := by decide +kernel
theorem dc_Pr_settle_65 : decode cd_Pr_settle 65 = .ok (.iconst 0, 1) := by decide +kernel
theorem dc_Pr_settle_66 : decode cd_Pr_settle 66 = .ok (.putfield 92, 3) := by decide +kernel
theorem dc_Pr_settle_69 : decode cd_Pr_settle 69 = .ok (.iconst 0, 1) := by decide +kernel
theorem dc_Pr_settle_70 : decode cd_Pr_settle 70 = .ok (.istore_n 2, 1) := by decide +kernel
theorem dc_Pr_settle_71 : decode cd_Pr_settle 71 = .ok (.iload_n 2, 1) := by decide +kernel
theorem dc_Pr_settle_72 : decode cd_Pr_settle 72 = .ok (.aload_n 0, 1) := by decide +kernel
theorem dc_Pr_settle_73 : decode cd_Pr_settle 73 = .ok (.getfield 23, 3) := by decide +kernel
theorem dc_Pr_settle_76 : decode cd_Pr_settle 76 = .ok (.getfield 95, 3) := by decide +kernel
theorem dc_Pr_settle_79 : decode cd_Pr_settle 79 = .ok (.if_icmp .ge 28, 3) := by decide +kernel
theorem dc_Pr_settle_107 : decode cd_Pr_settle 107 = .ok (.return_, 1) := by decide +kernel
theorem dc_Co_setRanks_0 : decode cd_Co_setRanks 0 = .ok (.iconst 0, 1) := by decide +kernel
theorem dc_Co_setRanks_1 : decode cd_Co_setRanks 1 = .ok (.istore_n 1, 1) := by decide +kernel
theorem dc_Co_setRanks_2 : decode cd_Co_setRanks 2 = .ok (.iload_n 1, 1) := by decide +kernel
theorem dc_Co_setRanks_3 : decode cd_Co_setRanks 3 = .ok (.aload_n 0, 1) := by decide +kernel
theorem dc_Co_setRanks_4 : decode cd_Co_setRanks 4 = .ok (.getfield 14, 3) := by decide +kernel
theorem dc_Co_setRanks_7 : decode cd_Co_setRanks 7 = .ok (.getfield 33, 3) := by decide +kernel
theorem dc_Co_setRanks_10 : decode cd_Co_setRanks 10 = .ok (.if_icmp .ge 21, 3) := by decide +kernel
theorem dc_Co_setRanks_31 : decode cd_Co_setRanks 31 = .ok (.return_, 1) := by decide +kernel
theorem dc_Cl_newest_0 : decode cd_Cl_newest 0 = .ok (.aload_n 0, 1) := by decide +kernel
theorem dc_Cl_newest_1 : decode cd_Cl_newest 1 = .ok (.getfield 37, 3) := by decide +kernel
theorem dc_Cl_newest_4 : decode cd_Cl_newest 4 = .ok (.iconst 1, 1) := by decide +kernel
theorem dc_Cl_newest_5 : decode cd_Cl_newest 5 = .ok (.isub, 1) := by decide +kernel
theorem dc_Cl_newest_6 : decode cd_Cl_newest 6 = .ok (.ireturn, 1) := by decide +kernel
theorem dc_Pr_raiseStrata_0 : decode cd_Pr_raiseStrata 0 = .ok (.iconst 0, 1) := by decide +kernel
theorem dc_Pr_raiseStrata_1 : decode cd_Pr_raiseStrata 1 = .ok (.istore_n 1, 1) := by decide +kernel
theorem dc_Pr_raiseStrata_2 : decode cd_Pr_raiseStrata 2 = .ok (.iconst 0, 1) := by decide +kernel
theorem dc_Pr_raiseStrata_3 : decode cd_Pr_raiseStrata 3 = .ok (.istore_n 2, 1) := by decide +kernel
theorem dc_Pr_raiseStrata_4 : decode cd_Pr_raiseStrata 4 = .ok (.iload_n 2, 1) := by decide +kernel
theorem dc_Pr_raiseStrata_5 : decode cd_Pr_raiseStrata 5 = .ok (.aload_n 0, 1) := by decide +kernel
theorem dc_Pr_raiseStrata_6 : decode cd_Pr_raiseStrata 6 = .ok (.getfield 16, 3) := by decide +kernel
theorem dc_Pr_raiseStrata_9 : decode cd_Pr_raiseStrata 9 = .ok (.getfield 64, 3) := by decide +kernel
theorem dc_Pr_raiseStrata_12 : decode cd_Pr_raiseStrata 12 = .ok (.if_icmp .ge 121, 3) := by decide +kernel
theorem dc_Pr_raiseStrata_133 : decode cd_Pr_raiseStrata 133 = .ok (.iload_n 1, 1) := by decide +kernel
theorem dc_Pr_raiseStrata_134 : decode cd_Pr_raiseStrata 134 = .ok (.ireturn, 1) := by decide +kernel
theorem dc_Ro_open_0 : decode cd_Ro_open 0 = .ok (.aload_n 0, 1) := by decide +kernel
theorem dc_Ro_open_1 : decode cd_Ro_open 1 = .ok (.iconst 0, 1) := by decide +kernel
theorem dc_Ro_open_2 : decode cd_Ro_open 2 = .ok (.putfield 22, 3) := by decide +kernel
theorem dc_Ro_open_5 : decode cd_Ro_open 5 = .ok (.aload_n 0, 1) := by decide +kernel
theorem dc_Ro_open_6 : decode cd_Ro_open 6 = .ok (.iconst 0, 1) := by decide +kernel
theorem dc_Ro_open_7 : decode cd_Ro_open 7 = .ok (.putfield 26, 3) := by decide +kernel
theorem dc_Ro_open_10 : decode cd_Ro_open 10 = .ok (.aload_n 0, 1) := by decide +kernel
theorem dc_Ro_open_11 : decode cd_Ro_open 11 = .ok (.iconst 0, 1) := by decide +kernel
theorem dc_Ro_open_12 : decode cd_Ro_open 12 = .ok (.putfield 29, 3) := by decide +kernel
theorem dc_Ro_open_15 : decode cd_Ro_open 15 = .ok (.iconst 0, 1) := by decide +kernel
theorem dc_Ro_open_16 : decode cd_Ro_open 16 = .ok (.istore_n 3, 1) := by decide +kernel
theorem dc_Ro_open_17 : decode cd_Ro_open 17 = .ok (.iload_n 3, 1) := by decide +kernel
theorem dc_Ro_open_18 : decode cd_Ro_open 18 = .ok (.iload_n 1, 1) := by decide +kernel
theorem dc_Ro_open_19 : decode cd_Ro_open 19 = .ok (.if_icmp .ge 37, 3) := by decide +kernel
theorem dc_Ro_open_56 : decode cd_Ro_open 56 = .ok (.return_, 1) := by decide +kernel
theorem dc_SB_run_0 : decode cd_SB_run 0 = .ok (.aload_n 0, 1) := by decide +kernel
theorem dc_SB_run_1 : decode cd_SB_run 1 = .ok (.getfield 105, 3) := by decide +kernel
theorem dc_SB_run_4 : decode cd_SB_run 4 = .ok (.ifCond .ne 95, 3) := by decide +kernel
theorem dc_SB_run_7 : decode cd_SB_run 7 = .ok (.aload_n 0, 1) := by decide +kernel
theorem dc_SB_run_8 : decode cd_SB_run 8 = .ok (.getfield 109, 3) := by decide +kernel
theorem dc_SB_run_11 : decode cd_SB_run 11 = .ok (.ifCond .ne 88, 3) := by decide +kernel
theorem dc_SB_run_14 : decode cd_SB_run 14 = .ok (.aload_n 0, 1) := by decide +kernel
theorem dc_SB_run_15 : decode cd_SB_run 15 = .ok (.getfield 43, 3) := by decide +kernel
theorem dc_SB_run_18 : decode cd_SB_run 18 = .ok (.invokevirtual 112, 3) := by decide +kernel
theorem dc_SB_run_21 : decode cd_SB_run 21 = .ok (.aload_n 0, 1) := by decide +kernel
theorem dc_SB_run_22 : decode cd_SB_run 22 = .ok (.getfield 52, 3) := by decide +kernel
theorem dc_SB_run_25 : decode cd_SB_run 25 = .ok (.invokevirtual 115, 3) := by decide +kernel
theorem dc_SB_run_28 : decode cd_SB_run 28 = .ok (.iconst 0, 1) := by decide +kernel
theorem dc_SB_run_29 : decode cd_SB_run 29 = .ok (.istore_n 1, 1) := by decide +kernel
theorem dc_SB_run_30 : decode cd_SB_run 30 = .ok (.iload_n 1, 1) := by decide +kernel
theorem dc_SB_run_31 : decode cd_SB_run 31 = .ok (.aload_n 0, 1) := by decide +kernel
theorem dc_SB_run_32 : decode cd_SB_run 32 = .ok (.getfield 17, 3) := by decide +kernel
theorem dc_SB_run_35 : decode cd_SB_run 35 = .ok (.getfield 118, 3) := by decide +kernel
theorem dc_SB_run_38 : decode cd_SB_run 38 = .ok (.if_icmp .ge 31, 3) := by decide +kernel
theorem dc_SB_run_69 : decode cd_SB_run 69 = .ok (.aload_n 0, 1) := by decide +kernel
theorem dc_SB_run_70 : decode cd_SB_run 70 = .ok (.aload_n 0, 1) := by decide +kernel
theorem dc_SB_run_71 : decode cd_SB_run 71 = .ok (.getfield 43, 3) := by decide +kernel
theorem dc_SB_run_74 : decode cd_SB_run 74 = .ok (.getfield 121, 3) := by decide +kernel
theorem dc_SB_run_77 : decode cd_SB_run 77 = .ok (.ifCond .ne 7, 3) := by decide +kernel
theorem dc_SB_run_80 : decode cd_SB_run 80 = .ok (.iconst 1, 1) := by decide +kernel
theorem dc_SB_run_81 : decode cd_SB_run 81 = .ok (.goto 4, 3) := by decide +kernel
theorem dc_SB_run_85 : decode cd_SB_run 85 = .ok (.putfield 105, 3) := by decide +kernel
theorem dc_SB_run_88 : decode cd_SB_run 88 = .ok (.aload_n 0, 1) := by decide +kernel
theorem dc_SB_run_89 : decode cd_SB_run 89 = .ok (.aload_n 0, 1) := by decide +kernel
theorem dc_SB_run_90 : decode cd_SB_run 90 = .ok (.getfield 43, 3) := by decide +kernel
theorem dc_SB_run_93 : decode cd_SB_run 93 = .ok (.getfield 121, 3) := by decide +kernel
theorem dc_SB_run_96 : decode cd_SB_run 96 = .ok (.putfield 109, 3) := by decide +kernel
theorem dc_SB_run_99 : decode cd_SB_run 99 = .ok (.aload_n 0, 1) := by decide +kernel
theorem dc_SB_run_100 : decode cd_SB_run 100 = .ok (.getfield 109, 3) := by decide +kernel
theorem dc_SB_run_103 : decode cd_SB_run 103 = .ok (.ifCond .eq 11, 3) := by decide +kernel
theorem dc_SB_run_114 : decode cd_SB_run 114 = .ok (.aload_n 0, 1) := by decide +kernel
theorem dc_SB_run_115 : decode cd_SB_run 115 = .ok (.getfield 43, 3) := by decide +kernel
theorem dc_SB_run_118 : decode cd_SB_run 118 = .ok (.getfield 128, 3) := by decide +kernel
theorem dc_SB_run_121 : decode cd_SB_run 121 = .ok (.ireturn, 1) := by decide +kernel
theorem dc_Fa_clear_0 : decode cd_Fa_clear 0 = .ok (.aload_n 0, 1) := by decide +kernel
theorem dc_Fa_clear_1 : decode cd_Fa_clear 1 = .ok (.iconst 0, 1) := by decide +kernel
theorem dc_Fa_clear_2 : decode cd_Fa_clear 2 = .ok (.putfield 46, 3) := by decide +kernel
theorem dc_Fa_clear_5 : decode cd_Fa_clear 5 = .ok (.aload_n 0, 1) := by decide +kernel
theorem dc_Fa_clear_6 : decode cd_Fa_clear 6 = .ok (.iconst 0, 1) := by decide +kernel
theorem dc_Fa_clear_7 : decode cd_Fa_clear 7 = .ok (.putfield 50, 3) := by decide +kernel
theorem dc_Fa_clear_10 : decode cd_Fa_clear 10 = .ok (.aload_n 0, 1) := by decide +kernel
theorem dc_Fa_clear_11 : decode cd_Fa_clear 11 = .ok (.iconst 0, 1) := by decide +kernel
theorem dc_Fa_clear_12 : decode cd_Fa_clear 12 = .ok (.putfield 53, 3) := by decide +kernel
theorem dc_Fa_clear_15 : decode cd_Fa_clear 15 = .ok (.aload_n 0, 1) := by decide +kernel
theorem dc_Fa_clear_16 : decode cd_Fa_clear 16 = .ok (.iconst 0, 1) := by decide +kernel
theorem dc_Fa_clear_17 : decode cd_Fa_clear 17 = .ok (.putfield 57, 3) := by decide +kernel
theorem dc_Fa_clear_20 : decode cd_Fa_clear 20 = .ok (.aload_n 0, 1) := by decide +kernel
theorem dc_Fa_clear_21 : decode cd_Fa_clear 21 = .ok (.getfield 31, 3) := by decide +kernel
theorem dc_Fa_clear_24 : decode cd_Fa_clear 24 = .ok (.iconst 0, 1) := by decide +kernel
theorem dc_Fa_clear_25 : decode cd_Fa_clear 25 = .ok (.invokestatic 60, 3) := by decide +kernel
theorem dc_Fa_clear_28 : decode cd_Fa_clear 28 = .ok (.aload_n 0, 1) := by decide +kernel
theorem dc_Fa_clear_29 : decode cd_Fa_clear 29 = .ok (.getfield 21, 3) := by decide +kernel
theorem dc_Fa_clear_32 : decode cd_Fa_clear 32 = .ok (.iconst 0, 1) := by decide +kernel
theorem dc_Fa_clear_33 : decode cd_Fa_clear 33 = .ok (.invokestatic 60, 3) := by decide +kernel
theorem dc_Fa_clear_36 : decode cd_Fa_clear 36 = .ok (.aload_n 0, 1) := by decide +kernel
theorem dc_Fa_clear_37 : decode cd_Fa_clear 37 = .ok (.getfield 34, 3) := by decide +kernel
theorem dc_Fa_clear_40 : decode cd_Fa_clear 40 = .ok (.iconst (-1), 1) := by decide +kernel
theorem dc_Fa_clear_41 : decode cd_Fa_clear 41 = .ok (.invokestatic 60, 3) := by decide +kernel
theorem dc_Fa_clear_44 : decode cd_Fa_clear 44 = .ok (.aload_n 0, 1) := by decide +kernel
theorem dc_Fa_clear_45 : decode cd_Fa_clear 45 = .ok (.getfield 37, 3) := by decide +kernel
theorem dc_Fa_clear_48 : decode cd_Fa_clear 48 = .ok (.iconst (-1), 1) := by decide +kernel
theorem dc_Fa_clear_49 : decode cd_Fa_clear 49 = .ok (.invokestatic 60, 3) := by decide +kernel
theorem dc_Fa_clear_52 : decode cd_Fa_clear 52 = .ok (.aload_n 0, 1) := by decide +kernel
theorem dc_Fa_clear_53 : decode cd_Fa_clear 53 = .ok (.getfield 40, 3) := by decide +kernel
theorem dc_Fa_clear_56 : decode cd_Fa_clear 56 = .ok (.iconst (-1), 1) := by decide +kernel
theorem dc_Fa_clear_57 : decode cd_Fa_clear 57 = .ok (.invokestatic 60, 3) := by decide +kernel
theorem dc_Fa_clear_60 : decode cd_Fa_clear 60 = .ok (.aload_n 0, 1) := by decide +kernel
theorem dc_Fa_clear_61 : decode cd_Fa_clear 61 = .ok (.getfield 43, 3) := by decide +kernel
theorem dc_Fa_clear_64 : decode cd_Fa_clear 64 = .ok (.iconst (-1), 1) := by decide +kernel
theorem dc_Fa_clear_65 : decode cd_Fa_clear 65 = .ok (.invokestatic 60, 3) := by decide +kernel
theorem dc_Fa_clear_68 : decode cd_Fa_clear 68 = .ok (.return_, 1) := by decide +kernel
theorem dc_Jo_forgetIndexes_0 : decode cd_Jo_forgetIndexes 0 = .ok (.aload_n 0, 1) := by decide +kernel
theorem dc_Jo_forgetIndexes_1 : decode cd_Jo_forgetIndexes 1 = .ok (.getfield 24, 3) := by decide +kernel
theorem dc_Jo_forgetIndexes_4 : decode cd_Jo_forgetIndexes 4 = .ok (.invokevirtual 35, 3) := by decide +kernel
theorem dc_Jo_forgetIndexes_7 : decode cd_Jo_forgetIndexes 7 = .ok (.return_, 1) := by decide +kernel
theorem dc_Ix_clear_0 : decode cd_Ix_clear 0 = .ok (.aload_n 0, 1) := by decide +kernel
theorem dc_Ix_clear_1 : decode cd_Ix_clear 1 = .ok (.iconst 0, 1) := by decide +kernel
theorem dc_Ix_clear_2 : decode cd_Ix_clear 2 = .ok (.putfield 34, 3) := by decide +kernel
theorem dc_Ix_clear_5 : decode cd_Ix_clear 5 = .ok (.aload_n 0, 1) := by decide +kernel
theorem dc_Ix_clear_6 : decode cd_Ix_clear 6 = .ok (.iconst 0, 1) := by decide +kernel
theorem dc_Ix_clear_7 : decode cd_Ix_clear 7 = .ok (.putfield 38, 3) := by decide +kernel
theorem dc_Ix_clear_10 : decode cd_Ix_clear 10 = .ok (.return_, 1) := by decide +kernel
theorem dc_SB_stratum_0 : decode cd_SB_stratum 0 = .ok (.aload_n 0, 1) := by decide +kernel
theorem dc_SB_stratum_1 : decode cd_SB_stratum 1 = .ok (.getfield 36, 3) := by decide +kernel
theorem dc_SB_stratum_4 : decode cd_SB_stratum 4 = .ok (.iconst 3, 1) := by decide +kernel
theorem dc_SB_stratum_5 : decode cd_SB_stratum 5 = .ok (.aload_n 0, 1) := by decide +kernel
theorem dc_SB_stratum_6 : decode cd_SB_stratum 6 = .ok (.getfield 10, 3) := by decide +kernel
theorem dc_SB_stratum_9 : decode cd_SB_stratum 9 = .ok (.aload_n 0, 1) := by decide +kernel
theorem dc_SB_stratum_10 : decode cd_SB_stratum 10 = .ok (.getfield 66, 3) := by decide +kernel
theorem dc_SB_stratum_13 : decode cd_SB_stratum 13 = .ok (.aload_n 0, 1) := by decide +kernel
theorem dc_SB_stratum_14 : decode cd_SB_stratum 14 = .ok (.getfield 17, 3) := by decide +kernel
theorem dc_SB_stratum_17 : decode cd_SB_stratum 17 = .ok (.aload_n 0, 1) := by decide +kernel
theorem dc_SB_stratum_18 : decode cd_SB_stratum 18 = .ok (.getfield 29, 3) := by decide +kernel
theorem dc_SB_stratum_21 : decode cd_SB_stratum 21 = .ok (.invokevirtual 82, 3) := by decide +kernel
theorem dc_SB_stratum_24 : decode cd_SB_stratum 24 = .ok (.aload_n 0, 1) := by decide +kernel
theorem dc_SB_stratum_25 : decode cd_SB_stratum 25 = .ok (.invokevirtual 89, 3) := by decide +kernel
theorem dc_SB_stratum_28 : decode cd_SB_stratum 28 = .ok (.aload_n 0, 1) := by decide +kernel
theorem dc_SB_stratum_29 : decode cd_SB_stratum 29 = .ok (.getfield 92, 3) := by decide +kernel
theorem dc_SB_stratum_32 : decode cd_SB_stratum 32 = .ok (.ifCond .eq 14, 3) := by decide +kernel
theorem dc_SB_stratum_35 : decode cd_SB_stratum 35 = .ok (.bipush (-2), 2) := by decide +kernel
theorem dc_SB_stratum_37 : decode cd_SB_stratum 37 = .ok (.aload_n 0, 1) := by decide +kernel
theorem dc_SB_stratum_38 : decode cd_SB_stratum 38 = .ok (.getfield 36, 3) := by decide +kernel
theorem dc_SB_stratum_41 : decode cd_SB_stratum 41 = .ok (.getfield 95, 3) := by decide +kernel
theorem dc_SB_stratum_44 : decode cd_SB_stratum 44 = .ok (.isub, 1) := by decide +kernel
theorem dc_SB_stratum_45 : decode cd_SB_stratum 45 = .ok (.ireturn, 1) := by decide +kernel
theorem dc_Cl_open_0 : decode cd_Cl_open 0 = .ok (.aload_n 0, 1) := by decide +kernel
theorem dc_Cl_open_1 : decode cd_Cl_open 1 = .ok (.getfield 15, 3) := by decide +kernel
theorem dc_Cl_open_4 : decode cd_Cl_open 4 = .ok (.aload_n 0, 1) := by decide +kernel
theorem dc_Cl_open_5 : decode cd_Cl_open 5 = .ok (.getfield 37, 3) := by decide +kernel
theorem dc_Cl_open_8 : decode cd_Cl_open 8 = .ok (.iload_n 1, 1) := by decide +kernel
theorem dc_Cl_open_9 : decode cd_Cl_open 9 = .ok (.iastore, 1) := by decide +kernel
theorem dc_Cl_open_10 : decode cd_Cl_open 10 = .ok (.aload_n 0, 1) := by decide +kernel
theorem dc_Cl_open_11 : decode cd_Cl_open 11 = .ok (.getfield 21, 3) := by decide +kernel
theorem dc_Cl_open_14 : decode cd_Cl_open 14 = .ok (.aload_n 0, 1) := by decide +kernel
theorem dc_Cl_open_15 : decode cd_Cl_open 15 = .ok (.getfield 37, 3) := by decide +kernel
theorem dc_Cl_open_18 : decode cd_Cl_open 18 = .ok (.iload_n 2, 1) := by decide +kernel
theorem dc_Cl_open_19 : decode cd_Cl_open 19 = .ok (.iastore, 1) := by decide +kernel
theorem dc_Cl_open_20 : decode cd_Cl_open 20 = .ok (.aload_n 0, 1) := by decide +kernel
theorem dc_Cl_open_21 : decode cd_Cl_open 21 = .ok (.getfield 18, 3) := by decide +kernel
theorem dc_Cl_open_24 : decode cd_Cl_open 24 = .ok (.aload_n 0, 1) := by decide +kernel
theorem dc_Cl_open_25 : decode cd_Cl_open 25 = .ok (.getfield 37, 3) := by decide +kernel
theorem dc_Cl_open_28 : decode cd_Cl_open 28 = .ok (.iconst (-1), 1) := by decide +kernel
theorem dc_Cl_open_29 : decode cd_Cl_open 29 = .ok (.iastore, 1) := by decide +kernel
theorem dc_Cl_open_30 : decode cd_Cl_open 30 = .ok (.aload_n 0, 1) := by decide +kernel
theorem dc_Cl_open_31 : decode cd_Cl_open 31 = .ok (.getfield 24, 3) := by decide +kernel
theorem dc_Cl_open_34 : decode cd_Cl_open 34 = .ok (.aload_n 0, 1) := by decide +kernel
theorem dc_Cl_open_35 : decode cd_Cl_open 35 = .ok (.getfield 37, 3) := by decide +kernel
theorem dc_Cl_open_38 : decode cd_Cl_open 38 = .ok (.iconst 0, 1) := by decide +kernel
theorem dc_Cl_open_39 : decode cd_Cl_open 39 = .ok (.iastore, 1) := by decide +kernel
theorem dc_Cl_open_40 : decode cd_Cl_open 40 = .ok (.aload_n 0, 1) := by decide +kernel
theorem dc_Cl_open_41 : decode cd_Cl_open 41 = .ok (.getfield 27, 3) := by decide +kernel
theorem dc_Cl_open_44 : decode cd_Cl_open 44 = .ok (.aload_n 0, 1) := by decide +kernel
theorem dc_Cl_open_45 : decode cd_Cl_open 45 = .ok (.getfield 37, 3) := by decide +kernel
theorem dc_Cl_open_48 : decode cd_Cl_open 48 = .ok (.iconst 0, 1) := by decide +kernel
theorem dc_Cl_open_49 : decode cd_Cl_open 49 = .ok (.iastore, 1) := by decide +kernel
theorem dc_Cl_open_50 : decode cd_Cl_open 50 = .ok (.aload_n 0, 1) := by decide +kernel
theorem dc_Cl_open_51 : decode cd_Cl_open 51 = .ok (.dup, 1) := by decide +kernel
theorem dc_Cl_open_52 : decode cd_Cl_open 52 = .ok (.getfield 37, 3) := by decide +kernel
theorem dc_Cl_open_55 : decode cd_Cl_open 55 = .ok (.iconst 1, 1) := by decide +kernel
theorem dc_Cl_open_56 : decode cd_Cl_open 56 = .ok (.iadd, 1) := by decide +kernel
theorem dc_Cl_open_57 : decode cd_Cl_open 57 = .ok (.putfield 37, 3) := by decide +kernel
theorem dc_Cl_open_60 : decode cd_Cl_open 60 = .ok (.return_, 1) := by decide +kernel
theorem dc_Re_readPredicate_0 : decode cd_Re_readPredicate 0 = .ok (.aload_n 0, 1) := by decide +kernel
theorem dc_Re_readPredicate_1 : decode cd_Re_readPredicate 1 = .ok (.getfield 25, 3) := by decide +kernel
theorem dc_Re_readPredicate_4 : decode cd_Re_readPredicate 4 = .ok (.getfield 123, 3) := by decide +kernel
theorem dc_Re_readPredicate_7 : decode cd_Re_readPredicate 7 = .ok (.iconst 2, 1) := by decide +kernel
theorem dc_Re_readPredicate_8 : decode cd_Re_readPredicate 8 = .ok (.if_icmp .eq 8, 3) := by decide +kernel
theorem dc_Re_readPredicate_11 : decode cd_Re_readPredicate 11 = .ok (.aload_n 0, 1) := by decide +kernel
theorem dc_Re_readPredicate_12 : decode cd_Re_readPredicate 12 = .ok (.invokevirtual 155, 3) := by decide +kernel
theorem dc_Re_readPredicate_15 : decode cd_Re_readPredicate 15 = .ok (.return_, 1) := by decide +kernel
theorem dc_Re_refuse_0 : decode cd_Re_refuse 0 = .ok (.aload_n 0, 1) := by decide +kernel
theorem dc_Re_refuse_1 : decode cd_Re_refuse 1 = .ok (.iconst 2, 1) := by decide +kernel
theorem dc_Re_refuse_2 : decode cd_Re_refuse 2 = .ok (.aload_n 0, 1) := by decide +kernel
theorem dc_Re_refuse_3 : decode cd_Re_refuse 3 = .ok (.getfield 25, 3) := by decide +kernel
theorem dc_Re_refuse_6 : decode cd_Re_refuse 6 = .ok (.getfield 129, 3) := by decide +kernel
theorem dc_Re_refuse_9 : decode cd_Re_refuse 9 = .ok (.invokevirtual 132, 3) := by decide +kernel
theorem dc_Re_refuse_12 : decode cd_Re_refuse 12 = .ok (.return_, 1) := by decide +kernel
theorem dc_Re_stop_0 : decode cd_Re_stop 0 = .ok (.aload_n 0, 1) := by decide +kernel
theorem dc_Re_stop_1 : decode cd_Re_stop 1 = .ok (.iload_n 1, 1) := by decide +kernel
theorem dc_Re_stop_2 : decode cd_Re_stop 2 = .ok (.putfield 104, 3) := by decide +kernel
theorem dc_Re_stop_5 : decode cd_Re_stop 5 = .ok (.aload_n 0, 1) := by decide +kernel
theorem dc_Re_stop_6 : decode cd_Re_stop 6 = .ok (.iload_n 2, 1) := by decide +kernel
theorem dc_Re_stop_7 : decode cd_Re_stop 7 = .ok (.putfield 139, 3) := by decide +kernel
theorem dc_Re_stop_10 : decode cd_Re_stop 10 = .ok (.aload_n 0, 1) := by decide +kernel
theorem dc_Re_stop_11 : decode cd_Re_stop 11 = .ok (.bipush 12, 2) := by decide +kernel
theorem dc_Re_stop_13 : decode cd_Re_stop 13 = .ok (.putfield 65, 3) := by decide +kernel
theorem dc_Re_stop_16 : decode cd_Re_stop 16 = .ok (.return_, 1) := by decide +kernel
theorem dc_SB_count_0 : decode cd_SB_count 0 = .ok (.iload_n 1, 1) := by decide +kernel
theorem dc_SB_count_1 : decode cd_SB_count 1 = .ok (.tableswitch 130 0 6 #[43, 54, 65, 76, 84, 103, 111], 43) := by decide +kernel
theorem dc_SB_count_44 : decode cd_SB_count 44 = .ok (.aload_n 0, 1) := by decide +kernel
theorem dc_SB_count_45 : decode cd_SB_count 45 = .ok (.getfield 17, 3) := by decide +kernel
theorem dc_SB_count_48 : decode cd_SB_count 48 = .ok (.getfield 79, 3) := by decide +kernel
theorem dc_SB_count_51 : decode cd_SB_count 51 = .ok (.getfield 207, 3) := by decide +kernel
theorem dc_SB_count_54 : decode cd_SB_count 54 = .ok (.ireturn, 1) := by decide +kernel
theorem dc_SB_count_55 : decode cd_SB_count 55 = .ok (.aload_n 0, 1) := by decide +kernel
theorem dc_SB_count_56 : decode cd_SB_count 56 = .ok (.getfield 17, 3) := by decide +kernel
theorem dc_SB_count_59 : decode cd_SB_count 59 = .ok (.getfield 208, 3) := by decide +kernel
theorem dc_SB_count_62 : decode cd_SB_count 62 = .ok (.getfield 141, 3) := by decide +kernel
theorem dc_SB_count_65 : decode cd_SB_count 65 = .ok (.ireturn, 1) := by decide +kernel
theorem dc_SB_count_66 : decode cd_SB_count 66 = .ok (.aload_n 0, 1) := by decide +kernel
theorem dc_SB_count_67 : decode cd_SB_count 67 = .ok (.getfield 17, 3) := by decide +kernel
theorem dc_SB_count_70 : decode cd_SB_count 70 = .ok (.getfield 166, 3) := by decide +kernel
theorem dc_SB_count_73 : decode cd_SB_count 73 = .ok (.invokevirtual 210, 3) := by decide +kernel
theorem dc_SB_count_76 : decode cd_SB_count 76 = .ok (.ireturn, 1) := by decide +kernel
theorem dc_SB_count_77 : decode cd_SB_count 77 = .ok (.aload_n 0, 1) := by decide +kernel
theorem dc_SB_count_78 : decode cd_SB_count 78 = .ok (.getfield 17, 3) := by decide +kernel
theorem dc_SB_count_81 : decode cd_SB_count 81 = .ok (.getfield 118, 3) := by decide +kernel
theorem dc_SB_count_84 : decode cd_SB_count 84 = .ok (.ireturn, 1) := by decide +kernel
theorem dc_SB_count_85 : decode cd_SB_count 85 = .ok (.aload_n 0, 1) := by decide +kernel
theorem dc_SB_count_86 : decode cd_SB_count 86 = .ok (.getfield 105, 3) := by decide +kernel
theorem dc_SB_count_89 : decode cd_SB_count 89 = .ok (.ifCond .eq 13, 3) := by decide +kernel
theorem dc_SB_count_102 : decode cd_SB_count 102 = .ok (.iconst (-1), 1) := by decide +kernel
theorem dc_SB_count_103 : decode cd_SB_count 103 = .ok (.ireturn, 1) := by decide +kernel
theorem dc_SB_count_104 : decode cd_SB_count 104 = .ok (.aload_n 0, 1) := by decide +kernel
theorem dc_SB_count_105 : decode cd_SB_count 105 = .ok (.getfield 59, 3) := by decide +kernel
theorem dc_SB_count_108 : decode cd_SB_count 108 = .ok (.getfield 155, 3) := by decide +kernel
theorem dc_SB_count_111 : decode cd_SB_count 111 = .ok (.ireturn, 1) := by decide +kernel
theorem dc_SB_count_112 : decode cd_SB_count 112 = .ok (.aload_n 0, 1) := by decide +kernel
theorem dc_SB_count_113 : decode cd_SB_count 113 = .ok (.getfield 105, 3) := by decide +kernel
theorem dc_SB_count_116 : decode cd_SB_count 116 = .ok (.ifCond .eq 13, 3) := by decide +kernel
theorem dc_SB_count_129 : decode cd_SB_count 129 = .ok (.iconst (-1), 1) := by decide +kernel
theorem dc_SB_count_130 : decode cd_SB_count 130 = .ok (.ireturn, 1) := by decide +kernel
theorem dc_Co_size_0 : decode cd_Co_size 0 = .ok (.aload_n 0, 1) := by decide +kernel
theorem dc_Co_size_1 : decode cd_Co_size 1 = .ok (.getfield 14, 3) := by decide +kernel
theorem dc_Co_size_4 : decode cd_Co_size 4 = .ok (.getfield 33, 3) := by decide +kernel
theorem dc_Co_size_7 : decode cd_Co_size 7 = .ok (.ireturn, 1) := by decide +kernel
theorem dc_SB_feed_0 : decode cd_SB_feed 0 = .ok (.aload_n 0, 1) := by decide +kernel
theorem dc_SB_feed_1 : decode cd_SB_feed 1 = .ok (.getfield 66, 3) := by decide +kernel
theorem dc_SB_feed_4 : decode cd_SB_feed 4 = .ok (.bipush 20, 2) := by decide +kernel
theorem dc_SB_feed_6 : decode cd_SB_feed 6 = .ok (.iadd, 1) := by decide +kernel
theorem dc_SB_feed_7 : decode cd_SB_feed 7 = .ok (.ldc 9, 2) := by decide +kernel
theorem dc_SB_feed_9 : decode cd_SB_feed 9 = .ok (.if_icmp .le 11, 3) := by decide +kernel
theorem dc_SB_feed_20 : decode cd_SB_feed 20 = .ok (.aload_n 0, 1) := by decide +kernel
theorem dc_SB_feed_21 : decode cd_SB_feed 21 = .ok (.iload_n 1, 1) := by decide +kernel
theorem dc_SB_feed_22 : decode cd_SB_feed 22 = .ok (.invokevirtual 73, 3) := by decide +kernel
theorem dc_SB_feed_25 : decode cd_SB_feed 25 = .ok (.aload_n 0, 1) := by decide +kernel
theorem dc_SB_feed_26 : decode cd_SB_feed 26 = .ok (.iload_n 2, 1) := by decide +kernel
theorem dc_SB_feed_27 : decode cd_SB_feed 27 = .ok (.invokevirtual 73, 3) := by decide +kernel
theorem dc_SB_feed_30 : decode cd_SB_feed 30 = .ok (.aload_n 0, 1) := by decide +kernel
theorem dc_SB_feed_31 : decode cd_SB_feed 31 = .ok (.iload_n 3, 1) := by decide +kernel
theorem dc_SB_feed_32 : decode cd_SB_feed 32 = .ok (.invokevirtual 73, 3) := by decide +kernel
theorem dc_SB_feed_35 : decode cd_SB_feed 35 = .ok (.aload_n 0, 1) := by decide +kernel
theorem dc_SB_feed_36 : decode cd_SB_feed 36 = .ok (.iload 4, 2) := by decide +kernel
theorem dc_SB_feed_38 : decode cd_SB_feed 38 = .ok (.invokevirtual 73, 3) := by decide +kernel
theorem dc_SB_feed_41 : decode cd_SB_feed 41 = .ok (.aload_n 0, 1) := by decide +kernel
theorem dc_SB_feed_42 : decode cd_SB_feed 42 = .ok (.iload 5, 2) := by decide +kernel
theorem dc_SB_feed_44 : decode cd_SB_feed 44 = .ok (.invokevirtual 73, 3) := by decide +kernel
theorem dc_SB_feed_47 : decode cd_SB_feed 47 = .ok (.aload_n 0, 1) := by decide +kernel
theorem dc_SB_feed_48 : decode cd_SB_feed 48 = .ok (.getfield 66, 3) := by decide +kernel
theorem dc_SB_feed_51 : decode cd_SB_feed 51 = .ok (.ireturn, 1) := by decide +kernel
theorem dc_SB_putBytes_0 : decode cd_SB_putBytes 0 = .ok (.bipush 24, 2) := by decide +kernel
theorem dc_SB_putBytes_2 : decode cd_SB_putBytes 2 = .ok (.istore_n 2, 1) := by decide +kernel
theorem dc_SB_putBytes_3 : decode cd_SB_putBytes 3 = .ok (.iload_n 2, 1) := by decide +kernel
theorem dc_SB_putBytes_4 : decode cd_SB_putBytes 4 = .ok (.ifCond .lt 32, 3) := by decide +kernel
theorem dc_SB_putBytes_7 : decode cd_SB_putBytes 7 = .ok (.aload_n 0, 1) := by decide +kernel
theorem dc_SB_putBytes_8 : decode cd_SB_putBytes 8 = .ok (.getfield 10, 3) := by decide +kernel
theorem dc_SB_putBytes_11 : decode cd_SB_putBytes 11 = .ok (.aload_n 0, 1) := by decide +kernel
theorem dc_SB_putBytes_12 : decode cd_SB_putBytes 12 = .ok (.getfield 66, 3) := by decide +kernel
theorem dc_SB_putBytes_15 : decode cd_SB_putBytes 15 = .ok (.iload_n 1, 1) := by decide +kernel
theorem dc_SB_putBytes_16 : decode cd_SB_putBytes 16 = .ok (.iload_n 2, 1) := by decide +kernel
theorem dc_SB_putBytes_17 : decode cd_SB_putBytes 17 = .ok (.ishr, 1) := by decide +kernel
theorem dc_SB_putBytes_18 : decode cd_SB_putBytes 18 = .ok (.i2b, 1) := by decide +kernel
theorem dc_SB_putBytes_19 : decode cd_SB_putBytes 19 = .ok (.bastore, 1) := by decide +kernel
theorem dc_SB_putBytes_20 : decode cd_SB_putBytes 20 = .ok (.aload_n 0, 1) := by decide +kernel
theorem dc_SB_putBytes_21 : decode cd_SB_putBytes 21 = .ok (.dup, 1) := by decide +kernel
theorem dc_SB_putBytes_22 : decode cd_SB_putBytes 22 = .ok (.getfield 66, 3) := by decide +kernel
theorem dc_SB_putBytes_25 : decode cd_SB_putBytes 25 = .ok (.iconst 1, 1) := by decide +kernel
theorem dc_SB_putBytes_26 : decode cd_SB_putBytes 26 = .ok (.iadd, 1) := by decide +kernel
theorem dc_SB_putBytes_27 : decode cd_SB_putBytes 27 = .ok (.putfield 66, 3) := by decide +kernel
theorem dc_SB_putBytes_30 : decode cd_SB_putBytes 30 = .ok (.iinc 2 (-8), 3) := by decide +kernel
theorem dc_SB_putBytes_33 : decode cd_SB_putBytes 33 = .ok (.goto (-30), 3) := by decide +kernel
theorem dc_SB_putBytes_36 : decode cd_SB_putBytes 36 = .ok (.return_, 1) := by decide +kernel
set_option maxHeartbeats 4000000 in
set_option maxRecDepth 100000 in
theorem c_SB_fault (l : Launch) (dC : Nat → ClassId) (dI : Nat → Nat → Nat) (h0 : Nat) (q7 : Nat) (q13 : Nat) (q24 : Nat) (q35 : Nat) (q47 : Nat) (q58 : Nat) (q69 : Nat) (q84 : Nat) (q95 : Nat) (sz : Nat) : Met l my_SB_fault (Cond.code my_SB_fault cd_SB_fault 1 (some (.int)) :: tblG) ({ frames := 0, cells := 0, slots := 0, locals := 0 }) (va_Pc [.ref h0] (fun U => U.heap.size = sz ∧ va_P (dC, dI) vwCl [(h0, .inr (0, [.ref q7, .int 0, .int 0, .ref q13, .ref q24, .ref q35, .ref q47, .ref q58, .ref q69, .ref q84, .ref q95, .int 0, .int 0]))] U.heap ∧ va_K (dC, dI) vwCl [] U ∧ va_D (fun _ => True) [(h0, .inr (0, [.ref q7, .int 0, .int 0, .ref q13, .ref q24, .ref q35, .ref q47, .ref q58, .ref q69, .ref q84, .ref q95, .int 0, .int 0]))])) (va_Qi (fun (r : Int32) (_ : Unit) => r = 0) (fun (_ : Unit) (t : State) => va_P (dC, dI) vwCl [(h0, .inr (0, [.ref q7, .int 0, .int 0, .ref q13, .ref q24, .ref q35, .ref q47, .ref q58, .ref q69, .ref q84, .ref q95, .int 0, .int 0]))] t.heap ∧ va_K (dC, dI) vwCl [] t ∧ va_D (va_A [(h0, .inr (0, [.ref q7, .int 0, .int 0, .ref q13, .ref q24, .ref q35, .ref q47, .ref q58, .ref q69, .ref q84, .ref q95, .int 0, .int 0]))] sz) [(h0, .inr (0, [.ref q7, .int 0, .int 0, .ref q13, .ref q24, .ref q35, .ref q47, .ref q58, .ref q69, .ref q84, .ref q95, .int 0, .int 0]))]) (va_A [(h0, .inr (0, [.ref q7, .int 0, .int 0, .ref q13, .ref q24, .ref q35, .ref q47, .ref q58, .ref q69, .ref q84, .ref q95, .int 0, .int 0]))] sz)) 0 0 (va_A [(h0, .inr (0, [.ref q7, .int 0, .int 0, .ref q13, .ref q24, .ref q35, .ref q47, .ref q58, .ref q69, .ref q84, .ref q95, .int 0, .int 0]))] sz) := by
  refine Met.ofW (cc := cd_SB_fault) (maxL := 1) (ret := (some (.int))) (by decide) rfl ?_
  intro p e s m args below meth c s₁ B hml hv
  obtain ⟨rfl, hsz, hP, hK, hD0⟩ := hv
  have hx := B.exec
  have hb := B.bytes
  have hr := B.returns
  have hT : ∀ w ∈ tblG, w.before _ s = true := fun w h => atoms_spec (ws := (Cond.code my_SB_fault cd_SB_fault 1 (some (.int)) :: tblG)) B.pre w (List.mem_cons_of_mem _ h)
  have hown : s.vm.findClass "StrataBase" = some m.cls := findClass_of_methodNamed B.named
  have hlocks := B.notSynchronized
  subst hsz
  have hD := hD0.self (sz := s.heap.size)
  generalize hAe : va_A [(h0, .inr (0, [.ref q7, .int 0, .int 0, .ref q13, .ref q24, .ref q35, .ref q47, .ref q58, .ref q69, .ref q84, .ref q95, .int 0, .int 0]))] s.heap.size = A at hD ⊢
  have hA : ∀ q : Nat, s.heap.size ≤ q → A q := fun q h => by rw [← hAe]; exact Or.inr h
  have hS : va_S A s.heap s.heap [] := va_S.rf
  have hl := lv_entry ([.ref h0]) (n := 1) (Nat.le_of_ble_eq_true rfl)
  rw [lg_entry_eq]
  generalize (lg_sl ([.ref h0]) ++ List.replicate (1 - (lg_sl ([.ref h0])).length) Slot.unset).toArray = ls at hl ⊢
  have hl : lv_has ls 1 [(0, .ref h0)] := hl
  refine lv_aload_n hx hb dc_SB_fault_0 rfl (lv_at hl 0 rfl) ?_
  refine va_get (D := (dC, dI)) (ci := 0) (v := .int 0) (C := "StrataBase") (T := tb_SB) (N := 13) hx hb hT in_SB hown hK hP 0 rfl rfl 2 (by decide) (hT _ wd_519) (fun _ h9 => h9) rfl dc_SB_fault_1 ?_
  have hP9 := hP.sub (ws' := [(h0, .inr (0, [.ref q7, .int 0, .int 0, .ref q13, .ref q24, .ref q35, .ref q47, .ref q58, .ref q69, .ref q84, .ref q95, .int 0, .int 0]))]) [0] rfl
  have hD9 := hD.sub (ws' := [(h0, .inr (0, [.ref q7, .int 0, .int 0, .ref q13, .ref q24, .ref q35, .ref q47, .ref q58, .ref q69, .ref q84, .ref q95, .int 0, .int 0]))]) [0] (by decide) rfl
  have hK9 := hK.sub (tys' := []) [] rfl
  refine W.widen (k := 0) (n := 0) (Nat.le_of_ble_eq_true rfl) (Nat.le_of_ble_eq_true rfl) ?_
  exact W.iret (v := 0) hx hb hr (fun t ht hW => ⟨⟨0, (), rfl, rfl, by rw [ht]; exact hP9, va_K.moved hW.alike hK9, hD9⟩, hS.F ht⟩) hS.2.2 dc_SB_fault_4

set_option maxHeartbeats 4000000 in
set_option maxRecDepth 100000 in
theorem c_SB_columns (l : Launch) (dC : Nat → ClassId) (dI : Nat → Nat → Nat) (h0 : Nat) (q7 : Nat) (q13 : Nat) (q24 : Nat) (q35 : Nat) (q47 : Nat) (q58 : Nat) (q69 : Nat) (q84 : Nat) (q95 : Nat) (u110 : Nat) (u111 : Nat) (u112 : Nat) (sz : Nat) : Met l my_SB_columns (Cond.code my_SB_columns cd_SB_columns 1 (some (.int)) :: tblG) ({ frames := 0, cells := 0, slots := 0, locals := 0 }) (va_Pc [.ref h0] (fun U => U.heap.size = sz ∧ va_P (dC, dI) vwCl [(h0, .inr (0, [.ref q7, .int 0, .int 0, .ref q13, .ref q24, .ref q35, .ref q47, .ref q58, .ref q69, .ref q84, .ref q95, .int 0, .int 0])), (q84, .inr (9, [.int 0, .int 0, .int 0, .ref u110, .ref u111, .ref u112]))] U.heap ∧ va_K (dC, dI) vwCl [] U ∧ va_D (fun _ => True) [(h0, .inr (0, [.ref q7, .int 0, .int 0, .ref q13, .ref q24, .ref q35, .ref q47, .ref q58, .ref q69, .ref q84, .ref q95, .int 0, .int 0])), (q84, .inr (9, [.int 0, .int 0, .int 0, .ref u110, .ref u111, .ref u112]))])) (va_Qi (fun (r : Int32) (_ : Unit) => r = 0) (fun (_ : Unit) (t : State) => va_P (dC, dI) vwCl [(h0, .inr (0, [.ref q7, .int 0, .int 0, .ref q13, .ref q24, .ref q35, .ref q47, .ref q58, .ref q69, .ref q84, .ref q95, .int 0, .int 0])), (q84, .inr (9, [.int 0, .int 0, .int 0, .ref u110, .ref u111, .ref u112]))] t.heap ∧ va_K (dC, dI) vwCl [] t ∧ va_D (va_A [(h0, .inr (0, [.ref q7, .int 0, .int 0, .ref q13, .ref q24, .ref q35, .ref q47, .ref q58, .ref q69, .ref q84, .ref q95, .int 0, .int 0])), (q84, .inr (9, [.int 0, .int 0, .int 0, .ref u110, .ref u111, .ref u112]))] sz) [(h0, .inr (0, [.ref q7, .int 0, .int 0, .ref q13, .ref q24, .ref q35, .ref q47, .ref q58, .ref q69, .ref q84, .ref q95, .int 0, .int 0])), (q84, .inr (9, [.int 0, .int 0, .int 0, .ref u110, .ref u111, .ref u112]))]) (va_A [(h0, .inr (0, [.ref q7, .int 0, .int 0, .ref q13, .ref q24, .ref q35, .ref q47, .ref q58, .ref q69, .ref q84, .ref q95, .int 0, .int 0])), (q84, .inr (9, [.int 0, .int 0, .int 0, .ref u110, .ref u111, .ref u112]))] sz)) 0 0 (va_A [(h0, .inr (0, [.ref q7, .int 0, .int 0, .ref q13, .ref q24, .ref q35, .ref q47, .ref q58, .ref q69, .ref q84, .ref q95, .int 0, .int 0])), (q84, .inr (9, [.int 0, .int 0, .int 0, .ref u110, .ref u111, .ref u112]))] sz) := by
  refine Met.ofW (cc := cd_SB_columns) (maxL := 1) (ret := (some (.int))) (by decide) rfl ?_
  intro p e s m args below meth c s₁ B hml hv
  obtain ⟨rfl, hsz, hP, hK, hD0⟩ := hv
  have hx := B.exec
  have hb := B.bytes
  have hr := B.returns
  have hT : ∀ w ∈ tblG, w.before _ s = true := fun w h => atoms_spec (ws := (Cond.code my_SB_columns cd_SB_columns 1 (some (.int)) :: tblG)) B.pre w (List.mem_cons_of_mem _ h)
  have hown : s.vm.findClass "StrataBase" = some m.cls := findClass_of_methodNamed B.named
  have hlocks := B.notSynchronized
  subst hsz
  have hD := hD0.self (sz := s.heap.size)
  generalize hAe : va_A [(h0, .inr (0, [.ref q7, .int 0, .int 0, .ref q13, .ref q24, .ref q35, .ref q47, .ref q58, .ref q69, .ref q84, .ref q95, .int 0, .int 0])), (q84, .inr (9, [.int 0, .int 0, .int 0, .ref u110, .ref u111, .ref u112]))] s.heap.size = A at hD ⊢
  have hA : ∀ q : Nat, s.heap.size ≤ q → A q := fun q h => by rw [← hAe]; exact Or.inr h
  have hS : va_S A s.heap s.heap [] := va_S.rf
  have hl := lv_entry ([.ref h0]) (n := 1) (Nat.le_of_ble_eq_true rfl)
  rw [lg_entry_eq]
  generalize (lg_sl ([.ref h0]) ++ List.replicate (1 - (lg_sl ([.ref h0])).length) Slot.unset).toArray = ls at hl ⊢
  have hl : lv_has ls 1 [(0, .ref h0)] := hl
  refine lv_aload_n hx hb dc_SB_columns_0 rfl (lv_at hl 0 rfl) ?_
  refine va_get (D := (dC, dI)) (ci := 0) (v := .ref q84) (C := "StrataBase") (T := tb_SB) (N := 13) hx hb hT in_SB hown hK hP 0 rfl rfl 9 (by decide) (hT _ wd_526) (fun _ h9 => h9) rfl dc_SB_columns_1 ?_
  refine va_get (D := (dC, dI)) (ci := 9) (v := .int 0) (C := "StrataBase$Rows") (T := tb_Ro) (N := 6) hx hb hT in_Ro hown hK hP 1 rfl rfl 1 (by decide) (hT _ wd_497) (fun _ h9 => h9) rfl dc_SB_columns_4 ?_
  have hP9 := hP.sub (ws' := [(h0, .inr (0, [.ref q7, .int 0, .int 0, .ref q13, .ref q24, .ref q35, .ref q47, .ref q58, .ref q69, .ref q84, .ref q95, .int 0, .int 0])), (q84, .inr (9, [.int 0, .int 0, .int 0, .ref u110, .ref u111, .ref u112]))]) [0, 1] rfl
  have hD9 := hD.sub (ws' := [(h0, .inr (0, [.ref q7, .int 0, .int 0, .ref q13, .ref q24, .ref q35, .ref q47, .ref q58, .ref q69, .ref q84, .ref q95, .int 0, .int 0])), (q84, .inr (9, [.int 0, .int 0, .int 0, .ref u110, .ref u111, .ref u112]))]) [0, 1] (by decide) rfl
  have hK9 := hK.sub (tys' := []) [] rfl
  refine W.widen (k := 0) (n := 0) (Nat.le_of_ble_eq_true rfl) (Nat.le_of_ble_eq_true rfl) ?_
  exact W.iret (v := 0) hx hb hr (fun t ht hW => ⟨⟨0, (), rfl, rfl, by rw [ht]; exact hP9, va_K.moved hW.alike hK9, hD9⟩, hS.F ht⟩) hS.2.2 dc_SB_columns_7

set_option maxHeartbeats 4000000 in
set_option maxRecDepth 100000 in
theorem c_To_open_1 (l : Launch) (dC : Nat → ClassId) (dI : Nat → Nat → Nat) (a1 : Nat) (a2 : Nat) (sz : Nat) : Met l my_To_open (Cond.code my_To_open cd_To_open 3 none :: tblG) ({ frames := 0, cells := 0, slots := 0, locals := 0 }) (va_Pc [.ref a1, .ref a2, .int 0] (fun U => U.heap.size = sz ∧ va_P (dC, dI) vwCl [(a1, .inr (11, [.null, .int 0, .int 0, .int 0, .int 0, .int 0]))] U.heap ∧ va_K (dC, dI) vwCl [] U ∧ va_D (fun _ => True) [(a1, .inr (11, [.null, .int 0, .int 0, .int 0, .int 0, .int 0]))])) (va_Qv (fun _ : Unit => True) (fun (_ : Unit) (t : State) => va_P (dC, dI) vwCl [(a1, .inr (11, [.ref a2, .int 0, .int 0, .int 0, .int 0, .int 0]))] t.heap ∧ va_K (dC, dI) vwCl [] t ∧ va_D (va_A [(a1, .inr (11, [.null, .int 0, .int 0, .int 0, .int 0, .int 0]))] sz) [(a1, .inr (11, [.ref a2, .int 0, .int 0, .int 0, .int 0, .int 0]))]) (va_A [(a1, .inr (11, [.null, .int 0, .int 0, .int 0, .int 0, .int 0]))] sz)) 0 0 (va_A [(a1, .inr (11, [.null, .int 0, .int 0, .int 0, .int 0, .int 0]))] sz) := by
  refine Met.ofW (cc := cd_To_open) (maxL := 3) (ret := none) (by decide) rfl ?_
  intro p e s m args below meth c s₁ B hml hv
  obtain ⟨rfl, hsz, hP, hK, hD0⟩ := hv
  have hx := B.exec
  have hb := B.bytes
  have hr := B.returns
  have hT : ∀ w ∈ tblG, w.before _ s = true := fun w h => atoms_spec (ws := (Cond.code my_To_open cd_To_open 3 none :: tblG)) B.pre w (List.mem_cons_of_mem _ h)
  have hown : s.vm.findClass "StrataBase$Tokens" = some m.cls := findClass_of_methodNamed B.named
  have hlocks := B.notSynchronized
  subst hsz
  have hD := hD0.self (sz := s.heap.size)
  generalize hAe : va_A [(a1, .inr (11, [.null, .int 0, .int 0, .int 0, .int 0, .int 0]))] s.heap.size = A at hD ⊢
  have hA : ∀ q : Nat, s.heap.size ≤ q → A q := fun q h => by rw [← hAe]; exact Or.inr h
  have hS : va_S A s.heap s.heap [] := va_S.rf
  have hl := lv_entry ([.ref a1, .ref a2, .int 0]) (n := 3) (Nat.le_of_ble_eq_true rfl)
  rw [lg_entry_eq]
  generalize (lg_sl ([.ref a1, .ref a2, .int 0]) ++ List.replicate (3 - (lg_sl ([.ref a1, .ref a2, .int 0])).length) Slot.unset).toArray = ls at hl ⊢
  have hl : lv_has ls 3 [(0, .ref a1), (1, .ref a2), (2, .int 0)] := hl
  refine lv_aload_n hx hb dc_To_open_0 rfl (lv_at hl 0 rfl) ?_
  refine lv_aload_n hx hb dc_To_open_1 rfl (lv_at hl 1 rfl) ?_
  refine va_put (D := (dC, dI)) (ci := 11) (v := .ref a2) (ty := .array .byte) (C := "StrataBase$Tokens") (T := tb_To) (N := 6) hx hb hT in_To ty_To tk_To nm_To hown hK hP hD hS 0 rfl rfl 0 (by decide) (hT _ wd_194) (fun _ h9 => h9) rfl (by decide +kernel) rfl rfl (Nat.le_of_ble_eq_true rfl) dc_To_open_2 (fun H locs hP hD hS => ?_)
  have hP : va_P (dC, dI) vwCl [(a1, .inr (11, [.ref a2, .int 0, .int 0, .int 0, .int 0, .int 0]))] H := hP
  have hD : va_D A [(a1, .inr (11, [.ref a2, .int 0, .int 0, .int 0, .int 0, .int 0]))] := hD
  refine lv_aload_n hx hb dc_To_open_5 rfl (lv_at hl 0 rfl) ?_
  refine lv_iload_n hx hb dc_To_open_6 rfl (lv_at hl 2 rfl) ?_
  refine va_put (D := (dC, dI)) (ci := 11) (v := .int 0) (ty := .int) (C := "StrataBase$Tokens") (T := tb_To) (N := 6) hx hb hT in_To ty_To tk_To nm_To hown hK hP hD hS 0 rfl rfl 5 (by decide) (hT _ wd_204) (fun _ h9 => h9) rfl (by decide +kernel) rfl rfl (Nat.le_of_ble_eq_true rfl) dc_To_open_7 (fun H locs hP hD hS => ?_)
  have hP : va_P (dC, dI) vwCl [(a1, .inr (11, [.ref a2, .int 0, .int 0, .int 0, .int 0, .int 0]))] H := hP
  have hD : va_D A [(a1, .inr (11, [.ref a2, .int 0, .int 0, .int 0, .int 0, .int 0]))] := hD
  refine lv_aload_n hx hb dc_To_open_10 rfl (lv_at hl 0 rfl) ?_
  refine lv_iconst (v := 0) hx hb dc_To_open_11 (by decide) ?_
  refine va_put (D := (dC, dI)) (ci := 11) (v := .int 0) (ty := .int) (C := "StrataBase$Tokens") (T := tb_To) (N := 6) hx hb hT in_To ty_To tk_To nm_To hown hK hP hD hS 0 rfl rfl 3 (by decide) (hT _ wd_200) (fun _ h9 => h9) rfl (by decide +kernel) rfl rfl (Nat.le_of_ble_eq_true rfl) dc_To_open_12 (fun H locs hP hD hS => ?_)
  have hP : va_P (dC, dI) vwCl [(a1, .inr (11, [.ref a2, .int 0, .int 0, .int 0, .int 0, .int 0]))] H := hP
  have hD : va_D A [(a1, .inr (11, [.ref a2, .int 0, .int 0, .int 0, .int 0, .int 0]))] := hD
  have hP9 := hP.sub (ws' := [(a1, .inr (11, [.ref a2, .int 0, .int 0, .int 0, .int 0, .int 0]))]) [0] rfl
  have hD9 := hD.sub (ws' := [(a1, .inr (11, [.ref a2, .int 0, .int 0, .int 0, .int 0, .int 0]))]) [0] (by decide) rfl
  have hK9 := hK.sub (tys' := []) [] rfl
  refine W.widen (k := 0) (n := 0) (Nat.le_of_ble_eq_true rfl) (Nat.le_of_ble_eq_true rfl) ?_
  exact W.vret hx hb hr (fun t ht hW => ⟨⟨(), rfl, trivial, by rw [ht]; exact hP9, va_K.moved hW.alike hK9, hD9⟩, hS.F ht⟩) hS.2.2 dc_To_open_15

set_option maxHeartbeats 4000000 in
set_option maxRecDepth 100000 in
theorem c_Cl_clear_1 (l : Launch) (dC : Nat → ClassId) (dI : Nat → Nat → Nat) (a1 : Nat) (a2 : Nat) (a3 : Nat) (a4 : Nat) (a5 : Nat) (a6 : Nat) (a7 : Nat) (a8 : Nat) (sz : Nat) : Met l my_Cl_clear (Cond.code my_Cl_clear cd_Cl_clear 1 none :: tblG) ({ frames := 0, cells := 0, slots := 0, locals := 0 }) (va_Pc [.ref a1] (fun U => U.heap.size = sz ∧ va_P (dC, dI) vwCl [(a1, .inr (1, [.int 0, .ref a2, .ref a3, .ref a4, .ref a5, .ref a6, .ref a7, .ref a8, .int 0]))] U.heap ∧ va_K (dC, dI) vwCl [] U ∧ va_D (fun _ => True) [(a1, .inr (1, [.int 0, .ref a2, .ref a3, .ref a4, .ref a5, .ref a6, .ref a7, .ref a8, .int 0]))])) (va_Qv (fun _ : Unit => True) (fun (_ : Unit) (t : State) => va_P (dC, dI) vwCl [(a1, .inr (1, [.int 0, .ref a2, .ref a3, .ref a4, .ref a5, .ref a6, .ref a7, .ref a8, .int 0]))] t.heap ∧ va_K (dC, dI) vwCl [] t ∧ va_D (va_A [(a1, .inr (1, [.int 0, .ref a2, .ref a3, .ref a4, .ref a5, .ref a6, .ref a7, .ref a8, .int 0]))] sz) [(a1, .inr (1, [.int 0, .ref a2, .ref a3, .ref a4, .ref a5, .ref a6, .ref a7, .ref a8, .int 0]))]) (va_A [(a1, .inr (1, [.int 0, .ref a2, .ref a3, .ref a4, .ref a5, .ref a6, .ref a7, .ref a8, .int 0]))] sz)) 0 0 (va_A [(a1, .inr (1, [.int 0, .ref a2, .ref a3, .ref a4, .ref a5, .ref a6, .ref a7, .ref a8, .int 0]))] sz) := by
  refine Met.ofW (cc := cd_Cl_clear) (maxL := 1) (ret := none) (by decide) rfl ?_
  intro p e s m args below meth c s₁ B hml hv
  obtain ⟨rfl, hsz, hP, hK, hD0⟩ := hv
  have hx := B.exec
  have hb := B.bytes
  have hr := B.returns
  have hT : ∀ w ∈ tblG, w.before _ s = true := fun w h => atoms_spec (ws := (Cond.code my_Cl_clear cd_Cl_clear 1 none :: tblG)) B.pre w (List.mem_cons_of_mem _ h)
  have hown : s.vm.findClass "StrataBase$Clauses" = some m.cls := findClass_of_methodNamed B.named
  have hlocks := B.notSynchronized
  subst hsz
  have hD := hD0.self (sz := s.heap.size)
  generalize hAe : va_A [(a1, .inr (1, [.int 0, .ref a2, .ref a3, .ref a4, .ref a5, .ref a6, .ref a7, .ref a8, .int 0]))] s.heap.size = A at hD ⊢
  have hA : ∀ q : Nat, s.heap.size ≤ q → A q := fun q h => by rw [← hAe]; exact Or.inr h
  have hS : va_S A s.heap s.heap [] := va_S.rf
  have hl := lv_entry ([.ref a1]) (n := 1) (Nat.le_of_ble_eq_true rfl)
  rw [lg_entry_eq]
  generalize (lg_sl ([.ref a1]) ++ List.replicate (1 - (lg_sl ([.ref a1])).length) Slot.unset).toArray = ls at hl ⊢
  have hl : lv_has ls 1 [(0, .ref a1)] := hl
  refine lv_aload_n hx hb dc_Cl_clear_0 rfl (lv_at hl 0 rfl) ?_
  refine lv_iconst (v := 0) hx hb dc_Cl_clear_1 (by decide) ?_
  refine va_put (D := (dC, dI)) (ci := 1) (v := .int 0) (ty := .int) (C := "StrataBase$Clauses") (T := tb_Cl) (N := 9) hx hb hT in_Cl ty_Cl tk_Cl nm_Cl hown hK hP hD hS 0 rfl rfl 0 (by decide) (hT _ wd_46) (fun _ h9 => h9) rfl (by decide +kernel) rfl rfl (Nat.le_of_ble_eq_true rfl) dc_Cl_clear_2 (fun H locs hP hD hS => ?_)
  have hP : va_P (dC, dI) vwCl [(a1, .inr (1, [.int 0, .ref a2, .ref a3, .ref a4, .ref a5, .ref a6, .ref a7, .ref a8, .int 0]))] H := hP
  have hD : va_D A [(a1, .inr (1, [.int 0, .ref a2, .ref a3, .ref a4, .ref a5, .ref a6, .ref a7, .ref a8, .int 0]))] := hD
  refine lv_aload_n hx hb dc_Cl_clear_5 rfl (lv_at hl 0 rfl) ?_
  refine lv_iconst (v := 0) hx hb dc_Cl_clear_6 (by decide) ?_
  refine va_put (D := (dC, dI)) (ci := 1) (v := .int 0) (ty := .int) (C := "StrataBase$Clauses") (T := tb_Cl) (N := 9) hx hb hT in_Cl ty_Cl tk_Cl nm_Cl hown hK hP hD hS 0 rfl rfl 8 (by decide) (hT _ wd_76) (fun _ h9 => h9) rfl (by decide +kernel) rfl rfl (Nat.le_of_ble_eq_true rfl) dc_Cl_clear_7 (fun H locs hP hD hS => ?_)
  have hP : va_P (dC, dI) vwCl [(a1, .inr (1, [.int 0, .ref a2, .ref a3, .ref a4, .ref a5, .ref a6, .ref a7, .ref a8, .int 0]))] H := hP
  have hD : va_D A [(a1, .inr (1, [.int 0, .ref a2, .ref a3, .ref a4, .ref a5, .ref a6, .ref a7, .ref a8, .int 0]))] := hD
  have hP9 := hP.sub (ws' := [(a1, .inr (1, [.int 0, .ref a2, .ref a3, .ref a4, .ref a5, .ref a6, .ref a7, .ref a8, .int 0]))]) [0] rfl
  have hD9 := hD.sub (ws' := [(a1, .inr (1, [.int 0, .ref a2, .ref a3, .ref a4, .ref a5, .ref a6, .ref a7, .ref a8, .int 0]))]) [0] (by decide) rfl
  have hK9 := hK.sub (tys' := []) [] rfl
  refine W.widen (k := 0) (n := 0) (Nat.le_of_ble_eq_true rfl) (Nat.le_of_ble_eq_true rfl) ?_
  exact W.vret hx hb hr (fun t ht hW => ⟨⟨(), rfl, trivial, by rw [ht]; exact hP9, va_K.moved hW.alike hK9, hD9⟩, hS.F ht⟩) hS.2.2 dc_Cl_clear_10

set_option maxHeartbeats 4000000 in
set_option maxRecDepth 100000 in
theorem c_Na_clear_1 (l : Launch) (dC : Nat → ClassId) (dI : Nat → Nat → Nat) (a1 : Nat) (a2 : Nat) (a3 : Nat) (a4 : Nat) (sz : Nat) : Met l my_Na_clear (Cond.code my_Na_clear cd_Na_clear 1 none :: tblG) ({ frames := 0, cells := 0, slots := 0, locals := 0 }) (va_Pc [.ref a1] (fun U => U.heap.size = sz ∧ va_P (dC, dI) vwCl [(a1, .inr (6, [.int 0, .ref a2, .ref a3, .ref a4, .int 0]))] U.heap ∧ va_K (dC, dI) vwCl [] U ∧ va_D (fun _ => True) [(a1, .inr (6, [.int 0, .ref a2, .ref a3, .ref a4, .int 0]))])) (va_Qv (fun _ : Unit => True) (fun (_ : Unit) (t : State) => va_P (dC, dI) vwCl [(a1, .inr (6, [.int 0, .ref a2, .ref a3, .ref a4, .int 0]))] t.heap ∧ va_K (dC, dI) vwCl [] t ∧ va_D (va_A [(a1, .inr (6, [.int 0, .ref a2, .ref a3, .ref a4, .int 0]))] sz) [(a1, .inr (6, [.int 0, .ref a2, .ref a3, .ref a4, .int 0]))]) (va_A [(a1, .inr (6, [.int 0, .ref a2, .ref a3, .ref a4, .int 0]))] sz)) 0 0 (va_A [(a1, .inr (6, [.int 0, .ref a2, .ref a3, .ref a4, .int 0]))] sz) := by
  refine Met.ofW (cc := cd_Na_clear) (maxL := 1) (ret := none) (by decide) rfl ?_
  intro p e s m args below meth c s₁ B hml hv
  obtain ⟨rfl, hsz, hP, hK, hD0⟩ := hv
  have hx := B.exec
  have hb := B.bytes
  have hr := B.returns
  have hT : ∀ w ∈ tblG, w.before _ s = true := fun w h => atoms_spec (ws := (Cond.code my_Na_clear cd_Na_clear 1 none :: tblG)) B.pre w (List.mem_cons_of_mem _ h)
  have hown : s.vm.findClass "StrataBase$Names" = some m.cls := findClass_of_methodNamed B.named
  have hlocks := B.notSynchronized
  subst hsz
  have hD := hD0.self (sz := s.heap.size)
  generalize hAe : va_A [(a1, .inr (6, [.int 0, .ref a2, .ref a3, .ref a4, .int 0]))] s.heap.size = A at hD ⊢
  have hA : ∀ q : Nat, s.heap.size ≤ q → A q := fun q h => by rw [← hAe]; exact Or.inr h
  have hS : va_S A s.heap s.heap [] := va_S.rf
  have hl := lv_entry ([.ref a1]) (n := 1) (Nat.le_of_ble_eq_true rfl)
  rw [lg_entry_eq]
  generalize (lg_sl ([.ref a1]) ++ List.replicate (1 - (lg_sl ([.ref a1])).length) Slot.unset).toArray = ls at hl ⊢
  have hl : lv_has ls 1 [(0, .ref a1)] := hl
  refine lv_aload_n hx hb dc_Na_clear_0 rfl (lv_at hl 0 rfl) ?_
  refine lv_iconst (v := 0) hx hb dc_Na_clear_1 (by decide) ?_
  refine va_put (D := (dC, dI)) (ci := 6) (v := .int 0) (ty := .int) (C := "StrataBase$Names") (T := tb_Na) (N := 5) hx hb hT in_Na ty_Na tk_Na nm_Na hown hK hP hD hS 0 rfl rfl 0 (by decide) (hT _ wd_104) (fun _ h9 => h9) rfl (by decide +kernel) rfl rfl (Nat.le_of_ble_eq_true rfl) dc_Na_clear_2 (fun H locs hP hD hS => ?_)
  have hP : va_P (dC, dI) vwCl [(a1, .inr (6, [.int 0, .ref a2, .ref a3, .ref a4, .int 0]))] H := hP
  have hD : va_D A [(a1, .inr (6, [.int 0, .ref a2, .ref a3, .ref a4, .int 0]))] := hD
  refine lv_aload_n hx hb dc_Na_clear_5 rfl (lv_at hl 0 rfl) ?_
  refine lv_iconst (v := 0) hx hb dc_Na_clear_6 (by decide) ?_
  refine va_put (D := (dC, dI)) (ci := 6) (v := .int 0) (ty := .int) (C := "StrataBase$Names") (T := tb_Na) (N := 5) hx hb hT in_Na ty_Na tk_Na nm_Na hown hK hP hD hS 0 rfl rfl 4 (by decide) (hT _ wd_112) (fun _ h9 => h9) rfl (by decide +kernel) rfl rfl (Nat.le_of_ble_eq_true rfl) dc_Na_clear_7 (fun H locs hP hD hS => ?_)
  have hP : va_P (dC, dI) vwCl [(a1, .inr (6, [.int 0, .ref a2, .ref a3, .ref a4, .int 0]))] H := hP
  have hD : va_D A [(a1, .inr (6, [.int 0, .ref a2, .ref a3, .ref a4, .int 0]))] := hD
  have hP9 := hP.sub (ws' := [(a1, .inr (6, [.int 0, .ref a2, .ref a3, .ref a4, .int 0]))]) [0] rfl
  have hD9 := hD.sub (ws' := [(a1, .inr (6, [.int 0, .ref a2, .ref a3, .ref a4, .int 0]))]) [0] (by decide) rfl
  have hK9 := hK.sub (tys' := []) [] rfl
  refine W.widen (k := 0) (n := 0) (Nat.le_of_ble_eq_true rfl) (Nat.le_of_ble_eq_true rfl) ?_
  exact W.vret hx hb hr (fun t ht hW => ⟨⟨(), rfl, trivial, by rw [ht]; exact hP9, va_K.moved hW.alike hK9, hD9⟩, hS.F ht⟩) hS.2.2 dc_Na_clear_10

set_option maxHeartbeats 4000000 in
set_option maxRecDepth 100000 in
theorem c_Re_beginBody_1 (l : Launch) (dC : Nat → ClassId) (dI : Nat → Nat → Nat) (a1 : Nat) (a2 : Nat) (a3 : Nat) (a4 : Nat) (a5 : Nat) (a6 : Nat) (a7 : Nat) (a8 : Nat) (a9 : Nat) (a10 : Nat) (a11 : Nat) (a12 : Nat) (sz : Nat) : Met l my_Re_beginBody (Cond.code my_Re_beginBody cd_Re_beginBody 1 none :: tblG) ({ frames := 1, cells := 0, slots := 0, locals := 20 }) (va_Pc [.ref a1] (fun U => U.heap.size = sz ∧ va_P (dC, dI) vwCl [(a1, .inr (8, [.int 0, .int 0, .ref a2, .int 0, .ref a3, .int 0, .int 0, .ref a4, .ref a5, .int 0, .int 0, .int 0, .int 0, .int 0, .int 0, .ref a6, .ref a7, .ref a8, .ref a9])), (a2, .inr (6, [.int 0, .ref a10, .ref a11, .ref a12, .int 0]))] U.heap ∧ va_K (dC, dI) vwCl [] U ∧ va_D (fun _ => True) [(a1, .inr (8, [.int 0, .int 0, .ref a2, .int 0, .ref a3, .int 0, .int 0, .ref a4, .ref a5, .int 0, .int 0, .int 0, .int 0, .int 0, .int 0, .ref a6, .ref a7, .ref a8, .ref a9])), (a2, .inr (6, [.int 0, .ref a10, .ref a11, .ref a12, .int 0]))])) (va_Qv (fun _ : Unit => True) (fun (_ : Unit) (t : State) => va_P (dC, dI) vwCl [(a1, .inr (8, [.int 0, .int 0, .ref a2, .int 0, .ref a3, .int 0, .int 0, .ref a4, .ref a5, .int 0, .int 0, .int 0, .int 0, .int 0, .int 0, .ref a6, .ref a7, .ref a8, .ref a9])), (a2, .inr (6, [.int 0, .ref a10, .ref a11, .ref a12, .int 0]))] t.heap ∧ va_K (dC, dI) vwCl [] t ∧ va_D (va_A [(a1, .inr (8, [.int 0, .int 0, .ref a2, .int 0, .ref a3, .int 0, .int 0, .ref a4, .ref a5, .int 0, .int 0, .int 0, .int 0, .int 0, .int 0, .ref a6, .ref a7, .ref a8, .ref a9])), (a2, .inr (6, [.int 0, .ref a10, .ref a11, .ref a12, .int 0]))] sz) [(a1, .inr (8, [.int 0, .int 0, .ref a2, .int 0, .ref a3, .int 0, .int 0, .ref a4, .ref a5, .int 0, .int 0, .int 0, .int 0, .int 0, .int 0, .ref a6, .ref a7, .ref a8, .ref a9])), (a2, .inr (6, [.int 0, .ref a10, .ref a11, .ref a12, .int 0]))]) (va_A [(a1, .inr (8, [.int 0, .int 0, .ref a2, .int 0, .ref a3, .int 0, .int 0, .ref a4, .ref a5, .int 0, .int 0, .int 0, .int 0, .int 0, .int 0, .ref a6, .ref a7, .ref a8, .ref a9])), (a2, .inr (6, [.int 0, .ref a10, .ref a11, .ref a12, .int 0]))] sz)) 0 0 (va_A [(a1, .inr (8, [.int 0, .int 0, .ref a2, .int 0, .ref a3, .int 0, .int 0, .ref a4, .ref a5, .int 0, .int 0, .int 0, .int 0, .int 0, .int 0, .ref a6, .ref a7, .ref a8, .ref a9])), (a2, .inr (6, [.int 0, .ref a10, .ref a11, .ref a12, .int 0]))] sz) := by
  refine Met.ofW (cc := cd_Re_beginBody) (maxL := 1) (ret := none) (by decide) rfl ?_
  intro p e s m args below meth c s₁ B hml hv
  obtain ⟨rfl, hsz, hP, hK, hD0⟩ := hv
  have hx := B.exec
  have hb := B.bytes
  have hr := B.returns
  have hT : ∀ w ∈ tblG, w.before _ s = true := fun w h => atoms_spec (ws := (Cond.code my_Re_beginBody cd_Re_beginBody 1 none :: tblG)) B.pre w (List.mem_cons_of_mem _ h)
  have hown : s.vm.findClass "StrataBase$Reader" = some m.cls := findClass_of_methodNamed B.named
  have hlocks := B.notSynchronized
  subst hsz
  have hD := hD0.self (sz := s.heap.size)
  generalize hAe : va_A [(a1, .inr (8, [.int 0, .int 0, .ref a2, .int 0, .ref a3, .int 0, .int 0, .ref a4, .ref a5, .int 0, .int 0, .int 0, .int 0, .int 0, .int 0, .ref a6, .ref a7, .ref a8, .ref a9])), (a2, .inr (6, [.int 0, .ref a10, .ref a11, .ref a12, .int 0]))] s.heap.size = A at hD ⊢
  have hA : ∀ q : Nat, s.heap.size ≤ q → A q := fun q h => by rw [← hAe]; exact Or.inr h
  have hS : va_S A s.heap s.heap [] := va_S.rf
  have hl := lv_entry ([.ref a1]) (n := 1) (Nat.le_of_ble_eq_true rfl)
  rw [lg_entry_eq]
  generalize (lg_sl ([.ref a1]) ++ List.replicate (1 - (lg_sl ([.ref a1])).length) Slot.unset).toArray = ls at hl ⊢
  have hl : lv_has ls 1 [(0, .ref a1)] := hl
  refine lv_aload_n hx hb dc_Re_beginBody_0 rfl (lv_at hl 0 rfl) ?_
  refine va_get (D := (dC, dI)) (ci := 8) (v := .ref a2) (C := "StrataBase$Reader") (T := tb_Re) (N := 19) hx hb hT in_Re hown hK hP 0 rfl rfl 2 (by decide) (hT _ wd_224) (fun _ h9 => h9) rfl dc_Re_beginBody_1 ?_
  have hPc := hP.sub (ws' := [(a2, .inr (6, [.int 0, .ref a10, .ref a11, .ref a12, .int 0]))]) [1] rfl
  have hDc := hD.sub (ws' := [(a2, .inr (6, [.int 0, .ref a10, .ref a11, .ref a12, .int 0]))]) [1] (by decide) rfl
  have hKc := hK.sub (tys' := []) [] rfl
  have hFc := va_free (wc := [(a2, .inr (6, [.int 0, .ref a10, .ref a11, .ref a12, .int 0]))]) hD hS hA [1] rfl
  refine va_callv (va_runV (As := []) (rest := []) ⟨hx, hb, hml, hown, hT⟩ (c_Na_clear_1 l dC dI a2 a10 a11 a12 s.heap.size) (cwV 0 hT (gd_V wd_577 wd_578 wd_579 wd_4 wd_580) rfl rfl rfl (by decide +kernel) ⟨Nat.le_of_ble_eq_true rfl, Nat.le_of_ble_eq_true rfl⟩) ⟨fun a U g mk q => by obtain ⟨q0, q1, qP, qK, qD⟩ := q; exact ⟨q0, q1, qP, va_K.moved (u := U) (U := U.calling g mk a) (Vm.Alike.refl U.vm) qK, qD⟩, va_recv hK hP (q0 := 1) (ci := 6) rfl rfl, fun U hU hW => ⟨rfl, by rw [hU], by rw [hU]; exact hPc, va_K.moved hW.alike hKc, hDc.weaken (fun _ _ _ _ => trivial)⟩⟩ rfl rfl hl.1 rfl (lv_room (Nat.le_of_ble_eq_true rfl)) dc_Re_beginBody_4 ⟨(Nat.le_of_ble_eq_true rfl), (Nat.le_of_ble_eq_true rfl)⟩) hS (fun q _ h => hFc q h) hFc (fun _ t H1 locs ht hvm hr9 hB hz1 hk1 hS => ?_)
  obtain ⟨hP1, hK1, hD1⟩ := hB
  rw [ht] at hP1
  have hK1 := va_K.moved hvm.symm hK1
  obtain ⟨hP, hD⟩ := va_join (wr := [(a1, .inr (8, [.int 0, .int 0, .ref a2, .int 0, .ref a3, .int 0, .int 0, .ref a4, .ref a5, .int 0, .int 0, .int 0, .int 0, .int 0, .int 0, .ref a6, .ref a7, .ref a8, .ref a9]))]) (w1 := [(a2, .inr (6, [.int 0, .ref a10, .ref a11, .ref a12, .int 0]))]) hP hD [1] [0] rfl rfl (by decide) (by decide) hk1 hFc hP1 hD1
  have hK := (hK.sub (tys' := []) [] rfl).app hK1
  generalize H1 = H at hP hS ⊢
  have hP : va_P (dC, dI) vwCl [(a1, .inr (8, [.int 0, .int 0, .ref a2, .int 0, .ref a3, .int 0, .int 0, .ref a4, .ref a5, .int 0, .int 0, .int 0, .int 0, .int 0, .int 0, .ref a6, .ref a7, .ref a8, .ref a9])), (a2, .inr (6, [.int 0, .ref a10, .ref a11, .ref a12, .int 0]))] H := hP
  have hD : va_D A [(a1, .inr (8, [.int 0, .int 0, .ref a2, .int 0, .ref a3, .int 0, .int 0, .ref a4, .ref a5, .int 0, .int 0, .int 0, .int 0, .int 0, .int 0, .ref a6, .ref a7, .ref a8, .ref a9])), (a2, .inr (6, [.int 0, .ref a10, .ref a11, .ref a12, .int 0]))] := hD
  have hK : va_K (dC, dI) vwCl [] s := hK
  refine lv_aload_n hx hb dc_Re_beginBody_7 rfl (lv_at hl 0 rfl) ?_
  refine lv_iconst (v := 0) hx hb dc_Re_beginBody_8 (by decide) ?_
  refine va_put (D := (dC, dI)) (ci := 8) (v := .int 0) (ty := .int) (C := "StrataBase$Reader") (T := tb_Re) (N := 19) hx hb hT in_Re ty_Re tk_Re nm_Re hown hK hP hD hS 0 rfl rfl 3 (by decide) (hT _ wd_227) (fun _ h9 => h9) rfl (by decide +kernel) rfl rfl (Nat.le_of_ble_eq_true rfl) dc_Re_beginBody_9 (fun H locs hP hD hS => ?_)
  have hP : va_P (dC, dI) vwCl [(a1, .inr (8, [.int 0, .int 0, .ref a2, .int 0, .ref a3, .int 0, .int 0, .ref a4, .ref a5, .int 0, .int 0, .int 0, .int 0, .int 0, .int 0, .ref a6, .ref a7, .ref a8, .ref a9])), (a2, .inr (6, [.int 0, .ref a10, .ref a11, .ref a12, .int 0]))] H := hP
  have hD : va_D A [(a1, .inr (8, [.int 0, .int 0, .ref a2, .int 0, .ref a3, .int 0, .int 0, .ref a4, .ref a5, .int 0, .int 0, .int 0, .int 0, .int 0, .int 0, .ref a6, .ref a7, .ref a8, .ref a9])), (a2, .inr (6, [.int 0, .ref a10, .ref a11, .ref a12, .int 0]))] := hD
  refine lv_aload_n hx hb dc_Re_beginBody_12 rfl (lv_at hl 0 rfl) ?_
  refine lv_iconst (v := 0) hx hb dc_Re_beginBody_13 (by decide) ?_
  refine va_put (D := (dC, dI)) (ci := 8) (v := .int 0) (ty := .int) (C := "StrataBase$Reader") (T := tb_Re) (N := 19) hx hb hT in_Re ty_Re tk_Re nm_Re hown hK hP hD hS 0 rfl rfl 14 (by decide) (hT _ wd_238) (fun _ h9 => h9) rfl (by decide +kernel) rfl rfl (Nat.le_of_ble_eq_true rfl) dc_Re_beginBody_14 (fun H locs hP hD hS => ?_)
  have hP : va_P (dC, dI) vwCl [(a1, .inr (8, [.int 0, .int 0, .ref a2, .int 0, .ref a3, .int 0, .int 0, .ref a4, .ref a5, .int 0, .int 0, .int 0, .int 0, .int 0, .int 0, .ref a6, .ref a7, .ref a8, .ref a9])), (a2, .inr (6, [.int 0, .ref a10, .ref a11, .ref a12, .int 0]))] H := hP
  have hD : va_D A [(a1, .inr (8, [.int 0, .int 0, .ref a2, .int 0, .ref a3, .int 0, .int 0, .ref a4, .ref a5, .int 0, .int 0, .int 0, .int 0, .int 0, .int 0, .ref a6, .ref a7, .ref a8, .ref a9])), (a2, .inr (6, [.int 0, .ref a10, .ref a11, .ref a12, .int 0]))] := hD
  refine lv_aload_n hx hb dc_Re_beginBody_17 rfl (lv_at hl 0 rfl) ?_
  refine lv_iconst (v := 0) hx hb dc_Re_beginBody_18 (by decide) ?_
  refine va_put (D := (dC, dI)) (ci := 8) (v := .int 0) (ty := .int) (C := "StrataBase$Reader") (T := tb_Re) (N := 19) hx hb hT in_Re ty_Re tk_Re nm_Re hown hK hP hD hS 0 rfl rfl 9 (by decide) (hT _ wd_233) (fun _ h9 => h9) rfl (by decide +kernel) rfl rfl (Nat.le_of_ble_eq_true rfl) dc_Re_beginBody_19 (fun H locs hP hD hS => ?_)
  have hP : va_P (dC, dI) vwCl [(a1, .inr (8, [.int 0, .int 0, .ref a2, .int 0, .ref a3, .int 0, .int 0, .ref a4, .ref a5, .int 0, .int 0, .int 0, .int 0, .int 0, .int 0, .ref a6, .ref a7, .ref a8, .ref a9])), (a2, .inr (6, [.int 0, .ref a10, .ref a11, .ref a12, .int 0]))] H := hP
  have hD : va_D A [(a1, .inr (8, [.int 0, .int 0, .ref a2, .int 0, .ref a3, .int 0, .int 0, .ref a4, .ref a5, .int 0, .int 0, .int 0, .int 0, .int 0, .int 0, .ref a6, .ref a7, .ref a8, .ref a9])), (a2, .inr (6, [.int 0, .ref a10, .ref a11, .ref a12, .int 0]))] := hD
  refine lv_aload_n hx hb dc_Re_beginBody_22 rfl (lv_at hl 0 rfl) ?_
  refine lv_iconst (v := 0) hx hb dc_Re_beginBody_23 (by decide) ?_
  refine va_put (D := (dC, dI)) (ci := 8) (v := .int 0) (ty := .boolean) (C := "StrataBase$Reader") (T := tb_Re) (N := 19) hx hb hT in_Re ty_Re tk_Re nm_Re hown hK hP hD hS 0 rfl rfl 10 (by decide) (hT _ wd_234) (fun _ h9 => h9) rfl (by decide +kernel) (by decide) (by decide) (Nat.le_of_ble_eq_true rfl) dc_Re_beginBody_24 (fun H locs hP hD hS => ?_)
  have hP : va_P (dC, dI) vwCl [(a1, .inr (8, [.int 0, .int 0, .ref a2, .int 0, .ref a3, .int 0, .int 0, .ref a4, .ref a5, .int 0, .int 0, .int 0, .int 0, .int 0, .int 0, .ref a6, .ref a7, .ref a8, .ref a9])), (a2, .inr (6, [.int 0, .ref a10, .ref a11, .ref a12, .int 0]))] H := hP
  have hD : va_D A [(a1, .inr (8, [.int 0, .int 0, .ref a2, .int 0, .ref a3, .int 0, .int 0, .ref a4, .ref a5, .int 0, .int 0, .int 0, .int 0, .int 0, .int 0, .ref a6, .ref a7, .ref a8, .ref a9])), (a2, .inr (6, [.int 0, .ref a10, .ref a11, .ref a12, .int 0]))] := hD
  have hP9 := hP.sub (ws' := [(a1, .inr (8, [.int 0, .int 0, .ref a2, .int 0, .ref a3, .int 0, .int 0, .ref a4, .ref a5, .int 0, .int 0, .int 0, .int 0, .int 0, .int 0, .ref a6, .ref a7, .ref a8, .ref a9])), (a2, .inr (6, [.int 0, .ref a10, .ref a11, .ref a12, .int 0]))]) [0, 1] rfl
  have hD9 := hD.sub (ws' := [(a1, .inr (8, [.int 0, .int 0, .ref a2, .int 0, .ref a3, .int 0, .int 0, .ref a4, .ref a5, .int 0, .int 0, .int 0, .int 0, .int 0, .int 0, .ref a6, .ref a7, .ref a8, .ref a9])), (a2, .inr (6, [.int 0, .ref a10, .ref a11, .ref a12, .int 0]))]) [0, 1] (by decide) rfl
  have hK9 := hK.sub (tys' := []) [] rfl
  refine W.widen (k := 0) (n := 0) (Nat.le_of_ble_eq_true rfl) (Nat.le_of_ble_eq_true rfl) ?_
  exact W.vret hx hb hr (fun t ht hW => ⟨⟨(), rfl, trivial, by rw [ht]; exact hP9, va_K.moved hW.alike hK9, hD9⟩, hS.F ht⟩) hS.2.2 dc_Re_beginBody_27

set_option maxHeartbeats 4000000 in
set_option maxRecDepth 100000 in
theorem c_Co_clear_1 (l : Launch) (dC : Nat → ClassId) (dI : Nat → Nat → Nat) (a1 : Nat) (a2 : Nat) (a3 : Nat) (a4 : Nat) (a5 : Nat) (a6 : Nat) (a7 : Nat) (a8 : Nat) (sz : Nat) : Met l my_Co_clear (Cond.code my_Co_clear cd_Co_clear 1 none :: tblG) ({ frames := 1, cells := 0, slots := 0, locals := 20 }) (va_Pc [.ref a1] (fun U => U.heap.size = sz ∧ va_P (dC, dI) vwCl [(a1, .inr (2, [.ref a2, .ref a3, .ref a4, .ref a5])), (a2, .inr (6, [.int 0, .ref a6, .ref a7, .ref a8, .int 0]))] U.heap ∧ va_K (dC, dI) vwCl [] U ∧ va_D (fun _ => True) [(a1, .inr (2, [.ref a2, .ref a3, .ref a4, .ref a5])), (a2, .inr (6, [.int 0, .ref a6, .ref a7, .ref a8, .int 0]))])) (va_Qv (fun _ : Unit => True) (fun (_ : Unit) (t : State) => va_P (dC, dI) vwCl [(a1, .inr (2, [.ref a2, .ref a3, .ref a4, .ref a5])), (a2, .inr (6, [.int 0, .ref a6, .ref a7, .ref a8, .int 0]))] t.heap ∧ va_K (dC, dI) vwCl [] t ∧ va_D (va_A [(a1, .inr (2, [.ref a2, .ref a3, .ref a4, .ref a5])), (a2, .inr (6, [.int 0, .ref a6, .ref a7, .ref a8, .int 0]))] sz) [(a1, .inr (2, [.ref a2, .ref a3, .ref a4, .ref a5])), (a2, .inr (6, [.int 0, .ref a6, .ref a7, .ref a8, .int 0]))]) (va_A [(a1, .inr (2, [.ref a2, .ref a3, .ref a4, .ref a5])), (a2, .inr (6, [.int 0, .ref a6, .ref a7, .ref a8, .int 0]))] sz)) 0 0 (va_A [(a1, .inr (2, [.ref a2, .ref a3, .ref a4, .ref a5])), (a2, .inr (6, [.int 0, .ref a6, .ref a7, .ref a8, .int 0]))] sz) := by
  refine Met.ofW (cc := cd_Co_clear) (maxL := 1) (ret := none) (by decide) rfl ?_
  intro p e s m args below meth c s₁ B hml hv
  obtain ⟨rfl, hsz, hP, hK, hD0⟩ := hv
  have hx := B.exec
  have hb := B.bytes
  have hr := B.returns
  have hT : ∀ w ∈ tblG, w.before _ s = true := fun w h => atoms_spec (ws := (Cond.code my_Co_clear cd_Co_clear 1 none :: tblG)) B.pre w (List.mem_cons_of_mem _ h)
  have hown : s.vm.findClass "StrataBase$Constants" = some m.cls := findClass_of_methodNamed B.named
  have hlocks := B.notSynchronized
  subst hsz
  have hD := hD0.self (sz := s.heap.size)
  generalize hAe : va_A [(a1, .inr (2, [.ref a2, .ref a3, .ref a4, .ref a5])), (a2, .inr (6, [.int 0, .ref a6, .ref a7, .ref a8, .int 0]))] s.heap.size = A at hD ⊢
  have hA : ∀ q : Nat, s.heap.size ≤ q → A q := fun q h => by rw [← hAe]; exact Or.inr h
  have hS : va_S A s.heap s.heap [] := va_S.rf
  have hl := lv_entry ([.ref a1]) (n := 1) (Nat.le_of_ble_eq_true rfl)
  rw [lg_entry_eq]
  generalize (lg_sl ([.ref a1]) ++ List.replicate (1 - (lg_sl ([.ref a1])).length) Slot.unset).toArray = ls at hl ⊢
  have hl : lv_has ls 1 [(0, .ref a1)] := hl
  refine lv_aload_n hx hb dc_Co_clear_0 rfl (lv_at hl 0 rfl) ?_
  refine va_get (D := (dC, dI)) (ci := 2) (v := .ref a2) (C := "StrataBase$Constants") (T := tb_Co) (N := 4) hx hb hT in_Co hown hK hP 0 rfl rfl 0 (by decide) (hT _ wd_132) (fun _ h9 => h9) rfl dc_Co_clear_1 ?_
  have hPc := hP.sub (ws' := [(a2, .inr (6, [.int 0, .ref a6, .ref a7, .ref a8, .int 0]))]) [1] rfl
  have hDc := hD.sub (ws' := [(a2, .inr (6, [.int 0, .ref a6, .ref a7, .ref a8, .int 0]))]) [1] (by decide) rfl
  have hKc := hK.sub (tys' := []) [] rfl
  have hFc := va_free (wc := [(a2, .inr (6, [.int 0, .ref a6, .ref a7, .ref a8, .int 0]))]) hD hS hA [1] rfl
  refine va_callv (va_runV (As := []) (rest := []) ⟨hx, hb, hml, hown, hT⟩ (c_Na_clear_1 l dC dI a2 a6 a7 a8 s.heap.size) (cwV 0 hT (gd_V wd_595 wd_578 wd_579 wd_4 wd_580) rfl rfl rfl (by decide +kernel) ⟨Nat.le_of_ble_eq_true rfl, Nat.le_of_ble_eq_true rfl⟩) ⟨fun a U g mk q => by obtain ⟨q0, q1, qP, qK, qD⟩ := q; exact ⟨q0, q1, qP, va_K.moved (u := U) (U := U.calling g mk a) (Vm.Alike.refl U.vm) qK, qD⟩, va_recv hK hP (q0 := 1) (ci := 6) rfl rfl, fun U hU hW => ⟨rfl, by rw [hU], by rw [hU]; exact hPc, va_K.moved hW.alike hKc, hDc.weaken (fun _ _ _ _ => trivial)⟩⟩ rfl rfl hl.1 rfl (lv_room (Nat.le_of_ble_eq_true rfl)) dc_Co_clear_4 ⟨(Nat.le_of_ble_eq_true rfl), (Nat.le_of_ble_eq_true rfl)⟩) hS (fun q _ h => hFc q h) hFc (fun _ t H1 locs ht hvm hr9 hB hz1 hk1 hS => ?_)
  obtain ⟨hP1, hK1, hD1⟩ := hB
  rw [ht] at hP1
  have hK1 := va_K.moved hvm.symm hK1
  obtain ⟨hP, hD⟩ := va_join (wr := [(a1, .inr (2, [.ref a2, .ref a3, .ref a4, .ref a5]))]) (w1 := [(a2, .inr (6, [.int 0, .ref a6, .ref a7, .ref a8, .int 0]))]) hP hD [1] [0] rfl rfl (by decide) (by decide) hk1 hFc hP1 hD1
  have hK := (hK.sub (tys' := []) [] rfl).app hK1
  generalize H1 = H at hP hS ⊢
  have hP : va_P (dC, dI) vwCl [(a1, .inr (2, [.ref a2, .ref a3, .ref a4, .ref a5])), (a2, .inr (6, [.int 0, .ref a6, .ref a7, .ref a8, .int 0]))] H := hP
  have hD : va_D A [(a1, .inr (2, [.ref a2, .ref a3, .ref a4, .ref a5])), (a2, .inr (6, [.int 0, .ref a6, .ref a7, .ref a8, .int 0]))] := hD
  have hK : va_K (dC, dI) vwCl [] s := hK
  have hP9 := hP.sub (ws' := [(a1, .inr (2, [.ref a2, .ref a3, .ref a4, .ref a5])), (a2, .inr (6, [.int 0, .ref a6, .ref a7, .ref a8, .int 0]))]) [0, 1] rfl
  have hD9 := hD.sub (ws' := [(a1, .inr (2, [.ref a2, .ref a3, .ref a4, .ref a5])), (a2, .inr (6, [.int 0, .ref a6, .ref a7, .ref a8, .int 0]))]) [0, 1] (by decide) rfl
  have hK9 := hK.sub (tys' := []) [] rfl
  refine W.widen (k := 0) (n := 0) (Nat.le_of_ble_eq_true rfl) (Nat.le_of_ble_eq_true rfl) ?_
  exact W.vret hx hb hr (fun t ht hW => ⟨⟨(), rfl, trivial, by rw [ht]; exact hP9, va_K.moved hW.alike hK9, hD9⟩, hS.F ht⟩) hS.2.2 dc_Co_clear_7

set_option maxHeartbeats 4000000 in
set_option maxRecDepth 100000 in
theorem c_Ar_fill_1 (l : Launch) (dC : Nat → ClassId) (dI : Nat → Nat → Nat) (a1 : Nat) (k1 : ClassId) (sz : Nat) : Met l my_Ar_fill (Cond.code my_Ar_fill cd_Ar_fill 4 none :: tblG) ({ frames := 0, cells := 0, slots := 0, locals := 0 }) (va_Pc [.ref a1, .int (-1)] (fun U => U.heap.size = sz ∧ va_P (dC, dI) vwCl [(a1, .inl (k1, 64, .inl (fun _ => 0)))] U.heap ∧ va_K (dC, dI) vwCl [(k1, .int)] U ∧ va_D (fun _ => True) [(a1, .inl (k1, 64, .inl (fun _ => 0)))])) (va_Qv (fun _ : Unit => True) (fun (_ : Unit) (t : State) => ∃ (g1 : Nat → Int32), va_P (dC, dI) vwCl [(a1, .inl (k1, 64, .inl g1))] t.heap ∧ va_K (dC, dI) vwCl [(k1, .int)] t ∧ va_D (va_A [(a1, .inl (k1, 64, .inl (fun _ => 0)))] sz) [(a1, .inl (k1, 64, .inl g1))]) (va_A [(a1, .inl (k1, 64, .inl (fun _ => 0)))] sz)) 0 0 (va_A [(a1, .inl (k1, 64, .inl (fun _ => 0)))] sz) := by
  refine Met.ofW (cc := cd_Ar_fill) (maxL := 4) (ret := none) (by decide) rfl ?_
  intro p e s m args below meth c s₁ B hml hv
  obtain ⟨rfl, hsz, hP, hK, hD0⟩ := hv
  have hx := B.exec
  have hb := B.bytes
  have hr := B.returns
  have hT : ∀ w ∈ tblG, w.before _ s = true := fun w h => atoms_spec (ws := (Cond.code my_Ar_fill cd_Ar_fill 4 none :: tblG)) B.pre w (List.mem_cons_of_mem _ h)
  have hown : s.vm.findClass "java/util/Arrays" = some m.cls := findClass_of_methodNamed B.named
  have hlocks := B.notSynchronized
  subst hsz
  have hD := hD0.self (sz := s.heap.size)
  generalize hAe : va_A [(a1, .inl (k1, 64, .inl (fun _ => 0)))] s.heap.size = A at hD ⊢
  have hA : ∀ q : Nat, s.heap.size ≤ q → A q := fun q h => by rw [← hAe]; exact Or.inr h
  have hS : va_S A s.heap s.heap [] := va_S.rf
  have hl := lv_entry ([.ref a1, .int (-1)]) (n := 4) (Nat.le_of_ble_eq_true rfl)
  rw [lg_entry_eq]
  generalize (lg_sl ([.ref a1, .int (-1)]) ++ List.replicate (4 - (lg_sl ([.ref a1, .int (-1)])).length) Slot.unset).toArray = ls at hl ⊢
  have hl : lv_has ls 4 [(0, .ref a1), (1, .int (-1))] := hl
  refine lv_iconst (v := 0) hx hb dc_Ar_fill_0 (by decide) ?_
  refine lv_istore_n (lv' := [(2, .int 0), (0, .ref a1), (1, .int (-1))]) hx hb dc_Ar_fill_1 rfl hl (by decide) rfl (fun ls hl => ?_)
  refine lv_aload_n hx hb dc_Ar_fill_2 rfl (lv_at hl 1 rfl) ?_
  refine va_alen (v := 64) hx hb hK hP 0 0 rfl rfl rfl dc_Ar_fill_3 ?_
  refine lv_istore_n (lv' := [(3, .int 64), (2, .int 0), (0, .ref a1), (1, .int (-1))]) hx hb dc_Ar_fill_4 rfl hl (by decide) rfl (fun ls hl => ?_)
  refine lp_loop 64 (fun k9 H locs ls => ∃ (g1 : Nat → Int32), va_K (dC, dI) vwCl [(k1, .int)] s ∧ va_P (dC, dI) vwCl [(a1, .inl (k1, 64, .inl g1))] H ∧ va_D A [(a1, .inl (k1, 64, .inl g1))] ∧ va_S A s.heap H locs ∧ lv_has ls 4 [(3, .int 64), (2, .int (nI k9)), (0, .ref a1), (1, .int (-1))]) ?_ ?_ 0 (by decide) ⟨(fun _ => 0), hK, hP, hD, hS, lv_sub hl [0, 1, 2, 3] rfl⟩
  · intro jv2 hk2 ih2 H locs ls hI
    obtain ⟨g1, hK, hP, hD, hS, hl⟩ := hI
    refine lv_iload_n hx hb dc_Ar_fill_5 rfl (lv_at hl 1 rfl) ?_
    refine lv_iload_n hx hb dc_Ar_fill_6 rfl (lv_at hl 0 rfl) ?_
    refine lv_icmp_ge (tgt := 20) hx hb dc_Ar_fill_7 (by decide) (fun h9 => absurd h9 (show ¬ ((64 : Int32) ≤ nI jv2) from nI_ge hk2 (by decide))) (fun _ => ?_)
    refine lv_aload_n hx hb dc_Ar_fill_10 rfl (lv_at hl 2 rfl) ?_
    refine lv_iload_n hx hb dc_Ar_fill_11 rfl (lv_at hl 1 rfl) ?_
    refine lv_iload_n hx hb dc_Ar_fill_12 rfl (lv_at hl 3 rfl) ?_
    refine va_iast hx hb hK hP hD hS 0 0 rfl rfl (vp_in_nI (by omega) (by decide)) dc_Ar_fill_13 (fun H locs hP hD hS => ?_)
    have hP : va_P (dC, dI) vwCl [(a1, .inl (k1, 64, .inl (upd g1 (nI jv2).toNatClampNeg ((-1) : Int32))))] H := hP
    have hD : va_D A [(a1, .inl (k1, 64, .inl (upd g1 (nI jv2).toNatClampNeg ((-1) : Int32))))] := hD
    generalize upd g1 (nI jv2).toNatClampNeg ((-1) : Int32) = g3 at hP hD
    refine lv_iinc (k := 1) (v := nI (jv2 + 1)) (lv' := [(2, .int (nI (jv2 + 1))), (3, .int 64), (0, .ref a1), (1, .int (-1))]) hx hb dc_Ar_fill_14 hl rfl (by first | exact nI_1 _ | exact nI_add _ 1) (by decide) rfl (fun ls hl => ?_)
    refine lv_goto (tgt := 5) hx hb dc_Ar_fill_17 (by decide) ?_
    exact ih2 _ _ _ ⟨g3, hK.sub [0] rfl, hP.sub [0] rfl, hD.sub [0] (by decide) rfl, hS, lv_sub hl [1, 0, 2, 3] rfl⟩
  · intro H locs ls hI
    obtain ⟨g1, hK, hP, hD, hS, hl⟩ := hI
    refine lv_iload_n hx hb dc_Ar_fill_5 rfl (lv_at hl 1 rfl) ?_
    refine lv_iload_n hx hb dc_Ar_fill_6 rfl (lv_at hl 0 rfl) ?_
    refine lv_icmp_ge (tgt := 20) hx hb dc_Ar_fill_7 (by decide) (fun _ => ?_) (fun h9 => absurd (by decide) h9)
    have hP9 := hP.sub (ws' := [(a1, .inl (k1, 64, .inl g1))]) [0] rfl
    have hD9 := hD.sub (ws' := [(a1, .inl (k1, 64, .inl g1))]) [0] (by decide) rfl
    have hK9 := hK.sub (tys' := [(k1, .int)]) [0] rfl
    refine W.widen (k := 0) (n := 0) (Nat.le_of_ble_eq_true rfl) (Nat.le_of_ble_eq_true rfl) ?_
    exact W.vret hx hb hr (fun t ht hW => ⟨⟨(), rfl, trivial, g1, by rw [ht]; exact hP9, va_K.moved hW.alike hK9, hD9⟩, hS.F ht⟩) hS.2.2 dc_Ar_fill_20

set_option maxHeartbeats 4000000 in
set_option maxRecDepth 100000 in
theorem c_Pr_clear_1 (l : Launch) (dC : Nat → ClassId) (dI : Nat → Nat → Nat) (a1 : Nat) (a2 : Nat) (a3 : Nat) (a4 : Nat) (a5 : Nat) (a6 : Nat) (a7 : Nat) (a8 : Nat) (a9 : Nat) (a10 : Nat) (a11 : Nat) (a12 : Nat) (a13 : Nat) (a14 : Nat) (a15 : Nat) (a16 : Nat) (a17 : Nat) (a18 : Nat) (a19 : Nat) (a20 : Nat) (a21 : Nat) (a22 : Nat) (a23 : Nat) (a24 : Nat) (k1 : ClassId) (sz : Nat) : Met l my_Pr_clear (Cond.code my_Pr_clear cd_Pr_clear 1 none :: tblG) ({ frames := 2, cells := 0, slots := 0, locals := 40 }) (va_Pc [.ref a1] (fun U => U.heap.size = sz ∧ va_P (dC, dI) vwCl [(a1, .inr (7, [.ref a2, .ref a3, .ref a4, .ref a5, .ref a6, .int 0, .ref a7])), (a2, .inr (1, [.int 0, .ref a8, .ref a9, .ref a10, .ref a11, .ref a12, .ref a13, .ref a14, .int 0])), (a3, .inr (6, [.int 0, .ref a15, .ref a16, .ref a17, .int 0])), (a4, .inl (k1, 64, .inl (fun _ => 0))), (a6, .inr (2, [.ref a18, .ref a19, .ref a20, .ref a21])), (a18, .inr (6, [.int 0, .ref a22, .ref a23, .ref a24, .int 0]))] U.heap ∧ va_K (dC, dI) vwCl [(k1, .int)] U ∧ va_D (fun _ => True) [(a1, .inr (7, [.ref a2, .ref a3, .ref a4, .ref a5, .ref a6, .int 0, .ref a7])), (a2, .inr (1, [.int 0, .ref a8, .ref a9, .ref a10, .ref a11, .ref a12, .ref a13, .ref a14, .int 0])), (a3, .inr (6, [.int 0, .ref a15, .ref a16, .ref a17, .int 0])), (a4, .inl (k1, 64, .inl (fun _ => 0))), (a6, .inr (2, [.ref a18, .ref a19, .ref a20, .ref a21])), (a18, .inr (6, [.int 0, .ref a22, .ref a23, .ref a24, .int 0]))])) (va_Qv (fun _ : Unit => True) (fun (_ : Unit) (t : State) => ∃ (u5 : Nat → Int32), va_P (dC, dI) vwCl [(a1, .inr (7, [.ref a2, .ref a3, .ref a4, .ref a5, .ref a6, .int 0, .ref a7])), (a2, .inr (1, [.int 0, .ref a8, .ref a9, .ref a10, .ref a11, .ref a12, .ref a13, .ref a14, .int 0])), (a3, .inr (6, [.int 0, .ref a15, .ref a16, .ref a17, .int 0])), (a6, .inr (2, [.ref a18, .ref a19, .ref a20, .ref a21])), (a18, .inr (6, [.int 0, .ref a22, .ref a23, .ref a24, .int 0])), (a4, .inl (k1, 64, .inl u5))] t.heap ∧ va_K (dC, dI) vwCl [(k1, .int)] t ∧ va_D (va_A [(a1, .inr (7, [.ref a2, .ref a3, .ref a4, .ref a5, .ref a6, .int 0, .ref a7])), (a2, .inr (1, [.int 0, .ref a8, .ref a9, .ref a10, .ref a11, .ref a12, .ref a13, .ref a14, .int 0])), (a3, .inr (6, [.int 0, .ref a15, .ref a16, .ref a17, .int 0])), (a4, .inl (k1, 64, .inl (fun _ => 0))), (a6, .inr (2, [.ref a18, .ref a19, .ref a20, .ref a21])), (a18, .inr (6, [.int 0, .ref a22, .ref a23, .ref a24, .int 0]))] sz) [(a1, .inr (7, [.ref a2, .ref a3, .ref a4, .ref a5, .ref a6, .int 0, .ref a7])), (a2, .inr (1, [.int 0, .ref a8, .ref a9, .ref a10, .ref a11, .ref a12, .ref a13, .ref a14, .int 0])), (a3, .inr (6, [.int 0, .ref a15, .ref a16, .ref a17, .int 0])), (a6, .inr (2, [.ref a18, .ref a19, .ref a20, .ref a21])), (a18, .inr (6, [.int 0, .ref a22, .ref a23, .ref a24, .int 0])), (a4, .inl (k1, 64, .inl u5))]) (va_A [(a1, .inr (7, [.ref a2, .ref a3, .ref a4, .ref a5, .ref a6, .int 0, .ref a7])), (a2, .inr (1, [.int 0, .ref a8, .ref a9, .ref a10, .ref a11, .ref a12, .ref a13, .ref a14, .int 0])), (a3, .inr (6, [.int 0, .ref a15, .ref a16, .ref a17, .int 0])), (a4, .inl (k1, 64, .inl (fun _ => 0))), (a6, .inr (2, [.ref a18, .ref a19, .ref a20, .ref a21])), (a18, .inr (6, [.int 0, .ref a22, .ref a23, .ref a24, .int 0]))] sz)) 0 0 (va_A [(a1, .inr (7, [.ref a2, .ref a3, .ref a4, .ref a5, .ref a6, .int 0, .ref a7])), (a2, .inr (1, [.int 0, .ref a8, .ref a9, .ref a10, .ref a11, .ref a12, .ref a13, .ref a14, .int 0])), (a3, .inr (6, [.int 0, .ref a15, .ref a16, .ref a17, .int 0])), (a4, .inl (k1, 64, .inl (fun _ => 0))), (a6, .inr (2, [.ref a18, .ref a19, .ref a20, .ref a21])), (a18, .inr (6, [.int 0, .ref a22, .ref a23, .ref a24, .int 0]))] sz) := by
  refine Met.ofW (cc := cd_Pr_clear) (maxL := 1) (ret := none) (by decide) rfl ?_
  intro p e s m args below meth c s₁ B hml hv
  obtain ⟨rfl, hsz, hP, hK, hD0⟩ := hv
  have hx := B.exec
  have hb := B.bytes
  have hr := B.returns
  have hT : ∀ w ∈ tblG, w.before _ s = true := fun w h => atoms_spec (ws := (Cond.code my_Pr_clear cd_Pr_clear 1 none :: tblG)) B.pre w (List.mem_cons_of_mem _ h)
  have hown : s.vm.findClass "StrataBase$Program" = some m.cls := findClass_of_methodNamed B.named
  have hlocks := B.notSynchronized
  subst hsz
  have hD := hD0.self (sz := s.heap.size)
  generalize hAe : va_A [(a1, .inr (7, [.ref a2, .ref a3, .ref a4, .ref a5, .ref a6, .int 0, .ref a7])), (a2, .inr (1, [.int 0, .ref a8, .ref a9, .ref a10, .ref a11, .ref a12, .ref a13, .ref a14, .int 0])), (a3, .inr (6, [.int 0, .ref a15, .ref a16, .ref a17, .int 0])), (a4, .inl (k1, 64, .inl (fun _ => 0))), (a6, .inr (2, [.ref a18, .ref a19, .ref a20, .ref a21])), (a18, .inr (6, [.int 0, .ref a22, .ref a23, .ref a24, .int 0]))] s.heap.size = A at hD ⊢
  have hA : ∀ q : Nat, s.heap.size ≤ q → A q := fun q h => by rw [← hAe]; exact Or.inr h
  have hS : va_S A s.heap s.heap [] := va_S.rf
  have hl := lv_entry ([.ref a1]) (n := 1) (Nat.le_of_ble_eq_true rfl)
  rw [lg_entry_eq]
  generalize (lg_sl ([.ref a1]) ++ List.replicate (1 - (lg_sl ([.ref a1])).length) Slot.unset).toArray = ls at hl ⊢
  have hl : lv_has ls 1 [(0, .ref a1)] := hl
  refine lv_aload_n hx hb dc_Pr_clear_0 rfl (lv_at hl 0 rfl) ?_
  refine va_get (D := (dC, dI)) (ci := 7) (v := .ref a2) (C := "StrataBase$Program") (T := tb_Pr) (N := 7) hx hb hT in_Pr hown hK hP 0 rfl rfl 0 (by decide) (hT _ wd_145) (fun _ h9 => h9) rfl dc_Pr_clear_1 ?_
  have hPc := hP.sub (ws' := [(a2, .inr (1, [.int 0, .ref a8, .ref a9, .ref a10, .ref a11, .ref a12, .ref a13, .ref a14, .int 0]))]) [1] rfl
  have hDc := hD.sub (ws' := [(a2, .inr (1, [.int 0, .ref a8, .ref a9, .ref a10, .ref a11, .ref a12, .ref a13, .ref a14, .int 0]))]) [1] (by decide) rfl
  have hKc := hK.sub (tys' := []) [] rfl
  have hFc := va_free (wc := [(a2, .inr (1, [.int 0, .ref a8, .ref a9, .ref a10, .ref a11, .ref a12, .ref a13, .ref a14, .int 0]))]) hD hS hA [1] rfl
  refine va_callv (va_runV (As := []) (rest := []) ⟨hx, hb, hml, hown, hT⟩ (c_Cl_clear_1 l dC dI a2 a8 a9 a10 a11 a12 a13 a14 s.heap.size) (cwV 0 hT (gd_V wd_589 wd_574 wd_575 wd_3 wd_576) rfl rfl rfl (by decide +kernel) ⟨Nat.le_of_ble_eq_true rfl, Nat.le_of_ble_eq_true rfl⟩) ⟨fun a U g mk q => by obtain ⟨q0, q1, qP, qK, qD⟩ := q; exact ⟨q0, q1, qP, va_K.moved (u := U) (U := U.calling g mk a) (Vm.Alike.refl U.vm) qK, qD⟩, va_recv hK hP (q0 := 1) (ci := 1) rfl rfl, fun U hU hW => ⟨rfl, by rw [hU], by rw [hU]; exact hPc, va_K.moved hW.alike hKc, hDc.weaken (fun _ _ _ _ => trivial)⟩⟩ rfl rfl hl.1 rfl (lv_room (Nat.le_of_ble_eq_true rfl)) dc_Pr_clear_4 ⟨(Nat.le_of_ble_eq_true rfl), (Nat.le_of_ble_eq_true rfl)⟩) hS (fun q _ h => hFc q h) hFc (fun _ t H1 locs ht hvm hr9 hB hz1 hk1 hS => ?_)
  obtain ⟨hP1, hK1, hD1⟩ := hB
  rw [ht] at hP1
  have hK1 := va_K.moved hvm.symm hK1
  obtain ⟨hP, hD⟩ := va_join (wr := [(a1, .inr (7, [.ref a2, .ref a3, .ref a4, .ref a5, .ref a6, .int 0, .ref a7])), (a3, .inr (6, [.int 0, .ref a15, .ref a16, .ref a17, .int 0])), (a4, .inl (k1, 64, .inl (fun _ => 0))), (a6, .inr (2, [.ref a18, .ref a19, .ref a20, .ref a21])), (a18, .inr (6, [.int 0, .ref a22, .ref a23, .ref a24, .int 0]))]) (w1 := [(a2, .inr (1, [.int 0, .ref a8, .ref a9, .ref a10, .ref a11, .ref a12, .ref a13, .ref a14, .int 0]))]) hP hD [1] [0, 2, 3, 4, 5] rfl rfl (by decide) (by decide) hk1 hFc hP1 hD1
  have hK := (hK.sub (tys' := [(k1, .int)]) [0] rfl).app hK1
  generalize H1 = H at hP hS ⊢
  have hP : va_P (dC, dI) vwCl [(a1, .inr (7, [.ref a2, .ref a3, .ref a4, .ref a5, .ref a6, .int 0, .ref a7])), (a3, .inr (6, [.int 0, .ref a15, .ref a16, .ref a17, .int 0])), (a4, .inl (k1, 64, .inl (fun _ => 0))), (a6, .inr (2, [.ref a18, .ref a19, .ref a20, .ref a21])), (a18, .inr (6, [.int 0, .ref a22, .ref a23, .ref a24, .int 0])), (a2, .inr (1, [.int 0, .ref a8, .ref a9, .ref a10, .ref a11, .ref a12, .ref a13, .ref a14, .int 0]))] H := hP
  have hD : va_D A [(a1, .inr (7, [.ref a2, .ref a3, .ref a4, .ref a5, .ref a6, .int 0, .ref a7])), (a3, .inr (6, [.int 0, .ref a15, .ref a16, .ref a17, .int 0])), (a4, .inl (k1, 64, .inl (fun _ => 0))), (a6, .inr (2, [.ref a18, .ref a19, .ref a20, .ref a21])), (a18, .inr (6, [.int 0, .ref a22, .ref a23, .ref a24, .int 0])), (a2, .inr (1, [.int 0, .ref a8, .ref a9, .ref a10, .ref a11, .ref a12, .ref a13, .ref a14, .int 0]))] := hD
  have hK : va_K (dC, dI) vwCl [(k1, .int)] s := hK
  refine lv_aload_n hx hb dc_Pr_clear_7 rfl (lv_at hl 0 rfl) ?_
  refine va_get (D := (dC, dI)) (ci := 7) (v := .ref a3) (C := "StrataBase$Program") (T := tb_Pr) (N := 7) hx hb hT in_Pr hown hK hP 0 rfl rfl 1 (by decide) (hT _ wd_148) (fun _ h9 => h9) rfl dc_Pr_clear_8 ?_
  have hPc := hP.sub (ws' := [(a3, .inr (6, [.int 0, .ref a15, .ref a16, .ref a17, .int 0]))]) [1] rfl
  have hDc := hD.sub (ws' := [(a3, .inr (6, [.int 0, .ref a15, .ref a16, .ref a17, .int 0]))]) [1] (by decide) rfl
  have hKc := hK.sub (tys' := []) [] rfl
  have hFc := va_free (wc := [(a3, .inr (6, [.int 0, .ref a15, .ref a16, .ref a17, .int 0]))]) hD hS hA [1] rfl
  refine va_callv (va_runV (As := []) (rest := []) ⟨hx, hb, hml, hown, hT⟩ (c_Na_clear_1 l dC dI a3 a15 a16 a17 H.size) (cwV 0 hT (gd_V wd_590 wd_578 wd_579 wd_4 wd_580) rfl rfl rfl (by decide +kernel) ⟨Nat.le_of_ble_eq_true rfl, Nat.le_of_ble_eq_true rfl⟩) ⟨fun a U g mk q => by obtain ⟨q0, q1, qP, qK, qD⟩ := q; exact ⟨q0, q1, qP, va_K.moved (u := U) (U := U.calling g mk a) (Vm.Alike.refl U.vm) qK, qD⟩, va_recv hK hP (q0 := 1) (ci := 6) rfl rfl, fun U hU hW => ⟨rfl, by rw [hU], by rw [hU]; exact hPc, va_K.moved hW.alike hKc, hDc.weaken (fun _ _ _ _ => trivial)⟩⟩ rfl rfl hl.1 rfl (lv_room (Nat.le_of_ble_eq_true rfl)) dc_Pr_clear_11 ⟨(Nat.le_of_ble_eq_true rfl), (Nat.le_of_ble_eq_true rfl)⟩) hS (fun q _ h => hFc q h) hFc (fun _ t H1 locs ht hvm hr9 hB hz1 hk1 hS => ?_)
  obtain ⟨hP1, hK1, hD1⟩ := hB
  rw [ht] at hP1
  have hK1 := va_K.moved hvm.symm hK1
  obtain ⟨hP, hD⟩ := va_join (wr := [(a1, .inr (7, [.ref a2, .ref a3, .ref a4, .ref a5, .ref a6, .int 0, .ref a7])), (a4, .inl (k1, 64, .inl (fun _ => 0))), (a6, .inr (2, [.ref a18, .ref a19, .ref a20, .ref a21])), (a18, .inr (6, [.int 0, .ref a22, .ref a23, .ref a24, .int 0])), (a2, .inr (1, [.int 0, .ref a8, .ref a9, .ref a10, .ref a11, .ref a12, .ref a13, .ref a14, .int 0]))]) (w1 := [(a3, .inr (6, [.int 0, .ref a15, .ref a16, .ref a17, .int 0]))]) hP hD [1] [0, 2, 3, 4, 5] rfl rfl (by decide) (by decide) hk1 hFc hP1 hD1
  have hK := (hK.sub (tys' := [(k1, .int)]) [0] rfl).app hK1
  generalize H1 = H at hP hS ⊢
  have hP : va_P (dC, dI) vwCl [(a1, .inr (7, [.ref a2, .ref a3, .ref a4, .ref a5, .ref a6, .int 0, .ref a7])), (a4, .inl (k1, 64, .inl (fun _ => 0))), (a6, .inr (2, [.ref a18, .ref a19, .ref a20, .ref a21])), (a18, .inr (6, [.int 0, .ref a22, .ref a23, .ref a24, .int 0])), (a2, .inr (1, [.int 0, .ref a8, .ref a9, .ref a10, .ref a11, .ref a12, .ref a13, .ref a14, .int 0])), (a3, .inr (6, [.int 0, .ref a15, .ref a16, .ref a17, .int 0]))] H := hP
  have hD : va_D A [(a1, .inr (7, [.ref a2, .ref a3, .ref a4, .ref a5, .ref a6, .int 0, .ref a7])), (a4, .inl (k1, 64, .inl (fun _ => 0))), (a6, .inr (2, [.ref a18, .ref a19, .ref a20, .ref a21])), (a18, .inr (6, [.int 0, .ref a22, .ref a23, .ref a24, .int 0])), (a2, .inr (1, [.int 0, .ref a8, .ref a9, .ref a10, .ref a11, .ref a12, .ref a13, .ref a14, .int 0])), (a3, .inr (6, [.int 0, .ref a15, .ref a16, .ref a17, .int 0]))] := hD
  have hK : va_K (dC, dI) vwCl [(k1, .int)] s := hK
  refine lv_aload_n hx hb dc_Pr_clear_14 rfl (lv_at hl 0 rfl) ?_
  refine va_get (D := (dC, dI)) (ci := 7) (v := .ref a6) (C := "StrataBase$Program") (T := tb_Pr) (N := 7) hx hb hT in_Pr hown hK hP 0 rfl rfl 4 (by decide) (hT _ wd_156) (fun _ h9 => h9) rfl dc_Pr_clear_15 ?_
  have hPc := hP.sub (ws' := [(a6, .inr (2, [.ref a18, .ref a19, .ref a20, .ref a21])), (a18, .inr (6, [.int 0, .ref a22, .ref a23, .ref a24, .int 0]))]) [2, 3] rfl
  have hDc := hD.sub (ws' := [(a6, .inr (2, [.ref a18, .ref a19, .ref a20, .ref a21])), (a18, .inr (6, [.int 0, .ref a22, .ref a23, .ref a24, .int 0]))]) [2, 3] (by decide) rfl
  have hKc := hK.sub (tys' := []) [] rfl
  have hFc := va_free (wc := [(a6, .inr (2, [.ref a18, .ref a19, .ref a20, .ref a21])), (a18, .inr (6, [.int 0, .ref a22, .ref a23, .ref a24, .int 0]))]) hD hS hA [2, 3] rfl
  refine va_callv (va_runV (As := []) (rest := []) ⟨hx, hb, hml, hown, hT⟩ (c_Co_clear_1 l dC dI a6 a18 a19 a20 a21 a22 a23 a24 H.size) (cwV 0 hT (gd_V wd_591 wd_592 wd_593 wd_5 wd_594) rfl rfl rfl (by decide +kernel) ⟨Nat.le_of_ble_eq_true rfl, Nat.le_of_ble_eq_true rfl⟩) ⟨fun a U g mk q => by obtain ⟨q0, q1, qP, qK, qD⟩ := q; exact ⟨q0, q1, qP, va_K.moved (u := U) (U := U.calling g mk a) (Vm.Alike.refl U.vm) qK, qD⟩, va_recv hK hP (q0 := 2) (ci := 2) rfl rfl, fun U hU hW => ⟨rfl, by rw [hU], by rw [hU]; exact hPc, va_K.moved hW.alike hKc, hDc.weaken (fun _ _ _ _ => trivial)⟩⟩ rfl rfl hl.1 rfl (lv_room (Nat.le_of_ble_eq_true rfl)) dc_Pr_clear_18 ⟨(Nat.le_of_ble_eq_true rfl), (Nat.le_of_ble_eq_true rfl)⟩) hS (fun q _ h => hFc q h) hFc (fun _ t H1 locs ht hvm hr9 hB hz1 hk1 hS => ?_)
  obtain ⟨hP1, hK1, hD1⟩ := hB
  rw [ht] at hP1
  have hK1 := va_K.moved hvm.symm hK1
  obtain ⟨hP, hD⟩ := va_join (wr := [(a1, .inr (7, [.ref a2, .ref a3, .ref a4, .ref a5, .ref a6, .int 0, .ref a7])), (a4, .inl (k1, 64, .inl (fun _ => 0))), (a2, .inr (1, [.int 0, .ref a8, .ref a9, .ref a10, .ref a11, .ref a12, .ref a13, .ref a14, .int 0])), (a3, .inr (6, [.int 0, .ref a15, .ref a16, .ref a17, .int 0]))]) (w1 := [(a6, .inr (2, [.ref a18, .ref a19, .ref a20, .ref a21])), (a18, .inr (6, [.int 0, .ref a22, .ref a23, .ref a24, .int 0]))]) hP hD [2, 3] [0, 1, 4, 5] rfl rfl (by decide) (by decide) hk1 hFc hP1 hD1
  have hK := (hK.sub (tys' := [(k1, .int)]) [0] rfl).app hK1
  generalize H1 = H at hP hS ⊢
  have hP : va_P (dC, dI) vwCl [(a1, .inr (7, [.ref a2, .ref a3, .ref a4, .ref a5, .ref a6, .int 0, .ref a7])), (a4, .inl (k1, 64, .inl (fun _ => 0))), (a2, .inr (1, [.int 0, .ref a8, .ref a9, .ref a10, .ref a11, .ref a12, .ref a13, .ref a14, .int 0])), (a3, .inr (6, [.int 0, .ref a15, .ref a16, .ref a17, .int 0])), (a6, .inr (2, [.ref a18, .ref a19, .ref a20, .ref a21])), (a18, .inr (6, [.int 0, .ref a22, .ref a23, .ref a24, .int 0]))] H := hP
  have hD : va_D A [(a1, .inr (7, [.ref a2, .ref a3, .ref a4, .ref a5, .ref a6, .int 0, .ref a7])), (a4, .inl (k1, 64, .inl (fun _ => 0))), (a2, .inr (1, [.int 0, .ref a8, .ref a9, .ref a10, .ref a11, .ref a12, .ref a13, .ref a14, .int 0])), (a3, .inr (6, [.int 0, .ref a15, .ref a16, .ref a17, .int 0])), (a6, .inr (2, [.ref a18, .ref a19, .ref a20, .ref a21])), (a18, .inr (6, [.int 0, .ref a22, .ref a23, .ref a24, .int 0]))] := hD
  have hK : va_K (dC, dI) vwCl [(k1, .int)] s := hK
  refine lv_aload_n hx hb dc_Pr_clear_21 rfl (lv_at hl 0 rfl) ?_
  refine va_get (D := (dC, dI)) (ci := 7) (v := .ref a4) (C := "StrataBase$Program") (T := tb_Pr) (N := 7) hx hb hT in_Pr hown hK hP 0 rfl rfl 2 (by decide) (hT _ wd_151) (fun _ h9 => h9) rfl dc_Pr_clear_22 ?_
  refine lv_iconst (v := (-1)) hx hb dc_Pr_clear_25 (by decide) ?_
  have hPc := hP.sub (ws' := [(a4, .inl (k1, 64, .inl (fun _ => 0)))]) [1] rfl
  have hDc := hD.sub (ws' := [(a4, .inl (k1, 64, .inl (fun _ => 0)))]) [1] (by decide) rfl
  have hKc := hK.sub (tys' := [(k1, .int)]) [0] rfl
  have hFc := va_free (wc := [(a4, .inl (k1, 64, .inl (fun _ => 0)))]) hD hS hA [1] rfl
  refine va_callv (va_runS (As := [.ref a4, .int (-1)]) (rest := []) ⟨hx, hb, hml, hown, hT⟩ (c_Ar_fill_1 l dC dI a4 k1 H.size) (va_cwS 2 hT (gd_S wd_596 wd_597 wd_19 wd_598) rfl rfl rfl (by decide +kernel) ⟨Nat.le_of_ble_eq_true rfl, Nat.le_of_ble_eq_true rfl⟩) ⟨fun a U g mk q => by obtain ⟨q0, q1, qP, qK, qD⟩ := q; exact ⟨q0, q1, qP, va_K.moved (u := U) (U := U.calling g mk a) (Vm.Alike.refl U.vm) qK, qD⟩, fun U hU hW => ⟨rfl, by rw [hU], by rw [hU]; exact hPc, va_K.moved hW.alike hKc, hDc.weaken (fun _ _ _ _ => trivial)⟩⟩ rfl rfl hl.1 rfl (lv_room (Nat.le_of_ble_eq_true rfl)) dc_Pr_clear_26 ⟨(Nat.le_of_ble_eq_true rfl), (Nat.le_of_ble_eq_true rfl)⟩) hS (fun q _ h => hFc q h) hFc (fun _ t H1 locs ht hvm hr9 hB hz1 hk1 hS => ?_)
  obtain ⟨u5, hP1, hK1, hD1⟩ := hB
  rw [ht] at hP1
  have hK1 := va_K.moved hvm.symm hK1
  obtain ⟨hP, hD⟩ := va_join (wr := [(a1, .inr (7, [.ref a2, .ref a3, .ref a4, .ref a5, .ref a6, .int 0, .ref a7])), (a2, .inr (1, [.int 0, .ref a8, .ref a9, .ref a10, .ref a11, .ref a12, .ref a13, .ref a14, .int 0])), (a3, .inr (6, [.int 0, .ref a15, .ref a16, .ref a17, .int 0])), (a6, .inr (2, [.ref a18, .ref a19, .ref a20, .ref a21])), (a18, .inr (6, [.int 0, .ref a22, .ref a23, .ref a24, .int 0]))]) (w1 := [(a4, .inl (k1, 64, .inl u5))]) hP hD [1] [0, 2, 3, 4, 5] rfl rfl (by decide) (by decide) hk1 hFc hP1 hD1
  have hK := (hK.sub (tys' := []) [] rfl).app hK1
  generalize H1 = H at hP hS ⊢
  have hP : va_P (dC, dI) vwCl [(a1, .inr (7, [.ref a2, .ref a3, .ref a4, .ref a5, .ref a6, .int 0, .ref a7])), (a2, .inr (1, [.int 0, .ref a8, .ref a9, .ref a10, .ref a11, .ref a12, .ref a13, .ref a14, .int 0])), (a3, .inr (6, [.int 0, .ref a15, .ref a16, .ref a17, .int 0])), (a6, .inr (2, [.ref a18, .ref a19, .ref a20, .ref a21])), (a18, .inr (6, [.int 0, .ref a22, .ref a23, .ref a24, .int 0])), (a4, .inl (k1, 64, .inl u5))] H := hP
  have hD : va_D A [(a1, .inr (7, [.ref a2, .ref a3, .ref a4, .ref a5, .ref a6, .int 0, .ref a7])), (a2, .inr (1, [.int 0, .ref a8, .ref a9, .ref a10, .ref a11, .ref a12, .ref a13, .ref a14, .int 0])), (a3, .inr (6, [.int 0, .ref a15, .ref a16, .ref a17, .int 0])), (a6, .inr (2, [.ref a18, .ref a19, .ref a20, .ref a21])), (a18, .inr (6, [.int 0, .ref a22, .ref a23, .ref a24, .int 0])), (a4, .inl (k1, 64, .inl u5))] := hD
  have hK : va_K (dC, dI) vwCl [(k1, .int)] s := hK
  have hP9 := hP.sub (ws' := [(a1, .inr (7, [.ref a2, .ref a3, .ref a4, .ref a5, .ref a6, .int 0, .ref a7])), (a2, .inr (1, [.int 0, .ref a8, .ref a9, .ref a10, .ref a11, .ref a12, .ref a13, .ref a14, .int 0])), (a3, .inr (6, [.int 0, .ref a15, .ref a16, .ref a17, .int 0])), (a6, .inr (2, [.ref a18, .ref a19, .ref a20, .ref a21])), (a18, .inr (6, [.int 0, .ref a22, .ref a23, .ref a24, .int 0])), (a4, .inl (k1, 64, .inl u5))]) [0, 1, 2, 3, 4, 5] rfl
  have hD9 := hD.sub (ws' := [(a1, .inr (7, [.ref a2, .ref a3, .ref a4, .ref a5, .ref a6, .int 0, .ref a7])), (a2, .inr (1, [.int 0, .ref a8, .ref a9, .ref a10, .ref a11, .ref a12, .ref a13, .ref a14, .int 0])), (a3, .inr (6, [.int 0, .ref a15, .ref a16, .ref a17, .int 0])), (a6, .inr (2, [.ref a18, .ref a19, .ref a20, .ref a21])), (a18, .inr (6, [.int 0, .ref a22, .ref a23, .ref a24, .int 0])), (a4, .inl (k1, 64, .inl u5))]) [0, 1, 2, 3, 4, 5] (by decide) rfl
  have hK9 := hK.sub (tys' := [(k1, .int)]) [0] rfl
  refine W.widen (k := 0) (n := 0) (Nat.le_of_ble_eq_true rfl) (Nat.le_of_ble_eq_true rfl) ?_
  exact W.vret hx hb hr (fun t ht hW => ⟨⟨(), rfl, trivial, u5, by rw [ht]; exact hP9, va_K.moved hW.alike hK9, hD9⟩, hS.F ht⟩) hS.2.2 dc_Pr_clear_29

set_option maxHeartbeats 4000000 in
set_option maxRecDepth 100000 in
theorem c_Re_begin_1 (l : Launch) (dC : Nat → ClassId) (dI : Nat → Nat → Nat) (a1 : Nat) (a2 : Nat) (a3 : Nat) (a4 : Nat) (a5 : Nat) (a6 : Nat) (a7 : Nat) (a8 : Nat) (a9 : Nat) (a10 : Nat) (a11 : Nat) (a12 : Nat) (a14 : Nat) (a15 : Nat) (a16 : Nat) (a17 : Nat) (a18 : Nat) (a19 : Nat) (a20 : Nat) (a21 : Nat) (a22 : Nat) (a23 : Nat) (a24 : Nat) (a25 : Nat) (a26 : Nat) (a27 : Nat) (a28 : Nat) (a29 : Nat) (a30 : Nat) (a31 : Nat) (a32 : Nat) (a33 : Nat) (a34 : Nat) (a35 : Nat) (a36 : Nat) (a37 : Nat) (a38 : Nat) (k2 : ClassId) (sz : Nat) : Met l my_Re_begin (Cond.code my_Re_begin cd_Re_begin 1 none :: tblG) ({ frames := 3, cells := 0, slots := 0, locals := 60 }) (va_Pc [.ref a1] (fun U => U.heap.size = sz ∧ va_P (dC, dI) vwCl [(a1, .inr (8, [.int 0, .int 0, .ref a2, .int 0, .ref a3, .int 0, .int 0, .ref a4, .ref a5, .int 0, .int 0, .int 0, .int 0, .int 0, .int 0, .ref a6, .ref a7, .ref a8, .ref a9])), (a2, .inr (6, [.int 0, .ref a10, .ref a11, .ref a12, .int 0])), (a4, .inr (7, [.ref a5, .ref a14, .ref a15, .ref a16, .ref a17, .int 0, .ref a18])), (a5, .inr (1, [.int 0, .ref a19, .ref a20, .ref a21, .ref a22, .ref a23, .ref a24, .ref a25, .int 0])), (a7, .inr (6, [.int 0, .ref a26, .ref a27, .ref a28, .int 0])), (a14, .inr (6, [.int 0, .ref a29, .ref a30, .ref a31, .int 0])), (a15, .inl (k2, 64, .inl (fun _ => 0))), (a17, .inr (2, [.ref a32, .ref a33, .ref a34, .ref a35])), (a32, .inr (6, [.int 0, .ref a36, .ref a37, .ref a38, .int 0]))] U.heap ∧ va_K (dC, dI) vwCl [(k2, .int)] U ∧ va_D (fun _ => True) [(a1, .inr (8, [.int 0, .int 0, .ref a2, .int 0, .ref a3, .int 0, .int 0, .ref a4, .ref a5, .int 0, .int 0, .int 0, .int 0, .int 0, .int 0, .ref a6, .ref a7, .ref a8, .ref a9])), (a2, .inr (6, [.int 0, .ref a10, .ref a11, .ref a12, .int 0])), (a4, .inr (7, [.ref a5, .ref a14, .ref a15, .ref a16, .ref a17, .int 0, .ref a18])), (a5, .inr (1, [.int 0, .ref a19, .ref a20, .ref a21, .ref a22, .ref a23, .ref a24, .ref a25, .int 0])), (a7, .inr (6, [.int 0, .ref a26, .ref a27, .ref a28, .int 0])), (a14, .inr (6, [.int 0, .ref a29, .ref a30, .ref a31, .int 0])), (a15, .inl (k2, 64, .inl (fun _ => 0))), (a17, .inr (2, [.ref a32, .ref a33, .ref a34, .ref a35])), (a32, .inr (6, [.int 0, .ref a36, .ref a37, .ref a38, .int 0]))])) (va_Qv (fun _ : Unit => True) (fun (_ : Unit) (t : State) => ∃ (u5 : Nat → Int32), va_P (dC, dI) vwCl [(a7, .inr (6, [.int 0, .ref a26, .ref a27, .ref a28, .int 0])), (a1, .inr (8, [.int 0, .int 0, .ref a2, .int 0, .ref a3, .int 0, .int 0, .ref a4, .ref a5, .int 0, .int 0, .int 0, .int 0, .int 0, .int 0, .ref a6, .ref a7, .ref a8, .ref a9])), (a2, .inr (6, [.int 0, .ref a10, .ref a11, .ref a12, .int 0])), (a4, .inr (7, [.ref a5, .ref a14, .ref a15, .ref a16, .ref a17, .int 0, .ref a18])), (a5, .inr (1, [.int 0, .ref a19, .ref a20, .ref a21, .ref a22, .ref a23, .ref a24, .ref a25, .int 0])), (a14, .inr (6, [.int 0, .ref a29, .ref a30, .ref a31, .int 0])), (a17, .inr (2, [.ref a32, .ref a33, .ref a34, .ref a35])), (a32, .inr (6, [.int 0, .ref a36, .ref a37, .ref a38, .int 0])), (a15, .inl (k2, 64, .inl u5))] t.heap ∧ va_K (dC, dI) vwCl [(k2, .int)] t ∧ va_D (va_A [(a1, .inr (8, [.int 0, .int 0, .ref a2, .int 0, .ref a3, .int 0, .int 0, .ref a4, .ref a5, .int 0, .int 0, .int 0, .int 0, .int 0, .int 0, .ref a6, .ref a7, .ref a8, .ref a9])), (a2, .inr (6, [.int 0, .ref a10, .ref a11, .ref a12, .int 0])), (a4, .inr (7, [.ref a5, .ref a14, .ref a15, .ref a16, .ref a17, .int 0, .ref a18])), (a5, .inr (1, [.int 0, .ref a19, .ref a20, .ref a21, .ref a22, .ref a23, .ref a24, .ref a25, .int 0])), (a7, .inr (6, [.int 0, .ref a26, .ref a27, .ref a28, .int 0])), (a14, .inr (6, [.int 0, .ref a29, .ref a30, .ref a31, .int 0])), (a15, .inl (k2, 64, .inl (fun _ => 0))), (a17, .inr (2, [.ref a32, .ref a33, .ref a34, .ref a35])), (a32, .inr (6, [.int 0, .ref a36, .ref a37, .ref a38, .int 0]))] sz) [(a7, .inr (6, [.int 0, .ref a26, .ref a27, .ref a28, .int 0])), (a1, .inr (8, [.int 0, .int 0, .ref a2, .int 0, .ref a3, .int 0, .int 0, .ref a4, .ref a5, .int 0, .int 0, .int 0, .int 0, .int 0, .int 0, .ref a6, .ref a7, .ref a8, .ref a9])), (a2, .inr (6, [.int 0, .ref a10, .ref a11, .ref a12, .int 0])), (a4, .inr (7, [.ref a5, .ref a14, .ref a15, .ref a16, .ref a17, .int 0, .ref a18])), (a5, .inr (1, [.int 0, .ref a19, .ref a20, .ref a21, .ref a22, .ref a23, .ref a24, .ref a25, .int 0])), (a14, .inr (6, [.int 0, .ref a29, .ref a30, .ref a31, .int 0])), (a17, .inr (2, [.ref a32, .ref a33, .ref a34, .ref a35])), (a32, .inr (6, [.int 0, .ref a36, .ref a37, .ref a38, .int 0])), (a15, .inl (k2, 64, .inl u5))]) (va_A [(a1, .inr (8, [.int 0, .int 0, .ref a2, .int 0, .ref a3, .int 0, .int 0, .ref a4, .ref a5, .int 0, .int 0, .int 0, .int 0, .int 0, .int 0, .ref a6, .ref a7, .ref a8, .ref a9])), (a2, .inr (6, [.int 0, .ref a10, .ref a11, .ref a12, .int 0])), (a4, .inr (7, [.ref a5, .ref a14, .ref a15, .ref a16, .ref a17, .int 0, .ref a18])), (a5, .inr (1, [.int 0, .ref a19, .ref a20, .ref a21, .ref a22, .ref a23, .ref a24, .ref a25, .int 0])), (a7, .inr (6, [.int 0, .ref a26, .ref a27, .ref a28, .int 0])), (a14, .inr (6, [.int 0, .ref a29, .ref a30, .ref a31, .int 0])), (a15, .inl (k2, 64, .inl (fun _ => 0))), (a17, .inr (2, [.ref a32, .ref a33, .ref a34, .ref a35])), (a32, .inr (6, [.int 0, .ref a36, .ref a37, .ref a38, .int 0]))] sz)) 0 0 (va_A [(a1, .inr (8, [.int 0, .int 0, .ref a2, .int 0, .ref a3, .int 0, .int 0, .ref a4, .ref a5, .int 0, .int 0, .int 0, .int 0, .int 0, .int 0, .ref a6, .ref a7, .ref a8, .ref a9])), (a2, .inr (6, [.int 0, .ref a10, .ref a11, .ref a12, .int 0])), (a4, .inr (7, [.ref a5, .ref a14, .ref a15, .ref a16, .ref a17, .int 0, .ref a18])), (a5, .inr (1, [.int 0, .ref a19, .ref a20, .ref a21, .ref a22, .ref a23, .ref a24, .ref a25, .int 0])), (a7, .inr (6, [.int 0, .ref a26, .ref a27, .ref a28, .int 0])), (a14, .inr (6, [.int 0, .ref a29, .ref a30, .ref a31, .int 0])), (a15, .inl (k2, 64, .inl (fun _ => 0))), (a17, .inr (2, [.ref a32, .ref a33, .ref a34, .ref a35])), (a32, .inr (6, [.int 0, .ref a36, .ref a37, .ref a38, .int 0]))] sz) := by
  refine Met.ofW (cc := cd_Re_begin) (maxL := 1) (ret := none) (by decide) rfl ?_
  intro p e s m args below meth c s₁ B hml hv
  obtain ⟨rfl, hsz, hP, hK, hD0⟩ := hv
  have hx := B.exec
  have hb := B.bytes
  have hr := B.returns
  have hT : ∀ w ∈ tblG, w.before _ s = true := fun w h => atoms_spec (ws := (Cond.code my_Re_begin cd_Re_begin 1 none :: tblG)) B.pre w (List.mem_cons_of_mem _ h)
  have hown : s.vm.findClass "StrataBase$Reader" = some m.cls := findClass_of_methodNamed B.named
  have hlocks := B.notSynchronized
  subst hsz
  have hD := hD0.self (sz := s.heap.size)
  generalize hAe : va_A [(a1, .inr (8, [.int 0, .int 0, .ref a2, .int 0, .ref a3, .int 0, .int 0, .ref a4, .ref a5, .int 0, .int 0, .int 0, .int 0, .int 0, .int 0, .ref a6, .ref a7, .ref a8, .ref a9])), (a2, .inr (6, [.int 0, .ref a10, .ref a11, .ref a12, .int 0])), (a4, .inr (7, [.ref a5, .ref a14, .ref a15, .ref a16, .ref a17, .int 0, .ref a18])), (a5, .inr (1, [.int 0, .ref a19, .ref a20, .ref a21, .ref a22, .ref a23, .ref a24, .ref a25, .int 0])), (a7, .inr (6, [.int 0, .ref a26, .ref a27, .ref a28, .int 0])), (a14, .inr (6, [.int 0, .ref a29, .ref a30, .ref a31, .int 0])), (a15, .inl (k2, 64, .inl (fun _ => 0))), (a17, .inr (2, [.ref a32, .ref a33, .ref a34, .ref a35])), (a32, .inr (6, [.int 0, .ref a36, .ref a37, .ref a38, .int 0]))] s.heap.size = A at hD ⊢
  have hA : ∀ q : Nat, s.heap.size ≤ q → A q := fun q h => by rw [← hAe]; exact Or.inr h
  have hS : va_S A s.heap s.heap [] := va_S.rf
  have hl := lv_entry ([.ref a1]) (n := 1) (Nat.le_of_ble_eq_true rfl)
  rw [lg_entry_eq]
  generalize (lg_sl ([.ref a1]) ++ List.replicate (1 - (lg_sl ([.ref a1])).length) Slot.unset).toArray = ls at hl ⊢
  have hl : lv_has ls 1 [(0, .ref a1)] := hl
  refine lv_aload_n hx hb dc_Re_begin_0 rfl (lv_at hl 0 rfl) ?_
  refine lv_iconst (v := 0) hx hb dc_Re_begin_1 (by decide) ?_
  refine va_put (D := (dC, dI)) (ci := 8) (v := .int 0) (ty := .int) (C := "StrataBase$Reader") (T := tb_Re) (N := 19) hx hb hT in_Re ty_Re tk_Re nm_Re hown hK hP hD hS 0 rfl rfl 0 (by decide) (hT _ wd_220) (fun _ h9 => h9) rfl (by decide +kernel) rfl rfl (Nat.le_of_ble_eq_true rfl) dc_Re_begin_2 (fun H locs hP hD hS => ?_)
  have hP : va_P (dC, dI) vwCl [(a1, .inr (8, [.int 0, .int 0, .ref a2, .int 0, .ref a3, .int 0, .int 0, .ref a4, .ref a5, .int 0, .int 0, .int 0, .int 0, .int 0, .int 0, .ref a6, .ref a7, .ref a8, .ref a9])), (a2, .inr (6, [.int 0, .ref a10, .ref a11, .ref a12, .int 0])), (a4, .inr (7, [.ref a5, .ref a14, .ref a15, .ref a16, .ref a17, .int 0, .ref a18])), (a5, .inr (1, [.int 0, .ref a19, .ref a20, .ref a21, .ref a22, .ref a23, .ref a24, .ref a25, .int 0])), (a7, .inr (6, [.int 0, .ref a26, .ref a27, .ref a28, .int 0])), (a14, .inr (6, [.int 0, .ref a29, .ref a30, .ref a31, .int 0])), (a15, .inl (k2, 64, .inl (fun _ => 0))), (a17, .inr (2, [.ref a32, .ref a33, .ref a34, .ref a35])), (a32, .inr (6, [.int 0, .ref a36, .ref a37, .ref a38, .int 0]))] H := hP
  have hD : va_D A [(a1, .inr (8, [.int 0, .int 0, .ref a2, .int 0, .ref a3, .int 0, .int 0, .ref a4, .ref a5, .int 0, .int 0, .int 0, .int 0, .int 0, .int 0, .ref a6, .ref a7, .ref a8, .ref a9])), (a2, .inr (6, [.int 0, .ref a10, .ref a11, .ref a12, .int 0])), (a4, .inr (7, [.ref a5, .ref a14, .ref a15, .ref a16, .ref a17, .int 0, .ref a18])), (a5, .inr (1, [.int 0, .ref a19, .ref a20, .ref a21, .ref a22, .ref a23, .ref a24, .ref a25, .int 0])), (a7, .inr (6, [.int 0, .ref a26, .ref a27, .ref a28, .int 0])), (a14, .inr (6, [.int 0, .ref a29, .ref a30, .ref a31, .int 0])), (a15, .inl (k2, 64, .inl (fun _ => 0))), (a17, .inr (2, [.ref a32, .ref a33, .ref a34, .ref a35])), (a32, .inr (6, [.int 0, .ref a36, .ref a37, .ref a38, .int 0]))] := hD
  refine lv_aload_n hx hb dc_Re_begin_5 rfl (lv_at hl 0 rfl) ?_
  refine va_get (D := (dC, dI)) (ci := 8) (v := .ref a5) (C := "StrataBase$Reader") (T := tb_Re) (N := 19) hx hb hT in_Re hown hK hP 0 rfl rfl 8 (by decide) (hT _ wd_232) (fun _ h9 => h9) rfl dc_Re_begin_6 ?_
  have hPc := hP.sub (ws' := [(a5, .inr (1, [.int 0, .ref a19, .ref a20, .ref a21, .ref a22, .ref a23, .ref a24, .ref a25, .int 0]))]) [3] rfl
  have hDc := hD.sub (ws' := [(a5, .inr (1, [.int 0, .ref a19, .ref a20, .ref a21, .ref a22, .ref a23, .ref a24, .ref a25, .int 0]))]) [3] (by decide) rfl
  have hKc := hK.sub (tys' := []) [] rfl
  have hFc := va_free (wc := [(a5, .inr (1, [.int 0, .ref a19, .ref a20, .ref a21, .ref a22, .ref a23, .ref a24, .ref a25, .int 0]))]) hD hS hA [3] rfl
  refine va_callv (va_runV (As := []) (rest := []) ⟨hx, hb, hml, hown, hT⟩ (c_Cl_clear_1 l dC dI a5 a19 a20 a21 a22 a23 a24 a25 H.size) (cwV 0 hT (gd_V wd_573 wd_574 wd_575 wd_3 wd_576) rfl rfl rfl (by decide +kernel) ⟨Nat.le_of_ble_eq_true rfl, Nat.le_of_ble_eq_true rfl⟩) ⟨fun a U g mk q => by obtain ⟨q0, q1, qP, qK, qD⟩ := q; exact ⟨q0, q1, qP, va_K.moved (u := U) (U := U.calling g mk a) (Vm.Alike.refl U.vm) qK, qD⟩, va_recv hK hP (q0 := 3) (ci := 1) rfl rfl, fun U hU hW => ⟨rfl, by rw [hU], by rw [hU]; exact hPc, va_K.moved hW.alike hKc, hDc.weaken (fun _ _ _ _ => trivial)⟩⟩ rfl rfl hl.1 rfl (lv_room (Nat.le_of_ble_eq_true rfl)) dc_Re_begin_9 ⟨(Nat.le_of_ble_eq_true rfl), (Nat.le_of_ble_eq_true rfl)⟩) hS (fun q _ h => hFc q h) hFc (fun _ t H1 locs ht hvm hr9 hB hz1 hk1 hS => ?_)
  obtain ⟨hP1, hK1, hD1⟩ := hB
  rw [ht] at hP1
  have hK1 := va_K.moved hvm.symm hK1
  obtain ⟨hP, hD⟩ := va_join (wr := [(a1, .inr (8, [.int 0, .int 0, .ref a2, .int 0, .ref a3, .int 0, .int 0, .ref a4, .ref a5, .int 0, .int 0, .int 0, .int 0, .int 0, .int 0, .ref a6, .ref a7, .ref a8, .ref a9])), (a2, .inr (6, [.int 0, .ref a10, .ref a11, .ref a12, .int 0])), (a4, .inr (7, [.ref a5, .ref a14, .ref a15, .ref a16, .ref a17, .int 0, .ref a18])), (a7, .inr (6, [.int 0, .ref a26, .ref a27, .ref a28, .int 0])), (a14, .inr (6, [.int 0, .ref a29, .ref a30, .ref a31, .int 0])), (a15, .inl (k2, 64, .inl (fun _ => 0))), (a17, .inr (2, [.ref a32, .ref a33, .ref a34, .ref a35])), (a32, .inr (6, [.int 0, .ref a36, .ref a37, .ref a38, .int 0]))]) (w1 := [(a5, .inr (1, [.int 0, .ref a19, .ref a20, .ref a21, .ref a22, .ref a23, .ref a24, .ref a25, .int 0]))]) hP hD [3] [0, 1, 2, 4, 5, 6, 7, 8] rfl rfl (by decide) (by decide) hk1 hFc hP1 hD1
  have hK := (hK.sub (tys' := [(k2, .int)]) [0] rfl).app hK1
  generalize H1 = H at hP hS ⊢
  have hP : va_P (dC, dI) vwCl [(a1, .inr (8, [.int 0, .int 0, .ref a2, .int 0, .ref a3, .int 0, .int 0, .ref a4, .ref a5, .int 0, .int 0, .int 0, .int 0, .int 0, .int 0, .ref a6, .ref a7, .ref a8, .ref a9])), (a2, .inr (6, [.int 0, .ref a10, .ref a11, .ref a12, .int 0])), (a4, .inr (7, [.ref a5, .ref a14, .ref a15, .ref a16, .ref a17, .int 0, .ref a18])), (a7, .inr (6, [.int 0, .ref a26, .ref a27, .ref a28, .int 0])), (a14, .inr (6, [.int 0, .ref a29, .ref a30, .ref a31, .int 0])), (a15, .inl (k2, 64, .inl (fun _ => 0))), (a17, .inr (2, [.ref a32, .ref a33, .ref a34, .ref a35])), (a32, .inr (6, [.int 0, .ref a36, .ref a37, .ref a38, .int 0])), (a5, .inr (1, [.int 0, .ref a19, .ref a20, .ref a21, .ref a22, .ref a23, .ref a24, .ref a25, .int 0]))] H := hP
  have hD : va_D A [(a1, .inr (8, [.int 0, .int 0, .ref a2, .int 0, .ref a3, .int 0, .int 0, .ref a4, .ref a5, .int 0, .int 0, .int 0, .int 0, .int 0, .int 0, .ref a6, .ref a7, .ref a8, .ref a9])), (a2, .inr (6, [.int 0, .ref a10, .ref a11, .ref a12, .int 0])), (a4, .inr (7, [.ref a5, .ref a14, .ref a15, .ref a16, .ref a17, .int 0, .ref a18])), (a7, .inr (6, [.int 0, .ref a26, .ref a27, .ref a28, .int 0])), (a14, .inr (6, [.int 0, .ref a29, .ref a30, .ref a31, .int 0])), (a15, .inl (k2, 64, .inl (fun _ => 0))), (a17, .inr (2, [.ref a32, .ref a33, .ref a34, .ref a35])), (a32, .inr (6, [.int 0, .ref a36, .ref a37, .ref a38, .int 0])), (a5, .inr (1, [.int 0, .ref a19, .ref a20, .ref a21, .ref a22, .ref a23, .ref a24, .ref a25, .int 0]))] := hD
  have hK : va_K (dC, dI) vwCl [(k2, .int)] s := hK
  refine lv_aload_n hx hb dc_Re_begin_12 rfl (lv_at hl 0 rfl) ?_
  refine va_get (D := (dC, dI)) (ci := 8) (v := .ref a7) (C := "StrataBase$Reader") (T := tb_Re) (N := 19) hx hb hT in_Re hown hK hP 0 rfl rfl 16 (by decide) (hT _ wd_240) (fun _ h9 => h9) rfl dc_Re_begin_13 ?_
  have hPc := hP.sub (ws' := [(a7, .inr (6, [.int 0, .ref a26, .ref a27, .ref a28, .int 0]))]) [3] rfl
  have hDc := hD.sub (ws' := [(a7, .inr (6, [.int 0, .ref a26, .ref a27, .ref a28, .int 0]))]) [3] (by decide) rfl
  have hKc := hK.sub (tys' := []) [] rfl
  have hFc := va_free (wc := [(a7, .inr (6, [.int 0, .ref a26, .ref a27, .ref a28, .int 0]))]) hD hS hA [3] rfl
  refine va_callv (va_runV (As := []) (rest := []) ⟨hx, hb, hml, hown, hT⟩ (c_Na_clear_1 l dC dI a7 a26 a27 a28 H.size) (cwV 0 hT (gd_V wd_577 wd_578 wd_579 wd_4 wd_580) rfl rfl rfl (by decide +kernel) ⟨Nat.le_of_ble_eq_true rfl, Nat.le_of_ble_eq_true rfl⟩) ⟨fun a U g mk q => by obtain ⟨q0, q1, qP, qK, qD⟩ := q; exact ⟨q0, q1, qP, va_K.moved (u := U) (U := U.calling g mk a) (Vm.Alike.refl U.vm) qK, qD⟩, va_recv hK hP (q0 := 3) (ci := 6) rfl rfl, fun U hU hW => ⟨rfl, by rw [hU], by rw [hU]; exact hPc, va_K.moved hW.alike hKc, hDc.weaken (fun _ _ _ _ => trivial)⟩⟩ rfl rfl hl.1 rfl (lv_room (Nat.le_of_ble_eq_true rfl)) dc_Re_begin_16 ⟨(Nat.le_of_ble_eq_true rfl), (Nat.le_of_ble_eq_true rfl)⟩) hS (fun q _ h => hFc q h) hFc (fun _ t H1 locs ht hvm hr9 hB hz1 hk1 hS => ?_)
  obtain ⟨hP1, hK1, hD1⟩ := hB
  rw [ht] at hP1
  have hK1 := va_K.moved hvm.symm hK1
  obtain ⟨hP, hD⟩ := va_join (wr := [(a1, .inr (8, [.int 0, .int 0, .ref a2, .int 0, .ref a3, .int 0, .int 0, .ref a4, .ref a5, .int 0, .int 0, .int 0, .int 0, .int 0, .int 0, .ref a6, .ref a7, .ref a8, .ref a9])), (a2, .inr (6, [.int 0, .ref a10, .ref a11, .ref a12, .int 0])), (a4, .inr (7, [.ref a5, .ref a14, .ref a15, .ref a16, .ref a17, .int 0, .ref a18])), (a14, .inr (6, [.int 0, .ref a29, .ref a30, .ref a31, .int 0])), (a15, .inl (k2, 64, .inl (fun _ => 0))), (a17, .inr (2, [.ref a32, .ref a33, .ref a34, .ref a35])), (a32, .inr (6, [.int 0, .ref a36, .ref a37, .ref a38, .int 0])), (a5, .inr (1, [.int 0, .ref a19, .ref a20, .ref a21, .ref a22, .ref a23, .ref a24, .ref a25, .int 0]))]) (w1 := [(a7, .inr (6, [.int 0, .ref a26, .ref a27, .ref a28, .int 0]))]) hP hD [3] [0, 1, 2, 4, 5, 6, 7, 8] rfl rfl (by decide) (by decide) hk1 hFc hP1 hD1
  have hK := (hK.sub (tys' := [(k2, .int)]) [0] rfl).app hK1
  generalize H1 = H at hP hS ⊢
  have hP : va_P (dC, dI) vwCl [(a1, .inr (8, [.int 0, .int 0, .ref a2, .int 0, .ref a3, .int 0, .int 0, .ref a4, .ref a5, .int 0, .int 0, .int 0, .int 0, .int 0, .int 0, .ref a6, .ref a7, .ref a8, .ref a9])), (a2, .inr (6, [.int 0, .ref a10, .ref a11, .ref a12, .int 0])), (a4, .inr (7, [.ref a5, .ref a14, .ref a15, .ref a16, .ref a17, .int 0, .ref a18])), (a14, .inr (6, [.int 0, .ref a29, .ref a30, .ref a31, .int 0])), (a15, .inl (k2, 64, .inl (fun _ => 0))), (a17, .inr (2, [.ref a32, .ref a33, .ref a34, .ref a35])), (a32, .inr (6, [.int 0, .ref a36, .ref a37, .ref a38, .int 0])), (a5, .inr (1, [.int 0, .ref a19, .ref a20, .ref a21, .ref a22, .ref a23, .ref a24, .ref a25, .int 0])), (a7, .inr (6, [.int 0, .ref a26, .ref a27, .ref a28, .int 0]))] H := hP
  have hD : va_D A [(a1, .inr (8, [.int 0, .int 0, .ref a2, .int 0, .ref a3, .int 0, .int 0, .ref a4, .ref a5, .int 0, .int 0, .int 0, .int 0, .int 0, .int 0, .ref a6, .ref a7, .ref a8, .ref a9])), (a2, .inr (6, [.int 0, .ref a10, .ref a11, .ref a12, .int 0])), (a4, .inr (7, [.ref a5, .ref a14, .ref a15, .ref a16, .ref a17, .int 0, .ref a18])), (a14, .inr (6, [.int 0, .ref a29, .ref a30, .ref a31, .int 0])), (a15, .inl (k2, 64, .inl (fun _ => 0))), (a17, .inr (2, [.ref a32, .ref a33, .ref a34, .ref a35])), (a32, .inr (6, [.int 0, .ref a36, .ref a37, .ref a38, .int 0])), (a5, .inr (1, [.int 0, .ref a19, .ref a20, .ref a21, .ref a22, .ref a23, .ref a24, .ref a25, .int 0])), (a7, .inr (6, [.int 0, .ref a26, .ref a27, .ref a28, .int 0]))] := hD
  have hK : va_K (dC, dI) vwCl [(k2, .int)] s := hK
  refine lv_aload_n hx hb dc_Re_begin_19 rfl (lv_at hl 0 rfl) ?_
  have hPc := hP.sub (ws' := [(a1, .inr (8, [.int 0, .int 0, .ref a2, .int 0, .ref a3, .int 0, .int 0, .ref a4, .ref a5, .int 0, .int 0, .int 0, .int 0, .int 0, .int 0, .ref a6, .ref a7, .ref a8, .ref a9])), (a2, .inr (6, [.int 0, .ref a10, .ref a11, .ref a12, .int 0]))]) [0, 1] rfl
  have hDc := hD.sub (ws' := [(a1, .inr (8, [.int 0, .int 0, .ref a2, .int 0, .ref a3, .int 0, .int 0, .ref a4, .ref a5, .int 0, .int 0, .int 0, .int 0, .int 0, .int 0, .ref a6, .ref a7, .ref a8, .ref a9])), (a2, .inr (6, [.int 0, .ref a10, .ref a11, .ref a12, .int 0]))]) [0, 1] (by decide) rfl
  have hKc := hK.sub (tys' := []) [] rfl
  have hFc := va_free (wc := [(a1, .inr (8, [.int 0, .int 0, .ref a2, .int 0, .ref a3, .int 0, .int 0, .ref a4, .ref a5, .int 0, .int 0, .int 0, .int 0, .int 0, .int 0, .ref a6, .ref a7, .ref a8, .ref a9])), (a2, .inr (6, [.int 0, .ref a10, .ref a11, .ref a12, .int 0]))]) hD hS hA [0, 1] rfl
  refine va_callv (va_runV (As := []) (rest := []) ⟨hx, hb, hml, hown, hT⟩ (c_Re_beginBody_1 l dC dI a1 a2 a3 a4 a5 a6 a7 a8 a9 a10 a11 a12 H.size) (cwV 0 hT (gd_V wd_581 wd_583 sl_Re_beginBody wd_6 wd_584) rfl rfl rfl (by decide +kernel) ⟨Nat.le_of_ble_eq_true rfl, Nat.le_of_ble_eq_true rfl⟩) ⟨fun a U g mk q => by obtain ⟨q0, q1, qP, qK, qD⟩ := q; exact ⟨q0, q1, qP, va_K.moved (u := U) (U := U.calling g mk a) (Vm.Alike.refl U.vm) qK, qD⟩, va_recv hK hP (q0 := 0) (ci := 8) rfl rfl, fun U hU hW => ⟨rfl, by rw [hU], by rw [hU]; exact hPc, va_K.moved hW.alike hKc, hDc.weaken (fun _ _ _ _ => trivial)⟩⟩ rfl rfl hl.1 rfl (lv_room (Nat.le_of_ble_eq_true rfl)) dc_Re_begin_20 ⟨(Nat.le_of_ble_eq_true rfl), (Nat.le_of_ble_eq_true rfl)⟩) hS (fun q _ h => hFc q h) hFc (fun _ t H1 locs ht hvm hr9 hB hz1 hk1 hS => ?_)
  obtain ⟨hP1, hK1, hD1⟩ := hB
  rw [ht] at hP1
  have hK1 := va_K.moved hvm.symm hK1
  obtain ⟨hP, hD⟩ := va_join (wr := [(a4, .inr (7, [.ref a5, .ref a14, .ref a15, .ref a16, .ref a17, .int 0, .ref a18])), (a14, .inr (6, [.int 0, .ref a29, .ref a30, .ref a31, .int 0])), (a15, .inl (k2, 64, .inl (fun _ => 0))), (a17, .inr (2, [.ref a32, .ref a33, .ref a34, .ref a35])), (a32, .inr (6, [.int 0, .ref a36, .ref a37, .ref a38, .int 0])), (a5, .inr (1, [.int 0, .ref a19, .ref a20, .ref a21, .ref a22, .ref a23, .ref a24, .ref a25, .int 0])), (a7, .inr (6, [.int 0, .ref a26, .ref a27, .ref a28, .int 0]))]) (w1 := [(a1, .inr (8, [.int 0, .int 0, .ref a2, .int 0, .ref a3, .int 0, .int 0, .ref a4, .ref a5, .int 0, .int 0, .int 0, .int 0, .int 0, .int 0, .ref a6, .ref a7, .ref a8, .ref a9])), (a2, .inr (6, [.int 0, .ref a10, .ref a11, .ref a12, .int 0]))]) hP hD [0, 1] [2, 3, 4, 5, 6, 7, 8] rfl rfl (by decide) (by decide) hk1 hFc hP1 hD1
  have hK := (hK.sub (tys' := [(k2, .int)]) [0] rfl).app hK1
  generalize H1 = H at hP hS ⊢
  have hP : va_P (dC, dI) vwCl [(a4, .inr (7, [.ref a5, .ref a14, .ref a15, .ref a16, .ref a17, .int 0, .ref a18])), (a14, .inr (6, [.int 0, .ref a29, .ref a30, .ref a31, .int 0])), (a15, .inl (k2, 64, .inl (fun _ => 0))), (a17, .inr (2, [.ref a32, .ref a33, .ref a34, .ref a35])), (a32, .inr (6, [.int 0, .ref a36, .ref a37, .ref a38, .int 0])), (a5, .inr (1, [.int 0, .ref a19, .ref a20, .ref a21, .ref a22, .ref a23, .ref a24, .ref a25, .int 0])), (a7, .inr (6, [.int 0, .ref a26, .ref a27, .ref a28, .int 0])), (a1, .inr (8, [.int 0, .int 0, .ref a2, .int 0, .ref a3, .int 0, .int 0, .ref a4, .ref a5, .int 0, .int 0, .int 0, .int 0, .int 0, .int 0, .ref a6, .ref a7, .ref a8, .ref a9])), (a2, .inr (6, [.int 0, .ref a10, .ref a11, .ref a12, .int 0]))] H := hP
  have hD : va_D A [(a4, .inr (7, [.ref a5, .ref a14, .ref a15, .ref a16, .ref a17, .int 0, .ref a18])), (a14, .inr (6, [.int 0, .ref a29, .ref a30, .ref a31, .int 0])), (a15, .inl (k2, 64, .inl (fun _ => 0))), (a17, .inr (2, [.ref a32, .ref a33, .ref a34, .ref a35])), (a32, .inr (6, [.int 0, .ref a36, .ref a37, .ref a38, .int 0])), (a5, .inr (1, [.int 0, .ref a19, .ref a20, .ref a21, .ref a22, .ref a23, .ref a24, .ref a25, .int 0])), (a7, .inr (6, [.int 0, .ref a26, .ref a27, .ref a28, .int 0])), (a1, .inr (8, [.int 0, .int 0, .ref a2, .int 0, .ref a3, .int 0, .int 0, .ref a4, .ref a5, .int 0, .int 0, .int 0, .int 0, .int 0, .int 0, .ref a6, .ref a7, .ref a8, .ref a9])), (a2, .inr (6, [.int 0, .ref a10, .ref a11, .ref a12, .int 0]))] := hD
  have hK : va_K (dC, dI) vwCl [(k2, .int)] s := hK
  refine lv_aload_n hx hb dc_Re_begin_23 rfl (lv_at hl 0 rfl) ?_
  refine va_get (D := (dC, dI)) (ci := 8) (v := .int 0) (C := "StrataBase$Reader") (T := tb_Re) (N := 19) hx hb hT in_Re hown hK hP 7 rfl rfl 5 (by decide) (hT _ wd_229) (fun _ h9 => h9) rfl dc_Re_begin_24 ?_
  refine lv_if_ne (tgt := 45) hx hb dc_Re_begin_27 (by decide) (fun h9 => absurd (by decide) h9) (fun _ => ?_)
  refine lv_aload_n hx hb dc_Re_begin_30 rfl (lv_at hl 0 rfl) ?_
  refine va_get (D := (dC, dI)) (ci := 8) (v := .ref a4) (C := "StrataBase$Reader") (T := tb_Re) (N := 19) hx hb hT in_Re hown hK hP 7 rfl rfl 7 (by decide) (hT _ wd_231) (fun _ h9 => h9) rfl dc_Re_begin_31 ?_
  have hPc := hP.sub (ws' := [(a4, .inr (7, [.ref a5, .ref a14, .ref a15, .ref a16, .ref a17, .int 0, .ref a18])), (a5, .inr (1, [.int 0, .ref a19, .ref a20, .ref a21, .ref a22, .ref a23, .ref a24, .ref a25, .int 0])), (a14, .inr (6, [.int 0, .ref a29, .ref a30, .ref a31, .int 0])), (a15, .inl (k2, 64, .inl (fun _ => 0))), (a17, .inr (2, [.ref a32, .ref a33, .ref a34, .ref a35])), (a32, .inr (6, [.int 0, .ref a36, .ref a37, .ref a38, .int 0]))]) [0, 5, 1, 2, 3, 4] rfl
  have hDc := hD.sub (ws' := [(a4, .inr (7, [.ref a5, .ref a14, .ref a15, .ref a16, .ref a17, .int 0, .ref a18])), (a5, .inr (1, [.int 0, .ref a19, .ref a20, .ref a21, .ref a22, .ref a23, .ref a24, .ref a25, .int 0])), (a14, .inr (6, [.int 0, .ref a29, .ref a30, .ref a31, .int 0])), (a15, .inl (k2, 64, .inl (fun _ => 0))), (a17, .inr (2, [.ref a32, .ref a33, .ref a34, .ref a35])), (a32, .inr (6, [.int 0, .ref a36, .ref a37, .ref a38, .int 0]))]) [0, 5, 1, 2, 3, 4] (by decide) rfl
  have hKc := hK.sub (tys' := [(k2, .int)]) [0] rfl
  have hFc := va_free (wc := [(a4, .inr (7, [.ref a5, .ref a14, .ref a15, .ref a16, .ref a17, .int 0, .ref a18])), (a5, .inr (1, [.int 0, .ref a19, .ref a20, .ref a21, .ref a22, .ref a23, .ref a24, .ref a25, .int 0])), (a14, .inr (6, [.int 0, .ref a29, .ref a30, .ref a31, .int 0])), (a15, .inl (k2, 64, .inl (fun _ => 0))), (a17, .inr (2, [.ref a32, .ref a33, .ref a34, .ref a35])), (a32, .inr (6, [.int 0, .ref a36, .ref a37, .ref a38, .int 0]))]) hD hS hA [0, 5, 1, 2, 3, 4] rfl
  refine va_callv (va_runV (As := []) (rest := []) ⟨hx, hb, hml, hown, hT⟩ (c_Pr_clear_1 l dC dI a4 a5 a14 a15 a16 a17 a18 a19 a20 a21 a22 a23 a24 a25 a29 a30 a31 a32 a33 a34 a35 a36 a37 a38 k2 H.size) (cwV 0 hT (gd_V wd_585 wd_586 wd_587 wd_2 wd_588) rfl rfl rfl (by decide +kernel) ⟨Nat.le_of_ble_eq_true rfl, Nat.le_of_ble_eq_true rfl⟩) ⟨fun a U g mk q => by obtain ⟨q0, q1, qP, qK, qD⟩ := q; exact ⟨q0, q1, qP, va_K.moved (u := U) (U := U.calling g mk a) (Vm.Alike.refl U.vm) qK, qD⟩, va_recv hK hP (q0 := 0) (ci := 7) rfl rfl, fun U hU hW => ⟨rfl, by rw [hU], by rw [hU]; exact hPc, va_K.moved hW.alike hKc, hDc.weaken (fun _ _ _ _ => trivial)⟩⟩ rfl rfl hl.1 rfl (lv_room (Nat.le_of_ble_eq_true rfl)) dc_Re_begin_34 ⟨(Nat.le_of_ble_eq_true rfl), (Nat.le_of_ble_eq_true rfl)⟩) hS (fun q _ h => hFc q h) hFc (fun _ t H1 locs ht hvm hr9 hB hz1 hk1 hS => ?_)
  obtain ⟨u5, hP1, hK1, hD1⟩ := hB
  rw [ht] at hP1
  have hK1 := va_K.moved hvm.symm hK1
  obtain ⟨hP, hD⟩ := va_join (wr := [(a7, .inr (6, [.int 0, .ref a26, .ref a27, .ref a28, .int 0])), (a1, .inr (8, [.int 0, .int 0, .ref a2, .int 0, .ref a3, .int 0, .int 0, .ref a4, .ref a5, .int 0, .int 0, .int 0, .int 0, .int 0, .int 0, .ref a6, .ref a7, .ref a8, .ref a9])), (a2, .inr (6, [.int 0, .ref a10, .ref a11, .ref a12, .int 0]))]) (w1 := [(a4, .inr (7, [.ref a5, .ref a14, .ref a15, .ref a16, .ref a17, .int 0, .ref a18])), (a5, .inr (1, [.int 0, .ref a19, .ref a20, .ref a21, .ref a22, .ref a23, .ref a24, .ref a25, .int 0])), (a14, .inr (6, [.int 0, .ref a29, .ref a30, .ref a31, .int 0])), (a17, .inr (2, [.ref a32, .ref a33, .ref a34, .ref a35])), (a32, .inr (6, [.int 0, .ref a36, .ref a37, .ref a38, .int 0])), (a15, .inl (k2, 64, .inl u5))]) hP hD [0, 5, 1, 2, 3, 4] [6, 7, 8] rfl rfl (by decide) (by decide) hk1 hFc hP1 hD1
  have hK := (hK.sub (tys' := []) [] rfl).app hK1
  generalize H1 = H at hP hS ⊢
  have hP : va_P (dC, dI) vwCl [(a7, .inr (6, [.int 0, .ref a26, .ref a27, .ref a28, .int 0])), (a1, .inr (8, [.int 0, .int 0, .ref a2, .int 0, .ref a3, .int 0, .int 0, .ref a4, .ref a5, .int 0, .int 0, .int 0, .int 0, .int 0, .int 0, .ref a6, .ref a7, .ref a8, .ref a9])), (a2, .inr (6, [.int 0, .ref a10, .ref a11, .ref a12, .int 0])), (a4, .inr (7, [.ref a5, .ref a14, .ref a15, .ref a16, .ref a17, .int 0, .ref a18])), (a5, .inr (1, [.int 0, .ref a19, .ref a20, .ref a21, .ref a22, .ref a23, .ref a24, .ref a25, .int 0])), (a14, .inr (6, [.int 0, .ref a29, .ref a30, .ref a31, .int 0])), (a17, .inr (2, [.ref a32, .ref a33, .ref a34, .ref a35])), (a32, .inr (6, [.int 0, .ref a36, .ref a37, .ref a38, .int 0])), (a15, .inl (k2, 64, .inl u5))] H := hP
  have hD : va_D A [(a7, .inr (6, [.int 0, .ref a26, .ref a27, .ref a28, .int 0])), (a1, .inr (8, [.int 0, .int 0, .ref a2, .int 0, .ref a3, .int 0, .int 0, .ref a4, .ref a5, .int 0, .int 0, .int 0, .int 0, .int 0, .int 0, .ref a6, .ref a7, .ref a8, .ref a9])), (a2, .inr (6, [.int 0, .ref a10, .ref a11, .ref a12, .int 0])), (a4, .inr (7, [.ref a5, .ref a14, .ref a15, .ref a16, .ref a17, .int 0, .ref a18])), (a5, .inr (1, [.int 0, .ref a19, .ref a20, .ref a21, .ref a22, .ref a23, .ref a24, .ref a25, .int 0])), (a14, .inr (6, [.int 0, .ref a29, .ref a30, .ref a31, .int 0])), (a17, .inr (2, [.ref a32, .ref a33, .ref a34, .ref a35])), (a32, .inr (6, [.int 0, .ref a36, .ref a37, .ref a38, .int 0])), (a15, .inl (k2, 64, .inl u5))] := hD
  have hK : va_K (dC, dI) vwCl [(k2, .int)] s := hK
  refine lv_aload_n hx hb dc_Re_begin_37 rfl (lv_at hl 0 rfl) ?_
  refine lv_iconst (v := 0) hx hb dc_Re_begin_38 (by decide) ?_
  refine va_put (D := (dC, dI)) (ci := 8) (v := .int 0) (ty := .int) (C := "StrataBase$Reader") (T := tb_Re) (N := 19) hx hb hT in_Re ty_Re tk_Re nm_Re hown hK hP hD hS 1 rfl rfl 6 (by decide) (hT _ wd_230) (fun _ h9 => h9) rfl (by decide +kernel) rfl rfl (Nat.le_of_ble_eq_true rfl) dc_Re_begin_39 (fun H locs hP hD hS => ?_)
  have hP : va_P (dC, dI) vwCl [(a7, .inr (6, [.int 0, .ref a26, .ref a27, .ref a28, .int 0])), (a1, .inr (8, [.int 0, .int 0, .ref a2, .int 0, .ref a3, .int 0, .int 0, .ref a4, .ref a5, .int 0, .int 0, .int 0, .int 0, .int 0, .int 0, .ref a6, .ref a7, .ref a8, .ref a9])), (a2, .inr (6, [.int 0, .ref a10, .ref a11, .ref a12, .int 0])), (a4, .inr (7, [.ref a5, .ref a14, .ref a15, .ref a16, .ref a17, .int 0, .ref a18])), (a5, .inr (1, [.int 0, .ref a19, .ref a20, .ref a21, .ref a22, .ref a23, .ref a24, .ref a25, .int 0])), (a14, .inr (6, [.int 0, .ref a29, .ref a30, .ref a31, .int 0])), (a17, .inr (2, [.ref a32, .ref a33, .ref a34, .ref a35])), (a32, .inr (6, [.int 0, .ref a36, .ref a37, .ref a38, .int 0])), (a15, .inl (k2, 64, .inl u5))] H := hP
  have hD : va_D A [(a7, .inr (6, [.int 0, .ref a26, .ref a27, .ref a28, .int 0])), (a1, .inr (8, [.int 0, .int 0, .ref a2, .int 0, .ref a3, .int 0, .int 0, .ref a4, .ref a5, .int 0, .int 0, .int 0, .int 0, .int 0, .int 0, .ref a6, .ref a7, .ref a8, .ref a9])), (a2, .inr (6, [.int 0, .ref a10, .ref a11, .ref a12, .int 0])), (a4, .inr (7, [.ref a5, .ref a14, .ref a15, .ref a16, .ref a17, .int 0, .ref a18])), (a5, .inr (1, [.int 0, .ref a19, .ref a20, .ref a21, .ref a22, .ref a23, .ref a24, .ref a25, .int 0])), (a14, .inr (6, [.int 0, .ref a29, .ref a30, .ref a31, .int 0])), (a17, .inr (2, [.ref a32, .ref a33, .ref a34, .ref a35])), (a32, .inr (6, [.int 0, .ref a36, .ref a37, .ref a38, .int 0])), (a15, .inl (k2, 64, .inl u5))] := hD
  refine lv_goto (tgt := 76) hx hb dc_Re_begin_42 (by decide) ?_
  have hP9 := hP.sub (ws' := [(a7, .inr (6, [.int 0, .ref a26, .ref a27, .ref a28, .int 0])), (a1, .inr (8, [.int 0, .int 0, .ref a2, .int 0, .ref a3, .int 0, .int 0, .ref a4, .ref a5, .int 0, .int 0, .int 0, .int 0, .int 0, .int 0, .ref a6, .ref a7, .ref a8, .ref a9])), (a2, .inr (6, [.int 0, .ref a10, .ref a11, .ref a12, .int 0])), (a4, .inr (7, [.ref a5, .ref a14, .ref a15, .ref a16, .ref a17, .int 0, .ref a18])), (a5, .inr (1, [.int 0, .ref a19, .ref a20, .ref a21, .ref a22, .ref a23, .ref a24, .ref a25, .int 0])), (a14, .inr (6, [.int 0, .ref a29, .ref a30, .ref a31, .int 0])), (a17, .inr (2, [.ref a32, .ref a33, .ref a34, .ref a35])), (a32, .inr (6, [.int 0, .ref a36, .ref a37, .ref a38, .int 0])), (a15, .inl (k2, 64, .inl u5))]) [0, 1, 2, 3, 4, 5, 6, 7, 8] rfl
  have hD9 := hD.sub (ws' := [(a7, .inr (6, [.int 0, .ref a26, .ref a27, .ref a28, .int 0])), (a1, .inr (8, [.int 0, .int 0, .ref a2, .int 0, .ref a3, .int 0, .int 0, .ref a4, .ref a5, .int 0, .int 0, .int 0, .int 0, .int 0, .int 0, .ref a6, .ref a7, .ref a8, .ref a9])), (a2, .inr (6, [.int 0, .ref a10, .ref a11, .ref a12, .int 0])), (a4, .inr (7, [.ref a5, .ref a14, .ref a15, .ref a16, .ref a17, .int 0, .ref a18])), (a5, .inr (1, [.int 0, .ref a19, .ref a20, .ref a21, .ref a22, .ref a23, .ref a24, .ref a25, .int 0])), (a14, .inr (6, [.int 0, .ref a29, .ref a30, .ref a31, .int 0])), (a17, .inr (2, [.ref a32, .ref a33, .ref a34, .ref a35])), (a32, .inr (6, [.int 0, .ref a36, .ref a37, .ref a38, .int 0])), (a15, .inl (k2, 64, .inl u5))]) [0, 1, 2, 3, 4, 5, 6, 7, 8] (by decide) rfl
  have hK9 := hK.sub (tys' := [(k2, .int)]) [0] rfl
  refine W.widen (k := 0) (n := 0) (Nat.le_of_ble_eq_true rfl) (Nat.le_of_ble_eq_true rfl) ?_
  exact W.vret hx hb hr (fun t ht hW => ⟨⟨(), rfl, trivial, u5, by rw [ht]; exact hP9, va_K.moved hW.alike hK9, hD9⟩, hS.F ht⟩) hS.2.2 dc_Re_begin_76

set_option maxHeartbeats 4000000 in
set_option maxRecDepth 100000 in
theorem c_To_skipBlanks_1 (l : Launch) (dC : Nat → ClassId) (dI : Nat → Nat → Nat) (a1 : Nat) (a2 : Nat) (sz : Nat) : Met l my_To_skipBlanks (Cond.code my_To_skipBlanks cd_To_skipBlanks 2 none :: tblG) ({ frames := 0, cells := 0, slots := 0, locals := 0 }) (va_Pc [.ref a1] (fun U => U.heap.size = sz ∧ va_P (dC, dI) vwCl [(a1, .inr (11, [.ref a2, .int 0, .int 0, .int 0, .int 0, .int 0]))] U.heap ∧ va_K (dC, dI) vwCl [] U ∧ va_D (fun _ => True) [(a1, .inr (11, [.ref a2, .int 0, .int 0, .int 0, .int 0, .int 0]))])) (va_Qv (fun _ : Unit => True) (fun (_ : Unit) (t : State) => va_P (dC, dI) vwCl [(a1, .inr (11, [.ref a2, .int 0, .int 0, .int 0, .int 0, .int 0]))] t.heap ∧ va_K (dC, dI) vwCl [] t ∧ va_D (va_A [(a1, .inr (11, [.ref a2, .int 0, .int 0, .int 0, .int 0, .int 0]))] sz) [(a1, .inr (11, [.ref a2, .int 0, .int 0, .int 0, .int 0, .int 0]))]) (va_A [(a1, .inr (11, [.ref a2, .int 0, .int 0, .int 0, .int 0, .int 0]))] sz)) 0 0 (va_A [(a1, .inr (11, [.ref a2, .int 0, .int 0, .int 0, .int 0, .int 0]))] sz) := by
  refine Met.ofW (cc := cd_To_skipBlanks) (maxL := 2) (ret := none) (by decide) rfl ?_
  intro p e s m args below meth c s₁ B hml hv
  obtain ⟨rfl, hsz, hP, hK, hD0⟩ := hv
  have hx := B.exec
  have hb := B.bytes
  have hr := B.returns
  have hT : ∀ w ∈ tblG, w.before _ s = true := fun w h => atoms_spec (ws := (Cond.code my_To_skipBlanks cd_To_skipBlanks 2 none :: tblG)) B.pre w (List.mem_cons_of_mem _ h)
  have hown : s.vm.findClass "StrataBase$Tokens" = some m.cls := findClass_of_methodNamed B.named
  have hlocks := B.notSynchronized
  subst hsz
  have hD := hD0.self (sz := s.heap.size)
  generalize hAe : va_A [(a1, .inr (11, [.ref a2, .int 0, .int 0, .int 0, .int 0, .int 0]))] s.heap.size = A at hD ⊢
  have hA : ∀ q : Nat, s.heap.size ≤ q → A q := fun q h => by rw [← hAe]; exact Or.inr h
  have hS : va_S A s.heap s.heap [] := va_S.rf
  have hl := lv_entry ([.ref a1]) (n := 2) (Nat.le_of_ble_eq_true rfl)
  rw [lg_entry_eq]
  generalize (lg_sl ([.ref a1]) ++ List.replicate (2 - (lg_sl ([.ref a1])).length) Slot.unset).toArray = ls at hl ⊢
  have hl : lv_has ls 2 [(0, .ref a1)] := hl
  refine lv_iconst (v := 0) hx hb dc_To_skipBlanks_0 (by decide) ?_
  refine lv_istore_n (lv' := [(1, .int 0), (0, .ref a1)]) hx hb dc_To_skipBlanks_1 rfl hl (by decide) rfl (fun ls hl => ?_)
  refine lv_aload_n hx hb dc_To_skipBlanks_2 rfl (lv_at hl 1 rfl) ?_
  refine va_get (D := (dC, dI)) (ci := 11) (v := .int 0) (C := "StrataBase$Tokens") (T := tb_To) (N := 6) hx hb hT in_To hown hK hP 0 rfl rfl 3 (by decide) (hT _ wd_200) (fun _ h9 => h9) rfl dc_To_skipBlanks_3 ?_
  refine lv_aload_n hx hb dc_To_skipBlanks_6 rfl (lv_at hl 1 rfl) ?_
  refine va_get (D := (dC, dI)) (ci := 11) (v := .int 0) (C := "StrataBase$Tokens") (T := tb_To) (N := 6) hx hb hT in_To hown hK hP 0 rfl rfl 5 (by decide) (hT _ wd_204) (fun _ h9 => h9) rfl dc_To_skipBlanks_7 ?_
  refine lv_icmp_ge (tgt := 105) hx hb dc_To_skipBlanks_10 (by decide) (fun _ => ?_) (fun h9 => absurd (by decide) h9)
  have hP9 := hP.sub (ws' := [(a1, .inr (11, [.ref a2, .int 0, .int 0, .int 0, .int 0, .int 0]))]) [0] rfl
  have hD9 := hD.sub (ws' := [(a1, .inr (11, [.ref a2, .int 0, .int 0, .int 0, .int 0, .int 0]))]) [0] (by decide) rfl
  have hK9 := hK.sub (tys' := []) [] rfl
  refine W.widen (k := 0) (n := 0) (Nat.le_of_ble_eq_true rfl) (Nat.le_of_ble_eq_true rfl) ?_
  exact W.vret hx hb hr (fun t ht hW => ⟨⟨(), rfl, trivial, by rw [ht]; exact hP9, va_K.moved hW.alike hK9, hD9⟩, hS.F ht⟩) hS.2.2 dc_To_skipBlanks_105

set_option maxHeartbeats 4000000 in
set_option maxRecDepth 100000 in
theorem c_To_next_1 (l : Launch) (dC : Nat → ClassId) (dI : Nat → Nat → Nat) (a1 : Nat) (a2 : Nat) (sz : Nat) : Met l my_To_next (Cond.code my_To_next cd_To_next 1 none :: tblG) ({ frames := 1, cells := 0, slots := 0, locals := 21 }) (va_Pc [.ref a1] (fun U => U.heap.size = sz ∧ va_P (dC, dI) vwCl [(a1, .inr (11, [.ref a2, .int 0, .int 0, .int 0, .int 0, .int 0]))] U.heap ∧ va_K (dC, dI) vwCl [] U ∧ va_D (fun _ => True) [(a1, .inr (11, [.ref a2, .int 0, .int 0, .int 0, .int 0, .int 0]))])) (va_Qv (fun _ : Unit => True) (fun (_ : Unit) (t : State) => va_P (dC, dI) vwCl [(a1, .inr (11, [.ref a2, .int 0, .int 0, .int 0, .int 0, .int 0]))] t.heap ∧ va_K (dC, dI) vwCl [] t ∧ va_D (va_A [(a1, .inr (11, [.ref a2, .int 0, .int 0, .int 0, .int 0, .int 0]))] sz) [(a1, .inr (11, [.ref a2, .int 0, .int 0, .int 0, .int 0, .int 0]))]) (va_A [(a1, .inr (11, [.ref a2, .int 0, .int 0, .int 0, .int 0, .int 0]))] sz)) 0 0 (va_A [(a1, .inr (11, [.ref a2, .int 0, .int 0, .int 0, .int 0, .int 0]))] sz) := by
  refine Met.ofW (cc := cd_To_next) (maxL := 1) (ret := none) (by decide) rfl ?_
  intro p e s m args below meth c s₁ B hml hv
  obtain ⟨rfl, hsz, hP, hK, hD0⟩ := hv
  have hx := B.exec
  have hb := B.bytes
  have hr := B.returns
  have hT : ∀ w ∈ tblG, w.before _ s = true := fun w h => atoms_spec (ws := (Cond.code my_To_next cd_To_next 1 none :: tblG)) B.pre w (List.mem_cons_of_mem _ h)
  have hown : s.vm.findClass "StrataBase$Tokens" = some m.cls := findClass_of_methodNamed B.named
  have hlocks := B.notSynchronized
  subst hsz
  have hD := hD0.self (sz := s.heap.size)
  generalize hAe : va_A [(a1, .inr (11, [.ref a2, .int 0, .int 0, .int 0, .int 0, .int 0]))] s.heap.size = A at hD ⊢
  have hA : ∀ q : Nat, s.heap.size ≤ q → A q := fun q h => by rw [← hAe]; exact Or.inr h
  have hS : va_S A s.heap s.heap [] := va_S.rf
  have hl := lv_entry ([.ref a1]) (n := 1) (Nat.le_of_ble_eq_true rfl)
  rw [lg_entry_eq]
  generalize (lg_sl ([.ref a1]) ++ List.replicate (1 - (lg_sl ([.ref a1])).length) Slot.unset).toArray = ls at hl ⊢
  have hl : lv_has ls 1 [(0, .ref a1)] := hl
  refine lv_aload_n hx hb dc_To_next_0 rfl (lv_at hl 0 rfl) ?_
  have hPc := hP.sub (ws' := [(a1, .inr (11, [.ref a2, .int 0, .int 0, .int 0, .int 0, .int 0]))]) [0] rfl
  have hDc := hD.sub (ws' := [(a1, .inr (11, [.ref a2, .int 0, .int 0, .int 0, .int 0, .int 0]))]) [0] (by decide) rfl
  have hKc := hK.sub (tys' := []) [] rfl
  have hFc := va_free (wc := [(a1, .inr (11, [.ref a2, .int 0, .int 0, .int 0, .int 0, .int 0]))]) hD hS hA [0] rfl
  refine va_callv (va_runV (As := []) (rest := []) ⟨hx, hb, hml, hown, hT⟩ (c_To_skipBlanks_1 l dC dI a1 a2 s.heap.size) (cwV 0 hT (gd_V wd_607 wd_609 sl_To_skipBlanks wd_7 wd_610) rfl rfl rfl (by decide +kernel) ⟨Nat.le_of_ble_eq_true rfl, Nat.le_of_ble_eq_true rfl⟩) ⟨fun a U g mk q => by obtain ⟨q0, q1, qP, qK, qD⟩ := q; exact ⟨q0, q1, qP, va_K.moved (u := U) (U := U.calling g mk a) (Vm.Alike.refl U.vm) qK, qD⟩, va_recv hK hP (q0 := 0) (ci := 11) rfl rfl, fun U hU hW => ⟨rfl, by rw [hU], by rw [hU]; exact hPc, va_K.moved hW.alike hKc, hDc.weaken (fun _ _ _ _ => trivial)⟩⟩ rfl rfl hl.1 rfl (lv_room (Nat.le_of_ble_eq_true rfl)) dc_To_next_1 ⟨(Nat.le_of_ble_eq_true rfl), (Nat.le_of_ble_eq_true rfl)⟩) hS (fun q _ h => hFc q h) hFc (fun _ t H1 locs ht hvm hr9 hB hz1 hk1 hS => ?_)
  obtain ⟨hP1, hK1, hD1⟩ := hB
  rw [ht] at hP1
  have hK1 := va_K.moved hvm.symm hK1
  obtain ⟨hP, hD⟩ := va_join (wr := []) (w1 := [(a1, .inr (11, [.ref a2, .int 0, .int 0, .int 0, .int 0, .int 0]))]) hP hD [0] [] rfl rfl (by decide) (by decide) hk1 hFc hP1 hD1
  have hK := (hK.sub (tys' := []) [] rfl).app hK1
  generalize H1 = H at hP hS ⊢
  have hP : va_P (dC, dI) vwCl [(a1, .inr (11, [.ref a2, .int 0, .int 0, .int 0, .int 0, .int 0]))] H := hP
  have hD : va_D A [(a1, .inr (11, [.ref a2, .int 0, .int 0, .int 0, .int 0, .int 0]))] := hD
  have hK : va_K (dC, dI) vwCl [] s := hK
  refine lv_aload_n hx hb dc_To_next_4 rfl (lv_at hl 0 rfl) ?_
  refine lv_aload_n hx hb dc_To_next_5 rfl (lv_at hl 0 rfl) ?_
  refine va_get (D := (dC, dI)) (ci := 11) (v := .int 0) (C := "StrataBase$Tokens") (T := tb_To) (N := 6) hx hb hT in_To hown hK hP 0 rfl rfl 3 (by decide) (hT _ wd_200) (fun _ h9 => h9) rfl dc_To_next_6 ?_
  refine va_put (D := (dC, dI)) (ci := 11) (v := .int 0) (ty := .int) (C := "StrataBase$Tokens") (T := tb_To) (N := 6) hx hb hT in_To ty_To tk_To nm_To hown hK hP hD hS 0 rfl rfl 2 (by decide) (hT _ wd_198) (fun _ h9 => h9) rfl (by decide +kernel) rfl rfl (Nat.le_of_ble_eq_true rfl) dc_To_next_9 (fun H locs hP hD hS => ?_)
  have hP : va_P (dC, dI) vwCl [(a1, .inr (11, [.ref a2, .int 0, .int 0, .int 0, .int 0, .int 0]))] H := hP
  have hD : va_D A [(a1, .inr (11, [.ref a2, .int 0, .int 0, .int 0, .int 0, .int 0]))] := hD
  refine lv_aload_n hx hb dc_To_next_12 rfl (lv_at hl 0 rfl) ?_
  refine lv_iconst (v := 0) hx hb dc_To_next_13 (by decide) ?_
  refine va_put (D := (dC, dI)) (ci := 11) (v := .int 0) (ty := .int) (C := "StrataBase$Tokens") (T := tb_To) (N := 6) hx hb hT in_To ty_To tk_To nm_To hown hK hP hD hS 0 rfl rfl 4 (by decide) (hT _ wd_202) (fun _ h9 => h9) rfl (by decide +kernel) rfl rfl (Nat.le_of_ble_eq_true rfl) dc_To_next_14 (fun H locs hP hD hS => ?_)
  have hP : va_P (dC, dI) vwCl [(a1, .inr (11, [.ref a2, .int 0, .int 0, .int 0, .int 0, .int 0]))] H := hP
  have hD : va_D A [(a1, .inr (11, [.ref a2, .int 0, .int 0, .int 0, .int 0, .int 0]))] := hD
  refine lv_aload_n hx hb dc_To_next_17 rfl (lv_at hl 0 rfl) ?_
  refine va_get (D := (dC, dI)) (ci := 11) (v := .int 0) (C := "StrataBase$Tokens") (T := tb_To) (N := 6) hx hb hT in_To hown hK hP 0 rfl rfl 3 (by decide) (hT _ wd_200) (fun _ h9 => h9) rfl dc_To_next_18 ?_
  refine lv_aload_n hx hb dc_To_next_21 rfl (lv_at hl 0 rfl) ?_
  refine va_get (D := (dC, dI)) (ci := 11) (v := .int 0) (C := "StrataBase$Tokens") (T := tb_To) (N := 6) hx hb hT in_To hown hK hP 0 rfl rfl 5 (by decide) (hT _ wd_204) (fun _ h9 => h9) rfl dc_To_next_22 ?_
  refine lv_icmp_lt (tgt := 36) hx hb dc_To_next_25 (by decide) (fun h9 => absurd h9 (by decide)) (fun _ => ?_)
  refine lv_aload_n hx hb dc_To_next_28 rfl (lv_at hl 0 rfl) ?_
  refine lv_iconst (v := 0) hx hb dc_To_next_29 (by decide) ?_
  refine va_put (D := (dC, dI)) (ci := 11) (v := .int 0) (ty := .int) (C := "StrataBase$Tokens") (T := tb_To) (N := 6) hx hb hT in_To ty_To tk_To nm_To hown hK hP hD hS 0 rfl rfl 1 (by decide) (hT _ wd_196) (fun _ h9 => h9) rfl (by decide +kernel) rfl rfl (Nat.le_of_ble_eq_true rfl) dc_To_next_30 (fun H locs hP hD hS => ?_)
  have hP : va_P (dC, dI) vwCl [(a1, .inr (11, [.ref a2, .int 0, .int 0, .int 0, .int 0, .int 0]))] H := hP
  have hD : va_D A [(a1, .inr (11, [.ref a2, .int 0, .int 0, .int 0, .int 0, .int 0]))] := hD
  refine lv_goto (tgt := 113) hx hb dc_To_next_33 (by decide) ?_
  have hP9 := hP.sub (ws' := [(a1, .inr (11, [.ref a2, .int 0, .int 0, .int 0, .int 0, .int 0]))]) [0] rfl
  have hD9 := hD.sub (ws' := [(a1, .inr (11, [.ref a2, .int 0, .int 0, .int 0, .int 0, .int 0]))]) [0] (by decide) rfl
  have hK9 := hK.sub (tys' := []) [] rfl
  refine W.widen (k := 0) (n := 0) (Nat.le_of_ble_eq_true rfl) (Nat.le_of_ble_eq_true rfl) ?_
  exact W.vret hx hb hr (fun t ht hW => ⟨⟨(), rfl, trivial, by rw [ht]; exact hP9, va_K.moved hW.alike hK9, hD9⟩, hS.F ht⟩) hS.2.2 dc_To_next_113

set_option maxHeartbeats 4000000 in
set_option maxRecDepth 100000 in
theorem c_Re_settleBefore_1 (l : Launch) (dC : Nat → ClassId) (dI : Nat → Nat → Nat) (a1 : Nat) (a2 : Nat) (a3 : Nat) (a4 : Nat) (a5 : Nat) (a6 : Nat) (a7 : Nat) (a8 : Nat) (a9 : Nat) (a13 : Nat) (sz : Nat) : Met l my_Re_settleBefore (Cond.code my_Re_settleBefore cd_Re_settleBefore 1 none :: tblG) ({ frames := 0, cells := 0, slots := 0, locals := 0 }) (va_Pc [.ref a1] (fun U => U.heap.size = sz ∧ va_P (dC, dI) vwCl [(a1, .inr (8, [.int 0, .int 0, .ref a2, .int 0, .ref a3, .int 0, .int 0, .ref a4, .ref a5, .int 0, .int 0, .int 0, .int 0, .int 0, .int 0, .ref a6, .ref a7, .ref a8, .ref a9])), (a3, .inr (11, [.ref a13, .int 0, .int 0, .int 0, .int 0, .int 0]))] U.heap ∧ va_K (dC, dI) vwCl [] U ∧ va_D (fun _ => True) [(a1, .inr (8, [.int 0, .int 0, .ref a2, .int 0, .ref a3, .int 0, .int 0, .ref a4, .ref a5, .int 0, .int 0, .int 0, .int 0, .int 0, .int 0, .ref a6, .ref a7, .ref a8, .ref a9])), (a3, .inr (11, [.ref a13, .int 0, .int 0, .int 0, .int 0, .int 0]))])) (va_Qv (fun _ : Unit => True) (fun (_ : Unit) (t : State) => va_P (dC, dI) vwCl [(a1, .inr (8, [.int 0, .int 0, .ref a2, .int 0, .ref a3, .int 0, .int 0, .ref a4, .ref a5, .int 0, .int 0, .int 0, .int 0, .int 0, .int 0, .ref a6, .ref a7, .ref a8, .ref a9])), (a3, .inr (11, [.ref a13, .int 0, .int 0, .int 0, .int 0, .int 0]))] t.heap ∧ va_K (dC, dI) vwCl [] t ∧ va_D (va_A [(a1, .inr (8, [.int 0, .int 0, .ref a2, .int 0, .ref a3, .int 0, .int 0, .ref a4, .ref a5, .int 0, .int 0, .int 0, .int 0, .int 0, .int 0, .ref a6, .ref a7, .ref a8, .ref a9])), (a3, .inr (11, [.ref a13, .int 0, .int 0, .int 0, .int 0, .int 0]))] sz) [(a1, .inr (8, [.int 0, .int 0, .ref a2, .int 0, .ref a3, .int 0, .int 0, .ref a4, .ref a5, .int 0, .int 0, .int 0, .int 0, .int 0, .int 0, .ref a6, .ref a7, .ref a8, .ref a9])), (a3, .inr (11, [.ref a13, .int 0, .int 0, .int 0, .int 0, .int 0]))]) (va_A [(a1, .inr (8, [.int 0, .int 0, .ref a2, .int 0, .ref a3, .int 0, .int 0, .ref a4, .ref a5, .int 0, .int 0, .int 0, .int 0, .int 0, .int 0, .ref a6, .ref a7, .ref a8, .ref a9])), (a3, .inr (11, [.ref a13, .int 0, .int 0, .int 0, .int 0, .int 0]))] sz)) 0 0 (va_A [(a1, .inr (8, [.int 0, .int 0, .ref a2, .int 0, .ref a3, .int 0, .int 0, .ref a4, .ref a5, .int 0, .int 0, .int 0, .int 0, .int 0, .int 0, .ref a6, .ref a7, .ref a8, .ref a9])), (a3, .inr (11, [.ref a13, .int 0, .int 0, .int 0, .int 0, .int 0]))] sz) := by
  refine Met.ofW (cc := cd_Re_settleBefore) (maxL := 1) (ret := none) (by decide) rfl ?_
  intro p e s m args below meth c s₁ B hml hv
  obtain ⟨rfl, hsz, hP, hK, hD0⟩ := hv
  have hx := B.exec
  have hb := B.bytes
  have hr := B.returns
  have hT : ∀ w ∈ tblG, w.before _ s = true := fun w h => atoms_spec (ws := (Cond.code my_Re_settleBefore cd_Re_settleBefore 1 none :: tblG)) B.pre w (List.mem_cons_of_mem _ h)
  have hown : s.vm.findClass "StrataBase$Reader" = some m.cls := findClass_of_methodNamed B.named
  have hlocks := B.notSynchronized
  subst hsz
  have hD := hD0.self (sz := s.heap.size)
  generalize hAe : va_A [(a1, .inr (8, [.int 0, .int 0, .ref a2, .int 0, .ref a3, .int 0, .int 0, .ref a4, .ref a5, .int 0, .int 0, .int 0, .int 0, .int 0, .int 0, .ref a6, .ref a7, .ref a8, .ref a9])), (a3, .inr (11, [.ref a13, .int 0, .int 0, .int 0, .int 0, .int 0]))] s.heap.size = A at hD ⊢
  have hA : ∀ q : Nat, s.heap.size ≤ q → A q := fun q h => by rw [← hAe]; exact Or.inr h
  have hS : va_S A s.heap s.heap [] := va_S.rf
  have hl := lv_entry ([.ref a1]) (n := 1) (Nat.le_of_ble_eq_true rfl)
  rw [lg_entry_eq]
  generalize (lg_sl ([.ref a1]) ++ List.replicate (1 - (lg_sl ([.ref a1])).length) Slot.unset).toArray = ls at hl ⊢
  have hl : lv_has ls 1 [(0, .ref a1)] := hl
  refine lv_aload_n hx hb dc_Re_settleBefore_0 rfl (lv_at hl 0 rfl) ?_
  refine va_get (D := (dC, dI)) (ci := 8) (v := .int 0) (C := "StrataBase$Reader") (T := tb_Re) (N := 19) hx hb hT in_Re hown hK hP 0 rfl rfl 6 (by decide) (hT _ wd_230) (fun _ h9 => h9) rfl dc_Re_settleBefore_1 ?_
  refine lv_bipush (v := 7) hx hb dc_Re_settleBefore_4 (by decide) ?_
  refine lv_icmp_ne (tgt := 13) hx hb dc_Re_settleBefore_6 (by decide) (fun _ => ?_) (fun h9 => absurd h9 (by decide))
  refine lv_aload_n hx hb dc_Re_settleBefore_13 rfl (lv_at hl 0 rfl) ?_
  refine va_get (D := (dC, dI)) (ci := 8) (v := .int 0) (C := "StrataBase$Reader") (T := tb_Re) (N := 19) hx hb hT in_Re hown hK hP 0 rfl rfl 6 (by decide) (hT _ wd_230) (fun _ h9 => h9) rfl dc_Re_settleBefore_14 ?_
  refine lv_iconst (v := 2) hx hb dc_Re_settleBefore_17 (by decide) ?_
  refine lv_icmp_ne (tgt := 37) hx hb dc_Re_settleBefore_18 (by decide) (fun _ => ?_) (fun h9 => absurd h9 (by decide))
  refine lv_aload_n hx hb dc_Re_settleBefore_37 rfl (lv_at hl 0 rfl) ?_
  refine va_get (D := (dC, dI)) (ci := 8) (v := .int 0) (C := "StrataBase$Reader") (T := tb_Re) (N := 19) hx hb hT in_Re hown hK hP 0 rfl rfl 6 (by decide) (hT _ wd_230) (fun _ h9 => h9) rfl dc_Re_settleBefore_38 ?_
  refine lv_bipush (v := 12) hx hb dc_Re_settleBefore_41 (by decide) ?_
  refine lv_icmp_eq (tgt := 69) hx hb dc_Re_settleBefore_43 (by decide) (fun h9 => absurd h9 (by decide)) (fun _ => ?_)
  refine lv_aload_n hx hb dc_Re_settleBefore_46 rfl (lv_at hl 0 rfl) ?_
  refine va_get (D := (dC, dI)) (ci := 8) (v := .ref a3) (C := "StrataBase$Reader") (T := tb_Re) (N := 19) hx hb hT in_Re hown hK hP 0 rfl rfl 4 (by decide) (hT _ wd_228) (fun _ h9 => h9) rfl dc_Re_settleBefore_47 ?_
  refine va_get (D := (dC, dI)) (ci := 11) (v := .int 0) (C := "StrataBase$Tokens") (T := tb_To) (N := 6) hx hb hT in_To hown hK hP 1 rfl rfl 1 (by decide) (hT _ wd_197) (fun _ h9 => h9) rfl dc_Re_settleBefore_50 ?_
  refine lv_iconst (v := 1) hx hb dc_Re_settleBefore_53 (by decide) ?_
  refine lv_icmp_ne (tgt := 69) hx hb dc_Re_settleBefore_54 (by decide) (fun _ => ?_) (fun h9 => absurd h9 (by decide))
  have hP9 := hP.sub (ws' := [(a1, .inr (8, [.int 0, .int 0, .ref a2, .int 0, .ref a3, .int 0, .int 0, .ref a4, .ref a5, .int 0, .int 0, .int 0, .int 0, .int 0, .int 0, .ref a6, .ref a7, .ref a8, .ref a9])), (a3, .inr (11, [.ref a13, .int 0, .int 0, .int 0, .int 0, .int 0]))]) [0, 1] rfl
  have hD9 := hD.sub (ws' := [(a1, .inr (8, [.int 0, .int 0, .ref a2, .int 0, .ref a3, .int 0, .int 0, .ref a4, .ref a5, .int 0, .int 0, .int 0, .int 0, .int 0, .int 0, .ref a6, .ref a7, .ref a8, .ref a9])), (a3, .inr (11, [.ref a13, .int 0, .int 0, .int 0, .int 0, .int 0]))]) [0, 1] (by decide) rfl
  have hK9 := hK.sub (tys' := []) [] rfl
  refine W.widen (k := 0) (n := 0) (Nat.le_of_ble_eq_true rfl) (Nat.le_of_ble_eq_true rfl) ?_
  exact W.vret hx hb hr (fun t ht hW => ⟨⟨(), rfl, trivial, by rw [ht]; exact hP9, va_K.moved hW.alike hK9, hD9⟩, hS.F ht⟩) hS.2.2 dc_Re_settleBefore_69

set_option maxHeartbeats 4000000 in
set_option maxRecDepth 100000 in
theorem c_Re_beginClause_1 (l : Launch) (dC : Nat → ClassId) (dI : Nat → Nat → Nat) (a1 : Nat) (a2 : Nat) (a3 : Nat) (a4 : Nat) (a5 : Nat) (a6 : Nat) (a7 : Nat) (a8 : Nat) (a9 : Nat) (a13 : Nat) (sz : Nat) : Met l my_Re_beginClause (Cond.code my_Re_beginClause cd_Re_beginClause 1 none :: tblG) ({ frames := 0, cells := 0, slots := 0, locals := 0 }) (va_Pc [.ref a1] (fun U => U.heap.size = sz ∧ va_P (dC, dI) vwCl [(a1, .inr (8, [.int 0, .int 0, .ref a2, .int 0, .ref a3, .int 0, .int 0, .ref a4, .ref a5, .int 0, .int 0, .int 0, .int 0, .int 0, .int 0, .ref a6, .ref a7, .ref a8, .ref a9])), (a3, .inr (11, [.ref a13, .int 0, .int 0, .int 0, .int 0, .int 0]))] U.heap ∧ va_K (dC, dI) vwCl [] U ∧ va_D (fun _ => True) [(a1, .inr (8, [.int 0, .int 0, .ref a2, .int 0, .ref a3, .int 0, .int 0, .ref a4, .ref a5, .int 0, .int 0, .int 0, .int 0, .int 0, .int 0, .ref a6, .ref a7, .ref a8, .ref a9])), (a3, .inr (11, [.ref a13, .int 0, .int 0, .int 0, .int 0, .int 0]))])) (va_Qv (fun _ : Unit => True) (fun (_ : Unit) (t : State) => va_P (dC, dI) vwCl [(a1, .inr (8, [.int 0, .int 0, .ref a2, .int 0, .ref a3, .int 0, .int 12, .ref a4, .ref a5, .int 0, .int 0, .int 0, .int 0, .int 0, .int 0, .ref a6, .ref a7, .ref a8, .ref a9])), (a3, .inr (11, [.ref a13, .int 0, .int 0, .int 0, .int 0, .int 0]))] t.heap ∧ va_K (dC, dI) vwCl [] t ∧ va_D (va_A [(a1, .inr (8, [.int 0, .int 0, .ref a2, .int 0, .ref a3, .int 0, .int 0, .ref a4, .ref a5, .int 0, .int 0, .int 0, .int 0, .int 0, .int 0, .ref a6, .ref a7, .ref a8, .ref a9])), (a3, .inr (11, [.ref a13, .int 0, .int 0, .int 0, .int 0, .int 0]))] sz) [(a1, .inr (8, [.int 0, .int 0, .ref a2, .int 0, .ref a3, .int 0, .int 12, .ref a4, .ref a5, .int 0, .int 0, .int 0, .int 0, .int 0, .int 0, .ref a6, .ref a7, .ref a8, .ref a9])), (a3, .inr (11, [.ref a13, .int 0, .int 0, .int 0, .int 0, .int 0]))]) (va_A [(a1, .inr (8, [.int 0, .int 0, .ref a2, .int 0, .ref a3, .int 0, .int 0, .ref a4, .ref a5, .int 0, .int 0, .int 0, .int 0, .int 0, .int 0, .ref a6, .ref a7, .ref a8, .ref a9])), (a3, .inr (11, [.ref a13, .int 0, .int 0, .int 0, .int 0, .int 0]))] sz)) 0 0 (va_A [(a1, .inr (8, [.int 0, .int 0, .ref a2, .int 0, .ref a3, .int 0, .int 0, .ref a4, .ref a5, .int 0, .int 0, .int 0, .int 0, .int 0, .int 0, .ref a6, .ref a7, .ref a8, .ref a9])), (a3, .inr (11, [.ref a13, .int 0, .int 0, .int 0, .int 0, .int 0]))] sz) := by
  refine Met.ofW (cc := cd_Re_beginClause) (maxL := 1) (ret := none) (by decide) rfl ?_
  intro p e s m args below meth c s₁ B hml hv
  obtain ⟨rfl, hsz, hP, hK, hD0⟩ := hv
  have hx := B.exec
  have hb := B.bytes
  have hr := B.returns
  have hT : ∀ w ∈ tblG, w.before _ s = true := fun w h => atoms_spec (ws := (Cond.code my_Re_beginClause cd_Re_beginClause 1 none :: tblG)) B.pre w (List.mem_cons_of_mem _ h)
  have hown : s.vm.findClass "StrataBase$Reader" = some m.cls := findClass_of_methodNamed B.named
  have hlocks := B.notSynchronized
  subst hsz
  have hD := hD0.self (sz := s.heap.size)
  generalize hAe : va_A [(a1, .inr (8, [.int 0, .int 0, .ref a2, .int 0, .ref a3, .int 0, .int 0, .ref a4, .ref a5, .int 0, .int 0, .int 0, .int 0, .int 0, .int 0, .ref a6, .ref a7, .ref a8, .ref a9])), (a3, .inr (11, [.ref a13, .int 0, .int 0, .int 0, .int 0, .int 0]))] s.heap.size = A at hD ⊢
  have hA : ∀ q : Nat, s.heap.size ≤ q → A q := fun q h => by rw [← hAe]; exact Or.inr h
  have hS : va_S A s.heap s.heap [] := va_S.rf
  have hl := lv_entry ([.ref a1]) (n := 1) (Nat.le_of_ble_eq_true rfl)
  rw [lg_entry_eq]
  generalize (lg_sl ([.ref a1]) ++ List.replicate (1 - (lg_sl ([.ref a1])).length) Slot.unset).toArray = ls at hl ⊢
  have hl : lv_has ls 1 [(0, .ref a1)] := hl
  refine lv_aload_n hx hb dc_Re_beginClause_0 rfl (lv_at hl 0 rfl) ?_
  refine va_get (D := (dC, dI)) (ci := 8) (v := .ref a3) (C := "StrataBase$Reader") (T := tb_Re) (N := 19) hx hb hT in_Re hown hK hP 0 rfl rfl 4 (by decide) (hT _ wd_228) (fun _ h9 => h9) rfl dc_Re_beginClause_1 ?_
  refine va_get (D := (dC, dI)) (ci := 11) (v := .int 0) (C := "StrataBase$Tokens") (T := tb_To) (N := 6) hx hb hT in_To hown hK hP 1 rfl rfl 1 (by decide) (hT _ wd_197) (fun _ h9 => h9) rfl dc_Re_beginClause_4 ?_
  refine lv_if_ne (tgt := 19) hx hb dc_Re_beginClause_7 (by decide) (fun h9 => absurd (by decide) h9) (fun _ => ?_)
  refine lv_aload_n hx hb dc_Re_beginClause_10 rfl (lv_at hl 0 rfl) ?_
  refine lv_bipush (v := 12) hx hb dc_Re_beginClause_11 (by decide) ?_
  refine va_put (D := (dC, dI)) (ci := 8) (v := .int 12) (ty := .int) (C := "StrataBase$Reader") (T := tb_Re) (N := 19) hx hb hT in_Re ty_Re tk_Re nm_Re hown hK hP hD hS 0 rfl rfl 6 (by decide) (hT _ wd_230) (fun _ h9 => h9) rfl (by decide +kernel) rfl rfl (Nat.le_of_ble_eq_true rfl) dc_Re_beginClause_13 (fun H locs hP hD hS => ?_)
  have hP : va_P (dC, dI) vwCl [(a1, .inr (8, [.int 0, .int 0, .ref a2, .int 0, .ref a3, .int 0, .int 12, .ref a4, .ref a5, .int 0, .int 0, .int 0, .int 0, .int 0, .int 0, .ref a6, .ref a7, .ref a8, .ref a9])), (a3, .inr (11, [.ref a13, .int 0, .int 0, .int 0, .int 0, .int 0]))] H := hP
  have hD : va_D A [(a1, .inr (8, [.int 0, .int 0, .ref a2, .int 0, .ref a3, .int 0, .int 12, .ref a4, .ref a5, .int 0, .int 0, .int 0, .int 0, .int 0, .int 0, .ref a6, .ref a7, .ref a8, .ref a9])), (a3, .inr (11, [.ref a13, .int 0, .int 0, .int 0, .int 0, .int 0]))] := hD
  refine lv_goto (tgt := 93) hx hb dc_Re_beginClause_16 (by decide) ?_
  have hP9 := hP.sub (ws' := [(a1, .inr (8, [.int 0, .int 0, .ref a2, .int 0, .ref a3, .int 0, .int 12, .ref a4, .ref a5, .int 0, .int 0, .int 0, .int 0, .int 0, .int 0, .ref a6, .ref a7, .ref a8, .ref a9])), (a3, .inr (11, [.ref a13, .int 0, .int 0, .int 0, .int 0, .int 0]))]) [0, 1] rfl
  have hD9 := hD.sub (ws' := [(a1, .inr (8, [.int 0, .int 0, .ref a2, .int 0, .ref a3, .int 0, .int 12, .ref a4, .ref a5, .int 0, .int 0, .int 0, .int 0, .int 0, .int 0, .ref a6, .ref a7, .ref a8, .ref a9])), (a3, .inr (11, [.ref a13, .int 0, .int 0, .int 0, .int 0, .int 0]))]) [0, 1] (by decide) rfl
  have hK9 := hK.sub (tys' := []) [] rfl
  refine W.widen (k := 0) (n := 0) (Nat.le_of_ble_eq_true rfl) (Nat.le_of_ble_eq_true rfl) ?_
  exact W.vret hx hb hr (fun t ht hW => ⟨⟨(), rfl, trivial, by rw [ht]; exact hP9, va_K.moved hW.alike hK9, hD9⟩, hS.F ht⟩) hS.2.2 dc_Re_beginClause_93

set_option maxHeartbeats 4000000 in
set_option maxRecDepth 100000 in
theorem c_Re_read_1 (l : Launch) (dC : Nat → ClassId) (dI : Nat → Nat → Nat) (a1 : Nat) (a5 : Nat) (a6 : Nat) (a7 : Nat) (a8 : Nat) (a9 : Nat) (a10 : Nat) (a3 : Nat) (a4 : Nat) (a11 : Nat) (a12 : Nat) (a13 : Nat) (a14 : Nat) (a15 : Nat) (a16 : Nat) (a17 : Nat) (a18 : Nat) (a19 : Nat) (a20 : Nat) (a21 : Nat) (a22 : Nat) (a23 : Nat) (a24 : Nat) (a25 : Nat) (a26 : Nat) (a27 : Nat) (a28 : Nat) (a29 : Nat) (a30 : Nat) (a31 : Nat) (a32 : Nat) (a33 : Nat) (a34 : Nat) (a35 : Nat) (a36 : Nat) (a37 : Nat) (a38 : Nat) (a2 : Nat) (k2 : ClassId) (sz : Nat) : Met l my_Re_read (Cond.code my_Re_read cd_Re_read 7 none :: tblG) ({ frames := 4, cells := 0, slots := 0, locals := 80 }) (va_Pc [.ref a1, .int 0, .ref a2, .int 0, .ref a3, .ref a4] (fun U => U.heap.size = sz ∧ va_P (dC, dI) vwCl [(a1, .inr (8, [.int 0, .int 0, .ref a5, .int 0, .ref a6, .int 0, .int 0, .null, .null, .int 0, .int 0, .int 0, .int 0, .int 0, .int 0, .ref a7, .ref a8, .ref a9, .ref a10])), (a3, .inr (7, [.ref a4, .ref a11, .ref a12, .ref a13, .ref a14, .int 0, .ref a15])), (a4, .inr (1, [.int 0, .ref a16, .ref a17, .ref a18, .ref a19, .ref a20, .ref a21, .ref a22, .int 0])), (a5, .inr (6, [.int 0, .ref a23, .ref a24, .ref a25, .int 0])), (a6, .inr (11, [.null, .int 0, .int 0, .int 0, .int 0, .int 0])), (a8, .inr (6, [.int 0, .ref a26, .ref a27, .ref a28, .int 0])), (a11, .inr (6, [.int 0, .ref a29, .ref a30, .ref a31, .int 0])), (a12, .inl (k2, 64, .inl (fun _ => 0))), (a14, .inr (2, [.ref a32, .ref a33, .ref a34, .ref a35])), (a32, .inr (6, [.int 0, .ref a36, .ref a37, .ref a38, .int 0]))] U.heap ∧ va_K (dC, dI) vwCl [(k2, .int)] U ∧ va_D (fun _ => True) [(a1, .inr (8, [.int 0, .int 0, .ref a5, .int 0, .ref a6, .int 0, .int 0, .null, .null, .int 0, .int 0, .int 0, .int 0, .int 0, .int 0, .ref a7, .ref a8, .ref a9, .ref a10])), (a3, .inr (7, [.ref a4, .ref a11, .ref a12, .ref a13, .ref a14, .int 0, .ref a15])), (a4, .inr (1, [.int 0, .ref a16, .ref a17, .ref a18, .ref a19, .ref a20, .ref a21, .ref a22, .int 0])), (a5, .inr (6, [.int 0, .ref a23, .ref a24, .ref a25, .int 0])), (a6, .inr (11, [.null, .int 0, .int 0, .int 0, .int 0, .int 0])), (a8, .inr (6, [.int 0, .ref a26, .ref a27, .ref a28, .int 0])), (a11, .inr (6, [.int 0, .ref a29, .ref a30, .ref a31, .int 0])), (a12, .inl (k2, 64, .inl (fun _ => 0))), (a14, .inr (2, [.ref a32, .ref a33, .ref a34, .ref a35])), (a32, .inr (6, [.int 0, .ref a36, .ref a37, .ref a38, .int 0]))])) (va_Qv (fun _ : Unit => True) (fun (_ : Unit) (t : State) => ∃ (u3 : Nat → Int32), va_P (dC, dI) vwCl [(a8, .inr (6, [.int 0, .ref a26, .ref a27, .ref a28, .int 0])), (a5, .inr (6, [.int 0, .ref a23, .ref a24, .ref a25, .int 0])), (a3, .inr (7, [.ref a4, .ref a11, .ref a12, .ref a13, .ref a14, .int 0, .ref a15])), (a4, .inr (1, [.int 0, .ref a16, .ref a17, .ref a18, .ref a19, .ref a20, .ref a21, .ref a22, .int 0])), (a11, .inr (6, [.int 0, .ref a29, .ref a30, .ref a31, .int 0])), (a14, .inr (2, [.ref a32, .ref a33, .ref a34, .ref a35])), (a32, .inr (6, [.int 0, .ref a36, .ref a37, .ref a38, .int 0])), (a12, .inl (k2, 64, .inl u3)), (a1, .inr (8, [.int 0, .int 0, .ref a5, .int 0, .ref a6, .int 0, .int 12, .ref a3, .ref a4, .int 0, .int 0, .int 0, .int 0, .int 0, .int 0, .ref a7, .ref a8, .ref a9, .ref a10])), (a6, .inr (11, [.ref a2, .int 0, .int 0, .int 0, .int 0, .int 0]))] t.heap ∧ va_K (dC, dI) vwCl [(k2, .int)] t ∧ va_D (va_A [(a1, .inr (8, [.int 0, .int 0, .ref a5, .int 0, .ref a6, .int 0, .int 0, .null, .null, .int 0, .int 0, .int 0, .int 0, .int 0, .int 0, .ref a7, .ref a8, .ref a9, .ref a10])), (a3, .inr (7, [.ref a4, .ref a11, .ref a12, .ref a13, .ref a14, .int 0, .ref a15])), (a4, .inr (1, [.int 0, .ref a16, .ref a17, .ref a18, .ref a19, .ref a20, .ref a21, .ref a22, .int 0])), (a5, .inr (6, [.int 0, .ref a23, .ref a24, .ref a25, .int 0])), (a6, .inr (11, [.null, .int 0, .int 0, .int 0, .int 0, .int 0])), (a8, .inr (6, [.int 0, .ref a26, .ref a27, .ref a28, .int 0])), (a11, .inr (6, [.int 0, .ref a29, .ref a30, .ref a31, .int 0])), (a12, .inl (k2, 64, .inl (fun _ => 0))), (a14, .inr (2, [.ref a32, .ref a33, .ref a34, .ref a35])), (a32, .inr (6, [.int 0, .ref a36, .ref a37, .ref a38, .int 0]))] sz) [(a8, .inr (6, [.int 0, .ref a26, .ref a27, .ref a28, .int 0])), (a5, .inr (6, [.int 0, .ref a23, .ref a24, .ref a25, .int 0])), (a3, .inr (7, [.ref a4, .ref a11, .ref a12, .ref a13, .ref a14, .int 0, .ref a15])), (a4, .inr (1, [.int 0, .ref a16, .ref a17, .ref a18, .ref a19, .ref a20, .ref a21, .ref a22, .int 0])), (a11, .inr (6, [.int 0, .ref a29, .ref a30, .ref a31, .int 0])), (a14, .inr (2, [.ref a32, .ref a33, .ref a34, .ref a35])), (a32, .inr (6, [.int 0, .ref a36, .ref a37, .ref a38, .int 0])), (a12, .inl (k2, 64, .inl u3)), (a1, .inr (8, [.int 0, .int 0, .ref a5, .int 0, .ref a6, .int 0, .int 12, .ref a3, .ref a4, .int 0, .int 0, .int 0, .int 0, .int 0, .int 0, .ref a7, .ref a8, .ref a9, .ref a10])), (a6, .inr (11, [.ref a2, .int 0, .int 0, .int 0, .int 0, .int 0]))]) (va_A [(a1, .inr (8, [.int 0, .int 0, .ref a5, .int 0, .ref a6, .int 0, .int 0, .null, .null, .int 0, .int 0, .int 0, .int 0, .int 0, .int 0, .ref a7, .ref a8, .ref a9, .ref a10])), (a3, .inr (7, [.ref a4, .ref a11, .ref a12, .ref a13, .ref a14, .int 0, .ref a15])), (a4, .inr (1, [.int 0, .ref a16, .ref a17, .ref a18, .ref a19, .ref a20, .ref a21, .ref a22, .int 0])), (a5, .inr (6, [.int 0, .ref a23, .ref a24, .ref a25, .int 0])), (a6, .inr (11, [.null, .int 0, .int 0, .int 0, .int 0, .int 0])), (a8, .inr (6, [.int 0, .ref a26, .ref a27, .ref a28, .int 0])), (a11, .inr (6, [.int 0, .ref a29, .ref a30, .ref a31, .int 0])), (a12, .inl (k2, 64, .inl (fun _ => 0))), (a14, .inr (2, [.ref a32, .ref a33, .ref a34, .ref a35])), (a32, .inr (6, [.int 0, .ref a36, .ref a37, .ref a38, .int 0]))] sz)) 0 0 (va_A [(a1, .inr (8, [.int 0, .int 0, .ref a5, .int 0, .ref a6, .int 0, .int 0, .null, .null, .int 0, .int 0, .int 0, .int 0, .int 0, .int 0, .ref a7, .ref a8, .ref a9, .ref a10])), (a3, .inr (7, [.ref a4, .ref a11, .ref a12, .ref a13, .ref a14, .int 0, .ref a15])), (a4, .inr (1, [.int 0, .ref a16, .ref a17, .ref a18, .ref a19, .ref a20, .ref a21, .ref a22, .int 0])), (a5, .inr (6, [.int 0, .ref a23, .ref a24, .ref a25, .int 0])), (a6, .inr (11, [.null, .int 0, .int 0, .int 0, .int 0, .int 0])), (a8, .inr (6, [.int 0, .ref a26, .ref a27, .ref a28, .int 0])), (a11, .inr (6, [.int 0, .ref a29, .ref a30, .ref a31, .int 0])), (a12, .inl (k2, 64, .inl (fun _ => 0))), (a14, .inr (2, [.ref a32, .ref a33, .ref a34, .ref a35])), (a32, .inr (6, [.int 0, .ref a36, .ref a37, .ref a38, .int 0]))] sz) := by
  refine Met.ofW (cc := cd_Re_read) (maxL := 7) (ret := none) (by decide) rfl ?_
  intro p e s m args below meth c s₁ B hml hv
  obtain ⟨rfl, hsz, hP, hK, hD0⟩ := hv
  have hx := B.exec
  have hb := B.bytes
  have hr := B.returns
  have hT : ∀ w ∈ tblG, w.before _ s = true := fun w h => atoms_spec (ws := (Cond.code my_Re_read cd_Re_read 7 none :: tblG)) B.pre w (List.mem_cons_of_mem _ h)
  have hown : s.vm.findClass "StrataBase$Reader" = some m.cls := findClass_of_methodNamed B.named
  have hlocks := B.notSynchronized
  subst hsz
  have hD := hD0.self (sz := s.heap.size)
  generalize hAe : va_A [(a1, .inr (8, [.int 0, .int 0, .ref a5, .int 0, .ref a6, .int 0, .int 0, .null, .null, .int 0, .int 0, .int 0, .int 0, .int 0, .int 0, .ref a7, .ref a8, .ref a9, .ref a10])), (a3, .inr (7, [.ref a4, .ref a11, .ref a12, .ref a13, .ref a14, .int 0, .ref a15])), (a4, .inr (1, [.int 0, .ref a16, .ref a17, .ref a18, .ref a19, .ref a20, .ref a21, .ref a22, .int 0])), (a5, .inr (6, [.int 0, .ref a23, .ref a24, .ref a25, .int 0])), (a6, .inr (11, [.null, .int 0, .int 0, .int 0, .int 0, .int 0])), (a8, .inr (6, [.int 0, .ref a26, .ref a27, .ref a28, .int 0])), (a11, .inr (6, [.int 0, .ref a29, .ref a30, .ref a31, .int 0])), (a12, .inl (k2, 64, .inl (fun _ => 0))), (a14, .inr (2, [.ref a32, .ref a33, .ref a34, .ref a35])), (a32, .inr (6, [.int 0, .ref a36, .ref a37, .ref a38, .int 0]))] s.heap.size = A at hD ⊢
  have hA : ∀ q : Nat, s.heap.size ≤ q → A q := fun q h => by rw [← hAe]; exact Or.inr h
  have hS : va_S A s.heap s.heap [] := va_S.rf
  have hl := lv_entry ([.ref a1, .int 0, .ref a2, .int 0, .ref a3, .ref a4]) (n := 7) (Nat.le_of_ble_eq_true rfl)
  rw [lg_entry_eq]
  generalize (lg_sl ([.ref a1, .int 0, .ref a2, .int 0, .ref a3, .ref a4]) ++ List.replicate (7 - (lg_sl ([.ref a1, .int 0, .ref a2, .int 0, .ref a3, .ref a4])).length) Slot.unset).toArray = ls at hl ⊢
  have hl : lv_has ls 7 [(0, .ref a1), (1, .int 0), (2, .ref a2), (3, .int 0), (4, .ref a3), (5, .ref a4)] := hl
  refine lv_aload_n hx hb dc_Re_read_0 rfl (lv_at hl 0 rfl) ?_
  refine lv_iload_n hx hb dc_Re_read_1 rfl (lv_at hl 1 rfl) ?_
  refine va_put (D := (dC, dI)) (ci := 8) (v := .int 0) (ty := .int) (C := "StrataBase$Reader") (T := tb_Re) (N := 19) hx hb hT in_Re ty_Re tk_Re nm_Re hown hK hP hD hS 0 rfl rfl 5 (by decide) (hT _ wd_229) (fun _ h9 => h9) rfl (by decide +kernel) rfl rfl (Nat.le_of_ble_eq_true rfl) dc_Re_read_2 (fun H locs hP hD hS => ?_)
  have hP : va_P (dC, dI) vwCl [(a1, .inr (8, [.int 0, .int 0, .ref a5, .int 0, .ref a6, .int 0, .int 0, .null, .null, .int 0, .int 0, .int 0, .int 0, .int 0, .int 0, .ref a7, .ref a8, .ref a9, .ref a10])), (a3, .inr (7, [.ref a4, .ref a11, .ref a12, .ref a13, .ref a14, .int 0, .ref a15])), (a4, .inr (1, [.int 0, .ref a16, .ref a17, .ref a18, .ref a19, .ref a20, .ref a21, .ref a22, .int 0])), (a5, .inr (6, [.int 0, .ref a23, .ref a24, .ref a25, .int 0])), (a6, .inr (11, [.null, .int 0, .int 0, .int 0, .int 0, .int 0])), (a8, .inr (6, [.int 0, .ref a26, .ref a27, .ref a28, .int 0])), (a11, .inr (6, [.int 0, .ref a29, .ref a30, .ref a31, .int 0])), (a12, .inl (k2, 64, .inl (fun _ => 0))), (a14, .inr (2, [.ref a32, .ref a33, .ref a34, .ref a35])), (a32, .inr (6, [.int 0, .ref a36, .ref a37, .ref a38, .int 0]))] H := hP
  have hD : va_D A [(a1, .inr (8, [.int 0, .int 0, .ref a5, .int 0, .ref a6, .int 0, .int 0, .null, .null, .int 0, .int 0, .int 0, .int 0, .int 0, .int 0, .ref a7, .ref a8, .ref a9, .ref a10])), (a3, .inr (7, [.ref a4, .ref a11, .ref a12, .ref a13, .ref a14, .int 0, .ref a15])), (a4, .inr (1, [.int 0, .ref a16, .ref a17, .ref a18, .ref a19, .ref a20, .ref a21, .ref a22, .int 0])), (a5, .inr (6, [.int 0, .ref a23, .ref a24, .ref a25, .int 0])), (a6, .inr (11, [.null, .int 0, .int 0, .int 0, .int 0, .int 0])), (a8, .inr (6, [.int 0, .ref a26, .ref a27, .ref a28, .int 0])), (a11, .inr (6, [.int 0, .ref a29, .ref a30, .ref a31, .int 0])), (a12, .inl (k2, 64, .inl (fun _ => 0))), (a14, .inr (2, [.ref a32, .ref a33, .ref a34, .ref a35])), (a32, .inr (6, [.int 0, .ref a36, .ref a37, .ref a38, .int 0]))] := hD
  refine lv_aload_n hx hb dc_Re_read_5 rfl (lv_at hl 0 rfl) ?_
  refine lv_aload hx hb dc_Re_read_6 (lv_at hl 4 rfl) ?_
  refine va_put (D := (dC, dI)) (ci := 8) (v := .ref a3) (ty := .object "StrataBase$Program") (C := "StrataBase$Reader") (T := tb_Re) (N := 19) hx hb hT in_Re ty_Re tk_Re nm_Re hown hK hP hD hS 0 rfl rfl 7 (by decide) (hT _ wd_231) (fun _ h9 => h9) rfl (by decide +kernel) rfl rfl (Nat.le_of_ble_eq_true rfl) dc_Re_read_8 (fun H locs hP hD hS => ?_)
  have hP : va_P (dC, dI) vwCl [(a1, .inr (8, [.int 0, .int 0, .ref a5, .int 0, .ref a6, .int 0, .int 0, .ref a3, .null, .int 0, .int 0, .int 0, .int 0, .int 0, .int 0, .ref a7, .ref a8, .ref a9, .ref a10])), (a3, .inr (7, [.ref a4, .ref a11, .ref a12, .ref a13, .ref a14, .int 0, .ref a15])), (a4, .inr (1, [.int 0, .ref a16, .ref a17, .ref a18, .ref a19, .ref a20, .ref a21, .ref a22, .int 0])), (a5, .inr (6, [.int 0, .ref a23, .ref a24, .ref a25, .int 0])), (a6, .inr (11, [.null, .int 0, .int 0, .int 0, .int 0, .int 0])), (a8, .inr (6, [.int 0, .ref a26, .ref a27, .ref a28, .int 0])), (a11, .inr (6, [.int 0, .ref a29, .ref a30, .ref a31, .int 0])), (a12, .inl (k2, 64, .inl (fun _ => 0))), (a14, .inr (2, [.ref a32, .ref a33, .ref a34, .ref a35])), (a32, .inr (6, [.int 0, .ref a36, .ref a37, .ref a38, .int 0]))] H := hP
  have hD : va_D A [(a1, .inr (8, [.int 0, .int 0, .ref a5, .int 0, .ref a6, .int 0, .int 0, .ref a3, .null, .int 0, .int 0, .int 0, .int 0, .int 0, .int 0, .ref a7, .ref a8, .ref a9, .ref a10])), (a3, .inr (7, [.ref a4, .ref a11, .ref a12, .ref a13, .ref a14, .int 0, .ref a15])), (a4, .inr (1, [.int 0, .ref a16, .ref a17, .ref a18, .ref a19, .ref a20, .ref a21, .ref a22, .int 0])), (a5, .inr (6, [.int 0, .ref a23, .ref a24, .ref a25, .int 0])), (a6, .inr (11, [.null, .int 0, .int 0, .int 0, .int 0, .int 0])), (a8, .inr (6, [.int 0, .ref a26, .ref a27, .ref a28, .int 0])), (a11, .inr (6, [.int 0, .ref a29, .ref a30, .ref a31, .int 0])), (a12, .inl (k2, 64, .inl (fun _ => 0))), (a14, .inr (2, [.ref a32, .ref a33, .ref a34, .ref a35])), (a32, .inr (6, [.int 0, .ref a36, .ref a37, .ref a38, .int 0]))] := hD
  refine lv_aload_n hx hb dc_Re_read_11 rfl (lv_at hl 0 rfl) ?_
  refine lv_aload hx hb dc_Re_read_12 (lv_at hl 5 rfl) ?_
  refine va_put (D := (dC, dI)) (ci := 8) (v := .ref a4) (ty := .object "StrataBase$Clauses") (C := "StrataBase$Reader") (T := tb_Re) (N := 19) hx hb hT in_Re ty_Re tk_Re nm_Re hown hK hP hD hS 0 rfl rfl 8 (by decide) (hT _ wd_232) (fun _ h9 => h9) rfl (by decide +kernel) rfl rfl (Nat.le_of_ble_eq_true rfl) dc_Re_read_14 (fun H locs hP hD hS => ?_)
  have hP : va_P (dC, dI) vwCl [(a1, .inr (8, [.int 0, .int 0, .ref a5, .int 0, .ref a6, .int 0, .int 0, .ref a3, .ref a4, .int 0, .int 0, .int 0, .int 0, .int 0, .int 0, .ref a7, .ref a8, .ref a9, .ref a10])), (a3, .inr (7, [.ref a4, .ref a11, .ref a12, .ref a13, .ref a14, .int 0, .ref a15])), (a4, .inr (1, [.int 0, .ref a16, .ref a17, .ref a18, .ref a19, .ref a20, .ref a21, .ref a22, .int 0])), (a5, .inr (6, [.int 0, .ref a23, .ref a24, .ref a25, .int 0])), (a6, .inr (11, [.null, .int 0, .int 0, .int 0, .int 0, .int 0])), (a8, .inr (6, [.int 0, .ref a26, .ref a27, .ref a28, .int 0])), (a11, .inr (6, [.int 0, .ref a29, .ref a30, .ref a31, .int 0])), (a12, .inl (k2, 64, .inl (fun _ => 0))), (a14, .inr (2, [.ref a32, .ref a33, .ref a34, .ref a35])), (a32, .inr (6, [.int 0, .ref a36, .ref a37, .ref a38, .int 0]))] H := hP
  have hD : va_D A [(a1, .inr (8, [.int 0, .int 0, .ref a5, .int 0, .ref a6, .int 0, .int 0, .ref a3, .ref a4, .int 0, .int 0, .int 0, .int 0, .int 0, .int 0, .ref a7, .ref a8, .ref a9, .ref a10])), (a3, .inr (7, [.ref a4, .ref a11, .ref a12, .ref a13, .ref a14, .int 0, .ref a15])), (a4, .inr (1, [.int 0, .ref a16, .ref a17, .ref a18, .ref a19, .ref a20, .ref a21, .ref a22, .int 0])), (a5, .inr (6, [.int 0, .ref a23, .ref a24, .ref a25, .int 0])), (a6, .inr (11, [.null, .int 0, .int 0, .int 0, .int 0, .int 0])), (a8, .inr (6, [.int 0, .ref a26, .ref a27, .ref a28, .int 0])), (a11, .inr (6, [.int 0, .ref a29, .ref a30, .ref a31, .int 0])), (a12, .inl (k2, 64, .inl (fun _ => 0))), (a14, .inr (2, [.ref a32, .ref a33, .ref a34, .ref a35])), (a32, .inr (6, [.int 0, .ref a36, .ref a37, .ref a38, .int 0]))] := hD
  refine lv_aload_n hx hb dc_Re_read_17 rfl (lv_at hl 0 rfl) ?_
  refine va_get (D := (dC, dI)) (ci := 8) (v := .ref a6) (C := "StrataBase$Reader") (T := tb_Re) (N := 19) hx hb hT in_Re hown hK hP 0 rfl rfl 4 (by decide) (hT _ wd_228) (fun _ h9 => h9) rfl dc_Re_read_18 ?_
  refine lv_aload_n hx hb dc_Re_read_21 rfl (lv_at hl 2 rfl) ?_
  refine lv_iload_n hx hb dc_Re_read_22 rfl (lv_at hl 3 rfl) ?_
  have hPc := hP.sub (ws' := [(a6, .inr (11, [.null, .int 0, .int 0, .int 0, .int 0, .int 0]))]) [4] rfl
  have hDc := hD.sub (ws' := [(a6, .inr (11, [.null, .int 0, .int 0, .int 0, .int 0, .int 0]))]) [4] (by decide) rfl
  have hKc := hK.sub (tys' := []) [] rfl
  have hFc := va_free (wc := [(a6, .inr (11, [.null, .int 0, .int 0, .int 0, .int 0, .int 0]))]) hD hS hA [4] rfl
  refine va_callv (va_runV (As := [.ref a2, .int 0]) (rest := []) ⟨hx, hb, hml, hown, hT⟩ (c_To_open_1 l dC dI a6 a2 H.size) (cwV 2 hT (gd_V wd_565 wd_566 wd_567 wd_7 wd_568) rfl rfl rfl (by decide +kernel) ⟨Nat.le_of_ble_eq_true rfl, Nat.le_of_ble_eq_true rfl⟩) ⟨fun a U g mk q => by obtain ⟨q0, q1, qP, qK, qD⟩ := q; exact ⟨q0, q1, qP, va_K.moved (u := U) (U := U.calling g mk a) (Vm.Alike.refl U.vm) qK, qD⟩, va_recv hK hP (q0 := 4) (ci := 11) rfl rfl, fun U hU hW => ⟨rfl, by rw [hU], by rw [hU]; exact hPc, va_K.moved hW.alike hKc, hDc.weaken (fun _ _ _ _ => trivial)⟩⟩ rfl rfl hl.1 rfl (lv_room (Nat.le_of_ble_eq_true rfl)) dc_Re_read_23 ⟨(Nat.le_of_ble_eq_true rfl), (Nat.le_of_ble_eq_true rfl)⟩) hS (fun q _ h => hFc q h) hFc (fun _ t H1 locs ht hvm hr9 hB hz1 hk1 hS => ?_)
  obtain ⟨hP1, hK1, hD1⟩ := hB
  rw [ht] at hP1
  have hK1 := va_K.moved hvm.symm hK1
  obtain ⟨hP, hD⟩ := va_join (wr := [(a1, .inr (8, [.int 0, .int 0, .ref a5, .int 0, .ref a6, .int 0, .int 0, .ref a3, .ref a4, .int 0, .int 0, .int 0, .int 0, .int 0, .int 0, .ref a7, .ref a8, .ref a9, .ref a10])), (a3, .inr (7, [.ref a4, .ref a11, .ref a12, .ref a13, .ref a14, .int 0, .ref a15])), (a4, .inr (1, [.int 0, .ref a16, .ref a17, .ref a18, .ref a19, .ref a20, .ref a21, .ref a22, .int 0])), (a5, .inr (6, [.int 0, .ref a23, .ref a24, .ref a25, .int 0])), (a8, .inr (6, [.int 0, .ref a26, .ref a27, .ref a28, .int 0])), (a11, .inr (6, [.int 0, .ref a29, .ref a30, .ref a31, .int 0])), (a12, .inl (k2, 64, .inl (fun _ => 0))), (a14, .inr (2, [.ref a32, .ref a33, .ref a34, .ref a35])), (a32, .inr (6, [.int 0, .ref a36, .ref a37, .ref a38, .int 0]))]) (w1 := [(a6, .inr (11, [.ref a2, .int 0, .int 0, .int 0, .int 0, .int 0]))]) hP hD [4] [0, 1, 2, 3, 5, 6, 7, 8, 9] rfl rfl (by decide) (by decide) hk1 hFc hP1 hD1
  have hK := (hK.sub (tys' := [(k2, .int)]) [0] rfl).app hK1
  generalize H1 = H at hP hS ⊢
  have hP : va_P (dC, dI) vwCl [(a1, .inr (8, [.int 0, .int 0, .ref a5, .int 0, .ref a6, .int 0, .int 0, .ref a3, .ref a4, .int 0, .int 0, .int 0, .int 0, .int 0, .int 0, .ref a7, .ref a8, .ref a9, .ref a10])), (a3, .inr (7, [.ref a4, .ref a11, .ref a12, .ref a13, .ref a14, .int 0, .ref a15])), (a4, .inr (1, [.int 0, .ref a16, .ref a17, .ref a18, .ref a19, .ref a20, .ref a21, .ref a22, .int 0])), (a5, .inr (6, [.int 0, .ref a23, .ref a24, .ref a25, .int 0])), (a8, .inr (6, [.int 0, .ref a26, .ref a27, .ref a28, .int 0])), (a11, .inr (6, [.int 0, .ref a29, .ref a30, .ref a31, .int 0])), (a12, .inl (k2, 64, .inl (fun _ => 0))), (a14, .inr (2, [.ref a32, .ref a33, .ref a34, .ref a35])), (a32, .inr (6, [.int 0, .ref a36, .ref a37, .ref a38, .int 0])), (a6, .inr (11, [.ref a2, .int 0, .int 0, .int 0, .int 0, .int 0]))] H := hP
  have hD : va_D A [(a1, .inr (8, [.int 0, .int 0, .ref a5, .int 0, .ref a6, .int 0, .int 0, .ref a3, .ref a4, .int 0, .int 0, .int 0, .int 0, .int 0, .int 0, .ref a7, .ref a8, .ref a9, .ref a10])), (a3, .inr (7, [.ref a4, .ref a11, .ref a12, .ref a13, .ref a14, .int 0, .ref a15])), (a4, .inr (1, [.int 0, .ref a16, .ref a17, .ref a18, .ref a19, .ref a20, .ref a21, .ref a22, .int 0])), (a5, .inr (6, [.int 0, .ref a23, .ref a24, .ref a25, .int 0])), (a8, .inr (6, [.int 0, .ref a26, .ref a27, .ref a28, .int 0])), (a11, .inr (6, [.int 0, .ref a29, .ref a30, .ref a31, .int 0])), (a12, .inl (k2, 64, .inl (fun _ => 0))), (a14, .inr (2, [.ref a32, .ref a33, .ref a34, .ref a35])), (a32, .inr (6, [.int 0, .ref a36, .ref a37, .ref a38, .int 0])), (a6, .inr (11, [.ref a2, .int 0, .int 0, .int 0, .int 0, .int 0]))] := hD
  have hK : va_K (dC, dI) vwCl [(k2, .int)] s := hK
  refine lv_aload_n hx hb dc_Re_read_26 rfl (lv_at hl 0 rfl) ?_
  have hPc := hP.sub (ws' := [(a1, .inr (8, [.int 0, .int 0, .ref a5, .int 0, .ref a6, .int 0, .int 0, .ref a3, .ref a4, .int 0, .int 0, .int 0, .int 0, .int 0, .int 0, .ref a7, .ref a8, .ref a9, .ref a10])), (a5, .inr (6, [.int 0, .ref a23, .ref a24, .ref a25, .int 0])), (a3, .inr (7, [.ref a4, .ref a11, .ref a12, .ref a13, .ref a14, .int 0, .ref a15])), (a4, .inr (1, [.int 0, .ref a16, .ref a17, .ref a18, .ref a19, .ref a20, .ref a21, .ref a22, .int 0])), (a8, .inr (6, [.int 0, .ref a26, .ref a27, .ref a28, .int 0])), (a11, .inr (6, [.int 0, .ref a29, .ref a30, .ref a31, .int 0])), (a12, .inl (k2, 64, .inl (fun _ => 0))), (a14, .inr (2, [.ref a32, .ref a33, .ref a34, .ref a35])), (a32, .inr (6, [.int 0, .ref a36, .ref a37, .ref a38, .int 0]))]) [0, 3, 1, 2, 4, 5, 6, 7, 8] rfl
  have hDc := hD.sub (ws' := [(a1, .inr (8, [.int 0, .int 0, .ref a5, .int 0, .ref a6, .int 0, .int 0, .ref a3, .ref a4, .int 0, .int 0, .int 0, .int 0, .int 0, .int 0, .ref a7, .ref a8, .ref a9, .ref a10])), (a5, .inr (6, [.int 0, .ref a23, .ref a24, .ref a25, .int 0])), (a3, .inr (7, [.ref a4, .ref a11, .ref a12, .ref a13, .ref a14, .int 0, .ref a15])), (a4, .inr (1, [.int 0, .ref a16, .ref a17, .ref a18, .ref a19, .ref a20, .ref a21, .ref a22, .int 0])), (a8, .inr (6, [.int 0, .ref a26, .ref a27, .ref a28, .int 0])), (a11, .inr (6, [.int 0, .ref a29, .ref a30, .ref a31, .int 0])), (a12, .inl (k2, 64, .inl (fun _ => 0))), (a14, .inr (2, [.ref a32, .ref a33, .ref a34, .ref a35])), (a32, .inr (6, [.int 0, .ref a36, .ref a37, .ref a38, .int 0]))]) [0, 3, 1, 2, 4, 5, 6, 7, 8] (by decide) rfl
  have hKc := hK.sub (tys' := [(k2, .int)]) [0] rfl
  have hFc := va_free (wc := [(a1, .inr (8, [.int 0, .int 0, .ref a5, .int 0, .ref a6, .int 0, .int 0, .ref a3, .ref a4, .int 0, .int 0, .int 0, .int 0, .int 0, .int 0, .ref a7, .ref a8, .ref a9, .ref a10])), (a5, .inr (6, [.int 0, .ref a23, .ref a24, .ref a25, .int 0])), (a3, .inr (7, [.ref a4, .ref a11, .ref a12, .ref a13, .ref a14, .int 0, .ref a15])), (a4, .inr (1, [.int 0, .ref a16, .ref a17, .ref a18, .ref a19, .ref a20, .ref a21, .ref a22, .int 0])), (a8, .inr (6, [.int 0, .ref a26, .ref a27, .ref a28, .int 0])), (a11, .inr (6, [.int 0, .ref a29, .ref a30, .ref a31, .int 0])), (a12, .inl (k2, 64, .inl (fun _ => 0))), (a14, .inr (2, [.ref a32, .ref a33, .ref a34, .ref a35])), (a32, .inr (6, [.int 0, .ref a36, .ref a37, .ref a38, .int 0]))]) hD hS hA [0, 3, 1, 2, 4, 5, 6, 7, 8] rfl
  refine va_callv (va_runV (As := []) (rest := []) ⟨hx, hb, hml, hown, hT⟩ (c_Re_begin_1 l dC dI a1 a5 a6 a3 a4 a7 a8 a9 a10 a23 a24 a25 a11 a12 a13 a14 a15 a16 a17 a18 a19 a20 a21 a22 a26 a27 a28 a29 a30 a31 a32 a33 a34 a35 a36 a37 a38 k2 H.size) (cwV 0 hT (gd_V wd_569 wd_571 sl_Re_begin wd_6 wd_572) rfl rfl rfl (by decide +kernel) ⟨Nat.le_of_ble_eq_true rfl, Nat.le_of_ble_eq_true rfl⟩) ⟨fun a U g mk q => by obtain ⟨q0, q1, qP, qK, qD⟩ := q; exact ⟨q0, q1, qP, va_K.moved (u := U) (U := U.calling g mk a) (Vm.Alike.refl U.vm) qK, qD⟩, va_recv hK hP (q0 := 0) (ci := 8) rfl rfl, fun U hU hW => ⟨rfl, by rw [hU], by rw [hU]; exact hPc, va_K.moved hW.alike hKc, hDc.weaken (fun _ _ _ _ => trivial)⟩⟩ rfl rfl hl.1 rfl (lv_room (Nat.le_of_ble_eq_true rfl)) dc_Re_read_27 ⟨(Nat.le_of_ble_eq_true rfl), (Nat.le_of_ble_eq_true rfl)⟩) hS (fun q _ h => hFc q h) hFc (fun _ t H1 locs ht hvm hr9 hB hz1 hk1 hS => ?_)
  obtain ⟨u3, hP1, hK1, hD1⟩ := hB
  rw [ht] at hP1
  have hK1 := va_K.moved hvm.symm hK1
  obtain ⟨hP, hD⟩ := va_join (wr := [(a6, .inr (11, [.ref a2, .int 0, .int 0, .int 0, .int 0, .int 0]))]) (w1 := [(a8, .inr (6, [.int 0, .ref a26, .ref a27, .ref a28, .int 0])), (a1, .inr (8, [.int 0, .int 0, .ref a5, .int 0, .ref a6, .int 0, .int 0, .ref a3, .ref a4, .int 0, .int 0, .int 0, .int 0, .int 0, .int 0, .ref a7, .ref a8, .ref a9, .ref a10])), (a5, .inr (6, [.int 0, .ref a23, .ref a24, .ref a25, .int 0])), (a3, .inr (7, [.ref a4, .ref a11, .ref a12, .ref a13, .ref a14, .int 0, .ref a15])), (a4, .inr (1, [.int 0, .ref a16, .ref a17, .ref a18, .ref a19, .ref a20, .ref a21, .ref a22, .int 0])), (a11, .inr (6, [.int 0, .ref a29, .ref a30, .ref a31, .int 0])), (a14, .inr (2, [.ref a32, .ref a33, .ref a34, .ref a35])), (a32, .inr (6, [.int 0, .ref a36, .ref a37, .ref a38, .int 0])), (a12, .inl (k2, 64, .inl u3))]) hP hD [0, 3, 1, 2, 4, 5, 6, 7, 8] [9] rfl rfl (by decide) (by decide) hk1 hFc hP1 hD1
  have hK := (hK.sub (tys' := []) [] rfl).app hK1
  generalize H1 = H at hP hS ⊢
  have hP : va_P (dC, dI) vwCl [(a6, .inr (11, [.ref a2, .int 0, .int 0, .int 0, .int 0, .int 0])), (a8, .inr (6, [.int 0, .ref a26, .ref a27, .ref a28, .int 0])), (a1, .inr (8, [.int 0, .int 0, .ref a5, .int 0, .ref a6, .int 0, .int 0, .ref a3, .ref a4, .int 0, .int 0, .int 0, .int 0, .int 0, .int 0, .ref a7, .ref a8, .ref a9, .ref a10])), (a5, .inr (6, [.int 0, .ref a23, .ref a24, .ref a25, .int 0])), (a3, .inr (7, [.ref a4, .ref a11, .ref a12, .ref a13, .ref a14, .int 0, .ref a15])), (a4, .inr (1, [.int 0, .ref a16, .ref a17, .ref a18, .ref a19, .ref a20, .ref a21, .ref a22, .int 0])), (a11, .inr (6, [.int 0, .ref a29, .ref a30, .ref a31, .int 0])), (a14, .inr (2, [.ref a32, .ref a33, .ref a34, .ref a35])), (a32, .inr (6, [.int 0, .ref a36, .ref a37, .ref a38, .int 0])), (a12, .inl (k2, 64, .inl u3))] H := hP
  have hD : va_D A [(a6, .inr (11, [.ref a2, .int 0, .int 0, .int 0, .int 0, .int 0])), (a8, .inr (6, [.int 0, .ref a26, .ref a27, .ref a28, .int 0])), (a1, .inr (8, [.int 0, .int 0, .ref a5, .int 0, .ref a6, .int 0, .int 0, .ref a3, .ref a4, .int 0, .int 0, .int 0, .int 0, .int 0, .int 0, .ref a7, .ref a8, .ref a9, .ref a10])), (a5, .inr (6, [.int 0, .ref a23, .ref a24, .ref a25, .int 0])), (a3, .inr (7, [.ref a4, .ref a11, .ref a12, .ref a13, .ref a14, .int 0, .ref a15])), (a4, .inr (1, [.int 0, .ref a16, .ref a17, .ref a18, .ref a19, .ref a20, .ref a21, .ref a22, .int 0])), (a11, .inr (6, [.int 0, .ref a29, .ref a30, .ref a31, .int 0])), (a14, .inr (2, [.ref a32, .ref a33, .ref a34, .ref a35])), (a32, .inr (6, [.int 0, .ref a36, .ref a37, .ref a38, .int 0])), (a12, .inl (k2, 64, .inl u3))] := hD
  have hK : va_K (dC, dI) vwCl [(k2, .int)] s := hK
  refine lv_iconst (v := 0) hx hb dc_Re_read_30 (by decide) ?_
  refine lv_istore (lv' := [(6, .int 0), (0, .ref a1), (1, .int 0), (2, .ref a2), (3, .int 0), (4, .ref a3), (5, .ref a4)]) hx hb dc_Re_read_31 hl (by decide) rfl (fun ls hl => ?_)
  refine lv_iload hx hb dc_Re_read_33 (lv_at hl 0 rfl) ?_
  refine lv_iload_n hx hb dc_Re_read_35 rfl (lv_at hl 4 rfl) ?_
  refine lv_icmp_gt (tgt := 208) hx hb dc_Re_read_36 (by decide) (fun h9 => absurd h9 (by decide)) (fun _ => ?_)
  refine lv_aload_n hx hb dc_Re_read_39 rfl (lv_at hl 1 rfl) ?_
  refine va_get (D := (dC, dI)) (ci := 8) (v := .int 0) (C := "StrataBase$Reader") (T := tb_Re) (N := 19) hx hb hT in_Re hown hK hP 2 rfl rfl 6 (by decide) (hT _ wd_230) (fun _ h9 => h9) rfl dc_Re_read_40 ?_
  refine lv_bipush (v := 12) hx hb dc_Re_read_43 (by decide) ?_
  refine lv_icmp_eq (tgt := 208) hx hb dc_Re_read_45 (by decide) (fun h9 => absurd h9 (by decide)) (fun _ => ?_)
  refine lv_aload_n hx hb dc_Re_read_48 rfl (lv_at hl 1 rfl) ?_
  refine va_get (D := (dC, dI)) (ci := 8) (v := .ref a6) (C := "StrataBase$Reader") (T := tb_Re) (N := 19) hx hb hT in_Re hown hK hP 2 rfl rfl 4 (by decide) (hT _ wd_228) (fun _ h9 => h9) rfl dc_Re_read_49 ?_
  have hPc := hP.sub (ws' := [(a6, .inr (11, [.ref a2, .int 0, .int 0, .int 0, .int 0, .int 0]))]) [0] rfl
  have hDc := hD.sub (ws' := [(a6, .inr (11, [.ref a2, .int 0, .int 0, .int 0, .int 0, .int 0]))]) [0] (by decide) rfl
  have hKc := hK.sub (tys' := []) [] rfl
  have hFc := va_free (wc := [(a6, .inr (11, [.ref a2, .int 0, .int 0, .int 0, .int 0, .int 0]))]) hD hS hA [0] rfl
  refine va_callv (va_runV (As := []) (rest := []) ⟨hx, hb, hml, hown, hT⟩ (c_To_next_1 l dC dI a6 a2 H.size) (cwV 0 hT (gd_V wd_603 wd_604 wd_605 wd_7 wd_606) rfl rfl rfl (by decide +kernel) ⟨Nat.le_of_ble_eq_true rfl, Nat.le_of_ble_eq_true rfl⟩) ⟨fun a U g mk q => by obtain ⟨q0, q1, qP, qK, qD⟩ := q; exact ⟨q0, q1, qP, va_K.moved (u := U) (U := U.calling g mk a) (Vm.Alike.refl U.vm) qK, qD⟩, va_recv hK hP (q0 := 0) (ci := 11) rfl rfl, fun U hU hW => ⟨rfl, by rw [hU], by rw [hU]; exact hPc, va_K.moved hW.alike hKc, hDc.weaken (fun _ _ _ _ => trivial)⟩⟩ rfl rfl hl.1 rfl (lv_room (Nat.le_of_ble_eq_true rfl)) dc_Re_read_52 ⟨(Nat.le_of_ble_eq_true rfl), (Nat.le_of_ble_eq_true rfl)⟩) hS (fun q _ h => hFc q h) hFc (fun _ t H1 locs ht hvm hr9 hB hz1 hk1 hS => ?_)
  obtain ⟨hP1, hK1, hD1⟩ := hB
  rw [ht] at hP1
  have hK1 := va_K.moved hvm.symm hK1
  obtain ⟨hP, hD⟩ := va_join (wr := [(a8, .inr (6, [.int 0, .ref a26, .ref a27, .ref a28, .int 0])), (a1, .inr (8, [.int 0, .int 0, .ref a5, .int 0, .ref a6, .int 0, .int 0, .ref a3, .ref a4, .int 0, .int 0, .int 0, .int 0, .int 0, .int 0, .ref a7, .ref a8, .ref a9, .ref a10])), (a5, .inr (6, [.int 0, .ref a23, .ref a24, .ref a25, .int 0])), (a3, .inr (7, [.ref a4, .ref a11, .ref a12, .ref a13, .ref a14, .int 0, .ref a15])), (a4, .inr (1, [.int 0, .ref a16, .ref a17, .ref a18, .ref a19, .ref a20, .ref a21, .ref a22, .int 0])), (a11, .inr (6, [.int 0, .ref a29, .ref a30, .ref a31, .int 0])), (a14, .inr (2, [.ref a32, .ref a33, .ref a34, .ref a35])), (a32, .inr (6, [.int 0, .ref a36, .ref a37, .ref a38, .int 0])), (a12, .inl (k2, 64, .inl u3))]) (w1 := [(a6, .inr (11, [.ref a2, .int 0, .int 0, .int 0, .int 0, .int 0]))]) hP hD [0] [1, 2, 3, 4, 5, 6, 7, 8, 9] rfl rfl (by decide) (by decide) hk1 hFc hP1 hD1
  have hK := (hK.sub (tys' := [(k2, .int)]) [0] rfl).app hK1
  generalize H1 = H at hP hS ⊢
  have hP : va_P (dC, dI) vwCl [(a8, .inr (6, [.int 0, .ref a26, .ref a27, .ref a28, .int 0])), (a1, .inr (8, [.int 0, .int 0, .ref a5, .int 0, .ref a6, .int 0, .int 0, .ref a3, .ref a4, .int 0, .int 0, .int 0, .int 0, .int 0, .int 0, .ref a7, .ref a8, .ref a9, .ref a10])), (a5, .inr (6, [.int 0, .ref a23, .ref a24, .ref a25, .int 0])), (a3, .inr (7, [.ref a4, .ref a11, .ref a12, .ref a13, .ref a14, .int 0, .ref a15])), (a4, .inr (1, [.int 0, .ref a16, .ref a17, .ref a18, .ref a19, .ref a20, .ref a21, .ref a22, .int 0])), (a11, .inr (6, [.int 0, .ref a29, .ref a30, .ref a31, .int 0])), (a14, .inr (2, [.ref a32, .ref a33, .ref a34, .ref a35])), (a32, .inr (6, [.int 0, .ref a36, .ref a37, .ref a38, .int 0])), (a12, .inl (k2, 64, .inl u3)), (a6, .inr (11, [.ref a2, .int 0, .int 0, .int 0, .int 0, .int 0]))] H := hP
  have hD : va_D A [(a8, .inr (6, [.int 0, .ref a26, .ref a27, .ref a28, .int 0])), (a1, .inr (8, [.int 0, .int 0, .ref a5, .int 0, .ref a6, .int 0, .int 0, .ref a3, .ref a4, .int 0, .int 0, .int 0, .int 0, .int 0, .int 0, .ref a7, .ref a8, .ref a9, .ref a10])), (a5, .inr (6, [.int 0, .ref a23, .ref a24, .ref a25, .int 0])), (a3, .inr (7, [.ref a4, .ref a11, .ref a12, .ref a13, .ref a14, .int 0, .ref a15])), (a4, .inr (1, [.int 0, .ref a16, .ref a17, .ref a18, .ref a19, .ref a20, .ref a21, .ref a22, .int 0])), (a11, .inr (6, [.int 0, .ref a29, .ref a30, .ref a31, .int 0])), (a14, .inr (2, [.ref a32, .ref a33, .ref a34, .ref a35])), (a32, .inr (6, [.int 0, .ref a36, .ref a37, .ref a38, .int 0])), (a12, .inl (k2, 64, .inl u3)), (a6, .inr (11, [.ref a2, .int 0, .int 0, .int 0, .int 0, .int 0]))] := hD
  have hK : va_K (dC, dI) vwCl [(k2, .int)] s := hK
  refine lv_aload_n hx hb dc_Re_read_55 rfl (lv_at hl 1 rfl) ?_
  have hPc := hP.sub (ws' := [(a1, .inr (8, [.int 0, .int 0, .ref a5, .int 0, .ref a6, .int 0, .int 0, .ref a3, .ref a4, .int 0, .int 0, .int 0, .int 0, .int 0, .int 0, .ref a7, .ref a8, .ref a9, .ref a10])), (a6, .inr (11, [.ref a2, .int 0, .int 0, .int 0, .int 0, .int 0]))]) [1, 9] rfl
  have hDc := hD.sub (ws' := [(a1, .inr (8, [.int 0, .int 0, .ref a5, .int 0, .ref a6, .int 0, .int 0, .ref a3, .ref a4, .int 0, .int 0, .int 0, .int 0, .int 0, .int 0, .ref a7, .ref a8, .ref a9, .ref a10])), (a6, .inr (11, [.ref a2, .int 0, .int 0, .int 0, .int 0, .int 0]))]) [1, 9] (by decide) rfl
  have hKc := hK.sub (tys' := []) [] rfl
  have hFc := va_free (wc := [(a1, .inr (8, [.int 0, .int 0, .ref a5, .int 0, .ref a6, .int 0, .int 0, .ref a3, .ref a4, .int 0, .int 0, .int 0, .int 0, .int 0, .int 0, .ref a7, .ref a8, .ref a9, .ref a10])), (a6, .inr (11, [.ref a2, .int 0, .int 0, .int 0, .int 0, .int 0]))]) hD hS hA [1, 9] rfl
  refine va_callv (va_runV (As := []) (rest := []) ⟨hx, hb, hml, hown, hT⟩ (c_Re_settleBefore_1 l dC dI a1 a5 a6 a3 a4 a7 a8 a9 a10 a2 H.size) (cwV 0 hT (gd_V wd_651 wd_653 sl_Re_settleBefore wd_6 wd_654) rfl rfl rfl (by decide +kernel) ⟨Nat.le_of_ble_eq_true rfl, Nat.le_of_ble_eq_true rfl⟩) ⟨fun a U g mk q => by obtain ⟨q0, q1, qP, qK, qD⟩ := q; exact ⟨q0, q1, qP, va_K.moved (u := U) (U := U.calling g mk a) (Vm.Alike.refl U.vm) qK, qD⟩, va_recv hK hP (q0 := 1) (ci := 8) rfl rfl, fun U hU hW => ⟨rfl, by rw [hU], by rw [hU]; exact hPc, va_K.moved hW.alike hKc, hDc.weaken (fun _ _ _ _ => trivial)⟩⟩ rfl rfl hl.1 rfl (lv_room (Nat.le_of_ble_eq_true rfl)) dc_Re_read_56 ⟨(Nat.le_of_ble_eq_true rfl), (Nat.le_of_ble_eq_true rfl)⟩) hS (fun q _ h => hFc q h) hFc (fun _ t H1 locs ht hvm hr9 hB hz1 hk1 hS => ?_)
  obtain ⟨hP1, hK1, hD1⟩ := hB
  rw [ht] at hP1
  have hK1 := va_K.moved hvm.symm hK1
  obtain ⟨hP, hD⟩ := va_join (wr := [(a8, .inr (6, [.int 0, .ref a26, .ref a27, .ref a28, .int 0])), (a5, .inr (6, [.int 0, .ref a23, .ref a24, .ref a25, .int 0])), (a3, .inr (7, [.ref a4, .ref a11, .ref a12, .ref a13, .ref a14, .int 0, .ref a15])), (a4, .inr (1, [.int 0, .ref a16, .ref a17, .ref a18, .ref a19, .ref a20, .ref a21, .ref a22, .int 0])), (a11, .inr (6, [.int 0, .ref a29, .ref a30, .ref a31, .int 0])), (a14, .inr (2, [.ref a32, .ref a33, .ref a34, .ref a35])), (a32, .inr (6, [.int 0, .ref a36, .ref a37, .ref a38, .int 0])), (a12, .inl (k2, 64, .inl u3))]) (w1 := [(a1, .inr (8, [.int 0, .int 0, .ref a5, .int 0, .ref a6, .int 0, .int 0, .ref a3, .ref a4, .int 0, .int 0, .int 0, .int 0, .int 0, .int 0, .ref a7, .ref a8, .ref a9, .ref a10])), (a6, .inr (11, [.ref a2, .int 0, .int 0, .int 0, .int 0, .int 0]))]) hP hD [1, 9] [0, 2, 3, 4, 5, 6, 7, 8] rfl rfl (by decide) (by decide) hk1 hFc hP1 hD1
  have hK := (hK.sub (tys' := [(k2, .int)]) [0] rfl).app hK1
  generalize H1 = H at hP hS ⊢
  have hP : va_P (dC, dI) vwCl [(a8, .inr (6, [.int 0, .ref a26, .ref a27, .ref a28, .int 0])), (a5, .inr (6, [.int 0, .ref a23, .ref a24, .ref a25, .int 0])), (a3, .inr (7, [.ref a4, .ref a11, .ref a12, .ref a13, .ref a14, .int 0, .ref a15])), (a4, .inr (1, [.int 0, .ref a16, .ref a17, .ref a18, .ref a19, .ref a20, .ref a21, .ref a22, .int 0])), (a11, .inr (6, [.int 0, .ref a29, .ref a30, .ref a31, .int 0])), (a14, .inr (2, [.ref a32, .ref a33, .ref a34, .ref a35])), (a32, .inr (6, [.int 0, .ref a36, .ref a37, .ref a38, .int 0])), (a12, .inl (k2, 64, .inl u3)), (a1, .inr (8, [.int 0, .int 0, .ref a5, .int 0, .ref a6, .int 0, .int 0, .ref a3, .ref a4, .int 0, .int 0, .int 0, .int 0, .int 0, .int 0, .ref a7, .ref a8, .ref a9, .ref a10])), (a6, .inr (11, [.ref a2, .int 0, .int 0, .int 0, .int 0, .int 0]))] H := hP
  have hD : va_D A [(a8, .inr (6, [.int 0, .ref a26, .ref a27, .ref a28, .int 0])), (a5, .inr (6, [.int 0, .ref a23, .ref a24, .ref a25, .int 0])), (a3, .inr (7, [.ref a4, .ref a11, .ref a12, .ref a13, .ref a14, .int 0, .ref a15])), (a4, .inr (1, [.int 0, .ref a16, .ref a17, .ref a18, .ref a19, .ref a20, .ref a21, .ref a22, .int 0])), (a11, .inr (6, [.int 0, .ref a29, .ref a30, .ref a31, .int 0])), (a14, .inr (2, [.ref a32, .ref a33, .ref a34, .ref a35])), (a32, .inr (6, [.int 0, .ref a36, .ref a37, .ref a38, .int 0])), (a12, .inl (k2, 64, .inl u3)), (a1, .inr (8, [.int 0, .int 0, .ref a5, .int 0, .ref a6, .int 0, .int 0, .ref a3, .ref a4, .int 0, .int 0, .int 0, .int 0, .int 0, .int 0, .ref a7, .ref a8, .ref a9, .ref a10])), (a6, .inr (11, [.ref a2, .int 0, .int 0, .int 0, .int 0, .int 0]))] := hD
  have hK : va_K (dC, dI) vwCl [(k2, .int)] s := hK
  refine lv_aload_n hx hb dc_Re_read_59 rfl (lv_at hl 1 rfl) ?_
  refine va_get (D := (dC, dI)) (ci := 8) (v := .int 0) (C := "StrataBase$Reader") (T := tb_Re) (N := 19) hx hb hT in_Re hown hK hP 8 rfl rfl 6 (by decide) (hT _ wd_230) (fun _ h9 => h9) rfl dc_Re_read_60 ?_
  refine lv_tableIn (off := 61) (tgt := 124) hx hb dc_Re_read_63 (by decide) (by decide) (by decide) (by decide) ?_
  refine lv_aload_n hx hb dc_Re_read_124 rfl (lv_at hl 1 rfl) ?_
  have hPc := hP.sub (ws' := [(a1, .inr (8, [.int 0, .int 0, .ref a5, .int 0, .ref a6, .int 0, .int 0, .ref a3, .ref a4, .int 0, .int 0, .int 0, .int 0, .int 0, .int 0, .ref a7, .ref a8, .ref a9, .ref a10])), (a6, .inr (11, [.ref a2, .int 0, .int 0, .int 0, .int 0, .int 0]))]) [8, 9] rfl
  have hDc := hD.sub (ws' := [(a1, .inr (8, [.int 0, .int 0, .ref a5, .int 0, .ref a6, .int 0, .int 0, .ref a3, .ref a4, .int 0, .int 0, .int 0, .int 0, .int 0, .int 0, .ref a7, .ref a8, .ref a9, .ref a10])), (a6, .inr (11, [.ref a2, .int 0, .int 0, .int 0, .int 0, .int 0]))]) [8, 9] (by decide) rfl
  have hKc := hK.sub (tys' := []) [] rfl
  have hFc := va_free (wc := [(a1, .inr (8, [.int 0, .int 0, .ref a5, .int 0, .ref a6, .int 0, .int 0, .ref a3, .ref a4, .int 0, .int 0, .int 0, .int 0, .int 0, .int 0, .ref a7, .ref a8, .ref a9, .ref a10])), (a6, .inr (11, [.ref a2, .int 0, .int 0, .int 0, .int 0, .int 0]))]) hD hS hA [8, 9] rfl
  refine va_callv (va_runV (As := []) (rest := []) ⟨hx, hb, hml, hown, hT⟩ (c_Re_beginClause_1 l dC dI a1 a5 a6 a3 a4 a7 a8 a9 a10 a2 H.size) (cwV 0 hT (gd_V wd_762 wd_764 sl_Re_beginClause wd_6 wd_765) rfl rfl rfl (by decide +kernel) ⟨Nat.le_of_ble_eq_true rfl, Nat.le_of_ble_eq_true rfl⟩) ⟨fun a U g mk q => by obtain ⟨q0, q1, qP, qK, qD⟩ := q; exact ⟨q0, q1, qP, va_K.moved (u := U) (U := U.calling g mk a) (Vm.Alike.refl U.vm) qK, qD⟩, va_recv hK hP (q0 := 8) (ci := 8) rfl rfl, fun U hU hW => ⟨rfl, by rw [hU], by rw [hU]; exact hPc, va_K.moved hW.alike hKc, hDc.weaken (fun _ _ _ _ => trivial)⟩⟩ rfl rfl hl.1 rfl (lv_room (Nat.le_of_ble_eq_true rfl)) dc_Re_read_125 ⟨(Nat.le_of_ble_eq_true rfl), (Nat.le_of_ble_eq_true rfl)⟩) hS (fun q _ h => hFc q h) hFc (fun _ t H1 locs ht hvm hr9 hB hz1 hk1 hS => ?_)
  obtain ⟨hP1, hK1, hD1⟩ := hB
  rw [ht] at hP1
  have hK1 := va_K.moved hvm.symm hK1
  obtain ⟨hP, hD⟩ := va_join (wr := [(a8, .inr (6, [.int 0, .ref a26, .ref a27, .ref a28, .int 0])), (a5, .inr (6, [.int 0, .ref a23, .ref a24, .ref a25, .int 0])), (a3, .inr (7, [.ref a4, .ref a11, .ref a12, .ref a13, .ref a14, .int 0, .ref a15])), (a4, .inr (1, [.int 0, .ref a16, .ref a17, .ref a18, .ref a19, .ref a20, .ref a21, .ref a22, .int 0])), (a11, .inr (6, [.int 0, .ref a29, .ref a30, .ref a31, .int 0])), (a14, .inr (2, [.ref a32, .ref a33, .ref a34, .ref a35])), (a32, .inr (6, [.int 0, .ref a36, .ref a37, .ref a38, .int 0])), (a12, .inl (k2, 64, .inl u3))]) (w1 := [(a1, .inr (8, [.int 0, .int 0, .ref a5, .int 0, .ref a6, .int 0, .int 12, .ref a3, .ref a4, .int 0, .int 0, .int 0, .int 0, .int 0, .int 0, .ref a7, .ref a8, .ref a9, .ref a10])), (a6, .inr (11, [.ref a2, .int 0, .int 0, .int 0, .int 0, .int 0]))]) hP hD [8, 9] [0, 1, 2, 3, 4, 5, 6, 7] rfl rfl (by decide) (by decide) hk1 hFc hP1 hD1
  have hK := (hK.sub (tys' := [(k2, .int)]) [0] rfl).app hK1
  generalize H1 = H at hP hS ⊢
  have hP : va_P (dC, dI) vwCl [(a8, .inr (6, [.int 0, .ref a26, .ref a27, .ref a28, .int 0])), (a5, .inr (6, [.int 0, .ref a23, .ref a24, .ref a25, .int 0])), (a3, .inr (7, [.ref a4, .ref a11, .ref a12, .ref a13, .ref a14, .int 0, .ref a15])), (a4, .inr (1, [.int 0, .ref a16, .ref a17, .ref a18, .ref a19, .ref a20, .ref a21, .ref a22, .int 0])), (a11, .inr (6, [.int 0, .ref a29, .ref a30, .ref a31, .int 0])), (a14, .inr (2, [.ref a32, .ref a33, .ref a34, .ref a35])), (a32, .inr (6, [.int 0, .ref a36, .ref a37, .ref a38, .int 0])), (a12, .inl (k2, 64, .inl u3)), (a1, .inr (8, [.int 0, .int 0, .ref a5, .int 0, .ref a6, .int 0, .int 12, .ref a3, .ref a4, .int 0, .int 0, .int 0, .int 0, .int 0, .int 0, .ref a7, .ref a8, .ref a9, .ref a10])), (a6, .inr (11, [.ref a2, .int 0, .int 0, .int 0, .int 0, .int 0]))] H := hP
  have hD : va_D A [(a8, .inr (6, [.int 0, .ref a26, .ref a27, .ref a28, .int 0])), (a5, .inr (6, [.int 0, .ref a23, .ref a24, .ref a25, .int 0])), (a3, .inr (7, [.ref a4, .ref a11, .ref a12, .ref a13, .ref a14, .int 0, .ref a15])), (a4, .inr (1, [.int 0, .ref a16, .ref a17, .ref a18, .ref a19, .ref a20, .ref a21, .ref a22, .int 0])), (a11, .inr (6, [.int 0, .ref a29, .ref a30, .ref a31, .int 0])), (a14, .inr (2, [.ref a32, .ref a33, .ref a34, .ref a35])), (a32, .inr (6, [.int 0, .ref a36, .ref a37, .ref a38, .int 0])), (a12, .inl (k2, 64, .inl u3)), (a1, .inr (8, [.int 0, .int 0, .ref a5, .int 0, .ref a6, .int 0, .int 12, .ref a3, .ref a4, .int 0, .int 0, .int 0, .int 0, .int 0, .int 0, .ref a7, .ref a8, .ref a9, .ref a10])), (a6, .inr (11, [.ref a2, .int 0, .int 0, .int 0, .int 0, .int 0]))] := hD
  have hK : va_K (dC, dI) vwCl [(k2, .int)] s := hK
  refine lv_goto (tgt := 202) hx hb dc_Re_read_128 (by decide) ?_
  refine lv_iinc (k := 0) (v := 1) (lv' := [(6, .int 1), (0, .ref a1), (1, .int 0), (2, .ref a2), (3, .int 0), (4, .ref a3), (5, .ref a4)]) hx hb dc_Re_read_202 hl rfl (by decide) (by decide) rfl (fun ls hl => ?_)
  refine lv_goto (tgt := 33) hx hb dc_Re_read_205 (by decide) ?_
  refine lv_iload hx hb dc_Re_read_33 (lv_at hl 0 rfl) ?_
  refine lv_iload_n hx hb dc_Re_read_35 rfl (lv_at hl 4 rfl) ?_
  refine lv_icmp_gt (tgt := 208) hx hb dc_Re_read_36 (by decide) (fun _ => ?_) (fun h9 => absurd (by decide) h9)
  have hP9 := hP.sub (ws' := [(a8, .inr (6, [.int 0, .ref a26, .ref a27, .ref a28, .int 0])), (a5, .inr (6, [.int 0, .ref a23, .ref a24, .ref a25, .int 0])), (a3, .inr (7, [.ref a4, .ref a11, .ref a12, .ref a13, .ref a14, .int 0, .ref a15])), (a4, .inr (1, [.int 0, .ref a16, .ref a17, .ref a18, .ref a19, .ref a20, .ref a21, .ref a22, .int 0])), (a11, .inr (6, [.int 0, .ref a29, .ref a30, .ref a31, .int 0])), (a14, .inr (2, [.ref a32, .ref a33, .ref a34, .ref a35])), (a32, .inr (6, [.int 0, .ref a36, .ref a37, .ref a38, .int 0])), (a12, .inl (k2, 64, .inl u3)), (a1, .inr (8, [.int 0, .int 0, .ref a5, .int 0, .ref a6, .int 0, .int 12, .ref a3, .ref a4, .int 0, .int 0, .int 0, .int 0, .int 0, .int 0, .ref a7, .ref a8, .ref a9, .ref a10])), (a6, .inr (11, [.ref a2, .int 0, .int 0, .int 0, .int 0, .int 0]))]) [0, 1, 2, 3, 4, 5, 6, 7, 8, 9] rfl
  have hD9 := hD.sub (ws' := [(a8, .inr (6, [.int 0, .ref a26, .ref a27, .ref a28, .int 0])), (a5, .inr (6, [.int 0, .ref a23, .ref a24, .ref a25, .int 0])), (a3, .inr (7, [.ref a4, .ref a11, .ref a12, .ref a13, .ref a14, .int 0, .ref a15])), (a4, .inr (1, [.int 0, .ref a16, .ref a17, .ref a18, .ref a19, .ref a20, .ref a21, .ref a22, .int 0])), (a11, .inr (6, [.int 0, .ref a29, .ref a30, .ref a31, .int 0])), (a14, .inr (2, [.ref a32, .ref a33, .ref a34, .ref a35])), (a32, .inr (6, [.int 0, .ref a36, .ref a37, .ref a38, .int 0])), (a12, .inl (k2, 64, .inl u3)), (a1, .inr (8, [.int 0, .int 0, .ref a5, .int 0, .ref a6, .int 0, .int 12, .ref a3, .ref a4, .int 0, .int 0, .int 0, .int 0, .int 0, .int 0, .ref a7, .ref a8, .ref a9, .ref a10])), (a6, .inr (11, [.ref a2, .int 0, .int 0, .int 0, .int 0, .int 0]))]) [0, 1, 2, 3, 4, 5, 6, 7, 8, 9] (by decide) rfl
  have hK9 := hK.sub (tys' := [(k2, .int)]) [0] rfl
  refine W.widen (k := 0) (n := 0) (Nat.le_of_ble_eq_true rfl) (Nat.le_of_ble_eq_true rfl) ?_
  exact W.vret hx hb hr (fun t ht hW => ⟨⟨(), rfl, trivial, u3, by rw [ht]; exact hP9, va_K.moved hW.alike hK9, hD9⟩, hS.F ht⟩) hS.2.2 dc_Re_read_208

set_option maxHeartbeats 4000000 in
set_option maxRecDepth 100000 in
theorem c_Pr_findReached_1 (l : Launch) (dC : Nat → ClassId) (dI : Nat → Nat → Nat) (a1 : Nat) (a2 : Nat) (a3 : Nat) (a4 : Nat) (a5 : Nat) (a6 : Nat) (a7 : Nat) (a8 : Nat) (a9 : Nat) (a10 : Nat) (a11 : Nat) (a12 : Nat) (a13 : Nat) (a14 : Nat) (k3 : ClassId) (sz : Nat) : Met l my_Pr_findReached (Cond.code my_Pr_findReached cd_Pr_findReached 4 none :: tblG) ({ frames := 0, cells := 0, slots := 0, locals := 0 }) (va_Pc [.ref a1] (fun U => U.heap.size = sz ∧ va_P (dC, dI) vwCl [(a1, .inr (7, [.ref a2, .ref a3, .ref a4, .ref a5, .ref a6, .int 0, .ref a7])), (a2, .inr (1, [.int 0, .ref a8, .ref a9, .ref a10, .ref a11, .ref a12, .ref a13, .ref a14, .int 0])), (a7, .inl (k3, 64, .inr (.inl (fun _ => 0))))] U.heap ∧ va_K (dC, dI) vwCl [(k3, .long)] U ∧ va_D (fun _ => True) [(a1, .inr (7, [.ref a2, .ref a3, .ref a4, .ref a5, .ref a6, .int 0, .ref a7])), (a2, .inr (1, [.int 0, .ref a8, .ref a9, .ref a10, .ref a11, .ref a12, .ref a13, .ref a14, .int 0])), (a7, .inl (k3, 64, .inr (.inl (fun _ => 0))))])) (va_Qv (fun _ : Unit => True) (fun (_ : Unit) (t : State) => ∃ (g4 : Nat → Int64), va_P (dC, dI) vwCl [(a1, .inr (7, [.ref a2, .ref a3, .ref a4, .ref a5, .ref a6, .int 0, .ref a7])), (a2, .inr (1, [.int 0, .ref a8, .ref a9, .ref a10, .ref a11, .ref a12, .ref a13, .ref a14, .int 0])), (a7, .inl (k3, 64, .inr (.inl g4)))] t.heap ∧ va_K (dC, dI) vwCl [(k3, .long)] t ∧ va_D (va_A [(a1, .inr (7, [.ref a2, .ref a3, .ref a4, .ref a5, .ref a6, .int 0, .ref a7])), (a2, .inr (1, [.int 0, .ref a8, .ref a9, .ref a10, .ref a11, .ref a12, .ref a13, .ref a14, .int 0])), (a7, .inl (k3, 64, .inr (.inl (fun _ => 0))))] sz) [(a1, .inr (7, [.ref a2, .ref a3, .ref a4, .ref a5, .ref a6, .int 0, .ref a7])), (a2, .inr (1, [.int 0, .ref a8, .ref a9, .ref a10, .ref a11, .ref a12, .ref a13, .ref a14, .int 0])), (a7, .inl (k3, 64, .inr (.inl g4)))]) (va_A [(a1, .inr (7, [.ref a2, .ref a3, .ref a4, .ref a5, .ref a6, .int 0, .ref a7])), (a2, .inr (1, [.int 0, .ref a8, .ref a9, .ref a10, .ref a11, .ref a12, .ref a13, .ref a14, .int 0])), (a7, .inl (k3, 64, .inr (.inl (fun _ => 0))))] sz)) 0 0 (va_A [(a1, .inr (7, [.ref a2, .ref a3, .ref a4, .ref a5, .ref a6, .int 0, .ref a7])), (a2, .inr (1, [.int 0, .ref a8, .ref a9, .ref a10, .ref a11, .ref a12, .ref a13, .ref a14, .int 0])), (a7, .inl (k3, 64, .inr (.inl (fun _ => 0))))] sz) := by
  refine Met.ofW (cc := cd_Pr_findReached) (maxL := 4) (ret := none) (by decide) rfl ?_
  intro p e s m args below meth c s₁ B hml hv
  obtain ⟨rfl, hsz, hP, hK, hD0⟩ := hv
  have hx := B.exec
  have hb := B.bytes
  have hr := B.returns
  have hT : ∀ w ∈ tblG, w.before _ s = true := fun w h => atoms_spec (ws := (Cond.code my_Pr_findReached cd_Pr_findReached 4 none :: tblG)) B.pre w (List.mem_cons_of_mem _ h)
  have hown : s.vm.findClass "StrataBase$Program" = some m.cls := findClass_of_methodNamed B.named
  have hlocks := B.notSynchronized
  subst hsz
  have hD := hD0.self (sz := s.heap.size)
  generalize hAe : va_A [(a1, .inr (7, [.ref a2, .ref a3, .ref a4, .ref a5, .ref a6, .int 0, .ref a7])), (a2, .inr (1, [.int 0, .ref a8, .ref a9, .ref a10, .ref a11, .ref a12, .ref a13, .ref a14, .int 0])), (a7, .inl (k3, 64, .inr (.inl (fun _ => 0))))] s.heap.size = A at hD ⊢
  have hA : ∀ q : Nat, s.heap.size ≤ q → A q := fun q h => by rw [← hAe]; exact Or.inr h
  have hS : va_S A s.heap s.heap [] := va_S.rf
  have hl := lv_entry ([.ref a1]) (n := 4) (Nat.le_of_ble_eq_true rfl)
  rw [lg_entry_eq]
  generalize (lg_sl ([.ref a1]) ++ List.replicate (4 - (lg_sl ([.ref a1])).length) Slot.unset).toArray = ls at hl ⊢
  have hl : lv_has ls 4 [(0, .ref a1)] := hl
  refine lv_iconst (v := 0) hx hb dc_Pr_findReached_0 (by decide) ?_
  refine lv_istore_n (lv' := [(1, .int 0), (0, .ref a1)]) hx hb dc_Pr_findReached_1 rfl hl (by decide) rfl (fun ls hl => ?_)
  refine lp_loop 64 (fun k9 H locs ls => ∃ (g1 : Nat → Int64), va_K (dC, dI) vwCl [(k3, .long)] s ∧ va_P (dC, dI) vwCl [(a1, .inr (7, [.ref a2, .ref a3, .ref a4, .ref a5, .ref a6, .int 0, .ref a7])), (a2, .inr (1, [.int 0, .ref a8, .ref a9, .ref a10, .ref a11, .ref a12, .ref a13, .ref a14, .int 0])), (a7, .inl (k3, 64, .inr (.inl g1)))] H ∧ va_D A [(a1, .inr (7, [.ref a2, .ref a3, .ref a4, .ref a5, .ref a6, .int 0, .ref a7])), (a2, .inr (1, [.int 0, .ref a8, .ref a9, .ref a10, .ref a11, .ref a12, .ref a13, .ref a14, .int 0])), (a7, .inl (k3, 64, .inr (.inl g1)))] ∧ va_S A s.heap H locs ∧ lv_has ls 4 [(1, .int (nI k9)), (0, .ref a1)]) ?_ ?_ 0 (by decide) ⟨(fun _ => 0), hK, hP, hD, hS, lv_sub hl [0, 1] rfl⟩
  · intro jv2 hk2 ih2 H locs ls hI
    obtain ⟨g1, hK, hP, hD, hS, hl⟩ := hI
    refine lv_iload_n hx hb dc_Pr_findReached_2 rfl (lv_at hl 0 rfl) ?_
    refine lv_bipush (v := 64) hx hb dc_Pr_findReached_3 (by decide) ?_
    refine lv_icmp_ge (tgt := 23) hx hb dc_Pr_findReached_5 (by decide) (fun h9 => absurd h9 (show ¬ ((64 : Int32) ≤ nI jv2) from nI_ge hk2 (by decide))) (fun _ => ?_)
    refine lv_aload_n hx hb dc_Pr_findReached_8 rfl (lv_at hl 1 rfl) ?_
    refine va_get (D := (dC, dI)) (ci := 7) (v := .ref a7) (C := "StrataBase$Program") (T := tb_Pr) (N := 7) hx hb hT in_Pr hown hK hP 0 rfl rfl 6 (by decide) (hT _ wd_161) (fun _ h9 => h9) rfl dc_Pr_findReached_9 ?_
    refine lv_iload_n hx hb dc_Pr_findReached_12 rfl (lv_at hl 0 rfl) ?_
    refine lv_lconst (v := 1) hx hb dc_Pr_findReached_13 rfl ?_
    refine lv_iload_n hx hb dc_Pr_findReached_14 rfl (lv_at hl 0 rfl) ?_
    refine lv_lshl (v := (1 : Int64) <<< ((nI jv2).toInt64 &&& 63)) hx hb dc_Pr_findReached_15 rfl ?_
    refine va_last hx hb hK hP hD hS 2 0 rfl rfl (vp_in_nI (by omega) (by decide)) dc_Pr_findReached_16 (fun H locs hP hD hS => ?_)
    have hP : va_P (dC, dI) vwCl [(a1, .inr (7, [.ref a2, .ref a3, .ref a4, .ref a5, .ref a6, .int 0, .ref a7])), (a2, .inr (1, [.int 0, .ref a8, .ref a9, .ref a10, .ref a11, .ref a12, .ref a13, .ref a14, .int 0])), (a7, .inl (k3, 64, .inr (.inl (vp_updL g1 (nI jv2).toNatClampNeg ((1 : Int64) <<< ((nI jv2).toInt64 &&& 63))))))] H := hP
    have hD : va_D A [(a1, .inr (7, [.ref a2, .ref a3, .ref a4, .ref a5, .ref a6, .int 0, .ref a7])), (a2, .inr (1, [.int 0, .ref a8, .ref a9, .ref a10, .ref a11, .ref a12, .ref a13, .ref a14, .int 0])), (a7, .inl (k3, 64, .inr (.inl (vp_updL g1 (nI jv2).toNatClampNeg ((1 : Int64) <<< ((nI jv2).toInt64 &&& 63))))))] := hD
    generalize vp_updL g1 (nI jv2).toNatClampNeg ((1 : Int64) <<< ((nI jv2).toInt64 &&& 63)) = g3 at hP hD
    refine lv_iinc (k := 0) (v := nI (jv2 + 1)) (lv' := [(1, .int (nI (jv2 + 1))), (0, .ref a1)]) hx hb dc_Pr_findReached_17 hl rfl (by first | exact nI_1 _ | exact nI_add _ 1) (by decide) rfl (fun ls hl => ?_)
    refine lv_goto (tgt := 2) hx hb dc_Pr_findReached_20 (by decide) ?_
    exact ih2 _ _ _ ⟨g3, hK.sub [0] rfl, hP.sub [0, 1, 2] rfl, hD.sub [0, 1, 2] (by decide) rfl, hS, lv_sub hl [0, 1] rfl⟩
  · intro H locs ls hI
    obtain ⟨g1, hK, hP, hD, hS, hl⟩ := hI
    refine lv_iload_n hx hb dc_Pr_findReached_2 rfl (lv_at hl 0 rfl) ?_
    refine lv_bipush (v := 64) hx hb dc_Pr_findReached_3 (by decide) ?_
    refine lv_icmp_ge (tgt := 23) hx hb dc_Pr_findReached_5 (by decide) (fun _ => ?_) (fun h9 => absurd (by decide) h9)
    refine lv_iconst (v := 0) hx hb dc_Pr_findReached_23 (by decide) ?_
    refine lv_istore_n (lv' := [(1, .int 0), (0, .ref a1)]) hx hb dc_Pr_findReached_24 rfl hl (by decide) rfl (fun ls hl => ?_)
    refine lv_iload_n hx hb dc_Pr_findReached_25 rfl (lv_at hl 0 rfl) ?_
    refine lv_aload_n hx hb dc_Pr_findReached_26 rfl (lv_at hl 1 rfl) ?_
    refine va_get (D := (dC, dI)) (ci := 7) (v := .ref a2) (C := "StrataBase$Program") (T := tb_Pr) (N := 7) hx hb hT in_Pr hown hK hP 0 rfl rfl 0 (by decide) (hT _ wd_145) (fun _ h9 => h9) rfl dc_Pr_findReached_27 ?_
    refine va_get (D := (dC, dI)) (ci := 1) (v := .int 0) (C := "StrataBase$Clauses") (T := tb_Cl) (N := 9) hx hb hT in_Cl hown hK hP 1 rfl rfl 0 (by decide) (hT _ wd_47) (fun _ h9 => h9) rfl dc_Pr_findReached_30 ?_
    refine lv_icmp_ge (tgt := 114) hx hb dc_Pr_findReached_33 (by decide) (fun _ => ?_) (fun h9 => absurd (by decide) h9)
    refine lv_iconst (v := 0) hx hb dc_Pr_findReached_114 (by decide) ?_
    refine lv_istore_n (lv' := [(1, .int 0), (0, .ref a1)]) hx hb dc_Pr_findReached_115 rfl hl (by decide) rfl (fun ls hl => ?_)
    refine lp_loop 64 (fun k9 H locs ls => ∃ (g4 : Nat → Int64), va_K (dC, dI) vwCl [(k3, .long)] s ∧ va_P (dC, dI) vwCl [(a1, .inr (7, [.ref a2, .ref a3, .ref a4, .ref a5, .ref a6, .int 0, .ref a7])), (a2, .inr (1, [.int 0, .ref a8, .ref a9, .ref a10, .ref a11, .ref a12, .ref a13, .ref a14, .int 0])), (a7, .inl (k3, 64, .inr (.inl g4)))] H ∧ va_D A [(a1, .inr (7, [.ref a2, .ref a3, .ref a4, .ref a5, .ref a6, .int 0, .ref a7])), (a2, .inr (1, [.int 0, .ref a8, .ref a9, .ref a10, .ref a11, .ref a12, .ref a13, .ref a14, .int 0])), (a7, .inl (k3, 64, .inr (.inl g4)))] ∧ va_S A s.heap H locs ∧ lv_has ls 4 [(1, .int (nI k9)), (0, .ref a1)]) ?_ ?_ 0 (by decide) ⟨g1, hK, hP, hD, hS, lv_sub hl [0, 1] rfl⟩
    · intro jv5 hk5 ih5 H locs ls hI
      obtain ⟨g4, hK, hP, hD, hS, hl⟩ := hI
      refine lv_iload_n hx hb dc_Pr_findReached_116 rfl (lv_at hl 0 rfl) ?_
      refine lv_bipush (v := 64) hx hb dc_Pr_findReached_117 (by decide) ?_
      refine lv_icmp_ge (tgt := 172) hx hb dc_Pr_findReached_119 (by decide) (fun h9 => absurd h9 (show ¬ ((64 : Int32) ≤ nI jv5) from nI_ge hk5 (by decide))) (fun _ => ?_)
      refine lv_iconst (v := 0) hx hb dc_Pr_findReached_122 (by decide) ?_
      refine lv_istore_n (lv' := [(2, .int 0), (1, .int (nI jv5)), (0, .ref a1)]) hx hb dc_Pr_findReached_123 rfl hl (by decide) rfl (fun ls hl => ?_)
      refine lp_loop 64 (fun k9 H locs ls => ∃ (g6 : Nat → Int64), va_K (dC, dI) vwCl [(k3, .long)] s ∧ va_P (dC, dI) vwCl [(a1, .inr (7, [.ref a2, .ref a3, .ref a4, .ref a5, .ref a6, .int 0, .ref a7])), (a2, .inr (1, [.int 0, .ref a8, .ref a9, .ref a10, .ref a11, .ref a12, .ref a13, .ref a14, .int 0])), (a7, .inl (k3, 64, .inr (.inl g6)))] H ∧ va_D A [(a1, .inr (7, [.ref a2, .ref a3, .ref a4, .ref a5, .ref a6, .int 0, .ref a7])), (a2, .inr (1, [.int 0, .ref a8, .ref a9, .ref a10, .ref a11, .ref a12, .ref a13, .ref a14, .int 0])), (a7, .inl (k3, 64, .inr (.inl g6)))] ∧ va_S A s.heap H locs ∧ lv_has ls 4 [(2, .int (nI k9)), (1, .int (nI jv5)), (0, .ref a1)]) ?_ ?_ 0 (by decide) ⟨g4, hK, hP, hD, hS, lv_sub hl [0, 1, 2] rfl⟩
      · intro jv7 hk7 ih7 H locs ls hI
        obtain ⟨g6, hK, hP, hD, hS, hl⟩ := hI
        refine lv_iload_n hx hb dc_Pr_findReached_124 rfl (lv_at hl 0 rfl) ?_
        refine lv_bipush (v := 64) hx hb dc_Pr_findReached_125 (by decide) ?_
        refine lv_icmp_ge (tgt := 166) hx hb dc_Pr_findReached_127 (by decide) (fun h9 => absurd h9 (show ¬ ((64 : Int32) ≤ nI jv7) from nI_ge hk7 (by decide))) (fun _ => ?_)
        refine lv_aload_n hx hb dc_Pr_findReached_130 rfl (lv_at hl 2 rfl) ?_
        refine va_get (D := (dC, dI)) (ci := 7) (v := .ref a7) (C := "StrataBase$Program") (T := tb_Pr) (N := 7) hx hb hT in_Pr hown hK hP 0 rfl rfl 6 (by decide) (hT _ wd_161) (fun _ h9 => h9) rfl dc_Pr_findReached_131 ?_
        refine lv_iload_n hx hb dc_Pr_findReached_134 rfl (lv_at hl 0 rfl) ?_
        refine va_lald hx hb hK hP 2 0 rfl rfl (vp_in_nI (by omega) (by decide)) dc_Pr_findReached_135 ?_
        refine lv_topl (fun y8 e9 => ?_)
        obtain rfl : y8 = g6 jv7 := by rw [e9, nI_clamp (by omega)]
        refine lv_iload_n hx hb dc_Pr_findReached_136 rfl (lv_at hl 1 rfl) ?_
        refine lv_lshr (v := (g6 jv7) >>> ((nI jv5).toInt64 &&& 63)) hx hb dc_Pr_findReached_137 rfl ?_
        refine lv_lconst (v := 1) hx hb dc_Pr_findReached_138 rfl ?_
        refine lv_land hx hb dc_Pr_findReached_139 ?_
        refine lv_lconst (v := 0) hx hb dc_Pr_findReached_140 rfl ?_
        refine W.lcmp hx hb dc_Pr_findReached_141 ?_
        refine lv_if_eq (tgt := 160) hx hb dc_Pr_findReached_142 (by decide) (fun h142 => ?_) (fun h142 => ?_)
        · refine lv_iinc (k := 0) (v := nI (jv7 + 1)) (lv' := [(2, .int (nI (jv7 + 1))), (1, .int (nI jv5)), (0, .ref a1)]) hx hb dc_Pr_findReached_160 hl rfl (by first | exact nI_1 _ | exact nI_add _ 1) (by decide) rfl (fun ls hl => ?_)
          refine lv_goto (tgt := 124) hx hb dc_Pr_findReached_163 (by decide) ?_
          exact ih7 _ _ _ ⟨g6, hK.sub [0] rfl, hP.sub [0, 1, 2] rfl, hD.sub [0, 1, 2] (by decide) rfl, hS, lv_sub hl [0, 1, 2] rfl⟩
        · refine lv_aload_n hx hb dc_Pr_findReached_145 rfl (lv_at hl 2 rfl) ?_
          refine va_get (D := (dC, dI)) (ci := 7) (v := .ref a7) (C := "StrataBase$Program") (T := tb_Pr) (N := 7) hx hb hT in_Pr hown hK hP 0 rfl rfl 6 (by decide) (hT _ wd_161) (fun _ h9 => h9) rfl dc_Pr_findReached_146 ?_
          refine lv_iload_n hx hb dc_Pr_findReached_149 rfl (lv_at hl 0 rfl) ?_
          refine lv_dup2_11 hx hb dc_Pr_findReached_150 rfl rfl ?_
          refine va_lald hx hb hK hP 2 0 rfl rfl (vp_in_nI (by omega) (by decide)) dc_Pr_findReached_151 ?_
          refine lv_topl (fun y10 e11 => ?_)
          obtain rfl : y10 = g6 jv7 := by rw [e11, nI_clamp (by omega)]
          refine lv_aload_n hx hb dc_Pr_findReached_152 rfl (lv_at hl 2 rfl) ?_
          refine va_get (D := (dC, dI)) (ci := 7) (v := .ref a7) (C := "StrataBase$Program") (T := tb_Pr) (N := 7) hx hb hT in_Pr hown hK hP 0 rfl rfl 6 (by decide) (hT _ wd_161) (fun _ h9 => h9) rfl dc_Pr_findReached_153 ?_
          refine lv_iload_n hx hb dc_Pr_findReached_156 rfl (lv_at hl 1 rfl) ?_
          refine va_lald hx hb hK hP 2 0 rfl rfl (vp_in_nI (by omega) (by decide)) dc_Pr_findReached_157 ?_
          refine lv_topl (fun y12 e13 => ?_)
          obtain rfl : y12 = g6 jv5 := by rw [e13, nI_clamp (by omega)]
          refine lv_lor hx hb dc_Pr_findReached_158 ?_
          refine va_last hx hb hK hP hD hS 2 0 rfl rfl (vp_in_nI (by omega) (by decide)) dc_Pr_findReached_159 (fun H locs hP hD hS => ?_)
          have hP : va_P (dC, dI) vwCl [(a1, .inr (7, [.ref a2, .ref a3, .ref a4, .ref a5, .ref a6, .int 0, .ref a7])), (a2, .inr (1, [.int 0, .ref a8, .ref a9, .ref a10, .ref a11, .ref a12, .ref a13, .ref a14, .int 0])), (a7, .inl (k3, 64, .inr (.inl (vp_updL g6 (nI jv7).toNatClampNeg ((g6 jv7) ||| (g6 jv5))))))] H := hP
          have hD : va_D A [(a1, .inr (7, [.ref a2, .ref a3, .ref a4, .ref a5, .ref a6, .int 0, .ref a7])), (a2, .inr (1, [.int 0, .ref a8, .ref a9, .ref a10, .ref a11, .ref a12, .ref a13, .ref a14, .int 0])), (a7, .inl (k3, 64, .inr (.inl (vp_updL g6 (nI jv7).toNatClampNeg ((g6 jv7) ||| (g6 jv5))))))] := hD
          generalize vp_updL g6 (nI jv7).toNatClampNeg ((g6 jv7) ||| (g6 jv5)) = g14 at hP hD
          refine lv_iinc (k := 0) (v := nI (jv7 + 1)) (lv' := [(2, .int (nI (jv7 + 1))), (1, .int (nI jv5)), (0, .ref a1)]) hx hb dc_Pr_findReached_160 hl rfl (by first | exact nI_1 _ | exact nI_add _ 1) (by decide) rfl (fun ls hl => ?_)
          refine lv_goto (tgt := 124) hx hb dc_Pr_findReached_163 (by decide) ?_
          exact ih7 _ _ _ ⟨g14, hK.sub [0] rfl, hP.sub [0, 1, 2] rfl, hD.sub [0, 1, 2] (by decide) rfl, hS, lv_sub hl [0, 1, 2] rfl⟩
      · intro H locs ls hI
        obtain ⟨g6, hK, hP, hD, hS, hl⟩ := hI
        refine lv_iload_n hx hb dc_Pr_findReached_124 rfl (lv_at hl 0 rfl) ?_
        refine lv_bipush (v := 64) hx hb dc_Pr_findReached_125 (by decide) ?_
        refine lv_icmp_ge (tgt := 166) hx hb dc_Pr_findReached_127 (by decide) (fun _ => ?_) (fun h9 => absurd (by decide) h9)
        refine lv_iinc (k := 1) (v := nI (jv5 + 1)) (lv' := [(1, .int (nI (jv5 + 1))), (2, .int (nI 64)), (0, .ref a1)]) hx hb dc_Pr_findReached_166 hl rfl (by first | exact nI_1 _ | exact nI_add _ 1) (by decide) rfl (fun ls hl => ?_)
        refine lv_goto (tgt := 116) hx hb dc_Pr_findReached_169 (by decide) ?_
        exact ih5 _ _ _ ⟨g6, hK.sub [0] rfl, hP.sub [0, 1, 2] rfl, hD.sub [0, 1, 2] (by decide) rfl, hS, lv_sub hl [0, 2] rfl⟩
    · intro H locs ls hI
      obtain ⟨g4, hK, hP, hD, hS, hl⟩ := hI
      refine lv_iload_n hx hb dc_Pr_findReached_116 rfl (lv_at hl 0 rfl) ?_
      refine lv_bipush (v := 64) hx hb dc_Pr_findReached_117 (by decide) ?_
      refine lv_icmp_ge (tgt := 172) hx hb dc_Pr_findReached_119 (by decide) (fun _ => ?_) (fun h9 => absurd (by decide) h9)
      have hP9 := hP.sub (ws' := [(a1, .inr (7, [.ref a2, .ref a3, .ref a4, .ref a5, .ref a6, .int 0, .ref a7])), (a2, .inr (1, [.int 0, .ref a8, .ref a9, .ref a10, .ref a11, .ref a12, .ref a13, .ref a14, .int 0])), (a7, .inl (k3, 64, .inr (.inl g4)))]) [0, 1, 2] rfl
      have hD9 := hD.sub (ws' := [(a1, .inr (7, [.ref a2, .ref a3, .ref a4, .ref a5, .ref a6, .int 0, .ref a7])), (a2, .inr (1, [.int 0, .ref a8, .ref a9, .ref a10, .ref a11, .ref a12, .ref a13, .ref a14, .int 0])), (a7, .inl (k3, 64, .inr (.inl g4)))]) [0, 1, 2] (by decide) rfl
      have hK9 := hK.sub (tys' := [(k3, .long)]) [0] rfl
      refine W.widen (k := 0) (n := 0) (Nat.le_of_ble_eq_true rfl) (Nat.le_of_ble_eq_true rfl) ?_
      exact W.vret hx hb hr (fun t ht hW => ⟨⟨(), rfl, trivial, g4, by rw [ht]; exact hP9, va_K.moved hW.alike hK9, hD9⟩, hS.F ht⟩) hS.2.2 dc_Pr_findReached_172

set_option maxHeartbeats 4000000 in
set_option maxRecDepth 100000 in
theorem c_Pr_placeOfCycle_1 (l : Launch) (dC : Nat → ClassId) (dI : Nat → Nat → Nat) (a1 : Nat) (a2 : Nat) (a3 : Nat) (a4 : Nat) (a5 : Nat) (a6 : Nat) (a7 : Nat) (a8 : Nat) (a9 : Nat) (a10 : Nat) (a11 : Nat) (a12 : Nat) (a13 : Nat) (a14 : Nat) (k3 : ClassId) (sz : Nat) : Met l my_Pr_placeOfCycle (Cond.code my_Pr_placeOfCycle cd_Pr_placeOfCycle 4 (some (.int)) :: tblG) ({ frames := 1, cells := 0, slots := 0, locals := 23 }) (va_Pc [.ref a1] (fun U => U.heap.size = sz ∧ va_P (dC, dI) vwCl [(a1, .inr (7, [.ref a2, .ref a3, .ref a4, .ref a5, .ref a6, .int 0, .ref a7])), (a2, .inr (1, [.int 0, .ref a8, .ref a9, .ref a10, .ref a11, .ref a12, .ref a13, .ref a14, .int 0])), (a7, .inl (k3, 64, .inr (.inl (fun _ => 0))))] U.heap ∧ va_K (dC, dI) vwCl [(k3, .long)] U ∧ va_D (fun _ => True) [(a1, .inr (7, [.ref a2, .ref a3, .ref a4, .ref a5, .ref a6, .int 0, .ref a7])), (a2, .inr (1, [.int 0, .ref a8, .ref a9, .ref a10, .ref a11, .ref a12, .ref a13, .ref a14, .int 0])), (a7, .inl (k3, 64, .inr (.inl (fun _ => 0))))])) (va_Qi (fun (r : Int32) (_ : Unit) => r = (-1)) (fun (_ : Unit) (t : State) => ∃ (u2 : Nat → Int64), va_P (dC, dI) vwCl [(a1, .inr (7, [.ref a2, .ref a3, .ref a4, .ref a5, .ref a6, .int 0, .ref a7])), (a2, .inr (1, [.int 0, .ref a8, .ref a9, .ref a10, .ref a11, .ref a12, .ref a13, .ref a14, .int 0])), (a7, .inl (k3, 64, .inr (.inl u2)))] t.heap ∧ va_K (dC, dI) vwCl [(k3, .long)] t ∧ va_D (va_A [(a1, .inr (7, [.ref a2, .ref a3, .ref a4, .ref a5, .ref a6, .int 0, .ref a7])), (a2, .inr (1, [.int 0, .ref a8, .ref a9, .ref a10, .ref a11, .ref a12, .ref a13, .ref a14, .int 0])), (a7, .inl (k3, 64, .inr (.inl (fun _ => 0))))] sz) [(a1, .inr (7, [.ref a2, .ref a3, .ref a4, .ref a5, .ref a6, .int 0, .ref a7])), (a2, .inr (1, [.int 0, .ref a8, .ref a9, .ref a10, .ref a11, .ref a12, .ref a13, .ref a14, .int 0])), (a7, .inl (k3, 64, .inr (.inl u2)))]) (va_A [(a1, .inr (7, [.ref a2, .ref a3, .ref a4, .ref a5, .ref a6, .int 0, .ref a7])), (a2, .inr (1, [.int 0, .ref a8, .ref a9, .ref a10, .ref a11, .ref a12, .ref a13, .ref a14, .int 0])), (a7, .inl (k3, 64, .inr (.inl (fun _ => 0))))] sz)) 0 0 (va_A [(a1, .inr (7, [.ref a2, .ref a3, .ref a4, .ref a5, .ref a6, .int 0, .ref a7])), (a2, .inr (1, [.int 0, .ref a8, .ref a9, .ref a10, .ref a11, .ref a12, .ref a13, .ref a14, .int 0])), (a7, .inl (k3, 64, .inr (.inl (fun _ => 0))))] sz) := by
  refine Met.ofW (cc := cd_Pr_placeOfCycle) (maxL := 4) (ret := (some (.int))) (by decide) rfl ?_
  intro p e s m args below meth c s₁ B hml hv
  obtain ⟨rfl, hsz, hP, hK, hD0⟩ := hv
  have hx := B.exec
  have hb := B.bytes
  have hr := B.returns
  have hT : ∀ w ∈ tblG, w.before _ s = true := fun w h => atoms_spec (ws := (Cond.code my_Pr_placeOfCycle cd_Pr_placeOfCycle 4 (some (.int)) :: tblG)) B.pre w (List.mem_cons_of_mem _ h)
  have hown : s.vm.findClass "StrataBase$Program" = some m.cls := findClass_of_methodNamed B.named
  have hlocks := B.notSynchronized
  subst hsz
  have hD := hD0.self (sz := s.heap.size)
  generalize hAe : va_A [(a1, .inr (7, [.ref a2, .ref a3, .ref a4, .ref a5, .ref a6, .int 0, .ref a7])), (a2, .inr (1, [.int 0, .ref a8, .ref a9, .ref a10, .ref a11, .ref a12, .ref a13, .ref a14, .int 0])), (a7, .inl (k3, 64, .inr (.inl (fun _ => 0))))] s.heap.size = A at hD ⊢
  have hA : ∀ q : Nat, s.heap.size ≤ q → A q := fun q h => by rw [← hAe]; exact Or.inr h
  have hS : va_S A s.heap s.heap [] := va_S.rf
  have hl := lv_entry ([.ref a1]) (n := 4) (Nat.le_of_ble_eq_true rfl)
  rw [lg_entry_eq]
  generalize (lg_sl ([.ref a1]) ++ List.replicate (4 - (lg_sl ([.ref a1])).length) Slot.unset).toArray = ls at hl ⊢
  have hl : lv_has ls 4 [(0, .ref a1)] := hl
  refine lv_aload_n hx hb dc_Pr_placeOfCycle_0 rfl (lv_at hl 0 rfl) ?_
  have hPc := hP.sub (ws' := [(a1, .inr (7, [.ref a2, .ref a3, .ref a4, .ref a5, .ref a6, .int 0, .ref a7])), (a2, .inr (1, [.int 0, .ref a8, .ref a9, .ref a10, .ref a11, .ref a12, .ref a13, .ref a14, .int 0])), (a7, .inl (k3, 64, .inr (.inl (fun _ => 0))))]) [0, 1, 2] rfl
  have hDc := hD.sub (ws' := [(a1, .inr (7, [.ref a2, .ref a3, .ref a4, .ref a5, .ref a6, .int 0, .ref a7])), (a2, .inr (1, [.int 0, .ref a8, .ref a9, .ref a10, .ref a11, .ref a12, .ref a13, .ref a14, .int 0])), (a7, .inl (k3, 64, .inr (.inl (fun _ => 0))))]) [0, 1, 2] (by decide) rfl
  have hKc := hK.sub (tys' := [(k3, .long)]) [0] rfl
  have hFc := va_free (wc := [(a1, .inr (7, [.ref a2, .ref a3, .ref a4, .ref a5, .ref a6, .int 0, .ref a7])), (a2, .inr (1, [.int 0, .ref a8, .ref a9, .ref a10, .ref a11, .ref a12, .ref a13, .ref a14, .int 0])), (a7, .inl (k3, 64, .inr (.inl (fun _ => 0))))]) hD hS hA [0, 1, 2] rfl
  refine va_callv (va_runV (As := []) (rest := []) ⟨hx, hb, hml, hown, hT⟩ (c_Pr_findReached_1 l dC dI a1 a2 a3 a4 a5 a6 a7 a8 a9 a10 a11 a12 a13 a14 k3 s.heap.size) (cwV 0 hT (gd_V wd_864 wd_866 sl_Pr_findReached wd_2 wd_867) rfl rfl rfl (by decide +kernel) ⟨Nat.le_of_ble_eq_true rfl, Nat.le_of_ble_eq_true rfl⟩) ⟨fun a U g mk q => by obtain ⟨q0, q1, qP, qK, qD⟩ := q; exact ⟨q0, q1, qP, va_K.moved (u := U) (U := U.calling g mk a) (Vm.Alike.refl U.vm) qK, qD⟩, va_recv hK hP (q0 := 0) (ci := 7) rfl rfl, fun U hU hW => ⟨rfl, by rw [hU], by rw [hU]; exact hPc, va_K.moved hW.alike hKc, hDc.weaken (fun _ _ _ _ => trivial)⟩⟩ rfl rfl hl.1 rfl (lv_room (Nat.le_of_ble_eq_true rfl)) dc_Pr_placeOfCycle_1 ⟨(Nat.le_of_ble_eq_true rfl), (Nat.le_of_ble_eq_true rfl)⟩) hS (fun q _ h => hFc q h) hFc (fun _ t H1 locs ht hvm hr9 hB hz1 hk1 hS => ?_)
  obtain ⟨u2, hP1, hK1, hD1⟩ := hB
  rw [ht] at hP1
  have hK1 := va_K.moved hvm.symm hK1
  obtain ⟨hP, hD⟩ := va_join (wr := []) (w1 := [(a1, .inr (7, [.ref a2, .ref a3, .ref a4, .ref a5, .ref a6, .int 0, .ref a7])), (a2, .inr (1, [.int 0, .ref a8, .ref a9, .ref a10, .ref a11, .ref a12, .ref a13, .ref a14, .int 0])), (a7, .inl (k3, 64, .inr (.inl u2)))]) hP hD [0, 1, 2] [] rfl rfl (by decide) (by decide) hk1 hFc hP1 hD1
  have hK := (hK.sub (tys' := []) [] rfl).app hK1
  generalize H1 = H at hP hS ⊢
  have hP : va_P (dC, dI) vwCl [(a1, .inr (7, [.ref a2, .ref a3, .ref a4, .ref a5, .ref a6, .int 0, .ref a7])), (a2, .inr (1, [.int 0, .ref a8, .ref a9, .ref a10, .ref a11, .ref a12, .ref a13, .ref a14, .int 0])), (a7, .inl (k3, 64, .inr (.inl u2)))] H := hP
  have hD : va_D A [(a1, .inr (7, [.ref a2, .ref a3, .ref a4, .ref a5, .ref a6, .int 0, .ref a7])), (a2, .inr (1, [.int 0, .ref a8, .ref a9, .ref a10, .ref a11, .ref a12, .ref a13, .ref a14, .int 0])), (a7, .inl (k3, 64, .inr (.inl u2)))] := hD
  have hK : va_K (dC, dI) vwCl [(k3, .long)] s := hK
  refine lv_iconst (v := 0) hx hb dc_Pr_placeOfCycle_4 (by decide) ?_
  refine lv_istore_n (lv' := [(1, .int 0), (0, .ref a1)]) hx hb dc_Pr_placeOfCycle_5 rfl hl (by decide) rfl (fun ls hl => ?_)
  refine lv_iload_n hx hb dc_Pr_placeOfCycle_6 rfl (lv_at hl 0 rfl) ?_
  refine lv_aload_n hx hb dc_Pr_placeOfCycle_7 rfl (lv_at hl 1 rfl) ?_
  refine va_get (D := (dC, dI)) (ci := 7) (v := .ref a2) (C := "StrataBase$Program") (T := tb_Pr) (N := 7) hx hb hT in_Pr hown hK hP 0 rfl rfl 0 (by decide) (hT _ wd_145) (fun _ h9 => h9) rfl dc_Pr_placeOfCycle_8 ?_
  refine va_get (D := (dC, dI)) (ci := 1) (v := .int 0) (C := "StrataBase$Clauses") (T := tb_Cl) (N := 9) hx hb hT in_Cl hown hK hP 1 rfl rfl 0 (by decide) (hT _ wd_47) (fun _ h9 => h9) rfl dc_Pr_placeOfCycle_11 ?_
  refine lv_icmp_ge (tgt := 108) hx hb dc_Pr_placeOfCycle_14 (by decide) (fun _ => ?_) (fun h9 => absurd (by decide) h9)
  refine lv_iconst (v := (-1)) hx hb dc_Pr_placeOfCycle_108 (by decide) ?_
  have hP9 := hP.sub (ws' := [(a1, .inr (7, [.ref a2, .ref a3, .ref a4, .ref a5, .ref a6, .int 0, .ref a7])), (a2, .inr (1, [.int 0, .ref a8, .ref a9, .ref a10, .ref a11, .ref a12, .ref a13, .ref a14, .int 0])), (a7, .inl (k3, 64, .inr (.inl u2)))]) [0, 1, 2] rfl
  have hD9 := hD.sub (ws' := [(a1, .inr (7, [.ref a2, .ref a3, .ref a4, .ref a5, .ref a6, .int 0, .ref a7])), (a2, .inr (1, [.int 0, .ref a8, .ref a9, .ref a10, .ref a11, .ref a12, .ref a13, .ref a14, .int 0])), (a7, .inl (k3, 64, .inr (.inl u2)))]) [0, 1, 2] (by decide) rfl
  have hK9 := hK.sub (tys' := [(k3, .long)]) [0] rfl
  refine W.widen (k := 0) (n := 0) (Nat.le_of_ble_eq_true rfl) (Nat.le_of_ble_eq_true rfl) ?_
  exact W.iret (v := (-1)) hx hb hr (fun t ht hW => ⟨⟨(-1), (), rfl, rfl, u2, by rw [ht]; exact hP9, va_K.moved hW.alike hK9, hD9⟩, hS.F ht⟩) hS.2.2 dc_Pr_placeOfCycle_109

set_option maxHeartbeats 4000000 in
set_option maxRecDepth 100000 in
theorem c_Re_checkCycle_1 (l : Launch) (dC : Nat → ClassId) (dI : Nat → Nat → Nat) (a1 : Nat) (a2 : Nat) (a3 : Nat) (a4 : Nat) (a5 : Nat) (a6 : Nat) (a7 : Nat) (a8 : Nat) (a9 : Nat) (a14 : Nat) (a15 : Nat) (a16 : Nat) (a17 : Nat) (a18 : Nat) (a19 : Nat) (a20 : Nat) (a21 : Nat) (a22 : Nat) (a23 : Nat) (a24 : Nat) (a25 : Nat) (k4 : ClassId) (sz : Nat) : Met l my_Re_checkCycle (Cond.code my_Re_checkCycle cd_Re_checkCycle 2 none :: tblG) ({ frames := 2, cells := 0, slots := 0, locals := 46 }) (va_Pc [.ref a1] (fun U => U.heap.size = sz ∧ va_P (dC, dI) vwCl [(a1, .inr (8, [.int 0, .int 0, .ref a2, .int 0, .ref a3, .int 0, .int 12, .ref a4, .ref a5, .int 0, .int 0, .int 0, .int 0, .int 0, .int 0, .ref a6, .ref a7, .ref a8, .ref a9])), (a4, .inr (7, [.ref a5, .ref a14, .ref a15, .ref a16, .ref a17, .int 0, .ref a18])), (a5, .inr (1, [.int 0, .ref a19, .ref a20, .ref a21, .ref a22, .ref a23, .ref a24, .ref a25, .int 0])), (a18, .inl (k4, 64, .inr (.inl (fun _ => 0))))] U.heap ∧ va_K (dC, dI) vwCl [(k4, .long)] U ∧ va_D (fun _ => True) [(a1, .inr (8, [.int 0, .int 0, .ref a2, .int 0, .ref a3, .int 0, .int 12, .ref a4, .ref a5, .int 0, .int 0, .int 0, .int 0, .int 0, .int 0, .ref a6, .ref a7, .ref a8, .ref a9])), (a4, .inr (7, [.ref a5, .ref a14, .ref a15, .ref a16, .ref a17, .int 0, .ref a18])), (a5, .inr (1, [.int 0, .ref a19, .ref a20, .ref a21, .ref a22, .ref a23, .ref a24, .ref a25, .int 0])), (a18, .inl (k4, 64, .inr (.inl (fun _ => 0))))])) (va_Qv (fun _ : Unit => True) (fun (_ : Unit) (t : State) => ∃ (u2 : Nat → Int64), va_P (dC, dI) vwCl [(a1, .inr (8, [.int 0, .int 0, .ref a2, .int 0, .ref a3, .int 0, .int 12, .ref a4, .ref a5, .int 0, .int 0, .int 0, .int 0, .int 0, .int 0, .ref a6, .ref a7, .ref a8, .ref a9])), (a4, .inr (7, [.ref a5, .ref a14, .ref a15, .ref a16, .ref a17, .int 0, .ref a18])), (a5, .inr (1, [.int 0, .ref a19, .ref a20, .ref a21, .ref a22, .ref a23, .ref a24, .ref a25, .int 0])), (a18, .inl (k4, 64, .inr (.inl u2)))] t.heap ∧ va_K (dC, dI) vwCl [(k4, .long)] t ∧ va_D (va_A [(a1, .inr (8, [.int 0, .int 0, .ref a2, .int 0, .ref a3, .int 0, .int 12, .ref a4, .ref a5, .int 0, .int 0, .int 0, .int 0, .int 0, .int 0, .ref a6, .ref a7, .ref a8, .ref a9])), (a4, .inr (7, [.ref a5, .ref a14, .ref a15, .ref a16, .ref a17, .int 0, .ref a18])), (a5, .inr (1, [.int 0, .ref a19, .ref a20, .ref a21, .ref a22, .ref a23, .ref a24, .ref a25, .int 0])), (a18, .inl (k4, 64, .inr (.inl (fun _ => 0))))] sz) [(a1, .inr (8, [.int 0, .int 0, .ref a2, .int 0, .ref a3, .int 0, .int 12, .ref a4, .ref a5, .int 0, .int 0, .int 0, .int 0, .int 0, .int 0, .ref a6, .ref a7, .ref a8, .ref a9])), (a4, .inr (7, [.ref a5, .ref a14, .ref a15, .ref a16, .ref a17, .int 0, .ref a18])), (a5, .inr (1, [.int 0, .ref a19, .ref a20, .ref a21, .ref a22, .ref a23, .ref a24, .ref a25, .int 0])), (a18, .inl (k4, 64, .inr (.inl u2)))]) (va_A [(a1, .inr (8, [.int 0, .int 0, .ref a2, .int 0, .ref a3, .int 0, .int 12, .ref a4, .ref a5, .int 0, .int 0, .int 0, .int 0, .int 0, .int 0, .ref a6, .ref a7, .ref a8, .ref a9])), (a4, .inr (7, [.ref a5, .ref a14, .ref a15, .ref a16, .ref a17, .int 0, .ref a18])), (a5, .inr (1, [.int 0, .ref a19, .ref a20, .ref a21, .ref a22, .ref a23, .ref a24, .ref a25, .int 0])), (a18, .inl (k4, 64, .inr (.inl (fun _ => 0))))] sz)) 0 0 (va_A [(a1, .inr (8, [.int 0, .int 0, .ref a2, .int 0, .ref a3, .int 0, .int 12, .ref a4, .ref a5, .int 0, .int 0, .int 0, .int 0, .int 0, .int 0, .ref a6, .ref a7, .ref a8, .ref a9])), (a4, .inr (7, [.ref a5, .ref a14, .ref a15, .ref a16, .ref a17, .int 0, .ref a18])), (a5, .inr (1, [.int 0, .ref a19, .ref a20, .ref a21, .ref a22, .ref a23, .ref a24, .ref a25, .int 0])), (a18, .inl (k4, 64, .inr (.inl (fun _ => 0))))] sz) := by
  refine Met.ofW (cc := cd_Re_checkCycle) (maxL := 2) (ret := none) (by decide) rfl ?_
  intro p e s m args below meth c s₁ B hml hv
  obtain ⟨rfl, hsz, hP, hK, hD0⟩ := hv
  have hx := B.exec
  have hb := B.bytes
  have hr := B.returns
  have hT : ∀ w ∈ tblG, w.before _ s = true := fun w h => atoms_spec (ws := (Cond.code my_Re_checkCycle cd_Re_checkCycle 2 none :: tblG)) B.pre w (List.mem_cons_of_mem _ h)
  have hown : s.vm.findClass "StrataBase$Reader" = some m.cls := findClass_of_methodNamed B.named
  have hlocks := B.notSynchronized
  subst hsz
  have hD := hD0.self (sz := s.heap.size)
  generalize hAe : va_A [(a1, .inr (8, [.int 0, .int 0, .ref a2, .int 0, .ref a3, .int 0, .int 12, .ref a4, .ref a5, .int 0, .int 0, .int 0, .int 0, .int 0, .int 0, .ref a6, .ref a7, .ref a8, .ref a9])), (a4, .inr (7, [.ref a5, .ref a14, .ref a15, .ref a16, .ref a17, .int 0, .ref a18])), (a5, .inr (1, [.int 0, .ref a19, .ref a20, .ref a21, .ref a22, .ref a23, .ref a24, .ref a25, .int 0])), (a18, .inl (k4, 64, .inr (.inl (fun _ => 0))))] s.heap.size = A at hD ⊢
  have hA : ∀ q : Nat, s.heap.size ≤ q → A q := fun q h => by rw [← hAe]; exact Or.inr h
  have hS : va_S A s.heap s.heap [] := va_S.rf
  have hl := lv_entry ([.ref a1]) (n := 2) (Nat.le_of_ble_eq_true rfl)
  rw [lg_entry_eq]
  generalize (lg_sl ([.ref a1]) ++ List.replicate (2 - (lg_sl ([.ref a1])).length) Slot.unset).toArray = ls at hl ⊢
  have hl : lv_has ls 2 [(0, .ref a1)] := hl
  refine lv_aload_n hx hb dc_Re_checkCycle_0 rfl (lv_at hl 0 rfl) ?_
  refine va_get (D := (dC, dI)) (ci := 8) (v := .int 0) (C := "StrataBase$Reader") (T := tb_Re) (N := 19) hx hb hT in_Re hown hK hP 0 rfl rfl 0 (by decide) (hT _ wd_220) (fun _ h9 => h9) rfl dc_Re_checkCycle_1 ?_
  refine lv_if_ne (tgt := 17) hx hb dc_Re_checkCycle_4 (by decide) (fun h9 => absurd (by decide) h9) (fun _ => ?_)
  refine lv_aload_n hx hb dc_Re_checkCycle_7 rfl (lv_at hl 0 rfl) ?_
  refine va_get (D := (dC, dI)) (ci := 8) (v := .ref a4) (C := "StrataBase$Reader") (T := tb_Re) (N := 19) hx hb hT in_Re hown hK hP 0 rfl rfl 7 (by decide) (hT _ wd_231) (fun _ h9 => h9) rfl dc_Re_checkCycle_8 ?_
  have hPc := hP.sub (ws' := [(a4, .inr (7, [.ref a5, .ref a14, .ref a15, .ref a16, .ref a17, .int 0, .ref a18])), (a5, .inr (1, [.int 0, .ref a19, .ref a20, .ref a21, .ref a22, .ref a23, .ref a24, .ref a25, .int 0])), (a18, .inl (k4, 64, .inr (.inl (fun _ => 0))))]) [1, 2, 3] rfl
  have hDc := hD.sub (ws' := [(a4, .inr (7, [.ref a5, .ref a14, .ref a15, .ref a16, .ref a17, .int 0, .ref a18])), (a5, .inr (1, [.int 0, .ref a19, .ref a20, .ref a21, .ref a22, .ref a23, .ref a24, .ref a25, .int 0])), (a18, .inl (k4, 64, .inr (.inl (fun _ => 0))))]) [1, 2, 3] (by decide) rfl
  have hKc := hK.sub (tys' := [(k4, .long)]) [0] rfl
  have hFc := va_free (wc := [(a4, .inr (7, [.ref a5, .ref a14, .ref a15, .ref a16, .ref a17, .int 0, .ref a18])), (a5, .inr (1, [.int 0, .ref a19, .ref a20, .ref a21, .ref a22, .ref a23, .ref a24, .ref a25, .int 0])), (a18, .inl (k4, 64, .inr (.inl (fun _ => 0))))]) hD hS hA [1, 2, 3] rfl
  refine va_calli (va_runV (As := []) (rest := []) ⟨hx, hb, hml, hown, hT⟩ (c_Pr_placeOfCycle_1 l dC dI a4 a5 a14 a15 a16 a17 a18 a19 a20 a21 a22 a23 a24 a25 k4 s.heap.size) (cwV 0 hT (gd_V wd_860 wd_861 wd_862 wd_2 wd_863) rfl rfl rfl (by decide +kernel) ⟨Nat.le_of_ble_eq_true rfl, Nat.le_of_ble_eq_true rfl⟩) ⟨fun a U g mk q => by obtain ⟨q0, q1, qP, qK, qD⟩ := q; exact ⟨q0, q1, qP, va_K.moved (u := U) (U := U.calling g mk a) (Vm.Alike.refl U.vm) qK, qD⟩, va_recv hK hP (q0 := 1) (ci := 7) rfl rfl, fun U hU hW => ⟨rfl, by rw [hU], by rw [hU]; exact hPc, va_K.moved hW.alike hKc, hDc.weaken (fun _ _ _ _ => trivial)⟩⟩ rfl rfl hl.1 rfl (lv_room (Nat.le_of_ble_eq_true rfl)) dc_Re_checkCycle_11 ⟨(Nat.le_of_ble_eq_true rfl), (Nat.le_of_ble_eq_true rfl)⟩) hS (fun q _ h => hFc q h) hFc (fun r1 _ t H1 locs ht hvm hr9 hB hz1 hk1 hS => ?_)
  obtain ⟨u2, hP1, hK1, hD1⟩ := hB
  rw [ht] at hP1
  have hK1 := va_K.moved hvm.symm hK1
  obtain ⟨hP, hD⟩ := va_join (wr := [(a1, .inr (8, [.int 0, .int 0, .ref a2, .int 0, .ref a3, .int 0, .int 12, .ref a4, .ref a5, .int 0, .int 0, .int 0, .int 0, .int 0, .int 0, .ref a6, .ref a7, .ref a8, .ref a9]))]) (w1 := [(a4, .inr (7, [.ref a5, .ref a14, .ref a15, .ref a16, .ref a17, .int 0, .ref a18])), (a5, .inr (1, [.int 0, .ref a19, .ref a20, .ref a21, .ref a22, .ref a23, .ref a24, .ref a25, .int 0])), (a18, .inl (k4, 64, .inr (.inl u2)))]) hP hD [1, 2, 3] [0] rfl rfl (by decide) (by decide) hk1 hFc hP1 hD1
  have hK := (hK.sub (tys' := []) [] rfl).app hK1
  generalize H1 = H at hP hS ⊢
  have hP : va_P (dC, dI) vwCl [(a1, .inr (8, [.int 0, .int 0, .ref a2, .int 0, .ref a3, .int 0, .int 12, .ref a4, .ref a5, .int 0, .int 0, .int 0, .int 0, .int 0, .int 0, .ref a6, .ref a7, .ref a8, .ref a9])), (a4, .inr (7, [.ref a5, .ref a14, .ref a15, .ref a16, .ref a17, .int 0, .ref a18])), (a5, .inr (1, [.int 0, .ref a19, .ref a20, .ref a21, .ref a22, .ref a23, .ref a24, .ref a25, .int 0])), (a18, .inl (k4, 64, .inr (.inl u2)))] H := hP
  have hD : va_D A [(a1, .inr (8, [.int 0, .int 0, .ref a2, .int 0, .ref a3, .int 0, .int 12, .ref a4, .ref a5, .int 0, .int 0, .int 0, .int 0, .int 0, .int 0, .ref a6, .ref a7, .ref a8, .ref a9])), (a4, .inr (7, [.ref a5, .ref a14, .ref a15, .ref a16, .ref a17, .int 0, .ref a18])), (a5, .inr (1, [.int 0, .ref a19, .ref a20, .ref a21, .ref a22, .ref a23, .ref a24, .ref a25, .int 0])), (a18, .inl (k4, 64, .inr (.inl u2)))] := hD
  have hK : va_K (dC, dI) vwCl [(k4, .long)] s := hK
  have hr9 : r1 = (-1) := hr9
  subst hr9
  refine lv_goto (tgt := 18) hx hb dc_Re_checkCycle_14 (by decide) ?_
  refine lv_istore_n (lv' := [(1, .int (-1)), (0, .ref a1)]) hx hb dc_Re_checkCycle_18 rfl hl (by decide) rfl (fun ls hl => ?_)
  refine lv_iload_n hx hb dc_Re_checkCycle_19 rfl (lv_at hl 0 rfl) ?_
  refine lv_iconst (v := (-1)) hx hb dc_Re_checkCycle_20 (by decide) ?_
  refine lv_icmp_eq (tgt := 31) hx hb dc_Re_checkCycle_21 (by decide) (fun _ => ?_) (fun h9 => absurd (by decide) h9)
  have hP9 := hP.sub (ws' := [(a1, .inr (8, [.int 0, .int 0, .ref a2, .int 0, .ref a3, .int 0, .int 12, .ref a4, .ref a5, .int 0, .int 0, .int 0, .int 0, .int 0, .int 0, .ref a6, .ref a7, .ref a8, .ref a9])), (a4, .inr (7, [.ref a5, .ref a14, .ref a15, .ref a16, .ref a17, .int 0, .ref a18])), (a5, .inr (1, [.int 0, .ref a19, .ref a20, .ref a21, .ref a22, .ref a23, .ref a24, .ref a25, .int 0])), (a18, .inl (k4, 64, .inr (.inl u2)))]) [0, 1, 2, 3] rfl
  have hD9 := hD.sub (ws' := [(a1, .inr (8, [.int 0, .int 0, .ref a2, .int 0, .ref a3, .int 0, .int 12, .ref a4, .ref a5, .int 0, .int 0, .int 0, .int 0, .int 0, .int 0, .ref a6, .ref a7, .ref a8, .ref a9])), (a4, .inr (7, [.ref a5, .ref a14, .ref a15, .ref a16, .ref a17, .int 0, .ref a18])), (a5, .inr (1, [.int 0, .ref a19, .ref a20, .ref a21, .ref a22, .ref a23, .ref a24, .ref a25, .int 0])), (a18, .inl (k4, 64, .inr (.inl u2)))]) [0, 1, 2, 3] (by decide) rfl
  have hK9 := hK.sub (tys' := [(k4, .long)]) [0] rfl
  refine W.widen (k := 0) (n := 0) (Nat.le_of_ble_eq_true rfl) (Nat.le_of_ble_eq_true rfl) ?_
  exact W.vret hx hb hr (fun t ht hW => ⟨⟨(), rfl, trivial, u2, by rw [ht]; exact hP9, va_K.moved hW.alike hK9, hD9⟩, hS.F ht⟩) hS.2.2 dc_Re_checkCycle_31

set_option maxHeartbeats 4000000 in
set_option maxRecDepth 100000 in
theorem c_SB_forgetTape_1 (l : Launch) (dC : Nat → ClassId) (dI : Nat → Nat → Nat) (a1 : Nat) (a2 : Nat) (a3 : Nat) (a4 : Nat) (a5 : Nat) (a6 : Nat) (a7 : Nat) (a8 : Nat) (a9 : Nat) (a10 : Nat) (a30 : Nat) (a31 : Nat) (a17 : Nat) (a32 : Nat) (a33 : Nat) (a34 : Nat) (a35 : Nat) (sz : Nat) : Met l my_SB_forgetTape (Cond.code my_SB_forgetTape cd_SB_forgetTape 1 none :: tblG) ({ frames := 0, cells := 0, slots := 0, locals := 0 }) (va_Pc [.ref a1] (fun U => U.heap.size = sz ∧ va_P (dC, dI) vwCl [(a1, .inr (0, [.ref a2, .int 0, .int 0, .ref a3, .ref a4, .ref a5, .ref a6, .ref a7, .ref a8, .ref a9, .ref a10, .int 0, .int 0])), (a6, .inr (8, [.int 0, .int 0, .ref a30, .int 0, .ref a31, .int 0, .int 12, .ref a4, .ref a17, .int 0, .int 0, .int 0, .int 0, .int 0, .int 0, .ref a32, .ref a33, .ref a34, .ref a35]))] U.heap ∧ va_K (dC, dI) vwCl [] U ∧ va_D (fun _ => True) [(a1, .inr (0, [.ref a2, .int 0, .int 0, .ref a3, .ref a4, .ref a5, .ref a6, .ref a7, .ref a8, .ref a9, .ref a10, .int 0, .int 0])), (a6, .inr (8, [.int 0, .int 0, .ref a30, .int 0, .ref a31, .int 0, .int 12, .ref a4, .ref a17, .int 0, .int 0, .int 0, .int 0, .int 0, .int 0, .ref a32, .ref a33, .ref a34, .ref a35]))])) (va_Qv (fun _ : Unit => True) (fun (_ : Unit) (t : State) => va_P (dC, dI) vwCl [(a1, .inr (0, [.ref a2, .int 0, .int 0, .ref a3, .ref a4, .ref a5, .ref a6, .ref a7, .ref a8, .ref a9, .ref a10, .int 0, .int 0])), (a6, .inr (8, [.int 0, .int 0, .ref a30, .int 0, .ref a31, .int 0, .int 12, .ref a4, .ref a17, .int 0, .int 0, .int 0, .int 0, .int 0, .int 0, .ref a32, .ref a33, .ref a34, .ref a35]))] t.heap ∧ va_K (dC, dI) vwCl [] t ∧ va_D (va_A [(a1, .inr (0, [.ref a2, .int 0, .int 0, .ref a3, .ref a4, .ref a5, .ref a6, .ref a7, .ref a8, .ref a9, .ref a10, .int 0, .int 0])), (a6, .inr (8, [.int 0, .int 0, .ref a30, .int 0, .ref a31, .int 0, .int 12, .ref a4, .ref a17, .int 0, .int 0, .int 0, .int 0, .int 0, .int 0, .ref a32, .ref a33, .ref a34, .ref a35]))] sz) [(a1, .inr (0, [.ref a2, .int 0, .int 0, .ref a3, .ref a4, .ref a5, .ref a6, .ref a7, .ref a8, .ref a9, .ref a10, .int 0, .int 0])), (a6, .inr (8, [.int 0, .int 0, .ref a30, .int 0, .ref a31, .int 0, .int 12, .ref a4, .ref a17, .int 0, .int 0, .int 0, .int 0, .int 0, .int 0, .ref a32, .ref a33, .ref a34, .ref a35]))]) (va_A [(a1, .inr (0, [.ref a2, .int 0, .int 0, .ref a3, .ref a4, .ref a5, .ref a6, .ref a7, .ref a8, .ref a9, .ref a10, .int 0, .int 0])), (a6, .inr (8, [.int 0, .int 0, .ref a30, .int 0, .ref a31, .int 0, .int 12, .ref a4, .ref a17, .int 0, .int 0, .int 0, .int 0, .int 0, .int 0, .ref a32, .ref a33, .ref a34, .ref a35]))] sz)) 0 0 (va_A [(a1, .inr (0, [.ref a2, .int 0, .int 0, .ref a3, .ref a4, .ref a5, .ref a6, .ref a7, .ref a8, .ref a9, .ref a10, .int 0, .int 0])), (a6, .inr (8, [.int 0, .int 0, .ref a30, .int 0, .ref a31, .int 0, .int 12, .ref a4, .ref a17, .int 0, .int 0, .int 0, .int 0, .int 0, .int 0, .ref a32, .ref a33, .ref a34, .ref a35]))] sz) := by
  refine Met.ofW (cc := cd_SB_forgetTape) (maxL := 1) (ret := none) (by decide) rfl ?_
  intro p e s m args below meth c s₁ B hml hv
  obtain ⟨rfl, hsz, hP, hK, hD0⟩ := hv
  have hx := B.exec
  have hb := B.bytes
  have hr := B.returns
  have hT : ∀ w ∈ tblG, w.before _ s = true := fun w h => atoms_spec (ws := (Cond.code my_SB_forgetTape cd_SB_forgetTape 1 none :: tblG)) B.pre w (List.mem_cons_of_mem _ h)
  have hown : s.vm.findClass "StrataBase" = some m.cls := findClass_of_methodNamed B.named
  have hlocks := B.notSynchronized
  subst hsz
  have hD := hD0.self (sz := s.heap.size)
  generalize hAe : va_A [(a1, .inr (0, [.ref a2, .int 0, .int 0, .ref a3, .ref a4, .ref a5, .ref a6, .ref a7, .ref a8, .ref a9, .ref a10, .int 0, .int 0])), (a6, .inr (8, [.int 0, .int 0, .ref a30, .int 0, .ref a31, .int 0, .int 12, .ref a4, .ref a17, .int 0, .int 0, .int 0, .int 0, .int 0, .int 0, .ref a32, .ref a33, .ref a34, .ref a35]))] s.heap.size = A at hD ⊢
  have hA : ∀ q : Nat, s.heap.size ≤ q → A q := fun q h => by rw [← hAe]; exact Or.inr h
  have hS : va_S A s.heap s.heap [] := va_S.rf
  have hl := lv_entry ([.ref a1]) (n := 1) (Nat.le_of_ble_eq_true rfl)
  rw [lg_entry_eq]
  generalize (lg_sl ([.ref a1]) ++ List.replicate (1 - (lg_sl ([.ref a1])).length) Slot.unset).toArray = ls at hl ⊢
  have hl : lv_has ls 1 [(0, .ref a1)] := hl
  refine lv_aload_n hx hb dc_SB_forgetTape_0 rfl (lv_at hl 0 rfl) ?_
  refine lv_aload_n hx hb dc_SB_forgetTape_1 rfl (lv_at hl 0 rfl) ?_
  refine va_get (D := (dC, dI)) (ci := 0) (v := .ref a6) (C := "StrataBase") (T := tb_SB) (N := 13) hx hb hT in_SB hown hK hP 0 rfl rfl 6 (by decide) (hT _ wd_523) (fun _ h9 => h9) rfl dc_SB_forgetTape_2 ?_
  refine va_get (D := (dC, dI)) (ci := 8) (v := .int 0) (C := "StrataBase$Reader") (T := tb_Re) (N := 19) hx hb hT in_Re hown hK hP 1 rfl rfl 0 (by decide) (hT _ wd_221) (fun _ h9 => h9) rfl dc_SB_forgetTape_5 ?_
  refine va_put (D := (dC, dI)) (ci := 0) (v := .int 0) (ty := .int) (C := "StrataBase") (T := tb_SB) (N := 13) hx hb hT in_SB ty_SB tk_SB nm_SB hown hK hP hD hS 0 rfl rfl 2 (by decide) (hT _ wd_519) (fun _ h9 => h9) rfl (by decide +kernel) rfl rfl (Nat.le_of_ble_eq_true rfl) dc_SB_forgetTape_8 (fun H locs hP hD hS => ?_)
  have hP : va_P (dC, dI) vwCl [(a1, .inr (0, [.ref a2, .int 0, .int 0, .ref a3, .ref a4, .ref a5, .ref a6, .ref a7, .ref a8, .ref a9, .ref a10, .int 0, .int 0])), (a6, .inr (8, [.int 0, .int 0, .ref a30, .int 0, .ref a31, .int 0, .int 12, .ref a4, .ref a17, .int 0, .int 0, .int 0, .int 0, .int 0, .int 0, .ref a32, .ref a33, .ref a34, .ref a35]))] H := hP
  have hD : va_D A [(a1, .inr (0, [.ref a2, .int 0, .int 0, .ref a3, .ref a4, .ref a5, .ref a6, .ref a7, .ref a8, .ref a9, .ref a10, .int 0, .int 0])), (a6, .inr (8, [.int 0, .int 0, .ref a30, .int 0, .ref a31, .int 0, .int 12, .ref a4, .ref a17, .int 0, .int 0, .int 0, .int 0, .int 0, .int 0, .ref a32, .ref a33, .ref a34, .ref a35]))] := hD
  refine lv_aload_n hx hb dc_SB_forgetTape_11 rfl (lv_at hl 0 rfl) ?_
  refine lv_iconst (v := 0) hx hb dc_SB_forgetTape_12 (by decide) ?_
  refine va_put (D := (dC, dI)) (ci := 0) (v := .int 0) (ty := .int) (C := "StrataBase") (T := tb_SB) (N := 13) hx hb hT in_SB ty_SB tk_SB nm_SB hown hK hP hD hS 0 rfl rfl 1 (by decide) (hT _ wd_518) (fun _ h9 => h9) rfl (by decide +kernel) rfl rfl (Nat.le_of_ble_eq_true rfl) dc_SB_forgetTape_13 (fun H locs hP hD hS => ?_)
  have hP : va_P (dC, dI) vwCl [(a1, .inr (0, [.ref a2, .int 0, .int 0, .ref a3, .ref a4, .ref a5, .ref a6, .ref a7, .ref a8, .ref a9, .ref a10, .int 0, .int 0])), (a6, .inr (8, [.int 0, .int 0, .ref a30, .int 0, .ref a31, .int 0, .int 12, .ref a4, .ref a17, .int 0, .int 0, .int 0, .int 0, .int 0, .int 0, .ref a32, .ref a33, .ref a34, .ref a35]))] H := hP
  have hD : va_D A [(a1, .inr (0, [.ref a2, .int 0, .int 0, .ref a3, .ref a4, .ref a5, .ref a6, .ref a7, .ref a8, .ref a9, .ref a10, .int 0, .int 0])), (a6, .inr (8, [.int 0, .int 0, .ref a30, .int 0, .ref a31, .int 0, .int 12, .ref a4, .ref a17, .int 0, .int 0, .int 0, .int 0, .int 0, .int 0, .ref a32, .ref a33, .ref a34, .ref a35]))] := hD
  have hP9 := hP.sub (ws' := [(a1, .inr (0, [.ref a2, .int 0, .int 0, .ref a3, .ref a4, .ref a5, .ref a6, .ref a7, .ref a8, .ref a9, .ref a10, .int 0, .int 0])), (a6, .inr (8, [.int 0, .int 0, .ref a30, .int 0, .ref a31, .int 0, .int 12, .ref a4, .ref a17, .int 0, .int 0, .int 0, .int 0, .int 0, .int 0, .ref a32, .ref a33, .ref a34, .ref a35]))]) [0, 1] rfl
  have hD9 := hD.sub (ws' := [(a1, .inr (0, [.ref a2, .int 0, .int 0, .ref a3, .ref a4, .ref a5, .ref a6, .ref a7, .ref a8, .ref a9, .ref a10, .int 0, .int 0])), (a6, .inr (8, [.int 0, .int 0, .ref a30, .int 0, .ref a31, .int 0, .int 12, .ref a4, .ref a17, .int 0, .int 0, .int 0, .int 0, .int 0, .int 0, .ref a32, .ref a33, .ref a34, .ref a35]))]) [0, 1] (by decide) rfl
  have hK9 := hK.sub (tys' := []) [] rfl
  refine W.widen (k := 0) (n := 0) (Nat.le_of_ble_eq_true rfl) (Nat.le_of_ble_eq_true rfl) ?_
  exact W.vret hx hb hr (fun t ht hW => ⟨⟨(), rfl, trivial, by rw [ht]; exact hP9, va_K.moved hW.alike hK9, hD9⟩, hS.F ht⟩) hS.2.2 dc_SB_forgetTape_16

set_option maxHeartbeats 4000000 in
set_option maxRecDepth 100000 in
theorem c_Co_setRanks_1 (l : Launch) (dC : Nat → ClassId) (dI : Nat → Nat → Nat) (a1 : Nat) (a2 : Nat) (a3 : Nat) (a4 : Nat) (a5 : Nat) (a6 : Nat) (a7 : Nat) (a8 : Nat) (sz : Nat) : Met l my_Co_setRanks (Cond.code my_Co_setRanks cd_Co_setRanks 2 none :: tblG) ({ frames := 0, cells := 0, slots := 0, locals := 0 }) (va_Pc [.ref a1] (fun U => U.heap.size = sz ∧ va_P (dC, dI) vwCl [(a1, .inr (2, [.ref a2, .ref a3, .ref a4, .ref a5])), (a2, .inr (6, [.int 0, .ref a6, .ref a7, .ref a8, .int 0]))] U.heap ∧ va_K (dC, dI) vwCl [] U ∧ va_D (fun _ => True) [(a1, .inr (2, [.ref a2, .ref a3, .ref a4, .ref a5])), (a2, .inr (6, [.int 0, .ref a6, .ref a7, .ref a8, .int 0]))])) (va_Qv (fun _ : Unit => True) (fun (_ : Unit) (t : State) => va_P (dC, dI) vwCl [(a1, .inr (2, [.ref a2, .ref a3, .ref a4, .ref a5])), (a2, .inr (6, [.int 0, .ref a6, .ref a7, .ref a8, .int 0]))] t.heap ∧ va_K (dC, dI) vwCl [] t ∧ va_D (va_A [(a1, .inr (2, [.ref a2, .ref a3, .ref a4, .ref a5])), (a2, .inr (6, [.int 0, .ref a6, .ref a7, .ref a8, .int 0]))] sz) [(a1, .inr (2, [.ref a2, .ref a3, .ref a4, .ref a5])), (a2, .inr (6, [.int 0, .ref a6, .ref a7, .ref a8, .int 0]))]) (va_A [(a1, .inr (2, [.ref a2, .ref a3, .ref a4, .ref a5])), (a2, .inr (6, [.int 0, .ref a6, .ref a7, .ref a8, .int 0]))] sz)) 0 0 (va_A [(a1, .inr (2, [.ref a2, .ref a3, .ref a4, .ref a5])), (a2, .inr (6, [.int 0, .ref a6, .ref a7, .ref a8, .int 0]))] sz) := by
  refine Met.ofW (cc := cd_Co_setRanks) (maxL := 2) (ret := none) (by decide) rfl ?_
  intro p e s m args below meth c s₁ B hml hv
  obtain ⟨rfl, hsz, hP, hK, hD0⟩ := hv
  have hx := B.exec
  have hb := B.bytes
  have hr := B.returns
  have hT : ∀ w ∈ tblG, w.before _ s = true := fun w h => atoms_spec (ws := (Cond.code my_Co_setRanks cd_Co_setRanks 2 none :: tblG)) B.pre w (List.mem_cons_of_mem _ h)
  have hown : s.vm.findClass "StrataBase$Constants" = some m.cls := findClass_of_methodNamed B.named
  have hlocks := B.notSynchronized
  subst hsz
  have hD := hD0.self (sz := s.heap.size)
  generalize hAe : va_A [(a1, .inr (2, [.ref a2, .ref a3, .ref a4, .ref a5])), (a2, .inr (6, [.int 0, .ref a6, .ref a7, .ref a8, .int 0]))] s.heap.size = A at hD ⊢
  have hA : ∀ q : Nat, s.heap.size ≤ q → A q := fun q h => by rw [← hAe]; exact Or.inr h
  have hS : va_S A s.heap s.heap [] := va_S.rf
  have hl := lv_entry ([.ref a1]) (n := 2) (Nat.le_of_ble_eq_true rfl)
  rw [lg_entry_eq]
  generalize (lg_sl ([.ref a1]) ++ List.replicate (2 - (lg_sl ([.ref a1])).length) Slot.unset).toArray = ls at hl ⊢
  have hl : lv_has ls 2 [(0, .ref a1)] := hl
  refine lv_iconst (v := 0) hx hb dc_Co_setRanks_0 (by decide) ?_
  refine lv_istore_n (lv' := [(1, .int 0), (0, .ref a1)]) hx hb dc_Co_setRanks_1 rfl hl (by decide) rfl (fun ls hl => ?_)
  refine lv_iload_n hx hb dc_Co_setRanks_2 rfl (lv_at hl 0 rfl) ?_
  refine lv_aload_n hx hb dc_Co_setRanks_3 rfl (lv_at hl 1 rfl) ?_
  refine va_get (D := (dC, dI)) (ci := 2) (v := .ref a2) (C := "StrataBase$Constants") (T := tb_Co) (N := 4) hx hb hT in_Co hown hK hP 0 rfl rfl 0 (by decide) (hT _ wd_132) (fun _ h9 => h9) rfl dc_Co_setRanks_4 ?_
  refine va_get (D := (dC, dI)) (ci := 6) (v := .int 0) (C := "StrataBase$Names") (T := tb_Na) (N := 5) hx hb hT in_Na hown hK hP 1 rfl rfl 0 (by decide) (hT _ wd_105) (fun _ h9 => h9) rfl dc_Co_setRanks_7 ?_
  refine lv_icmp_ge (tgt := 31) hx hb dc_Co_setRanks_10 (by decide) (fun _ => ?_) (fun h9 => absurd (by decide) h9)
  have hP9 := hP.sub (ws' := [(a1, .inr (2, [.ref a2, .ref a3, .ref a4, .ref a5])), (a2, .inr (6, [.int 0, .ref a6, .ref a7, .ref a8, .int 0]))]) [0, 1] rfl
  have hD9 := hD.sub (ws' := [(a1, .inr (2, [.ref a2, .ref a3, .ref a4, .ref a5])), (a2, .inr (6, [.int 0, .ref a6, .ref a7, .ref a8, .int 0]))]) [0, 1] (by decide) rfl
  have hK9 := hK.sub (tys' := []) [] rfl
  refine W.widen (k := 0) (n := 0) (Nat.le_of_ble_eq_true rfl) (Nat.le_of_ble_eq_true rfl) ?_
  exact W.vret hx hb hr (fun t ht hW => ⟨⟨(), rfl, trivial, by rw [ht]; exact hP9, va_K.moved hW.alike hK9, hD9⟩, hS.F ht⟩) hS.2.2 dc_Co_setRanks_31

set_option maxHeartbeats 4000000 in
set_option maxRecDepth 100000 in
theorem c_Cl_newest_1 (l : Launch) (dC : Nat → ClassId) (dI : Nat → Nat → Nat) (a1 : Nat) (a2 : Nat) (a3 : Nat) (a4 : Nat) (a5 : Nat) (a6 : Nat) (a7 : Nat) (a8 : Nat) (sz : Nat) : Met l my_Cl_newest (Cond.code my_Cl_newest cd_Cl_newest 1 (some (.int)) :: tblG) ({ frames := 0, cells := 0, slots := 0, locals := 0 }) (va_Pc [.ref a1] (fun U => U.heap.size = sz ∧ va_P (dC, dI) vwCl [(a1, .inr (1, [.int 0, .ref a2, .ref a3, .ref a4, .ref a5, .ref a6, .ref a7, .ref a8, .int 0]))] U.heap ∧ va_K (dC, dI) vwCl [] U ∧ va_D (fun _ => True) [(a1, .inr (1, [.int 0, .ref a2, .ref a3, .ref a4, .ref a5, .ref a6, .ref a7, .ref a8, .int 0]))])) (va_Qi (fun (r : Int32) (_ : Unit) => r = (-1)) (fun (_ : Unit) (t : State) => va_P (dC, dI) vwCl [(a1, .inr (1, [.int 0, .ref a2, .ref a3, .ref a4, .ref a5, .ref a6, .ref a7, .ref a8, .int 0]))] t.heap ∧ va_K (dC, dI) vwCl [] t ∧ va_D (va_A [(a1, .inr (1, [.int 0, .ref a2, .ref a3, .ref a4, .ref a5, .ref a6, .ref a7, .ref a8, .int 0]))] sz) [(a1, .inr (1, [.int 0, .ref a2, .ref a3, .ref a4, .ref a5, .ref a6, .ref a7, .ref a8, .int 0]))]) (va_A [(a1, .inr (1, [.int 0, .ref a2, .ref a3, .ref a4, .ref a5, .ref a6, .ref a7, .ref a8, .int 0]))] sz)) 0 0 (va_A [(a1, .inr (1, [.int 0, .ref a2, .ref a3, .ref a4, .ref a5, .ref a6, .ref a7, .ref a8, .int 0]))] sz) := by
  refine Met.ofW (cc := cd_Cl_newest) (maxL := 1) (ret := (some (.int))) (by decide) rfl ?_
  intro p e s m args below meth c s₁ B hml hv
  obtain ⟨rfl, hsz, hP, hK, hD0⟩ := hv
  have hx := B.exec
  have hb := B.bytes
  have hr := B.returns
  have hT : ∀ w ∈ tblG, w.before _ s = true := fun w h => atoms_spec (ws := (Cond.code my_Cl_newest cd_Cl_newest 1 (some (.int)) :: tblG)) B.pre w (List.mem_cons_of_mem _ h)
  have hown : s.vm.findClass "StrataBase$Clauses" = some m.cls := findClass_of_methodNamed B.named
  have hlocks := B.notSynchronized
  subst hsz
  have hD := hD0.self (sz := s.heap.size)
  generalize hAe : va_A [(a1, .inr (1, [.int 0, .ref a2, .ref a3, .ref a4, .ref a5, .ref a6, .ref a7, .ref a8, .int 0]))] s.heap.size = A at hD ⊢
  have hA : ∀ q : Nat, s.heap.size ≤ q → A q := fun q h => by rw [← hAe]; exact Or.inr h
  have hS : va_S A s.heap s.heap [] := va_S.rf
  have hl := lv_entry ([.ref a1]) (n := 1) (Nat.le_of_ble_eq_true rfl)
  rw [lg_entry_eq]
  generalize (lg_sl ([.ref a1]) ++ List.replicate (1 - (lg_sl ([.ref a1])).length) Slot.unset).toArray = ls at hl ⊢
  have hl : lv_has ls 1 [(0, .ref a1)] := hl
  refine lv_aload_n hx hb dc_Cl_newest_0 rfl (lv_at hl 0 rfl) ?_
  refine va_get (D := (dC, dI)) (ci := 1) (v := .int 0) (C := "StrataBase$Clauses") (T := tb_Cl) (N := 9) hx hb hT in_Cl hown hK hP 0 rfl rfl 8 (by decide) (hT _ wd_76) (fun _ h9 => h9) rfl dc_Cl_newest_1 ?_
  refine lv_iconst (v := 1) hx hb dc_Cl_newest_4 (by decide) ?_
  refine lv_isub hx hb dc_Cl_newest_5 ?_
  refine lv_topi (fun y1 e2 => ?_)
  obtain rfl : y1 = (-1) := e2.trans (by decide)
  have hP9 := hP.sub (ws' := [(a1, .inr (1, [.int 0, .ref a2, .ref a3, .ref a4, .ref a5, .ref a6, .ref a7, .ref a8, .int 0]))]) [0] rfl
  have hD9 := hD.sub (ws' := [(a1, .inr (1, [.int 0, .ref a2, .ref a3, .ref a4, .ref a5, .ref a6, .ref a7, .ref a8, .int 0]))]) [0] (by decide) rfl
  have hK9 := hK.sub (tys' := []) [] rfl
  refine W.widen (k := 0) (n := 0) (Nat.le_of_ble_eq_true rfl) (Nat.le_of_ble_eq_true rfl) ?_
  exact W.iret (v := (-1)) hx hb hr (fun t ht hW => ⟨⟨(-1), (), rfl, rfl, by rw [ht]; exact hP9, va_K.moved hW.alike hK9, hD9⟩, hS.F ht⟩) hS.2.2 dc_Cl_newest_6

set_option maxHeartbeats 4000000 in
set_option maxRecDepth 100000 in
theorem c_Ar_fill_2 (l : Launch) (dC : Nat → ClassId) (dI : Nat → Nat → Nat) (a1 : Nat) (k1 : ClassId) (sz : Nat) : Met l my_Ar_fill (Cond.code my_Ar_fill cd_Ar_fill 4 none :: tblG) ({ frames := 0, cells := 0, slots := 0, locals := 0 }) (va_Pc [.ref a1, .int 0] (fun U => U.heap.size = sz ∧ va_P (dC, dI) vwCl [(a1, .inl (k1, 64, .inl (fun _ => 0)))] U.heap ∧ va_K (dC, dI) vwCl [(k1, .int)] U ∧ va_D (fun _ => True) [(a1, .inl (k1, 64, .inl (fun _ => 0)))])) (va_Qv (fun _ : Unit => True) (fun (_ : Unit) (t : State) => va_P (dC, dI) vwCl [(a1, .inl (k1, 64, .inl (fun _ => 0)))] t.heap ∧ va_K (dC, dI) vwCl [(k1, .int)] t ∧ va_D (va_A [(a1, .inl (k1, 64, .inl (fun _ => 0)))] sz) [(a1, .inl (k1, 64, .inl (fun _ => 0)))]) (va_A [(a1, .inl (k1, 64, .inl (fun _ => 0)))] sz)) 0 0 (va_A [(a1, .inl (k1, 64, .inl (fun _ => 0)))] sz) := by
  refine Met.ofW (cc := cd_Ar_fill) (maxL := 4) (ret := none) (by decide) rfl ?_
  intro p e s m args below meth c s₁ B hml hv
  obtain ⟨rfl, hsz, hP, hK, hD0⟩ := hv
  have hx := B.exec
  have hb := B.bytes
  have hr := B.returns
  have hT : ∀ w ∈ tblG, w.before _ s = true := fun w h => atoms_spec (ws := (Cond.code my_Ar_fill cd_Ar_fill 4 none :: tblG)) B.pre w (List.mem_cons_of_mem _ h)
  have hown : s.vm.findClass "java/util/Arrays" = some m.cls := findClass_of_methodNamed B.named
  have hlocks := B.notSynchronized
  subst hsz
  have hD := hD0.self (sz := s.heap.size)
  generalize hAe : va_A [(a1, .inl (k1, 64, .inl (fun _ => 0)))] s.heap.size = A at hD ⊢
  have hA : ∀ q : Nat, s.heap.size ≤ q → A q := fun q h => by rw [← hAe]; exact Or.inr h
  have hS : va_S A s.heap s.heap [] := va_S.rf
  have hl := lv_entry ([.ref a1, .int 0]) (n := 4) (Nat.le_of_ble_eq_true rfl)
  rw [lg_entry_eq]
  generalize (lg_sl ([.ref a1, .int 0]) ++ List.replicate (4 - (lg_sl ([.ref a1, .int 0])).length) Slot.unset).toArray = ls at hl ⊢
  have hl : lv_has ls 4 [(0, .ref a1), (1, .int 0)] := hl
  refine lv_iconst (v := 0) hx hb dc_Ar_fill_0 (by decide) ?_
  refine lv_istore_n (lv' := [(2, .int 0), (0, .ref a1), (1, .int 0)]) hx hb dc_Ar_fill_1 rfl hl (by decide) rfl (fun ls hl => ?_)
  refine lv_aload_n hx hb dc_Ar_fill_2 rfl (lv_at hl 1 rfl) ?_
  refine va_alen (v := 64) hx hb hK hP 0 0 rfl rfl rfl dc_Ar_fill_3 ?_
  refine lv_istore_n (lv' := [(3, .int 64), (2, .int 0), (0, .ref a1), (1, .int 0)]) hx hb dc_Ar_fill_4 rfl hl (by decide) rfl (fun ls hl => ?_)
  refine lp_loop 64 (fun k9 H locs ls => va_K (dC, dI) vwCl [(k1, .int)] s ∧ va_P (dC, dI) vwCl [(a1, .inl (k1, 64, .inl (fun _ => 0)))] H ∧ va_D A [(a1, .inl (k1, 64, .inl (fun _ => 0)))] ∧ va_S A s.heap H locs ∧ lv_has ls 4 [(3, .int 64), (2, .int (nI k9)), (0, .ref a1), (1, .int 0)]) ?_ ?_ 0 (by decide) ⟨hK, hP, hD, hS, lv_sub hl [0, 1, 2, 3] rfl⟩
  · intro jv1 hk1 ih1 H locs ls hI
    obtain ⟨hK, hP, hD, hS, hl⟩ := hI
    refine lv_iload_n hx hb dc_Ar_fill_5 rfl (lv_at hl 1 rfl) ?_
    refine lv_iload_n hx hb dc_Ar_fill_6 rfl (lv_at hl 0 rfl) ?_
    refine lv_icmp_ge (tgt := 20) hx hb dc_Ar_fill_7 (by decide) (fun h9 => absurd h9 (show ¬ ((64 : Int32) ≤ nI jv1) from nI_ge hk1 (by decide))) (fun _ => ?_)
    refine lv_aload_n hx hb dc_Ar_fill_10 rfl (lv_at hl 2 rfl) ?_
    refine lv_iload_n hx hb dc_Ar_fill_11 rfl (lv_at hl 1 rfl) ?_
    refine lv_iload_n hx hb dc_Ar_fill_12 rfl (lv_at hl 3 rfl) ?_
    refine va_iast hx hb hK hP hD hS 0 0 rfl rfl (vp_in_nI (by omega) (by decide)) dc_Ar_fill_13 (fun H locs hP hD hS => ?_)
    rw [show upd (fun _ => 0) (nI jv1).toNatClampNeg (0 : Int32) = (fun _ => 0) from uz_i _ _] at hP hD
    have hP : va_P (dC, dI) vwCl [(a1, .inl (k1, 64, .inl (fun _ => 0)))] H := hP
    have hD : va_D A [(a1, .inl (k1, 64, .inl (fun _ => 0)))] := hD
    refine lv_iinc (k := 1) (v := nI (jv1 + 1)) (lv' := [(2, .int (nI (jv1 + 1))), (3, .int 64), (0, .ref a1), (1, .int 0)]) hx hb dc_Ar_fill_14 hl rfl (by first | exact nI_1 _ | exact nI_add _ 1) (by decide) rfl (fun ls hl => ?_)
    refine lv_goto (tgt := 5) hx hb dc_Ar_fill_17 (by decide) ?_
    exact ih1 _ _ _ ⟨hK.sub [0] rfl, hP.sub [0] rfl, hD.sub [0] (by decide) rfl, hS, lv_sub hl [1, 0, 2, 3] rfl⟩
  · intro H locs ls hI
    obtain ⟨hK, hP, hD, hS, hl⟩ := hI
    refine lv_iload_n hx hb dc_Ar_fill_5 rfl (lv_at hl 1 rfl) ?_
    refine lv_iload_n hx hb dc_Ar_fill_6 rfl (lv_at hl 0 rfl) ?_
    refine lv_icmp_ge (tgt := 20) hx hb dc_Ar_fill_7 (by decide) (fun _ => ?_) (fun h9 => absurd (by decide) h9)
    have hP9 := hP.sub (ws' := [(a1, .inl (k1, 64, .inl (fun _ => 0)))]) [0] rfl
    have hD9 := hD.sub (ws' := [(a1, .inl (k1, 64, .inl (fun _ => 0)))]) [0] (by decide) rfl
    have hK9 := hK.sub (tys' := [(k1, .int)]) [0] rfl
    refine W.widen (k := 0) (n := 0) (Nat.le_of_ble_eq_true rfl) (Nat.le_of_ble_eq_true rfl) ?_
    exact W.vret hx hb hr (fun t ht hW => ⟨⟨(), rfl, trivial, by rw [ht]; exact hP9, va_K.moved hW.alike hK9, hD9⟩, hS.F ht⟩) hS.2.2 dc_Ar_fill_20

set_option maxHeartbeats 4000000 in
set_option maxRecDepth 100000 in
theorem c_Pr_raiseStrata_1 (l : Launch) (dC : Nat → ClassId) (dI : Nat → Nat → Nat) (a1 : Nat) (a2 : Nat) (a3 : Nat) (a4 : Nat) (a5 : Nat) (a6 : Nat) (a7 : Nat) (a8 : Nat) (a9 : Nat) (a10 : Nat) (a11 : Nat) (a12 : Nat) (a13 : Nat) (a14 : Nat) (sz : Nat) : Met l my_Pr_raiseStrata (Cond.code my_Pr_raiseStrata cd_Pr_raiseStrata 7 (some (.boolean)) :: tblG) ({ frames := 0, cells := 0, slots := 0, locals := 0 }) (va_Pc [.ref a1] (fun U => U.heap.size = sz ∧ va_P (dC, dI) vwCl [(a1, .inr (7, [.ref a2, .ref a3, .ref a4, .ref a5, .ref a6, .int 0, .ref a7])), (a2, .inr (1, [.int 0, .ref a8, .ref a9, .ref a10, .ref a11, .ref a12, .ref a13, .ref a14, .int 0]))] U.heap ∧ va_K (dC, dI) vwCl [] U ∧ va_D (fun _ => True) [(a1, .inr (7, [.ref a2, .ref a3, .ref a4, .ref a5, .ref a6, .int 0, .ref a7])), (a2, .inr (1, [.int 0, .ref a8, .ref a9, .ref a10, .ref a11, .ref a12, .ref a13, .ref a14, .int 0]))])) (va_Qi (fun (r : Int32) (_ : Unit) => r = 0) (fun (_ : Unit) (t : State) => va_P (dC, dI) vwCl [(a1, .inr (7, [.ref a2, .ref a3, .ref a4, .ref a5, .ref a6, .int 0, .ref a7])), (a2, .inr (1, [.int 0, .ref a8, .ref a9, .ref a10, .ref a11, .ref a12, .ref a13, .ref a14, .int 0]))] t.heap ∧ va_K (dC, dI) vwCl [] t ∧ va_D (va_A [(a1, .inr (7, [.ref a2, .ref a3, .ref a4, .ref a5, .ref a6, .int 0, .ref a7])), (a2, .inr (1, [.int 0, .ref a8, .ref a9, .ref a10, .ref a11, .ref a12, .ref a13, .ref a14, .int 0]))] sz) [(a1, .inr (7, [.ref a2, .ref a3, .ref a4, .ref a5, .ref a6, .int 0, .ref a7])), (a2, .inr (1, [.int 0, .ref a8, .ref a9, .ref a10, .ref a11, .ref a12, .ref a13, .ref a14, .int 0]))]) (va_A [(a1, .inr (7, [.ref a2, .ref a3, .ref a4, .ref a5, .ref a6, .int 0, .ref a7])), (a2, .inr (1, [.int 0, .ref a8, .ref a9, .ref a10, .ref a11, .ref a12, .ref a13, .ref a14, .int 0]))] sz)) 0 0 (va_A [(a1, .inr (7, [.ref a2, .ref a3, .ref a4, .ref a5, .ref a6, .int 0, .ref a7])), (a2, .inr (1, [.int 0, .ref a8, .ref a9, .ref a10, .ref a11, .ref a12, .ref a13, .ref a14, .int 0]))] sz) := by
  refine Met.ofW (cc := cd_Pr_raiseStrata) (maxL := 7) (ret := (some (.boolean))) (by decide) rfl ?_
  intro p e s m args below meth c s₁ B hml hv
  obtain ⟨rfl, hsz, hP, hK, hD0⟩ := hv
  have hx := B.exec
  have hb := B.bytes
  have hr := B.returns
  have hT : ∀ w ∈ tblG, w.before _ s = true := fun w h => atoms_spec (ws := (Cond.code my_Pr_raiseStrata cd_Pr_raiseStrata 7 (some (.boolean)) :: tblG)) B.pre w (List.mem_cons_of_mem _ h)
  have hown : s.vm.findClass "StrataBase$Program" = some m.cls := findClass_of_methodNamed B.named
  have hlocks := B.notSynchronized
  subst hsz
  have hD := hD0.self (sz := s.heap.size)
  generalize hAe : va_A [(a1, .inr (7, [.ref a2, .ref a3, .ref a4, .ref a5, .ref a6, .int 0, .ref a7])), (a2, .inr (1, [.int 0, .ref a8, .ref a9, .ref a10, .ref a11, .ref a12, .ref a13, .ref a14, .int 0]))] s.heap.size = A at hD ⊢
  have hA : ∀ q : Nat, s.heap.size ≤ q → A q := fun q h => by rw [← hAe]; exact Or.inr h
  have hS : va_S A s.heap s.heap [] := va_S.rf
  have hl := lv_entry ([.ref a1]) (n := 7) (Nat.le_of_ble_eq_true rfl)
  rw [lg_entry_eq]
  generalize (lg_sl ([.ref a1]) ++ List.replicate (7 - (lg_sl ([.ref a1])).length) Slot.unset).toArray = ls at hl ⊢
  have hl : lv_has ls 7 [(0, .ref a1)] := hl
  refine lv_iconst (v := 0) hx hb dc_Pr_raiseStrata_0 (by decide) ?_
  refine lv_istore_n (lv' := [(1, .int 0), (0, .ref a1)]) hx hb dc_Pr_raiseStrata_1 rfl hl (by decide) rfl (fun ls hl => ?_)
  refine lv_iconst (v := 0) hx hb dc_Pr_raiseStrata_2 (by decide) ?_
  refine lv_istore_n (lv' := [(2, .int 0), (1, .int 0), (0, .ref a1)]) hx hb dc_Pr_raiseStrata_3 rfl hl (by decide) rfl (fun ls hl => ?_)
  refine lv_iload_n hx hb dc_Pr_raiseStrata_4 rfl (lv_at hl 0 rfl) ?_
  refine lv_aload_n hx hb dc_Pr_raiseStrata_5 rfl (lv_at hl 2 rfl) ?_
  refine va_get (D := (dC, dI)) (ci := 7) (v := .ref a2) (C := "StrataBase$Program") (T := tb_Pr) (N := 7) hx hb hT in_Pr hown hK hP 0 rfl rfl 0 (by decide) (hT _ wd_145) (fun _ h9 => h9) rfl dc_Pr_raiseStrata_6 ?_
  refine va_get (D := (dC, dI)) (ci := 1) (v := .int 0) (C := "StrataBase$Clauses") (T := tb_Cl) (N := 9) hx hb hT in_Cl hown hK hP 1 rfl rfl 0 (by decide) (hT _ wd_47) (fun _ h9 => h9) rfl dc_Pr_raiseStrata_9 ?_
  refine lv_icmp_ge (tgt := 133) hx hb dc_Pr_raiseStrata_12 (by decide) (fun _ => ?_) (fun h9 => absurd (by decide) h9)
  refine lv_iload_n hx hb dc_Pr_raiseStrata_133 rfl (lv_at hl 1 rfl) ?_
  have hP9 := hP.sub (ws' := [(a1, .inr (7, [.ref a2, .ref a3, .ref a4, .ref a5, .ref a6, .int 0, .ref a7])), (a2, .inr (1, [.int 0, .ref a8, .ref a9, .ref a10, .ref a11, .ref a12, .ref a13, .ref a14, .int 0]))]) [0, 1] rfl
  have hD9 := hD.sub (ws' := [(a1, .inr (7, [.ref a2, .ref a3, .ref a4, .ref a5, .ref a6, .int 0, .ref a7])), (a2, .inr (1, [.int 0, .ref a8, .ref a9, .ref a10, .ref a11, .ref a12, .ref a13, .ref a14, .int 0]))]) [0, 1] (by decide) rfl
  have hK9 := hK.sub (tys' := []) [] rfl
  refine W.widen (k := 0) (n := 0) (Nat.le_of_ble_eq_true rfl) (Nat.le_of_ble_eq_true rfl) ?_
  exact W.zret (v := 0) hx hb hr rfl (fun t ht hW => ⟨⟨0, (), rfl, rfl, by rw [ht]; exact hP9, va_K.moved hW.alike hK9, hD9⟩, hS.F ht⟩) hS.2.2 dc_Pr_raiseStrata_134

set_option maxHeartbeats 4000000 in
set_option maxRecDepth 100000 in
theorem c_Pr_settle_1 (l : Launch) (dC : Nat → ClassId) (dI : Nat → Nat → Nat) (a1 : Nat) (a2 : Nat) (a3 : Nat) (a4 : Nat) (a5 : Nat) (a6 : Nat) (a7 : Nat) (a8 : Nat) (a9 : Nat) (a10 : Nat) (a11 : Nat) (a12 : Nat) (a13 : Nat) (a14 : Nat) (a15 : Nat) (a16 : Nat) (a17 : Nat) (a18 : Nat) (a19 : Nat) (a20 : Nat) (a21 : Nat) (a22 : Nat) (a23 : Nat) (a24 : Nat) (k2 : ClassId) (sz : Nat) : Met l my_Pr_settle (Cond.code my_Pr_settle cd_Pr_settle 3 none :: tblG) ({ frames := 1, cells := 0, slots := 0, locals := 26 }) (va_Pc [.ref a1] (fun U => U.heap.size = sz ∧ va_P (dC, dI) vwCl [(a1, .inr (7, [.ref a2, .ref a3, .ref a4, .ref a5, .ref a6, .int 0, .ref a7])), (a2, .inr (1, [.int 0, .ref a8, .ref a9, .ref a10, .ref a11, .ref a12, .ref a13, .ref a14, .int 0])), (a3, .inr (6, [.int 0, .ref a15, .ref a16, .ref a17, .int 0])), (a5, .inl (k2, 64, .inl (fun _ => 0))), (a6, .inr (2, [.ref a18, .ref a19, .ref a20, .ref a21])), (a18, .inr (6, [.int 0, .ref a22, .ref a23, .ref a24, .int 0]))] U.heap ∧ va_K (dC, dI) vwCl [(k2, .int)] U ∧ va_D (fun _ => True) [(a1, .inr (7, [.ref a2, .ref a3, .ref a4, .ref a5, .ref a6, .int 0, .ref a7])), (a2, .inr (1, [.int 0, .ref a8, .ref a9, .ref a10, .ref a11, .ref a12, .ref a13, .ref a14, .int 0])), (a3, .inr (6, [.int 0, .ref a15, .ref a16, .ref a17, .int 0])), (a5, .inl (k2, 64, .inl (fun _ => 0))), (a6, .inr (2, [.ref a18, .ref a19, .ref a20, .ref a21])), (a18, .inr (6, [.int 0, .ref a22, .ref a23, .ref a24, .int 0]))])) (va_Qv (fun _ : Unit => True) (fun (_ : Unit) (t : State) => va_P (dC, dI) vwCl [(a3, .inr (6, [.int 0, .ref a15, .ref a16, .ref a17, .int 0])), (a6, .inr (2, [.ref a18, .ref a19, .ref a20, .ref a21])), (a18, .inr (6, [.int 0, .ref a22, .ref a23, .ref a24, .int 0])), (a5, .inl (k2, 64, .inl (fun _ => 0))), (a1, .inr (7, [.ref a2, .ref a3, .ref a4, .ref a5, .ref a6, .int 0, .ref a7])), (a2, .inr (1, [.int 0, .ref a8, .ref a9, .ref a10, .ref a11, .ref a12, .ref a13, .ref a14, .int 0]))] t.heap ∧ va_K (dC, dI) vwCl [(k2, .int)] t ∧ va_D (va_A [(a1, .inr (7, [.ref a2, .ref a3, .ref a4, .ref a5, .ref a6, .int 0, .ref a7])), (a2, .inr (1, [.int 0, .ref a8, .ref a9, .ref a10, .ref a11, .ref a12, .ref a13, .ref a14, .int 0])), (a3, .inr (6, [.int 0, .ref a15, .ref a16, .ref a17, .int 0])), (a5, .inl (k2, 64, .inl (fun _ => 0))), (a6, .inr (2, [.ref a18, .ref a19, .ref a20, .ref a21])), (a18, .inr (6, [.int 0, .ref a22, .ref a23, .ref a24, .int 0]))] sz) [(a3, .inr (6, [.int 0, .ref a15, .ref a16, .ref a17, .int 0])), (a6, .inr (2, [.ref a18, .ref a19, .ref a20, .ref a21])), (a18, .inr (6, [.int 0, .ref a22, .ref a23, .ref a24, .int 0])), (a5, .inl (k2, 64, .inl (fun _ => 0))), (a1, .inr (7, [.ref a2, .ref a3, .ref a4, .ref a5, .ref a6, .int 0, .ref a7])), (a2, .inr (1, [.int 0, .ref a8, .ref a9, .ref a10, .ref a11, .ref a12, .ref a13, .ref a14, .int 0]))]) (va_A [(a1, .inr (7, [.ref a2, .ref a3, .ref a4, .ref a5, .ref a6, .int 0, .ref a7])), (a2, .inr (1, [.int 0, .ref a8, .ref a9, .ref a10, .ref a11, .ref a12, .ref a13, .ref a14, .int 0])), (a3, .inr (6, [.int 0, .ref a15, .ref a16, .ref a17, .int 0])), (a5, .inl (k2, 64, .inl (fun _ => 0))), (a6, .inr (2, [.ref a18, .ref a19, .ref a20, .ref a21])), (a18, .inr (6, [.int 0, .ref a22, .ref a23, .ref a24, .int 0]))] sz)) 0 0 (va_A [(a1, .inr (7, [.ref a2, .ref a3, .ref a4, .ref a5, .ref a6, .int 0, .ref a7])), (a2, .inr (1, [.int 0, .ref a8, .ref a9, .ref a10, .ref a11, .ref a12, .ref a13, .ref a14, .int 0])), (a3, .inr (6, [.int 0, .ref a15, .ref a16, .ref a17, .int 0])), (a5, .inl (k2, 64, .inl (fun _ => 0))), (a6, .inr (2, [.ref a18, .ref a19, .ref a20, .ref a21])), (a18, .inr (6, [.int 0, .ref a22, .ref a23, .ref a24, .int 0]))] sz) := by
  refine Met.ofW (cc := cd_Pr_settle) (maxL := 3) (ret := none) (by decide) rfl ?_
  intro p e s m args below meth c s₁ B hml hv
  obtain ⟨rfl, hsz, hP, hK, hD0⟩ := hv
  have hx := B.exec
  have hb := B.bytes
  have hr := B.returns
  have hT : ∀ w ∈ tblG, w.before _ s = true := fun w h => atoms_spec (ws := (Cond.code my_Pr_settle cd_Pr_settle 3 none :: tblG)) B.pre w (List.mem_cons_of_mem _ h)
  have hown : s.vm.findClass "StrataBase$Program" = some m.cls := findClass_of_methodNamed B.named
  have hlocks := B.notSynchronized
  subst hsz
  have hD := hD0.self (sz := s.heap.size)
  generalize hAe : va_A [(a1, .inr (7, [.ref a2, .ref a3, .ref a4, .ref a5, .ref a6, .int 0, .ref a7])), (a2, .inr (1, [.int 0, .ref a8, .ref a9, .ref a10, .ref a11, .ref a12, .ref a13, .ref a14, .int 0])), (a3, .inr (6, [.int 0, .ref a15, .ref a16, .ref a17, .int 0])), (a5, .inl (k2, 64, .inl (fun _ => 0))), (a6, .inr (2, [.ref a18, .ref a19, .ref a20, .ref a21])), (a18, .inr (6, [.int 0, .ref a22, .ref a23, .ref a24, .int 0]))] s.heap.size = A at hD ⊢
  have hA : ∀ q : Nat, s.heap.size ≤ q → A q := fun q h => by rw [← hAe]; exact Or.inr h
  have hS : va_S A s.heap s.heap [] := va_S.rf
  have hl := lv_entry ([.ref a1]) (n := 3) (Nat.le_of_ble_eq_true rfl)
  rw [lg_entry_eq]
  generalize (lg_sl ([.ref a1]) ++ List.replicate (3 - (lg_sl ([.ref a1])).length) Slot.unset).toArray = ls at hl ⊢
  have hl : lv_has ls 3 [(0, .ref a1)] := hl
  refine lv_aload_n hx hb dc_Pr_settle_0 rfl (lv_at hl 0 rfl) ?_
  refine va_get (D := (dC, dI)) (ci := 7) (v := .ref a6) (C := "StrataBase$Program") (T := tb_Pr) (N := 7) hx hb hT in_Pr hown hK hP 0 rfl rfl 4 (by decide) (hT _ wd_156) (fun _ h9 => h9) rfl dc_Pr_settle_1 ?_
  have hPc := hP.sub (ws' := [(a6, .inr (2, [.ref a18, .ref a19, .ref a20, .ref a21])), (a18, .inr (6, [.int 0, .ref a22, .ref a23, .ref a24, .int 0]))]) [4, 5] rfl
  have hDc := hD.sub (ws' := [(a6, .inr (2, [.ref a18, .ref a19, .ref a20, .ref a21])), (a18, .inr (6, [.int 0, .ref a22, .ref a23, .ref a24, .int 0]))]) [4, 5] (by decide) rfl
  have hKc := hK.sub (tys' := []) [] rfl
  have hFc := va_free (wc := [(a6, .inr (2, [.ref a18, .ref a19, .ref a20, .ref a21])), (a18, .inr (6, [.int 0, .ref a22, .ref a23, .ref a24, .int 0]))]) hD hS hA [4, 5] rfl
  refine va_callv (va_runV (As := []) (rest := []) ⟨hx, hb, hml, hown, hT⟩ (c_Co_setRanks_1 l dC dI a6 a18 a19 a20 a21 a22 a23 a24 s.heap.size) (cwV 0 hT (gd_V wd_880 wd_836 wd_837 wd_5 wd_838) rfl rfl rfl (by decide +kernel) ⟨Nat.le_of_ble_eq_true rfl, Nat.le_of_ble_eq_true rfl⟩) ⟨fun a U g mk q => by obtain ⟨q0, q1, qP, qK, qD⟩ := q; exact ⟨q0, q1, qP, va_K.moved (u := U) (U := U.calling g mk a) (Vm.Alike.refl U.vm) qK, qD⟩, va_recv hK hP (q0 := 4) (ci := 2) rfl rfl, fun U hU hW => ⟨rfl, by rw [hU], by rw [hU]; exact hPc, va_K.moved hW.alike hKc, hDc.weaken (fun _ _ _ _ => trivial)⟩⟩ rfl rfl hl.1 rfl (lv_room (Nat.le_of_ble_eq_true rfl)) dc_Pr_settle_4 ⟨(Nat.le_of_ble_eq_true rfl), (Nat.le_of_ble_eq_true rfl)⟩) hS (fun q _ h => hFc q h) hFc (fun _ t H1 locs ht hvm hr9 hB hz1 hk1 hS => ?_)
  obtain ⟨hP1, hK1, hD1⟩ := hB
  rw [ht] at hP1
  have hK1 := va_K.moved hvm.symm hK1
  obtain ⟨hP, hD⟩ := va_join (wr := [(a1, .inr (7, [.ref a2, .ref a3, .ref a4, .ref a5, .ref a6, .int 0, .ref a7])), (a2, .inr (1, [.int 0, .ref a8, .ref a9, .ref a10, .ref a11, .ref a12, .ref a13, .ref a14, .int 0])), (a3, .inr (6, [.int 0, .ref a15, .ref a16, .ref a17, .int 0])), (a5, .inl (k2, 64, .inl (fun _ => 0)))]) (w1 := [(a6, .inr (2, [.ref a18, .ref a19, .ref a20, .ref a21])), (a18, .inr (6, [.int 0, .ref a22, .ref a23, .ref a24, .int 0]))]) hP hD [4, 5] [0, 1, 2, 3] rfl rfl (by decide) (by decide) hk1 hFc hP1 hD1
  have hK := (hK.sub (tys' := [(k2, .int)]) [0] rfl).app hK1
  generalize H1 = H at hP hS ⊢
  have hP : va_P (dC, dI) vwCl [(a1, .inr (7, [.ref a2, .ref a3, .ref a4, .ref a5, .ref a6, .int 0, .ref a7])), (a2, .inr (1, [.int 0, .ref a8, .ref a9, .ref a10, .ref a11, .ref a12, .ref a13, .ref a14, .int 0])), (a3, .inr (6, [.int 0, .ref a15, .ref a16, .ref a17, .int 0])), (a5, .inl (k2, 64, .inl (fun _ => 0))), (a6, .inr (2, [.ref a18, .ref a19, .ref a20, .ref a21])), (a18, .inr (6, [.int 0, .ref a22, .ref a23, .ref a24, .int 0]))] H := hP
  have hD : va_D A [(a1, .inr (7, [.ref a2, .ref a3, .ref a4, .ref a5, .ref a6, .int 0, .ref a7])), (a2, .inr (1, [.int 0, .ref a8, .ref a9, .ref a10, .ref a11, .ref a12, .ref a13, .ref a14, .int 0])), (a3, .inr (6, [.int 0, .ref a15, .ref a16, .ref a17, .int 0])), (a5, .inl (k2, 64, .inl (fun _ => 0))), (a6, .inr (2, [.ref a18, .ref a19, .ref a20, .ref a21])), (a18, .inr (6, [.int 0, .ref a22, .ref a23, .ref a24, .int 0]))] := hD
  have hK : va_K (dC, dI) vwCl [(k2, .int)] s := hK
  refine lv_iconst (v := 0) hx hb dc_Pr_settle_7 (by decide) ?_
  refine lv_istore_n (lv' := [(1, .int 0), (0, .ref a1)]) hx hb dc_Pr_settle_8 rfl hl (by decide) rfl (fun ls hl => ?_)
  refine lv_iload_n hx hb dc_Pr_settle_9 rfl (lv_at hl 0 rfl) ?_
  refine lv_aload_n hx hb dc_Pr_settle_10 rfl (lv_at hl 1 rfl) ?_
  refine va_get (D := (dC, dI)) (ci := 7) (v := .ref a2) (C := "StrataBase$Program") (T := tb_Pr) (N := 7) hx hb hT in_Pr hown hK hP 0 rfl rfl 0 (by decide) (hT _ wd_145) (fun _ h9 => h9) rfl dc_Pr_settle_11 ?_
  have hPc := hP.sub (ws' := [(a2, .inr (1, [.int 0, .ref a8, .ref a9, .ref a10, .ref a11, .ref a12, .ref a13, .ref a14, .int 0]))]) [1] rfl
  have hDc := hD.sub (ws' := [(a2, .inr (1, [.int 0, .ref a8, .ref a9, .ref a10, .ref a11, .ref a12, .ref a13, .ref a14, .int 0]))]) [1] (by decide) rfl
  have hKc := hK.sub (tys' := []) [] rfl
  have hFc := va_free (wc := [(a2, .inr (1, [.int 0, .ref a8, .ref a9, .ref a10, .ref a11, .ref a12, .ref a13, .ref a14, .int 0]))]) hD hS hA [1] rfl
  refine va_calli (va_runV (As := []) (rest := [.int 0]) ⟨hx, hb, hml, hown, hT⟩ (c_Cl_newest_1 l dC dI a2 a8 a9 a10 a11 a12 a13 a14 H.size) (cwV 0 hT (gd_V wd_881 wd_743 wd_744 wd_3 wd_745) rfl rfl rfl (by decide +kernel) ⟨Nat.le_of_ble_eq_true rfl, Nat.le_of_ble_eq_true rfl⟩) ⟨fun a U g mk q => by obtain ⟨q0, q1, qP, qK, qD⟩ := q; exact ⟨q0, q1, qP, va_K.moved (u := U) (U := U.calling g mk a) (Vm.Alike.refl U.vm) qK, qD⟩, va_recv hK hP (q0 := 1) (ci := 1) rfl rfl, fun U hU hW => ⟨rfl, by rw [hU], by rw [hU]; exact hPc, va_K.moved hW.alike hKc, hDc.weaken (fun _ _ _ _ => trivial)⟩⟩ rfl rfl hl.1 rfl (lv_room (Nat.le_of_ble_eq_true rfl)) dc_Pr_settle_14 ⟨(Nat.le_of_ble_eq_true rfl), (Nat.le_of_ble_eq_true rfl)⟩) hS (fun q _ h => hFc q h) hFc (fun r2 _ t H1 locs ht hvm hr9 hB hz1 hk1 hS => ?_)
  obtain ⟨hP1, hK1, hD1⟩ := hB
  rw [ht] at hP1
  have hK1 := va_K.moved hvm.symm hK1
  obtain ⟨hP, hD⟩ := va_join (wr := [(a1, .inr (7, [.ref a2, .ref a3, .ref a4, .ref a5, .ref a6, .int 0, .ref a7])), (a3, .inr (6, [.int 0, .ref a15, .ref a16, .ref a17, .int 0])), (a5, .inl (k2, 64, .inl (fun _ => 0))), (a6, .inr (2, [.ref a18, .ref a19, .ref a20, .ref a21])), (a18, .inr (6, [.int 0, .ref a22, .ref a23, .ref a24, .int 0]))]) (w1 := [(a2, .inr (1, [.int 0, .ref a8, .ref a9, .ref a10, .ref a11, .ref a12, .ref a13, .ref a14, .int 0]))]) hP hD [1] [0, 2, 3, 4, 5] rfl rfl (by decide) (by decide) hk1 hFc hP1 hD1
  have hK := (hK.sub (tys' := [(k2, .int)]) [0] rfl).app hK1
  generalize H1 = H at hP hS ⊢
  have hP : va_P (dC, dI) vwCl [(a1, .inr (7, [.ref a2, .ref a3, .ref a4, .ref a5, .ref a6, .int 0, .ref a7])), (a3, .inr (6, [.int 0, .ref a15, .ref a16, .ref a17, .int 0])), (a5, .inl (k2, 64, .inl (fun _ => 0))), (a6, .inr (2, [.ref a18, .ref a19, .ref a20, .ref a21])), (a18, .inr (6, [.int 0, .ref a22, .ref a23, .ref a24, .int 0])), (a2, .inr (1, [.int 0, .ref a8, .ref a9, .ref a10, .ref a11, .ref a12, .ref a13, .ref a14, .int 0]))] H := hP
  have hD : va_D A [(a1, .inr (7, [.ref a2, .ref a3, .ref a4, .ref a5, .ref a6, .int 0, .ref a7])), (a3, .inr (6, [.int 0, .ref a15, .ref a16, .ref a17, .int 0])), (a5, .inl (k2, 64, .inl (fun _ => 0))), (a6, .inr (2, [.ref a18, .ref a19, .ref a20, .ref a21])), (a18, .inr (6, [.int 0, .ref a22, .ref a23, .ref a24, .int 0])), (a2, .inr (1, [.int 0, .ref a8, .ref a9, .ref a10, .ref a11, .ref a12, .ref a13, .ref a14, .int 0]))] := hD
  have hK : va_K (dC, dI) vwCl [(k2, .int)] s := hK
  have hr9 : r2 = (-1) := hr9
  subst hr9
  refine lv_icmp_gt (tgt := 31) hx hb dc_Pr_settle_17 (by decide) (fun _ => ?_) (fun h9 => absurd (by decide) h9)
  refine lv_aload_n hx hb dc_Pr_settle_31 rfl (lv_at hl 1 rfl) ?_
  refine va_get (D := (dC, dI)) (ci := 7) (v := .ref a5) (C := "StrataBase$Program") (T := tb_Pr) (N := 7) hx hb hT in_Pr hown hK hP 0 rfl rfl 3 (by decide) (hT _ wd_153) (fun _ h9 => h9) rfl dc_Pr_settle_32 ?_
  refine lv_iconst (v := 0) hx hb dc_Pr_settle_35 (by decide) ?_
  have hPc := hP.sub (ws' := [(a5, .inl (k2, 64, .inl (fun _ => 0)))]) [2] rfl
  have hDc := hD.sub (ws' := [(a5, .inl (k2, 64, .inl (fun _ => 0)))]) [2] (by decide) rfl
  have hKc := hK.sub (tys' := [(k2, .int)]) [0] rfl
  have hFc := va_free (wc := [(a5, .inl (k2, 64, .inl (fun _ => 0)))]) hD hS hA [2] rfl
  refine va_callv (va_runS (As := [.ref a5, .int 0]) (rest := []) ⟨hx, hb, hml, hown, hT⟩ (c_Ar_fill_2 l dC dI a5 k2 H.size) (va_cwS 2 hT (gd_S wd_596 wd_597 wd_19 wd_598) rfl rfl rfl (by decide +kernel) ⟨Nat.le_of_ble_eq_true rfl, Nat.le_of_ble_eq_true rfl⟩) ⟨fun a U g mk q => by obtain ⟨q0, q1, qP, qK, qD⟩ := q; exact ⟨q0, q1, qP, va_K.moved (u := U) (U := U.calling g mk a) (Vm.Alike.refl U.vm) qK, qD⟩, fun U hU hW => ⟨rfl, by rw [hU], by rw [hU]; exact hPc, va_K.moved hW.alike hKc, hDc.weaken (fun _ _ _ _ => trivial)⟩⟩ rfl rfl hl.1 rfl (lv_room (Nat.le_of_ble_eq_true rfl)) dc_Pr_settle_36 ⟨(Nat.le_of_ble_eq_true rfl), (Nat.le_of_ble_eq_true rfl)⟩) hS (fun q _ h => hFc q h) hFc (fun _ t H1 locs ht hvm hr9 hB hz1 hk1 hS => ?_)
  obtain ⟨hP1, hK1, hD1⟩ := hB
  rw [ht] at hP1
  have hK1 := va_K.moved hvm.symm hK1
  obtain ⟨hP, hD⟩ := va_join (wr := [(a1, .inr (7, [.ref a2, .ref a3, .ref a4, .ref a5, .ref a6, .int 0, .ref a7])), (a3, .inr (6, [.int 0, .ref a15, .ref a16, .ref a17, .int 0])), (a6, .inr (2, [.ref a18, .ref a19, .ref a20, .ref a21])), (a18, .inr (6, [.int 0, .ref a22, .ref a23, .ref a24, .int 0])), (a2, .inr (1, [.int 0, .ref a8, .ref a9, .ref a10, .ref a11, .ref a12, .ref a13, .ref a14, .int 0]))]) (w1 := [(a5, .inl (k2, 64, .inl (fun _ => 0)))]) hP hD [2] [0, 1, 3, 4, 5] rfl rfl (by decide) (by decide) hk1 hFc hP1 hD1
  have hK := (hK.sub (tys' := []) [] rfl).app hK1
  generalize H1 = H at hP hS ⊢
  have hP : va_P (dC, dI) vwCl [(a1, .inr (7, [.ref a2, .ref a3, .ref a4, .ref a5, .ref a6, .int 0, .ref a7])), (a3, .inr (6, [.int 0, .ref a15, .ref a16, .ref a17, .int 0])), (a6, .inr (2, [.ref a18, .ref a19, .ref a20, .ref a21])), (a18, .inr (6, [.int 0, .ref a22, .ref a23, .ref a24, .int 0])), (a2, .inr (1, [.int 0, .ref a8, .ref a9, .ref a10, .ref a11, .ref a12, .ref a13, .ref a14, .int 0])), (a5, .inl (k2, 64, .inl (fun _ => 0)))] H := hP
  have hD : va_D A [(a1, .inr (7, [.ref a2, .ref a3, .ref a4, .ref a5, .ref a6, .int 0, .ref a7])), (a3, .inr (6, [.int 0, .ref a15, .ref a16, .ref a17, .int 0])), (a6, .inr (2, [.ref a18, .ref a19, .ref a20, .ref a21])), (a18, .inr (6, [.int 0, .ref a22, .ref a23, .ref a24, .int 0])), (a2, .inr (1, [.int 0, .ref a8, .ref a9, .ref a10, .ref a11, .ref a12, .ref a13, .ref a14, .int 0])), (a5, .inl (k2, 64, .inl (fun _ => 0)))] := hD
  have hK : va_K (dC, dI) vwCl [(k2, .int)] s := hK
  refine lv_iconst (v := 1) hx hb dc_Pr_settle_39 (by decide) ?_
  refine lv_istore_n (lv' := [(1, .int 1), (0, .ref a1)]) hx hb dc_Pr_settle_40 rfl hl (by decide) rfl (fun ls hl => ?_)
  refine lv_iconst (v := 0) hx hb dc_Pr_settle_41 (by decide) ?_
  refine lv_istore_n (lv' := [(2, .int 0), (1, .int 1), (0, .ref a1)]) hx hb dc_Pr_settle_42 rfl hl (by decide) rfl (fun ls hl => ?_)
  refine lv_iload_n hx hb dc_Pr_settle_43 rfl (lv_at hl 0 rfl) ?_
  refine lv_bipush (v := 64) hx hb dc_Pr_settle_44 (by decide) ?_
  refine lv_icmp_gt (tgt := 64) hx hb dc_Pr_settle_46 (by decide) (fun h9 => absurd h9 (by decide)) (fun _ => ?_)
  refine lv_iload_n hx hb dc_Pr_settle_49 rfl (lv_at hl 1 rfl) ?_
  refine lv_if_eq (tgt := 64) hx hb dc_Pr_settle_50 (by decide) (fun h9 => absurd h9 (by decide)) (fun _ => ?_)
  refine lv_aload_n hx hb dc_Pr_settle_53 rfl (lv_at hl 2 rfl) ?_
  have hPc := hP.sub (ws' := [(a1, .inr (7, [.ref a2, .ref a3, .ref a4, .ref a5, .ref a6, .int 0, .ref a7])), (a2, .inr (1, [.int 0, .ref a8, .ref a9, .ref a10, .ref a11, .ref a12, .ref a13, .ref a14, .int 0]))]) [0, 4] rfl
  have hDc := hD.sub (ws' := [(a1, .inr (7, [.ref a2, .ref a3, .ref a4, .ref a5, .ref a6, .int 0, .ref a7])), (a2, .inr (1, [.int 0, .ref a8, .ref a9, .ref a10, .ref a11, .ref a12, .ref a13, .ref a14, .int 0]))]) [0, 4] (by decide) rfl
  have hKc := hK.sub (tys' := []) [] rfl
  have hFc := va_free (wc := [(a1, .inr (7, [.ref a2, .ref a3, .ref a4, .ref a5, .ref a6, .int 0, .ref a7])), (a2, .inr (1, [.int 0, .ref a8, .ref a9, .ref a10, .ref a11, .ref a12, .ref a13, .ref a14, .int 0]))]) hD hS hA [0, 4] rfl
  refine va_calli (va_runV (As := []) (rest := []) ⟨hx, hb, hml, hown, hT⟩ (c_Pr_raiseStrata_1 l dC dI a1 a2 a3 a4 a5 a6 a7 a8 a9 a10 a11 a12 a13 a14 H.size) (cwV 0 hT (gd_V wd_893 wd_895 sl_Pr_raiseStrata wd_2 wd_896) rfl rfl rfl (by decide +kernel) ⟨Nat.le_of_ble_eq_true rfl, Nat.le_of_ble_eq_true rfl⟩) ⟨fun a U g mk q => by obtain ⟨q0, q1, qP, qK, qD⟩ := q; exact ⟨q0, q1, qP, va_K.moved (u := U) (U := U.calling g mk a) (Vm.Alike.refl U.vm) qK, qD⟩, va_recv hK hP (q0 := 0) (ci := 7) rfl rfl, fun U hU hW => ⟨rfl, by rw [hU], by rw [hU]; exact hPc, va_K.moved hW.alike hKc, hDc.weaken (fun _ _ _ _ => trivial)⟩⟩ rfl rfl hl.1 rfl (lv_room (Nat.le_of_ble_eq_true rfl)) dc_Pr_settle_54 ⟨(Nat.le_of_ble_eq_true rfl), (Nat.le_of_ble_eq_true rfl)⟩) hS (fun q _ h => hFc q h) hFc (fun r4 _ t H1 locs ht hvm hr9 hB hz1 hk1 hS => ?_)
  obtain ⟨hP1, hK1, hD1⟩ := hB
  rw [ht] at hP1
  have hK1 := va_K.moved hvm.symm hK1
  obtain ⟨hP, hD⟩ := va_join (wr := [(a3, .inr (6, [.int 0, .ref a15, .ref a16, .ref a17, .int 0])), (a6, .inr (2, [.ref a18, .ref a19, .ref a20, .ref a21])), (a18, .inr (6, [.int 0, .ref a22, .ref a23, .ref a24, .int 0])), (a5, .inl (k2, 64, .inl (fun _ => 0)))]) (w1 := [(a1, .inr (7, [.ref a2, .ref a3, .ref a4, .ref a5, .ref a6, .int 0, .ref a7])), (a2, .inr (1, [.int 0, .ref a8, .ref a9, .ref a10, .ref a11, .ref a12, .ref a13, .ref a14, .int 0]))]) hP hD [0, 4] [1, 2, 3, 5] rfl rfl (by decide) (by decide) hk1 hFc hP1 hD1
  have hK := (hK.sub (tys' := [(k2, .int)]) [0] rfl).app hK1
  generalize H1 = H at hP hS ⊢
  have hP : va_P (dC, dI) vwCl [(a3, .inr (6, [.int 0, .ref a15, .ref a16, .ref a17, .int 0])), (a6, .inr (2, [.ref a18, .ref a19, .ref a20, .ref a21])), (a18, .inr (6, [.int 0, .ref a22, .ref a23, .ref a24, .int 0])), (a5, .inl (k2, 64, .inl (fun _ => 0))), (a1, .inr (7, [.ref a2, .ref a3, .ref a4, .ref a5, .ref a6, .int 0, .ref a7])), (a2, .inr (1, [.int 0, .ref a8, .ref a9, .ref a10, .ref a11, .ref a12, .ref a13, .ref a14, .int 0]))] H := hP
  have hD : va_D A [(a3, .inr (6, [.int 0, .ref a15, .ref a16, .ref a17, .int 0])), (a6, .inr (2, [.ref a18, .ref a19, .ref a20, .ref a21])), (a18, .inr (6, [.int 0, .ref a22, .ref a23, .ref a24, .int 0])), (a5, .inl (k2, 64, .inl (fun _ => 0))), (a1, .inr (7, [.ref a2, .ref a3, .ref a4, .ref a5, .ref a6, .int 0, .ref a7])), (a2, .inr (1, [.int 0, .ref a8, .ref a9, .ref a10, .ref a11, .ref a12, .ref a13, .ref a14, .int 0]))] := hD
  have hK : va_K (dC, dI) vwCl [(k2, .int)] s := hK
  have hr9 : r4 = 0 := hr9
  subst hr9
  refine lv_istore_n (lv' := [(1, .int 0), (2, .int 0), (0, .ref a1)]) hx hb dc_Pr_settle_57 rfl hl (by decide) rfl (fun ls hl => ?_)
  refine lv_iinc (k := 1) (v := 1) (lv' := [(2, .int 1), (1, .int 0), (0, .ref a1)]) hx hb dc_Pr_settle_58 hl rfl (by decide) (by decide) rfl (fun ls hl => ?_)
  refine lv_goto (tgt := 43) hx hb dc_Pr_settle_61 (by decide) ?_
  refine lv_iload_n hx hb dc_Pr_settle_43 rfl (lv_at hl 0 rfl) ?_
  refine lv_bipush (v := 64) hx hb dc_Pr_settle_44 (by decide) ?_
  refine lv_icmp_gt (tgt := 64) hx hb dc_Pr_settle_46 (by decide) (fun h9 => absurd h9 (by decide)) (fun _ => ?_)
  refine lv_iload_n hx hb dc_Pr_settle_49 rfl (lv_at hl 1 rfl) ?_
  refine lv_if_eq (tgt := 64) hx hb dc_Pr_settle_50 (by decide) (fun _ => ?_) (fun h9 => absurd (by decide) h9)
  refine lv_aload_n hx hb dc_Pr_settle_64 rfl (lv_at hl 2 rfl) ?_
  refine lv_iconst (v := 0) hx hb dc_Pr_settle_65 (by decide) ?_
  refine va_put (D := (dC, dI)) (ci := 7) (v := .int 0) (ty := .int) (C := "StrataBase$Program") (T := tb_Pr) (N := 7) hx hb hT in_Pr ty_Pr tk_Pr nm_Pr hown hK hP hD hS 4 rfl rfl 5 (by decide) (hT _ wd_159) (fun _ h9 => h9) rfl (by decide +kernel) rfl rfl (Nat.le_of_ble_eq_true rfl) dc_Pr_settle_66 (fun H locs hP hD hS => ?_)
  have hP : va_P (dC, dI) vwCl [(a3, .inr (6, [.int 0, .ref a15, .ref a16, .ref a17, .int 0])), (a6, .inr (2, [.ref a18, .ref a19, .ref a20, .ref a21])), (a18, .inr (6, [.int 0, .ref a22, .ref a23, .ref a24, .int 0])), (a5, .inl (k2, 64, .inl (fun _ => 0))), (a1, .inr (7, [.ref a2, .ref a3, .ref a4, .ref a5, .ref a6, .int 0, .ref a7])), (a2, .inr (1, [.int 0, .ref a8, .ref a9, .ref a10, .ref a11, .ref a12, .ref a13, .ref a14, .int 0]))] H := hP
  have hD : va_D A [(a3, .inr (6, [.int 0, .ref a15, .ref a16, .ref a17, .int 0])), (a6, .inr (2, [.ref a18, .ref a19, .ref a20, .ref a21])), (a18, .inr (6, [.int 0, .ref a22, .ref a23, .ref a24, .int 0])), (a5, .inl (k2, 64, .inl (fun _ => 0))), (a1, .inr (7, [.ref a2, .ref a3, .ref a4, .ref a5, .ref a6, .int 0, .ref a7])), (a2, .inr (1, [.int 0, .ref a8, .ref a9, .ref a10, .ref a11, .ref a12, .ref a13, .ref a14, .int 0]))] := hD
  refine lv_iconst (v := 0) hx hb dc_Pr_settle_69 (by decide) ?_
  refine lv_istore_n (lv' := [(2, .int 0), (1, .int 0), (0, .ref a1)]) hx hb dc_Pr_settle_70 rfl hl (by decide) rfl (fun ls hl => ?_)
  refine lv_iload_n hx hb dc_Pr_settle_71 rfl (lv_at hl 0 rfl) ?_
  refine lv_aload_n hx hb dc_Pr_settle_72 rfl (lv_at hl 2 rfl) ?_
  refine va_get (D := (dC, dI)) (ci := 7) (v := .ref a3) (C := "StrataBase$Program") (T := tb_Pr) (N := 7) hx hb hT in_Pr hown hK hP 4 rfl rfl 1 (by decide) (hT _ wd_148) (fun _ h9 => h9) rfl dc_Pr_settle_73 ?_
  refine va_get (D := (dC, dI)) (ci := 6) (v := .int 0) (C := "StrataBase$Names") (T := tb_Na) (N := 5) hx hb hT in_Na hown hK hP 0 rfl rfl 0 (by decide) (hT _ wd_106) (fun _ h9 => h9) rfl dc_Pr_settle_76 ?_
  refine lv_icmp_ge (tgt := 107) hx hb dc_Pr_settle_79 (by decide) (fun _ => ?_) (fun h9 => absurd (by decide) h9)
  have hP9 := hP.sub (ws' := [(a3, .inr (6, [.int 0, .ref a15, .ref a16, .ref a17, .int 0])), (a6, .inr (2, [.ref a18, .ref a19, .ref a20, .ref a21])), (a18, .inr (6, [.int 0, .ref a22, .ref a23, .ref a24, .int 0])), (a5, .inl (k2, 64, .inl (fun _ => 0))), (a1, .inr (7, [.ref a2, .ref a3, .ref a4, .ref a5, .ref a6, .int 0, .ref a7])), (a2, .inr (1, [.int 0, .ref a8, .ref a9, .ref a10, .ref a11, .ref a12, .ref a13, .ref a14, .int 0]))]) [0, 1, 2, 3, 4, 5] rfl
  have hD9 := hD.sub (ws' := [(a3, .inr (6, [.int 0, .ref a15, .ref a16, .ref a17, .int 0])), (a6, .inr (2, [.ref a18, .ref a19, .ref a20, .ref a21])), (a18, .inr (6, [.int 0, .ref a22, .ref a23, .ref a24, .int 0])), (a5, .inl (k2, 64, .inl (fun _ => 0))), (a1, .inr (7, [.ref a2, .ref a3, .ref a4, .ref a5, .ref a6, .int 0, .ref a7])), (a2, .inr (1, [.int 0, .ref a8, .ref a9, .ref a10, .ref a11, .ref a12, .ref a13, .ref a14, .int 0]))]) [0, 1, 2, 3, 4, 5] (by decide) rfl
  have hK9 := hK.sub (tys' := [(k2, .int)]) [0] rfl
  refine W.widen (k := 0) (n := 0) (Nat.le_of_ble_eq_true rfl) (Nat.le_of_ble_eq_true rfl) ?_
  exact W.vret hx hb hr (fun t ht hW => ⟨⟨(), rfl, trivial, by rw [ht]; exact hP9, va_K.moved hW.alike hK9, hD9⟩, hS.F ht⟩) hS.2.2 dc_Pr_settle_107

set_option maxHeartbeats 4000000 in
set_option maxRecDepth 100000 in
theorem c_Ro_open_1 (l : Launch) (dC : Nat → ClassId) (dI : Nat → Nat → Nat) (a1 : Nat) (a2 : Nat) (a3 : Nat) (a4 : Nat) (sz : Nat) : Met l my_Ro_open (Cond.code my_Ro_open cd_Ro_open 4 none :: tblG) ({ frames := 0, cells := 0, slots := 0, locals := 0 }) (va_Pc [.ref a1, .int 0, .int 0] (fun U => U.heap.size = sz ∧ va_P (dC, dI) vwCl [(a1, .inr (9, [.int 0, .int 0, .int 0, .ref a2, .ref a3, .ref a4]))] U.heap ∧ va_K (dC, dI) vwCl [] U ∧ va_D (fun _ => True) [(a1, .inr (9, [.int 0, .int 0, .int 0, .ref a2, .ref a3, .ref a4]))])) (va_Qv (fun _ : Unit => True) (fun (_ : Unit) (t : State) => va_P (dC, dI) vwCl [(a1, .inr (9, [.int 0, .int 0, .int 0, .ref a2, .ref a3, .ref a4]))] t.heap ∧ va_K (dC, dI) vwCl [] t ∧ va_D (va_A [(a1, .inr (9, [.int 0, .int 0, .int 0, .ref a2, .ref a3, .ref a4]))] sz) [(a1, .inr (9, [.int 0, .int 0, .int 0, .ref a2, .ref a3, .ref a4]))]) (va_A [(a1, .inr (9, [.int 0, .int 0, .int 0, .ref a2, .ref a3, .ref a4]))] sz)) 0 0 (va_A [(a1, .inr (9, [.int 0, .int 0, .int 0, .ref a2, .ref a3, .ref a4]))] sz) := by
  refine Met.ofW (cc := cd_Ro_open) (maxL := 4) (ret := none) (by decide) rfl ?_
  intro p e s m args below meth c s₁ B hml hv
  obtain ⟨rfl, hsz, hP, hK, hD0⟩ := hv
  have hx := B.exec
  have hb := B.bytes
  have hr := B.returns
  have hT : ∀ w ∈ tblG, w.before _ s = true := fun w h => atoms_spec (ws := (Cond.code my_Ro_open cd_Ro_open 4 none :: tblG)) B.pre w (List.mem_cons_of_mem _ h)
  have hown : s.vm.findClass "StrataBase$Rows" = some m.cls := findClass_of_methodNamed B.named
  have hlocks := B.notSynchronized
  subst hsz
  have hD := hD0.self (sz := s.heap.size)
  generalize hAe : va_A [(a1, .inr (9, [.int 0, .int 0, .int 0, .ref a2, .ref a3, .ref a4]))] s.heap.size = A at hD ⊢
  have hA : ∀ q : Nat, s.heap.size ≤ q → A q := fun q h => by rw [← hAe]; exact Or.inr h
  have hS : va_S A s.heap s.heap [] := va_S.rf
  have hl := lv_entry ([.ref a1, .int 0, .int 0]) (n := 4) (Nat.le_of_ble_eq_true rfl)
  rw [lg_entry_eq]
  generalize (lg_sl ([.ref a1, .int 0, .int 0]) ++ List.replicate (4 - (lg_sl ([.ref a1, .int 0, .int 0])).length) Slot.unset).toArray = ls at hl ⊢
  have hl : lv_has ls 4 [(0, .ref a1), (1, .int 0), (2, .int 0)] := hl
  refine lv_aload_n hx hb dc_Ro_open_0 rfl (lv_at hl 0 rfl) ?_
  refine lv_iconst (v := 0) hx hb dc_Ro_open_1 (by decide) ?_
  refine va_put (D := (dC, dI)) (ci := 9) (v := .int 0) (ty := .int) (C := "StrataBase$Rows") (T := tb_Ro) (N := 6) hx hb hT in_Ro ty_Ro tk_Ro nm_Ro hown hK hP hD hS 0 rfl rfl 0 (by decide) (hT _ wd_494) (fun _ h9 => h9) rfl (by decide +kernel) rfl rfl (Nat.le_of_ble_eq_true rfl) dc_Ro_open_2 (fun H locs hP hD hS => ?_)
  have hP : va_P (dC, dI) vwCl [(a1, .inr (9, [.int 0, .int 0, .int 0, .ref a2, .ref a3, .ref a4]))] H := hP
  have hD : va_D A [(a1, .inr (9, [.int 0, .int 0, .int 0, .ref a2, .ref a3, .ref a4]))] := hD
  refine lv_aload_n hx hb dc_Ro_open_5 rfl (lv_at hl 0 rfl) ?_
  refine lv_iconst (v := 0) hx hb dc_Ro_open_6 (by decide) ?_
  refine va_put (D := (dC, dI)) (ci := 9) (v := .int 0) (ty := .int) (C := "StrataBase$Rows") (T := tb_Ro) (N := 6) hx hb hT in_Ro ty_Ro tk_Ro nm_Ro hown hK hP hD hS 0 rfl rfl 1 (by decide) (hT _ wd_496) (fun _ h9 => h9) rfl (by decide +kernel) rfl rfl (Nat.le_of_ble_eq_true rfl) dc_Ro_open_7 (fun H locs hP hD hS => ?_)
  have hP : va_P (dC, dI) vwCl [(a1, .inr (9, [.int 0, .int 0, .int 0, .ref a2, .ref a3, .ref a4]))] H := hP
  have hD : va_D A [(a1, .inr (9, [.int 0, .int 0, .int 0, .ref a2, .ref a3, .ref a4]))] := hD
  refine lv_aload_n hx hb dc_Ro_open_10 rfl (lv_at hl 0 rfl) ?_
  refine lv_iconst (v := 0) hx hb dc_Ro_open_11 (by decide) ?_
  refine va_put (D := (dC, dI)) (ci := 9) (v := .int 0) (ty := .boolean) (C := "StrataBase$Rows") (T := tb_Ro) (N := 6) hx hb hT in_Ro ty_Ro tk_Ro nm_Ro hown hK hP hD hS 0 rfl rfl 2 (by decide) (hT _ wd_498) (fun _ h9 => h9) rfl (by decide +kernel) (by decide) (by decide) (Nat.le_of_ble_eq_true rfl) dc_Ro_open_12 (fun H locs hP hD hS => ?_)
  have hP : va_P (dC, dI) vwCl [(a1, .inr (9, [.int 0, .int 0, .int 0, .ref a2, .ref a3, .ref a4]))] H := hP
  have hD : va_D A [(a1, .inr (9, [.int 0, .int 0, .int 0, .ref a2, .ref a3, .ref a4]))] := hD
  refine lv_iconst (v := 0) hx hb dc_Ro_open_15 (by decide) ?_
  refine lv_istore_n (lv' := [(3, .int 0), (0, .ref a1), (1, .int 0), (2, .int 0)]) hx hb dc_Ro_open_16 rfl hl (by decide) rfl (fun ls hl => ?_)
  refine lv_iload_n hx hb dc_Ro_open_17 rfl (lv_at hl 0 rfl) ?_
  refine lv_iload_n hx hb dc_Ro_open_18 rfl (lv_at hl 2 rfl) ?_
  refine lv_icmp_ge (tgt := 56) hx hb dc_Ro_open_19 (by decide) (fun _ => ?_) (fun h9 => absurd (by decide) h9)
  have hP9 := hP.sub (ws' := [(a1, .inr (9, [.int 0, .int 0, .int 0, .ref a2, .ref a3, .ref a4]))]) [0] rfl
  have hD9 := hD.sub (ws' := [(a1, .inr (9, [.int 0, .int 0, .int 0, .ref a2, .ref a3, .ref a4]))]) [0] (by decide) rfl
  have hK9 := hK.sub (tys' := []) [] rfl
  refine W.widen (k := 0) (n := 0) (Nat.le_of_ble_eq_true rfl) (Nat.le_of_ble_eq_true rfl) ?_
  exact W.vret hx hb hr (fun t ht hW => ⟨⟨(), rfl, trivial, by rw [ht]; exact hP9, va_K.moved hW.alike hK9, hD9⟩, hS.F ht⟩) hS.2.2 dc_Ro_open_56

set_option maxHeartbeats 4000000 in
set_option maxRecDepth 100000 in
theorem c_SB_load (l : Launch) (dC : Nat → ClassId) (dI : Nat → Nat → Nat) (h0 : Nat) (q7 : Nat) (q13 : Nat) (q24 : Nat) (q35 : Nat) (q47 : Nat) (q58 : Nat) (q69 : Nat) (q84 : Nat) (q95 : Nat) (u29 : Nat) (u30 : Nat) (u31 : Nat) (u32 : Nat) (u33 : Nat) (u35 : Nat) (u39 : Nat) (u40 : Nat) (u41 : Nat) (u42 : Nat) (u43 : Nat) (u44 : Nat) (u45 : Nat) (u46 : Nat) (u47 : Nat) (u48 : Nat) (u34 : Nat) (u49 : Nat) (u50 : Nat) (u51 : Nat) (u52 : Nat) (u53 : Nat) (u54 : Nat) (u69 : Nat) (u70 : Nat) (u72 : Nat) (u71 : Nat) (u73 : Nat) (u74 : Nat) (u75 : Nat) (u76 : Nat) (u77 : Nat) (u78 : Nat) (u79 : Nat) (u80 : Nat) (u110 : Nat) (u111 : Nat) (u112 : Nat) (k36 : ClassId) (k37 : ClassId) (k38 : ClassId) (sz : Nat) : Met l my_SB_load (Cond.code my_SB_load cd_SB_load 2 (some (.int)) :: tblG) ({ frames := 5, cells := 0, slots := 0, locals := 106 }) (va_Pc [.ref h0] (fun U => U.heap.size = sz ∧ va_P (dC, dI) vwCl [(h0, .inr (0, [.ref q7, .int 0, .int 0, .ref q13, .ref q24, .ref q35, .ref q47, .ref q58, .ref q69, .ref q84, .ref q95, .int 0, .int 0])), (q24, .inr (7, [.ref u29, .ref u30, .ref u31, .ref u32, .ref u33, .int 0, .ref u35])), (u29, .inr (1, [.int 0, .ref u39, .ref u40, .ref u41, .ref u42, .ref u43, .ref u44, .ref u45, .int 0])), (u30, .inr (6, [.int 0, .ref u46, .ref u47, .ref u48, .int 0])), (u31, .inl (k36, 64, .inl (fun _ => 0))), (u32, .inl (k37, 64, .inl (fun _ => 0))), (u33, .inr (2, [.ref u34, .ref u49, .ref u50, .ref u51])), (u34, .inr (6, [.int 0, .ref u52, .ref u53, .ref u54, .int 0])), (u35, .inl (k38, 64, .inr (.inl (fun _ => 0)))), (q47, .inr (8, [.int 0, .int 0, .ref u69, .int 0, .ref u70, .int 0, .int 0, .null, .null, .int 0, .int 0, .int 0, .int 0, .int 0, .int 0, .ref u72, .ref u71, .ref u73, .ref u74])), (u69, .inr (6, [.int 0, .ref u75, .ref u76, .ref u77, .int 0])), (u70, .inr (11, [.null, .int 0, .int 0, .int 0, .int 0, .int 0])), (u71, .inr (6, [.int 0, .ref u78, .ref u79, .ref u80, .int 0])), (q84, .inr (9, [.int 0, .int 0, .int 0, .ref u110, .ref u111, .ref u112]))] U.heap ∧ va_K (dC, dI) vwCl [(k36, .int), (k37, .int), (k38, .long)] U ∧ va_D (fun _ => True) [(h0, .inr (0, [.ref q7, .int 0, .int 0, .ref q13, .ref q24, .ref q35, .ref q47, .ref q58, .ref q69, .ref q84, .ref q95, .int 0, .int 0])), (q24, .inr (7, [.ref u29, .ref u30, .ref u31, .ref u32, .ref u33, .int 0, .ref u35])), (u29, .inr (1, [.int 0, .ref u39, .ref u40, .ref u41, .ref u42, .ref u43, .ref u44, .ref u45, .int 0])), (u30, .inr (6, [.int 0, .ref u46, .ref u47, .ref u48, .int 0])), (u31, .inl (k36, 64, .inl (fun _ => 0))), (u32, .inl (k37, 64, .inl (fun _ => 0))), (u33, .inr (2, [.ref u34, .ref u49, .ref u50, .ref u51])), (u34, .inr (6, [.int 0, .ref u52, .ref u53, .ref u54, .int 0])), (u35, .inl (k38, 64, .inr (.inl (fun _ => 0)))), (q47, .inr (8, [.int 0, .int 0, .ref u69, .int 0, .ref u70, .int 0, .int 0, .null, .null, .int 0, .int 0, .int 0, .int 0, .int 0, .int 0, .ref u72, .ref u71, .ref u73, .ref u74])), (u69, .inr (6, [.int 0, .ref u75, .ref u76, .ref u77, .int 0])), (u70, .inr (11, [.null, .int 0, .int 0, .int 0, .int 0, .int 0])), (u71, .inr (6, [.int 0, .ref u78, .ref u79, .ref u80, .int 0])), (q84, .inr (9, [.int 0, .int 0, .int 0, .ref u110, .ref u111, .ref u112]))])) (va_Qi (fun (r : Int32) (_ : Unit) => r = (-1)) (fun (_ : Unit) (t : State) => ∃ (u2 : Nat → Int32) (u4 : Nat → Int64), va_P (dC, dI) vwCl [(u71, .inr (6, [.int 0, .ref u78, .ref u79, .ref u80, .int 0])), (u69, .inr (6, [.int 0, .ref u75, .ref u76, .ref u77, .int 0])), (u31, .inl (k36, 64, .inl u2)), (u70, .inr (11, [.ref q7, .int 0, .int 0, .int 0, .int 0, .int 0])), (u35, .inl (k38, 64, .inr (.inl u4))), (h0, .inr (0, [.ref q7, .int 0, .int 0, .ref q24, .ref q13, .ref q35, .ref q47, .ref q58, .ref q69, .ref q84, .ref q95, .int 0, .int 0])), (q47, .inr (8, [.int 0, .int 0, .ref u69, .int 0, .ref u70, .int 0, .int 12, .ref q24, .ref u29, .int 0, .int 0, .int 0, .int 0, .int 0, .int 0, .ref u72, .ref u71, .ref u73, .ref u74])), (u30, .inr (6, [.int 0, .ref u46, .ref u47, .ref u48, .int 0])), (u33, .inr (2, [.ref u34, .ref u49, .ref u50, .ref u51])), (u34, .inr (6, [.int 0, .ref u52, .ref u53, .ref u54, .int 0])), (u32, .inl (k37, 64, .inl (fun _ => 0))), (q24, .inr (7, [.ref u29, .ref u30, .ref u31, .ref u32, .ref u33, .int 0, .ref u35])), (u29, .inr (1, [.int 0, .ref u39, .ref u40, .ref u41, .ref u42, .ref u43, .ref u44, .ref u45, .int 0])), (q84, .inr (9, [.int 0, .int 0, .int 0, .ref u110, .ref u111, .ref u112]))] t.heap ∧ va_K (dC, dI) vwCl [(k36, .int), (k38, .long), (k37, .int)] t ∧ va_D (va_A [(h0, .inr (0, [.ref q7, .int 0, .int 0, .ref q13, .ref q24, .ref q35, .ref q47, .ref q58, .ref q69, .ref q84, .ref q95, .int 0, .int 0])), (q24, .inr (7, [.ref u29, .ref u30, .ref u31, .ref u32, .ref u33, .int 0, .ref u35])), (u29, .inr (1, [.int 0, .ref u39, .ref u40, .ref u41, .ref u42, .ref u43, .ref u44, .ref u45, .int 0])), (u30, .inr (6, [.int 0, .ref u46, .ref u47, .ref u48, .int 0])), (u31, .inl (k36, 64, .inl (fun _ => 0))), (u32, .inl (k37, 64, .inl (fun _ => 0))), (u33, .inr (2, [.ref u34, .ref u49, .ref u50, .ref u51])), (u34, .inr (6, [.int 0, .ref u52, .ref u53, .ref u54, .int 0])), (u35, .inl (k38, 64, .inr (.inl (fun _ => 0)))), (q47, .inr (8, [.int 0, .int 0, .ref u69, .int 0, .ref u70, .int 0, .int 0, .null, .null, .int 0, .int 0, .int 0, .int 0, .int 0, .int 0, .ref u72, .ref u71, .ref u73, .ref u74])), (u69, .inr (6, [.int 0, .ref u75, .ref u76, .ref u77, .int 0])), (u70, .inr (11, [.null, .int 0, .int 0, .int 0, .int 0, .int 0])), (u71, .inr (6, [.int 0, .ref u78, .ref u79, .ref u80, .int 0])), (q84, .inr (9, [.int 0, .int 0, .int 0, .ref u110, .ref u111, .ref u112]))] sz) [(u71, .inr (6, [.int 0, .ref u78, .ref u79, .ref u80, .int 0])), (u69, .inr (6, [.int 0, .ref u75, .ref u76, .ref u77, .int 0])), (u31, .inl (k36, 64, .inl u2)), (u70, .inr (11, [.ref q7, .int 0, .int 0, .int 0, .int 0, .int 0])), (u35, .inl (k38, 64, .inr (.inl u4))), (h0, .inr (0, [.ref q7, .int 0, .int 0, .ref q24, .ref q13, .ref q35, .ref q47, .ref q58, .ref q69, .ref q84, .ref q95, .int 0, .int 0])), (q47, .inr (8, [.int 0, .int 0, .ref u69, .int 0, .ref u70, .int 0, .int 12, .ref q24, .ref u29, .int 0, .int 0, .int 0, .int 0, .int 0, .int 0, .ref u72, .ref u71, .ref u73, .ref u74])), (u30, .inr (6, [.int 0, .ref u46, .ref u47, .ref u48, .int 0])), (u33, .inr (2, [.ref u34, .ref u49, .ref u50, .ref u51])), (u34, .inr (6, [.int 0, .ref u52, .ref u53, .ref u54, .int 0])), (u32, .inl (k37, 64, .inl (fun _ => 0))), (q24, .inr (7, [.ref u29, .ref u30, .ref u31, .ref u32, .ref u33, .int 0, .ref u35])), (u29, .inr (1, [.int 0, .ref u39, .ref u40, .ref u41, .ref u42, .ref u43, .ref u44, .ref u45, .int 0])), (q84, .inr (9, [.int 0, .int 0, .int 0, .ref u110, .ref u111, .ref u112]))]) (va_A [(h0, .inr (0, [.ref q7, .int 0, .int 0, .ref q13, .ref q24, .ref q35, .ref q47, .ref q58, .ref q69, .ref q84, .ref q95, .int 0, .int 0])), (q24, .inr (7, [.ref u29, .ref u30, .ref u31, .ref u32, .ref u33, .int 0, .ref u35])), (u29, .inr (1, [.int 0, .ref u39, .ref u40, .ref u41, .ref u42, .ref u43, .ref u44, .ref u45, .int 0])), (u30, .inr (6, [.int 0, .ref u46, .ref u47, .ref u48, .int 0])), (u31, .inl (k36, 64, .inl (fun _ => 0))), (u32, .inl (k37, 64, .inl (fun _ => 0))), (u33, .inr (2, [.ref u34, .ref u49, .ref u50, .ref u51])), (u34, .inr (6, [.int 0, .ref u52, .ref u53, .ref u54, .int 0])), (u35, .inl (k38, 64, .inr (.inl (fun _ => 0)))), (q47, .inr (8, [.int 0, .int 0, .ref u69, .int 0, .ref u70, .int 0, .int 0, .null, .null, .int 0, .int 0, .int 0, .int 0, .int 0, .int 0, .ref u72, .ref u71, .ref u73, .ref u74])), (u69, .inr (6, [.int 0, .ref u75, .ref u76, .ref u77, .int 0])), (u70, .inr (11, [.null, .int 0, .int 0, .int 0, .int 0, .int 0])), (u71, .inr (6, [.int 0, .ref u78, .ref u79, .ref u80, .int 0])), (q84, .inr (9, [.int 0, .int 0, .int 0, .ref u110, .ref u111, .ref u112]))] sz)) 0 0 (va_A [(h0, .inr (0, [.ref q7, .int 0, .int 0, .ref q13, .ref q24, .ref q35, .ref q47, .ref q58, .ref q69, .ref q84, .ref q95, .int 0, .int 0])), (q24, .inr (7, [.ref u29, .ref u30, .ref u31, .ref u32, .ref u33, .int 0, .ref u35])), (u29, .inr (1, [.int 0, .ref u39, .ref u40, .ref u41, .ref u42, .ref u43, .ref u44, .ref u45, .int 0])), (u30, .inr (6, [.int 0, .ref u46, .ref u47, .ref u48, .int 0])), (u31, .inl (k36, 64, .inl (fun _ => 0))), (u32, .inl (k37, 64, .inl (fun _ => 0))), (u33, .inr (2, [.ref u34, .ref u49, .ref u50, .ref u51])), (u34, .inr (6, [.int 0, .ref u52, .ref u53, .ref u54, .int 0])), (u35, .inl (k38, 64, .inr (.inl (fun _ => 0)))), (q47, .inr (8, [.int 0, .int 0, .ref u69, .int 0, .ref u70, .int 0, .int 0, .null, .null, .int 0, .int 0, .int 0, .int 0, .int 0, .int 0, .ref u72, .ref u71, .ref u73, .ref u74])), (u69, .inr (6, [.int 0, .ref u75, .ref u76, .ref u77, .int 0])), (u70, .inr (11, [.null, .int 0, .int 0, .int 0, .int 0, .int 0])), (u71, .inr (6, [.int 0, .ref u78, .ref u79, .ref u80, .int 0])), (q84, .inr (9, [.int 0, .int 0, .int 0, .ref u110, .ref u111, .ref u112]))] sz) := by
  refine Met.ofW (cc := cd_SB_load) (maxL := 2) (ret := (some (.int))) (by decide) rfl ?_
  intro p e s m args below meth c s₁ B hml hv
  obtain ⟨rfl, hsz, hP, hK, hD0⟩ := hv
  have hx := B.exec
  have hb := B.bytes
  have hr := B.returns
  have hT : ∀ w ∈ tblG, w.before _ s = true := fun w h => atoms_spec (ws := (Cond.code my_SB_load cd_SB_load 2 (some (.int)) :: tblG)) B.pre w (List.mem_cons_of_mem _ h)
  have hown : s.vm.findClass "StrataBase" = some m.cls := findClass_of_methodNamed B.named
  have hlocks := B.notSynchronized
  subst hsz
  have hD := hD0.self (sz := s.heap.size)
  generalize hAe : va_A [(h0, .inr (0, [.ref q7, .int 0, .int 0, .ref q13, .ref q24, .ref q35, .ref q47, .ref q58, .ref q69, .ref q84, .ref q95, .int 0, .int 0])), (q24, .inr (7, [.ref u29, .ref u30, .ref u31, .ref u32, .ref u33, .int 0, .ref u35])), (u29, .inr (1, [.int 0, .ref u39, .ref u40, .ref u41, .ref u42, .ref u43, .ref u44, .ref u45, .int 0])), (u30, .inr (6, [.int 0, .ref u46, .ref u47, .ref u48, .int 0])), (u31, .inl (k36, 64, .inl (fun _ => 0))), (u32, .inl (k37, 64, .inl (fun _ => 0))), (u33, .inr (2, [.ref u34, .ref u49, .ref u50, .ref u51])), (u34, .inr (6, [.int 0, .ref u52, .ref u53, .ref u54, .int 0])), (u35, .inl (k38, 64, .inr (.inl (fun _ => 0)))), (q47, .inr (8, [.int 0, .int 0, .ref u69, .int 0, .ref u70, .int 0, .int 0, .null, .null, .int 0, .int 0, .int 0, .int 0, .int 0, .int 0, .ref u72, .ref u71, .ref u73, .ref u74])), (u69, .inr (6, [.int 0, .ref u75, .ref u76, .ref u77, .int 0])), (u70, .inr (11, [.null, .int 0, .int 0, .int 0, .int 0, .int 0])), (u71, .inr (6, [.int 0, .ref u78, .ref u79, .ref u80, .int 0])), (q84, .inr (9, [.int 0, .int 0, .int 0, .ref u110, .ref u111, .ref u112]))] s.heap.size = A at hD ⊢
  have hA : ∀ q : Nat, s.heap.size ≤ q → A q := fun q h => by rw [← hAe]; exact Or.inr h
  have hS : va_S A s.heap s.heap [] := va_S.rf
  have hl := lv_entry ([.ref h0]) (n := 2) (Nat.le_of_ble_eq_true rfl)
  rw [lg_entry_eq]
  generalize (lg_sl ([.ref h0]) ++ List.replicate (2 - (lg_sl ([.ref h0])).length) Slot.unset).toArray = ls at hl ⊢
  have hl : lv_has ls 2 [(0, .ref h0)] := hl
  refine lv_aload_n hx hb dc_SB_load_0 rfl (lv_at hl 0 rfl) ?_
  refine va_get (D := (dC, dI)) (ci := 0) (v := .ref q47) (C := "StrataBase") (T := tb_SB) (N := 13) hx hb hT in_SB hown hK hP 0 rfl rfl 6 (by decide) (hT _ wd_523) (fun _ h9 => h9) rfl dc_SB_load_1 ?_
  refine lv_iconst (v := 0) hx hb dc_SB_load_4 (by decide) ?_
  refine lv_aload_n hx hb dc_SB_load_5 rfl (lv_at hl 0 rfl) ?_
  refine va_get (D := (dC, dI)) (ci := 0) (v := .ref q7) (C := "StrataBase") (T := tb_SB) (N := 13) hx hb hT in_SB hown hK hP 0 rfl rfl 0 (by decide) (hT _ wd_517) (fun _ h9 => h9) rfl dc_SB_load_6 ?_
  refine lv_aload_n hx hb dc_SB_load_9 rfl (lv_at hl 0 rfl) ?_
  refine va_get (D := (dC, dI)) (ci := 0) (v := .int 0) (C := "StrataBase") (T := tb_SB) (N := 13) hx hb hT in_SB hown hK hP 0 rfl rfl 1 (by decide) (hT _ wd_518) (fun _ h9 => h9) rfl dc_SB_load_10 ?_
  refine lv_aload_n hx hb dc_SB_load_13 rfl (lv_at hl 0 rfl) ?_
  refine va_get (D := (dC, dI)) (ci := 0) (v := .ref q24) (C := "StrataBase") (T := tb_SB) (N := 13) hx hb hT in_SB hown hK hP 0 rfl rfl 4 (by decide) (hT _ wd_521) (fun _ h9 => h9) rfl dc_SB_load_14 ?_
  refine lv_aload_n hx hb dc_SB_load_17 rfl (lv_at hl 0 rfl) ?_
  refine va_get (D := (dC, dI)) (ci := 0) (v := .ref q24) (C := "StrataBase") (T := tb_SB) (N := 13) hx hb hT in_SB hown hK hP 0 rfl rfl 4 (by decide) (hT _ wd_521) (fun _ h9 => h9) rfl dc_SB_load_18 ?_
  refine va_get (D := (dC, dI)) (ci := 7) (v := .ref u29) (C := "StrataBase$Program") (T := tb_Pr) (N := 7) hx hb hT in_Pr hown hK hP 1 rfl rfl 0 (by decide) (hT _ wd_147) (fun _ h9 => h9) rfl dc_SB_load_21 ?_
  have hPc := hP.sub (ws' := [(q47, .inr (8, [.int 0, .int 0, .ref u69, .int 0, .ref u70, .int 0, .int 0, .null, .null, .int 0, .int 0, .int 0, .int 0, .int 0, .int 0, .ref u72, .ref u71, .ref u73, .ref u74])), (q24, .inr (7, [.ref u29, .ref u30, .ref u31, .ref u32, .ref u33, .int 0, .ref u35])), (u29, .inr (1, [.int 0, .ref u39, .ref u40, .ref u41, .ref u42, .ref u43, .ref u44, .ref u45, .int 0])), (u69, .inr (6, [.int 0, .ref u75, .ref u76, .ref u77, .int 0])), (u70, .inr (11, [.null, .int 0, .int 0, .int 0, .int 0, .int 0])), (u71, .inr (6, [.int 0, .ref u78, .ref u79, .ref u80, .int 0])), (u30, .inr (6, [.int 0, .ref u46, .ref u47, .ref u48, .int 0])), (u31, .inl (k36, 64, .inl (fun _ => 0))), (u33, .inr (2, [.ref u34, .ref u49, .ref u50, .ref u51])), (u34, .inr (6, [.int 0, .ref u52, .ref u53, .ref u54, .int 0]))]) [9, 1, 2, 10, 11, 12, 3, 4, 6, 7] rfl
  have hDc := hD.sub (ws' := [(q47, .inr (8, [.int 0, .int 0, .ref u69, .int 0, .ref u70, .int 0, .int 0, .null, .null, .int 0, .int 0, .int 0, .int 0, .int 0, .int 0, .ref u72, .ref u71, .ref u73, .ref u74])), (q24, .inr (7, [.ref u29, .ref u30, .ref u31, .ref u32, .ref u33, .int 0, .ref u35])), (u29, .inr (1, [.int 0, .ref u39, .ref u40, .ref u41, .ref u42, .ref u43, .ref u44, .ref u45, .int 0])), (u69, .inr (6, [.int 0, .ref u75, .ref u76, .ref u77, .int 0])), (u70, .inr (11, [.null, .int 0, .int 0, .int 0, .int 0, .int 0])), (u71, .inr (6, [.int 0, .ref u78, .ref u79, .ref u80, .int 0])), (u30, .inr (6, [.int 0, .ref u46, .ref u47, .ref u48, .int 0])), (u31, .inl (k36, 64, .inl (fun _ => 0))), (u33, .inr (2, [.ref u34, .ref u49, .ref u50, .ref u51])), (u34, .inr (6, [.int 0, .ref u52, .ref u53, .ref u54, .int 0]))]) [9, 1, 2, 10, 11, 12, 3, 4, 6, 7] (by decide) rfl
  have hKc := hK.sub (tys' := [(k36, .int)]) [0] rfl
  have hFc := va_free (wc := [(q47, .inr (8, [.int 0, .int 0, .ref u69, .int 0, .ref u70, .int 0, .int 0, .null, .null, .int 0, .int 0, .int 0, .int 0, .int 0, .int 0, .ref u72, .ref u71, .ref u73, .ref u74])), (q24, .inr (7, [.ref u29, .ref u30, .ref u31, .ref u32, .ref u33, .int 0, .ref u35])), (u29, .inr (1, [.int 0, .ref u39, .ref u40, .ref u41, .ref u42, .ref u43, .ref u44, .ref u45, .int 0])), (u69, .inr (6, [.int 0, .ref u75, .ref u76, .ref u77, .int 0])), (u70, .inr (11, [.null, .int 0, .int 0, .int 0, .int 0, .int 0])), (u71, .inr (6, [.int 0, .ref u78, .ref u79, .ref u80, .int 0])), (u30, .inr (6, [.int 0, .ref u46, .ref u47, .ref u48, .int 0])), (u31, .inl (k36, 64, .inl (fun _ => 0))), (u33, .inr (2, [.ref u34, .ref u49, .ref u50, .ref u51])), (u34, .inr (6, [.int 0, .ref u52, .ref u53, .ref u54, .int 0]))]) hD hS hA [9, 1, 2, 10, 11, 12, 3, 4, 6, 7] rfl
  refine va_callv (va_runV (As := [.int 0, .ref q7, .int 0, .ref q24, .ref u29]) (rest := []) ⟨hx, hb, hml, hown, hT⟩ (c_Re_read_1 l dC dI q47 u69 u70 u72 u71 u73 u74 q24 u29 u30 u31 u32 u33 u35 u39 u40 u41 u42 u43 u44 u45 u75 u76 u77 u78 u79 u80 u46 u47 u48 u34 u49 u50 u51 u52 u53 u54 q7 k36 s.heap.size) (cwV 5 hT (gd_V wd_561 wd_562 wd_563 wd_6 wd_564) rfl rfl rfl (by decide +kernel) ⟨Nat.le_of_ble_eq_true rfl, Nat.le_of_ble_eq_true rfl⟩) ⟨fun a U g mk q => by obtain ⟨q0, q1, qP, qK, qD⟩ := q; exact ⟨q0, q1, qP, va_K.moved (u := U) (U := U.calling g mk a) (Vm.Alike.refl U.vm) qK, qD⟩, va_recv hK hP (q0 := 9) (ci := 8) rfl rfl, fun U hU hW => ⟨rfl, by rw [hU], by rw [hU]; exact hPc, va_K.moved hW.alike hKc, hDc.weaken (fun _ _ _ _ => trivial)⟩⟩ rfl rfl hl.1 rfl (lv_room (Nat.le_of_ble_eq_true rfl)) dc_SB_load_24 ⟨(Nat.le_of_ble_eq_true rfl), (Nat.le_of_ble_eq_true rfl)⟩) hS (fun q _ h => hFc q h) hFc (fun _ t H1 locs ht hvm hr9 hB hz1 hk1 hS => ?_)
  obtain ⟨u2, hP1, hK1, hD1⟩ := hB
  rw [ht] at hP1
  have hK1 := va_K.moved hvm.symm hK1
  obtain ⟨hP, hD⟩ := va_join (wr := [(h0, .inr (0, [.ref q7, .int 0, .int 0, .ref q13, .ref q24, .ref q35, .ref q47, .ref q58, .ref q69, .ref q84, .ref q95, .int 0, .int 0])), (u32, .inl (k37, 64, .inl (fun _ => 0))), (u35, .inl (k38, 64, .inr (.inl (fun _ => 0)))), (q84, .inr (9, [.int 0, .int 0, .int 0, .ref u110, .ref u111, .ref u112]))]) (w1 := [(u71, .inr (6, [.int 0, .ref u78, .ref u79, .ref u80, .int 0])), (u69, .inr (6, [.int 0, .ref u75, .ref u76, .ref u77, .int 0])), (q24, .inr (7, [.ref u29, .ref u30, .ref u31, .ref u32, .ref u33, .int 0, .ref u35])), (u29, .inr (1, [.int 0, .ref u39, .ref u40, .ref u41, .ref u42, .ref u43, .ref u44, .ref u45, .int 0])), (u30, .inr (6, [.int 0, .ref u46, .ref u47, .ref u48, .int 0])), (u33, .inr (2, [.ref u34, .ref u49, .ref u50, .ref u51])), (u34, .inr (6, [.int 0, .ref u52, .ref u53, .ref u54, .int 0])), (u31, .inl (k36, 64, .inl u2)), (q47, .inr (8, [.int 0, .int 0, .ref u69, .int 0, .ref u70, .int 0, .int 12, .ref q24, .ref u29, .int 0, .int 0, .int 0, .int 0, .int 0, .int 0, .ref u72, .ref u71, .ref u73, .ref u74])), (u70, .inr (11, [.ref q7, .int 0, .int 0, .int 0, .int 0, .int 0]))]) hP hD [9, 1, 2, 10, 11, 12, 3, 4, 6, 7] [0, 5, 8, 13] rfl rfl (by decide) (by decide) hk1 hFc hP1 hD1
  have hK := (hK.sub (tys' := [(k37, .int), (k38, .long)]) [1, 2] rfl).app hK1
  generalize H1 = H at hP hS ⊢
  have hP : va_P (dC, dI) vwCl [(h0, .inr (0, [.ref q7, .int 0, .int 0, .ref q13, .ref q24, .ref q35, .ref q47, .ref q58, .ref q69, .ref q84, .ref q95, .int 0, .int 0])), (u32, .inl (k37, 64, .inl (fun _ => 0))), (u35, .inl (k38, 64, .inr (.inl (fun _ => 0)))), (q84, .inr (9, [.int 0, .int 0, .int 0, .ref u110, .ref u111, .ref u112])), (u71, .inr (6, [.int 0, .ref u78, .ref u79, .ref u80, .int 0])), (u69, .inr (6, [.int 0, .ref u75, .ref u76, .ref u77, .int 0])), (q24, .inr (7, [.ref u29, .ref u30, .ref u31, .ref u32, .ref u33, .int 0, .ref u35])), (u29, .inr (1, [.int 0, .ref u39, .ref u40, .ref u41, .ref u42, .ref u43, .ref u44, .ref u45, .int 0])), (u30, .inr (6, [.int 0, .ref u46, .ref u47, .ref u48, .int 0])), (u33, .inr (2, [.ref u34, .ref u49, .ref u50, .ref u51])), (u34, .inr (6, [.int 0, .ref u52, .ref u53, .ref u54, .int 0])), (u31, .inl (k36, 64, .inl u2)), (q47, .inr (8, [.int 0, .int 0, .ref u69, .int 0, .ref u70, .int 0, .int 12, .ref q24, .ref u29, .int 0, .int 0, .int 0, .int 0, .int 0, .int 0, .ref u72, .ref u71, .ref u73, .ref u74])), (u70, .inr (11, [.ref q7, .int 0, .int 0, .int 0, .int 0, .int 0]))] H := hP
  have hD : va_D A [(h0, .inr (0, [.ref q7, .int 0, .int 0, .ref q13, .ref q24, .ref q35, .ref q47, .ref q58, .ref q69, .ref q84, .ref q95, .int 0, .int 0])), (u32, .inl (k37, 64, .inl (fun _ => 0))), (u35, .inl (k38, 64, .inr (.inl (fun _ => 0)))), (q84, .inr (9, [.int 0, .int 0, .int 0, .ref u110, .ref u111, .ref u112])), (u71, .inr (6, [.int 0, .ref u78, .ref u79, .ref u80, .int 0])), (u69, .inr (6, [.int 0, .ref u75, .ref u76, .ref u77, .int 0])), (q24, .inr (7, [.ref u29, .ref u30, .ref u31, .ref u32, .ref u33, .int 0, .ref u35])), (u29, .inr (1, [.int 0, .ref u39, .ref u40, .ref u41, .ref u42, .ref u43, .ref u44, .ref u45, .int 0])), (u30, .inr (6, [.int 0, .ref u46, .ref u47, .ref u48, .int 0])), (u33, .inr (2, [.ref u34, .ref u49, .ref u50, .ref u51])), (u34, .inr (6, [.int 0, .ref u52, .ref u53, .ref u54, .int 0])), (u31, .inl (k36, 64, .inl u2)), (q47, .inr (8, [.int 0, .int 0, .ref u69, .int 0, .ref u70, .int 0, .int 12, .ref q24, .ref u29, .int 0, .int 0, .int 0, .int 0, .int 0, .int 0, .ref u72, .ref u71, .ref u73, .ref u74])), (u70, .inr (11, [.ref q7, .int 0, .int 0, .int 0, .int 0, .int 0]))] := hD
  have hK : va_K (dC, dI) vwCl [(k37, .int), (k38, .long), (k36, .int)] s := hK
  refine lv_aload_n hx hb dc_SB_load_27 rfl (lv_at hl 0 rfl) ?_
  refine va_get (D := (dC, dI)) (ci := 0) (v := .ref q47) (C := "StrataBase") (T := tb_SB) (N := 13) hx hb hT in_SB hown hK hP 0 rfl rfl 6 (by decide) (hT _ wd_523) (fun _ h9 => h9) rfl dc_SB_load_28 ?_
  have hPc := hP.sub (ws' := [(q47, .inr (8, [.int 0, .int 0, .ref u69, .int 0, .ref u70, .int 0, .int 12, .ref q24, .ref u29, .int 0, .int 0, .int 0, .int 0, .int 0, .int 0, .ref u72, .ref u71, .ref u73, .ref u74])), (q24, .inr (7, [.ref u29, .ref u30, .ref u31, .ref u32, .ref u33, .int 0, .ref u35])), (u29, .inr (1, [.int 0, .ref u39, .ref u40, .ref u41, .ref u42, .ref u43, .ref u44, .ref u45, .int 0])), (u35, .inl (k38, 64, .inr (.inl (fun _ => 0))))]) [12, 6, 7, 2] rfl
  have hDc := hD.sub (ws' := [(q47, .inr (8, [.int 0, .int 0, .ref u69, .int 0, .ref u70, .int 0, .int 12, .ref q24, .ref u29, .int 0, .int 0, .int 0, .int 0, .int 0, .int 0, .ref u72, .ref u71, .ref u73, .ref u74])), (q24, .inr (7, [.ref u29, .ref u30, .ref u31, .ref u32, .ref u33, .int 0, .ref u35])), (u29, .inr (1, [.int 0, .ref u39, .ref u40, .ref u41, .ref u42, .ref u43, .ref u44, .ref u45, .int 0])), (u35, .inl (k38, 64, .inr (.inl (fun _ => 0))))]) [12, 6, 7, 2] (by decide) rfl
  have hKc := hK.sub (tys' := [(k38, .long)]) [1] rfl
  have hFc := va_free (wc := [(q47, .inr (8, [.int 0, .int 0, .ref u69, .int 0, .ref u70, .int 0, .int 12, .ref q24, .ref u29, .int 0, .int 0, .int 0, .int 0, .int 0, .int 0, .ref u72, .ref u71, .ref u73, .ref u74])), (q24, .inr (7, [.ref u29, .ref u30, .ref u31, .ref u32, .ref u33, .int 0, .ref u35])), (u29, .inr (1, [.int 0, .ref u39, .ref u40, .ref u41, .ref u42, .ref u43, .ref u44, .ref u45, .int 0])), (u35, .inl (k38, 64, .inr (.inl (fun _ => 0))))]) hD hS hA [12, 6, 7, 2] rfl
  refine va_callv (va_runV (As := []) (rest := []) ⟨hx, hb, hml, hown, hT⟩ (c_Re_checkCycle_1 l dC dI q47 u69 u70 q24 u29 u72 u71 u73 u74 u30 u31 u32 u33 u35 u39 u40 u41 u42 u43 u44 u45 k38 H.size) (cwV 0 hT (gd_V wd_856 wd_857 wd_858 wd_6 wd_859) rfl rfl rfl (by decide +kernel) ⟨Nat.le_of_ble_eq_true rfl, Nat.le_of_ble_eq_true rfl⟩) ⟨fun a U g mk q => by obtain ⟨q0, q1, qP, qK, qD⟩ := q; exact ⟨q0, q1, qP, va_K.moved (u := U) (U := U.calling g mk a) (Vm.Alike.refl U.vm) qK, qD⟩, va_recv hK hP (q0 := 12) (ci := 8) rfl rfl, fun U hU hW => ⟨rfl, by rw [hU], by rw [hU]; exact hPc, va_K.moved hW.alike hKc, hDc.weaken (fun _ _ _ _ => trivial)⟩⟩ rfl rfl hl.1 rfl (lv_room (Nat.le_of_ble_eq_true rfl)) dc_SB_load_31 ⟨(Nat.le_of_ble_eq_true rfl), (Nat.le_of_ble_eq_true rfl)⟩) hS (fun q _ h => hFc q h) hFc (fun _ t H1 locs ht hvm hr9 hB hz1 hk1 hS => ?_)
  obtain ⟨u4, hP1, hK1, hD1⟩ := hB
  rw [ht] at hP1
  have hK1 := va_K.moved hvm.symm hK1
  obtain ⟨hP, hD⟩ := va_join (wr := [(h0, .inr (0, [.ref q7, .int 0, .int 0, .ref q13, .ref q24, .ref q35, .ref q47, .ref q58, .ref q69, .ref q84, .ref q95, .int 0, .int 0])), (u32, .inl (k37, 64, .inl (fun _ => 0))), (q84, .inr (9, [.int 0, .int 0, .int 0, .ref u110, .ref u111, .ref u112])), (u71, .inr (6, [.int 0, .ref u78, .ref u79, .ref u80, .int 0])), (u69, .inr (6, [.int 0, .ref u75, .ref u76, .ref u77, .int 0])), (u30, .inr (6, [.int 0, .ref u46, .ref u47, .ref u48, .int 0])), (u33, .inr (2, [.ref u34, .ref u49, .ref u50, .ref u51])), (u34, .inr (6, [.int 0, .ref u52, .ref u53, .ref u54, .int 0])), (u31, .inl (k36, 64, .inl u2)), (u70, .inr (11, [.ref q7, .int 0, .int 0, .int 0, .int 0, .int 0]))]) (w1 := [(q47, .inr (8, [.int 0, .int 0, .ref u69, .int 0, .ref u70, .int 0, .int 12, .ref q24, .ref u29, .int 0, .int 0, .int 0, .int 0, .int 0, .int 0, .ref u72, .ref u71, .ref u73, .ref u74])), (q24, .inr (7, [.ref u29, .ref u30, .ref u31, .ref u32, .ref u33, .int 0, .ref u35])), (u29, .inr (1, [.int 0, .ref u39, .ref u40, .ref u41, .ref u42, .ref u43, .ref u44, .ref u45, .int 0])), (u35, .inl (k38, 64, .inr (.inl u4)))]) hP hD [12, 6, 7, 2] [0, 1, 3, 4, 5, 8, 9, 10, 11, 13] rfl rfl (by decide) (by decide) hk1 hFc hP1 hD1
  have hK := (hK.sub (tys' := [(k37, .int), (k36, .int)]) [0, 2] rfl).app hK1
  generalize H1 = H at hP hS ⊢
  have hP : va_P (dC, dI) vwCl [(h0, .inr (0, [.ref q7, .int 0, .int 0, .ref q13, .ref q24, .ref q35, .ref q47, .ref q58, .ref q69, .ref q84, .ref q95, .int 0, .int 0])), (u32, .inl (k37, 64, .inl (fun _ => 0))), (q84, .inr (9, [.int 0, .int 0, .int 0, .ref u110, .ref u111, .ref u112])), (u71, .inr (6, [.int 0, .ref u78, .ref u79, .ref u80, .int 0])), (u69, .inr (6, [.int 0, .ref u75, .ref u76, .ref u77, .int 0])), (u30, .inr (6, [.int 0, .ref u46, .ref u47, .ref u48, .int 0])), (u33, .inr (2, [.ref u34, .ref u49, .ref u50, .ref u51])), (u34, .inr (6, [.int 0, .ref u52, .ref u53, .ref u54, .int 0])), (u31, .inl (k36, 64, .inl u2)), (u70, .inr (11, [.ref q7, .int 0, .int 0, .int 0, .int 0, .int 0])), (q47, .inr (8, [.int 0, .int 0, .ref u69, .int 0, .ref u70, .int 0, .int 12, .ref q24, .ref u29, .int 0, .int 0, .int 0, .int 0, .int 0, .int 0, .ref u72, .ref u71, .ref u73, .ref u74])), (q24, .inr (7, [.ref u29, .ref u30, .ref u31, .ref u32, .ref u33, .int 0, .ref u35])), (u29, .inr (1, [.int 0, .ref u39, .ref u40, .ref u41, .ref u42, .ref u43, .ref u44, .ref u45, .int 0])), (u35, .inl (k38, 64, .inr (.inl u4)))] H := hP
  have hD : va_D A [(h0, .inr (0, [.ref q7, .int 0, .int 0, .ref q13, .ref q24, .ref q35, .ref q47, .ref q58, .ref q69, .ref q84, .ref q95, .int 0, .int 0])), (u32, .inl (k37, 64, .inl (fun _ => 0))), (q84, .inr (9, [.int 0, .int 0, .int 0, .ref u110, .ref u111, .ref u112])), (u71, .inr (6, [.int 0, .ref u78, .ref u79, .ref u80, .int 0])), (u69, .inr (6, [.int 0, .ref u75, .ref u76, .ref u77, .int 0])), (u30, .inr (6, [.int 0, .ref u46, .ref u47, .ref u48, .int 0])), (u33, .inr (2, [.ref u34, .ref u49, .ref u50, .ref u51])), (u34, .inr (6, [.int 0, .ref u52, .ref u53, .ref u54, .int 0])), (u31, .inl (k36, 64, .inl u2)), (u70, .inr (11, [.ref q7, .int 0, .int 0, .int 0, .int 0, .int 0])), (q47, .inr (8, [.int 0, .int 0, .ref u69, .int 0, .ref u70, .int 0, .int 12, .ref q24, .ref u29, .int 0, .int 0, .int 0, .int 0, .int 0, .int 0, .ref u72, .ref u71, .ref u73, .ref u74])), (q24, .inr (7, [.ref u29, .ref u30, .ref u31, .ref u32, .ref u33, .int 0, .ref u35])), (u29, .inr (1, [.int 0, .ref u39, .ref u40, .ref u41, .ref u42, .ref u43, .ref u44, .ref u45, .int 0])), (u35, .inl (k38, 64, .inr (.inl u4)))] := hD
  have hK : va_K (dC, dI) vwCl [(k37, .int), (k36, .int), (k38, .long)] s := hK
  refine lv_aload_n hx hb dc_SB_load_34 rfl (lv_at hl 0 rfl) ?_
  have hPc := hP.sub (ws' := [(h0, .inr (0, [.ref q7, .int 0, .int 0, .ref q13, .ref q24, .ref q35, .ref q47, .ref q58, .ref q69, .ref q84, .ref q95, .int 0, .int 0])), (q47, .inr (8, [.int 0, .int 0, .ref u69, .int 0, .ref u70, .int 0, .int 12, .ref q24, .ref u29, .int 0, .int 0, .int 0, .int 0, .int 0, .int 0, .ref u72, .ref u71, .ref u73, .ref u74]))]) [0, 10] rfl
  have hDc := hD.sub (ws' := [(h0, .inr (0, [.ref q7, .int 0, .int 0, .ref q13, .ref q24, .ref q35, .ref q47, .ref q58, .ref q69, .ref q84, .ref q95, .int 0, .int 0])), (q47, .inr (8, [.int 0, .int 0, .ref u69, .int 0, .ref u70, .int 0, .int 12, .ref q24, .ref u29, .int 0, .int 0, .int 0, .int 0, .int 0, .int 0, .ref u72, .ref u71, .ref u73, .ref u74]))]) [0, 10] (by decide) rfl
  have hKc := hK.sub (tys' := []) [] rfl
  have hFc := va_free (wc := [(h0, .inr (0, [.ref q7, .int 0, .int 0, .ref q13, .ref q24, .ref q35, .ref q47, .ref q58, .ref q69, .ref q84, .ref q95, .int 0, .int 0])), (q47, .inr (8, [.int 0, .int 0, .ref u69, .int 0, .ref u70, .int 0, .int 12, .ref q24, .ref u29, .int 0, .int 0, .int 0, .int 0, .int 0, .int 0, .ref u72, .ref u71, .ref u73, .ref u74]))]) hD hS hA [0, 10] rfl
  refine va_callv (va_runV (As := []) (rest := []) ⟨hx, hb, hml, hown, hT⟩ (c_SB_forgetTape_1 l dC dI h0 q7 q13 q24 q35 q47 q58 q69 q84 q95 u69 u70 u29 u72 u71 u73 u74 H.size) (cwV 0 hT (gd_V wd_872 wd_874 sl_SB_forgetTape wd_1 wd_875) rfl rfl rfl (by decide +kernel) ⟨Nat.le_of_ble_eq_true rfl, Nat.le_of_ble_eq_true rfl⟩) ⟨fun a U g mk q => by obtain ⟨q0, q1, qP, qK, qD⟩ := q; exact ⟨q0, q1, qP, va_K.moved (u := U) (U := U.calling g mk a) (Vm.Alike.refl U.vm) qK, qD⟩, va_recv hK hP (q0 := 0) (ci := 0) rfl rfl, fun U hU hW => ⟨rfl, by rw [hU], by rw [hU]; exact hPc, va_K.moved hW.alike hKc, hDc.weaken (fun _ _ _ _ => trivial)⟩⟩ rfl rfl hl.1 rfl (lv_room (Nat.le_of_ble_eq_true rfl)) dc_SB_load_35 ⟨(Nat.le_of_ble_eq_true rfl), (Nat.le_of_ble_eq_true rfl)⟩) hS (fun q _ h => hFc q h) hFc (fun _ t H1 locs ht hvm hr9 hB hz1 hk1 hS => ?_)
  obtain ⟨hP1, hK1, hD1⟩ := hB
  rw [ht] at hP1
  have hK1 := va_K.moved hvm.symm hK1
  obtain ⟨hP, hD⟩ := va_join (wr := [(u32, .inl (k37, 64, .inl (fun _ => 0))), (q84, .inr (9, [.int 0, .int 0, .int 0, .ref u110, .ref u111, .ref u112])), (u71, .inr (6, [.int 0, .ref u78, .ref u79, .ref u80, .int 0])), (u69, .inr (6, [.int 0, .ref u75, .ref u76, .ref u77, .int 0])), (u30, .inr (6, [.int 0, .ref u46, .ref u47, .ref u48, .int 0])), (u33, .inr (2, [.ref u34, .ref u49, .ref u50, .ref u51])), (u34, .inr (6, [.int 0, .ref u52, .ref u53, .ref u54, .int 0])), (u31, .inl (k36, 64, .inl u2)), (u70, .inr (11, [.ref q7, .int 0, .int 0, .int 0, .int 0, .int 0])), (q24, .inr (7, [.ref u29, .ref u30, .ref u31, .ref u32, .ref u33, .int 0, .ref u35])), (u29, .inr (1, [.int 0, .ref u39, .ref u40, .ref u41, .ref u42, .ref u43, .ref u44, .ref u45, .int 0])), (u35, .inl (k38, 64, .inr (.inl u4)))]) (w1 := [(h0, .inr (0, [.ref q7, .int 0, .int 0, .ref q13, .ref q24, .ref q35, .ref q47, .ref q58, .ref q69, .ref q84, .ref q95, .int 0, .int 0])), (q47, .inr (8, [.int 0, .int 0, .ref u69, .int 0, .ref u70, .int 0, .int 12, .ref q24, .ref u29, .int 0, .int 0, .int 0, .int 0, .int 0, .int 0, .ref u72, .ref u71, .ref u73, .ref u74]))]) hP hD [0, 10] [1, 2, 3, 4, 5, 6, 7, 8, 9, 11, 12, 13] rfl rfl (by decide) (by decide) hk1 hFc hP1 hD1
  have hK := (hK.sub (tys' := [(k37, .int), (k36, .int), (k38, .long)]) [0, 1, 2] rfl).app hK1
  generalize H1 = H at hP hS ⊢
  have hP : va_P (dC, dI) vwCl [(u32, .inl (k37, 64, .inl (fun _ => 0))), (q84, .inr (9, [.int 0, .int 0, .int 0, .ref u110, .ref u111, .ref u112])), (u71, .inr (6, [.int 0, .ref u78, .ref u79, .ref u80, .int 0])), (u69, .inr (6, [.int 0, .ref u75, .ref u76, .ref u77, .int 0])), (u30, .inr (6, [.int 0, .ref u46, .ref u47, .ref u48, .int 0])), (u33, .inr (2, [.ref u34, .ref u49, .ref u50, .ref u51])), (u34, .inr (6, [.int 0, .ref u52, .ref u53, .ref u54, .int 0])), (u31, .inl (k36, 64, .inl u2)), (u70, .inr (11, [.ref q7, .int 0, .int 0, .int 0, .int 0, .int 0])), (q24, .inr (7, [.ref u29, .ref u30, .ref u31, .ref u32, .ref u33, .int 0, .ref u35])), (u29, .inr (1, [.int 0, .ref u39, .ref u40, .ref u41, .ref u42, .ref u43, .ref u44, .ref u45, .int 0])), (u35, .inl (k38, 64, .inr (.inl u4))), (h0, .inr (0, [.ref q7, .int 0, .int 0, .ref q13, .ref q24, .ref q35, .ref q47, .ref q58, .ref q69, .ref q84, .ref q95, .int 0, .int 0])), (q47, .inr (8, [.int 0, .int 0, .ref u69, .int 0, .ref u70, .int 0, .int 12, .ref q24, .ref u29, .int 0, .int 0, .int 0, .int 0, .int 0, .int 0, .ref u72, .ref u71, .ref u73, .ref u74]))] H := hP
  have hD : va_D A [(u32, .inl (k37, 64, .inl (fun _ => 0))), (q84, .inr (9, [.int 0, .int 0, .int 0, .ref u110, .ref u111, .ref u112])), (u71, .inr (6, [.int 0, .ref u78, .ref u79, .ref u80, .int 0])), (u69, .inr (6, [.int 0, .ref u75, .ref u76, .ref u77, .int 0])), (u30, .inr (6, [.int 0, .ref u46, .ref u47, .ref u48, .int 0])), (u33, .inr (2, [.ref u34, .ref u49, .ref u50, .ref u51])), (u34, .inr (6, [.int 0, .ref u52, .ref u53, .ref u54, .int 0])), (u31, .inl (k36, 64, .inl u2)), (u70, .inr (11, [.ref q7, .int 0, .int 0, .int 0, .int 0, .int 0])), (q24, .inr (7, [.ref u29, .ref u30, .ref u31, .ref u32, .ref u33, .int 0, .ref u35])), (u29, .inr (1, [.int 0, .ref u39, .ref u40, .ref u41, .ref u42, .ref u43, .ref u44, .ref u45, .int 0])), (u35, .inl (k38, 64, .inr (.inl u4))), (h0, .inr (0, [.ref q7, .int 0, .int 0, .ref q13, .ref q24, .ref q35, .ref q47, .ref q58, .ref q69, .ref q84, .ref q95, .int 0, .int 0])), (q47, .inr (8, [.int 0, .int 0, .ref u69, .int 0, .ref u70, .int 0, .int 12, .ref q24, .ref u29, .int 0, .int 0, .int 0, .int 0, .int 0, .int 0, .ref u72, .ref u71, .ref u73, .ref u74]))] := hD
  have hK : va_K (dC, dI) vwCl [(k37, .int), (k36, .int), (k38, .long)] s := hK
  refine lv_aload_n hx hb dc_SB_load_38 rfl (lv_at hl 0 rfl) ?_
  refine va_get (D := (dC, dI)) (ci := 0) (v := .int 0) (C := "StrataBase") (T := tb_SB) (N := 13) hx hb hT in_SB hown hK hP 12 rfl rfl 2 (by decide) (hT _ wd_519) (fun _ h9 => h9) rfl dc_SB_load_39 ?_
  refine lv_if_eq (tgt := 53) hx hb dc_SB_load_42 (by decide) (fun _ => ?_) (fun h9 => absurd (by decide) h9)
  refine lv_aload_n hx hb dc_SB_load_53 rfl (lv_at hl 0 rfl) ?_
  refine va_get (D := (dC, dI)) (ci := 0) (v := .ref q13) (C := "StrataBase") (T := tb_SB) (N := 13) hx hb hT in_SB hown hK hP 12 rfl rfl 3 (by decide) (hT _ wd_520) (fun _ h9 => h9) rfl dc_SB_load_54 ?_
  refine lv_astore_n (lv' := [(1, .ref q13), (0, .ref h0)]) hx hb dc_SB_load_57 rfl hl (by decide) rfl (fun ls hl => ?_)
  refine lv_aload_n hx hb dc_SB_load_58 rfl (lv_at hl 1 rfl) ?_
  refine lv_aload_n hx hb dc_SB_load_59 rfl (lv_at hl 1 rfl) ?_
  refine va_get (D := (dC, dI)) (ci := 0) (v := .ref q24) (C := "StrataBase") (T := tb_SB) (N := 13) hx hb hT in_SB hown hK hP 12 rfl rfl 4 (by decide) (hT _ wd_521) (fun _ h9 => h9) rfl dc_SB_load_60 ?_
  refine va_put (D := (dC, dI)) (ci := 0) (v := .ref q24) (ty := .object "StrataBase$Program") (C := "StrataBase") (T := tb_SB) (N := 13) hx hb hT in_SB ty_SB tk_SB nm_SB hown hK hP hD hS 12 rfl rfl 3 (by decide) (hT _ wd_520) (fun _ h9 => h9) rfl (by decide +kernel) rfl rfl (Nat.le_of_ble_eq_true rfl) dc_SB_load_63 (fun H locs hP hD hS => ?_)
  have hP : va_P (dC, dI) vwCl [(u32, .inl (k37, 64, .inl (fun _ => 0))), (q84, .inr (9, [.int 0, .int 0, .int 0, .ref u110, .ref u111, .ref u112])), (u71, .inr (6, [.int 0, .ref u78, .ref u79, .ref u80, .int 0])), (u69, .inr (6, [.int 0, .ref u75, .ref u76, .ref u77, .int 0])), (u30, .inr (6, [.int 0, .ref u46, .ref u47, .ref u48, .int 0])), (u33, .inr (2, [.ref u34, .ref u49, .ref u50, .ref u51])), (u34, .inr (6, [.int 0, .ref u52, .ref u53, .ref u54, .int 0])), (u31, .inl (k36, 64, .inl u2)), (u70, .inr (11, [.ref q7, .int 0, .int 0, .int 0, .int 0, .int 0])), (q24, .inr (7, [.ref u29, .ref u30, .ref u31, .ref u32, .ref u33, .int 0, .ref u35])), (u29, .inr (1, [.int 0, .ref u39, .ref u40, .ref u41, .ref u42, .ref u43, .ref u44, .ref u45, .int 0])), (u35, .inl (k38, 64, .inr (.inl u4))), (h0, .inr (0, [.ref q7, .int 0, .int 0, .ref q24, .ref q24, .ref q35, .ref q47, .ref q58, .ref q69, .ref q84, .ref q95, .int 0, .int 0])), (q47, .inr (8, [.int 0, .int 0, .ref u69, .int 0, .ref u70, .int 0, .int 12, .ref q24, .ref u29, .int 0, .int 0, .int 0, .int 0, .int 0, .int 0, .ref u72, .ref u71, .ref u73, .ref u74]))] H := hP
  have hD : va_D A [(u32, .inl (k37, 64, .inl (fun _ => 0))), (q84, .inr (9, [.int 0, .int 0, .int 0, .ref u110, .ref u111, .ref u112])), (u71, .inr (6, [.int 0, .ref u78, .ref u79, .ref u80, .int 0])), (u69, .inr (6, [.int 0, .ref u75, .ref u76, .ref u77, .int 0])), (u30, .inr (6, [.int 0, .ref u46, .ref u47, .ref u48, .int 0])), (u33, .inr (2, [.ref u34, .ref u49, .ref u50, .ref u51])), (u34, .inr (6, [.int 0, .ref u52, .ref u53, .ref u54, .int 0])), (u31, .inl (k36, 64, .inl u2)), (u70, .inr (11, [.ref q7, .int 0, .int 0, .int 0, .int 0, .int 0])), (q24, .inr (7, [.ref u29, .ref u30, .ref u31, .ref u32, .ref u33, .int 0, .ref u35])), (u29, .inr (1, [.int 0, .ref u39, .ref u40, .ref u41, .ref u42, .ref u43, .ref u44, .ref u45, .int 0])), (u35, .inl (k38, 64, .inr (.inl u4))), (h0, .inr (0, [.ref q7, .int 0, .int 0, .ref q24, .ref q24, .ref q35, .ref q47, .ref q58, .ref q69, .ref q84, .ref q95, .int 0, .int 0])), (q47, .inr (8, [.int 0, .int 0, .ref u69, .int 0, .ref u70, .int 0, .int 12, .ref q24, .ref u29, .int 0, .int 0, .int 0, .int 0, .int 0, .int 0, .ref u72, .ref u71, .ref u73, .ref u74]))] := hD
  refine lv_aload_n hx hb dc_SB_load_66 rfl (lv_at hl 1 rfl) ?_
  refine lv_aload_n hx hb dc_SB_load_67 rfl (lv_at hl 0 rfl) ?_
  refine va_put (D := (dC, dI)) (ci := 0) (v := .ref q13) (ty := .object "StrataBase$Program") (C := "StrataBase") (T := tb_SB) (N := 13) hx hb hT in_SB ty_SB tk_SB nm_SB hown hK hP hD hS 12 rfl rfl 4 (by decide) (hT _ wd_521) (fun _ h9 => h9) rfl (by decide +kernel) rfl rfl (Nat.le_of_ble_eq_true rfl) dc_SB_load_68 (fun H locs hP hD hS => ?_)
  have hP : va_P (dC, dI) vwCl [(u32, .inl (k37, 64, .inl (fun _ => 0))), (q84, .inr (9, [.int 0, .int 0, .int 0, .ref u110, .ref u111, .ref u112])), (u71, .inr (6, [.int 0, .ref u78, .ref u79, .ref u80, .int 0])), (u69, .inr (6, [.int 0, .ref u75, .ref u76, .ref u77, .int 0])), (u30, .inr (6, [.int 0, .ref u46, .ref u47, .ref u48, .int 0])), (u33, .inr (2, [.ref u34, .ref u49, .ref u50, .ref u51])), (u34, .inr (6, [.int 0, .ref u52, .ref u53, .ref u54, .int 0])), (u31, .inl (k36, 64, .inl u2)), (u70, .inr (11, [.ref q7, .int 0, .int 0, .int 0, .int 0, .int 0])), (q24, .inr (7, [.ref u29, .ref u30, .ref u31, .ref u32, .ref u33, .int 0, .ref u35])), (u29, .inr (1, [.int 0, .ref u39, .ref u40, .ref u41, .ref u42, .ref u43, .ref u44, .ref u45, .int 0])), (u35, .inl (k38, 64, .inr (.inl u4))), (h0, .inr (0, [.ref q7, .int 0, .int 0, .ref q24, .ref q13, .ref q35, .ref q47, .ref q58, .ref q69, .ref q84, .ref q95, .int 0, .int 0])), (q47, .inr (8, [.int 0, .int 0, .ref u69, .int 0, .ref u70, .int 0, .int 12, .ref q24, .ref u29, .int 0, .int 0, .int 0, .int 0, .int 0, .int 0, .ref u72, .ref u71, .ref u73, .ref u74]))] H := hP
  have hD : va_D A [(u32, .inl (k37, 64, .inl (fun _ => 0))), (q84, .inr (9, [.int 0, .int 0, .int 0, .ref u110, .ref u111, .ref u112])), (u71, .inr (6, [.int 0, .ref u78, .ref u79, .ref u80, .int 0])), (u69, .inr (6, [.int 0, .ref u75, .ref u76, .ref u77, .int 0])), (u30, .inr (6, [.int 0, .ref u46, .ref u47, .ref u48, .int 0])), (u33, .inr (2, [.ref u34, .ref u49, .ref u50, .ref u51])), (u34, .inr (6, [.int 0, .ref u52, .ref u53, .ref u54, .int 0])), (u31, .inl (k36, 64, .inl u2)), (u70, .inr (11, [.ref q7, .int 0, .int 0, .int 0, .int 0, .int 0])), (q24, .inr (7, [.ref u29, .ref u30, .ref u31, .ref u32, .ref u33, .int 0, .ref u35])), (u29, .inr (1, [.int 0, .ref u39, .ref u40, .ref u41, .ref u42, .ref u43, .ref u44, .ref u45, .int 0])), (u35, .inl (k38, 64, .inr (.inl u4))), (h0, .inr (0, [.ref q7, .int 0, .int 0, .ref q24, .ref q13, .ref q35, .ref q47, .ref q58, .ref q69, .ref q84, .ref q95, .int 0, .int 0])), (q47, .inr (8, [.int 0, .int 0, .ref u69, .int 0, .ref u70, .int 0, .int 12, .ref q24, .ref u29, .int 0, .int 0, .int 0, .int 0, .int 0, .int 0, .ref u72, .ref u71, .ref u73, .ref u74]))] := hD
  refine lv_aload_n hx hb dc_SB_load_71 rfl (lv_at hl 1 rfl) ?_
  refine va_get (D := (dC, dI)) (ci := 0) (v := .ref q24) (C := "StrataBase") (T := tb_SB) (N := 13) hx hb hT in_SB hown hK hP 12 rfl rfl 3 (by decide) (hT _ wd_520) (fun _ h9 => h9) rfl dc_SB_load_72 ?_
  have hPc := hP.sub (ws' := [(q24, .inr (7, [.ref u29, .ref u30, .ref u31, .ref u32, .ref u33, .int 0, .ref u35])), (u29, .inr (1, [.int 0, .ref u39, .ref u40, .ref u41, .ref u42, .ref u43, .ref u44, .ref u45, .int 0])), (u30, .inr (6, [.int 0, .ref u46, .ref u47, .ref u48, .int 0])), (u32, .inl (k37, 64, .inl (fun _ => 0))), (u33, .inr (2, [.ref u34, .ref u49, .ref u50, .ref u51])), (u34, .inr (6, [.int 0, .ref u52, .ref u53, .ref u54, .int 0]))]) [9, 10, 4, 0, 5, 6] rfl
  have hDc := hD.sub (ws' := [(q24, .inr (7, [.ref u29, .ref u30, .ref u31, .ref u32, .ref u33, .int 0, .ref u35])), (u29, .inr (1, [.int 0, .ref u39, .ref u40, .ref u41, .ref u42, .ref u43, .ref u44, .ref u45, .int 0])), (u30, .inr (6, [.int 0, .ref u46, .ref u47, .ref u48, .int 0])), (u32, .inl (k37, 64, .inl (fun _ => 0))), (u33, .inr (2, [.ref u34, .ref u49, .ref u50, .ref u51])), (u34, .inr (6, [.int 0, .ref u52, .ref u53, .ref u54, .int 0]))]) [9, 10, 4, 0, 5, 6] (by decide) rfl
  have hKc := hK.sub (tys' := [(k37, .int)]) [0] rfl
  have hFc := va_free (wc := [(q24, .inr (7, [.ref u29, .ref u30, .ref u31, .ref u32, .ref u33, .int 0, .ref u35])), (u29, .inr (1, [.int 0, .ref u39, .ref u40, .ref u41, .ref u42, .ref u43, .ref u44, .ref u45, .int 0])), (u30, .inr (6, [.int 0, .ref u46, .ref u47, .ref u48, .int 0])), (u32, .inl (k37, 64, .inl (fun _ => 0))), (u33, .inr (2, [.ref u34, .ref u49, .ref u50, .ref u51])), (u34, .inr (6, [.int 0, .ref u52, .ref u53, .ref u54, .int 0]))]) hD hS hA [9, 10, 4, 0, 5, 6] rfl
  refine va_callv (va_runV (As := []) (rest := []) ⟨hx, hb, hml, hown, hT⟩ (c_Pr_settle_1 l dC dI q24 u29 u30 u31 u32 u33 u35 u39 u40 u41 u42 u43 u44 u45 u46 u47 u48 u34 u49 u50 u51 u52 u53 u54 k37 H.size) (cwV 0 hT (gd_V wd_876 wd_877 wd_878 wd_2 wd_879) rfl rfl rfl (by decide +kernel) ⟨Nat.le_of_ble_eq_true rfl, Nat.le_of_ble_eq_true rfl⟩) ⟨fun a U g mk q => by obtain ⟨q0, q1, qP, qK, qD⟩ := q; exact ⟨q0, q1, qP, va_K.moved (u := U) (U := U.calling g mk a) (Vm.Alike.refl U.vm) qK, qD⟩, va_recv hK hP (q0 := 9) (ci := 7) rfl rfl, fun U hU hW => ⟨rfl, by rw [hU], by rw [hU]; exact hPc, va_K.moved hW.alike hKc, hDc.weaken (fun _ _ _ _ => trivial)⟩⟩ rfl rfl hl.1 rfl (lv_room (Nat.le_of_ble_eq_true rfl)) dc_SB_load_75 ⟨(Nat.le_of_ble_eq_true rfl), (Nat.le_of_ble_eq_true rfl)⟩) hS (fun q _ h => hFc q h) hFc (fun _ t H1 locs ht hvm hr9 hB hz1 hk1 hS => ?_)
  obtain ⟨hP1, hK1, hD1⟩ := hB
  rw [ht] at hP1
  have hK1 := va_K.moved hvm.symm hK1
  obtain ⟨hP, hD⟩ := va_join (wr := [(q84, .inr (9, [.int 0, .int 0, .int 0, .ref u110, .ref u111, .ref u112])), (u71, .inr (6, [.int 0, .ref u78, .ref u79, .ref u80, .int 0])), (u69, .inr (6, [.int 0, .ref u75, .ref u76, .ref u77, .int 0])), (u31, .inl (k36, 64, .inl u2)), (u70, .inr (11, [.ref q7, .int 0, .int 0, .int 0, .int 0, .int 0])), (u35, .inl (k38, 64, .inr (.inl u4))), (h0, .inr (0, [.ref q7, .int 0, .int 0, .ref q24, .ref q13, .ref q35, .ref q47, .ref q58, .ref q69, .ref q84, .ref q95, .int 0, .int 0])), (q47, .inr (8, [.int 0, .int 0, .ref u69, .int 0, .ref u70, .int 0, .int 12, .ref q24, .ref u29, .int 0, .int 0, .int 0, .int 0, .int 0, .int 0, .ref u72, .ref u71, .ref u73, .ref u74]))]) (w1 := [(u30, .inr (6, [.int 0, .ref u46, .ref u47, .ref u48, .int 0])), (u33, .inr (2, [.ref u34, .ref u49, .ref u50, .ref u51])), (u34, .inr (6, [.int 0, .ref u52, .ref u53, .ref u54, .int 0])), (u32, .inl (k37, 64, .inl (fun _ => 0))), (q24, .inr (7, [.ref u29, .ref u30, .ref u31, .ref u32, .ref u33, .int 0, .ref u35])), (u29, .inr (1, [.int 0, .ref u39, .ref u40, .ref u41, .ref u42, .ref u43, .ref u44, .ref u45, .int 0]))]) hP hD [9, 10, 4, 0, 5, 6] [1, 2, 3, 7, 8, 11, 12, 13] rfl rfl (by decide) (by decide) hk1 hFc hP1 hD1
  have hK := (hK.sub (tys' := [(k36, .int), (k38, .long)]) [1, 2] rfl).app hK1
  generalize H1 = H at hP hS ⊢
  have hP : va_P (dC, dI) vwCl [(q84, .inr (9, [.int 0, .int 0, .int 0, .ref u110, .ref u111, .ref u112])), (u71, .inr (6, [.int 0, .ref u78, .ref u79, .ref u80, .int 0])), (u69, .inr (6, [.int 0, .ref u75, .ref u76, .ref u77, .int 0])), (u31, .inl (k36, 64, .inl u2)), (u70, .inr (11, [.ref q7, .int 0, .int 0, .int 0, .int 0, .int 0])), (u35, .inl (k38, 64, .inr (.inl u4))), (h0, .inr (0, [.ref q7, .int 0, .int 0, .ref q24, .ref q13, .ref q35, .ref q47, .ref q58, .ref q69, .ref q84, .ref q95, .int 0, .int 0])), (q47, .inr (8, [.int 0, .int 0, .ref u69, .int 0, .ref u70, .int 0, .int 12, .ref q24, .ref u29, .int 0, .int 0, .int 0, .int 0, .int 0, .int 0, .ref u72, .ref u71, .ref u73, .ref u74])), (u30, .inr (6, [.int 0, .ref u46, .ref u47, .ref u48, .int 0])), (u33, .inr (2, [.ref u34, .ref u49, .ref u50, .ref u51])), (u34, .inr (6, [.int 0, .ref u52, .ref u53, .ref u54, .int 0])), (u32, .inl (k37, 64, .inl (fun _ => 0))), (q24, .inr (7, [.ref u29, .ref u30, .ref u31, .ref u32, .ref u33, .int 0, .ref u35])), (u29, .inr (1, [.int 0, .ref u39, .ref u40, .ref u41, .ref u42, .ref u43, .ref u44, .ref u45, .int 0]))] H := hP
  have hD : va_D A [(q84, .inr (9, [.int 0, .int 0, .int 0, .ref u110, .ref u111, .ref u112])), (u71, .inr (6, [.int 0, .ref u78, .ref u79, .ref u80, .int 0])), (u69, .inr (6, [.int 0, .ref u75, .ref u76, .ref u77, .int 0])), (u31, .inl (k36, 64, .inl u2)), (u70, .inr (11, [.ref q7, .int 0, .int 0, .int 0, .int 0, .int 0])), (u35, .inl (k38, 64, .inr (.inl u4))), (h0, .inr (0, [.ref q7, .int 0, .int 0, .ref q24, .ref q13, .ref q35, .ref q47, .ref q58, .ref q69, .ref q84, .ref q95, .int 0, .int 0])), (q47, .inr (8, [.int 0, .int 0, .ref u69, .int 0, .ref u70, .int 0, .int 12, .ref q24, .ref u29, .int 0, .int 0, .int 0, .int 0, .int 0, .int 0, .ref u72, .ref u71, .ref u73, .ref u74])), (u30, .inr (6, [.int 0, .ref u46, .ref u47, .ref u48, .int 0])), (u33, .inr (2, [.ref u34, .ref u49, .ref u50, .ref u51])), (u34, .inr (6, [.int 0, .ref u52, .ref u53, .ref u54, .int 0])), (u32, .inl (k37, 64, .inl (fun _ => 0))), (q24, .inr (7, [.ref u29, .ref u30, .ref u31, .ref u32, .ref u33, .int 0, .ref u35])), (u29, .inr (1, [.int 0, .ref u39, .ref u40, .ref u41, .ref u42, .ref u43, .ref u44, .ref u45, .int 0]))] := hD
  have hK : va_K (dC, dI) vwCl [(k36, .int), (k38, .long), (k37, .int)] s := hK
  refine lv_aload_n hx hb dc_SB_load_78 rfl (lv_at hl 1 rfl) ?_
  refine va_get (D := (dC, dI)) (ci := 0) (v := .ref q84) (C := "StrataBase") (T := tb_SB) (N := 13) hx hb hT in_SB hown hK hP 6 rfl rfl 9 (by decide) (hT _ wd_526) (fun _ h9 => h9) rfl dc_SB_load_79 ?_
  refine lv_iconst (v := 0) hx hb dc_SB_load_82 (by decide) ?_
  refine lv_iconst (v := 0) hx hb dc_SB_load_83 (by decide) ?_
  have hPc := hP.sub (ws' := [(q84, .inr (9, [.int 0, .int 0, .int 0, .ref u110, .ref u111, .ref u112]))]) [0] rfl
  have hDc := hD.sub (ws' := [(q84, .inr (9, [.int 0, .int 0, .int 0, .ref u110, .ref u111, .ref u112]))]) [0] (by decide) rfl
  have hKc := hK.sub (tys' := []) [] rfl
  have hFc := va_free (wc := [(q84, .inr (9, [.int 0, .int 0, .int 0, .ref u110, .ref u111, .ref u112]))]) hD hS hA [0] rfl
  refine va_callv (va_runV (As := [.int 0, .int 0]) (rest := []) ⟨hx, hb, hml, hown, hT⟩ (c_Ro_open_1 l dC dI q84 u110 u111 u112 H.size) (cwV 2 hT (gd_V wd_898 wd_899 wd_900 wd_12 wd_901) rfl rfl rfl (by decide +kernel) ⟨Nat.le_of_ble_eq_true rfl, Nat.le_of_ble_eq_true rfl⟩) ⟨fun a U g mk q => by obtain ⟨q0, q1, qP, qK, qD⟩ := q; exact ⟨q0, q1, qP, va_K.moved (u := U) (U := U.calling g mk a) (Vm.Alike.refl U.vm) qK, qD⟩, va_recv hK hP (q0 := 0) (ci := 9) rfl rfl, fun U hU hW => ⟨rfl, by rw [hU], by rw [hU]; exact hPc, va_K.moved hW.alike hKc, hDc.weaken (fun _ _ _ _ => trivial)⟩⟩ rfl rfl hl.1 rfl (lv_room (Nat.le_of_ble_eq_true rfl)) dc_SB_load_84 ⟨(Nat.le_of_ble_eq_true rfl), (Nat.le_of_ble_eq_true rfl)⟩) hS (fun q _ h => hFc q h) hFc (fun _ t H1 locs ht hvm hr9 hB hz1 hk1 hS => ?_)
  obtain ⟨hP1, hK1, hD1⟩ := hB
  rw [ht] at hP1
  have hK1 := va_K.moved hvm.symm hK1
  obtain ⟨hP, hD⟩ := va_join (wr := [(u71, .inr (6, [.int 0, .ref u78, .ref u79, .ref u80, .int 0])), (u69, .inr (6, [.int 0, .ref u75, .ref u76, .ref u77, .int 0])), (u31, .inl (k36, 64, .inl u2)), (u70, .inr (11, [.ref q7, .int 0, .int 0, .int 0, .int 0, .int 0])), (u35, .inl (k38, 64, .inr (.inl u4))), (h0, .inr (0, [.ref q7, .int 0, .int 0, .ref q24, .ref q13, .ref q35, .ref q47, .ref q58, .ref q69, .ref q84, .ref q95, .int 0, .int 0])), (q47, .inr (8, [.int 0, .int 0, .ref u69, .int 0, .ref u70, .int 0, .int 12, .ref q24, .ref u29, .int 0, .int 0, .int 0, .int 0, .int 0, .int 0, .ref u72, .ref u71, .ref u73, .ref u74])), (u30, .inr (6, [.int 0, .ref u46, .ref u47, .ref u48, .int 0])), (u33, .inr (2, [.ref u34, .ref u49, .ref u50, .ref u51])), (u34, .inr (6, [.int 0, .ref u52, .ref u53, .ref u54, .int 0])), (u32, .inl (k37, 64, .inl (fun _ => 0))), (q24, .inr (7, [.ref u29, .ref u30, .ref u31, .ref u32, .ref u33, .int 0, .ref u35])), (u29, .inr (1, [.int 0, .ref u39, .ref u40, .ref u41, .ref u42, .ref u43, .ref u44, .ref u45, .int 0]))]) (w1 := [(q84, .inr (9, [.int 0, .int 0, .int 0, .ref u110, .ref u111, .ref u112]))]) hP hD [0] [1, 2, 3, 4, 5, 6, 7, 8, 9, 10, 11, 12, 13] rfl rfl (by decide) (by decide) hk1 hFc hP1 hD1
  have hK := (hK.sub (tys' := [(k36, .int), (k38, .long), (k37, .int)]) [0, 1, 2] rfl).app hK1
  generalize H1 = H at hP hS ⊢
  have hP : va_P (dC, dI) vwCl [(u71, .inr (6, [.int 0, .ref u78, .ref u79, .ref u80, .int 0])), (u69, .inr (6, [.int 0, .ref u75, .ref u76, .ref u77, .int 0])), (u31, .inl (k36, 64, .inl u2)), (u70, .inr (11, [.ref q7, .int 0, .int 0, .int 0, .int 0, .int 0])), (u35, .inl (k38, 64, .inr (.inl u4))), (h0, .inr (0, [.ref q7, .int 0, .int 0, .ref q24, .ref q13, .ref q35, .ref q47, .ref q58, .ref q69, .ref q84, .ref q95, .int 0, .int 0])), (q47, .inr (8, [.int 0, .int 0, .ref u69, .int 0, .ref u70, .int 0, .int 12, .ref q24, .ref u29, .int 0, .int 0, .int 0, .int 0, .int 0, .int 0, .ref u72, .ref u71, .ref u73, .ref u74])), (u30, .inr (6, [.int 0, .ref u46, .ref u47, .ref u48, .int 0])), (u33, .inr (2, [.ref u34, .ref u49, .ref u50, .ref u51])), (u34, .inr (6, [.int 0, .ref u52, .ref u53, .ref u54, .int 0])), (u32, .inl (k37, 64, .inl (fun _ => 0))), (q24, .inr (7, [.ref u29, .ref u30, .ref u31, .ref u32, .ref u33, .int 0, .ref u35])), (u29, .inr (1, [.int 0, .ref u39, .ref u40, .ref u41, .ref u42, .ref u43, .ref u44, .ref u45, .int 0])), (q84, .inr (9, [.int 0, .int 0, .int 0, .ref u110, .ref u111, .ref u112]))] H := hP
  have hD : va_D A [(u71, .inr (6, [.int 0, .ref u78, .ref u79, .ref u80, .int 0])), (u69, .inr (6, [.int 0, .ref u75, .ref u76, .ref u77, .int 0])), (u31, .inl (k36, 64, .inl u2)), (u70, .inr (11, [.ref q7, .int 0, .int 0, .int 0, .int 0, .int 0])), (u35, .inl (k38, 64, .inr (.inl u4))), (h0, .inr (0, [.ref q7, .int 0, .int 0, .ref q24, .ref q13, .ref q35, .ref q47, .ref q58, .ref q69, .ref q84, .ref q95, .int 0, .int 0])), (q47, .inr (8, [.int 0, .int 0, .ref u69, .int 0, .ref u70, .int 0, .int 12, .ref q24, .ref u29, .int 0, .int 0, .int 0, .int 0, .int 0, .int 0, .ref u72, .ref u71, .ref u73, .ref u74])), (u30, .inr (6, [.int 0, .ref u46, .ref u47, .ref u48, .int 0])), (u33, .inr (2, [.ref u34, .ref u49, .ref u50, .ref u51])), (u34, .inr (6, [.int 0, .ref u52, .ref u53, .ref u54, .int 0])), (u32, .inl (k37, 64, .inl (fun _ => 0))), (q24, .inr (7, [.ref u29, .ref u30, .ref u31, .ref u32, .ref u33, .int 0, .ref u35])), (u29, .inr (1, [.int 0, .ref u39, .ref u40, .ref u41, .ref u42, .ref u43, .ref u44, .ref u45, .int 0])), (q84, .inr (9, [.int 0, .int 0, .int 0, .ref u110, .ref u111, .ref u112]))] := hD
  have hK : va_K (dC, dI) vwCl [(k36, .int), (k38, .long), (k37, .int)] s := hK
  refine lv_aload_n hx hb dc_SB_load_87 rfl (lv_at hl 1 rfl) ?_
  refine lv_iconst (v := 0) hx hb dc_SB_load_88 (by decide) ?_
  refine va_put (D := (dC, dI)) (ci := 0) (v := .int 0) (ty := .boolean) (C := "StrataBase") (T := tb_SB) (N := 13) hx hb hT in_SB ty_SB tk_SB nm_SB hown hK hP hD hS 5 rfl rfl 11 (by decide) (hT _ wd_528) (fun _ h9 => h9) rfl (by decide +kernel) (by decide) (by decide) (Nat.le_of_ble_eq_true rfl) dc_SB_load_89 (fun H locs hP hD hS => ?_)
  have hP : va_P (dC, dI) vwCl [(u71, .inr (6, [.int 0, .ref u78, .ref u79, .ref u80, .int 0])), (u69, .inr (6, [.int 0, .ref u75, .ref u76, .ref u77, .int 0])), (u31, .inl (k36, 64, .inl u2)), (u70, .inr (11, [.ref q7, .int 0, .int 0, .int 0, .int 0, .int 0])), (u35, .inl (k38, 64, .inr (.inl u4))), (h0, .inr (0, [.ref q7, .int 0, .int 0, .ref q24, .ref q13, .ref q35, .ref q47, .ref q58, .ref q69, .ref q84, .ref q95, .int 0, .int 0])), (q47, .inr (8, [.int 0, .int 0, .ref u69, .int 0, .ref u70, .int 0, .int 12, .ref q24, .ref u29, .int 0, .int 0, .int 0, .int 0, .int 0, .int 0, .ref u72, .ref u71, .ref u73, .ref u74])), (u30, .inr (6, [.int 0, .ref u46, .ref u47, .ref u48, .int 0])), (u33, .inr (2, [.ref u34, .ref u49, .ref u50, .ref u51])), (u34, .inr (6, [.int 0, .ref u52, .ref u53, .ref u54, .int 0])), (u32, .inl (k37, 64, .inl (fun _ => 0))), (q24, .inr (7, [.ref u29, .ref u30, .ref u31, .ref u32, .ref u33, .int 0, .ref u35])), (u29, .inr (1, [.int 0, .ref u39, .ref u40, .ref u41, .ref u42, .ref u43, .ref u44, .ref u45, .int 0])), (q84, .inr (9, [.int 0, .int 0, .int 0, .ref u110, .ref u111, .ref u112]))] H := hP
  have hD : va_D A [(u71, .inr (6, [.int 0, .ref u78, .ref u79, .ref u80, .int 0])), (u69, .inr (6, [.int 0, .ref u75, .ref u76, .ref u77, .int 0])), (u31, .inl (k36, 64, .inl u2)), (u70, .inr (11, [.ref q7, .int 0, .int 0, .int 0, .int 0, .int 0])), (u35, .inl (k38, 64, .inr (.inl u4))), (h0, .inr (0, [.ref q7, .int 0, .int 0, .ref q24, .ref q13, .ref q35, .ref q47, .ref q58, .ref q69, .ref q84, .ref q95, .int 0, .int 0])), (q47, .inr (8, [.int 0, .int 0, .ref u69, .int 0, .ref u70, .int 0, .int 12, .ref q24, .ref u29, .int 0, .int 0, .int 0, .int 0, .int 0, .int 0, .ref u72, .ref u71, .ref u73, .ref u74])), (u30, .inr (6, [.int 0, .ref u46, .ref u47, .ref u48, .int 0])), (u33, .inr (2, [.ref u34, .ref u49, .ref u50, .ref u51])), (u34, .inr (6, [.int 0, .ref u52, .ref u53, .ref u54, .int 0])), (u32, .inl (k37, 64, .inl (fun _ => 0))), (q24, .inr (7, [.ref u29, .ref u30, .ref u31, .ref u32, .ref u33, .int 0, .ref u35])), (u29, .inr (1, [.int 0, .ref u39, .ref u40, .ref u41, .ref u42, .ref u43, .ref u44, .ref u45, .int 0])), (q84, .inr (9, [.int 0, .int 0, .int 0, .ref u110, .ref u111, .ref u112]))] := hD
  refine lv_aload_n hx hb dc_SB_load_92 rfl (lv_at hl 1 rfl) ?_
  refine lv_iconst (v := 0) hx hb dc_SB_load_93 (by decide) ?_
  refine va_put (D := (dC, dI)) (ci := 0) (v := .int 0) (ty := .boolean) (C := "StrataBase") (T := tb_SB) (N := 13) hx hb hT in_SB ty_SB tk_SB nm_SB hown hK hP hD hS 5 rfl rfl 12 (by decide) (hT _ wd_529) (fun _ h9 => h9) rfl (by decide +kernel) (by decide) (by decide) (Nat.le_of_ble_eq_true rfl) dc_SB_load_94 (fun H locs hP hD hS => ?_)
  have hP : va_P (dC, dI) vwCl [(u71, .inr (6, [.int 0, .ref u78, .ref u79, .ref u80, .int 0])), (u69, .inr (6, [.int 0, .ref u75, .ref u76, .ref u77, .int 0])), (u31, .inl (k36, 64, .inl u2)), (u70, .inr (11, [.ref q7, .int 0, .int 0, .int 0, .int 0, .int 0])), (u35, .inl (k38, 64, .inr (.inl u4))), (h0, .inr (0, [.ref q7, .int 0, .int 0, .ref q24, .ref q13, .ref q35, .ref q47, .ref q58, .ref q69, .ref q84, .ref q95, .int 0, .int 0])), (q47, .inr (8, [.int 0, .int 0, .ref u69, .int 0, .ref u70, .int 0, .int 12, .ref q24, .ref u29, .int 0, .int 0, .int 0, .int 0, .int 0, .int 0, .ref u72, .ref u71, .ref u73, .ref u74])), (u30, .inr (6, [.int 0, .ref u46, .ref u47, .ref u48, .int 0])), (u33, .inr (2, [.ref u34, .ref u49, .ref u50, .ref u51])), (u34, .inr (6, [.int 0, .ref u52, .ref u53, .ref u54, .int 0])), (u32, .inl (k37, 64, .inl (fun _ => 0))), (q24, .inr (7, [.ref u29, .ref u30, .ref u31, .ref u32, .ref u33, .int 0, .ref u35])), (u29, .inr (1, [.int 0, .ref u39, .ref u40, .ref u41, .ref u42, .ref u43, .ref u44, .ref u45, .int 0])), (q84, .inr (9, [.int 0, .int 0, .int 0, .ref u110, .ref u111, .ref u112]))] H := hP
  have hD : va_D A [(u71, .inr (6, [.int 0, .ref u78, .ref u79, .ref u80, .int 0])), (u69, .inr (6, [.int 0, .ref u75, .ref u76, .ref u77, .int 0])), (u31, .inl (k36, 64, .inl u2)), (u70, .inr (11, [.ref q7, .int 0, .int 0, .int 0, .int 0, .int 0])), (u35, .inl (k38, 64, .inr (.inl u4))), (h0, .inr (0, [.ref q7, .int 0, .int 0, .ref q24, .ref q13, .ref q35, .ref q47, .ref q58, .ref q69, .ref q84, .ref q95, .int 0, .int 0])), (q47, .inr (8, [.int 0, .int 0, .ref u69, .int 0, .ref u70, .int 0, .int 12, .ref q24, .ref u29, .int 0, .int 0, .int 0, .int 0, .int 0, .int 0, .ref u72, .ref u71, .ref u73, .ref u74])), (u30, .inr (6, [.int 0, .ref u46, .ref u47, .ref u48, .int 0])), (u33, .inr (2, [.ref u34, .ref u49, .ref u50, .ref u51])), (u34, .inr (6, [.int 0, .ref u52, .ref u53, .ref u54, .int 0])), (u32, .inl (k37, 64, .inl (fun _ => 0))), (q24, .inr (7, [.ref u29, .ref u30, .ref u31, .ref u32, .ref u33, .int 0, .ref u35])), (u29, .inr (1, [.int 0, .ref u39, .ref u40, .ref u41, .ref u42, .ref u43, .ref u44, .ref u45, .int 0])), (q84, .inr (9, [.int 0, .int 0, .int 0, .ref u110, .ref u111, .ref u112]))] := hD
  refine lv_iconst (v := (-1)) hx hb dc_SB_load_97 (by decide) ?_
  have hP9 := hP.sub (ws' := [(u71, .inr (6, [.int 0, .ref u78, .ref u79, .ref u80, .int 0])), (u69, .inr (6, [.int 0, .ref u75, .ref u76, .ref u77, .int 0])), (u31, .inl (k36, 64, .inl u2)), (u70, .inr (11, [.ref q7, .int 0, .int 0, .int 0, .int 0, .int 0])), (u35, .inl (k38, 64, .inr (.inl u4))), (h0, .inr (0, [.ref q7, .int 0, .int 0, .ref q24, .ref q13, .ref q35, .ref q47, .ref q58, .ref q69, .ref q84, .ref q95, .int 0, .int 0])), (q47, .inr (8, [.int 0, .int 0, .ref u69, .int 0, .ref u70, .int 0, .int 12, .ref q24, .ref u29, .int 0, .int 0, .int 0, .int 0, .int 0, .int 0, .ref u72, .ref u71, .ref u73, .ref u74])), (u30, .inr (6, [.int 0, .ref u46, .ref u47, .ref u48, .int 0])), (u33, .inr (2, [.ref u34, .ref u49, .ref u50, .ref u51])), (u34, .inr (6, [.int 0, .ref u52, .ref u53, .ref u54, .int 0])), (u32, .inl (k37, 64, .inl (fun _ => 0))), (q24, .inr (7, [.ref u29, .ref u30, .ref u31, .ref u32, .ref u33, .int 0, .ref u35])), (u29, .inr (1, [.int 0, .ref u39, .ref u40, .ref u41, .ref u42, .ref u43, .ref u44, .ref u45, .int 0])), (q84, .inr (9, [.int 0, .int 0, .int 0, .ref u110, .ref u111, .ref u112]))]) [0, 1, 2, 3, 4, 5, 6, 7, 8, 9, 10, 11, 12, 13] rfl
  have hD9 := hD.sub (ws' := [(u71, .inr (6, [.int 0, .ref u78, .ref u79, .ref u80, .int 0])), (u69, .inr (6, [.int 0, .ref u75, .ref u76, .ref u77, .int 0])), (u31, .inl (k36, 64, .inl u2)), (u70, .inr (11, [.ref q7, .int 0, .int 0, .int 0, .int 0, .int 0])), (u35, .inl (k38, 64, .inr (.inl u4))), (h0, .inr (0, [.ref q7, .int 0, .int 0, .ref q24, .ref q13, .ref q35, .ref q47, .ref q58, .ref q69, .ref q84, .ref q95, .int 0, .int 0])), (q47, .inr (8, [.int 0, .int 0, .ref u69, .int 0, .ref u70, .int 0, .int 12, .ref q24, .ref u29, .int 0, .int 0, .int 0, .int 0, .int 0, .int 0, .ref u72, .ref u71, .ref u73, .ref u74])), (u30, .inr (6, [.int 0, .ref u46, .ref u47, .ref u48, .int 0])), (u33, .inr (2, [.ref u34, .ref u49, .ref u50, .ref u51])), (u34, .inr (6, [.int 0, .ref u52, .ref u53, .ref u54, .int 0])), (u32, .inl (k37, 64, .inl (fun _ => 0))), (q24, .inr (7, [.ref u29, .ref u30, .ref u31, .ref u32, .ref u33, .int 0, .ref u35])), (u29, .inr (1, [.int 0, .ref u39, .ref u40, .ref u41, .ref u42, .ref u43, .ref u44, .ref u45, .int 0])), (q84, .inr (9, [.int 0, .int 0, .int 0, .ref u110, .ref u111, .ref u112]))]) [0, 1, 2, 3, 4, 5, 6, 7, 8, 9, 10, 11, 12, 13] (by decide) rfl
  have hK9 := hK.sub (tys' := [(k36, .int), (k38, .long), (k37, .int)]) [0, 1, 2] rfl
  refine W.widen (k := 0) (n := 0) (Nat.le_of_ble_eq_true rfl) (Nat.le_of_ble_eq_true rfl) ?_
  exact W.iret (v := (-1)) hx hb hr (fun t ht hW => ⟨⟨(-1), (), rfl, rfl, u2, u4, by rw [ht]; exact hP9, va_K.moved hW.alike hK9, hD9⟩, hS.F ht⟩) hS.2.2 dc_SB_load_98

set_option maxHeartbeats 4000000 in
set_option maxRecDepth 100000 in
theorem c_Ar_fill_3 (l : Launch) (dC : Nat → ClassId) (dI : Nat → Nat → Nat) (a1 : Nat) (k1 : ClassId) (sz : Nat) : Met l my_Ar_fill (Cond.code my_Ar_fill cd_Ar_fill 4 none :: tblG) ({ frames := 0, cells := 0, slots := 0, locals := 0 }) (va_Pc [.ref a1, .int 0] (fun U => U.heap.size = sz ∧ va_P (dC, dI) vwCl [(a1, .inl (k1, 32768, .inl (fun _ => 0)))] U.heap ∧ va_K (dC, dI) vwCl [(k1, .int)] U ∧ va_D (fun _ => True) [(a1, .inl (k1, 32768, .inl (fun _ => 0)))])) (va_Qv (fun _ : Unit => True) (fun (_ : Unit) (t : State) => va_P (dC, dI) vwCl [(a1, .inl (k1, 32768, .inl (fun _ => 0)))] t.heap ∧ va_K (dC, dI) vwCl [(k1, .int)] t ∧ va_D (va_A [(a1, .inl (k1, 32768, .inl (fun _ => 0)))] sz) [(a1, .inl (k1, 32768, .inl (fun _ => 0)))]) (va_A [(a1, .inl (k1, 32768, .inl (fun _ => 0)))] sz)) 0 0 (va_A [(a1, .inl (k1, 32768, .inl (fun _ => 0)))] sz) := by
  refine Met.ofW (cc := cd_Ar_fill) (maxL := 4) (ret := none) (by decide) rfl ?_
  intro p e s m args below meth c s₁ B hml hv
  obtain ⟨rfl, hsz, hP, hK, hD0⟩ := hv
  have hx := B.exec
  have hb := B.bytes
  have hr := B.returns
  have hT : ∀ w ∈ tblG, w.before _ s = true := fun w h => atoms_spec (ws := (Cond.code my_Ar_fill cd_Ar_fill 4 none :: tblG)) B.pre w (List.mem_cons_of_mem _ h)
  have hown : s.vm.findClass "java/util/Arrays" = some m.cls := findClass_of_methodNamed B.named
  have hlocks := B.notSynchronized
  subst hsz
  have hD := hD0.self (sz := s.heap.size)
  generalize hAe : va_A [(a1, .inl (k1, 32768, .inl (fun _ => 0)))] s.heap.size = A at hD ⊢
  have hA : ∀ q : Nat, s.heap.size ≤ q → A q := fun q h => by rw [← hAe]; exact Or.inr h
  have hS : va_S A s.heap s.heap [] := va_S.rf
  have hl := lv_entry ([.ref a1, .int 0]) (n := 4) (Nat.le_of_ble_eq_true rfl)
  rw [lg_entry_eq]
  generalize (lg_sl ([.ref a1, .int 0]) ++ List.replicate (4 - (lg_sl ([.ref a1, .int 0])).length) Slot.unset).toArray = ls at hl ⊢
  have hl : lv_has ls 4 [(0, .ref a1), (1, .int 0)] := hl
  refine lv_iconst (v := 0) hx hb dc_Ar_fill_0 (by decide) ?_
  refine lv_istore_n (lv' := [(2, .int 0), (0, .ref a1), (1, .int 0)]) hx hb dc_Ar_fill_1 rfl hl (by decide) rfl (fun ls hl => ?_)
  refine lv_aload_n hx hb dc_Ar_fill_2 rfl (lv_at hl 1 rfl) ?_
  refine va_alen (v := 32768) hx hb hK hP 0 0 rfl rfl rfl dc_Ar_fill_3 ?_
  refine lv_istore_n (lv' := [(3, .int 32768), (2, .int 0), (0, .ref a1), (1, .int 0)]) hx hb dc_Ar_fill_4 rfl hl (by decide) rfl (fun ls hl => ?_)
  refine lp_loop 32768 (fun k9 H locs ls => va_K (dC, dI) vwCl [(k1, .int)] s ∧ va_P (dC, dI) vwCl [(a1, .inl (k1, 32768, .inl (fun _ => 0)))] H ∧ va_D A [(a1, .inl (k1, 32768, .inl (fun _ => 0)))] ∧ va_S A s.heap H locs ∧ lv_has ls 4 [(3, .int 32768), (2, .int (nI k9)), (0, .ref a1), (1, .int 0)]) ?_ ?_ 0 (by decide) ⟨hK, hP, hD, hS, lv_sub hl [0, 1, 2, 3] rfl⟩
  · intro jv1 hk1 ih1 H locs ls hI
    obtain ⟨hK, hP, hD, hS, hl⟩ := hI
    refine lv_iload_n hx hb dc_Ar_fill_5 rfl (lv_at hl 1 rfl) ?_
    refine lv_iload_n hx hb dc_Ar_fill_6 rfl (lv_at hl 0 rfl) ?_
    refine lv_icmp_ge (tgt := 20) hx hb dc_Ar_fill_7 (by decide) (fun h9 => absurd h9 (show ¬ ((32768 : Int32) ≤ nI jv1) from nI_ge hk1 (by decide))) (fun _ => ?_)
    refine lv_aload_n hx hb dc_Ar_fill_10 rfl (lv_at hl 2 rfl) ?_
    refine lv_iload_n hx hb dc_Ar_fill_11 rfl (lv_at hl 1 rfl) ?_
    refine lv_iload_n hx hb dc_Ar_fill_12 rfl (lv_at hl 3 rfl) ?_
    refine va_iast hx hb hK hP hD hS 0 0 rfl rfl (vp_in_nI (by omega) (by decide)) dc_Ar_fill_13 (fun H locs hP hD hS => ?_)
    rw [show upd (fun _ => 0) (nI jv1).toNatClampNeg (0 : Int32) = (fun _ => 0) from uz_i _ _] at hP hD
    have hP : va_P (dC, dI) vwCl [(a1, .inl (k1, 32768, .inl (fun _ => 0)))] H := hP
    have hD : va_D A [(a1, .inl (k1, 32768, .inl (fun _ => 0)))] := hD
    refine lv_iinc (k := 1) (v := nI (jv1 + 1)) (lv' := [(2, .int (nI (jv1 + 1))), (3, .int 32768), (0, .ref a1), (1, .int 0)]) hx hb dc_Ar_fill_14 hl rfl (by first | exact nI_1 _ | exact nI_add _ 1) (by decide) rfl (fun ls hl => ?_)
    refine lv_goto (tgt := 5) hx hb dc_Ar_fill_17 (by decide) ?_
    exact ih1 _ _ _ ⟨hK.sub [0] rfl, hP.sub [0] rfl, hD.sub [0] (by decide) rfl, hS, lv_sub hl [1, 0, 2, 3] rfl⟩
  · intro H locs ls hI
    obtain ⟨hK, hP, hD, hS, hl⟩ := hI
    refine lv_iload_n hx hb dc_Ar_fill_5 rfl (lv_at hl 1 rfl) ?_
    refine lv_iload_n hx hb dc_Ar_fill_6 rfl (lv_at hl 0 rfl) ?_
    refine lv_icmp_ge (tgt := 20) hx hb dc_Ar_fill_7 (by decide) (fun _ => ?_) (fun h9 => absurd (by decide) h9)
    have hP9 := hP.sub (ws' := [(a1, .inl (k1, 32768, .inl (fun _ => 0)))]) [0] rfl
    have hD9 := hD.sub (ws' := [(a1, .inl (k1, 32768, .inl (fun _ => 0)))]) [0] (by decide) rfl
    have hK9 := hK.sub (tys' := [(k1, .int)]) [0] rfl
    refine W.widen (k := 0) (n := 0) (Nat.le_of_ble_eq_true rfl) (Nat.le_of_ble_eq_true rfl) ?_
    exact W.vret hx hb hr (fun t ht hW => ⟨⟨(), rfl, trivial, by rw [ht]; exact hP9, va_K.moved hW.alike hK9, hD9⟩, hS.F ht⟩) hS.2.2 dc_Ar_fill_20

set_option maxHeartbeats 4000000 in
set_option maxRecDepth 100000 in
theorem c_Fa_clear_1 (l : Launch) (dC : Nat → ClassId) (dI : Nat → Nat → Nat) (a1 : Nat) (a2 : Nat) (a3 : Nat) (a4 : Nat) (a5 : Nat) (a6 : Nat) (a7 : Nat) (a8 : Nat) (a9 : Nat) (a10 : Nat) (a11 : Nat) (k1 : ClassId) (k2 : ClassId) (k3 : ClassId) (k4 : ClassId) (k5 : ClassId) (k6 : ClassId) (sz : Nat) : Met l my_Fa_clear (Cond.code my_Fa_clear cd_Fa_clear 1 none :: tblG) ({ frames := 1, cells := 0, slots := 0, locals := 23 }) (va_Pc [.ref a1] (fun U => U.heap.size = sz ∧ va_P (dC, dI) vwCl [(a1, .inr (3, [.int 0, .int 0, .int 0, .ref a2, .ref a3, .ref a4, .ref a5, .ref a6, .ref a7, .ref a8, .ref a9, .ref a10, .ref a11, .int 0])), (a4, .inl (k1, 64, .inl (fun _ => 0))), (a7, .inl (k2, 32768, .inl (fun _ => 0))), (a8, .inl (k3, 64, .inl (fun _ => 0))), (a9, .inl (k4, 64, .inl (fun _ => 0))), (a10, .inl (k5, 64, .inl (fun _ => 0))), (a11, .inl (k6, 64, .inl (fun _ => 0)))] U.heap ∧ va_K (dC, dI) vwCl [(k1, .int), (k2, .int), (k3, .int), (k4, .int), (k5, .int), (k6, .int)] U ∧ va_D (fun _ => True) [(a1, .inr (3, [.int 0, .int 0, .int 0, .ref a2, .ref a3, .ref a4, .ref a5, .ref a6, .ref a7, .ref a8, .ref a9, .ref a10, .ref a11, .int 0])), (a4, .inl (k1, 64, .inl (fun _ => 0))), (a7, .inl (k2, 32768, .inl (fun _ => 0))), (a8, .inl (k3, 64, .inl (fun _ => 0))), (a9, .inl (k4, 64, .inl (fun _ => 0))), (a10, .inl (k5, 64, .inl (fun _ => 0))), (a11, .inl (k6, 64, .inl (fun _ => 0)))])) (va_Qv (fun _ : Unit => True) (fun (_ : Unit) (t : State) => ∃ (u4 : Nat → Int32) (u6 : Nat → Int32) (u8 : Nat → Int32) (u10 : Nat → Int32), va_P (dC, dI) vwCl [(a1, .inr (3, [.int 0, .int 0, .int 0, .ref a2, .ref a3, .ref a4, .ref a5, .ref a6, .ref a7, .ref a8, .ref a9, .ref a10, .ref a11, .int 0])), (a7, .inl (k2, 32768, .inl (fun _ => 0))), (a4, .inl (k1, 64, .inl (fun _ => 0))), (a8, .inl (k3, 64, .inl u4)), (a9, .inl (k4, 64, .inl u6)), (a10, .inl (k5, 64, .inl u8)), (a11, .inl (k6, 64, .inl u10))] t.heap ∧ va_K (dC, dI) vwCl [(k2, .int), (k1, .int), (k3, .int), (k4, .int), (k5, .int), (k6, .int)] t ∧ va_D (va_A [(a1, .inr (3, [.int 0, .int 0, .int 0, .ref a2, .ref a3, .ref a4, .ref a5, .ref a6, .ref a7, .ref a8, .ref a9, .ref a10, .ref a11, .int 0])), (a4, .inl (k1, 64, .inl (fun _ => 0))), (a7, .inl (k2, 32768, .inl (fun _ => 0))), (a8, .inl (k3, 64, .inl (fun _ => 0))), (a9, .inl (k4, 64, .inl (fun _ => 0))), (a10, .inl (k5, 64, .inl (fun _ => 0))), (a11, .inl (k6, 64, .inl (fun _ => 0)))] sz) [(a1, .inr (3, [.int 0, .int 0, .int 0, .ref a2, .ref a3, .ref a4, .ref a5, .ref a6, .ref a7, .ref a8, .ref a9, .ref a10, .ref a11, .int 0])), (a7, .inl (k2, 32768, .inl (fun _ => 0))), (a4, .inl (k1, 64, .inl (fun _ => 0))), (a8, .inl (k3, 64, .inl u4)), (a9, .inl (k4, 64, .inl u6)), (a10, .inl (k5, 64, .inl u8)), (a11, .inl (k6, 64, .inl u10))]) (va_A [(a1, .inr (3, [.int 0, .int 0, .int 0, .ref a2, .ref a3, .ref a4, .ref a5, .ref a6, .ref a7, .ref a8, .ref a9, .ref a10, .ref a11, .int 0])), (a4, .inl (k1, 64, .inl (fun _ => 0))), (a7, .inl (k2, 32768, .inl (fun _ => 0))), (a8, .inl (k3, 64, .inl (fun _ => 0))), (a9, .inl (k4, 64, .inl (fun _ => 0))), (a10, .inl (k5, 64, .inl (fun _ => 0))), (a11, .inl (k6, 64, .inl (fun _ => 0)))] sz)) 0 0 (va_A [(a1, .inr (3, [.int 0, .int 0, .int 0, .ref a2, .ref a3, .ref a4, .ref a5, .ref a6, .ref a7, .ref a8, .ref a9, .ref a10, .ref a11, .int 0])), (a4, .inl (k1, 64, .inl (fun _ => 0))), (a7, .inl (k2, 32768, .inl (fun _ => 0))), (a8, .inl (k3, 64, .inl (fun _ => 0))), (a9, .inl (k4, 64, .inl (fun _ => 0))), (a10, .inl (k5, 64, .inl (fun _ => 0))), (a11, .inl (k6, 64, .inl (fun _ => 0)))] sz) := by
  refine Met.ofW (cc := cd_Fa_clear) (maxL := 1) (ret := none) (by decide) rfl ?_
  intro p e s m args below meth c s₁ B hml hv
  obtain ⟨rfl, hsz, hP, hK, hD0⟩ := hv
  have hx := B.exec
  have hb := B.bytes
  have hr := B.returns
  have hT : ∀ w ∈ tblG, w.before _ s = true := fun w h => atoms_spec (ws := (Cond.code my_Fa_clear cd_Fa_clear 1 none :: tblG)) B.pre w (List.mem_cons_of_mem _ h)
  have hown : s.vm.findClass "StrataBase$Facts" = some m.cls := findClass_of_methodNamed B.named
  have hlocks := B.notSynchronized
  subst hsz
  have hD := hD0.self (sz := s.heap.size)
  generalize hAe : va_A [(a1, .inr (3, [.int 0, .int 0, .int 0, .ref a2, .ref a3, .ref a4, .ref a5, .ref a6, .ref a7, .ref a8, .ref a9, .ref a10, .ref a11, .int 0])), (a4, .inl (k1, 64, .inl (fun _ => 0))), (a7, .inl (k2, 32768, .inl (fun _ => 0))), (a8, .inl (k3, 64, .inl (fun _ => 0))), (a9, .inl (k4, 64, .inl (fun _ => 0))), (a10, .inl (k5, 64, .inl (fun _ => 0))), (a11, .inl (k6, 64, .inl (fun _ => 0)))] s.heap.size = A at hD ⊢
  have hA : ∀ q : Nat, s.heap.size ≤ q → A q := fun q h => by rw [← hAe]; exact Or.inr h
  have hS : va_S A s.heap s.heap [] := va_S.rf
  have hl := lv_entry ([.ref a1]) (n := 1) (Nat.le_of_ble_eq_true rfl)
  rw [lg_entry_eq]
  generalize (lg_sl ([.ref a1]) ++ List.replicate (1 - (lg_sl ([.ref a1])).length) Slot.unset).toArray = ls at hl ⊢
  have hl : lv_has ls 1 [(0, .ref a1)] := hl
  refine lv_aload_n hx hb dc_Fa_clear_0 rfl (lv_at hl 0 rfl) ?_
  refine lv_iconst (v := 0) hx hb dc_Fa_clear_1 (by decide) ?_
  refine va_put (D := (dC, dI)) (ci := 3) (v := .int 0) (ty := .int) (C := "StrataBase$Facts") (T := tb_Fa) (N := 14) hx hb hT in_Fa ty_Fa tk_Fa nm_Fa hown hK hP hD hS 0 rfl rfl 0 (by decide) (hT _ wd_289) (fun _ h9 => h9) rfl (by decide +kernel) rfl rfl (Nat.le_of_ble_eq_true rfl) dc_Fa_clear_2 (fun H locs hP hD hS => ?_)
  have hP : va_P (dC, dI) vwCl [(a1, .inr (3, [.int 0, .int 0, .int 0, .ref a2, .ref a3, .ref a4, .ref a5, .ref a6, .ref a7, .ref a8, .ref a9, .ref a10, .ref a11, .int 0])), (a4, .inl (k1, 64, .inl (fun _ => 0))), (a7, .inl (k2, 32768, .inl (fun _ => 0))), (a8, .inl (k3, 64, .inl (fun _ => 0))), (a9, .inl (k4, 64, .inl (fun _ => 0))), (a10, .inl (k5, 64, .inl (fun _ => 0))), (a11, .inl (k6, 64, .inl (fun _ => 0)))] H := hP
  have hD : va_D A [(a1, .inr (3, [.int 0, .int 0, .int 0, .ref a2, .ref a3, .ref a4, .ref a5, .ref a6, .ref a7, .ref a8, .ref a9, .ref a10, .ref a11, .int 0])), (a4, .inl (k1, 64, .inl (fun _ => 0))), (a7, .inl (k2, 32768, .inl (fun _ => 0))), (a8, .inl (k3, 64, .inl (fun _ => 0))), (a9, .inl (k4, 64, .inl (fun _ => 0))), (a10, .inl (k5, 64, .inl (fun _ => 0))), (a11, .inl (k6, 64, .inl (fun _ => 0)))] := hD
  refine lv_aload_n hx hb dc_Fa_clear_5 rfl (lv_at hl 0 rfl) ?_
  refine lv_iconst (v := 0) hx hb dc_Fa_clear_6 (by decide) ?_
  refine va_put (D := (dC, dI)) (ci := 3) (v := .int 0) (ty := .int) (C := "StrataBase$Facts") (T := tb_Fa) (N := 14) hx hb hT in_Fa ty_Fa tk_Fa nm_Fa hown hK hP hD hS 0 rfl rfl 1 (by decide) (hT _ wd_292) (fun _ h9 => h9) rfl (by decide +kernel) rfl rfl (Nat.le_of_ble_eq_true rfl) dc_Fa_clear_7 (fun H locs hP hD hS => ?_)
  have hP : va_P (dC, dI) vwCl [(a1, .inr (3, [.int 0, .int 0, .int 0, .ref a2, .ref a3, .ref a4, .ref a5, .ref a6, .ref a7, .ref a8, .ref a9, .ref a10, .ref a11, .int 0])), (a4, .inl (k1, 64, .inl (fun _ => 0))), (a7, .inl (k2, 32768, .inl (fun _ => 0))), (a8, .inl (k3, 64, .inl (fun _ => 0))), (a9, .inl (k4, 64, .inl (fun _ => 0))), (a10, .inl (k5, 64, .inl (fun _ => 0))), (a11, .inl (k6, 64, .inl (fun _ => 0)))] H := hP
  have hD : va_D A [(a1, .inr (3, [.int 0, .int 0, .int 0, .ref a2, .ref a3, .ref a4, .ref a5, .ref a6, .ref a7, .ref a8, .ref a9, .ref a10, .ref a11, .int 0])), (a4, .inl (k1, 64, .inl (fun _ => 0))), (a7, .inl (k2, 32768, .inl (fun _ => 0))), (a8, .inl (k3, 64, .inl (fun _ => 0))), (a9, .inl (k4, 64, .inl (fun _ => 0))), (a10, .inl (k5, 64, .inl (fun _ => 0))), (a11, .inl (k6, 64, .inl (fun _ => 0)))] := hD
  refine lv_aload_n hx hb dc_Fa_clear_10 rfl (lv_at hl 0 rfl) ?_
  refine lv_iconst (v := 0) hx hb dc_Fa_clear_11 (by decide) ?_
  refine va_put (D := (dC, dI)) (ci := 3) (v := .int 0) (ty := .boolean) (C := "StrataBase$Facts") (T := tb_Fa) (N := 14) hx hb hT in_Fa ty_Fa tk_Fa nm_Fa hown hK hP hD hS 0 rfl rfl 2 (by decide) (hT _ wd_294) (fun _ h9 => h9) rfl (by decide +kernel) (by decide) (by decide) (Nat.le_of_ble_eq_true rfl) dc_Fa_clear_12 (fun H locs hP hD hS => ?_)
  have hP : va_P (dC, dI) vwCl [(a1, .inr (3, [.int 0, .int 0, .int 0, .ref a2, .ref a3, .ref a4, .ref a5, .ref a6, .ref a7, .ref a8, .ref a9, .ref a10, .ref a11, .int 0])), (a4, .inl (k1, 64, .inl (fun _ => 0))), (a7, .inl (k2, 32768, .inl (fun _ => 0))), (a8, .inl (k3, 64, .inl (fun _ => 0))), (a9, .inl (k4, 64, .inl (fun _ => 0))), (a10, .inl (k5, 64, .inl (fun _ => 0))), (a11, .inl (k6, 64, .inl (fun _ => 0)))] H := hP
  have hD : va_D A [(a1, .inr (3, [.int 0, .int 0, .int 0, .ref a2, .ref a3, .ref a4, .ref a5, .ref a6, .ref a7, .ref a8, .ref a9, .ref a10, .ref a11, .int 0])), (a4, .inl (k1, 64, .inl (fun _ => 0))), (a7, .inl (k2, 32768, .inl (fun _ => 0))), (a8, .inl (k3, 64, .inl (fun _ => 0))), (a9, .inl (k4, 64, .inl (fun _ => 0))), (a10, .inl (k5, 64, .inl (fun _ => 0))), (a11, .inl (k6, 64, .inl (fun _ => 0)))] := hD
  refine lv_aload_n hx hb dc_Fa_clear_15 rfl (lv_at hl 0 rfl) ?_
  refine lv_iconst (v := 0) hx hb dc_Fa_clear_16 (by decide) ?_
  refine va_put (D := (dC, dI)) (ci := 3) (v := .int 0) (ty := .int) (C := "StrataBase$Facts") (T := tb_Fa) (N := 14) hx hb hT in_Fa ty_Fa tk_Fa nm_Fa hown hK hP hD hS 0 rfl rfl 13 (by decide) (hT _ wd_310) (fun _ h9 => h9) rfl (by decide +kernel) rfl rfl (Nat.le_of_ble_eq_true rfl) dc_Fa_clear_17 (fun H locs hP hD hS => ?_)
  have hP : va_P (dC, dI) vwCl [(a1, .inr (3, [.int 0, .int 0, .int 0, .ref a2, .ref a3, .ref a4, .ref a5, .ref a6, .ref a7, .ref a8, .ref a9, .ref a10, .ref a11, .int 0])), (a4, .inl (k1, 64, .inl (fun _ => 0))), (a7, .inl (k2, 32768, .inl (fun _ => 0))), (a8, .inl (k3, 64, .inl (fun _ => 0))), (a9, .inl (k4, 64, .inl (fun _ => 0))), (a10, .inl (k5, 64, .inl (fun _ => 0))), (a11, .inl (k6, 64, .inl (fun _ => 0)))] H := hP
  have hD : va_D A [(a1, .inr (3, [.int 0, .int 0, .int 0, .ref a2, .ref a3, .ref a4, .ref a5, .ref a6, .ref a7, .ref a8, .ref a9, .ref a10, .ref a11, .int 0])), (a4, .inl (k1, 64, .inl (fun _ => 0))), (a7, .inl (k2, 32768, .inl (fun _ => 0))), (a8, .inl (k3, 64, .inl (fun _ => 0))), (a9, .inl (k4, 64, .inl (fun _ => 0))), (a10, .inl (k5, 64, .inl (fun _ => 0))), (a11, .inl (k6, 64, .inl (fun _ => 0)))] := hD
  refine lv_aload_n hx hb dc_Fa_clear_20 rfl (lv_at hl 0 rfl) ?_
  refine va_get (D := (dC, dI)) (ci := 3) (v := .ref a7) (C := "StrataBase$Facts") (T := tb_Fa) (N := 14) hx hb hT in_Fa hown hK hP 0 rfl rfl 8 (by decide) (hT _ wd_305) (fun _ h9 => h9) rfl dc_Fa_clear_21 ?_
  refine lv_iconst (v := 0) hx hb dc_Fa_clear_24 (by decide) ?_
  have hPc := hP.sub (ws' := [(a7, .inl (k2, 32768, .inl (fun _ => 0)))]) [2] rfl
  have hDc := hD.sub (ws' := [(a7, .inl (k2, 32768, .inl (fun _ => 0)))]) [2] (by decide) rfl
  have hKc := hK.sub (tys' := [(k2, .int)]) [1] rfl
  have hFc := va_free (wc := [(a7, .inl (k2, 32768, .inl (fun _ => 0)))]) hD hS hA [2] rfl
  refine va_callv (va_runS (As := [.ref a7, .int 0]) (rest := []) ⟨hx, hb, hml, hown, hT⟩ (c_Ar_fill_3 l dC dI a7 k2 H.size) (va_cwS 2 hT (gd_S wd_1024 wd_597 wd_19 wd_598) rfl rfl rfl (by decide +kernel) ⟨Nat.le_of_ble_eq_true rfl, Nat.le_of_ble_eq_true rfl⟩) ⟨fun a U g mk q => by obtain ⟨q0, q1, qP, qK, qD⟩ := q; exact ⟨q0, q1, qP, va_K.moved (u := U) (U := U.calling g mk a) (Vm.Alike.refl U.vm) qK, qD⟩, fun U hU hW => ⟨rfl, by rw [hU], by rw [hU]; exact hPc, va_K.moved hW.alike hKc, hDc.weaken (fun _ _ _ _ => trivial)⟩⟩ rfl rfl hl.1 rfl (lv_room (Nat.le_of_ble_eq_true rfl)) dc_Fa_clear_25 ⟨(Nat.le_of_ble_eq_true rfl), (Nat.le_of_ble_eq_true rfl)⟩) hS (fun q _ h => hFc q h) hFc (fun _ t H1 locs ht hvm hr9 hB hz1 hk1 hS => ?_)
  obtain ⟨hP1, hK1, hD1⟩ := hB
  rw [ht] at hP1
  have hK1 := va_K.moved hvm.symm hK1
  obtain ⟨hP, hD⟩ := va_join (wr := [(a1, .inr (3, [.int 0, .int 0, .int 0, .ref a2, .ref a3, .ref a4, .ref a5, .ref a6, .ref a7, .ref a8, .ref a9, .ref a10, .ref a11, .int 0])), (a4, .inl (k1, 64, .inl (fun _ => 0))), (a8, .inl (k3, 64, .inl (fun _ => 0))), (a9, .inl (k4, 64, .inl (fun _ => 0))), (a10, .inl (k5, 64, .inl (fun _ => 0))), (a11, .inl (k6, 64, .inl (fun _ => 0)))]) (w1 := [(a7, .inl (k2, 32768, .inl (fun _ => 0)))]) hP hD [2] [0, 1, 3, 4, 5, 6] rfl rfl (by decide) (by decide) hk1 hFc hP1 hD1
  have hK := (hK.sub (tys' := [(k1, .int), (k3, .int), (k4, .int), (k5, .int), (k6, .int)]) [0, 2, 3, 4, 5] rfl).app hK1
  generalize H1 = H at hP hS ⊢
  have hP : va_P (dC, dI) vwCl [(a1, .inr (3, [.int 0, .int 0, .int 0, .ref a2, .ref a3, .ref a4, .ref a5, .ref a6, .ref a7, .ref a8, .ref a9, .ref a10, .ref a11, .int 0])), (a4, .inl (k1, 64, .inl (fun _ => 0))), (a8, .inl (k3, 64, .inl (fun _ => 0))), (a9, .inl (k4, 64, .inl (fun _ => 0))), (a10, .inl (k5, 64, .inl (fun _ => 0))), (a11, .inl (k6, 64, .inl (fun _ => 0))), (a7, .inl (k2, 32768, .inl (fun _ => 0)))] H := hP
  have hD : va_D A [(a1, .inr (3, [.int 0, .int 0, .int 0, .ref a2, .ref a3, .ref a4, .ref a5, .ref a6, .ref a7, .ref a8, .ref a9, .ref a10, .ref a11, .int 0])), (a4, .inl (k1, 64, .inl (fun _ => 0))), (a8, .inl (k3, 64, .inl (fun _ => 0))), (a9, .inl (k4, 64, .inl (fun _ => 0))), (a10, .inl (k5, 64, .inl (fun _ => 0))), (a11, .inl (k6, 64, .inl (fun _ => 0))), (a7, .inl (k2, 32768, .inl (fun _ => 0)))] := hD
  have hK : va_K (dC, dI) vwCl [(k1, .int), (k3, .int), (k4, .int), (k5, .int), (k6, .int), (k2, .int)] s := hK
  refine lv_aload_n hx hb dc_Fa_clear_28 rfl (lv_at hl 0 rfl) ?_
  refine va_get (D := (dC, dI)) (ci := 3) (v := .ref a4) (C := "StrataBase$Facts") (T := tb_Fa) (N := 14) hx hb hT in_Fa hown hK hP 0 rfl rfl 5 (by decide) (hT _ wd_301) (fun _ h9 => h9) rfl dc_Fa_clear_29 ?_
  refine lv_iconst (v := 0) hx hb dc_Fa_clear_32 (by decide) ?_
  have hPc := hP.sub (ws' := [(a4, .inl (k1, 64, .inl (fun _ => 0)))]) [1] rfl
  have hDc := hD.sub (ws' := [(a4, .inl (k1, 64, .inl (fun _ => 0)))]) [1] (by decide) rfl
  have hKc := hK.sub (tys' := [(k1, .int)]) [0] rfl
  have hFc := va_free (wc := [(a4, .inl (k1, 64, .inl (fun _ => 0)))]) hD hS hA [1] rfl
  refine va_callv (va_runS (As := [.ref a4, .int 0]) (rest := []) ⟨hx, hb, hml, hown, hT⟩ (c_Ar_fill_2 l dC dI a4 k1 H.size) (va_cwS 2 hT (gd_S wd_1024 wd_597 wd_19 wd_598) rfl rfl rfl (by decide +kernel) ⟨Nat.le_of_ble_eq_true rfl, Nat.le_of_ble_eq_true rfl⟩) ⟨fun a U g mk q => by obtain ⟨q0, q1, qP, qK, qD⟩ := q; exact ⟨q0, q1, qP, va_K.moved (u := U) (U := U.calling g mk a) (Vm.Alike.refl U.vm) qK, qD⟩, fun U hU hW => ⟨rfl, by rw [hU], by rw [hU]; exact hPc, va_K.moved hW.alike hKc, hDc.weaken (fun _ _ _ _ => trivial)⟩⟩ rfl rfl hl.1 rfl (lv_room (Nat.le_of_ble_eq_true rfl)) dc_Fa_clear_33 ⟨(Nat.le_of_ble_eq_true rfl), (Nat.le_of_ble_eq_true rfl)⟩) hS (fun q _ h => hFc q h) hFc (fun _ t H1 locs ht hvm hr9 hB hz1 hk1 hS => ?_)
  obtain ⟨hP1, hK1, hD1⟩ := hB
  rw [ht] at hP1
  have hK1 := va_K.moved hvm.symm hK1
  obtain ⟨hP, hD⟩ := va_join (wr := [(a1, .inr (3, [.int 0, .int 0, .int 0, .ref a2, .ref a3, .ref a4, .ref a5, .ref a6, .ref a7, .ref a8, .ref a9, .ref a10, .ref a11, .int 0])), (a8, .inl (k3, 64, .inl (fun _ => 0))), (a9, .inl (k4, 64, .inl (fun _ => 0))), (a10, .inl (k5, 64, .inl (fun _ => 0))), (a11, .inl (k6, 64, .inl (fun _ => 0))), (a7, .inl (k2, 32768, .inl (fun _ => 0)))]) (w1 := [(a4, .inl (k1, 64, .inl (fun _ => 0)))]) hP hD [1] [0, 2, 3, 4, 5, 6] rfl rfl (by decide) (by decide) hk1 hFc hP1 hD1
  have hK := (hK.sub (tys' := [(k3, .int), (k4, .int), (k5, .int), (k6, .int), (k2, .int)]) [1, 2, 3, 4, 5] rfl).app hK1
  generalize H1 = H at hP hS ⊢
  have hP : va_P (dC, dI) vwCl [(a1, .inr (3, [.int 0, .int 0, .int 0, .ref a2, .ref a3, .ref a4, .ref a5, .ref a6, .ref a7, .ref a8, .ref a9, .ref a10, .ref a11, .int 0])), (a8, .inl (k3, 64, .inl (fun _ => 0))), (a9, .inl (k4, 64, .inl (fun _ => 0))), (a10, .inl (k5, 64, .inl (fun _ => 0))), (a11, .inl (k6, 64, .inl (fun _ => 0))), (a7, .inl (k2, 32768, .inl (fun _ => 0))), (a4, .inl (k1, 64, .inl (fun _ => 0)))] H := hP
  have hD : va_D A [(a1, .inr (3, [.int 0, .int 0, .int 0, .ref a2, .ref a3, .ref a4, .ref a5, .ref a6, .ref a7, .ref a8, .ref a9, .ref a10, .ref a11, .int 0])), (a8, .inl (k3, 64, .inl (fun _ => 0))), (a9, .inl (k4, 64, .inl (fun _ => 0))), (a10, .inl (k5, 64, .inl (fun _ => 0))), (a11, .inl (k6, 64, .inl (fun _ => 0))), (a7, .inl (k2, 32768, .inl (fun _ => 0))), (a4, .inl (k1, 64, .inl (fun _ => 0)))] := hD
  have hK : va_K (dC, dI) vwCl [(k3, .int), (k4, .int), (k5, .int), (k6, .int), (k2, .int), (k1, .int)] s := hK
  refine lv_aload_n hx hb dc_Fa_clear_36 rfl (lv_at hl 0 rfl) ?_
  refine va_get (D := (dC, dI)) (ci := 3) (v := .ref a8) (C := "StrataBase$Facts") (T := tb_Fa) (N := 14) hx hb hT in_Fa hown hK hP 0 rfl rfl 9 (by decide) (hT _ wd_306) (fun _ h9 => h9) rfl dc_Fa_clear_37 ?_
  refine lv_iconst (v := (-1)) hx hb dc_Fa_clear_40 (by decide) ?_
  have hPc := hP.sub (ws' := [(a8, .inl (k3, 64, .inl (fun _ => 0)))]) [1] rfl
  have hDc := hD.sub (ws' := [(a8, .inl (k3, 64, .inl (fun _ => 0)))]) [1] (by decide) rfl
  have hKc := hK.sub (tys' := [(k3, .int)]) [0] rfl
  have hFc := va_free (wc := [(a8, .inl (k3, 64, .inl (fun _ => 0)))]) hD hS hA [1] rfl
  refine va_callv (va_runS (As := [.ref a8, .int (-1)]) (rest := []) ⟨hx, hb, hml, hown, hT⟩ (c_Ar_fill_1 l dC dI a8 k3 H.size) (va_cwS 2 hT (gd_S wd_1024 wd_597 wd_19 wd_598) rfl rfl rfl (by decide +kernel) ⟨Nat.le_of_ble_eq_true rfl, Nat.le_of_ble_eq_true rfl⟩) ⟨fun a U g mk q => by obtain ⟨q0, q1, qP, qK, qD⟩ := q; exact ⟨q0, q1, qP, va_K.moved (u := U) (U := U.calling g mk a) (Vm.Alike.refl U.vm) qK, qD⟩, fun U hU hW => ⟨rfl, by rw [hU], by rw [hU]; exact hPc, va_K.moved hW.alike hKc, hDc.weaken (fun _ _ _ _ => trivial)⟩⟩ rfl rfl hl.1 rfl (lv_room (Nat.le_of_ble_eq_true rfl)) dc_Fa_clear_41 ⟨(Nat.le_of_ble_eq_true rfl), (Nat.le_of_ble_eq_true rfl)⟩) hS (fun q _ h => hFc q h) hFc (fun _ t H1 locs ht hvm hr9 hB hz1 hk1 hS => ?_)
  obtain ⟨u4, hP1, hK1, hD1⟩ := hB
  rw [ht] at hP1
  have hK1 := va_K.moved hvm.symm hK1
  obtain ⟨hP, hD⟩ := va_join (wr := [(a1, .inr (3, [.int 0, .int 0, .int 0, .ref a2, .ref a3, .ref a4, .ref a5, .ref a6, .ref a7, .ref a8, .ref a9, .ref a10, .ref a11, .int 0])), (a9, .inl (k4, 64, .inl (fun _ => 0))), (a10, .inl (k5, 64, .inl (fun _ => 0))), (a11, .inl (k6, 64, .inl (fun _ => 0))), (a7, .inl (k2, 32768, .inl (fun _ => 0))), (a4, .inl (k1, 64, .inl (fun _ => 0)))]) (w1 := [(a8, .inl (k3, 64, .inl u4))]) hP hD [1] [0, 2, 3, 4, 5, 6] rfl rfl (by decide) (by decide) hk1 hFc hP1 hD1
  have hK := (hK.sub (tys' := [(k4, .int), (k5, .int), (k6, .int), (k2, .int), (k1, .int)]) [1, 2, 3, 4, 5] rfl).app hK1
  generalize H1 = H at hP hS ⊢
  have hP : va_P (dC, dI) vwCl [(a1, .inr (3, [.int 0, .int 0, .int 0, .ref a2, .ref a3, .ref a4, .ref a5, .ref a6, .ref a7, .ref a8, .ref a9, .ref a10, .ref a11, .int 0])), (a9, .inl (k4, 64, .inl (fun _ => 0))), (a10, .inl (k5, 64, .inl (fun _ => 0))), (a11, .inl (k6, 64, .inl (fun _ => 0))), (a7, .inl (k2, 32768, .inl (fun _ => 0))), (a4, .inl (k1, 64, .inl (fun _ => 0))), (a8, .inl (k3, 64, .inl u4))] H := hP
  have hD : va_D A [(a1, .inr (3, [.int 0, .int 0, .int 0, .ref a2, .ref a3, .ref a4, .ref a5, .ref a6, .ref a7, .ref a8, .ref a9, .ref a10, .ref a11, .int 0])), (a9, .inl (k4, 64, .inl (fun _ => 0))), (a10, .inl (k5, 64, .inl (fun _ => 0))), (a11, .inl (k6, 64, .inl (fun _ => 0))), (a7, .inl (k2, 32768, .inl (fun _ => 0))), (a4, .inl (k1, 64, .inl (fun _ => 0))), (a8, .inl (k3, 64, .inl u4))] := hD
  have hK : va_K (dC, dI) vwCl [(k4, .int), (k5, .int), (k6, .int), (k2, .int), (k1, .int), (k3, .int)] s := hK
  refine lv_aload_n hx hb dc_Fa_clear_44 rfl (lv_at hl 0 rfl) ?_
  refine va_get (D := (dC, dI)) (ci := 3) (v := .ref a9) (C := "StrataBase$Facts") (T := tb_Fa) (N := 14) hx hb hT in_Fa hown hK hP 0 rfl rfl 10 (by decide) (hT _ wd_307) (fun _ h9 => h9) rfl dc_Fa_clear_45 ?_
  refine lv_iconst (v := (-1)) hx hb dc_Fa_clear_48 (by decide) ?_
  have hPc := hP.sub (ws' := [(a9, .inl (k4, 64, .inl (fun _ => 0)))]) [1] rfl
  have hDc := hD.sub (ws' := [(a9, .inl (k4, 64, .inl (fun _ => 0)))]) [1] (by decide) rfl
  have hKc := hK.sub (tys' := [(k4, .int)]) [0] rfl
  have hFc := va_free (wc := [(a9, .inl (k4, 64, .inl (fun _ => 0)))]) hD hS hA [1] rfl
  refine va_callv (va_runS (As := [.ref a9, .int (-1)]) (rest := []) ⟨hx, hb, hml, hown, hT⟩ (c_Ar_fill_1 l dC dI a9 k4 H.size) (va_cwS 2 hT (gd_S wd_1024 wd_597 wd_19 wd_598) rfl rfl rfl (by decide +kernel) ⟨Nat.le_of_ble_eq_true rfl, Nat.le_of_ble_eq_true rfl⟩) ⟨fun a U g mk q => by obtain ⟨q0, q1, qP, qK, qD⟩ := q; exact ⟨q0, q1, qP, va_K.moved (u := U) (U := U.calling g mk a) (Vm.Alike.refl U.vm) qK, qD⟩, fun U hU hW => ⟨rfl, by rw [hU], by rw [hU]; exact hPc, va_K.moved hW.alike hKc, hDc.weaken (fun _ _ _ _ => trivial)⟩⟩ rfl rfl hl.1 rfl (lv_room (Nat.le_of_ble_eq_true rfl)) dc_Fa_clear_49 ⟨(Nat.le_of_ble_eq_true rfl), (Nat.le_of_ble_eq_true rfl)⟩) hS (fun q _ h => hFc q h) hFc (fun _ t H1 locs ht hvm hr9 hB hz1 hk1 hS => ?_)
  obtain ⟨u6, hP1, hK1, hD1⟩ := hB
  rw [ht] at hP1
  have hK1 := va_K.moved hvm.symm hK1
  obtain ⟨hP, hD⟩ := va_join (wr := [(a1, .inr (3, [.int 0, .int 0, .int 0, .ref a2, .ref a3, .ref a4, .ref a5, .ref a6, .ref a7, .ref a8, .ref a9, .ref a10, .ref a11, .int 0])), (a10, .inl (k5, 64, .inl (fun _ => 0))), (a11, .inl (k6, 64, .inl (fun _ => 0))), (a7, .inl (k2, 32768, .inl (fun _ => 0))), (a4, .inl (k1, 64, .inl (fun _ => 0))), (a8, .inl (k3, 64, .inl u4))]) (w1 := [(a9, .inl (k4, 64, .inl u6))]) hP hD [1] [0, 2, 3, 4, 5, 6] rfl rfl (by decide) (by decide) hk1 hFc hP1 hD1
  have hK := (hK.sub (tys' := [(k5, .int), (k6, .int), (k2, .int), (k1, .int), (k3, .int)]) [1, 2, 3, 4, 5] rfl).app hK1
  generalize H1 = H at hP hS ⊢
  have hP : va_P (dC, dI) vwCl [(a1, .inr (3, [.int 0, .int 0, .int 0, .ref a2, .ref a3, .ref a4, .ref a5, .ref a6, .ref a7, .ref a8, .ref a9, .ref a10, .ref a11, .int 0])), (a10, .inl (k5, 64, .inl (fun _ => 0))), (a11, .inl (k6, 64, .inl (fun _ => 0))), (a7, .inl (k2, 32768, .inl (fun _ => 0))), (a4, .inl (k1, 64, .inl (fun _ => 0))), (a8, .inl (k3, 64, .inl u4)), (a9, .inl (k4, 64, .inl u6))] H := hP
  have hD : va_D A [(a1, .inr (3, [.int 0, .int 0, .int 0, .ref a2, .ref a3, .ref a4, .ref a5, .ref a6, .ref a7, .ref a8, .ref a9, .ref a10, .ref a11, .int 0])), (a10, .inl (k5, 64, .inl (fun _ => 0))), (a11, .inl (k6, 64, .inl (fun _ => 0))), (a7, .inl (k2, 32768, .inl (fun _ => 0))), (a4, .inl (k1, 64, .inl (fun _ => 0))), (a8, .inl (k3, 64, .inl u4)), (a9, .inl (k4, 64, .inl u6))] := hD
  have hK : va_K (dC, dI) vwCl [(k5, .int), (k6, .int), (k2, .int), (k1, .int), (k3, .int), (k4, .int)] s := hK
  refine lv_aload_n hx hb dc_Fa_clear_52 rfl (lv_at hl 0 rfl) ?_
  refine va_get (D := (dC, dI)) (ci := 3) (v := .ref a10) (C := "StrataBase$Facts") (T := tb_Fa) (N := 14) hx hb hT in_Fa hown hK hP 0 rfl rfl 11 (by decide) (hT _ wd_308) (fun _ h9 => h9) rfl dc_Fa_clear_53 ?_
  refine lv_iconst (v := (-1)) hx hb dc_Fa_clear_56 (by decide) ?_
  have hPc := hP.sub (ws' := [(a10, .inl (k5, 64, .inl (fun _ => 0)))]) [1] rfl
  have hDc := hD.sub (ws' := [(a10, .inl (k5, 64, .inl (fun _ => 0)))]) [1] (by decide) rfl
  have hKc := hK.sub (tys' := [(k5, .int)]) [0] rfl
  have hFc := va_free (wc := [(a10, .inl (k5, 64, .inl (fun _ => 0)))]) hD hS hA [1] rfl
  refine va_callv (va_runS (As := [.ref a10, .int (-1)]) (rest := []) ⟨hx, hb, hml, hown, hT⟩ (c_Ar_fill_1 l dC dI a10 k5 H.size) (va_cwS 2 hT (gd_S wd_1024 wd_597 wd_19 wd_598) rfl rfl rfl (by decide +kernel) ⟨Nat.le_of_ble_eq_true rfl, Nat.le_of_ble_eq_true rfl⟩) ⟨fun a U g mk q => by obtain ⟨q0, q1, qP, qK, qD⟩ := q; exact ⟨q0, q1, qP, va_K.moved (u := U) (U := U.calling g mk a) (Vm.Alike.refl U.vm) qK, qD⟩, fun U hU hW => ⟨rfl, by rw [hU], by rw [hU]; exact hPc, va_K.moved hW.alike hKc, hDc.weaken (fun _ _ _ _ => trivial)⟩⟩ rfl rfl hl.1 rfl (lv_room (Nat.le_of_ble_eq_true rfl)) dc_Fa_clear_57 ⟨(Nat.le_of_ble_eq_true rfl), (Nat.le_of_ble_eq_true rfl)⟩) hS (fun q _ h => hFc q h) hFc (fun _ t H1 locs ht hvm hr9 hB hz1 hk1 hS => ?_)
  obtain ⟨u8, hP1, hK1, hD1⟩ := hB
  rw [ht] at hP1
  have hK1 := va_K.moved hvm.symm hK1
  obtain ⟨hP, hD⟩ := va_join (wr := [(a1, .inr (3, [.int 0, .int 0, .int 0, .ref a2, .ref a3, .ref a4, .ref a5, .ref a6, .ref a7, .ref a8, .ref a9, .ref a10, .ref a11, .int 0])), (a11, .inl (k6, 64, .inl (fun _ => 0))), (a7, .inl (k2, 32768, .inl (fun _ => 0))), (a4, .inl (k1, 64, .inl (fun _ => 0))), (a8, .inl (k3, 64, .inl u4)), (a9, .inl (k4, 64, .inl u6))]) (w1 := [(a10, .inl (k5, 64, .inl u8))]) hP hD [1] [0, 2, 3, 4, 5, 6] rfl rfl (by decide) (by decide) hk1 hFc hP1 hD1
  have hK := (hK.sub (tys' := [(k6, .int), (k2, .int), (k1, .int), (k3, .int), (k4, .int)]) [1, 2, 3, 4, 5] rfl).app hK1
  generalize H1 = H at hP hS ⊢
  have hP : va_P (dC, dI) vwCl [(a1, .inr (3, [.int 0, .int 0, .int 0, .ref a2, .ref a3, .ref a4, .ref a5, .ref a6, .ref a7, .ref a8, .ref a9, .ref a10, .ref a11, .int 0])), (a11, .inl (k6, 64, .inl (fun _ => 0))), (a7, .inl (k2, 32768, .inl (fun _ => 0))), (a4, .inl (k1, 64, .inl (fun _ => 0))), (a8, .inl (k3, 64, .inl u4)), (a9, .inl (k4, 64, .inl u6)), (a10, .inl (k5, 64, .inl u8))] H := hP
  have hD : va_D A [(a1, .inr (3, [.int 0, .int 0, .int 0, .ref a2, .ref a3, .ref a4, .ref a5, .ref a6, .ref a7, .ref a8, .ref a9, .ref a10, .ref a11, .int 0])), (a11, .inl (k6, 64, .inl (fun _ => 0))), (a7, .inl (k2, 32768, .inl (fun _ => 0))), (a4, .inl (k1, 64, .inl (fun _ => 0))), (a8, .inl (k3, 64, .inl u4)), (a9, .inl (k4, 64, .inl u6)), (a10, .inl (k5, 64, .inl u8))] := hD
  have hK : va_K (dC, dI) vwCl [(k6, .int), (k2, .int), (k1, .int), (k3, .int), (k4, .int), (k5, .int)] s := hK
  refine lv_aload_n hx hb dc_Fa_clear_60 rfl (lv_at hl 0 rfl) ?_
  refine va_get (D := (dC, dI)) (ci := 3) (v := .ref a11) (C := "StrataBase$Facts") (T := tb_Fa) (N := 14) hx hb hT in_Fa hown hK hP 0 rfl rfl 12 (by decide) (hT _ wd_309) (fun _ h9 => h9) rfl dc_Fa_clear_61 ?_
  refine lv_iconst (v := (-1)) hx hb dc_Fa_clear_64 (by decide) ?_
  have hPc := hP.sub (ws' := [(a11, .inl (k6, 64, .inl (fun _ => 0)))]) [1] rfl
  have hDc := hD.sub (ws' := [(a11, .inl (k6, 64, .inl (fun _ => 0)))]) [1] (by decide) rfl
  have hKc := hK.sub (tys' := [(k6, .int)]) [0] rfl
  have hFc := va_free (wc := [(a11, .inl (k6, 64, .inl (fun _ => 0)))]) hD hS hA [1] rfl
  refine va_callv (va_runS (As := [.ref a11, .int (-1)]) (rest := []) ⟨hx, hb, hml, hown, hT⟩ (c_Ar_fill_1 l dC dI a11 k6 H.size) (va_cwS 2 hT (gd_S wd_1024 wd_597 wd_19 wd_598) rfl rfl rfl (by decide +kernel) ⟨Nat.le_of_ble_eq_true rfl, Nat.le_of_ble_eq_true rfl⟩) ⟨fun a U g mk q => by obtain ⟨q0, q1, qP, qK, qD⟩ := q; exact ⟨q0, q1, qP, va_K.moved (u := U) (U := U.calling g mk a) (Vm.Alike.refl U.vm) qK, qD⟩, fun U hU hW => ⟨rfl, by rw [hU], by rw [hU]; exact hPc, va_K.moved hW.alike hKc, hDc.weaken (fun _ _ _ _ => trivial)⟩⟩ rfl rfl hl.1 rfl (lv_room (Nat.le_of_ble_eq_true rfl)) dc_Fa_clear_65 ⟨(Nat.le_of_ble_eq_true rfl), (Nat.le_of_ble_eq_true rfl)⟩) hS (fun q _ h => hFc q h) hFc (fun _ t H1 locs ht hvm hr9 hB hz1 hk1 hS => ?_)
  obtain ⟨u10, hP1, hK1, hD1⟩ := hB
  rw [ht] at hP1
  have hK1 := va_K.moved hvm.symm hK1
  obtain ⟨hP, hD⟩ := va_join (wr := [(a1, .inr (3, [.int 0, .int 0, .int 0, .ref a2, .ref a3, .ref a4, .ref a5, .ref a6, .ref a7, .ref a8, .ref a9, .ref a10, .ref a11, .int 0])), (a7, .inl (k2, 32768, .inl (fun _ => 0))), (a4, .inl (k1, 64, .inl (fun _ => 0))), (a8, .inl (k3, 64, .inl u4)), (a9, .inl (k4, 64, .inl u6)), (a10, .inl (k5, 64, .inl u8))]) (w1 := [(a11, .inl (k6, 64, .inl u10))]) hP hD [1] [0, 2, 3, 4, 5, 6] rfl rfl (by decide) (by decide) hk1 hFc hP1 hD1
  have hK := (hK.sub (tys' := [(k2, .int), (k1, .int), (k3, .int), (k4, .int), (k5, .int)]) [1, 2, 3, 4, 5] rfl).app hK1
  generalize H1 = H at hP hS ⊢
  have hP : va_P (dC, dI) vwCl [(a1, .inr (3, [.int 0, .int 0, .int 0, .ref a2, .ref a3, .ref a4, .ref a5, .ref a6, .ref a7, .ref a8, .ref a9, .ref a10, .ref a11, .int 0])), (a7, .inl (k2, 32768, .inl (fun _ => 0))), (a4, .inl (k1, 64, .inl (fun _ => 0))), (a8, .inl (k3, 64, .inl u4)), (a9, .inl (k4, 64, .inl u6)), (a10, .inl (k5, 64, .inl u8)), (a11, .inl (k6, 64, .inl u10))] H := hP
  have hD : va_D A [(a1, .inr (3, [.int 0, .int 0, .int 0, .ref a2, .ref a3, .ref a4, .ref a5, .ref a6, .ref a7, .ref a8, .ref a9, .ref a10, .ref a11, .int 0])), (a7, .inl (k2, 32768, .inl (fun _ => 0))), (a4, .inl (k1, 64, .inl (fun _ => 0))), (a8, .inl (k3, 64, .inl u4)), (a9, .inl (k4, 64, .inl u6)), (a10, .inl (k5, 64, .inl u8)), (a11, .inl (k6, 64, .inl u10))] := hD
  have hK : va_K (dC, dI) vwCl [(k2, .int), (k1, .int), (k3, .int), (k4, .int), (k5, .int), (k6, .int)] s := hK
  have hP9 := hP.sub (ws' := [(a1, .inr (3, [.int 0, .int 0, .int 0, .ref a2, .ref a3, .ref a4, .ref a5, .ref a6, .ref a7, .ref a8, .ref a9, .ref a10, .ref a11, .int 0])), (a7, .inl (k2, 32768, .inl (fun _ => 0))), (a4, .inl (k1, 64, .inl (fun _ => 0))), (a8, .inl (k3, 64, .inl u4)), (a9, .inl (k4, 64, .inl u6)), (a10, .inl (k5, 64, .inl u8)), (a11, .inl (k6, 64, .inl u10))]) [0, 1, 2, 3, 4, 5, 6] rfl
  have hD9 := hD.sub (ws' := [(a1, .inr (3, [.int 0, .int 0, .int 0, .ref a2, .ref a3, .ref a4, .ref a5, .ref a6, .ref a7, .ref a8, .ref a9, .ref a10, .ref a11, .int 0])), (a7, .inl (k2, 32768, .inl (fun _ => 0))), (a4, .inl (k1, 64, .inl (fun _ => 0))), (a8, .inl (k3, 64, .inl u4)), (a9, .inl (k4, 64, .inl u6)), (a10, .inl (k5, 64, .inl u8)), (a11, .inl (k6, 64, .inl u10))]) [0, 1, 2, 3, 4, 5, 6] (by decide) rfl
  have hK9 := hK.sub (tys' := [(k2, .int), (k1, .int), (k3, .int), (k4, .int), (k5, .int), (k6, .int)]) [0, 1, 2, 3, 4, 5] rfl
  refine W.widen (k := 0) (n := 0) (Nat.le_of_ble_eq_true rfl) (Nat.le_of_ble_eq_true rfl) ?_
  exact W.vret hx hb hr (fun t ht hW => ⟨⟨(), rfl, trivial, u4, u6, u8, u10, by rw [ht]; exact hP9, va_K.moved hW.alike hK9, hD9⟩, hS.F ht⟩) hS.2.2 dc_Fa_clear_68

set_option maxHeartbeats 4000000 in
set_option maxRecDepth 100000 in
theorem c_Ix_clear_1 (l : Launch) (dC : Nat → ClassId) (dI : Nat → Nat → Nat) (a1 : Nat) (a2 : Nat) (a3 : Nat) (a4 : Nat) (a5 : Nat) (a6 : Nat) (a7 : Nat) (a8 : Nat) (sz : Nat) : Met l my_Ix_clear (Cond.code my_Ix_clear cd_Ix_clear 1 none :: tblG) ({ frames := 0, cells := 0, slots := 0, locals := 0 }) (va_Pc [.ref a1] (fun U => U.heap.size = sz ∧ va_P (dC, dI) vwCl [(a1, .inr (4, [.int 0, .ref a2, .ref a3, .ref a4, .ref a5, .ref a6, .ref a7, .ref a8, .int 0]))] U.heap ∧ va_K (dC, dI) vwCl [] U ∧ va_D (fun _ => True) [(a1, .inr (4, [.int 0, .ref a2, .ref a3, .ref a4, .ref a5, .ref a6, .ref a7, .ref a8, .int 0]))])) (va_Qv (fun _ : Unit => True) (fun (_ : Unit) (t : State) => va_P (dC, dI) vwCl [(a1, .inr (4, [.int 0, .ref a2, .ref a3, .ref a4, .ref a5, .ref a6, .ref a7, .ref a8, .int 0]))] t.heap ∧ va_K (dC, dI) vwCl [] t ∧ va_D (va_A [(a1, .inr (4, [.int 0, .ref a2, .ref a3, .ref a4, .ref a5, .ref a6, .ref a7, .ref a8, .int 0]))] sz) [(a1, .inr (4, [.int 0, .ref a2, .ref a3, .ref a4, .ref a5, .ref a6, .ref a7, .ref a8, .int 0]))]) (va_A [(a1, .inr (4, [.int 0, .ref a2, .ref a3, .ref a4, .ref a5, .ref a6, .ref a7, .ref a8, .int 0]))] sz)) 0 0 (va_A [(a1, .inr (4, [.int 0, .ref a2, .ref a3, .ref a4, .ref a5, .ref a6, .ref a7, .ref a8, .int 0]))] sz) := by
  refine Met.ofW (cc := cd_Ix_clear) (maxL := 1) (ret := none) (by decide) rfl ?_
  intro p e s m args below meth c s₁ B hml hv
  obtain ⟨rfl, hsz, hP, hK, hD0⟩ := hv
  have hx := B.exec
  have hb := B.bytes
  have hr := B.returns
  have hT : ∀ w ∈ tblG, w.before _ s = true := fun w h => atoms_spec (ws := (Cond.code my_Ix_clear cd_Ix_clear 1 none :: tblG)) B.pre w (List.mem_cons_of_mem _ h)
  have hown : s.vm.findClass "StrataBase$Indexes" = some m.cls := findClass_of_methodNamed B.named
  have hlocks := B.notSynchronized
  subst hsz
  have hD := hD0.self (sz := s.heap.size)
  generalize hAe : va_A [(a1, .inr (4, [.int 0, .ref a2, .ref a3, .ref a4, .ref a5, .ref a6, .ref a7, .ref a8, .int 0]))] s.heap.size = A at hD ⊢
  have hA : ∀ q : Nat, s.heap.size ≤ q → A q := fun q h => by rw [← hAe]; exact Or.inr h
  have hS : va_S A s.heap s.heap [] := va_S.rf
  have hl := lv_entry ([.ref a1]) (n := 1) (Nat.le_of_ble_eq_true rfl)
  rw [lg_entry_eq]
  generalize (lg_sl ([.ref a1]) ++ List.replicate (1 - (lg_sl ([.ref a1])).length) Slot.unset).toArray = ls at hl ⊢
  have hl : lv_has ls 1 [(0, .ref a1)] := hl
  refine lv_aload_n hx hb dc_Ix_clear_0 rfl (lv_at hl 0 rfl) ?_
  refine lv_iconst (v := 0) hx hb dc_Ix_clear_1 (by decide) ?_
  refine va_put (D := (dC, dI)) (ci := 4) (v := .int 0) (ty := .int) (C := "StrataBase$Indexes") (T := tb_Ix) (N := 9) hx hb hT in_Ix ty_Ix tk_Ix nm_Ix hown hK hP hD hS 0 rfl rfl 0 (by decide) (hT _ wd_352) (fun _ h9 => h9) rfl (by decide +kernel) rfl rfl (Nat.le_of_ble_eq_true rfl) dc_Ix_clear_2 (fun H locs hP hD hS => ?_)
  have hP : va_P (dC, dI) vwCl [(a1, .inr (4, [.int 0, .ref a2, .ref a3, .ref a4, .ref a5, .ref a6, .ref a7, .ref a8, .int 0]))] H := hP
  have hD : va_D A [(a1, .inr (4, [.int 0, .ref a2, .ref a3, .ref a4, .ref a5, .ref a6, .ref a7, .ref a8, .int 0]))] := hD
  refine lv_aload_n hx hb dc_Ix_clear_5 rfl (lv_at hl 0 rfl) ?_
  refine lv_iconst (v := 0) hx hb dc_Ix_clear_6 (by decide) ?_
  refine va_put (D := (dC, dI)) (ci := 4) (v := .int 0) (ty := .int) (C := "StrataBase$Indexes") (T := tb_Ix) (N := 9) hx hb hT in_Ix ty_Ix tk_Ix nm_Ix hown hK hP hD hS 0 rfl rfl 8 (by decide) (hT _ wd_360) (fun _ h9 => h9) rfl (by decide +kernel) rfl rfl (Nat.le_of_ble_eq_true rfl) dc_Ix_clear_7 (fun H locs hP hD hS => ?_)
  have hP : va_P (dC, dI) vwCl [(a1, .inr (4, [.int 0, .ref a2, .ref a3, .ref a4, .ref a5, .ref a6, .ref a7, .ref a8, .int 0]))] H := hP
  have hD : va_D A [(a1, .inr (4, [.int 0, .ref a2, .ref a3, .ref a4, .ref a5, .ref a6, .ref a7, .ref a8, .int 0]))] := hD
  have hP9 := hP.sub (ws' := [(a1, .inr (4, [.int 0, .ref a2, .ref a3, .ref a4, .ref a5, .ref a6, .ref a7, .ref a8, .int 0]))]) [0] rfl
  have hD9 := hD.sub (ws' := [(a1, .inr (4, [.int 0, .ref a2, .ref a3, .ref a4, .ref a5, .ref a6, .ref a7, .ref a8, .int 0]))]) [0] (by decide) rfl
  have hK9 := hK.sub (tys' := []) [] rfl
  refine W.widen (k := 0) (n := 0) (Nat.le_of_ble_eq_true rfl) (Nat.le_of_ble_eq_true rfl) ?_
  exact W.vret hx hb hr (fun t ht hW => ⟨⟨(), rfl, trivial, by rw [ht]; exact hP9, va_K.moved hW.alike hK9, hD9⟩, hS.F ht⟩) hS.2.2 dc_Ix_clear_10

set_option maxHeartbeats 4000000 in
set_option maxRecDepth 100000 in
theorem c_Jo_forgetIndexes_1 (l : Launch) (dC : Nat → ClassId) (dI : Nat → Nat → Nat) (a1 : Nat) (a2 : Nat) (a3 : Nat) (a4 : Nat) (a5 : Nat) (a16 : Nat) (a17 : Nat) (a18 : Nat) (a19 : Nat) (a20 : Nat) (a21 : Nat) (a22 : Nat) (sz : Nat) : Met l my_Jo_forgetIndexes (Cond.code my_Jo_forgetIndexes cd_Jo_forgetIndexes 1 none :: tblG) ({ frames := 1, cells := 0, slots := 0, locals := 20 }) (va_Pc [.ref a1] (fun U => U.heap.size = sz ∧ va_P (dC, dI) vwCl [(a1, .inr (5, [.ref a2, .ref a3, .ref a4, .ref a5, .int 0, .null, .int 0, .null, .int 0, .int 0, .int 0])), (a4, .inr (4, [.int 0, .ref a16, .ref a17, .ref a18, .ref a19, .ref a20, .ref a21, .ref a22, .int 0]))] U.heap ∧ va_K (dC, dI) vwCl [] U ∧ va_D (fun _ => True) [(a1, .inr (5, [.ref a2, .ref a3, .ref a4, .ref a5, .int 0, .null, .int 0, .null, .int 0, .int 0, .int 0])), (a4, .inr (4, [.int 0, .ref a16, .ref a17, .ref a18, .ref a19, .ref a20, .ref a21, .ref a22, .int 0]))])) (va_Qv (fun _ : Unit => True) (fun (_ : Unit) (t : State) => va_P (dC, dI) vwCl [(a1, .inr (5, [.ref a2, .ref a3, .ref a4, .ref a5, .int 0, .null, .int 0, .null, .int 0, .int 0, .int 0])), (a4, .inr (4, [.int 0, .ref a16, .ref a17, .ref a18, .ref a19, .ref a20, .ref a21, .ref a22, .int 0]))] t.heap ∧ va_K (dC, dI) vwCl [] t ∧ va_D (va_A [(a1, .inr (5, [.ref a2, .ref a3, .ref a4, .ref a5, .int 0, .null, .int 0, .null, .int 0, .int 0, .int 0])), (a4, .inr (4, [.int 0, .ref a16, .ref a17, .ref a18, .ref a19, .ref a20, .ref a21, .ref a22, .int 0]))] sz) [(a1, .inr (5, [.ref a2, .ref a3, .ref a4, .ref a5, .int 0, .null, .int 0, .null, .int 0, .int 0, .int 0])), (a4, .inr (4, [.int 0, .ref a16, .ref a17, .ref a18, .ref a19, .ref a20, .ref a21, .ref a22, .int 0]))]) (va_A [(a1, .inr (5, [.ref a2, .ref a3, .ref a4, .ref a5, .int 0, .null, .int 0, .null, .int 0, .int 0, .int 0])), (a4, .inr (4, [.int 0, .ref a16, .ref a17, .ref a18, .ref a19, .ref a20, .ref a21, .ref a22, .int 0]))] sz)) 0 0 (va_A [(a1, .inr (5, [.ref a2, .ref a3, .ref a4, .ref a5, .int 0, .null, .int 0, .null, .int 0, .int 0, .int 0])), (a4, .inr (4, [.int 0, .ref a16, .ref a17, .ref a18, .ref a19, .ref a20, .ref a21, .ref a22, .int 0]))] sz) := by
  refine Met.ofW (cc := cd_Jo_forgetIndexes) (maxL := 1) (ret := none) (by decide) rfl ?_
  intro p e s m args below meth c s₁ B hml hv
  obtain ⟨rfl, hsz, hP, hK, hD0⟩ := hv
  have hx := B.exec
  have hb := B.bytes
  have hr := B.returns
  have hT : ∀ w ∈ tblG, w.before _ s = true := fun w h => atoms_spec (ws := (Cond.code my_Jo_forgetIndexes cd_Jo_forgetIndexes 1 none :: tblG)) B.pre w (List.mem_cons_of_mem _ h)
  have hown : s.vm.findClass "StrataBase$Join" = some m.cls := findClass_of_methodNamed B.named
  have hlocks := B.notSynchronized
  subst hsz
  have hD := hD0.self (sz := s.heap.size)
  generalize hAe : va_A [(a1, .inr (5, [.ref a2, .ref a3, .ref a4, .ref a5, .int 0, .null, .int 0, .null, .int 0, .int 0, .int 0])), (a4, .inr (4, [.int 0, .ref a16, .ref a17, .ref a18, .ref a19, .ref a20, .ref a21, .ref a22, .int 0]))] s.heap.size = A at hD ⊢
  have hA : ∀ q : Nat, s.heap.size ≤ q → A q := fun q h => by rw [← hAe]; exact Or.inr h
  have hS : va_S A s.heap s.heap [] := va_S.rf
  have hl := lv_entry ([.ref a1]) (n := 1) (Nat.le_of_ble_eq_true rfl)
  rw [lg_entry_eq]
  generalize (lg_sl ([.ref a1]) ++ List.replicate (1 - (lg_sl ([.ref a1])).length) Slot.unset).toArray = ls at hl ⊢
  have hl : lv_has ls 1 [(0, .ref a1)] := hl
  refine lv_aload_n hx hb dc_Jo_forgetIndexes_0 rfl (lv_at hl 0 rfl) ?_
  refine va_get (D := (dC, dI)) (ci := 5) (v := .ref a4) (C := "StrataBase$Join") (T := tb_Jo) (N := 11) hx hb hT in_Jo hown hK hP 0 rfl rfl 2 (by decide) (hT _ wd_456) (fun _ h9 => h9) rfl dc_Jo_forgetIndexes_1 ?_
  have hPc := hP.sub (ws' := [(a4, .inr (4, [.int 0, .ref a16, .ref a17, .ref a18, .ref a19, .ref a20, .ref a21, .ref a22, .int 0]))]) [1] rfl
  have hDc := hD.sub (ws' := [(a4, .inr (4, [.int 0, .ref a16, .ref a17, .ref a18, .ref a19, .ref a20, .ref a21, .ref a22, .int 0]))]) [1] (by decide) rfl
  have hKc := hK.sub (tys' := []) [] rfl
  have hFc := va_free (wc := [(a4, .inr (4, [.int 0, .ref a16, .ref a17, .ref a18, .ref a19, .ref a20, .ref a21, .ref a22, .int 0]))]) hD hS hA [1] rfl
  refine va_callv (va_runV (As := []) (rest := []) ⟨hx, hb, hml, hown, hT⟩ (c_Ix_clear_1 l dC dI a4 a16 a17 a18 a19 a20 a21 a22 s.heap.size) (cwV 0 hT (gd_V wd_1029 wd_1030 wd_1031 wd_10 wd_1032) rfl rfl rfl (by decide +kernel) ⟨Nat.le_of_ble_eq_true rfl, Nat.le_of_ble_eq_true rfl⟩) ⟨fun a U g mk q => by obtain ⟨q0, q1, qP, qK, qD⟩ := q; exact ⟨q0, q1, qP, va_K.moved (u := U) (U := U.calling g mk a) (Vm.Alike.refl U.vm) qK, qD⟩, va_recv hK hP (q0 := 1) (ci := 4) rfl rfl, fun U hU hW => ⟨rfl, by rw [hU], by rw [hU]; exact hPc, va_K.moved hW.alike hKc, hDc.weaken (fun _ _ _ _ => trivial)⟩⟩ rfl rfl hl.1 rfl (lv_room (Nat.le_of_ble_eq_true rfl)) dc_Jo_forgetIndexes_4 ⟨(Nat.le_of_ble_eq_true rfl), (Nat.le_of_ble_eq_true rfl)⟩) hS (fun q _ h => hFc q h) hFc (fun _ t H1 locs ht hvm hr9 hB hz1 hk1 hS => ?_)
  obtain ⟨hP1, hK1, hD1⟩ := hB
  rw [ht] at hP1
  have hK1 := va_K.moved hvm.symm hK1
  obtain ⟨hP, hD⟩ := va_join (wr := [(a1, .inr (5, [.ref a2, .ref a3, .ref a4, .ref a5, .int 0, .null, .int 0, .null, .int 0, .int 0, .int 0]))]) (w1 := [(a4, .inr (4, [.int 0, .ref a16, .ref a17, .ref a18, .ref a19, .ref a20, .ref a21, .ref a22, .int 0]))]) hP hD [1] [0] rfl rfl (by decide) (by decide) hk1 hFc hP1 hD1
  have hK := (hK.sub (tys' := []) [] rfl).app hK1
  generalize H1 = H at hP hS ⊢
  have hP : va_P (dC, dI) vwCl [(a1, .inr (5, [.ref a2, .ref a3, .ref a4, .ref a5, .int 0, .null, .int 0, .null, .int 0, .int 0, .int 0])), (a4, .inr (4, [.int 0, .ref a16, .ref a17, .ref a18, .ref a19, .ref a20, .ref a21, .ref a22, .int 0]))] H := hP
  have hD : va_D A [(a1, .inr (5, [.ref a2, .ref a3, .ref a4, .ref a5, .int 0, .null, .int 0, .null, .int 0, .int 0, .int 0])), (a4, .inr (4, [.int 0, .ref a16, .ref a17, .ref a18, .ref a19, .ref a20, .ref a21, .ref a22, .int 0]))] := hD
  have hK : va_K (dC, dI) vwCl [] s := hK
  have hP9 := hP.sub (ws' := [(a1, .inr (5, [.ref a2, .ref a3, .ref a4, .ref a5, .int 0, .null, .int 0, .null, .int 0, .int 0, .int 0])), (a4, .inr (4, [.int 0, .ref a16, .ref a17, .ref a18, .ref a19, .ref a20, .ref a21, .ref a22, .int 0]))]) [0, 1] rfl
  have hD9 := hD.sub (ws' := [(a1, .inr (5, [.ref a2, .ref a3, .ref a4, .ref a5, .int 0, .null, .int 0, .null, .int 0, .int 0, .int 0])), (a4, .inr (4, [.int 0, .ref a16, .ref a17, .ref a18, .ref a19, .ref a20, .ref a21, .ref a22, .int 0]))]) [0, 1] (by decide) rfl
  have hK9 := hK.sub (tys' := []) [] rfl
  refine W.widen (k := 0) (n := 0) (Nat.le_of_ble_eq_true rfl) (Nat.le_of_ble_eq_true rfl) ?_
  exact W.vret hx hb hr (fun t ht hW => ⟨⟨(), rfl, trivial, by rw [ht]; exact hP9, va_K.moved hW.alike hK9, hD9⟩, hS.F ht⟩) hS.2.2 dc_Jo_forgetIndexes_7

set_option maxHeartbeats 4000000 in
set_option maxRecDepth 100000 in
theorem c_SB_run (l : Launch) (dC : Nat → ClassId) (dI : Nat → Nat → Nat) (h0 : Nat) (q7 : Nat) (q13 : Nat) (q24 : Nat) (q35 : Nat) (q47 : Nat) (q58 : Nat) (q69 : Nat) (q84 : Nat) (q95 : Nat) (u2 : Nat) (u3 : Nat) (u4 : Nat) (u5 : Nat) (u6 : Nat) (u8 : Nat) (u94 : Nat) (u95 : Nat) (u83 : Nat) (u96 : Nat) (u97 : Nat) (u82 : Nat) (u84 : Nat) (u85 : Nat) (u86 : Nat) (u87 : Nat) (u100 : Nat) (u99 : Nat) (u101 : Nat) (u102 : Nat) (u103 : Nat) (u104 : Nat) (u105 : Nat) (u106 : Nat) (u107 : Nat) (u108 : Nat) (k88 : ClassId) (k89 : ClassId) (k90 : ClassId) (k91 : ClassId) (k92 : ClassId) (k93 : ClassId) (sz : Nat) : Met l my_SB_run (Cond.code my_SB_run cd_SB_run 2 (some (.int)) :: tblG) ({ frames := 2, cells := 0, slots := 0, locals := 43 }) (va_Pc [.ref h0] (fun U => U.heap.size = sz ∧ va_P (dC, dI) vwCl [(h0, .inr (0, [.ref q7, .int 0, .int 0, .ref q13, .ref q24, .ref q35, .ref q47, .ref q58, .ref q69, .ref q84, .ref q95, .int 0, .int 0])), (q13, .inr (7, [.ref u2, .ref u3, .ref u4, .ref u5, .ref u6, .int 0, .ref u8])), (q58, .inr (3, [.int 0, .int 0, .int 0, .ref u94, .ref u95, .ref u83, .ref u96, .ref u97, .ref u82, .ref u84, .ref u85, .ref u86, .ref u87, .int 0])), (u82, .inl (k88, 32768, .inl (fun _ => 0))), (u83, .inl (k89, 64, .inl (fun _ => 0))), (u84, .inl (k90, 64, .inl (fun _ => 0))), (u85, .inl (k91, 64, .inl (fun _ => 0))), (u86, .inl (k92, 64, .inl (fun _ => 0))), (u87, .inl (k93, 64, .inl (fun _ => 0))), (q69, .inr (5, [.ref u100, .ref q58, .ref u99, .ref u101, .int 0, .null, .int 0, .null, .int 0, .int 0, .int 0])), (u99, .inr (4, [.int 0, .ref u102, .ref u103, .ref u104, .ref u105, .ref u106, .ref u107, .ref u108, .int 0]))] U.heap ∧ va_K (dC, dI) vwCl [(k88, .int), (k89, .int), (k90, .int), (k91, .int), (k92, .int), (k93, .int)] U ∧ va_D (fun _ => True) [(h0, .inr (0, [.ref q7, .int 0, .int 0, .ref q13, .ref q24, .ref q35, .ref q47, .ref q58, .ref q69, .ref q84, .ref q95, .int 0, .int 0])), (q13, .inr (7, [.ref u2, .ref u3, .ref u4, .ref u5, .ref u6, .int 0, .ref u8])), (q58, .inr (3, [.int 0, .int 0, .int 0, .ref u94, .ref u95, .ref u83, .ref u96, .ref u97, .ref u82, .ref u84, .ref u85, .ref u86, .ref u87, .int 0])), (u82, .inl (k88, 32768, .inl (fun _ => 0))), (u83, .inl (k89, 64, .inl (fun _ => 0))), (u84, .inl (k90, 64, .inl (fun _ => 0))), (u85, .inl (k91, 64, .inl (fun _ => 0))), (u86, .inl (k92, 64, .inl (fun _ => 0))), (u87, .inl (k93, 64, .inl (fun _ => 0))), (q69, .inr (5, [.ref u100, .ref q58, .ref u99, .ref u101, .int 0, .null, .int 0, .null, .int 0, .int 0, .int 0])), (u99, .inr (4, [.int 0, .ref u102, .ref u103, .ref u104, .ref u105, .ref u106, .ref u107, .ref u108, .int 0]))])) (va_Qi (fun (r : Int32) (_ : Unit) => r = 0) (fun (_ : Unit) (t : State) => ∃ (u7 : Nat → Int32) (u9 : Nat → Int32) (u10 : Nat → Int32) (u11 : Nat → Int32), va_P (dC, dI) vwCl [(h0, .inr (0, [.ref q7, .int 0, .int 0, .ref q13, .ref q24, .ref q35, .ref q47, .ref q58, .ref q69, .ref q84, .ref q95, .int 1, .int 0])), (q13, .inr (7, [.ref u2, .ref u3, .ref u4, .ref u5, .ref u6, .int 0, .ref u8])), (q58, .inr (3, [.int 0, .int 0, .int 0, .ref u94, .ref u95, .ref u83, .ref u96, .ref u97, .ref u82, .ref u84, .ref u85, .ref u86, .ref u87, .int 0])), (u82, .inl (k88, 32768, .inl (fun _ => 0))), (u83, .inl (k89, 64, .inl (fun _ => 0))), (u84, .inl (k90, 64, .inl u7)), (u85, .inl (k91, 64, .inl u9)), (u86, .inl (k92, 64, .inl u10)), (u87, .inl (k93, 64, .inl u11)), (q69, .inr (5, [.ref u100, .ref q58, .ref u99, .ref u101, .int 0, .null, .int 0, .null, .int 0, .int 0, .int 0])), (u99, .inr (4, [.int 0, .ref u102, .ref u103, .ref u104, .ref u105, .ref u106, .ref u107, .ref u108, .int 0]))] t.heap ∧ va_K (dC, dI) vwCl [(k88, .int), (k89, .int), (k90, .int), (k91, .int), (k92, .int), (k93, .int)] t ∧ va_D (va_A [(h0, .inr (0, [.ref q7, .int 0, .int 0, .ref q13, .ref q24, .ref q35, .ref q47, .ref q58, .ref q69, .ref q84, .ref q95, .int 0, .int 0])), (q13, .inr (7, [.ref u2, .ref u3, .ref u4, .ref u5, .ref u6, .int 0, .ref u8])), (q58, .inr (3, [.int 0, .int 0, .int 0, .ref u94, .ref u95, .ref u83, .ref u96, .ref u97, .ref u82, .ref u84, .ref u85, .ref u86, .ref u87, .int 0])), (u82, .inl (k88, 32768, .inl (fun _ => 0))), (u83, .inl (k89, 64, .inl (fun _ => 0))), (u84, .inl (k90, 64, .inl (fun _ => 0))), (u85, .inl (k91, 64, .inl (fun _ => 0))), (u86, .inl (k92, 64, .inl (fun _ => 0))), (u87, .inl (k93, 64, .inl (fun _ => 0))), (q69, .inr (5, [.ref u100, .ref q58, .ref u99, .ref u101, .int 0, .null, .int 0, .null, .int 0, .int 0, .int 0])), (u99, .inr (4, [.int 0, .ref u102, .ref u103, .ref u104, .ref u105, .ref u106, .ref u107, .ref u108, .int 0]))] sz) [(h0, .inr (0, [.ref q7, .int 0, .int 0, .ref q13, .ref q24, .ref q35, .ref q47, .ref q58, .ref q69, .ref q84, .ref q95, .int 1, .int 0])), (q13, .inr (7, [.ref u2, .ref u3, .ref u4, .ref u5, .ref u6, .int 0, .ref u8])), (q58, .inr (3, [.int 0, .int 0, .int 0, .ref u94, .ref u95, .ref u83, .ref u96, .ref u97, .ref u82, .ref u84, .ref u85, .ref u86, .ref u87, .int 0])), (u82, .inl (k88, 32768, .inl (fun _ => 0))), (u83, .inl (k89, 64, .inl (fun _ => 0))), (u84, .inl (k90, 64, .inl u7)), (u85, .inl (k91, 64, .inl u9)), (u86, .inl (k92, 64, .inl u10)), (u87, .inl (k93, 64, .inl u11)), (q69, .inr (5, [.ref u100, .ref q58, .ref u99, .ref u101, .int 0, .null, .int 0, .null, .int 0, .int 0, .int 0])), (u99, .inr (4, [.int 0, .ref u102, .ref u103, .ref u104, .ref u105, .ref u106, .ref u107, .ref u108, .int 0]))]) (va_A [(h0, .inr (0, [.ref q7, .int 0, .int 0, .ref q13, .ref q24, .ref q35, .ref q47, .ref q58, .ref q69, .ref q84, .ref q95, .int 0, .int 0])), (q13, .inr (7, [.ref u2, .ref u3, .ref u4, .ref u5, .ref u6, .int 0, .ref u8])), (q58, .inr (3, [.int 0, .int 0, .int 0, .ref u94, .ref u95, .ref u83, .ref u96, .ref u97, .ref u82, .ref u84, .ref u85, .ref u86, .ref u87, .int 0])), (u82, .inl (k88, 32768, .inl (fun _ => 0))), (u83, .inl (k89, 64, .inl (fun _ => 0))), (u84, .inl (k90, 64, .inl (fun _ => 0))), (u85, .inl (k91, 64, .inl (fun _ => 0))), (u86, .inl (k92, 64, .inl (fun _ => 0))), (u87, .inl (k93, 64, .inl (fun _ => 0))), (q69, .inr (5, [.ref u100, .ref q58, .ref u99, .ref u101, .int 0, .null, .int 0, .null, .int 0, .int 0, .int 0])), (u99, .inr (4, [.int 0, .ref u102, .ref u103, .ref u104, .ref u105, .ref u106, .ref u107, .ref u108, .int 0]))] sz)) 0 0 (va_A [(h0, .inr (0, [.ref q7, .int 0, .int 0, .ref q13, .ref q24, .ref q35, .ref q47, .ref q58, .ref q69, .ref q84, .ref q95, .int 0, .int 0])), (q13, .inr (7, [.ref u2, .ref u3, .ref u4, .ref u5, .ref u6, .int 0, .ref u8])), (q58, .inr (3, [.int 0, .int 0, .int 0, .ref u94, .ref u95, .ref u83, .ref u96, .ref u97, .ref u82, .ref u84, .ref u85, .ref u86, .ref u87, .int 0])), (u82, .inl (k88, 32768, .inl (fun _ => 0))), (u83, .inl (k89, 64, .inl (fun _ => 0))), (u84, .inl (k90, 64, .inl (fun _ => 0))), (u85, .inl (k91, 64, .inl (fun _ => 0))), (u86, .inl (k92, 64, .inl (fun _ => 0))), (u87, .inl (k93, 64, .inl (fun _ => 0))), (q69, .inr (5, [.ref u100, .ref q58, .ref u99, .ref u101, .int 0, .null, .int 0, .null, .int 0, .int 0, .int 0])), (u99, .inr (4, [.int 0, .ref u102, .ref u103, .ref u104, .ref u105, .ref u106, .ref u107, .ref u108, .int 0]))] sz) := by
  refine Met.ofW (cc := cd_SB_run) (maxL := 2) (ret := (some (.int))) (by decide) rfl ?_
  intro p e s m args below meth c s₁ B hml hv
  obtain ⟨rfl, hsz, hP, hK, hD0⟩ := hv
  have hx := B.exec
  have hb := B.bytes
  have hr := B.returns
  have hT : ∀ w ∈ tblG, w.before _ s = true := fun w h => atoms_spec (ws := (Cond.code my_SB_run cd_SB_run 2 (some (.int)) :: tblG)) B.pre w (List.mem_cons_of_mem _ h)
  have hown : s.vm.findClass "StrataBase" = some m.cls := findClass_of_methodNamed B.named
  have hlocks := B.notSynchronized
  subst hsz
  have hD := hD0.self (sz := s.heap.size)
  generalize hAe : va_A [(h0, .inr (0, [.ref q7, .int 0, .int 0, .ref q13, .ref q24, .ref q35, .ref q47, .ref q58, .ref q69, .ref q84, .ref q95, .int 0, .int 0])), (q13, .inr (7, [.ref u2, .ref u3, .ref u4, .ref u5, .ref u6, .int 0, .ref u8])), (q58, .inr (3, [.int 0, .int 0, .int 0, .ref u94, .ref u95, .ref u83, .ref u96, .ref u97, .ref u82, .ref u84, .ref u85, .ref u86, .ref u87, .int 0])), (u82, .inl (k88, 32768, .inl (fun _ => 0))), (u83, .inl (k89, 64, .inl (fun _ => 0))), (u84, .inl (k90, 64, .inl (fun _ => 0))), (u85, .inl (k91, 64, .inl (fun _ => 0))), (u86, .inl (k92, 64, .inl (fun _ => 0))), (u87, .inl (k93, 64, .inl (fun _ => 0))), (q69, .inr (5, [.ref u100, .ref q58, .ref u99, .ref u101, .int 0, .null, .int 0, .null, .int 0, .int 0, .int 0])), (u99, .inr (4, [.int 0, .ref u102, .ref u103, .ref u104, .ref u105, .ref u106, .ref u107, .ref u108, .int 0]))] s.heap.size = A at hD ⊢
  have hA : ∀ q : Nat, s.heap.size ≤ q → A q := fun q h => by rw [← hAe]; exact Or.inr h
  have hS : va_S A s.heap s.heap [] := va_S.rf
  have hl := lv_entry ([.ref h0]) (n := 2) (Nat.le_of_ble_eq_true rfl)
  rw [lg_entry_eq]
  generalize (lg_sl ([.ref h0]) ++ List.replicate (2 - (lg_sl ([.ref h0])).length) Slot.unset).toArray = ls at hl ⊢
  have hl : lv_has ls 2 [(0, .ref h0)] := hl
  refine lv_aload_n hx hb dc_SB_run_0 rfl (lv_at hl 0 rfl) ?_
  refine va_get (D := (dC, dI)) (ci := 0) (v := .int 0) (C := "StrataBase") (T := tb_SB) (N := 13) hx hb hT in_SB hown hK hP 0 rfl rfl 11 (by decide) (hT _ wd_528) (fun _ h9 => h9) rfl dc_SB_run_1 ?_
  refine lv_if_ne (tgt := 99) hx hb dc_SB_run_4 (by decide) (fun h9 => absurd (by decide) h9) (fun _ => ?_)
  refine lv_aload_n hx hb dc_SB_run_7 rfl (lv_at hl 0 rfl) ?_
  refine va_get (D := (dC, dI)) (ci := 0) (v := .int 0) (C := "StrataBase") (T := tb_SB) (N := 13) hx hb hT in_SB hown hK hP 0 rfl rfl 12 (by decide) (hT _ wd_529) (fun _ h9 => h9) rfl dc_SB_run_8 ?_
  refine lv_if_ne (tgt := 99) hx hb dc_SB_run_11 (by decide) (fun h9 => absurd (by decide) h9) (fun _ => ?_)
  refine lv_aload_n hx hb dc_SB_run_14 rfl (lv_at hl 0 rfl) ?_
  refine va_get (D := (dC, dI)) (ci := 0) (v := .ref q58) (C := "StrataBase") (T := tb_SB) (N := 13) hx hb hT in_SB hown hK hP 0 rfl rfl 7 (by decide) (hT _ wd_524) (fun _ h9 => h9) rfl dc_SB_run_15 ?_
  have hPc := hP.sub (ws' := [(q58, .inr (3, [.int 0, .int 0, .int 0, .ref u94, .ref u95, .ref u83, .ref u96, .ref u97, .ref u82, .ref u84, .ref u85, .ref u86, .ref u87, .int 0])), (u83, .inl (k89, 64, .inl (fun _ => 0))), (u82, .inl (k88, 32768, .inl (fun _ => 0))), (u84, .inl (k90, 64, .inl (fun _ => 0))), (u85, .inl (k91, 64, .inl (fun _ => 0))), (u86, .inl (k92, 64, .inl (fun _ => 0))), (u87, .inl (k93, 64, .inl (fun _ => 0)))]) [2, 4, 3, 5, 6, 7, 8] rfl
  have hDc := hD.sub (ws' := [(q58, .inr (3, [.int 0, .int 0, .int 0, .ref u94, .ref u95, .ref u83, .ref u96, .ref u97, .ref u82, .ref u84, .ref u85, .ref u86, .ref u87, .int 0])), (u83, .inl (k89, 64, .inl (fun _ => 0))), (u82, .inl (k88, 32768, .inl (fun _ => 0))), (u84, .inl (k90, 64, .inl (fun _ => 0))), (u85, .inl (k91, 64, .inl (fun _ => 0))), (u86, .inl (k92, 64, .inl (fun _ => 0))), (u87, .inl (k93, 64, .inl (fun _ => 0)))]) [2, 4, 3, 5, 6, 7, 8] (by decide) rfl
  have hKc := hK.sub (tys' := [(k89, .int), (k88, .int), (k90, .int), (k91, .int), (k92, .int), (k93, .int)]) [1, 0, 2, 3, 4, 5] rfl
  have hFc := va_free (wc := [(q58, .inr (3, [.int 0, .int 0, .int 0, .ref u94, .ref u95, .ref u83, .ref u96, .ref u97, .ref u82, .ref u84, .ref u85, .ref u86, .ref u87, .int 0])), (u83, .inl (k89, 64, .inl (fun _ => 0))), (u82, .inl (k88, 32768, .inl (fun _ => 0))), (u84, .inl (k90, 64, .inl (fun _ => 0))), (u85, .inl (k91, 64, .inl (fun _ => 0))), (u86, .inl (k92, 64, .inl (fun _ => 0))), (u87, .inl (k93, 64, .inl (fun _ => 0)))]) hD hS hA [2, 4, 3, 5, 6, 7, 8] rfl
  refine va_callv (va_runV (As := []) (rest := []) ⟨hx, hb, hml, hown, hT⟩ (c_Fa_clear_1 l dC dI q58 u94 u95 u83 u96 u97 u82 u84 u85 u86 u87 k89 k88 k90 k91 k92 k93 s.heap.size) (cwV 0 hT (gd_V wd_1020 wd_1021 wd_1022 wd_8 wd_1023) rfl rfl rfl (by decide +kernel) ⟨Nat.le_of_ble_eq_true rfl, Nat.le_of_ble_eq_true rfl⟩) ⟨fun a U g mk q => by obtain ⟨q0, q1, qP, qK, qD⟩ := q; exact ⟨q0, q1, qP, va_K.moved (u := U) (U := U.calling g mk a) (Vm.Alike.refl U.vm) qK, qD⟩, va_recv hK hP (q0 := 2) (ci := 3) rfl rfl, fun U hU hW => ⟨rfl, by rw [hU], by rw [hU]; exact hPc, va_K.moved hW.alike hKc, hDc.weaken (fun _ _ _ _ => trivial)⟩⟩ rfl rfl hl.1 rfl (lv_room (Nat.le_of_ble_eq_true rfl)) dc_SB_run_18 ⟨(Nat.le_of_ble_eq_true rfl), (Nat.le_of_ble_eq_true rfl)⟩) hS (fun q _ h => hFc q h) hFc (fun _ t H1 locs ht hvm hr9 hB hz1 hk1 hS => ?_)
  obtain ⟨u7, u9, u10, u11, hP1, hK1, hD1⟩ := hB
  rw [ht] at hP1
  have hK1 := va_K.moved hvm.symm hK1
  obtain ⟨hP, hD⟩ := va_join (wr := [(h0, .inr (0, [.ref q7, .int 0, .int 0, .ref q13, .ref q24, .ref q35, .ref q47, .ref q58, .ref q69, .ref q84, .ref q95, .int 0, .int 0])), (q13, .inr (7, [.ref u2, .ref u3, .ref u4, .ref u5, .ref u6, .int 0, .ref u8])), (q69, .inr (5, [.ref u100, .ref q58, .ref u99, .ref u101, .int 0, .null, .int 0, .null, .int 0, .int 0, .int 0])), (u99, .inr (4, [.int 0, .ref u102, .ref u103, .ref u104, .ref u105, .ref u106, .ref u107, .ref u108, .int 0]))]) (w1 := [(q58, .inr (3, [.int 0, .int 0, .int 0, .ref u94, .ref u95, .ref u83, .ref u96, .ref u97, .ref u82, .ref u84, .ref u85, .ref u86, .ref u87, .int 0])), (u82, .inl (k88, 32768, .inl (fun _ => 0))), (u83, .inl (k89, 64, .inl (fun _ => 0))), (u84, .inl (k90, 64, .inl u7)), (u85, .inl (k91, 64, .inl u9)), (u86, .inl (k92, 64, .inl u10)), (u87, .inl (k93, 64, .inl u11))]) hP hD [2, 4, 3, 5, 6, 7, 8] [0, 1, 9, 10] rfl rfl (by decide) (by decide) hk1 hFc hP1 hD1
  have hK := (hK.sub (tys' := []) [] rfl).app hK1
  generalize H1 = H at hP hS ⊢
  have hP : va_P (dC, dI) vwCl [(h0, .inr (0, [.ref q7, .int 0, .int 0, .ref q13, .ref q24, .ref q35, .ref q47, .ref q58, .ref q69, .ref q84, .ref q95, .int 0, .int 0])), (q13, .inr (7, [.ref u2, .ref u3, .ref u4, .ref u5, .ref u6, .int 0, .ref u8])), (q69, .inr (5, [.ref u100, .ref q58, .ref u99, .ref u101, .int 0, .null, .int 0, .null, .int 0, .int 0, .int 0])), (u99, .inr (4, [.int 0, .ref u102, .ref u103, .ref u104, .ref u105, .ref u106, .ref u107, .ref u108, .int 0])), (q58, .inr (3, [.int 0, .int 0, .int 0, .ref u94, .ref u95, .ref u83, .ref u96, .ref u97, .ref u82, .ref u84, .ref u85, .ref u86, .ref u87, .int 0])), (u82, .inl (k88, 32768, .inl (fun _ => 0))), (u83, .inl (k89, 64, .inl (fun _ => 0))), (u84, .inl (k90, 64, .inl u7)), (u85, .inl (k91, 64, .inl u9)), (u86, .inl (k92, 64, .inl u10)), (u87, .inl (k93, 64, .inl u11))] H := hP
  have hD : va_D A [(h0, .inr (0, [.ref q7, .int 0, .int 0, .ref q13, .ref q24, .ref q35, .ref q47, .ref q58, .ref q69, .ref q84, .ref q95, .int 0, .int 0])), (q13, .inr (7, [.ref u2, .ref u3, .ref u4, .ref u5, .ref u6, .int 0, .ref u8])), (q69, .inr (5, [.ref u100, .ref q58, .ref u99, .ref u101, .int 0, .null, .int 0, .null, .int 0, .int 0, .int 0])), (u99, .inr (4, [.int 0, .ref u102, .ref u103, .ref u104, .ref u105, .ref u106, .ref u107, .ref u108, .int 0])), (q58, .inr (3, [.int 0, .int 0, .int 0, .ref u94, .ref u95, .ref u83, .ref u96, .ref u97, .ref u82, .ref u84, .ref u85, .ref u86, .ref u87, .int 0])), (u82, .inl (k88, 32768, .inl (fun _ => 0))), (u83, .inl (k89, 64, .inl (fun _ => 0))), (u84, .inl (k90, 64, .inl u7)), (u85, .inl (k91, 64, .inl u9)), (u86, .inl (k92, 64, .inl u10)), (u87, .inl (k93, 64, .inl u11))] := hD
  have hK : va_K (dC, dI) vwCl [(k88, .int), (k89, .int), (k90, .int), (k91, .int), (k92, .int), (k93, .int)] s := hK
  refine lv_aload_n hx hb dc_SB_run_21 rfl (lv_at hl 0 rfl) ?_
  refine va_get (D := (dC, dI)) (ci := 0) (v := .ref q69) (C := "StrataBase") (T := tb_SB) (N := 13) hx hb hT in_SB hown hK hP 0 rfl rfl 8 (by decide) (hT _ wd_525) (fun _ h9 => h9) rfl dc_SB_run_22 ?_
  have hPc := hP.sub (ws' := [(q69, .inr (5, [.ref u100, .ref q58, .ref u99, .ref u101, .int 0, .null, .int 0, .null, .int 0, .int 0, .int 0])), (u99, .inr (4, [.int 0, .ref u102, .ref u103, .ref u104, .ref u105, .ref u106, .ref u107, .ref u108, .int 0]))]) [2, 3] rfl
  have hDc := hD.sub (ws' := [(q69, .inr (5, [.ref u100, .ref q58, .ref u99, .ref u101, .int 0, .null, .int 0, .null, .int 0, .int 0, .int 0])), (u99, .inr (4, [.int 0, .ref u102, .ref u103, .ref u104, .ref u105, .ref u106, .ref u107, .ref u108, .int 0]))]) [2, 3] (by decide) rfl
  have hKc := hK.sub (tys' := []) [] rfl
  have hFc := va_free (wc := [(q69, .inr (5, [.ref u100, .ref q58, .ref u99, .ref u101, .int 0, .null, .int 0, .null, .int 0, .int 0, .int 0])), (u99, .inr (4, [.int 0, .ref u102, .ref u103, .ref u104, .ref u105, .ref u106, .ref u107, .ref u108, .int 0]))]) hD hS hA [2, 3] rfl
  refine va_callv (va_runV (As := []) (rest := []) ⟨hx, hb, hml, hown, hT⟩ (c_Jo_forgetIndexes_1 l dC dI q69 u100 q58 u99 u101 u102 u103 u104 u105 u106 u107 u108 H.size) (cwV 0 hT (gd_V wd_1025 wd_1026 wd_1027 wd_9 wd_1028) rfl rfl rfl (by decide +kernel) ⟨Nat.le_of_ble_eq_true rfl, Nat.le_of_ble_eq_true rfl⟩) ⟨fun a U g mk q => by obtain ⟨q0, q1, qP, qK, qD⟩ := q; exact ⟨q0, q1, qP, va_K.moved (u := U) (U := U.calling g mk a) (Vm.Alike.refl U.vm) qK, qD⟩, va_recv hK hP (q0 := 2) (ci := 5) rfl rfl, fun U hU hW => ⟨rfl, by rw [hU], by rw [hU]; exact hPc, va_K.moved hW.alike hKc, hDc.weaken (fun _ _ _ _ => trivial)⟩⟩ rfl rfl hl.1 rfl (lv_room (Nat.le_of_ble_eq_true rfl)) dc_SB_run_25 ⟨(Nat.le_of_ble_eq_true rfl), (Nat.le_of_ble_eq_true rfl)⟩) hS (fun q _ h => hFc q h) hFc (fun _ t H1 locs ht hvm hr9 hB hz1 hk1 hS => ?_)
  obtain ⟨hP1, hK1, hD1⟩ := hB
  rw [ht] at hP1
  have hK1 := va_K.moved hvm.symm hK1
  obtain ⟨hP, hD⟩ := va_join (wr := [(h0, .inr (0, [.ref q7, .int 0, .int 0, .ref q13, .ref q24, .ref q35, .ref q47, .ref q58, .ref q69, .ref q84, .ref q95, .int 0, .int 0])), (q13, .inr (7, [.ref u2, .ref u3, .ref u4, .ref u5, .ref u6, .int 0, .ref u8])), (q58, .inr (3, [.int 0, .int 0, .int 0, .ref u94, .ref u95, .ref u83, .ref u96, .ref u97, .ref u82, .ref u84, .ref u85, .ref u86, .ref u87, .int 0])), (u82, .inl (k88, 32768, .inl (fun _ => 0))), (u83, .inl (k89, 64, .inl (fun _ => 0))), (u84, .inl (k90, 64, .inl u7)), (u85, .inl (k91, 64, .inl u9)), (u86, .inl (k92, 64, .inl u10)), (u87, .inl (k93, 64, .inl u11))]) (w1 := [(q69, .inr (5, [.ref u100, .ref q58, .ref u99, .ref u101, .int 0, .null, .int 0, .null, .int 0, .int 0, .int 0])), (u99, .inr (4, [.int 0, .ref u102, .ref u103, .ref u104, .ref u105, .ref u106, .ref u107, .ref u108, .int 0]))]) hP hD [2, 3] [0, 1, 4, 5, 6, 7, 8, 9, 10] rfl rfl (by decide) (by decide) hk1 hFc hP1 hD1
  have hK := (hK.sub (tys' := [(k88, .int), (k89, .int), (k90, .int), (k91, .int), (k92, .int), (k93, .int)]) [0, 1, 2, 3, 4, 5] rfl).app hK1
  generalize H1 = H at hP hS ⊢
  have hP : va_P (dC, dI) vwCl [(h0, .inr (0, [.ref q7, .int 0, .int 0, .ref q13, .ref q24, .ref q35, .ref q47, .ref q58, .ref q69, .ref q84, .ref q95, .int 0, .int 0])), (q13, .inr (7, [.ref u2, .ref u3, .ref u4, .ref u5, .ref u6, .int 0, .ref u8])), (q58, .inr (3, [.int 0, .int 0, .int 0, .ref u94, .ref u95, .ref u83, .ref u96, .ref u97, .ref u82, .ref u84, .ref u85, .ref u86, .ref u87, .int 0])), (u82, .inl (k88, 32768, .inl (fun _ => 0))), (u83, .inl (k89, 64, .inl (fun _ => 0))), (u84, .inl (k90, 64, .inl u7)), (u85, .inl (k91, 64, .inl u9)), (u86, .inl (k92, 64, .inl u10)), (u87, .inl (k93, 64, .inl u11)), (q69, .inr (5, [.ref u100, .ref q58, .ref u99, .ref u101, .int 0, .null, .int 0, .null, .int 0, .int 0, .int 0])), (u99, .inr (4, [.int 0, .ref u102, .ref u103, .ref u104, .ref u105, .ref u106, .ref u107, .ref u108, .int 0]))] H := hP
  have hD : va_D A [(h0, .inr (0, [.ref q7, .int 0, .int 0, .ref q13, .ref q24, .ref q35, .ref q47, .ref q58, .ref q69, .ref q84, .ref q95, .int 0, .int 0])), (q13, .inr (7, [.ref u2, .ref u3, .ref u4, .ref u5, .ref u6, .int 0, .ref u8])), (q58, .inr (3, [.int 0, .int 0, .int 0, .ref u94, .ref u95, .ref u83, .ref u96, .ref u97, .ref u82, .ref u84, .ref u85, .ref u86, .ref u87, .int 0])), (u82, .inl (k88, 32768, .inl (fun _ => 0))), (u83, .inl (k89, 64, .inl (fun _ => 0))), (u84, .inl (k90, 64, .inl u7)), (u85, .inl (k91, 64, .inl u9)), (u86, .inl (k92, 64, .inl u10)), (u87, .inl (k93, 64, .inl u11)), (q69, .inr (5, [.ref u100, .ref q58, .ref u99, .ref u101, .int 0, .null, .int 0, .null, .int 0, .int 0, .int 0])), (u99, .inr (4, [.int 0, .ref u102, .ref u103, .ref u104, .ref u105, .ref u106, .ref u107, .ref u108, .int 0]))] := hD
  have hK : va_K (dC, dI) vwCl [(k88, .int), (k89, .int), (k90, .int), (k91, .int), (k92, .int), (k93, .int)] s := hK
  refine lv_iconst (v := 0) hx hb dc_SB_run_28 (by decide) ?_
  refine lv_istore_n (lv' := [(1, .int 0), (0, .ref h0)]) hx hb dc_SB_run_29 rfl hl (by decide) rfl (fun ls hl => ?_)
  refine lv_iload_n hx hb dc_SB_run_30 rfl (lv_at hl 0 rfl) ?_
  refine lv_aload_n hx hb dc_SB_run_31 rfl (lv_at hl 1 rfl) ?_
  refine va_get (D := (dC, dI)) (ci := 0) (v := .ref q13) (C := "StrataBase") (T := tb_SB) (N := 13) hx hb hT in_SB hown hK hP 0 rfl rfl 3 (by decide) (hT _ wd_520) (fun _ h9 => h9) rfl dc_SB_run_32 ?_
  refine va_get (D := (dC, dI)) (ci := 7) (v := .int 0) (C := "StrataBase$Program") (T := tb_Pr) (N := 7) hx hb hT in_Pr hown hK hP 1 rfl rfl 5 (by decide) (hT _ wd_160) (fun _ h9 => h9) rfl dc_SB_run_35 ?_
  refine lv_icmp_ge (tgt := 69) hx hb dc_SB_run_38 (by decide) (fun _ => ?_) (fun h9 => absurd (by decide) h9)
  refine lv_aload_n hx hb dc_SB_run_69 rfl (lv_at hl 1 rfl) ?_
  refine lv_aload_n hx hb dc_SB_run_70 rfl (lv_at hl 1 rfl) ?_
  refine va_get (D := (dC, dI)) (ci := 0) (v := .ref q58) (C := "StrataBase") (T := tb_SB) (N := 13) hx hb hT in_SB hown hK hP 0 rfl rfl 7 (by decide) (hT _ wd_524) (fun _ h9 => h9) rfl dc_SB_run_71 ?_
  refine va_get (D := (dC, dI)) (ci := 3) (v := .int 0) (C := "StrataBase$Facts") (T := tb_Fa) (N := 14) hx hb hT in_Fa hown hK hP 2 rfl rfl 2 (by decide) (hT _ wd_295) (fun _ h9 => h9) rfl dc_SB_run_74 ?_
  refine lv_if_ne (tgt := 84) hx hb dc_SB_run_77 (by decide) (fun h9 => absurd (by decide) h9) (fun _ => ?_)
  refine lv_iconst (v := 1) hx hb dc_SB_run_80 (by decide) ?_
  refine lv_goto (tgt := 85) hx hb dc_SB_run_81 (by decide) ?_
  refine va_put (D := (dC, dI)) (ci := 0) (v := .int 1) (ty := .boolean) (C := "StrataBase") (T := tb_SB) (N := 13) hx hb hT in_SB ty_SB tk_SB nm_SB hown hK hP hD hS 0 rfl rfl 11 (by decide) (hT _ wd_528) (fun _ h9 => h9) rfl (by decide +kernel) (by decide) (by decide) (Nat.le_of_ble_eq_true rfl) dc_SB_run_85 (fun H locs hP hD hS => ?_)
  have hP : va_P (dC, dI) vwCl [(h0, .inr (0, [.ref q7, .int 0, .int 0, .ref q13, .ref q24, .ref q35, .ref q47, .ref q58, .ref q69, .ref q84, .ref q95, .int 1, .int 0])), (q13, .inr (7, [.ref u2, .ref u3, .ref u4, .ref u5, .ref u6, .int 0, .ref u8])), (q58, .inr (3, [.int 0, .int 0, .int 0, .ref u94, .ref u95, .ref u83, .ref u96, .ref u97, .ref u82, .ref u84, .ref u85, .ref u86, .ref u87, .int 0])), (u82, .inl (k88, 32768, .inl (fun _ => 0))), (u83, .inl (k89, 64, .inl (fun _ => 0))), (u84, .inl (k90, 64, .inl u7)), (u85, .inl (k91, 64, .inl u9)), (u86, .inl (k92, 64, .inl u10)), (u87, .inl (k93, 64, .inl u11)), (q69, .inr (5, [.ref u100, .ref q58, .ref u99, .ref u101, .int 0, .null, .int 0, .null, .int 0, .int 0, .int 0])), (u99, .inr (4, [.int 0, .ref u102, .ref u103, .ref u104, .ref u105, .ref u106, .ref u107, .ref u108, .int 0]))] H := hP
  have hD : va_D A [(h0, .inr (0, [.ref q7, .int 0, .int 0, .ref q13, .ref q24, .ref q35, .ref q47, .ref q58, .ref q69, .ref q84, .ref q95, .int 1, .int 0])), (q13, .inr (7, [.ref u2, .ref u3, .ref u4, .ref u5, .ref u6, .int 0, .ref u8])), (q58, .inr (3, [.int 0, .int 0, .int 0, .ref u94, .ref u95, .ref u83, .ref u96, .ref u97, .ref u82, .ref u84, .ref u85, .ref u86, .ref u87, .int 0])), (u82, .inl (k88, 32768, .inl (fun _ => 0))), (u83, .inl (k89, 64, .inl (fun _ => 0))), (u84, .inl (k90, 64, .inl u7)), (u85, .inl (k91, 64, .inl u9)), (u86, .inl (k92, 64, .inl u10)), (u87, .inl (k93, 64, .inl u11)), (q69, .inr (5, [.ref u100, .ref q58, .ref u99, .ref u101, .int 0, .null, .int 0, .null, .int 0, .int 0, .int 0])), (u99, .inr (4, [.int 0, .ref u102, .ref u103, .ref u104, .ref u105, .ref u106, .ref u107, .ref u108, .int 0]))] := hD
  refine lv_aload_n hx hb dc_SB_run_88 rfl (lv_at hl 1 rfl) ?_
  refine lv_aload_n hx hb dc_SB_run_89 rfl (lv_at hl 1 rfl) ?_
  refine va_get (D := (dC, dI)) (ci := 0) (v := .ref q58) (C := "StrataBase") (T := tb_SB) (N := 13) hx hb hT in_SB hown hK hP 0 rfl rfl 7 (by decide) (hT _ wd_524) (fun _ h9 => h9) rfl dc_SB_run_90 ?_
  refine va_get (D := (dC, dI)) (ci := 3) (v := .int 0) (C := "StrataBase$Facts") (T := tb_Fa) (N := 14) hx hb hT in_Fa hown hK hP 2 rfl rfl 2 (by decide) (hT _ wd_295) (fun _ h9 => h9) rfl dc_SB_run_93 ?_
  refine va_put (D := (dC, dI)) (ci := 0) (v := .int 0) (ty := .boolean) (C := "StrataBase") (T := tb_SB) (N := 13) hx hb hT in_SB ty_SB tk_SB nm_SB hown hK hP hD hS 0 rfl rfl 12 (by decide) (hT _ wd_529) (fun _ h9 => h9) rfl (by decide +kernel) (by decide) (by decide) (Nat.le_of_ble_eq_true rfl) dc_SB_run_96 (fun H locs hP hD hS => ?_)
  have hP : va_P (dC, dI) vwCl [(h0, .inr (0, [.ref q7, .int 0, .int 0, .ref q13, .ref q24, .ref q35, .ref q47, .ref q58, .ref q69, .ref q84, .ref q95, .int 1, .int 0])), (q13, .inr (7, [.ref u2, .ref u3, .ref u4, .ref u5, .ref u6, .int 0, .ref u8])), (q58, .inr (3, [.int 0, .int 0, .int 0, .ref u94, .ref u95, .ref u83, .ref u96, .ref u97, .ref u82, .ref u84, .ref u85, .ref u86, .ref u87, .int 0])), (u82, .inl (k88, 32768, .inl (fun _ => 0))), (u83, .inl (k89, 64, .inl (fun _ => 0))), (u84, .inl (k90, 64, .inl u7)), (u85, .inl (k91, 64, .inl u9)), (u86, .inl (k92, 64, .inl u10)), (u87, .inl (k93, 64, .inl u11)), (q69, .inr (5, [.ref u100, .ref q58, .ref u99, .ref u101, .int 0, .null, .int 0, .null, .int 0, .int 0, .int 0])), (u99, .inr (4, [.int 0, .ref u102, .ref u103, .ref u104, .ref u105, .ref u106, .ref u107, .ref u108, .int 0]))] H := hP
  have hD : va_D A [(h0, .inr (0, [.ref q7, .int 0, .int 0, .ref q13, .ref q24, .ref q35, .ref q47, .ref q58, .ref q69, .ref q84, .ref q95, .int 1, .int 0])), (q13, .inr (7, [.ref u2, .ref u3, .ref u4, .ref u5, .ref u6, .int 0, .ref u8])), (q58, .inr (3, [.int 0, .int 0, .int 0, .ref u94, .ref u95, .ref u83, .ref u96, .ref u97, .ref u82, .ref u84, .ref u85, .ref u86, .ref u87, .int 0])), (u82, .inl (k88, 32768, .inl (fun _ => 0))), (u83, .inl (k89, 64, .inl (fun _ => 0))), (u84, .inl (k90, 64, .inl u7)), (u85, .inl (k91, 64, .inl u9)), (u86, .inl (k92, 64, .inl u10)), (u87, .inl (k93, 64, .inl u11)), (q69, .inr (5, [.ref u100, .ref q58, .ref u99, .ref u101, .int 0, .null, .int 0, .null, .int 0, .int 0, .int 0])), (u99, .inr (4, [.int 0, .ref u102, .ref u103, .ref u104, .ref u105, .ref u106, .ref u107, .ref u108, .int 0]))] := hD
  refine lv_aload_n hx hb dc_SB_run_99 rfl (lv_at hl 1 rfl) ?_
  refine va_get (D := (dC, dI)) (ci := 0) (v := .int 0) (C := "StrataBase") (T := tb_SB) (N := 13) hx hb hT in_SB hown hK hP 0 rfl rfl 12 (by decide) (hT _ wd_529) (fun _ h9 => h9) rfl dc_SB_run_100 ?_
  refine lv_if_eq (tgt := 114) hx hb dc_SB_run_103 (by decide) (fun _ => ?_) (fun h9 => absurd (by decide) h9)
  refine lv_aload_n hx hb dc_SB_run_114 rfl (lv_at hl 1 rfl) ?_
  refine va_get (D := (dC, dI)) (ci := 0) (v := .ref q58) (C := "StrataBase") (T := tb_SB) (N := 13) hx hb hT in_SB hown hK hP 0 rfl rfl 7 (by decide) (hT _ wd_524) (fun _ h9 => h9) rfl dc_SB_run_115 ?_
  refine va_get (D := (dC, dI)) (ci := 3) (v := .int 0) (C := "StrataBase$Facts") (T := tb_Fa) (N := 14) hx hb hT in_Fa hown hK hP 2 rfl rfl 0 (by decide) (hT _ wd_291) (fun _ h9 => h9) rfl dc_SB_run_118 ?_
  have hP9 := hP.sub (ws' := [(h0, .inr (0, [.ref q7, .int 0, .int 0, .ref q13, .ref q24, .ref q35, .ref q47, .ref q58, .ref q69, .ref q84, .ref q95, .int 1, .int 0])), (q13, .inr (7, [.ref u2, .ref u3, .ref u4, .ref u5, .ref u6, .int 0, .ref u8])), (q58, .inr (3, [.int 0, .int 0, .int 0, .ref u94, .ref u95, .ref u83, .ref u96, .ref u97, .ref u82, .ref u84, .ref u85, .ref u86, .ref u87, .int 0])), (u82, .inl (k88, 32768, .inl (fun _ => 0))), (u83, .inl (k89, 64, .inl (fun _ => 0))), (u84, .inl (k90, 64, .inl u7)), (u85, .inl (k91, 64, .inl u9)), (u86, .inl (k92, 64, .inl u10)), (u87, .inl (k93, 64, .inl u11)), (q69, .inr (5, [.ref u100, .ref q58, .ref u99, .ref u101, .int 0, .null, .int 0, .null, .int 0, .int 0, .int 0])), (u99, .inr (4, [.int 0, .ref u102, .ref u103, .ref u104, .ref u105, .ref u106, .ref u107, .ref u108, .int 0]))]) [0, 1, 2, 3, 4, 5, 6, 7, 8, 9, 10] rfl
  have hD9 := hD.sub (ws' := [(h0, .inr (0, [.ref q7, .int 0, .int 0, .ref q13, .ref q24, .ref q35, .ref q47, .ref q58, .ref q69, .ref q84, .ref q95, .int 1, .int 0])), (q13, .inr (7, [.ref u2, .ref u3, .ref u4, .ref u5, .ref u6, .int 0, .ref u8])), (q58, .inr (3, [.int 0, .int 0, .int 0, .ref u94, .ref u95, .ref u83, .ref u96, .ref u97, .ref u82, .ref u84, .ref u85, .ref u86, .ref u87, .int 0])), (u82, .inl (k88, 32768, .inl (fun _ => 0))), (u83, .inl (k89, 64, .inl (fun _ => 0))), (u84, .inl (k90, 64, .inl u7)), (u85, .inl (k91, 64, .inl u9)), (u86, .inl (k92, 64, .inl u10)), (u87, .inl (k93, 64, .inl u11)), (q69, .inr (5, [.ref u100, .ref q58, .ref u99, .ref u101, .int 0, .null, .int 0, .null, .int 0, .int 0, .int 0])), (u99, .inr (4, [.int 0, .ref u102, .ref u103, .ref u104, .ref u105, .ref u106, .ref u107, .ref u108, .int 0]))]) [0, 1, 2, 3, 4, 5, 6, 7, 8, 9, 10] (by decide) rfl
  have hK9 := hK.sub (tys' := [(k88, .int), (k89, .int), (k90, .int), (k91, .int), (k92, .int), (k93, .int)]) [0, 1, 2, 3, 4, 5] rfl
  refine W.widen (k := 0) (n := 0) (Nat.le_of_ble_eq_true rfl) (Nat.le_of_ble_eq_true rfl) ?_
  exact W.iret (v := 0) hx hb hr (fun t ht hW => ⟨⟨0, (), rfl, rfl, u7, u9, u10, u11, by rw [ht]; exact hP9, va_K.moved hW.alike hK9, hD9⟩, hS.F ht⟩) hS.2.2 dc_SB_run_121

set_option maxHeartbeats 4000000 in
set_option maxRecDepth 100000 in
theorem c_Re_beginBody_2 (l : Launch) (dC : Nat → ClassId) (dI : Nat → Nat → Nat) (a1 : Nat) (a2 : Nat) (a3 : Nat) (a4 : Nat) (a5 : Nat) (a6 : Nat) (a7 : Nat) (a8 : Nat) (a9 : Nat) (a10 : Nat) (a11 : Nat) (a12 : Nat) (sz : Nat) : Met l my_Re_beginBody (Cond.code my_Re_beginBody cd_Re_beginBody 1 none :: tblG) ({ frames := 1, cells := 0, slots := 0, locals := 20 }) (va_Pc [.ref a1] (fun U => U.heap.size = sz ∧ va_P (dC, dI) vwCl [(a1, .inr (8, [.int 0, .int 0, .ref a2, .int 0, .ref a3, .int 3, .int 0, .ref a4, .ref a5, .int 0, .int 0, .int 0, .int 0, .int 0, .int 0, .ref a6, .ref a7, .ref a8, .ref a9])), (a2, .inr (6, [.int 0, .ref a10, .ref a11, .ref a12, .int 0]))] U.heap ∧ va_K (dC, dI) vwCl [] U ∧ va_D (fun _ => True) [(a1, .inr (8, [.int 0, .int 0, .ref a2, .int 0, .ref a3, .int 3, .int 0, .ref a4, .ref a5, .int 0, .int 0, .int 0, .int 0, .int 0, .int 0, .ref a6, .ref a7, .ref a8, .ref a9])), (a2, .inr (6, [.int 0, .ref a10, .ref a11, .ref a12, .int 0]))])) (va_Qv (fun _ : Unit => True) (fun (_ : Unit) (t : State) => va_P (dC, dI) vwCl [(a1, .inr (8, [.int 0, .int 0, .ref a2, .int 0, .ref a3, .int 3, .int 0, .ref a4, .ref a5, .int 0, .int 0, .int 0, .int 0, .int 0, .int 0, .ref a6, .ref a7, .ref a8, .ref a9])), (a2, .inr (6, [.int 0, .ref a10, .ref a11, .ref a12, .int 0]))] t.heap ∧ va_K (dC, dI) vwCl [] t ∧ va_D (va_A [(a1, .inr (8, [.int 0, .int 0, .ref a2, .int 0, .ref a3, .int 3, .int 0, .ref a4, .ref a5, .int 0, .int 0, .int 0, .int 0, .int 0, .int 0, .ref a6, .ref a7, .ref a8, .ref a9])), (a2, .inr (6, [.int 0, .ref a10, .ref a11, .ref a12, .int 0]))] sz) [(a1, .inr (8, [.int 0, .int 0, .ref a2, .int 0, .ref a3, .int 3, .int 0, .ref a4, .ref a5, .int 0, .int 0, .int 0, .int 0, .int 0, .int 0, .ref a6, .ref a7, .ref a8, .ref a9])), (a2, .inr (6, [.int 0, .ref a10, .ref a11, .ref a12, .int 0]))]) (va_A [(a1, .inr (8, [.int 0, .int 0, .ref a2, .int 0, .ref a3, .int 3, .int 0, .ref a4, .ref a5, .int 0, .int 0, .int 0, .int 0, .int 0, .int 0, .ref a6, .ref a7, .ref a8, .ref a9])), (a2, .inr (6, [.int 0, .ref a10, .ref a11, .ref a12, .int 0]))] sz)) 0 0 (va_A [(a1, .inr (8, [.int 0, .int 0, .ref a2, .int 0, .ref a3, .int 3, .int 0, .ref a4, .ref a5, .int 0, .int 0, .int 0, .int 0, .int 0, .int 0, .ref a6, .ref a7, .ref a8, .ref a9])), (a2, .inr (6, [.int 0, .ref a10, .ref a11, .ref a12, .int 0]))] sz) := by
  refine Met.ofW (cc := cd_Re_beginBody) (maxL := 1) (ret := none) (by decide) rfl ?_
  intro p e s m args below meth c s₁ B hml hv
  obtain ⟨rfl, hsz, hP, hK, hD0⟩ := hv
  have hx := B.exec
  have hb := B.bytes
  have hr := B.returns
  have hT : ∀ w ∈ tblG, w.before _ s = true := fun w h => atoms_spec (ws := (Cond.code my_Re_beginBody cd_Re_beginBody 1 none :: tblG)) B.pre w (List.mem_cons_of_mem _ h)
  have hown : s.vm.findClass "StrataBase$Reader" = some m.cls := findClass_of_methodNamed B.named
  have hlocks := B.notSynchronized
  subst hsz
  have hD := hD0.self (sz := s.heap.size)
  generalize hAe : va_A [(a1, .inr (8, [.int 0, .int 0, .ref a2, .int 0, .ref a3, .int 3, .int 0, .ref a4, .ref a5, .int 0, .int 0, .int 0, .int 0, .int 0, .int 0, .ref a6, .ref a7, .ref a8, .ref a9])), (a2, .inr (6, [.int 0, .ref a10, .ref a11, .ref a12, .int 0]))] s.heap.size = A at hD ⊢
  have hA : ∀ q : Nat, s.heap.size ≤ q → A q := fun q h => by rw [← hAe]; exact Or.inr h
  have hS : va_S A s.heap s.heap [] := va_S.rf
  have hl := lv_entry ([.ref a1]) (n := 1) (Nat.le_of_ble_eq_true rfl)
  rw [lg_entry_eq]
  generalize (lg_sl ([.ref a1]) ++ List.replicate (1 - (lg_sl ([.ref a1])).length) Slot.unset).toArray = ls at hl ⊢
  have hl : lv_has ls 1 [(0, .ref a1)] := hl
  refine lv_aload_n hx hb dc_Re_beginBody_0 rfl (lv_at hl 0 rfl) ?_
  refine va_get (D := (dC, dI)) (ci := 8) (v := .ref a2) (C := "StrataBase$Reader") (T := tb_Re) (N := 19) hx hb hT in_Re hown hK hP 0 rfl rfl 2 (by decide) (hT _ wd_224) (fun _ h9 => h9) rfl dc_Re_beginBody_1 ?_
  have hPc := hP.sub (ws' := [(a2, .inr (6, [.int 0, .ref a10, .ref a11, .ref a12, .int 0]))]) [1] rfl
  have hDc := hD.sub (ws' := [(a2, .inr (6, [.int 0, .ref a10, .ref a11, .ref a12, .int 0]))]) [1] (by decide) rfl
  have hKc := hK.sub (tys' := []) [] rfl
  have hFc := va_free (wc := [(a2, .inr (6, [.int 0, .ref a10, .ref a11, .ref a12, .int 0]))]) hD hS hA [1] rfl
  refine va_callv (va_runV (As := []) (rest := []) ⟨hx, hb, hml, hown, hT⟩ (c_Na_clear_1 l dC dI a2 a10 a11 a12 s.heap.size) (cwV 0 hT (gd_V wd_577 wd_578 wd_579 wd_4 wd_580) rfl rfl rfl (by decide +kernel) ⟨Nat.le_of_ble_eq_true rfl, Nat.le_of_ble_eq_true rfl⟩) ⟨fun a U g mk q => by obtain ⟨q0, q1, qP, qK, qD⟩ := q; exact ⟨q0, q1, qP, va_K.moved (u := U) (U := U.calling g mk a) (Vm.Alike.refl U.vm) qK, qD⟩, va_recv hK hP (q0 := 1) (ci := 6) rfl rfl, fun U hU hW => ⟨rfl, by rw [hU], by rw [hU]; exact hPc, va_K.moved hW.alike hKc, hDc.weaken (fun _ _ _ _ => trivial)⟩⟩ rfl rfl hl.1 rfl (lv_room (Nat.le_of_ble_eq_true rfl)) dc_Re_beginBody_4 ⟨(Nat.le_of_ble_eq_true rfl), (Nat.le_of_ble_eq_true rfl)⟩) hS (fun q _ h => hFc q h) hFc (fun _ t H1 locs ht hvm hr9 hB hz1 hk1 hS => ?_)
  obtain ⟨hP1, hK1, hD1⟩ := hB
  rw [ht] at hP1
  have hK1 := va_K.moved hvm.symm hK1
  obtain ⟨hP, hD⟩ := va_join (wr := [(a1, .inr (8, [.int 0, .int 0, .ref a2, .int 0, .ref a3, .int 3, .int 0, .ref a4, .ref a5, .int 0, .int 0, .int 0, .int 0, .int 0, .int 0, .ref a6, .ref a7, .ref a8, .ref a9]))]) (w1 := [(a2, .inr (6, [.int 0, .ref a10, .ref a11, .ref a12, .int 0]))]) hP hD [1] [0] rfl rfl (by decide) (by decide) hk1 hFc hP1 hD1
  have hK := (hK.sub (tys' := []) [] rfl).app hK1
  generalize H1 = H at hP hS ⊢
  have hP : va_P (dC, dI) vwCl [(a1, .inr (8, [.int 0, .int 0, .ref a2, .int 0, .ref a3, .int 3, .int 0, .ref a4, .ref a5, .int 0, .int 0, .int 0, .int 0, .int 0, .int 0, .ref a6, .ref a7, .ref a8, .ref a9])), (a2, .inr (6, [.int 0, .ref a10, .ref a11, .ref a12, .int 0]))] H := hP
  have hD : va_D A [(a1, .inr (8, [.int 0, .int 0, .ref a2, .int 0, .ref a3, .int 3, .int 0, .ref a4, .ref a5, .int 0, .int 0, .int 0, .int 0, .int 0, .int 0, .ref a6, .ref a7, .ref a8, .ref a9])), (a2, .inr (6, [.int 0, .ref a10, .ref a11, .ref a12, .int 0]))] := hD
  have hK : va_K (dC, dI) vwCl [] s := hK
  refine lv_aload_n hx hb dc_Re_beginBody_7 rfl (lv_at hl 0 rfl) ?_
  refine lv_iconst (v := 0) hx hb dc_Re_beginBody_8 (by decide) ?_
  refine va_put (D := (dC, dI)) (ci := 8) (v := .int 0) (ty := .int) (C := "StrataBase$Reader") (T := tb_Re) (N := 19) hx hb hT in_Re ty_Re tk_Re nm_Re hown hK hP hD hS 0 rfl rfl 3 (by decide) (hT _ wd_227) (fun _ h9 => h9) rfl (by decide +kernel) rfl rfl (Nat.le_of_ble_eq_true rfl) dc_Re_beginBody_9 (fun H locs hP hD hS => ?_)
  have hP : va_P (dC, dI) vwCl [(a1, .inr (8, [.int 0, .int 0, .ref a2, .int 0, .ref a3, .int 3, .int 0, .ref a4, .ref a5, .int 0, .int 0, .int 0, .int 0, .int 0, .int 0, .ref a6, .ref a7, .ref a8, .ref a9])), (a2, .inr (6, [.int 0, .ref a10, .ref a11, .ref a12, .int 0]))] H := hP
  have hD : va_D A [(a1, .inr (8, [.int 0, .int 0, .ref a2, .int 0, .ref a3, .int 3, .int 0, .ref a4, .ref a5, .int 0, .int 0, .int 0, .int 0, .int 0, .int 0, .ref a6, .ref a7, .ref a8, .ref a9])), (a2, .inr (6, [.int 0, .ref a10, .ref a11, .ref a12, .int 0]))] := hD
  refine lv_aload_n hx hb dc_Re_beginBody_12 rfl (lv_at hl 0 rfl) ?_
  refine lv_iconst (v := 0) hx hb dc_Re_beginBody_13 (by decide) ?_
  refine va_put (D := (dC, dI)) (ci := 8) (v := .int 0) (ty := .int) (C := "StrataBase$Reader") (T := tb_Re) (N := 19) hx hb hT in_Re ty_Re tk_Re nm_Re hown hK hP hD hS 0 rfl rfl 14 (by decide) (hT _ wd_238) (fun _ h9 => h9) rfl (by decide +kernel) rfl rfl (Nat.le_of_ble_eq_true rfl) dc_Re_beginBody_14 (fun H locs hP hD hS => ?_)
  have hP : va_P (dC, dI) vwCl [(a1, .inr (8, [.int 0, .int 0, .ref a2, .int 0, .ref a3, .int 3, .int 0, .ref a4, .ref a5, .int 0, .int 0, .int 0, .int 0, .int 0, .int 0, .ref a6, .ref a7, .ref a8, .ref a9])), (a2, .inr (6, [.int 0, .ref a10, .ref a11, .ref a12, .int 0]))] H := hP
  have hD : va_D A [(a1, .inr (8, [.int 0, .int 0, .ref a2, .int 0, .ref a3, .int 3, .int 0, .ref a4, .ref a5, .int 0, .int 0, .int 0, .int 0, .int 0, .int 0, .ref a6, .ref a7, .ref a8, .ref a9])), (a2, .inr (6, [.int 0, .ref a10, .ref a11, .ref a12, .int 0]))] := hD
  refine lv_aload_n hx hb dc_Re_beginBody_17 rfl (lv_at hl 0 rfl) ?_
  refine lv_iconst (v := 0) hx hb dc_Re_beginBody_18 (by decide) ?_
  refine va_put (D := (dC, dI)) (ci := 8) (v := .int 0) (ty := .int) (C := "StrataBase$Reader") (T := tb_Re) (N := 19) hx hb hT in_Re ty_Re tk_Re nm_Re hown hK hP hD hS 0 rfl rfl 9 (by decide) (hT _ wd_233) (fun _ h9 => h9) rfl (by decide +kernel) rfl rfl (Nat.le_of_ble_eq_true rfl) dc_Re_beginBody_19 (fun H locs hP hD hS => ?_)
  have hP : va_P (dC, dI) vwCl [(a1, .inr (8, [.int 0, .int 0, .ref a2, .int 0, .ref a3, .int 3, .int 0, .ref a4, .ref a5, .int 0, .int 0, .int 0, .int 0, .int 0, .int 0, .ref a6, .ref a7, .ref a8, .ref a9])), (a2, .inr (6, [.int 0, .ref a10, .ref a11, .ref a12, .int 0]))] H := hP
  have hD : va_D A [(a1, .inr (8, [.int 0, .int 0, .ref a2, .int 0, .ref a3, .int 3, .int 0, .ref a4, .ref a5, .int 0, .int 0, .int 0, .int 0, .int 0, .int 0, .ref a6, .ref a7, .ref a8, .ref a9])), (a2, .inr (6, [.int 0, .ref a10, .ref a11, .ref a12, .int 0]))] := hD
  refine lv_aload_n hx hb dc_Re_beginBody_22 rfl (lv_at hl 0 rfl) ?_
  refine lv_iconst (v := 0) hx hb dc_Re_beginBody_23 (by decide) ?_
  refine va_put (D := (dC, dI)) (ci := 8) (v := .int 0) (ty := .boolean) (C := "StrataBase$Reader") (T := tb_Re) (N := 19) hx hb hT in_Re ty_Re tk_Re nm_Re hown hK hP hD hS 0 rfl rfl 10 (by decide) (hT _ wd_234) (fun _ h9 => h9) rfl (by decide +kernel) (by decide) (by decide) (Nat.le_of_ble_eq_true rfl) dc_Re_beginBody_24 (fun H locs hP hD hS => ?_)
  have hP : va_P (dC, dI) vwCl [(a1, .inr (8, [.int 0, .int 0, .ref a2, .int 0, .ref a3, .int 3, .int 0, .ref a4, .ref a5, .int 0, .int 0, .int 0, .int 0, .int 0, .int 0, .ref a6, .ref a7, .ref a8, .ref a9])), (a2, .inr (6, [.int 0, .ref a10, .ref a11, .ref a12, .int 0]))] H := hP
  have hD : va_D A [(a1, .inr (8, [.int 0, .int 0, .ref a2, .int 0, .ref a3, .int 3, .int 0, .ref a4, .ref a5, .int 0, .int 0, .int 0, .int 0, .int 0, .int 0, .ref a6, .ref a7, .ref a8, .ref a9])), (a2, .inr (6, [.int 0, .ref a10, .ref a11, .ref a12, .int 0]))] := hD
  have hP9 := hP.sub (ws' := [(a1, .inr (8, [.int 0, .int 0, .ref a2, .int 0, .ref a3, .int 3, .int 0, .ref a4, .ref a5, .int 0, .int 0, .int 0, .int 0, .int 0, .int 0, .ref a6, .ref a7, .ref a8, .ref a9])), (a2, .inr (6, [.int 0, .ref a10, .ref a11, .ref a12, .int 0]))]) [0, 1] rfl
  have hD9 := hD.sub (ws' := [(a1, .inr (8, [.int 0, .int 0, .ref a2, .int 0, .ref a3, .int 3, .int 0, .ref a4, .ref a5, .int 0, .int 0, .int 0, .int 0, .int 0, .int 0, .ref a6, .ref a7, .ref a8, .ref a9])), (a2, .inr (6, [.int 0, .ref a10, .ref a11, .ref a12, .int 0]))]) [0, 1] (by decide) rfl
  have hK9 := hK.sub (tys' := []) [] rfl
  refine W.widen (k := 0) (n := 0) (Nat.le_of_ble_eq_true rfl) (Nat.le_of_ble_eq_true rfl) ?_
  exact W.vret hx hb hr (fun t ht hW => ⟨⟨(), rfl, trivial, by rw [ht]; exact hP9, va_K.moved hW.alike hK9, hD9⟩, hS.F ht⟩) hS.2.2 dc_Re_beginBody_27

set_option maxHeartbeats 4000000 in
set_option maxRecDepth 100000 in
theorem c_Cl_open_1 (l : Launch) (dC : Nat → ClassId) (dI : Nat → Nat → Nat) (a1 : Nat) (a2 : Nat) (a3 : Nat) (a4 : Nat) (a5 : Nat) (a6 : Nat) (a7 : Nat) (a8 : Nat) (k1 : ClassId) (k2 : ClassId) (k3 : ClassId) (k4 : ClassId) (k5 : ClassId) (sz : Nat) : Met l my_Cl_open (Cond.code my_Cl_open cd_Cl_open 3 none :: tblG) ({ frames := 0, cells := 0, slots := 0, locals := 0 }) (va_Pc [.ref a1, .int 0, .int 0] (fun U => U.heap.size = sz ∧ va_P (dC, dI) vwCl [(a1, .inr (1, [.int 0, .ref a2, .ref a3, .ref a4, .ref a5, .ref a6, .ref a7, .ref a8, .int 0])), (a3, .inl (k1, 13, .inl (fun _ => 0))), (a4, .inl (k2, 13, .inl (fun _ => 0))), (a5, .inl (k3, 13, .inl (fun _ => 0))), (a6, .inl (k4, 13, .inl (fun _ => 0))), (a7, .inl (k5, 13, .inl (fun _ => 0)))] U.heap ∧ va_K (dC, dI) vwCl [(k1, .int), (k2, .int), (k3, .int), (k4, .int), (k5, .int)] U ∧ va_D (fun _ => True) [(a1, .inr (1, [.int 0, .ref a2, .ref a3, .ref a4, .ref a5, .ref a6, .ref a7, .ref a8, .int 0])), (a3, .inl (k1, 13, .inl (fun _ => 0))), (a4, .inl (k2, 13, .inl (fun _ => 0))), (a5, .inl (k3, 13, .inl (fun _ => 0))), (a6, .inl (k4, 13, .inl (fun _ => 0))), (a7, .inl (k5, 13, .inl (fun _ => 0)))])) (va_Qv (fun _ : Unit => True) (fun (_ : Unit) (t : State) => ∃ (g1 : Nat → Int32), va_P (dC, dI) vwCl [(a1, .inr (1, [.int 0, .ref a2, .ref a3, .ref a4, .ref a5, .ref a6, .ref a7, .ref a8, .int 1])), (a3, .inl (k1, 13, .inl (fun _ => 0))), (a4, .inl (k2, 13, .inl g1)), (a5, .inl (k3, 13, .inl (fun _ => 0))), (a6, .inl (k4, 13, .inl (fun _ => 0))), (a7, .inl (k5, 13, .inl (fun _ => 0)))] t.heap ∧ va_K (dC, dI) vwCl [(k1, .int), (k2, .int), (k3, .int), (k4, .int), (k5, .int)] t ∧ va_D (va_A [(a1, .inr (1, [.int 0, .ref a2, .ref a3, .ref a4, .ref a5, .ref a6, .ref a7, .ref a8, .int 0])), (a3, .inl (k1, 13, .inl (fun _ => 0))), (a4, .inl (k2, 13, .inl (fun _ => 0))), (a5, .inl (k3, 13, .inl (fun _ => 0))), (a6, .inl (k4, 13, .inl (fun _ => 0))), (a7, .inl (k5, 13, .inl (fun _ => 0)))] sz) [(a1, .inr (1, [.int 0, .ref a2, .ref a3, .ref a4, .ref a5, .ref a6, .ref a7, .ref a8, .int 1])), (a3, .inl (k1, 13, .inl (fun _ => 0))), (a4, .inl (k2, 13, .inl g1)), (a5, .inl (k3, 13, .inl (fun _ => 0))), (a6, .inl (k4, 13, .inl (fun _ => 0))), (a7, .inl (k5, 13, .inl (fun _ => 0)))]) (va_A [(a1, .inr (1, [.int 0, .ref a2, .ref a3, .ref a4, .ref a5, .ref a6, .ref a7, .ref a8, .int 0])), (a3, .inl (k1, 13, .inl (fun _ => 0))), (a4, .inl (k2, 13, .inl (fun _ => 0))), (a5, .inl (k3, 13, .inl (fun _ => 0))), (a6, .inl (k4, 13, .inl (fun _ => 0))), (a7, .inl (k5, 13, .inl (fun _ => 0)))] sz)) 0 0 (va_A [(a1, .inr (1, [.int 0, .ref a2, .ref a3, .ref a4, .ref a5, .ref a6, .ref a7, .ref a8, .int 0])), (a3, .inl (k1, 13, .inl (fun _ => 0))), (a4, .inl (k2, 13, .inl (fun _ => 0))), (a5, .inl (k3, 13, .inl (fun _ => 0))), (a6, .inl (k4, 13, .inl (fun _ => 0))), (a7, .inl (k5, 13, .inl (fun _ => 0)))] sz) := by
  refine Met.ofW (cc := cd_Cl_open) (maxL := 3) (ret := none) (by decide) rfl ?_
  intro p e s m args below meth c s₁ B hml hv
  obtain ⟨rfl, hsz, hP, hK, hD0⟩ := hv
  have hx := B.exec
  have hb := B.bytes
  have hr := B.returns
  have hT : ∀ w ∈ tblG, w.before _ s = true := fun w h => atoms_spec (ws := (Cond.code my_Cl_open cd_Cl_open 3 none :: tblG)) B.pre w (List.mem_cons_of_mem _ h)
  have hown : s.vm.findClass "StrataBase$Clauses" = some m.cls := findClass_of_methodNamed B.named
  have hlocks := B.notSynchronized
  subst hsz
  have hD := hD0.self (sz := s.heap.size)
  generalize hAe : va_A [(a1, .inr (1, [.int 0, .ref a2, .ref a3, .ref a4, .ref a5, .ref a6, .ref a7, .ref a8, .int 0])), (a3, .inl (k1, 13, .inl (fun _ => 0))), (a4, .inl (k2, 13, .inl (fun _ => 0))), (a5, .inl (k3, 13, .inl (fun _ => 0))), (a6, .inl (k4, 13, .inl (fun _ => 0))), (a7, .inl (k5, 13, .inl (fun _ => 0)))] s.heap.size = A at hD ⊢
  have hA : ∀ q : Nat, s.heap.size ≤ q → A q := fun q h => by rw [← hAe]; exact Or.inr h
  have hS : va_S A s.heap s.heap [] := va_S.rf
  have hl := lv_entry ([.ref a1, .int 0, .int 0]) (n := 3) (Nat.le_of_ble_eq_true rfl)
  rw [lg_entry_eq]
  generalize (lg_sl ([.ref a1, .int 0, .int 0]) ++ List.replicate (3 - (lg_sl ([.ref a1, .int 0, .int 0])).length) Slot.unset).toArray = ls at hl ⊢
  have hl : lv_has ls 3 [(0, .ref a1), (1, .int 0), (2, .int 0)] := hl
  refine lv_aload_n hx hb dc_Cl_open_0 rfl (lv_at hl 0 rfl) ?_
  refine va_get (D := (dC, dI)) (ci := 1) (v := .ref a3) (C := "StrataBase$Clauses") (T := tb_Cl) (N := 9) hx hb hT in_Cl hown hK hP 0 rfl rfl 2 (by decide) (hT _ wd_54) (fun _ h9 => h9) rfl dc_Cl_open_1 ?_
  refine lv_aload_n hx hb dc_Cl_open_4 rfl (lv_at hl 0 rfl) ?_
  refine va_get (D := (dC, dI)) (ci := 1) (v := .int 0) (C := "StrataBase$Clauses") (T := tb_Cl) (N := 9) hx hb hT in_Cl hown hK hP 0 rfl rfl 8 (by decide) (hT _ wd_76) (fun _ h9 => h9) rfl dc_Cl_open_5 ?_
  refine lv_iload_n hx hb dc_Cl_open_8 rfl (lv_at hl 1 rfl) ?_
  refine va_iast hx hb hK hP hD hS 1 0 rfl rfl (show vp_in (0 : Int32) 13 from vp_in_nI (n := 0) (Nat.lt_of_lt_of_le (by decide : 0 < 1) (Nat.le_of_ble_eq_true rfl)) (Nat.lt_of_le_of_lt (Nat.le_of_ble_eq_true rfl) (by decide : 13 < 2 ^ 31))) dc_Cl_open_9 (fun H locs hP hD hS => ?_)
  rw [show upd (fun _ => 0) (0 : Int32).toNatClampNeg (0 : Int32) = (fun _ => 0) from uz_i _ _] at hP hD
  have hP : va_P (dC, dI) vwCl [(a1, .inr (1, [.int 0, .ref a2, .ref a3, .ref a4, .ref a5, .ref a6, .ref a7, .ref a8, .int 0])), (a3, .inl (k1, 13, .inl (fun _ => 0))), (a4, .inl (k2, 13, .inl (fun _ => 0))), (a5, .inl (k3, 13, .inl (fun _ => 0))), (a6, .inl (k4, 13, .inl (fun _ => 0))), (a7, .inl (k5, 13, .inl (fun _ => 0)))] H := hP
  have hD : va_D A [(a1, .inr (1, [.int 0, .ref a2, .ref a3, .ref a4, .ref a5, .ref a6, .ref a7, .ref a8, .int 0])), (a3, .inl (k1, 13, .inl (fun _ => 0))), (a4, .inl (k2, 13, .inl (fun _ => 0))), (a5, .inl (k3, 13, .inl (fun _ => 0))), (a6, .inl (k4, 13, .inl (fun _ => 0))), (a7, .inl (k5, 13, .inl (fun _ => 0)))] := hD
  refine lv_aload_n hx hb dc_Cl_open_10 rfl (lv_at hl 0 rfl) ?_
  refine va_get (D := (dC, dI)) (ci := 1) (v := .ref a5) (C := "StrataBase$Clauses") (T := tb_Cl) (N := 9) hx hb hT in_Cl hown hK hP 0 rfl rfl 4 (by decide) (hT _ wd_64) (fun _ h9 => h9) rfl dc_Cl_open_11 ?_
  refine lv_aload_n hx hb dc_Cl_open_14 rfl (lv_at hl 0 rfl) ?_
  refine va_get (D := (dC, dI)) (ci := 1) (v := .int 0) (C := "StrataBase$Clauses") (T := tb_Cl) (N := 9) hx hb hT in_Cl hown hK hP 0 rfl rfl 8 (by decide) (hT _ wd_76) (fun _ h9 => h9) rfl dc_Cl_open_15 ?_
  refine lv_iload_n hx hb dc_Cl_open_18 rfl (lv_at hl 2 rfl) ?_
  refine va_iast hx hb hK hP hD hS 3 2 rfl rfl (show vp_in (0 : Int32) 13 from vp_in_nI (n := 0) (Nat.lt_of_lt_of_le (by decide : 0 < 1) (Nat.le_of_ble_eq_true rfl)) (Nat.lt_of_le_of_lt (Nat.le_of_ble_eq_true rfl) (by decide : 13 < 2 ^ 31))) dc_Cl_open_19 (fun H locs hP hD hS => ?_)
  rw [show upd (fun _ => 0) (0 : Int32).toNatClampNeg (0 : Int32) = (fun _ => 0) from uz_i _ _] at hP hD
  have hP : va_P (dC, dI) vwCl [(a1, .inr (1, [.int 0, .ref a2, .ref a3, .ref a4, .ref a5, .ref a6, .ref a7, .ref a8, .int 0])), (a3, .inl (k1, 13, .inl (fun _ => 0))), (a4, .inl (k2, 13, .inl (fun _ => 0))), (a5, .inl (k3, 13, .inl (fun _ => 0))), (a6, .inl (k4, 13, .inl (fun _ => 0))), (a7, .inl (k5, 13, .inl (fun _ => 0)))] H := hP
  have hD : va_D A [(a1, .inr (1, [.int 0, .ref a2, .ref a3, .ref a4, .ref a5, .ref a6, .ref a7, .ref a8, .int 0])), (a3, .inl (k1, 13, .inl (fun _ => 0))), (a4, .inl (k2, 13, .inl (fun _ => 0))), (a5, .inl (k3, 13, .inl (fun _ => 0))), (a6, .inl (k4, 13, .inl (fun _ => 0))), (a7, .inl (k5, 13, .inl (fun _ => 0)))] := hD
  refine lv_aload_n hx hb dc_Cl_open_20 rfl (lv_at hl 0 rfl) ?_
  refine va_get (D := (dC, dI)) (ci := 1) (v := .ref a4) (C := "StrataBase$Clauses") (T := tb_Cl) (N := 9) hx hb hT in_Cl hown hK hP 0 rfl rfl 3 (by decide) (hT _ wd_58) (fun _ h9 => h9) rfl dc_Cl_open_21 ?_
  refine lv_aload_n hx hb dc_Cl_open_24 rfl (lv_at hl 0 rfl) ?_
  refine va_get (D := (dC, dI)) (ci := 1) (v := .int 0) (C := "StrataBase$Clauses") (T := tb_Cl) (N := 9) hx hb hT in_Cl hown hK hP 0 rfl rfl 8 (by decide) (hT _ wd_76) (fun _ h9 => h9) rfl dc_Cl_open_25 ?_
  refine lv_iconst (v := (-1)) hx hb dc_Cl_open_28 (by decide) ?_
  refine va_iast hx hb hK hP hD hS 2 1 rfl rfl (show vp_in (0 : Int32) 13 from vp_in_nI (n := 0) (Nat.lt_of_lt_of_le (by decide : 0 < 1) (Nat.le_of_ble_eq_true rfl)) (Nat.lt_of_le_of_lt (Nat.le_of_ble_eq_true rfl) (by decide : 13 < 2 ^ 31))) dc_Cl_open_29 (fun H locs hP hD hS => ?_)
  have hP : va_P (dC, dI) vwCl [(a1, .inr (1, [.int 0, .ref a2, .ref a3, .ref a4, .ref a5, .ref a6, .ref a7, .ref a8, .int 0])), (a3, .inl (k1, 13, .inl (fun _ => 0))), (a4, .inl (k2, 13, .inl (upd (fun _ => 0) (0 : Int32).toNatClampNeg ((-1) : Int32)))), (a5, .inl (k3, 13, .inl (fun _ => 0))), (a6, .inl (k4, 13, .inl (fun _ => 0))), (a7, .inl (k5, 13, .inl (fun _ => 0)))] H := hP
  have hD : va_D A [(a1, .inr (1, [.int 0, .ref a2, .ref a3, .ref a4, .ref a5, .ref a6, .ref a7, .ref a8, .int 0])), (a3, .inl (k1, 13, .inl (fun _ => 0))), (a4, .inl (k2, 13, .inl (upd (fun _ => 0) (0 : Int32).toNatClampNeg ((-1) : Int32)))), (a5, .inl (k3, 13, .inl (fun _ => 0))), (a6, .inl (k4, 13, .inl (fun _ => 0))), (a7, .inl (k5, 13, .inl (fun _ => 0)))] := hD
  generalize upd (fun _ => 0) (0 : Int32).toNatClampNeg ((-1) : Int32) = g1 at hP hD
  refine lv_aload_n hx hb dc_Cl_open_30 rfl (lv_at hl 0 rfl) ?_
  refine va_get (D := (dC, dI)) (ci := 1) (v := .ref a6) (C := "StrataBase$Clauses") (T := tb_Cl) (N := 9) hx hb hT in_Cl hown hK hP 0 rfl rfl 5 (by decide) (hT _ wd_66) (fun _ h9 => h9) rfl dc_Cl_open_31 ?_
  refine lv_aload_n hx hb dc_Cl_open_34 rfl (lv_at hl 0 rfl) ?_
  refine va_get (D := (dC, dI)) (ci := 1) (v := .int 0) (C := "StrataBase$Clauses") (T := tb_Cl) (N := 9) hx hb hT in_Cl hown hK hP 0 rfl rfl 8 (by decide) (hT _ wd_76) (fun _ h9 => h9) rfl dc_Cl_open_35 ?_
  refine lv_iconst (v := 0) hx hb dc_Cl_open_38 (by decide) ?_
  refine va_iast hx hb hK hP hD hS 4 3 rfl rfl (show vp_in (0 : Int32) 13 from vp_in_nI (n := 0) (Nat.lt_of_lt_of_le (by decide : 0 < 1) (Nat.le_of_ble_eq_true rfl)) (Nat.lt_of_le_of_lt (Nat.le_of_ble_eq_true rfl) (by decide : 13 < 2 ^ 31))) dc_Cl_open_39 (fun H locs hP hD hS => ?_)
  rw [show upd (fun _ => 0) (0 : Int32).toNatClampNeg (0 : Int32) = (fun _ => 0) from uz_i _ _] at hP hD
  have hP : va_P (dC, dI) vwCl [(a1, .inr (1, [.int 0, .ref a2, .ref a3, .ref a4, .ref a5, .ref a6, .ref a7, .ref a8, .int 0])), (a3, .inl (k1, 13, .inl (fun _ => 0))), (a4, .inl (k2, 13, .inl g1)), (a5, .inl (k3, 13, .inl (fun _ => 0))), (a6, .inl (k4, 13, .inl (fun _ => 0))), (a7, .inl (k5, 13, .inl (fun _ => 0)))] H := hP
  have hD : va_D A [(a1, .inr (1, [.int 0, .ref a2, .ref a3, .ref a4, .ref a5, .ref a6, .ref a7, .ref a8, .int 0])), (a3, .inl (k1, 13, .inl (fun _ => 0))), (a4, .inl (k2, 13, .inl g1)), (a5, .inl (k3, 13, .inl (fun _ => 0))), (a6, .inl (k4, 13, .inl (fun _ => 0))), (a7, .inl (k5, 13, .inl (fun _ => 0)))] := hD
  refine lv_aload_n hx hb dc_Cl_open_40 rfl (lv_at hl 0 rfl) ?_
  refine va_get (D := (dC, dI)) (ci := 1) (v := .ref a7) (C := "StrataBase$Clauses") (T := tb_Cl) (N := 9) hx hb hT in_Cl hown hK hP 0 rfl rfl 6 (by decide) (hT _ wd_71) (fun _ h9 => h9) rfl dc_Cl_open_41 ?_
  refine lv_aload_n hx hb dc_Cl_open_44 rfl (lv_at hl 0 rfl) ?_
  refine va_get (D := (dC, dI)) (ci := 1) (v := .int 0) (C := "StrataBase$Clauses") (T := tb_Cl) (N := 9) hx hb hT in_Cl hown hK hP 0 rfl rfl 8 (by decide) (hT _ wd_76) (fun _ h9 => h9) rfl dc_Cl_open_45 ?_
  refine lv_iconst (v := 0) hx hb dc_Cl_open_48 (by decide) ?_
  refine va_iast hx hb hK hP hD hS 5 4 rfl rfl (show vp_in (0 : Int32) 13 from vp_in_nI (n := 0) (Nat.lt_of_lt_of_le (by decide : 0 < 1) (Nat.le_of_ble_eq_true rfl)) (Nat.lt_of_le_of_lt (Nat.le_of_ble_eq_true rfl) (by decide : 13 < 2 ^ 31))) dc_Cl_open_49 (fun H locs hP hD hS => ?_)
  rw [show upd (fun _ => 0) (0 : Int32).toNatClampNeg (0 : Int32) = (fun _ => 0) from uz_i _ _] at hP hD
  have hP : va_P (dC, dI) vwCl [(a1, .inr (1, [.int 0, .ref a2, .ref a3, .ref a4, .ref a5, .ref a6, .ref a7, .ref a8, .int 0])), (a3, .inl (k1, 13, .inl (fun _ => 0))), (a4, .inl (k2, 13, .inl g1)), (a5, .inl (k3, 13, .inl (fun _ => 0))), (a6, .inl (k4, 13, .inl (fun _ => 0))), (a7, .inl (k5, 13, .inl (fun _ => 0)))] H := hP
  have hD : va_D A [(a1, .inr (1, [.int 0, .ref a2, .ref a3, .ref a4, .ref a5, .ref a6, .ref a7, .ref a8, .int 0])), (a3, .inl (k1, 13, .inl (fun _ => 0))), (a4, .inl (k2, 13, .inl g1)), (a5, .inl (k3, 13, .inl (fun _ => 0))), (a6, .inl (k4, 13, .inl (fun _ => 0))), (a7, .inl (k5, 13, .inl (fun _ => 0)))] := hD
  refine lv_aload_n hx hb dc_Cl_open_50 rfl (lv_at hl 0 rfl) ?_
  refine lv_dup hx hb dc_Cl_open_51 rfl ?_
  refine va_get (D := (dC, dI)) (ci := 1) (v := .int 0) (C := "StrataBase$Clauses") (T := tb_Cl) (N := 9) hx hb hT in_Cl hown hK hP 0 rfl rfl 8 (by decide) (hT _ wd_76) (fun _ h9 => h9) rfl dc_Cl_open_52 ?_
  refine lv_iconst (v := 1) hx hb dc_Cl_open_55 (by decide) ?_
  refine lv_iadd hx hb dc_Cl_open_56 ?_
  refine lv_topi (fun y2 e3 => ?_)
  obtain rfl : y2 = 1 := e3.trans (by decide)
  refine va_put (D := (dC, dI)) (ci := 1) (v := .int 1) (ty := .int) (C := "StrataBase$Clauses") (T := tb_Cl) (N := 9) hx hb hT in_Cl ty_Cl tk_Cl nm_Cl hown hK hP hD hS 0 rfl rfl 8 (by decide) (hT _ wd_76) (fun _ h9 => h9) rfl (by decide +kernel) rfl rfl (Nat.le_of_ble_eq_true rfl) dc_Cl_open_57 (fun H locs hP hD hS => ?_)
  have hP : va_P (dC, dI) vwCl [(a1, .inr (1, [.int 0, .ref a2, .ref a3, .ref a4, .ref a5, .ref a6, .ref a7, .ref a8, .int 1])), (a3, .inl (k1, 13, .inl (fun _ => 0))), (a4, .inl (k2, 13, .inl g1)), (a5, .inl (k3, 13, .inl (fun _ => 0))), (a6, .inl (k4, 13, .inl (fun _ => 0))), (a7, .inl (k5, 13, .inl (fun _ => 0)))] H := hP
  have hD : va_D A [(a1, .inr (1, [.int 0, .ref a2, .ref a3, .ref a4, .ref a5, .ref a6, .ref a7, .ref a8, .int 1])), (a3, .inl (k1, 13, .inl (fun _ => 0))), (a4, .inl (k2, 13, .inl g1)), (a5, .inl (k3, 13, .inl (fun _ => 0))), (a6, .inl (k4, 13, .inl (fun _ => 0))), (a7, .inl (k5, 13, .inl (fun _ => 0)))] := hD
  have hP9 := hP.sub (ws' := [(a1, .inr (1, [.int 0, .ref a2, .ref a3, .ref a4, .ref a5, .ref a6, .ref a7, .ref a8, .int 1])), (a3, .inl (k1, 13, .inl (fun _ => 0))), (a4, .inl (k2, 13, .inl g1)), (a5, .inl (k3, 13, .inl (fun _ => 0))), (a6, .inl (k4, 13, .inl (fun _ => 0))), (a7, .inl (k5, 13, .inl (fun _ => 0)))]) [0, 1, 2, 3, 4, 5] rfl
  have hD9 := hD.sub (ws' := [(a1, .inr (1, [.int 0, .ref a2, .ref a3, .ref a4, .ref a5, .ref a6, .ref a7, .ref a8, .int 1])), (a3, .inl (k1, 13, .inl (fun _ => 0))), (a4, .inl (k2, 13, .inl g1)), (a5, .inl (k3, 13, .inl (fun _ => 0))), (a6, .inl (k4, 13, .inl (fun _ => 0))), (a7, .inl (k5, 13, .inl (fun _ => 0)))]) [0, 1, 2, 3, 4, 5] (by decide) rfl
  have hK9 := hK.sub (tys' := [(k1, .int), (k2, .int), (k3, .int), (k4, .int), (k5, .int)]) [0, 1, 2, 3, 4] rfl
  refine W.widen (k := 0) (n := 0) (Nat.le_of_ble_eq_true rfl) (Nat.le_of_ble_eq_true rfl) ?_
  exact W.vret hx hb hr (fun t ht hW => ⟨⟨(), rfl, trivial, g1, by rw [ht]; exact hP9, va_K.moved hW.alike hK9, hD9⟩, hS.F ht⟩) hS.2.2 dc_Cl_open_60

set_option maxHeartbeats 4000000 in
set_option maxRecDepth 100000 in
theorem c_Re_begin_2 (l : Launch) (dC : Nat → ClassId) (dI : Nat → Nat → Nat) (a1 : Nat) (a2 : Nat) (a3 : Nat) (a4 : Nat) (a5 : Nat) (a6 : Nat) (a7 : Nat) (a8 : Nat) (a9 : Nat) (a10 : Nat) (a11 : Nat) (a12 : Nat) (a20 : Nat) (a21 : Nat) (a22 : Nat) (a23 : Nat) (a24 : Nat) (a25 : Nat) (a26 : Nat) (a27 : Nat) (a28 : Nat) (a29 : Nat) (k5 : ClassId) (k6 : ClassId) (k7 : ClassId) (k8 : ClassId) (k9 : ClassId) (sz : Nat) : Met l my_Re_begin (Cond.code my_Re_begin cd_Re_begin 1 none :: tblG) ({ frames := 2, cells := 0, slots := 0, locals := 40 }) (va_Pc [.ref a1] (fun U => U.heap.size = sz ∧ va_P (dC, dI) vwCl [(a1, .inr (8, [.int 0, .int 0, .ref a2, .int 0, .ref a3, .int 3, .int 0, .ref a4, .ref a5, .int 0, .int 0, .int 0, .int 0, .int 0, .int 0, .ref a6, .ref a7, .ref a8, .ref a9])), (a2, .inr (6, [.int 0, .ref a10, .ref a11, .ref a12, .int 0])), (a5, .inr (1, [.int 0, .ref a20, .ref a21, .ref a22, .ref a23, .ref a24, .ref a25, .ref a26, .int 0])), (a7, .inr (6, [.int 0, .ref a27, .ref a28, .ref a29, .int 0])), (a21, .inl (k5, 13, .inl (fun _ => 0))), (a22, .inl (k6, 13, .inl (fun _ => 0))), (a23, .inl (k7, 13, .inl (fun _ => 0))), (a24, .inl (k8, 13, .inl (fun _ => 0))), (a25, .inl (k9, 13, .inl (fun _ => 0)))] U.heap ∧ va_K (dC, dI) vwCl [(k5, .int), (k6, .int), (k7, .int), (k8, .int), (k9, .int)] U ∧ va_D (fun _ => True) [(a1, .inr (8, [.int 0, .int 0, .ref a2, .int 0, .ref a3, .int 3, .int 0, .ref a4, .ref a5, .int 0, .int 0, .int 0, .int 0, .int 0, .int 0, .ref a6, .ref a7, .ref a8, .ref a9])), (a2, .inr (6, [.int 0, .ref a10, .ref a11, .ref a12, .int 0])), (a5, .inr (1, [.int 0, .ref a20, .ref a21, .ref a22, .ref a23, .ref a24, .ref a25, .ref a26, .int 0])), (a7, .inr (6, [.int 0, .ref a27, .ref a28, .ref a29, .int 0])), (a21, .inl (k5, 13, .inl (fun _ => 0))), (a22, .inl (k6, 13, .inl (fun _ => 0))), (a23, .inl (k7, 13, .inl (fun _ => 0))), (a24, .inl (k8, 13, .inl (fun _ => 0))), (a25, .inl (k9, 13, .inl (fun _ => 0)))])) (va_Qv (fun _ : Unit => True) (fun (_ : Unit) (t : State) => ∃ (u5 : Nat → Int32), va_P (dC, dI) vwCl [(a7, .inr (6, [.int 0, .ref a27, .ref a28, .ref a29, .int 0])), (a1, .inr (8, [.int 0, .int 0, .ref a2, .int 0, .ref a3, .int 3, .int 1, .ref a4, .ref a5, .int 0, .int 0, .int 0, .int 0, .int 0, .int 0, .ref a6, .ref a7, .ref a8, .ref a9])), (a2, .inr (6, [.int 0, .ref a10, .ref a11, .ref a12, .int 0])), (a5, .inr (1, [.int 0, .ref a20, .ref a21, .ref a22, .ref a23, .ref a24, .ref a25, .ref a26, .int 1])), (a21, .inl (k5, 13, .inl (fun _ => 0))), (a22, .inl (k6, 13, .inl u5)), (a23, .inl (k7, 13, .inl (fun _ => 0))), (a24, .inl (k8, 13, .inl (fun _ => 0))), (a25, .inl (k9, 13, .inl (fun _ => 0)))] t.heap ∧ va_K (dC, dI) vwCl [(k5, .int), (k6, .int), (k7, .int), (k8, .int), (k9, .int)] t ∧ va_D (va_A [(a1, .inr (8, [.int 0, .int 0, .ref a2, .int 0, .ref a3, .int 3, .int 0, .ref a4, .ref a5, .int 0, .int 0, .int 0, .int 0, .int 0, .int 0, .ref a6, .ref a7, .ref a8, .ref a9])), (a2, .inr (6, [.int 0, .ref a10, .ref a11, .ref a12, .int 0])), (a5, .inr (1, [.int 0, .ref a20, .ref a21, .ref a22, .ref a23, .ref a24, .ref a25, .ref a26, .int 0])), (a7, .inr (6, [.int 0, .ref a27, .ref a28, .ref a29, .int 0])), (a21, .inl (k5, 13, .inl (fun _ => 0))), (a22, .inl (k6, 13, .inl (fun _ => 0))), (a23, .inl (k7, 13, .inl (fun _ => 0))), (a24, .inl (k8, 13, .inl (fun _ => 0))), (a25, .inl (k9, 13, .inl (fun _ => 0)))] sz) [(a7, .inr (6, [.int 0, .ref a27, .ref a28, .ref a29, .int 0])), (a1, .inr (8, [.int 0, .int 0, .ref a2, .int 0, .ref a3, .int 3, .int 1, .ref a4, .ref a5, .int 0, .int 0, .int 0, .int 0, .int 0, .int 0, .ref a6, .ref a7, .ref a8, .ref a9])), (a2, .inr (6, [.int 0, .ref a10, .ref a11, .ref a12, .int 0])), (a5, .inr (1, [.int 0, .ref a20, .ref a21, .ref a22, .ref a23, .ref a24, .ref a25, .ref a26, .int 1])), (a21, .inl (k5, 13, .inl (fun _ => 0))), (a22, .inl (k6, 13, .inl u5)), (a23, .inl (k7, 13, .inl (fun _ => 0))), (a24, .inl (k8, 13, .inl (fun _ => 0))), (a25, .inl (k9, 13, .inl (fun _ => 0)))]) (va_A [(a1, .inr (8, [.int 0, .int 0, .ref a2, .int 0, .ref a3, .int 3, .int 0, .ref a4, .ref a5, .int 0, .int 0, .int 0, .int 0, .int 0, .int 0, .ref a6, .ref a7, .ref a8, .ref a9])), (a2, .inr (6, [.int 0, .ref a10, .ref a11, .ref a12, .int 0])), (a5, .inr (1, [.int 0, .ref a20, .ref a21, .ref a22, .ref a23, .ref a24, .ref a25, .ref a26, .int 0])), (a7, .inr (6, [.int 0, .ref a27, .ref a28, .ref a29, .int 0])), (a21, .inl (k5, 13, .inl (fun _ => 0))), (a22, .inl (k6, 13, .inl (fun _ => 0))), (a23, .inl (k7, 13, .inl (fun _ => 0))), (a24, .inl (k8, 13, .inl (fun _ => 0))), (a25, .inl (k9, 13, .inl (fun _ => 0)))] sz)) 0 0 (va_A [(a1, .inr (8, [.int 0, .int 0, .ref a2, .int 0, .ref a3, .int 3, .int 0, .ref a4, .ref a5, .int 0, .int 0, .int 0, .int 0, .int 0, .int 0, .ref a6, .ref a7, .ref a8, .ref a9])), (a2, .inr (6, [.int 0, .ref a10, .ref a11, .ref a12, .int 0])), (a5, .inr (1, [.int 0, .ref a20, .ref a21, .ref a22, .ref a23, .ref a24, .ref a25, .ref a26, .int 0])), (a7, .inr (6, [.int 0, .ref a27, .ref a28, .ref a29, .int 0])), (a21, .inl (k5, 13, .inl (fun _ => 0))), (a22, .inl (k6, 13, .inl (fun _ => 0))), (a23, .inl (k7, 13, .inl (fun _ => 0))), (a24, .inl (k8, 13, .inl (fun _ => 0))), (a25, .inl (k9, 13, .inl (fun _ => 0)))] sz) := by
  refine Met.ofW (cc := cd_Re_begin) (maxL := 1) (ret := none) (by decide) rfl ?_
  intro p e s m args below meth c s₁ B hml hv
  obtain ⟨rfl, hsz, hP, hK, hD0⟩ := hv
  have hx := B.exec
  have hb := B.bytes
  have hr := B.returns
  have hT : ∀ w ∈ tblG, w.before _ s = true := fun w h => atoms_spec (ws := (Cond.code my_Re_begin cd_Re_begin 1 none :: tblG)) B.pre w (List.mem_cons_of_mem _ h)
  have hown : s.vm.findClass "StrataBase$Reader" = some m.cls := findClass_of_methodNamed B.named
  have hlocks := B.notSynchronized
  subst hsz
  have hD := hD0.self (sz := s.heap.size)
  generalize hAe : va_A [(a1, .inr (8, [.int 0, .int 0, .ref a2, .int 0, .ref a3, .int 3, .int 0, .ref a4, .ref a5, .int 0, .int 0, .int 0, .int 0, .int 0, .int 0, .ref a6, .ref a7, .ref a8, .ref a9])), (a2, .inr (6, [.int 0, .ref a10, .ref a11, .ref a12, .int 0])), (a5, .inr (1, [.int 0, .ref a20, .ref a21, .ref a22, .ref a23, .ref a24, .ref a25, .ref a26, .int 0])), (a7, .inr (6, [.int 0, .ref a27, .ref a28, .ref a29, .int 0])), (a21, .inl (k5, 13, .inl (fun _ => 0))), (a22, .inl (k6, 13, .inl (fun _ => 0))), (a23, .inl (k7, 13, .inl (fun _ => 0))), (a24, .inl (k8, 13, .inl (fun _ => 0))), (a25, .inl (k9, 13, .inl (fun _ => 0)))] s.heap.size = A at hD ⊢
  have hA : ∀ q : Nat, s.heap.size ≤ q → A q := fun q h => by rw [← hAe]; exact Or.inr h
  have hS : va_S A s.heap s.heap [] := va_S.rf
  have hl := lv_entry ([.ref a1]) (n := 1) (Nat.le_of_ble_eq_true rfl)
  rw [lg_entry_eq]
  generalize (lg_sl ([.ref a1]) ++ List.replicate (1 - (lg_sl ([.ref a1])).length) Slot.unset).toArray = ls at hl ⊢
  have hl : lv_has ls 1 [(0, .ref a1)] := hl
  refine lv_aload_n hx hb dc_Re_begin_0 rfl (lv_at hl 0 rfl) ?_
  refine lv_iconst (v := 0) hx hb dc_Re_begin_1 (by decide) ?_
  refine va_put (D := (dC, dI)) (ci := 8) (v := .int 0) (ty := .int) (C := "StrataBase$Reader") (T := tb_Re) (N := 19) hx hb hT in_Re ty_Re tk_Re nm_Re hown hK hP hD hS 0 rfl rfl 0 (by decide) (hT _ wd_220) (fun _ h9 => h9) rfl (by decide +kernel) rfl rfl (Nat.le_of_ble_eq_true rfl) dc_Re_begin_2 (fun H locs hP hD hS => ?_)
  have hP : va_P (dC, dI) vwCl [(a1, .inr (8, [.int 0, .int 0, .ref a2, .int 0, .ref a3, .int 3, .int 0, .ref a4, .ref a5, .int 0, .int 0, .int 0, .int 0, .int 0, .int 0, .ref a6, .ref a7, .ref a8, .ref a9])), (a2, .inr (6, [.int 0, .ref a10, .ref a11, .ref a12, .int 0])), (a5, .inr (1, [.int 0, .ref a20, .ref a21, .ref a22, .ref a23, .ref a24, .ref a25, .ref a26, .int 0])), (a7, .inr (6, [.int 0, .ref a27, .ref a28, .ref a29, .int 0])), (a21, .inl (k5, 13, .inl (fun _ => 0))), (a22, .inl (k6, 13, .inl (fun _ => 0))), (a23, .inl (k7, 13, .inl (fun _ => 0))), (a24, .inl (k8, 13, .inl (fun _ => 0))), (a25, .inl (k9, 13, .inl (fun _ => 0)))] H := hP
  have hD : va_D A [(a1, .inr (8, [.int 0, .int 0, .ref a2, .int 0, .ref a3, .int 3, .int 0, .ref a4, .ref a5, .int 0, .int 0, .int 0, .int 0, .int 0, .int 0, .ref a6, .ref a7, .ref a8, .ref a9])), (a2, .inr (6, [.int 0, .ref a10, .ref a11, .ref a12, .int 0])), (a5, .inr (1, [.int 0, .ref a20, .ref a21, .ref a22, .ref a23, .ref a24, .ref a25, .ref a26, .int 0])), (a7, .inr (6, [.int 0, .ref a27, .ref a28, .ref a29, .int 0])), (a21, .inl (k5, 13, .inl (fun _ => 0))), (a22, .inl (k6, 13, .inl (fun _ => 0))), (a23, .inl (k7, 13, .inl (fun _ => 0))), (a24, .inl (k8, 13, .inl (fun _ => 0))), (a25, .inl (k9, 13, .inl (fun _ => 0)))] := hD
  refine lv_aload_n hx hb dc_Re_begin_5 rfl (lv_at hl 0 rfl) ?_
  refine va_get (D := (dC, dI)) (ci := 8) (v := .ref a5) (C := "StrataBase$Reader") (T := tb_Re) (N := 19) hx hb hT in_Re hown hK hP 0 rfl rfl 8 (by decide) (hT _ wd_232) (fun _ h9 => h9) rfl dc_Re_begin_6 ?_
  have hPc := hP.sub (ws' := [(a5, .inr (1, [.int 0, .ref a20, .ref a21, .ref a22, .ref a23, .ref a24, .ref a25, .ref a26, .int 0]))]) [2] rfl
  have hDc := hD.sub (ws' := [(a5, .inr (1, [.int 0, .ref a20, .ref a21, .ref a22, .ref a23, .ref a24, .ref a25, .ref a26, .int 0]))]) [2] (by decide) rfl
  have hKc := hK.sub (tys' := []) [] rfl
  have hFc := va_free (wc := [(a5, .inr (1, [.int 0, .ref a20, .ref a21, .ref a22, .ref a23, .ref a24, .ref a25, .ref a26, .int 0]))]) hD hS hA [2] rfl
  refine va_callv (va_runV (As := []) (rest := []) ⟨hx, hb, hml, hown, hT⟩ (c_Cl_clear_1 l dC dI a5 a20 a21 a22 a23 a24 a25 a26 H.size) (cwV 0 hT (gd_V wd_573 wd_574 wd_575 wd_3 wd_576) rfl rfl rfl (by decide +kernel) ⟨Nat.le_of_ble_eq_true rfl, Nat.le_of_ble_eq_true rfl⟩) ⟨fun a U g mk q => by obtain ⟨q0, q1, qP, qK, qD⟩ := q; exact ⟨q0, q1, qP, va_K.moved (u := U) (U := U.calling g mk a) (Vm.Alike.refl U.vm) qK, qD⟩, va_recv hK hP (q0 := 2) (ci := 1) rfl rfl, fun U hU hW => ⟨rfl, by rw [hU], by rw [hU]; exact hPc, va_K.moved hW.alike hKc, hDc.weaken (fun _ _ _ _ => trivial)⟩⟩ rfl rfl hl.1 rfl (lv_room (Nat.le_of_ble_eq_true rfl)) dc_Re_begin_9 ⟨(Nat.le_of_ble_eq_true rfl), (Nat.le_of_ble_eq_true rfl)⟩) hS (fun q _ h => hFc q h) hFc (fun _ t H1 locs ht hvm hr9 hB hz1 hk1 hS => ?_)
  obtain ⟨hP1, hK1, hD1⟩ := hB
  rw [ht] at hP1
  have hK1 := va_K.moved hvm.symm hK1
  obtain ⟨hP, hD⟩ := va_join (wr := [(a1, .inr (8, [.int 0, .int 0, .ref a2, .int 0, .ref a3, .int 3, .int 0, .ref a4, .ref a5, .int 0, .int 0, .int 0, .int 0, .int 0, .int 0, .ref a6, .ref a7, .ref a8, .ref a9])), (a2, .inr (6, [.int 0, .ref a10, .ref a11, .ref a12, .int 0])), (a7, .inr (6, [.int 0, .ref a27, .ref a28, .ref a29, .int 0])), (a21, .inl (k5, 13, .inl (fun _ => 0))), (a22, .inl (k6, 13, .inl (fun _ => 0))), (a23, .inl (k7, 13, .inl (fun _ => 0))), (a24, .inl (k8, 13, .inl (fun _ => 0))), (a25, .inl (k9, 13, .inl (fun _ => 0)))]) (w1 := [(a5, .inr (1, [.int 0, .ref a20, .ref a21, .ref a22, .ref a23, .ref a24, .ref a25, .ref a26, .int 0]))]) hP hD [2] [0, 1, 3, 4, 5, 6, 7, 8] rfl rfl (by decide) (by decide) hk1 hFc hP1 hD1
  have hK := (hK.sub (tys' := [(k5, .int), (k6, .int), (k7, .int), (k8, .int), (k9, .int)]) [0, 1, 2, 3, 4] rfl).app hK1
  generalize H1 = H at hP hS ⊢
  have hP : va_P (dC, dI) vwCl [(a1, .inr (8, [.int 0, .int 0, .ref a2, .int 0, .ref a3, .int 3, .int 0, .ref a4, .ref a5, .int 0, .int 0, .int 0, .int 0, .int 0, .int 0, .ref a6, .ref a7, .ref a8, .ref a9])), (a2, .inr (6, [.int 0, .ref a10, .ref a11, .ref a12, .int 0])), (a7, .inr (6, [.int 0, .ref a27, .ref a28, .ref a29, .int 0])), (a21, .inl (k5, 13, .inl (fun _ => 0))), (a22, .inl (k6, 13, .inl (fun _ => 0))), (a23, .inl (k7, 13, .inl (fun _ => 0))), (a24, .inl (k8, 13, .inl (fun _ => 0))), (a25, .inl (k9, 13, .inl (fun _ => 0))), (a5, .inr (1, [.int 0, .ref a20, .ref a21, .ref a22, .ref a23, .ref a24, .ref a25, .ref a26, .int 0]))] H := hP
  have hD : va_D A [(a1, .inr (8, [.int 0, .int 0, .ref a2, .int 0, .ref a3, .int 3, .int 0, .ref a4, .ref a5, .int 0, .int 0, .int 0, .int 0, .int 0, .int 0, .ref a6, .ref a7, .ref a8, .ref a9])), (a2, .inr (6, [.int 0, .ref a10, .ref a11, .ref a12, .int 0])), (a7, .inr (6, [.int 0, .ref a27, .ref a28, .ref a29, .int 0])), (a21, .inl (k5, 13, .inl (fun _ => 0))), (a22, .inl (k6, 13, .inl (fun _ => 0))), (a23, .inl (k7, 13, .inl (fun _ => 0))), (a24, .inl (k8, 13, .inl (fun _ => 0))), (a25, .inl (k9, 13, .inl (fun _ => 0))), (a5, .inr (1, [.int 0, .ref a20, .ref a21, .ref a22, .ref a23, .ref a24, .ref a25, .ref a26, .int 0]))] := hD
  have hK : va_K (dC, dI) vwCl [(k5, .int), (k6, .int), (k7, .int), (k8, .int), (k9, .int)] s := hK
  refine lv_aload_n hx hb dc_Re_begin_12 rfl (lv_at hl 0 rfl) ?_
  refine va_get (D := (dC, dI)) (ci := 8) (v := .ref a7) (C := "StrataBase$Reader") (T := tb_Re) (N := 19) hx hb hT in_Re hown hK hP 0 rfl rfl 16 (by decide) (hT _ wd_240) (fun _ h9 => h9) rfl dc_Re_begin_13 ?_
  have hPc := hP.sub (ws' := [(a7, .inr (6, [.int 0, .ref a27, .ref a28, .ref a29, .int 0]))]) [2] rfl
  have hDc := hD.sub (ws' := [(a7, .inr (6, [.int 0, .ref a27, .ref a28, .ref a29, .int 0]))]) [2] (by decide) rfl
  have hKc := hK.sub (tys' := []) [] rfl
  have hFc := va_free (wc := [(a7, .inr (6, [.int 0, .ref a27, .ref a28, .ref a29, .int 0]))]) hD hS hA [2] rfl
  refine va_callv (va_runV (As := []) (rest := []) ⟨hx, hb, hml, hown, hT⟩ (c_Na_clear_1 l dC dI a7 a27 a28 a29 H.size) (cwV 0 hT (gd_V wd_577 wd_578 wd_579 wd_4 wd_580) rfl rfl rfl (by decide +kernel) ⟨Nat.le_of_ble_eq_true rfl, Nat.le_of_ble_eq_true rfl⟩) ⟨fun a U g mk q => by obtain ⟨q0, q1, qP, qK, qD⟩ := q; exact ⟨q0, q1, qP, va_K.moved (u := U) (U := U.calling g mk a) (Vm.Alike.refl U.vm) qK, qD⟩, va_recv hK hP (q0 := 2) (ci := 6) rfl rfl, fun U hU hW => ⟨rfl, by rw [hU], by rw [hU]; exact hPc, va_K.moved hW.alike hKc, hDc.weaken (fun _ _ _ _ => trivial)⟩⟩ rfl rfl hl.1 rfl (lv_room (Nat.le_of_ble_eq_true rfl)) dc_Re_begin_16 ⟨(Nat.le_of_ble_eq_true rfl), (Nat.le_of_ble_eq_true rfl)⟩) hS (fun q _ h => hFc q h) hFc (fun _ t H1 locs ht hvm hr9 hB hz1 hk1 hS => ?_)
  obtain ⟨hP1, hK1, hD1⟩ := hB
  rw [ht] at hP1
  have hK1 := va_K.moved hvm.symm hK1
  obtain ⟨hP, hD⟩ := va_join (wr := [(a1, .inr (8, [.int 0, .int 0, .ref a2, .int 0, .ref a3, .int 3, .int 0, .ref a4, .ref a5, .int 0, .int 0, .int 0, .int 0, .int 0, .int 0, .ref a6, .ref a7, .ref a8, .ref a9])), (a2, .inr (6, [.int 0, .ref a10, .ref a11, .ref a12, .int 0])), (a21, .inl (k5, 13, .inl (fun _ => 0))), (a22, .inl (k6, 13, .inl (fun _ => 0))), (a23, .inl (k7, 13, .inl (fun _ => 0))), (a24, .inl (k8, 13, .inl (fun _ => 0))), (a25, .inl (k9, 13, .inl (fun _ => 0))), (a5, .inr (1, [.int 0, .ref a20, .ref a21, .ref a22, .ref a23, .ref a24, .ref a25, .ref a26, .int 0]))]) (w1 := [(a7, .inr (6, [.int 0, .ref a27, .ref a28, .ref a29, .int 0]))]) hP hD [2] [0, 1, 3, 4, 5, 6, 7, 8] rfl rfl (by decide) (by decide) hk1 hFc hP1 hD1
  have hK := (hK.sub (tys' := [(k5, .int), (k6, .int), (k7, .int), (k8, .int), (k9, .int)]) [0, 1, 2, 3, 4] rfl).app hK1
  generalize H1 = H at hP hS ⊢
  have hP : va_P (dC, dI) vwCl [(a1, .inr (8, [.int 0, .int 0, .ref a2, .int 0, .ref a3, .int 3, .int 0, .ref a4, .ref a5, .int 0, .int 0, .int 0, .int 0, .int 0, .int 0, .ref a6, .ref a7, .ref a8, .ref a9])), (a2, .inr (6, [.int 0, .ref a10, .ref a11, .ref a12, .int 0])), (a21, .inl (k5, 13, .inl (fun _ => 0))), (a22, .inl (k6, 13, .inl (fun _ => 0))), (a23, .inl (k7, 13, .inl (fun _ => 0))), (a24, .inl (k8, 13, .inl (fun _ => 0))), (a25, .inl (k9, 13, .inl (fun _ => 0))), (a5, .inr (1, [.int 0, .ref a20, .ref a21, .ref a22, .ref a23, .ref a24, .ref a25, .ref a26, .int 0])), (a7, .inr (6, [.int 0, .ref a27, .ref a28, .ref a29, .int 0]))] H := hP
  have hD : va_D A [(a1, .inr (8, [.int 0, .int 0, .ref a2, .int 0, .ref a3, .int 3, .int 0, .ref a4, .ref a5, .int 0, .int 0, .int 0, .int 0, .int 0, .int 0, .ref a6, .ref a7, .ref a8, .ref a9])), (a2, .inr (6, [.int 0, .ref a10, .ref a11, .ref a12, .int 0])), (a21, .inl (k5, 13, .inl (fun _ => 0))), (a22, .inl (k6, 13, .inl (fun _ => 0))), (a23, .inl (k7, 13, .inl (fun _ => 0))), (a24, .inl (k8, 13, .inl (fun _ => 0))), (a25, .inl (k9, 13, .inl (fun _ => 0))), (a5, .inr (1, [.int 0, .ref a20, .ref a21, .ref a22, .ref a23, .ref a24, .ref a25, .ref a26, .int 0])), (a7, .inr (6, [.int 0, .ref a27, .ref a28, .ref a29, .int 0]))] := hD
  have hK : va_K (dC, dI) vwCl [(k5, .int), (k6, .int), (k7, .int), (k8, .int), (k9, .int)] s := hK
  refine lv_aload_n hx hb dc_Re_begin_19 rfl (lv_at hl 0 rfl) ?_
  have hPc := hP.sub (ws' := [(a1, .inr (8, [.int 0, .int 0, .ref a2, .int 0, .ref a3, .int 3, .int 0, .ref a4, .ref a5, .int 0, .int 0, .int 0, .int 0, .int 0, .int 0, .ref a6, .ref a7, .ref a8, .ref a9])), (a2, .inr (6, [.int 0, .ref a10, .ref a11, .ref a12, .int 0]))]) [0, 1] rfl
  have hDc := hD.sub (ws' := [(a1, .inr (8, [.int 0, .int 0, .ref a2, .int 0, .ref a3, .int 3, .int 0, .ref a4, .ref a5, .int 0, .int 0, .int 0, .int 0, .int 0, .int 0, .ref a6, .ref a7, .ref a8, .ref a9])), (a2, .inr (6, [.int 0, .ref a10, .ref a11, .ref a12, .int 0]))]) [0, 1] (by decide) rfl
  have hKc := hK.sub (tys' := []) [] rfl
  have hFc := va_free (wc := [(a1, .inr (8, [.int 0, .int 0, .ref a2, .int 0, .ref a3, .int 3, .int 0, .ref a4, .ref a5, .int 0, .int 0, .int 0, .int 0, .int 0, .int 0, .ref a6, .ref a7, .ref a8, .ref a9])), (a2, .inr (6, [.int 0, .ref a10, .ref a11, .ref a12, .int 0]))]) hD hS hA [0, 1] rfl
  refine va_callv (va_runV (As := []) (rest := []) ⟨hx, hb, hml, hown, hT⟩ (c_Re_beginBody_2 l dC dI a1 a2 a3 a4 a5 a6 a7 a8 a9 a10 a11 a12 H.size) (cwV 0 hT (gd_V wd_581 wd_583 sl_Re_beginBody wd_6 wd_584) rfl rfl rfl (by decide +kernel) ⟨Nat.le_of_ble_eq_true rfl, Nat.le_of_ble_eq_true rfl⟩) ⟨fun a U g mk q => by obtain ⟨q0, q1, qP, qK, qD⟩ := q; exact ⟨q0, q1, qP, va_K.moved (u := U) (U := U.calling g mk a) (Vm.Alike.refl U.vm) qK, qD⟩, va_recv hK hP (q0 := 0) (ci := 8) rfl rfl, fun U hU hW => ⟨rfl, by rw [hU], by rw [hU]; exact hPc, va_K.moved hW.alike hKc, hDc.weaken (fun _ _ _ _ => trivial)⟩⟩ rfl rfl hl.1 rfl (lv_room (Nat.le_of_ble_eq_true rfl)) dc_Re_begin_20 ⟨(Nat.le_of_ble_eq_true rfl), (Nat.le_of_ble_eq_true rfl)⟩) hS (fun q _ h => hFc q h) hFc (fun _ t H1 locs ht hvm hr9 hB hz1 hk1 hS => ?_)
  obtain ⟨hP1, hK1, hD1⟩ := hB
  rw [ht] at hP1
  have hK1 := va_K.moved hvm.symm hK1
  obtain ⟨hP, hD⟩ := va_join (wr := [(a21, .inl (k5, 13, .inl (fun _ => 0))), (a22, .inl (k6, 13, .inl (fun _ => 0))), (a23, .inl (k7, 13, .inl (fun _ => 0))), (a24, .inl (k8, 13, .inl (fun _ => 0))), (a25, .inl (k9, 13, .inl (fun _ => 0))), (a5, .inr (1, [.int 0, .ref a20, .ref a21, .ref a22, .ref a23, .ref a24, .ref a25, .ref a26, .int 0])), (a7, .inr (6, [.int 0, .ref a27, .ref a28, .ref a29, .int 0]))]) (w1 := [(a1, .inr (8, [.int 0, .int 0, .ref a2, .int 0, .ref a3, .int 3, .int 0, .ref a4, .ref a5, .int 0, .int 0, .int 0, .int 0, .int 0, .int 0, .ref a6, .ref a7, .ref a8, .ref a9])), (a2, .inr (6, [.int 0, .ref a10, .ref a11, .ref a12, .int 0]))]) hP hD [0, 1] [2, 3, 4, 5, 6, 7, 8] rfl rfl (by decide) (by decide) hk1 hFc hP1 hD1
  have hK := (hK.sub (tys' := [(k5, .int), (k6, .int), (k7, .int), (k8, .int), (k9, .int)]) [0, 1, 2, 3, 4] rfl).app hK1
  generalize H1 = H at hP hS ⊢
  have hP : va_P (dC, dI) vwCl [(a21, .inl (k5, 13, .inl (fun _ => 0))), (a22, .inl (k6, 13, .inl (fun _ => 0))), (a23, .inl (k7, 13, .inl (fun _ => 0))), (a24, .inl (k8, 13, .inl (fun _ => 0))), (a25, .inl (k9, 13, .inl (fun _ => 0))), (a5, .inr (1, [.int 0, .ref a20, .ref a21, .ref a22, .ref a23, .ref a24, .ref a25, .ref a26, .int 0])), (a7, .inr (6, [.int 0, .ref a27, .ref a28, .ref a29, .int 0])), (a1, .inr (8, [.int 0, .int 0, .ref a2, .int 0, .ref a3, .int 3, .int 0, .ref a4, .ref a5, .int 0, .int 0, .int 0, .int 0, .int 0, .int 0, .ref a6, .ref a7, .ref a8, .ref a9])), (a2, .inr (6, [.int 0, .ref a10, .ref a11, .ref a12, .int 0]))] H := hP
  have hD : va_D A [(a21, .inl (k5, 13, .inl (fun _ => 0))), (a22, .inl (k6, 13, .inl (fun _ => 0))), (a23, .inl (k7, 13, .inl (fun _ => 0))), (a24, .inl (k8, 13, .inl (fun _ => 0))), (a25, .inl (k9, 13, .inl (fun _ => 0))), (a5, .inr (1, [.int 0, .ref a20, .ref a21, .ref a22, .ref a23, .ref a24, .ref a25, .ref a26, .int 0])), (a7, .inr (6, [.int 0, .ref a27, .ref a28, .ref a29, .int 0])), (a1, .inr (8, [.int 0, .int 0, .ref a2, .int 0, .ref a3, .int 3, .int 0, .ref a4, .ref a5, .int 0, .int 0, .int 0, .int 0, .int 0, .int 0, .ref a6, .ref a7, .ref a8, .ref a9])), (a2, .inr (6, [.int 0, .ref a10, .ref a11, .ref a12, .int 0]))] := hD
  have hK : va_K (dC, dI) vwCl [(k5, .int), (k6, .int), (k7, .int), (k8, .int), (k9, .int)] s := hK
  refine lv_aload_n hx hb dc_Re_begin_23 rfl (lv_at hl 0 rfl) ?_
  refine va_get (D := (dC, dI)) (ci := 8) (v := .int 3) (C := "StrataBase$Reader") (T := tb_Re) (N := 19) hx hb hT in_Re hown hK hP 7 rfl rfl 5 (by decide) (hT _ wd_229) (fun _ h9 => h9) rfl dc_Re_begin_24 ?_
  refine lv_if_ne (tgt := 45) hx hb dc_Re_begin_27 (by decide) (fun _ => ?_) (fun h9 => absurd h9 (by decide))
  refine lv_aload_n hx hb dc_Re_begin_45 rfl (lv_at hl 0 rfl) ?_
  refine va_get (D := (dC, dI)) (ci := 8) (v := .int 3) (C := "StrataBase$Reader") (T := tb_Re) (N := 19) hx hb hT in_Re hown hK hP 7 rfl rfl 5 (by decide) (hT _ wd_229) (fun _ h9 => h9) rfl dc_Re_begin_46 ?_
  refine lv_iconst (v := 1) hx hb dc_Re_begin_49 (by decide) ?_
  refine lv_icmp_ne (tgt := 62) hx hb dc_Re_begin_50 (by decide) (fun _ => ?_) (fun h9 => absurd h9 (by decide))
  refine lv_aload_n hx hb dc_Re_begin_62 rfl (lv_at hl 0 rfl) ?_
  refine va_get (D := (dC, dI)) (ci := 8) (v := .ref a5) (C := "StrataBase$Reader") (T := tb_Re) (N := 19) hx hb hT in_Re hown hK hP 7 rfl rfl 8 (by decide) (hT _ wd_232) (fun _ h9 => h9) rfl dc_Re_begin_63 ?_
  refine lv_iconst (v := 0) hx hb dc_Re_begin_66 (by decide) ?_
  refine lv_iconst (v := 0) hx hb dc_Re_begin_67 (by decide) ?_
  have hPc := hP.sub (ws' := [(a5, .inr (1, [.int 0, .ref a20, .ref a21, .ref a22, .ref a23, .ref a24, .ref a25, .ref a26, .int 0])), (a21, .inl (k5, 13, .inl (fun _ => 0))), (a22, .inl (k6, 13, .inl (fun _ => 0))), (a23, .inl (k7, 13, .inl (fun _ => 0))), (a24, .inl (k8, 13, .inl (fun _ => 0))), (a25, .inl (k9, 13, .inl (fun _ => 0)))]) [5, 0, 1, 2, 3, 4] rfl
  have hDc := hD.sub (ws' := [(a5, .inr (1, [.int 0, .ref a20, .ref a21, .ref a22, .ref a23, .ref a24, .ref a25, .ref a26, .int 0])), (a21, .inl (k5, 13, .inl (fun _ => 0))), (a22, .inl (k6, 13, .inl (fun _ => 0))), (a23, .inl (k7, 13, .inl (fun _ => 0))), (a24, .inl (k8, 13, .inl (fun _ => 0))), (a25, .inl (k9, 13, .inl (fun _ => 0)))]) [5, 0, 1, 2, 3, 4] (by decide) rfl
  have hKc := hK.sub (tys' := [(k5, .int), (k6, .int), (k7, .int), (k8, .int), (k9, .int)]) [0, 1, 2, 3, 4] rfl
  have hFc := va_free (wc := [(a5, .inr (1, [.int 0, .ref a20, .ref a21, .ref a22, .ref a23, .ref a24, .ref a25, .ref a26, .int 0])), (a21, .inl (k5, 13, .inl (fun _ => 0))), (a22, .inl (k6, 13, .inl (fun _ => 0))), (a23, .inl (k7, 13, .inl (fun _ => 0))), (a24, .inl (k8, 13, .inl (fun _ => 0))), (a25, .inl (k9, 13, .inl (fun _ => 0)))]) hD hS hA [5, 0, 1, 2, 3, 4] rfl
  refine va_callv (va_runV (As := [.int 0, .int 0]) (rest := []) ⟨hx, hb, hml, hown, hT⟩ (c_Cl_open_1 l dC dI a5 a20 a21 a22 a23 a24 a25 a26 k5 k6 k7 k8 k9 H.size) (cwV 2 hT (gd_V wd_599 wd_600 wd_601 wd_3 wd_602) rfl rfl rfl (by decide +kernel) ⟨Nat.le_of_ble_eq_true rfl, Nat.le_of_ble_eq_true rfl⟩) ⟨fun a U g mk q => by obtain ⟨q0, q1, qP, qK, qD⟩ := q; exact ⟨q0, q1, qP, va_K.moved (u := U) (U := U.calling g mk a) (Vm.Alike.refl U.vm) qK, qD⟩, va_recv hK hP (q0 := 5) (ci := 1) rfl rfl, fun U hU hW => ⟨rfl, by rw [hU], by rw [hU]; exact hPc, va_K.moved hW.alike hKc, hDc.weaken (fun _ _ _ _ => trivial)⟩⟩ rfl rfl hl.1 rfl (lv_room (Nat.le_of_ble_eq_true rfl)) dc_Re_begin_68 ⟨(Nat.le_of_ble_eq_true rfl), (Nat.le_of_ble_eq_true rfl)⟩) hS (fun q _ h => hFc q h) hFc (fun _ t H1 locs ht hvm hr9 hB hz1 hk1 hS => ?_)
  obtain ⟨u5, hP1, hK1, hD1⟩ := hB
  rw [ht] at hP1
  have hK1 := va_K.moved hvm.symm hK1
  obtain ⟨hP, hD⟩ := va_join (wr := [(a7, .inr (6, [.int 0, .ref a27, .ref a28, .ref a29, .int 0])), (a1, .inr (8, [.int 0, .int 0, .ref a2, .int 0, .ref a3, .int 3, .int 0, .ref a4, .ref a5, .int 0, .int 0, .int 0, .int 0, .int 0, .int 0, .ref a6, .ref a7, .ref a8, .ref a9])), (a2, .inr (6, [.int 0, .ref a10, .ref a11, .ref a12, .int 0]))]) (w1 := [(a5, .inr (1, [.int 0, .ref a20, .ref a21, .ref a22, .ref a23, .ref a24, .ref a25, .ref a26, .int 1])), (a21, .inl (k5, 13, .inl (fun _ => 0))), (a22, .inl (k6, 13, .inl u5)), (a23, .inl (k7, 13, .inl (fun _ => 0))), (a24, .inl (k8, 13, .inl (fun _ => 0))), (a25, .inl (k9, 13, .inl (fun _ => 0)))]) hP hD [5, 0, 1, 2, 3, 4] [6, 7, 8] rfl rfl (by decide) (by decide) hk1 hFc hP1 hD1
  have hK := (hK.sub (tys' := []) [] rfl).app hK1
  generalize H1 = H at hP hS ⊢
  have hP : va_P (dC, dI) vwCl [(a7, .inr (6, [.int 0, .ref a27, .ref a28, .ref a29, .int 0])), (a1, .inr (8, [.int 0, .int 0, .ref a2, .int 0, .ref a3, .int 3, .int 0, .ref a4, .ref a5, .int 0, .int 0, .int 0, .int 0, .int 0, .int 0, .ref a6, .ref a7, .ref a8, .ref a9])), (a2, .inr (6, [.int 0, .ref a10, .ref a11, .ref a12, .int 0])), (a5, .inr (1, [.int 0, .ref a20, .ref a21, .ref a22, .ref a23, .ref a24, .ref a25, .ref a26, .int 1])), (a21, .inl (k5, 13, .inl (fun _ => 0))), (a22, .inl (k6, 13, .inl u5)), (a23, .inl (k7, 13, .inl (fun _ => 0))), (a24, .inl (k8, 13, .inl (fun _ => 0))), (a25, .inl (k9, 13, .inl (fun _ => 0)))] H := hP
  have hD : va_D A [(a7, .inr (6, [.int 0, .ref a27, .ref a28, .ref a29, .int 0])), (a1, .inr (8, [.int 0, .int 0, .ref a2, .int 0, .ref a3, .int 3, .int 0, .ref a4, .ref a5, .int 0, .int 0, .int 0, .int 0, .int 0, .int 0, .ref a6, .ref a7, .ref a8, .ref a9])), (a2, .inr (6, [.int 0, .ref a10, .ref a11, .ref a12, .int 0])), (a5, .inr (1, [.int 0, .ref a20, .ref a21, .ref a22, .ref a23, .ref a24, .ref a25, .ref a26, .int 1])), (a21, .inl (k5, 13, .inl (fun _ => 0))), (a22, .inl (k6, 13, .inl u5)), (a23, .inl (k7, 13, .inl (fun _ => 0))), (a24, .inl (k8, 13, .inl (fun _ => 0))), (a25, .inl (k9, 13, .inl (fun _ => 0)))] := hD
  have hK : va_K (dC, dI) vwCl [(k5, .int), (k6, .int), (k7, .int), (k8, .int), (k9, .int)] s := hK
  refine lv_aload_n hx hb dc_Re_begin_71 rfl (lv_at hl 0 rfl) ?_
  refine lv_iconst (v := 1) hx hb dc_Re_begin_72 (by decide) ?_
  refine va_put (D := (dC, dI)) (ci := 8) (v := .int 1) (ty := .int) (C := "StrataBase$Reader") (T := tb_Re) (N := 19) hx hb hT in_Re ty_Re tk_Re nm_Re hown hK hP hD hS 1 rfl rfl 6 (by decide) (hT _ wd_230) (fun _ h9 => h9) rfl (by decide +kernel) rfl rfl (Nat.le_of_ble_eq_true rfl) dc_Re_begin_73 (fun H locs hP hD hS => ?_)
  have hP : va_P (dC, dI) vwCl [(a7, .inr (6, [.int 0, .ref a27, .ref a28, .ref a29, .int 0])), (a1, .inr (8, [.int 0, .int 0, .ref a2, .int 0, .ref a3, .int 3, .int 1, .ref a4, .ref a5, .int 0, .int 0, .int 0, .int 0, .int 0, .int 0, .ref a6, .ref a7, .ref a8, .ref a9])), (a2, .inr (6, [.int 0, .ref a10, .ref a11, .ref a12, .int 0])), (a5, .inr (1, [.int 0, .ref a20, .ref a21, .ref a22, .ref a23, .ref a24, .ref a25, .ref a26, .int 1])), (a21, .inl (k5, 13, .inl (fun _ => 0))), (a22, .inl (k6, 13, .inl u5)), (a23, .inl (k7, 13, .inl (fun _ => 0))), (a24, .inl (k8, 13, .inl (fun _ => 0))), (a25, .inl (k9, 13, .inl (fun _ => 0)))] H := hP
  have hD : va_D A [(a7, .inr (6, [.int 0, .ref a27, .ref a28, .ref a29, .int 0])), (a1, .inr (8, [.int 0, .int 0, .ref a2, .int 0, .ref a3, .int 3, .int 1, .ref a4, .ref a5, .int 0, .int 0, .int 0, .int 0, .int 0, .int 0, .ref a6, .ref a7, .ref a8, .ref a9])), (a2, .inr (6, [.int 0, .ref a10, .ref a11, .ref a12, .int 0])), (a5, .inr (1, [.int 0, .ref a20, .ref a21, .ref a22, .ref a23, .ref a24, .ref a25, .ref a26, .int 1])), (a21, .inl (k5, 13, .inl (fun _ => 0))), (a22, .inl (k6, 13, .inl u5)), (a23, .inl (k7, 13, .inl (fun _ => 0))), (a24, .inl (k8, 13, .inl (fun _ => 0))), (a25, .inl (k9, 13, .inl (fun _ => 0)))] := hD
  have hP9 := hP.sub (ws' := [(a7, .inr (6, [.int 0, .ref a27, .ref a28, .ref a29, .int 0])), (a1, .inr (8, [.int 0, .int 0, .ref a2, .int 0, .ref a3, .int 3, .int 1, .ref a4, .ref a5, .int 0, .int 0, .int 0, .int 0, .int 0, .int 0, .ref a6, .ref a7, .ref a8, .ref a9])), (a2, .inr (6, [.int 0, .ref a10, .ref a11, .ref a12, .int 0])), (a5, .inr (1, [.int 0, .ref a20, .ref a21, .ref a22, .ref a23, .ref a24, .ref a25, .ref a26, .int 1])), (a21, .inl (k5, 13, .inl (fun _ => 0))), (a22, .inl (k6, 13, .inl u5)), (a23, .inl (k7, 13, .inl (fun _ => 0))), (a24, .inl (k8, 13, .inl (fun _ => 0))), (a25, .inl (k9, 13, .inl (fun _ => 0)))]) [0, 1, 2, 3, 4, 5, 6, 7, 8] rfl
  have hD9 := hD.sub (ws' := [(a7, .inr (6, [.int 0, .ref a27, .ref a28, .ref a29, .int 0])), (a1, .inr (8, [.int 0, .int 0, .ref a2, .int 0, .ref a3, .int 3, .int 1, .ref a4, .ref a5, .int 0, .int 0, .int 0, .int 0, .int 0, .int 0, .ref a6, .ref a7, .ref a8, .ref a9])), (a2, .inr (6, [.int 0, .ref a10, .ref a11, .ref a12, .int 0])), (a5, .inr (1, [.int 0, .ref a20, .ref a21, .ref a22, .ref a23, .ref a24, .ref a25, .ref a26, .int 1])), (a21, .inl (k5, 13, .inl (fun _ => 0))), (a22, .inl (k6, 13, .inl u5)), (a23, .inl (k7, 13, .inl (fun _ => 0))), (a24, .inl (k8, 13, .inl (fun _ => 0))), (a25, .inl (k9, 13, .inl (fun _ => 0)))]) [0, 1, 2, 3, 4, 5, 6, 7, 8] (by decide) rfl
  have hK9 := hK.sub (tys' := [(k5, .int), (k6, .int), (k7, .int), (k8, .int), (k9, .int)]) [0, 1, 2, 3, 4] rfl
  refine W.widen (k := 0) (n := 0) (Nat.le_of_ble_eq_true rfl) (Nat.le_of_ble_eq_true rfl) ?_
  exact W.vret hx hb hr (fun t ht hW => ⟨⟨(), rfl, trivial, u5, by rw [ht]; exact hP9, va_K.moved hW.alike hK9, hD9⟩, hS.F ht⟩) hS.2.2 dc_Re_begin_76

set_option maxHeartbeats 4000000 in
set_option maxRecDepth 100000 in
theorem c_Re_settleBefore_2 (l : Launch) (dC : Nat → ClassId) (dI : Nat → Nat → Nat) (a1 : Nat) (a2 : Nat) (a3 : Nat) (a4 : Nat) (a5 : Nat) (a6 : Nat) (a7 : Nat) (a8 : Nat) (a9 : Nat) (a13 : Nat) (sz : Nat) : Met l my_Re_settleBefore (Cond.code my_Re_settleBefore cd_Re_settleBefore 1 none :: tblG) ({ frames := 0, cells := 0, slots := 0, locals := 0 }) (va_Pc [.ref a1] (fun U => U.heap.size = sz ∧ va_P (dC, dI) vwCl [(a1, .inr (8, [.int 0, .int 0, .ref a2, .int 0, .ref a3, .int 3, .int 1, .ref a4, .ref a5, .int 0, .int 0, .int 0, .int 0, .int 0, .int 0, .ref a6, .ref a7, .ref a8, .ref a9])), (a3, .inr (11, [.ref a13, .int 0, .int 0, .int 0, .int 0, .int 0]))] U.heap ∧ va_K (dC, dI) vwCl [] U ∧ va_D (fun _ => True) [(a1, .inr (8, [.int 0, .int 0, .ref a2, .int 0, .ref a3, .int 3, .int 1, .ref a4, .ref a5, .int 0, .int 0, .int 0, .int 0, .int 0, .int 0, .ref a6, .ref a7, .ref a8, .ref a9])), (a3, .inr (11, [.ref a13, .int 0, .int 0, .int 0, .int 0, .int 0]))])) (va_Qv (fun _ : Unit => True) (fun (_ : Unit) (t : State) => va_P (dC, dI) vwCl [(a1, .inr (8, [.int 0, .int 0, .ref a2, .int 0, .ref a3, .int 3, .int 1, .ref a4, .ref a5, .int 0, .int 0, .int 0, .int 0, .int 0, .int 0, .ref a6, .ref a7, .ref a8, .ref a9])), (a3, .inr (11, [.ref a13, .int 0, .int 0, .int 0, .int 0, .int 0]))] t.heap ∧ va_K (dC, dI) vwCl [] t ∧ va_D (va_A [(a1, .inr (8, [.int 0, .int 0, .ref a2, .int 0, .ref a3, .int 3, .int 1, .ref a4, .ref a5, .int 0, .int 0, .int 0, .int 0, .int 0, .int 0, .ref a6, .ref a7, .ref a8, .ref a9])), (a3, .inr (11, [.ref a13, .int 0, .int 0, .int 0, .int 0, .int 0]))] sz) [(a1, .inr (8, [.int 0, .int 0, .ref a2, .int 0, .ref a3, .int 3, .int 1, .ref a4, .ref a5, .int 0, .int 0, .int 0, .int 0, .int 0, .int 0, .ref a6, .ref a7, .ref a8, .ref a9])), (a3, .inr (11, [.ref a13, .int 0, .int 0, .int 0, .int 0, .int 0]))]) (va_A [(a1, .inr (8, [.int 0, .int 0, .ref a2, .int 0, .ref a3, .int 3, .int 1, .ref a4, .ref a5, .int 0, .int 0, .int 0, .int 0, .int 0, .int 0, .ref a6, .ref a7, .ref a8, .ref a9])), (a3, .inr (11, [.ref a13, .int 0, .int 0, .int 0, .int 0, .int 0]))] sz)) 0 0 (va_A [(a1, .inr (8, [.int 0, .int 0, .ref a2, .int 0, .ref a3, .int 3, .int 1, .ref a4, .ref a5, .int 0, .int 0, .int 0, .int 0, .int 0, .int 0, .ref a6, .ref a7, .ref a8, .ref a9])), (a3, .inr (11, [.ref a13, .int 0, .int 0, .int 0, .int 0, .int 0]))] sz) := by
  refine Met.ofW (cc := cd_Re_settleBefore) (maxL := 1) (ret := none) (by decide) rfl ?_
  intro p e s m args below meth c s₁ B hml hv
  obtain ⟨rfl, hsz, hP, hK, hD0⟩ := hv
  have hx := B.exec
  have hb := B.bytes
  have hr := B.returns
  have hT : ∀ w ∈ tblG, w.before _ s = true := fun w h => atoms_spec (ws := (Cond.code my_Re_settleBefore cd_Re_settleBefore 1 none :: tblG)) B.pre w (List.mem_cons_of_mem _ h)
  have hown : s.vm.findClass "StrataBase$Reader" = some m.cls := findClass_of_methodNamed B.named
  have hlocks := B.notSynchronized
  subst hsz
  have hD := hD0.self (sz := s.heap.size)
  generalize hAe : va_A [(a1, .inr (8, [.int 0, .int 0, .ref a2, .int 0, .ref a3, .int 3, .int 1, .ref a4, .ref a5, .int 0, .int 0, .int 0, .int 0, .int 0, .int 0, .ref a6, .ref a7, .ref a8, .ref a9])), (a3, .inr (11, [.ref a13, .int 0, .int 0, .int 0, .int 0, .int 0]))] s.heap.size = A at hD ⊢
  have hA : ∀ q : Nat, s.heap.size ≤ q → A q := fun q h => by rw [← hAe]; exact Or.inr h
  have hS : va_S A s.heap s.heap [] := va_S.rf
  have hl := lv_entry ([.ref a1]) (n := 1) (Nat.le_of_ble_eq_true rfl)
  rw [lg_entry_eq]
  generalize (lg_sl ([.ref a1]) ++ List.replicate (1 - (lg_sl ([.ref a1])).length) Slot.unset).toArray = ls at hl ⊢
  have hl : lv_has ls 1 [(0, .ref a1)] := hl
  refine lv_aload_n hx hb dc_Re_settleBefore_0 rfl (lv_at hl 0 rfl) ?_
  refine va_get (D := (dC, dI)) (ci := 8) (v := .int 1) (C := "StrataBase$Reader") (T := tb_Re) (N := 19) hx hb hT in_Re hown hK hP 0 rfl rfl 6 (by decide) (hT _ wd_230) (fun _ h9 => h9) rfl dc_Re_settleBefore_1 ?_
  refine lv_bipush (v := 7) hx hb dc_Re_settleBefore_4 (by decide) ?_
  refine lv_icmp_ne (tgt := 13) hx hb dc_Re_settleBefore_6 (by decide) (fun _ => ?_) (fun h9 => absurd h9 (by decide))
  refine lv_aload_n hx hb dc_Re_settleBefore_13 rfl (lv_at hl 0 rfl) ?_
  refine va_get (D := (dC, dI)) (ci := 8) (v := .int 1) (C := "StrataBase$Reader") (T := tb_Re) (N := 19) hx hb hT in_Re hown hK hP 0 rfl rfl 6 (by decide) (hT _ wd_230) (fun _ h9 => h9) rfl dc_Re_settleBefore_14 ?_
  refine lv_iconst (v := 2) hx hb dc_Re_settleBefore_17 (by decide) ?_
  refine lv_icmp_ne (tgt := 37) hx hb dc_Re_settleBefore_18 (by decide) (fun _ => ?_) (fun h9 => absurd h9 (by decide))
  refine lv_aload_n hx hb dc_Re_settleBefore_37 rfl (lv_at hl 0 rfl) ?_
  refine va_get (D := (dC, dI)) (ci := 8) (v := .int 1) (C := "StrataBase$Reader") (T := tb_Re) (N := 19) hx hb hT in_Re hown hK hP 0 rfl rfl 6 (by decide) (hT _ wd_230) (fun _ h9 => h9) rfl dc_Re_settleBefore_38 ?_
  refine lv_bipush (v := 12) hx hb dc_Re_settleBefore_41 (by decide) ?_
  refine lv_icmp_eq (tgt := 69) hx hb dc_Re_settleBefore_43 (by decide) (fun h9 => absurd h9 (by decide)) (fun _ => ?_)
  refine lv_aload_n hx hb dc_Re_settleBefore_46 rfl (lv_at hl 0 rfl) ?_
  refine va_get (D := (dC, dI)) (ci := 8) (v := .ref a3) (C := "StrataBase$Reader") (T := tb_Re) (N := 19) hx hb hT in_Re hown hK hP 0 rfl rfl 4 (by decide) (hT _ wd_228) (fun _ h9 => h9) rfl dc_Re_settleBefore_47 ?_
  refine va_get (D := (dC, dI)) (ci := 11) (v := .int 0) (C := "StrataBase$Tokens") (T := tb_To) (N := 6) hx hb hT in_To hown hK hP 1 rfl rfl 1 (by decide) (hT _ wd_197) (fun _ h9 => h9) rfl dc_Re_settleBefore_50 ?_
  refine lv_iconst (v := 1) hx hb dc_Re_settleBefore_53 (by decide) ?_
  refine lv_icmp_ne (tgt := 69) hx hb dc_Re_settleBefore_54 (by decide) (fun _ => ?_) (fun h9 => absurd h9 (by decide))
  have hP9 := hP.sub (ws' := [(a1, .inr (8, [.int 0, .int 0, .ref a2, .int 0, .ref a3, .int 3, .int 1, .ref a4, .ref a5, .int 0, .int 0, .int 0, .int 0, .int 0, .int 0, .ref a6, .ref a7, .ref a8, .ref a9])), (a3, .inr (11, [.ref a13, .int 0, .int 0, .int 0, .int 0, .int 0]))]) [0, 1] rfl
  have hD9 := hD.sub (ws' := [(a1, .inr (8, [.int 0, .int 0, .ref a2, .int 0, .ref a3, .int 3, .int 1, .ref a4, .ref a5, .int 0, .int 0, .int 0, .int 0, .int 0, .int 0, .ref a6, .ref a7, .ref a8, .ref a9])), (a3, .inr (11, [.ref a13, .int 0, .int 0, .int 0, .int 0, .int 0]))]) [0, 1] (by decide) rfl
  have hK9 := hK.sub (tys' := []) [] rfl
  refine W.widen (k := 0) (n := 0) (Nat.le_of_ble_eq_true rfl) (Nat.le_of_ble_eq_true rfl) ?_
  exact W.vret hx hb hr (fun t ht hW => ⟨⟨(), rfl, trivial, by rw [ht]; exact hP9, va_K.moved hW.alike hK9, hD9⟩, hS.F ht⟩) hS.2.2 dc_Re_settleBefore_69

set_option maxHeartbeats 4000000 in
set_option maxRecDepth 100000 in
theorem c_Re_stop_1 (l : Launch) (dC : Nat → ClassId) (dI : Nat → Nat → Nat) (a1 : Nat) (a2 : Nat) (a3 : Nat) (a4 : Nat) (a5 : Nat) (a6 : Nat) (a7 : Nat) (a8 : Nat) (a9 : Nat) (sz : Nat) : Met l my_Re_stop (Cond.code my_Re_stop cd_Re_stop 3 none :: tblG) ({ frames := 0, cells := 0, slots := 0, locals := 0 }) (va_Pc [.ref a1, .int 2, .int 0] (fun U => U.heap.size = sz ∧ va_P (dC, dI) vwCl [(a1, .inr (8, [.int 0, .int 0, .ref a2, .int 0, .ref a3, .int 3, .int 1, .ref a4, .ref a5, .int 0, .int 0, .int 0, .int 0, .int 0, .int 0, .ref a6, .ref a7, .ref a8, .ref a9]))] U.heap ∧ va_K (dC, dI) vwCl [] U ∧ va_D (fun _ => True) [(a1, .inr (8, [.int 0, .int 0, .ref a2, .int 0, .ref a3, .int 3, .int 1, .ref a4, .ref a5, .int 0, .int 0, .int 0, .int 0, .int 0, .int 0, .ref a6, .ref a7, .ref a8, .ref a9]))])) (va_Qv (fun _ : Unit => True) (fun (_ : Unit) (t : State) => va_P (dC, dI) vwCl [(a1, .inr (8, [.int 2, .int 0, .ref a2, .int 0, .ref a3, .int 3, .int 12, .ref a4, .ref a5, .int 0, .int 0, .int 0, .int 0, .int 0, .int 0, .ref a6, .ref a7, .ref a8, .ref a9]))] t.heap ∧ va_K (dC, dI) vwCl [] t ∧ va_D (va_A [(a1, .inr (8, [.int 0, .int 0, .ref a2, .int 0, .ref a3, .int 3, .int 1, .ref a4, .ref a5, .int 0, .int 0, .int 0, .int 0, .int 0, .int 0, .ref a6, .ref a7, .ref a8, .ref a9]))] sz) [(a1, .inr (8, [.int 2, .int 0, .ref a2, .int 0, .ref a3, .int 3, .int 12, .ref a4, .ref a5, .int 0, .int 0, .int 0, .int 0, .int 0, .int 0, .ref a6, .ref a7, .ref a8, .ref a9]))]) (va_A [(a1, .inr (8, [.int 0, .int 0, .ref a2, .int 0, .ref a3, .int 3, .int 1, .ref a4, .ref a5, .int 0, .int 0, .int 0, .int 0, .int 0, .int 0, .ref a6, .ref a7, .ref a8, .ref a9]))] sz)) 0 0 (va_A [(a1, .inr (8, [.int 0, .int 0, .ref a2, .int 0, .ref a3, .int 3, .int 1, .ref a4, .ref a5, .int 0, .int 0, .int 0, .int 0, .int 0, .int 0, .ref a6, .ref a7, .ref a8, .ref a9]))] sz) := by
  refine Met.ofW (cc := cd_Re_stop) (maxL := 3) (ret := none) (by decide) rfl ?_
  intro p e s m args below meth c s₁ B hml hv
  obtain ⟨rfl, hsz, hP, hK, hD0⟩ := hv
  have hx := B.exec
  have hb := B.bytes
  have hr := B.returns
  have hT : ∀ w ∈ tblG, w.before _ s = true := fun w h => atoms_spec (ws := (Cond.code my_Re_stop cd_Re_stop 3 none :: tblG)) B.pre w (List.mem_cons_of_mem _ h)
  have hown : s.vm.findClass "StrataBase$Reader" = some m.cls := findClass_of_methodNamed B.named
  have hlocks := B.notSynchronized
  subst hsz
  have hD := hD0.self (sz := s.heap.size)
  generalize hAe : va_A [(a1, .inr (8, [.int 0, .int 0, .ref a2, .int 0, .ref a3, .int 3, .int 1, .ref a4, .ref a5, .int 0, .int 0, .int 0, .int 0, .int 0, .int 0, .ref a6, .ref a7, .ref a8, .ref a9]))] s.heap.size = A at hD ⊢
  have hA : ∀ q : Nat, s.heap.size ≤ q → A q := fun q h => by rw [← hAe]; exact Or.inr h
  have hS : va_S A s.heap s.heap [] := va_S.rf
  have hl := lv_entry ([.ref a1, .int 2, .int 0]) (n := 3) (Nat.le_of_ble_eq_true rfl)
  rw [lg_entry_eq]
  generalize (lg_sl ([.ref a1, .int 2, .int 0]) ++ List.replicate (3 - (lg_sl ([.ref a1, .int 2, .int 0])).length) Slot.unset).toArray = ls at hl ⊢
  have hl : lv_has ls 3 [(0, .ref a1), (1, .int 2), (2, .int 0)] := hl
  refine lv_aload_n hx hb dc_Re_stop_0 rfl (lv_at hl 0 rfl) ?_
  refine lv_iload_n hx hb dc_Re_stop_1 rfl (lv_at hl 1 rfl) ?_
  refine va_put (D := (dC, dI)) (ci := 8) (v := .int 2) (ty := .int) (C := "StrataBase$Reader") (T := tb_Re) (N := 19) hx hb hT in_Re ty_Re tk_Re nm_Re hown hK hP hD hS 0 rfl rfl 0 (by decide) (hT _ wd_220) (fun _ h9 => h9) rfl (by decide +kernel) rfl rfl (Nat.le_of_ble_eq_true rfl) dc_Re_stop_2 (fun H locs hP hD hS => ?_)
  have hP : va_P (dC, dI) vwCl [(a1, .inr (8, [.int 2, .int 0, .ref a2, .int 0, .ref a3, .int 3, .int 1, .ref a4, .ref a5, .int 0, .int 0, .int 0, .int 0, .int 0, .int 0, .ref a6, .ref a7, .ref a8, .ref a9]))] H := hP
  have hD : va_D A [(a1, .inr (8, [.int 2, .int 0, .ref a2, .int 0, .ref a3, .int 3, .int 1, .ref a4, .ref a5, .int 0, .int 0, .int 0, .int 0, .int 0, .int 0, .ref a6, .ref a7, .ref a8, .ref a9]))] := hD
  refine lv_aload_n hx hb dc_Re_stop_5 rfl (lv_at hl 0 rfl) ?_
  refine lv_iload_n hx hb dc_Re_stop_6 rfl (lv_at hl 2 rfl) ?_
  refine va_put (D := (dC, dI)) (ci := 8) (v := .int 0) (ty := .int) (C := "StrataBase$Reader") (T := tb_Re) (N := 19) hx hb hT in_Re ty_Re tk_Re nm_Re hown hK hP hD hS 0 rfl rfl 1 (by decide) (hT _ wd_223) (fun _ h9 => h9) rfl (by decide +kernel) rfl rfl (Nat.le_of_ble_eq_true rfl) dc_Re_stop_7 (fun H locs hP hD hS => ?_)
  have hP : va_P (dC, dI) vwCl [(a1, .inr (8, [.int 2, .int 0, .ref a2, .int 0, .ref a3, .int 3, .int 1, .ref a4, .ref a5, .int 0, .int 0, .int 0, .int 0, .int 0, .int 0, .ref a6, .ref a7, .ref a8, .ref a9]))] H := hP
  have hD : va_D A [(a1, .inr (8, [.int 2, .int 0, .ref a2, .int 0, .ref a3, .int 3, .int 1, .ref a4, .ref a5, .int 0, .int 0, .int 0, .int 0, .int 0, .int 0, .ref a6, .ref a7, .ref a8, .ref a9]))] := hD
  refine lv_aload_n hx hb dc_Re_stop_10 rfl (lv_at hl 0 rfl) ?_
  refine lv_bipush (v := 12) hx hb dc_Re_stop_11 (by decide) ?_
  refine va_put (D := (dC, dI)) (ci := 8) (v := .int 12) (ty := .int) (C := "StrataBase$Reader") (T := tb_Re) (N := 19) hx hb hT in_Re ty_Re tk_Re nm_Re hown hK hP hD hS 0 rfl rfl 6 (by decide) (hT _ wd_230) (fun _ h9 => h9) rfl (by decide +kernel) rfl rfl (Nat.le_of_ble_eq_true rfl) dc_Re_stop_13 (fun H locs hP hD hS => ?_)
  have hP : va_P (dC, dI) vwCl [(a1, .inr (8, [.int 2, .int 0, .ref a2, .int 0, .ref a3, .int 3, .int 12, .ref a4, .ref a5, .int 0, .int 0, .int 0, .int 0, .int 0, .int 0, .ref a6, .ref a7, .ref a8, .ref a9]))] H := hP
  have hD : va_D A [(a1, .inr (8, [.int 2, .int 0, .ref a2, .int 0, .ref a3, .int 3, .int 12, .ref a4, .ref a5, .int 0, .int 0, .int 0, .int 0, .int 0, .int 0, .ref a6, .ref a7, .ref a8, .ref a9]))] := hD
  have hP9 := hP.sub (ws' := [(a1, .inr (8, [.int 2, .int 0, .ref a2, .int 0, .ref a3, .int 3, .int 12, .ref a4, .ref a5, .int 0, .int 0, .int 0, .int 0, .int 0, .int 0, .ref a6, .ref a7, .ref a8, .ref a9]))]) [0] rfl
  have hD9 := hD.sub (ws' := [(a1, .inr (8, [.int 2, .int 0, .ref a2, .int 0, .ref a3, .int 3, .int 12, .ref a4, .ref a5, .int 0, .int 0, .int 0, .int 0, .int 0, .int 0, .ref a6, .ref a7, .ref a8, .ref a9]))]) [0] (by decide) rfl
  have hK9 := hK.sub (tys' := []) [] rfl
  refine W.widen (k := 0) (n := 0) (Nat.le_of_ble_eq_true rfl) (Nat.le_of_ble_eq_true rfl) ?_
  exact W.vret hx hb hr (fun t ht hW => ⟨⟨(), rfl, trivial, by rw [ht]; exact hP9, va_K.moved hW.alike hK9, hD9⟩, hS.F ht⟩) hS.2.2 dc_Re_stop_16

set_option maxHeartbeats 4000000 in
set_option maxRecDepth 100000 in
theorem c_Re_refuse_1 (l : Launch) (dC : Nat → ClassId) (dI : Nat → Nat → Nat) (a1 : Nat) (a2 : Nat) (a3 : Nat) (a4 : Nat) (a5 : Nat) (a6 : Nat) (a7 : Nat) (a8 : Nat) (a9 : Nat) (a13 : Nat) (sz : Nat) : Met l my_Re_refuse (Cond.code my_Re_refuse cd_Re_refuse 1 none :: tblG) ({ frames := 1, cells := 0, slots := 0, locals := 22 }) (va_Pc [.ref a1] (fun U => U.heap.size = sz ∧ va_P (dC, dI) vwCl [(a1, .inr (8, [.int 0, .int 0, .ref a2, .int 0, .ref a3, .int 3, .int 1, .ref a4, .ref a5, .int 0, .int 0, .int 0, .int 0, .int 0, .int 0, .ref a6, .ref a7, .ref a8, .ref a9])), (a3, .inr (11, [.ref a13, .int 0, .int 0, .int 0, .int 0, .int 0]))] U.heap ∧ va_K (dC, dI) vwCl [] U ∧ va_D (fun _ => True) [(a1, .inr (8, [.int 0, .int 0, .ref a2, .int 0, .ref a3, .int 3, .int 1, .ref a4, .ref a5, .int 0, .int 0, .int 0, .int 0, .int 0, .int 0, .ref a6, .ref a7, .ref a8, .ref a9])), (a3, .inr (11, [.ref a13, .int 0, .int 0, .int 0, .int 0, .int 0]))])) (va_Qv (fun _ : Unit => True) (fun (_ : Unit) (t : State) => va_P (dC, dI) vwCl [(a3, .inr (11, [.ref a13, .int 0, .int 0, .int 0, .int 0, .int 0])), (a1, .inr (8, [.int 2, .int 0, .ref a2, .int 0, .ref a3, .int 3, .int 12, .ref a4, .ref a5, .int 0, .int 0, .int 0, .int 0, .int 0, .int 0, .ref a6, .ref a7, .ref a8, .ref a9]))] t.heap ∧ va_K (dC, dI) vwCl [] t ∧ va_D (va_A [(a1, .inr (8, [.int 0, .int 0, .ref a2, .int 0, .ref a3, .int 3, .int 1, .ref a4, .ref a5, .int 0, .int 0, .int 0, .int 0, .int 0, .int 0, .ref a6, .ref a7, .ref a8, .ref a9])), (a3, .inr (11, [.ref a13, .int 0, .int 0, .int 0, .int 0, .int 0]))] sz) [(a3, .inr (11, [.ref a13, .int 0, .int 0, .int 0, .int 0, .int 0])), (a1, .inr (8, [.int 2, .int 0, .ref a2, .int 0, .ref a3, .int 3, .int 12, .ref a4, .ref a5, .int 0, .int 0, .int 0, .int 0, .int 0, .int 0, .ref a6, .ref a7, .ref a8, .ref a9]))]) (va_A [(a1, .inr (8, [.int 0, .int 0, .ref a2, .int 0, .ref a3, .int 3, .int 1, .ref a4, .ref a5, .int 0, .int 0, .int 0, .int 0, .int 0, .int 0, .ref a6, .ref a7, .ref a8, .ref a9])), (a3, .inr (11, [.ref a13, .int 0, .int 0, .int 0, .int 0, .int 0]))] sz)) 0 0 (va_A [(a1, .inr (8, [.int 0, .int 0, .ref a2, .int 0, .ref a3, .int 3, .int 1, .ref a4, .ref a5, .int 0, .int 0, .int 0, .int 0, .int 0, .int 0, .ref a6, .ref a7, .ref a8, .ref a9])), (a3, .inr (11, [.ref a13, .int 0, .int 0, .int 0, .int 0, .int 0]))] sz) := by
  refine Met.ofW (cc := cd_Re_refuse) (maxL := 1) (ret := none) (by decide) rfl ?_
  intro p e s m args below meth c s₁ B hml hv
  obtain ⟨rfl, hsz, hP, hK, hD0⟩ := hv
  have hx := B.exec
  have hb := B.bytes
  have hr := B.returns
  have hT : ∀ w ∈ tblG, w.before _ s = true := fun w h => atoms_spec (ws := (Cond.code my_Re_refuse cd_Re_refuse 1 none :: tblG)) B.pre w (List.mem_cons_of_mem _ h)
  have hown : s.vm.findClass "StrataBase$Reader" = some m.cls := findClass_of_methodNamed B.named
  have hlocks := B.notSynchronized
  subst hsz
  have hD := hD0.self (sz := s.heap.size)
  generalize hAe : va_A [(a1, .inr (8, [.int 0, .int 0, .ref a2, .int 0, .ref a3, .int 3, .int 1, .ref a4, .ref a5, .int 0, .int 0, .int 0, .int 0, .int 0, .int 0, .ref a6, .ref a7, .ref a8, .ref a9])), (a3, .inr (11, [.ref a13, .int 0, .int 0, .int 0, .int 0, .int 0]))] s.heap.size = A at hD ⊢
  have hA : ∀ q : Nat, s.heap.size ≤ q → A q := fun q h => by rw [← hAe]; exact Or.inr h
  have hS : va_S A s.heap s.heap [] := va_S.rf
  have hl := lv_entry ([.ref a1]) (n := 1) (Nat.le_of_ble_eq_true rfl)
  rw [lg_entry_eq]
  generalize (lg_sl ([.ref a1]) ++ List.replicate (1 - (lg_sl ([.ref a1])).length) Slot.unset).toArray = ls at hl ⊢
  have hl : lv_has ls 1 [(0, .ref a1)] := hl
  refine lv_aload_n hx hb dc_Re_refuse_0 rfl (lv_at hl 0 rfl) ?_
  refine lv_iconst (v := 2) hx hb dc_Re_refuse_1 (by decide) ?_
  refine lv_aload_n hx hb dc_Re_refuse_2 rfl (lv_at hl 0 rfl) ?_
  refine va_get (D := (dC, dI)) (ci := 8) (v := .ref a3) (C := "StrataBase$Reader") (T := tb_Re) (N := 19) hx hb hT in_Re hown hK hP 0 rfl rfl 4 (by decide) (hT _ wd_228) (fun _ h9 => h9) rfl dc_Re_refuse_3 ?_
  refine va_get (D := (dC, dI)) (ci := 11) (v := .int 0) (C := "StrataBase$Tokens") (T := tb_To) (N := 6) hx hb hT in_To hown hK hP 1 rfl rfl 2 (by decide) (hT _ wd_199) (fun _ h9 => h9) rfl dc_Re_refuse_6 ?_
  have hPc := hP.sub (ws' := [(a1, .inr (8, [.int 0, .int 0, .ref a2, .int 0, .ref a3, .int 3, .int 1, .ref a4, .ref a5, .int 0, .int 0, .int 0, .int 0, .int 0, .int 0, .ref a6, .ref a7, .ref a8, .ref a9]))]) [0] rfl
  have hDc := hD.sub (ws' := [(a1, .inr (8, [.int 0, .int 0, .ref a2, .int 0, .ref a3, .int 3, .int 1, .ref a4, .ref a5, .int 0, .int 0, .int 0, .int 0, .int 0, .int 0, .ref a6, .ref a7, .ref a8, .ref a9]))]) [0] (by decide) rfl
  have hKc := hK.sub (tys' := []) [] rfl
  have hFc := va_free (wc := [(a1, .inr (8, [.int 0, .int 0, .ref a2, .int 0, .ref a3, .int 3, .int 1, .ref a4, .ref a5, .int 0, .int 0, .int 0, .int 0, .int 0, .int 0, .ref a6, .ref a7, .ref a8, .ref a9]))]) hD hS hA [0] rfl
  refine va_callv (va_runV (As := [.int 2, .int 0]) (rest := []) ⟨hx, hb, hml, hown, hT⟩ (c_Re_stop_1 l dC dI a1 a2 a3 a4 a5 a6 a7 a8 a9 s.heap.size) (cwV 2 hT (gd_V wd_720 wd_722 sl_Re_stop wd_6 wd_723) rfl rfl rfl (by decide +kernel) ⟨Nat.le_of_ble_eq_true rfl, Nat.le_of_ble_eq_true rfl⟩) ⟨fun a U g mk q => by obtain ⟨q0, q1, qP, qK, qD⟩ := q; exact ⟨q0, q1, qP, va_K.moved (u := U) (U := U.calling g mk a) (Vm.Alike.refl U.vm) qK, qD⟩, va_recv hK hP (q0 := 0) (ci := 8) rfl rfl, fun U hU hW => ⟨rfl, by rw [hU], by rw [hU]; exact hPc, va_K.moved hW.alike hKc, hDc.weaken (fun _ _ _ _ => trivial)⟩⟩ rfl rfl hl.1 rfl (lv_room (Nat.le_of_ble_eq_true rfl)) dc_Re_refuse_9 ⟨(Nat.le_of_ble_eq_true rfl), (Nat.le_of_ble_eq_true rfl)⟩) hS (fun q _ h => hFc q h) hFc (fun _ t H1 locs ht hvm hr9 hB hz1 hk1 hS => ?_)
  obtain ⟨hP1, hK1, hD1⟩ := hB
  rw [ht] at hP1
  have hK1 := va_K.moved hvm.symm hK1
  obtain ⟨hP, hD⟩ := va_join (wr := [(a3, .inr (11, [.ref a13, .int 0, .int 0, .int 0, .int 0, .int 0]))]) (w1 := [(a1, .inr (8, [.int 2, .int 0, .ref a2, .int 0, .ref a3, .int 3, .int 12, .ref a4, .ref a5, .int 0, .int 0, .int 0, .int 0, .int 0, .int 0, .ref a6, .ref a7, .ref a8, .ref a9]))]) hP hD [0] [1] rfl rfl (by decide) (by decide) hk1 hFc hP1 hD1
  have hK := (hK.sub (tys' := []) [] rfl).app hK1
  generalize H1 = H at hP hS ⊢
  have hP : va_P (dC, dI) vwCl [(a3, .inr (11, [.ref a13, .int 0, .int 0, .int 0, .int 0, .int 0])), (a1, .inr (8, [.int 2, .int 0, .ref a2, .int 0, .ref a3, .int 3, .int 12, .ref a4, .ref a5, .int 0, .int 0, .int 0, .int 0, .int 0, .int 0, .ref a6, .ref a7, .ref a8, .ref a9]))] H := hP
  have hD : va_D A [(a3, .inr (11, [.ref a13, .int 0, .int 0, .int 0, .int 0, .int 0])), (a1, .inr (8, [.int 2, .int 0, .ref a2, .int 0, .ref a3, .int 3, .int 12, .ref a4, .ref a5, .int 0, .int 0, .int 0, .int 0, .int 0, .int 0, .ref a6, .ref a7, .ref a8, .ref a9]))] := hD
  have hK : va_K (dC, dI) vwCl [] s := hK
  have hP9 := hP.sub (ws' := [(a3, .inr (11, [.ref a13, .int 0, .int 0, .int 0, .int 0, .int 0])), (a1, .inr (8, [.int 2, .int 0, .ref a2, .int 0, .ref a3, .int 3, .int 12, .ref a4, .ref a5, .int 0, .int 0, .int 0, .int 0, .int 0, .int 0, .ref a6, .ref a7, .ref a8, .ref a9]))]) [0, 1] rfl
  have hD9 := hD.sub (ws' := [(a3, .inr (11, [.ref a13, .int 0, .int 0, .int 0, .int 0, .int 0])), (a1, .inr (8, [.int 2, .int 0, .ref a2, .int 0, .ref a3, .int 3, .int 12, .ref a4, .ref a5, .int 0, .int 0, .int 0, .int 0, .int 0, .int 0, .ref a6, .ref a7, .ref a8, .ref a9]))]) [0, 1] (by decide) rfl
  have hK9 := hK.sub (tys' := []) [] rfl
  refine W.widen (k := 0) (n := 0) (Nat.le_of_ble_eq_true rfl) (Nat.le_of_ble_eq_true rfl) ?_
  exact W.vret hx hb hr (fun t ht hW => ⟨⟨(), rfl, trivial, by rw [ht]; exact hP9, va_K.moved hW.alike hK9, hD9⟩, hS.F ht⟩) hS.2.2 dc_Re_refuse_12

set_option maxHeartbeats 4000000 in
set_option maxRecDepth 100000 in
theorem c_Re_readPredicate_1 (l : Launch) (dC : Nat → ClassId) (dI : Nat → Nat → Nat) (a1 : Nat) (a2 : Nat) (a3 : Nat) (a4 : Nat) (a5 : Nat) (a6 : Nat) (a7 : Nat) (a8 : Nat) (a9 : Nat) (a13 : Nat) (sz : Nat) : Met l my_Re_readPredicate (Cond.code my_Re_readPredicate cd_Re_readPredicate 1 none :: tblG) ({ frames := 2, cells := 0, slots := 0, locals := 42 }) (va_Pc [.ref a1] (fun U => U.heap.size = sz ∧ va_P (dC, dI) vwCl [(a1, .inr (8, [.int 0, .int 0, .ref a2, .int 0, .ref a3, .int 3, .int 1, .ref a4, .ref a5, .int 0, .int 0, .int 0, .int 0, .int 0, .int 0, .ref a6, .ref a7, .ref a8, .ref a9])), (a3, .inr (11, [.ref a13, .int 0, .int 0, .int 0, .int 0, .int 0]))] U.heap ∧ va_K (dC, dI) vwCl [] U ∧ va_D (fun _ => True) [(a1, .inr (8, [.int 0, .int 0, .ref a2, .int 0, .ref a3, .int 3, .int 1, .ref a4, .ref a5, .int 0, .int 0, .int 0, .int 0, .int 0, .int 0, .ref a6, .ref a7, .ref a8, .ref a9])), (a3, .inr (11, [.ref a13, .int 0, .int 0, .int 0, .int 0, .int 0]))])) (va_Qv (fun _ : Unit => True) (fun (_ : Unit) (t : State) => va_P (dC, dI) vwCl [(a3, .inr (11, [.ref a13, .int 0, .int 0, .int 0, .int 0, .int 0])), (a1, .inr (8, [.int 2, .int 0, .ref a2, .int 0, .ref a3, .int 3, .int 12, .ref a4, .ref a5, .int 0, .int 0, .int 0, .int 0, .int 0, .int 0, .ref a6, .ref a7, .ref a8, .ref a9]))] t.heap ∧ va_K (dC, dI) vwCl [] t ∧ va_D (va_A [(a1, .inr (8, [.int 0, .int 0, .ref a2, .int 0, .ref a3, .int 3, .int 1, .ref a4, .ref a5, .int 0, .int 0, .int 0, .int 0, .int 0, .int 0, .ref a6, .ref a7, .ref a8, .ref a9])), (a3, .inr (11, [.ref a13, .int 0, .int 0, .int 0, .int 0, .int 0]))] sz) [(a3, .inr (11, [.ref a13, .int 0, .int 0, .int 0, .int 0, .int 0])), (a1, .inr (8, [.int 2, .int 0, .ref a2, .int 0, .ref a3, .int 3, .int 12, .ref a4, .ref a5, .int 0, .int 0, .int 0, .int 0, .int 0, .int 0, .ref a6, .ref a7, .ref a8, .ref a9]))]) (va_A [(a1, .inr (8, [.int 0, .int 0, .ref a2, .int 0, .ref a3, .int 3, .int 1, .ref a4, .ref a5, .int 0, .int 0, .int 0, .int 0, .int 0, .int 0, .ref a6, .ref a7, .ref a8, .ref a9])), (a3, .inr (11, [.ref a13, .int 0, .int 0, .int 0, .int 0, .int 0]))] sz)) 0 0 (va_A [(a1, .inr (8, [.int 0, .int 0, .ref a2, .int 0, .ref a3, .int 3, .int 1, .ref a4, .ref a5, .int 0, .int 0, .int 0, .int 0, .int 0, .int 0, .ref a6, .ref a7, .ref a8, .ref a9])), (a3, .inr (11, [.ref a13, .int 0, .int 0, .int 0, .int 0, .int 0]))] sz) := by
  refine Met.ofW (cc := cd_Re_readPredicate) (maxL := 1) (ret := none) (by decide) rfl ?_
  intro p e s m args below meth c s₁ B hml hv
  obtain ⟨rfl, hsz, hP, hK, hD0⟩ := hv
  have hx := B.exec
  have hb := B.bytes
  have hr := B.returns
  have hT : ∀ w ∈ tblG, w.before _ s = true := fun w h => atoms_spec (ws := (Cond.code my_Re_readPredicate cd_Re_readPredicate 1 none :: tblG)) B.pre w (List.mem_cons_of_mem _ h)
  have hown : s.vm.findClass "StrataBase$Reader" = some m.cls := findClass_of_methodNamed B.named
  have hlocks := B.notSynchronized
  subst hsz
  have hD := hD0.self (sz := s.heap.size)
  generalize hAe : va_A [(a1, .inr (8, [.int 0, .int 0, .ref a2, .int 0, .ref a3, .int 3, .int 1, .ref a4, .ref a5, .int 0, .int 0, .int 0, .int 0, .int 0, .int 0, .ref a6, .ref a7, .ref a8, .ref a9])), (a3, .inr (11, [.ref a13, .int 0, .int 0, .int 0, .int 0, .int 0]))] s.heap.size = A at hD ⊢
  have hA : ∀ q : Nat, s.heap.size ≤ q → A q := fun q h => by rw [← hAe]; exact Or.inr h
  have hS : va_S A s.heap s.heap [] := va_S.rf
  have hl := lv_entry ([.ref a1]) (n := 1) (Nat.le_of_ble_eq_true rfl)
  rw [lg_entry_eq]
  generalize (lg_sl ([.ref a1]) ++ List.replicate (1 - (lg_sl ([.ref a1])).length) Slot.unset).toArray = ls at hl ⊢
  have hl : lv_has ls 1 [(0, .ref a1)] := hl
  refine lv_aload_n hx hb dc_Re_readPredicate_0 rfl (lv_at hl 0 rfl) ?_
  refine va_get (D := (dC, dI)) (ci := 8) (v := .ref a3) (C := "StrataBase$Reader") (T := tb_Re) (N := 19) hx hb hT in_Re hown hK hP 0 rfl rfl 4 (by decide) (hT _ wd_228) (fun _ h9 => h9) rfl dc_Re_readPredicate_1 ?_
  refine va_get (D := (dC, dI)) (ci := 11) (v := .int 0) (C := "StrataBase$Tokens") (T := tb_To) (N := 6) hx hb hT in_To hown hK hP 1 rfl rfl 1 (by decide) (hT _ wd_197) (fun _ h9 => h9) rfl dc_Re_readPredicate_4 ?_
  refine lv_iconst (v := 2) hx hb dc_Re_readPredicate_7 (by decide) ?_
  refine lv_icmp_eq (tgt := 16) hx hb dc_Re_readPredicate_8 (by decide) (fun h9 => absurd h9 (by decide)) (fun _ => ?_)
  refine lv_aload_n hx hb dc_Re_readPredicate_11 rfl (lv_at hl 0 rfl) ?_
  have hPc := hP.sub (ws' := [(a1, .inr (8, [.int 0, .int 0, .ref a2, .int 0, .ref a3, .int 3, .int 1, .ref a4, .ref a5, .int 0, .int 0, .int 0, .int 0, .int 0, .int 0, .ref a6, .ref a7, .ref a8, .ref a9])), (a3, .inr (11, [.ref a13, .int 0, .int 0, .int 0, .int 0, .int 0]))]) [0, 1] rfl
  have hDc := hD.sub (ws' := [(a1, .inr (8, [.int 0, .int 0, .ref a2, .int 0, .ref a3, .int 3, .int 1, .ref a4, .ref a5, .int 0, .int 0, .int 0, .int 0, .int 0, .int 0, .ref a6, .ref a7, .ref a8, .ref a9])), (a3, .inr (11, [.ref a13, .int 0, .int 0, .int 0, .int 0, .int 0]))]) [0, 1] (by decide) rfl
  have hKc := hK.sub (tys' := []) [] rfl
  have hFc := va_free (wc := [(a1, .inr (8, [.int 0, .int 0, .ref a2, .int 0, .ref a3, .int 3, .int 1, .ref a4, .ref a5, .int 0, .int 0, .int 0, .int 0, .int 0, .int 0, .ref a6, .ref a7, .ref a8, .ref a9])), (a3, .inr (11, [.ref a13, .int 0, .int 0, .int 0, .int 0, .int 0]))]) hD hS hA [0, 1] rfl
  refine va_callv (va_runV (As := []) (rest := []) ⟨hx, hb, hml, hown, hT⟩ (c_Re_refuse_1 l dC dI a1 a2 a3 a4 a5 a6 a7 a8 a9 a13 s.heap.size) (cwV 0 hT (gd_V wd_766 wd_768 sl_Re_refuse wd_6 wd_769) rfl rfl rfl (by decide +kernel) ⟨Nat.le_of_ble_eq_true rfl, Nat.le_of_ble_eq_true rfl⟩) ⟨fun a U g mk q => by obtain ⟨q0, q1, qP, qK, qD⟩ := q; exact ⟨q0, q1, qP, va_K.moved (u := U) (U := U.calling g mk a) (Vm.Alike.refl U.vm) qK, qD⟩, va_recv hK hP (q0 := 0) (ci := 8) rfl rfl, fun U hU hW => ⟨rfl, by rw [hU], by rw [hU]; exact hPc, va_K.moved hW.alike hKc, hDc.weaken (fun _ _ _ _ => trivial)⟩⟩ rfl rfl hl.1 rfl (lv_room (Nat.le_of_ble_eq_true rfl)) dc_Re_readPredicate_12 ⟨(Nat.le_of_ble_eq_true rfl), (Nat.le_of_ble_eq_true rfl)⟩) hS (fun q _ h => hFc q h) hFc (fun _ t H1 locs ht hvm hr9 hB hz1 hk1 hS => ?_)
  obtain ⟨hP1, hK1, hD1⟩ := hB
  rw [ht] at hP1
  have hK1 := va_K.moved hvm.symm hK1
  obtain ⟨hP, hD⟩ := va_join (wr := []) (w1 := [(a3, .inr (11, [.ref a13, .int 0, .int 0, .int 0, .int 0, .int 0])), (a1, .inr (8, [.int 2, .int 0, .ref a2, .int 0, .ref a3, .int 3, .int 12, .ref a4, .ref a5, .int 0, .int 0, .int 0, .int 0, .int 0, .int 0, .ref a6, .ref a7, .ref a8, .ref a9]))]) hP hD [0, 1] [] rfl rfl (by decide) (by decide) hk1 hFc hP1 hD1
  have hK := (hK.sub (tys' := []) [] rfl).app hK1
  generalize H1 = H at hP hS ⊢
  have hP : va_P (dC, dI) vwCl [(a3, .inr (11, [.ref a13, .int 0, .int 0, .int 0, .int 0, .int 0])), (a1, .inr (8, [.int 2, .int 0, .ref a2, .int 0, .ref a3, .int 3, .int 12, .ref a4, .ref a5, .int 0, .int 0, .int 0, .int 0, .int 0, .int 0, .ref a6, .ref a7, .ref a8, .ref a9]))] H := hP
  have hD : va_D A [(a3, .inr (11, [.ref a13, .int 0, .int 0, .int 0, .int 0, .int 0])), (a1, .inr (8, [.int 2, .int 0, .ref a2, .int 0, .ref a3, .int 3, .int 12, .ref a4, .ref a5, .int 0, .int 0, .int 0, .int 0, .int 0, .int 0, .ref a6, .ref a7, .ref a8, .ref a9]))] := hD
  have hK : va_K (dC, dI) vwCl [] s := hK
  have hP9 := hP.sub (ws' := [(a3, .inr (11, [.ref a13, .int 0, .int 0, .int 0, .int 0, .int 0])), (a1, .inr (8, [.int 2, .int 0, .ref a2, .int 0, .ref a3, .int 3, .int 12, .ref a4, .ref a5, .int 0, .int 0, .int 0, .int 0, .int 0, .int 0, .ref a6, .ref a7, .ref a8, .ref a9]))]) [0, 1] rfl
  have hD9 := hD.sub (ws' := [(a3, .inr (11, [.ref a13, .int 0, .int 0, .int 0, .int 0, .int 0])), (a1, .inr (8, [.int 2, .int 0, .ref a2, .int 0, .ref a3, .int 3, .int 12, .ref a4, .ref a5, .int 0, .int 0, .int 0, .int 0, .int 0, .int 0, .ref a6, .ref a7, .ref a8, .ref a9]))]) [0, 1] (by decide) rfl
  have hK9 := hK.sub (tys' := []) [] rfl
  refine W.widen (k := 0) (n := 0) (Nat.le_of_ble_eq_true rfl) (Nat.le_of_ble_eq_true rfl) ?_
  exact W.vret hx hb hr (fun t ht hW => ⟨⟨(), rfl, trivial, by rw [ht]; exact hP9, va_K.moved hW.alike hK9, hD9⟩, hS.F ht⟩) hS.2.2 dc_Re_readPredicate_15

set_option maxHeartbeats 4000000 in
set_option maxRecDepth 100000 in
theorem c_Re_read_2 (l : Launch) (dC : Nat → ClassId) (dI : Nat → Nat → Nat) (a1 : Nat) (a5 : Nat) (a6 : Nat) (a7 : Nat) (a8 : Nat) (a9 : Nat) (a10 : Nat) (a4 : Nat) (a17 : Nat) (a18 : Nat) (a19 : Nat) (a20 : Nat) (a21 : Nat) (a22 : Nat) (a23 : Nat) (a24 : Nat) (a25 : Nat) (a26 : Nat) (a27 : Nat) (a28 : Nat) (a29 : Nat) (a2 : Nat) (a3 : Nat) (k5 : ClassId) (k6 : ClassId) (k7 : ClassId) (k8 : ClassId) (k9 : ClassId) (sz : Nat) : Met l my_Re_read (Cond.code my_Re_read cd_Re_read 7 none :: tblG) ({ frames := 3, cells := 0, slots := 0, locals := 62 }) (va_Pc [.ref a1, .int 3, .ref a2, .int 0, .ref a3, .ref a4] (fun U => U.heap.size = sz ∧ va_P (dC, dI) vwCl [(a1, .inr (8, [.int 0, .int 0, .ref a5, .int 0, .ref a6, .int 0, .int 0, .null, .null, .int 0, .int 0, .int 0, .int 0, .int 0, .int 0, .ref a7, .ref a8, .ref a9, .ref a10])), (a4, .inr (1, [.int 0, .ref a17, .ref a18, .ref a19, .ref a20, .ref a21, .ref a22, .ref a23, .int 0])), (a5, .inr (6, [.int 0, .ref a24, .ref a25, .ref a26, .int 0])), (a6, .inr (11, [.null, .int 0, .int 0, .int 0, .int 0, .int 0])), (a8, .inr (6, [.int 0, .ref a27, .ref a28, .ref a29, .int 0])), (a18, .inl (k5, 13, .inl (fun _ => 0))), (a19, .inl (k6, 13, .inl (fun _ => 0))), (a20, .inl (k7, 13, .inl (fun _ => 0))), (a21, .inl (k8, 13, .inl (fun _ => 0))), (a22, .inl (k9, 13, .inl (fun _ => 0)))] U.heap ∧ va_K (dC, dI) vwCl [(k5, .int), (k6, .int), (k7, .int), (k8, .int), (k9, .int)] U ∧ va_D (fun _ => True) [(a1, .inr (8, [.int 0, .int 0, .ref a5, .int 0, .ref a6, .int 0, .int 0, .null, .null, .int 0, .int 0, .int 0, .int 0, .int 0, .int 0, .ref a7, .ref a8, .ref a9, .ref a10])), (a4, .inr (1, [.int 0, .ref a17, .ref a18, .ref a19, .ref a20, .ref a21, .ref a22, .ref a23, .int 0])), (a5, .inr (6, [.int 0, .ref a24, .ref a25, .ref a26, .int 0])), (a6, .inr (11, [.null, .int 0, .int 0, .int 0, .int 0, .int 0])), (a8, .inr (6, [.int 0, .ref a27, .ref a28, .ref a29, .int 0])), (a18, .inl (k5, 13, .inl (fun _ => 0))), (a19, .inl (k6, 13, .inl (fun _ => 0))), (a20, .inl (k7, 13, .inl (fun _ => 0))), (a21, .inl (k8, 13, .inl (fun _ => 0))), (a22, .inl (k9, 13, .inl (fun _ => 0)))])) (va_Qv (fun _ : Unit => True) (fun (_ : Unit) (t : State) => ∃ (u3 : Nat → Int32), va_P (dC, dI) vwCl [(a8, .inr (6, [.int 0, .ref a27, .ref a28, .ref a29, .int 0])), (a5, .inr (6, [.int 0, .ref a24, .ref a25, .ref a26, .int 0])), (a4, .inr (1, [.int 0, .ref a17, .ref a18, .ref a19, .ref a20, .ref a21, .ref a22, .ref a23, .int 1])), (a18, .inl (k5, 13, .inl (fun _ => 0))), (a19, .inl (k6, 13, .inl u3)), (a20, .inl (k7, 13, .inl (fun _ => 0))), (a21, .inl (k8, 13, .inl (fun _ => 0))), (a22, .inl (k9, 13, .inl (fun _ => 0))), (a6, .inr (11, [.ref a2, .int 0, .int 0, .int 0, .int 0, .int 0])), (a1, .inr (8, [.int 2, .int 0, .ref a5, .int 0, .ref a6, .int 3, .int 12, .ref a3, .ref a4, .int 0, .int 0, .int 0, .int 0, .int 0, .int 0, .ref a7, .ref a8, .ref a9, .ref a10]))] t.heap ∧ va_K (dC, dI) vwCl [(k5, .int), (k6, .int), (k7, .int), (k8, .int), (k9, .int)] t ∧ va_D (va_A [(a1, .inr (8, [.int 0, .int 0, .ref a5, .int 0, .ref a6, .int 0, .int 0, .null, .null, .int 0, .int 0, .int 0, .int 0, .int 0, .int 0, .ref a7, .ref a8, .ref a9, .ref a10])), (a4, .inr (1, [.int 0, .ref a17, .ref a18, .ref a19, .ref a20, .ref a21, .ref a22, .ref a23, .int 0])), (a5, .inr (6, [.int 0, .ref a24, .ref a25, .ref a26, .int 0])), (a6, .inr (11, [.null, .int 0, .int 0, .int 0, .int 0, .int 0])), (a8, .inr (6, [.int 0, .ref a27, .ref a28, .ref a29, .int 0])), (a18, .inl (k5, 13, .inl (fun _ => 0))), (a19, .inl (k6, 13, .inl (fun _ => 0))), (a20, .inl (k7, 13, .inl (fun _ => 0))), (a21, .inl (k8, 13, .inl (fun _ => 0))), (a22, .inl (k9, 13, .inl (fun _ => 0)))] sz) [(a8, .inr (6, [.int 0, .ref a27, .ref a28, .ref a29, .int 0])), (a5, .inr (6, [.int 0, .ref a24, .ref a25, .ref a26, .int 0])), (a4, .inr (1, [.int 0, .ref a17, .ref a18, .ref a19, .ref a20, .ref a21, .ref a22, .ref a23, .int 1])), (a18, .inl (k5, 13, .inl (fun _ => 0))), (a19, .inl (k6, 13, .inl u3)), (a20, .inl (k7, 13, .inl (fun _ => 0))), (a21, .inl (k8, 13, .inl (fun _ => 0))), (a22, .inl (k9, 13, .inl (fun _ => 0))), (a6, .inr (11, [.ref a2, .int 0, .int 0, .int 0, .int 0, .int 0])), (a1, .inr (8, [.int 2, .int 0, .ref a5, .int 0, .ref a6, .int 3, .int 12, .ref a3, .ref a4, .int 0, .int 0, .int 0, .int 0, .int 0, .int 0, .ref a7, .ref a8, .ref a9, .ref a10]))]) (va_A [(a1, .inr (8, [.int 0, .int 0, .ref a5, .int 0, .ref a6, .int 0, .int 0, .null, .null, .int 0, .int 0, .int 0, .int 0, .int 0, .int 0, .ref a7, .ref a8, .ref a9, .ref a10])), (a4, .inr (1, [.int 0, .ref a17, .ref a18, .ref a19, .ref a20, .ref a21, .ref a22, .ref a23, .int 0])), (a5, .inr (6, [.int 0, .ref a24, .ref a25, .ref a26, .int 0])), (a6, .inr (11, [.null, .int 0, .int 0, .int 0, .int 0, .int 0])), (a8, .inr (6, [.int 0, .ref a27, .ref a28, .ref a29, .int 0])), (a18, .inl (k5, 13, .inl (fun _ => 0))), (a19, .inl (k6, 13, .inl (fun _ => 0))), (a20, .inl (k7, 13, .inl (fun _ => 0))), (a21, .inl (k8, 13, .inl (fun _ => 0))), (a22, .inl (k9, 13, .inl (fun _ => 0)))] sz)) 0 0 (va_A [(a1, .inr (8, [.int 0, .int 0, .ref a5, .int 0, .ref a6, .int 0, .int 0, .null, .null, .int 0, .int 0, .int 0, .int 0, .int 0, .int 0, .ref a7, .ref a8, .ref a9, .ref a10])), (a4, .inr (1, [.int 0, .ref a17, .ref a18, .ref a19, .ref a20, .ref a21, .ref a22, .ref a23, .int 0])), (a5, .inr (6, [.int 0, .ref a24, .ref a25, .ref a26, .int 0])), (a6, .inr (11, [.null, .int 0, .int 0, .int 0, .int 0, .int 0])), (a8, .inr (6, [.int 0, .ref a27, .ref a28, .ref a29, .int 0])), (a18, .inl (k5, 13, .inl (fun _ => 0))), (a19, .inl (k6, 13, .inl (fun _ => 0))), (a20, .inl (k7, 13, .inl (fun _ => 0))), (a21, .inl (k8, 13, .inl (fun _ => 0))), (a22, .inl (k9, 13, .inl (fun _ => 0)))] sz) := by
  refine Met.ofW (cc := cd_Re_read) (maxL := 7) (ret := none) (by decide) rfl ?_
  intro p e s m args below meth c s₁ B hml hv
  obtain ⟨rfl, hsz, hP, hK, hD0⟩ := hv
  have hx := B.exec
  have hb := B.bytes
  have hr := B.returns
  have hT : ∀ w ∈ tblG, w.before _ s = true := fun w h => atoms_spec (ws := (Cond.code my_Re_read cd_Re_read 7 none :: tblG)) B.pre w (List.mem_cons_of_mem _ h)
  have hown : s.vm.findClass "StrataBase$Reader" = some m.cls := findClass_of_methodNamed B.named
  have hlocks := B.notSynchronized
  subst hsz
  have hD := hD0.self (sz := s.heap.size)
  generalize hAe : va_A [(a1, .inr (8, [.int 0, .int 0, .ref a5, .int 0, .ref a6, .int 0, .int 0, .null, .null, .int 0, .int 0, .int 0, .int 0, .int 0, .int 0, .ref a7, .ref a8, .ref a9, .ref a10])), (a4, .inr (1, [.int 0, .ref a17, .ref a18, .ref a19, .ref a20, .ref a21, .ref a22, .ref a23, .int 0])), (a5, .inr (6, [.int 0, .ref a24, .ref a25, .ref a26, .int 0])), (a6, .inr (11, [.null, .int 0, .int 0, .int 0, .int 0, .int 0])), (a8, .inr (6, [.int 0, .ref a27, .ref a28, .ref a29, .int 0])), (a18, .inl (k5, 13, .inl (fun _ => 0))), (a19, .inl (k6, 13, .inl (fun _ => 0))), (a20, .inl (k7, 13, .inl (fun _ => 0))), (a21, .inl (k8, 13, .inl (fun _ => 0))), (a22, .inl (k9, 13, .inl (fun _ => 0)))] s.heap.size = A at hD ⊢
  have hA : ∀ q : Nat, s.heap.size ≤ q → A q := fun q h => by rw [← hAe]; exact Or.inr h
  have hS : va_S A s.heap s.heap [] := va_S.rf
  have hl := lv_entry ([.ref a1, .int 3, .ref a2, .int 0, .ref a3, .ref a4]) (n := 7) (Nat.le_of_ble_eq_true rfl)
  rw [lg_entry_eq]
  generalize (lg_sl ([.ref a1, .int 3, .ref a2, .int 0, .ref a3, .ref a4]) ++ List.replicate (7 - (lg_sl ([.ref a1, .int 3, .ref a2, .int 0, .ref a3, .ref a4])).length) Slot.unset).toArray = ls at hl ⊢
  have hl : lv_has ls 7 [(0, .ref a1), (1, .int 3), (2, .ref a2), (3, .int 0), (4, .ref a3), (5, .ref a4)] := hl
  refine lv_aload_n hx hb dc_Re_read_0 rfl (lv_at hl 0 rfl) ?_
  refine lv_iload_n hx hb dc_Re_read_1 rfl (lv_at hl 1 rfl) ?_
  refine va_put (D := (dC, dI)) (ci := 8) (v := .int 3) (ty := .int) (C := "StrataBase$Reader") (T := tb_Re) (N := 19) hx hb hT in_Re ty_Re tk_Re nm_Re hown hK hP hD hS 0 rfl rfl 5 (by decide) (hT _ wd_229) (fun _ h9 => h9) rfl (by decide +kernel) rfl rfl (Nat.le_of_ble_eq_true rfl) dc_Re_read_2 (fun H locs hP hD hS => ?_)
  have hP : va_P (dC, dI) vwCl [(a1, .inr (8, [.int 0, .int 0, .ref a5, .int 0, .ref a6, .int 3, .int 0, .null, .null, .int 0, .int 0, .int 0, .int 0, .int 0, .int 0, .ref a7, .ref a8, .ref a9, .ref a10])), (a4, .inr (1, [.int 0, .ref a17, .ref a18, .ref a19, .ref a20, .ref a21, .ref a22, .ref a23, .int 0])), (a5, .inr (6, [.int 0, .ref a24, .ref a25, .ref a26, .int 0])), (a6, .inr (11, [.null, .int 0, .int 0, .int 0, .int 0, .int 0])), (a8, .inr (6, [.int 0, .ref a27, .ref a28, .ref a29, .int 0])), (a18, .inl (k5, 13, .inl (fun _ => 0))), (a19, .inl (k6, 13, .inl (fun _ => 0))), (a20, .inl (k7, 13, .inl (fun _ => 0))), (a21, .inl (k8, 13, .inl (fun _ => 0))), (a22, .inl (k9, 13, .inl (fun _ => 0)))] H := hP
  have hD : va_D A [(a1, .inr (8, [.int 0, .int 0, .ref a5, .int 0, .ref a6, .int 3, .int 0, .null, .null, .int 0, .int 0, .int 0, .int 0, .int 0, .int 0, .ref a7, .ref a8, .ref a9, .ref a10])), (a4, .inr (1, [.int 0, .ref a17, .ref a18, .ref a19, .ref a20, .ref a21, .ref a22, .ref a23, .int 0])), (a5, .inr (6, [.int 0, .ref a24, .ref a25, .ref a26, .int 0])), (a6, .inr (11, [.null, .int 0, .int 0, .int 0, .int 0, .int 0])), (a8, .inr (6, [.int 0, .ref a27, .ref a28, .ref a29, .int 0])), (a18, .inl (k5, 13, .inl (fun _ => 0))), (a19, .inl (k6, 13, .inl (fun _ => 0))), (a20, .inl (k7, 13, .inl (fun _ => 0))), (a21, .inl (k8, 13, .inl (fun _ => 0))), (a22, .inl (k9, 13, .inl (fun _ => 0)))] := hD
  refine lv_aload_n hx hb dc_Re_read_5 rfl (lv_at hl 0 rfl) ?_
  refine lv_aload hx hb dc_Re_read_6 (lv_at hl 4 rfl) ?_
  refine va_put (D := (dC, dI)) (ci := 8) (v := .ref a3) (ty := .object "StrataBase$Program") (C := "StrataBase$Reader") (T := tb_Re) (N := 19) hx hb hT in_Re ty_Re tk_Re nm_Re hown hK hP hD hS 0 rfl rfl 7 (by decide) (hT _ wd_231) (fun _ h9 => h9) rfl (by decide +kernel) rfl rfl (Nat.le_of_ble_eq_true rfl) dc_Re_read_8 (fun H locs hP hD hS => ?_)
  have hP : va_P (dC, dI) vwCl [(a1, .inr (8, [.int 0, .int 0, .ref a5, .int 0, .ref a6, .int 3, .int 0, .ref a3, .null, .int 0, .int 0, .int 0, .int 0, .int 0, .int 0, .ref a7, .ref a8, .ref a9, .ref a10])), (a4, .inr (1, [.int 0, .ref a17, .ref a18, .ref a19, .ref a20, .ref a21, .ref a22, .ref a23, .int 0])), (a5, .inr (6, [.int 0, .ref a24, .ref a25, .ref a26, .int 0])), (a6, .inr (11, [.null, .int 0, .int 0, .int 0, .int 0, .int 0])), (a8, .inr (6, [.int 0, .ref a27, .ref a28, .ref a29, .int 0])), (a18, .inl (k5, 13, .inl (fun _ => 0))), (a19, .inl (k6, 13, .inl (fun _ => 0))), (a20, .inl (k7, 13, .inl (fun _ => 0))), (a21, .inl (k8, 13, .inl (fun _ => 0))), (a22, .inl (k9, 13, .inl (fun _ => 0)))] H := hP
  have hD : va_D A [(a1, .inr (8, [.int 0, .int 0, .ref a5, .int 0, .ref a6, .int 3, .int 0, .ref a3, .null, .int 0, .int 0, .int 0, .int 0, .int 0, .int 0, .ref a7, .ref a8, .ref a9, .ref a10])), (a4, .inr (1, [.int 0, .ref a17, .ref a18, .ref a19, .ref a20, .ref a21, .ref a22, .ref a23, .int 0])), (a5, .inr (6, [.int 0, .ref a24, .ref a25, .ref a26, .int 0])), (a6, .inr (11, [.null, .int 0, .int 0, .int 0, .int 0, .int 0])), (a8, .inr (6, [.int 0, .ref a27, .ref a28, .ref a29, .int 0])), (a18, .inl (k5, 13, .inl (fun _ => 0))), (a19, .inl (k6, 13, .inl (fun _ => 0))), (a20, .inl (k7, 13, .inl (fun _ => 0))), (a21, .inl (k8, 13, .inl (fun _ => 0))), (a22, .inl (k9, 13, .inl (fun _ => 0)))] := hD
  refine lv_aload_n hx hb dc_Re_read_11 rfl (lv_at hl 0 rfl) ?_
  refine lv_aload hx hb dc_Re_read_12 (lv_at hl 5 rfl) ?_
  refine va_put (D := (dC, dI)) (ci := 8) (v := .ref a4) (ty := .object "StrataBase$Clauses") (C := "StrataBase$Reader") (T := tb_Re) (N := 19) hx hb hT in_Re ty_Re tk_Re nm_Re hown hK hP hD hS 0 rfl rfl 8 (by decide) (hT _ wd_232) (fun _ h9 => h9) rfl (by decide +kernel) rfl rfl (Nat.le_of_ble_eq_true rfl) dc_Re_read_14 (fun H locs hP hD hS => ?_)
  have hP : va_P (dC, dI) vwCl [(a1, .inr (8, [.int 0, .int 0, .ref a5, .int 0, .ref a6, .int 3, .int 0, .ref a3, .ref a4, .int 0, .int 0, .int 0, .int 0, .int 0, .int 0, .ref a7, .ref a8, .ref a9, .ref a10])), (a4, .inr (1, [.int 0, .ref a17, .ref a18, .ref a19, .ref a20, .ref a21, .ref a22, .ref a23, .int 0])), (a5, .inr (6, [.int 0, .ref a24, .ref a25, .ref a26, .int 0])), (a6, .inr (11, [.null, .int 0, .int 0, .int 0, .int 0, .int 0])), (a8, .inr (6, [.int 0, .ref a27, .ref a28, .ref a29, .int 0])), (a18, .inl (k5, 13, .inl (fun _ => 0))), (a19, .inl (k6, 13, .inl (fun _ => 0))), (a20, .inl (k7, 13, .inl (fun _ => 0))), (a21, .inl (k8, 13, .inl (fun _ => 0))), (a22, .inl (k9, 13, .inl (fun _ => 0)))] H := hP
  have hD : va_D A [(a1, .inr (8, [.int 0, .int 0, .ref a5, .int 0, .ref a6, .int 3, .int 0, .ref a3, .ref a4, .int 0, .int 0, .int 0, .int 0, .int 0, .int 0, .ref a7, .ref a8, .ref a9, .ref a10])), (a4, .inr (1, [.int 0, .ref a17, .ref a18, .ref a19, .ref a20, .ref a21, .ref a22, .ref a23, .int 0])), (a5, .inr (6, [.int 0, .ref a24, .ref a25, .ref a26, .int 0])), (a6, .inr (11, [.null, .int 0, .int 0, .int 0, .int 0, .int 0])), (a8, .inr (6, [.int 0, .ref a27, .ref a28, .ref a29, .int 0])), (a18, .inl (k5, 13, .inl (fun _ => 0))), (a19, .inl (k6, 13, .inl (fun _ => 0))), (a20, .inl (k7, 13, .inl (fun _ => 0))), (a21, .inl (k8, 13, .inl (fun _ => 0))), (a22, .inl (k9, 13, .inl (fun _ => 0)))] := hD
  refine lv_aload_n hx hb dc_Re_read_17 rfl (lv_at hl 0 rfl) ?_
  refine va_get (D := (dC, dI)) (ci := 8) (v := .ref a6) (C := "StrataBase$Reader") (T := tb_Re) (N := 19) hx hb hT in_Re hown hK hP 0 rfl rfl 4 (by decide) (hT _ wd_228) (fun _ h9 => h9) rfl dc_Re_read_18 ?_
  refine lv_aload_n hx hb dc_Re_read_21 rfl (lv_at hl 2 rfl) ?_
  refine lv_iload_n hx hb dc_Re_read_22 rfl (lv_at hl 3 rfl) ?_
  have hPc := hP.sub (ws' := [(a6, .inr (11, [.null, .int 0, .int 0, .int 0, .int 0, .int 0]))]) [3] rfl
  have hDc := hD.sub (ws' := [(a6, .inr (11, [.null, .int 0, .int 0, .int 0, .int 0, .int 0]))]) [3] (by decide) rfl
  have hKc := hK.sub (tys' := []) [] rfl
  have hFc := va_free (wc := [(a6, .inr (11, [.null, .int 0, .int 0, .int 0, .int 0, .int 0]))]) hD hS hA [3] rfl
  refine va_callv (va_runV (As := [.ref a2, .int 0]) (rest := []) ⟨hx, hb, hml, hown, hT⟩ (c_To_open_1 l dC dI a6 a2 H.size) (cwV 2 hT (gd_V wd_565 wd_566 wd_567 wd_7 wd_568) rfl rfl rfl (by decide +kernel) ⟨Nat.le_of_ble_eq_true rfl, Nat.le_of_ble_eq_true rfl⟩) ⟨fun a U g mk q => by obtain ⟨q0, q1, qP, qK, qD⟩ := q; exact ⟨q0, q1, qP, va_K.moved (u := U) (U := U.calling g mk a) (Vm.Alike.refl U.vm) qK, qD⟩, va_recv hK hP (q0 := 3) (ci := 11) rfl rfl, fun U hU hW => ⟨rfl, by rw [hU], by rw [hU]; exact hPc, va_K.moved hW.alike hKc, hDc.weaken (fun _ _ _ _ => trivial)⟩⟩ rfl rfl hl.1 rfl (lv_room (Nat.le_of_ble_eq_true rfl)) dc_Re_read_23 ⟨(Nat.le_of_ble_eq_true rfl), (Nat.le_of_ble_eq_true rfl)⟩) hS (fun q _ h => hFc q h) hFc (fun _ t H1 locs ht hvm hr9 hB hz1 hk1 hS => ?_)
  obtain ⟨hP1, hK1, hD1⟩ := hB
  rw [ht] at hP1
  have hK1 := va_K.moved hvm.symm hK1
  obtain ⟨hP, hD⟩ := va_join (wr := [(a1, .inr (8, [.int 0, .int 0, .ref a5, .int 0, .ref a6, .int 3, .int 0, .ref a3, .ref a4, .int 0, .int 0, .int 0, .int 0, .int 0, .int 0, .ref a7, .ref a8, .ref a9, .ref a10])), (a4, .inr (1, [.int 0, .ref a17, .ref a18, .ref a19, .ref a20, .ref a21, .ref a22, .ref a23, .int 0])), (a5, .inr (6, [.int 0, .ref a24, .ref a25, .ref a26, .int 0])), (a8, .inr (6, [.int 0, .ref a27, .ref a28, .ref a29, .int 0])), (a18, .inl (k5, 13, .inl (fun _ => 0))), (a19, .inl (k6, 13, .inl (fun _ => 0))), (a20, .inl (k7, 13, .inl (fun _ => 0))), (a21, .inl (k8, 13, .inl (fun _ => 0))), (a22, .inl (k9, 13, .inl (fun _ => 0)))]) (w1 := [(a6, .inr (11, [.ref a2, .int 0, .int 0, .int 0, .int 0, .int 0]))]) hP hD [3] [0, 1, 2, 4, 5, 6, 7, 8, 9] rfl rfl (by decide) (by decide) hk1 hFc hP1 hD1
  have hK := (hK.sub (tys' := [(k5, .int), (k6, .int), (k7, .int), (k8, .int), (k9, .int)]) [0, 1, 2, 3, 4] rfl).app hK1
  generalize H1 = H at hP hS ⊢
  have hP : va_P (dC, dI) vwCl [(a1, .inr (8, [.int 0, .int 0, .ref a5, .int 0, .ref a6, .int 3, .int 0, .ref a3, .ref a4, .int 0, .int 0, .int 0, .int 0, .int 0, .int 0, .ref a7, .ref a8, .ref a9, .ref a10])), (a4, .inr (1, [.int 0, .ref a17, .ref a18, .ref a19, .ref a20, .ref a21, .ref a22, .ref a23, .int 0])), (a5, .inr (6, [.int 0, .ref a24, .ref a25, .ref a26, .int 0])), (a8, .inr (6, [.int 0, .ref a27, .ref a28, .ref a29, .int 0])), (a18, .inl (k5, 13, .inl (fun _ => 0))), (a19, .inl (k6, 13, .inl (fun _ => 0))), (a20, .inl (k7, 13, .inl (fun _ => 0))), (a21, .inl (k8, 13, .inl (fun _ => 0))), (a22, .inl (k9, 13, .inl (fun _ => 0))), (a6, .inr (11, [.ref a2, .int 0, .int 0, .int 0, .int 0, .int 0]))] H := hP
  have hD : va_D A [(a1, .inr (8, [.int 0, .int 0, .ref a5, .int 0, .ref a6, .int 3, .int 0, .ref a3, .ref a4, .int 0, .int 0, .int 0, .int 0, .int 0, .int 0, .ref a7, .ref a8, .ref a9, .ref a10])), (a4, .inr (1, [.int 0, .ref a17, .ref a18, .ref a19, .ref a20, .ref a21, .ref a22, .ref a23, .int 0])), (a5, .inr (6, [.int 0, .ref a24, .ref a25, .ref a26, .int 0])), (a8, .inr (6, [.int 0, .ref a27, .ref a28, .ref a29, .int 0])), (a18, .inl (k5, 13, .inl (fun _ => 0))), (a19, .inl (k6, 13, .inl (fun _ => 0))), (a20, .inl (k7, 13, .inl (fun _ => 0))), (a21, .inl (k8, 13, .inl (fun _ => 0))), (a22, .inl (k9, 13, .inl (fun _ => 0))), (a6, .inr (11, [.ref a2, .int 0, .int 0, .int 0, .int 0, .int 0]))] := hD
  have hK : va_K (dC, dI) vwCl [(k5, .int), (k6, .int), (k7, .int), (k8, .int), (k9, .int)] s := hK
  refine lv_aload_n hx hb dc_Re_read_26 rfl (lv_at hl 0 rfl) ?_
  have hPc := hP.sub (ws' := [(a1, .inr (8, [.int 0, .int 0, .ref a5, .int 0, .ref a6, .int 3, .int 0, .ref a3, .ref a4, .int 0, .int 0, .int 0, .int 0, .int 0, .int 0, .ref a7, .ref a8, .ref a9, .ref a10])), (a5, .inr (6, [.int 0, .ref a24, .ref a25, .ref a26, .int 0])), (a4, .inr (1, [.int 0, .ref a17, .ref a18, .ref a19, .ref a20, .ref a21, .ref a22, .ref a23, .int 0])), (a8, .inr (6, [.int 0, .ref a27, .ref a28, .ref a29, .int 0])), (a18, .inl (k5, 13, .inl (fun _ => 0))), (a19, .inl (k6, 13, .inl (fun _ => 0))), (a20, .inl (k7, 13, .inl (fun _ => 0))), (a21, .inl (k8, 13, .inl (fun _ => 0))), (a22, .inl (k9, 13, .inl (fun _ => 0)))]) [0, 2, 1, 3, 4, 5, 6, 7, 8] rfl
  have hDc := hD.sub (ws' := [(a1, .inr (8, [.int 0, .int 0, .ref a5, .int 0, .ref a6, .int 3, .int 0, .ref a3, .ref a4, .int 0, .int 0, .int 0, .int 0, .int 0, .int 0, .ref a7, .ref a8, .ref a9, .ref a10])), (a5, .inr (6, [.int 0, .ref a24, .ref a25, .ref a26, .int 0])), (a4, .inr (1, [.int 0, .ref a17, .ref a18, .ref a19, .ref a20, .ref a21, .ref a22, .ref a23, .int 0])), (a8, .inr (6, [.int 0, .ref a27, .ref a28, .ref a29, .int 0])), (a18, .inl (k5, 13, .inl (fun _ => 0))), (a19, .inl (k6, 13, .inl (fun _ => 0))), (a20, .inl (k7, 13, .inl (fun _ => 0))), (a21, .inl (k8, 13, .inl (fun _ => 0))), (a22, .inl (k9, 13, .inl (fun _ => 0)))]) [0, 2, 1, 3, 4, 5, 6, 7, 8] (by decide) rfl
  have hKc := hK.sub (tys' := [(k5, .int), (k6, .int), (k7, .int), (k8, .int), (k9, .int)]) [0, 1, 2, 3, 4] rfl
  have hFc := va_free (wc := [(a1, .inr (8, [.int 0, .int 0, .ref a5, .int 0, .ref a6, .int 3, .int 0, .ref a3, .ref a4, .int 0, .int 0, .int 0, .int 0, .int 0, .int 0, .ref a7, .ref a8, .ref a9, .ref a10])), (a5, .inr (6, [.int 0, .ref a24, .ref a25, .ref a26, .int 0])), (a4, .inr (1, [.int 0, .ref a17, .ref a18, .ref a19, .ref a20, .ref a21, .ref a22, .ref a23, .int 0])), (a8, .inr (6, [.int 0, .ref a27, .ref a28, .ref a29, .int 0])), (a18, .inl (k5, 13, .inl (fun _ => 0))), (a19, .inl (k6, 13, .inl (fun _ => 0))), (a20, .inl (k7, 13, .inl (fun _ => 0))), (a21, .inl (k8, 13, .inl (fun _ => 0))), (a22, .inl (k9, 13, .inl (fun _ => 0)))]) hD hS hA [0, 2, 1, 3, 4, 5, 6, 7, 8] rfl
  refine va_callv (va_runV (As := []) (rest := []) ⟨hx, hb, hml, hown, hT⟩ (c_Re_begin_2 l dC dI a1 a5 a6 a3 a4 a7 a8 a9 a10 a24 a25 a26 a17 a18 a19 a20 a21 a22 a23 a27 a28 a29 k5 k6 k7 k8 k9 H.size) (cwV 0 hT (gd_V wd_569 wd_571 sl_Re_begin wd_6 wd_572) rfl rfl rfl (by decide +kernel) ⟨Nat.le_of_ble_eq_true rfl, Nat.le_of_ble_eq_true rfl⟩) ⟨fun a U g mk q => by obtain ⟨q0, q1, qP, qK, qD⟩ := q; exact ⟨q0, q1, qP, va_K.moved (u := U) (U := U.calling g mk a) (Vm.Alike.refl U.vm) qK, qD⟩, va_recv hK hP (q0 := 0) (ci := 8) rfl rfl, fun U hU hW => ⟨rfl, by rw [hU], by rw [hU]; exact hPc, va_K.moved hW.alike hKc, hDc.weaken (fun _ _ _ _ => trivial)⟩⟩ rfl rfl hl.1 rfl (lv_room (Nat.le_of_ble_eq_true rfl)) dc_Re_read_27 ⟨(Nat.le_of_ble_eq_true rfl), (Nat.le_of_ble_eq_true rfl)⟩) hS (fun q _ h => hFc q h) hFc (fun _ t H1 locs ht hvm hr9 hB hz1 hk1 hS => ?_)
  obtain ⟨u3, hP1, hK1, hD1⟩ := hB
  rw [ht] at hP1
  have hK1 := va_K.moved hvm.symm hK1
  obtain ⟨hP, hD⟩ := va_join (wr := [(a6, .inr (11, [.ref a2, .int 0, .int 0, .int 0, .int 0, .int 0]))]) (w1 := [(a8, .inr (6, [.int 0, .ref a27, .ref a28, .ref a29, .int 0])), (a1, .inr (8, [.int 0, .int 0, .ref a5, .int 0, .ref a6, .int 3, .int 1, .ref a3, .ref a4, .int 0, .int 0, .int 0, .int 0, .int 0, .int 0, .ref a7, .ref a8, .ref a9, .ref a10])), (a5, .inr (6, [.int 0, .ref a24, .ref a25, .ref a26, .int 0])), (a4, .inr (1, [.int 0, .ref a17, .ref a18, .ref a19, .ref a20, .ref a21, .ref a22, .ref a23, .int 1])), (a18, .inl (k5, 13, .inl (fun _ => 0))), (a19, .inl (k6, 13, .inl u3)), (a20, .inl (k7, 13, .inl (fun _ => 0))), (a21, .inl (k8, 13, .inl (fun _ => 0))), (a22, .inl (k9, 13, .inl (fun _ => 0)))]) hP hD [0, 2, 1, 3, 4, 5, 6, 7, 8] [9] rfl rfl (by decide) (by decide) hk1 hFc hP1 hD1
  have hK := (hK.sub (tys' := []) [] rfl).app hK1
  generalize H1 = H at hP hS ⊢
  have hP : va_P (dC, dI) vwCl [(a6, .inr (11, [.ref a2, .int 0, .int 0, .int 0, .int 0, .int 0])), (a8, .inr (6, [.int 0, .ref a27, .ref a28, .ref a29, .int 0])), (a1, .inr (8, [.int 0, .int 0, .ref a5, .int 0, .ref a6, .int 3, .int 1, .ref a3, .ref a4, .int 0, .int 0, .int 0, .int 0, .int 0, .int 0, .ref a7, .ref a8, .ref a9, .ref a10])), (a5, .inr (6, [.int 0, .ref a24, .ref a25, .ref a26, .int 0])), (a4, .inr (1, [.int 0, .ref a17, .ref a18, .ref a19, .ref a20, .ref a21, .ref a22, .ref a23, .int 1])), (a18, .inl (k5, 13, .inl (fun _ => 0))), (a19, .inl (k6, 13, .inl u3)), (a20, .inl (k7, 13, .inl (fun _ => 0))), (a21, .inl (k8, 13, .inl (fun _ => 0))), (a22, .inl (k9, 13, .inl (fun _ => 0)))] H := hP
  have hD : va_D A [(a6, .inr (11, [.ref a2, .int 0, .int 0, .int 0, .int 0, .int 0])), (a8, .inr (6, [.int 0, .ref a27, .ref a28, .ref a29, .int 0])), (a1, .inr (8, [.int 0, .int 0, .ref a5, .int 0, .ref a6, .int 3, .int 1, .ref a3, .ref a4, .int 0, .int 0, .int 0, .int 0, .int 0, .int 0, .ref a7, .ref a8, .ref a9, .ref a10])), (a5, .inr (6, [.int 0, .ref a24, .ref a25, .ref a26, .int 0])), (a4, .inr (1, [.int 0, .ref a17, .ref a18, .ref a19, .ref a20, .ref a21, .ref a22, .ref a23, .int 1])), (a18, .inl (k5, 13, .inl (fun _ => 0))), (a19, .inl (k6, 13, .inl u3)), (a20, .inl (k7, 13, .inl (fun _ => 0))), (a21, .inl (k8, 13, .inl (fun _ => 0))), (a22, .inl (k9, 13, .inl (fun _ => 0)))] := hD
  have hK : va_K (dC, dI) vwCl [(k5, .int), (k6, .int), (k7, .int), (k8, .int), (k9, .int)] s := hK
  refine lv_iconst (v := 0) hx hb dc_Re_read_30 (by decide) ?_
  refine lv_istore (lv' := [(6, .int 0), (0, .ref a1), (1, .int 3), (2, .ref a2), (3, .int 0), (4, .ref a3), (5, .ref a4)]) hx hb dc_Re_read_31 hl (by decide) rfl (fun ls hl => ?_)
  refine lv_iload hx hb dc_Re_read_33 (lv_at hl 0 rfl) ?_
  refine lv_iload_n hx hb dc_Re_read_35 rfl (lv_at hl 4 rfl) ?_
  refine lv_icmp_gt (tgt := 208) hx hb dc_Re_read_36 (by decide) (fun h9 => absurd h9 (by decide)) (fun _ => ?_)
  refine lv_aload_n hx hb dc_Re_read_39 rfl (lv_at hl 1 rfl) ?_
  refine va_get (D := (dC, dI)) (ci := 8) (v := .int 1) (C := "StrataBase$Reader") (T := tb_Re) (N := 19) hx hb hT in_Re hown hK hP 2 rfl rfl 6 (by decide) (hT _ wd_230) (fun _ h9 => h9) rfl dc_Re_read_40 ?_
  refine lv_bipush (v := 12) hx hb dc_Re_read_43 (by decide) ?_
  refine lv_icmp_eq (tgt := 208) hx hb dc_Re_read_45 (by decide) (fun h9 => absurd h9 (by decide)) (fun _ => ?_)
  refine lv_aload_n hx hb dc_Re_read_48 rfl (lv_at hl 1 rfl) ?_
  refine va_get (D := (dC, dI)) (ci := 8) (v := .ref a6) (C := "StrataBase$Reader") (T := tb_Re) (N := 19) hx hb hT in_Re hown hK hP 2 rfl rfl 4 (by decide) (hT _ wd_228) (fun _ h9 => h9) rfl dc_Re_read_49 ?_
  have hPc := hP.sub (ws' := [(a6, .inr (11, [.ref a2, .int 0, .int 0, .int 0, .int 0, .int 0]))]) [0] rfl
  have hDc := hD.sub (ws' := [(a6, .inr (11, [.ref a2, .int 0, .int 0, .int 0, .int 0, .int 0]))]) [0] (by decide) rfl
  have hKc := hK.sub (tys' := []) [] rfl
  have hFc := va_free (wc := [(a6, .inr (11, [.ref a2, .int 0, .int 0, .int 0, .int 0, .int 0]))]) hD hS hA [0] rfl
  refine va_callv (va_runV (As := []) (rest := []) ⟨hx, hb, hml, hown, hT⟩ (c_To_next_1 l dC dI a6 a2 H.size) (cwV 0 hT (gd_V wd_603 wd_604 wd_605 wd_7 wd_606) rfl rfl rfl (by decide +kernel) ⟨Nat.le_of_ble_eq_true rfl, Nat.le_of_ble_eq_true rfl⟩) ⟨fun a U g mk q => by obtain ⟨q0, q1, qP, qK, qD⟩ := q; exact ⟨q0, q1, qP, va_K.moved (u := U) (U := U.calling g mk a) (Vm.Alike.refl U.vm) qK, qD⟩, va_recv hK hP (q0 := 0) (ci := 11) rfl rfl, fun U hU hW => ⟨rfl, by rw [hU], by rw [hU]; exact hPc, va_K.moved hW.alike hKc, hDc.weaken (fun _ _ _ _ => trivial)⟩⟩ rfl rfl hl.1 rfl (lv_room (Nat.le_of_ble_eq_true rfl)) dc_Re_read_52 ⟨(Nat.le_of_ble_eq_true rfl), (Nat.le_of_ble_eq_true rfl)⟩) hS (fun q _ h => hFc q h) hFc (fun _ t H1 locs ht hvm hr9 hB hz1 hk1 hS => ?_)
  obtain ⟨hP1, hK1, hD1⟩ := hB
  rw [ht] at hP1
  have hK1 := va_K.moved hvm.symm hK1
  obtain ⟨hP, hD⟩ := va_join (wr := [(a8, .inr (6, [.int 0, .ref a27, .ref a28, .ref a29, .int 0])), (a1, .inr (8, [.int 0, .int 0, .ref a5, .int 0, .ref a6, .int 3, .int 1, .ref a3, .ref a4, .int 0, .int 0, .int 0, .int 0, .int 0, .int 0, .ref a7, .ref a8, .ref a9, .ref a10])), (a5, .inr (6, [.int 0, .ref a24, .ref a25, .ref a26, .int 0])), (a4, .inr (1, [.int 0, .ref a17, .ref a18, .ref a19, .ref a20, .ref a21, .ref a22, .ref a23, .int 1])), (a18, .inl (k5, 13, .inl (fun _ => 0))), (a19, .inl (k6, 13, .inl u3)), (a20, .inl (k7, 13, .inl (fun _ => 0))), (a21, .inl (k8, 13, .inl (fun _ => 0))), (a22, .inl (k9, 13, .inl (fun _ => 0)))]) (w1 := [(a6, .inr (11, [.ref a2, .int 0, .int 0, .int 0, .int 0, .int 0]))]) hP hD [0] [1, 2, 3, 4, 5, 6, 7, 8, 9] rfl rfl (by decide) (by decide) hk1 hFc hP1 hD1
  have hK := (hK.sub (tys' := [(k5, .int), (k6, .int), (k7, .int), (k8, .int), (k9, .int)]) [0, 1, 2, 3, 4] rfl).app hK1
  generalize H1 = H at hP hS ⊢
  have hP : va_P (dC, dI) vwCl [(a8, .inr (6, [.int 0, .ref a27, .ref a28, .ref a29, .int 0])), (a1, .inr (8, [.int 0, .int 0, .ref a5, .int 0, .ref a6, .int 3, .int 1, .ref a3, .ref a4, .int 0, .int 0, .int 0, .int 0, .int 0, .int 0, .ref a7, .ref a8, .ref a9, .ref a10])), (a5, .inr (6, [.int 0, .ref a24, .ref a25, .ref a26, .int 0])), (a4, .inr (1, [.int 0, .ref a17, .ref a18, .ref a19, .ref a20, .ref a21, .ref a22, .ref a23, .int 1])), (a18, .inl (k5, 13, .inl (fun _ => 0))), (a19, .inl (k6, 13, .inl u3)), (a20, .inl (k7, 13, .inl (fun _ => 0))), (a21, .inl (k8, 13, .inl (fun _ => 0))), (a22, .inl (k9, 13, .inl (fun _ => 0))), (a6, .inr (11, [.ref a2, .int 0, .int 0, .int 0, .int 0, .int 0]))] H := hP
  have hD : va_D A [(a8, .inr (6, [.int 0, .ref a27, .ref a28, .ref a29, .int 0])), (a1, .inr (8, [.int 0, .int 0, .ref a5, .int 0, .ref a6, .int 3, .int 1, .ref a3, .ref a4, .int 0, .int 0, .int 0, .int 0, .int 0, .int 0, .ref a7, .ref a8, .ref a9, .ref a10])), (a5, .inr (6, [.int 0, .ref a24, .ref a25, .ref a26, .int 0])), (a4, .inr (1, [.int 0, .ref a17, .ref a18, .ref a19, .ref a20, .ref a21, .ref a22, .ref a23, .int 1])), (a18, .inl (k5, 13, .inl (fun _ => 0))), (a19, .inl (k6, 13, .inl u3)), (a20, .inl (k7, 13, .inl (fun _ => 0))), (a21, .inl (k8, 13, .inl (fun _ => 0))), (a22, .inl (k9, 13, .inl (fun _ => 0))), (a6, .inr (11, [.ref a2, .int 0, .int 0, .int 0, .int 0, .int 0]))] := hD
  have hK : va_K (dC, dI) vwCl [(k5, .int), (k6, .int), (k7, .int), (k8, .int), (k9, .int)] s := hK
  refine lv_aload_n hx hb dc_Re_read_55 rfl (lv_at hl 1 rfl) ?_
  have hPc := hP.sub (ws' := [(a1, .inr (8, [.int 0, .int 0, .ref a5, .int 0, .ref a6, .int 3, .int 1, .ref a3, .ref a4, .int 0, .int 0, .int 0, .int 0, .int 0, .int 0, .ref a7, .ref a8, .ref a9, .ref a10])), (a6, .inr (11, [.ref a2, .int 0, .int 0, .int 0, .int 0, .int 0]))]) [1, 9] rfl
  have hDc := hD.sub (ws' := [(a1, .inr (8, [.int 0, .int 0, .ref a5, .int 0, .ref a6, .int 3, .int 1, .ref a3, .ref a4, .int 0, .int 0, .int 0, .int 0, .int 0, .int 0, .ref a7, .ref a8, .ref a9, .ref a10])), (a6, .inr (11, [.ref a2, .int 0, .int 0, .int 0, .int 0, .int 0]))]) [1, 9] (by decide) rfl
  have hKc := hK.sub (tys' := []) [] rfl
  have hFc := va_free (wc := [(a1, .inr (8, [.int 0, .int 0, .ref a5, .int 0, .ref a6, .int 3, .int 1, .ref a3, .ref a4, .int 0, .int 0, .int 0, .int 0, .int 0, .int 0, .ref a7, .ref a8, .ref a9, .ref a10])), (a6, .inr (11, [.ref a2, .int 0, .int 0, .int 0, .int 0, .int 0]))]) hD hS hA [1, 9] rfl
  refine va_callv (va_runV (As := []) (rest := []) ⟨hx, hb, hml, hown, hT⟩ (c_Re_settleBefore_2 l dC dI a1 a5 a6 a3 a4 a7 a8 a9 a10 a2 H.size) (cwV 0 hT (gd_V wd_651 wd_653 sl_Re_settleBefore wd_6 wd_654) rfl rfl rfl (by decide +kernel) ⟨Nat.le_of_ble_eq_true rfl, Nat.le_of_ble_eq_true rfl⟩) ⟨fun a U g mk q => by obtain ⟨q0, q1, qP, qK, qD⟩ := q; exact ⟨q0, q1, qP, va_K.moved (u := U) (U := U.calling g mk a) (Vm.Alike.refl U.vm) qK, qD⟩, va_recv hK hP (q0 := 1) (ci := 8) rfl rfl, fun U hU hW => ⟨rfl, by rw [hU], by rw [hU]; exact hPc, va_K.moved hW.alike hKc, hDc.weaken (fun _ _ _ _ => trivial)⟩⟩ rfl rfl hl.1 rfl (lv_room (Nat.le_of_ble_eq_true rfl)) dc_Re_read_56 ⟨(Nat.le_of_ble_eq_true rfl), (Nat.le_of_ble_eq_true rfl)⟩) hS (fun q _ h => hFc q h) hFc (fun _ t H1 locs ht hvm hr9 hB hz1 hk1 hS => ?_)
  obtain ⟨hP1, hK1, hD1⟩ := hB
  rw [ht] at hP1
  have hK1 := va_K.moved hvm.symm hK1
  obtain ⟨hP, hD⟩ := va_join (wr := [(a8, .inr (6, [.int 0, .ref a27, .ref a28, .ref a29, .int 0])), (a5, .inr (6, [.int 0, .ref a24, .ref a25, .ref a26, .int 0])), (a4, .inr (1, [.int 0, .ref a17, .ref a18, .ref a19, .ref a20, .ref a21, .ref a22, .ref a23, .int 1])), (a18, .inl (k5, 13, .inl (fun _ => 0))), (a19, .inl (k6, 13, .inl u3)), (a20, .inl (k7, 13, .inl (fun _ => 0))), (a21, .inl (k8, 13, .inl (fun _ => 0))), (a22, .inl (k9, 13, .inl (fun _ => 0)))]) (w1 := [(a1, .inr (8, [.int 0, .int 0, .ref a5, .int 0, .ref a6, .int 3, .int 1, .ref a3, .ref a4, .int 0, .int 0, .int 0, .int 0, .int 0, .int 0, .ref a7, .ref a8, .ref a9, .ref a10])), (a6, .inr (11, [.ref a2, .int 0, .int 0, .int 0, .int 0, .int 0]))]) hP hD [1, 9] [0, 2, 3, 4, 5, 6, 7, 8] rfl rfl (by decide) (by decide) hk1 hFc hP1 hD1
  have hK := (hK.sub (tys' := [(k5, .int), (k6, .int), (k7, .int), (k8, .int), (k9, .int)]) [0, 1, 2, 3, 4] rfl).app hK1
  generalize H1 = H at hP hS ⊢
  have hP : va_P (dC, dI) vwCl [(a8, .inr (6, [.int 0, .ref a27, .ref a28, .ref a29, .int 0])), (a5, .inr (6, [.int 0, .ref a24, .ref a25, .ref a26, .int 0])), (a4, .inr (1, [.int 0, .ref a17, .ref a18, .ref a19, .ref a20, .ref a21, .ref a22, .ref a23, .int 1])), (a18, .inl (k5, 13, .inl (fun _ => 0))), (a19, .inl (k6, 13, .inl u3)), (a20, .inl (k7, 13, .inl (fun _ => 0))), (a21, .inl (k8, 13, .inl (fun _ => 0))), (a22, .inl (k9, 13, .inl (fun _ => 0))), (a1, .inr (8, [.int 0, .int 0, .ref a5, .int 0, .ref a6, .int 3, .int 1, .ref a3, .ref a4, .int 0, .int 0, .int 0, .int 0, .int 0, .int 0, .ref a7, .ref a8, .ref a9, .ref a10])), (a6, .inr (11, [.ref a2, .int 0, .int 0, .int 0, .int 0, .int 0]))] H := hP
  have hD : va_D A [(a8, .inr (6, [.int 0, .ref a27, .ref a28, .ref a29, .int 0])), (a5, .inr (6, [.int 0, .ref a24, .ref a25, .ref a26, .int 0])), (a4, .inr (1, [.int 0, .ref a17, .ref a18, .ref a19, .ref a20, .ref a21, .ref a22, .ref a23, .int 1])), (a18, .inl (k5, 13, .inl (fun _ => 0))), (a19, .inl (k6, 13, .inl u3)), (a20, .inl (k7, 13, .inl (fun _ => 0))), (a21, .inl (k8, 13, .inl (fun _ => 0))), (a22, .inl (k9, 13, .inl (fun _ => 0))), (a1, .inr (8, [.int 0, .int 0, .ref a5, .int 0, .ref a6, .int 3, .int 1, .ref a3, .ref a4, .int 0, .int 0, .int 0, .int 0, .int 0, .int 0, .ref a7, .ref a8, .ref a9, .ref a10])), (a6, .inr (11, [.ref a2, .int 0, .int 0, .int 0, .int 0, .int 0]))] := hD
  have hK : va_K (dC, dI) vwCl [(k5, .int), (k6, .int), (k7, .int), (k8, .int), (k9, .int)] s := hK
  refine lv_aload_n hx hb dc_Re_read_59 rfl (lv_at hl 1 rfl) ?_
  refine va_get (D := (dC, dI)) (ci := 8) (v := .int 1) (C := "StrataBase$Reader") (T := tb_Re) (N := 19) hx hb hT in_Re hown hK hP 8 rfl rfl 6 (by decide) (hT _ wd_230) (fun _ h9 => h9) rfl dc_Re_read_60 ?_
  refine lv_tableIn (off := 68) (tgt := 131) hx hb dc_Re_read_63 (by decide) (by decide) (by decide) (by decide) ?_
  refine lv_aload_n hx hb dc_Re_read_131 rfl (lv_at hl 1 rfl) ?_
  have hPc := hP.sub (ws' := [(a1, .inr (8, [.int 0, .int 0, .ref a5, .int 0, .ref a6, .int 3, .int 1, .ref a3, .ref a4, .int 0, .int 0, .int 0, .int 0, .int 0, .int 0, .ref a7, .ref a8, .ref a9, .ref a10])), (a6, .inr (11, [.ref a2, .int 0, .int 0, .int 0, .int 0, .int 0]))]) [8, 9] rfl
  have hDc := hD.sub (ws' := [(a1, .inr (8, [.int 0, .int 0, .ref a5, .int 0, .ref a6, .int 3, .int 1, .ref a3, .ref a4, .int 0, .int 0, .int 0, .int 0, .int 0, .int 0, .ref a7, .ref a8, .ref a9, .ref a10])), (a6, .inr (11, [.ref a2, .int 0, .int 0, .int 0, .int 0, .int 0]))]) [8, 9] (by decide) rfl
  have hKc := hK.sub (tys' := []) [] rfl
  have hFc := va_free (wc := [(a1, .inr (8, [.int 0, .int 0, .ref a5, .int 0, .ref a6, .int 3, .int 1, .ref a3, .ref a4, .int 0, .int 0, .int 0, .int 0, .int 0, .int 0, .ref a7, .ref a8, .ref a9, .ref a10])), (a6, .inr (11, [.ref a2, .int 0, .int 0, .int 0, .int 0, .int 0]))]) hD hS hA [8, 9] rfl
  refine va_callv (va_runV (As := []) (rest := []) ⟨hx, hb, hml, hown, hT⟩ (c_Re_readPredicate_1 l dC dI a1 a5 a6 a3 a4 a7 a8 a9 a10 a2 H.size) (cwV 0 hT (gd_V wd_770 wd_772 sl_Re_readPredicate wd_6 wd_773) rfl rfl rfl (by decide +kernel) ⟨Nat.le_of_ble_eq_true rfl, Nat.le_of_ble_eq_true rfl⟩) ⟨fun a U g mk q => by obtain ⟨q0, q1, qP, qK, qD⟩ := q; exact ⟨q0, q1, qP, va_K.moved (u := U) (U := U.calling g mk a) (Vm.Alike.refl U.vm) qK, qD⟩, va_recv hK hP (q0 := 8) (ci := 8) rfl rfl, fun U hU hW => ⟨rfl, by rw [hU], by rw [hU]; exact hPc, va_K.moved hW.alike hKc, hDc.weaken (fun _ _ _ _ => trivial)⟩⟩ rfl rfl hl.1 rfl (lv_room (Nat.le_of_ble_eq_true rfl)) dc_Re_read_132 ⟨(Nat.le_of_ble_eq_true rfl), (Nat.le_of_ble_eq_true rfl)⟩) hS (fun q _ h => hFc q h) hFc (fun _ t H1 locs ht hvm hr9 hB hz1 hk1 hS => ?_)
  obtain ⟨hP1, hK1, hD1⟩ := hB
  rw [ht] at hP1
  have hK1 := va_K.moved hvm.symm hK1
  obtain ⟨hP, hD⟩ := va_join (wr := [(a8, .inr (6, [.int 0, .ref a27, .ref a28, .ref a29, .int 0])), (a5, .inr (6, [.int 0, .ref a24, .ref a25, .ref a26, .int 0])), (a4, .inr (1, [.int 0, .ref a17, .ref a18, .ref a19, .ref a20, .ref a21, .ref a22, .ref a23, .int 1])), (a18, .inl (k5, 13, .inl (fun _ => 0))), (a19, .inl (k6, 13, .inl u3)), (a20, .inl (k7, 13, .inl (fun _ => 0))), (a21, .inl (k8, 13, .inl (fun _ => 0))), (a22, .inl (k9, 13, .inl (fun _ => 0)))]) (w1 := [(a6, .inr (11, [.ref a2, .int 0, .int 0, .int 0, .int 0, .int 0])), (a1, .inr (8, [.int 2, .int 0, .ref a5, .int 0, .ref a6, .int 3, .int 12, .ref a3, .ref a4, .int 0, .int 0, .int 0, .int 0, .int 0, .int 0, .ref a7, .ref a8, .ref a9, .ref a10]))]) hP hD [8, 9] [0, 1, 2, 3, 4, 5, 6, 7] rfl rfl (by decide) (by decide) hk1 hFc hP1 hD1
  have hK := (hK.sub (tys' := [(k5, .int), (k6, .int), (k7, .int), (k8, .int), (k9, .int)]) [0, 1, 2, 3, 4] rfl).app hK1
  generalize H1 = H at hP hS ⊢
  have hP : va_P (dC, dI) vwCl [(a8, .inr (6, [.int 0, .ref a27, .ref a28, .ref a29, .int 0])), (a5, .inr (6, [.int 0, .ref a24, .ref a25, .ref a26, .int 0])), (a4, .inr (1, [.int 0, .ref a17, .ref a18, .ref a19, .ref a20, .ref a21, .ref a22, .ref a23, .int 1])), (a18, .inl (k5, 13, .inl (fun _ => 0))), (a19, .inl (k6, 13, .inl u3)), (a20, .inl (k7, 13, .inl (fun _ => 0))), (a21, .inl (k8, 13, .inl (fun _ => 0))), (a22, .inl (k9, 13, .inl (fun _ => 0))), (a6, .inr (11, [.ref a2, .int 0, .int 0, .int 0, .int 0, .int 0])), (a1, .inr (8, [.int 2, .int 0, .ref a5, .int 0, .ref a6, .int 3, .int 12, .ref a3, .ref a4, .int 0, .int 0, .int 0, .int 0, .int 0, .int 0, .ref a7, .ref a8, .ref a9, .ref a10]))] H := hP
  have hD : va_D A [(a8, .inr (6, [.int 0, .ref a27, .ref a28, .ref a29, .int 0])), (a5, .inr (6, [.int 0, .ref a24, .ref a25, .ref a26, .int 0])), (a4, .inr (1, [.int 0, .ref a17, .ref a18, .ref a19, .ref a20, .ref a21, .ref a22, .ref a23, .int 1])), (a18, .inl (k5, 13, .inl (fun _ => 0))), (a19, .inl (k6, 13, .inl u3)), (a20, .inl (k7, 13, .inl (fun _ => 0))), (a21, .inl (k8, 13, .inl (fun _ => 0))), (a22, .inl (k9, 13, .inl (fun _ => 0))), (a6, .inr (11, [.ref a2, .int 0, .int 0, .int 0, .int 0, .int 0])), (a1, .inr (8, [.int 2, .int 0, .ref a5, .int 0, .ref a6, .int 3, .int 12, .ref a3, .ref a4, .int 0, .int 0, .int 0, .int 0, .int 0, .int 0, .ref a7, .ref a8, .ref a9, .ref a10]))] := hD
  have hK : va_K (dC, dI) vwCl [(k5, .int), (k6, .int), (k7, .int), (k8, .int), (k9, .int)] s := hK
  refine lv_goto (tgt := 202) hx hb dc_Re_read_135 (by decide) ?_
  refine lv_iinc (k := 0) (v := 1) (lv' := [(6, .int 1), (0, .ref a1), (1, .int 3), (2, .ref a2), (3, .int 0), (4, .ref a3), (5, .ref a4)]) hx hb dc_Re_read_202 hl rfl (by decide) (by decide) rfl (fun ls hl => ?_)
  refine lv_goto (tgt := 33) hx hb dc_Re_read_205 (by decide) ?_
  refine lv_iload hx hb dc_Re_read_33 (lv_at hl 0 rfl) ?_
  refine lv_iload_n hx hb dc_Re_read_35 rfl (lv_at hl 4 rfl) ?_
  refine lv_icmp_gt (tgt := 208) hx hb dc_Re_read_36 (by decide) (fun _ => ?_) (fun h9 => absurd (by decide) h9)
  have hP9 := hP.sub (ws' := [(a8, .inr (6, [.int 0, .ref a27, .ref a28, .ref a29, .int 0])), (a5, .inr (6, [.int 0, .ref a24, .ref a25, .ref a26, .int 0])), (a4, .inr (1, [.int 0, .ref a17, .ref a18, .ref a19, .ref a20, .ref a21, .ref a22, .ref a23, .int 1])), (a18, .inl (k5, 13, .inl (fun _ => 0))), (a19, .inl (k6, 13, .inl u3)), (a20, .inl (k7, 13, .inl (fun _ => 0))), (a21, .inl (k8, 13, .inl (fun _ => 0))), (a22, .inl (k9, 13, .inl (fun _ => 0))), (a6, .inr (11, [.ref a2, .int 0, .int 0, .int 0, .int 0, .int 0])), (a1, .inr (8, [.int 2, .int 0, .ref a5, .int 0, .ref a6, .int 3, .int 12, .ref a3, .ref a4, .int 0, .int 0, .int 0, .int 0, .int 0, .int 0, .ref a7, .ref a8, .ref a9, .ref a10]))]) [0, 1, 2, 3, 4, 5, 6, 7, 8, 9] rfl
  have hD9 := hD.sub (ws' := [(a8, .inr (6, [.int 0, .ref a27, .ref a28, .ref a29, .int 0])), (a5, .inr (6, [.int 0, .ref a24, .ref a25, .ref a26, .int 0])), (a4, .inr (1, [.int 0, .ref a17, .ref a18, .ref a19, .ref a20, .ref a21, .ref a22, .ref a23, .int 1])), (a18, .inl (k5, 13, .inl (fun _ => 0))), (a19, .inl (k6, 13, .inl u3)), (a20, .inl (k7, 13, .inl (fun _ => 0))), (a21, .inl (k8, 13, .inl (fun _ => 0))), (a22, .inl (k9, 13, .inl (fun _ => 0))), (a6, .inr (11, [.ref a2, .int 0, .int 0, .int 0, .int 0, .int 0])), (a1, .inr (8, [.int 2, .int 0, .ref a5, .int 0, .ref a6, .int 3, .int 12, .ref a3, .ref a4, .int 0, .int 0, .int 0, .int 0, .int 0, .int 0, .ref a7, .ref a8, .ref a9, .ref a10]))]) [0, 1, 2, 3, 4, 5, 6, 7, 8, 9] (by decide) rfl
  have hK9 := hK.sub (tys' := [(k5, .int), (k6, .int), (k7, .int), (k8, .int), (k9, .int)]) [0, 1, 2, 3, 4] rfl
  refine W.widen (k := 0) (n := 0) (Nat.le_of_ble_eq_true rfl) (Nat.le_of_ble_eq_true rfl) ?_
  exact W.vret hx hb hr (fun t ht hW => ⟨⟨(), rfl, trivial, u3, by rw [ht]; exact hP9, va_K.moved hW.alike hK9, hD9⟩, hS.F ht⟩) hS.2.2 dc_Re_read_208

set_option maxHeartbeats 4000000 in
set_option maxRecDepth 100000 in
theorem c_SB_forgetTape_2 (l : Launch) (dC : Nat → ClassId) (dI : Nat → Nat → Nat) (a1 : Nat) (a2 : Nat) (a3 : Nat) (a4 : Nat) (a5 : Nat) (a6 : Nat) (a7 : Nat) (a8 : Nat) (a9 : Nat) (a10 : Nat) (a30 : Nat) (a31 : Nat) (a32 : Nat) (a33 : Nat) (a34 : Nat) (a35 : Nat) (sz : Nat) : Met l my_SB_forgetTape (Cond.code my_SB_forgetTape cd_SB_forgetTape 1 none :: tblG) ({ frames := 0, cells := 0, slots := 0, locals := 0 }) (va_Pc [.ref a1] (fun U => U.heap.size = sz ∧ va_P (dC, dI) vwCl [(a1, .inr (0, [.ref a2, .int 0, .int 0, .ref a3, .ref a4, .ref a5, .ref a6, .ref a7, .ref a8, .ref a9, .ref a10, .int 0, .int 0])), (a6, .inr (8, [.int 2, .int 0, .ref a30, .int 0, .ref a31, .int 3, .int 12, .ref a3, .ref a5, .int 0, .int 0, .int 0, .int 0, .int 0, .int 0, .ref a32, .ref a33, .ref a34, .ref a35]))] U.heap ∧ va_K (dC, dI) vwCl [] U ∧ va_D (fun _ => True) [(a1, .inr (0, [.ref a2, .int 0, .int 0, .ref a3, .ref a4, .ref a5, .ref a6, .ref a7, .ref a8, .ref a9, .ref a10, .int 0, .int 0])), (a6, .inr (8, [.int 2, .int 0, .ref a30, .int 0, .ref a31, .int 3, .int 12, .ref a3, .ref a5, .int 0, .int 0, .int 0, .int 0, .int 0, .int 0, .ref a32, .ref a33, .ref a34, .ref a35]))])) (va_Qv (fun _ : Unit => True) (fun (_ : Unit) (t : State) => va_P (dC, dI) vwCl [(a1, .inr (0, [.ref a2, .int 0, .int 2, .ref a3, .ref a4, .ref a5, .ref a6, .ref a7, .ref a8, .ref a9, .ref a10, .int 0, .int 0])), (a6, .inr (8, [.int 2, .int 0, .ref a30, .int 0, .ref a31, .int 3, .int 12, .ref a3, .ref a5, .int 0, .int 0, .int 0, .int 0, .int 0, .int 0, .ref a32, .ref a33, .ref a34, .ref a35]))] t.heap ∧ va_K (dC, dI) vwCl [] t ∧ va_D (va_A [(a1, .inr (0, [.ref a2, .int 0, .int 0, .ref a3, .ref a4, .ref a5, .ref a6, .ref a7, .ref a8, .ref a9, .ref a10, .int 0, .int 0])), (a6, .inr (8, [.int 2, .int 0, .ref a30, .int 0, .ref a31, .int 3, .int 12, .ref a3, .ref a5, .int 0, .int 0, .int 0, .int 0, .int 0, .int 0, .ref a32, .ref a33, .ref a34, .ref a35]))] sz) [(a1, .inr (0, [.ref a2, .int 0, .int 2, .ref a3, .ref a4, .ref a5, .ref a6, .ref a7, .ref a8, .ref a9, .ref a10, .int 0, .int 0])), (a6, .inr (8, [.int 2, .int 0, .ref a30, .int 0, .ref a31, .int 3, .int 12, .ref a3, .ref a5, .int 0, .int 0, .int 0, .int 0, .int 0, .int 0, .ref a32, .ref a33, .ref a34, .ref a35]))]) (va_A [(a1, .inr (0, [.ref a2, .int 0, .int 0, .ref a3, .ref a4, .ref a5, .ref a6, .ref a7, .ref a8, .ref a9, .ref a10, .int 0, .int 0])), (a6, .inr (8, [.int 2, .int 0, .ref a30, .int 0, .ref a31, .int 3, .int 12, .ref a3, .ref a5, .int 0, .int 0, .int 0, .int 0, .int 0, .int 0, .ref a32, .ref a33, .ref a34, .ref a35]))] sz)) 0 0 (va_A [(a1, .inr (0, [.ref a2, .int 0, .int 0, .ref a3, .ref a4, .ref a5, .ref a6, .ref a7, .ref a8, .ref a9, .ref a10, .int 0, .int 0])), (a6, .inr (8, [.int 2, .int 0, .ref a30, .int 0, .ref a31, .int 3, .int 12, .ref a3, .ref a5, .int 0, .int 0, .int 0, .int 0, .int 0, .int 0, .ref a32, .ref a33, .ref a34, .ref a35]))] sz) := by
  refine Met.ofW (cc := cd_SB_forgetTape) (maxL := 1) (ret := none) (by decide) rfl ?_
  intro p e s m args below meth c s₁ B hml hv
  obtain ⟨rfl, hsz, hP, hK, hD0⟩ := hv
  have hx := B.exec
  have hb := B.bytes
  have hr := B.returns
  have hT : ∀ w ∈ tblG, w.before _ s = true := fun w h => atoms_spec (ws := (Cond.code my_SB_forgetTape cd_SB_forgetTape 1 none :: tblG)) B.pre w (List.mem_cons_of_mem _ h)
  have hown : s.vm.findClass "StrataBase" = some m.cls := findClass_of_methodNamed B.named
  have hlocks := B.notSynchronized
  subst hsz
  have hD := hD0.self (sz := s.heap.size)
  generalize hAe : va_A [(a1, .inr (0, [.ref a2, .int 0, .int 0, .ref a3, .ref a4, .ref a5, .ref a6, .ref a7, .ref a8, .ref a9, .ref a10, .int 0, .int 0])), (a6, .inr (8, [.int 2, .int 0, .ref a30, .int 0, .ref a31, .int 3, .int 12, .ref a3, .ref a5, .int 0, .int 0, .int 0, .int 0, .int 0, .int 0, .ref a32, .ref a33, .ref a34, .ref a35]))] s.heap.size = A at hD ⊢
  have hA : ∀ q : Nat, s.heap.size ≤ q → A q := fun q h => by rw [← hAe]; exact Or.inr h
  have hS : va_S A s.heap s.heap [] := va_S.rf
  have hl := lv_entry ([.ref a1]) (n := 1) (Nat.le_of_ble_eq_true rfl)
  rw [lg_entry_eq]
  generalize (lg_sl ([.ref a1]) ++ List.replicate (1 - (lg_sl ([.ref a1])).length) Slot.unset).toArray = ls at hl ⊢
  have hl : lv_has ls 1 [(0, .ref a1)] := hl
  refine lv_aload_n hx hb dc_SB_forgetTape_0 rfl (lv_at hl 0 rfl) ?_
  refine lv_aload_n hx hb dc_SB_forgetTape_1 rfl (lv_at hl 0 rfl) ?_
  refine va_get (D := (dC, dI)) (ci := 0) (v := .ref a6) (C := "StrataBase") (T := tb_SB) (N := 13) hx hb hT in_SB hown hK hP 0 rfl rfl 6 (by decide) (hT _ wd_523) (fun _ h9 => h9) rfl dc_SB_forgetTape_2 ?_
  refine va_get (D := (dC, dI)) (ci := 8) (v := .int 2) (C := "StrataBase$Reader") (T := tb_Re) (N := 19) hx hb hT in_Re hown hK hP 1 rfl rfl 0 (by decide) (hT _ wd_221) (fun _ h9 => h9) rfl dc_SB_forgetTape_5 ?_
  refine va_put (D := (dC, dI)) (ci := 0) (v := .int 2) (ty := .int) (C := "StrataBase") (T := tb_SB) (N := 13) hx hb hT in_SB ty_SB tk_SB nm_SB hown hK hP hD hS 0 rfl rfl 2 (by decide) (hT _ wd_519) (fun _ h9 => h9) rfl (by decide +kernel) rfl rfl (Nat.le_of_ble_eq_true rfl) dc_SB_forgetTape_8 (fun H locs hP hD hS => ?_)
  have hP : va_P (dC, dI) vwCl [(a1, .inr (0, [.ref a2, .int 0, .int 2, .ref a3, .ref a4, .ref a5, .ref a6, .ref a7, .ref a8, .ref a9, .ref a10, .int 0, .int 0])), (a6, .inr (8, [.int 2, .int 0, .ref a30, .int 0, .ref a31, .int 3, .int 12, .ref a3, .ref a5, .int 0, .int 0, .int 0, .int 0, .int 0, .int 0, .ref a32, .ref a33, .ref a34, .ref a35]))] H := hP
  have hD : va_D A [(a1, .inr (0, [.ref a2, .int 0, .int 2, .ref a3, .ref a4, .ref a5, .ref a6, .ref a7, .ref a8, .ref a9, .ref a10, .int 0, .int 0])), (a6, .inr (8, [.int 2, .int 0, .ref a30, .int 0, .ref a31, .int 3, .int 12, .ref a3, .ref a5, .int 0, .int 0, .int 0, .int 0, .int 0, .int 0, .ref a32, .ref a33, .ref a34, .ref a35]))] := hD
  refine lv_aload_n hx hb dc_SB_forgetTape_11 rfl (lv_at hl 0 rfl) ?_
  refine lv_iconst (v := 0) hx hb dc_SB_forgetTape_12 (by decide) ?_
  refine va_put (D := (dC, dI)) (ci := 0) (v := .int 0) (ty := .int) (C := "StrataBase") (T := tb_SB) (N := 13) hx hb hT in_SB ty_SB tk_SB nm_SB hown hK hP hD hS 0 rfl rfl 1 (by decide) (hT _ wd_518) (fun _ h9 => h9) rfl (by decide +kernel) rfl rfl (Nat.le_of_ble_eq_true rfl) dc_SB_forgetTape_13 (fun H locs hP hD hS => ?_)
  have hP : va_P (dC, dI) vwCl [(a1, .inr (0, [.ref a2, .int 0, .int 2, .ref a3, .ref a4, .ref a5, .ref a6, .ref a7, .ref a8, .ref a9, .ref a10, .int 0, .int 0])), (a6, .inr (8, [.int 2, .int 0, .ref a30, .int 0, .ref a31, .int 3, .int 12, .ref a3, .ref a5, .int 0, .int 0, .int 0, .int 0, .int 0, .int 0, .ref a32, .ref a33, .ref a34, .ref a35]))] H := hP
  have hD : va_D A [(a1, .inr (0, [.ref a2, .int 0, .int 2, .ref a3, .ref a4, .ref a5, .ref a6, .ref a7, .ref a8, .ref a9, .ref a10, .int 0, .int 0])), (a6, .inr (8, [.int 2, .int 0, .ref a30, .int 0, .ref a31, .int 3, .int 12, .ref a3, .ref a5, .int 0, .int 0, .int 0, .int 0, .int 0, .int 0, .ref a32, .ref a33, .ref a34, .ref a35]))] := hD
  have hP9 := hP.sub (ws' := [(a1, .inr (0, [.ref a2, .int 0, .int 2, .ref a3, .ref a4, .ref a5, .ref a6, .ref a7, .ref a8, .ref a9, .ref a10, .int 0, .int 0])), (a6, .inr (8, [.int 2, .int 0, .ref a30, .int 0, .ref a31, .int 3, .int 12, .ref a3, .ref a5, .int 0, .int 0, .int 0, .int 0, .int 0, .int 0, .ref a32, .ref a33, .ref a34, .ref a35]))]) [0, 1] rfl
  have hD9 := hD.sub (ws' := [(a1, .inr (0, [.ref a2, .int 0, .int 2, .ref a3, .ref a4, .ref a5, .ref a6, .ref a7, .ref a8, .ref a9, .ref a10, .int 0, .int 0])), (a6, .inr (8, [.int 2, .int 0, .ref a30, .int 0, .ref a31, .int 3, .int 12, .ref a3, .ref a5, .int 0, .int 0, .int 0, .int 0, .int 0, .int 0, .ref a32, .ref a33, .ref a34, .ref a35]))]) [0, 1] (by decide) rfl
  have hK9 := hK.sub (tys' := []) [] rfl
  refine W.widen (k := 0) (n := 0) (Nat.le_of_ble_eq_true rfl) (Nat.le_of_ble_eq_true rfl) ?_
  exact W.vret hx hb hr (fun t ht hW => ⟨⟨(), rfl, trivial, by rw [ht]; exact hP9, va_K.moved hW.alike hK9, hD9⟩, hS.F ht⟩) hS.2.2 dc_SB_forgetTape_16

set_option maxHeartbeats 4000000 in
set_option maxRecDepth 100000 in
theorem c_SB_stratum (l : Launch) (dC : Nat → ClassId) (dI : Nat → Nat → Nat) (h0 : Nat) (q7 : Nat) (q13 : Nat) (q24 : Nat) (q35 : Nat) (q47 : Nat) (q58 : Nat) (q69 : Nat) (q84 : Nat) (q95 : Nat) (u66 : Nat) (u56 : Nat) (u57 : Nat) (u58 : Nat) (u59 : Nat) (u60 : Nat) (u67 : Nat) (u69 : Nat) (u70 : Nat) (u72 : Nat) (u71 : Nat) (u73 : Nat) (u74 : Nat) (u75 : Nat) (u76 : Nat) (u77 : Nat) (u78 : Nat) (u79 : Nat) (u80 : Nat) (k61 : ClassId) (k62 : ClassId) (k63 : ClassId) (k64 : ClassId) (k65 : ClassId) (sz : Nat) : Met l my_SB_stratum (Cond.code my_SB_stratum cd_SB_stratum 2 (some (.int)) :: tblG) ({ frames := 4, cells := 0, slots := 0, locals := 88 }) (va_Pc [.ref h0] (fun U => U.heap.size = sz ∧ va_P (dC, dI) vwCl [(h0, .inr (0, [.ref q7, .int 0, .int 0, .ref q13, .ref q24, .ref q35, .ref q47, .ref q58, .ref q69, .ref q84, .ref q95, .int 0, .int 0])), (q35, .inr (1, [.int 0, .ref u66, .ref u56, .ref u57, .ref u58, .ref u59, .ref u60, .ref u67, .int 0])), (u56, .inl (k61, 13, .inl (fun _ => 0))), (u57, .inl (k62, 13, .inl (fun _ => 0))), (u58, .inl (k63, 13, .inl (fun _ => 0))), (u59, .inl (k64, 13, .inl (fun _ => 0))), (u60, .inl (k65, 13, .inl (fun _ => 0))), (q47, .inr (8, [.int 0, .int 0, .ref u69, .int 0, .ref u70, .int 0, .int 0, .null, .null, .int 0, .int 0, .int 0, .int 0, .int 0, .int 0, .ref u72, .ref u71, .ref u73, .ref u74])), (u69, .inr (6, [.int 0, .ref u75, .ref u76, .ref u77, .int 0])), (u70, .inr (11, [.null, .int 0, .int 0, .int 0, .int 0, .int 0])), (u71, .inr (6, [.int 0, .ref u78, .ref u79, .ref u80, .int 0]))] U.heap ∧ va_K (dC, dI) vwCl [(k61, .int), (k62, .int), (k63, .int), (k64, .int), (k65, .int)] U ∧ va_D (fun _ => True) [(h0, .inr (0, [.ref q7, .int 0, .int 0, .ref q13, .ref q24, .ref q35, .ref q47, .ref q58, .ref q69, .ref q84, .ref q95, .int 0, .int 0])), (q35, .inr (1, [.int 0, .ref u66, .ref u56, .ref u57, .ref u58, .ref u59, .ref u60, .ref u67, .int 0])), (u56, .inl (k61, 13, .inl (fun _ => 0))), (u57, .inl (k62, 13, .inl (fun _ => 0))), (u58, .inl (k63, 13, .inl (fun _ => 0))), (u59, .inl (k64, 13, .inl (fun _ => 0))), (u60, .inl (k65, 13, .inl (fun _ => 0))), (q47, .inr (8, [.int 0, .int 0, .ref u69, .int 0, .ref u70, .int 0, .int 0, .null, .null, .int 0, .int 0, .int 0, .int 0, .int 0, .int 0, .ref u72, .ref u71, .ref u73, .ref u74])), (u69, .inr (6, [.int 0, .ref u75, .ref u76, .ref u77, .int 0])), (u70, .inr (11, [.null, .int 0, .int 0, .int 0, .int 0, .int 0])), (u71, .inr (6, [.int 0, .ref u78, .ref u79, .ref u80, .int 0]))])) (va_Qi (fun (r : Int32) (_ : Unit) => r = (-2)) (fun (_ : Unit) (t : State) => ∃ (u2 : Nat → Int32), va_P (dC, dI) vwCl [(u71, .inr (6, [.int 0, .ref u78, .ref u79, .ref u80, .int 0])), (u69, .inr (6, [.int 0, .ref u75, .ref u76, .ref u77, .int 0])), (q35, .inr (1, [.int 0, .ref u66, .ref u56, .ref u57, .ref u58, .ref u59, .ref u60, .ref u67, .int 1])), (u56, .inl (k61, 13, .inl (fun _ => 0))), (u57, .inl (k62, 13, .inl u2)), (u58, .inl (k63, 13, .inl (fun _ => 0))), (u59, .inl (k64, 13, .inl (fun _ => 0))), (u60, .inl (k65, 13, .inl (fun _ => 0))), (u70, .inr (11, [.ref q7, .int 0, .int 0, .int 0, .int 0, .int 0])), (h0, .inr (0, [.ref q7, .int 0, .int 2, .ref q13, .ref q24, .ref q35, .ref q47, .ref q58, .ref q69, .ref q84, .ref q95, .int 0, .int 0])), (q47, .inr (8, [.int 2, .int 0, .ref u69, .int 0, .ref u70, .int 3, .int 12, .ref q13, .ref q35, .int 0, .int 0, .int 0, .int 0, .int 0, .int 0, .ref u72, .ref u71, .ref u73, .ref u74]))] t.heap ∧ va_K (dC, dI) vwCl [(k61, .int), (k62, .int), (k63, .int), (k64, .int), (k65, .int)] t ∧ va_D (va_A [(h0, .inr (0, [.ref q7, .int 0, .int 0, .ref q13, .ref q24, .ref q35, .ref q47, .ref q58, .ref q69, .ref q84, .ref q95, .int 0, .int 0])), (q35, .inr (1, [.int 0, .ref u66, .ref u56, .ref u57, .ref u58, .ref u59, .ref u60, .ref u67, .int 0])), (u56, .inl (k61, 13, .inl (fun _ => 0))), (u57, .inl (k62, 13, .inl (fun _ => 0))), (u58, .inl (k63, 13, .inl (fun _ => 0))), (u59, .inl (k64, 13, .inl (fun _ => 0))), (u60, .inl (k65, 13, .inl (fun _ => 0))), (q47, .inr (8, [.int 0, .int 0, .ref u69, .int 0, .ref u70, .int 0, .int 0, .null, .null, .int 0, .int 0, .int 0, .int 0, .int 0, .int 0, .ref u72, .ref u71, .ref u73, .ref u74])), (u69, .inr (6, [.int 0, .ref u75, .ref u76, .ref u77, .int 0])), (u70, .inr (11, [.null, .int 0, .int 0, .int 0, .int 0, .int 0])), (u71, .inr (6, [.int 0, .ref u78, .ref u79, .ref u80, .int 0]))] sz) [(u71, .inr (6, [.int 0, .ref u78, .ref u79, .ref u80, .int 0])), (u69, .inr (6, [.int 0, .ref u75, .ref u76, .ref u77, .int 0])), (q35, .inr (1, [.int 0, .ref u66, .ref u56, .ref u57, .ref u58, .ref u59, .ref u60, .ref u67, .int 1])), (u56, .inl (k61, 13, .inl (fun _ => 0))), (u57, .inl (k62, 13, .inl u2)), (u58, .inl (k63, 13, .inl (fun _ => 0))), (u59, .inl (k64, 13, .inl (fun _ => 0))), (u60, .inl (k65, 13, .inl (fun _ => 0))), (u70, .inr (11, [.ref q7, .int 0, .int 0, .int 0, .int 0, .int 0])), (h0, .inr (0, [.ref q7, .int 0, .int 2, .ref q13, .ref q24, .ref q35, .ref q47, .ref q58, .ref q69, .ref q84, .ref q95, .int 0, .int 0])), (q47, .inr (8, [.int 2, .int 0, .ref u69, .int 0, .ref u70, .int 3, .int 12, .ref q13, .ref q35, .int 0, .int 0, .int 0, .int 0, .int 0, .int 0, .ref u72, .ref u71, .ref u73, .ref u74]))]) (va_A [(h0, .inr (0, [.ref q7, .int 0, .int 0, .ref q13, .ref q24, .ref q35, .ref q47, .ref q58, .ref q69, .ref q84, .ref q95, .int 0, .int 0])), (q35, .inr (1, [.int 0, .ref u66, .ref u56, .ref u57, .ref u58, .ref u59, .ref u60, .ref u67, .int 0])), (u56, .inl (k61, 13, .inl (fun _ => 0))), (u57, .inl (k62, 13, .inl (fun _ => 0))), (u58, .inl (k63, 13, .inl (fun _ => 0))), (u59, .inl (k64, 13, .inl (fun _ => 0))), (u60, .inl (k65, 13, .inl (fun _ => 0))), (q47, .inr (8, [.int 0, .int 0, .ref u69, .int 0, .ref u70, .int 0, .int 0, .null, .null, .int 0, .int 0, .int 0, .int 0, .int 0, .int 0, .ref u72, .ref u71, .ref u73, .ref u74])), (u69, .inr (6, [.int 0, .ref u75, .ref u76, .ref u77, .int 0])), (u70, .inr (11, [.null, .int 0, .int 0, .int 0, .int 0, .int 0])), (u71, .inr (6, [.int 0, .ref u78, .ref u79, .ref u80, .int 0]))] sz)) 0 0 (va_A [(h0, .inr (0, [.ref q7, .int 0, .int 0, .ref q13, .ref q24, .ref q35, .ref q47, .ref q58, .ref q69, .ref q84, .ref q95, .int 0, .int 0])), (q35, .inr (1, [.int 0, .ref u66, .ref u56, .ref u57, .ref u58, .ref u59, .ref u60, .ref u67, .int 0])), (u56, .inl (k61, 13, .inl (fun _ => 0))), (u57, .inl (k62, 13, .inl (fun _ => 0))), (u58, .inl (k63, 13, .inl (fun _ => 0))), (u59, .inl (k64, 13, .inl (fun _ => 0))), (u60, .inl (k65, 13, .inl (fun _ => 0))), (q47, .inr (8, [.int 0, .int 0, .ref u69, .int 0, .ref u70, .int 0, .int 0, .null, .null, .int 0, .int 0, .int 0, .int 0, .int 0, .int 0, .ref u72, .ref u71, .ref u73, .ref u74])), (u69, .inr (6, [.int 0, .ref u75, .ref u76, .ref u77, .int 0])), (u70, .inr (11, [.null, .int 0, .int 0, .int 0, .int 0, .int 0])), (u71, .inr (6, [.int 0, .ref u78, .ref u79, .ref u80, .int 0]))] sz) := by
  refine Met.ofW (cc := cd_SB_stratum) (maxL := 2) (ret := (some (.int))) (by decide) rfl ?_
  intro p e s m args below meth c s₁ B hml hv
  obtain ⟨rfl, hsz, hP, hK, hD0⟩ := hv
  have hx := B.exec
  have hb := B.bytes
  have hr := B.returns
  have hT : ∀ w ∈ tblG, w.before _ s = true := fun w h => atoms_spec (ws := (Cond.code my_SB_stratum cd_SB_stratum 2 (some (.int)) :: tblG)) B.pre w (List.mem_cons_of_mem _ h)
  have hown : s.vm.findClass "StrataBase" = some m.cls := findClass_of_methodNamed B.named
  have hlocks := B.notSynchronized
  subst hsz
  have hD := hD0.self (sz := s.heap.size)
  generalize hAe : va_A [(h0, .inr (0, [.ref q7, .int 0, .int 0, .ref q13, .ref q24, .ref q35, .ref q47, .ref q58, .ref q69, .ref q84, .ref q95, .int 0, .int 0])), (q35, .inr (1, [.int 0, .ref u66, .ref u56, .ref u57, .ref u58, .ref u59, .ref u60, .ref u67, .int 0])), (u56, .inl (k61, 13, .inl (fun _ => 0))), (u57, .inl (k62, 13, .inl (fun _ => 0))), (u58, .inl (k63, 13, .inl (fun _ => 0))), (u59, .inl (k64, 13, .inl (fun _ => 0))), (u60, .inl (k65, 13, .inl (fun _ => 0))), (q47, .inr (8, [.int 0, .int 0, .ref u69, .int 0, .ref u70, .int 0, .int 0, .null, .null, .int 0, .int 0, .int 0, .int 0, .int 0, .int 0, .ref u72, .ref u71, .ref u73, .ref u74])), (u69, .inr (6, [.int 0, .ref u75, .ref u76, .ref u77, .int 0])), (u70, .inr (11, [.null, .int 0, .int 0, .int 0, .int 0, .int 0])), (u71, .inr (6, [.int 0, .ref u78, .ref u79, .ref u80, .int 0]))] s.heap.size = A at hD ⊢
  have hA : ∀ q : Nat, s.heap.size ≤ q → A q := fun q h => by rw [← hAe]; exact Or.inr h
  have hS : va_S A s.heap s.heap [] := va_S.rf
  have hl := lv_entry ([.ref h0]) (n := 2) (Nat.le_of_ble_eq_true rfl)
  rw [lg_entry_eq]
  generalize (lg_sl ([.ref h0]) ++ List.replicate (2 - (lg_sl ([.ref h0])).length) Slot.unset).toArray = ls at hl ⊢
  have hl : lv_has ls 2 [(0, .ref h0)] := hl
  refine lv_aload_n hx hb dc_SB_stratum_0 rfl (lv_at hl 0 rfl) ?_
  refine va_get (D := (dC, dI)) (ci := 0) (v := .ref q47) (C := "StrataBase") (T := tb_SB) (N := 13) hx hb hT in_SB hown hK hP 0 rfl rfl 6 (by decide) (hT _ wd_523) (fun _ h9 => h9) rfl dc_SB_stratum_1 ?_
  refine lv_iconst (v := 3) hx hb dc_SB_stratum_4 (by decide) ?_
  refine lv_aload_n hx hb dc_SB_stratum_5 rfl (lv_at hl 0 rfl) ?_
  refine va_get (D := (dC, dI)) (ci := 0) (v := .ref q7) (C := "StrataBase") (T := tb_SB) (N := 13) hx hb hT in_SB hown hK hP 0 rfl rfl 0 (by decide) (hT _ wd_517) (fun _ h9 => h9) rfl dc_SB_stratum_6 ?_
  refine lv_aload_n hx hb dc_SB_stratum_9 rfl (lv_at hl 0 rfl) ?_
  refine va_get (D := (dC, dI)) (ci := 0) (v := .int 0) (C := "StrataBase") (T := tb_SB) (N := 13) hx hb hT in_SB hown hK hP 0 rfl rfl 1 (by decide) (hT _ wd_518) (fun _ h9 => h9) rfl dc_SB_stratum_10 ?_
  refine lv_aload_n hx hb dc_SB_stratum_13 rfl (lv_at hl 0 rfl) ?_
  refine va_get (D := (dC, dI)) (ci := 0) (v := .ref q13) (C := "StrataBase") (T := tb_SB) (N := 13) hx hb hT in_SB hown hK hP 0 rfl rfl 3 (by decide) (hT _ wd_520) (fun _ h9 => h9) rfl dc_SB_stratum_14 ?_
  refine lv_aload_n hx hb dc_SB_stratum_17 rfl (lv_at hl 0 rfl) ?_
  refine va_get (D := (dC, dI)) (ci := 0) (v := .ref q35) (C := "StrataBase") (T := tb_SB) (N := 13) hx hb hT in_SB hown hK hP 0 rfl rfl 5 (by decide) (hT _ wd_522) (fun _ h9 => h9) rfl dc_SB_stratum_18 ?_
  have hPc := hP.sub (ws' := [(q47, .inr (8, [.int 0, .int 0, .ref u69, .int 0, .ref u70, .int 0, .int 0, .null, .null, .int 0, .int 0, .int 0, .int 0, .int 0, .int 0, .ref u72, .ref u71, .ref u73, .ref u74])), (q35, .inr (1, [.int 0, .ref u66, .ref u56, .ref u57, .ref u58, .ref u59, .ref u60, .ref u67, .int 0])), (u69, .inr (6, [.int 0, .ref u75, .ref u76, .ref u77, .int 0])), (u70, .inr (11, [.null, .int 0, .int 0, .int 0, .int 0, .int 0])), (u71, .inr (6, [.int 0, .ref u78, .ref u79, .ref u80, .int 0])), (u56, .inl (k61, 13, .inl (fun _ => 0))), (u57, .inl (k62, 13, .inl (fun _ => 0))), (u58, .inl (k63, 13, .inl (fun _ => 0))), (u59, .inl (k64, 13, .inl (fun _ => 0))), (u60, .inl (k65, 13, .inl (fun _ => 0)))]) [7, 1, 8, 9, 10, 2, 3, 4, 5, 6] rfl
  have hDc := hD.sub (ws' := [(q47, .inr (8, [.int 0, .int 0, .ref u69, .int 0, .ref u70, .int 0, .int 0, .null, .null, .int 0, .int 0, .int 0, .int 0, .int 0, .int 0, .ref u72, .ref u71, .ref u73, .ref u74])), (q35, .inr (1, [.int 0, .ref u66, .ref u56, .ref u57, .ref u58, .ref u59, .ref u60, .ref u67, .int 0])), (u69, .inr (6, [.int 0, .ref u75, .ref u76, .ref u77, .int 0])), (u70, .inr (11, [.null, .int 0, .int 0, .int 0, .int 0, .int 0])), (u71, .inr (6, [.int 0, .ref u78, .ref u79, .ref u80, .int 0])), (u56, .inl (k61, 13, .inl (fun _ => 0))), (u57, .inl (k62, 13, .inl (fun _ => 0))), (u58, .inl (k63, 13, .inl (fun _ => 0))), (u59, .inl (k64, 13, .inl (fun _ => 0))), (u60, .inl (k65, 13, .inl (fun _ => 0)))]) [7, 1, 8, 9, 10, 2, 3, 4, 5, 6] (by decide) rfl
  have hKc := hK.sub (tys' := [(k61, .int), (k62, .int), (k63, .int), (k64, .int), (k65, .int)]) [0, 1, 2, 3, 4] rfl
  have hFc := va_free (wc := [(q47, .inr (8, [.int 0, .int 0, .ref u69, .int 0, .ref u70, .int 0, .int 0, .null, .null, .int 0, .int 0, .int 0, .int 0, .int 0, .int 0, .ref u72, .ref u71, .ref u73, .ref u74])), (q35, .inr (1, [.int 0, .ref u66, .ref u56, .ref u57, .ref u58, .ref u59, .ref u60, .ref u67, .int 0])), (u69, .inr (6, [.int 0, .ref u75, .ref u76, .ref u77, .int 0])), (u70, .inr (11, [.null, .int 0, .int 0, .int 0, .int 0, .int 0])), (u71, .inr (6, [.int 0, .ref u78, .ref u79, .ref u80, .int 0])), (u56, .inl (k61, 13, .inl (fun _ => 0))), (u57, .inl (k62, 13, .inl (fun _ => 0))), (u58, .inl (k63, 13, .inl (fun _ => 0))), (u59, .inl (k64, 13, .inl (fun _ => 0))), (u60, .inl (k65, 13, .inl (fun _ => 0)))]) hD hS hA [7, 1, 8, 9, 10, 2, 3, 4, 5, 6] rfl
  refine va_callv (va_runV (As := [.int 3, .ref q7, .int 0, .ref q13, .ref q35]) (rest := []) ⟨hx, hb, hml, hown, hT⟩ (c_Re_read_2 l dC dI q47 u69 u70 u72 u71 u73 u74 q35 u66 u56 u57 u58 u59 u60 u67 u75 u76 u77 u78 u79 u80 q7 q13 k61 k62 k63 k64 k65 s.heap.size) (cwV 5 hT (gd_V wd_561 wd_562 wd_563 wd_6 wd_564) rfl rfl rfl (by decide +kernel) ⟨Nat.le_of_ble_eq_true rfl, Nat.le_of_ble_eq_true rfl⟩) ⟨fun a U g mk q => by obtain ⟨q0, q1, qP, qK, qD⟩ := q; exact ⟨q0, q1, qP, va_K.moved (u := U) (U := U.calling g mk a) (Vm.Alike.refl U.vm) qK, qD⟩, va_recv hK hP (q0 := 7) (ci := 8) rfl rfl, fun U hU hW => ⟨rfl, by rw [hU], by rw [hU]; exact hPc, va_K.moved hW.alike hKc, hDc.weaken (fun _ _ _ _ => trivial)⟩⟩ rfl rfl hl.1 rfl (lv_room (Nat.le_of_ble_eq_true rfl)) dc_SB_stratum_21 ⟨(Nat.le_of_ble_eq_true rfl), (Nat.le_of_ble_eq_true rfl)⟩) hS (fun q _ h => hFc q h) hFc (fun _ t H1 locs ht hvm hr9 hB hz1 hk1 hS => ?_)
  obtain ⟨u2, hP1, hK1, hD1⟩ := hB
  rw [ht] at hP1
  have hK1 := va_K.moved hvm.symm hK1
  obtain ⟨hP, hD⟩ := va_join (wr := [(h0, .inr (0, [.ref q7, .int 0, .int 0, .ref q13, .ref q24, .ref q35, .ref q47, .ref q58, .ref q69, .ref q84, .ref q95, .int 0, .int 0]))]) (w1 := [(u71, .inr (6, [.int 0, .ref u78, .ref u79, .ref u80, .int 0])), (u69, .inr (6, [.int 0, .ref u75, .ref u76, .ref u77, .int 0])), (q35, .inr (1, [.int 0, .ref u66, .ref u56, .ref u57, .ref u58, .ref u59, .ref u60, .ref u67, .int 1])), (u56, .inl (k61, 13, .inl (fun _ => 0))), (u57, .inl (k62, 13, .inl u2)), (u58, .inl (k63, 13, .inl (fun _ => 0))), (u59, .inl (k64, 13, .inl (fun _ => 0))), (u60, .inl (k65, 13, .inl (fun _ => 0))), (u70, .inr (11, [.ref q7, .int 0, .int 0, .int 0, .int 0, .int 0])), (q47, .inr (8, [.int 2, .int 0, .ref u69, .int 0, .ref u70, .int 3, .int 12, .ref q13, .ref q35, .int 0, .int 0, .int 0, .int 0, .int 0, .int 0, .ref u72, .ref u71, .ref u73, .ref u74]))]) hP hD [7, 1, 8, 9, 10, 2, 3, 4, 5, 6] [0] rfl rfl (by decide) (by decide) hk1 hFc hP1 hD1
  have hK := (hK.sub (tys' := []) [] rfl).app hK1
  generalize H1 = H at hP hS ⊢
  have hP : va_P (dC, dI) vwCl [(h0, .inr (0, [.ref q7, .int 0, .int 0, .ref q13, .ref q24, .ref q35, .ref q47, .ref q58, .ref q69, .ref q84, .ref q95, .int 0, .int 0])), (u71, .inr (6, [.int 0, .ref u78, .ref u79, .ref u80, .int 0])), (u69, .inr (6, [.int 0, .ref u75, .ref u76, .ref u77, .int 0])), (q35, .inr (1, [.int 0, .ref u66, .ref u56, .ref u57, .ref u58, .ref u59, .ref u60, .ref u67, .int 1])), (u56, .inl (k61, 13, .inl (fun _ => 0))), (u57, .inl (k62, 13, .inl u2)), (u58, .inl (k63, 13, .inl (fun _ => 0))), (u59, .inl (k64, 13, .inl (fun _ => 0))), (u60, .inl (k65, 13, .inl (fun _ => 0))), (u70, .inr (11, [.ref q7, .int 0, .int 0, .int 0, .int 0, .int 0])), (q47, .inr (8, [.int 2, .int 0, .ref u69, .int 0, .ref u70, .int 3, .int 12, .ref q13, .ref q35, .int 0, .int 0, .int 0, .int 0, .int 0, .int 0, .ref u72, .ref u71, .ref u73, .ref u74]))] H := hP
  have hD : va_D A [(h0, .inr (0, [.ref q7, .int 0, .int 0, .ref q13, .ref q24, .ref q35, .ref q47, .ref q58, .ref q69, .ref q84, .ref q95, .int 0, .int 0])), (u71, .inr (6, [.int 0, .ref u78, .ref u79, .ref u80, .int 0])), (u69, .inr (6, [.int 0, .ref u75, .ref u76, .ref u77, .int 0])), (q35, .inr (1, [.int 0, .ref u66, .ref u56, .ref u57, .ref u58, .ref u59, .ref u60, .ref u67, .int 1])), (u56, .inl (k61, 13, .inl (fun _ => 0))), (u57, .inl (k62, 13, .inl u2)), (u58, .inl (k63, 13, .inl (fun _ => 0))), (u59, .inl (k64, 13, .inl (fun _ => 0))), (u60, .inl (k65, 13, .inl (fun _ => 0))), (u70, .inr (11, [.ref q7, .int 0, .int 0, .int 0, .int 0, .int 0])), (q47, .inr (8, [.int 2, .int 0, .ref u69, .int 0, .ref u70, .int 3, .int 12, .ref q13, .ref q35, .int 0, .int 0, .int 0, .int 0, .int 0, .int 0, .ref u72, .ref u71, .ref u73, .ref u74]))] := hD
  have hK : va_K (dC, dI) vwCl [(k61, .int), (k62, .int), (k63, .int), (k64, .int), (k65, .int)] s := hK
  refine lv_aload_n hx hb dc_SB_stratum_24 rfl (lv_at hl 0 rfl) ?_
  have hPc := hP.sub (ws' := [(h0, .inr (0, [.ref q7, .int 0, .int 0, .ref q13, .ref q24, .ref q35, .ref q47, .ref q58, .ref q69, .ref q84, .ref q95, .int 0, .int 0])), (q47, .inr (8, [.int 2, .int 0, .ref u69, .int 0, .ref u70, .int 3, .int 12, .ref q13, .ref q35, .int 0, .int 0, .int 0, .int 0, .int 0, .int 0, .ref u72, .ref u71, .ref u73, .ref u74]))]) [0, 10] rfl
  have hDc := hD.sub (ws' := [(h0, .inr (0, [.ref q7, .int 0, .int 0, .ref q13, .ref q24, .ref q35, .ref q47, .ref q58, .ref q69, .ref q84, .ref q95, .int 0, .int 0])), (q47, .inr (8, [.int 2, .int 0, .ref u69, .int 0, .ref u70, .int 3, .int 12, .ref q13, .ref q35, .int 0, .int 0, .int 0, .int 0, .int 0, .int 0, .ref u72, .ref u71, .ref u73, .ref u74]))]) [0, 10] (by decide) rfl
  have hKc := hK.sub (tys' := []) [] rfl
  have hFc := va_free (wc := [(h0, .inr (0, [.ref q7, .int 0, .int 0, .ref q13, .ref q24, .ref q35, .ref q47, .ref q58, .ref q69, .ref q84, .ref q95, .int 0, .int 0])), (q47, .inr (8, [.int 2, .int 0, .ref u69, .int 0, .ref u70, .int 3, .int 12, .ref q13, .ref q35, .int 0, .int 0, .int 0, .int 0, .int 0, .int 0, .ref u72, .ref u71, .ref u73, .ref u74]))]) hD hS hA [0, 10] rfl
  refine va_callv (va_runV (As := []) (rest := []) ⟨hx, hb, hml, hown, hT⟩ (c_SB_forgetTape_2 l dC dI h0 q7 q13 q24 q35 q47 q58 q69 q84 q95 u69 u70 u72 u71 u73 u74 H.size) (cwV 0 hT (gd_V wd_872 wd_874 sl_SB_forgetTape wd_1 wd_875) rfl rfl rfl (by decide +kernel) ⟨Nat.le_of_ble_eq_true rfl, Nat.le_of_ble_eq_true rfl⟩) ⟨fun a U g mk q => by obtain ⟨q0, q1, qP, qK, qD⟩ := q; exact ⟨q0, q1, qP, va_K.moved (u := U) (U := U.calling g mk a) (Vm.Alike.refl U.vm) qK, qD⟩, va_recv hK hP (q0 := 0) (ci := 0) rfl rfl, fun U hU hW => ⟨rfl, by rw [hU], by rw [hU]; exact hPc, va_K.moved hW.alike hKc, hDc.weaken (fun _ _ _ _ => trivial)⟩⟩ rfl rfl hl.1 rfl (lv_room (Nat.le_of_ble_eq_true rfl)) dc_SB_stratum_25 ⟨(Nat.le_of_ble_eq_true rfl), (Nat.le_of_ble_eq_true rfl)⟩) hS (fun q _ h => hFc q h) hFc (fun _ t H1 locs ht hvm hr9 hB hz1 hk1 hS => ?_)
  obtain ⟨hP1, hK1, hD1⟩ := hB
  rw [ht] at hP1
  have hK1 := va_K.moved hvm.symm hK1
  obtain ⟨hP, hD⟩ := va_join (wr := [(u71, .inr (6, [.int 0, .ref u78, .ref u79, .ref u80, .int 0])), (u69, .inr (6, [.int 0, .ref u75, .ref u76, .ref u77, .int 0])), (q35, .inr (1, [.int 0, .ref u66, .ref u56, .ref u57, .ref u58, .ref u59, .ref u60, .ref u67, .int 1])), (u56, .inl (k61, 13, .inl (fun _ => 0))), (u57, .inl (k62, 13, .inl u2)), (u58, .inl (k63, 13, .inl (fun _ => 0))), (u59, .inl (k64, 13, .inl (fun _ => 0))), (u60, .inl (k65, 13, .inl (fun _ => 0))), (u70, .inr (11, [.ref q7, .int 0, .int 0, .int 0, .int 0, .int 0]))]) (w1 := [(h0, .inr (0, [.ref q7, .int 0, .int 2, .ref q13, .ref q24, .ref q35, .ref q47, .ref q58, .ref q69, .ref q84, .ref q95, .int 0, .int 0])), (q47, .inr (8, [.int 2, .int 0, .ref u69, .int 0, .ref u70, .int 3, .int 12, .ref q13, .ref q35, .int 0, .int 0, .int 0, .int 0, .int 0, .int 0, .ref u72, .ref u71, .ref u73, .ref u74]))]) hP hD [0, 10] [1, 2, 3, 4, 5, 6, 7, 8, 9] rfl rfl (by decide) (by decide) hk1 hFc hP1 hD1
  have hK := (hK.sub (tys' := [(k61, .int), (k62, .int), (k63, .int), (k64, .int), (k65, .int)]) [0, 1, 2, 3, 4] rfl).app hK1
  generalize H1 = H at hP hS ⊢
  have hP : va_P (dC, dI) vwCl [(u71, .inr (6, [.int 0, .ref u78, .ref u79, .ref u80, .int 0])), (u69, .inr (6, [.int 0, .ref u75, .ref u76, .ref u77, .int 0])), (q35, .inr (1, [.int 0, .ref u66, .ref u56, .ref u57, .ref u58, .ref u59, .ref u60, .ref u67, .int 1])), (u56, .inl (k61, 13, .inl (fun _ => 0))), (u57, .inl (k62, 13, .inl u2)), (u58, .inl (k63, 13, .inl (fun _ => 0))), (u59, .inl (k64, 13, .inl (fun _ => 0))), (u60, .inl (k65, 13, .inl (fun _ => 0))), (u70, .inr (11, [.ref q7, .int 0, .int 0, .int 0, .int 0, .int 0])), (h0, .inr (0, [.ref q7, .int 0, .int 2, .ref q13, .ref q24, .ref q35, .ref q47, .ref q58, .ref q69, .ref q84, .ref q95, .int 0, .int 0])), (q47, .inr (8, [.int 2, .int 0, .ref u69, .int 0, .ref u70, .int 3, .int 12, .ref q13, .ref q35, .int 0, .int 0, .int 0, .int 0, .int 0, .int 0, .ref u72, .ref u71, .ref u73, .ref u74]))] H := hP
  have hD : va_D A [(u71, .inr (6, [.int 0, .ref u78, .ref u79, .ref u80, .int 0])), (u69, .inr (6, [.int 0, .ref u75, .ref u76, .ref u77, .int 0])), (q35, .inr (1, [.int 0, .ref u66, .ref u56, .ref u57, .ref u58, .ref u59, .ref u60, .ref u67, .int 1])), (u56, .inl (k61, 13, .inl (fun _ => 0))), (u57, .inl (k62, 13, .inl u2)), (u58, .inl (k63, 13, .inl (fun _ => 0))), (u59, .inl (k64, 13, .inl (fun _ => 0))), (u60, .inl (k65, 13, .inl (fun _ => 0))), (u70, .inr (11, [.ref q7, .int 0, .int 0, .int 0, .int 0, .int 0])), (h0, .inr (0, [.ref q7, .int 0, .int 2, .ref q13, .ref q24, .ref q35, .ref q47, .ref q58, .ref q69, .ref q84, .ref q95, .int 0, .int 0])), (q47, .inr (8, [.int 2, .int 0, .ref u69, .int 0, .ref u70, .int 3, .int 12, .ref q13, .ref q35, .int 0, .int 0, .int 0, .int 0, .int 0, .int 0, .ref u72, .ref u71, .ref u73, .ref u74]))] := hD
  have hK : va_K (dC, dI) vwCl [(k61, .int), (k62, .int), (k63, .int), (k64, .int), (k65, .int)] s := hK
  refine lv_aload_n hx hb dc_SB_stratum_28 rfl (lv_at hl 0 rfl) ?_
  refine va_get (D := (dC, dI)) (ci := 0) (v := .int 2) (C := "StrataBase") (T := tb_SB) (N := 13) hx hb hT in_SB hown hK hP 9 rfl rfl 2 (by decide) (hT _ wd_519) (fun _ h9 => h9) rfl dc_SB_stratum_29 ?_
  refine lv_if_eq (tgt := 46) hx hb dc_SB_stratum_32 (by decide) (fun h9 => absurd h9 (by decide)) (fun _ => ?_)
  refine lv_bipush (v := (-2)) hx hb dc_SB_stratum_35 (by decide) ?_
  refine lv_aload_n hx hb dc_SB_stratum_37 rfl (lv_at hl 0 rfl) ?_
  refine va_get (D := (dC, dI)) (ci := 0) (v := .ref q47) (C := "StrataBase") (T := tb_SB) (N := 13) hx hb hT in_SB hown hK hP 9 rfl rfl 6 (by decide) (hT _ wd_523) (fun _ h9 => h9) rfl dc_SB_stratum_38 ?_
  refine va_get (D := (dC, dI)) (ci := 8) (v := .int 0) (C := "StrataBase$Reader") (T := tb_Re) (N := 19) hx hb hT in_Re hown hK hP 10 rfl rfl 1 (by decide) (hT _ wd_222) (fun _ h9 => h9) rfl dc_SB_stratum_41 ?_
  refine lv_isub hx hb dc_SB_stratum_44 ?_
  refine lv_topi (fun y4 e5 => ?_)
  obtain rfl : y4 = (-2) := e5.trans (by decide)
  have hP9 := hP.sub (ws' := [(u71, .inr (6, [.int 0, .ref u78, .ref u79, .ref u80, .int 0])), (u69, .inr (6, [.int 0, .ref u75, .ref u76, .ref u77, .int 0])), (q35, .inr (1, [.int 0, .ref u66, .ref u56, .ref u57, .ref u58, .ref u59, .ref u60, .ref u67, .int 1])), (u56, .inl (k61, 13, .inl (fun _ => 0))), (u57, .inl (k62, 13, .inl u2)), (u58, .inl (k63, 13, .inl (fun _ => 0))), (u59, .inl (k64, 13, .inl (fun _ => 0))), (u60, .inl (k65, 13, .inl (fun _ => 0))), (u70, .inr (11, [.ref q7, .int 0, .int 0, .int 0, .int 0, .int 0])), (h0, .inr (0, [.ref q7, .int 0, .int 2, .ref q13, .ref q24, .ref q35, .ref q47, .ref q58, .ref q69, .ref q84, .ref q95, .int 0, .int 0])), (q47, .inr (8, [.int 2, .int 0, .ref u69, .int 0, .ref u70, .int 3, .int 12, .ref q13, .ref q35, .int 0, .int 0, .int 0, .int 0, .int 0, .int 0, .ref u72, .ref u71, .ref u73, .ref u74]))]) [0, 1, 2, 3, 4, 5, 6, 7, 8, 9, 10] rfl
  have hD9 := hD.sub (ws' := [(u71, .inr (6, [.int 0, .ref u78, .ref u79, .ref u80, .int 0])), (u69, .inr (6, [.int 0, .ref u75, .ref u76, .ref u77, .int 0])), (q35, .inr (1, [.int 0, .ref u66, .ref u56, .ref u57, .ref u58, .ref u59, .ref u60, .ref u67, .int 1])), (u56, .inl (k61, 13, .inl (fun _ => 0))), (u57, .inl (k62, 13, .inl u2)), (u58, .inl (k63, 13, .inl (fun _ => 0))), (u59, .inl (k64, 13, .inl (fun _ => 0))), (u60, .inl (k65, 13, .inl (fun _ => 0))), (u70, .inr (11, [.ref q7, .int 0, .int 0, .int 0, .int 0, .int 0])), (h0, .inr (0, [.ref q7, .int 0, .int 2, .ref q13, .ref q24, .ref q35, .ref q47, .ref q58, .ref q69, .ref q84, .ref q95, .int 0, .int 0])), (q47, .inr (8, [.int 2, .int 0, .ref u69, .int 0, .ref u70, .int 3, .int 12, .ref q13, .ref q35, .int 0, .int 0, .int 0, .int 0, .int 0, .int 0, .ref u72, .ref u71, .ref u73, .ref u74]))]) [0, 1, 2, 3, 4, 5, 6, 7, 8, 9, 10] (by decide) rfl
  have hK9 := hK.sub (tys' := [(k61, .int), (k62, .int), (k63, .int), (k64, .int), (k65, .int)]) [0, 1, 2, 3, 4] rfl
  refine W.widen (k := 0) (n := 0) (Nat.le_of_ble_eq_true rfl) (Nat.le_of_ble_eq_true rfl) ?_
  exact W.iret (v := (-2)) hx hb hr (fun t ht hW => ⟨⟨(-2), (), rfl, rfl, u2, by rw [ht]; exact hP9, va_K.moved hW.alike hK9, hD9⟩, hS.F ht⟩) hS.2.2 dc_SB_stratum_45

set_option maxHeartbeats 4000000 in
set_option maxRecDepth 100000 in
theorem c_SB_count_0 (l : Launch) (dC : Nat → ClassId) (dI : Nat → Nat → Nat) (h0 : Nat) (q7 : Nat) (q13 : Nat) (q24 : Nat) (q35 : Nat) (q47 : Nat) (q58 : Nat) (q69 : Nat) (q84 : Nat) (q95 : Nat) (u2 : Nat) (u3 : Nat) (u4 : Nat) (u5 : Nat) (u6 : Nat) (u8 : Nat) (u12 : Nat) (u13 : Nat) (u14 : Nat) (u15 : Nat) (u16 : Nat) (u17 : Nat) (u18 : Nat) (sz : Nat) : Met l my_SB_count (Cond.code my_SB_count cd_SB_count 2 (some (.int)) :: tblG) ({ frames := 0, cells := 0, slots := 0, locals := 0 }) (va_Pc [.ref h0, .int 0] (fun U => U.heap.size = sz ∧ va_P (dC, dI) vwCl [(h0, .inr (0, [.ref q7, .int 0, .int 0, .ref q13, .ref q24, .ref q35, .ref q47, .ref q58, .ref q69, .ref q84, .ref q95, .int 0, .int 0])), (q13, .inr (7, [.ref u2, .ref u3, .ref u4, .ref u5, .ref u6, .int 0, .ref u8])), (u2, .inr (1, [.int 0, .ref u12, .ref u13, .ref u14, .ref u15, .ref u16, .ref u17, .ref u18, .int 0]))] U.heap ∧ va_K (dC, dI) vwCl [] U ∧ va_D (fun _ => True) [(h0, .inr (0, [.ref q7, .int 0, .int 0, .ref q13, .ref q24, .ref q35, .ref q47, .ref q58, .ref q69, .ref q84, .ref q95, .int 0, .int 0])), (q13, .inr (7, [.ref u2, .ref u3, .ref u4, .ref u5, .ref u6, .int 0, .ref u8])), (u2, .inr (1, [.int 0, .ref u12, .ref u13, .ref u14, .ref u15, .ref u16, .ref u17, .ref u18, .int 0]))])) (va_Qi (fun (r : Int32) (_ : Unit) => r = 0) (fun (_ : Unit) (t : State) => va_P (dC, dI) vwCl [(h0, .inr (0, [.ref q7, .int 0, .int 0, .ref q13, .ref q24, .ref q35, .ref q47, .ref q58, .ref q69, .ref q84, .ref q95, .int 0, .int 0])), (q13, .inr (7, [.ref u2, .ref u3, .ref u4, .ref u5, .ref u6, .int 0, .ref u8])), (u2, .inr (1, [.int 0, .ref u12, .ref u13, .ref u14, .ref u15, .ref u16, .ref u17, .ref u18, .int 0]))] t.heap ∧ va_K (dC, dI) vwCl [] t ∧ va_D (va_A [(h0, .inr (0, [.ref q7, .int 0, .int 0, .ref q13, .ref q24, .ref q35, .ref q47, .ref q58, .ref q69, .ref q84, .ref q95, .int 0, .int 0])), (q13, .inr (7, [.ref u2, .ref u3, .ref u4, .ref u5, .ref u6, .int 0, .ref u8])), (u2, .inr (1, [.int 0, .ref u12, .ref u13, .ref u14, .ref u15, .ref u16, .ref u17, .ref u18, .int 0]))] sz) [(h0, .inr (0, [.ref q7, .int 0, .int 0, .ref q13, .ref q24, .ref q35, .ref q47, .ref q58, .ref q69, .ref q84, .ref q95, .int 0, .int 0])), (q13, .inr (7, [.ref u2, .ref u3, .ref u4, .ref u5, .ref u6, .int 0, .ref u8])), (u2, .inr (1, [.int 0, .ref u12, .ref u13, .ref u14, .ref u15, .ref u16, .ref u17, .ref u18, .int 0]))]) (va_A [(h0, .inr (0, [.ref q7, .int 0, .int 0, .ref q13, .ref q24, .ref q35, .ref q47, .ref q58, .ref q69, .ref q84, .ref q95, .int 0, .int 0])), (q13, .inr (7, [.ref u2, .ref u3, .ref u4, .ref u5, .ref u6, .int 0, .ref u8])), (u2, .inr (1, [.int 0, .ref u12, .ref u13, .ref u14, .ref u15, .ref u16, .ref u17, .ref u18, .int 0]))] sz)) 0 0 (va_A [(h0, .inr (0, [.ref q7, .int 0, .int 0, .ref q13, .ref q24, .ref q35, .ref q47, .ref q58, .ref q69, .ref q84, .ref q95, .int 0, .int 0])), (q13, .inr (7, [.ref u2, .ref u3, .ref u4, .ref u5, .ref u6, .int 0, .ref u8])), (u2, .inr (1, [.int 0, .ref u12, .ref u13, .ref u14, .ref u15, .ref u16, .ref u17, .ref u18, .int 0]))] sz) := by
  refine Met.ofW (cc := cd_SB_count) (maxL := 2) (ret := (some (.int))) (by decide) rfl ?_
  intro p e s m args below meth c s₁ B hml hv
  obtain ⟨rfl, hsz, hP, hK, hD0⟩ := hv
  have hx := B.exec
  have hb := B.bytes
  have hr := B.returns
  have hT : ∀ w ∈ tblG, w.before _ s = true := fun w h => atoms_spec (ws := (Cond.code my_SB_count cd_SB_count 2 (some (.int)) :: tblG)) B.pre w (List.mem_cons_of_mem _ h)
  have hown : s.vm.findClass "StrataBase" = some m.cls := findClass_of_methodNamed B.named
  have hlocks := B.notSynchronized
  subst hsz
  have hD := hD0.self (sz := s.heap.size)
  generalize hAe : va_A [(h0, .inr (0, [.ref q7, .int 0, .int 0, .ref q13, .ref q24, .ref q35, .ref q47, .ref q58, .ref q69, .ref q84, .ref q95, .int 0, .int 0])), (q13, .inr (7, [.ref u2, .ref u3, .ref u4, .ref u5, .ref u6, .int 0, .ref u8])), (u2, .inr (1, [.int 0, .ref u12, .ref u13, .ref u14, .ref u15, .ref u16, .ref u17, .ref u18, .int 0]))] s.heap.size = A at hD ⊢
  have hA : ∀ q : Nat, s.heap.size ≤ q → A q := fun q h => by rw [← hAe]; exact Or.inr h
  have hS : va_S A s.heap s.heap [] := va_S.rf
  have hl := lv_entry ([.ref h0, .int 0]) (n := 2) (Nat.le_of_ble_eq_true rfl)
  rw [lg_entry_eq]
  generalize (lg_sl ([.ref h0, .int 0]) ++ List.replicate (2 - (lg_sl ([.ref h0, .int 0])).length) Slot.unset).toArray = ls at hl ⊢
  have hl : lv_has ls 2 [(0, .ref h0), (1, .int 0)] := hl
  refine lv_iload_n hx hb dc_SB_count_0 rfl (lv_at hl 1 rfl) ?_
  refine lv_tableIn (off := 43) (tgt := 44) hx hb dc_SB_count_1 (by decide) (by decide) (by decide) (by decide) ?_
  refine lv_aload_n hx hb dc_SB_count_44 rfl (lv_at hl 0 rfl) ?_
  refine va_get (D := (dC, dI)) (ci := 0) (v := .ref q13) (C := "StrataBase") (T := tb_SB) (N := 13) hx hb hT in_SB hown hK hP 0 rfl rfl 3 (by decide) (hT _ wd_520) (fun _ h9 => h9) rfl dc_SB_count_45 ?_
  refine va_get (D := (dC, dI)) (ci := 7) (v := .ref u2) (C := "StrataBase$Program") (T := tb_Pr) (N := 7) hx hb hT in_Pr hown hK hP 1 rfl rfl 0 (by decide) (hT _ wd_147) (fun _ h9 => h9) rfl dc_SB_count_48 ?_
  refine va_get (D := (dC, dI)) (ci := 1) (v := .int 0) (C := "StrataBase$Clauses") (T := tb_Cl) (N := 9) hx hb hT in_Cl hown hK hP 2 rfl rfl 0 (by decide) (hT _ wd_50) (fun _ h9 => h9) rfl dc_SB_count_51 ?_
  have hP9 := hP.sub (ws' := [(h0, .inr (0, [.ref q7, .int 0, .int 0, .ref q13, .ref q24, .ref q35, .ref q47, .ref q58, .ref q69, .ref q84, .ref q95, .int 0, .int 0])), (q13, .inr (7, [.ref u2, .ref u3, .ref u4, .ref u5, .ref u6, .int 0, .ref u8])), (u2, .inr (1, [.int 0, .ref u12, .ref u13, .ref u14, .ref u15, .ref u16, .ref u17, .ref u18, .int 0]))]) [0, 1, 2] rfl
  have hD9 := hD.sub (ws' := [(h0, .inr (0, [.ref q7, .int 0, .int 0, .ref q13, .ref q24, .ref q35, .ref q47, .ref q58, .ref q69, .ref q84, .ref q95, .int 0, .int 0])), (q13, .inr (7, [.ref u2, .ref u3, .ref u4, .ref u5, .ref u6, .int 0, .ref u8])), (u2, .inr (1, [.int 0, .ref u12, .ref u13, .ref u14, .ref u15, .ref u16, .ref u17, .ref u18, .int 0]))]) [0, 1, 2] (by decide) rfl
  have hK9 := hK.sub (tys' := []) [] rfl
  refine W.widen (k := 0) (n := 0) (Nat.le_of_ble_eq_true rfl) (Nat.le_of_ble_eq_true rfl) ?_
  exact W.iret (v := 0) hx hb hr (fun t ht hW => ⟨⟨0, (), rfl, rfl, by rw [ht]; exact hP9, va_K.moved hW.alike hK9, hD9⟩, hS.F ht⟩) hS.2.2 dc_SB_count_54

set_option maxHeartbeats 4000000 in
set_option maxRecDepth 100000 in
theorem c_SB_count_1 (l : Launch) (dC : Nat → ClassId) (dI : Nat → Nat → Nat) (h0 : Nat) (q7 : Nat) (q13 : Nat) (q24 : Nat) (q35 : Nat) (q47 : Nat) (q58 : Nat) (q69 : Nat) (q84 : Nat) (q95 : Nat) (u2 : Nat) (u3 : Nat) (u4 : Nat) (u5 : Nat) (u6 : Nat) (u8 : Nat) (u19 : Nat) (u20 : Nat) (u21 : Nat) (sz : Nat) : Met l my_SB_count (Cond.code my_SB_count cd_SB_count 2 (some (.int)) :: tblG) ({ frames := 0, cells := 0, slots := 0, locals := 0 }) (va_Pc [.ref h0, .int 1] (fun U => U.heap.size = sz ∧ va_P (dC, dI) vwCl [(h0, .inr (0, [.ref q7, .int 0, .int 0, .ref q13, .ref q24, .ref q35, .ref q47, .ref q58, .ref q69, .ref q84, .ref q95, .int 0, .int 0])), (q13, .inr (7, [.ref u2, .ref u3, .ref u4, .ref u5, .ref u6, .int 0, .ref u8])), (u3, .inr (6, [.int 0, .ref u19, .ref u20, .ref u21, .int 0]))] U.heap ∧ va_K (dC, dI) vwCl [] U ∧ va_D (fun _ => True) [(h0, .inr (0, [.ref q7, .int 0, .int 0, .ref q13, .ref q24, .ref q35, .ref q47, .ref q58, .ref q69, .ref q84, .ref q95, .int 0, .int 0])), (q13, .inr (7, [.ref u2, .ref u3, .ref u4, .ref u5, .ref u6, .int 0, .ref u8])), (u3, .inr (6, [.int 0, .ref u19, .ref u20, .ref u21, .int 0]))])) (va_Qi (fun (r : Int32) (_ : Unit) => r = 0) (fun (_ : Unit) (t : State) => va_P (dC, dI) vwCl [(h0, .inr (0, [.ref q7, .int 0, .int 0, .ref q13, .ref q24, .ref q35, .ref q47, .ref q58, .ref q69, .ref q84, .ref q95, .int 0, .int 0])), (q13, .inr (7, [.ref u2, .ref u3, .ref u4, .ref u5, .ref u6, .int 0, .ref u8])), (u3, .inr (6, [.int 0, .ref u19, .ref u20, .ref u21, .int 0]))] t.heap ∧ va_K (dC, dI) vwCl [] t ∧ va_D (va_A [(h0, .inr (0, [.ref q7, .int 0, .int 0, .ref q13, .ref q24, .ref q35, .ref q47, .ref q58, .ref q69, .ref q84, .ref q95, .int 0, .int 0])), (q13, .inr (7, [.ref u2, .ref u3, .ref u4, .ref u5, .ref u6, .int 0, .ref u8])), (u3, .inr (6, [.int 0, .ref u19, .ref u20, .ref u21, .int 0]))] sz) [(h0, .inr (0, [.ref q7, .int 0, .int 0, .ref q13, .ref q24, .ref q35, .ref q47, .ref q58, .ref q69, .ref q84, .ref q95, .int 0, .int 0])), (q13, .inr (7, [.ref u2, .ref u3, .ref u4, .ref u5, .ref u6, .int 0, .ref u8])), (u3, .inr (6, [.int 0, .ref u19, .ref u20, .ref u21, .int 0]))]) (va_A [(h0, .inr (0, [.ref q7, .int 0, .int 0, .ref q13, .ref q24, .ref q35, .ref q47, .ref q58, .ref q69, .ref q84, .ref q95, .int 0, .int 0])), (q13, .inr (7, [.ref u2, .ref u3, .ref u4, .ref u5, .ref u6, .int 0, .ref u8])), (u3, .inr (6, [.int 0, .ref u19, .ref u20, .ref u21, .int 0]))] sz)) 0 0 (va_A [(h0, .inr (0, [.ref q7, .int 0, .int 0, .ref q13, .ref q24, .ref q35, .ref q47, .ref q58, .ref q69, .ref q84, .ref q95, .int 0, .int 0])), (q13, .inr (7, [.ref u2, .ref u3, .ref u4, .ref u5, .ref u6, .int 0, .ref u8])), (u3, .inr (6, [.int 0, .ref u19, .ref u20, .ref u21, .int 0]))] sz) := by
  refine Met.ofW (cc := cd_SB_count) (maxL := 2) (ret := (some (.int))) (by decide) rfl ?_
  intro p e s m args below meth c s₁ B hml hv
  obtain ⟨rfl, hsz, hP, hK, hD0⟩ := hv
  have hx := B.exec
  have hb := B.bytes
  have hr := B.returns
  have hT : ∀ w ∈ tblG, w.before _ s = true := fun w h => atoms_spec (ws := (Cond.code my_SB_count cd_SB_count 2 (some (.int)) :: tblG)) B.pre w (List.mem_cons_of_mem _ h)
  have hown : s.vm.findClass "StrataBase" = some m.cls := findClass_of_methodNamed B.named
  have hlocks := B.notSynchronized
  subst hsz
  have hD := hD0.self (sz := s.heap.size)
  generalize hAe : va_A [(h0, .inr (0, [.ref q7, .int 0, .int 0, .ref q13, .ref q24, .ref q35, .ref q47, .ref q58, .ref q69, .ref q84, .ref q95, .int 0, .int 0])), (q13, .inr (7, [.ref u2, .ref u3, .ref u4, .ref u5, .ref u6, .int 0, .ref u8])), (u3, .inr (6, [.int 0, .ref u19, .ref u20, .ref u21, .int 0]))] s.heap.size = A at hD ⊢
  have hA : ∀ q : Nat, s.heap.size ≤ q → A q := fun q h => by rw [← hAe]; exact Or.inr h
  have hS : va_S A s.heap s.heap [] := va_S.rf
  have hl := lv_entry ([.ref h0, .int 1]) (n := 2) (Nat.le_of_ble_eq_true rfl)
  rw [lg_entry_eq]
  generalize (lg_sl ([.ref h0, .int 1]) ++ List.replicate (2 - (lg_sl ([.ref h0, .int 1])).length) Slot.unset).toArray = ls at hl ⊢
  have hl : lv_has ls 2 [(0, .ref h0), (1, .int 1)] := hl
  refine lv_iload_n hx hb dc_SB_count_0 rfl (lv_at hl 1 rfl) ?_
  refine lv_tableIn (off := 54) (tgt := 55) hx hb dc_SB_count_1 (by decide) (by decide) (by decide) (by decide) ?_
  refine lv_aload_n hx hb dc_SB_count_55 rfl (lv_at hl 0 rfl) ?_
  refine va_get (D := (dC, dI)) (ci := 0) (v := .ref q13) (C := "StrataBase") (T := tb_SB) (N := 13) hx hb hT in_SB hown hK hP 0 rfl rfl 3 (by decide) (hT _ wd_520) (fun _ h9 => h9) rfl dc_SB_count_56 ?_
  refine va_get (D := (dC, dI)) (ci := 7) (v := .ref u3) (C := "StrataBase$Program") (T := tb_Pr) (N := 7) hx hb hT in_Pr hown hK hP 1 rfl rfl 1 (by decide) (hT _ wd_150) (fun _ h9 => h9) rfl dc_SB_count_59 ?_
  refine va_get (D := (dC, dI)) (ci := 6) (v := .int 0) (C := "StrataBase$Names") (T := tb_Na) (N := 5) hx hb hT in_Na hown hK hP 2 rfl rfl 0 (by decide) (hT _ wd_107) (fun _ h9 => h9) rfl dc_SB_count_62 ?_
  have hP9 := hP.sub (ws' := [(h0, .inr (0, [.ref q7, .int 0, .int 0, .ref q13, .ref q24, .ref q35, .ref q47, .ref q58, .ref q69, .ref q84, .ref q95, .int 0, .int 0])), (q13, .inr (7, [.ref u2, .ref u3, .ref u4, .ref u5, .ref u6, .int 0, .ref u8])), (u3, .inr (6, [.int 0, .ref u19, .ref u20, .ref u21, .int 0]))]) [0, 1, 2] rfl
  have hD9 := hD.sub (ws' := [(h0, .inr (0, [.ref q7, .int 0, .int 0, .ref q13, .ref q24, .ref q35, .ref q47, .ref q58, .ref q69, .ref q84, .ref q95, .int 0, .int 0])), (q13, .inr (7, [.ref u2, .ref u3, .ref u4, .ref u5, .ref u6, .int 0, .ref u8])), (u3, .inr (6, [.int 0, .ref u19, .ref u20, .ref u21, .int 0]))]) [0, 1, 2] (by decide) rfl
  have hK9 := hK.sub (tys' := []) [] rfl
  refine W.widen (k := 0) (n := 0) (Nat.le_of_ble_eq_true rfl) (Nat.le_of_ble_eq_true rfl) ?_
  exact W.iret (v := 0) hx hb hr (fun t ht hW => ⟨⟨0, (), rfl, rfl, by rw [ht]; exact hP9, va_K.moved hW.alike hK9, hD9⟩, hS.F ht⟩) hS.2.2 dc_SB_count_65

set_option maxHeartbeats 4000000 in
set_option maxRecDepth 100000 in
theorem c_Co_size_1 (l : Launch) (dC : Nat → ClassId) (dI : Nat → Nat → Nat) (a1 : Nat) (a2 : Nat) (a3 : Nat) (a4 : Nat) (a5 : Nat) (a6 : Nat) (a7 : Nat) (a8 : Nat) (sz : Nat) : Met l my_Co_size (Cond.code my_Co_size cd_Co_size 1 (some (.int)) :: tblG) ({ frames := 0, cells := 0, slots := 0, locals := 0 }) (va_Pc [.ref a1] (fun U => U.heap.size = sz ∧ va_P (dC, dI) vwCl [(a1, .inr (2, [.ref a2, .ref a3, .ref a4, .ref a5])), (a2, .inr (6, [.int 0, .ref a6, .ref a7, .ref a8, .int 0]))] U.heap ∧ va_K (dC, dI) vwCl [] U ∧ va_D (fun _ => True) [(a1, .inr (2, [.ref a2, .ref a3, .ref a4, .ref a5])), (a2, .inr (6, [.int 0, .ref a6, .ref a7, .ref a8, .int 0]))])) (va_Qi (fun (r : Int32) (_ : Unit) => r = 0) (fun (_ : Unit) (t : State) => va_P (dC, dI) vwCl [(a1, .inr (2, [.ref a2, .ref a3, .ref a4, .ref a5])), (a2, .inr (6, [.int 0, .ref a6, .ref a7, .ref a8, .int 0]))] t.heap ∧ va_K (dC, dI) vwCl [] t ∧ va_D (va_A [(a1, .inr (2, [.ref a2, .ref a3, .ref a4, .ref a5])), (a2, .inr (6, [.int 0, .ref a6, .ref a7, .ref a8, .int 0]))] sz) [(a1, .inr (2, [.ref a2, .ref a3, .ref a4, .ref a5])), (a2, .inr (6, [.int 0, .ref a6, .ref a7, .ref a8, .int 0]))]) (va_A [(a1, .inr (2, [.ref a2, .ref a3, .ref a4, .ref a5])), (a2, .inr (6, [.int 0, .ref a6, .ref a7, .ref a8, .int 0]))] sz)) 0 0 (va_A [(a1, .inr (2, [.ref a2, .ref a3, .ref a4, .ref a5])), (a2, .inr (6, [.int 0, .ref a6, .ref a7, .ref a8, .int 0]))] sz) := by
  refine Met.ofW (cc := cd_Co_size) (maxL := 1) (ret := (some (.int))) (by decide) rfl ?_
  intro p e s m args below meth c s₁ B hml hv
  obtain ⟨rfl, hsz, hP, hK, hD0⟩ := hv
  have hx := B.exec
  have hb := B.bytes
  have hr := B.returns
  have hT : ∀ w ∈ tblG, w.before _ s = true := fun w h => atoms_spec (ws := (Cond.code my_Co_size cd_Co_size 1 (some (.int)) :: tblG)) B.pre w (List.mem_cons_of_mem _ h)
  have hown : s.vm.findClass "StrataBase$Constants" = some m.cls := findClass_of_methodNamed B.named
  have hlocks := B.notSynchronized
  subst hsz
  have hD := hD0.self (sz := s.heap.size)
  generalize hAe : va_A [(a1, .inr (2, [.ref a2, .ref a3, .ref a4, .ref a5])), (a2, .inr (6, [.int 0, .ref a6, .ref a7, .ref a8, .int 0]))] s.heap.size = A at hD ⊢
  have hA : ∀ q : Nat, s.heap.size ≤ q → A q := fun q h => by rw [← hAe]; exact Or.inr h
  have hS : va_S A s.heap s.heap [] := va_S.rf
  have hl := lv_entry ([.ref a1]) (n := 1) (Nat.le_of_ble_eq_true rfl)
  rw [lg_entry_eq]
  generalize (lg_sl ([.ref a1]) ++ List.replicate (1 - (lg_sl ([.ref a1])).length) Slot.unset).toArray = ls at hl ⊢
  have hl : lv_has ls 1 [(0, .ref a1)] := hl
  refine lv_aload_n hx hb dc_Co_size_0 rfl (lv_at hl 0 rfl) ?_
  refine va_get (D := (dC, dI)) (ci := 2) (v := .ref a2) (C := "StrataBase$Constants") (T := tb_Co) (N := 4) hx hb hT in_Co hown hK hP 0 rfl rfl 0 (by decide) (hT _ wd_132) (fun _ h9 => h9) rfl dc_Co_size_1 ?_
  refine va_get (D := (dC, dI)) (ci := 6) (v := .int 0) (C := "StrataBase$Names") (T := tb_Na) (N := 5) hx hb hT in_Na hown hK hP 1 rfl rfl 0 (by decide) (hT _ wd_105) (fun _ h9 => h9) rfl dc_Co_size_4 ?_
  have hP9 := hP.sub (ws' := [(a1, .inr (2, [.ref a2, .ref a3, .ref a4, .ref a5])), (a2, .inr (6, [.int 0, .ref a6, .ref a7, .ref a8, .int 0]))]) [0, 1] rfl
  have hD9 := hD.sub (ws' := [(a1, .inr (2, [.ref a2, .ref a3, .ref a4, .ref a5])), (a2, .inr (6, [.int 0, .ref a6, .ref a7, .ref a8, .int 0]))]) [0, 1] (by decide) rfl
  have hK9 := hK.sub (tys' := []) [] rfl
  refine W.widen (k := 0) (n := 0) (Nat.le_of_ble_eq_true rfl) (Nat.le_of_ble_eq_true rfl) ?_
  exact W.iret (v := 0) hx hb hr (fun t ht hW => ⟨⟨0, (), rfl, rfl, by rw [ht]; exact hP9, va_K.moved hW.alike hK9, hD9⟩, hS.F ht⟩) hS.2.2 dc_Co_size_7

set_option maxHeartbeats 4000000 in
set_option maxRecDepth 100000 in
theorem c_SB_count_2 (l : Launch) (dC : Nat → ClassId) (dI : Nat → Nat → Nat) (h0 : Nat) (q7 : Nat) (q13 : Nat) (q24 : Nat) (q35 : Nat) (q47 : Nat) (q58 : Nat) (q69 : Nat) (q84 : Nat) (q95 : Nat) (u2 : Nat) (u3 : Nat) (u4 : Nat) (u5 : Nat) (u6 : Nat) (u8 : Nat) (u7 : Nat) (u22 : Nat) (u23 : Nat) (u24 : Nat) (u25 : Nat) (u26 : Nat) (u27 : Nat) (sz : Nat) : Met l my_SB_count (Cond.code my_SB_count cd_SB_count 2 (some (.int)) :: tblG) ({ frames := 1, cells := 0, slots := 0, locals := 20 }) (va_Pc [.ref h0, .int 2] (fun U => U.heap.size = sz ∧ va_P (dC, dI) vwCl [(h0, .inr (0, [.ref q7, .int 0, .int 0, .ref q13, .ref q24, .ref q35, .ref q47, .ref q58, .ref q69, .ref q84, .ref q95, .int 0, .int 0])), (q13, .inr (7, [.ref u2, .ref u3, .ref u4, .ref u5, .ref u6, .int 0, .ref u8])), (u6, .inr (2, [.ref u7, .ref u22, .ref u23, .ref u24])), (u7, .inr (6, [.int 0, .ref u25, .ref u26, .ref u27, .int 0]))] U.heap ∧ va_K (dC, dI) vwCl [] U ∧ va_D (fun _ => True) [(h0, .inr (0, [.ref q7, .int 0, .int 0, .ref q13, .ref q24, .ref q35, .ref q47, .ref q58, .ref q69, .ref q84, .ref q95, .int 0, .int 0])), (q13, .inr (7, [.ref u2, .ref u3, .ref u4, .ref u5, .ref u6, .int 0, .ref u8])), (u6, .inr (2, [.ref u7, .ref u22, .ref u23, .ref u24])), (u7, .inr (6, [.int 0, .ref u25, .ref u26, .ref u27, .int 0]))])) (va_Qi (fun (r : Int32) (_ : Unit) => r = 0) (fun (_ : Unit) (t : State) => va_P (dC, dI) vwCl [(h0, .inr (0, [.ref q7, .int 0, .int 0, .ref q13, .ref q24, .ref q35, .ref q47, .ref q58, .ref q69, .ref q84, .ref q95, .int 0, .int 0])), (q13, .inr (7, [.ref u2, .ref u3, .ref u4, .ref u5, .ref u6, .int 0, .ref u8])), (u6, .inr (2, [.ref u7, .ref u22, .ref u23, .ref u24])), (u7, .inr (6, [.int 0, .ref u25, .ref u26, .ref u27, .int 0]))] t.heap ∧ va_K (dC, dI) vwCl [] t ∧ va_D (va_A [(h0, .inr (0, [.ref q7, .int 0, .int 0, .ref q13, .ref q24, .ref q35, .ref q47, .ref q58, .ref q69, .ref q84, .ref q95, .int 0, .int 0])), (q13, .inr (7, [.ref u2, .ref u3, .ref u4, .ref u5, .ref u6, .int 0, .ref u8])), (u6, .inr (2, [.ref u7, .ref u22, .ref u23, .ref u24])), (u7, .inr (6, [.int 0, .ref u25, .ref u26, .ref u27, .int 0]))] sz) [(h0, .inr (0, [.ref q7, .int 0, .int 0, .ref q13, .ref q24, .ref q35, .ref q47, .ref q58, .ref q69, .ref q84, .ref q95, .int 0, .int 0])), (q13, .inr (7, [.ref u2, .ref u3, .ref u4, .ref u5, .ref u6, .int 0, .ref u8])), (u6, .inr (2, [.ref u7, .ref u22, .ref u23, .ref u24])), (u7, .inr (6, [.int 0, .ref u25, .ref u26, .ref u27, .int 0]))]) (va_A [(h0, .inr (0, [.ref q7, .int 0, .int 0, .ref q13, .ref q24, .ref q35, .ref q47, .ref q58, .ref q69, .ref q84, .ref q95, .int 0, .int 0])), (q13, .inr (7, [.ref u2, .ref u3, .ref u4, .ref u5, .ref u6, .int 0, .ref u8])), (u6, .inr (2, [.ref u7, .ref u22, .ref u23, .ref u24])), (u7, .inr (6, [.int 0, .ref u25, .ref u26, .ref u27, .int 0]))] sz)) 0 0 (va_A [(h0, .inr (0, [.ref q7, .int 0, .int 0, .ref q13, .ref q24, .ref q35, .ref q47, .ref q58, .ref q69, .ref q84, .ref q95, .int 0, .int 0])), (q13, .inr (7, [.ref u2, .ref u3, .ref u4, .ref u5, .ref u6, .int 0, .ref u8])), (u6, .inr (2, [.ref u7, .ref u22, .ref u23, .ref u24])), (u7, .inr (6, [.int 0, .ref u25, .ref u26, .ref u27, .int 0]))] sz) := by
  refine Met.ofW (cc := cd_SB_count) (maxL := 2) (ret := (some (.int))) (by decide) rfl ?_
  intro p e s m args below meth c s₁ B hml hv
  obtain ⟨rfl, hsz, hP, hK, hD0⟩ := hv
  have hx := B.exec
  have hb := B.bytes
  have hr := B.returns
  have hT : ∀ w ∈ tblG, w.before _ s = true := fun w h => atoms_spec (ws := (Cond.code my_SB_count cd_SB_count 2 (some (.int)) :: tblG)) B.pre w (List.mem_cons_of_mem _ h)
  have hown : s.vm.findClass "StrataBase" = some m.cls := findClass_of_methodNamed B.named
  have hlocks := B.notSynchronized
  subst hsz
  have hD := hD0.self (sz := s.heap.size)
  generalize hAe : va_A [(h0, .inr (0, [.ref q7, .int 0, .int 0, .ref q13, .ref q24, .ref q35, .ref q47, .ref q58, .ref q69, .ref q84, .ref q95, .int 0, .int 0])), (q13, .inr (7, [.ref u2, .ref u3, .ref u4, .ref u5, .ref u6, .int 0, .ref u8])), (u6, .inr (2, [.ref u7, .ref u22, .ref u23, .ref u24])), (u7, .inr (6, [.int 0, .ref u25, .ref u26, .ref u27, .int 0]))] s.heap.size = A at hD ⊢
  have hA : ∀ q : Nat, s.heap.size ≤ q → A q := fun q h => by rw [← hAe]; exact Or.inr h
  have hS : va_S A s.heap s.heap [] := va_S.rf
  have hl := lv_entry ([.ref h0, .int 2]) (n := 2) (Nat.le_of_ble_eq_true rfl)
  rw [lg_entry_eq]
  generalize (lg_sl ([.ref h0, .int 2]) ++ List.replicate (2 - (lg_sl ([.ref h0, .int 2])).length) Slot.unset).toArray = ls at hl ⊢
  have hl : lv_has ls 2 [(0, .ref h0), (1, .int 2)] := hl
  refine lv_iload_n hx hb dc_SB_count_0 rfl (lv_at hl 1 rfl) ?_
  refine lv_tableIn (off := 65) (tgt := 66) hx hb dc_SB_count_1 (by decide) (by decide) (by decide) (by decide) ?_
  refine lv_aload_n hx hb dc_SB_count_66 rfl (lv_at hl 0 rfl) ?_
  refine va_get (D := (dC, dI)) (ci := 0) (v := .ref q13) (C := "StrataBase") (T := tb_SB) (N := 13) hx hb hT in_SB hown hK hP 0 rfl rfl 3 (by decide) (hT _ wd_520) (fun _ h9 => h9) rfl dc_SB_count_67 ?_
  refine va_get (D := (dC, dI)) (ci := 7) (v := .ref u6) (C := "StrataBase$Program") (T := tb_Pr) (N := 7) hx hb hT in_Pr hown hK hP 1 rfl rfl 4 (by decide) (hT _ wd_157) (fun _ h9 => h9) rfl dc_SB_count_70 ?_
  have hPc := hP.sub (ws' := [(u6, .inr (2, [.ref u7, .ref u22, .ref u23, .ref u24])), (u7, .inr (6, [.int 0, .ref u25, .ref u26, .ref u27, .int 0]))]) [2, 3] rfl
  have hDc := hD.sub (ws' := [(u6, .inr (2, [.ref u7, .ref u22, .ref u23, .ref u24])), (u7, .inr (6, [.int 0, .ref u25, .ref u26, .ref u27, .int 0]))]) [2, 3] (by decide) rfl
  have hKc := hK.sub (tys' := []) [] rfl
  have hFc := va_free (wc := [(u6, .inr (2, [.ref u7, .ref u22, .ref u23, .ref u24])), (u7, .inr (6, [.int 0, .ref u25, .ref u26, .ref u27, .int 0]))]) hD hS hA [2, 3] rfl
  refine va_calli (va_runV (As := []) (rest := []) ⟨hx, hb, hml, hown, hT⟩ (c_Co_size_1 l dC dI u6 u7 u22 u23 u24 u25 u26 u27 s.heap.size) (cwV 0 hT (gd_V wd_1358 wd_844 wd_845 wd_5 wd_846) rfl rfl rfl (by decide +kernel) ⟨Nat.le_of_ble_eq_true rfl, Nat.le_of_ble_eq_true rfl⟩) ⟨fun a U g mk q => by obtain ⟨q0, q1, qP, qK, qD⟩ := q; exact ⟨q0, q1, qP, va_K.moved (u := U) (U := U.calling g mk a) (Vm.Alike.refl U.vm) qK, qD⟩, va_recv hK hP (q0 := 2) (ci := 2) rfl rfl, fun U hU hW => ⟨rfl, by rw [hU], by rw [hU]; exact hPc, va_K.moved hW.alike hKc, hDc.weaken (fun _ _ _ _ => trivial)⟩⟩ rfl rfl hl.1 rfl (lv_room (Nat.le_of_ble_eq_true rfl)) dc_SB_count_73 ⟨(Nat.le_of_ble_eq_true rfl), (Nat.le_of_ble_eq_true rfl)⟩) hS (fun q _ h => hFc q h) hFc (fun r1 _ t H1 locs ht hvm hr9 hB hz1 hk1 hS => ?_)
  obtain ⟨hP1, hK1, hD1⟩ := hB
  rw [ht] at hP1
  have hK1 := va_K.moved hvm.symm hK1
  obtain ⟨hP, hD⟩ := va_join (wr := [(h0, .inr (0, [.ref q7, .int 0, .int 0, .ref q13, .ref q24, .ref q35, .ref q47, .ref q58, .ref q69, .ref q84, .ref q95, .int 0, .int 0])), (q13, .inr (7, [.ref u2, .ref u3, .ref u4, .ref u5, .ref u6, .int 0, .ref u8]))]) (w1 := [(u6, .inr (2, [.ref u7, .ref u22, .ref u23, .ref u24])), (u7, .inr (6, [.int 0, .ref u25, .ref u26, .ref u27, .int 0]))]) hP hD [2, 3] [0, 1] rfl rfl (by decide) (by decide) hk1 hFc hP1 hD1
  have hK := (hK.sub (tys' := []) [] rfl).app hK1
  generalize H1 = H at hP hS ⊢
  have hP : va_P (dC, dI) vwCl [(h0, .inr (0, [.ref q7, .int 0, .int 0, .ref q13, .ref q24, .ref q35, .ref q47, .ref q58, .ref q69, .ref q84, .ref q95, .int 0, .int 0])), (q13, .inr (7, [.ref u2, .ref u3, .ref u4, .ref u5, .ref u6, .int 0, .ref u8])), (u6, .inr (2, [.ref u7, .ref u22, .ref u23, .ref u24])), (u7, .inr (6, [.int 0, .ref u25, .ref u26, .ref u27, .int 0]))] H := hP
  have hD : va_D A [(h0, .inr (0, [.ref q7, .int 0, .int 0, .ref q13, .ref q24, .ref q35, .ref q47, .ref q58, .ref q69, .ref q84, .ref q95, .int 0, .int 0])), (q13, .inr (7, [.ref u2, .ref u3, .ref u4, .ref u5, .ref u6, .int 0, .ref u8])), (u6, .inr (2, [.ref u7, .ref u22, .ref u23, .ref u24])), (u7, .inr (6, [.int 0, .ref u25, .ref u26, .ref u27, .int 0]))] := hD
  have hK : va_K (dC, dI) vwCl [] s := hK
  have hr9 : r1 = 0 := hr9
  subst hr9
  have hP9 := hP.sub (ws' := [(h0, .inr (0, [.ref q7, .int 0, .int 0, .ref q13, .ref q24, .ref q35, .ref q47, .ref q58, .ref q69, .ref q84, .ref q95, .int 0, .int 0])), (q13, .inr (7, [.ref u2, .ref u3, .ref u4, .ref u5, .ref u6, .int 0, .ref u8])), (u6, .inr (2, [.ref u7, .ref u22, .ref u23, .ref u24])), (u7, .inr (6, [.int 0, .ref u25, .ref u26, .ref u27, .int 0]))]) [0, 1, 2, 3] rfl
  have hD9 := hD.sub (ws' := [(h0, .inr (0, [.ref q7, .int 0, .int 0, .ref q13, .ref q24, .ref q35, .ref q47, .ref q58, .ref q69, .ref q84, .ref q95, .int 0, .int 0])), (q13, .inr (7, [.ref u2, .ref u3, .ref u4, .ref u5, .ref u6, .int 0, .ref u8])), (u6, .inr (2, [.ref u7, .ref u22, .ref u23, .ref u24])), (u7, .inr (6, [.int 0, .ref u25, .ref u26, .ref u27, .int 0]))]) [0, 1, 2, 3] (by decide) rfl
  have hK9 := hK.sub (tys' := []) [] rfl
  refine W.widen (k := 0) (n := 0) (Nat.le_of_ble_eq_true rfl) (Nat.le_of_ble_eq_true rfl) ?_
  exact W.iret (v := 0) hx hb hr (fun t ht hW => ⟨⟨0, (), rfl, rfl, by rw [ht]; exact hP9, va_K.moved hW.alike hK9, hD9⟩, hS.F ht⟩) hS.2.2 dc_SB_count_76

set_option maxHeartbeats 4000000 in
set_option maxRecDepth 100000 in
theorem c_SB_count_3 (l : Launch) (dC : Nat → ClassId) (dI : Nat → Nat → Nat) (h0 : Nat) (q7 : Nat) (q13 : Nat) (q24 : Nat) (q35 : Nat) (q47 : Nat) (q58 : Nat) (q69 : Nat) (q84 : Nat) (q95 : Nat) (u2 : Nat) (u3 : Nat) (u4 : Nat) (u5 : Nat) (u6 : Nat) (u8 : Nat) (sz : Nat) : Met l my_SB_count (Cond.code my_SB_count cd_SB_count 2 (some (.int)) :: tblG) ({ frames := 0, cells := 0, slots := 0, locals := 0 }) (va_Pc [.ref h0, .int 3] (fun U => U.heap.size = sz ∧ va_P (dC, dI) vwCl [(h0, .inr (0, [.ref q7, .int 0, .int 0, .ref q13, .ref q24, .ref q35, .ref q47, .ref q58, .ref q69, .ref q84, .ref q95, .int 0, .int 0])), (q13, .inr (7, [.ref u2, .ref u3, .ref u4, .ref u5, .ref u6, .int 0, .ref u8]))] U.heap ∧ va_K (dC, dI) vwCl [] U ∧ va_D (fun _ => True) [(h0, .inr (0, [.ref q7, .int 0, .int 0, .ref q13, .ref q24, .ref q35, .ref q47, .ref q58, .ref q69, .ref q84, .ref q95, .int 0, .int 0])), (q13, .inr (7, [.ref u2, .ref u3, .ref u4, .ref u5, .ref u6, .int 0, .ref u8]))])) (va_Qi (fun (r : Int32) (_ : Unit) => r = 0) (fun (_ : Unit) (t : State) => va_P (dC, dI) vwCl [(h0, .inr (0, [.ref q7, .int 0, .int 0, .ref q13, .ref q24, .ref q35, .ref q47, .ref q58, .ref q69, .ref q84, .ref q95, .int 0, .int 0])), (q13, .inr (7, [.ref u2, .ref u3, .ref u4, .ref u5, .ref u6, .int 0, .ref u8]))] t.heap ∧ va_K (dC, dI) vwCl [] t ∧ va_D (va_A [(h0, .inr (0, [.ref q7, .int 0, .int 0, .ref q13, .ref q24, .ref q35, .ref q47, .ref q58, .ref q69, .ref q84, .ref q95, .int 0, .int 0])), (q13, .inr (7, [.ref u2, .ref u3, .ref u4, .ref u5, .ref u6, .int 0, .ref u8]))] sz) [(h0, .inr (0, [.ref q7, .int 0, .int 0, .ref q13, .ref q24, .ref q35, .ref q47, .ref q58, .ref q69, .ref q84, .ref q95, .int 0, .int 0])), (q13, .inr (7, [.ref u2, .ref u3, .ref u4, .ref u5, .ref u6, .int 0, .ref u8]))]) (va_A [(h0, .inr (0, [.ref q7, .int 0, .int 0, .ref q13, .ref q24, .ref q35, .ref q47, .ref q58, .ref q69, .ref q84, .ref q95, .int 0, .int 0])), (q13, .inr (7, [.ref u2, .ref u3, .ref u4, .ref u5, .ref u6, .int 0, .ref u8]))] sz)) 0 0 (va_A [(h0, .inr (0, [.ref q7, .int 0, .int 0, .ref q13, .ref q24, .ref q35, .ref q47, .ref q58, .ref q69, .ref q84, .ref q95, .int 0, .int 0])), (q13, .inr (7, [.ref u2, .ref u3, .ref u4, .ref u5, .ref u6, .int 0, .ref u8]))] sz) := by
  refine Met.ofW (cc := cd_SB_count) (maxL := 2) (ret := (some (.int))) (by decide) rfl ?_
  intro p e s m args below meth c s₁ B hml hv
  obtain ⟨rfl, hsz, hP, hK, hD0⟩ := hv
  have hx := B.exec
  have hb := B.bytes
  have hr := B.returns
  have hT : ∀ w ∈ tblG, w.before _ s = true := fun w h => atoms_spec (ws := (Cond.code my_SB_count cd_SB_count 2 (some (.int)) :: tblG)) B.pre w (List.mem_cons_of_mem _ h)
  have hown : s.vm.findClass "StrataBase" = some m.cls := findClass_of_methodNamed B.named
  have hlocks := B.notSynchronized
  subst hsz
  have hD := hD0.self (sz := s.heap.size)
  generalize hAe : va_A [(h0, .inr (0, [.ref q7, .int 0, .int 0, .ref q13, .ref q24, .ref q35, .ref q47, .ref q58, .ref q69, .ref q84, .ref q95, .int 0, .int 0])), (q13, .inr (7, [.ref u2, .ref u3, .ref u4, .ref u5, .ref u6, .int 0, .ref u8]))] s.heap.size = A at hD ⊢
  have hA : ∀ q : Nat, s.heap.size ≤ q → A q := fun q h => by rw [← hAe]; exact Or.inr h
  have hS : va_S A s.heap s.heap [] := va_S.rf
  have hl := lv_entry ([.ref h0, .int 3]) (n := 2) (Nat.le_of_ble_eq_true rfl)
  rw [lg_entry_eq]
  generalize (lg_sl ([.ref h0, .int 3]) ++ List.replicate (2 - (lg_sl ([.ref h0, .int 3])).length) Slot.unset).toArray = ls at hl ⊢
  have hl : lv_has ls 2 [(0, .ref h0), (1, .int 3)] := hl
  refine lv_iload_n hx hb dc_SB_count_0 rfl (lv_at hl 1 rfl) ?_
  refine lv_tableIn (off := 76) (tgt := 77) hx hb dc_SB_count_1 (by decide) (by decide) (by decide) (by decide) ?_
  refine lv_aload_n hx hb dc_SB_count_77 rfl (lv_at hl 0 rfl) ?_
  refine va_get (D := (dC, dI)) (ci := 0) (v := .ref q13) (C := "StrataBase") (T := tb_SB) (N := 13) hx hb hT in_SB hown hK hP 0 rfl rfl 3 (by decide) (hT _ wd_520) (fun _ h9 => h9) rfl dc_SB_count_78 ?_
  refine va_get (D := (dC, dI)) (ci := 7) (v := .int 0) (C := "StrataBase$Program") (T := tb_Pr) (N := 7) hx hb hT in_Pr hown hK hP 1 rfl rfl 5 (by decide) (hT _ wd_160) (fun _ h9 => h9) rfl dc_SB_count_81 ?_
  have hP9 := hP.sub (ws' := [(h0, .inr (0, [.ref q7, .int 0, .int 0, .ref q13, .ref q24, .ref q35, .ref q47, .ref q58, .ref q69, .ref q84, .ref q95, .int 0, .int 0])), (q13, .inr (7, [.ref u2, .ref u3, .ref u4, .ref u5, .ref u6, .int 0, .ref u8]))]) [0, 1] rfl
  have hD9 := hD.sub (ws' := [(h0, .inr (0, [.ref q7, .int 0, .int 0, .ref q13, .ref q24, .ref q35, .ref q47, .ref q58, .ref q69, .ref q84, .ref q95, .int 0, .int 0])), (q13, .inr (7, [.ref u2, .ref u3, .ref u4, .ref u5, .ref u6, .int 0, .ref u8]))]) [0, 1] (by decide) rfl
  have hK9 := hK.sub (tys' := []) [] rfl
  refine W.widen (k := 0) (n := 0) (Nat.le_of_ble_eq_true rfl) (Nat.le_of_ble_eq_true rfl) ?_
  exact W.iret (v := 0) hx hb hr (fun t ht hW => ⟨⟨0, (), rfl, rfl, by rw [ht]; exact hP9, va_K.moved hW.alike hK9, hD9⟩, hS.F ht⟩) hS.2.2 dc_SB_count_84

set_option maxHeartbeats 4000000 in
set_option maxRecDepth 100000 in
theorem c_SB_count_4 (l : Launch) (dC : Nat → ClassId) (dI : Nat → Nat → Nat) (h0 : Nat) (q7 : Nat) (q13 : Nat) (q24 : Nat) (q35 : Nat) (q47 : Nat) (q58 : Nat) (q69 : Nat) (q84 : Nat) (q95 : Nat) (sz : Nat) : Met l my_SB_count (Cond.code my_SB_count cd_SB_count 2 (some (.int)) :: tblG) ({ frames := 0, cells := 0, slots := 0, locals := 0 }) (va_Pc [.ref h0, .int 4] (fun U => U.heap.size = sz ∧ va_P (dC, dI) vwCl [(h0, .inr (0, [.ref q7, .int 0, .int 0, .ref q13, .ref q24, .ref q35, .ref q47, .ref q58, .ref q69, .ref q84, .ref q95, .int 0, .int 0]))] U.heap ∧ va_K (dC, dI) vwCl [] U ∧ va_D (fun _ => True) [(h0, .inr (0, [.ref q7, .int 0, .int 0, .ref q13, .ref q24, .ref q35, .ref q47, .ref q58, .ref q69, .ref q84, .ref q95, .int 0, .int 0]))])) (va_Qi (fun (r : Int32) (_ : Unit) => r = (-1)) (fun (_ : Unit) (t : State) => va_P (dC, dI) vwCl [(h0, .inr (0, [.ref q7, .int 0, .int 0, .ref q13, .ref q24, .ref q35, .ref q47, .ref q58, .ref q69, .ref q84, .ref q95, .int 0, .int 0]))] t.heap ∧ va_K (dC, dI) vwCl [] t ∧ va_D (va_A [(h0, .inr (0, [.ref q7, .int 0, .int 0, .ref q13, .ref q24, .ref q35, .ref q47, .ref q58, .ref q69, .ref q84, .ref q95, .int 0, .int 0]))] sz) [(h0, .inr (0, [.ref q7, .int 0, .int 0, .ref q13, .ref q24, .ref q35, .ref q47, .ref q58, .ref q69, .ref q84, .ref q95, .int 0, .int 0]))]) (va_A [(h0, .inr (0, [.ref q7, .int 0, .int 0, .ref q13, .ref q24, .ref q35, .ref q47, .ref q58, .ref q69, .ref q84, .ref q95, .int 0, .int 0]))] sz)) 0 0 (va_A [(h0, .inr (0, [.ref q7, .int 0, .int 0, .ref q13, .ref q24, .ref q35, .ref q47, .ref q58, .ref q69, .ref q84, .ref q95, .int 0, .int 0]))] sz) := by
  refine Met.ofW (cc := cd_SB_count) (maxL := 2) (ret := (some (.int))) (by decide) rfl ?_
  intro p e s m args below meth c s₁ B hml hv
  obtain ⟨rfl, hsz, hP, hK, hD0⟩ := hv
  have hx := B.exec
  have hb := B.bytes
  have hr := B.returns
  have hT : ∀ w ∈ tblG, w.before _ s = true := fun w h => atoms_spec (ws := (Cond.code my_SB_count cd_SB_count 2 (some (.int)) :: tblG)) B.pre w (List.mem_cons_of_mem _ h)
  have hown : s.vm.findClass "StrataBase" = some m.cls := findClass_of_methodNamed B.named
  have hlocks := B.notSynchronized
  subst hsz
  have hD := hD0.self (sz := s.heap.size)
  generalize hAe : va_A [(h0, .inr (0, [.ref q7, .int 0, .int 0, .ref q13, .ref q24, .ref q35, .ref q47, .ref q58, .ref q69, .ref q84, .ref q95, .int 0, .int 0]))] s.heap.size = A at hD ⊢
  have hA : ∀ q : Nat, s.heap.size ≤ q → A q := fun q h => by rw [← hAe]; exact Or.inr h
  have hS : va_S A s.heap s.heap [] := va_S.rf
  have hl := lv_entry ([.ref h0, .int 4]) (n := 2) (Nat.le_of_ble_eq_true rfl)
  rw [lg_entry_eq]
  generalize (lg_sl ([.ref h0, .int 4]) ++ List.replicate (2 - (lg_sl ([.ref h0, .int 4])).length) Slot.unset).toArray = ls at hl ⊢
  have hl : lv_has ls 2 [(0, .ref h0), (1, .int 4)] := hl
  refine lv_iload_n hx hb dc_SB_count_0 rfl (lv_at hl 1 rfl) ?_
  refine lv_tableIn (off := 84) (tgt := 85) hx hb dc_SB_count_1 (by decide) (by decide) (by decide) (by decide) ?_
  refine lv_aload_n hx hb dc_SB_count_85 rfl (lv_at hl 0 rfl) ?_
  refine va_get (D := (dC, dI)) (ci := 0) (v := .int 0) (C := "StrataBase") (T := tb_SB) (N := 13) hx hb hT in_SB hown hK hP 0 rfl rfl 11 (by decide) (hT _ wd_528) (fun _ h9 => h9) rfl dc_SB_count_86 ?_
  refine lv_if_eq (tgt := 102) hx hb dc_SB_count_89 (by decide) (fun _ => ?_) (fun h9 => absurd (by decide) h9)
  refine lv_iconst (v := (-1)) hx hb dc_SB_count_102 (by decide) ?_
  have hP9 := hP.sub (ws' := [(h0, .inr (0, [.ref q7, .int 0, .int 0, .ref q13, .ref q24, .ref q35, .ref q47, .ref q58, .ref q69, .ref q84, .ref q95, .int 0, .int 0]))]) [0] rfl
  have hD9 := hD.sub (ws' := [(h0, .inr (0, [.ref q7, .int 0, .int 0, .ref q13, .ref q24, .ref q35, .ref q47, .ref q58, .ref q69, .ref q84, .ref q95, .int 0, .int 0]))]) [0] (by decide) rfl
  have hK9 := hK.sub (tys' := []) [] rfl
  refine W.widen (k := 0) (n := 0) (Nat.le_of_ble_eq_true rfl) (Nat.le_of_ble_eq_true rfl) ?_
  exact W.iret (v := (-1)) hx hb hr (fun t ht hW => ⟨⟨(-1), (), rfl, rfl, by rw [ht]; exact hP9, va_K.moved hW.alike hK9, hD9⟩, hS.F ht⟩) hS.2.2 dc_SB_count_103

set_option maxHeartbeats 4000000 in
set_option maxRecDepth 100000 in
theorem c_SB_count_5 (l : Launch) (dC : Nat → ClassId) (dI : Nat → Nat → Nat) (h0 : Nat) (q7 : Nat) (q13 : Nat) (q24 : Nat) (q35 : Nat) (q47 : Nat) (q58 : Nat) (q69 : Nat) (q84 : Nat) (q95 : Nat) (u110 : Nat) (u111 : Nat) (u112 : Nat) (sz : Nat) : Met l my_SB_count (Cond.code my_SB_count cd_SB_count 2 (some (.int)) :: tblG) ({ frames := 0, cells := 0, slots := 0, locals := 0 }) (va_Pc [.ref h0, .int 5] (fun U => U.heap.size = sz ∧ va_P (dC, dI) vwCl [(h0, .inr (0, [.ref q7, .int 0, .int 0, .ref q13, .ref q24, .ref q35, .ref q47, .ref q58, .ref q69, .ref q84, .ref q95, .int 0, .int 0])), (q84, .inr (9, [.int 0, .int 0, .int 0, .ref u110, .ref u111, .ref u112]))] U.heap ∧ va_K (dC, dI) vwCl [] U ∧ va_D (fun _ => True) [(h0, .inr (0, [.ref q7, .int 0, .int 0, .ref q13, .ref q24, .ref q35, .ref q47, .ref q58, .ref q69, .ref q84, .ref q95, .int 0, .int 0])), (q84, .inr (9, [.int 0, .int 0, .int 0, .ref u110, .ref u111, .ref u112]))])) (va_Qi (fun (r : Int32) (_ : Unit) => r = 0) (fun (_ : Unit) (t : State) => va_P (dC, dI) vwCl [(h0, .inr (0, [.ref q7, .int 0, .int 0, .ref q13, .ref q24, .ref q35, .ref q47, .ref q58, .ref q69, .ref q84, .ref q95, .int 0, .int 0])), (q84, .inr (9, [.int 0, .int 0, .int 0, .ref u110, .ref u111, .ref u112]))] t.heap ∧ va_K (dC, dI) vwCl [] t ∧ va_D (va_A [(h0, .inr (0, [.ref q7, .int 0, .int 0, .ref q13, .ref q24, .ref q35, .ref q47, .ref q58, .ref q69, .ref q84, .ref q95, .int 0, .int 0])), (q84, .inr (9, [.int 0, .int 0, .int 0, .ref u110, .ref u111, .ref u112]))] sz) [(h0, .inr (0, [.ref q7, .int 0, .int 0, .ref q13, .ref q24, .ref q35, .ref q47, .ref q58, .ref q69, .ref q84, .ref q95, .int 0, .int 0])), (q84, .inr (9, [.int 0, .int 0, .int 0, .ref u110, .ref u111, .ref u112]))]) (va_A [(h0, .inr (0, [.ref q7, .int 0, .int 0, .ref q13, .ref q24, .ref q35, .ref q47, .ref q58, .ref q69, .ref q84, .ref q95, .int 0, .int 0])), (q84, .inr (9, [.int 0, .int 0, .int 0, .ref u110, .ref u111, .ref u112]))] sz)) 0 0 (va_A [(h0, .inr (0, [.ref q7, .int 0, .int 0, .ref q13, .ref q24, .ref q35, .ref q47, .ref q58, .ref q69, .ref q84, .ref q95, .int 0, .int 0])), (q84, .inr (9, [.int 0, .int 0, .int 0, .ref u110, .ref u111, .ref u112]))] sz) := by
  refine Met.ofW (cc := cd_SB_count) (maxL := 2) (ret := (some (.int))) (by decide) rfl ?_
  intro p e s m args below meth c s₁ B hml hv
  obtain ⟨rfl, hsz, hP, hK, hD0⟩ := hv
  have hx := B.exec
  have hb := B.bytes
  have hr := B.returns
  have hT : ∀ w ∈ tblG, w.before _ s = true := fun w h => atoms_spec (ws := (Cond.code my_SB_count cd_SB_count 2 (some (.int)) :: tblG)) B.pre w (List.mem_cons_of_mem _ h)
  have hown : s.vm.findClass "StrataBase" = some m.cls := findClass_of_methodNamed B.named
  have hlocks := B.notSynchronized
  subst hsz
  have hD := hD0.self (sz := s.heap.size)
  generalize hAe : va_A [(h0, .inr (0, [.ref q7, .int 0, .int 0, .ref q13, .ref q24, .ref q35, .ref q47, .ref q58, .ref q69, .ref q84, .ref q95, .int 0, .int 0])), (q84, .inr (9, [.int 0, .int 0, .int 0, .ref u110, .ref u111, .ref u112]))] s.heap.size = A at hD ⊢
  have hA : ∀ q : Nat, s.heap.size ≤ q → A q := fun q h => by rw [← hAe]; exact Or.inr h
  have hS : va_S A s.heap s.heap [] := va_S.rf
  have hl := lv_entry ([.ref h0, .int 5]) (n := 2) (Nat.le_of_ble_eq_true rfl)
  rw [lg_entry_eq]
  generalize (lg_sl ([.ref h0, .int 5]) ++ List.replicate (2 - (lg_sl ([.ref h0, .int 5])).length) Slot.unset).toArray = ls at hl ⊢
  have hl : lv_has ls 2 [(0, .ref h0), (1, .int 5)] := hl
  refine lv_iload_n hx hb dc_SB_count_0 rfl (lv_at hl 1 rfl) ?_
  refine lv_tableIn (off := 103) (tgt := 104) hx hb dc_SB_count_1 (by decide) (by decide) (by decide) (by decide) ?_
  refine lv_aload_n hx hb dc_SB_count_104 rfl (lv_at hl 0 rfl) ?_
  refine va_get (D := (dC, dI)) (ci := 0) (v := .ref q84) (C := "StrataBase") (T := tb_SB) (N := 13) hx hb hT in_SB hown hK hP 0 rfl rfl 9 (by decide) (hT _ wd_526) (fun _ h9 => h9) rfl dc_SB_count_105 ?_
  refine va_get (D := (dC, dI)) (ci := 9) (v := .int 0) (C := "StrataBase$Rows") (T := tb_Ro) (N := 6) hx hb hT in_Ro hown hK hP 1 rfl rfl 0 (by decide) (hT _ wd_495) (fun _ h9 => h9) rfl dc_SB_count_108 ?_
  have hP9 := hP.sub (ws' := [(h0, .inr (0, [.ref q7, .int 0, .int 0, .ref q13, .ref q24, .ref q35, .ref q47, .ref q58, .ref q69, .ref q84, .ref q95, .int 0, .int 0])), (q84, .inr (9, [.int 0, .int 0, .int 0, .ref u110, .ref u111, .ref u112]))]) [0, 1] rfl
  have hD9 := hD.sub (ws' := [(h0, .inr (0, [.ref q7, .int 0, .int 0, .ref q13, .ref q24, .ref q35, .ref q47, .ref q58, .ref q69, .ref q84, .ref q95, .int 0, .int 0])), (q84, .inr (9, [.int 0, .int 0, .int 0, .ref u110, .ref u111, .ref u112]))]) [0, 1] (by decide) rfl
  have hK9 := hK.sub (tys' := []) [] rfl
  refine W.widen (k := 0) (n := 0) (Nat.le_of_ble_eq_true rfl) (Nat.le_of_ble_eq_true rfl) ?_
  exact W.iret (v := 0) hx hb hr (fun t ht hW => ⟨⟨0, (), rfl, rfl, by rw [ht]; exact hP9, va_K.moved hW.alike hK9, hD9⟩, hS.F ht⟩) hS.2.2 dc_SB_count_111

set_option maxHeartbeats 4000000 in
set_option maxRecDepth 100000 in
theorem c_SB_count_6 (l : Launch) (dC : Nat → ClassId) (dI : Nat → Nat → Nat) (h0 : Nat) (q7 : Nat) (q13 : Nat) (q24 : Nat) (q35 : Nat) (q47 : Nat) (q58 : Nat) (q69 : Nat) (q84 : Nat) (q95 : Nat) (sz : Nat) : Met l my_SB_count (Cond.code my_SB_count cd_SB_count 2 (some (.int)) :: tblG) ({ frames := 0, cells := 0, slots := 0, locals := 0 }) (va_Pc [.ref h0, .int 6] (fun U => U.heap.size = sz ∧ va_P (dC, dI) vwCl [(h0, .inr (0, [.ref q7, .int 0, .int 0, .ref q13, .ref q24, .ref q35, .ref q47, .ref q58, .ref q69, .ref q84, .ref q95, .int 0, .int 0]))] U.heap ∧ va_K (dC, dI) vwCl [] U ∧ va_D (fun _ => True) [(h0, .inr (0, [.ref q7, .int 0, .int 0, .ref q13, .ref q24, .ref q35, .ref q47, .ref q58, .ref q69, .ref q84, .ref q95, .int 0, .int 0]))])) (va_Qi (fun (r : Int32) (_ : Unit) => r = (-1)) (fun (_ : Unit) (t : State) => va_P (dC, dI) vwCl [(h0, .inr (0, [.ref q7, .int 0, .int 0, .ref q13, .ref q24, .ref q35, .ref q47, .ref q58, .ref q69, .ref q84, .ref q95, .int 0, .int 0]))] t.heap ∧ va_K (dC, dI) vwCl [] t ∧ va_D (va_A [(h0, .inr (0, [.ref q7, .int 0, .int 0, .ref q13, .ref q24, .ref q35, .ref q47, .ref q58, .ref q69, .ref q84, .ref q95, .int 0, .int 0]))] sz) [(h0, .inr (0, [.ref q7, .int 0, .int 0, .ref q13, .ref q24, .ref q35, .ref q47, .ref q58, .ref q69, .ref q84, .ref q95, .int 0, .int 0]))]) (va_A [(h0, .inr (0, [.ref q7, .int 0, .int 0, .ref q13, .ref q24, .ref q35, .ref q47, .ref q58, .ref q69, .ref q84, .ref q95, .int 0, .int 0]))] sz)) 0 0 (va_A [(h0, .inr (0, [.ref q7, .int 0, .int 0, .ref q13, .ref q24, .ref q35, .ref q47, .ref q58, .ref q69, .ref q84, .ref q95, .int 0, .int 0]))] sz) := by
  refine Met.ofW (cc := cd_SB_count) (maxL := 2) (ret := (some (.int))) (by decide) rfl ?_
  intro p e s m args below meth c s₁ B hml hv
  obtain ⟨rfl, hsz, hP, hK, hD0⟩ := hv
  have hx := B.exec
  have hb := B.bytes
  have hr := B.returns
  have hT : ∀ w ∈ tblG, w.before _ s = true := fun w h => atoms_spec (ws := (Cond.code my_SB_count cd_SB_count 2 (some (.int)) :: tblG)) B.pre w (List.mem_cons_of_mem _ h)
  have hown : s.vm.findClass "StrataBase" = some m.cls := findClass_of_methodNamed B.named
  have hlocks := B.notSynchronized
  subst hsz
  have hD := hD0.self (sz := s.heap.size)
  generalize hAe : va_A [(h0, .inr (0, [.ref q7, .int 0, .int 0, .ref q13, .ref q24, .ref q35, .ref q47, .ref q58, .ref q69, .ref q84, .ref q95, .int 0, .int 0]))] s.heap.size = A at hD ⊢
  have hA : ∀ q : Nat, s.heap.size ≤ q → A q := fun q h => by rw [← hAe]; exact Or.inr h
  have hS : va_S A s.heap s.heap [] := va_S.rf
  have hl := lv_entry ([.ref h0, .int 6]) (n := 2) (Nat.le_of_ble_eq_true rfl)
  rw [lg_entry_eq]
  generalize (lg_sl ([.ref h0, .int 6]) ++ List.replicate (2 - (lg_sl ([.ref h0, .int 6])).length) Slot.unset).toArray = ls at hl ⊢
  have hl : lv_has ls 2 [(0, .ref h0), (1, .int 6)] := hl
  refine lv_iload_n hx hb dc_SB_count_0 rfl (lv_at hl 1 rfl) ?_
  refine lv_tableIn (off := 111) (tgt := 112) hx hb dc_SB_count_1 (by decide) (by decide) (by decide) (by decide) ?_
  refine lv_aload_n hx hb dc_SB_count_112 rfl (lv_at hl 0 rfl) ?_
  refine va_get (D := (dC, dI)) (ci := 0) (v := .int 0) (C := "StrataBase") (T := tb_SB) (N := 13) hx hb hT in_SB hown hK hP 0 rfl rfl 11 (by decide) (hT _ wd_528) (fun _ h9 => h9) rfl dc_SB_count_113 ?_
  refine lv_if_eq (tgt := 129) hx hb dc_SB_count_116 (by decide) (fun _ => ?_) (fun h9 => absurd (by decide) h9)
  refine lv_iconst (v := (-1)) hx hb dc_SB_count_129 (by decide) ?_
  have hP9 := hP.sub (ws' := [(h0, .inr (0, [.ref q7, .int 0, .int 0, .ref q13, .ref q24, .ref q35, .ref q47, .ref q58, .ref q69, .ref q84, .ref q95, .int 0, .int 0]))]) [0] rfl
  have hD9 := hD.sub (ws' := [(h0, .inr (0, [.ref q7, .int 0, .int 0, .ref q13, .ref q24, .ref q35, .ref q47, .ref q58, .ref q69, .ref q84, .ref q95, .int 0, .int 0]))]) [0] (by decide) rfl
  have hK9 := hK.sub (tys' := []) [] rfl
  refine W.widen (k := 0) (n := 0) (Nat.le_of_ble_eq_true rfl) (Nat.le_of_ble_eq_true rfl) ?_
  exact W.iret (v := (-1)) hx hb hr (fun t ht hW => ⟨⟨(-1), (), rfl, rfl, by rw [ht]; exact hP9, va_K.moved hW.alike hK9, hD9⟩, hS.F ht⟩) hS.2.2 dc_SB_count_130

set_option maxHeartbeats 4000000 in
set_option maxRecDepth 100000 in
theorem c_SB_putBytes_1 (l : Launch) (dC : Nat → ClassId) (dI : Nat → Nat → Nat) (a1 : Nat) (a2 : Nat) (a3 : Nat) (a4 : Nat) (a5 : Nat) (a6 : Nat) (a7 : Nat) (a8 : Nat) (a9 : Nat) (a10 : Nat) (x1 : Int32) (k1 : ClassId) (sz : Nat) : Met l my_SB_putBytes (Cond.code my_SB_putBytes cd_SB_putBytes 3 none :: tblG) ({ frames := 0, cells := 0, slots := 0, locals := 0 }) (va_Pc [.ref a1, .int x1] (fun U => U.heap.size = sz ∧ va_P (dC, dI) vwCl [(a1, .inr (0, [.ref a2, .int 0, .int 0, .ref a3, .ref a4, .ref a5, .ref a6, .ref a7, .ref a8, .ref a9, .ref a10, .int 0, .int 0])), (a2, .inl (k1, 65536, .inl (fun _ => 0)))] U.heap ∧ va_K (dC, dI) vwCl [(k1, .byte)] U ∧ va_D (fun _ => True) [(a1, .inr (0, [.ref a2, .int 0, .int 0, .ref a3, .ref a4, .ref a5, .ref a6, .ref a7, .ref a8, .ref a9, .ref a10, .int 0, .int 0])), (a2, .inl (k1, 65536, .inl (fun _ => 0)))])) (va_Qv (fun _ : Unit => True) (fun (_ : Unit) (t : State) => ∃ (g10 : Nat → Int32), va_P (dC, dI) vwCl [(a1, .inr (0, [.ref a2, .int 4, .int 0, .ref a3, .ref a4, .ref a5, .ref a6, .ref a7, .ref a8, .ref a9, .ref a10, .int 0, .int 0])), (a2, .inl (k1, 65536, .inl g10))] t.heap ∧ va_K (dC, dI) vwCl [(k1, .byte)] t ∧ va_D (va_A [(a1, .inr (0, [.ref a2, .int 0, .int 0, .ref a3, .ref a4, .ref a5, .ref a6, .ref a7, .ref a8, .ref a9, .ref a10, .int 0, .int 0])), (a2, .inl (k1, 65536, .inl (fun _ => 0)))] sz) [(a1, .inr (0, [.ref a2, .int 4, .int 0, .ref a3, .ref a4, .ref a5, .ref a6, .ref a7, .ref a8, .ref a9, .ref a10, .int 0, .int 0])), (a2, .inl (k1, 65536, .inl g10))]) (va_A [(a1, .inr (0, [.ref a2, .int 0, .int 0, .ref a3, .ref a4, .ref a5, .ref a6, .ref a7, .ref a8, .ref a9, .ref a10, .int 0, .int 0])), (a2, .inl (k1, 65536, .inl (fun _ => 0)))] sz)) 0 0 (va_A [(a1, .inr (0, [.ref a2, .int 0, .int 0, .ref a3, .ref a4, .ref a5, .ref a6, .ref a7, .ref a8, .ref a9, .ref a10, .int 0, .int 0])), (a2, .inl (k1, 65536, .inl (fun _ => 0)))] sz) := by
  refine Met.ofW (cc := cd_SB_putBytes) (maxL := 3) (ret := none) (by decide) rfl ?_
  intro p e s m args below meth c s₁ B hml hv
  obtain ⟨rfl, hsz, hP, hK, hD0⟩ := hv
  have hx := B.exec
  have hb := B.bytes
  have hr := B.returns
  have hT : ∀ w ∈ tblG, w.before _ s = true := fun w h => atoms_spec (ws := (Cond.code my_SB_putBytes cd_SB_putBytes 3 none :: tblG)) B.pre w (List.mem_cons_of_mem _ h)
  have hown : s.vm.findClass "StrataBase" = some m.cls := findClass_of_methodNamed B.named
  have hlocks := B.notSynchronized
  subst hsz
  have hD := hD0.self (sz := s.heap.size)
  generalize hAe : va_A [(a1, .inr (0, [.ref a2, .int 0, .int 0, .ref a3, .ref a4, .ref a5, .ref a6, .ref a7, .ref a8, .ref a9, .ref a10, .int 0, .int 0])), (a2, .inl (k1, 65536, .inl (fun _ => 0)))] s.heap.size = A at hD ⊢
  have hA : ∀ q : Nat, s.heap.size ≤ q → A q := fun q h => by rw [← hAe]; exact Or.inr h
  have hS : va_S A s.heap s.heap [] := va_S.rf
  have hl := lv_entry ([.ref a1, .int x1]) (n := 3) (Nat.le_of_ble_eq_true rfl)
  rw [lg_entry_eq]
  generalize (lg_sl ([.ref a1, .int x1]) ++ List.replicate (3 - (lg_sl ([.ref a1, .int x1])).length) Slot.unset).toArray = ls at hl ⊢
  have hl : lv_has ls 3 [(0, .ref a1), (1, .int x1)] := hl
  refine lv_bipush (v := 24) hx hb dc_SB_putBytes_0 (by decide) ?_
  refine lv_istore_n (lv' := [(2, .int 24), (0, .ref a1), (1, .int x1)]) hx hb dc_SB_putBytes_2 rfl hl (by decide) rfl (fun ls hl => ?_)
  refine lv_iload_n hx hb dc_SB_putBytes_3 rfl (lv_at hl 0 rfl) ?_
  refine lv_if_lt (tgt := 36) hx hb dc_SB_putBytes_4 (by decide) (fun h9 => absurd h9 (by decide)) (fun _ => ?_)
  refine lv_aload_n hx hb dc_SB_putBytes_7 rfl (lv_at hl 1 rfl) ?_
  refine va_get (D := (dC, dI)) (ci := 0) (v := .ref a2) (C := "StrataBase") (T := tb_SB) (N := 13) hx hb hT in_SB hown hK hP 0 rfl rfl 0 (by decide) (hT _ wd_517) (fun _ h9 => h9) rfl dc_SB_putBytes_8 ?_
  refine lv_aload_n hx hb dc_SB_putBytes_11 rfl (lv_at hl 1 rfl) ?_
  refine va_get (D := (dC, dI)) (ci := 0) (v := .int 0) (C := "StrataBase") (T := tb_SB) (N := 13) hx hb hT in_SB hown hK hP 0 rfl rfl 1 (by decide) (hT _ wd_518) (fun _ h9 => h9) rfl dc_SB_putBytes_12 ?_
  refine lv_iload_n hx hb dc_SB_putBytes_15 rfl (lv_at hl 2 rfl) ?_
  refine lv_iload_n hx hb dc_SB_putBytes_16 rfl (lv_at hl 0 rfl) ?_
  refine lv_ishr hx hb dc_SB_putBytes_17 ?_
  refine lv_i2b (v := (x1 >>> ((24 : Int32) &&& 31)).toInt8.toInt32) hx hb dc_SB_putBytes_18 rfl ?_
  refine va_bast hx hb hK hP hD hS 1 0 rfl rfl (show vp_in (0 : Int32) 65536 from vp_in_nI (n := 0) (Nat.lt_of_lt_of_le (by decide : 0 < 1) (Nat.le_of_ble_eq_true rfl)) (Nat.lt_of_le_of_lt (Nat.le_of_ble_eq_true rfl) (by decide : 65536 < 2 ^ 31))) dc_SB_putBytes_19 (fun H locs hP hD hS => ?_)
  have hP : va_P (dC, dI) vwCl [(a1, .inr (0, [.ref a2, .int 0, .int 0, .ref a3, .ref a4, .ref a5, .ref a6, .ref a7, .ref a8, .ref a9, .ref a10, .int 0, .int 0])), (a2, .inl (k1, 65536, .inl (upd (fun _ => 0) (0 : Int32).toNatClampNeg (vp_nar .byte ((x1 >>> ((24 : Int32) &&& 31)).toInt8.toInt32)))))] H := hP
  have hD : va_D A [(a1, .inr (0, [.ref a2, .int 0, .int 0, .ref a3, .ref a4, .ref a5, .ref a6, .ref a7, .ref a8, .ref a9, .ref a10, .int 0, .int 0])), (a2, .inl (k1, 65536, .inl (upd (fun _ => 0) (0 : Int32).toNatClampNeg (vp_nar .byte ((x1 >>> ((24 : Int32) &&& 31)).toInt8.toInt32)))))] := hD
  generalize upd (fun _ => 0) (0 : Int32).toNatClampNeg (vp_nar .byte ((x1 >>> ((24 : Int32) &&& 31)).toInt8.toInt32)) = g1 at hP hD
  refine lv_aload_n hx hb dc_SB_putBytes_20 rfl (lv_at hl 1 rfl) ?_
  refine lv_dup hx hb dc_SB_putBytes_21 rfl ?_
  refine va_get (D := (dC, dI)) (ci := 0) (v := .int 0) (C := "StrataBase") (T := tb_SB) (N := 13) hx hb hT in_SB hown hK hP 0 rfl rfl 1 (by decide) (hT _ wd_518) (fun _ h9 => h9) rfl dc_SB_putBytes_22 ?_
  refine lv_iconst (v := 1) hx hb dc_SB_putBytes_25 (by decide) ?_
  refine lv_iadd hx hb dc_SB_putBytes_26 ?_
  refine lv_topi (fun y2 e3 => ?_)
  obtain rfl : y2 = 1 := e3.trans (by decide)
  refine va_put (D := (dC, dI)) (ci := 0) (v := .int 1) (ty := .int) (C := "StrataBase") (T := tb_SB) (N := 13) hx hb hT in_SB ty_SB tk_SB nm_SB hown hK hP hD hS 0 rfl rfl 1 (by decide) (hT _ wd_518) (fun _ h9 => h9) rfl (by decide +kernel) rfl rfl (Nat.le_of_ble_eq_true rfl) dc_SB_putBytes_27 (fun H locs hP hD hS => ?_)
  have hP : va_P (dC, dI) vwCl [(a1, .inr (0, [.ref a2, .int 1, .int 0, .ref a3, .ref a4, .ref a5, .ref a6, .ref a7, .ref a8, .ref a9, .ref a10, .int 0, .int 0])), (a2, .inl (k1, 65536, .inl g1))] H := hP
  have hD : va_D A [(a1, .inr (0, [.ref a2, .int 1, .int 0, .ref a3, .ref a4, .ref a5, .ref a6, .ref a7, .ref a8, .ref a9, .ref a10, .int 0, .int 0])), (a2, .inl (k1, 65536, .inl g1))] := hD
  refine lv_iinc (k := 0) (v := 16) (lv' := [(2, .int 16), (0, .ref a1), (1, .int x1)]) hx hb dc_SB_putBytes_30 hl rfl (by decide) (by decide) rfl (fun ls hl => ?_)
  refine lv_goto (tgt := 3) hx hb dc_SB_putBytes_33 (by decide) ?_
  refine lv_iload_n hx hb dc_SB_putBytes_3 rfl (lv_at hl 0 rfl) ?_
  refine lv_if_lt (tgt := 36) hx hb dc_SB_putBytes_4 (by decide) (fun h9 => absurd h9 (by decide)) (fun _ => ?_)
  refine lv_aload_n hx hb dc_SB_putBytes_7 rfl (lv_at hl 1 rfl) ?_
  refine va_get (D := (dC, dI)) (ci := 0) (v := .ref a2) (C := "StrataBase") (T := tb_SB) (N := 13) hx hb hT in_SB hown hK hP 0 rfl rfl 0 (by decide) (hT _ wd_517) (fun _ h9 => h9) rfl dc_SB_putBytes_8 ?_
  refine lv_aload_n hx hb dc_SB_putBytes_11 rfl (lv_at hl 1 rfl) ?_
  refine va_get (D := (dC, dI)) (ci := 0) (v := .int 1) (C := "StrataBase") (T := tb_SB) (N := 13) hx hb hT in_SB hown hK hP 0 rfl rfl 1 (by decide) (hT _ wd_518) (fun _ h9 => h9) rfl dc_SB_putBytes_12 ?_
  refine lv_iload_n hx hb dc_SB_putBytes_15 rfl (lv_at hl 2 rfl) ?_
  refine lv_iload_n hx hb dc_SB_putBytes_16 rfl (lv_at hl 0 rfl) ?_
  refine lv_ishr hx hb dc_SB_putBytes_17 ?_
  refine lv_i2b (v := (x1 >>> ((16 : Int32) &&& 31)).toInt8.toInt32) hx hb dc_SB_putBytes_18 rfl ?_
  refine va_bast hx hb hK hP hD hS 1 0 rfl rfl (show vp_in (1 : Int32) 65536 from vp_in_nI (n := 1) (Nat.lt_of_lt_of_le (by decide : 1 < 2) (Nat.le_of_ble_eq_true rfl)) (Nat.lt_of_le_of_lt (Nat.le_of_ble_eq_true rfl) (by decide : 65536 < 2 ^ 31))) dc_SB_putBytes_19 (fun H locs hP hD hS => ?_)
  have hP : va_P (dC, dI) vwCl [(a1, .inr (0, [.ref a2, .int 1, .int 0, .ref a3, .ref a4, .ref a5, .ref a6, .ref a7, .ref a8, .ref a9, .ref a10, .int 0, .int 0])), (a2, .inl (k1, 65536, .inl (upd g1 (1 : Int32).toNatClampNeg (vp_nar .byte ((x1 >>> ((16 : Int32) &&& 31)).toInt8.toInt32)))))] H := hP
  have hD : va_D A [(a1, .inr (0, [.ref a2, .int 1, .int 0, .ref a3, .ref a4, .ref a5, .ref a6, .ref a7, .ref a8, .ref a9, .ref a10, .int 0, .int 0])), (a2, .inl (k1, 65536, .inl (upd g1 (1 : Int32).toNatClampNeg (vp_nar .byte ((x1 >>> ((16 : Int32) &&& 31)).toInt8.toInt32)))))] := hD
  generalize upd g1 (1 : Int32).toNatClampNeg (vp_nar .byte ((x1 >>> ((16 : Int32) &&& 31)).toInt8.toInt32)) = g4 at hP hD
  refine lv_aload_n hx hb dc_SB_putBytes_20 rfl (lv_at hl 1 rfl) ?_
  refine lv_dup hx hb dc_SB_putBytes_21 rfl ?_
  refine va_get (D := (dC, dI)) (ci := 0) (v := .int 1) (C := "StrataBase") (T := tb_SB) (N := 13) hx hb hT in_SB hown hK hP 0 rfl rfl 1 (by decide) (hT _ wd_518) (fun _ h9 => h9) rfl dc_SB_putBytes_22 ?_
  refine lv_iconst (v := 1) hx hb dc_SB_putBytes_25 (by decide) ?_
  refine lv_iadd hx hb dc_SB_putBytes_26 ?_
  refine lv_topi (fun y5 e6 => ?_)
  obtain rfl : y5 = 2 := e6.trans (by decide)
  refine va_put (D := (dC, dI)) (ci := 0) (v := .int 2) (ty := .int) (C := "StrataBase") (T := tb_SB) (N := 13) hx hb hT in_SB ty_SB tk_SB nm_SB hown hK hP hD hS 0 rfl rfl 1 (by decide) (hT _ wd_518) (fun _ h9 => h9) rfl (by decide +kernel) rfl rfl (Nat.le_of_ble_eq_true rfl) dc_SB_putBytes_27 (fun H locs hP hD hS => ?_)
  have hP : va_P (dC, dI) vwCl [(a1, .inr (0, [.ref a2, .int 2, .int 0, .ref a3, .ref a4, .ref a5, .ref a6, .ref a7, .ref a8, .ref a9, .ref a10, .int 0, .int 0])), (a2, .inl (k1, 65536, .inl g4))] H := hP
  have hD : va_D A [(a1, .inr (0, [.ref a2, .int 2, .int 0, .ref a3, .ref a4, .ref a5, .ref a6, .ref a7, .ref a8, .ref a9, .ref a10, .int 0, .int 0])), (a2, .inl (k1, 65536, .inl g4))] := hD
  refine lv_iinc (k := 0) (v := 8) (lv' := [(2, .int 8), (0, .ref a1), (1, .int x1)]) hx hb dc_SB_putBytes_30 hl rfl (by decide) (by decide) rfl (fun ls hl => ?_)
  refine lv_goto (tgt := 3) hx hb dc_SB_putBytes_33 (by decide) ?_
  refine lv_iload_n hx hb dc_SB_putBytes_3 rfl (lv_at hl 0 rfl) ?_
  refine lv_if_lt (tgt := 36) hx hb dc_SB_putBytes_4 (by decide) (fun h9 => absurd h9 (by decide)) (fun _ => ?_)
  refine lv_aload_n hx hb dc_SB_putBytes_7 rfl (lv_at hl 1 rfl) ?_
  refine va_get (D := (dC, dI)) (ci := 0) (v := .ref a2) (C := "StrataBase") (T := tb_SB) (N := 13) hx hb hT in_SB hown hK hP 0 rfl rfl 0 (by decide) (hT _ wd_517) (fun _ h9 => h9) rfl dc_SB_putBytes_8 ?_
  refine lv_aload_n hx hb dc_SB_putBytes_11 rfl (lv_at hl 1 rfl) ?_
  refine va_get (D := (dC, dI)) (ci := 0) (v := .int 2) (C := "StrataBase") (T := tb_SB) (N := 13) hx hb hT in_SB hown hK hP 0 rfl rfl 1 (by decide) (hT _ wd_518) (fun _ h9 => h9) rfl dc_SB_putBytes_12 ?_
  refine lv_iload_n hx hb dc_SB_putBytes_15 rfl (lv_at hl 2 rfl) ?_
  refine lv_iload_n hx hb dc_SB_putBytes_16 rfl (lv_at hl 0 rfl) ?_
  refine lv_ishr hx hb dc_SB_putBytes_17 ?_
  refine lv_i2b (v := (x1 >>> ((8 : Int32) &&& 31)).toInt8.toInt32) hx hb dc_SB_putBytes_18 rfl ?_
  refine va_bast hx hb hK hP hD hS 1 0 rfl rfl (show vp_in (2 : Int32) 65536 from vp_in_nI (n := 2) (Nat.lt_of_lt_of_le (by decide : 2 < 3) (Nat.le_of_ble_eq_true rfl)) (Nat.lt_of_le_of_lt (Nat.le_of_ble_eq_true rfl) (by decide : 65536 < 2 ^ 31))) dc_SB_putBytes_19 (fun H locs hP hD hS => ?_)
  have hP : va_P (dC, dI) vwCl [(a1, .inr (0, [.ref a2, .int 2, .int 0, .ref a3, .ref a4, .ref a5, .ref a6, .ref a7, .ref a8, .ref a9, .ref a10, .int 0, .int 0])), (a2, .inl (k1, 65536, .inl (upd g4 (2 : Int32).toNatClampNeg (vp_nar .byte ((x1 >>> ((8 : Int32) &&& 31)).toInt8.toInt32)))))] H := hP
  have hD : va_D A [(a1, .inr (0, [.ref a2, .int 2, .int 0, .ref a3, .ref a4, .ref a5, .ref a6, .ref a7, .ref a8, .ref a9, .ref a10, .int 0, .int 0])), (a2, .inl (k1, 65536, .inl (upd g4 (2 : Int32).toNatClampNeg (vp_nar .byte ((x1 >>> ((8 : Int32) &&& 31)).toInt8.toInt32)))))] := hD
  generalize upd g4 (2 : Int32).toNatClampNeg (vp_nar .byte ((x1 >>> ((8 : Int32) &&& 31)).toInt8.toInt32)) = g7 at hP hD
  refine lv_aload_n hx hb dc_SB_putBytes_20 rfl (lv_at hl 1 rfl) ?_
  refine lv_dup hx hb dc_SB_putBytes_21 rfl ?_
  refine va_get (D := (dC, dI)) (ci := 0) (v := .int 2) (C := "StrataBase") (T := tb_SB) (N := 13) hx hb hT in_SB hown hK hP 0 rfl rfl 1 (by decide) (hT _ wd_518) (fun _ h9 => h9) rfl dc_SB_putBytes_22 ?_
  refine lv_iconst (v := 1) hx hb dc_SB_putBytes_25 (by decide) ?_
  refine lv_iadd hx hb dc_SB_putBytes_26 ?_
  refine lv_topi (fun y8 e9 => ?_)
  obtain rfl : y8 = 3 := e9.trans (by decide)
  refine va_put (D := (dC, dI)) (ci := 0) (v := .int 3) (ty := .int) (C := "StrataBase") (T := tb_SB) (N := 13) hx hb hT in_SB ty_SB tk_SB nm_SB hown hK hP hD hS 0 rfl rfl 1 (by decide) (hT _ wd_518) (fun _ h9 => h9) rfl (by decide +kernel) rfl rfl (Nat.le_of_ble_eq_true rfl) dc_SB_putBytes_27 (fun H locs hP hD hS => ?_)
  have hP : va_P (dC, dI) vwCl [(a1, .inr (0, [.ref a2, .int 3, .int 0, .ref a3, .ref a4, .ref a5, .ref a6, .ref a7, .ref a8, .ref a9, .ref a10, .int 0, .int 0])), (a2, .inl (k1, 65536, .inl g7))] H := hP
  have hD : va_D A [(a1, .inr (0, [.ref a2, .int 3, .int 0, .ref a3, .ref a4, .ref a5, .ref a6, .ref a7, .ref a8, .ref a9, .ref a10, .int 0, .int 0])), (a2, .inl (k1, 65536, .inl g7))] := hD
  refine lv_iinc (k := 0) (v := 0) (lv' := [(2, .int 0), (0, .ref a1), (1, .int x1)]) hx hb dc_SB_putBytes_30 hl rfl (by decide) (by decide) rfl (fun ls hl => ?_)
  refine lv_goto (tgt := 3) hx hb dc_SB_putBytes_33 (by decide) ?_
  refine lv_iload_n hx hb dc_SB_putBytes_3 rfl (lv_at hl 0 rfl) ?_
  refine lv_if_lt (tgt := 36) hx hb dc_SB_putBytes_4 (by decide) (fun h9 => absurd h9 (by decide)) (fun _ => ?_)
  refine lv_aload_n hx hb dc_SB_putBytes_7 rfl (lv_at hl 1 rfl) ?_
  refine va_get (D := (dC, dI)) (ci := 0) (v := .ref a2) (C := "StrataBase") (T := tb_SB) (N := 13) hx hb hT in_SB hown hK hP 0 rfl rfl 0 (by decide) (hT _ wd_517) (fun _ h9 => h9) rfl dc_SB_putBytes_8 ?_
  refine lv_aload_n hx hb dc_SB_putBytes_11 rfl (lv_at hl 1 rfl) ?_
  refine va_get (D := (dC, dI)) (ci := 0) (v := .int 3) (C := "StrataBase") (T := tb_SB) (N := 13) hx hb hT in_SB hown hK hP 0 rfl rfl 1 (by decide) (hT _ wd_518) (fun _ h9 => h9) rfl dc_SB_putBytes_12 ?_
  refine lv_iload_n hx hb dc_SB_putBytes_15 rfl (lv_at hl 2 rfl) ?_
  refine lv_iload_n hx hb dc_SB_putBytes_16 rfl (lv_at hl 0 rfl) ?_
  refine lv_ishr hx hb dc_SB_putBytes_17 ?_
  refine lv_i2b (v := (x1 >>> ((0 : Int32) &&& 31)).toInt8.toInt32) hx hb dc_SB_putBytes_18 rfl ?_
  refine va_bast hx hb hK hP hD hS 1 0 rfl rfl (show vp_in (3 : Int32) 65536 from vp_in_nI (n := 3) (Nat.lt_of_lt_of_le (by decide : 3 < 4) (Nat.le_of_ble_eq_true rfl)) (Nat.lt_of_le_of_lt (Nat.le_of_ble_eq_true rfl) (by decide : 65536 < 2 ^ 31))) dc_SB_putBytes_19 (fun H locs hP hD hS => ?_)
  have hP : va_P (dC, dI) vwCl [(a1, .inr (0, [.ref a2, .int 3, .int 0, .ref a3, .ref a4, .ref a5, .ref a6, .ref a7, .ref a8, .ref a9, .ref a10, .int 0, .int 0])), (a2, .inl (k1, 65536, .inl (upd g7 (3 : Int32).toNatClampNeg (vp_nar .byte ((x1 >>> ((0 : Int32) &&& 31)).toInt8.toInt32)))))] H := hP
  have hD : va_D A [(a1, .inr (0, [.ref a2, .int 3, .int 0, .ref a3, .ref a4, .ref a5, .ref a6, .ref a7, .ref a8, .ref a9, .ref a10, .int 0, .int 0])), (a2, .inl (k1, 65536, .inl (upd g7 (3 : Int32).toNatClampNeg (vp_nar .byte ((x1 >>> ((0 : Int32) &&& 31)).toInt8.toInt32)))))] := hD
  generalize upd g7 (3 : Int32).toNatClampNeg (vp_nar .byte ((x1 >>> ((0 : Int32) &&& 31)).toInt8.toInt32)) = g10 at hP hD
  refine lv_aload_n hx hb dc_SB_putBytes_20 rfl (lv_at hl 1 rfl) ?_
  refine lv_dup hx hb dc_SB_putBytes_21 rfl ?_
  refine va_get (D := (dC, dI)) (ci := 0) (v := .int 3) (C := "StrataBase") (T := tb_SB) (N := 13) hx hb hT in_SB hown hK hP 0 rfl rfl 1 (by decide) (hT _ wd_518) (fun _ h9 => h9) rfl dc_SB_putBytes_22 ?_
  refine lv_iconst (v := 1) hx hb dc_SB_putBytes_25 (by decide) ?_
  refine lv_iadd hx hb dc_SB_putBytes_26 ?_
  refine lv_topi (fun y11 e12 => ?_)
  obtain rfl : y11 = 4 := e12.trans (by decide)
  refine va_put (D := (dC, dI)) (ci := 0) (v := .int 4) (ty := .int) (C := "StrataBase") (T := tb_SB) (N := 13) hx hb hT in_SB ty_SB tk_SB nm_SB hown hK hP hD hS 0 rfl rfl 1 (by decide) (hT _ wd_518) (fun _ h9 => h9) rfl (by decide +kernel) rfl rfl (Nat.le_of_ble_eq_true rfl) dc_SB_putBytes_27 (fun H locs hP hD hS => ?_)
  have hP : va_P (dC, dI) vwCl [(a1, .inr (0, [.ref a2, .int 4, .int 0, .ref a3, .ref a4, .ref a5, .ref a6, .ref a7, .ref a8, .ref a9, .ref a10, .int 0, .int 0])), (a2, .inl (k1, 65536, .inl g10))] H := hP
  have hD : va_D A [(a1, .inr (0, [.ref a2, .int 4, .int 0, .ref a3, .ref a4, .ref a5, .ref a6, .ref a7, .ref a8, .ref a9, .ref a10, .int 0, .int 0])), (a2, .inl (k1, 65536, .inl g10))] := hD
  refine lv_iinc (k := 0) (v := (-8)) (lv' := [(2, .int (-8)), (0, .ref a1), (1, .int x1)]) hx hb dc_SB_putBytes_30 hl rfl (by decide) (by decide) rfl (fun ls hl => ?_)
  refine lv_goto (tgt := 3) hx hb dc_SB_putBytes_33 (by decide) ?_
  refine lv_iload_n hx hb dc_SB_putBytes_3 rfl (lv_at hl 0 rfl) ?_
  refine lv_if_lt (tgt := 36) hx hb dc_SB_putBytes_4 (by decide) (fun _ => ?_) (fun h9 => absurd (by decide) h9)
  have hP9 := hP.sub (ws' := [(a1, .inr (0, [.ref a2, .int 4, .int 0, .ref a3, .ref a4, .ref a5, .ref a6, .ref a7, .ref a8, .ref a9, .ref a10, .int 0, .int 0])), (a2, .inl (k1, 65536, .inl g10))]) [0, 1] rfl
  have hD9 := hD.sub (ws' := [(a1, .inr (0, [.ref a2, .int 4, .int 0, .ref a3, .ref a4, .ref a5, .ref a6, .ref a7, .ref a8, .ref a9, .ref a10, .int 0, .int 0])), (a2, .inl (k1, 65536, .inl g10))]) [0, 1] (by decide) rfl
  have hK9 := hK.sub (tys' := [(k1, .byte)]) [0] rfl
  refine W.widen (k := 0) (n := 0) (Nat.le_of_ble_eq_true rfl) (Nat.le_of_ble_eq_true rfl) ?_
  exact W.vret hx hb hr (fun t ht hW => ⟨⟨(), rfl, trivial, g10, by rw [ht]; exact hP9, va_K.moved hW.alike hK9, hD9⟩, hS.F ht⟩) hS.2.2 dc_SB_putBytes_36

set_option maxHeartbeats 4000000 in
set_option maxRecDepth 100000 in
theorem c_SB_putBytes_2 (l : Launch) (dC : Nat → ClassId) (dI : Nat → Nat → Nat) (a1 : Nat) (a2 : Nat) (a3 : Nat) (a4 : Nat) (a5 : Nat) (a6 : Nat) (a7 : Nat) (a8 : Nat) (a9 : Nat) (a10 : Nat) (x1 : Int32) (f1 : Nat → Int32) (k1 : ClassId) (sz : Nat) : Met l my_SB_putBytes (Cond.code my_SB_putBytes cd_SB_putBytes 3 none :: tblG) ({ frames := 0, cells := 0, slots := 0, locals := 0 }) (va_Pc [.ref a1, .int x1] (fun U => U.heap.size = sz ∧ va_P (dC, dI) vwCl [(a1, .inr (0, [.ref a2, .int 4, .int 0, .ref a3, .ref a4, .ref a5, .ref a6, .ref a7, .ref a8, .ref a9, .ref a10, .int 0, .int 0])), (a2, .inl (k1, 65536, .inl f1))] U.heap ∧ va_K (dC, dI) vwCl [(k1, .byte)] U ∧ va_D (fun _ => True) [(a1, .inr (0, [.ref a2, .int 4, .int 0, .ref a3, .ref a4, .ref a5, .ref a6, .ref a7, .ref a8, .ref a9, .ref a10, .int 0, .int 0])), (a2, .inl (k1, 65536, .inl f1))])) (va_Qv (fun _ : Unit => True) (fun (_ : Unit) (t : State) => ∃ (g10 : Nat → Int32), va_P (dC, dI) vwCl [(a1, .inr (0, [.ref a2, .int 8, .int 0, .ref a3, .ref a4, .ref a5, .ref a6, .ref a7, .ref a8, .ref a9, .ref a10, .int 0, .int 0])), (a2, .inl (k1, 65536, .inl g10))] t.heap ∧ va_K (dC, dI) vwCl [(k1, .byte)] t ∧ va_D (va_A [(a1, .inr (0, [.ref a2, .int 4, .int 0, .ref a3, .ref a4, .ref a5, .ref a6, .ref a7, .ref a8, .ref a9, .ref a10, .int 0, .int 0])), (a2, .inl (k1, 65536, .inl f1))] sz) [(a1, .inr (0, [.ref a2, .int 8, .int 0, .ref a3, .ref a4, .ref a5, .ref a6, .ref a7, .ref a8, .ref a9, .ref a10, .int 0, .int 0])), (a2, .inl (k1, 65536, .inl g10))]) (va_A [(a1, .inr (0, [.ref a2, .int 4, .int 0, .ref a3, .ref a4, .ref a5, .ref a6, .ref a7, .ref a8, .ref a9, .ref a10, .int 0, .int 0])), (a2, .inl (k1, 65536, .inl f1))] sz)) 0 0 (va_A [(a1, .inr (0, [.ref a2, .int 4, .int 0, .ref a3, .ref a4, .ref a5, .ref a6, .ref a7, .ref a8, .ref a9, .ref a10, .int 0, .int 0])), (a2, .inl (k1, 65536, .inl f1))] sz) := by
  refine Met.ofW (cc := cd_SB_putBytes) (maxL := 3) (ret := none) (by decide) rfl ?_
  intro p e s m args below meth c s₁ B hml hv
  obtain ⟨rfl, hsz, hP, hK, hD0⟩ := hv
  have hx := B.exec
  have hb := B.bytes
  have hr := B.returns
  have hT : ∀ w ∈ tblG, w.before _ s = true := fun w h => atoms_spec (ws := (Cond.code my_SB_putBytes cd_SB_putBytes 3 none :: tblG)) B.pre w (List.mem_cons_of_mem _ h)
  have hown : s.vm.findClass "StrataBase" = some m.cls := findClass_of_methodNamed B.named
  have hlocks := B.notSynchronized
  subst hsz
  have hD := hD0.self (sz := s.heap.size)
  generalize hAe : va_A [(a1, .inr (0, [.ref a2, .int 4, .int 0, .ref a3, .ref a4, .ref a5, .ref a6, .ref a7, .ref a8, .ref a9, .ref a10, .int 0, .int 0])), (a2, .inl (k1, 65536, .inl f1))] s.heap.size = A at hD ⊢
  have hA : ∀ q : Nat, s.heap.size ≤ q → A q := fun q h => by rw [← hAe]; exact Or.inr h
  have hS : va_S A s.heap s.heap [] := va_S.rf
  have hl := lv_entry ([.ref a1, .int x1]) (n := 3) (Nat.le_of_ble_eq_true rfl)
  rw [lg_entry_eq]
  generalize (lg_sl ([.ref a1, .int x1]) ++ List.replicate (3 - (lg_sl ([.ref a1, .int x1])).length) Slot.unset).toArray = ls at hl ⊢
  have hl : lv_has ls 3 [(0, .ref a1), (1, .int x1)] := hl
  refine lv_bipush (v := 24) hx hb dc_SB_putBytes_0 (by decide) ?_
  refine lv_istore_n (lv' := [(2, .int 24), (0, .ref a1), (1, .int x1)]) hx hb dc_SB_putBytes_2 rfl hl (by decide) rfl (fun ls hl => ?_)
  refine lv_iload_n hx hb dc_SB_putBytes_3 rfl (lv_at hl 0 rfl) ?_
  refine lv_if_lt (tgt := 36) hx hb dc_SB_putBytes_4 (by decide) (fun h9 => absurd h9 (by decide)) (fun _ => ?_)
  refine lv_aload_n hx hb dc_SB_putBytes_7 rfl (lv_at hl 1 rfl) ?_
  refine va_get (D := (dC, dI)) (ci := 0) (v := .ref a2) (C := "StrataBase") (T := tb_SB) (N := 13) hx hb hT in_SB hown hK hP 0 rfl rfl 0 (by decide) (hT _ wd_517) (fun _ h9 => h9) rfl dc_SB_putBytes_8 ?_
  refine lv_aload_n hx hb dc_SB_putBytes_11 rfl (lv_at hl 1 rfl) ?_
  refine va_get (D := (dC, dI)) (ci := 0) (v := .int 4) (C := "StrataBase") (T := tb_SB) (N := 13) hx hb hT in_SB hown hK hP 0 rfl rfl 1 (by decide) (hT _ wd_518) (fun _ h9 => h9) rfl dc_SB_putBytes_12 ?_
  refine lv_iload_n hx hb dc_SB_putBytes_15 rfl (lv_at hl 2 rfl) ?_
  refine lv_iload_n hx hb dc_SB_putBytes_16 rfl (lv_at hl 0 rfl) ?_
  refine lv_ishr hx hb dc_SB_putBytes_17 ?_
  refine lv_i2b (v := (x1 >>> ((24 : Int32) &&& 31)).toInt8.toInt32) hx hb dc_SB_putBytes_18 rfl ?_
  refine va_bast hx hb hK hP hD hS 1 0 rfl rfl (show vp_in (4 : Int32) 65536 from vp_in_nI (n := 4) (Nat.lt_of_lt_of_le (by decide : 4 < 5) (Nat.le_of_ble_eq_true rfl)) (Nat.lt_of_le_of_lt (Nat.le_of_ble_eq_true rfl) (by decide : 65536 < 2 ^ 31))) dc_SB_putBytes_19 (fun H locs hP hD hS => ?_)
  have hP : va_P (dC, dI) vwCl [(a1, .inr (0, [.ref a2, .int 4, .int 0, .ref a3, .ref a4, .ref a5, .ref a6, .ref a7, .ref a8, .ref a9, .ref a10, .int 0, .int 0])), (a2, .inl (k1, 65536, .inl (upd f1 (4 : Int32).toNatClampNeg (vp_nar .byte ((x1 >>> ((24 : Int32) &&& 31)).toInt8.toInt32)))))] H := hP
  have hD : va_D A [(a1, .inr (0, [.ref a2, .int 4, .int 0, .ref a3, .ref a4, .ref a5, .ref a6, .ref a7, .ref a8, .ref a9, .ref a10, .int 0, .int 0])), (a2, .inl (k1, 65536, .inl (upd f1 (4 : Int32).toNatClampNeg (vp_nar .byte ((x1 >>> ((24 : Int32) &&& 31)).toInt8.toInt32)))))] := hD
  generalize upd f1 (4 : Int32).toNatClampNeg (vp_nar .byte ((x1 >>> ((24 : Int32) &&& 31)).toInt8.toInt32)) = g1 at hP hD
  refine lv_aload_n hx hb dc_SB_putBytes_20 rfl (lv_at hl 1 rfl) ?_
  refine lv_dup hx hb dc_SB_putBytes_21 rfl ?_
  refine va_get (D := (dC, dI)) (ci := 0) (v := .int 4) (C := "StrataBase") (T := tb_SB) (N := 13) hx hb hT in_SB hown hK hP 0 rfl rfl 1 (by decide) (hT _ wd_518) (fun _ h9 => h9) rfl dc_SB_putBytes_22 ?_
  refine lv_iconst (v := 1) hx hb dc_SB_putBytes_25 (by decide) ?_
  refine lv_iadd hx hb dc_SB_putBytes_26 ?_
  refine lv_topi (fun y2 e3 => ?_)
  obtain rfl : y2 = 5 := e3.trans (by decide)
  refine va_put (D := (dC, dI)) (ci := 0) (v := .int 5) (ty := .int) (C := "StrataBase") (T := tb_SB) (N := 13) hx hb hT in_SB ty_SB tk_SB nm_SB hown hK hP hD hS 0 rfl rfl 1 (by decide) (hT _ wd_518) (fun _ h9 => h9) rfl (by decide +kernel) rfl rfl (Nat.le_of_ble_eq_true rfl) dc_SB_putBytes_27 (fun H locs hP hD hS => ?_)
  have hP : va_P (dC, dI) vwCl [(a1, .inr (0, [.ref a2, .int 5, .int 0, .ref a3, .ref a4, .ref a5, .ref a6, .ref a7, .ref a8, .ref a9, .ref a10, .int 0, .int 0])), (a2, .inl (k1, 65536, .inl g1))] H := hP
  have hD : va_D A [(a1, .inr (0, [.ref a2, .int 5, .int 0, .ref a3, .ref a4, .ref a5, .ref a6, .ref a7, .ref a8, .ref a9, .ref a10, .int 0, .int 0])), (a2, .inl (k1, 65536, .inl g1))] := hD
  refine lv_iinc (k := 0) (v := 16) (lv' := [(2, .int 16), (0, .ref a1), (1, .int x1)]) hx hb dc_SB_putBytes_30 hl rfl (by decide) (by decide) rfl (fun ls hl => ?_)
  refine lv_goto (tgt := 3) hx hb dc_SB_putBytes_33 (by decide) ?_
  refine lv_iload_n hx hb dc_SB_putBytes_3 rfl (lv_at hl 0 rfl) ?_
  refine lv_if_lt (tgt := 36) hx hb dc_SB_putBytes_4 (by decide) (fun h9 => absurd h9 (by decide)) (fun _ => ?_)
  refine lv_aload_n hx hb dc_SB_putBytes_7 rfl (lv_at hl 1 rfl) ?_
  refine va_get (D := (dC, dI)) (ci := 0) (v := .ref a2) (C := "StrataBase") (T := tb_SB) (N := 13) hx hb hT in_SB hown hK hP 0 rfl rfl 0 (by decide) (hT _ wd_517) (fun _ h9 => h9) rfl dc_SB_putBytes_8 ?_
  refine lv_aload_n hx hb dc_SB_putBytes_11 rfl (lv_at hl 1 rfl) ?_
  refine va_get (D := (dC, dI)) (ci := 0) (v := .int 5) (C := "StrataBase") (T := tb_SB) (N := 13) hx hb hT in_SB hown hK hP 0 rfl rfl 1 (by decide) (hT _ wd_518) (fun _ h9 => h9) rfl dc_SB_putBytes_12 ?_
  refine lv_iload_n hx hb dc_SB_putBytes_15 rfl (lv_at hl 2 rfl) ?_
  refine lv_iload_n hx hb dc_SB_putBytes_16 rfl (lv_at hl 0 rfl) ?_
  refine lv_ishr hx hb dc_SB_putBytes_17 ?_
  refine lv_i2b (v := (x1 >>> ((16 : Int32) &&& 31)).toInt8.toInt32) hx hb dc_SB_putBytes_18 rfl ?_
  refine va_bast hx hb hK hP hD hS 1 0 rfl rfl (show vp_in (5 : Int32) 65536 from vp_in_nI (n := 5) (Nat.lt_of_lt_of_le (by decide : 5 < 6) (Nat.le_of_ble_eq_true rfl)) (Nat.lt_of_le_of_lt (Nat.le_of_ble_eq_true rfl) (by decide : 65536 < 2 ^ 31))) dc_SB_putBytes_19 (fun H locs hP hD hS => ?_)
  have hP : va_P (dC, dI) vwCl [(a1, .inr (0, [.ref a2, .int 5, .int 0, .ref a3, .ref a4, .ref a5, .ref a6, .ref a7, .ref a8, .ref a9, .ref a10, .int 0, .int 0])), (a2, .inl (k1, 65536, .inl (upd g1 (5 : Int32).toNatClampNeg (vp_nar .byte ((x1 >>> ((16 : Int32) &&& 31)).toInt8.toInt32)))))] H := hP
  have hD : va_D A [(a1, .inr (0, [.ref a2, .int 5, .int 0, .ref a3, .ref a4, .ref a5, .ref a6, .ref a7, .ref a8, .ref a9, .ref a10, .int 0, .int 0])), (a2, .inl (k1, 65536, .inl (upd g1 (5 : Int32).toNatClampNeg (vp_nar .byte ((x1 >>> ((16 : Int32) &&& 31)).toInt8.toInt32)))))] := hD
  generalize upd g1 (5 : Int32).toNatClampNeg (vp_nar .byte ((x1 >>> ((16 : Int32) &&& 31)).toInt8.toInt32)) = g4 at hP hD
  refine lv_aload_n hx hb dc_SB_putBytes_20 rfl (lv_at hl 1 rfl) ?_
  refine lv_dup hx hb dc_SB_putBytes_21 rfl ?_
  refine va_get (D := (dC, dI)) (ci := 0) (v := .int 5) (C := "StrataBase") (T := tb_SB) (N := 13) hx hb hT in_SB hown hK hP 0 rfl rfl 1 (by decide) (hT _ wd_518) (fun _ h9 => h9) rfl dc_SB_putBytes_22 ?_
  refine lv_iconst (v := 1) hx hb dc_SB_putBytes_25 (by decide) ?_
  refine lv_iadd hx hb dc_SB_putBytes_26 ?_
  refine lv_topi (fun y5 e6 => ?_)
  obtain rfl : y5 = 6 := e6.trans (by decide)
  refine va_put (D := (dC, dI)) (ci := 0) (v := .int 6) (ty := .int) (C := "StrataBase") (T := tb_SB) (N := 13) hx hb hT in_SB ty_SB tk_SB nm_SB hown hK hP hD hS 0 rfl rfl 1 (by decide) (hT _ wd_518) (fun _ h9 => h9) rfl (by decide +kernel) rfl rfl (Nat.le_of_ble_eq_true rfl) dc_SB_putBytes_27 (fun H locs hP hD hS => ?_)
  have hP : va_P (dC, dI) vwCl [(a1, .inr (0, [.ref a2, .int 6, .int 0, .ref a3, .ref a4, .ref a5, .ref a6, .ref a7, .ref a8, .ref a9, .ref a10, .int 0, .int 0])), (a2, .inl (k1, 65536, .inl g4))] H := hP
  have hD : va_D A [(a1, .inr (0, [.ref a2, .int 6, .int 0, .ref a3, .ref a4, .ref a5, .ref a6, .ref a7, .ref a8, .ref a9, .ref a10, .int 0, .int 0])), (a2, .inl (k1, 65536, .inl g4))] := hD
  refine lv_iinc (k := 0) (v := 8) (lv' := [(2, .int 8), (0, .ref a1), (1, .int x1)]) hx hb dc_SB_putBytes_30 hl rfl (by decide) (by decide) rfl (fun ls hl => ?_)
  refine lv_goto (tgt := 3) hx hb dc_SB_putBytes_33 (by decide) ?_
  refine lv_iload_n hx hb dc_SB_putBytes_3 rfl (lv_at hl 0 rfl) ?_
  refine lv_if_lt (tgt := 36) hx hb dc_SB_putBytes_4 (by decide) (fun h9 => absurd h9 (by decide)) (fun _ => ?_)
  refine lv_aload_n hx hb dc_SB_putBytes_7 rfl (lv_at hl 1 rfl) ?_
  refine va_get (D := (dC, dI)) (ci := 0) (v := .ref a2) (C := "StrataBase") (T := tb_SB) (N := 13) hx hb hT in_SB hown hK hP 0 rfl rfl 0 (by decide) (hT _ wd_517) (fun _ h9 => h9) rfl dc_SB_putBytes_8 ?_
  refine lv_aload_n hx hb dc_SB_putBytes_11 rfl (lv_at hl 1 rfl) ?_
  refine va_get (D := (dC, dI)) (ci := 0) (v := .int 6) (C := "StrataBase") (T := tb_SB) (N := 13) hx hb hT in_SB hown hK hP 0 rfl rfl 1 (by decide) (hT _ wd_518) (fun _ h9 => h9) rfl dc_SB_putBytes_12 ?_
  refine lv_iload_n hx hb dc_SB_putBytes_15 rfl (lv_at hl 2 rfl) ?_
  refine lv_iload_n hx hb dc_SB_putBytes_16 rfl (lv_at hl 0 rfl) ?_
  refine lv_ishr hx hb dc_SB_putBytes_17 ?_
  refine lv_i2b (v := (x1 >>> ((8 : Int32) &&& 31)).toInt8.toInt32) hx hb dc_SB_putBytes_18 rfl ?_
  refine va_bast hx hb hK hP hD hS 1 0 rfl rfl (show vp_in (6 : Int32) 65536 from vp_in_nI (n := 6) (Nat.lt_of_lt_of_le (by decide : 6 < 7) (Nat.le_of_ble_eq_true rfl)) (Nat.lt_of_le_of_lt (Nat.le_of_ble_eq_true rfl) (by decide : 65536 < 2 ^ 31))) dc_SB_putBytes_19 (fun H locs hP hD hS => ?_)
  have hP : va_P (dC, dI) vwCl [(a1, .inr (0, [.ref a2, .int 6, .int 0, .ref a3, .ref a4, .ref a5, .ref a6, .ref a7, .ref a8, .ref a9, .ref a10, .int 0, .int 0])), (a2, .inl (k1, 65536, .inl (upd g4 (6 : Int32).toNatClampNeg (vp_nar .byte ((x1 >>> ((8 : Int32) &&& 31)).toInt8.toInt32)))))] H := hP
  have hD : va_D A [(a1, .inr (0, [.ref a2, .int 6, .int 0, .ref a3, .ref a4, .ref a5, .ref a6, .ref a7, .ref a8, .ref a9, .ref a10, .int 0, .int 0])), (a2, .inl (k1, 65536, .inl (upd g4 (6 : Int32).toNatClampNeg (vp_nar .byte ((x1 >>> ((8 : Int32) &&& 31)).toInt8.toInt32)))))] := hD
  generalize upd g4 (6 : Int32).toNatClampNeg (vp_nar .byte ((x1 >>> ((8 : Int32) &&& 31)).toInt8.toInt32)) = g7 at hP hD
  refine lv_aload_n hx hb dc_SB_putBytes_20 rfl (lv_at hl 1 rfl) ?_
  refine lv_dup hx hb dc_SB_putBytes_21 rfl ?_
  refine va_get (D := (dC, dI)) (ci := 0) (v := .int 6) (C := "StrataBase") (T := tb_SB) (N := 13) hx hb hT in_SB hown hK hP 0 rfl rfl 1 (by decide) (hT _ wd_518) (fun _ h9 => h9) rfl dc_SB_putBytes_22 ?_
  refine lv_iconst (v := 1) hx hb dc_SB_putBytes_25 (by decide) ?_
  refine lv_iadd hx hb dc_SB_putBytes_26 ?_
  refine lv_topi (fun y8 e9 => ?_)
  obtain rfl : y8 = 7 := e9.trans (by decide)
  refine va_put (D := (dC, dI)) (ci := 0) (v := .int 7) (ty := .int) (C := "StrataBase") (T := tb_SB) (N := 13) hx hb hT in_SB ty_SB tk_SB nm_SB hown hK hP hD hS 0 rfl rfl 1 (by decide) (hT _ wd_518) (fun _ h9 => h9) rfl (by decide +kernel) rfl rfl (Nat.le_of_ble_eq_true rfl) dc_SB_putBytes_27 (fun H locs hP hD hS => ?_)
  have hP : va_P (dC, dI) vwCl [(a1, .inr (0, [.ref a2, .int 7, .int 0, .ref a3, .ref a4, .ref a5, .ref a6, .ref a7, .ref a8, .ref a9, .ref a10, .int 0, .int 0])), (a2, .inl (k1, 65536, .inl g7))] H := hP
  have hD : va_D A [(a1, .inr (0, [.ref a2, .int 7, .int 0, .ref a3, .ref a4, .ref a5, .ref a6, .ref a7, .ref a8, .ref a9, .ref a10, .int 0, .int 0])), (a2, .inl (k1, 65536, .inl g7))] := hD
  refine lv_iinc (k := 0) (v := 0) (lv' := [(2, .int 0), (0, .ref a1), (1, .int x1)]) hx hb dc_SB_putBytes_30 hl rfl (by decide) (by decide) rfl (fun ls hl => ?_)
  refine lv_goto (tgt := 3) hx hb dc_SB_putBytes_33 (by decide) ?_
  refine lv_iload_n hx hb dc_SB_putBytes_3 rfl (lv_at hl 0 rfl) ?_
  refine lv_if_lt (tgt := 36) hx hb dc_SB_putBytes_4 (by decide) (fun h9 => absurd h9 (by decide)) (fun _ => ?_)
  refine lv_aload_n hx hb dc_SB_putBytes_7 rfl (lv_at hl 1 rfl) ?_
  refine va_get (D := (dC, dI)) (ci := 0) (v := .ref a2) (C := "StrataBase") (T := tb_SB) (N := 13) hx hb hT in_SB hown hK hP 0 rfl rfl 0 (by decide) (hT _ wd_517) (fun _ h9 => h9) rfl dc_SB_putBytes_8 ?_
  refine lv_aload_n hx hb dc_SB_putBytes_11 rfl (lv_at hl 1 rfl) ?_
  refine va_get (D := (dC, dI)) (ci := 0) (v := .int 7) (C := "StrataBase") (T := tb_SB) (N := 13) hx hb hT in_SB hown hK hP 0 rfl rfl 1 (by decide) (hT _ wd_518) (fun _ h9 => h9) rfl dc_SB_putBytes_12 ?_
  refine lv_iload_n hx hb dc_SB_putBytes_15 rfl (lv_at hl 2 rfl) ?_
  refine lv_iload_n hx hb dc_SB_putBytes_16 rfl (lv_at hl 0 rfl) ?_
  refine lv_ishr hx hb dc_SB_putBytes_17 ?_
  refine lv_i2b (v := (x1 >>> ((0 : Int32) &&& 31)).toInt8.toInt32) hx hb dc_SB_putBytes_18 rfl ?_
  refine va_bast hx hb hK hP hD hS 1 0 rfl rfl (show vp_in (7 : Int32) 65536 from vp_in_nI (n := 7) (Nat.lt_of_lt_of_le (by decide : 7 < 8) (Nat.le_of_ble_eq_true rfl)) (Nat.lt_of_le_of_lt (Nat.le_of_ble_eq_true rfl) (by decide : 65536 < 2 ^ 31))) dc_SB_putBytes_19 (fun H locs hP hD hS => ?_)
  have hP : va_P (dC, dI) vwCl [(a1, .inr (0, [.ref a2, .int 7, .int 0, .ref a3, .ref a4, .ref a5, .ref a6, .ref a7, .ref a8, .ref a9, .ref a10, .int 0, .int 0])), (a2, .inl (k1, 65536, .inl (upd g7 (7 : Int32).toNatClampNeg (vp_nar .byte ((x1 >>> ((0 : Int32) &&& 31)).toInt8.toInt32)))))] H := hP
  have hD : va_D A [(a1, .inr (0, [.ref a2, .int 7, .int 0, .ref a3, .ref a4, .ref a5, .ref a6, .ref a7, .ref a8, .ref a9, .ref a10, .int 0, .int 0])), (a2, .inl (k1, 65536, .inl (upd g7 (7 : Int32).toNatClampNeg (vp_nar .byte ((x1 >>> ((0 : Int32) &&& 31)).toInt8.toInt32)))))] := hD
  generalize upd g7 (7 : Int32).toNatClampNeg (vp_nar .byte ((x1 >>> ((0 : Int32) &&& 31)).toInt8.toInt32)) = g10 at hP hD
  refine lv_aload_n hx hb dc_SB_putBytes_20 rfl (lv_at hl 1 rfl) ?_
  refine lv_dup hx hb dc_SB_putBytes_21 rfl ?_
  refine va_get (D := (dC, dI)) (ci := 0) (v := .int 7) (C := "StrataBase") (T := tb_SB) (N := 13) hx hb hT in_SB hown hK hP 0 rfl rfl 1 (by decide) (hT _ wd_518) (fun _ h9 => h9) rfl dc_SB_putBytes_22 ?_
  refine lv_iconst (v := 1) hx hb dc_SB_putBytes_25 (by decide) ?_
  refine lv_iadd hx hb dc_SB_putBytes_26 ?_
  refine lv_topi (fun y11 e12 => ?_)
  obtain rfl : y11 = 8 := e12.trans (by decide)
  refine va_put (D := (dC, dI)) (ci := 0) (v := .int 8) (ty := .int) (C := "StrataBase") (T := tb_SB) (N := 13) hx hb hT in_SB ty_SB tk_SB nm_SB hown hK hP hD hS 0 rfl rfl 1 (by decide) (hT _ wd_518) (fun _ h9 => h9) rfl (by decide +kernel) rfl rfl (Nat.le_of_ble_eq_true rfl) dc_SB_putBytes_27 (fun H locs hP hD hS => ?_)
  have hP : va_P (dC, dI) vwCl [(a1, .inr (0, [.ref a2, .int 8, .int 0, .ref a3, .ref a4, .ref a5, .ref a6, .ref a7, .ref a8, .ref a9, .ref a10, .int 0, .int 0])), (a2, .inl (k1, 65536, .inl g10))] H := hP
  have hD : va_D A [(a1, .inr (0, [.ref a2, .int 8, .int 0, .ref a3, .ref a4, .ref a5, .ref a6, .ref a7, .ref a8, .ref a9, .ref a10, .int 0, .int 0])), (a2, .inl (k1, 65536, .inl g10))] := hD
  refine lv_iinc (k := 0) (v := (-8)) (lv' := [(2, .int (-8)), (0, .ref a1), (1, .int x1)]) hx hb dc_SB_putBytes_30 hl rfl (by decide) (by decide) rfl (fun ls hl => ?_)
  refine lv_goto (tgt := 3) hx hb dc_SB_putBytes_33 (by decide) ?_
  refine lv_iload_n hx hb dc_SB_putBytes_3 rfl (lv_at hl 0 rfl) ?_
  refine lv_if_lt (tgt := 36) hx hb dc_SB_putBytes_4 (by decide) (fun _ => ?_) (fun h9 => absurd (by decide) h9)
  have hP9 := hP.sub (ws' := [(a1, .inr (0, [.ref a2, .int 8, .int 0, .ref a3, .ref a4, .ref a5, .ref a6, .ref a7, .ref a8, .ref a9, .ref a10, .int 0, .int 0])), (a2, .inl (k1, 65536, .inl g10))]) [0, 1] rfl
  have hD9 := hD.sub (ws' := [(a1, .inr (0, [.ref a2, .int 8, .int 0, .ref a3, .ref a4, .ref a5, .ref a6, .ref a7, .ref a8, .ref a9, .ref a10, .int 0, .int 0])), (a2, .inl (k1, 65536, .inl g10))]) [0, 1] (by decide) rfl
  have hK9 := hK.sub (tys' := [(k1, .byte)]) [0] rfl
  refine W.widen (k := 0) (n := 0) (Nat.le_of_ble_eq_true rfl) (Nat.le_of_ble_eq_true rfl) ?_
  exact W.vret hx hb hr (fun t ht hW => ⟨⟨(), rfl, trivial, g10, by rw [ht]; exact hP9, va_K.moved hW.alike hK9, hD9⟩, hS.F ht⟩) hS.2.2 dc_SB_putBytes_36

set_option maxHeartbeats 4000000 in
set_option maxRecDepth 100000 in
theorem c_SB_putBytes_3 (l : Launch) (dC : Nat → ClassId) (dI : Nat → Nat → Nat) (a1 : Nat) (a2 : Nat) (a3 : Nat) (a4 : Nat) (a5 : Nat) (a6 : Nat) (a7 : Nat) (a8 : Nat) (a9 : Nat) (a10 : Nat) (x1 : Int32) (f1 : Nat → Int32) (k1 : ClassId) (sz : Nat) : Met l my_SB_putBytes (Cond.code my_SB_putBytes cd_SB_putBytes 3 none :: tblG) ({ frames := 0, cells := 0, slots := 0, locals := 0 }) (va_Pc [.ref a1, .int x1] (fun U => U.heap.size = sz ∧ va_P (dC, dI) vwCl [(a1, .inr (0, [.ref a2, .int 8, .int 0, .ref a3, .ref a4, .ref a5, .ref a6, .ref a7, .ref a8, .ref a9, .ref a10, .int 0, .int 0])), (a2, .inl (k1, 65536, .inl f1))] U.heap ∧ va_K (dC, dI) vwCl [(k1, .byte)] U ∧ va_D (fun _ => True) [(a1, .inr (0, [.ref a2, .int 8, .int 0, .ref a3, .ref a4, .ref a5, .ref a6, .ref a7, .ref a8, .ref a9, .ref a10, .int 0, .int 0])), (a2, .inl (k1, 65536, .inl f1))])) (va_Qv (fun _ : Unit => True) (fun (_ : Unit) (t : State) => ∃ (g10 : Nat → Int32), va_P (dC, dI) vwCl [(a1, .inr (0, [.ref a2, .int 12, .int 0, .ref a3, .ref a4, .ref a5, .ref a6, .ref a7, .ref a8, .ref a9, .ref a10, .int 0, .int 0])), (a2, .inl (k1, 65536, .inl g10))] t.heap ∧ va_K (dC, dI) vwCl [(k1, .byte)] t ∧ va_D (va_A [(a1, .inr (0, [.ref a2, .int 8, .int 0, .ref a3, .ref a4, .ref a5, .ref a6, .ref a7, .ref a8, .ref a9, .ref a10, .int 0, .int 0])), (a2, .inl (k1, 65536, .inl f1))] sz) [(a1, .inr (0, [.ref a2, .int 12, .int 0, .ref a3, .ref a4, .ref a5, .ref a6, .ref a7, .ref a8, .ref a9, .ref a10, .int 0, .int 0])), (a2, .inl (k1, 65536, .inl g10))]) (va_A [(a1, .inr (0, [.ref a2, .int 8, .int 0, .ref a3, .ref a4, .ref a5, .ref a6, .ref a7, .ref a8, .ref a9, .ref a10, .int 0, .int 0])), (a2, .inl (k1, 65536, .inl f1))] sz)) 0 0 (va_A [(a1, .inr (0, [.ref a2, .int 8, .int 0, .ref a3, .ref a4, .ref a5, .ref a6, .ref a7, .ref a8, .ref a9, .ref a10, .int 0, .int 0])), (a2, .inl (k1, 65536, .inl f1))] sz) := by
  refine Met.ofW (cc := cd_SB_putBytes) (maxL := 3) (ret := none) (by decide) rfl ?_
  intro p e s m args below meth c s₁ B hml hv
  obtain ⟨rfl, hsz, hP, hK, hD0⟩ := hv
  have hx := B.exec
  have hb := B.bytes
  have hr := B.returns
  have hT : ∀ w ∈ tblG, w.before _ s = true := fun w h => atoms_spec (ws := (Cond.code my_SB_putBytes cd_SB_putBytes 3 none :: tblG)) B.pre w (List.mem_cons_of_mem _ h)
  have hown : s.vm.findClass "StrataBase" = some m.cls := findClass_of_methodNamed B.named
  have hlocks := B.notSynchronized
  subst hsz
  have hD := hD0.self (sz := s.heap.size)
  generalize hAe : va_A [(a1, .inr (0, [.ref a2, .int 8, .int 0, .ref a3, .ref a4, .ref a5, .ref a6, .ref a7, .ref a8, .ref a9, .ref a10, .int 0, .int 0])), (a2, .inl (k1, 65536, .inl f1))] s.heap.size = A at hD ⊢
  have hA : ∀ q : Nat, s.heap.size ≤ q → A q := fun q h => by rw [← hAe]; exact Or.inr h
  have hS : va_S A s.heap s.heap [] := va_S.rf
  have hl := lv_entry ([.ref a1, .int x1]) (n := 3) (Nat.le_of_ble_eq_true rfl)
  rw [lg_entry_eq]
  generalize (lg_sl ([.ref a1, .int x1]) ++ List.replicate (3 - (lg_sl ([.ref a1, .int x1])).length) Slot.unset).toArray = ls at hl ⊢
  have hl : lv_has ls 3 [(0, .ref a1), (1, .int x1)] := hl
  refine lv_bipush (v := 24) hx hb dc_SB_putBytes_0 (by decide) ?_
  refine lv_istore_n (lv' := [(2, .int 24), (0, .ref a1), (1, .int x1)]) hx hb dc_SB_putBytes_2 rfl hl (by decide) rfl (fun ls hl => ?_)
  refine lv_iload_n hx hb dc_SB_putBytes_3 rfl (lv_at hl 0 rfl) ?_
  refine lv_if_lt (tgt := 36) hx hb dc_SB_putBytes_4 (by decide) (fun h9 => absurd h9 (by decide)) (fun _ => ?_)
  refine lv_aload_n hx hb dc_SB_putBytes_7 rfl (lv_at hl 1 rfl) ?_
  refine va_get (D := (dC, dI)) (ci := 0) (v := .ref a2) (C := "StrataBase") (T := tb_SB) (N := 13) hx hb hT in_SB hown hK hP 0 rfl rfl 0 (by decide) (hT _ wd_517) (fun _ h9 => h9) rfl dc_SB_putBytes_8 ?_
  refine lv_aload_n hx hb dc_SB_putBytes_11 rfl (lv_at hl 1 rfl) ?_
  refine va_get (D := (dC, dI)) (ci := 0) (v := .int 8) (C := "StrataBase") (T := tb_SB) (N := 13) hx hb hT in_SB hown hK hP 0 rfl rfl 1 (by decide) (hT _ wd_518) (fun _ h9 => h9) rfl dc_SB_putBytes_12 ?_
  refine lv_iload_n hx hb dc_SB_putBytes_15 rfl (lv_at hl 2 rfl) ?_
  refine lv_iload_n hx hb dc_SB_putBytes_16 rfl (lv_at hl 0 rfl) ?_
  refine lv_ishr hx hb dc_SB_putBytes_17 ?_
  refine lv_i2b (v := (x1 >>> ((24 : Int32) &&& 31)).toInt8.toInt32) hx hb dc_SB_putBytes_18 rfl ?_
  refine va_bast hx hb hK hP hD hS 1 0 rfl rfl (show vp_in (8 : Int32) 65536 from vp_in_nI (n := 8) (Nat.lt_of_lt_of_le (by decide : 8 < 9) (Nat.le_of_ble_eq_true rfl)) (Nat.lt_of_le_of_lt (Nat.le_of_ble_eq_true rfl) (by decide : 65536 < 2 ^ 31))) dc_SB_putBytes_19 (fun H locs hP hD hS => ?_)
  have hP : va_P (dC, dI) vwCl [(a1, .inr (0, [.ref a2, .int 8, .int 0, .ref a3, .ref a4, .ref a5, .ref a6, .ref a7, .ref a8, .ref a9, .ref a10, .int 0, .int 0])), (a2, .inl (k1, 65536, .inl (upd f1 (8 : Int32).toNatClampNeg (vp_nar .byte ((x1 >>> ((24 : Int32) &&& 31)).toInt8.toInt32)))))] H := hP
  have hD : va_D A [(a1, .inr (0, [.ref a2, .int 8, .int 0, .ref a3, .ref a4, .ref a5, .ref a6, .ref a7, .ref a8, .ref a9, .ref a10, .int 0, .int 0])), (a2, .inl (k1, 65536, .inl (upd f1 (8 : Int32).toNatClampNeg (vp_nar .byte ((x1 >>> ((24 : Int32) &&& 31)).toInt8.toInt32)))))] := hD
  generalize upd f1 (8 : Int32).toNatClampNeg (vp_nar .byte ((x1 >>> ((24 : Int32) &&& 31)).toInt8.toInt32)) = g1 at hP hD
  refine lv_aload_n hx hb dc_SB_putBytes_20 rfl (lv_at hl 1 rfl) ?_
  refine lv_dup hx hb dc_SB_putBytes_21 rfl ?_
  refine va_get (D := (dC, dI)) (ci := 0) (v := .int 8) (C := "StrataBase") (T := tb_SB) (N := 13) hx hb hT in_SB hown hK hP 0 rfl rfl 1 (by decide) (hT _ wd_518) (fun _ h9 => h9) rfl dc_SB_putBytes_22 ?_
  refine lv_iconst (v := 1) hx hb dc_SB_putBytes_25 (by decide) ?_
  refine lv_iadd hx hb dc_SB_putBytes_26 ?_
  refine lv_topi (fun y2 e3 => ?_)
  obtain rfl : y2 = 9 := e3.trans (by decide)
  refine va_put (D := (dC, dI)) (ci := 0) (v := .int 9) (ty := .int) (C := "StrataBase") (T := tb_SB) (N := 13) hx hb hT in_SB ty_SB tk_SB nm_SB hown hK hP hD hS 0 rfl rfl 1 (by decide) (hT _ wd_518) (fun _ h9 => h9) rfl (by decide +kernel) rfl rfl (Nat.le_of_ble_eq_true rfl) dc_SB_putBytes_27 (fun H locs hP hD hS => ?_)
  have hP : va_P (dC, dI) vwCl [(a1, .inr (0, [.ref a2, .int 9, .int 0, .ref a3, .ref a4, .ref a5, .ref a6, .ref a7, .ref a8, .ref a9, .ref a10, .int 0, .int 0])), (a2, .inl (k1, 65536, .inl g1))] H := hP
  have hD : va_D A [(a1, .inr (0, [.ref a2, .int 9, .int 0, .ref a3, .ref a4, .ref a5, .ref a6, .ref a7, .ref a8, .ref a9, .ref a10, .int 0, .int 0])), (a2, .inl (k1, 65536, .inl g1))] := hD
  refine lv_iinc (k := 0) (v := 16) (lv' := [(2, .int 16), (0, .ref a1), (1, .int x1)]) hx hb dc_SB_putBytes_30 hl rfl (by decide) (by decide) rfl (fun ls hl => ?_)
  refine lv_goto (tgt := 3) hx hb dc_SB_putBytes_33 (by decide) ?_
  refine lv_iload_n hx hb dc_SB_putBytes_3 rfl (lv_at hl 0 rfl) ?_
  refine lv_if_lt (tgt := 36) hx hb dc_SB_putBytes_4 (by decide) (fun h9 => absurd h9 (by decide)) (fun _ => ?_)
  refine lv_aload_n hx hb dc_SB_putBytes_7 rfl (lv_at hl 1 rfl) ?_
  refine va_get (D := (dC, dI)) (ci := 0) (v := .ref a2) (C := "StrataBase") (T := tb_SB) (N := 13) hx hb hT in_SB hown hK hP 0 rfl rfl 0 (by decide) (hT _ wd_517) (fun _ h9 => h9) rfl dc_SB_putBytes_8 ?_
  refine lv_aload_n hx hb dc_SB_putBytes_11 rfl (lv_at hl 1 rfl) ?_
  refine va_get (D := (dC, dI)) (ci := 0) (v := .int 9) (C := "StrataBase") (T := tb_SB) (N := 13) hx hb hT in_SB hown hK hP 0 rfl rfl 1 (by decide) (hT _ wd_518) (fun _ h9 => h9) rfl dc_SB_putBytes_12 ?_
  refine lv_iload_n hx hb dc_SB_putBytes_15 rfl (lv_at hl 2 rfl) ?_
  refine lv_iload_n hx hb dc_SB_putBytes_16 rfl (lv_at hl 0 rfl) ?_
  refine lv_ishr hx hb dc_SB_putBytes_17 ?_
  refine lv_i2b (v := (x1 >>> ((16 : Int32) &&& 31)).toInt8.toInt32) hx hb dc_SB_putBytes_18 rfl ?_
  refine va_bast hx hb hK hP hD hS 1 0 rfl rfl (show vp_in (9 : Int32) 65536 from vp_in_nI (n := 9) (Nat.lt_of_lt_of_le (by decide : 9 < 10) (Nat.le_of_ble_eq_true rfl)) (Nat.lt_of_le_of_lt (Nat.le_of_ble_eq_true rfl) (by decide : 65536 < 2 ^ 31))) dc_SB_putBytes_19 (fun H locs hP hD hS => ?_)
  have hP : va_P (dC, dI) vwCl [(a1, .inr (0, [.ref a2, .int 9, .int 0, .ref a3, .ref a4, .ref a5, .ref a6, .ref a7, .ref a8, .ref a9, .ref a10, .int 0, .int 0])), (a2, .inl (k1, 65536, .inl (upd g1 (9 : Int32).toNatClampNeg (vp_nar .byte ((x1 >>> ((16 : Int32) &&& 31)).toInt8.toInt32)))))] H := hP
  have hD : va_D A [(a1, .inr (0, [.ref a2, .int 9, .int 0, .ref a3, .ref a4, .ref a5, .ref a6, .ref a7, .ref a8, .ref a9, .ref a10, .int 0, .int 0])), (a2, .inl (k1, 65536, .inl (upd g1 (9 : Int32).toNatClampNeg (vp_nar .byte ((x1 >>> ((16 : Int32) &&& 31)).toInt8.toInt32)))))] := hD
  generalize upd g1 (9 : Int32).toNatClampNeg (vp_nar .byte ((x1 >>> ((16 : Int32) &&& 31)).toInt8.toInt32)) = g4 at hP hD
  refine lv_aload_n hx hb dc_SB_putBytes_20 rfl (lv_at hl 1 rfl) ?_
  refine lv_dup hx hb dc_SB_putBytes_21 rfl ?_
  refine va_get (D := (dC, dI)) (ci := 0) (v := .int 9) (C := "StrataBase") (T := tb_SB) (N := 13) hx hb hT in_SB hown hK hP 0 rfl rfl 1 (by decide) (hT _ wd_518) (fun _ h9 => h9) rfl dc_SB_putBytes_22 ?_
  refine lv_iconst (v := 1) hx hb dc_SB_putBytes_25 (by decide) ?_
  refine lv_iadd hx hb dc_SB_putBytes_26 ?_
  refine lv_topi (fun y5 e6 => ?_)
  obtain rfl : y5 = 10 := e6.trans (by decide)
  refine va_put (D := (dC, dI)) (ci := 0) (v := .int 10) (ty := .int) (C := "StrataBase") (T := tb_SB) (N := 13) hx hb hT in_SB ty_SB tk_SB nm_SB hown hK hP hD hS 0 rfl rfl 1 (by decide) (hT _ wd_518) (fun _ h9 => h9) rfl (by decide +kernel) rfl rfl (Nat.le_of_ble_eq_true rfl) dc_SB_putBytes_27 (fun H locs hP hD hS => ?_)
  have hP : va_P (dC, dI) vwCl [(a1, .inr (0, [.ref a2, .int 10, .int 0, .ref a3, .ref a4, .ref a5, .ref a6, .ref a7, .ref a8, .ref a9, .ref a10, .int 0, .int 0])), (a2, .inl (k1, 65536, .inl g4))] H := hP
  have hD : va_D A [(a1, .inr (0, [.ref a2, .int 10, .int 0, .ref a3, .ref a4, .ref a5, .ref a6, .ref a7, .ref a8, .ref a9, .ref a10, .int 0, .int 0])), (a2, .inl (k1, 65536, .inl g4))] := hD
  refine lv_iinc (k := 0) (v := 8) (lv' := [(2, .int 8), (0, .ref a1), (1, .int x1)]) hx hb dc_SB_putBytes_30 hl rfl (by decide) (by decide) rfl (fun ls hl => ?_)
  refine lv_goto (tgt := 3) hx hb dc_SB_putBytes_33 (by decide) ?_
  refine lv_iload_n hx hb dc_SB_putBytes_3 rfl (lv_at hl 0 rfl) ?_
  refine lv_if_lt (tgt := 36) hx hb dc_SB_putBytes_4 (by decide) (fun h9 => absurd h9 (by decide)) (fun _ => ?_)
  refine lv_aload_n hx hb dc_SB_putBytes_7 rfl (lv_at hl 1 rfl) ?_
  refine va_get (D := (dC, dI)) (ci := 0) (v := .ref a2) (C := "StrataBase") (T := tb_SB) (N := 13) hx hb hT in_SB hown hK hP 0 rfl rfl 0 (by decide) (hT _ wd_517) (fun _ h9 => h9) rfl dc_SB_putBytes_8 ?_
  refine lv_aload_n hx hb dc_SB_putBytes_11 rfl (lv_at hl 1 rfl) ?_
  refine va_get (D := (dC, dI)) (ci := 0) (v := .int 10) (C := "StrataBase") (T := tb_SB) (N := 13) hx hb hT in_SB hown hK hP 0 rfl rfl 1 (by decide) (hT _ wd_518) (fun _ h9 => h9) rfl dc_SB_putBytes_12 ?_
  refine lv_iload_n hx hb dc_SB_putBytes_15 rfl (lv_at hl 2 rfl) ?_
  refine lv_iload_n hx hb dc_SB_putBytes_16 rfl (lv_at hl 0 rfl) ?_
  refine lv_ishr hx hb dc_SB_putBytes_17 ?_
  refine lv_i2b (v := (x1 >>> ((8 : Int32) &&& 31)).toInt8.toInt32) hx hb dc_SB_putBytes_18 rfl ?_
  refine va_bast hx hb hK hP hD hS 1 0 rfl rfl (show vp_in (10 : Int32) 65536 from vp_in_nI (n := 10) (Nat.lt_of_lt_of_le (by decide : 10 < 11) (Nat.le_of_ble_eq_true rfl)) (Nat.lt_of_le_of_lt (Nat.le_of_ble_eq_true rfl) (by decide : 65536 < 2 ^ 31))) dc_SB_putBytes_19 (fun H locs hP hD hS => ?_)
  have hP : va_P (dC, dI) vwCl [(a1, .inr (0, [.ref a2, .int 10, .int 0, .ref a3, .ref a4, .ref a5, .ref a6, .ref a7, .ref a8, .ref a9, .ref a10, .int 0, .int 0])), (a2, .inl (k1, 65536, .inl (upd g4 (10 : Int32).toNatClampNeg (vp_nar .byte ((x1 >>> ((8 : Int32) &&& 31)).toInt8.toInt32)))))] H := hP
  have hD : va_D A [(a1, .inr (0, [.ref a2, .int 10, .int 0, .ref a3, .ref a4, .ref a5, .ref a6, .ref a7, .ref a8, .ref a9, .ref a10, .int 0, .int 0])), (a2, .inl (k1, 65536, .inl (upd g4 (10 : Int32).toNatClampNeg (vp_nar .byte ((x1 >>> ((8 : Int32) &&& 31)).toInt8.toInt32)))))] := hD
  generalize upd g4 (10 : Int32).toNatClampNeg (vp_nar .byte ((x1 >>> ((8 : Int32) &&& 31)).toInt8.toInt32)) = g7 at hP hD
  refine lv_aload_n hx hb dc_SB_putBytes_20 rfl (lv_at hl 1 rfl) ?_
  refine lv_dup hx hb dc_SB_putBytes_21 rfl ?_
  refine va_get (D := (dC, dI)) (ci := 0) (v := .int 10) (C := "StrataBase") (T := tb_SB) (N := 13) hx hb hT in_SB hown hK hP 0 rfl rfl 1 (by decide) (hT _ wd_518) (fun _ h9 => h9) rfl dc_SB_putBytes_22 ?_
  refine lv_iconst (v := 1) hx hb dc_SB_putBytes_25 (by decide) ?_
  refine lv_iadd hx hb dc_SB_putBytes_26 ?_
  refine lv_topi (fun y8 e9 => ?_)
  obtain rfl : y8 = 11 := e9.trans (by decide)
  refine va_put (D := (dC, dI)) (ci := 0) (v := .int 11) (ty := .int) (C := "StrataBase") (T := tb_SB) (N := 13) hx hb hT in_SB ty_SB tk_SB nm_SB hown hK hP hD hS 0 rfl rfl 1 (by decide) (hT _ wd_518) (fun _ h9 => h9) rfl (by decide +kernel) rfl rfl (Nat.le_of_ble_eq_true rfl) dc_SB_putBytes_27 (fun H locs hP hD hS => ?_)
  have hP : va_P (dC, dI) vwCl [(a1, .inr (0, [.ref a2, .int 11, .int 0, .ref a3, .ref a4, .ref a5, .ref a6, .ref a7, .ref a8, .ref a9, .ref a10, .int 0, .int 0])), (a2, .inl (k1, 65536, .inl g7))] H := hP
  have hD : va_D A [(a1, .inr (0, [.ref a2, .int 11, .int 0, .ref a3, .ref a4, .ref a5, .ref a6, .ref a7, .ref a8, .ref a9, .ref a10, .int 0, .int 0])), (a2, .inl (k1, 65536, .inl g7))] := hD
  refine lv_iinc (k := 0) (v := 0) (lv' := [(2, .int 0), (0, .ref a1), (1, .int x1)]) hx hb dc_SB_putBytes_30 hl rfl (by decide) (by decide) rfl (fun ls hl => ?_)
  refine lv_goto (tgt := 3) hx hb dc_SB_putBytes_33 (by decide) ?_
  refine lv_iload_n hx hb dc_SB_putBytes_3 rfl (lv_at hl 0 rfl) ?_
  refine lv_if_lt (tgt := 36) hx hb dc_SB_putBytes_4 (by decide) (fun h9 => absurd h9 (by decide)) (fun _ => ?_)
  refine lv_aload_n hx hb dc_SB_putBytes_7 rfl (lv_at hl 1 rfl) ?_
  refine va_get (D := (dC, dI)) (ci := 0) (v := .ref a2) (C := "StrataBase") (T := tb_SB) (N := 13) hx hb hT in_SB hown hK hP 0 rfl rfl 0 (by decide) (hT _ wd_517) (fun _ h9 => h9) rfl dc_SB_putBytes_8 ?_
  refine lv_aload_n hx hb dc_SB_putBytes_11 rfl (lv_at hl 1 rfl) ?_
  refine va_get (D := (dC, dI)) (ci := 0) (v := .int 11) (C := "StrataBase") (T := tb_SB) (N := 13) hx hb hT in_SB hown hK hP 0 rfl rfl 1 (by decide) (hT _ wd_518) (fun _ h9 => h9) rfl dc_SB_putBytes_12 ?_
  refine lv_iload_n hx hb dc_SB_putBytes_15 rfl (lv_at hl 2 rfl) ?_
  refine lv_iload_n hx hb dc_SB_putBytes_16 rfl (lv_at hl 0 rfl) ?_
  refine lv_ishr hx hb dc_SB_putBytes_17 ?_
  refine lv_i2b (v := (x1 >>> ((0 : Int32) &&& 31)).toInt8.toInt32) hx hb dc_SB_putBytes_18 rfl ?_
  refine va_bast hx hb hK hP hD hS 1 0 rfl rfl (show vp_in (11 : Int32) 65536 from vp_in_nI (n := 11) (Nat.lt_of_lt_of_le (by decide : 11 < 12) (Nat.le_of_ble_eq_true rfl)) (Nat.lt_of_le_of_lt (Nat.le_of_ble_eq_true rfl) (by decide : 65536 < 2 ^ 31))) dc_SB_putBytes_19 (fun H locs hP hD hS => ?_)
  have hP : va_P (dC, dI) vwCl [(a1, .inr (0, [.ref a2, .int 11, .int 0, .ref a3, .ref a4, .ref a5, .ref a6, .ref a7, .ref a8, .ref a9, .ref a10, .int 0, .int 0])), (a2, .inl (k1, 65536, .inl (upd g7 (11 : Int32).toNatClampNeg (vp_nar .byte ((x1 >>> ((0 : Int32) &&& 31)).toInt8.toInt32)))))] H := hP
  have hD : va_D A [(a1, .inr (0, [.ref a2, .int 11, .int 0, .ref a3, .ref a4, .ref a5, .ref a6, .ref a7, .ref a8, .ref a9, .ref a10, .int 0, .int 0])), (a2, .inl (k1, 65536, .inl (upd g7 (11 : Int32).toNatClampNeg (vp_nar .byte ((x1 >>> ((0 : Int32) &&& 31)).toInt8.toInt32)))))] := hD
  generalize upd g7 (11 : Int32).toNatClampNeg (vp_nar .byte ((x1 >>> ((0 : Int32) &&& 31)).toInt8.toInt32)) = g10 at hP hD
  refine lv_aload_n hx hb dc_SB_putBytes_20 rfl (lv_at hl 1 rfl) ?_
  refine lv_dup hx hb dc_SB_putBytes_21 rfl ?_
  refine va_get (D := (dC, dI)) (ci := 0) (v := .int 11) (C := "StrataBase") (T := tb_SB) (N := 13) hx hb hT in_SB hown hK hP 0 rfl rfl 1 (by decide) (hT _ wd_518) (fun _ h9 => h9) rfl dc_SB_putBytes_22 ?_
  refine lv_iconst (v := 1) hx hb dc_SB_putBytes_25 (by decide) ?_
  refine lv_iadd hx hb dc_SB_putBytes_26 ?_
  refine lv_topi (fun y11 e12 => ?_)
  obtain rfl : y11 = 12 := e12.trans (by decide)
  refine va_put (D := (dC, dI)) (ci := 0) (v := .int 12) (ty := .int) (C := "StrataBase") (T := tb_SB) (N := 13) hx hb hT in_SB ty_SB tk_SB nm_SB hown hK hP hD hS 0 rfl rfl 1 (by decide) (hT _ wd_518) (fun _ h9 => h9) rfl (by decide +kernel) rfl rfl (Nat.le_of_ble_eq_true rfl) dc_SB_putBytes_27 (fun H locs hP hD hS => ?_)
  have hP : va_P (dC, dI) vwCl [(a1, .inr (0, [.ref a2, .int 12, .int 0, .ref a3, .ref a4, .ref a5, .ref a6, .ref a7, .ref a8, .ref a9, .ref a10, .int 0, .int 0])), (a2, .inl (k1, 65536, .inl g10))] H := hP
  have hD : va_D A [(a1, .inr (0, [.ref a2, .int 12, .int 0, .ref a3, .ref a4, .ref a5, .ref a6, .ref a7, .ref a8, .ref a9, .ref a10, .int 0, .int 0])), (a2, .inl (k1, 65536, .inl g10))] := hD
  refine lv_iinc (k := 0) (v := (-8)) (lv' := [(2, .int (-8)), (0, .ref a1), (1, .int x1)]) hx hb dc_SB_putBytes_30 hl rfl (by decide) (by decide) rfl (fun ls hl => ?_)
  refine lv_goto (tgt := 3) hx hb dc_SB_putBytes_33 (by decide) ?_
  refine lv_iload_n hx hb dc_SB_putBytes_3 rfl (lv_at hl 0 rfl) ?_
  refine lv_if_lt (tgt := 36) hx hb dc_SB_putBytes_4 (by decide) (fun _ => ?_) (fun h9 => absurd (by decide) h9)
  have hP9 := hP.sub (ws' := [(a1, .inr (0, [.ref a2, .int 12, .int 0, .ref a3, .ref a4, .ref a5, .ref a6, .ref a7, .ref a8, .ref a9, .ref a10, .int 0, .int 0])), (a2, .inl (k1, 65536, .inl g10))]) [0, 1] rfl
  have hD9 := hD.sub (ws' := [(a1, .inr (0, [.ref a2, .int 12, .int 0, .ref a3, .ref a4, .ref a5, .ref a6, .ref a7, .ref a8, .ref a9, .ref a10, .int 0, .int 0])), (a2, .inl (k1, 65536, .inl g10))]) [0, 1] (by decide) rfl
  have hK9 := hK.sub (tys' := [(k1, .byte)]) [0] rfl
  refine W.widen (k := 0) (n := 0) (Nat.le_of_ble_eq_true rfl) (Nat.le_of_ble_eq_true rfl) ?_
  exact W.vret hx hb hr (fun t ht hW => ⟨⟨(), rfl, trivial, g10, by rw [ht]; exact hP9, va_K.moved hW.alike hK9, hD9⟩, hS.F ht⟩) hS.2.2 dc_SB_putBytes_36

set_option maxHeartbeats 4000000 in
set_option maxRecDepth 100000 in
theorem c_SB_putBytes_4 (l : Launch) (dC : Nat → ClassId) (dI : Nat → Nat → Nat) (a1 : Nat) (a2 : Nat) (a3 : Nat) (a4 : Nat) (a5 : Nat) (a6 : Nat) (a7 : Nat) (a8 : Nat) (a9 : Nat) (a10 : Nat) (x1 : Int32) (f1 : Nat → Int32) (k1 : ClassId) (sz : Nat) : Met l my_SB_putBytes (Cond.code my_SB_putBytes cd_SB_putBytes 3 none :: tblG) ({ frames := 0, cells := 0, slots := 0, locals := 0 }) (va_Pc [.ref a1, .int x1] (fun U => U.heap.size = sz ∧ va_P (dC, dI) vwCl [(a1, .inr (0, [.ref a2, .int 12, .int 0, .ref a3, .ref a4, .ref a5, .ref a6, .ref a7, .ref a8, .ref a9, .ref a10, .int 0, .int 0])), (a2, .inl (k1, 65536, .inl f1))] U.heap ∧ va_K (dC, dI) vwCl [(k1, .byte)] U ∧ va_D (fun _ => True) [(a1, .inr (0, [.ref a2, .int 12, .int 0, .ref a3, .ref a4, .ref a5, .ref a6, .ref a7, .ref a8, .ref a9, .ref a10, .int 0, .int 0])), (a2, .inl (k1, 65536, .inl f1))])) (va_Qv (fun _ : Unit => True) (fun (_ : Unit) (t : State) => ∃ (g10 : Nat → Int32), va_P (dC, dI) vwCl [(a1, .inr (0, [.ref a2, .int 16, .int 0, .ref a3, .ref a4, .ref a5, .ref a6, .ref a7, .ref a8, .ref a9, .ref a10, .int 0, .int 0])), (a2, .inl (k1, 65536, .inl g10))] t.heap ∧ va_K (dC, dI) vwCl [(k1, .byte)] t ∧ va_D (va_A [(a1, .inr (0, [.ref a2, .int 12, .int 0, .ref a3, .ref a4, .ref a5, .ref a6, .ref a7, .ref a8, .ref a9, .ref a10, .int 0, .int 0])), (a2, .inl (k1, 65536, .inl f1))] sz) [(a1, .inr (0, [.ref a2, .int 16, .int 0, .ref a3, .ref a4, .ref a5, .ref a6, .ref a7, .ref a8, .ref a9, .ref a10, .int 0, .int 0])), (a2, .inl (k1, 65536, .inl g10))]) (va_A [(a1, .inr (0, [.ref a2, .int 12, .int 0, .ref a3, .ref a4, .ref a5, .ref a6, .ref a7, .ref a8, .ref a9, .ref a10, .int 0, .int 0])), (a2, .inl (k1, 65536, .inl f1))] sz)) 0 0 (va_A [(a1, .inr (0, [.ref a2, .int 12, .int 0, .ref a3, .ref a4, .ref a5, .ref a6, .ref a7, .ref a8, .ref a9, .ref a10, .int 0, .int 0])), (a2, .inl (k1, 65536, .inl f1))] sz) := by
  refine Met.ofW (cc := cd_SB_putBytes) (maxL := 3) (ret := none) (by decide) rfl ?_
  intro p e s m args below meth c s₁ B hml hv
  obtain ⟨rfl, hsz, hP, hK, hD0⟩ := hv
  have hx := B.exec
  have hb := B.bytes
  have hr := B.returns
  have hT : ∀ w ∈ tblG, w.before _ s = true := fun w h => atoms_spec (ws := (Cond.code my_SB_putBytes cd_SB_putBytes 3 none :: tblG)) B.pre w (List.mem_cons_of_mem _ h)
  have hown : s.vm.findClass "StrataBase" = some m.cls := findClass_of_methodNamed B.named
  have hlocks := B.notSynchronized
  subst hsz
  have hD := hD0.self (sz := s.heap.size)
  generalize hAe : va_A [(a1, .inr (0, [.ref a2, .int 12, .int 0, .ref a3, .ref a4, .ref a5, .ref a6, .ref a7, .ref a8, .ref a9, .ref a10, .int 0, .int 0])), (a2, .inl (k1, 65536, .inl f1))] s.heap.size = A at hD ⊢
  have hA : ∀ q : Nat, s.heap.size ≤ q → A q := fun q h => by rw [← hAe]; exact Or.inr h
  have hS : va_S A s.heap s.heap [] := va_S.rf
  have hl := lv_entry ([.ref a1, .int x1]) (n := 3) (Nat.le_of_ble_eq_true rfl)
  rw [lg_entry_eq]
  generalize (lg_sl ([.ref a1, .int x1]) ++ List.replicate (3 - (lg_sl ([.ref a1, .int x1])).length) Slot.unset).toArray = ls at hl ⊢
  have hl : lv_has ls 3 [(0, .ref a1), (1, .int x1)] := hl
  refine lv_bipush (v := 24) hx hb dc_SB_putBytes_0 (by decide) ?_
  refine lv_istore_n (lv' := [(2, .int 24), (0, .ref a1), (1, .int x1)]) hx hb dc_SB_putBytes_2 rfl hl (by decide) rfl (fun ls hl => ?_)
  refine lv_iload_n hx hb dc_SB_putBytes_3 rfl (lv_at hl 0 rfl) ?_
  refine lv_if_lt (tgt := 36) hx hb dc_SB_putBytes_4 (by decide) (fun h9 => absurd h9 (by decide)) (fun _ => ?_)
  refine lv_aload_n hx hb dc_SB_putBytes_7 rfl (lv_at hl 1 rfl) ?_
  refine va_get (D := (dC, dI)) (ci := 0) (v := .ref a2) (C := "StrataBase") (T := tb_SB) (N := 13) hx hb hT in_SB hown hK hP 0 rfl rfl 0 (by decide) (hT _ wd_517) (fun _ h9 => h9) rfl dc_SB_putBytes_8 ?_
  refine lv_aload_n hx hb dc_SB_putBytes_11 rfl (lv_at hl 1 rfl) ?_
  refine va_get (D := (dC, dI)) (ci := 0) (v := .int 12) (C := "StrataBase") (T := tb_SB) (N := 13) hx hb hT in_SB hown hK hP 0 rfl rfl 1 (by decide) (hT _ wd_518) (fun _ h9 => h9) rfl dc_SB_putBytes_12 ?_
  refine lv_iload_n hx hb dc_SB_putBytes_15 rfl (lv_at hl 2 rfl) ?_
  refine lv_iload_n hx hb dc_SB_putBytes_16 rfl (lv_at hl 0 rfl) ?_
  refine lv_ishr hx hb dc_SB_putBytes_17 ?_
  refine lv_i2b (v := (x1 >>> ((24 : Int32) &&& 31)).toInt8.toInt32) hx hb dc_SB_putBytes_18 rfl ?_
  refine va_bast hx hb hK hP hD hS 1 0 rfl rfl (show vp_in (12 : Int32) 65536 from vp_in_nI (n := 12) (Nat.lt_of_lt_of_le (by decide : 12 < 13) (Nat.le_of_ble_eq_true rfl)) (Nat.lt_of_le_of_lt (Nat.le_of_ble_eq_true rfl) (by decide : 65536 < 2 ^ 31))) dc_SB_putBytes_19 (fun H locs hP hD hS => ?_)
  have hP : va_P (dC, dI) vwCl [(a1, .inr (0, [.ref a2, .int 12, .int 0, .ref a3, .ref a4, .ref a5, .ref a6, .ref a7, .ref a8, .ref a9, .ref a10, .int 0, .int 0])), (a2, .inl (k1, 65536, .inl (upd f1 (12 : Int32).toNatClampNeg (vp_nar .byte ((x1 >>> ((24 : Int32) &&& 31)).toInt8.toInt32)))))] H := hP
  have hD : va_D A [(a1, .inr (0, [.ref a2, .int 12, .int 0, .ref a3, .ref a4, .ref a5, .ref a6, .ref a7, .ref a8, .ref a9, .ref a10, .int 0, .int 0])), (a2, .inl (k1, 65536, .inl (upd f1 (12 : Int32).toNatClampNeg (vp_nar .byte ((x1 >>> ((24 : Int32) &&& 31)).toInt8.toInt32)))))] := hD
  generalize upd f1 (12 : Int32).toNatClampNeg (vp_nar .byte ((x1 >>> ((24 : Int32) &&& 31)).toInt8.toInt32)) = g1 at hP hD
  refine lv_aload_n hx hb dc_SB_putBytes_20 rfl (lv_at hl 1 rfl) ?_
  refine lv_dup hx hb dc_SB_putBytes_21 rfl ?_
  refine va_get (D := (dC, dI)) (ci := 0) (v := .int 12) (C := "StrataBase") (T := tb_SB) (N := 13) hx hb hT in_SB hown hK hP 0 rfl rfl 1 (by decide) (hT _ wd_518) (fun _ h9 => h9) rfl dc_SB_putBytes_22 ?_
  refine lv_iconst (v := 1) hx hb dc_SB_putBytes_25 (by decide) ?_
  refine lv_iadd hx hb dc_SB_putBytes_26 ?_
  refine lv_topi (fun y2 e3 => ?_)
  obtain rfl : y2 = 13 := e3.trans (by decide)
  refine va_put (D := (dC, dI)) (ci := 0) (v := .int 13) (ty := .int) (C := "StrataBase") (T := tb_SB) (N := 13) hx hb hT in_SB ty_SB tk_SB nm_SB hown hK hP hD hS 0 rfl rfl 1 (by decide) (hT _ wd_518) (fun _ h9 => h9) rfl (by decide +kernel) rfl rfl (Nat.le_of_ble_eq_true rfl) dc_SB_putBytes_27 (fun H locs hP hD hS => ?_)
  have hP : va_P (dC, dI) vwCl [(a1, .inr (0, [.ref a2, .int 13, .int 0, .ref a3, .ref a4, .ref a5, .ref a6, .ref a7, .ref a8, .ref a9, .ref a10, .int 0, .int 0])), (a2, .inl (k1, 65536, .inl g1))] H := hP
  have hD : va_D A [(a1, .inr (0, [.ref a2, .int 13, .int 0, .ref a3, .ref a4, .ref a5, .ref a6, .ref a7, .ref a8, .ref a9, .ref a10, .int 0, .int 0])), (a2, .inl (k1, 65536, .inl g1))] := hD
  refine lv_iinc (k := 0) (v := 16) (lv' := [(2, .int 16), (0, .ref a1), (1, .int x1)]) hx hb dc_SB_putBytes_30 hl rfl (by decide) (by decide) rfl (fun ls hl => ?_)
  refine lv_goto (tgt := 3) hx hb dc_SB_putBytes_33 (by decide) ?_
  refine lv_iload_n hx hb dc_SB_putBytes_3 rfl (lv_at hl 0 rfl) ?_
  refine lv_if_lt (tgt := 36) hx hb dc_SB_putBytes_4 (by decide) (fun h9 => absurd h9 (by decide)) (fun _ => ?_)
  refine lv_aload_n hx hb dc_SB_putBytes_7 rfl (lv_at hl 1 rfl) ?_
  refine va_get (D := (dC, dI)) (ci := 0) (v := .ref a2) (C := "StrataBase") (T := tb_SB) (N := 13) hx hb hT in_SB hown hK hP 0 rfl rfl 0 (by decide) (hT _ wd_517) (fun _ h9 => h9) rfl dc_SB_putBytes_8 ?_
  refine lv_aload_n hx hb dc_SB_putBytes_11 rfl (lv_at hl 1 rfl) ?_
  refine va_get (D := (dC, dI)) (ci := 0) (v := .int 13) (C := "StrataBase") (T := tb_SB) (N := 13) hx hb hT in_SB hown hK hP 0 rfl rfl 1 (by decide) (hT _ wd_518) (fun _ h9 => h9) rfl dc_SB_putBytes_12 ?_
  refine lv_iload_n hx hb dc_SB_putBytes_15 rfl (lv_at hl 2 rfl) ?_
  refine lv_iload_n hx hb dc_SB_putBytes_16 rfl (lv_at hl 0 rfl) ?_
  refine lv_ishr hx hb dc_SB_putBytes_17 ?_
  refine lv_i2b (v := (x1 >>> ((16 : Int32) &&& 31)).toInt8.toInt32) hx hb dc_SB_putBytes_18 rfl ?_
  refine va_bast hx hb hK hP hD hS 1 0 rfl rfl (show vp_in (13 : Int32) 65536 from vp_in_nI (n := 13) (Nat.lt_of_lt_of_le (by decide : 13 < 14) (Nat.le_of_ble_eq_true rfl)) (Nat.lt_of_le_of_lt (Nat.le_of_ble_eq_true rfl) (by decide : 65536 < 2 ^ 31))) dc_SB_putBytes_19 (fun H locs hP hD hS => ?_)
  have hP : va_P (dC, dI) vwCl [(a1, .inr (0, [.ref a2, .int 13, .int 0, .ref a3, .ref a4, .ref a5, .ref a6, .ref a7, .ref a8, .ref a9, .ref a10, .int 0, .int 0])), (a2, .inl (k1, 65536, .inl (upd g1 (13 : Int32).toNatClampNeg (vp_nar .byte ((x1 >>> ((16 : Int32) &&& 31)).toInt8.toInt32)))))] H := hP
  have hD : va_D A [(a1, .inr (0, [.ref a2, .int 13, .int 0, .ref a3, .ref a4, .ref a5, .ref a6, .ref a7, .ref a8, .ref a9, .ref a10, .int 0, .int 0])), (a2, .inl (k1, 65536, .inl (upd g1 (13 : Int32).toNatClampNeg (vp_nar .byte ((x1 >>> ((16 : Int32) &&& 31)).toInt8.toInt32)))))] := hD
  generalize upd g1 (13 : Int32).toNatClampNeg (vp_nar .byte ((x1 >>> ((16 : Int32) &&& 31)).toInt8.toInt32)) = g4 at hP hD
  refine lv_aload_n hx hb dc_SB_putBytes_20 rfl (lv_at hl 1 rfl) ?_
  refine lv_dup hx hb dc_SB_putBytes_21 rfl ?_
  refine va_get (D := (dC, dI)) (ci := 0) (v := .int 13) (C := "StrataBase") (T := tb_SB) (N := 13) hx hb hT in_SB hown hK hP 0 rfl rfl 1 (by decide) (hT _ wd_518) (fun _ h9 => h9) rfl dc_SB_putBytes_22 ?_
  refine lv_iconst (v := 1) hx hb dc_SB_putBytes_25 (by decide) ?_
  refine lv_iadd hx hb dc_SB_putBytes_26 ?_
  refine lv_topi (fun y5 e6 => ?_)
  obtain rfl : y5 = 14 := e6.trans (by decide)
  refine va_put (D := (dC, dI)) (ci := 0) (v := .int 14) (ty := .int) (C := "StrataBase") (T := tb_SB) (N := 13) hx hb hT in_SB ty_SB tk_SB nm_SB hown hK hP hD hS 0 rfl rfl 1 (by decide) (hT _ wd_518) (fun _ h9 => h9) rfl (by decide +kernel) rfl rfl (Nat.le_of_ble_eq_true rfl) dc_SB_putBytes_27 (fun H locs hP hD hS => ?_)
  have hP : va_P (dC, dI) vwCl [(a1, .inr (0, [.ref a2, .int 14, .int 0, .ref a3, .ref a4, .ref a5, .ref a6, .ref a7, .ref a8, .ref a9, .ref a10, .int 0, .int 0])), (a2, .inl (k1, 65536, .inl g4))] H := hP
  have hD : va_D A [(a1, .inr (0, [.ref a2, .int 14, .int 0, .ref a3, .ref a4, .ref a5, .ref a6, .ref a7, .ref a8, .ref a9, .ref a10, .int 0, .int 0])), (a2, .inl (k1, 65536, .inl g4))] := hD
  refine lv_iinc (k := 0) (v := 8) (lv' := [(2, .int 8), (0, .ref a1), (1, .int x1)]) hx hb dc_SB_putBytes_30 hl rfl (by decide) (by decide) rfl (fun ls hl => ?_)
  refine lv_goto (tgt := 3) hx hb dc_SB_putBytes_33 (by decide) ?_
  refine lv_iload_n hx hb dc_SB_putBytes_3 rfl (lv_at hl 0 rfl) ?_
  refine lv_if_lt (tgt := 36) hx hb dc_SB_putBytes_4 (by decide) (fun h9 => absurd h9 (by decide)) (fun _ => ?_)
  refine lv_aload_n hx hb dc_SB_putBytes_7 rfl (lv_at hl 1 rfl) ?_
  refine va_get (D := (dC, dI)) (ci := 0) (v := .ref a2) (C := "StrataBase") (T := tb_SB) (N := 13) hx hb hT in_SB hown hK hP 0 rfl rfl 0 (by decide) (hT _ wd_517) (fun _ h9 => h9) rfl dc_SB_putBytes_8 ?_
  refine lv_aload_n hx hb dc_SB_putBytes_11 rfl (lv_at hl 1 rfl) ?_
  refine va_get (D := (dC, dI)) (ci := 0) (v := .int 14) (C := "StrataBase") (T := tb_SB) (N := 13) hx hb hT in_SB hown hK hP 0 rfl rfl 1 (by decide) (hT _ wd_518) (fun _ h9 => h9) rfl dc_SB_putBytes_12 ?_
  refine lv_iload_n hx hb dc_SB_putBytes_15 rfl (lv_at hl 2 rfl) ?_
  refine lv_iload_n hx hb dc_SB_putBytes_16 rfl (lv_at hl 0 rfl) ?_
  refine lv_ishr hx hb dc_SB_putBytes_17 ?_
  refine lv_i2b (v := (x1 >>> ((8 : Int32) &&& 31)).toInt8.toInt32) hx hb dc_SB_putBytes_18 rfl ?_
  refine va_bast hx hb hK hP hD hS 1 0 rfl rfl (show vp_in (14 : Int32) 65536 from vp_in_nI (n := 14) (Nat.lt_of_lt_of_le (by decide : 14 < 15) (Nat.le_of_ble_eq_true rfl)) (Nat.lt_of_le_of_lt (Nat.le_of_ble_eq_true rfl) (by decide : 65536 < 2 ^ 31))) dc_SB_putBytes_19 (fun H locs hP hD hS => ?_)
  have hP : va_P (dC, dI) vwCl [(a1, .inr (0, [.ref a2, .int 14, .int 0, .ref a3, .ref a4, .ref a5, .ref a6, .ref a7, .ref a8, .ref a9, .ref a10, .int 0, .int 0])), (a2, .inl (k1, 65536, .inl (upd g4 (14 : Int32).toNatClampNeg (vp_nar .byte ((x1 >>> ((8 : Int32) &&& 31)).toInt8.toInt32)))))] H := hP
  have hD : va_D A [(a1, .inr (0, [.ref a2, .int 14, .int 0, .ref a3, .ref a4, .ref a5, .ref a6, .ref a7, .ref a8, .ref a9, .ref a10, .int 0, .int 0])), (a2, .inl (k1, 65536, .inl (upd g4 (14 : Int32).toNatClampNeg (vp_nar .byte ((x1 >>> ((8 : Int32) &&& 31)).toInt8.toInt32)))))] := hD
  generalize upd g4 (14 : Int32).toNatClampNeg (vp_nar .byte ((x1 >>> ((8 : Int32) &&& 31)).toInt8.toInt32)) = g7 at hP hD
  refine lv_aload_n hx hb dc_SB_putBytes_20 rfl (lv_at hl 1 rfl) ?_
  refine lv_dup hx hb dc_SB_putBytes_21 rfl ?_
  refine va_get (D := (dC, dI)) (ci := 0) (v := .int 14) (C := "StrataBase") (T := tb_SB) (N := 13) hx hb hT in_SB hown hK hP 0 rfl rfl 1 (by decide) (hT _ wd_518) (fun _ h9 => h9) rfl dc_SB_putBytes_22 ?_
  refine lv_iconst (v := 1) hx hb dc_SB_putBytes_25 (by decide) ?_
  refine lv_iadd hx hb dc_SB_putBytes_26 ?_
  refine lv_topi (fun y8 e9 => ?_)
  obtain rfl : y8 = 15 := e9.trans (by decide)
  refine va_put (D := (dC, dI)) (ci := 0) (v := .int 15) (ty := .int) (C := "StrataBase") (T := tb_SB) (N := 13) hx hb hT in_SB ty_SB tk_SB nm_SB hown hK hP hD hS 0 rfl rfl 1 (by decide) (hT _ wd_518) (fun _ h9 => h9) rfl (by decide +kernel) rfl rfl (Nat.le_of_ble_eq_true rfl) dc_SB_putBytes_27 (fun H locs hP hD hS => ?_)
  have hP : va_P (dC, dI) vwCl [(a1, .inr (0, [.ref a2, .int 15, .int 0, .ref a3, .ref a4, .ref a5, .ref a6, .ref a7, .ref a8, .ref a9, .ref a10, .int 0, .int 0])), (a2, .inl (k1, 65536, .inl g7))] H := hP
  have hD : va_D A [(a1, .inr (0, [.ref a2, .int 15, .int 0, .ref a3, .ref a4, .ref a5, .ref a6, .ref a7, .ref a8, .ref a9, .ref a10, .int 0, .int 0])), (a2, .inl (k1, 65536, .inl g7))] := hD
  refine lv_iinc (k := 0) (v := 0) (lv' := [(2, .int 0), (0, .ref a1), (1, .int x1)]) hx hb dc_SB_putBytes_30 hl rfl (by decide) (by decide) rfl (fun ls hl => ?_)
  refine lv_goto (tgt := 3) hx hb dc_SB_putBytes_33 (by decide) ?_
  refine lv_iload_n hx hb dc_SB_putBytes_3 rfl (lv_at hl 0 rfl) ?_
  refine lv_if_lt (tgt := 36) hx hb dc_SB_putBytes_4 (by decide) (fun h9 => absurd h9 (by decide)) (fun _ => ?_)
  refine lv_aload_n hx hb dc_SB_putBytes_7 rfl (lv_at hl 1 rfl) ?_
  refine va_get (D := (dC, dI)) (ci := 0) (v := .ref a2) (C := "StrataBase") (T := tb_SB) (N := 13) hx hb hT in_SB hown hK hP 0 rfl rfl 0 (by decide) (hT _ wd_517) (fun _ h9 => h9) rfl dc_SB_putBytes_8 ?_
  refine lv_aload_n hx hb dc_SB_putBytes_11 rfl (lv_at hl 1 rfl) ?_
  refine va_get (D := (dC, dI)) (ci := 0) (v := .int 15) (C := "StrataBase") (T := tb_SB) (N := 13) hx hb hT in_SB hown hK hP 0 rfl rfl 1 (by decide) (hT _ wd_518) (fun _ h9 => h9) rfl dc_SB_putBytes_12 ?_
  refine lv_iload_n hx hb dc_SB_putBytes_15 rfl (lv_at hl 2 rfl) ?_
  refine lv_iload_n hx hb dc_SB_putBytes_16 rfl (lv_at hl 0 rfl) ?_
  refine lv_ishr hx hb dc_SB_putBytes_17 ?_
  refine lv_i2b (v := (x1 >>> ((0 : Int32) &&& 31)).toInt8.toInt32) hx hb dc_SB_putBytes_18 rfl ?_
  refine va_bast hx hb hK hP hD hS 1 0 rfl rfl (show vp_in (15 : Int32) 65536 from vp_in_nI (n := 15) (Nat.lt_of_lt_of_le (by decide : 15 < 16) (Nat.le_of_ble_eq_true rfl)) (Nat.lt_of_le_of_lt (Nat.le_of_ble_eq_true rfl) (by decide : 65536 < 2 ^ 31))) dc_SB_putBytes_19 (fun H locs hP hD hS => ?_)
  have hP : va_P (dC, dI) vwCl [(a1, .inr (0, [.ref a2, .int 15, .int 0, .ref a3, .ref a4, .ref a5, .ref a6, .ref a7, .ref a8, .ref a9, .ref a10, .int 0, .int 0])), (a2, .inl (k1, 65536, .inl (upd g7 (15 : Int32).toNatClampNeg (vp_nar .byte ((x1 >>> ((0 : Int32) &&& 31)).toInt8.toInt32)))))] H := hP
  have hD : va_D A [(a1, .inr (0, [.ref a2, .int 15, .int 0, .ref a3, .ref a4, .ref a5, .ref a6, .ref a7, .ref a8, .ref a9, .ref a10, .int 0, .int 0])), (a2, .inl (k1, 65536, .inl (upd g7 (15 : Int32).toNatClampNeg (vp_nar .byte ((x1 >>> ((0 : Int32) &&& 31)).toInt8.toInt32)))))] := hD
  generalize upd g7 (15 : Int32).toNatClampNeg (vp_nar .byte ((x1 >>> ((0 : Int32) &&& 31)).toInt8.toInt32)) = g10 at hP hD
  refine lv_aload_n hx hb dc_SB_putBytes_20 rfl (lv_at hl 1 rfl) ?_
  refine lv_dup hx hb dc_SB_putBytes_21 rfl ?_
  refine va_get (D := (dC, dI)) (ci := 0) (v := .int 15) (C := "StrataBase") (T := tb_SB) (N := 13) hx hb hT in_SB hown hK hP 0 rfl rfl 1 (by decide) (hT _ wd_518) (fun _ h9 => h9) rfl dc_SB_putBytes_22 ?_
  refine lv_iconst (v := 1) hx hb dc_SB_putBytes_25 (by decide) ?_
  refine lv_iadd hx hb dc_SB_putBytes_26 ?_
  refine lv_topi (fun y11 e12 => ?_)
  obtain rfl : y11 = 16 := e12.trans (by decide)
  refine va_put (D := (dC, dI)) (ci := 0) (v := .int 16) (ty := .int) (C := "StrataBase") (T := tb_SB) (N := 13) hx hb hT in_SB ty_SB tk_SB nm_SB hown hK hP hD hS 0 rfl rfl 1 (by decide) (hT _ wd_518) (fun _ h9 => h9) rfl (by decide +kernel) rfl rfl (Nat.le_of_ble_eq_true rfl) dc_SB_putBytes_27 (fun H locs hP hD hS => ?_)
  have hP : va_P (dC, dI) vwCl [(a1, .inr (0, [.ref a2, .int 16, .int 0, .ref a3, .ref a4, .ref a5, .ref a6, .ref a7, .ref a8, .ref a9, .ref a10, .int 0, .int 0])), (a2, .inl (k1, 65536, .inl g10))] H := hP
  have hD : va_D A [(a1, .inr (0, [.ref a2, .int 16, .int 0, .ref a3, .ref a4, .ref a5, .ref a6, .ref a7, .ref a8, .ref a9, .ref a10, .int 0, .int 0])), (a2, .inl (k1, 65536, .inl g10))] := hD
  refine lv_iinc (k := 0) (v := (-8)) (lv' := [(2, .int (-8)), (0, .ref a1), (1, .int x1)]) hx hb dc_SB_putBytes_30 hl rfl (by decide) (by decide) rfl (fun ls hl => ?_)
  refine lv_goto (tgt := 3) hx hb dc_SB_putBytes_33 (by decide) ?_
  refine lv_iload_n hx hb dc_SB_putBytes_3 rfl (lv_at hl 0 rfl) ?_
  refine lv_if_lt (tgt := 36) hx hb dc_SB_putBytes_4 (by decide) (fun _ => ?_) (fun h9 => absurd (by decide) h9)
  have hP9 := hP.sub (ws' := [(a1, .inr (0, [.ref a2, .int 16, .int 0, .ref a3, .ref a4, .ref a5, .ref a6, .ref a7, .ref a8, .ref a9, .ref a10, .int 0, .int 0])), (a2, .inl (k1, 65536, .inl g10))]) [0, 1] rfl
  have hD9 := hD.sub (ws' := [(a1, .inr (0, [.ref a2, .int 16, .int 0, .ref a3, .ref a4, .ref a5, .ref a6, .ref a7, .ref a8, .ref a9, .ref a10, .int 0, .int 0])), (a2, .inl (k1, 65536, .inl g10))]) [0, 1] (by decide) rfl
  have hK9 := hK.sub (tys' := [(k1, .byte)]) [0] rfl
  refine W.widen (k := 0) (n := 0) (Nat.le_of_ble_eq_true rfl) (Nat.le_of_ble_eq_true rfl) ?_
  exact W.vret hx hb hr (fun t ht hW => ⟨⟨(), rfl, trivial, g10, by rw [ht]; exact hP9, va_K.moved hW.alike hK9, hD9⟩, hS.F ht⟩) hS.2.2 dc_SB_putBytes_36

set_option maxHeartbeats 4000000 in
set_option maxRecDepth 100000 in
theorem c_SB_putBytes_5 (l : Launch) (dC : Nat → ClassId) (dI : Nat → Nat → Nat) (a1 : Nat) (a2 : Nat) (a3 : Nat) (a4 : Nat) (a5 : Nat) (a6 : Nat) (a7 : Nat) (a8 : Nat) (a9 : Nat) (a10 : Nat) (x1 : Int32) (f1 : Nat → Int32) (k1 : ClassId) (sz : Nat) : Met l my_SB_putBytes (Cond.code my_SB_putBytes cd_SB_putBytes 3 none :: tblG) ({ frames := 0, cells := 0, slots := 0, locals := 0 }) (va_Pc [.ref a1, .int x1] (fun U => U.heap.size = sz ∧ va_P (dC, dI) vwCl [(a1, .inr (0, [.ref a2, .int 16, .int 0, .ref a3, .ref a4, .ref a5, .ref a6, .ref a7, .ref a8, .ref a9, .ref a10, .int 0, .int 0])), (a2, .inl (k1, 65536, .inl f1))] U.heap ∧ va_K (dC, dI) vwCl [(k1, .byte)] U ∧ va_D (fun _ => True) [(a1, .inr (0, [.ref a2, .int 16, .int 0, .ref a3, .ref a4, .ref a5, .ref a6, .ref a7, .ref a8, .ref a9, .ref a10, .int 0, .int 0])), (a2, .inl (k1, 65536, .inl f1))])) (va_Qv (fun _ : Unit => True) (fun (_ : Unit) (t : State) => ∃ (g10 : Nat → Int32), va_P (dC, dI) vwCl [(a1, .inr (0, [.ref a2, .int 20, .int 0, .ref a3, .ref a4, .ref a5, .ref a6, .ref a7, .ref a8, .ref a9, .ref a10, .int 0, .int 0])), (a2, .inl (k1, 65536, .inl g10))] t.heap ∧ va_K (dC, dI) vwCl [(k1, .byte)] t ∧ va_D (va_A [(a1, .inr (0, [.ref a2, .int 16, .int 0, .ref a3, .ref a4, .ref a5, .ref a6, .ref a7, .ref a8, .ref a9, .ref a10, .int 0, .int 0])), (a2, .inl (k1, 65536, .inl f1))] sz) [(a1, .inr (0, [.ref a2, .int 20, .int 0, .ref a3, .ref a4, .ref a5, .ref a6, .ref a7, .ref a8, .ref a9, .ref a10, .int 0, .int 0])), (a2, .inl (k1, 65536, .inl g10))]) (va_A [(a1, .inr (0, [.ref a2, .int 16, .int 0, .ref a3, .ref a4, .ref a5, .ref a6, .ref a7, .ref a8, .ref a9, .ref a10, .int 0, .int 0])), (a2, .inl (k1, 65536, .inl f1))] sz)) 0 0 (va_A [(a1, .inr (0, [.ref a2, .int 16, .int 0, .ref a3, .ref a4, .ref a5, .ref a6, .ref a7, .ref a8, .ref a9, .ref a10, .int 0, .int 0])), (a2, .inl (k1, 65536, .inl f1))] sz) := by
  refine Met.ofW (cc := cd_SB_putBytes) (maxL := 3) (ret := none) (by decide) rfl ?_
  intro p e s m args below meth c s₁ B hml hv
  obtain ⟨rfl, hsz, hP, hK, hD0⟩ := hv
  have hx := B.exec
  have hb := B.bytes
  have hr := B.returns
  have hT : ∀ w ∈ tblG, w.before _ s = true := fun w h => atoms_spec (ws := (Cond.code my_SB_putBytes cd_SB_putBytes 3 none :: tblG)) B.pre w (List.mem_cons_of_mem _ h)
  have hown : s.vm.findClass "StrataBase" = some m.cls := findClass_of_methodNamed B.named
  have hlocks := B.notSynchronized
  subst hsz
  have hD := hD0.self (sz := s.heap.size)
  generalize hAe : va_A [(a1, .inr (0, [.ref a2, .int 16, .int 0, .ref a3, .ref a4, .ref a5, .ref a6, .ref a7, .ref a8, .ref a9, .ref a10, .int 0, .int 0])), (a2, .inl (k1, 65536, .inl f1))] s.heap.size = A at hD ⊢
  have hA : ∀ q : Nat, s.heap.size ≤ q → A q := fun q h => by rw [← hAe]; exact Or.inr h
  have hS : va_S A s.heap s.heap [] := va_S.rf
  have hl := lv_entry ([.ref a1, .int x1]) (n := 3) (Nat.le_of_ble_eq_true rfl)
  rw [lg_entry_eq]
  generalize (lg_sl ([.ref a1, .int x1]) ++ List.replicate (3 - (lg_sl ([.ref a1, .int x1])).length) Slot.unset).toArray = ls at hl ⊢
  have hl : lv_has ls 3 [(0, .ref a1), (1, .int x1)] := hl
  refine lv_bipush (v := 24) hx hb dc_SB_putBytes_0 (by decide) ?_
  refine lv_istore_n (lv' := [(2, .int 24), (0, .ref a1), (1, .int x1)]) hx hb dc_SB_putBytes_2 rfl hl (by decide) rfl (fun ls hl => ?_)
  refine lv_iload_n hx hb dc_SB_putBytes_3 rfl (lv_at hl 0 rfl) ?_
  refine lv_if_lt (tgt := 36) hx hb dc_SB_putBytes_4 (by decide) (fun h9 => absurd h9 (by decide)) (fun _ => ?_)
  refine lv_aload_n hx hb dc_SB_putBytes_7 rfl (lv_at hl 1 rfl) ?_
  refine va_get (D := (dC, dI)) (ci := 0) (v := .ref a2) (C := "StrataBase") (T := tb_SB) (N := 13) hx hb hT in_SB hown hK hP 0 rfl rfl 0 (by decide) (hT _ wd_517) (fun _ h9 => h9) rfl dc_SB_putBytes_8 ?_
  refine lv_aload_n hx hb dc_SB_putBytes_11 rfl (lv_at hl 1 rfl) ?_
  refine va_get (D := (dC, dI)) (ci := 0) (v := .int 16) (C := "StrataBase") (T := tb_SB) (N := 13) hx hb hT in_SB hown hK hP 0 rfl rfl 1 (by decide) (hT _ wd_518) (fun _ h9 => h9) rfl dc_SB_putBytes_12 ?_
  refine lv_iload_n hx hb dc_SB_putBytes_15 rfl (lv_at hl 2 rfl) ?_
  refine lv_iload_n hx hb dc_SB_putBytes_16 rfl (lv_at hl 0 rfl) ?_
  refine lv_ishr hx hb dc_SB_putBytes_17 ?_
  refine lv_i2b (v := (x1 >>> ((24 : Int32) &&& 31)).toInt8.toInt32) hx hb dc_SB_putBytes_18 rfl ?_
  refine va_bast hx hb hK hP hD hS 1 0 rfl rfl (show vp_in (16 : Int32) 65536 from vp_in_nI (n := 16) (Nat.lt_of_lt_of_le (by decide : 16 < 17) (Nat.le_of_ble_eq_true rfl)) (Nat.lt_of_le_of_lt (Nat.le_of_ble_eq_true rfl) (by decide : 65536 < 2 ^ 31))) dc_SB_putBytes_19 (fun H locs hP hD hS => ?_)
  have hP : va_P (dC, dI) vwCl [(a1, .inr (0, [.ref a2, .int 16, .int 0, .ref a3, .ref a4, .ref a5, .ref a6, .ref a7, .ref a8, .ref a9, .ref a10, .int 0, .int 0])), (a2, .inl (k1, 65536, .inl (upd f1 (16 : Int32).toNatClampNeg (vp_nar .byte ((x1 >>> ((24 : Int32) &&& 31)).toInt8.toInt32)))))] H := hP
  have hD : va_D A [(a1, .inr (0, [.ref a2, .int 16, .int 0, .ref a3, .ref a4, .ref a5, .ref a6, .ref a7, .ref a8, .ref a9, .ref a10, .int 0, .int 0])), (a2, .inl (k1, 65536, .inl (upd f1 (16 : Int32).toNatClampNeg (vp_nar .byte ((x1 >>> ((24 : Int32) &&& 31)).toInt8.toInt32)))))] := hD
  generalize upd f1 (16 : Int32).toNatClampNeg (vp_nar .byte ((x1 >>> ((24 : Int32) &&& 31)).toInt8.toInt32)) = g1 at hP hD
  refine lv_aload_n hx hb dc_SB_putBytes_20 rfl (lv_at hl 1 rfl) ?_
  refine lv_dup hx hb dc_SB_putBytes_21 rfl ?_
  refine va_get (D := (dC, dI)) (ci := 0) (v := .int 16) (C := "StrataBase") (T := tb_SB) (N := 13) hx hb hT in_SB hown hK hP 0 rfl rfl 1 (by decide) (hT _ wd_518) (fun _ h9 => h9) rfl dc_SB_putBytes_22 ?_
  refine lv_iconst (v := 1) hx hb dc_SB_putBytes_25 (by decide) ?_
  refine lv_iadd hx hb dc_SB_putBytes_26 ?_
  refine lv_topi (fun y2 e3 => ?_)
  obtain rfl : y2 = 17 := e3.trans (by decide)
  refine va_put (D := (dC, dI)) (ci := 0) (v := .int 17) (ty := .int) (C := "StrataBase") (T := tb_SB) (N := 13) hx hb hT in_SB ty_SB tk_SB nm_SB hown hK hP hD hS 0 rfl rfl 1 (by decide) (hT _ wd_518) (fun _ h9 => h9) rfl (by decide +kernel) rfl rfl (Nat.le_of_ble_eq_true rfl) dc_SB_putBytes_27 (fun H locs hP hD hS => ?_)
  have hP : va_P (dC, dI) vwCl [(a1, .inr (0, [.ref a2, .int 17, .int 0, .ref a3, .ref a4, .ref a5, .ref a6, .ref a7, .ref a8, .ref a9, .ref a10, .int 0, .int 0])), (a2, .inl (k1, 65536, .inl g1))] H := hP
  have hD : va_D A [(a1, .inr (0, [.ref a2, .int 17, .int 0, .ref a3, .ref a4, .ref a5, .ref a6, .ref a7, .ref a8, .ref a9, .ref a10, .int 0, .int 0])), (a2, .inl (k1, 65536, .inl g1))] := hD
  refine lv_iinc (k := 0) (v := 16) (lv' := [(2, .int 16), (0, .ref a1), (1, .int x1)]) hx hb dc_SB_putBytes_30 hl rfl (by decide) (by decide) rfl (fun ls hl => ?_)
  refine lv_goto (tgt := 3) hx hb dc_SB_putBytes_33 (by decide) ?_
  refine lv_iload_n hx hb dc_SB_putBytes_3 rfl (lv_at hl 0 rfl) ?_
  refine lv_if_lt (tgt := 36) hx hb dc_SB_putBytes_4 (by decide) (fun h9 => absurd h9 (by decide)) (fun _ => ?_)
  refine lv_aload_n hx hb dc_SB_putBytes_7 rfl (lv_at hl 1 rfl) ?_
  refine va_get (D := (dC, dI)) (ci := 0) (v := .ref a2) (C := "StrataBase") (T := tb_SB) (N := 13) hx hb hT in_SB hown hK hP 0 rfl rfl 0 (by decide) (hT _ wd_517) (fun _ h9 => h9) rfl dc_SB_putBytes_8 ?_
  refine lv_aload_n hx hb dc_SB_putBytes_11 rfl (lv_at hl 1 rfl) ?_
  refine va_get (D := (dC, dI)) (ci := 0) (v := .int 17) (C := "StrataBase") (T := tb_SB) (N := 13) hx hb hT in_SB hown hK hP 0 rfl rfl 1 (by decide) (hT _ wd_518) (fun _ h9 => h9) rfl dc_SB_putBytes_12 ?_
  refine lv_iload_n hx hb dc_SB_putBytes_15 rfl (lv_at hl 2 rfl) ?_
  refine lv_iload_n hx hb dc_SB_putBytes_16 rfl (lv_at hl 0 rfl) ?_
  refine lv_ishr hx hb dc_SB_putBytes_17 ?_
  refine lv_i2b (v := (x1 >>> ((16 : Int32) &&& 31)).toInt8.toInt32) hx hb dc_SB_putBytes_18 rfl ?_
  refine va_bast hx hb hK hP hD hS 1 0 rfl rfl (show vp_in (17 : Int32) 65536 from vp_in_nI (n := 17) (Nat.lt_of_lt_of_le (by decide : 17 < 18) (Nat.le_of_ble_eq_true rfl)) (Nat.lt_of_le_of_lt (Nat.le_of_ble_eq_true rfl) (by decide : 65536 < 2 ^ 31))) dc_SB_putBytes_19 (fun H locs hP hD hS => ?_)
  have hP : va_P (dC, dI) vwCl [(a1, .inr (0, [.ref a2, .int 17, .int 0, .ref a3, .ref a4, .ref a5, .ref a6, .ref a7, .ref a8, .ref a9, .ref a10, .int 0, .int 0])), (a2, .inl (k1, 65536, .inl (upd g1 (17 : Int32).toNatClampNeg (vp_nar .byte ((x1 >>> ((16 : Int32) &&& 31)).toInt8.toInt32)))))] H := hP
  have hD : va_D A [(a1, .inr (0, [.ref a2, .int 17, .int 0, .ref a3, .ref a4, .ref a5, .ref a6, .ref a7, .ref a8, .ref a9, .ref a10, .int 0, .int 0])), (a2, .inl (k1, 65536, .inl (upd g1 (17 : Int32).toNatClampNeg (vp_nar .byte ((x1 >>> ((16 : Int32) &&& 31)).toInt8.toInt32)))))] := hD
  generalize upd g1 (17 : Int32).toNatClampNeg (vp_nar .byte ((x1 >>> ((16 : Int32) &&& 31)).toInt8.toInt32)) = g4 at hP hD
  refine lv_aload_n hx hb dc_SB_putBytes_20 rfl (lv_at hl 1 rfl) ?_
  refine lv_dup hx hb dc_SB_putBytes_21 rfl ?_
  refine va_get (D := (dC, dI)) (ci := 0) (v := .int 17) (C := "StrataBase") (T := tb_SB) (N := 13) hx hb hT in_SB hown hK hP 0 rfl rfl 1 (by decide) (hT _ wd_518) (fun _ h9 => h9) rfl dc_SB_putBytes_22 ?_
  refine lv_iconst (v := 1) hx hb dc_SB_putBytes_25 (by decide) ?_
  refine lv_iadd hx hb dc_SB_putBytes_26 ?_
  refine lv_topi (fun y5 e6 => ?_)
  obtain rfl : y5 = 18 := e6.trans (by decide)
  refine va_put (D := (dC, dI)) (ci := 0) (v := .int 18) (ty := .int) (C := "StrataBase") (T := tb_SB) (N := 13) hx hb hT in_SB ty_SB tk_SB nm_SB hown hK hP hD hS 0 rfl rfl 1 (by decide) (hT _ wd_518) (fun _ h9 => h9) rfl (by decide +kernel) rfl rfl (Nat.le_of_ble_eq_true rfl) dc_SB_putBytes_27 (fun H locs hP hD hS => ?_)
  have hP : va_P (dC, dI) vwCl [(a1, .inr (0, [.ref a2, .int 18, .int 0, .ref a3, .ref a4, .ref a5, .ref a6, .ref a7, .ref a8, .ref a9, .ref a10, .int 0, .int 0])), (a2, .inl (k1, 65536, .inl g4))] H := hP
  have hD : va_D A [(a1, .inr (0, [.ref a2, .int 18, .int 0, .ref a3, .ref a4, .ref a5, .ref a6, .ref a7, .ref a8, .ref a9, .ref a10, .int 0, .int 0])), (a2, .inl (k1, 65536, .inl g4))] := hD
  refine lv_iinc (k := 0) (v := 8) (lv' := [(2, .int 8), (0, .ref a1), (1, .int x1)]) hx hb dc_SB_putBytes_30 hl rfl (by decide) (by decide) rfl (fun ls hl => ?_)
  refine lv_goto (tgt := 3) hx hb dc_SB_putBytes_33 (by decide) ?_
  refine lv_iload_n hx hb dc_SB_putBytes_3 rfl (lv_at hl 0 rfl) ?_
  refine lv_if_lt (tgt := 36) hx hb dc_SB_putBytes_4 (by decide) (fun h9 => absurd h9 (by decide)) (fun _ => ?_)
  refine lv_aload_n hx hb dc_SB_putBytes_7 rfl (lv_at hl 1 rfl) ?_
  refine va_get (D := (dC, dI)) (ci := 0) (v := .ref a2) (C := "StrataBase") (T := tb_SB) (N := 13) hx hb hT in_SB hown hK hP 0 rfl rfl 0 (by decide) (hT _ wd_517) (fun _ h9 => h9) rfl dc_SB_putBytes_8 ?_
  refine lv_aload_n hx hb dc_SB_putBytes_11 rfl (lv_at hl 1 rfl) ?_
  refine va_get (D := (dC, dI)) (ci := 0) (v := .int 18) (C := "StrataBase") (T := tb_SB) (N := 13) hx hb hT in_SB hown hK hP 0 rfl rfl 1 (by decide) (hT _ wd_518) (fun _ h9 => h9) rfl dc_SB_putBytes_12 ?_
  refine lv_iload_n hx hb dc_SB_putBytes_15 rfl (lv_at hl 2 rfl) ?_
  refine lv_iload_n hx hb dc_SB_putBytes_16 rfl (lv_at hl 0 rfl) ?_
  refine lv_ishr hx hb dc_SB_putBytes_17 ?_
  refine lv_i2b (v := (x1 >>> ((8 : Int32) &&& 31)).toInt8.toInt32) hx hb dc_SB_putBytes_18 rfl ?_
  refine va_bast hx hb hK hP hD hS 1 0 rfl rfl (show vp_in (18 : Int32) 65536 from vp_in_nI (n := 18) (Nat.lt_of_lt_of_le (by decide : 18 < 19) (Nat.le_of_ble_eq_true rfl)) (Nat.lt_of_le_of_lt (Nat.le_of_ble_eq_true rfl) (by decide : 65536 < 2 ^ 31))) dc_SB_putBytes_19 (fun H locs hP hD hS => ?_)
  have hP : va_P (dC, dI) vwCl [(a1, .inr (0, [.ref a2, .int 18, .int 0, .ref a3, .ref a4, .ref a5, .ref a6, .ref a7, .ref a8, .ref a9, .ref a10, .int 0, .int 0])), (a2, .inl (k1, 65536, .inl (upd g4 (18 : Int32).toNatClampNeg (vp_nar .byte ((x1 >>> ((8 : Int32) &&& 31)).toInt8.toInt32)))))] H := hP
  have hD : va_D A [(a1, .inr (0, [.ref a2, .int 18, .int 0, .ref a3, .ref a4, .ref a5, .ref a6, .ref a7, .ref a8, .ref a9, .ref a10, .int 0, .int 0])), (a2, .inl (k1, 65536, .inl (upd g4 (18 : Int32).toNatClampNeg (vp_nar .byte ((x1 >>> ((8 : Int32) &&& 31)).toInt8.toInt32)))))] := hD
  generalize upd g4 (18 : Int32).toNatClampNeg (vp_nar .byte ((x1 >>> ((8 : Int32) &&& 31)).toInt8.toInt32)) = g7 at hP hD
  refine lv_aload_n hx hb dc_SB_putBytes_20 rfl (lv_at hl 1 rfl) ?_
  refine lv_dup hx hb dc_SB_putBytes_21 rfl ?_
  refine va_get (D := (dC, dI)) (ci := 0) (v := .int 18) (C := "StrataBase") (T := tb_SB) (N := 13) hx hb hT in_SB hown hK hP 0 rfl rfl 1 (by decide) (hT _ wd_518) (fun _ h9 => h9) rfl dc_SB_putBytes_22 ?_
  refine lv_iconst (v := 1) hx hb dc_SB_putBytes_25 (by decide) ?_
  refine lv_iadd hx hb dc_SB_putBytes_26 ?_
  refine lv_topi (fun y8 e9 => ?_)
  obtain rfl : y8 = 19 := e9.trans (by decide)
  refine va_put (D := (dC, dI)) (ci := 0) (v := .int 19) (ty := .int) (C := "StrataBase") (T := tb_SB) (N := 13) hx hb hT in_SB ty_SB tk_SB nm_SB hown hK hP hD hS 0 rfl rfl 1 (by decide) (hT _ wd_518) (fun _ h9 => h9) rfl (by decide +kernel) rfl rfl (Nat.le_of_ble_eq_true rfl) dc_SB_putBytes_27 (fun H locs hP hD hS => ?_)
  have hP : va_P (dC, dI) vwCl [(a1, .inr (0, [.ref a2, .int 19, .int 0, .ref a3, .ref a4, .ref a5, .ref a6, .ref a7, .ref a8, .ref a9, .ref a10, .int 0, .int 0])), (a2, .inl (k1, 65536, .inl g7))] H := hP
  have hD : va_D A [(a1, .inr (0, [.ref a2, .int 19, .int 0, .ref a3, .ref a4, .ref a5, .ref a6, .ref a7, .ref a8, .ref a9, .ref a10, .int 0, .int 0])), (a2, .inl (k1, 65536, .inl g7))] := hD
  refine lv_iinc (k := 0) (v := 0) (lv' := [(2, .int 0), (0, .ref a1), (1, .int x1)]) hx hb dc_SB_putBytes_30 hl rfl (by decide) (by decide) rfl (fun ls hl => ?_)
  refine lv_goto (tgt := 3) hx hb dc_SB_putBytes_33 (by decide) ?_
  refine lv_iload_n hx hb dc_SB_putBytes_3 rfl (lv_at hl 0 rfl) ?_
  refine lv_if_lt (tgt := 36) hx hb dc_SB_putBytes_4 (by decide) (fun h9 => absurd h9 (by decide)) (fun _ => ?_)
  refine lv_aload_n hx hb dc_SB_putBytes_7 rfl (lv_at hl 1 rfl) ?_
  refine va_get (D := (dC, dI)) (ci := 0) (v := .ref a2) (C := "StrataBase") (T := tb_SB) (N := 13) hx hb hT in_SB hown hK hP 0 rfl rfl 0 (by decide) (hT _ wd_517) (fun _ h9 => h9) rfl dc_SB_putBytes_8 ?_
  refine lv_aload_n hx hb dc_SB_putBytes_11 rfl (lv_at hl 1 rfl) ?_
  refine va_get (D := (dC, dI)) (ci := 0) (v := .int 19) (C := "StrataBase") (T := tb_SB) (N := 13) hx hb hT in_SB hown hK hP 0 rfl rfl 1 (by decide) (hT _ wd_518) (fun _ h9 => h9) rfl dc_SB_putBytes_12 ?_
  refine lv_iload_n hx hb dc_SB_putBytes_15 rfl (lv_at hl 2 rfl) ?_
  refine lv_iload_n hx hb dc_SB_putBytes_16 rfl (lv_at hl 0 rfl) ?_
  refine lv_ishr hx hb dc_SB_putBytes_17 ?_
  refine lv_i2b (v := (x1 >>> ((0 : Int32) &&& 31)).toInt8.toInt32) hx hb dc_SB_putBytes_18 rfl ?_
  refine va_bast hx hb hK hP hD hS 1 0 rfl rfl (show vp_in (19 : Int32) 65536 from vp_in_nI (n := 19) (Nat.lt_of_lt_of_le (by decide : 19 < 20) (Nat.le_of_ble_eq_true rfl)) (Nat.lt_of_le_of_lt (Nat.le_of_ble_eq_true rfl) (by decide : 65536 < 2 ^ 31))) dc_SB_putBytes_19 (fun H locs hP hD hS => ?_)
  have hP : va_P (dC, dI) vwCl [(a1, .inr (0, [.ref a2, .int 19, .int 0, .ref a3, .ref a4, .ref a5, .ref a6, .ref a7, .ref a8, .ref a9, .ref a10, .int 0, .int 0])), (a2, .inl (k1, 65536, .inl (upd g7 (19 : Int32).toNatClampNeg (vp_nar .byte ((x1 >>> ((0 : Int32) &&& 31)).toInt8.toInt32)))))] H := hP
  have hD : va_D A [(a1, .inr (0, [.ref a2, .int 19, .int 0, .ref a3, .ref a4, .ref a5, .ref a6, .ref a7, .ref a8, .ref a9, .ref a10, .int 0, .int 0])), (a2, .inl (k1, 65536, .inl (upd g7 (19 : Int32).toNatClampNeg (vp_nar .byte ((x1 >>> ((0 : Int32) &&& 31)).toInt8.toInt32)))))] := hD
  generalize upd g7 (19 : Int32).toNatClampNeg (vp_nar .byte ((x1 >>> ((0 : Int32) &&& 31)).toInt8.toInt32)) = g10 at hP hD
  refine lv_aload_n hx hb dc_SB_putBytes_20 rfl (lv_at hl 1 rfl) ?_
  refine lv_dup hx hb dc_SB_putBytes_21 rfl ?_
  refine va_get (D := (dC, dI)) (ci := 0) (v := .int 19) (C := "StrataBase") (T := tb_SB) (N := 13) hx hb hT in_SB hown hK hP 0 rfl rfl 1 (by decide) (hT _ wd_518) (fun _ h9 => h9) rfl dc_SB_putBytes_22 ?_
  refine lv_iconst (v := 1) hx hb dc_SB_putBytes_25 (by decide) ?_
  refine lv_iadd hx hb dc_SB_putBytes_26 ?_
  refine lv_topi (fun y11 e12 => ?_)
  obtain rfl : y11 = 20 := e12.trans (by decide)
  refine va_put (D := (dC, dI)) (ci := 0) (v := .int 20) (ty := .int) (C := "StrataBase") (T := tb_SB) (N := 13) hx hb hT in_SB ty_SB tk_SB nm_SB hown hK hP hD hS 0 rfl rfl 1 (by decide) (hT _ wd_518) (fun _ h9 => h9) rfl (by decide +kernel) rfl rfl (Nat.le_of_ble_eq_true rfl) dc_SB_putBytes_27 (fun H locs hP hD hS => ?_)
  have hP : va_P (dC, dI) vwCl [(a1, .inr (0, [.ref a2, .int 20, .int 0, .ref a3, .ref a4, .ref a5, .ref a6, .ref a7, .ref a8, .ref a9, .ref a10, .int 0, .int 0])), (a2, .inl (k1, 65536, .inl g10))] H := hP
  have hD : va_D A [(a1, .inr (0, [.ref a2, .int 20, .int 0, .ref a3, .ref a4, .ref a5, .ref a6, .ref a7, .ref a8, .ref a9, .ref a10, .int 0, .int 0])), (a2, .inl (k1, 65536, .inl g10))] := hD
  refine lv_iinc (k := 0) (v := (-8)) (lv' := [(2, .int (-8)), (0, .ref a1), (1, .int x1)]) hx hb dc_SB_putBytes_30 hl rfl (by decide) (by decide) rfl (fun ls hl => ?_)
  refine lv_goto (tgt := 3) hx hb dc_SB_putBytes_33 (by decide) ?_
  refine lv_iload_n hx hb dc_SB_putBytes_3 rfl (lv_at hl 0 rfl) ?_
  refine lv_if_lt (tgt := 36) hx hb dc_SB_putBytes_4 (by decide) (fun _ => ?_) (fun h9 => absurd (by decide) h9)
  have hP9 := hP.sub (ws' := [(a1, .inr (0, [.ref a2, .int 20, .int 0, .ref a3, .ref a4, .ref a5, .ref a6, .ref a7, .ref a8, .ref a9, .ref a10, .int 0, .int 0])), (a2, .inl (k1, 65536, .inl g10))]) [0, 1] rfl
  have hD9 := hD.sub (ws' := [(a1, .inr (0, [.ref a2, .int 20, .int 0, .ref a3, .ref a4, .ref a5, .ref a6, .ref a7, .ref a8, .ref a9, .ref a10, .int 0, .int 0])), (a2, .inl (k1, 65536, .inl g10))]) [0, 1] (by decide) rfl
  have hK9 := hK.sub (tys' := [(k1, .byte)]) [0] rfl
  refine W.widen (k := 0) (n := 0) (Nat.le_of_ble_eq_true rfl) (Nat.le_of_ble_eq_true rfl) ?_
  exact W.vret hx hb hr (fun t ht hW => ⟨⟨(), rfl, trivial, g10, by rw [ht]; exact hP9, va_K.moved hW.alike hK9, hD9⟩, hS.F ht⟩) hS.2.2 dc_SB_putBytes_36

set_option maxHeartbeats 4000000 in
set_option maxRecDepth 100000 in
theorem c_SB_feed (l : Launch) (dC : Nat → ClassId) (dI : Nat → Nat → Nat) (h0 : Nat) (q7 : Nat) (q13 : Nat) (q24 : Nat) (q35 : Nat) (q47 : Nat) (q58 : Nat) (q69 : Nat) (q84 : Nat) (q95 : Nat) (p0 : Int32) (p1 : Int32) (p2 : Int32) (p3 : Int32) (p4 : Int32) (k7 : ClassId) (sz : Nat) : Met l my_SB_feed (Cond.code my_SB_feed cd_SB_feed 6 (some (.int)) :: tblG) ({ frames := 1, cells := 0, slots := 0, locals := 22 }) (va_Pc [.ref h0, .int p0, .int p1, .int p2, .int p3, .int p4] (fun U => U.heap.size = sz ∧ va_P (dC, dI) vwCl [(h0, .inr (0, [.ref q7, .int 0, .int 0, .ref q13, .ref q24, .ref q35, .ref q47, .ref q58, .ref q69, .ref q84, .ref q95, .int 0, .int 0])), (q7, .inl (k7, 65536, .inl (fun _ => 0)))] U.heap ∧ va_K (dC, dI) vwCl [(k7, .byte)] U ∧ va_D (fun _ => True) [(h0, .inr (0, [.ref q7, .int 0, .int 0, .ref q13, .ref q24, .ref q35, .ref q47, .ref q58, .ref q69, .ref q84, .ref q95, .int 0, .int 0])), (q7, .inl (k7, 65536, .inl (fun _ => 0)))])) (va_Qi (fun (r : Int32) (_ : Unit) => r = 20) (fun (_ : Unit) (t : State) => ∃ (u12 : Nat → Int32), va_P (dC, dI) vwCl [(h0, .inr (0, [.ref q7, .int 20, .int 0, .ref q13, .ref q24, .ref q35, .ref q47, .ref q58, .ref q69, .ref q84, .ref q95, .int 0, .int 0])), (q7, .inl (k7, 65536, .inl u12))] t.heap ∧ va_K (dC, dI) vwCl [(k7, .byte)] t ∧ va_D (va_A [(h0, .inr (0, [.ref q7, .int 0, .int 0, .ref q13, .ref q24, .ref q35, .ref q47, .ref q58, .ref q69, .ref q84, .ref q95, .int 0, .int 0])), (q7, .inl (k7, 65536, .inl (fun _ => 0)))] sz) [(h0, .inr (0, [.ref q7, .int 20, .int 0, .ref q13, .ref q24, .ref q35, .ref q47, .ref q58, .ref q69, .ref q84, .ref q95, .int 0, .int 0])), (q7, .inl (k7, 65536, .inl u12))]) (va_A [(h0, .inr (0, [.ref q7, .int 0, .int 0, .ref q13, .ref q24, .ref q35, .ref q47, .ref q58, .ref q69, .ref q84, .ref q95, .int 0, .int 0])), (q7, .inl (k7, 65536, .inl (fun _ => 0)))] sz)) 0 0 (va_A [(h0, .inr (0, [.ref q7, .int 0, .int 0, .ref q13, .ref q24, .ref q35, .ref q47, .ref q58, .ref q69, .ref q84, .ref q95, .int 0, .int 0])), (q7, .inl (k7, 65536, .inl (fun _ => 0)))] sz) := by
  refine Met.ofW (cc := cd_SB_feed) (maxL := 6) (ret := (some (.int))) (by decide) rfl ?_
  intro p e s m args below meth c s₁ B hml hv
  obtain ⟨rfl, hsz, hP, hK, hD0⟩ := hv
  have hx := B.exec
  have hb := B.bytes
  have hr := B.returns
  have hT : ∀ w ∈ tblG, w.before _ s = true := fun w h => atoms_spec (ws := (Cond.code my_SB_feed cd_SB_feed 6 (some (.int)) :: tblG)) B.pre w (List.mem_cons_of_mem _ h)
  have hown : s.vm.findClass "StrataBase" = some m.cls := findClass_of_methodNamed B.named
  have hlocks := B.notSynchronized
  subst hsz
  have hD := hD0.self (sz := s.heap.size)
  generalize hAe : va_A [(h0, .inr (0, [.ref q7, .int 0, .int 0, .ref q13, .ref q24, .ref q35, .ref q47, .ref q58, .ref q69, .ref q84, .ref q95, .int 0, .int 0])), (q7, .inl (k7, 65536, .inl (fun _ => 0)))] s.heap.size = A at hD ⊢
  have hA : ∀ q : Nat, s.heap.size ≤ q → A q := fun q h => by rw [← hAe]; exact Or.inr h
  have hS : va_S A s.heap s.heap [] := va_S.rf
  have hl := lv_entry ([.ref h0, .int p0, .int p1, .int p2, .int p3, .int p4]) (n := 6) (Nat.le_of_ble_eq_true rfl)
  rw [lg_entry_eq]
  generalize (lg_sl ([.ref h0, .int p0, .int p1, .int p2, .int p3, .int p4]) ++ List.replicate (6 - (lg_sl ([.ref h0, .int p0, .int p1, .int p2, .int p3, .int p4])).length) Slot.unset).toArray = ls at hl ⊢
  have hl : lv_has ls 6 [(0, .ref h0), (1, .int p0), (2, .int p1), (3, .int p2), (4, .int p3), (5, .int p4)] := hl
  refine lv_aload_n hx hb dc_SB_feed_0 rfl (lv_at hl 0 rfl) ?_
  refine va_get (D := (dC, dI)) (ci := 0) (v := .int 0) (C := "StrataBase") (T := tb_SB) (N := 13) hx hb hT in_SB hown hK hP 0 rfl rfl 1 (by decide) (hT _ wd_518) (fun _ h9 => h9) rfl dc_SB_feed_1 ?_
  refine lv_bipush (v := 20) hx hb dc_SB_feed_4 (by decide) ?_
  refine lv_iadd hx hb dc_SB_feed_6 ?_
  refine lv_topi (fun y1 e2 => ?_)
  obtain rfl : y1 = 20 := e2.trans (by decide)
  refine lv_ldc (v := 65536) hx hb hown (hT _ wd_33) dc_SB_feed_7 ?_
  refine lv_icmp_le (tgt := 20) hx hb dc_SB_feed_9 (by decide) (fun _ => ?_) (fun h9 => absurd (by decide) h9)
  refine lv_aload_n hx hb dc_SB_feed_20 rfl (lv_at hl 0 rfl) ?_
  refine lv_iload_n hx hb dc_SB_feed_21 rfl (lv_at hl 1 rfl) ?_
  have hPc := hP.sub (ws' := [(h0, .inr (0, [.ref q7, .int 0, .int 0, .ref q13, .ref q24, .ref q35, .ref q47, .ref q58, .ref q69, .ref q84, .ref q95, .int 0, .int 0])), (q7, .inl (k7, 65536, .inl (fun _ => 0)))]) [0, 1] rfl
  have hDc := hD.sub (ws' := [(h0, .inr (0, [.ref q7, .int 0, .int 0, .ref q13, .ref q24, .ref q35, .ref q47, .ref q58, .ref q69, .ref q84, .ref q95, .int 0, .int 0])), (q7, .inl (k7, 65536, .inl (fun _ => 0)))]) [0, 1] (by decide) rfl
  have hKc := hK.sub (tys' := [(k7, .byte)]) [0] rfl
  have hFc := va_free (wc := [(h0, .inr (0, [.ref q7, .int 0, .int 0, .ref q13, .ref q24, .ref q35, .ref q47, .ref q58, .ref q69, .ref q84, .ref q95, .int 0, .int 0])), (q7, .inl (k7, 65536, .inl (fun _ => 0)))]) hD hS hA [0, 1] rfl
  refine va_callv (va_runV (As := [.int p0]) (rest := []) ⟨hx, hb, hml, hown, hT⟩ (c_SB_putBytes_1 l dC dI h0 q7 q13 q24 q35 q47 q58 q69 q84 q95 p0 k7 s.heap.size) (cwV 1 hT (gd_V wd_986 wd_988 sl_SB_putBytes wd_1 wd_989) rfl rfl rfl (by decide +kernel) ⟨Nat.le_of_ble_eq_true rfl, Nat.le_of_ble_eq_true rfl⟩) ⟨fun a U g mk q => by obtain ⟨q0, q1, qP, qK, qD⟩ := q; exact ⟨q0, q1, qP, va_K.moved (u := U) (U := U.calling g mk a) (Vm.Alike.refl U.vm) qK, qD⟩, va_recv hK hP (q0 := 0) (ci := 0) rfl rfl, fun U hU hW => ⟨rfl, by rw [hU], by rw [hU]; exact hPc, va_K.moved hW.alike hKc, hDc.weaken (fun _ _ _ _ => trivial)⟩⟩ rfl rfl hl.1 rfl (lv_room (Nat.le_of_ble_eq_true rfl)) dc_SB_feed_22 ⟨(Nat.le_of_ble_eq_true rfl), (Nat.le_of_ble_eq_true rfl)⟩) hS (fun q _ h => hFc q h) hFc (fun _ t H1 locs ht hvm hr9 hB hz1 hk1 hS => ?_)
  obtain ⟨u4, hP1, hK1, hD1⟩ := hB
  rw [ht] at hP1
  have hK1 := va_K.moved hvm.symm hK1
  obtain ⟨hP, hD⟩ := va_join (wr := []) (w1 := [(h0, .inr (0, [.ref q7, .int 4, .int 0, .ref q13, .ref q24, .ref q35, .ref q47, .ref q58, .ref q69, .ref q84, .ref q95, .int 0, .int 0])), (q7, .inl (k7, 65536, .inl u4))]) hP hD [0, 1] [] rfl rfl (by decide) (by decide) hk1 hFc hP1 hD1
  have hK := (hK.sub (tys' := []) [] rfl).app hK1
  generalize H1 = H at hP hS ⊢
  have hP : va_P (dC, dI) vwCl [(h0, .inr (0, [.ref q7, .int 4, .int 0, .ref q13, .ref q24, .ref q35, .ref q47, .ref q58, .ref q69, .ref q84, .ref q95, .int 0, .int 0])), (q7, .inl (k7, 65536, .inl u4))] H := hP
  have hD : va_D A [(h0, .inr (0, [.ref q7, .int 4, .int 0, .ref q13, .ref q24, .ref q35, .ref q47, .ref q58, .ref q69, .ref q84, .ref q95, .int 0, .int 0])), (q7, .inl (k7, 65536, .inl u4))] := hD
  have hK : va_K (dC, dI) vwCl [(k7, .byte)] s := hK
  refine lv_aload_n hx hb dc_SB_feed_25 rfl (lv_at hl 0 rfl) ?_
  refine lv_iload_n hx hb dc_SB_feed_26 rfl (lv_at hl 2 rfl) ?_
  have hPc := hP.sub (ws' := [(h0, .inr (0, [.ref q7, .int 4, .int 0, .ref q13, .ref q24, .ref q35, .ref q47, .ref q58, .ref q69, .ref q84, .ref q95, .int 0, .int 0])), (q7, .inl (k7, 65536, .inl u4))]) [0, 1] rfl
  have hDc := hD.sub (ws' := [(h0, .inr (0, [.ref q7, .int 4, .int 0, .ref q13, .ref q24, .ref q35, .ref q47, .ref q58, .ref q69, .ref q84, .ref q95, .int 0, .int 0])), (q7, .inl (k7, 65536, .inl u4))]) [0, 1] (by decide) rfl
  have hKc := hK.sub (tys' := [(k7, .byte)]) [0] rfl
  have hFc := va_free (wc := [(h0, .inr (0, [.ref q7, .int 4, .int 0, .ref q13, .ref q24, .ref q35, .ref q47, .ref q58, .ref q69, .ref q84, .ref q95, .int 0, .int 0])), (q7, .inl (k7, 65536, .inl u4))]) hD hS hA [0, 1] rfl
  refine va_callv (va_runV (As := [.int p1]) (rest := []) ⟨hx, hb, hml, hown, hT⟩ (c_SB_putBytes_2 l dC dI h0 q7 q13 q24 q35 q47 q58 q69 q84 q95 p1 u4 k7 H.size) (cwV 1 hT (gd_V wd_986 wd_988 sl_SB_putBytes wd_1 wd_989) rfl rfl rfl (by decide +kernel) ⟨Nat.le_of_ble_eq_true rfl, Nat.le_of_ble_eq_true rfl⟩) ⟨fun a U g mk q => by obtain ⟨q0, q1, qP, qK, qD⟩ := q; exact ⟨q0, q1, qP, va_K.moved (u := U) (U := U.calling g mk a) (Vm.Alike.refl U.vm) qK, qD⟩, va_recv hK hP (q0 := 0) (ci := 0) rfl rfl, fun U hU hW => ⟨rfl, by rw [hU], by rw [hU]; exact hPc, va_K.moved hW.alike hKc, hDc.weaken (fun _ _ _ _ => trivial)⟩⟩ rfl rfl hl.1 rfl (lv_room (Nat.le_of_ble_eq_true rfl)) dc_SB_feed_27 ⟨(Nat.le_of_ble_eq_true rfl), (Nat.le_of_ble_eq_true rfl)⟩) hS (fun q _ h => hFc q h) hFc (fun _ t H1 locs ht hvm hr9 hB hz1 hk1 hS => ?_)
  obtain ⟨u6, hP1, hK1, hD1⟩ := hB
  rw [ht] at hP1
  have hK1 := va_K.moved hvm.symm hK1
  obtain ⟨hP, hD⟩ := va_join (wr := []) (w1 := [(h0, .inr (0, [.ref q7, .int 8, .int 0, .ref q13, .ref q24, .ref q35, .ref q47, .ref q58, .ref q69, .ref q84, .ref q95, .int 0, .int 0])), (q7, .inl (k7, 65536, .inl u6))]) hP hD [0, 1] [] rfl rfl (by decide) (by decide) hk1 hFc hP1 hD1
  have hK := (hK.sub (tys' := []) [] rfl).app hK1
  generalize H1 = H at hP hS ⊢
  have hP : va_P (dC, dI) vwCl [(h0, .inr (0, [.ref q7, .int 8, .int 0, .ref q13, .ref q24, .ref q35, .ref q47, .ref q58, .ref q69, .ref q84, .ref q95, .int 0, .int 0])), (q7, .inl (k7, 65536, .inl u6))] H := hP
  have hD : va_D A [(h0, .inr (0, [.ref q7, .int 8, .int 0, .ref q13, .ref q24, .ref q35, .ref q47, .ref q58, .ref q69, .ref q84, .ref q95, .int 0, .int 0])), (q7, .inl (k7, 65536, .inl u6))] := hD
  have hK : va_K (dC, dI) vwCl [(k7, .byte)] s := hK
  refine lv_aload_n hx hb dc_SB_feed_30 rfl (lv_at hl 0 rfl) ?_
  refine lv_iload_n hx hb dc_SB_feed_31 rfl (lv_at hl 3 rfl) ?_
  have hPc := hP.sub (ws' := [(h0, .inr (0, [.ref q7, .int 8, .int 0, .ref q13, .ref q24, .ref q35, .ref q47, .ref q58, .ref q69, .ref q84, .ref q95, .int 0, .int 0])), (q7, .inl (k7, 65536, .inl u6))]) [0, 1] rfl
  have hDc := hD.sub (ws' := [(h0, .inr (0, [.ref q7, .int 8, .int 0, .ref q13, .ref q24, .ref q35, .ref q47, .ref q58, .ref q69, .ref q84, .ref q95, .int 0, .int 0])), (q7, .inl (k7, 65536, .inl u6))]) [0, 1] (by decide) rfl
  have hKc := hK.sub (tys' := [(k7, .byte)]) [0] rfl
  have hFc := va_free (wc := [(h0, .inr (0, [.ref q7, .int 8, .int 0, .ref q13, .ref q24, .ref q35, .ref q47, .ref q58, .ref q69, .ref q84, .ref q95, .int 0, .int 0])), (q7, .inl (k7, 65536, .inl u6))]) hD hS hA [0, 1] rfl
  refine va_callv (va_runV (As := [.int p2]) (rest := []) ⟨hx, hb, hml, hown, hT⟩ (c_SB_putBytes_3 l dC dI h0 q7 q13 q24 q35 q47 q58 q69 q84 q95 p2 u6 k7 H.size) (cwV 1 hT (gd_V wd_986 wd_988 sl_SB_putBytes wd_1 wd_989) rfl rfl rfl (by decide +kernel) ⟨Nat.le_of_ble_eq_true rfl, Nat.le_of_ble_eq_true rfl⟩) ⟨fun a U g mk q => by obtain ⟨q0, q1, qP, qK, qD⟩ := q; exact ⟨q0, q1, qP, va_K.moved (u := U) (U := U.calling g mk a) (Vm.Alike.refl U.vm) qK, qD⟩, va_recv hK hP (q0 := 0) (ci := 0) rfl rfl, fun U hU hW => ⟨rfl, by rw [hU], by rw [hU]; exact hPc, va_K.moved hW.alike hKc, hDc.weaken (fun _ _ _ _ => trivial)⟩⟩ rfl rfl hl.1 rfl (lv_room (Nat.le_of_ble_eq_true rfl)) dc_SB_feed_32 ⟨(Nat.le_of_ble_eq_true rfl), (Nat.le_of_ble_eq_true rfl)⟩) hS (fun q _ h => hFc q h) hFc (fun _ t H1 locs ht hvm hr9 hB hz1 hk1 hS => ?_)
  obtain ⟨u8, hP1, hK1, hD1⟩ := hB
  rw [ht] at hP1
  have hK1 := va_K.moved hvm.symm hK1
  obtain ⟨hP, hD⟩ := va_join (wr := []) (w1 := [(h0, .inr (0, [.ref q7, .int 12, .int 0, .ref q13, .ref q24, .ref q35, .ref q47, .ref q58, .ref q69, .ref q84, .ref q95, .int 0, .int 0])), (q7, .inl (k7, 65536, .inl u8))]) hP hD [0, 1] [] rfl rfl (by decide) (by decide) hk1 hFc hP1 hD1
  have hK := (hK.sub (tys' := []) [] rfl).app hK1
  generalize H1 = H at hP hS ⊢
  have hP : va_P (dC, dI) vwCl [(h0, .inr (0, [.ref q7, .int 12, .int 0, .ref q13, .ref q24, .ref q35, .ref q47, .ref q58, .ref q69, .ref q84, .ref q95, .int 0, .int 0])), (q7, .inl (k7, 65536, .inl u8))] H := hP
  have hD : va_D A [(h0, .inr (0, [.ref q7, .int 12, .int 0, .ref q13, .ref q24, .ref q35, .ref q47, .ref q58, .ref q69, .ref q84, .ref q95, .int 0, .int 0])), (q7, .inl (k7, 65536, .inl u8))] := hD
  have hK : va_K (dC, dI) vwCl [(k7, .byte)] s := hK
  refine lv_aload_n hx hb dc_SB_feed_35 rfl (lv_at hl 0 rfl) ?_
  refine lv_iload hx hb dc_SB_feed_36 (lv_at hl 4 rfl) ?_
  have hPc := hP.sub (ws' := [(h0, .inr (0, [.ref q7, .int 12, .int 0, .ref q13, .ref q24, .ref q35, .ref q47, .ref q58, .ref q69, .ref q84, .ref q95, .int 0, .int 0])), (q7, .inl (k7, 65536, .inl u8))]) [0, 1] rfl
  have hDc := hD.sub (ws' := [(h0, .inr (0, [.ref q7, .int 12, .int 0, .ref q13, .ref q24, .ref q35, .ref q47, .ref q58, .ref q69, .ref q84, .ref q95, .int 0, .int 0])), (q7, .inl (k7, 65536, .inl u8))]) [0, 1] (by decide) rfl
  have hKc := hK.sub (tys' := [(k7, .byte)]) [0] rfl
  have hFc := va_free (wc := [(h0, .inr (0, [.ref q7, .int 12, .int 0, .ref q13, .ref q24, .ref q35, .ref q47, .ref q58, .ref q69, .ref q84, .ref q95, .int 0, .int 0])), (q7, .inl (k7, 65536, .inl u8))]) hD hS hA [0, 1] rfl
  refine va_callv (va_runV (As := [.int p3]) (rest := []) ⟨hx, hb, hml, hown, hT⟩ (c_SB_putBytes_4 l dC dI h0 q7 q13 q24 q35 q47 q58 q69 q84 q95 p3 u8 k7 H.size) (cwV 1 hT (gd_V wd_986 wd_988 sl_SB_putBytes wd_1 wd_989) rfl rfl rfl (by decide +kernel) ⟨Nat.le_of_ble_eq_true rfl, Nat.le_of_ble_eq_true rfl⟩) ⟨fun a U g mk q => by obtain ⟨q0, q1, qP, qK, qD⟩ := q; exact ⟨q0, q1, qP, va_K.moved (u := U) (U := U.calling g mk a) (Vm.Alike.refl U.vm) qK, qD⟩, va_recv hK hP (q0 := 0) (ci := 0) rfl rfl, fun U hU hW => ⟨rfl, by rw [hU], by rw [hU]; exact hPc, va_K.moved hW.alike hKc, hDc.weaken (fun _ _ _ _ => trivial)⟩⟩ rfl rfl hl.1 rfl (lv_room (Nat.le_of_ble_eq_true rfl)) dc_SB_feed_38 ⟨(Nat.le_of_ble_eq_true rfl), (Nat.le_of_ble_eq_true rfl)⟩) hS (fun q _ h => hFc q h) hFc (fun _ t H1 locs ht hvm hr9 hB hz1 hk1 hS => ?_)
  obtain ⟨u10, hP1, hK1, hD1⟩ := hB
  rw [ht] at hP1
  have hK1 := va_K.moved hvm.symm hK1
  obtain ⟨hP, hD⟩ := va_join (wr := []) (w1 := [(h0, .inr (0, [.ref q7, .int 16, .int 0, .ref q13, .ref q24, .ref q35, .ref q47, .ref q58, .ref q69, .ref q84, .ref q95, .int 0, .int 0])), (q7, .inl (k7, 65536, .inl u10))]) hP hD [0, 1] [] rfl rfl (by decide) (by decide) hk1 hFc hP1 hD1
  have hK := (hK.sub (tys' := []) [] rfl).app hK1
  generalize H1 = H at hP hS ⊢
  have hP : va_P (dC, dI) vwCl [(h0, .inr (0, [.ref q7, .int 16, .int 0, .ref q13, .ref q24, .ref q35, .ref q47, .ref q58, .ref q69, .ref q84, .ref q95, .int 0, .int 0])), (q7, .inl (k7, 65536, .inl u10))] H := hP
  have hD : va_D A [(h0, .inr (0, [.ref q7, .int 16, .int 0, .ref q13, .ref q24, .ref q35, .ref q47, .ref q58, .ref q69, .ref q84, .ref q95, .int 0, .int 0])), (q7, .inl (k7, 65536, .inl u10))] := hD
  have hK : va_K (dC, dI) vwCl [(k7, .byte)] s := hK
  refine lv_aload_n hx hb dc_SB_feed_41 rfl (lv_at hl 0 rfl) ?_
  refine lv_iload hx hb dc_SB_feed_42 (lv_at hl 5 rfl) ?_
  have hPc := hP.sub (ws' := [(h0, .inr (0, [.ref q7, .int 16, .int 0, .ref q13, .ref q24, .ref q35, .ref q47, .ref q58, .ref q69, .ref q84, .ref q95, .int 0, .int 0])), (q7, .inl (k7, 65536, .inl u10))]) [0, 1] rfl
  have hDc := hD.sub (ws' := [(h0, .inr (0, [.ref q7, .int 16, .int 0, .ref q13, .ref q24, .ref q35, .ref q47, .ref q58, .ref q69, .ref q84, .ref q95, .int 0, .int 0])), (q7, .inl (k7, 65536, .inl u10))]) [0, 1] (by decide) rfl
  have hKc := hK.sub (tys' := [(k7, .byte)]) [0] rfl
  have hFc := va_free (wc := [(h0, .inr (0, [.ref q7, .int 16, .int 0, .ref q13, .ref q24, .ref q35, .ref q47, .ref q58, .ref q69, .ref q84, .ref q95, .int 0, .int 0])), (q7, .inl (k7, 65536, .inl u10))]) hD hS hA [0, 1] rfl
  refine va_callv (va_runV (As := [.int p4]) (rest := []) ⟨hx, hb, hml, hown, hT⟩ (c_SB_putBytes_5 l dC dI h0 q7 q13 q24 q35 q47 q58 q69 q84 q95 p4 u10 k7 H.size) (cwV 1 hT (gd_V wd_986 wd_988 sl_SB_putBytes wd_1 wd_989) rfl rfl rfl (by decide +kernel) ⟨Nat.le_of_ble_eq_true rfl, Nat.le_of_ble_eq_true rfl⟩) ⟨fun a U g mk q => by obtain ⟨q0, q1, qP, qK, qD⟩ := q; exact ⟨q0, q1, qP, va_K.moved (u := U) (U := U.calling g mk a) (Vm.Alike.refl U.vm) qK, qD⟩, va_recv hK hP (q0 := 0) (ci := 0) rfl rfl, fun U hU hW => ⟨rfl, by rw [hU], by rw [hU]; exact hPc, va_K.moved hW.alike hKc, hDc.weaken (fun _ _ _ _ => trivial)⟩⟩ rfl rfl hl.1 rfl (lv_room (Nat.le_of_ble_eq_true rfl)) dc_SB_feed_44 ⟨(Nat.le_of_ble_eq_true rfl), (Nat.le_of_ble_eq_true rfl)⟩) hS (fun q _ h => hFc q h) hFc (fun _ t H1 locs ht hvm hr9 hB hz1 hk1 hS => ?_)
  obtain ⟨u12, hP1, hK1, hD1⟩ := hB
  rw [ht] at hP1
  have hK1 := va_K.moved hvm.symm hK1
  obtain ⟨hP, hD⟩ := va_join (wr := []) (w1 := [(h0, .inr (0, [.ref q7, .int 20, .int 0, .ref q13, .ref q24, .ref q35, .ref q47, .ref q58, .ref q69, .ref q84, .ref q95, .int 0, .int 0])), (q7, .inl (k7, 65536, .inl u12))]) hP hD [0, 1] [] rfl rfl (by decide) (by decide) hk1 hFc hP1 hD1
  have hK := (hK.sub (tys' := []) [] rfl).app hK1
  generalize H1 = H at hP hS ⊢
  have hP : va_P (dC, dI) vwCl [(h0, .inr (0, [.ref q7, .int 20, .int 0, .ref q13, .ref q24, .ref q35, .ref q47, .ref q58, .ref q69, .ref q84, .ref q95, .int 0, .int 0])), (q7, .inl (k7, 65536, .inl u12))] H := hP
  have hD : va_D A [(h0, .inr (0, [.ref q7, .int 20, .int 0, .ref q13, .ref q24, .ref q35, .ref q47, .ref q58, .ref q69, .ref q84, .ref q95, .int 0, .int 0])), (q7, .inl (k7, 65536, .inl u12))] := hD
  have hK : va_K (dC, dI) vwCl [(k7, .byte)] s := hK
  refine lv_aload_n hx hb dc_SB_feed_47 rfl (lv_at hl 0 rfl) ?_
  refine va_get (D := (dC, dI)) (ci := 0) (v := .int 20) (C := "StrataBase") (T := tb_SB) (N := 13) hx hb hT in_SB hown hK hP 0 rfl rfl 1 (by decide) (hT _ wd_518) (fun _ h9 => h9) rfl dc_SB_feed_48 ?_
  have hP9 := hP.sub (ws' := [(h0, .inr (0, [.ref q7, .int 20, .int 0, .ref q13, .ref q24, .ref q35, .ref q47, .ref q58, .ref q69, .ref q84, .ref q95, .int 0, .int 0])), (q7, .inl (k7, 65536, .inl u12))]) [0, 1] rfl
  have hD9 := hD.sub (ws' := [(h0, .inr (0, [.ref q7, .int 20, .int 0, .ref q13, .ref q24, .ref q35, .ref q47, .ref q58, .ref q69, .ref q84, .ref q95, .int 0, .int 0])), (q7, .inl (k7, 65536, .inl u12))]) [0, 1] (by decide) rfl
  have hK9 := hK.sub (tys' := [(k7, .byte)]) [0] rfl
  refine W.widen (k := 0) (n := 0) (Nat.le_of_ble_eq_true rfl) (Nat.le_of_ble_eq_true rfl) ?_
  exact W.iret (v := 20) hx hb hr (fun t ht hW => ⟨⟨20, (), rfl, rfl, u12, by rw [ht]; exact hP9, va_K.moved hW.alike hK9, hD9⟩, hS.F ht⟩) hS.2.2 dc_SB_feed_51
